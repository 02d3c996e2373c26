set_option maxHeartbeats 4000000 in
set_option maxRecDepth 100000 in
theorem m_X10_room (l : Launch) (D : va_G) (cI cJ cB cP cM cZ : ClassId) (h0 : Nat) (h_s : Nat) (h_paceAt : Nat) (h_kindOf : Nat) (Fh : Nat → Value) (x_lineTime : Int32) (x_linePace : Int32) (x_inside : Int32) (x_late : Int32) (x_seed : Int32) (x_kicks : Int32) (f_s : Nat → Int32) (f_paceAt : Nat → Int32) (f_kindOf : Nat → Int32) (sz : Nat) (e_s : Fh 6 = .ref h_s) (e_paceAt : Fh 25 = .ref h_paceAt) (e_kindOf : Fh 26 = .ref h_kindOf) (e_lineTime : Fh 27 = .int x_lineTime) (e_linePace : Fh 28 = .int x_linePace) (e_inside : Fh 29 = .int x_inside) (i_x_inside : IR 0 15 x_inside) (e_late : Fh 30 = .int x_late) (i_x_late : IR 0 15 x_late) (e_seed : Fh 31 = .int x_seed) (e_kicks : Fh 32 = .int x_kicks) (i_x_kicks : IR 0 1 x_kicks) (s_s_K0 : KW 0 f_s) (s_s_0 : SG 0 0 0 40 f_s) (s_s_105 : SG 105 108 0 11 f_s) (s_s_114 : SG 114 114 0 5 f_s) (s_s_130 : SG 130 133 0 11 f_s) (s_s_139 : SG 139 139 0 5 f_s) (s_s_153 : SG 153 153 0 44 f_s) (s_s_44 : SG 44 55 0 9 f_s) (s_s_5 : SG 5 5 0 12 f_s) (s_s_6 : SG 6 6 0 12 f_s) (s_s_7 : SG 7 7 0 6 f_s) : CI l yX10_room cX10_room 2 (some .int) { frames := 4, cells := 0, slots := 0, locals := 94 } (GG D cI cJ cB cP cM cZ) D [(h0, .inr (10, vL 67 Fh)), (h_s, .inl (cI, 335, .inl f_s)), (h_paceAt, .inl (cI, 40, .inl f_paceAt)), (h_kindOf, .inl (cI, 4, .inl f_kindOf))] sz [.ref h0] (fun (r : Int32) (u : va_W) => ∃ (Gh : Nat → Value) (y_lineTime : Int32) (y_linePace : Int32) (y_inside : Int32) (y_late : Int32) (y_seed : Int32) (g_paceAt : Nat → Int32) (g_kindOf : Nat → Int32), SAME [0, 27, 28, 29, 30, 31] Fh Gh ∧ Gh 0 = .int 0 ∧ Gh 27 = .int y_lineTime ∧ Gh 28 = .int y_linePace ∧ Gh 29 = .int y_inside ∧ IR 0 15 y_inside ∧ Gh 30 = .int y_late ∧ IR 0 15 y_late ∧ Gh 31 = .int y_seed ∧ IR (-1) 99 r ∧ u = [(h0, .inr (10, vL 67 Gh)), (h_s, .inl (cI, 335, .inl f_s)), (h_paceAt, .inl (cI, 40, .inl g_paceAt)), (h_kindOf, .inl (cI, 4, .inl g_kindOf))]) := by
  refine CI_mk (by decide) (Nat.le_of_ble_eq_true rfl) ?_
  intro p e s m below meth c A ls E hAe hG hsz hP hD hA hS hl
  obtain ⟨hx, hb, hr, hw, hown, hlocks, hml, hnm⟩ := E
  have hK := hG.1
  have i_x_inside : 0 ≤ x_inside.toInt ∧ x_inside.toInt ≤ 15 := i_x_inside
  have i_x_late : 0 ≤ x_late.toInt ∧ x_late.toInt ≤ 15 := i_x_late
  have i_x_kicks : 0 ≤ x_kicks.toInt ∧ x_kicks.toInt ≤ 1 := i_x_kicks
  have hl : lv_has ls 2 [(0, .ref h0)] := hl
  refine lv_aload_n hx hb dX10_room_0 rfl (lv_at hl 0 rfl) ?_
  refine lv_iconst (v := 0) hx hb dX10_room_1 (by decide) ?_
  refine put_f (D := D) (ci := 10) (v := .int 0) (ty := .int) (C := RX10) (T := TX10) (N := 67) hx hb hw inAX10 tyX10 tyX10_ok nmX10 hown hK hP hD hS 0 rfl rfl 0 (by decide) (hw _ q_1261) (fun _ h9 => h9) rfl (by decide +kernel) rfl rfl dX10_room_2 (fun H locs F1 eF1 hP hD hS => ?_)
  have hP : va_P D vwCl [(h0, .inr (10, vL 67 F1)), (h_s, .inl (cI, 335, .inl f_s)), (h_paceAt, .inl (cI, 40, .inl f_paceAt)), (h_kindOf, .inl (cI, 4, .inl f_kindOf))] H := hP
  have hD : va_D A [(h0, .inr (10, vL 67 F1)), (h_s, .inl (cI, 335, .inl f_s)), (h_paceAt, .inl (cI, 40, .inl f_paceAt)), (h_kindOf, .inl (cI, 4, .inl f_kindOf))] := hD
  refine lv_aload_n hx hb dX10_room_5 rfl (lv_at hl 0 rfl) ?_
  have n2 : F1 6 = .ref h_s := (get_ne eF1 (by decide) e_s)
  refine call_Vi (wr := [(h_paceAt, .inl (cI, 40, .inl f_paceAt)), (h_kindOf, .inl (cI, 4, .inl f_kindOf))]) (As := []) (rest := []) hx hb hml hown hw (m_X10_hasCrew l D cI cJ cB cP cM cZ h0 h_s F1 f_s _ n2 s_s_K0 s_s_0 s_s_105 s_s_114 s_s_130 s_s_139 s_s_153 s_s_44 s_s_5 s_s_6 s_s_7) wV_X10_281_X10_hasCrew dX10_room_6 hK hP hD hS hA [0, 1] [2, 3] rfl rfl (by decide) (by decide) (by decide) 0 10 rfl rfl GG.fb hG.at hl.1 rfl (Nat.le_of_ble_eq_true rfl) ⟨(Nat.le_of_ble_eq_true rfl), (Nat.le_of_ble_eq_true rfl)⟩ ⟨(Nat.le_of_ble_eq_true rfl), (Nat.le_of_ble_eq_true rfl)⟩ (fun r3 u H locs hp hP hD hS => ?_)
  rcases hp with ⟨rfl, rfl⟩ | ⟨rfl, rfl⟩
  · have hP : va_P D vwCl [(h_paceAt, .inl (cI, 40, .inl f_paceAt)), (h_kindOf, .inl (cI, 4, .inl f_kindOf)), (h0, .inr (10, vL 67 F1)), (h_s, .inl (cI, 335, .inl f_s))] H := hP
    have hD : va_D A [(h_paceAt, .inl (cI, 40, .inl f_paceAt)), (h_kindOf, .inl (cI, 4, .inl f_kindOf)), (h0, .inr (10, vL 67 F1)), (h_s, .inl (cI, 335, .inl f_s))] := hD
    refine W.widen (k := 0) (n := 0) (Nat.le_of_ble_eq_true rfl) (Nat.le_of_ble_eq_true rfl) ?_
    refine lv_if_ne (tgt := 14) hx hb dX10_room_9 (by decide) (fun g => absurd (by decide) g) (fun _ => ?_)
    refine lv_iconst (v := (-1)) hx hb dX10_room_12 (by decide) ?_
    exact ret_i (v := (-1)) hx hb hr hlocks hS (hP.sub (ws' := [(h0, .inr (10, vL 67 F1)), (h_s, .inl (cI, 335, .inl f_s)), (h_paceAt, .inl (cI, 40, .inl f_paceAt)), (h_kindOf, .inl (cI, 4, .inl f_kindOf))]) [2, 3, 0, 1] rfl) (hD.sub (ws' := [(h0, .inr (10, vL 67 F1)), (h_s, .inl (cI, 335, .inl f_s)), (h_paceAt, .inl (cI, 40, .inl f_paceAt)), (h_kindOf, .inl (cI, 4, .inl f_kindOf))]) [2, 3, 0, 1] (by decide) rfl) dX10_room_13 rfl (Nat.le_of_ble_eq_true rfl) (Nat.le_of_ble_eq_true rfl) ⟨F1, x_lineTime, x_linePace, x_inside, x_late, x_seed, f_paceAt, f_kindOf, (SAME.up eF1 SAME.rf (by decide)), (get_eq eF1), (get_ne eF1 (by decide) e_lineTime), (get_ne eF1 (by decide) e_linePace), (get_ne eF1 (by decide) e_inside), i_x_inside, (get_ne eF1 (by decide) e_late), i_x_late, (get_ne eF1 (by decide) e_seed), (show (-1) ≤ ((-1) : Int32).toInt ∧ ((-1) : Int32).toInt ≤ 99 by decide), rfl⟩
  · have hP : va_P D vwCl [(h_paceAt, .inl (cI, 40, .inl f_paceAt)), (h_kindOf, .inl (cI, 4, .inl f_kindOf)), (h0, .inr (10, vL 67 F1)), (h_s, .inl (cI, 335, .inl f_s))] H := hP
    have hD : va_D A [(h_paceAt, .inl (cI, 40, .inl f_paceAt)), (h_kindOf, .inl (cI, 4, .inl f_kindOf)), (h0, .inr (10, vL 67 F1)), (h_s, .inl (cI, 335, .inl f_s))] := hD
    refine W.widen (k := 0) (n := 0) (Nat.le_of_ble_eq_true rfl) (Nat.le_of_ble_eq_true rfl) ?_
    refine lv_if_ne (tgt := 14) hx hb dX10_room_9 (by decide) (fun _ => ?_) (fun g => absurd g (by decide))
    refine lv_aload_n hx hb dX10_room_14 rfl (lv_at hl 0 rfl) ?_
    have n5 : F1 25 = .ref h_paceAt := (get_ne eF1 (by decide) e_paceAt)
    have n6 : F1 26 = .ref h_kindOf := (get_ne eF1 (by decide) e_kindOf)
    have n7 : F1 31 = .int x_seed := (get_ne eF1 (by decide) e_seed)
    have n8 : F1 32 = .int x_kicks := (get_ne eF1 (by decide) e_kicks)
    refine call_Vv (wr := []) (As := []) (rest := []) hx hb hml hown hw (m_X10_starts l D cI cJ cB cP cM cZ h0 h_s h_paceAt h_kindOf F1 x_seed x_kicks f_s f_paceAt f_kindOf _ n2 n5 n6 n7 n8 i_x_kicks s_s_K0 s_s_0 s_s_105 s_s_114 s_s_130 s_s_139 s_s_153 s_s_44 s_s_5 s_s_6 s_s_7) wV_X10_340_X10_starts dX10_room_15 hK hP hD hS hA [2, 3, 0, 1] [] rfl rfl (by decide) (by decide) (by decide) 0 10 rfl rfl GG.fb hG.at hl.1 rfl (Nat.le_of_ble_eq_true rfl) ⟨(Nat.le_of_ble_eq_true rfl), (Nat.le_of_ble_eq_true rfl)⟩ ⟨(Nat.le_of_ble_eq_true rfl), (Nat.le_of_ble_eq_true rfl)⟩ (fun u H locs hp hP hD hS => ?_)
    obtain ⟨F10, y11, y12, y13, y14, y15, g16, g17, t18, t19, t20, t21, t22, t23, t24, t25, t26, rfl⟩ := hp
    have hP : va_P D vwCl [(h0, .inr (10, vL 67 F10)), (h_s, .inl (cI, 335, .inl f_s)), (h_paceAt, .inl (cI, 40, .inl g16)), (h_kindOf, .inl (cI, 4, .inl g17))] H := hP
    have hD : va_D A [(h0, .inr (10, vL 67 F10)), (h_s, .inl (cI, 335, .inl f_s)), (h_paceAt, .inl (cI, 40, .inl g16)), (h_kindOf, .inl (cI, 4, .inl g17))] := hD
    refine W.widen (k := 0) (n := 0) (Nat.le_of_ble_eq_true rfl) (Nat.le_of_ble_eq_true rfl) ?_
    refine lv_aload_n hx hb dX10_room_18 rfl (lv_at hl 0 rfl) ?_
    have n28 : F10 6 = .ref h_s := (SAME.at t18 (by decide) n2)
    refine get_f (D := D) (ci := 10) (v := .ref h_s) (C := RX10) (T := TX10) (N := 67) hx hb hw inAX10 hown hK hP 0 rfl rfl 6 (by decide) (hw _ q_1267) (fun _ h9 => h9) n28 dX10_room_19 ?_
    refine lv_iconst (v := 2) hx hb dX10_room_22 (by decide) ?_
    refine iald_n hx hb hK hP 1 0 rfl rfl 2 rfl (Nat.le_of_ble_eq_true rfl) (Nat.le_of_ble_eq_true rfl) rfl dX10_room_23 ?_
    refine lv_topi (fun v29 ev29 => ?_)
    refine lv_aload_n hx hb dX10_room_24 rfl (lv_at hl 0 rfl) ?_
    refine get_f (D := D) (ci := 10) (v := .ref h_s) (C := RX10) (T := TX10) (N := 67) hx hb hw inAX10 hown hK hP 0 rfl rfl 6 (by decide) (hw _ q_1267) (fun _ h9 => h9) n28 dX10_room_25 ?_
    refine lv_iconst (v := 1) hx hb dX10_room_28 (by decide) ?_
    refine iald_n hx hb hK hP 1 0 rfl rfl 1 rfl (Nat.le_of_ble_eq_true rfl) (Nat.le_of_ble_eq_true rfl) rfl dX10_room_29 ?_
    refine lv_topi (fun v30 ev30 => ?_)
    refine lv_isub hx hb dX10_room_30 ?_
    refine lv_topi (fun v31 ev31 => ?_)
    refine lv_aload_n hx hb dX10_room_31 rfl (lv_at hl 0 rfl) ?_
    refine lv_aload_n hx hb dX10_room_32 rfl (lv_at hl 0 rfl) ?_
    refine get_f (D := D) (ci := 10) (v := .int y13) (C := RX10) (T := TX10) (N := 67) hx hb hw inAX10 hown hK hP 0 rfl rfl 29 (by decide) (hw _ q_1290) (fun _ h9 => h9) t22 dX10_room_33 ?_
    refine call_Vi (wr := [(h_paceAt, .inl (cI, 40, .inl g16)), (h_kindOf, .inl (cI, 4, .inl g17))]) (As := [.int y13]) (rest := [.int v31]) hx hb hml hown hw (m_X10_weightOf l D cI cJ cB cP cM cZ h0 h_s F10 f_s y13 _ n28 s_s_K0 s_s_0 s_s_105 s_s_114 s_s_130 s_s_139 s_s_153 s_s_44 s_s_5 s_s_6 s_s_7) wV_X10_308_X10_weightOf dX10_room_36 hK hP hD hS hA [0, 1] [2, 3] rfl rfl (by decide) (by decide) (by decide) 0 10 rfl rfl GG.fb hG.at hl.1 rfl (Nat.le_of_ble_eq_true rfl) ⟨(Nat.le_of_ble_eq_true rfl), (Nat.le_of_ble_eq_true rfl)⟩ ⟨(Nat.le_of_ble_eq_true rfl), (Nat.le_of_ble_eq_true rfl)⟩ (fun r32 u H locs hp hP hD hS => ?_)
    obtain rfl := hp
    have hP : va_P D vwCl [(h_paceAt, .inl (cI, 40, .inl g16)), (h_kindOf, .inl (cI, 4, .inl g17)), (h0, .inr (10, vL 67 F10)), (h_s, .inl (cI, 335, .inl f_s))] H := hP
    have hD : va_D A [(h_paceAt, .inl (cI, 40, .inl g16)), (h_kindOf, .inl (cI, 4, .inl g17)), (h0, .inr (10, vL 67 F10)), (h_s, .inl (cI, 335, .inl f_s))] := hD
    refine W.widen (k := 0) (n := 0) (Nat.le_of_ble_eq_true rfl) (Nat.le_of_ble_eq_true rfl) ?_
    refine lv_isub hx hb dX10_room_39 ?_
    refine lv_topi (fun v34 ev34 => ?_)
    refine lv_istore_n (lv' := [(1, .int v34), (0, .ref h0)]) hx hb dX10_room_40 rfl hl (by decide) rfl (fun ls hl => ?_)
    refine lv_iload_n hx hb dX10_room_41 rfl (lv_at hl 0 rfl) ?_
    refine lv_if_ge (tgt := 49) hx hb dX10_room_42 (by decide) (fun c35 => ?_) (fun c35 => ?_)
    · have dc35 : 0 ≤ v34.toInt := le_i (a := 0) (b := v34.toInt) rfl rfl c35
      have k36 : 0 ≤ v34.toInt ∧ v34.toInt ≤ 2147483647 := ⟨Int.le_trans (Int.le_refl _) dc35, (ir_any _).2⟩
      refine lv_iload_n hx hb dX10_room_49 rfl (lv_at hl 0 rfl) ?_
      refine lv_bipush (v := 99) hx hb dX10_room_50 (by decide) ?_
      refine call_Si (wr := [(h_paceAt, .inl (cI, 40, .inl g16)), (h_kindOf, .inl (cI, 4, .inl g17)), (h0, .inr (10, vL 67 F10)), (h_s, .inl (cI, 335, .inl f_s))]) (As := [.int v34, .int 99]) (rest := []) hx hb hml hown hw (m_X10_lesser l D cI cJ cB cP cM cZ v34 99 _ ) wS_X10_27_X10_lesser dX10_room_52 hP hD hS hA [] [0, 1, 2, 3] rfl rfl (by decide) (by decide) (by decide) GG.fb hG.at hl.1 rfl (Nat.le_of_ble_eq_true rfl) ⟨(Nat.le_of_ble_eq_true rfl), (Nat.le_of_ble_eq_true rfl)⟩ ⟨(Nat.le_of_ble_eq_true rfl), (Nat.le_of_ble_eq_true rfl)⟩ (fun r37 u H locs hp hP hD hS => ?_)
      have zl99 : (99 : Int32).toInt = 99 := by decide
      obtain ⟨t38, t39, rfl⟩ := hp
      have hP : va_P D vwCl [(h_paceAt, .inl (cI, 40, .inl g16)), (h_kindOf, .inl (cI, 4, .inl g17)), (h0, .inr (10, vL 67 F10)), (h_s, .inl (cI, 335, .inl f_s))] H := hP
      have hD : va_D A [(h_paceAt, .inl (cI, 40, .inl g16)), (h_kindOf, .inl (cI, 4, .inl g17)), (h0, .inr (10, vL 67 F10)), (h_s, .inl (cI, 335, .inl f_s))] := hD
      refine W.widen (k := 0) (n := 0) (Nat.le_of_ble_eq_true rfl) (Nat.le_of_ble_eq_true rfl) ?_
      have k41 : 0 ≤ r37.toInt ∧ r37.toInt ≤ 99 := ⟨by omega, by omega⟩
      exact ret_i (v := r37) hx hb hr hlocks hS (hP.sub (ws' := [(h0, .inr (10, vL 67 F10)), (h_s, .inl (cI, 335, .inl f_s)), (h_paceAt, .inl (cI, 40, .inl g16)), (h_kindOf, .inl (cI, 4, .inl g17))]) [2, 3, 0, 1] rfl) (hD.sub (ws' := [(h0, .inr (10, vL 67 F10)), (h_s, .inl (cI, 335, .inl f_s)), (h_paceAt, .inl (cI, 40, .inl g16)), (h_kindOf, .inl (cI, 4, .inl g17))]) [2, 3, 0, 1] (by decide) rfl) dX10_room_55 rfl (Nat.le_of_ble_eq_true rfl) (Nat.le_of_ble_eq_true rfl) ⟨F10, y11, y12, y13, y14, y15, g16, g17, (SAME.tr (SAME.up eF1 SAME.rf (by decide)) t18 (by decide)), (SAME.at t18 (by decide) (get_eq eF1)), t19, t20, t22, t23, t24, t25, t26, (ir_wk k41 (by decide) (by decide)), rfl⟩
    · have dc35 : v34.toInt < 0 := nle_i (a := 0) (b := v34.toInt) rfl rfl c35
      have k42 : (-2147483648) ≤ v34.toInt ∧ v34.toInt ≤ (-1) := ⟨(ir_any _).1, up_lt dc35 (Int.le_refl _) (by decide)⟩
      refine lv_iconst (v := (-1)) hx hb dX10_room_45 (by decide) ?_
      refine lv_goto (tgt := 55) hx hb dX10_room_46 (by decide) ?_
      exact ret_i (v := (-1)) hx hb hr hlocks hS (hP.sub (ws' := [(h0, .inr (10, vL 67 F10)), (h_s, .inl (cI, 335, .inl f_s)), (h_paceAt, .inl (cI, 40, .inl g16)), (h_kindOf, .inl (cI, 4, .inl g17))]) [2, 3, 0, 1] rfl) (hD.sub (ws' := [(h0, .inr (10, vL 67 F10)), (h_s, .inl (cI, 335, .inl f_s)), (h_paceAt, .inl (cI, 40, .inl g16)), (h_kindOf, .inl (cI, 4, .inl g17))]) [2, 3, 0, 1] (by decide) rfl) dX10_room_55 rfl (Nat.le_of_ble_eq_true rfl) (Nat.le_of_ble_eq_true rfl) ⟨F10, y11, y12, y13, y14, y15, g16, g17, (SAME.tr (SAME.up eF1 SAME.rf (by decide)) t18 (by decide)), (SAME.at t18 (by decide) (get_eq eF1)), t19, t20, t22, t23, t24, t25, t26, (show (-1) ≤ ((-1) : Int32).toInt ∧ ((-1) : Int32).toInt ≤ 99 by decide), rfl⟩
theorem zn_k {x : Int32} (h : 0 ≤ x.toInt ∧ x.toInt ≤ 1) : vp_nar .boolean x = x := by
  obtain ⟨n, en, hn, tn⟩ := ni_of h.1
  have h2 : n = 0 ∨ n = 1 := by omega
  rcases h2 with h2 | h2
  · subst h2; subst en; decide +kernel
  · subst h2; subst en; decide +kernel
/-- how many of the first n on the pile join two -/
def nbin (f : Nat → Int32) : Nat → Int
  | 0 => 0
  | n + 1 => nbin f n + (if (f n).toInt = 21 ∨ (f n).toInt = 22 then 1 else 0)
theorem nbin_nn (f : Nat → Int32) : ∀ n, 0 ≤ nbin f n
  | 0 => Int.le_refl 0
  | n + 1 => by
    have h := nbin_nn f n
    show 0 ≤ nbin f n + (if (f n).toInt = 21 ∨ (f n).toInt = 22 then 1 else 0)
    split <;> omega
theorem nbin_eq {f g : Nat → Int32} : ∀ n, (∀ j, j < n → g j = f j) → nbin g n = nbin f n
  | 0, _ => rfl
  | n + 1, h => by
    show nbin g n + (if (g n).toInt = 21 ∨ (g n).toInt = 22 then 1 else 0) = nbin f n + (if (f n).toInt = 21 ∨ (f n).toInt = 22 then 1 else 0)
    rw [nbin_eq n (fun j hj => h j (by omega)), h n (by omega)]
theorem nbin_1 {f : Nat → Int32} {n : Nat} (h : (f n).toInt = 21 ∨ (f n).toInt = 22) : nbin f (n + 1) = nbin f n + 1 := by
  show nbin f n + (if (f n).toInt = 21 ∨ (f n).toInt = 22 then 1 else 0) = _
  rw [if_pos h]
theorem nbin_0 {f : Nat → Int32} {n : Nat} (h : ¬ ((f n).toInt = 21 ∨ (f n).toInt = 22)) : nbin f (n + 1) = nbin f n := by
  show nbin f n + (if (f n).toInt = 21 ∨ (f n).toInt = 22 then 1 else 0) = _
  rw [if_neg h]; omega
theorem dep_le (f : Nat → Int32) (b : Nat) : ∀ n : Nat, dep f b n ≤ n
  | 0 => Int.le_refl 0
  | n + 1 => by
    have h := dep_le f b n
    show dep f b n + stp (f (b + 3 * n)).toInt ≤ _
    have h2 := stp_ca (f (b + 3 * n)).toInt
    by_cases h3 : (f (b + 3 * n)).toInt = 20
    · rw [h2.1 h3]; omega
    · by_cases h4 : (f (b + 3 * n)).toInt = 21 ∨ (f (b + 3 * n)).toInt = 22
      · rw [h2.2.1 h4]; omega
      · rw [h2.2.2 h3 (by omega) (by omega)]; omega
/-- g is f with one code more -/
def APP (f g : Nat → Int32) (c : Int) (w : Int32) : Prop := (∀ j, j < 3 * c.toNat → g j = f j) ∧ g (3 * c.toNat) = w
theorem APP.of {f g1 g2 g3 : Nat → Int32} {c : Int} {i1 i2 i3 w x2 x3 : Int32} (e1 : upd f i1.toNatClampNeg w = g1) (e2 : upd g1 i2.toNatClampNeg x2 = g2) (e3 : upd g2 i3.toNatClampNeg x3 = g3) (hc : 0 ≤ c) (h1 : i1.toInt = 3 * c) (h2 : i2.toInt = 3 * c + 1) (h3 : i3.toInt = 3 * c + 2) : APP f g3 c w := by
  subst e1; subst e2; subst e3
  simp only [cl_nat]
  refine ⟨fun j hj => ?_, ?_⟩
  · rw [pk_un (by omega), pk_un (by omega), pk_un (by omega)]
  · rw [pk_un (by omega), pk_un (by omega), show 3 * c.toNat = i1.toInt.toNat by omega, pk_us]
/-- the codes so far are good, and as many truths lie on their pile as the signs that wait need -/
def SMI (fr fs : Nat → Int32) (c t w : Int) : Prop := 0 ≤ c ∧ 0 ≤ t ∧ gdc fr 0 c.toNat ∧ dep fr 0 c.toNat = nbin fs t.toNat + w
theorem SMI.zero {fr fs : Nat → Int32} : SMI fr fs 0 0 0 := ⟨Int.le_refl 0, Int.le_refl 0, fun i hi => absurd hi (Nat.not_lt_zero _), rfl⟩
theorem SMI.w {fr fs : Nat → Int32} {c t w w' : Int} (h : SMI fr fs c t w) (e : w' = w) : SMI fr fs c t w' := by subst e; exact h
theorem u153 {f g : Nat → Int32} {c : Int} {i x : Int32} (h : (f 153).toInt = c) (e : upd f i.toNatClampNeg x = g) (hi : 154 ≤ i.toInt) : (g 153).toInt = c := by
  subst e
  rw [cl_nat, pk_un (by omega)]
  exact h
theorem CPY.mn {g f : Nat → Int32} {og of : Nat} {n n' : Int} (h : CPY g og f of n) (hn : n' ≤ n) : CPY g og f of n' := fun j hj => h j (by omega)
theorem app_dep {fr fr' : Nat → Int32} {c : Int} {w : Int32} (hc : 0 ≤ c) (a : APP fr fr' c w) : dep fr' 0 (c + 1).toNat = dep fr 0 c.toNat + stp w.toInt ∧ dep fr' 0 c.toNat = dep fr 0 c.toNat := by
  have e : (c + 1).toNat = c.toNat + 1 := by omega
  have h1 : dep fr' 0 c.toNat = dep fr 0 c.toNat := dep_eq c.toNat (fun j hj => by rw [Nat.zero_add]; exact a.1 j hj)
  refine ⟨?_, h1⟩
  rw [e]
  show dep fr' 0 c.toNat + stp (fr' (0 + 3 * c.toNat)).toInt = _
  rw [h1, Nat.zero_add, a.2]
theorem app_gdc {fr fr' : Nat → Int32} {c : Int} {w : Int32} (hc : 0 ≤ c) (a : APP fr fr' c w) (g : gdc fr 0 c.toNat) (h1 : w.toInt = 20 → 1 ≤ dep fr 0 c.toNat) (h2 : w.toInt = 21 ∨ w.toInt = 22 → 2 ≤ dep fr 0 c.toNat) : gdc fr' 0 (c + 1).toNat := by
  have e : (c + 1).toNat = c.toNat + 1 := by omega
  rw [e]
  intro i hi
  by_cases hi2 : i < c.toNat
  · have g2 : gdc fr' 0 c.toNat := gdc_eq (f := fr) (b := 0) (fun j hj => by rw [Nat.zero_add]; exact a.1 j hj) g
    exact g2 i hi2
  · have e2 : i = c.toNat := by omega
    subst e2
    rw [Nat.zero_add, a.2, (app_dep hc a).2]
    exact ⟨h1, h2⟩
theorem SMI.bin {fr fr' fs : Nat → Int32} {c t c' t' : Int} {v ix : Int32} (h : SMI fr fs c t 1) (a : APP fr fr' c v) (hv : v.toInt = 21 ∨ v.toInt = 22) (e : v = fs ix.toNatClampNeg) (hix : ix.toInt = t - 1) (h1 : 1 ≤ t) (ec : c' = c + 1) (et : t' = t - 1) : SMI fr' fs c' t' 1 := by
  subst ec; subst et
  obtain ⟨hc, ht, g, d⟩ := h
  rw [cl_nat] at e
  have et : t.toNat = (t - 1).toNat + 1 := by omega
  have ei : ix.toInt.toNat = (t - 1).toNat := by omega
  have hb : nbin fs t.toNat = nbin fs (t - 1).toNat + 1 := by
    rw [et]
    exact nbin_1 (by rw [← ei, ← e]; exact hv)
  have hn := nbin_nn fs (t - 1).toNat
  refine ⟨by omega, by omega, app_gdc hc a g (fun q => by omega) (fun q => by omega), ?_⟩
  rw [(app_dep hc a).1, (stp_ca v.toInt).2.1 hv]
  omega
theorem SMI.not {fr fr' fs : Nat → Int32} {c t c' t' : Int} {v w ix : Int32} (h : SMI fr fs c t 1) (a : APP fr fr' c w) (hw : w.toInt = 20) (hv : v.toInt = 20) (e : v = fs ix.toNatClampNeg) (hix : ix.toInt = t - 1) (h1 : 1 ≤ t) (ec : c' = c + 1) (et : t' = t - 1) : SMI fr' fs c' t' 1 := by
  subst ec; subst et
  obtain ⟨hc, ht, g, d⟩ := h
  rw [cl_nat] at e
  have et : t.toNat = (t - 1).toNat + 1 := by omega
  have ei : ix.toInt.toNat = (t - 1).toNat := by omega
  have hb : nbin fs t.toNat = nbin fs (t - 1).toNat := by
    rw [et]
    exact nbin_0 (by rw [← ei, ← e]; omega)
  have hn := nbin_nn fs (t - 1).toNat
  refine ⟨by omega, by omega, app_gdc hc a g (fun q => by omega) (fun q => by omega), ?_⟩
  rw [(app_dep hc a).1, (stp_ca w.toInt).1 hw]
  omega
theorem SMI.leaf {fr fr' fs : Nat → Int32} {c t c' w' : Int} {w : Int32} (h : SMI fr fs c t 0) (a : APP fr fr' c w) (hw : 0 ≤ w.toInt ∧ w.toInt ≤ 6) (ec : c' = c + 1) (ew : w' = 1) : SMI fr' fs c' t w' := by
  subst ec; subst ew
  obtain ⟨hc, ht, g, d⟩ := h
  refine ⟨by omega, ht, app_gdc hc a g (fun q => by omega) (fun q => by omega), ?_⟩
  rw [(app_dep hc a).1, (stp_ca w.toInt).2.2 (by omega) (by omega) (by omega)]
  omega
theorem SMI.push {fr fs fs' : Nat → Int32} {c t t' : Int} {x ix : Int32} (h : SMI fr fs c t 0) (e : upd fs ix.toNatClampNeg x = fs') (hix : ix.toInt = t) (hx : x.toInt = 20 ∨ x.toInt = 23) (et : t' = t + 1) : SMI fr fs' c t' 0 := by
  subst et; subst e
  rw [cl_nat]
  obtain ⟨hc, ht, g, d⟩ := h
  refine ⟨hc, by omega, g, ?_⟩
  rw [show (t + 1).toNat = t.toNat + 1 by omega, show ix.toInt.toNat = t.toNat by omega, nbin_0 (by rw [pk_us]; omega), nbin_eq t.toNat (fun j hj => pk_un (by omega))]
  exact d
theorem SMI.pushb {fr fs fs' : Nat → Int32} {c t t' : Int} {x ix : Int32} (h : SMI fr fs c t 1) (e : upd fs ix.toNatClampNeg x = fs') (hix : ix.toInt = t) (hx : x.toInt = 21 ∨ x.toInt = 22) (et : t' = t + 1) : SMI fr fs' c t' 0 := by
  subst et; subst e
  rw [cl_nat]
  obtain ⟨hc, ht, g, d⟩ := h
  refine ⟨hc, by omega, g, ?_⟩
  rw [show (t + 1).toNat = t.toNat + 1 by omega, show ix.toInt.toNat = t.toNat by omega, nbin_1 (by rw [pk_us]; exact hx), nbin_eq (f := fs) t.toNat (fun j hj => pk_un (by omega))]
  omega
/-- what joins() leaves on top joins nothing -/
def JT (f : Nat → Int32) (t : Int) (k : Int) : Prop := k = 22 → 1 ≤ t → nbin f (t - 1).toNat = nbin f t.toNat
theorem JT.no {f : Nat → Int32} {t k : Int} (h : t ≤ 0) : JT f t k := fun _ q => by omega
theorem JT.ne {f : Nat → Int32} {t k : Int} (h : k ≠ 22) : JT f t k := fun q => absurd q h
theorem JT.at {f : Nat → Int32} {t k : Int} {v ix : Int32} (e : v = f ix.toNatClampNeg) (hix : ix.toInt = t - 1) (h1 : v.toInt ≠ 21) (h2 : v.toInt ≠ 22) : JT f t k := fun _ q => by
  rw [cl_nat] at e
  have et : t.toNat = (t - 1).toNat + 1 := by omega
  rw [et]
  refine (nbin_0 ?_).symm
  rw [show (t - 1).toNat = ix.toInt.toNat by omega, ← e]
  omega
theorem SMI.pop {fr fs : Nat → Int32} {c t t' k : Int} (h : SMI fr fs c t 1) (j : JT fs t k) (hk : k = 22) (h1 : 1 ≤ t) (et : t' = t - 1) : SMI fr fs c t' 1 := by
  subst et
  obtain ⟨hc, ht, g, d⟩ := h
  refine ⟨hc, by omega, g, ?_⟩
  rw [j hk h1]
  exact d
theorem KW.sent {fr g : Nat → Int32} {c : Int} (hc : 0 ≤ c ∧ c ≤ 44) (h : gdc fr 0 c.toNat) (e : (g 153).toInt = c) (hcp : CPY g 154 fr 0 (3 * c)) : KW 0 g := by
  refine ⟨by show 0 ≤ (g (0 + 153)).toInt ∧ _; rw [Nat.zero_add, e]; exact hc, ?_⟩
  rw [Nat.zero_add, Nat.zero_add, e]
  exact gdc_eq (f := fr) (b := 0) (fun j hj => hcp j (by omega)) h
theorem KW.g {f : Nat → Int32} (h : KW 0 f) {i v ix : Int32} {n : Int} (e : v = f ix.toNatClampNeg) (hix : ix.toInt = 154 + 3 * i.toInt) (h0 : 0 ≤ i.toInt) (hn : (f 153).toInt = n) (hi : i.toInt < n) : (v.toInt = 20 → 1 ≤ dep f 154 i.toInt.toNat) ∧ (v.toInt = 21 ∨ v.toInt = 22 → 2 ≤ dep f 154 i.toInt.toNat) := by
  have h2 := h.2
  rw [Nat.zero_add, Nat.zero_add, hn] at h2
  have h3 := h2 i.toInt.toNat (by omega)
  rw [cl_nat] at e
  rw [show 154 + 3 * i.toInt.toNat = ix.toInt.toNat by omega, ← e] at h3
  exact h3
theorem dep_st {f : Nat → Int32} {i v ix : Int32} {i' : Int} (e : v = f ix.toNatClampNeg) (hix : ix.toInt = 154 + 3 * i.toInt) (h0 : 0 ≤ i.toInt) (hi : i' = i.toInt + 1) : dep f 154 i'.toNat = dep f 154 i.toInt.toNat + stp v.toInt := by
  rw [dep_to h0 hi]
  rw [cl_nat] at e
  rw [show 154 + 3 * i.toInt.toNat = ix.toInt.toNat by omega, ← e]
set_option maxHeartbeats 4000000 in
set_option maxRecDepth 100000 in
theorem m_X10_code (l : Launch) (D : va_G) (cI cJ cB cP cM cZ : ClassId) (h0 : Nat) (h_read : Nat) (Fh : Nat → Value) (x_codes : Int32) (x_ones : Int32) (x_top : Int32) (x_isWhole : Int32) (f_read : Nat → Int32) (p0 : Int32) (p1 : Int32) (p2 : Int32) (sz : Nat) (e_read : Fh 8 = .ref h_read) (e_codes : Fh 58 = .int x_codes) (i_x_codes : IR 0 44 x_codes) (e_ones : Fh 59 = .int x_ones) (i_x_ones : IR 0 20 x_ones) (e_top : Fh 60 = .int x_top) (i_x_top : IR 0 45 x_top) (e_isWhole : Fh 62 = .int x_isWhole) (i_x_isWhole : IR 0 1 x_isWhole) (z_0 : x_top.toInt + x_codes.toInt + 1 + x_isWhole.toInt ≤ 2 * x_ones.toInt) (o_0 : x_top.toInt + x_codes.toInt + x_isWhole.toInt ≤ 2 * x_ones.toInt) : CV l yX10_code cX10_code 4 none { frames := 0, cells := 0, slots := 0, locals := 0 } (GG D cI cJ cB cP cM cZ) D [(h0, .inr (10, vL 67 Fh)), (h_read, .inl (cI, 135, .inl f_read))] sz [.ref h0, .int p0, .int p1, .int p2] (fun (u : va_W) => ∃ (Gh : Nat → Value) (y_codes : Int32) (g_read : Nat → Int32), SAME [58] Fh Gh ∧ Gh 58 = .int y_codes ∧ IR 1 45 y_codes ∧ (y_codes.toInt = x_codes.toInt + 1) ∧ (APP f_read g_read x_codes.toInt p0) ∧ (x_top.toInt + y_codes.toInt + x_isWhole.toInt ≤ 2 * x_ones.toInt) ∧ u = [(h0, .inr (10, vL 67 Gh)), (h_read, .inl (cI, 135, .inl g_read))]) := by
  refine CV_mk (by decide) (Nat.le_of_ble_eq_true rfl) ?_
  intro p e s m below meth c A ls E hAe hG hsz hP hD hA hS hl
  obtain ⟨hx, hb, hr, hw, hown, hlocks, hml, hnm⟩ := E
  have hK := hG.1
  have i_x_codes : 0 ≤ x_codes.toInt ∧ x_codes.toInt ≤ 44 := i_x_codes
  have i_x_ones : 0 ≤ x_ones.toInt ∧ x_ones.toInt ≤ 20 := i_x_ones
  have i_x_top : 0 ≤ x_top.toInt ∧ x_top.toInt ≤ 45 := i_x_top
  have i_x_isWhole : 0 ≤ x_isWhole.toInt ∧ x_isWhole.toInt ≤ 1 := i_x_isWhole
  have hl : lv_has ls 4 [(0, .ref h0), (1, .int p0), (2, .int p1), (3, .int p2)] := hl
  refine lv_aload_n hx hb dX10_code_0 rfl (lv_at hl 0 rfl) ?_
  refine get_f (D := D) (ci := 10) (v := .ref h_read) (C := RX10) (T := TX10) (N := 67) hx hb hw inAX10 hown hK hP 0 rfl rfl 8 (by decide) (hw _ q_1269) (fun _ h9 => h9) e_read dX10_code_1 ?_
  refine lv_iconst (v := 3) hx hb dX10_code_4 (by decide) ?_
  refine lv_aload_n hx hb dX10_code_5 rfl (lv_at hl 0 rfl) ?_
  refine get_f (D := D) (ci := 10) (v := .int x_codes) (C := RX10) (T := TX10) (N := 67) hx hb hw inAX10 hown hK hP 0 rfl rfl 58 (by decide) (hw _ q_1319) (fun _ h9 => h9) e_codes dX10_code_6 ?_
  refine lv_imul hx hb dX10_code_9 ?_
  refine lv_topi (fun v1 ev1 => ?_)
  have bv1 : v1.toInt = 3 * x_codes.toInt := by rw [ev1]; exact kmul_k rfl rfl (by decide) i_x_codes (by decide)
  have k2 : 0 ≤ v1.toInt ∧ v1.toInt ≤ 132 := kmul_r bv1 (by decide) i_x_codes (by decide)
  refine lv_iload_n hx hb dX10_code_10 rfl (lv_at hl 1 rfl) ?_
  obtain ⟨g3, eg3⟩ : ∃ z : Nat → Int32, upd f_read v1.toNatClampNeg p0 = z := ⟨_, rfl⟩
  refine iast_g hx hb hK hP hD hS 1 0 rfl rfl (ix_k k2 (by decide) (by decide)) eg3 dX10_code_11 (fun H locs hP hD hS => ?_)
  have hP : va_P D vwCl [(h0, .inr (10, vL 67 Fh)), (h_read, .inl (cI, 135, .inl g3))] H := hP
  have hD : va_D A [(h0, .inr (10, vL 67 Fh)), (h_read, .inl (cI, 135, .inl g3))] := hD
  refine lv_aload_n hx hb dX10_code_12 rfl (lv_at hl 0 rfl) ?_
  refine get_f (D := D) (ci := 10) (v := .ref h_read) (C := RX10) (T := TX10) (N := 67) hx hb hw inAX10 hown hK hP 0 rfl rfl 8 (by decide) (hw _ q_1269) (fun _ h9 => h9) e_read dX10_code_13 ?_
  refine lv_iconst (v := 3) hx hb dX10_code_16 (by decide) ?_
  refine lv_aload_n hx hb dX10_code_17 rfl (lv_at hl 0 rfl) ?_
  refine get_f (D := D) (ci := 10) (v := .int x_codes) (C := RX10) (T := TX10) (N := 67) hx hb hw inAX10 hown hK hP 0 rfl rfl 58 (by decide) (hw _ q_1319) (fun _ h9 => h9) e_codes dX10_code_18 ?_
  refine lv_imul hx hb dX10_code_21 ?_
  refine lv_ci (y := v1) ev1.symm ?_
  refine lv_iconst (v := 1) hx hb dX10_code_22 (by decide) ?_
  refine lv_iadd hx hb dX10_code_23 ?_
  refine lv_topi (fun v4 ev4 => ?_)
  have bv4 : v4.toInt = v1.toInt + 1 := by rw [ev4]; exact add_k rfl rfl k2 ⟨Int.le_refl _, Int.le_refl _⟩ (by decide)
  have k5 : 1 ≤ v4.toInt ∧ v4.toInt ≤ 133 := add_r bv4 k2 ⟨Int.le_refl _, Int.le_refl _⟩ (by decide)
  refine lv_iload_n hx hb dX10_code_24 rfl (lv_at hl 2 rfl) ?_
  obtain ⟨g6, eg6⟩ : ∃ z : Nat → Int32, upd g3 v4.toNatClampNeg p1 = z := ⟨_, rfl⟩
  refine iast_g hx hb hK hP hD hS 1 0 rfl rfl (ix_k k5 (by decide) (by decide)) eg6 dX10_code_25 (fun H locs hP hD hS => ?_)
  have hP : va_P D vwCl [(h0, .inr (10, vL 67 Fh)), (h_read, .inl (cI, 135, .inl g6))] H := hP
  have hD : va_D A [(h0, .inr (10, vL 67 Fh)), (h_read, .inl (cI, 135, .inl g6))] := hD
  refine lv_aload_n hx hb dX10_code_26 rfl (lv_at hl 0 rfl) ?_
  refine get_f (D := D) (ci := 10) (v := .ref h_read) (C := RX10) (T := TX10) (N := 67) hx hb hw inAX10 hown hK hP 0 rfl rfl 8 (by decide) (hw _ q_1269) (fun _ h9 => h9) e_read dX10_code_27 ?_
  refine lv_iconst (v := 3) hx hb dX10_code_30 (by decide) ?_
  refine lv_aload_n hx hb dX10_code_31 rfl (lv_at hl 0 rfl) ?_
  refine get_f (D := D) (ci := 10) (v := .int x_codes) (C := RX10) (T := TX10) (N := 67) hx hb hw inAX10 hown hK hP 0 rfl rfl 58 (by decide) (hw _ q_1319) (fun _ h9 => h9) e_codes dX10_code_32 ?_
  refine lv_imul hx hb dX10_code_35 ?_
  refine lv_ci (y := v1) ev1.symm ?_
  refine lv_iconst (v := 2) hx hb dX10_code_36 (by decide) ?_
  refine lv_iadd hx hb dX10_code_37 ?_
  refine lv_topi (fun v7 ev7 => ?_)
  have bv7 : v7.toInt = v1.toInt + 2 := by rw [ev7]; exact add_k rfl rfl k2 ⟨Int.le_refl _, Int.le_refl _⟩ (by decide)
  have k8 : 2 ≤ v7.toInt ∧ v7.toInt ≤ 134 := add_r bv7 k2 ⟨Int.le_refl _, Int.le_refl _⟩ (by decide)
  refine lv_iload_n hx hb dX10_code_38 rfl (lv_at hl 3 rfl) ?_
  obtain ⟨g9, eg9⟩ : ∃ z : Nat → Int32, upd g6 v7.toNatClampNeg p2 = z := ⟨_, rfl⟩
  refine iast_g hx hb hK hP hD hS 1 0 rfl rfl (ix_k k8 (by decide) (by decide)) eg9 dX10_code_39 (fun H locs hP hD hS => ?_)
  have hP : va_P D vwCl [(h0, .inr (10, vL 67 Fh)), (h_read, .inl (cI, 135, .inl g9))] H := hP
  have hD : va_D A [(h0, .inr (10, vL 67 Fh)), (h_read, .inl (cI, 135, .inl g9))] := hD
  refine lv_aload_n hx hb dX10_code_40 rfl (lv_at hl 0 rfl) ?_
  refine lv_dup hx hb dX10_code_41 rfl ?_
  refine get_f (D := D) (ci := 10) (v := .int x_codes) (C := RX10) (T := TX10) (N := 67) hx hb hw inAX10 hown hK hP 0 rfl rfl 58 (by decide) (hw _ q_1319) (fun _ h9 => h9) e_codes dX10_code_42 ?_
  refine lv_iconst (v := 1) hx hb dX10_code_45 (by decide) ?_
  refine lv_iadd hx hb dX10_code_46 ?_
  refine lv_topi (fun v10 ev10 => ?_)
  have bv10 : v10.toInt = x_codes.toInt + 1 := by rw [ev10]; exact add_k rfl rfl i_x_codes ⟨Int.le_refl _, Int.le_refl _⟩ (by decide)
  have k11 : 1 ≤ v10.toInt ∧ v10.toInt ≤ 45 := add_r bv10 i_x_codes ⟨Int.le_refl _, Int.le_refl _⟩ (by decide)
  refine put_f (D := D) (ci := 10) (v := .int v10) (ty := .int) (C := RX10) (T := TX10) (N := 67) hx hb hw inAX10 tyX10 tyX10_ok nmX10 hown hK hP hD hS 0 rfl rfl 58 (by decide) (hw _ q_1319) (fun _ h9 => h9) rfl (by decide +kernel) rfl rfl dX10_code_47 (fun H locs F12 eF12 hP hD hS => ?_)
  have hP : va_P D vwCl [(h0, .inr (10, vL 67 F12)), (h_read, .inl (cI, 135, .inl g9))] H := hP
  have hD : va_D A [(h0, .inr (10, vL 67 F12)), (h_read, .inl (cI, 135, .inl g9))] := hD
  exact ret_v hx hb hr hlocks hS hP hD dX10_code_50 (Nat.le_of_ble_eq_true rfl) (Nat.le_of_ble_eq_true rfl) ⟨F12, v10, g9, (SAME.up eF12 SAME.rf (by decide)), (get_eq eF12), k11, (by omega), (APP.of eg3 eg6 eg9 (by omega) (by omega) (by omega) (by omega)), (by omega), rfl⟩
set_option maxHeartbeats 4000000 in
set_option maxRecDepth 100000 in
theorem m_X10_joins (l : Launch) (D : va_G) (cI cJ cB cP cM cZ : ClassId) (h0 : Nat) (h_read : Nat) (h_stack : Nat) (Fh : Nat → Value) (x_codes : Int32) (x_ones : Int32) (x_top : Int32) (x_isWhole : Int32) (f_read : Nat → Int32) (f_stack : Nat → Int32) (p0 : Int32) (sz : Nat) (e_read : Fh 8 = .ref h_read) (e_stack : Fh 57 = .ref h_stack) (e_codes : Fh 58 = .int x_codes) (i_x_codes : IR 0 45 x_codes) (e_ones : Fh 59 = .int x_ones) (i_x_ones : IR 0 20 x_ones) (e_top : Fh 60 = .int x_top) (i_x_top : IR 0 45 x_top) (e_isWhole : Fh 62 = .int x_isWhole) (i_x_isWhole : IR 0 1 x_isWhole) (z_0 : x_isWhole.toInt = 1) (z_1 : SMI f_read f_stack x_codes.toInt x_top.toInt 1) (o_0 : x_top.toInt + x_codes.toInt + x_isWhole.toInt ≤ 2 * x_ones.toInt) : CV l yX10_joins cX10_joins 2 none { frames := 1, cells := 0, slots := 0, locals := 23 } (GG D cI cJ cB cP cM cZ) D [(h0, .inr (10, vL 67 Fh)), (h_read, .inl (cI, 135, .inl f_read)), (h_stack, .inl (cI, 45, .inl f_stack))] sz [.ref h0, .int p0] (fun (u : va_W) => ∃ (Gh : Nat → Value) (y_codes : Int32) (y_top : Int32) (g_read : Nat → Int32), SAME [58, 60] Fh Gh ∧ Gh 58 = .int y_codes ∧ IR 0 45 y_codes ∧ Gh 60 = .int y_top ∧ IR 0 45 y_top ∧ (SMI g_read f_stack y_codes.toInt y_top.toInt 1) ∧ (JT f_stack y_top.toInt p0.toInt) ∧ (y_top.toInt + y_codes.toInt + x_isWhole.toInt ≤ 2 * x_ones.toInt) ∧ u = [(h0, .inr (10, vL 67 Gh)), (h_read, .inl (cI, 135, .inl g_read)), (h_stack, .inl (cI, 45, .inl f_stack))]) := by
  refine CV_mk (by decide) (Nat.le_of_ble_eq_true rfl) ?_
  intro p e s m below meth c A ls E hAe hG hsz hP hD hA hS hl
  obtain ⟨hx, hb, hr, hw, hown, hlocks, hml, hnm⟩ := E
  have hK := hG.1
  have i_x_codes : 0 ≤ x_codes.toInt ∧ x_codes.toInt ≤ 45 := i_x_codes
  have i_x_ones : 0 ≤ x_ones.toInt ∧ x_ones.toInt ≤ 20 := i_x_ones
  have i_x_top : 0 ≤ x_top.toInt ∧ x_top.toInt ≤ 45 := i_x_top
  have i_x_isWhole : 0 ≤ x_isWhole.toInt ∧ x_isWhole.toInt ≤ 1 := i_x_isWhole
  have hl : lv_has ls 2 [(0, .ref h0), (1, .int p0)] := hl
  refine mloop (α := (Nat → Value) × (Int32) × (Int32) × (Nat → Int32)) (nL := 2) (D := D) (A := A) (H0 := s.heap) (fun a => (a.2.2.1.toInt).toNat) (fun a => SAME [58, 60] Fh a.1 ∧ a.1 58 = .int a.2.1 ∧ a.1 60 = .int a.2.2.1 ∧ IR 0 45 a.2.1 ∧ IR 0 45 a.2.2.1 ∧ (SMI a.2.2.2 f_stack a.2.1.toInt a.2.2.1.toInt 1) ∧ (a.2.2.1.toInt + a.2.1.toInt + x_isWhole.toInt ≤ 2 * x_ones.toInt)) (fun a => [(h0, .inr (10, vL 67 a.1)), (h_read, .inl (cI, 135, .inl a.2.2.2)), (h_stack, .inl (cI, 45, .inl f_stack))]) (fun a => [(0, .ref h0), (1, .int p0)]) (fun H locs ls => W p l e ({ frames := 1, cells := 0, slots := 0, locals := 23 } : Room) s m [.ref h0, .int p0].toArray below meth c H locs 0 0 (MQ below (va_Qv (fun (u : va_W) => ∃ (Gh : Nat → Value) (y_codes : Int32) (y_top : Int32) (g_read : Nat → Int32), SAME [58, 60] Fh Gh ∧ Gh 58 = .int y_codes ∧ IR 0 45 y_codes ∧ Gh 60 = .int y_top ∧ IR 0 45 y_top ∧ (SMI g_read f_stack y_codes.toInt y_top.toInt 1) ∧ (JT f_stack y_top.toInt p0.toInt) ∧ (y_top.toInt + y_codes.toInt + x_isWhole.toInt ≤ 2 * x_ones.toInt) ∧ u = [(h0, .inr (10, vL 67 Gh)), (h_read, .inl (cI, 135, .inl g_read)), (h_stack, .inl (cI, 45, .inl f_stack))]) (PO D A) A) [.ref h0, .int p0].toArray s 0 0 A) (F0 m 0 ls [])) ?_ (Fh, x_codes, x_top, f_read) ⟨SAME.rf, e_codes, e_top, i_x_codes, i_x_top, (show SMI f_read f_stack x_codes.toInt x_top.toInt 1 from z_1), (by show x_top.toInt + x_codes.toInt + x_isWhole.toInt ≤ 2 * x_ones.toInt; omega)⟩ _ _ _ hP hD hS hl
  rintro ⟨G1, u2, u3, w4⟩ ⟨i5, i6, i7, i8, i9, i10, i11⟩ ih H locs ls hP hD hS hl
  have i8 : 0 ≤ u2.toInt ∧ u2.toInt ≤ 45 := i8
  have i9 : 0 ≤ u3.toInt ∧ u3.toInt ≤ 45 := i9
  have i10 : SMI w4 f_stack u2.toInt u3.toInt 1 := i10
  have i11 : u3.toInt + u2.toInt + x_isWhole.toInt ≤ 2 * x_ones.toInt := i11
  have hP : va_P D vwCl [(h0, .inr (10, vL 67 G1)), (h_read, .inl (cI, 135, .inl w4)), (h_stack, .inl (cI, 45, .inl f_stack))] H := hP
  have hD : va_D A [(h0, .inr (10, vL 67 G1)), (h_read, .inl (cI, 135, .inl w4)), (h_stack, .inl (cI, 45, .inl f_stack))] := hD
  have hl : lv_has ls 2 [(0, .ref h0), (1, .int p0)] := hl
  refine lv_aload_n hx hb dX10_joins_0 rfl (lv_at hl 0 rfl) ?_
  refine get_f (D := D) (ci := 10) (v := .int u3) (C := RX10) (T := TX10) (N := 67) hx hb hw inAX10 hown hK hP 0 rfl rfl 60 (by decide) (hw _ q_1321) (fun _ h9 => h9) i7 dX10_joins_1 ?_
  refine lv_if_le (tgt := 73) hx hb dX10_joins_4 (by decide) (fun c12 => ?_) (fun c12 => ?_)
  · have dc12 : u3.toInt ≤ 0 := le_i (a := u3.toInt) (b := 0) rfl rfl c12
    have k13 : 0 ≤ u3.toInt ∧ u3.toInt ≤ 0 := ⟨i9.1, Int.le_trans dc12 (Int.le_refl _)⟩
    exact ret_v hx hb hr hlocks hS hP hD dX10_joins_73 (Nat.le_of_ble_eq_true rfl) (Nat.le_of_ble_eq_true rfl) ⟨G1, u2, u3, w4, (SAME.tr SAME.rf i5 (by decide)), i6, i8, i7, (ir_wk k13 (by decide) (by decide)), i10, (JT.no (by omega)), (by omega), rfl⟩
  · have dc12 : 0 < u3.toInt := nle_i (a := u3.toInt) (b := 0) rfl rfl c12
    have k14 : 1 ≤ u3.toInt ∧ u3.toInt ≤ 45 := ⟨lo_lt dc12 (Int.le_refl _) (by decide), i9.2⟩
    refine lv_aload_n hx hb dX10_joins_7 rfl (lv_at hl 0 rfl) ?_
    have n15 : G1 57 = .ref h_stack := (SAME.at i5 (by decide) e_stack)
    refine get_f (D := D) (ci := 10) (v := .ref h_stack) (C := RX10) (T := TX10) (N := 67) hx hb hw inAX10 hown hK hP 0 rfl rfl 57 (by decide) (hw _ q_1318) (fun _ h9 => h9) n15 dX10_joins_8 ?_
    refine lv_aload_n hx hb dX10_joins_11 rfl (lv_at hl 0 rfl) ?_
    refine get_f (D := D) (ci := 10) (v := .int u3) (C := RX10) (T := TX10) (N := 67) hx hb hw inAX10 hown hK hP 0 rfl rfl 60 (by decide) (hw _ q_1321) (fun _ h9 => h9) i7 dX10_joins_12 ?_
    refine lv_iconst (v := 1) hx hb dX10_joins_15 (by decide) ?_
    refine lv_isub hx hb dX10_joins_16 ?_
    refine lv_topi (fun v16 ev16 => ?_)
    have bv16 : v16.toInt = u3.toInt - 1 := by rw [ev16]; exact sub_k rfl rfl k14 ⟨Int.le_refl _, Int.le_refl _⟩ (by decide)
    have k17 : 0 ≤ v16.toInt ∧ v16.toInt ≤ 44 := sub_r bv16 k14 ⟨Int.le_refl _, Int.le_refl _⟩ (by decide)
    refine va_iald hx hb hK hP 2 0 rfl rfl (ix_k k17 (by decide) (by decide)) dX10_joins_17 ?_
    refine lv_topi (fun v18 ev18 => ?_)
    refine lv_bipush (v := 21) hx hb dX10_joins_18 (by decide) ?_
    refine lv_icmp_eq (tgt := 45) hx hb dX10_joins_20 (by decide) (fun c19 => ?_) (fun c19 => ?_)
    · have dc19 : v18.toInt = 21 := eq_i (a := v18.toInt) (b := 21) rfl rfl c19
      have k20 : 21 ≤ v18.toInt ∧ v18.toInt ≤ 21 := ⟨Int.le_trans (Int.le_refl _) (Int.le_of_eq dc19.symm), Int.le_trans (Int.le_of_eq dc19) (Int.le_refl _)⟩
      refine lv_aload_n hx hb dX10_joins_45 rfl (lv_at hl 0 rfl) ?_
      refine lv_dup hx hb dX10_joins_46 rfl ?_
      refine get_f (D := D) (ci := 10) (v := .int u3) (C := RX10) (T := TX10) (N := 67) hx hb hw inAX10 hown hK hP 0 rfl rfl 60 (by decide) (hw _ q_1321) (fun _ h9 => h9) i7 dX10_joins_47 ?_
      refine lv_iconst (v := 1) hx hb dX10_joins_50 (by decide) ?_
      refine lv_isub hx hb dX10_joins_51 ?_
      refine lv_ci (y := v16) ev16.symm ?_
      refine put_f (D := D) (ci := 10) (v := .int v16) (ty := .int) (C := RX10) (T := TX10) (N := 67) hx hb hw inAX10 tyX10 tyX10_ok nmX10 hown hK hP hD hS 0 rfl rfl 60 (by decide) (hw _ q_1321) (fun _ h9 => h9) rfl (by decide +kernel) rfl rfl dX10_joins_52 (fun H locs F21 eF21 hP hD hS => ?_)
      have hP : va_P D vwCl [(h0, .inr (10, vL 67 F21)), (h_read, .inl (cI, 135, .inl w4)), (h_stack, .inl (cI, 45, .inl f_stack))] H := hP
      have hD : va_D A [(h0, .inr (10, vL 67 F21)), (h_read, .inl (cI, 135, .inl w4)), (h_stack, .inl (cI, 45, .inl f_stack))] := hD
      refine lv_aload_n hx hb dX10_joins_55 rfl (lv_at hl 0 rfl) ?_
      refine lv_aload_n hx hb dX10_joins_56 rfl (lv_at hl 0 rfl) ?_
      have n22 : F21 57 = .ref h_stack := (get_ne eF21 (by decide) n15)
      refine get_f (D := D) (ci := 10) (v := .ref h_stack) (C := RX10) (T := TX10) (N := 67) hx hb hw inAX10 hown hK hP 0 rfl rfl 57 (by decide) (hw _ q_1318) (fun _ h9 => h9) n22 dX10_joins_57 ?_
      refine lv_aload_n hx hb dX10_joins_60 rfl (lv_at hl 0 rfl) ?_
      refine get_f (D := D) (ci := 10) (v := .int v16) (C := RX10) (T := TX10) (N := 67) hx hb hw inAX10 hown hK hP 0 rfl rfl 60 (by decide) (hw _ q_1321) (fun _ h9 => h9) (get_eq eF21) dX10_joins_61 ?_
      refine va_iald hx hb hK hP 2 0 rfl rfl (ix_k k17 (by decide) (by decide)) dX10_joins_64 ?_
      refine lv_ci (y := v18) ev18.symm ?_
      refine lv_iconst (v := 0) hx hb dX10_joins_65 (by decide) ?_
      refine lv_iconst (v := 0) hx hb dX10_joins_66 (by decide) ?_
      have n23 : G1 8 = .ref h_read := (SAME.at i5 (by decide) e_read)
      have n24 : F21 8 = .ref h_read := (get_ne eF21 (by decide) n23)
      have n25 : F21 58 = .int u2 := (get_ne eF21 (by decide) i6)
      have n26 : G1 59 = .int x_ones := (SAME.at i5 (by decide) e_ones)
      have n27 : F21 59 = .int x_ones := (get_ne eF21 (by decide) n26)
      have n28 : G1 62 = .int x_isWhole := (SAME.at i5 (by decide) e_isWhole)
      have n29 : F21 62 = .int x_isWhole := (get_ne eF21 (by decide) n28)
      refine call_Vv (wr := [(h_stack, .inl (cI, 45, .inl f_stack))]) (As := [.int v18, .int 0, .int 0]) (rest := []) hx hb hml hown hw (m_X10_code l D cI cJ cB cP cM cZ h0 h_read F21 u2 x_ones v16 x_isWhole w4 v18 0 0 _ n24 n25 (show 0 ≤ u2.toInt ∧ u2.toInt ≤ 44 from ⟨by omega, by omega⟩) n27 i_x_ones (get_eq eF21) (ir_wk k17 (by decide) (by decide)) n29 i_x_isWhole (by omega) (by omega)) wV_X10_447_X10_code dX10_joins_67 hK hP hD hS hA [0, 1] [2] rfl rfl (by decide) (by decide) (by decide) 0 10 rfl rfl GG.fb hG.at hl.1 rfl (Nat.le_of_ble_eq_true rfl) ⟨(Nat.le_of_ble_eq_true rfl), (Nat.le_of_ble_eq_true rfl)⟩ ⟨(Nat.le_of_ble_eq_true rfl), (Nat.le_of_ble_eq_true rfl)⟩ (fun u H locs hp hP hD hS => ?_)
      have zl0 : (0 : Int32).toInt = 0 := by decide
      obtain ⟨F31, y32, g33, t34, t35, t36, t37, t38, t39, rfl⟩ := hp
      have hP : va_P D vwCl [(h_stack, .inl (cI, 45, .inl f_stack)), (h0, .inr (10, vL 67 F31)), (h_read, .inl (cI, 135, .inl g33))] H := hP
      have hD : va_D A [(h_stack, .inl (cI, 45, .inl f_stack)), (h0, .inr (10, vL 67 F31)), (h_read, .inl (cI, 135, .inl g33))] := hD
      refine W.widen (k := 0) (n := 0) (Nat.le_of_ble_eq_true rfl) (Nat.le_of_ble_eq_true rfl) ?_
      refine lv_goto (tgt := 0) hx hb dX10_joins_70 (by decide) ?_
      have n41 : F31 60 = .int v16 := (SAME.at t34 (by decide) (get_eq eF21))
      exact ih (F31, y32, v16, g33) ⟨(SAME.tr (SAME.up eF21 (SAME.tr SAME.rf i5 (by decide)) (by decide)) t34 (by decide)), t35, n41, (ir_wk t36 (by decide) (by decide)), (ir_wk k17 (by decide) (by decide)), (show SMI g33 f_stack y32.toInt v16.toInt 1 from (SMI.bin i10 t38 (by omega) ev18 (by omega) (by omega) (by omega) (by omega))), (by show v16.toInt + y32.toInt + x_isWhole.toInt ≤ 2 * x_ones.toInt; omega)⟩ (by show (v16.toInt).toNat < (u3.toInt).toNat; omega) _ _ _ (hP.sub [1, 2, 0] rfl) (hD.sub [1, 2, 0] (by decide) rfl) hS (lv_sub hl [0, 1] rfl)
    · have dc19 : v18.toInt ≠ 21 := ne_i (a := v18.toInt) (b := 21) rfl rfl c19
      refine lv_aload_n hx hb dX10_joins_23 rfl (lv_at hl 0 rfl) ?_
      refine get_f (D := D) (ci := 10) (v := .ref h_stack) (C := RX10) (T := TX10) (N := 67) hx hb hw inAX10 hown hK hP 0 rfl rfl 57 (by decide) (hw _ q_1318) (fun _ h9 => h9) n15 dX10_joins_24 ?_
      refine lv_aload_n hx hb dX10_joins_27 rfl (lv_at hl 0 rfl) ?_
      refine get_f (D := D) (ci := 10) (v := .int u3) (C := RX10) (T := TX10) (N := 67) hx hb hw inAX10 hown hK hP 0 rfl rfl 60 (by decide) (hw _ q_1321) (fun _ h9 => h9) i7 dX10_joins_28 ?_
      refine lv_iconst (v := 1) hx hb dX10_joins_31 (by decide) ?_
      refine lv_isub hx hb dX10_joins_32 ?_
      refine lv_ci (y := v16) ev16.symm ?_
      refine va_iald hx hb hK hP 2 0 rfl rfl (ix_k k17 (by decide) (by decide)) dX10_joins_33 ?_
      refine lv_ci (y := v18) ev18.symm ?_
      refine lv_bipush (v := 22) hx hb dX10_joins_34 (by decide) ?_
      refine lv_icmp_ne (tgt := 73) hx hb dX10_joins_36 (by decide) (fun c42 => ?_) (fun c42 => ?_)
      · have dc42 : v18.toInt ≠ 22 := ne_i (a := v18.toInt) (b := 22) rfl rfl c42
        exact ret_v hx hb hr hlocks hS hP hD dX10_joins_73 (Nat.le_of_ble_eq_true rfl) (Nat.le_of_ble_eq_true rfl) ⟨G1, u2, u3, w4, (SAME.tr SAME.rf i5 (by decide)), i6, i8, i7, (ir_wk k14 (by decide) (by decide)), i10, (JT.at ev18 (by omega) (by omega) (by omega)), (by omega), rfl⟩
      · have dc42 : v18.toInt = 22 := eq_i (a := v18.toInt) (b := 22) rfl rfl c42
        have k43 : 22 ≤ v18.toInt ∧ v18.toInt ≤ 22 := ⟨Int.le_trans (Int.le_refl _) (Int.le_of_eq dc42.symm), Int.le_trans (Int.le_of_eq dc42) (Int.le_refl _)⟩
        refine lv_iload_n hx hb dX10_joins_39 rfl (lv_at hl 1 rfl) ?_
        refine lv_bipush (v := 22) hx hb dX10_joins_40 (by decide) ?_
        refine lv_icmp_ne (tgt := 73) hx hb dX10_joins_42 (by decide) (fun c44 => ?_) (fun c44 => ?_)
        · have dc44 : p0.toInt ≠ 22 := ne_i (a := p0.toInt) (b := 22) rfl rfl c44
          exact ret_v hx hb hr hlocks hS hP hD dX10_joins_73 (Nat.le_of_ble_eq_true rfl) (Nat.le_of_ble_eq_true rfl) ⟨G1, u2, u3, w4, (SAME.tr SAME.rf i5 (by decide)), i6, i8, i7, (ir_wk k14 (by decide) (by decide)), i10, (JT.ne (by omega)), (by omega), rfl⟩
        · have dc44 : p0.toInt = 22 := eq_i (a := p0.toInt) (b := 22) rfl rfl c44
          have k45 : 22 ≤ p0.toInt ∧ p0.toInt ≤ 22 := ⟨Int.le_trans (Int.le_refl _) (Int.le_of_eq dc44.symm), Int.le_trans (Int.le_of_eq dc44) (Int.le_refl _)⟩
          refine lv_aload_n hx hb dX10_joins_45 rfl (lv_at hl 0 rfl) ?_
          refine lv_dup hx hb dX10_joins_46 rfl ?_
          refine get_f (D := D) (ci := 10) (v := .int u3) (C := RX10) (T := TX10) (N := 67) hx hb hw inAX10 hown hK hP 0 rfl rfl 60 (by decide) (hw _ q_1321) (fun _ h9 => h9) i7 dX10_joins_47 ?_
          refine lv_iconst (v := 1) hx hb dX10_joins_50 (by decide) ?_
          refine lv_isub hx hb dX10_joins_51 ?_
          refine lv_ci (y := v16) ev16.symm ?_
          refine put_f (D := D) (ci := 10) (v := .int v16) (ty := .int) (C := RX10) (T := TX10) (N := 67) hx hb hw inAX10 tyX10 tyX10_ok nmX10 hown hK hP hD hS 0 rfl rfl 60 (by decide) (hw _ q_1321) (fun _ h9 => h9) rfl (by decide +kernel) rfl rfl dX10_joins_52 (fun H locs F46 eF46 hP hD hS => ?_)
          have hP : va_P D vwCl [(h0, .inr (10, vL 67 F46)), (h_read, .inl (cI, 135, .inl w4)), (h_stack, .inl (cI, 45, .inl f_stack))] H := hP
          have hD : va_D A [(h0, .inr (10, vL 67 F46)), (h_read, .inl (cI, 135, .inl w4)), (h_stack, .inl (cI, 45, .inl f_stack))] := hD
          refine lv_aload_n hx hb dX10_joins_55 rfl (lv_at hl 0 rfl) ?_
          refine lv_aload_n hx hb dX10_joins_56 rfl (lv_at hl 0 rfl) ?_
          have n47 : F46 57 = .ref h_stack := (get_ne eF46 (by decide) n15)
          refine get_f (D := D) (ci := 10) (v := .ref h_stack) (C := RX10) (T := TX10) (N := 67) hx hb hw inAX10 hown hK hP 0 rfl rfl 57 (by decide) (hw _ q_1318) (fun _ h9 => h9) n47 dX10_joins_57 ?_
          refine lv_aload_n hx hb dX10_joins_60 rfl (lv_at hl 0 rfl) ?_
          refine get_f (D := D) (ci := 10) (v := .int v16) (C := RX10) (T := TX10) (N := 67) hx hb hw inAX10 hown hK hP 0 rfl rfl 60 (by decide) (hw _ q_1321) (fun _ h9 => h9) (get_eq eF46) dX10_joins_61 ?_
          refine va_iald hx hb hK hP 2 0 rfl rfl (ix_k k17 (by decide) (by decide)) dX10_joins_64 ?_
          refine lv_ci (y := v18) ev18.symm ?_
          refine lv_iconst (v := 0) hx hb dX10_joins_65 (by decide) ?_
          refine lv_iconst (v := 0) hx hb dX10_joins_66 (by decide) ?_
          have n48 : G1 8 = .ref h_read := (SAME.at i5 (by decide) e_read)
          have n49 : F46 8 = .ref h_read := (get_ne eF46 (by decide) n48)
          have n50 : F46 58 = .int u2 := (get_ne eF46 (by decide) i6)
          have n51 : G1 59 = .int x_ones := (SAME.at i5 (by decide) e_ones)
          have n52 : F46 59 = .int x_ones := (get_ne eF46 (by decide) n51)
          have n53 : G1 62 = .int x_isWhole := (SAME.at i5 (by decide) e_isWhole)
          have n54 : F46 62 = .int x_isWhole := (get_ne eF46 (by decide) n53)
          refine call_Vv (wr := [(h_stack, .inl (cI, 45, .inl f_stack))]) (As := [.int v18, .int 0, .int 0]) (rest := []) hx hb hml hown hw (m_X10_code l D cI cJ cB cP cM cZ h0 h_read F46 u2 x_ones v16 x_isWhole w4 v18 0 0 _ n49 n50 (show 0 ≤ u2.toInt ∧ u2.toInt ≤ 44 from ⟨by omega, by omega⟩) n52 i_x_ones (get_eq eF46) (ir_wk k17 (by decide) (by decide)) n54 i_x_isWhole (by omega) (by omega)) wV_X10_447_X10_code dX10_joins_67 hK hP hD hS hA [0, 1] [2] rfl rfl (by decide) (by decide) (by decide) 0 10 rfl rfl GG.fb hG.at hl.1 rfl (Nat.le_of_ble_eq_true rfl) ⟨(Nat.le_of_ble_eq_true rfl), (Nat.le_of_ble_eq_true rfl)⟩ ⟨(Nat.le_of_ble_eq_true rfl), (Nat.le_of_ble_eq_true rfl)⟩ (fun u H locs hp hP hD hS => ?_)
          have zl0 : (0 : Int32).toInt = 0 := by decide
          obtain ⟨F56, y57, g58, t59, t60, t61, t62, t63, t64, rfl⟩ := hp
          have hP : va_P D vwCl [(h_stack, .inl (cI, 45, .inl f_stack)), (h0, .inr (10, vL 67 F56)), (h_read, .inl (cI, 135, .inl g58))] H := hP
          have hD : va_D A [(h_stack, .inl (cI, 45, .inl f_stack)), (h0, .inr (10, vL 67 F56)), (h_read, .inl (cI, 135, .inl g58))] := hD
          refine W.widen (k := 0) (n := 0) (Nat.le_of_ble_eq_true rfl) (Nat.le_of_ble_eq_true rfl) ?_
          refine lv_goto (tgt := 0) hx hb dX10_joins_70 (by decide) ?_
          have n66 : F56 60 = .int v16 := (SAME.at t59 (by decide) (get_eq eF46))
          exact ih (F56, y57, v16, g58) ⟨(SAME.tr (SAME.up eF46 (SAME.tr SAME.rf i5 (by decide)) (by decide)) t59 (by decide)), t60, n66, (ir_wk t61 (by decide) (by decide)), (ir_wk k17 (by decide) (by decide)), (show SMI g58 f_stack y57.toInt v16.toInt 1 from (SMI.bin i10 t63 (by omega) ev18 (by omega) (by omega) (by omega) (by omega))), (by show v16.toInt + y57.toInt + x_isWhole.toInt ≤ 2 * x_ones.toInt; omega)⟩ (by show (v16.toInt).toNat < (u3.toInt).toNat; omega) _ _ _ (hP.sub [1, 2, 0] rfl) (hD.sub [1, 2, 0] (by decide) rfl) hS (lv_sub hl [0, 1] rfl)
set_option maxHeartbeats 4000000 in
set_option maxRecDepth 100000 in
theorem m_X10_nots (l : Launch) (D : va_G) (cI cJ cB cP cM cZ : ClassId) (h0 : Nat) (h_read : Nat) (h_stack : Nat) (Fh : Nat → Value) (x_codes : Int32) (x_ones : Int32) (x_top : Int32) (x_deep : Int32) (x_isWhole : Int32) (f_read : Nat → Int32) (f_stack : Nat → Int32) (sz : Nat) (e_read : Fh 8 = .ref h_read) (e_stack : Fh 57 = .ref h_stack) (e_codes : Fh 58 = .int x_codes) (i_x_codes : IR 0 45 x_codes) (e_ones : Fh 59 = .int x_ones) (i_x_ones : IR 0 20 x_ones) (e_top : Fh 60 = .int x_top) (i_x_top : IR 0 45 x_top) (e_deep : Fh 61 = .int x_deep) (e_isWhole : Fh 62 = .int x_isWhole) (i_x_isWhole : IR 0 1 x_isWhole) (z_0 : x_isWhole.toInt = 1) (z_1 : SMI f_read f_stack x_codes.toInt x_top.toInt 1) (o_0 : x_top.toInt + x_codes.toInt + x_isWhole.toInt ≤ 2 * x_ones.toInt) : CV l yX10_nots cX10_nots 1 none { frames := 1, cells := 0, slots := 0, locals := 23 } (GG D cI cJ cB cP cM cZ) D [(h0, .inr (10, vL 67 Fh)), (h_read, .inl (cI, 135, .inl f_read)), (h_stack, .inl (cI, 45, .inl f_stack))] sz [.ref h0] (fun (u : va_W) => ∃ (Gh : Nat → Value) (y_codes : Int32) (y_top : Int32) (y_deep : Int32) (g_read : Nat → Int32), SAME [58, 60, 61] Fh Gh ∧ Gh 58 = .int y_codes ∧ IR 0 45 y_codes ∧ Gh 60 = .int y_top ∧ IR 0 45 y_top ∧ Gh 61 = .int y_deep ∧ (SMI g_read f_stack y_codes.toInt y_top.toInt 1) ∧ (y_top.toInt + y_codes.toInt + x_isWhole.toInt ≤ 2 * x_ones.toInt) ∧ u = [(h0, .inr (10, vL 67 Gh)), (h_read, .inl (cI, 135, .inl g_read)), (h_stack, .inl (cI, 45, .inl f_stack))]) := by
  refine CV_mk (by decide) (Nat.le_of_ble_eq_true rfl) ?_
  intro p e s m below meth c A ls E hAe hG hsz hP hD hA hS hl
  obtain ⟨hx, hb, hr, hw, hown, hlocks, hml, hnm⟩ := E
  have hK := hG.1
  have i_x_codes : 0 ≤ x_codes.toInt ∧ x_codes.toInt ≤ 45 := i_x_codes
  have i_x_ones : 0 ≤ x_ones.toInt ∧ x_ones.toInt ≤ 20 := i_x_ones
  have i_x_top : 0 ≤ x_top.toInt ∧ x_top.toInt ≤ 45 := i_x_top
  have i_x_isWhole : 0 ≤ x_isWhole.toInt ∧ x_isWhole.toInt ≤ 1 := i_x_isWhole
  have hl : lv_has ls 1 [(0, .ref h0)] := hl
  refine mloop (α := (Nat → Value) × (Int32) × (Int32) × (Int32) × (Nat → Int32)) (nL := 1) (D := D) (A := A) (H0 := s.heap) (fun a => (a.2.2.1.toInt).toNat) (fun a => SAME [58, 60, 61] Fh a.1 ∧ a.1 58 = .int a.2.1 ∧ a.1 60 = .int a.2.2.1 ∧ a.1 61 = .int a.2.2.2.1 ∧ IR 0 45 a.2.1 ∧ IR 0 45 a.2.2.1 ∧ (SMI a.2.2.2.2 f_stack a.2.1.toInt a.2.2.1.toInt 1) ∧ (a.2.2.1.toInt + a.2.1.toInt + x_isWhole.toInt ≤ 2 * x_ones.toInt)) (fun a => [(h0, .inr (10, vL 67 a.1)), (h_read, .inl (cI, 135, .inl a.2.2.2.2)), (h_stack, .inl (cI, 45, .inl f_stack))]) (fun a => [(0, .ref h0)]) (fun H locs ls => W p l e ({ frames := 1, cells := 0, slots := 0, locals := 23 } : Room) s m [.ref h0].toArray below meth c H locs 0 0 (MQ below (va_Qv (fun (u : va_W) => ∃ (Gh : Nat → Value) (y_codes : Int32) (y_top : Int32) (y_deep : Int32) (g_read : Nat → Int32), SAME [58, 60, 61] Fh Gh ∧ Gh 58 = .int y_codes ∧ IR 0 45 y_codes ∧ Gh 60 = .int y_top ∧ IR 0 45 y_top ∧ Gh 61 = .int y_deep ∧ (SMI g_read f_stack y_codes.toInt y_top.toInt 1) ∧ (y_top.toInt + y_codes.toInt + x_isWhole.toInt ≤ 2 * x_ones.toInt) ∧ u = [(h0, .inr (10, vL 67 Gh)), (h_read, .inl (cI, 135, .inl g_read)), (h_stack, .inl (cI, 45, .inl f_stack))]) (PO D A) A) [.ref h0].toArray s 0 0 A) (F0 m 0 ls [])) ?_ (Fh, x_codes, x_top, x_deep, f_read) ⟨SAME.rf, e_codes, e_top, e_deep, i_x_codes, i_x_top, (show SMI f_read f_stack x_codes.toInt x_top.toInt 1 from z_1), (by show x_top.toInt + x_codes.toInt + x_isWhole.toInt ≤ 2 * x_ones.toInt; omega)⟩ _ _ _ hP hD hS hl
  rintro ⟨G1, u2, u3, u4, w5⟩ ⟨i6, i7, i8, i9, i10, i11, i12, i13⟩ ih H locs ls hP hD hS hl
  have i10 : 0 ≤ u2.toInt ∧ u2.toInt ≤ 45 := i10
  have i11 : 0 ≤ u3.toInt ∧ u3.toInt ≤ 45 := i11
  have i12 : SMI w5 f_stack u2.toInt u3.toInt 1 := i12
  have i13 : u3.toInt + u2.toInt + x_isWhole.toInt ≤ 2 * x_ones.toInt := i13
  have hP : va_P D vwCl [(h0, .inr (10, vL 67 G1)), (h_read, .inl (cI, 135, .inl w5)), (h_stack, .inl (cI, 45, .inl f_stack))] H := hP
  have hD : va_D A [(h0, .inr (10, vL 67 G1)), (h_read, .inl (cI, 135, .inl w5)), (h_stack, .inl (cI, 45, .inl f_stack))] := hD
  have hl : lv_has ls 1 [(0, .ref h0)] := hl
  refine lv_aload_n hx hb dX10_nots_0 rfl (lv_at hl 0 rfl) ?_
  refine get_f (D := D) (ci := 10) (v := .int u3) (C := RX10) (T := TX10) (N := 67) hx hb hw inAX10 hown hK hP 0 rfl rfl 60 (by decide) (hw _ q_1321) (fun _ h9 => h9) i8 dX10_nots_1 ?_
  refine lv_if_le (tgt := 54) hx hb dX10_nots_4 (by decide) (fun c14 => ?_) (fun c14 => ?_)
  · have dc14 : u3.toInt ≤ 0 := le_i (a := u3.toInt) (b := 0) rfl rfl c14
    have k15 : 0 ≤ u3.toInt ∧ u3.toInt ≤ 0 := ⟨i11.1, Int.le_trans dc14 (Int.le_refl _)⟩
    exact ret_v hx hb hr hlocks hS hP hD dX10_nots_54 (Nat.le_of_ble_eq_true rfl) (Nat.le_of_ble_eq_true rfl) ⟨G1, u2, u3, u4, w5, (SAME.tr SAME.rf i6 (by decide)), i7, i10, i8, (ir_wk k15 (by decide) (by decide)), i9, i12, (by omega), rfl⟩
  · have dc14 : 0 < u3.toInt := nle_i (a := u3.toInt) (b := 0) rfl rfl c14
    have k16 : 1 ≤ u3.toInt ∧ u3.toInt ≤ 45 := ⟨lo_lt dc14 (Int.le_refl _) (by decide), i11.2⟩
    refine lv_aload_n hx hb dX10_nots_7 rfl (lv_at hl 0 rfl) ?_
    have n17 : G1 57 = .ref h_stack := (SAME.at i6 (by decide) e_stack)
    refine get_f (D := D) (ci := 10) (v := .ref h_stack) (C := RX10) (T := TX10) (N := 67) hx hb hw inAX10 hown hK hP 0 rfl rfl 57 (by decide) (hw _ q_1318) (fun _ h9 => h9) n17 dX10_nots_8 ?_
    refine lv_aload_n hx hb dX10_nots_11 rfl (lv_at hl 0 rfl) ?_
    refine get_f (D := D) (ci := 10) (v := .int u3) (C := RX10) (T := TX10) (N := 67) hx hb hw inAX10 hown hK hP 0 rfl rfl 60 (by decide) (hw _ q_1321) (fun _ h9 => h9) i8 dX10_nots_12 ?_
    refine lv_iconst (v := 1) hx hb dX10_nots_15 (by decide) ?_
    refine lv_isub hx hb dX10_nots_16 ?_
    refine lv_topi (fun v18 ev18 => ?_)
    have bv18 : v18.toInt = u3.toInt - 1 := by rw [ev18]; exact sub_k rfl rfl k16 ⟨Int.le_refl _, Int.le_refl _⟩ (by decide)
    have k19 : 0 ≤ v18.toInt ∧ v18.toInt ≤ 44 := sub_r bv18 k16 ⟨Int.le_refl _, Int.le_refl _⟩ (by decide)
    refine va_iald hx hb hK hP 2 0 rfl rfl (ix_k k19 (by decide) (by decide)) dX10_nots_17 ?_
    refine lv_topi (fun v20 ev20 => ?_)
    refine lv_bipush (v := 20) hx hb dX10_nots_18 (by decide) ?_
    refine lv_icmp_ne (tgt := 54) hx hb dX10_nots_20 (by decide) (fun c21 => ?_) (fun c21 => ?_)
    · have dc21 : v20.toInt ≠ 20 := ne_i (a := v20.toInt) (b := 20) rfl rfl c21
      exact ret_v hx hb hr hlocks hS hP hD dX10_nots_54 (Nat.le_of_ble_eq_true rfl) (Nat.le_of_ble_eq_true rfl) ⟨G1, u2, u3, u4, w5, (SAME.tr SAME.rf i6 (by decide)), i7, i10, i8, (ir_wk k16 (by decide) (by decide)), i9, i12, (by omega), rfl⟩
    · have dc21 : v20.toInt = 20 := eq_i (a := v20.toInt) (b := 20) rfl rfl c21
      have k22 : 20 ≤ v20.toInt ∧ v20.toInt ≤ 20 := ⟨Int.le_trans (Int.le_refl _) (Int.le_of_eq dc21.symm), Int.le_trans (Int.le_of_eq dc21) (Int.le_refl _)⟩
      refine lv_aload_n hx hb dX10_nots_23 rfl (lv_at hl 0 rfl) ?_
      refine lv_dup hx hb dX10_nots_24 rfl ?_
      refine get_f (D := D) (ci := 10) (v := .int u3) (C := RX10) (T := TX10) (N := 67) hx hb hw inAX10 hown hK hP 0 rfl rfl 60 (by decide) (hw _ q_1321) (fun _ h9 => h9) i8 dX10_nots_25 ?_
      refine lv_iconst (v := 1) hx hb dX10_nots_28 (by decide) ?_
      refine lv_isub hx hb dX10_nots_29 ?_
      refine lv_ci (y := v18) ev18.symm ?_
      refine put_f (D := D) (ci := 10) (v := .int v18) (ty := .int) (C := RX10) (T := TX10) (N := 67) hx hb hw inAX10 tyX10 tyX10_ok nmX10 hown hK hP hD hS 0 rfl rfl 60 (by decide) (hw _ q_1321) (fun _ h9 => h9) rfl (by decide +kernel) rfl rfl dX10_nots_30 (fun H locs F23 eF23 hP hD hS => ?_)
      have hP : va_P D vwCl [(h0, .inr (10, vL 67 F23)), (h_read, .inl (cI, 135, .inl w5)), (h_stack, .inl (cI, 45, .inl f_stack))] H := hP
      have hD : va_D A [(h0, .inr (10, vL 67 F23)), (h_read, .inl (cI, 135, .inl w5)), (h_stack, .inl (cI, 45, .inl f_stack))] := hD
      refine lv_aload_n hx hb dX10_nots_33 rfl (lv_at hl 0 rfl) ?_
      refine lv_dup hx hb dX10_nots_34 rfl ?_
      have n24 : F23 61 = .int u4 := (get_ne eF23 (by decide) i9)
      refine get_f (D := D) (ci := 10) (v := .int u4) (C := RX10) (T := TX10) (N := 67) hx hb hw inAX10 hown hK hP 0 rfl rfl 61 (by decide) (hw _ q_1322) (fun _ h9 => h9) n24 dX10_nots_35 ?_
      refine lv_iconst (v := 1) hx hb dX10_nots_38 (by decide) ?_
      refine lv_isub hx hb dX10_nots_39 ?_
      refine lv_topi (fun v25 ev25 => ?_)
      refine put_f (D := D) (ci := 10) (v := .int v25) (ty := .int) (C := RX10) (T := TX10) (N := 67) hx hb hw inAX10 tyX10 tyX10_ok nmX10 hown hK hP hD hS 0 rfl rfl 61 (by decide) (hw _ q_1322) (fun _ h9 => h9) rfl (by decide +kernel) rfl rfl dX10_nots_40 (fun H locs F26 eF26 hP hD hS => ?_)
      have hP : va_P D vwCl [(h0, .inr (10, vL 67 F26)), (h_read, .inl (cI, 135, .inl w5)), (h_stack, .inl (cI, 45, .inl f_stack))] H := hP
      have hD : va_D A [(h0, .inr (10, vL 67 F26)), (h_read, .inl (cI, 135, .inl w5)), (h_stack, .inl (cI, 45, .inl f_stack))] := hD
      refine lv_aload_n hx hb dX10_nots_43 rfl (lv_at hl 0 rfl) ?_
      refine lv_bipush (v := 20) hx hb dX10_nots_44 (by decide) ?_
      refine lv_iconst (v := 0) hx hb dX10_nots_46 (by decide) ?_
      refine lv_iconst (v := 0) hx hb dX10_nots_47 (by decide) ?_
      have n27 : G1 8 = .ref h_read := (SAME.at i6 (by decide) e_read)
      have n28 : F23 8 = .ref h_read := (get_ne eF23 (by decide) n27)
      have n29 : F26 8 = .ref h_read := (get_ne eF26 (by decide) n28)
      have n30 : F23 58 = .int u2 := (get_ne eF23 (by decide) i7)
      have n31 : F26 58 = .int u2 := (get_ne eF26 (by decide) n30)
      have n32 : G1 59 = .int x_ones := (SAME.at i6 (by decide) e_ones)
      have n33 : F23 59 = .int x_ones := (get_ne eF23 (by decide) n32)
      have n34 : F26 59 = .int x_ones := (get_ne eF26 (by decide) n33)
      have n35 : F26 60 = .int v18 := (get_ne eF26 (by decide) (get_eq eF23))
      have n36 : G1 62 = .int x_isWhole := (SAME.at i6 (by decide) e_isWhole)
      have n37 : F23 62 = .int x_isWhole := (get_ne eF23 (by decide) n36)
      have n38 : F26 62 = .int x_isWhole := (get_ne eF26 (by decide) n37)
      refine call_Vv (wr := [(h_stack, .inl (cI, 45, .inl f_stack))]) (As := [.int 20, .int 0, .int 0]) (rest := []) hx hb hml hown hw (m_X10_code l D cI cJ cB cP cM cZ h0 h_read F26 u2 x_ones v18 x_isWhole w5 20 0 0 _ n29 n31 (show 0 ≤ u2.toInt ∧ u2.toInt ≤ 44 from ⟨by omega, by omega⟩) n34 i_x_ones n35 (ir_wk k19 (by decide) (by decide)) n38 i_x_isWhole (by omega) (by omega)) wV_X10_447_X10_code dX10_nots_48 hK hP hD hS hA [0, 1] [2] rfl rfl (by decide) (by decide) (by decide) 0 10 rfl rfl GG.fb hG.at hl.1 rfl (Nat.le_of_ble_eq_true rfl) ⟨(Nat.le_of_ble_eq_true rfl), (Nat.le_of_ble_eq_true rfl)⟩ ⟨(Nat.le_of_ble_eq_true rfl), (Nat.le_of_ble_eq_true rfl)⟩ (fun u H locs hp hP hD hS => ?_)
      have zl0 : (0 : Int32).toInt = 0 := by decide
      have zl20 : (20 : Int32).toInt = 20 := by decide
      obtain ⟨F40, y41, g42, t43, t44, t45, t46, t47, t48, rfl⟩ := hp
      have hP : va_P D vwCl [(h_stack, .inl (cI, 45, .inl f_stack)), (h0, .inr (10, vL 67 F40)), (h_read, .inl (cI, 135, .inl g42))] H := hP
      have hD : va_D A [(h_stack, .inl (cI, 45, .inl f_stack)), (h0, .inr (10, vL 67 F40)), (h_read, .inl (cI, 135, .inl g42))] := hD
      refine W.widen (k := 0) (n := 0) (Nat.le_of_ble_eq_true rfl) (Nat.le_of_ble_eq_true rfl) ?_
      refine lv_goto (tgt := 0) hx hb dX10_nots_51 (by decide) ?_
      have n50 : F40 60 = .int v18 := (SAME.at t43 (by decide) n35)
      have n51 : F40 61 = .int v25 := (SAME.at t43 (by decide) (get_eq eF26))
      exact ih (F40, y41, v18, v25, g42) ⟨(SAME.tr (SAME.up eF26 (SAME.up eF23 (SAME.tr SAME.rf i6 (by decide)) (by decide)) (by decide)) t43 (by decide)), t44, n50, n51, (ir_wk t45 (by decide) (by decide)), (ir_wk k19 (by decide) (by decide)), (show SMI g42 f_stack y41.toInt v18.toInt 1 from (SMI.not i12 t47 (by decide) (by omega) ev20 (by omega) (by omega) (by omega) (by omega))), (by show v18.toInt + y41.toInt + x_isWhole.toInt ≤ 2 * x_ones.toInt; omega)⟩ (by show (v18.toInt).toNat < (u3.toInt).toNat; omega) _ _ _ (hP.sub [1, 2, 0] rfl) (hD.sub [1, 2, 0] (by decide) rfl) hS (lv_sub hl [0] rfl)
set_option maxHeartbeats 4000000 in
set_option maxRecDepth 100000 in
theorem m_X10_leafOf (l : Launch) (D : va_G) (cI cJ cB cP cM cZ : ClassId) (h0 : Nat) (Fh : Nat → Value) (x_token : Int32) (x_number : Int32) (x_word : Int64) (sz : Nat) (e_token : Fh 11 = .int x_token) (i_x_token : IR 0 4 x_token) (e_number : Fh 14 = .int x_number) (e_word : Fh 18 = .long x_word) (z_0 : (VWF x_token.toInt x_word.toInt)) (o_0 : (x_token.toInt = 2 → 0 ≤ x_number.toInt ∧ x_number.toInt ≤ 999)) : CI l yX10_leafOf cX10_leafOf 1 (some .int) { frames := 1, cells := 0, slots := 0, locals := 22 } (GG D cI cJ cB cP cM cZ) D [(h0, .inr (10, vL 67 Fh))] sz [.ref h0] (fun (r : Int32) (u : va_W) => IR (-1) 6 r ∧ ((0 ≤ r.toInt → x_token.toInt = 1)) ∧ u = [(h0, .inr (10, vL 67 Fh))]) := by
  refine CI_mk (by decide) (Nat.le_of_ble_eq_true rfl) ?_
  intro p e s m below meth c A ls E hAe hG hsz hP hD hA hS hl
  obtain ⟨hx, hb, hr, hw, hown, hlocks, hml, hnm⟩ := E
  have hK := hG.1
  have i_x_token : 0 ≤ x_token.toInt ∧ x_token.toInt ≤ 4 := i_x_token
  have hl : lv_has ls 1 [(0, .ref h0)] := hl
  refine lv_aload_n hx hb dX10_leafOf_0 rfl (lv_at hl 0 rfl) ?_
  refine lv_ldc2 hx hb hown (hw _ q_1242) dX10_leafOf_1 ?_
  refine call_Vi (wr := []) (As := [.long 1668441463]) (rest := []) hx hb hml hown hw (m_X10_isWord l D cI cJ cB cP cM cZ h0 Fh x_token x_number x_word 1668441463 _ e_token i_x_token e_number e_word (by omega)) wV_X10_225_X10_isWord dX10_leafOf_4 hK hP hD hS hA [0] [] rfl rfl (by decide) (by decide) (by decide) 0 10 rfl rfl GG.fb hG.at hl.1 rfl (Nat.le_of_ble_eq_true rfl) ⟨(Nat.le_of_ble_eq_true rfl), (Nat.le_of_ble_eq_true rfl)⟩ ⟨(Nat.le_of_ble_eq_true rfl), (Nat.le_of_ble_eq_true rfl)⟩ (fun r1 u H locs hp hP hD hS => ?_)
  have zl1668441463 : (1668441463 : Int32).toInt = 1668441463 := by decide
  obtain ⟨t2, t3, rfl⟩ := hp
  have hP : va_P D vwCl [(h0, .inr (10, vL 67 Fh))] H := hP
  have hD : va_D A [(h0, .inr (10, vL 67 Fh))] := hD
  refine W.widen (k := 0) (n := 0) (Nat.le_of_ble_eq_true rfl) (Nat.le_of_ble_eq_true rfl) ?_
  replace t3 := (isw (k := 8) (a := 72329) z_0 t3 (by decide) (by decide +kernel) (by decide +kernel) (by decide +kernel) (by decide +kernel))
  refine lv_if_eq (tgt := 14) hx hb dX10_leafOf_7 (by decide) (fun c5 => ?_) (fun c5 => ?_)
  · have dc5 : r1.toInt = 0 := eq_i (a := r1.toInt) (b := 0) rfl rfl c5
    have k6 : 0 ≤ r1.toInt ∧ r1.toInt ≤ 0 := ⟨t2.1, Int.le_trans (Int.le_of_eq dc5) (Int.le_refl _)⟩
    refine lv_aload_n hx hb dX10_leafOf_14 rfl (lv_at hl 0 rfl) ?_
    refine lv_ldc2 hx hb hown (hw _ q_1251) dX10_leafOf_15 ?_
    refine call_Vi (wr := []) (As := [.long 1734702195]) (rest := []) hx hb hml hown hw (m_X10_isWord l D cI cJ cB cP cM cZ h0 Fh x_token x_number x_word 1734702195 _ e_token i_x_token e_number e_word (by omega)) wV_X10_225_X10_isWord dX10_leafOf_18 hK hP hD hS hA [0] [] rfl rfl (by decide) (by decide) (by decide) 0 10 rfl rfl GG.fb hG.at hl.1 rfl (Nat.le_of_ble_eq_true rfl) ⟨(Nat.le_of_ble_eq_true rfl), (Nat.le_of_ble_eq_true rfl)⟩ ⟨(Nat.le_of_ble_eq_true rfl), (Nat.le_of_ble_eq_true rfl)⟩ (fun r7 u H locs hp hP hD hS => ?_)
    have zl1734702195 : (1734702195 : Int32).toInt = 1734702195 := by decide
    obtain ⟨t8, t9, rfl⟩ := hp
    have hP : va_P D vwCl [(h0, .inr (10, vL 67 Fh))] H := hP
    have hD : va_D A [(h0, .inr (10, vL 67 Fh))] := hD
    refine W.widen (k := 0) (n := 0) (Nat.le_of_ble_eq_true rfl) (Nat.le_of_ble_eq_true rfl) ?_
    replace t9 := (isw (k := 17) (a := 141985) z_0 t9 (by decide) (by decide +kernel) (by decide +kernel) (by decide +kernel) (by decide +kernel))
    refine lv_if_eq (tgt := 28) hx hb dX10_leafOf_21 (by decide) (fun c11 => ?_) (fun c11 => ?_)
    · have dc11 : r7.toInt = 0 := eq_i (a := r7.toInt) (b := 0) rfl rfl c11
      have k12 : 0 ≤ r7.toInt ∧ r7.toInt ≤ 0 := ⟨t8.1, Int.le_trans (Int.le_of_eq dc11) (Int.le_refl _)⟩
      refine lv_aload_n hx hb dX10_leafOf_28 rfl (lv_at hl 0 rfl) ?_
      refine lv_ldc2 hx hb hown (hw _ q_1252) dX10_leafOf_29 ?_
      refine call_Vi (wr := []) (As := [.long 418363302244]) (rest := []) hx hb hml hown hw (m_X10_isWord l D cI cJ cB cP cM cZ h0 Fh x_token x_number x_word 418363302244 _ e_token i_x_token e_number e_word (by omega)) wV_X10_225_X10_isWord dX10_leafOf_32 hK hP hD hS hA [0] [] rfl rfl (by decide) (by decide) (by decide) 0 10 rfl rfl GG.fb hG.at hl.1 rfl (Nat.le_of_ble_eq_true rfl) ⟨(Nat.le_of_ble_eq_true rfl), (Nat.le_of_ble_eq_true rfl)⟩ ⟨(Nat.le_of_ble_eq_true rfl), (Nat.le_of_ble_eq_true rfl)⟩ (fun r13 u H locs hp hP hD hS => ?_)
      obtain ⟨t14, t15, rfl⟩ := hp
      have hP : va_P D vwCl [(h0, .inr (10, vL 67 Fh))] H := hP
      have hD : va_D A [(h0, .inr (10, vL 67 Fh))] := hD
      refine W.widen (k := 0) (n := 0) (Nat.le_of_ble_eq_true rfl) (Nat.le_of_ble_eq_true rfl) ?_
      replace t15 := (isw (k := 18) (a := 692581) z_0 t15 (by decide) (by decide +kernel) (by decide +kernel) (by decide +kernel) (by decide +kernel))
      refine lv_if_eq (tgt := 42) hx hb dX10_leafOf_35 (by decide) (fun c17 => ?_) (fun c17 => ?_)
      · have dc17 : r13.toInt = 0 := eq_i (a := r13.toInt) (b := 0) rfl rfl c17
        have k18 : 0 ≤ r13.toInt ∧ r13.toInt ≤ 0 := ⟨t14.1, Int.le_trans (Int.le_of_eq dc17) (Int.le_refl _)⟩
        refine lv_aload_n hx hb dX10_leafOf_42 rfl (lv_at hl 0 rfl) ?_
        refine lv_ldc2 hx hb hown (hw _ q_1253) dX10_leafOf_43 ?_
        refine call_Vi (wr := []) (As := [.long 1886745448]) (rest := []) hx hb hml hown hw (m_X10_isWord l D cI cJ cB cP cM cZ h0 Fh x_token x_number x_word 1886745448 _ e_token i_x_token e_number e_word (by omega)) wV_X10_225_X10_isWord dX10_leafOf_46 hK hP hD hS hA [0] [] rfl rfl (by decide) (by decide) (by decide) 0 10 rfl rfl GG.fb hG.at hl.1 rfl (Nat.le_of_ble_eq_true rfl) ⟨(Nat.le_of_ble_eq_true rfl), (Nat.le_of_ble_eq_true rfl)⟩ ⟨(Nat.le_of_ble_eq_true rfl), (Nat.le_of_ble_eq_true rfl)⟩ (fun r19 u H locs hp hP hD hS => ?_)
        have zl1886745448 : (1886745448 : Int32).toInt = 1886745448 := by decide
        obtain ⟨t20, t21, rfl⟩ := hp
        have hP : va_P D vwCl [(h0, .inr (10, vL 67 Fh))] H := hP
        have hD : va_D A [(h0, .inr (10, vL 67 Fh))] := hD
        refine W.widen (k := 0) (n := 0) (Nat.le_of_ble_eq_true rfl) (Nat.le_of_ble_eq_true rfl) ?_
        replace t21 := (isw (k := 19) (a := 330758) z_0 t21 (by decide) (by decide +kernel) (by decide +kernel) (by decide +kernel) (by decide +kernel))
        refine lv_if_eq (tgt := 56) hx hb dX10_leafOf_49 (by decide) (fun c23 => ?_) (fun c23 => ?_)
        · have dc23 : r19.toInt = 0 := eq_i (a := r19.toInt) (b := 0) rfl rfl c23
          have k24 : 0 ≤ r19.toInt ∧ r19.toInt ≤ 0 := ⟨t20.1, Int.le_trans (Int.le_of_eq dc23) (Int.le_refl _)⟩
          refine lv_aload_n hx hb dX10_leafOf_56 rfl (lv_at hl 0 rfl) ?_
          refine lv_ldc2 hx hb hown (hw _ q_1254) dX10_leafOf_57 ?_
          refine call_Vi (wr := []) (As := [.long 1717921140]) (rest := []) hx hb hml hown hw (m_X10_isWord l D cI cJ cB cP cM cZ h0 Fh x_token x_number x_word 1717921140 _ e_token i_x_token e_number e_word (by omega)) wV_X10_225_X10_isWord dX10_leafOf_60 hK hP hD hS hA [0] [] rfl rfl (by decide) (by decide) (by decide) 0 10 rfl rfl GG.fb hG.at hl.1 rfl (Nat.le_of_ble_eq_true rfl) ⟨(Nat.le_of_ble_eq_true rfl), (Nat.le_of_ble_eq_true rfl)⟩ ⟨(Nat.le_of_ble_eq_true rfl), (Nat.le_of_ble_eq_true rfl)⟩ (fun r25 u H locs hp hP hD hS => ?_)
          have zl1717921140 : (1717921140 : Int32).toInt = 1717921140 := by decide
          obtain ⟨t26, t27, rfl⟩ := hp
          have hP : va_P D vwCl [(h0, .inr (10, vL 67 Fh))] H := hP
          have hD : va_D A [(h0, .inr (10, vL 67 Fh))] := hD
          refine W.widen (k := 0) (n := 0) (Nat.le_of_ble_eq_true rfl) (Nat.le_of_ble_eq_true rfl) ?_
          replace t27 := (isw (k := 20) (a := 121898) z_0 t27 (by decide) (by decide +kernel) (by decide +kernel) (by decide +kernel) (by decide +kernel))
          refine lv_if_eq (tgt := 70) hx hb dX10_leafOf_63 (by decide) (fun c29 => ?_) (fun c29 => ?_)
          · have dc29 : r25.toInt = 0 := eq_i (a := r25.toInt) (b := 0) rfl rfl c29
            have k30 : 0 ≤ r25.toInt ∧ r25.toInt ≤ 0 := ⟨t26.1, Int.le_trans (Int.le_of_eq dc29) (Int.le_refl _)⟩
            refine lv_aload_n hx hb dX10_leafOf_70 rfl (lv_at hl 0 rfl) ?_
            refine lv_ldc2 hx hb hown (hw _ q_1255) dX10_leafOf_71 ?_
            refine call_Vi (wr := []) (As := [.long 131277443786868]) (rest := []) hx hb hml hown hw (m_X10_isWord l D cI cJ cB cP cM cZ h0 Fh x_token x_number x_word 131277443786868 _ e_token i_x_token e_number e_word (by omega)) wV_X10_225_X10_isWord dX10_leafOf_74 hK hP hD hS hA [0] [] rfl rfl (by decide) (by decide) (by decide) 0 10 rfl rfl GG.fb hG.at hl.1 rfl (Nat.le_of_ble_eq_true rfl) ⟨(Nat.le_of_ble_eq_true rfl), (Nat.le_of_ble_eq_true rfl)⟩ ⟨(Nat.le_of_ble_eq_true rfl), (Nat.le_of_ble_eq_true rfl)⟩ (fun r31 u H locs hp hP hD hS => ?_)
            obtain ⟨t32, t33, rfl⟩ := hp
            have hP : va_P D vwCl [(h0, .inr (10, vL 67 Fh))] H := hP
            have hD : va_D A [(h0, .inr (10, vL 67 Fh))] := hD
            refine W.widen (k := 0) (n := 0) (Nat.le_of_ble_eq_true rfl) (Nat.le_of_ble_eq_true rfl) ?_
            replace t33 := (isw (k := 21) (a := 332864552) z_0 t33 (by decide) (by decide +kernel) (by decide +kernel) (by decide +kernel) (by decide +kernel))
            refine lv_if_eq (tgt := 84) hx hb dX10_leafOf_77 (by decide) (fun c35 => ?_) (fun c35 => ?_)
            · have dc35 : r31.toInt = 0 := eq_i (a := r31.toInt) (b := 0) rfl rfl c35
              have k36 : 0 ≤ r31.toInt ∧ r31.toInt ≤ 0 := ⟨t32.1, Int.le_trans (Int.le_of_eq dc35) (Int.le_refl _)⟩
              refine lv_aload_n hx hb dX10_leafOf_84 rfl (lv_at hl 0 rfl) ?_
              refine lv_ldc2 hx hb hown (hw _ q_1256) dX10_leafOf_85 ?_
              refine call_Vi (wr := []) (As := [.long 121450625394034]) (rest := []) hx hb hml hown hw (m_X10_isWord l D cI cJ cB cP cM cZ h0 Fh x_token x_number x_word 121450625394034 _ e_token i_x_token e_number e_word (by omega)) wV_X10_225_X10_isWord dX10_leafOf_88 hK hP hD hS hA [0] [] rfl rfl (by decide) (by decide) (by decide) 0 10 rfl rfl GG.fb hG.at hl.1 rfl (Nat.le_of_ble_eq_true rfl) ⟨(Nat.le_of_ble_eq_true rfl), (Nat.le_of_ble_eq_true rfl)⟩ ⟨(Nat.le_of_ble_eq_true rfl), (Nat.le_of_ble_eq_true rfl)⟩ (fun r37 u H locs hp hP hD hS => ?_)
              obtain ⟨t38, t39, rfl⟩ := hp
              have hP : va_P D vwCl [(h0, .inr (10, vL 67 Fh))] H := hP
              have hD : va_D A [(h0, .inr (10, vL 67 Fh))] := hD
              refine W.widen (k := 0) (n := 0) (Nat.le_of_ble_eq_true rfl) (Nat.le_of_ble_eq_true rfl) ?_
              replace t39 := (isw (k := 22) (a := 212302449) z_0 t39 (by decide) (by decide +kernel) (by decide +kernel) (by decide +kernel) (by decide +kernel))
              refine lv_if_eq (tgt := 99) hx hb dX10_leafOf_91 (by decide) (fun c41 => ?_) (fun c41 => ?_)
              · have dc41 : r37.toInt = 0 := eq_i (a := r37.toInt) (b := 0) rfl rfl c41
                have k42 : 0 ≤ r37.toInt ∧ r37.toInt ≤ 0 := ⟨t38.1, Int.le_trans (Int.le_of_eq dc41) (Int.le_refl _)⟩
                refine lv_iconst (v := (-1)) hx hb dX10_leafOf_99 (by decide) ?_
                exact ret_i (v := (-1)) hx hb hr hlocks hS hP hD dX10_leafOf_100 rfl (Nat.le_of_ble_eq_true rfl) (Nat.le_of_ble_eq_true rfl) ⟨(show (-1) ≤ ((-1) : Int32).toInt ∧ ((-1) : Int32).toInt ≤ 6 by decide), (by have zlm1 : ((-1) : Int32).toInt = (-1) := (by decide); omega), rfl⟩
              · have dc41 : r37.toInt ≠ 0 := ne_i (a := r37.toInt) (b := 0) rfl rfl c41
                have k43 : 1 ≤ r37.toInt ∧ r37.toInt ≤ 1 := ⟨ne_lo dc41 t38.1 ⟨Int.le_refl _, Int.le_refl _⟩ (by decide), t38.2⟩
                refine lv_bipush (v := 6) hx hb dX10_leafOf_94 (by decide) ?_
                refine lv_goto (tgt := 100) hx hb dX10_leafOf_96 (by decide) ?_
                exact ret_i (v := 6) hx hb hr hlocks hS hP hD dX10_leafOf_100 rfl (Nat.le_of_ble_eq_true rfl) (Nat.le_of_ble_eq_true rfl) ⟨(show (-1) ≤ (6 : Int32).toInt ∧ (6 : Int32).toInt ≤ 6 by decide), (by have zl6 : (6 : Int32).toInt = 6 := (by decide); omega), rfl⟩
            · have dc35 : r31.toInt ≠ 0 := ne_i (a := r31.toInt) (b := 0) rfl rfl c35
              have k44 : 1 ≤ r31.toInt ∧ r31.toInt ≤ 1 := ⟨ne_lo dc35 t32.1 ⟨Int.le_refl _, Int.le_refl _⟩ (by decide), t32.2⟩
              refine lv_iconst (v := 5) hx hb dX10_leafOf_80 (by decide) ?_
              refine lv_goto (tgt := 100) hx hb dX10_leafOf_81 (by decide) ?_
              exact ret_i (v := 5) hx hb hr hlocks hS hP hD dX10_leafOf_100 rfl (Nat.le_of_ble_eq_true rfl) (Nat.le_of_ble_eq_true rfl) ⟨(show (-1) ≤ (5 : Int32).toInt ∧ (5 : Int32).toInt ≤ 6 by decide), (by have zl5 : (5 : Int32).toInt = 5 := (by decide); omega), rfl⟩
          · have dc29 : r25.toInt ≠ 0 := ne_i (a := r25.toInt) (b := 0) rfl rfl c29
            have k45 : 1 ≤ r25.toInt ∧ r25.toInt ≤ 1 := ⟨ne_lo dc29 t26.1 ⟨Int.le_refl _, Int.le_refl _⟩ (by decide), t26.2⟩
            refine lv_iconst (v := 4) hx hb dX10_leafOf_66 (by decide) ?_
            refine lv_goto (tgt := 100) hx hb dX10_leafOf_67 (by decide) ?_
            exact ret_i (v := 4) hx hb hr hlocks hS hP hD dX10_leafOf_100 rfl (Nat.le_of_ble_eq_true rfl) (Nat.le_of_ble_eq_true rfl) ⟨(show (-1) ≤ (4 : Int32).toInt ∧ (4 : Int32).toInt ≤ 6 by decide), (by have zl4 : (4 : Int32).toInt = 4 := (by decide); omega), rfl⟩
        · have dc23 : r19.toInt ≠ 0 := ne_i (a := r19.toInt) (b := 0) rfl rfl c23
          have k46 : 1 ≤ r19.toInt ∧ r19.toInt ≤ 1 := ⟨ne_lo dc23 t20.1 ⟨Int.le_refl _, Int.le_refl _⟩ (by decide), t20.2⟩
          refine lv_iconst (v := 3) hx hb dX10_leafOf_52 (by decide) ?_
          refine lv_goto (tgt := 100) hx hb dX10_leafOf_53 (by decide) ?_
          exact ret_i (v := 3) hx hb hr hlocks hS hP hD dX10_leafOf_100 rfl (Nat.le_of_ble_eq_true rfl) (Nat.le_of_ble_eq_true rfl) ⟨(show (-1) ≤ (3 : Int32).toInt ∧ (3 : Int32).toInt ≤ 6 by decide), (by have zl3 : (3 : Int32).toInt = 3 := (by decide); omega), rfl⟩
      · have dc17 : r13.toInt ≠ 0 := ne_i (a := r13.toInt) (b := 0) rfl rfl c17
        have k47 : 1 ≤ r13.toInt ∧ r13.toInt ≤ 1 := ⟨ne_lo dc17 t14.1 ⟨Int.le_refl _, Int.le_refl _⟩ (by decide), t14.2⟩
        refine lv_iconst (v := 2) hx hb dX10_leafOf_38 (by decide) ?_
        refine lv_goto (tgt := 100) hx hb dX10_leafOf_39 (by decide) ?_
        exact ret_i (v := 2) hx hb hr hlocks hS hP hD dX10_leafOf_100 rfl (Nat.le_of_ble_eq_true rfl) (Nat.le_of_ble_eq_true rfl) ⟨(show (-1) ≤ (2 : Int32).toInt ∧ (2 : Int32).toInt ≤ 6 by decide), (by have zl2 : (2 : Int32).toInt = 2 := (by decide); omega), rfl⟩
    · have dc11 : r7.toInt ≠ 0 := ne_i (a := r7.toInt) (b := 0) rfl rfl c11
      have k48 : 1 ≤ r7.toInt ∧ r7.toInt ≤ 1 := ⟨ne_lo dc11 t8.1 ⟨Int.le_refl _, Int.le_refl _⟩ (by decide), t8.2⟩
      refine lv_iconst (v := 1) hx hb dX10_leafOf_24 (by decide) ?_
      refine lv_goto (tgt := 100) hx hb dX10_leafOf_25 (by decide) ?_
      exact ret_i (v := 1) hx hb hr hlocks hS hP hD dX10_leafOf_100 rfl (Nat.le_of_ble_eq_true rfl) (Nat.le_of_ble_eq_true rfl) ⟨(show (-1) ≤ (1 : Int32).toInt ∧ (1 : Int32).toInt ≤ 6 by decide), (by have zl1 : (1 : Int32).toInt = 1 := (by decide); omega), rfl⟩
  · have dc5 : r1.toInt ≠ 0 := ne_i (a := r1.toInt) (b := 0) rfl rfl c5
    have k49 : 1 ≤ r1.toInt ∧ r1.toInt ≤ 1 := ⟨ne_lo dc5 t2.1 ⟨Int.le_refl _, Int.le_refl _⟩ (by decide), t2.2⟩
    refine lv_iconst (v := 0) hx hb dX10_leafOf_10 (by decide) ?_
    refine lv_goto (tgt := 100) hx hb dX10_leafOf_11 (by decide) ?_
    exact ret_i (v := 0) hx hb hr hlocks hS hP hD dX10_leafOf_100 rfl (Nat.le_of_ble_eq_true rfl) (Nat.le_of_ble_eq_true rfl) ⟨(show (-1) ≤ (0 : Int32).toInt ∧ (0 : Int32).toInt ≤ 6 by decide), (by have zl0 : (0 : Int32).toInt = 0 := (by decide); omega), rfl⟩
set_option maxHeartbeats 4000000 in
set_option maxRecDepth 100000 in
theorem m_X10_operand (l : Launch) (D : va_G) (cI cJ cB cP cM cZ : ClassId) (h0 : Nat) (h_tape : Nat) (h_s : Nat) (h_read : Nat) (h_names : Nat) (h_reserved : Nat) (h_stack : Nat) (Fh : Nat → Value) (x_size : Int32) (x_p : Int32) (x_limit : Int32) (x_token : Int32) (x_at : Int32) (x_span : Int32) (x_number : Int32) (x_fault : Int32) (x_faultAt : Int32) (x_word : Int64) (x_codes : Int32) (x_ones : Int32) (x_top : Int32) (x_deep : Int32) (x_isWhole : Int32) (f_tape : Nat → Int32) (f_s : Nat → Int32) (f_read : Nat → Int32) (f_names : Nat → Int64) (f_reserved : Nat → Int64) (f_stack : Nat → Int32) (sz : Nat) (e_tape : Fh 1 = .ref h_tape) (e_size : Fh 3 = .int x_size) (i_x_size : IR 0 940 x_size) (e_p : Fh 4 = .int x_p) (i_x_p : IR 0 940 x_p) (e_limit : Fh 5 = .int x_limit) (i_x_limit : IR 200 940 x_limit) (e_s : Fh 6 = .ref h_s) (e_read : Fh 8 = .ref h_read) (e_names : Fh 9 = .ref h_names) (e_reserved : Fh 10 = .ref h_reserved) (e_token : Fh 11 = .int x_token) (i_x_token : IR 0 4 x_token) (e_at : Fh 12 = .int x_at) (e_span : Fh 13 = .int x_span) (e_number : Fh 14 = .int x_number) (e_fault : Fh 15 = .int x_fault) (e_faultAt : Fh 16 = .int x_faultAt) (e_word : Fh 18 = .long x_word) (e_stack : Fh 57 = .ref h_stack) (e_codes : Fh 58 = .int x_codes) (i_x_codes : IR 0 45 x_codes) (e_ones : Fh 59 = .int x_ones) (i_x_ones : IR 0 20 x_ones) (e_top : Fh 60 = .int x_top) (i_x_top : IR 0 45 x_top) (e_deep : Fh 61 = .int x_deep) (e_isWhole : Fh 62 = .int x_isWhole) (i_x_isWhole : IR 0 1 x_isWhole) (s_s_K0 : KW 0 f_s) (s_s_0 : SG 0 0 0 40 f_s) (s_s_105 : SG 105 108 0 11 f_s) (s_s_114 : SG 114 114 0 5 f_s) (s_s_130 : SG 130 133 0 11 f_s) (s_s_139 : SG 139 139 0 5 f_s) (s_s_153 : SG 153 153 0 44 f_s) (s_s_44 : SG 44 55 0 9 f_s) (s_s_5 : SG 5 5 0 12 f_s) (s_s_6 : SG 6 6 0 12 f_s) (s_s_7 : SG 7 7 0 6 f_s) (s_reserved_KR : KRN f_reserved) (z_0 : x_isWhole.toInt = 0) (z_1 : SMI f_read f_stack x_codes.toInt x_top.toInt 0) (z_2 : (VWF x_token.toInt x_word.toInt)) (o_0 : (x_token.toInt = 2 → 0 ≤ x_number.toInt ∧ x_number.toInt ≤ 999)) (o_1 : x_top.toInt + x_codes.toInt + x_isWhole.toInt ≤ 2 * x_ones.toInt) : CI l yX10_operand cX10_operand 5 (some .boolean) { frames := 2, cells := 0, slots := 0, locals := 43 } (GG D cI cJ cB cP cM cZ) D [(h0, .inr (10, vL 67 Fh)), (h_tape, .inl (cB, 940, .inl f_tape)), (h_s, .inl (cI, 335, .inl f_s)), (h_read, .inl (cI, 135, .inl f_read)), (h_names, .inl (cJ, 36, .inr (.inl f_names))), (h_reserved, .inl (cJ, 23, .inr (.inl f_reserved))), (h_stack, .inl (cI, 45, .inl f_stack))] sz [.ref h0] (fun (r : Int32) (u : va_W) => ∃ (Gh : Nat → Value) (y_p : Int32) (y_token : Int32) (y_at : Int32) (y_span : Int32) (y_number : Int32) (y_fault : Int32) (y_faultAt : Int32) (y_word : Int64) (y_codes : Int32) (y_ones : Int32) (y_top : Int32) (y_deep : Int32) (y_isWhole : Int32) (g_read : Nat → Int32) (g_stack : Nat → Int32), SAME [4, 11, 12, 13, 14, 15, 16, 18, 58, 59, 60, 61, 62] Fh Gh ∧ Gh 4 = .int y_p ∧ IR 0 940 y_p ∧ Gh 11 = .int y_token ∧ IR 0 4 y_token ∧ Gh 12 = .int y_at ∧ Gh 13 = .int y_span ∧ Gh 14 = .int y_number ∧ Gh 15 = .int y_fault ∧ Gh 16 = .int y_faultAt ∧ Gh 18 = .long y_word ∧ Gh 58 = .int y_codes ∧ IR 0 45 y_codes ∧ Gh 59 = .int y_ones ∧ IR 0 20 y_ones ∧ Gh 60 = .int y_top ∧ IR 0 45 y_top ∧ Gh 61 = .int y_deep ∧ Gh 62 = .int y_isWhole ∧ IR 0 1 y_isWhole ∧ IR 0 1 r ∧ ((r.toInt = 1 → (1 ≤ x_token.toInt ∧ x_token.toInt ≤ 3 ∧ x_p.toInt ≤ y_p.toInt ∧ (1 ≤ y_token.toInt → y_token.toInt ≤ 3 → x_p.toInt < y_p.toInt)))) ∧ ((r.toInt = 1 → SMI g_read g_stack y_codes.toInt y_top.toInt y_isWhole.toInt)) ∧ ((r.toInt = 1 → (VWF y_token.toInt y_word.toInt))) ∧ ((y_token.toInt = 2 → 0 ≤ y_number.toInt ∧ y_number.toInt ≤ 999)) ∧ (y_top.toInt + y_codes.toInt + y_isWhole.toInt ≤ 2 * y_ones.toInt) ∧ u = [(h0, .inr (10, vL 67 Gh)), (h_tape, .inl (cB, 940, .inl f_tape)), (h_s, .inl (cI, 335, .inl f_s)), (h_read, .inl (cI, 135, .inl g_read)), (h_names, .inl (cJ, 36, .inr (.inl f_names))), (h_reserved, .inl (cJ, 23, .inr (.inl f_reserved))), (h_stack, .inl (cI, 45, .inl g_stack))]) := by
  refine CI_mk (by decide) (Nat.le_of_ble_eq_true rfl) ?_
  intro p e s m below meth c A ls E hAe hG hsz hP hD hA hS hl
  obtain ⟨hx, hb, hr, hw, hown, hlocks, hml, hnm⟩ := E
  have hK := hG.1
  have i_x_size : 0 ≤ x_size.toInt ∧ x_size.toInt ≤ 940 := i_x_size
  have i_x_p : 0 ≤ x_p.toInt ∧ x_p.toInt ≤ 940 := i_x_p
  have i_x_limit : 200 ≤ x_limit.toInt ∧ x_limit.toInt ≤ 940 := i_x_limit
  have i_x_token : 0 ≤ x_token.toInt ∧ x_token.toInt ≤ 4 := i_x_token
  have i_x_codes : 0 ≤ x_codes.toInt ∧ x_codes.toInt ≤ 45 := i_x_codes
  have i_x_ones : 0 ≤ x_ones.toInt ∧ x_ones.toInt ≤ 20 := i_x_ones
  have i_x_top : 0 ≤ x_top.toInt ∧ x_top.toInt ≤ 45 := i_x_top
  have i_x_isWhole : 0 ≤ x_isWhole.toInt ∧ x_isWhole.toInt ≤ 1 := i_x_isWhole
  have hl : lv_has ls 5 [(0, .ref h0)] := hl
  refine lv_aload_n hx hb dX10_operand_0 rfl (lv_at hl 0 rfl) ?_
  refine lv_ldc2 hx hb hown (hw _ q_1250) dX10_operand_1 ?_
  refine call_Vi (wr := [(h_tape, .inl (cB, 940, .inl f_tape)), (h_s, .inl (cI, 335, .inl f_s)), (h_read, .inl (cI, 135, .inl f_read)), (h_names, .inl (cJ, 36, .inr (.inl f_names))), (h_reserved, .inl (cJ, 23, .inr (.inl f_reserved))), (h_stack, .inl (cI, 45, .inl f_stack))]) (As := [.long 7237492]) (rest := []) hx hb hml hown hw (m_X10_isWord l D cI cJ cB cP cM cZ h0 Fh x_token x_number x_word 7237492 _ e_token i_x_token e_number e_word (by omega)) wV_X10_225_X10_isWord dX10_operand_4 hK hP hD hS hA [0] [1, 2, 3, 4, 5, 6] rfl rfl (by decide) (by decide) (by decide) 0 10 rfl rfl GG.fb hG.at hl.1 rfl (Nat.le_of_ble_eq_true rfl) ⟨(Nat.le_of_ble_eq_true rfl), (Nat.le_of_ble_eq_true rfl)⟩ ⟨(Nat.le_of_ble_eq_true rfl), (Nat.le_of_ble_eq_true rfl)⟩ (fun r1 u H locs hp hP hD hS => ?_)
  have zl7237492 : (7237492 : Int32).toInt = 7237492 := by decide
  obtain ⟨t2, t3, rfl⟩ := hp
  have hP : va_P D vwCl [(h_tape, .inl (cB, 940, .inl f_tape)), (h_s, .inl (cI, 335, .inl f_s)), (h_read, .inl (cI, 135, .inl f_read)), (h_names, .inl (cJ, 36, .inr (.inl f_names))), (h_reserved, .inl (cJ, 23, .inr (.inl f_reserved))), (h_stack, .inl (cI, 45, .inl f_stack)), (h0, .inr (10, vL 67 Fh))] H := hP
  have hD : va_D A [(h_tape, .inl (cB, 940, .inl f_tape)), (h_s, .inl (cI, 335, .inl f_s)), (h_read, .inl (cI, 135, .inl f_read)), (h_names, .inl (cJ, 36, .inr (.inl f_names))), (h_reserved, .inl (cJ, 23, .inr (.inl f_reserved))), (h_stack, .inl (cI, 45, .inl f_stack)), (h0, .inr (10, vL 67 Fh))] := hD
  refine W.widen (k := 0) (n := 0) (Nat.le_of_ble_eq_true rfl) (Nat.le_of_ble_eq_true rfl) ?_
  replace t3 := (isw (k := 16) (a := 10631) z_2 t3 (by decide) (by decide +kernel) (by decide +kernel) (by decide +kernel) (by decide +kernel))
  refine lv_istore_n (lv' := [(1, .int r1), (0, .ref h0)]) hx hb dX10_operand_7 rfl hl (by decide) rfl (fun ls hl => ?_)
  refine lv_aload_n hx hb dX10_operand_8 rfl (lv_at hl 1 rfl) ?_
  refine lv_bipush (v := 40) hx hb dX10_operand_9 (by decide) ?_
  refine call_Vi (wr := [(h_tape, .inl (cB, 940, .inl f_tape)), (h_s, .inl (cI, 335, .inl f_s)), (h_read, .inl (cI, 135, .inl f_read)), (h_names, .inl (cJ, 36, .inr (.inl f_names))), (h_reserved, .inl (cJ, 23, .inr (.inl f_reserved))), (h_stack, .inl (cI, 45, .inl f_stack))]) (As := [.int 40]) (rest := []) hx hb hml hown hw (m_X10_isSign l D cI cJ cB cP cM cZ h0 Fh x_token x_number 40 _ e_token i_x_token e_number (by omega)) wV_X10_202_X10_isSign dX10_operand_11 hK hP hD hS hA [6] [0, 1, 2, 3, 4, 5] rfl rfl (by decide) (by decide) (by decide) 0 10 rfl rfl GG.fb hG.at hl.1 rfl (Nat.le_of_ble_eq_true rfl) ⟨(Nat.le_of_ble_eq_true rfl), (Nat.le_of_ble_eq_true rfl)⟩ ⟨(Nat.le_of_ble_eq_true rfl), (Nat.le_of_ble_eq_true rfl)⟩ (fun r5 u H locs hp hP hD hS => ?_)
  have zl40 : (40 : Int32).toInt = 40 := by decide
  obtain ⟨t6, t7, rfl⟩ := hp
  have hP : va_P D vwCl [(h_tape, .inl (cB, 940, .inl f_tape)), (h_s, .inl (cI, 335, .inl f_s)), (h_read, .inl (cI, 135, .inl f_read)), (h_names, .inl (cJ, 36, .inr (.inl f_names))), (h_reserved, .inl (cJ, 23, .inr (.inl f_reserved))), (h_stack, .inl (cI, 45, .inl f_stack)), (h0, .inr (10, vL 67 Fh))] H := hP
  have hD : va_D A [(h_tape, .inl (cB, 940, .inl f_tape)), (h_s, .inl (cI, 335, .inl f_s)), (h_read, .inl (cI, 135, .inl f_read)), (h_names, .inl (cJ, 36, .inr (.inl f_names))), (h_reserved, .inl (cJ, 23, .inr (.inl f_reserved))), (h_stack, .inl (cI, 45, .inl f_stack)), (h0, .inr (10, vL 67 Fh))] := hD
  refine W.widen (k := 0) (n := 0) (Nat.le_of_ble_eq_true rfl) (Nat.le_of_ble_eq_true rfl) ?_
  refine lv_istore_n (lv' := [(2, .int r5), (1, .int r1), (0, .ref h0)]) hx hb dX10_operand_14 rfl hl (by decide) rfl (fun ls hl => ?_)
  refine lv_aload_n hx hb dX10_operand_15 rfl (lv_at hl 2 rfl) ?_
  refine call_Vi (wr := [(h_tape, .inl (cB, 940, .inl f_tape)), (h_s, .inl (cI, 335, .inl f_s)), (h_read, .inl (cI, 135, .inl f_read)), (h_names, .inl (cJ, 36, .inr (.inl f_names))), (h_reserved, .inl (cJ, 23, .inr (.inl f_reserved))), (h_stack, .inl (cI, 45, .inl f_stack))]) (As := []) (rest := []) hx hb hml hown hw (m_X10_leafOf l D cI cJ cB cP cM cZ h0 Fh x_token x_number x_word _ e_token i_x_token e_number e_word z_2 (by omega)) wV_X10_454_X10_leafOf dX10_operand_16 hK hP hD hS hA [6] [0, 1, 2, 3, 4, 5] rfl rfl (by decide) (by decide) (by decide) 0 10 rfl rfl GG.fb hG.at hl.1 rfl (Nat.le_of_ble_eq_true rfl) ⟨(Nat.le_of_ble_eq_true rfl), (Nat.le_of_ble_eq_true rfl)⟩ ⟨(Nat.le_of_ble_eq_true rfl), (Nat.le_of_ble_eq_true rfl)⟩ (fun r9 u H locs hp hP hD hS => ?_)
  obtain ⟨t10, t11, rfl⟩ := hp
  have hP : va_P D vwCl [(h_tape, .inl (cB, 940, .inl f_tape)), (h_s, .inl (cI, 335, .inl f_s)), (h_read, .inl (cI, 135, .inl f_read)), (h_names, .inl (cJ, 36, .inr (.inl f_names))), (h_reserved, .inl (cJ, 23, .inr (.inl f_reserved))), (h_stack, .inl (cI, 45, .inl f_stack)), (h0, .inr (10, vL 67 Fh))] H := hP
  have hD : va_D A [(h_tape, .inl (cB, 940, .inl f_tape)), (h_s, .inl (cI, 335, .inl f_s)), (h_read, .inl (cI, 135, .inl f_read)), (h_names, .inl (cJ, 36, .inr (.inl f_names))), (h_reserved, .inl (cJ, 23, .inr (.inl f_reserved))), (h_stack, .inl (cI, 45, .inl f_stack)), (h0, .inr (10, vL 67 Fh))] := hD
  refine W.widen (k := 0) (n := 0) (Nat.le_of_ble_eq_true rfl) (Nat.le_of_ble_eq_true rfl) ?_
  refine lv_istore_n (lv' := [(3, .int r9), (2, .int r5), (1, .int r1), (0, .ref h0)]) hx hb dX10_operand_19 rfl hl (by decide) rfl (fun ls hl => ?_)
  refine lv_iload_n hx hb dX10_operand_20 rfl (lv_at hl 2 rfl) ?_
  refine lv_if_ne (tgt := 38) hx hb dX10_operand_21 (by decide) (fun c13 => ?_) (fun c13 => ?_)
  · have dc13 : r1.toInt ≠ 0 := ne_i (a := r1.toInt) (b := 0) rfl rfl c13
    have k14 : 1 ≤ r1.toInt ∧ r1.toInt ≤ 1 := ⟨ne_lo dc13 t2.1 ⟨Int.le_refl _, Int.le_refl _⟩ (by decide), t2.2⟩
    refine lv_aload_n hx hb dX10_operand_38 rfl (lv_at hl 3 rfl) ?_
    refine get_f (D := D) (ci := 10) (v := .int x_ones) (C := RX10) (T := TX10) (N := 67) hx hb hw inAX10 hown hK hP 6 rfl rfl 59 (by decide) (hw _ q_1320) (fun _ h9 => h9) e_ones dX10_operand_39 ?_
    refine lv_bipush (v := 20) hx hb dX10_operand_42 (by decide) ?_
    refine lv_icmp_eq (tgt := 56) hx hb dX10_operand_44 (by decide) (fun c15 => ?_) (fun c15 => ?_)
    · have dc15 : x_ones.toInt = 20 := eq_i (a := x_ones.toInt) (b := 20) rfl rfl c15
      have k16 : 20 ≤ x_ones.toInt ∧ x_ones.toInt ≤ 20 := ⟨Int.le_trans (Int.le_refl _) (Int.le_of_eq dc15.symm), i_x_ones.2⟩
      refine lv_aload_n hx hb dX10_operand_56 rfl (lv_at hl 3 rfl) ?_
      refine lv_iconst (v := 4) hx hb dX10_operand_57 (by decide) ?_
      refine call_Vi (wr := [(h_tape, .inl (cB, 940, .inl f_tape)), (h_s, .inl (cI, 335, .inl f_s)), (h_read, .inl (cI, 135, .inl f_read)), (h_names, .inl (cJ, 36, .inr (.inl f_names))), (h_reserved, .inl (cJ, 23, .inr (.inl f_reserved))), (h_stack, .inl (cI, 45, .inl f_stack))]) (As := [.int 4]) (rest := []) hx hb hml hown hw (m_X10_bad l D cI cJ cB cP cM cZ h0 Fh x_at 4 _ e_at) wV_X10_205_X10_bad dX10_operand_58 hK hP hD hS hA [6] [0, 1, 2, 3, 4, 5] rfl rfl (by decide) (by decide) (by decide) 0 10 rfl rfl GG.fb hG.at hl.1 rfl (Nat.le_of_ble_eq_true rfl) ⟨(Nat.le_of_ble_eq_true rfl), (Nat.le_of_ble_eq_true rfl)⟩ ⟨(Nat.le_of_ble_eq_true rfl), (Nat.le_of_ble_eq_true rfl)⟩ (fun r17 u H locs hp hP hD hS => ?_)
      have zl4 : (4 : Int32).toInt = 4 := by decide
      obtain ⟨F18, t19, t20, t21, rfl, rfl⟩ := hp
      have hP : va_P D vwCl [(h_tape, .inl (cB, 940, .inl f_tape)), (h_s, .inl (cI, 335, .inl f_s)), (h_read, .inl (cI, 135, .inl f_read)), (h_names, .inl (cJ, 36, .inr (.inl f_names))), (h_reserved, .inl (cJ, 23, .inr (.inl f_reserved))), (h_stack, .inl (cI, 45, .inl f_stack)), (h0, .inr (10, vL 67 F18))] H := hP
      have hD : va_D A [(h_tape, .inl (cB, 940, .inl f_tape)), (h_s, .inl (cI, 335, .inl f_s)), (h_read, .inl (cI, 135, .inl f_read)), (h_names, .inl (cJ, 36, .inr (.inl f_names))), (h_reserved, .inl (cJ, 23, .inr (.inl f_reserved))), (h_stack, .inl (cI, 45, .inl f_stack)), (h0, .inr (10, vL 67 F18))] := hD
      refine W.widen (k := 0) (n := 0) (Nat.le_of_ble_eq_true rfl) (Nat.le_of_ble_eq_true rfl) ?_
      exact ret_i (v := 0) hx hb hr hlocks hS (hP.sub (ws' := [(h0, .inr (10, vL 67 F18)), (h_tape, .inl (cB, 940, .inl f_tape)), (h_s, .inl (cI, 335, .inl f_s)), (h_read, .inl (cI, 135, .inl f_read)), (h_names, .inl (cJ, 36, .inr (.inl f_names))), (h_reserved, .inl (cJ, 23, .inr (.inl f_reserved))), (h_stack, .inl (cI, 45, .inl f_stack))]) [6, 0, 1, 2, 3, 4, 5] rfl) (hD.sub (ws' := [(h0, .inr (10, vL 67 F18)), (h_tape, .inl (cB, 940, .inl f_tape)), (h_s, .inl (cI, 335, .inl f_s)), (h_read, .inl (cI, 135, .inl f_read)), (h_names, .inl (cJ, 36, .inr (.inl f_names))), (h_reserved, .inl (cJ, 23, .inr (.inl f_reserved))), (h_stack, .inl (cI, 45, .inl f_stack))]) [6, 0, 1, 2, 3, 4, 5] (by decide) rfl) dX10_operand_61 rfl (Nat.le_of_ble_eq_true rfl) (Nat.le_of_ble_eq_true rfl) ⟨F18, x_p, x_token, x_at, x_span, x_number, 4, x_at, x_word, x_codes, x_ones, x_top, x_deep, x_isWhole, f_read, f_stack, (SAME.tr SAME.rf t19 (by decide)), (SAME.at t19 (by decide) e_p), i_x_p, (SAME.at t19 (by decide) e_token), i_x_token, (SAME.at t19 (by decide) e_at), (SAME.at t19 (by decide) e_span), (SAME.at t19 (by decide) e_number), t20, t21, (SAME.at t19 (by decide) e_word), (SAME.at t19 (by decide) e_codes), i_x_codes, (SAME.at t19 (by decide) e_ones), (ir_wk k16 (by decide) (by decide)), (SAME.at t19 (by decide) e_top), i_x_top, (SAME.at t19 (by decide) e_deep), (SAME.at t19 (by decide) e_isWhole), i_x_isWhole, (show 0 ≤ (0 : Int32).toInt ∧ (0 : Int32).toInt ≤ 1 by decide), (by have zl0 : (0 : Int32).toInt = 0 := (by decide); have zl4 : (4 : Int32).toInt = 4 := (by decide); omega), (fun q => absurd q (by decide)), (fun q => absurd q (by decide)), (by have zl4 : (4 : Int32).toInt = 4 := (by decide); omega), (by have zl4 : (4 : Int32).toInt = 4 := (by decide); omega), rfl⟩
    · have dc15 : x_ones.toInt ≠ 20 := ne_i (a := x_ones.toInt) (b := 20) rfl rfl c15
      have k23 : 0 ≤ x_ones.toInt ∧ x_ones.toInt ≤ 19 := ⟨i_x_ones.1, ne_hi dc15 i_x_ones.2 ⟨Int.le_refl _, Int.le_refl _⟩ (by decide)⟩
      refine lv_aload_n hx hb dX10_operand_47 rfl (lv_at hl 3 rfl) ?_
      refine get_f (D := D) (ci := 10) (v := .int x_deep) (C := RX10) (T := TX10) (N := 67) hx hb hw inAX10 hown hK hP 6 rfl rfl 61 (by decide) (hw _ q_1322) (fun _ h9 => h9) e_deep dX10_operand_48 ?_
      refine lv_bipush (v := 8) hx hb dX10_operand_51 (by decide) ?_
      refine lv_icmp_le (tgt := 62) hx hb dX10_operand_53 (by decide) (fun c24 => ?_) (fun c24 => ?_)
      · have dc24 : x_deep.toInt ≤ 8 := le_i (a := x_deep.toInt) (b := 8) rfl rfl c24
        have k25 : (-2147483648) ≤ x_deep.toInt ∧ x_deep.toInt ≤ 8 := ⟨(ir_any _).1, Int.le_trans dc24 (Int.le_refl _)⟩
        refine lv_aload_n hx hb dX10_operand_62 rfl (lv_at hl 3 rfl) ?_
        refine lv_dup hx hb dX10_operand_63 rfl ?_
        refine get_f (D := D) (ci := 10) (v := .int x_ones) (C := RX10) (T := TX10) (N := 67) hx hb hw inAX10 hown hK hP 6 rfl rfl 59 (by decide) (hw _ q_1320) (fun _ h9 => h9) e_ones dX10_operand_64 ?_
        refine lv_iconst (v := 1) hx hb dX10_operand_67 (by decide) ?_
        refine lv_iadd hx hb dX10_operand_68 ?_
        refine lv_topi (fun v26 ev26 => ?_)
        have bv26 : v26.toInt = x_ones.toInt + 1 := by rw [ev26]; exact add_k rfl rfl k23 ⟨Int.le_refl _, Int.le_refl _⟩ (by decide)
        have k27 : 1 ≤ v26.toInt ∧ v26.toInt ≤ 20 := add_r bv26 k23 ⟨Int.le_refl _, Int.le_refl _⟩ (by decide)
        refine put_f (D := D) (ci := 10) (v := .int v26) (ty := .int) (C := RX10) (T := TX10) (N := 67) hx hb hw inAX10 tyX10 tyX10_ok nmX10 hown hK hP hD hS 6 rfl rfl 59 (by decide) (hw _ q_1320) (fun _ h9 => h9) rfl (by decide +kernel) rfl rfl dX10_operand_69 (fun H locs F28 eF28 hP hD hS => ?_)
        have hP : va_P D vwCl [(h_tape, .inl (cB, 940, .inl f_tape)), (h_s, .inl (cI, 335, .inl f_s)), (h_read, .inl (cI, 135, .inl f_read)), (h_names, .inl (cJ, 36, .inr (.inl f_names))), (h_reserved, .inl (cJ, 23, .inr (.inl f_reserved))), (h_stack, .inl (cI, 45, .inl f_stack)), (h0, .inr (10, vL 67 F28))] H := hP
        have hD : va_D A [(h_tape, .inl (cB, 940, .inl f_tape)), (h_s, .inl (cI, 335, .inl f_s)), (h_read, .inl (cI, 135, .inl f_read)), (h_names, .inl (cJ, 36, .inr (.inl f_names))), (h_reserved, .inl (cJ, 23, .inr (.inl f_reserved))), (h_stack, .inl (cI, 45, .inl f_stack)), (h0, .inr (10, vL 67 F28))] := hD
        refine lv_aload_n hx hb dX10_operand_72 rfl (lv_at hl 3 rfl) ?_
        have n29 : F28 1 = .ref h_tape := (get_ne eF28 (by decide) e_tape)
        have n30 : F28 3 = .int x_size := (get_ne eF28 (by decide) e_size)
        have n31 : F28 4 = .int x_p := (get_ne eF28 (by decide) e_p)
        have n32 : F28 5 = .int x_limit := (get_ne eF28 (by decide) e_limit)
        have n33 : F28 11 = .int x_token := (get_ne eF28 (by decide) e_token)
        have n34 : F28 12 = .int x_at := (get_ne eF28 (by decide) e_at)
        have n35 : F28 14 = .int x_number := (get_ne eF28 (by decide) e_number)
        have n36 : F28 18 = .long x_word := (get_ne eF28 (by decide) e_word)
        refine call_Vv (wr := [(h_s, .inl (cI, 335, .inl f_s)), (h_read, .inl (cI, 135, .inl f_read)), (h_names, .inl (cJ, 36, .inr (.inl f_names))), (h_reserved, .inl (cJ, 23, .inr (.inl f_reserved))), (h_stack, .inl (cI, 45, .inl f_stack))]) (As := []) (rest := []) hx hb hml hown hw (m_X10_next l D cI cJ cB cP cM cZ h0 h_tape F28 x_size x_p x_limit x_token x_at x_number x_word f_tape _ n29 n30 i_x_size n31 i_x_p n32 i_x_limit n33 i_x_token n34 n35 n36 (by omega)) wV_X10_208_X10_next dX10_operand_73 hK hP hD hS hA [6, 0] [1, 2, 3, 4, 5] rfl rfl (by decide) (by decide) (by decide) 0 10 rfl rfl GG.fb hG.at hl.1 rfl (Nat.le_of_ble_eq_true rfl) ⟨(Nat.le_of_ble_eq_true rfl), (Nat.le_of_ble_eq_true rfl)⟩ ⟨(Nat.le_of_ble_eq_true rfl), (Nat.le_of_ble_eq_true rfl)⟩ (fun u H locs hp hP hD hS => ?_)
        obtain ⟨F38, y39, y40, y41, y42, y43, y44, t45, t46, t47, t48, t49, t50, t51, t52, t53, t54, t55, t56, t57, t58, t59, t60, rfl⟩ := hp
        have hP : va_P D vwCl [(h_s, .inl (cI, 335, .inl f_s)), (h_read, .inl (cI, 135, .inl f_read)), (h_names, .inl (cJ, 36, .inr (.inl f_names))), (h_reserved, .inl (cJ, 23, .inr (.inl f_reserved))), (h_stack, .inl (cI, 45, .inl f_stack)), (h0, .inr (10, vL 67 F38)), (h_tape, .inl (cB, 940, .inl f_tape))] H := hP
        have hD : va_D A [(h_s, .inl (cI, 335, .inl f_s)), (h_read, .inl (cI, 135, .inl f_read)), (h_names, .inl (cJ, 36, .inr (.inl f_names))), (h_reserved, .inl (cJ, 23, .inr (.inl f_reserved))), (h_stack, .inl (cI, 45, .inl f_stack)), (h0, .inr (10, vL 67 F38)), (h_tape, .inl (cB, 940, .inl f_tape))] := hD
        refine W.widen (k := 0) (n := 0) (Nat.le_of_ble_eq_true rfl) (Nat.le_of_ble_eq_true rfl) ?_
        refine lv_iload_n hx hb dX10_operand_76 rfl (lv_at hl 2 rfl) ?_
        refine lv_if_ne (tgt := 84) hx hb dX10_operand_77 (by decide) (fun c62 => ?_) (fun c62 => False.elim (bad_le (Int.le_of_eq (eq_i (a := r1.toInt) (b := 0) rfl rfl c62)) k14.1 (Int.le_refl _) (by decide)))
        have dc62 : r1.toInt ≠ 0 := ne_i (a := r1.toInt) (b := 0) rfl rfl c62
        refine lv_aload_n hx hb dX10_operand_84 rfl (lv_at hl 3 rfl) ?_
        have n63 : F28 57 = .ref h_stack := (get_ne eF28 (by decide) e_stack)
        have n64 : F38 57 = .ref h_stack := (SAME.at t45 (by decide) n63)
        refine get_f (D := D) (ci := 10) (v := .ref h_stack) (C := RX10) (T := TX10) (N := 67) hx hb hw inAX10 hown hK hP 5 rfl rfl 57 (by decide) (hw _ q_1318) (fun _ h9 => h9) n64 dX10_operand_85 ?_
        refine lv_aload_n hx hb dX10_operand_88 rfl (lv_at hl 3 rfl) ?_
        have n65 : F28 60 = .int x_top := (get_ne eF28 (by decide) e_top)
        have n66 : F38 60 = .int x_top := (SAME.at t45 (by decide) n65)
        refine get_f (D := D) (ci := 10) (v := .int x_top) (C := RX10) (T := TX10) (N := 67) hx hb hw inAX10 hown hK hP 5 rfl rfl 60 (by decide) (hw _ q_1321) (fun _ h9 => h9) n66 dX10_operand_89 ?_
        refine lv_iload_n hx hb dX10_operand_92 rfl (lv_at hl 2 rfl) ?_
        refine lv_if_eq (tgt := 101) hx hb dX10_operand_93 (by decide) (fun c67 => False.elim (bad_le (Int.le_of_eq (eq_i (a := r1.toInt) (b := 0) rfl rfl c67)) k14.1 (Int.le_refl _) (by decide))) (fun c67 => ?_)
        have dc67 : r1.toInt ≠ 0 := ne_i (a := r1.toInt) (b := 0) rfl rfl c67
        refine lv_bipush (v := 20) hx hb dX10_operand_96 (by decide) ?_
        refine lv_goto (tgt := 103) hx hb dX10_operand_98 (by decide) ?_
        obtain ⟨g68, eg68⟩ : ∃ z : Nat → Int32, upd f_stack x_top.toNatClampNeg 20 = z := ⟨_, rfl⟩
        refine iast_g hx hb hK hP hD hS 4 0 rfl rfl (ix_i (by omega) (by omega)) eg68 dX10_operand_103 (fun H locs hP hD hS => ?_)
        have hP : va_P D vwCl [(h_s, .inl (cI, 335, .inl f_s)), (h_read, .inl (cI, 135, .inl f_read)), (h_names, .inl (cJ, 36, .inr (.inl f_names))), (h_reserved, .inl (cJ, 23, .inr (.inl f_reserved))), (h_stack, .inl (cI, 45, .inl g68)), (h0, .inr (10, vL 67 F38)), (h_tape, .inl (cB, 940, .inl f_tape))] H := hP
        have hD : va_D A [(h_s, .inl (cI, 335, .inl f_s)), (h_read, .inl (cI, 135, .inl f_read)), (h_names, .inl (cJ, 36, .inr (.inl f_names))), (h_reserved, .inl (cJ, 23, .inr (.inl f_reserved))), (h_stack, .inl (cI, 45, .inl g68)), (h0, .inr (10, vL 67 F38)), (h_tape, .inl (cB, 940, .inl f_tape))] := hD
        refine lv_aload_n hx hb dX10_operand_104 rfl (lv_at hl 3 rfl) ?_
        refine lv_dup hx hb dX10_operand_105 rfl ?_
        refine get_f (D := D) (ci := 10) (v := .int x_top) (C := RX10) (T := TX10) (N := 67) hx hb hw inAX10 hown hK hP 5 rfl rfl 60 (by decide) (hw _ q_1321) (fun _ h9 => h9) n66 dX10_operand_106 ?_
        refine lv_iconst (v := 1) hx hb dX10_operand_109 (by decide) ?_
        refine lv_iadd hx hb dX10_operand_110 ?_
        refine lv_topi (fun v69 ev69 => ?_)
        have bv69 : v69.toInt = x_top.toInt + 1 := by rw [ev69]; exact add_k rfl rfl i_x_top ⟨Int.le_refl _, Int.le_refl _⟩ (by decide)
        have k70 : 1 ≤ v69.toInt ∧ v69.toInt ≤ 46 := add_r bv69 i_x_top ⟨Int.le_refl _, Int.le_refl _⟩ (by decide)
        refine put_f (D := D) (ci := 10) (v := .int v69) (ty := .int) (C := RX10) (T := TX10) (N := 67) hx hb hw inAX10 tyX10 tyX10_ok nmX10 hown hK hP hD hS 5 rfl rfl 60 (by decide) (hw _ q_1321) (fun _ h9 => h9) rfl (by decide +kernel) rfl rfl dX10_operand_111 (fun H locs F71 eF71 hP hD hS => ?_)
        have hP : va_P D vwCl [(h_s, .inl (cI, 335, .inl f_s)), (h_read, .inl (cI, 135, .inl f_read)), (h_names, .inl (cJ, 36, .inr (.inl f_names))), (h_reserved, .inl (cJ, 23, .inr (.inl f_reserved))), (h_stack, .inl (cI, 45, .inl g68)), (h0, .inr (10, vL 67 F71)), (h_tape, .inl (cB, 940, .inl f_tape))] H := hP
        have hD : va_D A [(h_s, .inl (cI, 335, .inl f_s)), (h_read, .inl (cI, 135, .inl f_read)), (h_names, .inl (cJ, 36, .inr (.inl f_names))), (h_reserved, .inl (cJ, 23, .inr (.inl f_reserved))), (h_stack, .inl (cI, 45, .inl g68)), (h0, .inr (10, vL 67 F71)), (h_tape, .inl (cB, 940, .inl f_tape))] := hD
        refine lv_aload_n hx hb dX10_operand_114 rfl (lv_at hl 3 rfl) ?_
        refine lv_dup hx hb dX10_operand_115 rfl ?_
        have n72 : F28 61 = .int x_deep := (get_ne eF28 (by decide) e_deep)
        have n73 : F38 61 = .int x_deep := (SAME.at t45 (by decide) n72)
        have n74 : F71 61 = .int x_deep := (get_ne eF71 (by decide) n73)
        refine get_f (D := D) (ci := 10) (v := .int x_deep) (C := RX10) (T := TX10) (N := 67) hx hb hw inAX10 hown hK hP 5 rfl rfl 61 (by decide) (hw _ q_1322) (fun _ h9 => h9) n74 dX10_operand_116 ?_
        refine lv_iconst (v := 1) hx hb dX10_operand_119 (by decide) ?_
        refine lv_iadd hx hb dX10_operand_120 ?_
        refine lv_topi (fun v75 ev75 => ?_)
        have bv75 : v75.toInt = x_deep.toInt + 1 := by rw [ev75]; exact add_k rfl rfl k25 ⟨Int.le_refl _, Int.le_refl _⟩ (by decide)
        have k76 : (-2147483647) ≤ v75.toInt ∧ v75.toInt ≤ 9 := add_r bv75 k25 ⟨Int.le_refl _, Int.le_refl _⟩ (by decide)
        refine put_f (D := D) (ci := 10) (v := .int v75) (ty := .int) (C := RX10) (T := TX10) (N := 67) hx hb hw inAX10 tyX10 tyX10_ok nmX10 hown hK hP hD hS 5 rfl rfl 61 (by decide) (hw _ q_1322) (fun _ h9 => h9) rfl (by decide +kernel) rfl rfl dX10_operand_121 (fun H locs F77 eF77 hP hD hS => ?_)
        have hP : va_P D vwCl [(h_s, .inl (cI, 335, .inl f_s)), (h_read, .inl (cI, 135, .inl f_read)), (h_names, .inl (cJ, 36, .inr (.inl f_names))), (h_reserved, .inl (cJ, 23, .inr (.inl f_reserved))), (h_stack, .inl (cI, 45, .inl g68)), (h0, .inr (10, vL 67 F77)), (h_tape, .inl (cB, 940, .inl f_tape))] H := hP
        have hD : va_D A [(h_s, .inl (cI, 335, .inl f_s)), (h_read, .inl (cI, 135, .inl f_read)), (h_names, .inl (cJ, 36, .inr (.inl f_names))), (h_reserved, .inl (cJ, 23, .inr (.inl f_reserved))), (h_stack, .inl (cI, 45, .inl g68)), (h0, .inr (10, vL 67 F77)), (h_tape, .inl (cB, 940, .inl f_tape))] := hD
        refine lv_iconst (v := 1) hx hb dX10_operand_124 (by decide) ?_
        exact ret_i (v := 1) hx hb hr hlocks hS (hP.sub (ws' := [(h0, .inr (10, vL 67 F77)), (h_tape, .inl (cB, 940, .inl f_tape)), (h_s, .inl (cI, 335, .inl f_s)), (h_read, .inl (cI, 135, .inl f_read)), (h_names, .inl (cJ, 36, .inr (.inl f_names))), (h_reserved, .inl (cJ, 23, .inr (.inl f_reserved))), (h_stack, .inl (cI, 45, .inl g68))]) [5, 6, 0, 1, 2, 3, 4] rfl) (hD.sub (ws' := [(h0, .inr (10, vL 67 F77)), (h_tape, .inl (cB, 940, .inl f_tape)), (h_s, .inl (cI, 335, .inl f_s)), (h_read, .inl (cI, 135, .inl f_read)), (h_names, .inl (cJ, 36, .inr (.inl f_names))), (h_reserved, .inl (cJ, 23, .inr (.inl f_reserved))), (h_stack, .inl (cI, 45, .inl g68))]) [5, 6, 0, 1, 2, 3, 4] (by decide) rfl) dX10_operand_125 rfl (Nat.le_of_ble_eq_true rfl) (Nat.le_of_ble_eq_true rfl) ⟨F77, y39, y40, y41, y42, y43, x_fault, x_faultAt, y44, x_codes, v26, v69, v75, x_isWhole, f_read, g68, (SAME.up eF77 (SAME.up eF71 (SAME.tr (SAME.up eF28 SAME.rf (by decide)) t45 (by decide)) (by decide)) (by decide)), (get_ne eF77 (by decide) (get_ne eF71 (by decide) t46)), t47, (get_ne eF77 (by decide) (get_ne eF71 (by decide) t48)), t49, (get_ne eF77 (by decide) (get_ne eF71 (by decide) t50)), (get_ne eF77 (by decide) (get_ne eF71 (by decide) t52)), (get_ne eF77 (by decide) (get_ne eF71 (by decide) t54)), (get_ne eF77 (by decide) (get_ne eF71 (by decide) (SAME.at t45 (by decide) (get_ne eF28 (by decide) e_fault)))), (get_ne eF77 (by decide) (get_ne eF71 (by decide) (SAME.at t45 (by decide) (get_ne eF28 (by decide) e_faultAt)))), (get_ne eF77 (by decide) (get_ne eF71 (by decide) t55)), (get_ne eF77 (by decide) (get_ne eF71 (by decide) (SAME.at t45 (by decide) (get_ne eF28 (by decide) e_codes)))), i_x_codes, (get_ne eF77 (by decide) (get_ne eF71 (by decide) (SAME.at t45 (by decide) (get_eq eF28)))), (ir_wk k27 (by decide) (by decide)), (get_ne eF77 (by decide) (get_eq eF71)), (show 0 ≤ v69.toInt ∧ v69.toInt ≤ 45 from ⟨by omega, by omega⟩), (get_eq eF77), (get_ne eF77 (by decide) (get_ne eF71 (by decide) (SAME.at t45 (by decide) (get_ne eF28 (by decide) e_isWhole)))), i_x_isWhole, (show 0 ≤ (1 : Int32).toInt ∧ (1 : Int32).toInt ≤ 1 by decide), (by have zl1 : (1 : Int32).toInt = 1 := (by decide); omega), (fun _ => SMI.w (SMI.push z_1 eg68 (by omega) (by decide) (by omega)) (by omega)), (fun _ => t59), (by omega), (by omega), rfl⟩
      · have dc24 : 8 < x_deep.toInt := nle_i (a := x_deep.toInt) (b := 8) rfl rfl c24
        have k78 : 9 ≤ x_deep.toInt ∧ x_deep.toInt ≤ 2147483647 := ⟨lo_lt dc24 (Int.le_refl _) (by decide), (ir_any _).2⟩
        refine lv_aload_n hx hb dX10_operand_56 rfl (lv_at hl 3 rfl) ?_
        refine lv_iconst (v := 4) hx hb dX10_operand_57 (by decide) ?_
        refine call_Vi (wr := [(h_tape, .inl (cB, 940, .inl f_tape)), (h_s, .inl (cI, 335, .inl f_s)), (h_read, .inl (cI, 135, .inl f_read)), (h_names, .inl (cJ, 36, .inr (.inl f_names))), (h_reserved, .inl (cJ, 23, .inr (.inl f_reserved))), (h_stack, .inl (cI, 45, .inl f_stack))]) (As := [.int 4]) (rest := []) hx hb hml hown hw (m_X10_bad l D cI cJ cB cP cM cZ h0 Fh x_at 4 _ e_at) wV_X10_205_X10_bad dX10_operand_58 hK hP hD hS hA [6] [0, 1, 2, 3, 4, 5] rfl rfl (by decide) (by decide) (by decide) 0 10 rfl rfl GG.fb hG.at hl.1 rfl (Nat.le_of_ble_eq_true rfl) ⟨(Nat.le_of_ble_eq_true rfl), (Nat.le_of_ble_eq_true rfl)⟩ ⟨(Nat.le_of_ble_eq_true rfl), (Nat.le_of_ble_eq_true rfl)⟩ (fun r79 u H locs hp hP hD hS => ?_)
        have zl4 : (4 : Int32).toInt = 4 := by decide
        obtain ⟨F80, t81, t82, t83, rfl, rfl⟩ := hp
        have hP : va_P D vwCl [(h_tape, .inl (cB, 940, .inl f_tape)), (h_s, .inl (cI, 335, .inl f_s)), (h_read, .inl (cI, 135, .inl f_read)), (h_names, .inl (cJ, 36, .inr (.inl f_names))), (h_reserved, .inl (cJ, 23, .inr (.inl f_reserved))), (h_stack, .inl (cI, 45, .inl f_stack)), (h0, .inr (10, vL 67 F80))] H := hP
        have hD : va_D A [(h_tape, .inl (cB, 940, .inl f_tape)), (h_s, .inl (cI, 335, .inl f_s)), (h_read, .inl (cI, 135, .inl f_read)), (h_names, .inl (cJ, 36, .inr (.inl f_names))), (h_reserved, .inl (cJ, 23, .inr (.inl f_reserved))), (h_stack, .inl (cI, 45, .inl f_stack)), (h0, .inr (10, vL 67 F80))] := hD
        refine W.widen (k := 0) (n := 0) (Nat.le_of_ble_eq_true rfl) (Nat.le_of_ble_eq_true rfl) ?_
        exact ret_i (v := 0) hx hb hr hlocks hS (hP.sub (ws' := [(h0, .inr (10, vL 67 F80)), (h_tape, .inl (cB, 940, .inl f_tape)), (h_s, .inl (cI, 335, .inl f_s)), (h_read, .inl (cI, 135, .inl f_read)), (h_names, .inl (cJ, 36, .inr (.inl f_names))), (h_reserved, .inl (cJ, 23, .inr (.inl f_reserved))), (h_stack, .inl (cI, 45, .inl f_stack))]) [6, 0, 1, 2, 3, 4, 5] rfl) (hD.sub (ws' := [(h0, .inr (10, vL 67 F80)), (h_tape, .inl (cB, 940, .inl f_tape)), (h_s, .inl (cI, 335, .inl f_s)), (h_read, .inl (cI, 135, .inl f_read)), (h_names, .inl (cJ, 36, .inr (.inl f_names))), (h_reserved, .inl (cJ, 23, .inr (.inl f_reserved))), (h_stack, .inl (cI, 45, .inl f_stack))]) [6, 0, 1, 2, 3, 4, 5] (by decide) rfl) dX10_operand_61 rfl (Nat.le_of_ble_eq_true rfl) (Nat.le_of_ble_eq_true rfl) ⟨F80, x_p, x_token, x_at, x_span, x_number, 4, x_at, x_word, x_codes, x_ones, x_top, x_deep, x_isWhole, f_read, f_stack, (SAME.tr SAME.rf t81 (by decide)), (SAME.at t81 (by decide) e_p), i_x_p, (SAME.at t81 (by decide) e_token), i_x_token, (SAME.at t81 (by decide) e_at), (SAME.at t81 (by decide) e_span), (SAME.at t81 (by decide) e_number), t82, t83, (SAME.at t81 (by decide) e_word), (SAME.at t81 (by decide) e_codes), i_x_codes, (SAME.at t81 (by decide) e_ones), (ir_wk k23 (by decide) (by decide)), (SAME.at t81 (by decide) e_top), i_x_top, (SAME.at t81 (by decide) e_deep), (SAME.at t81 (by decide) e_isWhole), i_x_isWhole, (show 0 ≤ (0 : Int32).toInt ∧ (0 : Int32).toInt ≤ 1 by decide), (by have zl0 : (0 : Int32).toInt = 0 := (by decide); have zl4 : (4 : Int32).toInt = 4 := (by decide); omega), (fun q => absurd q (by decide)), (fun q => absurd q (by decide)), (by have zl4 : (4 : Int32).toInt = 4 := (by decide); omega), (by have zl4 : (4 : Int32).toInt = 4 := (by decide); omega), rfl⟩
  · have dc13 : r1.toInt = 0 := eq_i (a := r1.toInt) (b := 0) rfl rfl c13
    have k85 : 0 ≤ r1.toInt ∧ r1.toInt ≤ 0 := ⟨t2.1, Int.le_trans (Int.le_of_eq dc13) (Int.le_refl _)⟩
    refine lv_iload_n hx hb dX10_operand_24 rfl (lv_at hl 1 rfl) ?_
    refine lv_if_ne (tgt := 38) hx hb dX10_operand_25 (by decide) (fun c86 => ?_) (fun c86 => ?_)
    · have dc86 : r5.toInt ≠ 0 := ne_i (a := r5.toInt) (b := 0) rfl rfl c86
      have k87 : 1 ≤ r5.toInt ∧ r5.toInt ≤ 1 := ⟨ne_lo dc86 t6.1 ⟨Int.le_refl _, Int.le_refl _⟩ (by decide), t6.2⟩
      refine lv_aload_n hx hb dX10_operand_38 rfl (lv_at hl 3 rfl) ?_
      refine get_f (D := D) (ci := 10) (v := .int x_ones) (C := RX10) (T := TX10) (N := 67) hx hb hw inAX10 hown hK hP 6 rfl rfl 59 (by decide) (hw _ q_1320) (fun _ h9 => h9) e_ones dX10_operand_39 ?_
      refine lv_bipush (v := 20) hx hb dX10_operand_42 (by decide) ?_
      refine lv_icmp_eq (tgt := 56) hx hb dX10_operand_44 (by decide) (fun c88 => ?_) (fun c88 => ?_)
      · have dc88 : x_ones.toInt = 20 := eq_i (a := x_ones.toInt) (b := 20) rfl rfl c88
        have k89 : 20 ≤ x_ones.toInt ∧ x_ones.toInt ≤ 20 := ⟨Int.le_trans (Int.le_refl _) (Int.le_of_eq dc88.symm), i_x_ones.2⟩
        refine lv_aload_n hx hb dX10_operand_56 rfl (lv_at hl 3 rfl) ?_
        refine lv_iconst (v := 4) hx hb dX10_operand_57 (by decide) ?_
        refine call_Vi (wr := [(h_tape, .inl (cB, 940, .inl f_tape)), (h_s, .inl (cI, 335, .inl f_s)), (h_read, .inl (cI, 135, .inl f_read)), (h_names, .inl (cJ, 36, .inr (.inl f_names))), (h_reserved, .inl (cJ, 23, .inr (.inl f_reserved))), (h_stack, .inl (cI, 45, .inl f_stack))]) (As := [.int 4]) (rest := []) hx hb hml hown hw (m_X10_bad l D cI cJ cB cP cM cZ h0 Fh x_at 4 _ e_at) wV_X10_205_X10_bad dX10_operand_58 hK hP hD hS hA [6] [0, 1, 2, 3, 4, 5] rfl rfl (by decide) (by decide) (by decide) 0 10 rfl rfl GG.fb hG.at hl.1 rfl (Nat.le_of_ble_eq_true rfl) ⟨(Nat.le_of_ble_eq_true rfl), (Nat.le_of_ble_eq_true rfl)⟩ ⟨(Nat.le_of_ble_eq_true rfl), (Nat.le_of_ble_eq_true rfl)⟩ (fun r90 u H locs hp hP hD hS => ?_)
        have zl4 : (4 : Int32).toInt = 4 := by decide
        obtain ⟨F91, t92, t93, t94, rfl, rfl⟩ := hp
        have hP : va_P D vwCl [(h_tape, .inl (cB, 940, .inl f_tape)), (h_s, .inl (cI, 335, .inl f_s)), (h_read, .inl (cI, 135, .inl f_read)), (h_names, .inl (cJ, 36, .inr (.inl f_names))), (h_reserved, .inl (cJ, 23, .inr (.inl f_reserved))), (h_stack, .inl (cI, 45, .inl f_stack)), (h0, .inr (10, vL 67 F91))] H := hP
        have hD : va_D A [(h_tape, .inl (cB, 940, .inl f_tape)), (h_s, .inl (cI, 335, .inl f_s)), (h_read, .inl (cI, 135, .inl f_read)), (h_names, .inl (cJ, 36, .inr (.inl f_names))), (h_reserved, .inl (cJ, 23, .inr (.inl f_reserved))), (h_stack, .inl (cI, 45, .inl f_stack)), (h0, .inr (10, vL 67 F91))] := hD
        refine W.widen (k := 0) (n := 0) (Nat.le_of_ble_eq_true rfl) (Nat.le_of_ble_eq_true rfl) ?_
        exact ret_i (v := 0) hx hb hr hlocks hS (hP.sub (ws' := [(h0, .inr (10, vL 67 F91)), (h_tape, .inl (cB, 940, .inl f_tape)), (h_s, .inl (cI, 335, .inl f_s)), (h_read, .inl (cI, 135, .inl f_read)), (h_names, .inl (cJ, 36, .inr (.inl f_names))), (h_reserved, .inl (cJ, 23, .inr (.inl f_reserved))), (h_stack, .inl (cI, 45, .inl f_stack))]) [6, 0, 1, 2, 3, 4, 5] rfl) (hD.sub (ws' := [(h0, .inr (10, vL 67 F91)), (h_tape, .inl (cB, 940, .inl f_tape)), (h_s, .inl (cI, 335, .inl f_s)), (h_read, .inl (cI, 135, .inl f_read)), (h_names, .inl (cJ, 36, .inr (.inl f_names))), (h_reserved, .inl (cJ, 23, .inr (.inl f_reserved))), (h_stack, .inl (cI, 45, .inl f_stack))]) [6, 0, 1, 2, 3, 4, 5] (by decide) rfl) dX10_operand_61 rfl (Nat.le_of_ble_eq_true rfl) (Nat.le_of_ble_eq_true rfl) ⟨F91, x_p, x_token, x_at, x_span, x_number, 4, x_at, x_word, x_codes, x_ones, x_top, x_deep, x_isWhole, f_read, f_stack, (SAME.tr SAME.rf t92 (by decide)), (SAME.at t92 (by decide) e_p), i_x_p, (SAME.at t92 (by decide) e_token), i_x_token, (SAME.at t92 (by decide) e_at), (SAME.at t92 (by decide) e_span), (SAME.at t92 (by decide) e_number), t93, t94, (SAME.at t92 (by decide) e_word), (SAME.at t92 (by decide) e_codes), i_x_codes, (SAME.at t92 (by decide) e_ones), (ir_wk k89 (by decide) (by decide)), (SAME.at t92 (by decide) e_top), i_x_top, (SAME.at t92 (by decide) e_deep), (SAME.at t92 (by decide) e_isWhole), i_x_isWhole, (show 0 ≤ (0 : Int32).toInt ∧ (0 : Int32).toInt ≤ 1 by decide), (by have zl0 : (0 : Int32).toInt = 0 := (by decide); have zl4 : (4 : Int32).toInt = 4 := (by decide); omega), (fun q => absurd q (by decide)), (fun q => absurd q (by decide)), (by have zl4 : (4 : Int32).toInt = 4 := (by decide); omega), (by have zl4 : (4 : Int32).toInt = 4 := (by decide); omega), rfl⟩
      · have dc88 : x_ones.toInt ≠ 20 := ne_i (a := x_ones.toInt) (b := 20) rfl rfl c88
        have k96 : 0 ≤ x_ones.toInt ∧ x_ones.toInt ≤ 19 := ⟨i_x_ones.1, ne_hi dc88 i_x_ones.2 ⟨Int.le_refl _, Int.le_refl _⟩ (by decide)⟩
        refine lv_aload_n hx hb dX10_operand_47 rfl (lv_at hl 3 rfl) ?_
        refine get_f (D := D) (ci := 10) (v := .int x_deep) (C := RX10) (T := TX10) (N := 67) hx hb hw inAX10 hown hK hP 6 rfl rfl 61 (by decide) (hw _ q_1322) (fun _ h9 => h9) e_deep dX10_operand_48 ?_
        refine lv_bipush (v := 8) hx hb dX10_operand_51 (by decide) ?_
        refine lv_icmp_le (tgt := 62) hx hb dX10_operand_53 (by decide) (fun c97 => ?_) (fun c97 => ?_)
        · have dc97 : x_deep.toInt ≤ 8 := le_i (a := x_deep.toInt) (b := 8) rfl rfl c97
          have k98 : (-2147483648) ≤ x_deep.toInt ∧ x_deep.toInt ≤ 8 := ⟨(ir_any _).1, Int.le_trans dc97 (Int.le_refl _)⟩
          refine lv_aload_n hx hb dX10_operand_62 rfl (lv_at hl 3 rfl) ?_
          refine lv_dup hx hb dX10_operand_63 rfl ?_
          refine get_f (D := D) (ci := 10) (v := .int x_ones) (C := RX10) (T := TX10) (N := 67) hx hb hw inAX10 hown hK hP 6 rfl rfl 59 (by decide) (hw _ q_1320) (fun _ h9 => h9) e_ones dX10_operand_64 ?_
          refine lv_iconst (v := 1) hx hb dX10_operand_67 (by decide) ?_
          refine lv_iadd hx hb dX10_operand_68 ?_
          refine lv_topi (fun v99 ev99 => ?_)
          have bv99 : v99.toInt = x_ones.toInt + 1 := by rw [ev99]; exact add_k rfl rfl k96 ⟨Int.le_refl _, Int.le_refl _⟩ (by decide)
          have k100 : 1 ≤ v99.toInt ∧ v99.toInt ≤ 20 := add_r bv99 k96 ⟨Int.le_refl _, Int.le_refl _⟩ (by decide)
          refine put_f (D := D) (ci := 10) (v := .int v99) (ty := .int) (C := RX10) (T := TX10) (N := 67) hx hb hw inAX10 tyX10 tyX10_ok nmX10 hown hK hP hD hS 6 rfl rfl 59 (by decide) (hw _ q_1320) (fun _ h9 => h9) rfl (by decide +kernel) rfl rfl dX10_operand_69 (fun H locs F101 eF101 hP hD hS => ?_)
          have hP : va_P D vwCl [(h_tape, .inl (cB, 940, .inl f_tape)), (h_s, .inl (cI, 335, .inl f_s)), (h_read, .inl (cI, 135, .inl f_read)), (h_names, .inl (cJ, 36, .inr (.inl f_names))), (h_reserved, .inl (cJ, 23, .inr (.inl f_reserved))), (h_stack, .inl (cI, 45, .inl f_stack)), (h0, .inr (10, vL 67 F101))] H := hP
          have hD : va_D A [(h_tape, .inl (cB, 940, .inl f_tape)), (h_s, .inl (cI, 335, .inl f_s)), (h_read, .inl (cI, 135, .inl f_read)), (h_names, .inl (cJ, 36, .inr (.inl f_names))), (h_reserved, .inl (cJ, 23, .inr (.inl f_reserved))), (h_stack, .inl (cI, 45, .inl f_stack)), (h0, .inr (10, vL 67 F101))] := hD
          refine lv_aload_n hx hb dX10_operand_72 rfl (lv_at hl 3 rfl) ?_
          have n102 : F101 1 = .ref h_tape := (get_ne eF101 (by decide) e_tape)
          have n103 : F101 3 = .int x_size := (get_ne eF101 (by decide) e_size)
          have n104 : F101 4 = .int x_p := (get_ne eF101 (by decide) e_p)
          have n105 : F101 5 = .int x_limit := (get_ne eF101 (by decide) e_limit)
          have n106 : F101 11 = .int x_token := (get_ne eF101 (by decide) e_token)
          have n107 : F101 12 = .int x_at := (get_ne eF101 (by decide) e_at)
          have n108 : F101 14 = .int x_number := (get_ne eF101 (by decide) e_number)
          have n109 : F101 18 = .long x_word := (get_ne eF101 (by decide) e_word)
          refine call_Vv (wr := [(h_s, .inl (cI, 335, .inl f_s)), (h_read, .inl (cI, 135, .inl f_read)), (h_names, .inl (cJ, 36, .inr (.inl f_names))), (h_reserved, .inl (cJ, 23, .inr (.inl f_reserved))), (h_stack, .inl (cI, 45, .inl f_stack))]) (As := []) (rest := []) hx hb hml hown hw (m_X10_next l D cI cJ cB cP cM cZ h0 h_tape F101 x_size x_p x_limit x_token x_at x_number x_word f_tape _ n102 n103 i_x_size n104 i_x_p n105 i_x_limit n106 i_x_token n107 n108 n109 (by omega)) wV_X10_208_X10_next dX10_operand_73 hK hP hD hS hA [6, 0] [1, 2, 3, 4, 5] rfl rfl (by decide) (by decide) (by decide) 0 10 rfl rfl GG.fb hG.at hl.1 rfl (Nat.le_of_ble_eq_true rfl) ⟨(Nat.le_of_ble_eq_true rfl), (Nat.le_of_ble_eq_true rfl)⟩ ⟨(Nat.le_of_ble_eq_true rfl), (Nat.le_of_ble_eq_true rfl)⟩ (fun u H locs hp hP hD hS => ?_)
          obtain ⟨F111, y112, y113, y114, y115, y116, y117, t118, t119, t120, t121, t122, t123, t124, t125, t126, t127, t128, t129, t130, t131, t132, t133, rfl⟩ := hp
          have hP : va_P D vwCl [(h_s, .inl (cI, 335, .inl f_s)), (h_read, .inl (cI, 135, .inl f_read)), (h_names, .inl (cJ, 36, .inr (.inl f_names))), (h_reserved, .inl (cJ, 23, .inr (.inl f_reserved))), (h_stack, .inl (cI, 45, .inl f_stack)), (h0, .inr (10, vL 67 F111)), (h_tape, .inl (cB, 940, .inl f_tape))] H := hP
          have hD : va_D A [(h_s, .inl (cI, 335, .inl f_s)), (h_read, .inl (cI, 135, .inl f_read)), (h_names, .inl (cJ, 36, .inr (.inl f_names))), (h_reserved, .inl (cJ, 23, .inr (.inl f_reserved))), (h_stack, .inl (cI, 45, .inl f_stack)), (h0, .inr (10, vL 67 F111)), (h_tape, .inl (cB, 940, .inl f_tape))] := hD
          refine W.widen (k := 0) (n := 0) (Nat.le_of_ble_eq_true rfl) (Nat.le_of_ble_eq_true rfl) ?_
          refine lv_iload_n hx hb dX10_operand_76 rfl (lv_at hl 2 rfl) ?_
          refine lv_if_ne (tgt := 84) hx hb dX10_operand_77 (by decide) (fun c135 => False.elim (bad_ne (ne_i (a := r1.toInt) (b := 0) rfl rfl c135) k85 ⟨Int.le_refl _, Int.le_refl _⟩ (by decide))) (fun c135 => ?_)
          have dc135 : r1.toInt = 0 := eq_i (a := r1.toInt) (b := 0) rfl rfl c135
          refine lv_iload_n hx hb dX10_operand_80 rfl (lv_at hl 1 rfl) ?_
          refine lv_if_eq (tgt := 126) hx hb dX10_operand_81 (by decide) (fun c136 => False.elim (bad_le (Int.le_of_eq (eq_i (a := r5.toInt) (b := 0) rfl rfl c136)) k87.1 (Int.le_refl _) (by decide))) (fun c136 => ?_)
          have dc136 : r5.toInt ≠ 0 := ne_i (a := r5.toInt) (b := 0) rfl rfl c136
          refine lv_aload_n hx hb dX10_operand_84 rfl (lv_at hl 3 rfl) ?_
          have n137 : F101 57 = .ref h_stack := (get_ne eF101 (by decide) e_stack)
          have n138 : F111 57 = .ref h_stack := (SAME.at t118 (by decide) n137)
          refine get_f (D := D) (ci := 10) (v := .ref h_stack) (C := RX10) (T := TX10) (N := 67) hx hb hw inAX10 hown hK hP 5 rfl rfl 57 (by decide) (hw _ q_1318) (fun _ h9 => h9) n138 dX10_operand_85 ?_
          refine lv_aload_n hx hb dX10_operand_88 rfl (lv_at hl 3 rfl) ?_
          have n139 : F101 60 = .int x_top := (get_ne eF101 (by decide) e_top)
          have n140 : F111 60 = .int x_top := (SAME.at t118 (by decide) n139)
          refine get_f (D := D) (ci := 10) (v := .int x_top) (C := RX10) (T := TX10) (N := 67) hx hb hw inAX10 hown hK hP 5 rfl rfl 60 (by decide) (hw _ q_1321) (fun _ h9 => h9) n140 dX10_operand_89 ?_
          refine lv_iload_n hx hb dX10_operand_92 rfl (lv_at hl 2 rfl) ?_
          refine lv_if_eq (tgt := 101) hx hb dX10_operand_93 (by decide) (fun c141 => ?_) (fun c141 => False.elim (bad_ne (ne_i (a := r1.toInt) (b := 0) rfl rfl c141) k85 ⟨Int.le_refl _, Int.le_refl _⟩ (by decide)))
          have dc141 : r1.toInt = 0 := eq_i (a := r1.toInt) (b := 0) rfl rfl c141
          refine lv_bipush (v := 23) hx hb dX10_operand_101 (by decide) ?_
          obtain ⟨g142, eg142⟩ : ∃ z : Nat → Int32, upd f_stack x_top.toNatClampNeg 23 = z := ⟨_, rfl⟩
          refine iast_g hx hb hK hP hD hS 4 0 rfl rfl (ix_i (by omega) (by omega)) eg142 dX10_operand_103 (fun H locs hP hD hS => ?_)
          have hP : va_P D vwCl [(h_s, .inl (cI, 335, .inl f_s)), (h_read, .inl (cI, 135, .inl f_read)), (h_names, .inl (cJ, 36, .inr (.inl f_names))), (h_reserved, .inl (cJ, 23, .inr (.inl f_reserved))), (h_stack, .inl (cI, 45, .inl g142)), (h0, .inr (10, vL 67 F111)), (h_tape, .inl (cB, 940, .inl f_tape))] H := hP
          have hD : va_D A [(h_s, .inl (cI, 335, .inl f_s)), (h_read, .inl (cI, 135, .inl f_read)), (h_names, .inl (cJ, 36, .inr (.inl f_names))), (h_reserved, .inl (cJ, 23, .inr (.inl f_reserved))), (h_stack, .inl (cI, 45, .inl g142)), (h0, .inr (10, vL 67 F111)), (h_tape, .inl (cB, 940, .inl f_tape))] := hD
          refine lv_aload_n hx hb dX10_operand_104 rfl (lv_at hl 3 rfl) ?_
          refine lv_dup hx hb dX10_operand_105 rfl ?_
          refine get_f (D := D) (ci := 10) (v := .int x_top) (C := RX10) (T := TX10) (N := 67) hx hb hw inAX10 hown hK hP 5 rfl rfl 60 (by decide) (hw _ q_1321) (fun _ h9 => h9) n140 dX10_operand_106 ?_
          refine lv_iconst (v := 1) hx hb dX10_operand_109 (by decide) ?_
          refine lv_iadd hx hb dX10_operand_110 ?_
          refine lv_topi (fun v143 ev143 => ?_)
          have bv143 : v143.toInt = x_top.toInt + 1 := by rw [ev143]; exact add_k rfl rfl i_x_top ⟨Int.le_refl _, Int.le_refl _⟩ (by decide)
          have k144 : 1 ≤ v143.toInt ∧ v143.toInt ≤ 46 := add_r bv143 i_x_top ⟨Int.le_refl _, Int.le_refl _⟩ (by decide)
          refine put_f (D := D) (ci := 10) (v := .int v143) (ty := .int) (C := RX10) (T := TX10) (N := 67) hx hb hw inAX10 tyX10 tyX10_ok nmX10 hown hK hP hD hS 5 rfl rfl 60 (by decide) (hw _ q_1321) (fun _ h9 => h9) rfl (by decide +kernel) rfl rfl dX10_operand_111 (fun H locs F145 eF145 hP hD hS => ?_)
          have hP : va_P D vwCl [(h_s, .inl (cI, 335, .inl f_s)), (h_read, .inl (cI, 135, .inl f_read)), (h_names, .inl (cJ, 36, .inr (.inl f_names))), (h_reserved, .inl (cJ, 23, .inr (.inl f_reserved))), (h_stack, .inl (cI, 45, .inl g142)), (h0, .inr (10, vL 67 F145)), (h_tape, .inl (cB, 940, .inl f_tape))] H := hP
          have hD : va_D A [(h_s, .inl (cI, 335, .inl f_s)), (h_read, .inl (cI, 135, .inl f_read)), (h_names, .inl (cJ, 36, .inr (.inl f_names))), (h_reserved, .inl (cJ, 23, .inr (.inl f_reserved))), (h_stack, .inl (cI, 45, .inl g142)), (h0, .inr (10, vL 67 F145)), (h_tape, .inl (cB, 940, .inl f_tape))] := hD
          refine lv_aload_n hx hb dX10_operand_114 rfl (lv_at hl 3 rfl) ?_
          refine lv_dup hx hb dX10_operand_115 rfl ?_
          have n146 : F101 61 = .int x_deep := (get_ne eF101 (by decide) e_deep)
          have n147 : F111 61 = .int x_deep := (SAME.at t118 (by decide) n146)
          have n148 : F145 61 = .int x_deep := (get_ne eF145 (by decide) n147)
          refine get_f (D := D) (ci := 10) (v := .int x_deep) (C := RX10) (T := TX10) (N := 67) hx hb hw inAX10 hown hK hP 5 rfl rfl 61 (by decide) (hw _ q_1322) (fun _ h9 => h9) n148 dX10_operand_116 ?_
          refine lv_iconst (v := 1) hx hb dX10_operand_119 (by decide) ?_
          refine lv_iadd hx hb dX10_operand_120 ?_
          refine lv_topi (fun v149 ev149 => ?_)
          have bv149 : v149.toInt = x_deep.toInt + 1 := by rw [ev149]; exact add_k rfl rfl k98 ⟨Int.le_refl _, Int.le_refl _⟩ (by decide)
          have k150 : (-2147483647) ≤ v149.toInt ∧ v149.toInt ≤ 9 := add_r bv149 k98 ⟨Int.le_refl _, Int.le_refl _⟩ (by decide)
          refine put_f (D := D) (ci := 10) (v := .int v149) (ty := .int) (C := RX10) (T := TX10) (N := 67) hx hb hw inAX10 tyX10 tyX10_ok nmX10 hown hK hP hD hS 5 rfl rfl 61 (by decide) (hw _ q_1322) (fun _ h9 => h9) rfl (by decide +kernel) rfl rfl dX10_operand_121 (fun H locs F151 eF151 hP hD hS => ?_)
          have hP : va_P D vwCl [(h_s, .inl (cI, 335, .inl f_s)), (h_read, .inl (cI, 135, .inl f_read)), (h_names, .inl (cJ, 36, .inr (.inl f_names))), (h_reserved, .inl (cJ, 23, .inr (.inl f_reserved))), (h_stack, .inl (cI, 45, .inl g142)), (h0, .inr (10, vL 67 F151)), (h_tape, .inl (cB, 940, .inl f_tape))] H := hP
          have hD : va_D A [(h_s, .inl (cI, 335, .inl f_s)), (h_read, .inl (cI, 135, .inl f_read)), (h_names, .inl (cJ, 36, .inr (.inl f_names))), (h_reserved, .inl (cJ, 23, .inr (.inl f_reserved))), (h_stack, .inl (cI, 45, .inl g142)), (h0, .inr (10, vL 67 F151)), (h_tape, .inl (cB, 940, .inl f_tape))] := hD
          refine lv_iconst (v := 1) hx hb dX10_operand_124 (by decide) ?_
          exact ret_i (v := 1) hx hb hr hlocks hS (hP.sub (ws' := [(h0, .inr (10, vL 67 F151)), (h_tape, .inl (cB, 940, .inl f_tape)), (h_s, .inl (cI, 335, .inl f_s)), (h_read, .inl (cI, 135, .inl f_read)), (h_names, .inl (cJ, 36, .inr (.inl f_names))), (h_reserved, .inl (cJ, 23, .inr (.inl f_reserved))), (h_stack, .inl (cI, 45, .inl g142))]) [5, 6, 0, 1, 2, 3, 4] rfl) (hD.sub (ws' := [(h0, .inr (10, vL 67 F151)), (h_tape, .inl (cB, 940, .inl f_tape)), (h_s, .inl (cI, 335, .inl f_s)), (h_read, .inl (cI, 135, .inl f_read)), (h_names, .inl (cJ, 36, .inr (.inl f_names))), (h_reserved, .inl (cJ, 23, .inr (.inl f_reserved))), (h_stack, .inl (cI, 45, .inl g142))]) [5, 6, 0, 1, 2, 3, 4] (by decide) rfl) dX10_operand_125 rfl (Nat.le_of_ble_eq_true rfl) (Nat.le_of_ble_eq_true rfl) ⟨F151, y112, y113, y114, y115, y116, x_fault, x_faultAt, y117, x_codes, v99, v143, v149, x_isWhole, f_read, g142, (SAME.up eF151 (SAME.up eF145 (SAME.tr (SAME.up eF101 SAME.rf (by decide)) t118 (by decide)) (by decide)) (by decide)), (get_ne eF151 (by decide) (get_ne eF145 (by decide) t119)), t120, (get_ne eF151 (by decide) (get_ne eF145 (by decide) t121)), t122, (get_ne eF151 (by decide) (get_ne eF145 (by decide) t123)), (get_ne eF151 (by decide) (get_ne eF145 (by decide) t125)), (get_ne eF151 (by decide) (get_ne eF145 (by decide) t127)), (get_ne eF151 (by decide) (get_ne eF145 (by decide) (SAME.at t118 (by decide) (get_ne eF101 (by decide) e_fault)))), (get_ne eF151 (by decide) (get_ne eF145 (by decide) (SAME.at t118 (by decide) (get_ne eF101 (by decide) e_faultAt)))), (get_ne eF151 (by decide) (get_ne eF145 (by decide) t128)), (get_ne eF151 (by decide) (get_ne eF145 (by decide) (SAME.at t118 (by decide) (get_ne eF101 (by decide) e_codes)))), i_x_codes, (get_ne eF151 (by decide) (get_ne eF145 (by decide) (SAME.at t118 (by decide) (get_eq eF101)))), (ir_wk k100 (by decide) (by decide)), (get_ne eF151 (by decide) (get_eq eF145)), (show 0 ≤ v143.toInt ∧ v143.toInt ≤ 45 from ⟨by omega, by omega⟩), (get_eq eF151), (get_ne eF151 (by decide) (get_ne eF145 (by decide) (SAME.at t118 (by decide) (get_ne eF101 (by decide) e_isWhole)))), i_x_isWhole, (show 0 ≤ (1 : Int32).toInt ∧ (1 : Int32).toInt ≤ 1 by decide), (by have zl1 : (1 : Int32).toInt = 1 := (by decide); omega), (fun _ => SMI.w (SMI.push z_1 eg142 (by omega) (by decide) (by omega)) (by omega)), (fun _ => t132), (by omega), (by omega), rfl⟩
        · have dc97 : 8 < x_deep.toInt := nle_i (a := x_deep.toInt) (b := 8) rfl rfl c97
          have k152 : 9 ≤ x_deep.toInt ∧ x_deep.toInt ≤ 2147483647 := ⟨lo_lt dc97 (Int.le_refl _) (by decide), (ir_any _).2⟩
          refine lv_aload_n hx hb dX10_operand_56 rfl (lv_at hl 3 rfl) ?_
          refine lv_iconst (v := 4) hx hb dX10_operand_57 (by decide) ?_
          refine call_Vi (wr := [(h_tape, .inl (cB, 940, .inl f_tape)), (h_s, .inl (cI, 335, .inl f_s)), (h_read, .inl (cI, 135, .inl f_read)), (h_names, .inl (cJ, 36, .inr (.inl f_names))), (h_reserved, .inl (cJ, 23, .inr (.inl f_reserved))), (h_stack, .inl (cI, 45, .inl f_stack))]) (As := [.int 4]) (rest := []) hx hb hml hown hw (m_X10_bad l D cI cJ cB cP cM cZ h0 Fh x_at 4 _ e_at) wV_X10_205_X10_bad dX10_operand_58 hK hP hD hS hA [6] [0, 1, 2, 3, 4, 5] rfl rfl (by decide) (by decide) (by decide) 0 10 rfl rfl GG.fb hG.at hl.1 rfl (Nat.le_of_ble_eq_true rfl) ⟨(Nat.le_of_ble_eq_true rfl), (Nat.le_of_ble_eq_true rfl)⟩ ⟨(Nat.le_of_ble_eq_true rfl), (Nat.le_of_ble_eq_true rfl)⟩ (fun r153 u H locs hp hP hD hS => ?_)
          have zl4 : (4 : Int32).toInt = 4 := by decide
          obtain ⟨F154, t155, t156, t157, rfl, rfl⟩ := hp
          have hP : va_P D vwCl [(h_tape, .inl (cB, 940, .inl f_tape)), (h_s, .inl (cI, 335, .inl f_s)), (h_read, .inl (cI, 135, .inl f_read)), (h_names, .inl (cJ, 36, .inr (.inl f_names))), (h_reserved, .inl (cJ, 23, .inr (.inl f_reserved))), (h_stack, .inl (cI, 45, .inl f_stack)), (h0, .inr (10, vL 67 F154))] H := hP
          have hD : va_D A [(h_tape, .inl (cB, 940, .inl f_tape)), (h_s, .inl (cI, 335, .inl f_s)), (h_read, .inl (cI, 135, .inl f_read)), (h_names, .inl (cJ, 36, .inr (.inl f_names))), (h_reserved, .inl (cJ, 23, .inr (.inl f_reserved))), (h_stack, .inl (cI, 45, .inl f_stack)), (h0, .inr (10, vL 67 F154))] := hD
          refine W.widen (k := 0) (n := 0) (Nat.le_of_ble_eq_true rfl) (Nat.le_of_ble_eq_true rfl) ?_
          exact ret_i (v := 0) hx hb hr hlocks hS (hP.sub (ws' := [(h0, .inr (10, vL 67 F154)), (h_tape, .inl (cB, 940, .inl f_tape)), (h_s, .inl (cI, 335, .inl f_s)), (h_read, .inl (cI, 135, .inl f_read)), (h_names, .inl (cJ, 36, .inr (.inl f_names))), (h_reserved, .inl (cJ, 23, .inr (.inl f_reserved))), (h_stack, .inl (cI, 45, .inl f_stack))]) [6, 0, 1, 2, 3, 4, 5] rfl) (hD.sub (ws' := [(h0, .inr (10, vL 67 F154)), (h_tape, .inl (cB, 940, .inl f_tape)), (h_s, .inl (cI, 335, .inl f_s)), (h_read, .inl (cI, 135, .inl f_read)), (h_names, .inl (cJ, 36, .inr (.inl f_names))), (h_reserved, .inl (cJ, 23, .inr (.inl f_reserved))), (h_stack, .inl (cI, 45, .inl f_stack))]) [6, 0, 1, 2, 3, 4, 5] (by decide) rfl) dX10_operand_61 rfl (Nat.le_of_ble_eq_true rfl) (Nat.le_of_ble_eq_true rfl) ⟨F154, x_p, x_token, x_at, x_span, x_number, 4, x_at, x_word, x_codes, x_ones, x_top, x_deep, x_isWhole, f_read, f_stack, (SAME.tr SAME.rf t155 (by decide)), (SAME.at t155 (by decide) e_p), i_x_p, (SAME.at t155 (by decide) e_token), i_x_token, (SAME.at t155 (by decide) e_at), (SAME.at t155 (by decide) e_span), (SAME.at t155 (by decide) e_number), t156, t157, (SAME.at t155 (by decide) e_word), (SAME.at t155 (by decide) e_codes), i_x_codes, (SAME.at t155 (by decide) e_ones), (ir_wk k96 (by decide) (by decide)), (SAME.at t155 (by decide) e_top), i_x_top, (SAME.at t155 (by decide) e_deep), (SAME.at t155 (by decide) e_isWhole), i_x_isWhole, (show 0 ≤ (0 : Int32).toInt ∧ (0 : Int32).toInt ≤ 1 by decide), (by have zl0 : (0 : Int32).toInt = 0 := (by decide); have zl4 : (4 : Int32).toInt = 4 := (by decide); omega), (fun q => absurd q (by decide)), (fun q => absurd q (by decide)), (by have zl4 : (4 : Int32).toInt = 4 := (by decide); omega), (by have zl4 : (4 : Int32).toInt = 4 := (by decide); omega), rfl⟩
    · have dc86 : r5.toInt = 0 := eq_i (a := r5.toInt) (b := 0) rfl rfl c86
      have k159 : 0 ≤ r5.toInt ∧ r5.toInt ≤ 0 := ⟨t6.1, Int.le_trans (Int.le_of_eq dc86) (Int.le_refl _)⟩
      refine lv_iload_n hx hb dX10_operand_28 rfl (lv_at hl 0 rfl) ?_
      refine lv_if_ge (tgt := 38) hx hb dX10_operand_29 (by decide) (fun c160 => ?_) (fun c160 => ?_)
      · have dc160 : 0 ≤ r9.toInt := le_i (a := 0) (b := r9.toInt) rfl rfl c160
        have k161 : 0 ≤ r9.toInt ∧ r9.toInt ≤ 6 := ⟨Int.le_trans (Int.le_refl _) dc160, t10.2⟩
        refine lv_aload_n hx hb dX10_operand_38 rfl (lv_at hl 3 rfl) ?_
        refine get_f (D := D) (ci := 10) (v := .int x_ones) (C := RX10) (T := TX10) (N := 67) hx hb hw inAX10 hown hK hP 6 rfl rfl 59 (by decide) (hw _ q_1320) (fun _ h9 => h9) e_ones dX10_operand_39 ?_
        refine lv_bipush (v := 20) hx hb dX10_operand_42 (by decide) ?_
        refine lv_icmp_eq (tgt := 56) hx hb dX10_operand_44 (by decide) (fun c162 => ?_) (fun c162 => ?_)
        · have dc162 : x_ones.toInt = 20 := eq_i (a := x_ones.toInt) (b := 20) rfl rfl c162
          have k163 : 20 ≤ x_ones.toInt ∧ x_ones.toInt ≤ 20 := ⟨Int.le_trans (Int.le_refl _) (Int.le_of_eq dc162.symm), i_x_ones.2⟩
          refine lv_aload_n hx hb dX10_operand_56 rfl (lv_at hl 3 rfl) ?_
          refine lv_iconst (v := 4) hx hb dX10_operand_57 (by decide) ?_
          refine call_Vi (wr := [(h_tape, .inl (cB, 940, .inl f_tape)), (h_s, .inl (cI, 335, .inl f_s)), (h_read, .inl (cI, 135, .inl f_read)), (h_names, .inl (cJ, 36, .inr (.inl f_names))), (h_reserved, .inl (cJ, 23, .inr (.inl f_reserved))), (h_stack, .inl (cI, 45, .inl f_stack))]) (As := [.int 4]) (rest := []) hx hb hml hown hw (m_X10_bad l D cI cJ cB cP cM cZ h0 Fh x_at 4 _ e_at) wV_X10_205_X10_bad dX10_operand_58 hK hP hD hS hA [6] [0, 1, 2, 3, 4, 5] rfl rfl (by decide) (by decide) (by decide) 0 10 rfl rfl GG.fb hG.at hl.1 rfl (Nat.le_of_ble_eq_true rfl) ⟨(Nat.le_of_ble_eq_true rfl), (Nat.le_of_ble_eq_true rfl)⟩ ⟨(Nat.le_of_ble_eq_true rfl), (Nat.le_of_ble_eq_true rfl)⟩ (fun r164 u H locs hp hP hD hS => ?_)
          have zl4 : (4 : Int32).toInt = 4 := by decide
          obtain ⟨F165, t166, t167, t168, rfl, rfl⟩ := hp
          have hP : va_P D vwCl [(h_tape, .inl (cB, 940, .inl f_tape)), (h_s, .inl (cI, 335, .inl f_s)), (h_read, .inl (cI, 135, .inl f_read)), (h_names, .inl (cJ, 36, .inr (.inl f_names))), (h_reserved, .inl (cJ, 23, .inr (.inl f_reserved))), (h_stack, .inl (cI, 45, .inl f_stack)), (h0, .inr (10, vL 67 F165))] H := hP
          have hD : va_D A [(h_tape, .inl (cB, 940, .inl f_tape)), (h_s, .inl (cI, 335, .inl f_s)), (h_read, .inl (cI, 135, .inl f_read)), (h_names, .inl (cJ, 36, .inr (.inl f_names))), (h_reserved, .inl (cJ, 23, .inr (.inl f_reserved))), (h_stack, .inl (cI, 45, .inl f_stack)), (h0, .inr (10, vL 67 F165))] := hD
          refine W.widen (k := 0) (n := 0) (Nat.le_of_ble_eq_true rfl) (Nat.le_of_ble_eq_true rfl) ?_
          exact ret_i (v := 0) hx hb hr hlocks hS (hP.sub (ws' := [(h0, .inr (10, vL 67 F165)), (h_tape, .inl (cB, 940, .inl f_tape)), (h_s, .inl (cI, 335, .inl f_s)), (h_read, .inl (cI, 135, .inl f_read)), (h_names, .inl (cJ, 36, .inr (.inl f_names))), (h_reserved, .inl (cJ, 23, .inr (.inl f_reserved))), (h_stack, .inl (cI, 45, .inl f_stack))]) [6, 0, 1, 2, 3, 4, 5] rfl) (hD.sub (ws' := [(h0, .inr (10, vL 67 F165)), (h_tape, .inl (cB, 940, .inl f_tape)), (h_s, .inl (cI, 335, .inl f_s)), (h_read, .inl (cI, 135, .inl f_read)), (h_names, .inl (cJ, 36, .inr (.inl f_names))), (h_reserved, .inl (cJ, 23, .inr (.inl f_reserved))), (h_stack, .inl (cI, 45, .inl f_stack))]) [6, 0, 1, 2, 3, 4, 5] (by decide) rfl) dX10_operand_61 rfl (Nat.le_of_ble_eq_true rfl) (Nat.le_of_ble_eq_true rfl) ⟨F165, x_p, x_token, x_at, x_span, x_number, 4, x_at, x_word, x_codes, x_ones, x_top, x_deep, x_isWhole, f_read, f_stack, (SAME.tr SAME.rf t166 (by decide)), (SAME.at t166 (by decide) e_p), i_x_p, (SAME.at t166 (by decide) e_token), i_x_token, (SAME.at t166 (by decide) e_at), (SAME.at t166 (by decide) e_span), (SAME.at t166 (by decide) e_number), t167, t168, (SAME.at t166 (by decide) e_word), (SAME.at t166 (by decide) e_codes), i_x_codes, (SAME.at t166 (by decide) e_ones), (ir_wk k163 (by decide) (by decide)), (SAME.at t166 (by decide) e_top), i_x_top, (SAME.at t166 (by decide) e_deep), (SAME.at t166 (by decide) e_isWhole), i_x_isWhole, (show 0 ≤ (0 : Int32).toInt ∧ (0 : Int32).toInt ≤ 1 by decide), (by have zl0 : (0 : Int32).toInt = 0 := (by decide); have zl4 : (4 : Int32).toInt = 4 := (by decide); omega), (fun q => absurd q (by decide)), (fun q => absurd q (by decide)), (by have zl4 : (4 : Int32).toInt = 4 := (by decide); omega), (by have zl4 : (4 : Int32).toInt = 4 := (by decide); omega), rfl⟩
        · have dc162 : x_ones.toInt ≠ 20 := ne_i (a := x_ones.toInt) (b := 20) rfl rfl c162
          have k170 : 0 ≤ x_ones.toInt ∧ x_ones.toInt ≤ 19 := ⟨i_x_ones.1, ne_hi dc162 i_x_ones.2 ⟨Int.le_refl _, Int.le_refl _⟩ (by decide)⟩
          refine lv_aload_n hx hb dX10_operand_47 rfl (lv_at hl 3 rfl) ?_
          refine get_f (D := D) (ci := 10) (v := .int x_deep) (C := RX10) (T := TX10) (N := 67) hx hb hw inAX10 hown hK hP 6 rfl rfl 61 (by decide) (hw _ q_1322) (fun _ h9 => h9) e_deep dX10_operand_48 ?_
          refine lv_bipush (v := 8) hx hb dX10_operand_51 (by decide) ?_
          refine lv_icmp_le (tgt := 62) hx hb dX10_operand_53 (by decide) (fun c171 => ?_) (fun c171 => ?_)
          · have dc171 : x_deep.toInt ≤ 8 := le_i (a := x_deep.toInt) (b := 8) rfl rfl c171
            have k172 : (-2147483648) ≤ x_deep.toInt ∧ x_deep.toInt ≤ 8 := ⟨(ir_any _).1, Int.le_trans dc171 (Int.le_refl _)⟩
            refine lv_aload_n hx hb dX10_operand_62 rfl (lv_at hl 3 rfl) ?_
            refine lv_dup hx hb dX10_operand_63 rfl ?_
            refine get_f (D := D) (ci := 10) (v := .int x_ones) (C := RX10) (T := TX10) (N := 67) hx hb hw inAX10 hown hK hP 6 rfl rfl 59 (by decide) (hw _ q_1320) (fun _ h9 => h9) e_ones dX10_operand_64 ?_
            refine lv_iconst (v := 1) hx hb dX10_operand_67 (by decide) ?_
            refine lv_iadd hx hb dX10_operand_68 ?_
            refine lv_topi (fun v173 ev173 => ?_)
            have bv173 : v173.toInt = x_ones.toInt + 1 := by rw [ev173]; exact add_k rfl rfl k170 ⟨Int.le_refl _, Int.le_refl _⟩ (by decide)
            have k174 : 1 ≤ v173.toInt ∧ v173.toInt ≤ 20 := add_r bv173 k170 ⟨Int.le_refl _, Int.le_refl _⟩ (by decide)
            refine put_f (D := D) (ci := 10) (v := .int v173) (ty := .int) (C := RX10) (T := TX10) (N := 67) hx hb hw inAX10 tyX10 tyX10_ok nmX10 hown hK hP hD hS 6 rfl rfl 59 (by decide) (hw _ q_1320) (fun _ h9 => h9) rfl (by decide +kernel) rfl rfl dX10_operand_69 (fun H locs F175 eF175 hP hD hS => ?_)
            have hP : va_P D vwCl [(h_tape, .inl (cB, 940, .inl f_tape)), (h_s, .inl (cI, 335, .inl f_s)), (h_read, .inl (cI, 135, .inl f_read)), (h_names, .inl (cJ, 36, .inr (.inl f_names))), (h_reserved, .inl (cJ, 23, .inr (.inl f_reserved))), (h_stack, .inl (cI, 45, .inl f_stack)), (h0, .inr (10, vL 67 F175))] H := hP
            have hD : va_D A [(h_tape, .inl (cB, 940, .inl f_tape)), (h_s, .inl (cI, 335, .inl f_s)), (h_read, .inl (cI, 135, .inl f_read)), (h_names, .inl (cJ, 36, .inr (.inl f_names))), (h_reserved, .inl (cJ, 23, .inr (.inl f_reserved))), (h_stack, .inl (cI, 45, .inl f_stack)), (h0, .inr (10, vL 67 F175))] := hD
            refine lv_aload_n hx hb dX10_operand_72 rfl (lv_at hl 3 rfl) ?_
            have n176 : F175 1 = .ref h_tape := (get_ne eF175 (by decide) e_tape)
            have n177 : F175 3 = .int x_size := (get_ne eF175 (by decide) e_size)
            have n178 : F175 4 = .int x_p := (get_ne eF175 (by decide) e_p)
            have n179 : F175 5 = .int x_limit := (get_ne eF175 (by decide) e_limit)
            have n180 : F175 11 = .int x_token := (get_ne eF175 (by decide) e_token)
            have n181 : F175 12 = .int x_at := (get_ne eF175 (by decide) e_at)
            have n182 : F175 14 = .int x_number := (get_ne eF175 (by decide) e_number)
            have n183 : F175 18 = .long x_word := (get_ne eF175 (by decide) e_word)
            refine call_Vv (wr := [(h_s, .inl (cI, 335, .inl f_s)), (h_read, .inl (cI, 135, .inl f_read)), (h_names, .inl (cJ, 36, .inr (.inl f_names))), (h_reserved, .inl (cJ, 23, .inr (.inl f_reserved))), (h_stack, .inl (cI, 45, .inl f_stack))]) (As := []) (rest := []) hx hb hml hown hw (m_X10_next l D cI cJ cB cP cM cZ h0 h_tape F175 x_size x_p x_limit x_token x_at x_number x_word f_tape _ n176 n177 i_x_size n178 i_x_p n179 i_x_limit n180 i_x_token n181 n182 n183 (by omega)) wV_X10_208_X10_next dX10_operand_73 hK hP hD hS hA [6, 0] [1, 2, 3, 4, 5] rfl rfl (by decide) (by decide) (by decide) 0 10 rfl rfl GG.fb hG.at hl.1 rfl (Nat.le_of_ble_eq_true rfl) ⟨(Nat.le_of_ble_eq_true rfl), (Nat.le_of_ble_eq_true rfl)⟩ ⟨(Nat.le_of_ble_eq_true rfl), (Nat.le_of_ble_eq_true rfl)⟩ (fun u H locs hp hP hD hS => ?_)
            obtain ⟨F185, y186, y187, y188, y189, y190, y191, t192, t193, t194, t195, t196, t197, t198, t199, t200, t201, t202, t203, t204, t205, t206, t207, rfl⟩ := hp
            have hP : va_P D vwCl [(h_s, .inl (cI, 335, .inl f_s)), (h_read, .inl (cI, 135, .inl f_read)), (h_names, .inl (cJ, 36, .inr (.inl f_names))), (h_reserved, .inl (cJ, 23, .inr (.inl f_reserved))), (h_stack, .inl (cI, 45, .inl f_stack)), (h0, .inr (10, vL 67 F185)), (h_tape, .inl (cB, 940, .inl f_tape))] H := hP
            have hD : va_D A [(h_s, .inl (cI, 335, .inl f_s)), (h_read, .inl (cI, 135, .inl f_read)), (h_names, .inl (cJ, 36, .inr (.inl f_names))), (h_reserved, .inl (cJ, 23, .inr (.inl f_reserved))), (h_stack, .inl (cI, 45, .inl f_stack)), (h0, .inr (10, vL 67 F185)), (h_tape, .inl (cB, 940, .inl f_tape))] := hD
            refine W.widen (k := 0) (n := 0) (Nat.le_of_ble_eq_true rfl) (Nat.le_of_ble_eq_true rfl) ?_
            refine lv_iload_n hx hb dX10_operand_76 rfl (lv_at hl 2 rfl) ?_
            refine lv_if_ne (tgt := 84) hx hb dX10_operand_77 (by decide) (fun c209 => False.elim (bad_ne (ne_i (a := r1.toInt) (b := 0) rfl rfl c209) k85 ⟨Int.le_refl _, Int.le_refl _⟩ (by decide))) (fun c209 => ?_)
            have dc209 : r1.toInt = 0 := eq_i (a := r1.toInt) (b := 0) rfl rfl c209
            refine lv_iload_n hx hb dX10_operand_80 rfl (lv_at hl 1 rfl) ?_
            refine lv_if_eq (tgt := 126) hx hb dX10_operand_81 (by decide) (fun c210 => ?_) (fun c210 => False.elim (bad_ne (ne_i (a := r5.toInt) (b := 0) rfl rfl c210) k159 ⟨Int.le_refl _, Int.le_refl _⟩ (by decide)))
            have dc210 : r5.toInt = 0 := eq_i (a := r5.toInt) (b := 0) rfl rfl c210
            refine lv_aload_n hx hb dX10_operand_126 rfl (lv_at hl 3 rfl) ?_
            refine lv_iconst (v := 1) hx hb dX10_operand_127 (by decide) ?_
            refine put_f (D := D) (ci := 10) (v := .int 1) (ty := .boolean) (C := RX10) (T := TX10) (N := 67) hx hb hw inAX10 tyX10 tyX10_ok nmX10 hown hK hP hD hS 5 rfl rfl 62 (by decide) (hw _ q_1323) (fun _ h9 => h9) rfl (by decide +kernel) rfl rfl dX10_operand_128 (fun H locs F211 eF211 hP hD hS => ?_)
            have hP : va_P D vwCl [(h_s, .inl (cI, 335, .inl f_s)), (h_read, .inl (cI, 135, .inl f_read)), (h_names, .inl (cJ, 36, .inr (.inl f_names))), (h_reserved, .inl (cJ, 23, .inr (.inl f_reserved))), (h_stack, .inl (cI, 45, .inl f_stack)), (h0, .inr (10, vL 67 F211)), (h_tape, .inl (cB, 940, .inl f_tape))] H := hP
            have hD : va_D A [(h_s, .inl (cI, 335, .inl f_s)), (h_read, .inl (cI, 135, .inl f_read)), (h_names, .inl (cJ, 36, .inr (.inl f_names))), (h_reserved, .inl (cJ, 23, .inr (.inl f_reserved))), (h_stack, .inl (cI, 45, .inl f_stack)), (h0, .inr (10, vL 67 F211)), (h_tape, .inl (cB, 940, .inl f_tape))] := hD
            refine lv_iload_n hx hb dX10_operand_131 rfl (lv_at hl 0 rfl) ?_
            refine lv_iconst (v := 2) hx hb dX10_operand_132 (by decide) ?_
            refine lv_icmp_ge (tgt := 145) hx hb dX10_operand_133 (by decide) (fun c212 => ?_) (fun c212 => ?_)
            · have dc212 : 2 ≤ r9.toInt := le_i (a := 2) (b := r9.toInt) rfl rfl c212
              have k213 : 2 ≤ r9.toInt ∧ r9.toInt ≤ 6 := ⟨Int.le_trans (Int.le_refl _) dc212, k161.2⟩
              refine lv_iload_n hx hb dX10_operand_145 rfl (lv_at hl 0 rfl) ?_
              refine lv_iconst (v := 2) hx hb dX10_operand_146 (by decide) ?_
              refine lv_icmp_ne (tgt := 201) hx hb dX10_operand_147 (by decide) (fun c214 => ?_) (fun c214 => ?_)
              · have dc214 : r9.toInt ≠ 2 := ne_i (a := r9.toInt) (b := 2) rfl rfl c214
                have k215 : 3 ≤ r9.toInt ∧ r9.toInt ≤ 6 := ⟨ne_lo dc214 k213.1 ⟨Int.le_refl _, Int.le_refl _⟩ (by decide), k213.2⟩
                refine lv_aload_n hx hb dX10_operand_201 rfl (lv_at hl 3 rfl) ?_
                have n216 : F211 11 = .int y187 := (get_ne eF211 (by decide) t195)
                refine get_f (D := D) (ci := 10) (v := .int y187) (C := RX10) (T := TX10) (N := 67) hx hb hw inAX10 hown hK hP 5 rfl rfl 11 (by decide) (hw _ q_1272) (fun _ h9 => h9) n216 dX10_operand_202 ?_
                refine lv_iconst (v := 3) hx hb dX10_operand_205 (by decide) ?_
                refine lv_icmp_ne (tgt := 227) hx hb dX10_operand_206 (by decide) (fun c217 => ?_) (fun c217 => ?_)
                · have dc217 : y187.toInt ≠ 3 := ne_i (a := y187.toInt) (b := 3) rfl rfl c217
                  refine lv_aload_n hx hb dX10_operand_227 rfl (lv_at hl 3 rfl) ?_
                  refine lv_iconst (v := 1) hx hb dX10_operand_228 (by decide) ?_
                  have n218 : F211 12 = .int y188 := (get_ne eF211 (by decide) t197)
                  refine call_Vi (wr := [(h_s, .inl (cI, 335, .inl f_s)), (h_read, .inl (cI, 135, .inl f_read)), (h_names, .inl (cJ, 36, .inr (.inl f_names))), (h_reserved, .inl (cJ, 23, .inr (.inl f_reserved))), (h_stack, .inl (cI, 45, .inl f_stack)), (h_tape, .inl (cB, 940, .inl f_tape))]) (As := [.int 1]) (rest := []) hx hb hml hown hw (m_X10_bad l D cI cJ cB cP cM cZ h0 F211 y188 1 _ n218) wV_X10_205_X10_bad dX10_operand_229 hK hP hD hS hA [5] [0, 1, 2, 3, 4, 6] rfl rfl (by decide) (by decide) (by decide) 0 10 rfl rfl GG.fb hG.at hl.1 rfl (Nat.le_of_ble_eq_true rfl) ⟨(Nat.le_of_ble_eq_true rfl), (Nat.le_of_ble_eq_true rfl)⟩ ⟨(Nat.le_of_ble_eq_true rfl), (Nat.le_of_ble_eq_true rfl)⟩ (fun r219 u H locs hp hP hD hS => ?_)
                  have zl1 : (1 : Int32).toInt = 1 := by decide
                  obtain ⟨F220, t221, t222, t223, rfl, rfl⟩ := hp
                  have hP : va_P D vwCl [(h_s, .inl (cI, 335, .inl f_s)), (h_read, .inl (cI, 135, .inl f_read)), (h_names, .inl (cJ, 36, .inr (.inl f_names))), (h_reserved, .inl (cJ, 23, .inr (.inl f_reserved))), (h_stack, .inl (cI, 45, .inl f_stack)), (h_tape, .inl (cB, 940, .inl f_tape)), (h0, .inr (10, vL 67 F220))] H := hP
                  have hD : va_D A [(h_s, .inl (cI, 335, .inl f_s)), (h_read, .inl (cI, 135, .inl f_read)), (h_names, .inl (cJ, 36, .inr (.inl f_names))), (h_reserved, .inl (cJ, 23, .inr (.inl f_reserved))), (h_stack, .inl (cI, 45, .inl f_stack)), (h_tape, .inl (cB, 940, .inl f_tape)), (h0, .inr (10, vL 67 F220))] := hD
                  refine W.widen (k := 0) (n := 0) (Nat.le_of_ble_eq_true rfl) (Nat.le_of_ble_eq_true rfl) ?_
                  exact ret_i (v := 0) hx hb hr hlocks hS (hP.sub (ws' := [(h0, .inr (10, vL 67 F220)), (h_tape, .inl (cB, 940, .inl f_tape)), (h_s, .inl (cI, 335, .inl f_s)), (h_read, .inl (cI, 135, .inl f_read)), (h_names, .inl (cJ, 36, .inr (.inl f_names))), (h_reserved, .inl (cJ, 23, .inr (.inl f_reserved))), (h_stack, .inl (cI, 45, .inl f_stack))]) [6, 5, 0, 1, 2, 3, 4] rfl) (hD.sub (ws' := [(h0, .inr (10, vL 67 F220)), (h_tape, .inl (cB, 940, .inl f_tape)), (h_s, .inl (cI, 335, .inl f_s)), (h_read, .inl (cI, 135, .inl f_read)), (h_names, .inl (cJ, 36, .inr (.inl f_names))), (h_reserved, .inl (cJ, 23, .inr (.inl f_reserved))), (h_stack, .inl (cI, 45, .inl f_stack))]) [6, 5, 0, 1, 2, 3, 4] (by decide) rfl) dX10_operand_232 rfl (Nat.le_of_ble_eq_true rfl) (Nat.le_of_ble_eq_true rfl) ⟨F220, y186, y187, y188, y189, y190, 1, y188, y191, x_codes, v173, x_top, x_deep, 1, f_read, f_stack, (SAME.tr (SAME.up eF211 (SAME.tr (SAME.up eF175 SAME.rf (by decide)) t192 (by decide)) (by decide)) t221 (by decide)), (SAME.at t221 (by decide) (get_ne eF211 (by decide) t193)), t194, (SAME.at t221 (by decide) n216), t196, (SAME.at t221 (by decide) n218), (SAME.at t221 (by decide) (get_ne eF211 (by decide) t199)), (SAME.at t221 (by decide) (get_ne eF211 (by decide) t201)), t222, t223, (SAME.at t221 (by decide) (get_ne eF211 (by decide) t202)), (SAME.at t221 (by decide) (get_ne eF211 (by decide) (SAME.at t192 (by decide) (get_ne eF175 (by decide) e_codes)))), i_x_codes, (SAME.at t221 (by decide) (get_ne eF211 (by decide) (SAME.at t192 (by decide) (get_eq eF175)))), (ir_wk k174 (by decide) (by decide)), (SAME.at t221 (by decide) (get_ne eF211 (by decide) (SAME.at t192 (by decide) (get_ne eF175 (by decide) e_top)))), i_x_top, (SAME.at t221 (by decide) (get_ne eF211 (by decide) (SAME.at t192 (by decide) (get_ne eF175 (by decide) e_deep)))), (SAME.at t221 (by decide) (get_eq eF211)), (show 0 ≤ (1 : Int32).toInt ∧ (1 : Int32).toInt ≤ 1 by decide), (show 0 ≤ (0 : Int32).toInt ∧ (0 : Int32).toInt ≤ 1 by decide), (by have zl0 : (0 : Int32).toInt = 0 := (by decide); have zl1 : (1 : Int32).toInt = 1 := (by decide); omega), (fun q => absurd q (by decide)), (fun q => absurd q (by decide)), (by have zl1 : (1 : Int32).toInt = 1 := (by decide); omega), (by have zl1 : (1 : Int32).toInt = 1 := (by decide); omega), rfl⟩
                · have dc217 : y187.toInt = 3 := eq_i (a := y187.toInt) (b := 3) rfl rfl c217
                  have k225 : 3 ≤ y187.toInt ∧ y187.toInt ≤ 3 := ⟨Int.le_trans (Int.le_refl _) (Int.le_of_eq dc217.symm), Int.le_trans (Int.le_of_eq dc217) (Int.le_refl _)⟩
                  refine lv_aload_n hx hb dX10_operand_209 rfl (lv_at hl 3 rfl) ?_
                  have n226 : F211 14 = .int y190 := (get_ne eF211 (by decide) t201)
                  refine get_f (D := D) (ci := 10) (v := .int y190) (C := RX10) (T := TX10) (N := 67) hx hb hw inAX10 hown hK hP 5 rfl rfl 14 (by decide) (hw _ q_1275) (fun _ h9 => h9) n226 dX10_operand_210 ?_
                  refine lv_bipush (v := 60) hx hb dX10_operand_213 (by decide) ?_
                  refine lv_icmp_lt (tgt := 227) hx hb dX10_operand_215 (by decide) (fun c227 => ?_) (fun c227 => ?_)
                  · have dc227 : y190.toInt < 60 := lt_i (a := y190.toInt) (b := 60) rfl rfl c227
                    have k228 : (-2147483648) ≤ y190.toInt ∧ y190.toInt ≤ 59 := ⟨(ir_any _).1, up_lt dc227 (Int.le_refl _) (by decide)⟩
                    refine lv_aload_n hx hb dX10_operand_227 rfl (lv_at hl 3 rfl) ?_
                    refine lv_iconst (v := 1) hx hb dX10_operand_228 (by decide) ?_
                    have n229 : F211 12 = .int y188 := (get_ne eF211 (by decide) t197)
                    refine call_Vi (wr := [(h_s, .inl (cI, 335, .inl f_s)), (h_read, .inl (cI, 135, .inl f_read)), (h_names, .inl (cJ, 36, .inr (.inl f_names))), (h_reserved, .inl (cJ, 23, .inr (.inl f_reserved))), (h_stack, .inl (cI, 45, .inl f_stack)), (h_tape, .inl (cB, 940, .inl f_tape))]) (As := [.int 1]) (rest := []) hx hb hml hown hw (m_X10_bad l D cI cJ cB cP cM cZ h0 F211 y188 1 _ n229) wV_X10_205_X10_bad dX10_operand_229 hK hP hD hS hA [5] [0, 1, 2, 3, 4, 6] rfl rfl (by decide) (by decide) (by decide) 0 10 rfl rfl GG.fb hG.at hl.1 rfl (Nat.le_of_ble_eq_true rfl) ⟨(Nat.le_of_ble_eq_true rfl), (Nat.le_of_ble_eq_true rfl)⟩ ⟨(Nat.le_of_ble_eq_true rfl), (Nat.le_of_ble_eq_true rfl)⟩ (fun r230 u H locs hp hP hD hS => ?_)
                    have zl1 : (1 : Int32).toInt = 1 := by decide
                    obtain ⟨F231, t232, t233, t234, rfl, rfl⟩ := hp
                    have hP : va_P D vwCl [(h_s, .inl (cI, 335, .inl f_s)), (h_read, .inl (cI, 135, .inl f_read)), (h_names, .inl (cJ, 36, .inr (.inl f_names))), (h_reserved, .inl (cJ, 23, .inr (.inl f_reserved))), (h_stack, .inl (cI, 45, .inl f_stack)), (h_tape, .inl (cB, 940, .inl f_tape)), (h0, .inr (10, vL 67 F231))] H := hP
                    have hD : va_D A [(h_s, .inl (cI, 335, .inl f_s)), (h_read, .inl (cI, 135, .inl f_read)), (h_names, .inl (cJ, 36, .inr (.inl f_names))), (h_reserved, .inl (cJ, 23, .inr (.inl f_reserved))), (h_stack, .inl (cI, 45, .inl f_stack)), (h_tape, .inl (cB, 940, .inl f_tape)), (h0, .inr (10, vL 67 F231))] := hD
                    refine W.widen (k := 0) (n := 0) (Nat.le_of_ble_eq_true rfl) (Nat.le_of_ble_eq_true rfl) ?_
                    exact ret_i (v := 0) hx hb hr hlocks hS (hP.sub (ws' := [(h0, .inr (10, vL 67 F231)), (h_tape, .inl (cB, 940, .inl f_tape)), (h_s, .inl (cI, 335, .inl f_s)), (h_read, .inl (cI, 135, .inl f_read)), (h_names, .inl (cJ, 36, .inr (.inl f_names))), (h_reserved, .inl (cJ, 23, .inr (.inl f_reserved))), (h_stack, .inl (cI, 45, .inl f_stack))]) [6, 5, 0, 1, 2, 3, 4] rfl) (hD.sub (ws' := [(h0, .inr (10, vL 67 F231)), (h_tape, .inl (cB, 940, .inl f_tape)), (h_s, .inl (cI, 335, .inl f_s)), (h_read, .inl (cI, 135, .inl f_read)), (h_names, .inl (cJ, 36, .inr (.inl f_names))), (h_reserved, .inl (cJ, 23, .inr (.inl f_reserved))), (h_stack, .inl (cI, 45, .inl f_stack))]) [6, 5, 0, 1, 2, 3, 4] (by decide) rfl) dX10_operand_232 rfl (Nat.le_of_ble_eq_true rfl) (Nat.le_of_ble_eq_true rfl) ⟨F231, y186, y187, y188, y189, y190, 1, y188, y191, x_codes, v173, x_top, x_deep, 1, f_read, f_stack, (SAME.tr (SAME.up eF211 (SAME.tr (SAME.up eF175 SAME.rf (by decide)) t192 (by decide)) (by decide)) t232 (by decide)), (SAME.at t232 (by decide) (get_ne eF211 (by decide) t193)), t194, (SAME.at t232 (by decide) n216), (ir_wk k225 (by decide) (by decide)), (SAME.at t232 (by decide) n229), (SAME.at t232 (by decide) (get_ne eF211 (by decide) t199)), (SAME.at t232 (by decide) n226), t233, t234, (SAME.at t232 (by decide) (get_ne eF211 (by decide) t202)), (SAME.at t232 (by decide) (get_ne eF211 (by decide) (SAME.at t192 (by decide) (get_ne eF175 (by decide) e_codes)))), i_x_codes, (SAME.at t232 (by decide) (get_ne eF211 (by decide) (SAME.at t192 (by decide) (get_eq eF175)))), (ir_wk k174 (by decide) (by decide)), (SAME.at t232 (by decide) (get_ne eF211 (by decide) (SAME.at t192 (by decide) (get_ne eF175 (by decide) e_top)))), i_x_top, (SAME.at t232 (by decide) (get_ne eF211 (by decide) (SAME.at t192 (by decide) (get_ne eF175 (by decide) e_deep)))), (SAME.at t232 (by decide) (get_eq eF211)), (show 0 ≤ (1 : Int32).toInt ∧ (1 : Int32).toInt ≤ 1 by decide), (show 0 ≤ (0 : Int32).toInt ∧ (0 : Int32).toInt ≤ 1 by decide), (by have zl0 : (0 : Int32).toInt = 0 := (by decide); have zl1 : (1 : Int32).toInt = 1 := (by decide); omega), (fun q => absurd q (by decide)), (fun q => absurd q (by decide)), (by have zl1 : (1 : Int32).toInt = 1 := (by decide); omega), (by have zl1 : (1 : Int32).toInt = 1 := (by decide); omega), rfl⟩
                  · have dc227 : 60 ≤ y190.toInt := nlt_i (a := y190.toInt) (b := 60) rfl rfl c227
                    have k236 : 60 ≤ y190.toInt ∧ y190.toInt ≤ 2147483647 := ⟨Int.le_trans (Int.le_refl _) dc227, (ir_any _).2⟩
                    refine lv_aload_n hx hb dX10_operand_218 rfl (lv_at hl 3 rfl) ?_
                    refine get_f (D := D) (ci := 10) (v := .int y190) (C := RX10) (T := TX10) (N := 67) hx hb hw inAX10 hown hK hP 5 rfl rfl 14 (by decide) (hw _ q_1275) (fun _ h9 => h9) n226 dX10_operand_219 ?_
                    refine lv_bipush (v := 62) hx hb dX10_operand_222 (by decide) ?_
                    refine lv_icmp_le (tgt := 233) hx hb dX10_operand_224 (by decide) (fun c237 => ?_) (fun c237 => ?_)
                    · have dc237 : y190.toInt ≤ 62 := le_i (a := y190.toInt) (b := 62) rfl rfl c237
                      have k238 : 60 ≤ y190.toInt ∧ y190.toInt ≤ 62 := ⟨k236.1, Int.le_trans dc237 (Int.le_refl _)⟩
                      refine lv_aload_n hx hb dX10_operand_233 rfl (lv_at hl 3 rfl) ?_
                      refine get_f (D := D) (ci := 10) (v := .int y190) (C := RX10) (T := TX10) (N := 67) hx hb hw inAX10 hown hK hP 5 rfl rfl 14 (by decide) (hw _ q_1275) (fun _ h9 => h9) n226 dX10_operand_234 ?_
                      refine lv_istore (lv' := [(4, .int y190), (3, .int r9), (2, .int r5), (1, .int r1), (0, .ref h0)]) hx hb dX10_operand_237 hl (by decide) rfl (fun ls hl => ?_)
                      refine lv_aload_n hx hb dX10_operand_239 rfl (lv_at hl 4 rfl) ?_
                      have n239 : F185 1 = .ref h_tape := (SAME.at t192 (by decide) n176)
                      have n240 : F211 1 = .ref h_tape := (get_ne eF211 (by decide) n239)
                      have n241 : F185 3 = .int x_size := (SAME.at t192 (by decide) n177)
                      have n242 : F211 3 = .int x_size := (get_ne eF211 (by decide) n241)
                      have n243 : F211 4 = .int y186 := (get_ne eF211 (by decide) t193)
                      have n244 : F185 5 = .int x_limit := (SAME.at t192 (by decide) n179)
                      have n245 : F211 5 = .int x_limit := (get_ne eF211 (by decide) n244)
                      have n246 : F211 12 = .int y188 := (get_ne eF211 (by decide) t197)
                      have n247 : F211 18 = .long y191 := (get_ne eF211 (by decide) t202)
                      refine call_Vv (wr := [(h_s, .inl (cI, 335, .inl f_s)), (h_read, .inl (cI, 135, .inl f_read)), (h_names, .inl (cJ, 36, .inr (.inl f_names))), (h_reserved, .inl (cJ, 23, .inr (.inl f_reserved))), (h_stack, .inl (cI, 45, .inl f_stack))]) (As := []) (rest := []) hx hb hml hown hw (m_X10_next l D cI cJ cB cP cM cZ h0 h_tape F211 x_size y186 x_limit y187 y188 y190 y191 f_tape _ n240 n242 i_x_size n243 t194 n245 i_x_limit n216 (ir_wk k225 (by decide) (by decide)) n246 n226 n247 (by omega)) wV_X10_208_X10_next dX10_operand_240 hK hP hD hS hA [5, 6] [0, 1, 2, 3, 4] rfl rfl (by decide) (by decide) (by decide) 0 10 rfl rfl GG.fb hG.at hl.1 rfl (Nat.le_of_ble_eq_true rfl) ⟨(Nat.le_of_ble_eq_true rfl), (Nat.le_of_ble_eq_true rfl)⟩ ⟨(Nat.le_of_ble_eq_true rfl), (Nat.le_of_ble_eq_true rfl)⟩ (fun u H locs hp hP hD hS => ?_)
                      obtain ⟨F249, y250, y251, y252, y253, y254, y255, t256, t257, t258, t259, t260, t261, t262, t263, t264, t265, t266, t267, t268, t269, t270, t271, rfl⟩ := hp
                      clear t204 t207
                      have hP : va_P D vwCl [(h_s, .inl (cI, 335, .inl f_s)), (h_read, .inl (cI, 135, .inl f_read)), (h_names, .inl (cJ, 36, .inr (.inl f_names))), (h_reserved, .inl (cJ, 23, .inr (.inl f_reserved))), (h_stack, .inl (cI, 45, .inl f_stack)), (h0, .inr (10, vL 67 F249)), (h_tape, .inl (cB, 940, .inl f_tape))] H := hP
                      have hD : va_D A [(h_s, .inl (cI, 335, .inl f_s)), (h_read, .inl (cI, 135, .inl f_read)), (h_names, .inl (cJ, 36, .inr (.inl f_names))), (h_reserved, .inl (cJ, 23, .inr (.inl f_reserved))), (h_stack, .inl (cI, 45, .inl f_stack)), (h0, .inr (10, vL 67 F249)), (h_tape, .inl (cB, 940, .inl f_tape))] := hD
                      refine W.widen (k := 0) (n := 0) (Nat.le_of_ble_eq_true rfl) (Nat.le_of_ble_eq_true rfl) ?_
                      refine lv_aload_n hx hb dX10_operand_243 rfl (lv_at hl 4 rfl) ?_
                      refine get_f (D := D) (ci := 10) (v := .int y251) (C := RX10) (T := TX10) (N := 67) hx hb hw inAX10 hown hK hP 5 rfl rfl 11 (by decide) (hw _ q_1272) (fun _ h9 => h9) t259 dX10_operand_244 ?_
                      refine lv_iconst (v := 2) hx hb dX10_operand_247 (by decide) ?_
                      refine lv_icmp_eq (tgt := 257) hx hb dX10_operand_248 (by decide) (fun c273 => ?_) (fun c273 => ?_)
                      · have dc273 : y251.toInt = 2 := eq_i (a := y251.toInt) (b := 2) rfl rfl c273
                        have k274 : 2 ≤ y251.toInt ∧ y251.toInt ≤ 2 := ⟨Int.le_trans (Int.le_refl _) (Int.le_of_eq dc273.symm), Int.le_trans (Int.le_of_eq dc273) (Int.le_refl _)⟩
                        refine lv_aload_n hx hb dX10_operand_257 rfl (lv_at hl 4 rfl) ?_
                        refine lv_iload_n hx hb dX10_operand_258 rfl (lv_at hl 1 rfl) ?_
                        refine lv_iload hx hb dX10_operand_259 (lv_at hl 0 rfl) ?_
                        refine lv_aload_n hx hb dX10_operand_261 rfl (lv_at hl 4 rfl) ?_
                        refine get_f (D := D) (ci := 10) (v := .int y254) (C := RX10) (T := TX10) (N := 67) hx hb hw inAX10 hown hK hP 5 rfl rfl 14 (by decide) (hw _ q_1275) (fun _ h9 => h9) t265 dX10_operand_262 ?_
                        have n275 : F175 8 = .ref h_read := (get_ne eF175 (by decide) e_read)
                        have n276 : F185 8 = .ref h_read := (SAME.at t192 (by decide) n275)
                        have n277 : F211 8 = .ref h_read := (get_ne eF211 (by decide) n276)
                        have n278 : F249 8 = .ref h_read := (SAME.at t256 (by decide) n277)
                        have n279 : F175 58 = .int x_codes := (get_ne eF175 (by decide) e_codes)
                        have n280 : F185 58 = .int x_codes := (SAME.at t192 (by decide) n279)
                        have n281 : F211 58 = .int x_codes := (get_ne eF211 (by decide) n280)
                        have n282 : F249 58 = .int x_codes := (SAME.at t256 (by decide) n281)
                        have n283 : F185 59 = .int v173 := (SAME.at t192 (by decide) (get_eq eF175))
                        have n284 : F211 59 = .int v173 := (get_ne eF211 (by decide) n283)
                        have n285 : F249 59 = .int v173 := (SAME.at t256 (by decide) n284)
                        have n286 : F175 60 = .int x_top := (get_ne eF175 (by decide) e_top)
                        have n287 : F185 60 = .int x_top := (SAME.at t192 (by decide) n286)
                        have n288 : F211 60 = .int x_top := (get_ne eF211 (by decide) n287)
                        have n289 : F249 60 = .int x_top := (SAME.at t256 (by decide) n288)
                        have n290 : F249 62 = .int 1 := (SAME.at t256 (by decide) (get_eq eF211))
                        refine call_Vv (wr := [(h_s, .inl (cI, 335, .inl f_s)), (h_names, .inl (cJ, 36, .inr (.inl f_names))), (h_reserved, .inl (cJ, 23, .inr (.inl f_reserved))), (h_stack, .inl (cI, 45, .inl f_stack)), (h_tape, .inl (cB, 940, .inl f_tape))]) (As := [.int r9, .int y190, .int y254]) (rest := []) hx hb hml hown hw (m_X10_code l D cI cJ cB cP cM cZ h0 h_read F249 x_codes v173 x_top 1 f_read r9 y190 y254 _ n278 n282 (show 0 ≤ x_codes.toInt ∧ x_codes.toInt ≤ 44 from ⟨by omega, by omega⟩) n285 (ir_wk k174 (by decide) (by decide)) n289 i_x_top n290 (show 0 ≤ (1 : Int32).toInt ∧ (1 : Int32).toInt ≤ 1 by decide) (by have z0 : (1 : Int32).toInt = 1 := rfl; omega) (by have z0 : (1 : Int32).toInt = 1 := rfl; omega)) wV_X10_447_X10_code dX10_operand_265 hK hP hD hS hA [5, 1] [0, 2, 3, 4, 6] rfl rfl (by decide) (by decide) (by decide) 0 10 rfl rfl GG.fb hG.at hl.1 rfl (Nat.le_of_ble_eq_true rfl) ⟨(Nat.le_of_ble_eq_true rfl), (Nat.le_of_ble_eq_true rfl)⟩ ⟨(Nat.le_of_ble_eq_true rfl), (Nat.le_of_ble_eq_true rfl)⟩ (fun u H locs hp hP hD hS => ?_)
                        have zl1 : (1 : Int32).toInt = 1 := by decide
                        obtain ⟨F292, y293, g294, t295, t296, t297, t298, t299, t300, rfl⟩ := hp
                        have hP : va_P D vwCl [(h_s, .inl (cI, 335, .inl f_s)), (h_names, .inl (cJ, 36, .inr (.inl f_names))), (h_reserved, .inl (cJ, 23, .inr (.inl f_reserved))), (h_stack, .inl (cI, 45, .inl f_stack)), (h_tape, .inl (cB, 940, .inl f_tape)), (h0, .inr (10, vL 67 F292)), (h_read, .inl (cI, 135, .inl g294))] H := hP
                        have hD : va_D A [(h_s, .inl (cI, 335, .inl f_s)), (h_names, .inl (cJ, 36, .inr (.inl f_names))), (h_reserved, .inl (cJ, 23, .inr (.inl f_reserved))), (h_stack, .inl (cI, 45, .inl f_stack)), (h_tape, .inl (cB, 940, .inl f_tape)), (h0, .inr (10, vL 67 F292)), (h_read, .inl (cI, 135, .inl g294))] := hD
                        refine W.widen (k := 0) (n := 0) (Nat.le_of_ble_eq_true rfl) (Nat.le_of_ble_eq_true rfl) ?_
                        refine lv_aload_n hx hb dX10_operand_268 rfl (lv_at hl 4 rfl) ?_
                        have n302 : F249 1 = .ref h_tape := (SAME.at t256 (by decide) n240)
                        have n303 : F292 1 = .ref h_tape := (SAME.at t295 (by decide) n302)
                        have n304 : F249 3 = .int x_size := (SAME.at t256 (by decide) n242)
                        have n305 : F292 3 = .int x_size := (SAME.at t295 (by decide) n304)
                        have n306 : F292 4 = .int y250 := (SAME.at t295 (by decide) t257)
                        have n307 : F249 5 = .int x_limit := (SAME.at t256 (by decide) n245)
                        have n308 : F292 5 = .int x_limit := (SAME.at t295 (by decide) n307)
                        have n309 : F292 11 = .int y251 := (SAME.at t295 (by decide) t259)
                        have n310 : F292 12 = .int y252 := (SAME.at t295 (by decide) t261)
                        have n311 : F292 14 = .int y254 := (SAME.at t295 (by decide) t265)
                        have n312 : F292 18 = .long y255 := (SAME.at t295 (by decide) t266)
                        refine call_Vv (wr := [(h_s, .inl (cI, 335, .inl f_s)), (h_names, .inl (cJ, 36, .inr (.inl f_names))), (h_reserved, .inl (cJ, 23, .inr (.inl f_reserved))), (h_stack, .inl (cI, 45, .inl f_stack)), (h_read, .inl (cI, 135, .inl g294))]) (As := []) (rest := []) hx hb hml hown hw (m_X10_next l D cI cJ cB cP cM cZ h0 h_tape F292 x_size y250 x_limit y251 y252 y254 y255 f_tape _ n303 n305 i_x_size n306 t258 n308 i_x_limit n309 (ir_wk k274 (by decide) (by decide)) n310 n311 n312 (by omega)) wV_X10_208_X10_next dX10_operand_269 hK hP hD hS hA [5, 4] [0, 1, 2, 3, 6] rfl rfl (by decide) (by decide) (by decide) 0 10 rfl rfl GG.fb hG.at hl.1 rfl (Nat.le_of_ble_eq_true rfl) ⟨(Nat.le_of_ble_eq_true rfl), (Nat.le_of_ble_eq_true rfl)⟩ ⟨(Nat.le_of_ble_eq_true rfl), (Nat.le_of_ble_eq_true rfl)⟩ (fun u H locs hp hP hD hS => ?_)
                        obtain ⟨F314, y315, y316, y317, y318, y319, y320, t321, t322, t323, t324, t325, t326, t327, t328, t329, t330, t331, t332, t333, t334, t335, t336, rfl⟩ := hp
                        clear t268 t271
                        have hP : va_P D vwCl [(h_s, .inl (cI, 335, .inl f_s)), (h_names, .inl (cJ, 36, .inr (.inl f_names))), (h_reserved, .inl (cJ, 23, .inr (.inl f_reserved))), (h_stack, .inl (cI, 45, .inl f_stack)), (h_read, .inl (cI, 135, .inl g294)), (h0, .inr (10, vL 67 F314)), (h_tape, .inl (cB, 940, .inl f_tape))] H := hP
                        have hD : va_D A [(h_s, .inl (cI, 335, .inl f_s)), (h_names, .inl (cJ, 36, .inr (.inl f_names))), (h_reserved, .inl (cJ, 23, .inr (.inl f_reserved))), (h_stack, .inl (cI, 45, .inl f_stack)), (h_read, .inl (cI, 135, .inl g294)), (h0, .inr (10, vL 67 F314)), (h_tape, .inl (cB, 940, .inl f_tape))] := hD
                        refine W.widen (k := 0) (n := 0) (Nat.le_of_ble_eq_true rfl) (Nat.le_of_ble_eq_true rfl) ?_
                        refine lv_iconst (v := 1) hx hb dX10_operand_272 (by decide) ?_
                        exact ret_i (v := 1) hx hb hr hlocks hS (hP.sub (ws' := [(h0, .inr (10, vL 67 F314)), (h_tape, .inl (cB, 940, .inl f_tape)), (h_s, .inl (cI, 335, .inl f_s)), (h_read, .inl (cI, 135, .inl g294)), (h_names, .inl (cJ, 36, .inr (.inl f_names))), (h_reserved, .inl (cJ, 23, .inr (.inl f_reserved))), (h_stack, .inl (cI, 45, .inl f_stack))]) [5, 6, 0, 4, 1, 2, 3] rfl) (hD.sub (ws' := [(h0, .inr (10, vL 67 F314)), (h_tape, .inl (cB, 940, .inl f_tape)), (h_s, .inl (cI, 335, .inl f_s)), (h_read, .inl (cI, 135, .inl g294)), (h_names, .inl (cJ, 36, .inr (.inl f_names))), (h_reserved, .inl (cJ, 23, .inr (.inl f_reserved))), (h_stack, .inl (cI, 45, .inl f_stack))]) [5, 6, 0, 4, 1, 2, 3] (by decide) rfl) dX10_operand_273 rfl (Nat.le_of_ble_eq_true rfl) (Nat.le_of_ble_eq_true rfl) ⟨F314, y315, y316, y317, y318, y319, x_fault, x_faultAt, y320, y293, v173, x_top, x_deep, 1, g294, f_stack, (SAME.tr (SAME.tr (SAME.tr (SAME.up eF211 (SAME.tr (SAME.up eF175 SAME.rf (by decide)) t192 (by decide)) (by decide)) t256 (by decide)) t295 (by decide)) t321 (by decide)), t322, t323, t324, t325, t326, t328, t330, (SAME.at t321 (by decide) (SAME.at t295 (by decide) (SAME.at t256 (by decide) (get_ne eF211 (by decide) (SAME.at t192 (by decide) (get_ne eF175 (by decide) e_fault)))))), (SAME.at t321 (by decide) (SAME.at t295 (by decide) (SAME.at t256 (by decide) (get_ne eF211 (by decide) (SAME.at t192 (by decide) (get_ne eF175 (by decide) e_faultAt)))))), t331, (SAME.at t321 (by decide) t296), (ir_wk t297 (by decide) (by decide)), (SAME.at t321 (by decide) (SAME.at t295 (by decide) n285)), (ir_wk k174 (by decide) (by decide)), (SAME.at t321 (by decide) (SAME.at t295 (by decide) n289)), i_x_top, (SAME.at t321 (by decide) (SAME.at t295 (by decide) (SAME.at t256 (by decide) (get_ne eF211 (by decide) (SAME.at t192 (by decide) (get_ne eF175 (by decide) e_deep)))))), (SAME.at t321 (by decide) (SAME.at t295 (by decide) n290)), (show 0 ≤ (1 : Int32).toInt ∧ (1 : Int32).toInt ≤ 1 by decide), (show 0 ≤ (1 : Int32).toInt ∧ (1 : Int32).toInt ≤ 1 by decide), (by have zl1 : (1 : Int32).toInt = 1 := (by decide); omega), (fun _ => SMI.leaf z_1 t299 (ir_wk k215 (by decide) (by decide)) (by omega) (by decide)), (fun _ => t335), (by have zl1 : (1 : Int32).toInt = 1 := (by decide); omega), (by have zl1 : (1 : Int32).toInt = 1 := (by decide); omega), rfl⟩
                      · have dc273 : y251.toInt ≠ 2 := ne_i (a := y251.toInt) (b := 2) rfl rfl c273
                        refine lv_aload_n hx hb dX10_operand_251 rfl (lv_at hl 4 rfl) ?_
                        refine lv_iconst (v := 1) hx hb dX10_operand_252 (by decide) ?_
                        refine call_Vi (wr := [(h_s, .inl (cI, 335, .inl f_s)), (h_read, .inl (cI, 135, .inl f_read)), (h_names, .inl (cJ, 36, .inr (.inl f_names))), (h_reserved, .inl (cJ, 23, .inr (.inl f_reserved))), (h_stack, .inl (cI, 45, .inl f_stack)), (h_tape, .inl (cB, 940, .inl f_tape))]) (As := [.int 1]) (rest := []) hx hb hml hown hw (m_X10_bad l D cI cJ cB cP cM cZ h0 F249 y252 1 _ t261) wV_X10_205_X10_bad dX10_operand_253 hK hP hD hS hA [5] [0, 1, 2, 3, 4, 6] rfl rfl (by decide) (by decide) (by decide) 0 10 rfl rfl GG.fb hG.at hl.1 rfl (Nat.le_of_ble_eq_true rfl) ⟨(Nat.le_of_ble_eq_true rfl), (Nat.le_of_ble_eq_true rfl)⟩ ⟨(Nat.le_of_ble_eq_true rfl), (Nat.le_of_ble_eq_true rfl)⟩ (fun r338 u H locs hp hP hD hS => ?_)
                        have zl1 : (1 : Int32).toInt = 1 := by decide
                        obtain ⟨F339, t340, t341, t342, rfl, rfl⟩ := hp
                        have hP : va_P D vwCl [(h_s, .inl (cI, 335, .inl f_s)), (h_read, .inl (cI, 135, .inl f_read)), (h_names, .inl (cJ, 36, .inr (.inl f_names))), (h_reserved, .inl (cJ, 23, .inr (.inl f_reserved))), (h_stack, .inl (cI, 45, .inl f_stack)), (h_tape, .inl (cB, 940, .inl f_tape)), (h0, .inr (10, vL 67 F339))] H := hP
                        have hD : va_D A [(h_s, .inl (cI, 335, .inl f_s)), (h_read, .inl (cI, 135, .inl f_read)), (h_names, .inl (cJ, 36, .inr (.inl f_names))), (h_reserved, .inl (cJ, 23, .inr (.inl f_reserved))), (h_stack, .inl (cI, 45, .inl f_stack)), (h_tape, .inl (cB, 940, .inl f_tape)), (h0, .inr (10, vL 67 F339))] := hD
                        refine W.widen (k := 0) (n := 0) (Nat.le_of_ble_eq_true rfl) (Nat.le_of_ble_eq_true rfl) ?_
                        exact ret_i (v := 0) hx hb hr hlocks hS (hP.sub (ws' := [(h0, .inr (10, vL 67 F339)), (h_tape, .inl (cB, 940, .inl f_tape)), (h_s, .inl (cI, 335, .inl f_s)), (h_read, .inl (cI, 135, .inl f_read)), (h_names, .inl (cJ, 36, .inr (.inl f_names))), (h_reserved, .inl (cJ, 23, .inr (.inl f_reserved))), (h_stack, .inl (cI, 45, .inl f_stack))]) [6, 5, 0, 1, 2, 3, 4] rfl) (hD.sub (ws' := [(h0, .inr (10, vL 67 F339)), (h_tape, .inl (cB, 940, .inl f_tape)), (h_s, .inl (cI, 335, .inl f_s)), (h_read, .inl (cI, 135, .inl f_read)), (h_names, .inl (cJ, 36, .inr (.inl f_names))), (h_reserved, .inl (cJ, 23, .inr (.inl f_reserved))), (h_stack, .inl (cI, 45, .inl f_stack))]) [6, 5, 0, 1, 2, 3, 4] (by decide) rfl) dX10_operand_256 rfl (Nat.le_of_ble_eq_true rfl) (Nat.le_of_ble_eq_true rfl) ⟨F339, y250, y251, y252, y253, y254, 1, y252, y255, x_codes, v173, x_top, x_deep, 1, f_read, f_stack, (SAME.tr (SAME.tr (SAME.up eF211 (SAME.tr (SAME.up eF175 SAME.rf (by decide)) t192 (by decide)) (by decide)) t256 (by decide)) t340 (by decide)), (SAME.at t340 (by decide) t257), t258, (SAME.at t340 (by decide) t259), t260, (SAME.at t340 (by decide) t261), (SAME.at t340 (by decide) t263), (SAME.at t340 (by decide) t265), t341, t342, (SAME.at t340 (by decide) t266), (SAME.at t340 (by decide) (SAME.at t256 (by decide) (get_ne eF211 (by decide) (SAME.at t192 (by decide) (get_ne eF175 (by decide) e_codes))))), i_x_codes, (SAME.at t340 (by decide) (SAME.at t256 (by decide) (get_ne eF211 (by decide) (SAME.at t192 (by decide) (get_eq eF175))))), (ir_wk k174 (by decide) (by decide)), (SAME.at t340 (by decide) (SAME.at t256 (by decide) (get_ne eF211 (by decide) (SAME.at t192 (by decide) (get_ne eF175 (by decide) e_top))))), i_x_top, (SAME.at t340 (by decide) (SAME.at t256 (by decide) (get_ne eF211 (by decide) (SAME.at t192 (by decide) (get_ne eF175 (by decide) e_deep))))), (SAME.at t340 (by decide) (SAME.at t256 (by decide) (get_eq eF211))), (show 0 ≤ (1 : Int32).toInt ∧ (1 : Int32).toInt ≤ 1 by decide), (show 0 ≤ (0 : Int32).toInt ∧ (0 : Int32).toInt ≤ 1 by decide), (by have zl0 : (0 : Int32).toInt = 0 := (by decide); have zl1 : (1 : Int32).toInt = 1 := (by decide); omega), (fun q => absurd q (by decide)), (fun q => absurd q (by decide)), (by have zl1 : (1 : Int32).toInt = 1 := (by decide); omega), (by have zl1 : (1 : Int32).toInt = 1 := (by decide); omega), rfl⟩
                    · have dc237 : 62 < y190.toInt := nle_i (a := y190.toInt) (b := 62) rfl rfl c237
                      have k344 : 63 ≤ y190.toInt ∧ y190.toInt ≤ 2147483647 := ⟨lo_lt dc237 (Int.le_refl _) (by decide), k236.2⟩
                      refine lv_aload_n hx hb dX10_operand_227 rfl (lv_at hl 3 rfl) ?_
                      refine lv_iconst (v := 1) hx hb dX10_operand_228 (by decide) ?_
                      have n345 : F211 12 = .int y188 := (get_ne eF211 (by decide) t197)
                      refine call_Vi (wr := [(h_s, .inl (cI, 335, .inl f_s)), (h_read, .inl (cI, 135, .inl f_read)), (h_names, .inl (cJ, 36, .inr (.inl f_names))), (h_reserved, .inl (cJ, 23, .inr (.inl f_reserved))), (h_stack, .inl (cI, 45, .inl f_stack)), (h_tape, .inl (cB, 940, .inl f_tape))]) (As := [.int 1]) (rest := []) hx hb hml hown hw (m_X10_bad l D cI cJ cB cP cM cZ h0 F211 y188 1 _ n345) wV_X10_205_X10_bad dX10_operand_229 hK hP hD hS hA [5] [0, 1, 2, 3, 4, 6] rfl rfl (by decide) (by decide) (by decide) 0 10 rfl rfl GG.fb hG.at hl.1 rfl (Nat.le_of_ble_eq_true rfl) ⟨(Nat.le_of_ble_eq_true rfl), (Nat.le_of_ble_eq_true rfl)⟩ ⟨(Nat.le_of_ble_eq_true rfl), (Nat.le_of_ble_eq_true rfl)⟩ (fun r346 u H locs hp hP hD hS => ?_)
                      have zl1 : (1 : Int32).toInt = 1 := by decide
                      obtain ⟨F347, t348, t349, t350, rfl, rfl⟩ := hp
                      have hP : va_P D vwCl [(h_s, .inl (cI, 335, .inl f_s)), (h_read, .inl (cI, 135, .inl f_read)), (h_names, .inl (cJ, 36, .inr (.inl f_names))), (h_reserved, .inl (cJ, 23, .inr (.inl f_reserved))), (h_stack, .inl (cI, 45, .inl f_stack)), (h_tape, .inl (cB, 940, .inl f_tape)), (h0, .inr (10, vL 67 F347))] H := hP
                      have hD : va_D A [(h_s, .inl (cI, 335, .inl f_s)), (h_read, .inl (cI, 135, .inl f_read)), (h_names, .inl (cJ, 36, .inr (.inl f_names))), (h_reserved, .inl (cJ, 23, .inr (.inl f_reserved))), (h_stack, .inl (cI, 45, .inl f_stack)), (h_tape, .inl (cB, 940, .inl f_tape)), (h0, .inr (10, vL 67 F347))] := hD
                      refine W.widen (k := 0) (n := 0) (Nat.le_of_ble_eq_true rfl) (Nat.le_of_ble_eq_true rfl) ?_
                      exact ret_i (v := 0) hx hb hr hlocks hS (hP.sub (ws' := [(h0, .inr (10, vL 67 F347)), (h_tape, .inl (cB, 940, .inl f_tape)), (h_s, .inl (cI, 335, .inl f_s)), (h_read, .inl (cI, 135, .inl f_read)), (h_names, .inl (cJ, 36, .inr (.inl f_names))), (h_reserved, .inl (cJ, 23, .inr (.inl f_reserved))), (h_stack, .inl (cI, 45, .inl f_stack))]) [6, 5, 0, 1, 2, 3, 4] rfl) (hD.sub (ws' := [(h0, .inr (10, vL 67 F347)), (h_tape, .inl (cB, 940, .inl f_tape)), (h_s, .inl (cI, 335, .inl f_s)), (h_read, .inl (cI, 135, .inl f_read)), (h_names, .inl (cJ, 36, .inr (.inl f_names))), (h_reserved, .inl (cJ, 23, .inr (.inl f_reserved))), (h_stack, .inl (cI, 45, .inl f_stack))]) [6, 5, 0, 1, 2, 3, 4] (by decide) rfl) dX10_operand_232 rfl (Nat.le_of_ble_eq_true rfl) (Nat.le_of_ble_eq_true rfl) ⟨F347, y186, y187, y188, y189, y190, 1, y188, y191, x_codes, v173, x_top, x_deep, 1, f_read, f_stack, (SAME.tr (SAME.up eF211 (SAME.tr (SAME.up eF175 SAME.rf (by decide)) t192 (by decide)) (by decide)) t348 (by decide)), (SAME.at t348 (by decide) (get_ne eF211 (by decide) t193)), t194, (SAME.at t348 (by decide) n216), (ir_wk k225 (by decide) (by decide)), (SAME.at t348 (by decide) n345), (SAME.at t348 (by decide) (get_ne eF211 (by decide) t199)), (SAME.at t348 (by decide) n226), t349, t350, (SAME.at t348 (by decide) (get_ne eF211 (by decide) t202)), (SAME.at t348 (by decide) (get_ne eF211 (by decide) (SAME.at t192 (by decide) (get_ne eF175 (by decide) e_codes)))), i_x_codes, (SAME.at t348 (by decide) (get_ne eF211 (by decide) (SAME.at t192 (by decide) (get_eq eF175)))), (ir_wk k174 (by decide) (by decide)), (SAME.at t348 (by decide) (get_ne eF211 (by decide) (SAME.at t192 (by decide) (get_ne eF175 (by decide) e_top)))), i_x_top, (SAME.at t348 (by decide) (get_ne eF211 (by decide) (SAME.at t192 (by decide) (get_ne eF175 (by decide) e_deep)))), (SAME.at t348 (by decide) (get_eq eF211)), (show 0 ≤ (1 : Int32).toInt ∧ (1 : Int32).toInt ≤ 1 by decide), (show 0 ≤ (0 : Int32).toInt ∧ (0 : Int32).toInt ≤ 1 by decide), (by have zl0 : (0 : Int32).toInt = 0 := (by decide); have zl1 : (1 : Int32).toInt = 1 := (by decide); omega), (fun q => absurd q (by decide)), (fun q => absurd q (by decide)), (by have zl1 : (1 : Int32).toInt = 1 := (by decide); omega), (by have zl1 : (1 : Int32).toInt = 1 := (by decide); omega), rfl⟩
              · have dc214 : r9.toInt = 2 := eq_i (a := r9.toInt) (b := 2) rfl rfl c214
                have k352 : 2 ≤ r9.toInt ∧ r9.toInt ≤ 2 := ⟨k213.1, Int.le_trans (Int.le_of_eq dc214) (Int.le_refl _)⟩
                refine lv_aload_n hx hb dX10_operand_150 rfl (lv_at hl 3 rfl) ?_
                have n353 : F175 10 = .ref h_reserved := (get_ne eF175 (by decide) e_reserved)
                have n354 : F185 10 = .ref h_reserved := (SAME.at t192 (by decide) n353)
                have n355 : F211 10 = .ref h_reserved := (get_ne eF211 (by decide) n354)
                have n356 : F211 11 = .int y187 := (get_ne eF211 (by decide) t195)
                have n357 : F211 14 = .int y190 := (get_ne eF211 (by decide) t201)
                have n358 : F211 18 = .long y191 := (get_ne eF211 (by decide) t202)
                refine call_Vi (wr := [(h_s, .inl (cI, 335, .inl f_s)), (h_read, .inl (cI, 135, .inl f_read)), (h_names, .inl (cJ, 36, .inr (.inl f_names))), (h_stack, .inl (cI, 45, .inl f_stack)), (h_tape, .inl (cB, 940, .inl f_tape))]) (As := []) (rest := []) hx hb hml hown hw (m_X10_isName l D cI cJ cB cP cM cZ h0 h_reserved F211 y187 y190 y191 f_reserved _ n355 n356 t196 n357 n358 s_reserved_KR t206 (by omega)) wV_X10_218_X10_isName dX10_operand_151 hK hP hD hS hA [5, 3] [0, 1, 2, 4, 6] rfl rfl (by decide) (by decide) (by decide) 0 10 rfl rfl GG.fb hG.at hl.1 rfl (Nat.le_of_ble_eq_true rfl) ⟨(Nat.le_of_ble_eq_true rfl), (Nat.le_of_ble_eq_true rfl)⟩ ⟨(Nat.le_of_ble_eq_true rfl), (Nat.le_of_ble_eq_true rfl)⟩ (fun r359 u H locs hp hP hD hS => ?_)
                obtain ⟨t360, t361, rfl⟩ := hp
                have hP : va_P D vwCl [(h_s, .inl (cI, 335, .inl f_s)), (h_read, .inl (cI, 135, .inl f_read)), (h_names, .inl (cJ, 36, .inr (.inl f_names))), (h_stack, .inl (cI, 45, .inl f_stack)), (h_tape, .inl (cB, 940, .inl f_tape)), (h0, .inr (10, vL 67 F211)), (h_reserved, .inl (cJ, 23, .inr (.inl f_reserved)))] H := hP
                have hD : va_D A [(h_s, .inl (cI, 335, .inl f_s)), (h_read, .inl (cI, 135, .inl f_read)), (h_names, .inl (cJ, 36, .inr (.inl f_names))), (h_stack, .inl (cI, 45, .inl f_stack)), (h_tape, .inl (cB, 940, .inl f_tape)), (h0, .inr (10, vL 67 F211)), (h_reserved, .inl (cJ, 23, .inr (.inl f_reserved)))] := hD
                refine W.widen (k := 0) (n := 0) (Nat.le_of_ble_eq_true rfl) (Nat.le_of_ble_eq_true rfl) ?_
                refine lv_if_ne (tgt := 163) hx hb dX10_operand_154 (by decide) (fun c363 => ?_) (fun c363 => ?_)
                · have dc363 : r359.toInt ≠ 0 := ne_i (a := r359.toInt) (b := 0) rfl rfl c363
                  have k364 : 1 ≤ r359.toInt ∧ r359.toInt ≤ 1 := ⟨ne_lo dc363 t360.1 ⟨Int.le_refl _, Int.le_refl _⟩ (by decide), t360.2⟩
                  refine lv_aload_n hx hb dX10_operand_163 rfl (lv_at hl 3 rfl) ?_
                  refine lv_iconst (v := 0) hx hb dX10_operand_164 (by decide) ?_
                  refine lv_aload_n hx hb dX10_operand_165 rfl (lv_at hl 3 rfl) ?_
                  have n365 : F175 6 = .ref h_s := (get_ne eF175 (by decide) e_s)
                  have n366 : F185 6 = .ref h_s := (SAME.at t192 (by decide) n365)
                  have n367 : F211 6 = .ref h_s := (get_ne eF211 (by decide) n366)
                  refine get_f (D := D) (ci := 10) (v := .ref h_s) (C := RX10) (T := TX10) (N := 67) hx hb hw inAX10 hown hK hP 5 rfl rfl 6 (by decide) (hw _ q_1267) (fun _ h9 => h9) n367 dX10_operand_166 ?_
                  refine lv_iconst (v := 5) hx hb dX10_operand_169 (by decide) ?_
                  refine iald_n hx hb hK hP 0 0 rfl rfl 5 rfl (Nat.le_of_ble_eq_true rfl) (Nat.le_of_ble_eq_true rfl) rfl dX10_operand_170 ?_
                  refine lv_topi (fun v368 ev368 => ?_)
                  have k369 : 0 ≤ v368.toInt ∧ v368.toInt ≤ 12 := by rw [ev368]; exact s_s_5.atN 5 (by decide) (by decide)
                  have n370 : F175 9 = .ref h_names := (get_ne eF175 (by decide) e_names)
                  have n371 : F185 9 = .ref h_names := (SAME.at t192 (by decide) n370)
                  have n372 : F211 9 = .ref h_names := (get_ne eF211 (by decide) n371)
                  refine call_Vi (wr := [(h_s, .inl (cI, 335, .inl f_s)), (h_read, .inl (cI, 135, .inl f_read)), (h_stack, .inl (cI, 45, .inl f_stack)), (h_tape, .inl (cB, 940, .inl f_tape)), (h_reserved, .inl (cJ, 23, .inr (.inl f_reserved)))]) (As := [.int 0, .int v368]) (rest := []) hx hb hml hown hw (m_X10_find l D cI cJ cB cP cM cZ h0 h_names F211 y191 f_names 0 v368 _ n372 n358 (show 0 ≤ (0 : Int32).toInt ∧ (0 : Int32).toInt ≤ 30 by decide) k369 (by have z0 : (0 : Int32).toInt = 0 := rfl; omega)) wV_X10_222_X10_find dX10_operand_171 hK hP hD hS hA [5, 2] [0, 1, 3, 4, 6] rfl rfl (by decide) (by decide) (by decide) 0 10 rfl rfl GG.fb hG.at hl.1 rfl (Nat.le_of_ble_eq_true rfl) ⟨(Nat.le_of_ble_eq_true rfl), (Nat.le_of_ble_eq_true rfl)⟩ ⟨(Nat.le_of_ble_eq_true rfl), (Nat.le_of_ble_eq_true rfl)⟩ (fun r373 u H locs hp hP hD hS => ?_)
                  have zl0 : (0 : Int32).toInt = 0 := by decide
                  rcases hp with ⟨t374, t375, t376, rfl, rfl⟩ | ⟨t377, t378, t379, t380, rfl⟩
                  · have hP : va_P D vwCl [(h_s, .inl (cI, 335, .inl f_s)), (h_read, .inl (cI, 135, .inl f_read)), (h_stack, .inl (cI, 45, .inl f_stack)), (h_tape, .inl (cB, 940, .inl f_tape)), (h_reserved, .inl (cJ, 23, .inr (.inl f_reserved))), (h0, .inr (10, vL 67 F211)), (h_names, .inl (cJ, 36, .inr (.inl f_names)))] H := hP
                    have hD : va_D A [(h_s, .inl (cI, 335, .inl f_s)), (h_read, .inl (cI, 135, .inl f_read)), (h_stack, .inl (cI, 45, .inl f_stack)), (h_tape, .inl (cB, 940, .inl f_tape)), (h_reserved, .inl (cJ, 23, .inr (.inl f_reserved))), (h0, .inr (10, vL 67 F211)), (h_names, .inl (cJ, 36, .inr (.inl f_names)))] := hD
                    refine W.widen (k := 0) (n := 0) (Nat.le_of_ble_eq_true rfl) (Nat.le_of_ble_eq_true rfl) ?_
                    refine lv_istore (lv' := [(4, .int (-1)), (3, .int r9), (2, .int r5), (1, .int r1), (0, .ref h0)]) hx hb dX10_operand_174 hl (by decide) rfl (fun ls hl => ?_)
                    refine lv_iload hx hb dX10_operand_176 (lv_at hl 0 rfl) ?_
                    refine lv_if_ge (tgt := 187) hx hb dX10_operand_178 (by decide) (fun g => absurd g (by decide)) (fun _ => ?_)
                    refine lv_aload_n hx hb dX10_operand_181 rfl (lv_at hl 4 rfl) ?_
                    refine lv_iconst (v := 3) hx hb dX10_operand_182 (by decide) ?_
                    have n382 : F211 12 = .int y188 := (get_ne eF211 (by decide) t197)
                    refine call_Vi (wr := [(h_s, .inl (cI, 335, .inl f_s)), (h_read, .inl (cI, 135, .inl f_read)), (h_stack, .inl (cI, 45, .inl f_stack)), (h_tape, .inl (cB, 940, .inl f_tape)), (h_reserved, .inl (cJ, 23, .inr (.inl f_reserved))), (h_names, .inl (cJ, 36, .inr (.inl f_names)))]) (As := [.int 3]) (rest := []) hx hb hml hown hw (m_X10_bad l D cI cJ cB cP cM cZ h0 F211 y188 3 _ n382) wV_X10_205_X10_bad dX10_operand_183 hK hP hD hS hA [5] [0, 1, 2, 3, 4, 6] rfl rfl (by decide) (by decide) (by decide) 0 10 rfl rfl GG.fb hG.at hl.1 rfl (Nat.le_of_ble_eq_true rfl) ⟨(Nat.le_of_ble_eq_true rfl), (Nat.le_of_ble_eq_true rfl)⟩ ⟨(Nat.le_of_ble_eq_true rfl), (Nat.le_of_ble_eq_true rfl)⟩ (fun r383 u H locs hp hP hD hS => ?_)
                    have zl3 : (3 : Int32).toInt = 3 := by decide
                    obtain ⟨F384, t385, t386, t387, rfl, rfl⟩ := hp
                    have hP : va_P D vwCl [(h_s, .inl (cI, 335, .inl f_s)), (h_read, .inl (cI, 135, .inl f_read)), (h_stack, .inl (cI, 45, .inl f_stack)), (h_tape, .inl (cB, 940, .inl f_tape)), (h_reserved, .inl (cJ, 23, .inr (.inl f_reserved))), (h_names, .inl (cJ, 36, .inr (.inl f_names))), (h0, .inr (10, vL 67 F384))] H := hP
                    have hD : va_D A [(h_s, .inl (cI, 335, .inl f_s)), (h_read, .inl (cI, 135, .inl f_read)), (h_stack, .inl (cI, 45, .inl f_stack)), (h_tape, .inl (cB, 940, .inl f_tape)), (h_reserved, .inl (cJ, 23, .inr (.inl f_reserved))), (h_names, .inl (cJ, 36, .inr (.inl f_names))), (h0, .inr (10, vL 67 F384))] := hD
                    refine W.widen (k := 0) (n := 0) (Nat.le_of_ble_eq_true rfl) (Nat.le_of_ble_eq_true rfl) ?_
                    exact ret_i (v := 0) hx hb hr hlocks hS (hP.sub (ws' := [(h0, .inr (10, vL 67 F384)), (h_tape, .inl (cB, 940, .inl f_tape)), (h_s, .inl (cI, 335, .inl f_s)), (h_read, .inl (cI, 135, .inl f_read)), (h_names, .inl (cJ, 36, .inr (.inl f_names))), (h_reserved, .inl (cJ, 23, .inr (.inl f_reserved))), (h_stack, .inl (cI, 45, .inl f_stack))]) [6, 3, 0, 1, 5, 4, 2] rfl) (hD.sub (ws' := [(h0, .inr (10, vL 67 F384)), (h_tape, .inl (cB, 940, .inl f_tape)), (h_s, .inl (cI, 335, .inl f_s)), (h_read, .inl (cI, 135, .inl f_read)), (h_names, .inl (cJ, 36, .inr (.inl f_names))), (h_reserved, .inl (cJ, 23, .inr (.inl f_reserved))), (h_stack, .inl (cI, 45, .inl f_stack))]) [6, 3, 0, 1, 5, 4, 2] (by decide) rfl) dX10_operand_186 rfl (Nat.le_of_ble_eq_true rfl) (Nat.le_of_ble_eq_true rfl) ⟨F384, y186, y187, y188, y189, y190, 3, y188, y191, x_codes, v173, x_top, x_deep, 1, f_read, f_stack, (SAME.tr (SAME.up eF211 (SAME.tr (SAME.up eF175 SAME.rf (by decide)) t192 (by decide)) (by decide)) t385 (by decide)), (SAME.at t385 (by decide) (get_ne eF211 (by decide) t193)), t194, (SAME.at t385 (by decide) n356), t196, (SAME.at t385 (by decide) n382), (SAME.at t385 (by decide) (get_ne eF211 (by decide) t199)), (SAME.at t385 (by decide) n357), t386, t387, (SAME.at t385 (by decide) n358), (SAME.at t385 (by decide) (get_ne eF211 (by decide) (SAME.at t192 (by decide) (get_ne eF175 (by decide) e_codes)))), i_x_codes, (SAME.at t385 (by decide) (get_ne eF211 (by decide) (SAME.at t192 (by decide) (get_eq eF175)))), (ir_wk k174 (by decide) (by decide)), (SAME.at t385 (by decide) (get_ne eF211 (by decide) (SAME.at t192 (by decide) (get_ne eF175 (by decide) e_top)))), i_x_top, (SAME.at t385 (by decide) (get_ne eF211 (by decide) (SAME.at t192 (by decide) (get_ne eF175 (by decide) e_deep)))), (SAME.at t385 (by decide) (get_eq eF211)), (show 0 ≤ (1 : Int32).toInt ∧ (1 : Int32).toInt ≤ 1 by decide), (show 0 ≤ (0 : Int32).toInt ∧ (0 : Int32).toInt ≤ 1 by decide), (by have zl0 : (0 : Int32).toInt = 0 := (by decide); have zl1 : (1 : Int32).toInt = 1 := (by decide); have zl3 : (3 : Int32).toInt = 3 := (by decide); omega), (fun q => absurd q (by decide)), (fun q => absurd q (by decide)), (by have zl1 : (1 : Int32).toInt = 1 := (by decide); have zl3 : (3 : Int32).toInt = 3 := (by decide); omega), (by have zl1 : (1 : Int32).toInt = 1 := (by decide); have zl3 : (3 : Int32).toInt = 3 := (by decide); omega), rfl⟩
                  · have hP : va_P D vwCl [(h_s, .inl (cI, 335, .inl f_s)), (h_read, .inl (cI, 135, .inl f_read)), (h_stack, .inl (cI, 45, .inl f_stack)), (h_tape, .inl (cB, 940, .inl f_tape)), (h_reserved, .inl (cJ, 23, .inr (.inl f_reserved))), (h0, .inr (10, vL 67 F211)), (h_names, .inl (cJ, 36, .inr (.inl f_names)))] H := hP
                    have hD : va_D A [(h_s, .inl (cI, 335, .inl f_s)), (h_read, .inl (cI, 135, .inl f_read)), (h_stack, .inl (cI, 45, .inl f_stack)), (h_tape, .inl (cB, 940, .inl f_tape)), (h_reserved, .inl (cJ, 23, .inr (.inl f_reserved))), (h0, .inr (10, vL 67 F211)), (h_names, .inl (cJ, 36, .inr (.inl f_names)))] := hD
                    refine W.widen (k := 0) (n := 0) (Nat.le_of_ble_eq_true rfl) (Nat.le_of_ble_eq_true rfl) ?_
                    have k389 : 1 ≤ v368.toInt ∧ v368.toInt ≤ 12 := ⟨lo_lt t378 (Int.le_refl _) (by decide), k369.2⟩
                    refine lv_istore (lv' := [(4, .int r373), (3, .int r9), (2, .int r5), (1, .int r1), (0, .ref h0)]) hx hb dX10_operand_174 hl (by decide) rfl (fun ls hl => ?_)
                    refine lv_iload hx hb dX10_operand_176 (lv_at hl 0 rfl) ?_
                    refine lv_if_ge (tgt := 187) hx hb dX10_operand_178 (by decide) (fun c390 => ?_) (fun c390 => False.elim (bad_lt (nle_i (a := 0) (b := r373.toInt) rfl rfl c390) t377.1 (Int.le_refl _) (by decide)))
                    have dc390 : 0 ≤ r373.toInt := le_i (a := 0) (b := r373.toInt) rfl rfl c390
                    refine lv_aload_n hx hb dX10_operand_187 rfl (lv_at hl 4 rfl) ?_
                    refine lv_iload_n hx hb dX10_operand_188 rfl (lv_at hl 1 rfl) ?_
                    refine lv_iconst (v := 0) hx hb dX10_operand_189 (by decide) ?_
                    refine lv_iload hx hb dX10_operand_190 (lv_at hl 0 rfl) ?_
                    have n391 : F175 8 = .ref h_read := (get_ne eF175 (by decide) e_read)
                    have n392 : F185 8 = .ref h_read := (SAME.at t192 (by decide) n391)
                    have n393 : F211 8 = .ref h_read := (get_ne eF211 (by decide) n392)
                    have n394 : F175 58 = .int x_codes := (get_ne eF175 (by decide) e_codes)
                    have n395 : F185 58 = .int x_codes := (SAME.at t192 (by decide) n394)
                    have n396 : F211 58 = .int x_codes := (get_ne eF211 (by decide) n395)
                    have n397 : F185 59 = .int v173 := (SAME.at t192 (by decide) (get_eq eF175))
                    have n398 : F211 59 = .int v173 := (get_ne eF211 (by decide) n397)
                    have n399 : F175 60 = .int x_top := (get_ne eF175 (by decide) e_top)
                    have n400 : F185 60 = .int x_top := (SAME.at t192 (by decide) n399)
                    have n401 : F211 60 = .int x_top := (get_ne eF211 (by decide) n400)
                    refine call_Vv (wr := [(h_s, .inl (cI, 335, .inl f_s)), (h_stack, .inl (cI, 45, .inl f_stack)), (h_tape, .inl (cB, 940, .inl f_tape)), (h_reserved, .inl (cJ, 23, .inr (.inl f_reserved))), (h_names, .inl (cJ, 36, .inr (.inl f_names)))]) (As := [.int r9, .int 0, .int r373]) (rest := []) hx hb hml hown hw (m_X10_code l D cI cJ cB cP cM cZ h0 h_read F211 x_codes v173 x_top 1 f_read r9 0 r373 _ n393 n396 (show 0 ≤ x_codes.toInt ∧ x_codes.toInt ≤ 44 from ⟨by omega, by omega⟩) n398 (ir_wk k174 (by decide) (by decide)) n401 i_x_top (get_eq eF211) (show 0 ≤ (1 : Int32).toInt ∧ (1 : Int32).toInt ≤ 1 by decide) (by have z0 : (1 : Int32).toInt = 1 := rfl; omega) (by have z0 : (1 : Int32).toInt = 1 := rfl; omega)) wV_X10_447_X10_code dX10_operand_192 hK hP hD hS hA [5, 1] [0, 2, 3, 4, 6] rfl rfl (by decide) (by decide) (by decide) 0 10 rfl rfl GG.fb hG.at hl.1 rfl (Nat.le_of_ble_eq_true rfl) ⟨(Nat.le_of_ble_eq_true rfl), (Nat.le_of_ble_eq_true rfl)⟩ ⟨(Nat.le_of_ble_eq_true rfl), (Nat.le_of_ble_eq_true rfl)⟩ (fun u H locs hp hP hD hS => ?_)
                    have zl1 : (1 : Int32).toInt = 1 := by decide
                    obtain ⟨F403, y404, g405, t406, t407, t408, t409, t410, t411, rfl⟩ := hp
                    have hP : va_P D vwCl [(h_s, .inl (cI, 335, .inl f_s)), (h_stack, .inl (cI, 45, .inl f_stack)), (h_tape, .inl (cB, 940, .inl f_tape)), (h_reserved, .inl (cJ, 23, .inr (.inl f_reserved))), (h_names, .inl (cJ, 36, .inr (.inl f_names))), (h0, .inr (10, vL 67 F403)), (h_read, .inl (cI, 135, .inl g405))] H := hP
                    have hD : va_D A [(h_s, .inl (cI, 335, .inl f_s)), (h_stack, .inl (cI, 45, .inl f_stack)), (h_tape, .inl (cB, 940, .inl f_tape)), (h_reserved, .inl (cJ, 23, .inr (.inl f_reserved))), (h_names, .inl (cJ, 36, .inr (.inl f_names))), (h0, .inr (10, vL 67 F403)), (h_read, .inl (cI, 135, .inl g405))] := hD
                    refine W.widen (k := 0) (n := 0) (Nat.le_of_ble_eq_true rfl) (Nat.le_of_ble_eq_true rfl) ?_
                    refine lv_aload_n hx hb dX10_operand_195 rfl (lv_at hl 4 rfl) ?_
                    have n413 : F185 1 = .ref h_tape := (SAME.at t192 (by decide) n176)
                    have n414 : F211 1 = .ref h_tape := (get_ne eF211 (by decide) n413)
                    have n415 : F403 1 = .ref h_tape := (SAME.at t406 (by decide) n414)
                    have n416 : F185 3 = .int x_size := (SAME.at t192 (by decide) n177)
                    have n417 : F211 3 = .int x_size := (get_ne eF211 (by decide) n416)
                    have n418 : F403 3 = .int x_size := (SAME.at t406 (by decide) n417)
                    have n419 : F211 4 = .int y186 := (get_ne eF211 (by decide) t193)
                    have n420 : F403 4 = .int y186 := (SAME.at t406 (by decide) n419)
                    have n421 : F185 5 = .int x_limit := (SAME.at t192 (by decide) n179)
                    have n422 : F211 5 = .int x_limit := (get_ne eF211 (by decide) n421)
                    have n423 : F403 5 = .int x_limit := (SAME.at t406 (by decide) n422)
                    have n424 : F403 11 = .int y187 := (SAME.at t406 (by decide) n356)
                    have n425 : F211 12 = .int y188 := (get_ne eF211 (by decide) t197)
                    have n426 : F403 12 = .int y188 := (SAME.at t406 (by decide) n425)
                    have n427 : F403 14 = .int y190 := (SAME.at t406 (by decide) n357)
                    have n428 : F403 18 = .long y191 := (SAME.at t406 (by decide) n358)
                    refine call_Vv (wr := [(h_s, .inl (cI, 335, .inl f_s)), (h_stack, .inl (cI, 45, .inl f_stack)), (h_reserved, .inl (cJ, 23, .inr (.inl f_reserved))), (h_names, .inl (cJ, 36, .inr (.inl f_names))), (h_read, .inl (cI, 135, .inl g405))]) (As := []) (rest := []) hx hb hml hown hw (m_X10_next l D cI cJ cB cP cM cZ h0 h_tape F403 x_size y186 x_limit y187 y188 y190 y191 f_tape _ n415 n418 i_x_size n420 t194 n423 i_x_limit n424 t196 n426 n427 n428 (by omega)) wV_X10_208_X10_next dX10_operand_196 hK hP hD hS hA [5, 2] [0, 1, 3, 4, 6] rfl rfl (by decide) (by decide) (by decide) 0 10 rfl rfl GG.fb hG.at hl.1 rfl (Nat.le_of_ble_eq_true rfl) ⟨(Nat.le_of_ble_eq_true rfl), (Nat.le_of_ble_eq_true rfl)⟩ ⟨(Nat.le_of_ble_eq_true rfl), (Nat.le_of_ble_eq_true rfl)⟩ (fun u H locs hp hP hD hS => ?_)
                    obtain ⟨F430, y431, y432, y433, y434, y435, y436, t437, t438, t439, t440, t441, t442, t443, t444, t445, t446, t447, t448, t449, t450, t451, t452, rfl⟩ := hp
                    clear t204 t207
                    have hP : va_P D vwCl [(h_s, .inl (cI, 335, .inl f_s)), (h_stack, .inl (cI, 45, .inl f_stack)), (h_reserved, .inl (cJ, 23, .inr (.inl f_reserved))), (h_names, .inl (cJ, 36, .inr (.inl f_names))), (h_read, .inl (cI, 135, .inl g405)), (h0, .inr (10, vL 67 F430)), (h_tape, .inl (cB, 940, .inl f_tape))] H := hP
                    have hD : va_D A [(h_s, .inl (cI, 335, .inl f_s)), (h_stack, .inl (cI, 45, .inl f_stack)), (h_reserved, .inl (cJ, 23, .inr (.inl f_reserved))), (h_names, .inl (cJ, 36, .inr (.inl f_names))), (h_read, .inl (cI, 135, .inl g405)), (h0, .inr (10, vL 67 F430)), (h_tape, .inl (cB, 940, .inl f_tape))] := hD
                    refine W.widen (k := 0) (n := 0) (Nat.le_of_ble_eq_true rfl) (Nat.le_of_ble_eq_true rfl) ?_
                    refine lv_iconst (v := 1) hx hb dX10_operand_199 (by decide) ?_
                    exact ret_i (v := 1) hx hb hr hlocks hS (hP.sub (ws' := [(h0, .inr (10, vL 67 F430)), (h_tape, .inl (cB, 940, .inl f_tape)), (h_s, .inl (cI, 335, .inl f_s)), (h_read, .inl (cI, 135, .inl g405)), (h_names, .inl (cJ, 36, .inr (.inl f_names))), (h_reserved, .inl (cJ, 23, .inr (.inl f_reserved))), (h_stack, .inl (cI, 45, .inl f_stack))]) [5, 6, 0, 4, 3, 2, 1] rfl) (hD.sub (ws' := [(h0, .inr (10, vL 67 F430)), (h_tape, .inl (cB, 940, .inl f_tape)), (h_s, .inl (cI, 335, .inl f_s)), (h_read, .inl (cI, 135, .inl g405)), (h_names, .inl (cJ, 36, .inr (.inl f_names))), (h_reserved, .inl (cJ, 23, .inr (.inl f_reserved))), (h_stack, .inl (cI, 45, .inl f_stack))]) [5, 6, 0, 4, 3, 2, 1] (by decide) rfl) dX10_operand_200 rfl (Nat.le_of_ble_eq_true rfl) (Nat.le_of_ble_eq_true rfl) ⟨F430, y431, y432, y433, y434, y435, x_fault, x_faultAt, y436, y404, v173, x_top, x_deep, 1, g405, f_stack, (SAME.tr (SAME.tr (SAME.up eF211 (SAME.tr (SAME.up eF175 SAME.rf (by decide)) t192 (by decide)) (by decide)) t406 (by decide)) t437 (by decide)), t438, t439, t440, t441, t442, t444, t446, (SAME.at t437 (by decide) (SAME.at t406 (by decide) (get_ne eF211 (by decide) (SAME.at t192 (by decide) (get_ne eF175 (by decide) e_fault))))), (SAME.at t437 (by decide) (SAME.at t406 (by decide) (get_ne eF211 (by decide) (SAME.at t192 (by decide) (get_ne eF175 (by decide) e_faultAt))))), t447, (SAME.at t437 (by decide) t407), (ir_wk t408 (by decide) (by decide)), (SAME.at t437 (by decide) (SAME.at t406 (by decide) n398)), (ir_wk k174 (by decide) (by decide)), (SAME.at t437 (by decide) (SAME.at t406 (by decide) n401)), i_x_top, (SAME.at t437 (by decide) (SAME.at t406 (by decide) (get_ne eF211 (by decide) (SAME.at t192 (by decide) (get_ne eF175 (by decide) e_deep))))), (SAME.at t437 (by decide) (SAME.at t406 (by decide) (get_eq eF211))), (show 0 ≤ (1 : Int32).toInt ∧ (1 : Int32).toInt ≤ 1 by decide), (show 0 ≤ (1 : Int32).toInt ∧ (1 : Int32).toInt ≤ 1 by decide), (by have zl1 : (1 : Int32).toInt = 1 := (by decide); omega), (fun _ => SMI.leaf z_1 t410 (ir_wk k352 (by decide) (by decide)) (by omega) (by decide)), (fun _ => t451), (by have zl1 : (1 : Int32).toInt = 1 := (by decide); omega), (by have zl1 : (1 : Int32).toInt = 1 := (by decide); omega), rfl⟩
                · have dc363 : r359.toInt = 0 := eq_i (a := r359.toInt) (b := 0) rfl rfl c363
                  have k454 : 0 ≤ r359.toInt ∧ r359.toInt ≤ 0 := ⟨t360.1, Int.le_trans (Int.le_of_eq dc363) (Int.le_refl _)⟩
                  refine lv_aload_n hx hb dX10_operand_157 rfl (lv_at hl 3 rfl) ?_
                  refine lv_iconst (v := 1) hx hb dX10_operand_158 (by decide) ?_
                  have n455 : F211 12 = .int y188 := (get_ne eF211 (by decide) t197)
                  refine call_Vi (wr := [(h_s, .inl (cI, 335, .inl f_s)), (h_read, .inl (cI, 135, .inl f_read)), (h_names, .inl (cJ, 36, .inr (.inl f_names))), (h_stack, .inl (cI, 45, .inl f_stack)), (h_tape, .inl (cB, 940, .inl f_tape)), (h_reserved, .inl (cJ, 23, .inr (.inl f_reserved)))]) (As := [.int 1]) (rest := []) hx hb hml hown hw (m_X10_bad l D cI cJ cB cP cM cZ h0 F211 y188 1 _ n455) wV_X10_205_X10_bad dX10_operand_159 hK hP hD hS hA [5] [0, 1, 2, 3, 4, 6] rfl rfl (by decide) (by decide) (by decide) 0 10 rfl rfl GG.fb hG.at hl.1 rfl (Nat.le_of_ble_eq_true rfl) ⟨(Nat.le_of_ble_eq_true rfl), (Nat.le_of_ble_eq_true rfl)⟩ ⟨(Nat.le_of_ble_eq_true rfl), (Nat.le_of_ble_eq_true rfl)⟩ (fun r456 u H locs hp hP hD hS => ?_)
                  have zl1 : (1 : Int32).toInt = 1 := by decide
                  obtain ⟨F457, t458, t459, t460, rfl, rfl⟩ := hp
                  have hP : va_P D vwCl [(h_s, .inl (cI, 335, .inl f_s)), (h_read, .inl (cI, 135, .inl f_read)), (h_names, .inl (cJ, 36, .inr (.inl f_names))), (h_stack, .inl (cI, 45, .inl f_stack)), (h_tape, .inl (cB, 940, .inl f_tape)), (h_reserved, .inl (cJ, 23, .inr (.inl f_reserved))), (h0, .inr (10, vL 67 F457))] H := hP
                  have hD : va_D A [(h_s, .inl (cI, 335, .inl f_s)), (h_read, .inl (cI, 135, .inl f_read)), (h_names, .inl (cJ, 36, .inr (.inl f_names))), (h_stack, .inl (cI, 45, .inl f_stack)), (h_tape, .inl (cB, 940, .inl f_tape)), (h_reserved, .inl (cJ, 23, .inr (.inl f_reserved))), (h0, .inr (10, vL 67 F457))] := hD
                  refine W.widen (k := 0) (n := 0) (Nat.le_of_ble_eq_true rfl) (Nat.le_of_ble_eq_true rfl) ?_
                  exact ret_i (v := 0) hx hb hr hlocks hS (hP.sub (ws' := [(h0, .inr (10, vL 67 F457)), (h_tape, .inl (cB, 940, .inl f_tape)), (h_s, .inl (cI, 335, .inl f_s)), (h_read, .inl (cI, 135, .inl f_read)), (h_names, .inl (cJ, 36, .inr (.inl f_names))), (h_reserved, .inl (cJ, 23, .inr (.inl f_reserved))), (h_stack, .inl (cI, 45, .inl f_stack))]) [6, 4, 0, 1, 2, 5, 3] rfl) (hD.sub (ws' := [(h0, .inr (10, vL 67 F457)), (h_tape, .inl (cB, 940, .inl f_tape)), (h_s, .inl (cI, 335, .inl f_s)), (h_read, .inl (cI, 135, .inl f_read)), (h_names, .inl (cJ, 36, .inr (.inl f_names))), (h_reserved, .inl (cJ, 23, .inr (.inl f_reserved))), (h_stack, .inl (cI, 45, .inl f_stack))]) [6, 4, 0, 1, 2, 5, 3] (by decide) rfl) dX10_operand_162 rfl (Nat.le_of_ble_eq_true rfl) (Nat.le_of_ble_eq_true rfl) ⟨F457, y186, y187, y188, y189, y190, 1, y188, y191, x_codes, v173, x_top, x_deep, 1, f_read, f_stack, (SAME.tr (SAME.up eF211 (SAME.tr (SAME.up eF175 SAME.rf (by decide)) t192 (by decide)) (by decide)) t458 (by decide)), (SAME.at t458 (by decide) (get_ne eF211 (by decide) t193)), t194, (SAME.at t458 (by decide) n356), t196, (SAME.at t458 (by decide) n455), (SAME.at t458 (by decide) (get_ne eF211 (by decide) t199)), (SAME.at t458 (by decide) n357), t459, t460, (SAME.at t458 (by decide) n358), (SAME.at t458 (by decide) (get_ne eF211 (by decide) (SAME.at t192 (by decide) (get_ne eF175 (by decide) e_codes)))), i_x_codes, (SAME.at t458 (by decide) (get_ne eF211 (by decide) (SAME.at t192 (by decide) (get_eq eF175)))), (ir_wk k174 (by decide) (by decide)), (SAME.at t458 (by decide) (get_ne eF211 (by decide) (SAME.at t192 (by decide) (get_ne eF175 (by decide) e_top)))), i_x_top, (SAME.at t458 (by decide) (get_ne eF211 (by decide) (SAME.at t192 (by decide) (get_ne eF175 (by decide) e_deep)))), (SAME.at t458 (by decide) (get_eq eF211)), (show 0 ≤ (1 : Int32).toInt ∧ (1 : Int32).toInt ≤ 1 by decide), (show 0 ≤ (0 : Int32).toInt ∧ (0 : Int32).toInt ≤ 1 by decide), (by have zl0 : (0 : Int32).toInt = 0 := (by decide); have zl1 : (1 : Int32).toInt = 1 := (by decide); omega), (fun q => absurd q (by decide)), (fun q => absurd q (by decide)), (by have zl1 : (1 : Int32).toInt = 1 := (by decide); omega), (by have zl1 : (1 : Int32).toInt = 1 := (by decide); omega), rfl⟩
            · have dc212 : r9.toInt < 2 := nle_i (a := 2) (b := r9.toInt) rfl rfl c212
              have k462 : 0 ≤ r9.toInt ∧ r9.toInt ≤ 1 := ⟨k161.1, up_lt dc212 (Int.le_refl _) (by decide)⟩
              refine lv_aload_n hx hb dX10_operand_136 rfl (lv_at hl 3 rfl) ?_
              refine lv_iload_n hx hb dX10_operand_137 rfl (lv_at hl 0 rfl) ?_
              refine lv_iconst (v := 0) hx hb dX10_operand_138 (by decide) ?_
              refine lv_iconst (v := 0) hx hb dX10_operand_139 (by decide) ?_
              have n463 : F175 8 = .ref h_read := (get_ne eF175 (by decide) e_read)
              have n464 : F185 8 = .ref h_read := (SAME.at t192 (by decide) n463)
              have n465 : F211 8 = .ref h_read := (get_ne eF211 (by decide) n464)
              have n466 : F175 58 = .int x_codes := (get_ne eF175 (by decide) e_codes)
              have n467 : F185 58 = .int x_codes := (SAME.at t192 (by decide) n466)
              have n468 : F211 58 = .int x_codes := (get_ne eF211 (by decide) n467)
              have n469 : F185 59 = .int v173 := (SAME.at t192 (by decide) (get_eq eF175))
              have n470 : F211 59 = .int v173 := (get_ne eF211 (by decide) n469)
              have n471 : F175 60 = .int x_top := (get_ne eF175 (by decide) e_top)
              have n472 : F185 60 = .int x_top := (SAME.at t192 (by decide) n471)
              have n473 : F211 60 = .int x_top := (get_ne eF211 (by decide) n472)
              refine call_Vv (wr := [(h_s, .inl (cI, 335, .inl f_s)), (h_names, .inl (cJ, 36, .inr (.inl f_names))), (h_reserved, .inl (cJ, 23, .inr (.inl f_reserved))), (h_stack, .inl (cI, 45, .inl f_stack)), (h_tape, .inl (cB, 940, .inl f_tape))]) (As := [.int r9, .int 0, .int 0]) (rest := []) hx hb hml hown hw (m_X10_code l D cI cJ cB cP cM cZ h0 h_read F211 x_codes v173 x_top 1 f_read r9 0 0 _ n465 n468 (show 0 ≤ x_codes.toInt ∧ x_codes.toInt ≤ 44 from ⟨by omega, by omega⟩) n470 (ir_wk k174 (by decide) (by decide)) n473 i_x_top (get_eq eF211) (show 0 ≤ (1 : Int32).toInt ∧ (1 : Int32).toInt ≤ 1 by decide) (by have z0 : (1 : Int32).toInt = 1 := rfl; omega) (by have z0 : (1 : Int32).toInt = 1 := rfl; omega)) wV_X10_447_X10_code dX10_operand_140 hK hP hD hS hA [5, 1] [0, 2, 3, 4, 6] rfl rfl (by decide) (by decide) (by decide) 0 10 rfl rfl GG.fb hG.at hl.1 rfl (Nat.le_of_ble_eq_true rfl) ⟨(Nat.le_of_ble_eq_true rfl), (Nat.le_of_ble_eq_true rfl)⟩ ⟨(Nat.le_of_ble_eq_true rfl), (Nat.le_of_ble_eq_true rfl)⟩ (fun u H locs hp hP hD hS => ?_)
              have zl0 : (0 : Int32).toInt = 0 := by decide
              have zl1 : (1 : Int32).toInt = 1 := by decide
              obtain ⟨F475, y476, g477, t478, t479, t480, t481, t482, t483, rfl⟩ := hp
              have hP : va_P D vwCl [(h_s, .inl (cI, 335, .inl f_s)), (h_names, .inl (cJ, 36, .inr (.inl f_names))), (h_reserved, .inl (cJ, 23, .inr (.inl f_reserved))), (h_stack, .inl (cI, 45, .inl f_stack)), (h_tape, .inl (cB, 940, .inl f_tape)), (h0, .inr (10, vL 67 F475)), (h_read, .inl (cI, 135, .inl g477))] H := hP
              have hD : va_D A [(h_s, .inl (cI, 335, .inl f_s)), (h_names, .inl (cJ, 36, .inr (.inl f_names))), (h_reserved, .inl (cJ, 23, .inr (.inl f_reserved))), (h_stack, .inl (cI, 45, .inl f_stack)), (h_tape, .inl (cB, 940, .inl f_tape)), (h0, .inr (10, vL 67 F475)), (h_read, .inl (cI, 135, .inl g477))] := hD
              refine W.widen (k := 0) (n := 0) (Nat.le_of_ble_eq_true rfl) (Nat.le_of_ble_eq_true rfl) ?_
              refine lv_iconst (v := 1) hx hb dX10_operand_143 (by decide) ?_
              exact ret_i (v := 1) hx hb hr hlocks hS (hP.sub (ws' := [(h0, .inr (10, vL 67 F475)), (h_tape, .inl (cB, 940, .inl f_tape)), (h_s, .inl (cI, 335, .inl f_s)), (h_read, .inl (cI, 135, .inl g477)), (h_names, .inl (cJ, 36, .inr (.inl f_names))), (h_reserved, .inl (cJ, 23, .inr (.inl f_reserved))), (h_stack, .inl (cI, 45, .inl f_stack))]) [5, 4, 0, 6, 1, 2, 3] rfl) (hD.sub (ws' := [(h0, .inr (10, vL 67 F475)), (h_tape, .inl (cB, 940, .inl f_tape)), (h_s, .inl (cI, 335, .inl f_s)), (h_read, .inl (cI, 135, .inl g477)), (h_names, .inl (cJ, 36, .inr (.inl f_names))), (h_reserved, .inl (cJ, 23, .inr (.inl f_reserved))), (h_stack, .inl (cI, 45, .inl f_stack))]) [5, 4, 0, 6, 1, 2, 3] (by decide) rfl) dX10_operand_144 rfl (Nat.le_of_ble_eq_true rfl) (Nat.le_of_ble_eq_true rfl) ⟨F475, y186, y187, y188, y189, y190, x_fault, x_faultAt, y191, y476, v173, x_top, x_deep, 1, g477, f_stack, (SAME.tr (SAME.up eF211 (SAME.tr (SAME.up eF175 SAME.rf (by decide)) t192 (by decide)) (by decide)) t478 (by decide)), (SAME.at t478 (by decide) (get_ne eF211 (by decide) t193)), t194, (SAME.at t478 (by decide) (get_ne eF211 (by decide) t195)), t196, (SAME.at t478 (by decide) (get_ne eF211 (by decide) t197)), (SAME.at t478 (by decide) (get_ne eF211 (by decide) t199)), (SAME.at t478 (by decide) (get_ne eF211 (by decide) t201)), (SAME.at t478 (by decide) (get_ne eF211 (by decide) (SAME.at t192 (by decide) (get_ne eF175 (by decide) e_fault)))), (SAME.at t478 (by decide) (get_ne eF211 (by decide) (SAME.at t192 (by decide) (get_ne eF175 (by decide) e_faultAt)))), (SAME.at t478 (by decide) (get_ne eF211 (by decide) t202)), t479, (ir_wk t480 (by decide) (by decide)), (SAME.at t478 (by decide) n470), (ir_wk k174 (by decide) (by decide)), (SAME.at t478 (by decide) n473), i_x_top, (SAME.at t478 (by decide) (get_ne eF211 (by decide) (SAME.at t192 (by decide) (get_ne eF175 (by decide) e_deep)))), (SAME.at t478 (by decide) (get_eq eF211)), (show 0 ≤ (1 : Int32).toInt ∧ (1 : Int32).toInt ≤ 1 by decide), (show 0 ≤ (1 : Int32).toInt ∧ (1 : Int32).toInt ≤ 1 by decide), (by have zl1 : (1 : Int32).toInt = 1 := (by decide); omega), (fun _ => SMI.leaf z_1 t482 (ir_wk k462 (by decide) (by decide)) (by omega) (by decide)), (fun _ => t206), (by have zl1 : (1 : Int32).toInt = 1 := (by decide); omega), (by have zl1 : (1 : Int32).toInt = 1 := (by decide); omega), rfl⟩
          · have dc171 : 8 < x_deep.toInt := nle_i (a := x_deep.toInt) (b := 8) rfl rfl c171
            have k485 : 9 ≤ x_deep.toInt ∧ x_deep.toInt ≤ 2147483647 := ⟨lo_lt dc171 (Int.le_refl _) (by decide), (ir_any _).2⟩
            refine lv_aload_n hx hb dX10_operand_56 rfl (lv_at hl 3 rfl) ?_
            refine lv_iconst (v := 4) hx hb dX10_operand_57 (by decide) ?_
            refine call_Vi (wr := [(h_tape, .inl (cB, 940, .inl f_tape)), (h_s, .inl (cI, 335, .inl f_s)), (h_read, .inl (cI, 135, .inl f_read)), (h_names, .inl (cJ, 36, .inr (.inl f_names))), (h_reserved, .inl (cJ, 23, .inr (.inl f_reserved))), (h_stack, .inl (cI, 45, .inl f_stack))]) (As := [.int 4]) (rest := []) hx hb hml hown hw (m_X10_bad l D cI cJ cB cP cM cZ h0 Fh x_at 4 _ e_at) wV_X10_205_X10_bad dX10_operand_58 hK hP hD hS hA [6] [0, 1, 2, 3, 4, 5] rfl rfl (by decide) (by decide) (by decide) 0 10 rfl rfl GG.fb hG.at hl.1 rfl (Nat.le_of_ble_eq_true rfl) ⟨(Nat.le_of_ble_eq_true rfl), (Nat.le_of_ble_eq_true rfl)⟩ ⟨(Nat.le_of_ble_eq_true rfl), (Nat.le_of_ble_eq_true rfl)⟩ (fun r486 u H locs hp hP hD hS => ?_)
            have zl4 : (4 : Int32).toInt = 4 := by decide
            obtain ⟨F487, t488, t489, t490, rfl, rfl⟩ := hp
            have hP : va_P D vwCl [(h_tape, .inl (cB, 940, .inl f_tape)), (h_s, .inl (cI, 335, .inl f_s)), (h_read, .inl (cI, 135, .inl f_read)), (h_names, .inl (cJ, 36, .inr (.inl f_names))), (h_reserved, .inl (cJ, 23, .inr (.inl f_reserved))), (h_stack, .inl (cI, 45, .inl f_stack)), (h0, .inr (10, vL 67 F487))] H := hP
            have hD : va_D A [(h_tape, .inl (cB, 940, .inl f_tape)), (h_s, .inl (cI, 335, .inl f_s)), (h_read, .inl (cI, 135, .inl f_read)), (h_names, .inl (cJ, 36, .inr (.inl f_names))), (h_reserved, .inl (cJ, 23, .inr (.inl f_reserved))), (h_stack, .inl (cI, 45, .inl f_stack)), (h0, .inr (10, vL 67 F487))] := hD
            refine W.widen (k := 0) (n := 0) (Nat.le_of_ble_eq_true rfl) (Nat.le_of_ble_eq_true rfl) ?_
            exact ret_i (v := 0) hx hb hr hlocks hS (hP.sub (ws' := [(h0, .inr (10, vL 67 F487)), (h_tape, .inl (cB, 940, .inl f_tape)), (h_s, .inl (cI, 335, .inl f_s)), (h_read, .inl (cI, 135, .inl f_read)), (h_names, .inl (cJ, 36, .inr (.inl f_names))), (h_reserved, .inl (cJ, 23, .inr (.inl f_reserved))), (h_stack, .inl (cI, 45, .inl f_stack))]) [6, 0, 1, 2, 3, 4, 5] rfl) (hD.sub (ws' := [(h0, .inr (10, vL 67 F487)), (h_tape, .inl (cB, 940, .inl f_tape)), (h_s, .inl (cI, 335, .inl f_s)), (h_read, .inl (cI, 135, .inl f_read)), (h_names, .inl (cJ, 36, .inr (.inl f_names))), (h_reserved, .inl (cJ, 23, .inr (.inl f_reserved))), (h_stack, .inl (cI, 45, .inl f_stack))]) [6, 0, 1, 2, 3, 4, 5] (by decide) rfl) dX10_operand_61 rfl (Nat.le_of_ble_eq_true rfl) (Nat.le_of_ble_eq_true rfl) ⟨F487, x_p, x_token, x_at, x_span, x_number, 4, x_at, x_word, x_codes, x_ones, x_top, x_deep, x_isWhole, f_read, f_stack, (SAME.tr SAME.rf t488 (by decide)), (SAME.at t488 (by decide) e_p), i_x_p, (SAME.at t488 (by decide) e_token), i_x_token, (SAME.at t488 (by decide) e_at), (SAME.at t488 (by decide) e_span), (SAME.at t488 (by decide) e_number), t489, t490, (SAME.at t488 (by decide) e_word), (SAME.at t488 (by decide) e_codes), i_x_codes, (SAME.at t488 (by decide) e_ones), (ir_wk k170 (by decide) (by decide)), (SAME.at t488 (by decide) e_top), i_x_top, (SAME.at t488 (by decide) e_deep), (SAME.at t488 (by decide) e_isWhole), i_x_isWhole, (show 0 ≤ (0 : Int32).toInt ∧ (0 : Int32).toInt ≤ 1 by decide), (by have zl0 : (0 : Int32).toInt = 0 := (by decide); have zl4 : (4 : Int32).toInt = 4 := (by decide); omega), (fun q => absurd q (by decide)), (fun q => absurd q (by decide)), (by have zl4 : (4 : Int32).toInt = 4 := (by decide); omega), (by have zl4 : (4 : Int32).toInt = 4 := (by decide); omega), rfl⟩
      · have dc160 : r9.toInt < 0 := nle_i (a := 0) (b := r9.toInt) rfl rfl c160
        have k492 : (-1) ≤ r9.toInt ∧ r9.toInt ≤ (-1) := ⟨t10.1, up_lt dc160 (Int.le_refl _) (by decide)⟩
        refine lv_aload_n hx hb dX10_operand_32 rfl (lv_at hl 3 rfl) ?_
        refine lv_iconst (v := 1) hx hb dX10_operand_33 (by decide) ?_
        refine call_Vi (wr := [(h_tape, .inl (cB, 940, .inl f_tape)), (h_s, .inl (cI, 335, .inl f_s)), (h_read, .inl (cI, 135, .inl f_read)), (h_names, .inl (cJ, 36, .inr (.inl f_names))), (h_reserved, .inl (cJ, 23, .inr (.inl f_reserved))), (h_stack, .inl (cI, 45, .inl f_stack))]) (As := [.int 1]) (rest := []) hx hb hml hown hw (m_X10_bad l D cI cJ cB cP cM cZ h0 Fh x_at 1 _ e_at) wV_X10_205_X10_bad dX10_operand_34 hK hP hD hS hA [6] [0, 1, 2, 3, 4, 5] rfl rfl (by decide) (by decide) (by decide) 0 10 rfl rfl GG.fb hG.at hl.1 rfl (Nat.le_of_ble_eq_true rfl) ⟨(Nat.le_of_ble_eq_true rfl), (Nat.le_of_ble_eq_true rfl)⟩ ⟨(Nat.le_of_ble_eq_true rfl), (Nat.le_of_ble_eq_true rfl)⟩ (fun r493 u H locs hp hP hD hS => ?_)
        have zl1 : (1 : Int32).toInt = 1 := by decide
        obtain ⟨F494, t495, t496, t497, rfl, rfl⟩ := hp
        have hP : va_P D vwCl [(h_tape, .inl (cB, 940, .inl f_tape)), (h_s, .inl (cI, 335, .inl f_s)), (h_read, .inl (cI, 135, .inl f_read)), (h_names, .inl (cJ, 36, .inr (.inl f_names))), (h_reserved, .inl (cJ, 23, .inr (.inl f_reserved))), (h_stack, .inl (cI, 45, .inl f_stack)), (h0, .inr (10, vL 67 F494))] H := hP
        have hD : va_D A [(h_tape, .inl (cB, 940, .inl f_tape)), (h_s, .inl (cI, 335, .inl f_s)), (h_read, .inl (cI, 135, .inl f_read)), (h_names, .inl (cJ, 36, .inr (.inl f_names))), (h_reserved, .inl (cJ, 23, .inr (.inl f_reserved))), (h_stack, .inl (cI, 45, .inl f_stack)), (h0, .inr (10, vL 67 F494))] := hD
        refine W.widen (k := 0) (n := 0) (Nat.le_of_ble_eq_true rfl) (Nat.le_of_ble_eq_true rfl) ?_
        exact ret_i (v := 0) hx hb hr hlocks hS (hP.sub (ws' := [(h0, .inr (10, vL 67 F494)), (h_tape, .inl (cB, 940, .inl f_tape)), (h_s, .inl (cI, 335, .inl f_s)), (h_read, .inl (cI, 135, .inl f_read)), (h_names, .inl (cJ, 36, .inr (.inl f_names))), (h_reserved, .inl (cJ, 23, .inr (.inl f_reserved))), (h_stack, .inl (cI, 45, .inl f_stack))]) [6, 0, 1, 2, 3, 4, 5] rfl) (hD.sub (ws' := [(h0, .inr (10, vL 67 F494)), (h_tape, .inl (cB, 940, .inl f_tape)), (h_s, .inl (cI, 335, .inl f_s)), (h_read, .inl (cI, 135, .inl f_read)), (h_names, .inl (cJ, 36, .inr (.inl f_names))), (h_reserved, .inl (cJ, 23, .inr (.inl f_reserved))), (h_stack, .inl (cI, 45, .inl f_stack))]) [6, 0, 1, 2, 3, 4, 5] (by decide) rfl) dX10_operand_37 rfl (Nat.le_of_ble_eq_true rfl) (Nat.le_of_ble_eq_true rfl) ⟨F494, x_p, x_token, x_at, x_span, x_number, 1, x_at, x_word, x_codes, x_ones, x_top, x_deep, x_isWhole, f_read, f_stack, (SAME.tr SAME.rf t495 (by decide)), (SAME.at t495 (by decide) e_p), i_x_p, (SAME.at t495 (by decide) e_token), i_x_token, (SAME.at t495 (by decide) e_at), (SAME.at t495 (by decide) e_span), (SAME.at t495 (by decide) e_number), t496, t497, (SAME.at t495 (by decide) e_word), (SAME.at t495 (by decide) e_codes), i_x_codes, (SAME.at t495 (by decide) e_ones), i_x_ones, (SAME.at t495 (by decide) e_top), i_x_top, (SAME.at t495 (by decide) e_deep), (SAME.at t495 (by decide) e_isWhole), i_x_isWhole, (show 0 ≤ (0 : Int32).toInt ∧ (0 : Int32).toInt ≤ 1 by decide), (by have zl0 : (0 : Int32).toInt = 0 := (by decide); have zl1 : (1 : Int32).toInt = 1 := (by decide); omega), (fun q => absurd q (by decide)), (fun q => absurd q (by decide)), (by have zl1 : (1 : Int32).toInt = 1 := (by decide); omega), (by have zl1 : (1 : Int32).toInt = 1 := (by decide); omega), rfl⟩
set_option maxHeartbeats 4000000 in
set_option maxRecDepth 100000 in
theorem m_X10_behind_ (l : Launch) (D : va_G) (cI cJ cB cP cM cZ : ClassId) (h0 : Nat) (h_tape : Nat) (h_read : Nat) (h_stack : Nat) (Fh : Nat → Value) (x_size : Int32) (x_p : Int32) (x_limit : Int32) (x_token : Int32) (x_at : Int32) (x_span : Int32) (x_number : Int32) (x_fault : Int32) (x_faultAt : Int32) (x_word : Int64) (x_codes : Int32) (x_ones : Int32) (x_top : Int32) (x_deep : Int32) (x_isWhole : Int32) (f_tape : Nat → Int32) (f_read : Nat → Int32) (f_stack : Nat → Int32) (sz : Nat) (e_tape : Fh 1 = .ref h_tape) (e_size : Fh 3 = .int x_size) (i_x_size : IR 0 940 x_size) (e_p : Fh 4 = .int x_p) (i_x_p : IR 0 940 x_p) (e_limit : Fh 5 = .int x_limit) (i_x_limit : IR 200 940 x_limit) (e_read : Fh 8 = .ref h_read) (e_token : Fh 11 = .int x_token) (i_x_token : IR 0 4 x_token) (e_at : Fh 12 = .int x_at) (e_span : Fh 13 = .int x_span) (e_number : Fh 14 = .int x_number) (e_fault : Fh 15 = .int x_fault) (e_faultAt : Fh 16 = .int x_faultAt) (e_word : Fh 18 = .long x_word) (e_stack : Fh 57 = .ref h_stack) (e_codes : Fh 58 = .int x_codes) (i_x_codes : IR 0 45 x_codes) (e_ones : Fh 59 = .int x_ones) (i_x_ones : IR 0 20 x_ones) (e_top : Fh 60 = .int x_top) (i_x_top : IR 0 45 x_top) (e_deep : Fh 61 = .int x_deep) (e_isWhole : Fh 62 = .int x_isWhole) (i_x_isWhole : IR 0 1 x_isWhole) (z_0 : x_isWhole.toInt = 1) (z_1 : SMI f_read f_stack x_codes.toInt x_top.toInt 1) (z_2 : (VWF x_token.toInt x_word.toInt)) (o_0 : (x_token.toInt = 2 → 0 ≤ x_number.toInt ∧ x_number.toInt ≤ 999)) (o_1 : x_top.toInt + x_codes.toInt + x_isWhole.toInt ≤ 2 * x_ones.toInt) : CI l yX10_behind_ cX10_behind_ 1 (some .boolean) { frames := 2, cells := 0, slots := 0, locals := 44 } (GG D cI cJ cB cP cM cZ) D [(h0, .inr (10, vL 67 Fh)), (h_tape, .inl (cB, 940, .inl f_tape)), (h_read, .inl (cI, 135, .inl f_read)), (h_stack, .inl (cI, 45, .inl f_stack))] sz [.ref h0] (fun (r : Int32) (u : va_W) => ∃ (Gh : Nat → Value) (y_p : Int32) (y_token : Int32) (y_at : Int32) (y_span : Int32) (y_number : Int32) (y_fault : Int32) (y_faultAt : Int32) (y_word : Int64) (y_codes : Int32) (y_top : Int32) (y_deep : Int32) (y_isWhole : Int32) (g_read : Nat → Int32) (g_stack : Nat → Int32), SAME [4, 11, 12, 13, 14, 15, 16, 18, 58, 60, 61, 62] Fh Gh ∧ Gh 4 = .int y_p ∧ IR 0 940 y_p ∧ Gh 11 = .int y_token ∧ IR 0 4 y_token ∧ Gh 12 = .int y_at ∧ Gh 13 = .int y_span ∧ Gh 14 = .int y_number ∧ Gh 15 = .int y_fault ∧ Gh 16 = .int y_faultAt ∧ Gh 18 = .long y_word ∧ Gh 58 = .int y_codes ∧ IR 0 45 y_codes ∧ Gh 60 = .int y_top ∧ IR 0 45 y_top ∧ Gh 61 = .int y_deep ∧ Gh 62 = .int y_isWhole ∧ IR 0 1 y_isWhole ∧ IR 0 1 r ∧ ((r.toInt = 1 → (1 ≤ x_token.toInt ∧ x_token.toInt ≤ 3 ∧ x_p.toInt ≤ y_p.toInt ∧ (1 ≤ y_token.toInt → y_token.toInt ≤ 3 → x_p.toInt < y_p.toInt)))) ∧ ((r.toInt = 1 → SMI g_read g_stack y_codes.toInt y_top.toInt y_isWhole.toInt)) ∧ ((r.toInt = 1 → (VWF y_token.toInt y_word.toInt))) ∧ ((y_token.toInt = 2 → 0 ≤ y_number.toInt ∧ y_number.toInt ≤ 999)) ∧ (y_top.toInt + y_codes.toInt + y_isWhole.toInt ≤ 2 * x_ones.toInt) ∧ u = [(h0, .inr (10, vL 67 Gh)), (h_tape, .inl (cB, 940, .inl f_tape)), (h_read, .inl (cI, 135, .inl g_read)), (h_stack, .inl (cI, 45, .inl g_stack))]) := by
  refine CI_mk (by decide) (Nat.le_of_ble_eq_true rfl) ?_
  intro p e s m below meth c A ls E hAe hG hsz hP hD hA hS hl
  obtain ⟨hx, hb, hr, hw, hown, hlocks, hml, hnm⟩ := E
  have hK := hG.1
  have i_x_size : 0 ≤ x_size.toInt ∧ x_size.toInt ≤ 940 := i_x_size
  have i_x_p : 0 ≤ x_p.toInt ∧ x_p.toInt ≤ 940 := i_x_p
  have i_x_limit : 200 ≤ x_limit.toInt ∧ x_limit.toInt ≤ 940 := i_x_limit
  have i_x_token : 0 ≤ x_token.toInt ∧ x_token.toInt ≤ 4 := i_x_token
  have i_x_codes : 0 ≤ x_codes.toInt ∧ x_codes.toInt ≤ 45 := i_x_codes
  have i_x_ones : 0 ≤ x_ones.toInt ∧ x_ones.toInt ≤ 20 := i_x_ones
  have i_x_top : 0 ≤ x_top.toInt ∧ x_top.toInt ≤ 45 := i_x_top
  have i_x_isWhole : 0 ≤ x_isWhole.toInt ∧ x_isWhole.toInt ≤ 1 := i_x_isWhole
  have hl : lv_has ls 1 [(0, .ref h0)] := hl
  refine lv_aload_n hx hb dX10_behind__0 rfl (lv_at hl 0 rfl) ?_
  refine call_Vv (wr := [(h_tape, .inl (cB, 940, .inl f_tape))]) (As := []) (rest := []) hx hb hml hown hw (m_X10_nots l D cI cJ cB cP cM cZ h0 h_read h_stack Fh x_codes x_ones x_top x_deep x_isWhole f_read f_stack _ e_read e_stack e_codes i_x_codes e_ones i_x_ones e_top i_x_top e_deep e_isWhole i_x_isWhole (by omega) (SMI.w z_1 (by omega)) (by omega)) wV_X10_463_X10_nots dX10_behind__1 hK hP hD hS hA [0, 2, 3] [1] rfl rfl (by decide) (by decide) (by decide) 0 10 rfl rfl GG.fb hG.at hl.1 rfl (Nat.le_of_ble_eq_true rfl) ⟨(Nat.le_of_ble_eq_true rfl), (Nat.le_of_ble_eq_true rfl)⟩ ⟨(Nat.le_of_ble_eq_true rfl), (Nat.le_of_ble_eq_true rfl)⟩ (fun u H locs hp hP hD hS => ?_)
  obtain ⟨F2, y3, y4, y5, g6, t7, t8, t9, t10, t11, t12, t13, t14, rfl⟩ := hp
  have hP : va_P D vwCl [(h_tape, .inl (cB, 940, .inl f_tape)), (h0, .inr (10, vL 67 F2)), (h_read, .inl (cI, 135, .inl g6)), (h_stack, .inl (cI, 45, .inl f_stack))] H := hP
  have hD : va_D A [(h_tape, .inl (cB, 940, .inl f_tape)), (h0, .inr (10, vL 67 F2)), (h_read, .inl (cI, 135, .inl g6)), (h_stack, .inl (cI, 45, .inl f_stack))] := hD
  refine W.widen (k := 0) (n := 0) (Nat.le_of_ble_eq_true rfl) (Nat.le_of_ble_eq_true rfl) ?_
  refine lv_aload_n hx hb dX10_behind__4 rfl (lv_at hl 0 rfl) ?_
  refine lv_ldc2 hx hb hown (hw _ q_1249) dX10_behind__5 ?_
  have n16 : F2 11 = .int x_token := (SAME.at t7 (by decide) e_token)
  have n17 : F2 14 = .int x_number := (SAME.at t7 (by decide) e_number)
  have n18 : F2 18 = .long x_word := (SAME.at t7 (by decide) e_word)
  refine call_Vi (wr := [(h_tape, .inl (cB, 940, .inl f_tape)), (h_read, .inl (cI, 135, .inl g6)), (h_stack, .inl (cI, 45, .inl f_stack))]) (As := [.long 6385252]) (rest := []) hx hb hml hown hw (m_X10_isWord l D cI cJ cB cP cM cZ h0 F2 x_token x_number x_word 6385252 _ n16 i_x_token n17 n18 (by omega)) wV_X10_225_X10_isWord dX10_behind__8 hK hP hD hS hA [1] [0, 2, 3] rfl rfl (by decide) (by decide) (by decide) 0 10 rfl rfl GG.fb hG.at hl.1 rfl (Nat.le_of_ble_eq_true rfl) ⟨(Nat.le_of_ble_eq_true rfl), (Nat.le_of_ble_eq_true rfl)⟩ ⟨(Nat.le_of_ble_eq_true rfl), (Nat.le_of_ble_eq_true rfl)⟩ (fun r19 u H locs hp hP hD hS => ?_)
  have zl6385252 : (6385252 : Int32).toInt = 6385252 := by decide
  obtain ⟨t20, t21, rfl⟩ := hp
  have hP : va_P D vwCl [(h_tape, .inl (cB, 940, .inl f_tape)), (h_read, .inl (cI, 135, .inl g6)), (h_stack, .inl (cI, 45, .inl f_stack)), (h0, .inr (10, vL 67 F2))] H := hP
  have hD : va_D A [(h_tape, .inl (cB, 940, .inl f_tape)), (h_read, .inl (cI, 135, .inl g6)), (h_stack, .inl (cI, 45, .inl f_stack)), (h0, .inr (10, vL 67 F2))] := hD
  refine W.widen (k := 0) (n := 0) (Nat.le_of_ble_eq_true rfl) (Nat.le_of_ble_eq_true rfl) ?_
  replace t21 := (isw (k := 15) (a := 1111) z_2 t21 (by decide) (by decide +kernel) (by decide +kernel) (by decide +kernel) (by decide +kernel))
  refine lv_if_ne (tgt := 24) hx hb dX10_behind__11 (by decide) (fun c23 => ?_) (fun c23 => ?_)
  · have dc23 : r19.toInt ≠ 0 := ne_i (a := r19.toInt) (b := 0) rfl rfl c23
    have k24 : 1 ≤ r19.toInt ∧ r19.toInt ≤ 1 := ⟨ne_lo dc23 t20.1 ⟨Int.le_refl _, Int.le_refl _⟩ (by decide), t20.2⟩
    refine lv_aload_n hx hb dX10_behind__24 rfl (lv_at hl 0 rfl) ?_
    refine lv_aload_n hx hb dX10_behind__25 rfl (lv_at hl 0 rfl) ?_
    refine lv_ldc2 hx hb hown (hw _ q_1249) dX10_behind__26 ?_
    refine call_Vi (wr := [(h_tape, .inl (cB, 940, .inl f_tape)), (h_read, .inl (cI, 135, .inl g6)), (h_stack, .inl (cI, 45, .inl f_stack))]) (As := [.long 6385252]) (rest := [.ref h0]) hx hb hml hown hw (m_X10_isWord l D cI cJ cB cP cM cZ h0 F2 x_token x_number x_word 6385252 _ n16 i_x_token n17 n18 (by omega)) wV_X10_225_X10_isWord dX10_behind__29 hK hP hD hS hA [3] [0, 1, 2] rfl rfl (by decide) (by decide) (by decide) 0 10 rfl rfl GG.fb hG.at hl.1 rfl (Nat.le_of_ble_eq_true rfl) ⟨(Nat.le_of_ble_eq_true rfl), (Nat.le_of_ble_eq_true rfl)⟩ ⟨(Nat.le_of_ble_eq_true rfl), (Nat.le_of_ble_eq_true rfl)⟩ (fun r25 u H locs hp hP hD hS => ?_)
    obtain ⟨t26, t27, rfl⟩ := hp
    have hP : va_P D vwCl [(h_tape, .inl (cB, 940, .inl f_tape)), (h_read, .inl (cI, 135, .inl g6)), (h_stack, .inl (cI, 45, .inl f_stack)), (h0, .inr (10, vL 67 F2))] H := hP
    have hD : va_D A [(h_tape, .inl (cB, 940, .inl f_tape)), (h_read, .inl (cI, 135, .inl g6)), (h_stack, .inl (cI, 45, .inl f_stack)), (h0, .inr (10, vL 67 F2))] := hD
    refine W.widen (k := 0) (n := 0) (Nat.le_of_ble_eq_true rfl) (Nat.le_of_ble_eq_true rfl) ?_
    replace t27 := (isw (k := 15) (a := 1111) z_2 t27 (by decide) (by decide +kernel) (by decide +kernel) (by decide +kernel) (by decide +kernel))
    refine lv_if_eq (tgt := 40) hx hb dX10_behind__32 (by decide) (fun c29 => ?_) (fun c29 => ?_)
    · have dc29 : r25.toInt = 0 := eq_i (a := r25.toInt) (b := 0) rfl rfl c29
      have k30 : 0 ≤ r25.toInt ∧ r25.toInt ≤ 0 := ⟨t26.1, Int.le_trans (Int.le_of_eq dc29) (Int.le_refl _)⟩
      refine lv_bipush (v := 22) hx hb dX10_behind__40 (by decide) ?_
      have n31 : F2 8 = .ref h_read := (SAME.at t7 (by decide) e_read)
      have n32 : F2 57 = .ref h_stack := (SAME.at t7 (by decide) e_stack)
      have n33 : F2 59 = .int x_ones := (SAME.at t7 (by decide) e_ones)
      have n34 : F2 62 = .int x_isWhole := (SAME.at t7 (by decide) e_isWhole)
      refine call_Vv (wr := [(h_tape, .inl (cB, 940, .inl f_tape))]) (As := [.int 22]) (rest := []) hx hb hml hown hw (m_X10_joins l D cI cJ cB cP cM cZ h0 h_read h_stack F2 y3 x_ones y4 x_isWhole g6 f_stack 22 _ n31 n32 t8 t9 n33 i_x_ones t10 t11 n34 i_x_isWhole (by omega) (SMI.w t13 (by omega)) (by omega)) wV_X10_466_X10_joins dX10_behind__42 hK hP hD hS hA [3, 1, 2] [0] rfl rfl (by decide) (by decide) (by decide) 0 10 rfl rfl GG.fb hG.at hl.1 rfl (Nat.le_of_ble_eq_true rfl) ⟨(Nat.le_of_ble_eq_true rfl), (Nat.le_of_ble_eq_true rfl)⟩ ⟨(Nat.le_of_ble_eq_true rfl), (Nat.le_of_ble_eq_true rfl)⟩ (fun u H locs hp hP hD hS => ?_)
      have zl22 : (22 : Int32).toInt = 22 := by decide
      obtain ⟨F36, y37, y38, g39, t40, t41, t42, t43, t44, t45, t46, t47, rfl⟩ := hp
      have hP : va_P D vwCl [(h_tape, .inl (cB, 940, .inl f_tape)), (h0, .inr (10, vL 67 F36)), (h_read, .inl (cI, 135, .inl g39)), (h_stack, .inl (cI, 45, .inl f_stack))] H := hP
      have hD : va_D A [(h_tape, .inl (cB, 940, .inl f_tape)), (h0, .inr (10, vL 67 F36)), (h_read, .inl (cI, 135, .inl g39)), (h_stack, .inl (cI, 45, .inl f_stack))] := hD
      refine W.widen (k := 0) (n := 0) (Nat.le_of_ble_eq_true rfl) (Nat.le_of_ble_eq_true rfl) ?_
      refine lv_aload_n hx hb dX10_behind__45 rfl (lv_at hl 0 rfl) ?_
      have n49 : F36 57 = .ref h_stack := (SAME.at t40 (by decide) n32)
      refine get_f (D := D) (ci := 10) (v := .ref h_stack) (C := RX10) (T := TX10) (N := 67) hx hb hw inAX10 hown hK hP 1 rfl rfl 57 (by decide) (hw _ q_1318) (fun _ h9 => h9) n49 dX10_behind__46 ?_
      refine lv_aload_n hx hb dX10_behind__49 rfl (lv_at hl 0 rfl) ?_
      refine get_f (D := D) (ci := 10) (v := .int y38) (C := RX10) (T := TX10) (N := 67) hx hb hw inAX10 hown hK hP 1 rfl rfl 60 (by decide) (hw _ q_1321) (fun _ h9 => h9) t43 dX10_behind__50 ?_
      refine lv_aload_n hx hb dX10_behind__53 rfl (lv_at hl 0 rfl) ?_
      refine lv_ldc2 hx hb hown (hw _ q_1249) dX10_behind__54 ?_
      have n50 : F36 11 = .int x_token := (SAME.at t40 (by decide) n16)
      have n51 : F36 14 = .int x_number := (SAME.at t40 (by decide) n17)
      have n52 : F36 18 = .long x_word := (SAME.at t40 (by decide) n18)
      refine call_Vi (wr := [(h_tape, .inl (cB, 940, .inl f_tape)), (h_read, .inl (cI, 135, .inl g39)), (h_stack, .inl (cI, 45, .inl f_stack))]) (As := [.long 6385252]) (rest := [.int y38, .ref h_stack]) hx hb hml hown hw (m_X10_isWord l D cI cJ cB cP cM cZ h0 F36 x_token x_number x_word 6385252 _ n50 i_x_token n51 n52 (by omega)) wV_X10_225_X10_isWord dX10_behind__57 hK hP hD hS hA [1] [0, 2, 3] rfl rfl (by decide) (by decide) (by decide) 0 10 rfl rfl GG.fb hG.at hl.1 rfl (Nat.le_of_ble_eq_true rfl) ⟨(Nat.le_of_ble_eq_true rfl), (Nat.le_of_ble_eq_true rfl)⟩ ⟨(Nat.le_of_ble_eq_true rfl), (Nat.le_of_ble_eq_true rfl)⟩ (fun r53 u H locs hp hP hD hS => ?_)
      obtain ⟨t54, t55, rfl⟩ := hp
      have hP : va_P D vwCl [(h_tape, .inl (cB, 940, .inl f_tape)), (h_read, .inl (cI, 135, .inl g39)), (h_stack, .inl (cI, 45, .inl f_stack)), (h0, .inr (10, vL 67 F36))] H := hP
      have hD : va_D A [(h_tape, .inl (cB, 940, .inl f_tape)), (h_read, .inl (cI, 135, .inl g39)), (h_stack, .inl (cI, 45, .inl f_stack)), (h0, .inr (10, vL 67 F36))] := hD
      refine W.widen (k := 0) (n := 0) (Nat.le_of_ble_eq_true rfl) (Nat.le_of_ble_eq_true rfl) ?_
      replace t55 := (isw (k := 15) (a := 1111) z_2 t55 (by decide) (by decide +kernel) (by decide +kernel) (by decide +kernel) (by decide +kernel))
      refine lv_if_eq (tgt := 68) hx hb dX10_behind__60 (by decide) (fun c57 => ?_) (fun c57 => ?_)
      · have dc57 : r53.toInt = 0 := eq_i (a := r53.toInt) (b := 0) rfl rfl c57
        have k58 : 0 ≤ r53.toInt ∧ r53.toInt ≤ 0 := ⟨t54.1, Int.le_trans (Int.le_of_eq dc57) (Int.le_refl _)⟩
        refine lv_bipush (v := 22) hx hb dX10_behind__68 (by decide) ?_
        obtain ⟨g59, eg59⟩ : ∃ z : Nat → Int32, upd f_stack y38.toNatClampNeg 22 = z := ⟨_, rfl⟩
        refine iast_g hx hb hK hP hD hS 2 0 rfl rfl (ix_i (by omega) (by omega)) eg59 dX10_behind__70 (fun H locs hP hD hS => ?_)
        have hP : va_P D vwCl [(h_tape, .inl (cB, 940, .inl f_tape)), (h_read, .inl (cI, 135, .inl g39)), (h_stack, .inl (cI, 45, .inl g59)), (h0, .inr (10, vL 67 F36))] H := hP
        have hD : va_D A [(h_tape, .inl (cB, 940, .inl f_tape)), (h_read, .inl (cI, 135, .inl g39)), (h_stack, .inl (cI, 45, .inl g59)), (h0, .inr (10, vL 67 F36))] := hD
        refine lv_aload_n hx hb dX10_behind__71 rfl (lv_at hl 0 rfl) ?_
        refine lv_dup hx hb dX10_behind__72 rfl ?_
        refine get_f (D := D) (ci := 10) (v := .int y38) (C := RX10) (T := TX10) (N := 67) hx hb hw inAX10 hown hK hP 3 rfl rfl 60 (by decide) (hw _ q_1321) (fun _ h9 => h9) t43 dX10_behind__73 ?_
        refine lv_iconst (v := 1) hx hb dX10_behind__76 (by decide) ?_
        refine lv_iadd hx hb dX10_behind__77 ?_
        refine lv_topi (fun v60 ev60 => ?_)
        have bv60 : v60.toInt = y38.toInt + 1 := by rw [ev60]; exact add_k rfl rfl t44 ⟨Int.le_refl _, Int.le_refl _⟩ (by decide)
        have k61 : 1 ≤ v60.toInt ∧ v60.toInt ≤ 46 := add_r bv60 t44 ⟨Int.le_refl _, Int.le_refl _⟩ (by decide)
        refine put_f (D := D) (ci := 10) (v := .int v60) (ty := .int) (C := RX10) (T := TX10) (N := 67) hx hb hw inAX10 tyX10 tyX10_ok nmX10 hown hK hP hD hS 3 rfl rfl 60 (by decide) (hw _ q_1321) (fun _ h9 => h9) rfl (by decide +kernel) rfl rfl dX10_behind__78 (fun H locs F62 eF62 hP hD hS => ?_)
        have hP : va_P D vwCl [(h_tape, .inl (cB, 940, .inl f_tape)), (h_read, .inl (cI, 135, .inl g39)), (h_stack, .inl (cI, 45, .inl g59)), (h0, .inr (10, vL 67 F62))] H := hP
        have hD : va_D A [(h_tape, .inl (cB, 940, .inl f_tape)), (h_read, .inl (cI, 135, .inl g39)), (h_stack, .inl (cI, 45, .inl g59)), (h0, .inr (10, vL 67 F62))] := hD
        refine lv_aload_n hx hb dX10_behind__81 rfl (lv_at hl 0 rfl) ?_
        refine lv_iconst (v := 0) hx hb dX10_behind__82 (by decide) ?_
        refine put_f (D := D) (ci := 10) (v := .int 0) (ty := .boolean) (C := RX10) (T := TX10) (N := 67) hx hb hw inAX10 tyX10 tyX10_ok nmX10 hown hK hP hD hS 3 rfl rfl 62 (by decide) (hw _ q_1323) (fun _ h9 => h9) rfl (by decide +kernel) rfl rfl dX10_behind__83 (fun H locs F63 eF63 hP hD hS => ?_)
        have hP : va_P D vwCl [(h_tape, .inl (cB, 940, .inl f_tape)), (h_read, .inl (cI, 135, .inl g39)), (h_stack, .inl (cI, 45, .inl g59)), (h0, .inr (10, vL 67 F63))] H := hP
        have hD : va_D A [(h_tape, .inl (cB, 940, .inl f_tape)), (h_read, .inl (cI, 135, .inl g39)), (h_stack, .inl (cI, 45, .inl g59)), (h0, .inr (10, vL 67 F63))] := hD
        refine lv_aload_n hx hb dX10_behind__86 rfl (lv_at hl 0 rfl) ?_
        have n64 : F2 1 = .ref h_tape := (SAME.at t7 (by decide) e_tape)
        have n65 : F36 1 = .ref h_tape := (SAME.at t40 (by decide) n64)
        have n66 : F62 1 = .ref h_tape := (get_ne eF62 (by decide) n65)
        have n67 : F63 1 = .ref h_tape := (get_ne eF63 (by decide) n66)
        have n68 : F2 3 = .int x_size := (SAME.at t7 (by decide) e_size)
        have n69 : F36 3 = .int x_size := (SAME.at t40 (by decide) n68)
        have n70 : F62 3 = .int x_size := (get_ne eF62 (by decide) n69)
        have n71 : F63 3 = .int x_size := (get_ne eF63 (by decide) n70)
        have n72 : F2 4 = .int x_p := (SAME.at t7 (by decide) e_p)
        have n73 : F36 4 = .int x_p := (SAME.at t40 (by decide) n72)
        have n74 : F62 4 = .int x_p := (get_ne eF62 (by decide) n73)
        have n75 : F63 4 = .int x_p := (get_ne eF63 (by decide) n74)
        have n76 : F2 5 = .int x_limit := (SAME.at t7 (by decide) e_limit)
        have n77 : F36 5 = .int x_limit := (SAME.at t40 (by decide) n76)
        have n78 : F62 5 = .int x_limit := (get_ne eF62 (by decide) n77)
        have n79 : F63 5 = .int x_limit := (get_ne eF63 (by decide) n78)
        have n80 : F62 11 = .int x_token := (get_ne eF62 (by decide) n50)
        have n81 : F63 11 = .int x_token := (get_ne eF63 (by decide) n80)
        have n82 : F2 12 = .int x_at := (SAME.at t7 (by decide) e_at)
        have n83 : F36 12 = .int x_at := (SAME.at t40 (by decide) n82)
        have n84 : F62 12 = .int x_at := (get_ne eF62 (by decide) n83)
        have n85 : F63 12 = .int x_at := (get_ne eF63 (by decide) n84)
        have n86 : F62 14 = .int x_number := (get_ne eF62 (by decide) n51)
        have n87 : F63 14 = .int x_number := (get_ne eF63 (by decide) n86)
        have n88 : F62 18 = .long x_word := (get_ne eF62 (by decide) n52)
        have n89 : F63 18 = .long x_word := (get_ne eF63 (by decide) n88)
        refine call_Vv (wr := [(h_read, .inl (cI, 135, .inl g39)), (h_stack, .inl (cI, 45, .inl g59))]) (As := []) (rest := []) hx hb hml hown hw (m_X10_next l D cI cJ cB cP cM cZ h0 h_tape F63 x_size x_p x_limit x_token x_at x_number x_word f_tape _ n67 n71 i_x_size n75 i_x_p n79 i_x_limit n81 i_x_token n85 n87 n89 (by omega)) wV_X10_208_X10_next dX10_behind__87 hK hP hD hS hA [3, 0] [1, 2] rfl rfl (by decide) (by decide) (by decide) 0 10 rfl rfl GG.fb hG.at hl.1 rfl (Nat.le_of_ble_eq_true rfl) ⟨(Nat.le_of_ble_eq_true rfl), (Nat.le_of_ble_eq_true rfl)⟩ ⟨(Nat.le_of_ble_eq_true rfl), (Nat.le_of_ble_eq_true rfl)⟩ (fun u H locs hp hP hD hS => ?_)
        obtain ⟨F91, y92, y93, y94, y95, y96, y97, t98, t99, t100, t101, t102, t103, t104, t105, t106, t107, t108, t109, t110, t111, t112, t113, rfl⟩ := hp
        have hP : va_P D vwCl [(h_read, .inl (cI, 135, .inl g39)), (h_stack, .inl (cI, 45, .inl g59)), (h0, .inr (10, vL 67 F91)), (h_tape, .inl (cB, 940, .inl f_tape))] H := hP
        have hD : va_D A [(h_read, .inl (cI, 135, .inl g39)), (h_stack, .inl (cI, 45, .inl g59)), (h0, .inr (10, vL 67 F91)), (h_tape, .inl (cB, 940, .inl f_tape))] := hD
        refine W.widen (k := 0) (n := 0) (Nat.le_of_ble_eq_true rfl) (Nat.le_of_ble_eq_true rfl) ?_
        refine lv_iconst (v := 1) hx hb dX10_behind__90 (by decide) ?_
        exact ret_i (v := 1) hx hb hr hlocks hS (hP.sub (ws' := [(h0, .inr (10, vL 67 F91)), (h_tape, .inl (cB, 940, .inl f_tape)), (h_read, .inl (cI, 135, .inl g39)), (h_stack, .inl (cI, 45, .inl g59))]) [2, 3, 0, 1] rfl) (hD.sub (ws' := [(h0, .inr (10, vL 67 F91)), (h_tape, .inl (cB, 940, .inl f_tape)), (h_read, .inl (cI, 135, .inl g39)), (h_stack, .inl (cI, 45, .inl g59))]) [2, 3, 0, 1] (by decide) rfl) dX10_behind__91 rfl (Nat.le_of_ble_eq_true rfl) (Nat.le_of_ble_eq_true rfl) ⟨F91, y92, y93, y94, y95, y96, x_fault, x_faultAt, y97, y37, v60, y5, 0, g39, g59, (SAME.tr (SAME.up eF63 (SAME.up eF62 (SAME.tr (SAME.tr SAME.rf t7 (by decide)) t40 (by decide)) (by decide)) (by decide)) t98 (by decide)), t99, t100, t101, t102, t103, t105, t107, (SAME.at t98 (by decide) (get_ne eF63 (by decide) (get_ne eF62 (by decide) (SAME.at t40 (by decide) (SAME.at t7 (by decide) e_fault))))), (SAME.at t98 (by decide) (get_ne eF63 (by decide) (get_ne eF62 (by decide) (SAME.at t40 (by decide) (SAME.at t7 (by decide) e_faultAt))))), t108, (SAME.at t98 (by decide) (get_ne eF63 (by decide) (get_ne eF62 (by decide) t41))), t42, (SAME.at t98 (by decide) (get_ne eF63 (by decide) (get_eq eF62))), (show 0 ≤ v60.toInt ∧ v60.toInt ≤ 45 from ⟨by omega, by omega⟩), (SAME.at t98 (by decide) (get_ne eF63 (by decide) (get_ne eF62 (by decide) (SAME.at t40 (by decide) t12)))), (SAME.at t98 (by decide) (get_eq eF63)), (show 0 ≤ (0 : Int32).toInt ∧ (0 : Int32).toInt ≤ 1 by decide), (show 0 ≤ (1 : Int32).toInt ∧ (1 : Int32).toInt ≤ 1 by decide), (by have zl0 : (0 : Int32).toInt = 0 := (by decide); have zl1 : (1 : Int32).toInt = 1 := (by decide); omega), (fun _ => SMI.w (SMI.pushb t45 eg59 (by omega) (by decide) (by omega)) (by decide)), (fun _ => t112), (by have zl0 : (0 : Int32).toInt = 0 := (by decide); omega), (by have zl0 : (0 : Int32).toInt = 0 := (by decide); omega), rfl⟩
      · have dc57 : r53.toInt ≠ 0 := ne_i (a := r53.toInt) (b := 0) rfl rfl c57
        have k115 : 1 ≤ r53.toInt ∧ r53.toInt ≤ 1 := ⟨ne_lo dc57 t54.1 ⟨Int.le_refl _, Int.le_refl _⟩ (by decide), t54.2⟩
        refine lv_bipush (v := 21) hx hb dX10_behind__63 (by decide) ?_
        refine lv_goto (tgt := 70) hx hb dX10_behind__65 (by decide) ?_
        obtain ⟨g116, eg116⟩ : ∃ z : Nat → Int32, upd f_stack y38.toNatClampNeg 21 = z := ⟨_, rfl⟩
        refine iast_g hx hb hK hP hD hS 2 0 rfl rfl (ix_i (by omega) (by omega)) eg116 dX10_behind__70 (fun H locs hP hD hS => ?_)
        have hP : va_P D vwCl [(h_tape, .inl (cB, 940, .inl f_tape)), (h_read, .inl (cI, 135, .inl g39)), (h_stack, .inl (cI, 45, .inl g116)), (h0, .inr (10, vL 67 F36))] H := hP
        have hD : va_D A [(h_tape, .inl (cB, 940, .inl f_tape)), (h_read, .inl (cI, 135, .inl g39)), (h_stack, .inl (cI, 45, .inl g116)), (h0, .inr (10, vL 67 F36))] := hD
        refine lv_aload_n hx hb dX10_behind__71 rfl (lv_at hl 0 rfl) ?_
        refine lv_dup hx hb dX10_behind__72 rfl ?_
        refine get_f (D := D) (ci := 10) (v := .int y38) (C := RX10) (T := TX10) (N := 67) hx hb hw inAX10 hown hK hP 3 rfl rfl 60 (by decide) (hw _ q_1321) (fun _ h9 => h9) t43 dX10_behind__73 ?_
        refine lv_iconst (v := 1) hx hb dX10_behind__76 (by decide) ?_
        refine lv_iadd hx hb dX10_behind__77 ?_
        refine lv_topi (fun v117 ev117 => ?_)
        have bv117 : v117.toInt = y38.toInt + 1 := by rw [ev117]; exact add_k rfl rfl t44 ⟨Int.le_refl _, Int.le_refl _⟩ (by decide)
        have k118 : 1 ≤ v117.toInt ∧ v117.toInt ≤ 46 := add_r bv117 t44 ⟨Int.le_refl _, Int.le_refl _⟩ (by decide)
        refine put_f (D := D) (ci := 10) (v := .int v117) (ty := .int) (C := RX10) (T := TX10) (N := 67) hx hb hw inAX10 tyX10 tyX10_ok nmX10 hown hK hP hD hS 3 rfl rfl 60 (by decide) (hw _ q_1321) (fun _ h9 => h9) rfl (by decide +kernel) rfl rfl dX10_behind__78 (fun H locs F119 eF119 hP hD hS => ?_)
        have hP : va_P D vwCl [(h_tape, .inl (cB, 940, .inl f_tape)), (h_read, .inl (cI, 135, .inl g39)), (h_stack, .inl (cI, 45, .inl g116)), (h0, .inr (10, vL 67 F119))] H := hP
        have hD : va_D A [(h_tape, .inl (cB, 940, .inl f_tape)), (h_read, .inl (cI, 135, .inl g39)), (h_stack, .inl (cI, 45, .inl g116)), (h0, .inr (10, vL 67 F119))] := hD
        refine lv_aload_n hx hb dX10_behind__81 rfl (lv_at hl 0 rfl) ?_
        refine lv_iconst (v := 0) hx hb dX10_behind__82 (by decide) ?_
        refine put_f (D := D) (ci := 10) (v := .int 0) (ty := .boolean) (C := RX10) (T := TX10) (N := 67) hx hb hw inAX10 tyX10 tyX10_ok nmX10 hown hK hP hD hS 3 rfl rfl 62 (by decide) (hw _ q_1323) (fun _ h9 => h9) rfl (by decide +kernel) rfl rfl dX10_behind__83 (fun H locs F120 eF120 hP hD hS => ?_)
        have hP : va_P D vwCl [(h_tape, .inl (cB, 940, .inl f_tape)), (h_read, .inl (cI, 135, .inl g39)), (h_stack, .inl (cI, 45, .inl g116)), (h0, .inr (10, vL 67 F120))] H := hP
        have hD : va_D A [(h_tape, .inl (cB, 940, .inl f_tape)), (h_read, .inl (cI, 135, .inl g39)), (h_stack, .inl (cI, 45, .inl g116)), (h0, .inr (10, vL 67 F120))] := hD
        refine lv_aload_n hx hb dX10_behind__86 rfl (lv_at hl 0 rfl) ?_
        have n121 : F2 1 = .ref h_tape := (SAME.at t7 (by decide) e_tape)
        have n122 : F36 1 = .ref h_tape := (SAME.at t40 (by decide) n121)
        have n123 : F119 1 = .ref h_tape := (get_ne eF119 (by decide) n122)
        have n124 : F120 1 = .ref h_tape := (get_ne eF120 (by decide) n123)
        have n125 : F2 3 = .int x_size := (SAME.at t7 (by decide) e_size)
        have n126 : F36 3 = .int x_size := (SAME.at t40 (by decide) n125)
        have n127 : F119 3 = .int x_size := (get_ne eF119 (by decide) n126)
        have n128 : F120 3 = .int x_size := (get_ne eF120 (by decide) n127)
        have n129 : F2 4 = .int x_p := (SAME.at t7 (by decide) e_p)
        have n130 : F36 4 = .int x_p := (SAME.at t40 (by decide) n129)
        have n131 : F119 4 = .int x_p := (get_ne eF119 (by decide) n130)
        have n132 : F120 4 = .int x_p := (get_ne eF120 (by decide) n131)
        have n133 : F2 5 = .int x_limit := (SAME.at t7 (by decide) e_limit)
        have n134 : F36 5 = .int x_limit := (SAME.at t40 (by decide) n133)
        have n135 : F119 5 = .int x_limit := (get_ne eF119 (by decide) n134)
        have n136 : F120 5 = .int x_limit := (get_ne eF120 (by decide) n135)
        have n137 : F119 11 = .int x_token := (get_ne eF119 (by decide) n50)
        have n138 : F120 11 = .int x_token := (get_ne eF120 (by decide) n137)
        have n139 : F2 12 = .int x_at := (SAME.at t7 (by decide) e_at)
        have n140 : F36 12 = .int x_at := (SAME.at t40 (by decide) n139)
        have n141 : F119 12 = .int x_at := (get_ne eF119 (by decide) n140)
        have n142 : F120 12 = .int x_at := (get_ne eF120 (by decide) n141)
        have n143 : F119 14 = .int x_number := (get_ne eF119 (by decide) n51)
        have n144 : F120 14 = .int x_number := (get_ne eF120 (by decide) n143)
        have n145 : F119 18 = .long x_word := (get_ne eF119 (by decide) n52)
        have n146 : F120 18 = .long x_word := (get_ne eF120 (by decide) n145)
        refine call_Vv (wr := [(h_read, .inl (cI, 135, .inl g39)), (h_stack, .inl (cI, 45, .inl g116))]) (As := []) (rest := []) hx hb hml hown hw (m_X10_next l D cI cJ cB cP cM cZ h0 h_tape F120 x_size x_p x_limit x_token x_at x_number x_word f_tape _ n124 n128 i_x_size n132 i_x_p n136 i_x_limit n138 i_x_token n142 n144 n146 (by omega)) wV_X10_208_X10_next dX10_behind__87 hK hP hD hS hA [3, 0] [1, 2] rfl rfl (by decide) (by decide) (by decide) 0 10 rfl rfl GG.fb hG.at hl.1 rfl (Nat.le_of_ble_eq_true rfl) ⟨(Nat.le_of_ble_eq_true rfl), (Nat.le_of_ble_eq_true rfl)⟩ ⟨(Nat.le_of_ble_eq_true rfl), (Nat.le_of_ble_eq_true rfl)⟩ (fun u H locs hp hP hD hS => ?_)
        obtain ⟨F148, y149, y150, y151, y152, y153, y154, t155, t156, t157, t158, t159, t160, t161, t162, t163, t164, t165, t166, t167, t168, t169, t170, rfl⟩ := hp
        have hP : va_P D vwCl [(h_read, .inl (cI, 135, .inl g39)), (h_stack, .inl (cI, 45, .inl g116)), (h0, .inr (10, vL 67 F148)), (h_tape, .inl (cB, 940, .inl f_tape))] H := hP
        have hD : va_D A [(h_read, .inl (cI, 135, .inl g39)), (h_stack, .inl (cI, 45, .inl g116)), (h0, .inr (10, vL 67 F148)), (h_tape, .inl (cB, 940, .inl f_tape))] := hD
        refine W.widen (k := 0) (n := 0) (Nat.le_of_ble_eq_true rfl) (Nat.le_of_ble_eq_true rfl) ?_
        refine lv_iconst (v := 1) hx hb dX10_behind__90 (by decide) ?_
        exact ret_i (v := 1) hx hb hr hlocks hS (hP.sub (ws' := [(h0, .inr (10, vL 67 F148)), (h_tape, .inl (cB, 940, .inl f_tape)), (h_read, .inl (cI, 135, .inl g39)), (h_stack, .inl (cI, 45, .inl g116))]) [2, 3, 0, 1] rfl) (hD.sub (ws' := [(h0, .inr (10, vL 67 F148)), (h_tape, .inl (cB, 940, .inl f_tape)), (h_read, .inl (cI, 135, .inl g39)), (h_stack, .inl (cI, 45, .inl g116))]) [2, 3, 0, 1] (by decide) rfl) dX10_behind__91 rfl (Nat.le_of_ble_eq_true rfl) (Nat.le_of_ble_eq_true rfl) ⟨F148, y149, y150, y151, y152, y153, x_fault, x_faultAt, y154, y37, v117, y5, 0, g39, g116, (SAME.tr (SAME.up eF120 (SAME.up eF119 (SAME.tr (SAME.tr SAME.rf t7 (by decide)) t40 (by decide)) (by decide)) (by decide)) t155 (by decide)), t156, t157, t158, t159, t160, t162, t164, (SAME.at t155 (by decide) (get_ne eF120 (by decide) (get_ne eF119 (by decide) (SAME.at t40 (by decide) (SAME.at t7 (by decide) e_fault))))), (SAME.at t155 (by decide) (get_ne eF120 (by decide) (get_ne eF119 (by decide) (SAME.at t40 (by decide) (SAME.at t7 (by decide) e_faultAt))))), t165, (SAME.at t155 (by decide) (get_ne eF120 (by decide) (get_ne eF119 (by decide) t41))), t42, (SAME.at t155 (by decide) (get_ne eF120 (by decide) (get_eq eF119))), (show 0 ≤ v117.toInt ∧ v117.toInt ≤ 45 from ⟨by omega, by omega⟩), (SAME.at t155 (by decide) (get_ne eF120 (by decide) (get_ne eF119 (by decide) (SAME.at t40 (by decide) t12)))), (SAME.at t155 (by decide) (get_eq eF120)), (show 0 ≤ (0 : Int32).toInt ∧ (0 : Int32).toInt ≤ 1 by decide), (show 0 ≤ (1 : Int32).toInt ∧ (1 : Int32).toInt ≤ 1 by decide), (by have zl0 : (0 : Int32).toInt = 0 := (by decide); have zl1 : (1 : Int32).toInt = 1 := (by decide); omega), (fun _ => SMI.w (SMI.pushb t45 eg116 (by omega) (by decide) (by omega)) (by decide)), (fun _ => t169), (by have zl0 : (0 : Int32).toInt = 0 := (by decide); omega), (by have zl0 : (0 : Int32).toInt = 0 := (by decide); omega), rfl⟩
    · have dc29 : r25.toInt ≠ 0 := ne_i (a := r25.toInt) (b := 0) rfl rfl c29
      have k172 : 1 ≤ r25.toInt ∧ r25.toInt ≤ 1 := ⟨ne_lo dc29 t26.1 ⟨Int.le_refl _, Int.le_refl _⟩ (by decide), t26.2⟩
      refine lv_bipush (v := 21) hx hb dX10_behind__35 (by decide) ?_
      refine lv_goto (tgt := 42) hx hb dX10_behind__37 (by decide) ?_
      have n173 : F2 8 = .ref h_read := (SAME.at t7 (by decide) e_read)
      have n174 : F2 57 = .ref h_stack := (SAME.at t7 (by decide) e_stack)
      have n175 : F2 59 = .int x_ones := (SAME.at t7 (by decide) e_ones)
      have n176 : F2 62 = .int x_isWhole := (SAME.at t7 (by decide) e_isWhole)
      refine call_Vv (wr := [(h_tape, .inl (cB, 940, .inl f_tape))]) (As := [.int 21]) (rest := []) hx hb hml hown hw (m_X10_joins l D cI cJ cB cP cM cZ h0 h_read h_stack F2 y3 x_ones y4 x_isWhole g6 f_stack 21 _ n173 n174 t8 t9 n175 i_x_ones t10 t11 n176 i_x_isWhole (by omega) (SMI.w t13 (by omega)) (by omega)) wV_X10_466_X10_joins dX10_behind__42 hK hP hD hS hA [3, 1, 2] [0] rfl rfl (by decide) (by decide) (by decide) 0 10 rfl rfl GG.fb hG.at hl.1 rfl (Nat.le_of_ble_eq_true rfl) ⟨(Nat.le_of_ble_eq_true rfl), (Nat.le_of_ble_eq_true rfl)⟩ ⟨(Nat.le_of_ble_eq_true rfl), (Nat.le_of_ble_eq_true rfl)⟩ (fun u H locs hp hP hD hS => ?_)
      have zl21 : (21 : Int32).toInt = 21 := by decide
      obtain ⟨F178, y179, y180, g181, t182, t183, t184, t185, t186, t187, t188, t189, rfl⟩ := hp
      have hP : va_P D vwCl [(h_tape, .inl (cB, 940, .inl f_tape)), (h0, .inr (10, vL 67 F178)), (h_read, .inl (cI, 135, .inl g181)), (h_stack, .inl (cI, 45, .inl f_stack))] H := hP
      have hD : va_D A [(h_tape, .inl (cB, 940, .inl f_tape)), (h0, .inr (10, vL 67 F178)), (h_read, .inl (cI, 135, .inl g181)), (h_stack, .inl (cI, 45, .inl f_stack))] := hD
      refine W.widen (k := 0) (n := 0) (Nat.le_of_ble_eq_true rfl) (Nat.le_of_ble_eq_true rfl) ?_
      refine lv_aload_n hx hb dX10_behind__45 rfl (lv_at hl 0 rfl) ?_
      have n191 : F178 57 = .ref h_stack := (SAME.at t182 (by decide) n174)
      refine get_f (D := D) (ci := 10) (v := .ref h_stack) (C := RX10) (T := TX10) (N := 67) hx hb hw inAX10 hown hK hP 1 rfl rfl 57 (by decide) (hw _ q_1318) (fun _ h9 => h9) n191 dX10_behind__46 ?_
      refine lv_aload_n hx hb dX10_behind__49 rfl (lv_at hl 0 rfl) ?_
      refine get_f (D := D) (ci := 10) (v := .int y180) (C := RX10) (T := TX10) (N := 67) hx hb hw inAX10 hown hK hP 1 rfl rfl 60 (by decide) (hw _ q_1321) (fun _ h9 => h9) t185 dX10_behind__50 ?_
      refine lv_aload_n hx hb dX10_behind__53 rfl (lv_at hl 0 rfl) ?_
      refine lv_ldc2 hx hb hown (hw _ q_1249) dX10_behind__54 ?_
      have n192 : F178 11 = .int x_token := (SAME.at t182 (by decide) n16)
      have n193 : F178 14 = .int x_number := (SAME.at t182 (by decide) n17)
      have n194 : F178 18 = .long x_word := (SAME.at t182 (by decide) n18)
      refine call_Vi (wr := [(h_tape, .inl (cB, 940, .inl f_tape)), (h_read, .inl (cI, 135, .inl g181)), (h_stack, .inl (cI, 45, .inl f_stack))]) (As := [.long 6385252]) (rest := [.int y180, .ref h_stack]) hx hb hml hown hw (m_X10_isWord l D cI cJ cB cP cM cZ h0 F178 x_token x_number x_word 6385252 _ n192 i_x_token n193 n194 (by omega)) wV_X10_225_X10_isWord dX10_behind__57 hK hP hD hS hA [1] [0, 2, 3] rfl rfl (by decide) (by decide) (by decide) 0 10 rfl rfl GG.fb hG.at hl.1 rfl (Nat.le_of_ble_eq_true rfl) ⟨(Nat.le_of_ble_eq_true rfl), (Nat.le_of_ble_eq_true rfl)⟩ ⟨(Nat.le_of_ble_eq_true rfl), (Nat.le_of_ble_eq_true rfl)⟩ (fun r195 u H locs hp hP hD hS => ?_)
      obtain ⟨t196, t197, rfl⟩ := hp
      have hP : va_P D vwCl [(h_tape, .inl (cB, 940, .inl f_tape)), (h_read, .inl (cI, 135, .inl g181)), (h_stack, .inl (cI, 45, .inl f_stack)), (h0, .inr (10, vL 67 F178))] H := hP
      have hD : va_D A [(h_tape, .inl (cB, 940, .inl f_tape)), (h_read, .inl (cI, 135, .inl g181)), (h_stack, .inl (cI, 45, .inl f_stack)), (h0, .inr (10, vL 67 F178))] := hD
      refine W.widen (k := 0) (n := 0) (Nat.le_of_ble_eq_true rfl) (Nat.le_of_ble_eq_true rfl) ?_
      replace t197 := (isw (k := 15) (a := 1111) z_2 t197 (by decide) (by decide +kernel) (by decide +kernel) (by decide +kernel) (by decide +kernel))
      refine lv_if_eq (tgt := 68) hx hb dX10_behind__60 (by decide) (fun c199 => ?_) (fun c199 => ?_)
      · have dc199 : r195.toInt = 0 := eq_i (a := r195.toInt) (b := 0) rfl rfl c199
        have k200 : 0 ≤ r195.toInt ∧ r195.toInt ≤ 0 := ⟨t196.1, Int.le_trans (Int.le_of_eq dc199) (Int.le_refl _)⟩
        refine lv_bipush (v := 22) hx hb dX10_behind__68 (by decide) ?_
        obtain ⟨g201, eg201⟩ : ∃ z : Nat → Int32, upd f_stack y180.toNatClampNeg 22 = z := ⟨_, rfl⟩
        refine iast_g hx hb hK hP hD hS 2 0 rfl rfl (ix_i (by omega) (by omega)) eg201 dX10_behind__70 (fun H locs hP hD hS => ?_)
        have hP : va_P D vwCl [(h_tape, .inl (cB, 940, .inl f_tape)), (h_read, .inl (cI, 135, .inl g181)), (h_stack, .inl (cI, 45, .inl g201)), (h0, .inr (10, vL 67 F178))] H := hP
        have hD : va_D A [(h_tape, .inl (cB, 940, .inl f_tape)), (h_read, .inl (cI, 135, .inl g181)), (h_stack, .inl (cI, 45, .inl g201)), (h0, .inr (10, vL 67 F178))] := hD
        refine lv_aload_n hx hb dX10_behind__71 rfl (lv_at hl 0 rfl) ?_
        refine lv_dup hx hb dX10_behind__72 rfl ?_
        refine get_f (D := D) (ci := 10) (v := .int y180) (C := RX10) (T := TX10) (N := 67) hx hb hw inAX10 hown hK hP 3 rfl rfl 60 (by decide) (hw _ q_1321) (fun _ h9 => h9) t185 dX10_behind__73 ?_
        refine lv_iconst (v := 1) hx hb dX10_behind__76 (by decide) ?_
        refine lv_iadd hx hb dX10_behind__77 ?_
        refine lv_topi (fun v202 ev202 => ?_)
        have bv202 : v202.toInt = y180.toInt + 1 := by rw [ev202]; exact add_k rfl rfl t186 ⟨Int.le_refl _, Int.le_refl _⟩ (by decide)
        have k203 : 1 ≤ v202.toInt ∧ v202.toInt ≤ 46 := add_r bv202 t186 ⟨Int.le_refl _, Int.le_refl _⟩ (by decide)
        refine put_f (D := D) (ci := 10) (v := .int v202) (ty := .int) (C := RX10) (T := TX10) (N := 67) hx hb hw inAX10 tyX10 tyX10_ok nmX10 hown hK hP hD hS 3 rfl rfl 60 (by decide) (hw _ q_1321) (fun _ h9 => h9) rfl (by decide +kernel) rfl rfl dX10_behind__78 (fun H locs F204 eF204 hP hD hS => ?_)
        have hP : va_P D vwCl [(h_tape, .inl (cB, 940, .inl f_tape)), (h_read, .inl (cI, 135, .inl g181)), (h_stack, .inl (cI, 45, .inl g201)), (h0, .inr (10, vL 67 F204))] H := hP
        have hD : va_D A [(h_tape, .inl (cB, 940, .inl f_tape)), (h_read, .inl (cI, 135, .inl g181)), (h_stack, .inl (cI, 45, .inl g201)), (h0, .inr (10, vL 67 F204))] := hD
        refine lv_aload_n hx hb dX10_behind__81 rfl (lv_at hl 0 rfl) ?_
        refine lv_iconst (v := 0) hx hb dX10_behind__82 (by decide) ?_
        refine put_f (D := D) (ci := 10) (v := .int 0) (ty := .boolean) (C := RX10) (T := TX10) (N := 67) hx hb hw inAX10 tyX10 tyX10_ok nmX10 hown hK hP hD hS 3 rfl rfl 62 (by decide) (hw _ q_1323) (fun _ h9 => h9) rfl (by decide +kernel) rfl rfl dX10_behind__83 (fun H locs F205 eF205 hP hD hS => ?_)
        have hP : va_P D vwCl [(h_tape, .inl (cB, 940, .inl f_tape)), (h_read, .inl (cI, 135, .inl g181)), (h_stack, .inl (cI, 45, .inl g201)), (h0, .inr (10, vL 67 F205))] H := hP
        have hD : va_D A [(h_tape, .inl (cB, 940, .inl f_tape)), (h_read, .inl (cI, 135, .inl g181)), (h_stack, .inl (cI, 45, .inl g201)), (h0, .inr (10, vL 67 F205))] := hD
        refine lv_aload_n hx hb dX10_behind__86 rfl (lv_at hl 0 rfl) ?_
        have n206 : F2 1 = .ref h_tape := (SAME.at t7 (by decide) e_tape)
        have n207 : F178 1 = .ref h_tape := (SAME.at t182 (by decide) n206)
        have n208 : F204 1 = .ref h_tape := (get_ne eF204 (by decide) n207)
        have n209 : F205 1 = .ref h_tape := (get_ne eF205 (by decide) n208)
        have n210 : F2 3 = .int x_size := (SAME.at t7 (by decide) e_size)
        have n211 : F178 3 = .int x_size := (SAME.at t182 (by decide) n210)
        have n212 : F204 3 = .int x_size := (get_ne eF204 (by decide) n211)
        have n213 : F205 3 = .int x_size := (get_ne eF205 (by decide) n212)
        have n214 : F2 4 = .int x_p := (SAME.at t7 (by decide) e_p)
        have n215 : F178 4 = .int x_p := (SAME.at t182 (by decide) n214)
        have n216 : F204 4 = .int x_p := (get_ne eF204 (by decide) n215)
        have n217 : F205 4 = .int x_p := (get_ne eF205 (by decide) n216)
        have n218 : F2 5 = .int x_limit := (SAME.at t7 (by decide) e_limit)
        have n219 : F178 5 = .int x_limit := (SAME.at t182 (by decide) n218)
        have n220 : F204 5 = .int x_limit := (get_ne eF204 (by decide) n219)
        have n221 : F205 5 = .int x_limit := (get_ne eF205 (by decide) n220)
        have n222 : F204 11 = .int x_token := (get_ne eF204 (by decide) n192)
        have n223 : F205 11 = .int x_token := (get_ne eF205 (by decide) n222)
        have n224 : F2 12 = .int x_at := (SAME.at t7 (by decide) e_at)
        have n225 : F178 12 = .int x_at := (SAME.at t182 (by decide) n224)
        have n226 : F204 12 = .int x_at := (get_ne eF204 (by decide) n225)
        have n227 : F205 12 = .int x_at := (get_ne eF205 (by decide) n226)
        have n228 : F204 14 = .int x_number := (get_ne eF204 (by decide) n193)
        have n229 : F205 14 = .int x_number := (get_ne eF205 (by decide) n228)
        have n230 : F204 18 = .long x_word := (get_ne eF204 (by decide) n194)
        have n231 : F205 18 = .long x_word := (get_ne eF205 (by decide) n230)
        refine call_Vv (wr := [(h_read, .inl (cI, 135, .inl g181)), (h_stack, .inl (cI, 45, .inl g201))]) (As := []) (rest := []) hx hb hml hown hw (m_X10_next l D cI cJ cB cP cM cZ h0 h_tape F205 x_size x_p x_limit x_token x_at x_number x_word f_tape _ n209 n213 i_x_size n217 i_x_p n221 i_x_limit n223 i_x_token n227 n229 n231 (by omega)) wV_X10_208_X10_next dX10_behind__87 hK hP hD hS hA [3, 0] [1, 2] rfl rfl (by decide) (by decide) (by decide) 0 10 rfl rfl GG.fb hG.at hl.1 rfl (Nat.le_of_ble_eq_true rfl) ⟨(Nat.le_of_ble_eq_true rfl), (Nat.le_of_ble_eq_true rfl)⟩ ⟨(Nat.le_of_ble_eq_true rfl), (Nat.le_of_ble_eq_true rfl)⟩ (fun u H locs hp hP hD hS => ?_)
        obtain ⟨F233, y234, y235, y236, y237, y238, y239, t240, t241, t242, t243, t244, t245, t246, t247, t248, t249, t250, t251, t252, t253, t254, t255, rfl⟩ := hp
        have hP : va_P D vwCl [(h_read, .inl (cI, 135, .inl g181)), (h_stack, .inl (cI, 45, .inl g201)), (h0, .inr (10, vL 67 F233)), (h_tape, .inl (cB, 940, .inl f_tape))] H := hP
        have hD : va_D A [(h_read, .inl (cI, 135, .inl g181)), (h_stack, .inl (cI, 45, .inl g201)), (h0, .inr (10, vL 67 F233)), (h_tape, .inl (cB, 940, .inl f_tape))] := hD
        refine W.widen (k := 0) (n := 0) (Nat.le_of_ble_eq_true rfl) (Nat.le_of_ble_eq_true rfl) ?_
        refine lv_iconst (v := 1) hx hb dX10_behind__90 (by decide) ?_
        exact ret_i (v := 1) hx hb hr hlocks hS (hP.sub (ws' := [(h0, .inr (10, vL 67 F233)), (h_tape, .inl (cB, 940, .inl f_tape)), (h_read, .inl (cI, 135, .inl g181)), (h_stack, .inl (cI, 45, .inl g201))]) [2, 3, 0, 1] rfl) (hD.sub (ws' := [(h0, .inr (10, vL 67 F233)), (h_tape, .inl (cB, 940, .inl f_tape)), (h_read, .inl (cI, 135, .inl g181)), (h_stack, .inl (cI, 45, .inl g201))]) [2, 3, 0, 1] (by decide) rfl) dX10_behind__91 rfl (Nat.le_of_ble_eq_true rfl) (Nat.le_of_ble_eq_true rfl) ⟨F233, y234, y235, y236, y237, y238, x_fault, x_faultAt, y239, y179, v202, y5, 0, g181, g201, (SAME.tr (SAME.up eF205 (SAME.up eF204 (SAME.tr (SAME.tr SAME.rf t7 (by decide)) t182 (by decide)) (by decide)) (by decide)) t240 (by decide)), t241, t242, t243, t244, t245, t247, t249, (SAME.at t240 (by decide) (get_ne eF205 (by decide) (get_ne eF204 (by decide) (SAME.at t182 (by decide) (SAME.at t7 (by decide) e_fault))))), (SAME.at t240 (by decide) (get_ne eF205 (by decide) (get_ne eF204 (by decide) (SAME.at t182 (by decide) (SAME.at t7 (by decide) e_faultAt))))), t250, (SAME.at t240 (by decide) (get_ne eF205 (by decide) (get_ne eF204 (by decide) t183))), t184, (SAME.at t240 (by decide) (get_ne eF205 (by decide) (get_eq eF204))), (show 0 ≤ v202.toInt ∧ v202.toInt ≤ 45 from ⟨by omega, by omega⟩), (SAME.at t240 (by decide) (get_ne eF205 (by decide) (get_ne eF204 (by decide) (SAME.at t182 (by decide) t12)))), (SAME.at t240 (by decide) (get_eq eF205)), (show 0 ≤ (0 : Int32).toInt ∧ (0 : Int32).toInt ≤ 1 by decide), (show 0 ≤ (1 : Int32).toInt ∧ (1 : Int32).toInt ≤ 1 by decide), (by have zl0 : (0 : Int32).toInt = 0 := (by decide); have zl1 : (1 : Int32).toInt = 1 := (by decide); omega), (fun _ => SMI.w (SMI.pushb t187 eg201 (by omega) (by decide) (by omega)) (by decide)), (fun _ => t254), (by have zl0 : (0 : Int32).toInt = 0 := (by decide); omega), (by have zl0 : (0 : Int32).toInt = 0 := (by decide); omega), rfl⟩
      · have dc199 : r195.toInt ≠ 0 := ne_i (a := r195.toInt) (b := 0) rfl rfl c199
        have k257 : 1 ≤ r195.toInt ∧ r195.toInt ≤ 1 := ⟨ne_lo dc199 t196.1 ⟨Int.le_refl _, Int.le_refl _⟩ (by decide), t196.2⟩
        refine lv_bipush (v := 21) hx hb dX10_behind__63 (by decide) ?_
        refine lv_goto (tgt := 70) hx hb dX10_behind__65 (by decide) ?_
        obtain ⟨g258, eg258⟩ : ∃ z : Nat → Int32, upd f_stack y180.toNatClampNeg 21 = z := ⟨_, rfl⟩
        refine iast_g hx hb hK hP hD hS 2 0 rfl rfl (ix_i (by omega) (by omega)) eg258 dX10_behind__70 (fun H locs hP hD hS => ?_)
        have hP : va_P D vwCl [(h_tape, .inl (cB, 940, .inl f_tape)), (h_read, .inl (cI, 135, .inl g181)), (h_stack, .inl (cI, 45, .inl g258)), (h0, .inr (10, vL 67 F178))] H := hP
        have hD : va_D A [(h_tape, .inl (cB, 940, .inl f_tape)), (h_read, .inl (cI, 135, .inl g181)), (h_stack, .inl (cI, 45, .inl g258)), (h0, .inr (10, vL 67 F178))] := hD
        refine lv_aload_n hx hb dX10_behind__71 rfl (lv_at hl 0 rfl) ?_
        refine lv_dup hx hb dX10_behind__72 rfl ?_
        refine get_f (D := D) (ci := 10) (v := .int y180) (C := RX10) (T := TX10) (N := 67) hx hb hw inAX10 hown hK hP 3 rfl rfl 60 (by decide) (hw _ q_1321) (fun _ h9 => h9) t185 dX10_behind__73 ?_
        refine lv_iconst (v := 1) hx hb dX10_behind__76 (by decide) ?_
        refine lv_iadd hx hb dX10_behind__77 ?_
        refine lv_topi (fun v259 ev259 => ?_)
        have bv259 : v259.toInt = y180.toInt + 1 := by rw [ev259]; exact add_k rfl rfl t186 ⟨Int.le_refl _, Int.le_refl _⟩ (by decide)
        have k260 : 1 ≤ v259.toInt ∧ v259.toInt ≤ 46 := add_r bv259 t186 ⟨Int.le_refl _, Int.le_refl _⟩ (by decide)
        refine put_f (D := D) (ci := 10) (v := .int v259) (ty := .int) (C := RX10) (T := TX10) (N := 67) hx hb hw inAX10 tyX10 tyX10_ok nmX10 hown hK hP hD hS 3 rfl rfl 60 (by decide) (hw _ q_1321) (fun _ h9 => h9) rfl (by decide +kernel) rfl rfl dX10_behind__78 (fun H locs F261 eF261 hP hD hS => ?_)
        have hP : va_P D vwCl [(h_tape, .inl (cB, 940, .inl f_tape)), (h_read, .inl (cI, 135, .inl g181)), (h_stack, .inl (cI, 45, .inl g258)), (h0, .inr (10, vL 67 F261))] H := hP
        have hD : va_D A [(h_tape, .inl (cB, 940, .inl f_tape)), (h_read, .inl (cI, 135, .inl g181)), (h_stack, .inl (cI, 45, .inl g258)), (h0, .inr (10, vL 67 F261))] := hD
        refine lv_aload_n hx hb dX10_behind__81 rfl (lv_at hl 0 rfl) ?_
        refine lv_iconst (v := 0) hx hb dX10_behind__82 (by decide) ?_
        refine put_f (D := D) (ci := 10) (v := .int 0) (ty := .boolean) (C := RX10) (T := TX10) (N := 67) hx hb hw inAX10 tyX10 tyX10_ok nmX10 hown hK hP hD hS 3 rfl rfl 62 (by decide) (hw _ q_1323) (fun _ h9 => h9) rfl (by decide +kernel) rfl rfl dX10_behind__83 (fun H locs F262 eF262 hP hD hS => ?_)
        have hP : va_P D vwCl [(h_tape, .inl (cB, 940, .inl f_tape)), (h_read, .inl (cI, 135, .inl g181)), (h_stack, .inl (cI, 45, .inl g258)), (h0, .inr (10, vL 67 F262))] H := hP
        have hD : va_D A [(h_tape, .inl (cB, 940, .inl f_tape)), (h_read, .inl (cI, 135, .inl g181)), (h_stack, .inl (cI, 45, .inl g258)), (h0, .inr (10, vL 67 F262))] := hD
        refine lv_aload_n hx hb dX10_behind__86 rfl (lv_at hl 0 rfl) ?_
        have n263 : F2 1 = .ref h_tape := (SAME.at t7 (by decide) e_tape)
        have n264 : F178 1 = .ref h_tape := (SAME.at t182 (by decide) n263)
        have n265 : F261 1 = .ref h_tape := (get_ne eF261 (by decide) n264)
        have n266 : F262 1 = .ref h_tape := (get_ne eF262 (by decide) n265)
        have n267 : F2 3 = .int x_size := (SAME.at t7 (by decide) e_size)
        have n268 : F178 3 = .int x_size := (SAME.at t182 (by decide) n267)
        have n269 : F261 3 = .int x_size := (get_ne eF261 (by decide) n268)
        have n270 : F262 3 = .int x_size := (get_ne eF262 (by decide) n269)
        have n271 : F2 4 = .int x_p := (SAME.at t7 (by decide) e_p)
        have n272 : F178 4 = .int x_p := (SAME.at t182 (by decide) n271)
        have n273 : F261 4 = .int x_p := (get_ne eF261 (by decide) n272)
        have n274 : F262 4 = .int x_p := (get_ne eF262 (by decide) n273)
        have n275 : F2 5 = .int x_limit := (SAME.at t7 (by decide) e_limit)
        have n276 : F178 5 = .int x_limit := (SAME.at t182 (by decide) n275)
        have n277 : F261 5 = .int x_limit := (get_ne eF261 (by decide) n276)
        have n278 : F262 5 = .int x_limit := (get_ne eF262 (by decide) n277)
        have n279 : F261 11 = .int x_token := (get_ne eF261 (by decide) n192)
        have n280 : F262 11 = .int x_token := (get_ne eF262 (by decide) n279)
        have n281 : F2 12 = .int x_at := (SAME.at t7 (by decide) e_at)
        have n282 : F178 12 = .int x_at := (SAME.at t182 (by decide) n281)
        have n283 : F261 12 = .int x_at := (get_ne eF261 (by decide) n282)
        have n284 : F262 12 = .int x_at := (get_ne eF262 (by decide) n283)
        have n285 : F261 14 = .int x_number := (get_ne eF261 (by decide) n193)
        have n286 : F262 14 = .int x_number := (get_ne eF262 (by decide) n285)
        have n287 : F261 18 = .long x_word := (get_ne eF261 (by decide) n194)
        have n288 : F262 18 = .long x_word := (get_ne eF262 (by decide) n287)
        refine call_Vv (wr := [(h_read, .inl (cI, 135, .inl g181)), (h_stack, .inl (cI, 45, .inl g258))]) (As := []) (rest := []) hx hb hml hown hw (m_X10_next l D cI cJ cB cP cM cZ h0 h_tape F262 x_size x_p x_limit x_token x_at x_number x_word f_tape _ n266 n270 i_x_size n274 i_x_p n278 i_x_limit n280 i_x_token n284 n286 n288 (by omega)) wV_X10_208_X10_next dX10_behind__87 hK hP hD hS hA [3, 0] [1, 2] rfl rfl (by decide) (by decide) (by decide) 0 10 rfl rfl GG.fb hG.at hl.1 rfl (Nat.le_of_ble_eq_true rfl) ⟨(Nat.le_of_ble_eq_true rfl), (Nat.le_of_ble_eq_true rfl)⟩ ⟨(Nat.le_of_ble_eq_true rfl), (Nat.le_of_ble_eq_true rfl)⟩ (fun u H locs hp hP hD hS => ?_)
        obtain ⟨F290, y291, y292, y293, y294, y295, y296, t297, t298, t299, t300, t301, t302, t303, t304, t305, t306, t307, t308, t309, t310, t311, t312, rfl⟩ := hp
        have hP : va_P D vwCl [(h_read, .inl (cI, 135, .inl g181)), (h_stack, .inl (cI, 45, .inl g258)), (h0, .inr (10, vL 67 F290)), (h_tape, .inl (cB, 940, .inl f_tape))] H := hP
        have hD : va_D A [(h_read, .inl (cI, 135, .inl g181)), (h_stack, .inl (cI, 45, .inl g258)), (h0, .inr (10, vL 67 F290)), (h_tape, .inl (cB, 940, .inl f_tape))] := hD
        refine W.widen (k := 0) (n := 0) (Nat.le_of_ble_eq_true rfl) (Nat.le_of_ble_eq_true rfl) ?_
        refine lv_iconst (v := 1) hx hb dX10_behind__90 (by decide) ?_
        exact ret_i (v := 1) hx hb hr hlocks hS (hP.sub (ws' := [(h0, .inr (10, vL 67 F290)), (h_tape, .inl (cB, 940, .inl f_tape)), (h_read, .inl (cI, 135, .inl g181)), (h_stack, .inl (cI, 45, .inl g258))]) [2, 3, 0, 1] rfl) (hD.sub (ws' := [(h0, .inr (10, vL 67 F290)), (h_tape, .inl (cB, 940, .inl f_tape)), (h_read, .inl (cI, 135, .inl g181)), (h_stack, .inl (cI, 45, .inl g258))]) [2, 3, 0, 1] (by decide) rfl) dX10_behind__91 rfl (Nat.le_of_ble_eq_true rfl) (Nat.le_of_ble_eq_true rfl) ⟨F290, y291, y292, y293, y294, y295, x_fault, x_faultAt, y296, y179, v259, y5, 0, g181, g258, (SAME.tr (SAME.up eF262 (SAME.up eF261 (SAME.tr (SAME.tr SAME.rf t7 (by decide)) t182 (by decide)) (by decide)) (by decide)) t297 (by decide)), t298, t299, t300, t301, t302, t304, t306, (SAME.at t297 (by decide) (get_ne eF262 (by decide) (get_ne eF261 (by decide) (SAME.at t182 (by decide) (SAME.at t7 (by decide) e_fault))))), (SAME.at t297 (by decide) (get_ne eF262 (by decide) (get_ne eF261 (by decide) (SAME.at t182 (by decide) (SAME.at t7 (by decide) e_faultAt))))), t307, (SAME.at t297 (by decide) (get_ne eF262 (by decide) (get_ne eF261 (by decide) t183))), t184, (SAME.at t297 (by decide) (get_ne eF262 (by decide) (get_eq eF261))), (show 0 ≤ v259.toInt ∧ v259.toInt ≤ 45 from ⟨by omega, by omega⟩), (SAME.at t297 (by decide) (get_ne eF262 (by decide) (get_ne eF261 (by decide) (SAME.at t182 (by decide) t12)))), (SAME.at t297 (by decide) (get_eq eF262)), (show 0 ≤ (0 : Int32).toInt ∧ (0 : Int32).toInt ≤ 1 by decide), (show 0 ≤ (1 : Int32).toInt ∧ (1 : Int32).toInt ≤ 1 by decide), (by have zl0 : (0 : Int32).toInt = 0 := (by decide); have zl1 : (1 : Int32).toInt = 1 := (by decide); omega), (fun _ => SMI.w (SMI.pushb t187 eg258 (by omega) (by decide) (by omega)) (by decide)), (fun _ => t311), (by have zl0 : (0 : Int32).toInt = 0 := (by decide); omega), (by have zl0 : (0 : Int32).toInt = 0 := (by decide); omega), rfl⟩
  · have dc23 : r19.toInt = 0 := eq_i (a := r19.toInt) (b := 0) rfl rfl c23
    have k314 : 0 ≤ r19.toInt ∧ r19.toInt ≤ 0 := ⟨t20.1, Int.le_trans (Int.le_of_eq dc23) (Int.le_refl _)⟩
    refine lv_aload_n hx hb dX10_behind__14 rfl (lv_at hl 0 rfl) ?_
    refine lv_ldc2 hx hb hown (hw _ q_1248) dX10_behind__15 ?_
    refine call_Vi (wr := [(h_tape, .inl (cB, 940, .inl f_tape)), (h_read, .inl (cI, 135, .inl g6)), (h_stack, .inl (cI, 45, .inl f_stack))]) (As := [.long 28530]) (rest := []) hx hb hml hown hw (m_X10_isWord l D cI cJ cB cP cM cZ h0 F2 x_token x_number x_word 28530 _ n16 i_x_token n17 n18 (by omega)) wV_X10_225_X10_isWord dX10_behind__18 hK hP hD hS hA [3] [0, 1, 2] rfl rfl (by decide) (by decide) (by decide) 0 10 rfl rfl GG.fb hG.at hl.1 rfl (Nat.le_of_ble_eq_true rfl) ⟨(Nat.le_of_ble_eq_true rfl), (Nat.le_of_ble_eq_true rfl)⟩ ⟨(Nat.le_of_ble_eq_true rfl), (Nat.le_of_ble_eq_true rfl)⟩ (fun r315 u H locs hp hP hD hS => ?_)
    have zl28530 : (28530 : Int32).toInt = 28530 := by decide
    obtain ⟨t316, t317, rfl⟩ := hp
    have hP : va_P D vwCl [(h_tape, .inl (cB, 940, .inl f_tape)), (h_read, .inl (cI, 135, .inl g6)), (h_stack, .inl (cI, 45, .inl f_stack)), (h0, .inr (10, vL 67 F2))] H := hP
    have hD : va_D A [(h_tape, .inl (cB, 940, .inl f_tape)), (h_read, .inl (cI, 135, .inl g6)), (h_stack, .inl (cI, 45, .inl f_stack)), (h0, .inr (10, vL 67 F2))] := hD
    refine W.widen (k := 0) (n := 0) (Nat.le_of_ble_eq_true rfl) (Nat.le_of_ble_eq_true rfl) ?_
    replace t317 := (isw (k := 14) (a := 423) z_2 t317 (by decide) (by decide +kernel) (by decide +kernel) (by decide +kernel) (by decide +kernel))
    refine lv_if_eq (tgt := 92) hx hb dX10_behind__21 (by decide) (fun c319 => ?_) (fun c319 => ?_)
    · have dc319 : r315.toInt = 0 := eq_i (a := r315.toInt) (b := 0) rfl rfl c319
      have k320 : 0 ≤ r315.toInt ∧ r315.toInt ≤ 0 := ⟨t316.1, Int.le_trans (Int.le_of_eq dc319) (Int.le_refl _)⟩
      refine lv_aload_n hx hb dX10_behind__92 rfl (lv_at hl 0 rfl) ?_
      refine lv_bipush (v := 22) hx hb dX10_behind__93 (by decide) ?_
      have n321 : F2 8 = .ref h_read := (SAME.at t7 (by decide) e_read)
      have n322 : F2 57 = .ref h_stack := (SAME.at t7 (by decide) e_stack)
      have n323 : F2 59 = .int x_ones := (SAME.at t7 (by decide) e_ones)
      have n324 : F2 62 = .int x_isWhole := (SAME.at t7 (by decide) e_isWhole)
      refine call_Vv (wr := [(h_tape, .inl (cB, 940, .inl f_tape))]) (As := [.int 22]) (rest := []) hx hb hml hown hw (m_X10_joins l D cI cJ cB cP cM cZ h0 h_read h_stack F2 y3 x_ones y4 x_isWhole g6 f_stack 22 _ n321 n322 t8 t9 n323 i_x_ones t10 t11 n324 i_x_isWhole (by omega) (SMI.w t13 (by omega)) (by omega)) wV_X10_466_X10_joins dX10_behind__95 hK hP hD hS hA [3, 1, 2] [0] rfl rfl (by decide) (by decide) (by decide) 0 10 rfl rfl GG.fb hG.at hl.1 rfl (Nat.le_of_ble_eq_true rfl) ⟨(Nat.le_of_ble_eq_true rfl), (Nat.le_of_ble_eq_true rfl)⟩ ⟨(Nat.le_of_ble_eq_true rfl), (Nat.le_of_ble_eq_true rfl)⟩ (fun u H locs hp hP hD hS => ?_)
      have zl22 : (22 : Int32).toInt = 22 := by decide
      obtain ⟨F326, y327, y328, g329, t330, t331, t332, t333, t334, t335, t336, t337, rfl⟩ := hp
      have hP : va_P D vwCl [(h_tape, .inl (cB, 940, .inl f_tape)), (h0, .inr (10, vL 67 F326)), (h_read, .inl (cI, 135, .inl g329)), (h_stack, .inl (cI, 45, .inl f_stack))] H := hP
      have hD : va_D A [(h_tape, .inl (cB, 940, .inl f_tape)), (h0, .inr (10, vL 67 F326)), (h_read, .inl (cI, 135, .inl g329)), (h_stack, .inl (cI, 45, .inl f_stack))] := hD
      refine W.widen (k := 0) (n := 0) (Nat.le_of_ble_eq_true rfl) (Nat.le_of_ble_eq_true rfl) ?_
      refine lv_aload_n hx hb dX10_behind__98 rfl (lv_at hl 0 rfl) ?_
      refine lv_bipush (v := 41) hx hb dX10_behind__99 (by decide) ?_
      have n339 : F326 11 = .int x_token := (SAME.at t330 (by decide) n16)
      have n340 : F326 14 = .int x_number := (SAME.at t330 (by decide) n17)
      refine call_Vi (wr := [(h_tape, .inl (cB, 940, .inl f_tape)), (h_read, .inl (cI, 135, .inl g329)), (h_stack, .inl (cI, 45, .inl f_stack))]) (As := [.int 41]) (rest := []) hx hb hml hown hw (m_X10_isSign l D cI cJ cB cP cM cZ h0 F326 x_token x_number 41 _ n339 i_x_token n340 (by omega)) wV_X10_202_X10_isSign dX10_behind__101 hK hP hD hS hA [1] [0, 2, 3] rfl rfl (by decide) (by decide) (by decide) 0 10 rfl rfl GG.fb hG.at hl.1 rfl (Nat.le_of_ble_eq_true rfl) ⟨(Nat.le_of_ble_eq_true rfl), (Nat.le_of_ble_eq_true rfl)⟩ ⟨(Nat.le_of_ble_eq_true rfl), (Nat.le_of_ble_eq_true rfl)⟩ (fun r341 u H locs hp hP hD hS => ?_)
      have zl41 : (41 : Int32).toInt = 41 := by decide
      obtain ⟨t342, t343, rfl⟩ := hp
      have hP : va_P D vwCl [(h_tape, .inl (cB, 940, .inl f_tape)), (h_read, .inl (cI, 135, .inl g329)), (h_stack, .inl (cI, 45, .inl f_stack)), (h0, .inr (10, vL 67 F326))] H := hP
      have hD : va_D A [(h_tape, .inl (cB, 940, .inl f_tape)), (h_read, .inl (cI, 135, .inl g329)), (h_stack, .inl (cI, 45, .inl f_stack)), (h0, .inr (10, vL 67 F326))] := hD
      refine W.widen (k := 0) (n := 0) (Nat.le_of_ble_eq_true rfl) (Nat.le_of_ble_eq_true rfl) ?_
      refine lv_if_eq (tgt := 114) hx hb dX10_behind__104 (by decide) (fun c345 => ?_) (fun c345 => ?_)
      · have dc345 : r341.toInt = 0 := eq_i (a := r341.toInt) (b := 0) rfl rfl c345
        have k346 : 0 ≤ r341.toInt ∧ r341.toInt ≤ 0 := ⟨t342.1, Int.le_trans (Int.le_of_eq dc345) (Int.le_refl _)⟩
        refine lv_aload_n hx hb dX10_behind__114 rfl (lv_at hl 0 rfl) ?_
        refine lv_iconst (v := 1) hx hb dX10_behind__115 (by decide) ?_
        have n347 : F2 12 = .int x_at := (SAME.at t7 (by decide) e_at)
        have n348 : F326 12 = .int x_at := (SAME.at t330 (by decide) n347)
        refine call_Vi (wr := [(h_tape, .inl (cB, 940, .inl f_tape)), (h_read, .inl (cI, 135, .inl g329)), (h_stack, .inl (cI, 45, .inl f_stack))]) (As := [.int 1]) (rest := []) hx hb hml hown hw (m_X10_bad l D cI cJ cB cP cM cZ h0 F326 x_at 1 _ n348) wV_X10_205_X10_bad dX10_behind__116 hK hP hD hS hA [3] [0, 1, 2] rfl rfl (by decide) (by decide) (by decide) 0 10 rfl rfl GG.fb hG.at hl.1 rfl (Nat.le_of_ble_eq_true rfl) ⟨(Nat.le_of_ble_eq_true rfl), (Nat.le_of_ble_eq_true rfl)⟩ ⟨(Nat.le_of_ble_eq_true rfl), (Nat.le_of_ble_eq_true rfl)⟩ (fun r349 u H locs hp hP hD hS => ?_)
        have zl1 : (1 : Int32).toInt = 1 := by decide
        obtain ⟨F350, t351, t352, t353, rfl, rfl⟩ := hp
        have hP : va_P D vwCl [(h_tape, .inl (cB, 940, .inl f_tape)), (h_read, .inl (cI, 135, .inl g329)), (h_stack, .inl (cI, 45, .inl f_stack)), (h0, .inr (10, vL 67 F350))] H := hP
        have hD : va_D A [(h_tape, .inl (cB, 940, .inl f_tape)), (h_read, .inl (cI, 135, .inl g329)), (h_stack, .inl (cI, 45, .inl f_stack)), (h0, .inr (10, vL 67 F350))] := hD
        refine W.widen (k := 0) (n := 0) (Nat.le_of_ble_eq_true rfl) (Nat.le_of_ble_eq_true rfl) ?_
        exact ret_i (v := 0) hx hb hr hlocks hS (hP.sub (ws' := [(h0, .inr (10, vL 67 F350)), (h_tape, .inl (cB, 940, .inl f_tape)), (h_read, .inl (cI, 135, .inl g329)), (h_stack, .inl (cI, 45, .inl f_stack))]) [3, 0, 1, 2] rfl) (hD.sub (ws' := [(h0, .inr (10, vL 67 F350)), (h_tape, .inl (cB, 940, .inl f_tape)), (h_read, .inl (cI, 135, .inl g329)), (h_stack, .inl (cI, 45, .inl f_stack))]) [3, 0, 1, 2] (by decide) rfl) dX10_behind__119 rfl (Nat.le_of_ble_eq_true rfl) (Nat.le_of_ble_eq_true rfl) ⟨F350, x_p, x_token, x_at, x_span, x_number, 1, x_at, x_word, y327, y328, y5, x_isWhole, g329, f_stack, (SAME.tr (SAME.tr (SAME.tr SAME.rf t7 (by decide)) t330 (by decide)) t351 (by decide)), (SAME.at t351 (by decide) (SAME.at t330 (by decide) (SAME.at t7 (by decide) e_p))), i_x_p, (SAME.at t351 (by decide) n339), i_x_token, (SAME.at t351 (by decide) n348), (SAME.at t351 (by decide) (SAME.at t330 (by decide) (SAME.at t7 (by decide) e_span))), (SAME.at t351 (by decide) n340), t352, t353, (SAME.at t351 (by decide) (SAME.at t330 (by decide) n18)), (SAME.at t351 (by decide) t331), t332, (SAME.at t351 (by decide) t333), t334, (SAME.at t351 (by decide) (SAME.at t330 (by decide) t12)), (SAME.at t351 (by decide) (SAME.at t330 (by decide) n324)), i_x_isWhole, (show 0 ≤ (0 : Int32).toInt ∧ (0 : Int32).toInt ≤ 1 by decide), (by have zl0 : (0 : Int32).toInt = 0 := (by decide); have zl1 : (1 : Int32).toInt = 1 := (by decide); omega), (fun q => absurd q (by decide)), (fun q => absurd q (by decide)), (by have zl1 : (1 : Int32).toInt = 1 := (by decide); omega), (by have zl1 : (1 : Int32).toInt = 1 := (by decide); omega), rfl⟩
      · have dc345 : r341.toInt ≠ 0 := ne_i (a := r341.toInt) (b := 0) rfl rfl c345
        have k355 : 1 ≤ r341.toInt ∧ r341.toInt ≤ 1 := ⟨ne_lo dc345 t342.1 ⟨Int.le_refl _, Int.le_refl _⟩ (by decide), t342.2⟩
        refine lv_aload_n hx hb dX10_behind__107 rfl (lv_at hl 0 rfl) ?_
        refine get_f (D := D) (ci := 10) (v := .int y328) (C := RX10) (T := TX10) (N := 67) hx hb hw inAX10 hown hK hP 3 rfl rfl 60 (by decide) (hw _ q_1321) (fun _ h9 => h9) t333 dX10_behind__108 ?_
        refine lv_if_ne (tgt := 120) hx hb dX10_behind__111 (by decide) (fun c356 => ?_) (fun c356 => ?_)
        · have dc356 : y328.toInt ≠ 0 := ne_i (a := y328.toInt) (b := 0) rfl rfl c356
          have k357 : 1 ≤ y328.toInt ∧ y328.toInt ≤ 45 := ⟨ne_lo dc356 t334.1 ⟨Int.le_refl _, Int.le_refl _⟩ (by decide), t334.2⟩
          refine lv_aload_n hx hb dX10_behind__120 rfl (lv_at hl 0 rfl) ?_
          refine lv_dup hx hb dX10_behind__121 rfl ?_
          refine get_f (D := D) (ci := 10) (v := .int y328) (C := RX10) (T := TX10) (N := 67) hx hb hw inAX10 hown hK hP 3 rfl rfl 60 (by decide) (hw _ q_1321) (fun _ h9 => h9) t333 dX10_behind__122 ?_
          refine lv_iconst (v := 1) hx hb dX10_behind__125 (by decide) ?_
          refine lv_isub hx hb dX10_behind__126 ?_
          refine lv_topi (fun v358 ev358 => ?_)
          have bv358 : v358.toInt = y328.toInt - 1 := by rw [ev358]; exact sub_k rfl rfl k357 ⟨Int.le_refl _, Int.le_refl _⟩ (by decide)
          have k359 : 0 ≤ v358.toInt ∧ v358.toInt ≤ 44 := sub_r bv358 k357 ⟨Int.le_refl _, Int.le_refl _⟩ (by decide)
          refine put_f (D := D) (ci := 10) (v := .int v358) (ty := .int) (C := RX10) (T := TX10) (N := 67) hx hb hw inAX10 tyX10 tyX10_ok nmX10 hown hK hP hD hS 3 rfl rfl 60 (by decide) (hw _ q_1321) (fun _ h9 => h9) rfl (by decide +kernel) rfl rfl dX10_behind__127 (fun H locs F360 eF360 hP hD hS => ?_)
          have hP : va_P D vwCl [(h_tape, .inl (cB, 940, .inl f_tape)), (h_read, .inl (cI, 135, .inl g329)), (h_stack, .inl (cI, 45, .inl f_stack)), (h0, .inr (10, vL 67 F360))] H := hP
          have hD : va_D A [(h_tape, .inl (cB, 940, .inl f_tape)), (h_read, .inl (cI, 135, .inl g329)), (h_stack, .inl (cI, 45, .inl f_stack)), (h0, .inr (10, vL 67 F360))] := hD
          refine lv_aload_n hx hb dX10_behind__130 rfl (lv_at hl 0 rfl) ?_
          refine lv_dup hx hb dX10_behind__131 rfl ?_
          have n361 : F326 61 = .int y5 := (SAME.at t330 (by decide) t12)
          have n362 : F360 61 = .int y5 := (get_ne eF360 (by decide) n361)
          refine get_f (D := D) (ci := 10) (v := .int y5) (C := RX10) (T := TX10) (N := 67) hx hb hw inAX10 hown hK hP 3 rfl rfl 61 (by decide) (hw _ q_1322) (fun _ h9 => h9) n362 dX10_behind__132 ?_
          refine lv_iconst (v := 1) hx hb dX10_behind__135 (by decide) ?_
          refine lv_isub hx hb dX10_behind__136 ?_
          refine lv_topi (fun v363 ev363 => ?_)
          refine put_f (D := D) (ci := 10) (v := .int v363) (ty := .int) (C := RX10) (T := TX10) (N := 67) hx hb hw inAX10 tyX10 tyX10_ok nmX10 hown hK hP hD hS 3 rfl rfl 61 (by decide) (hw _ q_1322) (fun _ h9 => h9) rfl (by decide +kernel) rfl rfl dX10_behind__137 (fun H locs F364 eF364 hP hD hS => ?_)
          have hP : va_P D vwCl [(h_tape, .inl (cB, 940, .inl f_tape)), (h_read, .inl (cI, 135, .inl g329)), (h_stack, .inl (cI, 45, .inl f_stack)), (h0, .inr (10, vL 67 F364))] H := hP
          have hD : va_D A [(h_tape, .inl (cB, 940, .inl f_tape)), (h_read, .inl (cI, 135, .inl g329)), (h_stack, .inl (cI, 45, .inl f_stack)), (h0, .inr (10, vL 67 F364))] := hD
          refine lv_aload_n hx hb dX10_behind__140 rfl (lv_at hl 0 rfl) ?_
          have n365 : F2 1 = .ref h_tape := (SAME.at t7 (by decide) e_tape)
          have n366 : F326 1 = .ref h_tape := (SAME.at t330 (by decide) n365)
          have n367 : F360 1 = .ref h_tape := (get_ne eF360 (by decide) n366)
          have n368 : F364 1 = .ref h_tape := (get_ne eF364 (by decide) n367)
          have n369 : F2 3 = .int x_size := (SAME.at t7 (by decide) e_size)
          have n370 : F326 3 = .int x_size := (SAME.at t330 (by decide) n369)
          have n371 : F360 3 = .int x_size := (get_ne eF360 (by decide) n370)
          have n372 : F364 3 = .int x_size := (get_ne eF364 (by decide) n371)
          have n373 : F2 4 = .int x_p := (SAME.at t7 (by decide) e_p)
          have n374 : F326 4 = .int x_p := (SAME.at t330 (by decide) n373)
          have n375 : F360 4 = .int x_p := (get_ne eF360 (by decide) n374)
          have n376 : F364 4 = .int x_p := (get_ne eF364 (by decide) n375)
          have n377 : F2 5 = .int x_limit := (SAME.at t7 (by decide) e_limit)
          have n378 : F326 5 = .int x_limit := (SAME.at t330 (by decide) n377)
          have n379 : F360 5 = .int x_limit := (get_ne eF360 (by decide) n378)
          have n380 : F364 5 = .int x_limit := (get_ne eF364 (by decide) n379)
          have n381 : F360 11 = .int x_token := (get_ne eF360 (by decide) n339)
          have n382 : F364 11 = .int x_token := (get_ne eF364 (by decide) n381)
          have n383 : F2 12 = .int x_at := (SAME.at t7 (by decide) e_at)
          have n384 : F326 12 = .int x_at := (SAME.at t330 (by decide) n383)
          have n385 : F360 12 = .int x_at := (get_ne eF360 (by decide) n384)
          have n386 : F364 12 = .int x_at := (get_ne eF364 (by decide) n385)
          have n387 : F360 14 = .int x_number := (get_ne eF360 (by decide) n340)
          have n388 : F364 14 = .int x_number := (get_ne eF364 (by decide) n387)
          have n389 : F326 18 = .long x_word := (SAME.at t330 (by decide) n18)
          have n390 : F360 18 = .long x_word := (get_ne eF360 (by decide) n389)
          have n391 : F364 18 = .long x_word := (get_ne eF364 (by decide) n390)
          refine call_Vv (wr := [(h_read, .inl (cI, 135, .inl g329)), (h_stack, .inl (cI, 45, .inl f_stack))]) (As := []) (rest := []) hx hb hml hown hw (m_X10_next l D cI cJ cB cP cM cZ h0 h_tape F364 x_size x_p x_limit x_token x_at x_number x_word f_tape _ n368 n372 i_x_size n376 i_x_p n380 i_x_limit n382 i_x_token n386 n388 n391 (by omega)) wV_X10_208_X10_next dX10_behind__141 hK hP hD hS hA [3, 0] [1, 2] rfl rfl (by decide) (by decide) (by decide) 0 10 rfl rfl GG.fb hG.at hl.1 rfl (Nat.le_of_ble_eq_true rfl) ⟨(Nat.le_of_ble_eq_true rfl), (Nat.le_of_ble_eq_true rfl)⟩ ⟨(Nat.le_of_ble_eq_true rfl), (Nat.le_of_ble_eq_true rfl)⟩ (fun u H locs hp hP hD hS => ?_)
          obtain ⟨F393, y394, y395, y396, y397, y398, y399, t400, t401, t402, t403, t404, t405, t406, t407, t408, t409, t410, t411, t412, t413, t414, t415, rfl⟩ := hp
          have hP : va_P D vwCl [(h_read, .inl (cI, 135, .inl g329)), (h_stack, .inl (cI, 45, .inl f_stack)), (h0, .inr (10, vL 67 F393)), (h_tape, .inl (cB, 940, .inl f_tape))] H := hP
          have hD : va_D A [(h_read, .inl (cI, 135, .inl g329)), (h_stack, .inl (cI, 45, .inl f_stack)), (h0, .inr (10, vL 67 F393)), (h_tape, .inl (cB, 940, .inl f_tape))] := hD
          refine W.widen (k := 0) (n := 0) (Nat.le_of_ble_eq_true rfl) (Nat.le_of_ble_eq_true rfl) ?_
          refine lv_iconst (v := 1) hx hb dX10_behind__144 (by decide) ?_
          exact ret_i (v := 1) hx hb hr hlocks hS (hP.sub (ws' := [(h0, .inr (10, vL 67 F393)), (h_tape, .inl (cB, 940, .inl f_tape)), (h_read, .inl (cI, 135, .inl g329)), (h_stack, .inl (cI, 45, .inl f_stack))]) [2, 3, 0, 1] rfl) (hD.sub (ws' := [(h0, .inr (10, vL 67 F393)), (h_tape, .inl (cB, 940, .inl f_tape)), (h_read, .inl (cI, 135, .inl g329)), (h_stack, .inl (cI, 45, .inl f_stack))]) [2, 3, 0, 1] (by decide) rfl) dX10_behind__145 rfl (Nat.le_of_ble_eq_true rfl) (Nat.le_of_ble_eq_true rfl) ⟨F393, y394, y395, y396, y397, y398, x_fault, x_faultAt, y399, y327, v358, v363, x_isWhole, g329, f_stack, (SAME.tr (SAME.up eF364 (SAME.up eF360 (SAME.tr (SAME.tr SAME.rf t7 (by decide)) t330 (by decide)) (by decide)) (by decide)) t400 (by decide)), t401, t402, t403, t404, t405, t407, t409, (SAME.at t400 (by decide) (get_ne eF364 (by decide) (get_ne eF360 (by decide) (SAME.at t330 (by decide) (SAME.at t7 (by decide) e_fault))))), (SAME.at t400 (by decide) (get_ne eF364 (by decide) (get_ne eF360 (by decide) (SAME.at t330 (by decide) (SAME.at t7 (by decide) e_faultAt))))), t410, (SAME.at t400 (by decide) (get_ne eF364 (by decide) (get_ne eF360 (by decide) t331))), t332, (SAME.at t400 (by decide) (get_ne eF364 (by decide) (get_eq eF360))), (ir_wk k359 (by decide) (by decide)), (SAME.at t400 (by decide) (get_eq eF364)), (SAME.at t400 (by decide) (get_ne eF364 (by decide) (get_ne eF360 (by decide) (SAME.at t330 (by decide) n324)))), i_x_isWhole, (show 0 ≤ (1 : Int32).toInt ∧ (1 : Int32).toInt ≤ 1 by decide), (by have zl1 : (1 : Int32).toInt = 1 := (by decide); omega), (fun _ => SMI.w (SMI.pop t335 t336 (by decide) (by omega) (by omega)) (by omega)), (fun _ => t414), (by omega), (by omega), rfl⟩
        · have dc356 : y328.toInt = 0 := eq_i (a := y328.toInt) (b := 0) rfl rfl c356
          have k417 : 0 ≤ y328.toInt ∧ y328.toInt ≤ 0 := ⟨t334.1, Int.le_trans (Int.le_of_eq dc356) (Int.le_refl _)⟩
          refine lv_aload_n hx hb dX10_behind__114 rfl (lv_at hl 0 rfl) ?_
          refine lv_iconst (v := 1) hx hb dX10_behind__115 (by decide) ?_
          have n418 : F2 12 = .int x_at := (SAME.at t7 (by decide) e_at)
          have n419 : F326 12 = .int x_at := (SAME.at t330 (by decide) n418)
          refine call_Vi (wr := [(h_tape, .inl (cB, 940, .inl f_tape)), (h_read, .inl (cI, 135, .inl g329)), (h_stack, .inl (cI, 45, .inl f_stack))]) (As := [.int 1]) (rest := []) hx hb hml hown hw (m_X10_bad l D cI cJ cB cP cM cZ h0 F326 x_at 1 _ n419) wV_X10_205_X10_bad dX10_behind__116 hK hP hD hS hA [3] [0, 1, 2] rfl rfl (by decide) (by decide) (by decide) 0 10 rfl rfl GG.fb hG.at hl.1 rfl (Nat.le_of_ble_eq_true rfl) ⟨(Nat.le_of_ble_eq_true rfl), (Nat.le_of_ble_eq_true rfl)⟩ ⟨(Nat.le_of_ble_eq_true rfl), (Nat.le_of_ble_eq_true rfl)⟩ (fun r420 u H locs hp hP hD hS => ?_)
          have zl1 : (1 : Int32).toInt = 1 := by decide
          obtain ⟨F421, t422, t423, t424, rfl, rfl⟩ := hp
          have hP : va_P D vwCl [(h_tape, .inl (cB, 940, .inl f_tape)), (h_read, .inl (cI, 135, .inl g329)), (h_stack, .inl (cI, 45, .inl f_stack)), (h0, .inr (10, vL 67 F421))] H := hP
          have hD : va_D A [(h_tape, .inl (cB, 940, .inl f_tape)), (h_read, .inl (cI, 135, .inl g329)), (h_stack, .inl (cI, 45, .inl f_stack)), (h0, .inr (10, vL 67 F421))] := hD
          refine W.widen (k := 0) (n := 0) (Nat.le_of_ble_eq_true rfl) (Nat.le_of_ble_eq_true rfl) ?_
          exact ret_i (v := 0) hx hb hr hlocks hS (hP.sub (ws' := [(h0, .inr (10, vL 67 F421)), (h_tape, .inl (cB, 940, .inl f_tape)), (h_read, .inl (cI, 135, .inl g329)), (h_stack, .inl (cI, 45, .inl f_stack))]) [3, 0, 1, 2] rfl) (hD.sub (ws' := [(h0, .inr (10, vL 67 F421)), (h_tape, .inl (cB, 940, .inl f_tape)), (h_read, .inl (cI, 135, .inl g329)), (h_stack, .inl (cI, 45, .inl f_stack))]) [3, 0, 1, 2] (by decide) rfl) dX10_behind__119 rfl (Nat.le_of_ble_eq_true rfl) (Nat.le_of_ble_eq_true rfl) ⟨F421, x_p, x_token, x_at, x_span, x_number, 1, x_at, x_word, y327, y328, y5, x_isWhole, g329, f_stack, (SAME.tr (SAME.tr (SAME.tr SAME.rf t7 (by decide)) t330 (by decide)) t422 (by decide)), (SAME.at t422 (by decide) (SAME.at t330 (by decide) (SAME.at t7 (by decide) e_p))), i_x_p, (SAME.at t422 (by decide) n339), i_x_token, (SAME.at t422 (by decide) n419), (SAME.at t422 (by decide) (SAME.at t330 (by decide) (SAME.at t7 (by decide) e_span))), (SAME.at t422 (by decide) n340), t423, t424, (SAME.at t422 (by decide) (SAME.at t330 (by decide) n18)), (SAME.at t422 (by decide) t331), t332, (SAME.at t422 (by decide) t333), (ir_wk k417 (by decide) (by decide)), (SAME.at t422 (by decide) (SAME.at t330 (by decide) t12)), (SAME.at t422 (by decide) (SAME.at t330 (by decide) n324)), i_x_isWhole, (show 0 ≤ (0 : Int32).toInt ∧ (0 : Int32).toInt ≤ 1 by decide), (by have zl0 : (0 : Int32).toInt = 0 := (by decide); have zl1 : (1 : Int32).toInt = 1 := (by decide); omega), (fun q => absurd q (by decide)), (fun q => absurd q (by decide)), (by have zl1 : (1 : Int32).toInt = 1 := (by decide); omega), (by have zl1 : (1 : Int32).toInt = 1 := (by decide); omega), rfl⟩
    · have dc319 : r315.toInt ≠ 0 := ne_i (a := r315.toInt) (b := 0) rfl rfl c319
      have k426 : 1 ≤ r315.toInt ∧ r315.toInt ≤ 1 := ⟨ne_lo dc319 t316.1 ⟨Int.le_refl _, Int.le_refl _⟩ (by decide), t316.2⟩
      refine lv_aload_n hx hb dX10_behind__24 rfl (lv_at hl 0 rfl) ?_
      refine lv_aload_n hx hb dX10_behind__25 rfl (lv_at hl 0 rfl) ?_
      refine lv_ldc2 hx hb hown (hw _ q_1249) dX10_behind__26 ?_
      refine call_Vi (wr := [(h_tape, .inl (cB, 940, .inl f_tape)), (h_read, .inl (cI, 135, .inl g6)), (h_stack, .inl (cI, 45, .inl f_stack))]) (As := [.long 6385252]) (rest := [.ref h0]) hx hb hml hown hw (m_X10_isWord l D cI cJ cB cP cM cZ h0 F2 x_token x_number x_word 6385252 _ n16 i_x_token n17 n18 (by omega)) wV_X10_225_X10_isWord dX10_behind__29 hK hP hD hS hA [3] [0, 1, 2] rfl rfl (by decide) (by decide) (by decide) 0 10 rfl rfl GG.fb hG.at hl.1 rfl (Nat.le_of_ble_eq_true rfl) ⟨(Nat.le_of_ble_eq_true rfl), (Nat.le_of_ble_eq_true rfl)⟩ ⟨(Nat.le_of_ble_eq_true rfl), (Nat.le_of_ble_eq_true rfl)⟩ (fun r427 u H locs hp hP hD hS => ?_)
      obtain ⟨t428, t429, rfl⟩ := hp
      have hP : va_P D vwCl [(h_tape, .inl (cB, 940, .inl f_tape)), (h_read, .inl (cI, 135, .inl g6)), (h_stack, .inl (cI, 45, .inl f_stack)), (h0, .inr (10, vL 67 F2))] H := hP
      have hD : va_D A [(h_tape, .inl (cB, 940, .inl f_tape)), (h_read, .inl (cI, 135, .inl g6)), (h_stack, .inl (cI, 45, .inl f_stack)), (h0, .inr (10, vL 67 F2))] := hD
      refine W.widen (k := 0) (n := 0) (Nat.le_of_ble_eq_true rfl) (Nat.le_of_ble_eq_true rfl) ?_
      replace t429 := (isw (k := 15) (a := 1111) z_2 t429 (by decide) (by decide +kernel) (by decide +kernel) (by decide +kernel) (by decide +kernel))
      refine lv_if_eq (tgt := 40) hx hb dX10_behind__32 (by decide) (fun c431 => ?_) (fun c431 => ?_)
      · have dc431 : r427.toInt = 0 := eq_i (a := r427.toInt) (b := 0) rfl rfl c431
        have k432 : 0 ≤ r427.toInt ∧ r427.toInt ≤ 0 := ⟨t428.1, Int.le_trans (Int.le_of_eq dc431) (Int.le_refl _)⟩
        refine lv_bipush (v := 22) hx hb dX10_behind__40 (by decide) ?_
        have n433 : F2 8 = .ref h_read := (SAME.at t7 (by decide) e_read)
        have n434 : F2 57 = .ref h_stack := (SAME.at t7 (by decide) e_stack)
        have n435 : F2 59 = .int x_ones := (SAME.at t7 (by decide) e_ones)
        have n436 : F2 62 = .int x_isWhole := (SAME.at t7 (by decide) e_isWhole)
        refine call_Vv (wr := [(h_tape, .inl (cB, 940, .inl f_tape))]) (As := [.int 22]) (rest := []) hx hb hml hown hw (m_X10_joins l D cI cJ cB cP cM cZ h0 h_read h_stack F2 y3 x_ones y4 x_isWhole g6 f_stack 22 _ n433 n434 t8 t9 n435 i_x_ones t10 t11 n436 i_x_isWhole (by omega) (SMI.w t13 (by omega)) (by omega)) wV_X10_466_X10_joins dX10_behind__42 hK hP hD hS hA [3, 1, 2] [0] rfl rfl (by decide) (by decide) (by decide) 0 10 rfl rfl GG.fb hG.at hl.1 rfl (Nat.le_of_ble_eq_true rfl) ⟨(Nat.le_of_ble_eq_true rfl), (Nat.le_of_ble_eq_true rfl)⟩ ⟨(Nat.le_of_ble_eq_true rfl), (Nat.le_of_ble_eq_true rfl)⟩ (fun u H locs hp hP hD hS => ?_)
        have zl22 : (22 : Int32).toInt = 22 := by decide
        obtain ⟨F438, y439, y440, g441, t442, t443, t444, t445, t446, t447, t448, t449, rfl⟩ := hp
        have hP : va_P D vwCl [(h_tape, .inl (cB, 940, .inl f_tape)), (h0, .inr (10, vL 67 F438)), (h_read, .inl (cI, 135, .inl g441)), (h_stack, .inl (cI, 45, .inl f_stack))] H := hP
        have hD : va_D A [(h_tape, .inl (cB, 940, .inl f_tape)), (h0, .inr (10, vL 67 F438)), (h_read, .inl (cI, 135, .inl g441)), (h_stack, .inl (cI, 45, .inl f_stack))] := hD
        refine W.widen (k := 0) (n := 0) (Nat.le_of_ble_eq_true rfl) (Nat.le_of_ble_eq_true rfl) ?_
        refine lv_aload_n hx hb dX10_behind__45 rfl (lv_at hl 0 rfl) ?_
        have n451 : F438 57 = .ref h_stack := (SAME.at t442 (by decide) n434)
        refine get_f (D := D) (ci := 10) (v := .ref h_stack) (C := RX10) (T := TX10) (N := 67) hx hb hw inAX10 hown hK hP 1 rfl rfl 57 (by decide) (hw _ q_1318) (fun _ h9 => h9) n451 dX10_behind__46 ?_
        refine lv_aload_n hx hb dX10_behind__49 rfl (lv_at hl 0 rfl) ?_
        refine get_f (D := D) (ci := 10) (v := .int y440) (C := RX10) (T := TX10) (N := 67) hx hb hw inAX10 hown hK hP 1 rfl rfl 60 (by decide) (hw _ q_1321) (fun _ h9 => h9) t445 dX10_behind__50 ?_
        refine lv_aload_n hx hb dX10_behind__53 rfl (lv_at hl 0 rfl) ?_
        refine lv_ldc2 hx hb hown (hw _ q_1249) dX10_behind__54 ?_
        have n452 : F438 11 = .int x_token := (SAME.at t442 (by decide) n16)
        have n453 : F438 14 = .int x_number := (SAME.at t442 (by decide) n17)
        have n454 : F438 18 = .long x_word := (SAME.at t442 (by decide) n18)
        refine call_Vi (wr := [(h_tape, .inl (cB, 940, .inl f_tape)), (h_read, .inl (cI, 135, .inl g441)), (h_stack, .inl (cI, 45, .inl f_stack))]) (As := [.long 6385252]) (rest := [.int y440, .ref h_stack]) hx hb hml hown hw (m_X10_isWord l D cI cJ cB cP cM cZ h0 F438 x_token x_number x_word 6385252 _ n452 i_x_token n453 n454 (by omega)) wV_X10_225_X10_isWord dX10_behind__57 hK hP hD hS hA [1] [0, 2, 3] rfl rfl (by decide) (by decide) (by decide) 0 10 rfl rfl GG.fb hG.at hl.1 rfl (Nat.le_of_ble_eq_true rfl) ⟨(Nat.le_of_ble_eq_true rfl), (Nat.le_of_ble_eq_true rfl)⟩ ⟨(Nat.le_of_ble_eq_true rfl), (Nat.le_of_ble_eq_true rfl)⟩ (fun r455 u H locs hp hP hD hS => ?_)
        obtain ⟨t456, t457, rfl⟩ := hp
        have hP : va_P D vwCl [(h_tape, .inl (cB, 940, .inl f_tape)), (h_read, .inl (cI, 135, .inl g441)), (h_stack, .inl (cI, 45, .inl f_stack)), (h0, .inr (10, vL 67 F438))] H := hP
        have hD : va_D A [(h_tape, .inl (cB, 940, .inl f_tape)), (h_read, .inl (cI, 135, .inl g441)), (h_stack, .inl (cI, 45, .inl f_stack)), (h0, .inr (10, vL 67 F438))] := hD
        refine W.widen (k := 0) (n := 0) (Nat.le_of_ble_eq_true rfl) (Nat.le_of_ble_eq_true rfl) ?_
        replace t457 := (isw (k := 15) (a := 1111) z_2 t457 (by decide) (by decide +kernel) (by decide +kernel) (by decide +kernel) (by decide +kernel))
        refine lv_if_eq (tgt := 68) hx hb dX10_behind__60 (by decide) (fun c459 => ?_) (fun c459 => ?_)
        · have dc459 : r455.toInt = 0 := eq_i (a := r455.toInt) (b := 0) rfl rfl c459
          have k460 : 0 ≤ r455.toInt ∧ r455.toInt ≤ 0 := ⟨t456.1, Int.le_trans (Int.le_of_eq dc459) (Int.le_refl _)⟩
          refine lv_bipush (v := 22) hx hb dX10_behind__68 (by decide) ?_
          obtain ⟨g461, eg461⟩ : ∃ z : Nat → Int32, upd f_stack y440.toNatClampNeg 22 = z := ⟨_, rfl⟩
          refine iast_g hx hb hK hP hD hS 2 0 rfl rfl (ix_i (by omega) (by omega)) eg461 dX10_behind__70 (fun H locs hP hD hS => ?_)
          have hP : va_P D vwCl [(h_tape, .inl (cB, 940, .inl f_tape)), (h_read, .inl (cI, 135, .inl g441)), (h_stack, .inl (cI, 45, .inl g461)), (h0, .inr (10, vL 67 F438))] H := hP
          have hD : va_D A [(h_tape, .inl (cB, 940, .inl f_tape)), (h_read, .inl (cI, 135, .inl g441)), (h_stack, .inl (cI, 45, .inl g461)), (h0, .inr (10, vL 67 F438))] := hD
          refine lv_aload_n hx hb dX10_behind__71 rfl (lv_at hl 0 rfl) ?_
          refine lv_dup hx hb dX10_behind__72 rfl ?_
          refine get_f (D := D) (ci := 10) (v := .int y440) (C := RX10) (T := TX10) (N := 67) hx hb hw inAX10 hown hK hP 3 rfl rfl 60 (by decide) (hw _ q_1321) (fun _ h9 => h9) t445 dX10_behind__73 ?_
          refine lv_iconst (v := 1) hx hb dX10_behind__76 (by decide) ?_
          refine lv_iadd hx hb dX10_behind__77 ?_
          refine lv_topi (fun v462 ev462 => ?_)
          have bv462 : v462.toInt = y440.toInt + 1 := by rw [ev462]; exact add_k rfl rfl t446 ⟨Int.le_refl _, Int.le_refl _⟩ (by decide)
          have k463 : 1 ≤ v462.toInt ∧ v462.toInt ≤ 46 := add_r bv462 t446 ⟨Int.le_refl _, Int.le_refl _⟩ (by decide)
          refine put_f (D := D) (ci := 10) (v := .int v462) (ty := .int) (C := RX10) (T := TX10) (N := 67) hx hb hw inAX10 tyX10 tyX10_ok nmX10 hown hK hP hD hS 3 rfl rfl 60 (by decide) (hw _ q_1321) (fun _ h9 => h9) rfl (by decide +kernel) rfl rfl dX10_behind__78 (fun H locs F464 eF464 hP hD hS => ?_)
          have hP : va_P D vwCl [(h_tape, .inl (cB, 940, .inl f_tape)), (h_read, .inl (cI, 135, .inl g441)), (h_stack, .inl (cI, 45, .inl g461)), (h0, .inr (10, vL 67 F464))] H := hP
          have hD : va_D A [(h_tape, .inl (cB, 940, .inl f_tape)), (h_read, .inl (cI, 135, .inl g441)), (h_stack, .inl (cI, 45, .inl g461)), (h0, .inr (10, vL 67 F464))] := hD
          refine lv_aload_n hx hb dX10_behind__81 rfl (lv_at hl 0 rfl) ?_
          refine lv_iconst (v := 0) hx hb dX10_behind__82 (by decide) ?_
          refine put_f (D := D) (ci := 10) (v := .int 0) (ty := .boolean) (C := RX10) (T := TX10) (N := 67) hx hb hw inAX10 tyX10 tyX10_ok nmX10 hown hK hP hD hS 3 rfl rfl 62 (by decide) (hw _ q_1323) (fun _ h9 => h9) rfl (by decide +kernel) rfl rfl dX10_behind__83 (fun H locs F465 eF465 hP hD hS => ?_)
          have hP : va_P D vwCl [(h_tape, .inl (cB, 940, .inl f_tape)), (h_read, .inl (cI, 135, .inl g441)), (h_stack, .inl (cI, 45, .inl g461)), (h0, .inr (10, vL 67 F465))] H := hP
          have hD : va_D A [(h_tape, .inl (cB, 940, .inl f_tape)), (h_read, .inl (cI, 135, .inl g441)), (h_stack, .inl (cI, 45, .inl g461)), (h0, .inr (10, vL 67 F465))] := hD
          refine lv_aload_n hx hb dX10_behind__86 rfl (lv_at hl 0 rfl) ?_
          have n466 : F2 1 = .ref h_tape := (SAME.at t7 (by decide) e_tape)
          have n467 : F438 1 = .ref h_tape := (SAME.at t442 (by decide) n466)
          have n468 : F464 1 = .ref h_tape := (get_ne eF464 (by decide) n467)
          have n469 : F465 1 = .ref h_tape := (get_ne eF465 (by decide) n468)
          have n470 : F2 3 = .int x_size := (SAME.at t7 (by decide) e_size)
          have n471 : F438 3 = .int x_size := (SAME.at t442 (by decide) n470)
          have n472 : F464 3 = .int x_size := (get_ne eF464 (by decide) n471)
          have n473 : F465 3 = .int x_size := (get_ne eF465 (by decide) n472)
          have n474 : F2 4 = .int x_p := (SAME.at t7 (by decide) e_p)
          have n475 : F438 4 = .int x_p := (SAME.at t442 (by decide) n474)
          have n476 : F464 4 = .int x_p := (get_ne eF464 (by decide) n475)
          have n477 : F465 4 = .int x_p := (get_ne eF465 (by decide) n476)
          have n478 : F2 5 = .int x_limit := (SAME.at t7 (by decide) e_limit)
          have n479 : F438 5 = .int x_limit := (SAME.at t442 (by decide) n478)
          have n480 : F464 5 = .int x_limit := (get_ne eF464 (by decide) n479)
          have n481 : F465 5 = .int x_limit := (get_ne eF465 (by decide) n480)
          have n482 : F464 11 = .int x_token := (get_ne eF464 (by decide) n452)
          have n483 : F465 11 = .int x_token := (get_ne eF465 (by decide) n482)
          have n484 : F2 12 = .int x_at := (SAME.at t7 (by decide) e_at)
          have n485 : F438 12 = .int x_at := (SAME.at t442 (by decide) n484)
          have n486 : F464 12 = .int x_at := (get_ne eF464 (by decide) n485)
          have n487 : F465 12 = .int x_at := (get_ne eF465 (by decide) n486)
          have n488 : F464 14 = .int x_number := (get_ne eF464 (by decide) n453)
          have n489 : F465 14 = .int x_number := (get_ne eF465 (by decide) n488)
          have n490 : F464 18 = .long x_word := (get_ne eF464 (by decide) n454)
          have n491 : F465 18 = .long x_word := (get_ne eF465 (by decide) n490)
          refine call_Vv (wr := [(h_read, .inl (cI, 135, .inl g441)), (h_stack, .inl (cI, 45, .inl g461))]) (As := []) (rest := []) hx hb hml hown hw (m_X10_next l D cI cJ cB cP cM cZ h0 h_tape F465 x_size x_p x_limit x_token x_at x_number x_word f_tape _ n469 n473 i_x_size n477 i_x_p n481 i_x_limit n483 i_x_token n487 n489 n491 (by omega)) wV_X10_208_X10_next dX10_behind__87 hK hP hD hS hA [3, 0] [1, 2] rfl rfl (by decide) (by decide) (by decide) 0 10 rfl rfl GG.fb hG.at hl.1 rfl (Nat.le_of_ble_eq_true rfl) ⟨(Nat.le_of_ble_eq_true rfl), (Nat.le_of_ble_eq_true rfl)⟩ ⟨(Nat.le_of_ble_eq_true rfl), (Nat.le_of_ble_eq_true rfl)⟩ (fun u H locs hp hP hD hS => ?_)
          obtain ⟨F493, y494, y495, y496, y497, y498, y499, t500, t501, t502, t503, t504, t505, t506, t507, t508, t509, t510, t511, t512, t513, t514, t515, rfl⟩ := hp
          have hP : va_P D vwCl [(h_read, .inl (cI, 135, .inl g441)), (h_stack, .inl (cI, 45, .inl g461)), (h0, .inr (10, vL 67 F493)), (h_tape, .inl (cB, 940, .inl f_tape))] H := hP
          have hD : va_D A [(h_read, .inl (cI, 135, .inl g441)), (h_stack, .inl (cI, 45, .inl g461)), (h0, .inr (10, vL 67 F493)), (h_tape, .inl (cB, 940, .inl f_tape))] := hD
          refine W.widen (k := 0) (n := 0) (Nat.le_of_ble_eq_true rfl) (Nat.le_of_ble_eq_true rfl) ?_
          refine lv_iconst (v := 1) hx hb dX10_behind__90 (by decide) ?_
          exact ret_i (v := 1) hx hb hr hlocks hS (hP.sub (ws' := [(h0, .inr (10, vL 67 F493)), (h_tape, .inl (cB, 940, .inl f_tape)), (h_read, .inl (cI, 135, .inl g441)), (h_stack, .inl (cI, 45, .inl g461))]) [2, 3, 0, 1] rfl) (hD.sub (ws' := [(h0, .inr (10, vL 67 F493)), (h_tape, .inl (cB, 940, .inl f_tape)), (h_read, .inl (cI, 135, .inl g441)), (h_stack, .inl (cI, 45, .inl g461))]) [2, 3, 0, 1] (by decide) rfl) dX10_behind__91 rfl (Nat.le_of_ble_eq_true rfl) (Nat.le_of_ble_eq_true rfl) ⟨F493, y494, y495, y496, y497, y498, x_fault, x_faultAt, y499, y439, v462, y5, 0, g441, g461, (SAME.tr (SAME.up eF465 (SAME.up eF464 (SAME.tr (SAME.tr SAME.rf t7 (by decide)) t442 (by decide)) (by decide)) (by decide)) t500 (by decide)), t501, t502, t503, t504, t505, t507, t509, (SAME.at t500 (by decide) (get_ne eF465 (by decide) (get_ne eF464 (by decide) (SAME.at t442 (by decide) (SAME.at t7 (by decide) e_fault))))), (SAME.at t500 (by decide) (get_ne eF465 (by decide) (get_ne eF464 (by decide) (SAME.at t442 (by decide) (SAME.at t7 (by decide) e_faultAt))))), t510, (SAME.at t500 (by decide) (get_ne eF465 (by decide) (get_ne eF464 (by decide) t443))), t444, (SAME.at t500 (by decide) (get_ne eF465 (by decide) (get_eq eF464))), (show 0 ≤ v462.toInt ∧ v462.toInt ≤ 45 from ⟨by omega, by omega⟩), (SAME.at t500 (by decide) (get_ne eF465 (by decide) (get_ne eF464 (by decide) (SAME.at t442 (by decide) t12)))), (SAME.at t500 (by decide) (get_eq eF465)), (show 0 ≤ (0 : Int32).toInt ∧ (0 : Int32).toInt ≤ 1 by decide), (show 0 ≤ (1 : Int32).toInt ∧ (1 : Int32).toInt ≤ 1 by decide), (by have zl0 : (0 : Int32).toInt = 0 := (by decide); have zl1 : (1 : Int32).toInt = 1 := (by decide); omega), (fun _ => SMI.w (SMI.pushb t447 eg461 (by omega) (by decide) (by omega)) (by decide)), (fun _ => t514), (by have zl0 : (0 : Int32).toInt = 0 := (by decide); omega), (by have zl0 : (0 : Int32).toInt = 0 := (by decide); omega), rfl⟩
        · have dc459 : r455.toInt ≠ 0 := ne_i (a := r455.toInt) (b := 0) rfl rfl c459
          have k517 : 1 ≤ r455.toInt ∧ r455.toInt ≤ 1 := ⟨ne_lo dc459 t456.1 ⟨Int.le_refl _, Int.le_refl _⟩ (by decide), t456.2⟩
          refine lv_bipush (v := 21) hx hb dX10_behind__63 (by decide) ?_
          refine lv_goto (tgt := 70) hx hb dX10_behind__65 (by decide) ?_
          obtain ⟨g518, eg518⟩ : ∃ z : Nat → Int32, upd f_stack y440.toNatClampNeg 21 = z := ⟨_, rfl⟩
          refine iast_g hx hb hK hP hD hS 2 0 rfl rfl (ix_i (by omega) (by omega)) eg518 dX10_behind__70 (fun H locs hP hD hS => ?_)
          have hP : va_P D vwCl [(h_tape, .inl (cB, 940, .inl f_tape)), (h_read, .inl (cI, 135, .inl g441)), (h_stack, .inl (cI, 45, .inl g518)), (h0, .inr (10, vL 67 F438))] H := hP
          have hD : va_D A [(h_tape, .inl (cB, 940, .inl f_tape)), (h_read, .inl (cI, 135, .inl g441)), (h_stack, .inl (cI, 45, .inl g518)), (h0, .inr (10, vL 67 F438))] := hD
          refine lv_aload_n hx hb dX10_behind__71 rfl (lv_at hl 0 rfl) ?_
          refine lv_dup hx hb dX10_behind__72 rfl ?_
          refine get_f (D := D) (ci := 10) (v := .int y440) (C := RX10) (T := TX10) (N := 67) hx hb hw inAX10 hown hK hP 3 rfl rfl 60 (by decide) (hw _ q_1321) (fun _ h9 => h9) t445 dX10_behind__73 ?_
          refine lv_iconst (v := 1) hx hb dX10_behind__76 (by decide) ?_
          refine lv_iadd hx hb dX10_behind__77 ?_
          refine lv_topi (fun v519 ev519 => ?_)
          have bv519 : v519.toInt = y440.toInt + 1 := by rw [ev519]; exact add_k rfl rfl t446 ⟨Int.le_refl _, Int.le_refl _⟩ (by decide)
          have k520 : 1 ≤ v519.toInt ∧ v519.toInt ≤ 46 := add_r bv519 t446 ⟨Int.le_refl _, Int.le_refl _⟩ (by decide)
          refine put_f (D := D) (ci := 10) (v := .int v519) (ty := .int) (C := RX10) (T := TX10) (N := 67) hx hb hw inAX10 tyX10 tyX10_ok nmX10 hown hK hP hD hS 3 rfl rfl 60 (by decide) (hw _ q_1321) (fun _ h9 => h9) rfl (by decide +kernel) rfl rfl dX10_behind__78 (fun H locs F521 eF521 hP hD hS => ?_)
          have hP : va_P D vwCl [(h_tape, .inl (cB, 940, .inl f_tape)), (h_read, .inl (cI, 135, .inl g441)), (h_stack, .inl (cI, 45, .inl g518)), (h0, .inr (10, vL 67 F521))] H := hP
          have hD : va_D A [(h_tape, .inl (cB, 940, .inl f_tape)), (h_read, .inl (cI, 135, .inl g441)), (h_stack, .inl (cI, 45, .inl g518)), (h0, .inr (10, vL 67 F521))] := hD
          refine lv_aload_n hx hb dX10_behind__81 rfl (lv_at hl 0 rfl) ?_
          refine lv_iconst (v := 0) hx hb dX10_behind__82 (by decide) ?_
          refine put_f (D := D) (ci := 10) (v := .int 0) (ty := .boolean) (C := RX10) (T := TX10) (N := 67) hx hb hw inAX10 tyX10 tyX10_ok nmX10 hown hK hP hD hS 3 rfl rfl 62 (by decide) (hw _ q_1323) (fun _ h9 => h9) rfl (by decide +kernel) rfl rfl dX10_behind__83 (fun H locs F522 eF522 hP hD hS => ?_)
          have hP : va_P D vwCl [(h_tape, .inl (cB, 940, .inl f_tape)), (h_read, .inl (cI, 135, .inl g441)), (h_stack, .inl (cI, 45, .inl g518)), (h0, .inr (10, vL 67 F522))] H := hP
          have hD : va_D A [(h_tape, .inl (cB, 940, .inl f_tape)), (h_read, .inl (cI, 135, .inl g441)), (h_stack, .inl (cI, 45, .inl g518)), (h0, .inr (10, vL 67 F522))] := hD
          refine lv_aload_n hx hb dX10_behind__86 rfl (lv_at hl 0 rfl) ?_
          have n523 : F2 1 = .ref h_tape := (SAME.at t7 (by decide) e_tape)
          have n524 : F438 1 = .ref h_tape := (SAME.at t442 (by decide) n523)
          have n525 : F521 1 = .ref h_tape := (get_ne eF521 (by decide) n524)
          have n526 : F522 1 = .ref h_tape := (get_ne eF522 (by decide) n525)
          have n527 : F2 3 = .int x_size := (SAME.at t7 (by decide) e_size)
          have n528 : F438 3 = .int x_size := (SAME.at t442 (by decide) n527)
          have n529 : F521 3 = .int x_size := (get_ne eF521 (by decide) n528)
          have n530 : F522 3 = .int x_size := (get_ne eF522 (by decide) n529)
          have n531 : F2 4 = .int x_p := (SAME.at t7 (by decide) e_p)
          have n532 : F438 4 = .int x_p := (SAME.at t442 (by decide) n531)
          have n533 : F521 4 = .int x_p := (get_ne eF521 (by decide) n532)
          have n534 : F522 4 = .int x_p := (get_ne eF522 (by decide) n533)
          have n535 : F2 5 = .int x_limit := (SAME.at t7 (by decide) e_limit)
          have n536 : F438 5 = .int x_limit := (SAME.at t442 (by decide) n535)
          have n537 : F521 5 = .int x_limit := (get_ne eF521 (by decide) n536)
          have n538 : F522 5 = .int x_limit := (get_ne eF522 (by decide) n537)
          have n539 : F521 11 = .int x_token := (get_ne eF521 (by decide) n452)
          have n540 : F522 11 = .int x_token := (get_ne eF522 (by decide) n539)
          have n541 : F2 12 = .int x_at := (SAME.at t7 (by decide) e_at)
          have n542 : F438 12 = .int x_at := (SAME.at t442 (by decide) n541)
          have n543 : F521 12 = .int x_at := (get_ne eF521 (by decide) n542)
          have n544 : F522 12 = .int x_at := (get_ne eF522 (by decide) n543)
          have n545 : F521 14 = .int x_number := (get_ne eF521 (by decide) n453)
          have n546 : F522 14 = .int x_number := (get_ne eF522 (by decide) n545)
          have n547 : F521 18 = .long x_word := (get_ne eF521 (by decide) n454)
          have n548 : F522 18 = .long x_word := (get_ne eF522 (by decide) n547)
          refine call_Vv (wr := [(h_read, .inl (cI, 135, .inl g441)), (h_stack, .inl (cI, 45, .inl g518))]) (As := []) (rest := []) hx hb hml hown hw (m_X10_next l D cI cJ cB cP cM cZ h0 h_tape F522 x_size x_p x_limit x_token x_at x_number x_word f_tape _ n526 n530 i_x_size n534 i_x_p n538 i_x_limit n540 i_x_token n544 n546 n548 (by omega)) wV_X10_208_X10_next dX10_behind__87 hK hP hD hS hA [3, 0] [1, 2] rfl rfl (by decide) (by decide) (by decide) 0 10 rfl rfl GG.fb hG.at hl.1 rfl (Nat.le_of_ble_eq_true rfl) ⟨(Nat.le_of_ble_eq_true rfl), (Nat.le_of_ble_eq_true rfl)⟩ ⟨(Nat.le_of_ble_eq_true rfl), (Nat.le_of_ble_eq_true rfl)⟩ (fun u H locs hp hP hD hS => ?_)
          obtain ⟨F550, y551, y552, y553, y554, y555, y556, t557, t558, t559, t560, t561, t562, t563, t564, t565, t566, t567, t568, t569, t570, t571, t572, rfl⟩ := hp
          have hP : va_P D vwCl [(h_read, .inl (cI, 135, .inl g441)), (h_stack, .inl (cI, 45, .inl g518)), (h0, .inr (10, vL 67 F550)), (h_tape, .inl (cB, 940, .inl f_tape))] H := hP
          have hD : va_D A [(h_read, .inl (cI, 135, .inl g441)), (h_stack, .inl (cI, 45, .inl g518)), (h0, .inr (10, vL 67 F550)), (h_tape, .inl (cB, 940, .inl f_tape))] := hD
          refine W.widen (k := 0) (n := 0) (Nat.le_of_ble_eq_true rfl) (Nat.le_of_ble_eq_true rfl) ?_
          refine lv_iconst (v := 1) hx hb dX10_behind__90 (by decide) ?_
          exact ret_i (v := 1) hx hb hr hlocks hS (hP.sub (ws' := [(h0, .inr (10, vL 67 F550)), (h_tape, .inl (cB, 940, .inl f_tape)), (h_read, .inl (cI, 135, .inl g441)), (h_stack, .inl (cI, 45, .inl g518))]) [2, 3, 0, 1] rfl) (hD.sub (ws' := [(h0, .inr (10, vL 67 F550)), (h_tape, .inl (cB, 940, .inl f_tape)), (h_read, .inl (cI, 135, .inl g441)), (h_stack, .inl (cI, 45, .inl g518))]) [2, 3, 0, 1] (by decide) rfl) dX10_behind__91 rfl (Nat.le_of_ble_eq_true rfl) (Nat.le_of_ble_eq_true rfl) ⟨F550, y551, y552, y553, y554, y555, x_fault, x_faultAt, y556, y439, v519, y5, 0, g441, g518, (SAME.tr (SAME.up eF522 (SAME.up eF521 (SAME.tr (SAME.tr SAME.rf t7 (by decide)) t442 (by decide)) (by decide)) (by decide)) t557 (by decide)), t558, t559, t560, t561, t562, t564, t566, (SAME.at t557 (by decide) (get_ne eF522 (by decide) (get_ne eF521 (by decide) (SAME.at t442 (by decide) (SAME.at t7 (by decide) e_fault))))), (SAME.at t557 (by decide) (get_ne eF522 (by decide) (get_ne eF521 (by decide) (SAME.at t442 (by decide) (SAME.at t7 (by decide) e_faultAt))))), t567, (SAME.at t557 (by decide) (get_ne eF522 (by decide) (get_ne eF521 (by decide) t443))), t444, (SAME.at t557 (by decide) (get_ne eF522 (by decide) (get_eq eF521))), (show 0 ≤ v519.toInt ∧ v519.toInt ≤ 45 from ⟨by omega, by omega⟩), (SAME.at t557 (by decide) (get_ne eF522 (by decide) (get_ne eF521 (by decide) (SAME.at t442 (by decide) t12)))), (SAME.at t557 (by decide) (get_eq eF522)), (show 0 ≤ (0 : Int32).toInt ∧ (0 : Int32).toInt ≤ 1 by decide), (show 0 ≤ (1 : Int32).toInt ∧ (1 : Int32).toInt ≤ 1 by decide), (by have zl0 : (0 : Int32).toInt = 0 := (by decide); have zl1 : (1 : Int32).toInt = 1 := (by decide); omega), (fun _ => SMI.w (SMI.pushb t447 eg518 (by omega) (by decide) (by omega)) (by decide)), (fun _ => t571), (by have zl0 : (0 : Int32).toInt = 0 := (by decide); omega), (by have zl0 : (0 : Int32).toInt = 0 := (by decide); omega), rfl⟩
      · have dc431 : r427.toInt ≠ 0 := ne_i (a := r427.toInt) (b := 0) rfl rfl c431
        have k574 : 1 ≤ r427.toInt ∧ r427.toInt ≤ 1 := ⟨ne_lo dc431 t428.1 ⟨Int.le_refl _, Int.le_refl _⟩ (by decide), t428.2⟩
        refine lv_bipush (v := 21) hx hb dX10_behind__35 (by decide) ?_
        refine lv_goto (tgt := 42) hx hb dX10_behind__37 (by decide) ?_
        have n575 : F2 8 = .ref h_read := (SAME.at t7 (by decide) e_read)
        have n576 : F2 57 = .ref h_stack := (SAME.at t7 (by decide) e_stack)
        have n577 : F2 59 = .int x_ones := (SAME.at t7 (by decide) e_ones)
        have n578 : F2 62 = .int x_isWhole := (SAME.at t7 (by decide) e_isWhole)
        refine call_Vv (wr := [(h_tape, .inl (cB, 940, .inl f_tape))]) (As := [.int 21]) (rest := []) hx hb hml hown hw (m_X10_joins l D cI cJ cB cP cM cZ h0 h_read h_stack F2 y3 x_ones y4 x_isWhole g6 f_stack 21 _ n575 n576 t8 t9 n577 i_x_ones t10 t11 n578 i_x_isWhole (by omega) (SMI.w t13 (by omega)) (by omega)) wV_X10_466_X10_joins dX10_behind__42 hK hP hD hS hA [3, 1, 2] [0] rfl rfl (by decide) (by decide) (by decide) 0 10 rfl rfl GG.fb hG.at hl.1 rfl (Nat.le_of_ble_eq_true rfl) ⟨(Nat.le_of_ble_eq_true rfl), (Nat.le_of_ble_eq_true rfl)⟩ ⟨(Nat.le_of_ble_eq_true rfl), (Nat.le_of_ble_eq_true rfl)⟩ (fun u H locs hp hP hD hS => ?_)
        have zl21 : (21 : Int32).toInt = 21 := by decide
        obtain ⟨F580, y581, y582, g583, t584, t585, t586, t587, t588, t589, t590, t591, rfl⟩ := hp
        have hP : va_P D vwCl [(h_tape, .inl (cB, 940, .inl f_tape)), (h0, .inr (10, vL 67 F580)), (h_read, .inl (cI, 135, .inl g583)), (h_stack, .inl (cI, 45, .inl f_stack))] H := hP
        have hD : va_D A [(h_tape, .inl (cB, 940, .inl f_tape)), (h0, .inr (10, vL 67 F580)), (h_read, .inl (cI, 135, .inl g583)), (h_stack, .inl (cI, 45, .inl f_stack))] := hD
        refine W.widen (k := 0) (n := 0) (Nat.le_of_ble_eq_true rfl) (Nat.le_of_ble_eq_true rfl) ?_
        refine lv_aload_n hx hb dX10_behind__45 rfl (lv_at hl 0 rfl) ?_
        have n593 : F580 57 = .ref h_stack := (SAME.at t584 (by decide) n576)
        refine get_f (D := D) (ci := 10) (v := .ref h_stack) (C := RX10) (T := TX10) (N := 67) hx hb hw inAX10 hown hK hP 1 rfl rfl 57 (by decide) (hw _ q_1318) (fun _ h9 => h9) n593 dX10_behind__46 ?_
        refine lv_aload_n hx hb dX10_behind__49 rfl (lv_at hl 0 rfl) ?_
        refine get_f (D := D) (ci := 10) (v := .int y582) (C := RX10) (T := TX10) (N := 67) hx hb hw inAX10 hown hK hP 1 rfl rfl 60 (by decide) (hw _ q_1321) (fun _ h9 => h9) t587 dX10_behind__50 ?_
        refine lv_aload_n hx hb dX10_behind__53 rfl (lv_at hl 0 rfl) ?_
        refine lv_ldc2 hx hb hown (hw _ q_1249) dX10_behind__54 ?_
        have n594 : F580 11 = .int x_token := (SAME.at t584 (by decide) n16)
        have n595 : F580 14 = .int x_number := (SAME.at t584 (by decide) n17)
        have n596 : F580 18 = .long x_word := (SAME.at t584 (by decide) n18)
        refine call_Vi (wr := [(h_tape, .inl (cB, 940, .inl f_tape)), (h_read, .inl (cI, 135, .inl g583)), (h_stack, .inl (cI, 45, .inl f_stack))]) (As := [.long 6385252]) (rest := [.int y582, .ref h_stack]) hx hb hml hown hw (m_X10_isWord l D cI cJ cB cP cM cZ h0 F580 x_token x_number x_word 6385252 _ n594 i_x_token n595 n596 (by omega)) wV_X10_225_X10_isWord dX10_behind__57 hK hP hD hS hA [1] [0, 2, 3] rfl rfl (by decide) (by decide) (by decide) 0 10 rfl rfl GG.fb hG.at hl.1 rfl (Nat.le_of_ble_eq_true rfl) ⟨(Nat.le_of_ble_eq_true rfl), (Nat.le_of_ble_eq_true rfl)⟩ ⟨(Nat.le_of_ble_eq_true rfl), (Nat.le_of_ble_eq_true rfl)⟩ (fun r597 u H locs hp hP hD hS => ?_)
        obtain ⟨t598, t599, rfl⟩ := hp
        have hP : va_P D vwCl [(h_tape, .inl (cB, 940, .inl f_tape)), (h_read, .inl (cI, 135, .inl g583)), (h_stack, .inl (cI, 45, .inl f_stack)), (h0, .inr (10, vL 67 F580))] H := hP
        have hD : va_D A [(h_tape, .inl (cB, 940, .inl f_tape)), (h_read, .inl (cI, 135, .inl g583)), (h_stack, .inl (cI, 45, .inl f_stack)), (h0, .inr (10, vL 67 F580))] := hD
        refine W.widen (k := 0) (n := 0) (Nat.le_of_ble_eq_true rfl) (Nat.le_of_ble_eq_true rfl) ?_
        replace t599 := (isw (k := 15) (a := 1111) z_2 t599 (by decide) (by decide +kernel) (by decide +kernel) (by decide +kernel) (by decide +kernel))
        refine lv_if_eq (tgt := 68) hx hb dX10_behind__60 (by decide) (fun c601 => ?_) (fun c601 => ?_)
        · have dc601 : r597.toInt = 0 := eq_i (a := r597.toInt) (b := 0) rfl rfl c601
          have k602 : 0 ≤ r597.toInt ∧ r597.toInt ≤ 0 := ⟨t598.1, Int.le_trans (Int.le_of_eq dc601) (Int.le_refl _)⟩
          refine lv_bipush (v := 22) hx hb dX10_behind__68 (by decide) ?_
          obtain ⟨g603, eg603⟩ : ∃ z : Nat → Int32, upd f_stack y582.toNatClampNeg 22 = z := ⟨_, rfl⟩
          refine iast_g hx hb hK hP hD hS 2 0 rfl rfl (ix_i (by omega) (by omega)) eg603 dX10_behind__70 (fun H locs hP hD hS => ?_)
          have hP : va_P D vwCl [(h_tape, .inl (cB, 940, .inl f_tape)), (h_read, .inl (cI, 135, .inl g583)), (h_stack, .inl (cI, 45, .inl g603)), (h0, .inr (10, vL 67 F580))] H := hP
          have hD : va_D A [(h_tape, .inl (cB, 940, .inl f_tape)), (h_read, .inl (cI, 135, .inl g583)), (h_stack, .inl (cI, 45, .inl g603)), (h0, .inr (10, vL 67 F580))] := hD
          refine lv_aload_n hx hb dX10_behind__71 rfl (lv_at hl 0 rfl) ?_
          refine lv_dup hx hb dX10_behind__72 rfl ?_
          refine get_f (D := D) (ci := 10) (v := .int y582) (C := RX10) (T := TX10) (N := 67) hx hb hw inAX10 hown hK hP 3 rfl rfl 60 (by decide) (hw _ q_1321) (fun _ h9 => h9) t587 dX10_behind__73 ?_
          refine lv_iconst (v := 1) hx hb dX10_behind__76 (by decide) ?_
          refine lv_iadd hx hb dX10_behind__77 ?_
          refine lv_topi (fun v604 ev604 => ?_)
          have bv604 : v604.toInt = y582.toInt + 1 := by rw [ev604]; exact add_k rfl rfl t588 ⟨Int.le_refl _, Int.le_refl _⟩ (by decide)
          have k605 : 1 ≤ v604.toInt ∧ v604.toInt ≤ 46 := add_r bv604 t588 ⟨Int.le_refl _, Int.le_refl _⟩ (by decide)
          refine put_f (D := D) (ci := 10) (v := .int v604) (ty := .int) (C := RX10) (T := TX10) (N := 67) hx hb hw inAX10 tyX10 tyX10_ok nmX10 hown hK hP hD hS 3 rfl rfl 60 (by decide) (hw _ q_1321) (fun _ h9 => h9) rfl (by decide +kernel) rfl rfl dX10_behind__78 (fun H locs F606 eF606 hP hD hS => ?_)
          have hP : va_P D vwCl [(h_tape, .inl (cB, 940, .inl f_tape)), (h_read, .inl (cI, 135, .inl g583)), (h_stack, .inl (cI, 45, .inl g603)), (h0, .inr (10, vL 67 F606))] H := hP
          have hD : va_D A [(h_tape, .inl (cB, 940, .inl f_tape)), (h_read, .inl (cI, 135, .inl g583)), (h_stack, .inl (cI, 45, .inl g603)), (h0, .inr (10, vL 67 F606))] := hD
          refine lv_aload_n hx hb dX10_behind__81 rfl (lv_at hl 0 rfl) ?_
          refine lv_iconst (v := 0) hx hb dX10_behind__82 (by decide) ?_
          refine put_f (D := D) (ci := 10) (v := .int 0) (ty := .boolean) (C := RX10) (T := TX10) (N := 67) hx hb hw inAX10 tyX10 tyX10_ok nmX10 hown hK hP hD hS 3 rfl rfl 62 (by decide) (hw _ q_1323) (fun _ h9 => h9) rfl (by decide +kernel) rfl rfl dX10_behind__83 (fun H locs F607 eF607 hP hD hS => ?_)
          have hP : va_P D vwCl [(h_tape, .inl (cB, 940, .inl f_tape)), (h_read, .inl (cI, 135, .inl g583)), (h_stack, .inl (cI, 45, .inl g603)), (h0, .inr (10, vL 67 F607))] H := hP
          have hD : va_D A [(h_tape, .inl (cB, 940, .inl f_tape)), (h_read, .inl (cI, 135, .inl g583)), (h_stack, .inl (cI, 45, .inl g603)), (h0, .inr (10, vL 67 F607))] := hD
          refine lv_aload_n hx hb dX10_behind__86 rfl (lv_at hl 0 rfl) ?_
          have n608 : F2 1 = .ref h_tape := (SAME.at t7 (by decide) e_tape)
          have n609 : F580 1 = .ref h_tape := (SAME.at t584 (by decide) n608)
          have n610 : F606 1 = .ref h_tape := (get_ne eF606 (by decide) n609)
          have n611 : F607 1 = .ref h_tape := (get_ne eF607 (by decide) n610)
          have n612 : F2 3 = .int x_size := (SAME.at t7 (by decide) e_size)
          have n613 : F580 3 = .int x_size := (SAME.at t584 (by decide) n612)
          have n614 : F606 3 = .int x_size := (get_ne eF606 (by decide) n613)
          have n615 : F607 3 = .int x_size := (get_ne eF607 (by decide) n614)
          have n616 : F2 4 = .int x_p := (SAME.at t7 (by decide) e_p)
          have n617 : F580 4 = .int x_p := (SAME.at t584 (by decide) n616)
          have n618 : F606 4 = .int x_p := (get_ne eF606 (by decide) n617)
          have n619 : F607 4 = .int x_p := (get_ne eF607 (by decide) n618)
          have n620 : F2 5 = .int x_limit := (SAME.at t7 (by decide) e_limit)
          have n621 : F580 5 = .int x_limit := (SAME.at t584 (by decide) n620)
          have n622 : F606 5 = .int x_limit := (get_ne eF606 (by decide) n621)
          have n623 : F607 5 = .int x_limit := (get_ne eF607 (by decide) n622)
          have n624 : F606 11 = .int x_token := (get_ne eF606 (by decide) n594)
          have n625 : F607 11 = .int x_token := (get_ne eF607 (by decide) n624)
          have n626 : F2 12 = .int x_at := (SAME.at t7 (by decide) e_at)
          have n627 : F580 12 = .int x_at := (SAME.at t584 (by decide) n626)
          have n628 : F606 12 = .int x_at := (get_ne eF606 (by decide) n627)
          have n629 : F607 12 = .int x_at := (get_ne eF607 (by decide) n628)
          have n630 : F606 14 = .int x_number := (get_ne eF606 (by decide) n595)
          have n631 : F607 14 = .int x_number := (get_ne eF607 (by decide) n630)
          have n632 : F606 18 = .long x_word := (get_ne eF606 (by decide) n596)
          have n633 : F607 18 = .long x_word := (get_ne eF607 (by decide) n632)
          refine call_Vv (wr := [(h_read, .inl (cI, 135, .inl g583)), (h_stack, .inl (cI, 45, .inl g603))]) (As := []) (rest := []) hx hb hml hown hw (m_X10_next l D cI cJ cB cP cM cZ h0 h_tape F607 x_size x_p x_limit x_token x_at x_number x_word f_tape _ n611 n615 i_x_size n619 i_x_p n623 i_x_limit n625 i_x_token n629 n631 n633 (by omega)) wV_X10_208_X10_next dX10_behind__87 hK hP hD hS hA [3, 0] [1, 2] rfl rfl (by decide) (by decide) (by decide) 0 10 rfl rfl GG.fb hG.at hl.1 rfl (Nat.le_of_ble_eq_true rfl) ⟨(Nat.le_of_ble_eq_true rfl), (Nat.le_of_ble_eq_true rfl)⟩ ⟨(Nat.le_of_ble_eq_true rfl), (Nat.le_of_ble_eq_true rfl)⟩ (fun u H locs hp hP hD hS => ?_)
          obtain ⟨F635, y636, y637, y638, y639, y640, y641, t642, t643, t644, t645, t646, t647, t648, t649, t650, t651, t652, t653, t654, t655, t656, t657, rfl⟩ := hp
          have hP : va_P D vwCl [(h_read, .inl (cI, 135, .inl g583)), (h_stack, .inl (cI, 45, .inl g603)), (h0, .inr (10, vL 67 F635)), (h_tape, .inl (cB, 940, .inl f_tape))] H := hP
          have hD : va_D A [(h_read, .inl (cI, 135, .inl g583)), (h_stack, .inl (cI, 45, .inl g603)), (h0, .inr (10, vL 67 F635)), (h_tape, .inl (cB, 940, .inl f_tape))] := hD
          refine W.widen (k := 0) (n := 0) (Nat.le_of_ble_eq_true rfl) (Nat.le_of_ble_eq_true rfl) ?_
          refine lv_iconst (v := 1) hx hb dX10_behind__90 (by decide) ?_
          exact ret_i (v := 1) hx hb hr hlocks hS (hP.sub (ws' := [(h0, .inr (10, vL 67 F635)), (h_tape, .inl (cB, 940, .inl f_tape)), (h_read, .inl (cI, 135, .inl g583)), (h_stack, .inl (cI, 45, .inl g603))]) [2, 3, 0, 1] rfl) (hD.sub (ws' := [(h0, .inr (10, vL 67 F635)), (h_tape, .inl (cB, 940, .inl f_tape)), (h_read, .inl (cI, 135, .inl g583)), (h_stack, .inl (cI, 45, .inl g603))]) [2, 3, 0, 1] (by decide) rfl) dX10_behind__91 rfl (Nat.le_of_ble_eq_true rfl) (Nat.le_of_ble_eq_true rfl) ⟨F635, y636, y637, y638, y639, y640, x_fault, x_faultAt, y641, y581, v604, y5, 0, g583, g603, (SAME.tr (SAME.up eF607 (SAME.up eF606 (SAME.tr (SAME.tr SAME.rf t7 (by decide)) t584 (by decide)) (by decide)) (by decide)) t642 (by decide)), t643, t644, t645, t646, t647, t649, t651, (SAME.at t642 (by decide) (get_ne eF607 (by decide) (get_ne eF606 (by decide) (SAME.at t584 (by decide) (SAME.at t7 (by decide) e_fault))))), (SAME.at t642 (by decide) (get_ne eF607 (by decide) (get_ne eF606 (by decide) (SAME.at t584 (by decide) (SAME.at t7 (by decide) e_faultAt))))), t652, (SAME.at t642 (by decide) (get_ne eF607 (by decide) (get_ne eF606 (by decide) t585))), t586, (SAME.at t642 (by decide) (get_ne eF607 (by decide) (get_eq eF606))), (show 0 ≤ v604.toInt ∧ v604.toInt ≤ 45 from ⟨by omega, by omega⟩), (SAME.at t642 (by decide) (get_ne eF607 (by decide) (get_ne eF606 (by decide) (SAME.at t584 (by decide) t12)))), (SAME.at t642 (by decide) (get_eq eF607)), (show 0 ≤ (0 : Int32).toInt ∧ (0 : Int32).toInt ≤ 1 by decide), (show 0 ≤ (1 : Int32).toInt ∧ (1 : Int32).toInt ≤ 1 by decide), (by have zl0 : (0 : Int32).toInt = 0 := (by decide); have zl1 : (1 : Int32).toInt = 1 := (by decide); omega), (fun _ => SMI.w (SMI.pushb t589 eg603 (by omega) (by decide) (by omega)) (by decide)), (fun _ => t656), (by have zl0 : (0 : Int32).toInt = 0 := (by decide); omega), (by have zl0 : (0 : Int32).toInt = 0 := (by decide); omega), rfl⟩
        · have dc601 : r597.toInt ≠ 0 := ne_i (a := r597.toInt) (b := 0) rfl rfl c601
          have k659 : 1 ≤ r597.toInt ∧ r597.toInt ≤ 1 := ⟨ne_lo dc601 t598.1 ⟨Int.le_refl _, Int.le_refl _⟩ (by decide), t598.2⟩
          refine lv_bipush (v := 21) hx hb dX10_behind__63 (by decide) ?_
          refine lv_goto (tgt := 70) hx hb dX10_behind__65 (by decide) ?_
          obtain ⟨g660, eg660⟩ : ∃ z : Nat → Int32, upd f_stack y582.toNatClampNeg 21 = z := ⟨_, rfl⟩
          refine iast_g hx hb hK hP hD hS 2 0 rfl rfl (ix_i (by omega) (by omega)) eg660 dX10_behind__70 (fun H locs hP hD hS => ?_)
          have hP : va_P D vwCl [(h_tape, .inl (cB, 940, .inl f_tape)), (h_read, .inl (cI, 135, .inl g583)), (h_stack, .inl (cI, 45, .inl g660)), (h0, .inr (10, vL 67 F580))] H := hP
          have hD : va_D A [(h_tape, .inl (cB, 940, .inl f_tape)), (h_read, .inl (cI, 135, .inl g583)), (h_stack, .inl (cI, 45, .inl g660)), (h0, .inr (10, vL 67 F580))] := hD
          refine lv_aload_n hx hb dX10_behind__71 rfl (lv_at hl 0 rfl) ?_
          refine lv_dup hx hb dX10_behind__72 rfl ?_
          refine get_f (D := D) (ci := 10) (v := .int y582) (C := RX10) (T := TX10) (N := 67) hx hb hw inAX10 hown hK hP 3 rfl rfl 60 (by decide) (hw _ q_1321) (fun _ h9 => h9) t587 dX10_behind__73 ?_
          refine lv_iconst (v := 1) hx hb dX10_behind__76 (by decide) ?_
          refine lv_iadd hx hb dX10_behind__77 ?_
          refine lv_topi (fun v661 ev661 => ?_)
          have bv661 : v661.toInt = y582.toInt + 1 := by rw [ev661]; exact add_k rfl rfl t588 ⟨Int.le_refl _, Int.le_refl _⟩ (by decide)
          have k662 : 1 ≤ v661.toInt ∧ v661.toInt ≤ 46 := add_r bv661 t588 ⟨Int.le_refl _, Int.le_refl _⟩ (by decide)
          refine put_f (D := D) (ci := 10) (v := .int v661) (ty := .int) (C := RX10) (T := TX10) (N := 67) hx hb hw inAX10 tyX10 tyX10_ok nmX10 hown hK hP hD hS 3 rfl rfl 60 (by decide) (hw _ q_1321) (fun _ h9 => h9) rfl (by decide +kernel) rfl rfl dX10_behind__78 (fun H locs F663 eF663 hP hD hS => ?_)
          have hP : va_P D vwCl [(h_tape, .inl (cB, 940, .inl f_tape)), (h_read, .inl (cI, 135, .inl g583)), (h_stack, .inl (cI, 45, .inl g660)), (h0, .inr (10, vL 67 F663))] H := hP
          have hD : va_D A [(h_tape, .inl (cB, 940, .inl f_tape)), (h_read, .inl (cI, 135, .inl g583)), (h_stack, .inl (cI, 45, .inl g660)), (h0, .inr (10, vL 67 F663))] := hD
          refine lv_aload_n hx hb dX10_behind__81 rfl (lv_at hl 0 rfl) ?_
          refine lv_iconst (v := 0) hx hb dX10_behind__82 (by decide) ?_
          refine put_f (D := D) (ci := 10) (v := .int 0) (ty := .boolean) (C := RX10) (T := TX10) (N := 67) hx hb hw inAX10 tyX10 tyX10_ok nmX10 hown hK hP hD hS 3 rfl rfl 62 (by decide) (hw _ q_1323) (fun _ h9 => h9) rfl (by decide +kernel) rfl rfl dX10_behind__83 (fun H locs F664 eF664 hP hD hS => ?_)
          have hP : va_P D vwCl [(h_tape, .inl (cB, 940, .inl f_tape)), (h_read, .inl (cI, 135, .inl g583)), (h_stack, .inl (cI, 45, .inl g660)), (h0, .inr (10, vL 67 F664))] H := hP
          have hD : va_D A [(h_tape, .inl (cB, 940, .inl f_tape)), (h_read, .inl (cI, 135, .inl g583)), (h_stack, .inl (cI, 45, .inl g660)), (h0, .inr (10, vL 67 F664))] := hD
          refine lv_aload_n hx hb dX10_behind__86 rfl (lv_at hl 0 rfl) ?_
          have n665 : F2 1 = .ref h_tape := (SAME.at t7 (by decide) e_tape)
          have n666 : F580 1 = .ref h_tape := (SAME.at t584 (by decide) n665)
          have n667 : F663 1 = .ref h_tape := (get_ne eF663 (by decide) n666)
          have n668 : F664 1 = .ref h_tape := (get_ne eF664 (by decide) n667)
          have n669 : F2 3 = .int x_size := (SAME.at t7 (by decide) e_size)
          have n670 : F580 3 = .int x_size := (SAME.at t584 (by decide) n669)
          have n671 : F663 3 = .int x_size := (get_ne eF663 (by decide) n670)
          have n672 : F664 3 = .int x_size := (get_ne eF664 (by decide) n671)
          have n673 : F2 4 = .int x_p := (SAME.at t7 (by decide) e_p)
          have n674 : F580 4 = .int x_p := (SAME.at t584 (by decide) n673)
          have n675 : F663 4 = .int x_p := (get_ne eF663 (by decide) n674)
          have n676 : F664 4 = .int x_p := (get_ne eF664 (by decide) n675)
          have n677 : F2 5 = .int x_limit := (SAME.at t7 (by decide) e_limit)
          have n678 : F580 5 = .int x_limit := (SAME.at t584 (by decide) n677)
          have n679 : F663 5 = .int x_limit := (get_ne eF663 (by decide) n678)
          have n680 : F664 5 = .int x_limit := (get_ne eF664 (by decide) n679)
          have n681 : F663 11 = .int x_token := (get_ne eF663 (by decide) n594)
          have n682 : F664 11 = .int x_token := (get_ne eF664 (by decide) n681)
          have n683 : F2 12 = .int x_at := (SAME.at t7 (by decide) e_at)
          have n684 : F580 12 = .int x_at := (SAME.at t584 (by decide) n683)
          have n685 : F663 12 = .int x_at := (get_ne eF663 (by decide) n684)
          have n686 : F664 12 = .int x_at := (get_ne eF664 (by decide) n685)
          have n687 : F663 14 = .int x_number := (get_ne eF663 (by decide) n595)
          have n688 : F664 14 = .int x_number := (get_ne eF664 (by decide) n687)
          have n689 : F663 18 = .long x_word := (get_ne eF663 (by decide) n596)
          have n690 : F664 18 = .long x_word := (get_ne eF664 (by decide) n689)
          refine call_Vv (wr := [(h_read, .inl (cI, 135, .inl g583)), (h_stack, .inl (cI, 45, .inl g660))]) (As := []) (rest := []) hx hb hml hown hw (m_X10_next l D cI cJ cB cP cM cZ h0 h_tape F664 x_size x_p x_limit x_token x_at x_number x_word f_tape _ n668 n672 i_x_size n676 i_x_p n680 i_x_limit n682 i_x_token n686 n688 n690 (by omega)) wV_X10_208_X10_next dX10_behind__87 hK hP hD hS hA [3, 0] [1, 2] rfl rfl (by decide) (by decide) (by decide) 0 10 rfl rfl GG.fb hG.at hl.1 rfl (Nat.le_of_ble_eq_true rfl) ⟨(Nat.le_of_ble_eq_true rfl), (Nat.le_of_ble_eq_true rfl)⟩ ⟨(Nat.le_of_ble_eq_true rfl), (Nat.le_of_ble_eq_true rfl)⟩ (fun u H locs hp hP hD hS => ?_)
          obtain ⟨F692, y693, y694, y695, y696, y697, y698, t699, t700, t701, t702, t703, t704, t705, t706, t707, t708, t709, t710, t711, t712, t713, t714, rfl⟩ := hp
          have hP : va_P D vwCl [(h_read, .inl (cI, 135, .inl g583)), (h_stack, .inl (cI, 45, .inl g660)), (h0, .inr (10, vL 67 F692)), (h_tape, .inl (cB, 940, .inl f_tape))] H := hP
          have hD : va_D A [(h_read, .inl (cI, 135, .inl g583)), (h_stack, .inl (cI, 45, .inl g660)), (h0, .inr (10, vL 67 F692)), (h_tape, .inl (cB, 940, .inl f_tape))] := hD
          refine W.widen (k := 0) (n := 0) (Nat.le_of_ble_eq_true rfl) (Nat.le_of_ble_eq_true rfl) ?_
          refine lv_iconst (v := 1) hx hb dX10_behind__90 (by decide) ?_
          exact ret_i (v := 1) hx hb hr hlocks hS (hP.sub (ws' := [(h0, .inr (10, vL 67 F692)), (h_tape, .inl (cB, 940, .inl f_tape)), (h_read, .inl (cI, 135, .inl g583)), (h_stack, .inl (cI, 45, .inl g660))]) [2, 3, 0, 1] rfl) (hD.sub (ws' := [(h0, .inr (10, vL 67 F692)), (h_tape, .inl (cB, 940, .inl f_tape)), (h_read, .inl (cI, 135, .inl g583)), (h_stack, .inl (cI, 45, .inl g660))]) [2, 3, 0, 1] (by decide) rfl) dX10_behind__91 rfl (Nat.le_of_ble_eq_true rfl) (Nat.le_of_ble_eq_true rfl) ⟨F692, y693, y694, y695, y696, y697, x_fault, x_faultAt, y698, y581, v661, y5, 0, g583, g660, (SAME.tr (SAME.up eF664 (SAME.up eF663 (SAME.tr (SAME.tr SAME.rf t7 (by decide)) t584 (by decide)) (by decide)) (by decide)) t699 (by decide)), t700, t701, t702, t703, t704, t706, t708, (SAME.at t699 (by decide) (get_ne eF664 (by decide) (get_ne eF663 (by decide) (SAME.at t584 (by decide) (SAME.at t7 (by decide) e_fault))))), (SAME.at t699 (by decide) (get_ne eF664 (by decide) (get_ne eF663 (by decide) (SAME.at t584 (by decide) (SAME.at t7 (by decide) e_faultAt))))), t709, (SAME.at t699 (by decide) (get_ne eF664 (by decide) (get_ne eF663 (by decide) t585))), t586, (SAME.at t699 (by decide) (get_ne eF664 (by decide) (get_eq eF663))), (show 0 ≤ v661.toInt ∧ v661.toInt ≤ 45 from ⟨by omega, by omega⟩), (SAME.at t699 (by decide) (get_ne eF664 (by decide) (get_ne eF663 (by decide) (SAME.at t584 (by decide) t12)))), (SAME.at t699 (by decide) (get_eq eF664)), (show 0 ≤ (0 : Int32).toInt ∧ (0 : Int32).toInt ≤ 1 by decide), (show 0 ≤ (1 : Int32).toInt ∧ (1 : Int32).toInt ≤ 1 by decide), (by have zl0 : (0 : Int32).toInt = 0 := (by decide); have zl1 : (1 : Int32).toInt = 1 := (by decide); omega), (fun _ => SMI.w (SMI.pushb t589 eg660 (by omega) (by decide) (by omega)) (by decide)), (fun _ => t713), (by have zl0 : (0 : Int32).toInt = 0 := (by decide); omega), (by have zl0 : (0 : Int32).toInt = 0 := (by decide); omega), rfl⟩
