set_option maxHeartbeats 4000000 in
set_option maxRecDepth 100000 in
theorem m_X10_weight (l : Launch) (D : va_G) (cI cJ cB cP cM cZ : ClassId) (h0 : Nat) (h_s : Nat) (Fh : Nat → Value) (x_inside : Int32) (f_s : Nat → Int32) (bs : Nat → Int32) (sz : Nat) (e_s : Fh 6 = .ref h_s) (e_inside : Fh 29 = .int x_inside) (i_x_inside : IR 0 15 x_inside) (s_s_K0 : KW 0 f_s) (s_s_US : US bs f_s) (s_s_0 : SG 0 0 0 40 f_s) (s_s_105 : SG 105 108 0 11 f_s) (s_s_114 : SG 114 114 0 5 f_s) (s_s_130 : SG 130 133 0 11 f_s) (s_s_139 : SG 139 139 0 5 f_s) (s_s_153 : SG 153 153 0 44 f_s) (s_s_44 : SG 44 55 0 9 f_s) (s_s_5 : SG 5 5 0 12 f_s) (s_s_6 : SG 6 6 0 12 f_s) (s_s_7 : SG 7 7 0 6 f_s) : CI l yX10_weight cX10_weight 1 (some .int) { frames := 2, cells := 0, slots := 0, locals := 44 } (GG D cI cJ cB cP cM cZ) D [(h0, .inr (10, vL 67 Fh)), (h_s, .inl (cI, 335, .inl f_s))] sz [.ref h0] (fun (r : Int32) (u : va_W) => u = [(h0, .inr (10, vL 67 Fh)), (h_s, .inl (cI, 335, .inl f_s))]) := by
  refine CI_mk (by decide) (Nat.le_of_ble_eq_true rfl) ?_
  intro p e s m below meth c A ls E hAe hG hsz hP hD hA hS hl
  obtain ⟨hx, hb, hr, hw, hown, hlocks, hml, hnm⟩ := E
  have hK := hG.1
  have i_x_inside : 0 ≤ x_inside.toInt ∧ x_inside.toInt ≤ 15 := i_x_inside
  have hl : lv_has ls 1 [(0, .ref h0)] := hl
  refine lv_aload_n hx hb dX10_weight_0 rfl (lv_at hl 0 rfl) ?_
  refine get_f (D := D) (ci := 10) (v := .ref h_s) (C := RX10) (T := TX10) (N := 67) hx hb hw inAX10 hown hK hP 0 rfl rfl 6 (by decide) (hw _ q_1267) (fun _ h9 => h9) e_s dX10_weight_1 ?_
  refine lv_iconst (v := 1) hx hb dX10_weight_4 (by decide) ?_
  refine iald_n hx hb hK hP 1 0 rfl rfl 1 rfl (Nat.le_of_ble_eq_true rfl) (Nat.le_of_ble_eq_true rfl) rfl dX10_weight_5 ?_
  refine lv_topi (fun v1 ev1 => ?_)
  refine lv_aload_n hx hb dX10_weight_6 rfl (lv_at hl 0 rfl) ?_
  refine get_f (D := D) (ci := 10) (v := .ref h_s) (C := RX10) (T := TX10) (N := 67) hx hb hw inAX10 hown hK hP 0 rfl rfl 6 (by decide) (hw _ q_1267) (fun _ h9 => h9) e_s dX10_weight_7 ?_
  refine lv_bipush (v := 113) hx hb dX10_weight_10 (by decide) ?_
  refine iald_n hx hb hK hP 1 0 rfl rfl 113 rfl (Nat.le_of_ble_eq_true rfl) (Nat.le_of_ble_eq_true rfl) rfl dX10_weight_12 ?_
  refine lv_topi (fun v2 ev2 => ?_)
  refine lv_iadd hx hb dX10_weight_13 ?_
  refine lv_topi (fun v3 ev3 => ?_)
  refine lv_aload_n hx hb dX10_weight_14 rfl (lv_at hl 0 rfl) ?_
  refine lv_aload_n hx hb dX10_weight_15 rfl (lv_at hl 0 rfl) ?_
  refine get_f (D := D) (ci := 10) (v := .int x_inside) (C := RX10) (T := TX10) (N := 67) hx hb hw inAX10 hown hK hP 0 rfl rfl 29 (by decide) (hw _ q_1290) (fun _ h9 => h9) e_inside dX10_weight_16 ?_
  refine call_Vi (wr := []) (As := [.int x_inside]) (rest := [.int v3]) hx hb hml hown hw (m_X10_weightOf l D cI cJ cB cP cM cZ h0 h_s Fh f_s x_inside bs _ e_s s_s_K0 s_s_US s_s_0 s_s_105 s_s_114 s_s_130 s_s_139 s_s_153 s_s_44 s_s_5 s_s_6 s_s_7) wV_X10_308_X10_weightOf dX10_weight_19 hK hP hD hS hA [0, 1] [] rfl rfl (by decide) (by decide) (by decide) 0 10 rfl rfl GG.fb hG.at hl.1 rfl (Nat.le_of_ble_eq_true rfl) ⟨(Nat.le_of_ble_eq_true rfl), (Nat.le_of_ble_eq_true rfl)⟩ ⟨(Nat.le_of_ble_eq_true rfl), (Nat.le_of_ble_eq_true rfl)⟩ (fun r4 u H locs hp hP hD hS => ?_)
  obtain rfl := hp
  have hP : va_P D vwCl [(h0, .inr (10, vL 67 Fh)), (h_s, .inl (cI, 335, .inl f_s))] H := hP
  have hD : va_D A [(h0, .inr (10, vL 67 Fh)), (h_s, .inl (cI, 335, .inl f_s))] := hD
  refine W.widen (k := 0) (n := 0) (Nat.le_of_ble_eq_true rfl) (Nat.le_of_ble_eq_true rfl) ?_
  refine lv_iadd hx hb dX10_weight_22 ?_
  refine lv_topi (fun v6 ev6 => ?_)
  exact ret_i (v := v6) hx hb hr hlocks hS hP hD dX10_weight_23 rfl (Nat.le_of_ble_eq_true rfl) (Nat.le_of_ble_eq_true rfl) rfl
set_option maxHeartbeats 4000000 in
set_option maxRecDepth 100000 in
theorem m_X10_start (l : Launch) (D : va_G) (cI cJ cB cP cM cZ : ClassId) (h0 : Nat) (h_s : Nat) (h_paceAt : Nat) (h_kindOf : Nat) (Fh : Nat → Value) (x_lineTime : Int32) (x_linePace : Int32) (x_inside : Int32) (x_late : Int32) (x_seed : Int32) (x_kicks : Int32) (f_s : Nat → Int32) (f_paceAt : Nat → Int32) (f_kindOf : Nat → Int32) (p0 : Int32) (bs : Nat → Int32) (sz : Nat) (e_s : Fh 6 = .ref h_s) (e_paceAt : Fh 25 = .ref h_paceAt) (e_kindOf : Fh 26 = .ref h_kindOf) (e_lineTime : Fh 27 = .int x_lineTime) (e_linePace : Fh 28 = .int x_linePace) (e_inside : Fh 29 = .int x_inside) (i_x_inside : IR 0 15 x_inside) (e_late : Fh 30 = .int x_late) (i_x_late : IR 0 15 x_late) (e_seed : Fh 31 = .int x_seed) (e_kicks : Fh 32 = .int x_kicks) (i_x_kicks : IR 0 1 x_kicks) (s_s_K0 : KW 0 f_s) (s_s_US : US bs f_s) (s_s_0 : SG 0 0 0 40 f_s) (s_s_105 : SG 105 108 0 11 f_s) (s_s_114 : SG 114 114 0 5 f_s) (s_s_130 : SG 130 133 0 11 f_s) (s_s_139 : SG 139 139 0 5 f_s) (s_s_153 : SG 153 153 0 44 f_s) (s_s_44 : SG 44 55 0 9 f_s) (s_s_5 : SG 5 5 0 12 f_s) (s_s_6 : SG 6 6 0 12 f_s) (s_s_7 : SG 7 7 0 6 f_s) : CI l yX10_start cX10_start 2 (some .int) { frames := 4, cells := 0, slots := 0, locals := 94 } (GG D cI cJ cB cP cM cZ) D [(h0, .inr (10, vL 67 Fh)), (h_s, .inl (cI, 335, .inl f_s)), (h_paceAt, .inl (cI, 40, .inl f_paceAt)), (h_kindOf, .inl (cI, 4, .inl f_kindOf))] sz [.ref h0, .int p0] (fun (r : Int32) (u : va_W) => ∃ (Gh : Nat → Value) (y_lineTime : Int32) (y_linePace : Int32) (y_inside : Int32) (y_late : Int32) (y_seed : Int32) (g_paceAt : Nat → Int32) (g_kindOf : Nat → Int32), SAME [0, 27, 28, 29, 30, 31] Fh Gh ∧ Gh 0 = .int 0 ∧ Gh 27 = .int y_lineTime ∧ Gh 28 = .int y_linePace ∧ Gh 29 = .int y_inside ∧ IR 0 15 y_inside ∧ Gh 30 = .int y_late ∧ IR 0 15 y_late ∧ Gh 31 = .int y_seed ∧ u = [(h0, .inr (10, vL 67 Gh)), (h_s, .inl (cI, 335, .inl f_s)), (h_paceAt, .inl (cI, 40, .inl g_paceAt)), (h_kindOf, .inl (cI, 4, .inl g_kindOf))]) := by
  refine CI_mk (by decide) (Nat.le_of_ble_eq_true rfl) ?_
  intro p e s m below meth c A ls E hAe hG hsz hP hD hA hS hl
  obtain ⟨hx, hb, hr, hw, hown, hlocks, hml, hnm⟩ := E
  have hK := hG.1
  have i_x_inside : 0 ≤ x_inside.toInt ∧ x_inside.toInt ≤ 15 := i_x_inside
  have i_x_late : 0 ≤ x_late.toInt ∧ x_late.toInt ≤ 15 := i_x_late
  have i_x_kicks : 0 ≤ x_kicks.toInt ∧ x_kicks.toInt ≤ 1 := i_x_kicks
  have hl : lv_has ls 2 [(0, .ref h0), (1, .int p0)] := hl
  refine lv_aload_n hx hb dX10_start_0 rfl (lv_at hl 0 rfl) ?_
  refine lv_iconst (v := 0) hx hb dX10_start_1 (by decide) ?_
  refine put_f (D := D) (ci := 10) (v := .int 0) (ty := .int) (C := RX10) (T := TX10) (N := 67) hx hb hw inAX10 tyX10 tyX10_ok nmX10 hown hK hP hD hS 0 rfl rfl 0 (by decide) (hw _ q_1261) (fun _ h9 => h9) rfl (by decide +kernel) rfl rfl dX10_start_2 (fun H locs F1 eF1 hP hD hS => ?_)
  have hP : va_P D vwCl [(h0, .inr (10, vL 67 F1)), (h_s, .inl (cI, 335, .inl f_s)), (h_paceAt, .inl (cI, 40, .inl f_paceAt)), (h_kindOf, .inl (cI, 4, .inl f_kindOf))] H := hP
  have hD : va_D A [(h0, .inr (10, vL 67 F1)), (h_s, .inl (cI, 335, .inl f_s)), (h_paceAt, .inl (cI, 40, .inl f_paceAt)), (h_kindOf, .inl (cI, 4, .inl f_kindOf))] := hD
  refine lv_aload_n hx hb dX10_start_5 rfl (lv_at hl 0 rfl) ?_
  have n2 : F1 6 = .ref h_s := (get_ne eF1 (by decide) e_s)
  refine call_Vi (wr := [(h_paceAt, .inl (cI, 40, .inl f_paceAt)), (h_kindOf, .inl (cI, 4, .inl f_kindOf))]) (As := []) (rest := []) hx hb hml hown hw (m_X10_hasCrew l D cI cJ cB cP cM cZ h0 h_s F1 f_s bs _ n2 s_s_K0 s_s_US s_s_0 s_s_105 s_s_114 s_s_130 s_s_139 s_s_153 s_s_44 s_s_5 s_s_6 s_s_7) wV_X10_281_X10_hasCrew dX10_start_6 hK hP hD hS hA [0, 1] [2, 3] rfl rfl (by decide) (by decide) (by decide) 0 10 rfl rfl GG.fb hG.at hl.1 rfl (Nat.le_of_ble_eq_true rfl) ⟨(Nat.le_of_ble_eq_true rfl), (Nat.le_of_ble_eq_true rfl)⟩ ⟨(Nat.le_of_ble_eq_true rfl), (Nat.le_of_ble_eq_true rfl)⟩ (fun r3 u H locs hp hP hD hS => ?_)
  rcases hp with ⟨rfl, rfl⟩ | ⟨rfl, rfl⟩
  · have hP : va_P D vwCl [(h_paceAt, .inl (cI, 40, .inl f_paceAt)), (h_kindOf, .inl (cI, 4, .inl f_kindOf)), (h0, .inr (10, vL 67 F1)), (h_s, .inl (cI, 335, .inl f_s))] H := hP
    have hD : va_D A [(h_paceAt, .inl (cI, 40, .inl f_paceAt)), (h_kindOf, .inl (cI, 4, .inl f_kindOf)), (h0, .inr (10, vL 67 F1)), (h_s, .inl (cI, 335, .inl f_s))] := hD
    refine W.widen (k := 0) (n := 0) (Nat.le_of_ble_eq_true rfl) (Nat.le_of_ble_eq_true rfl) ?_
    refine lv_if_ne (tgt := 14) hx hb dX10_start_9 (by decide) (fun g => absurd (by decide) g) (fun _ => ?_)
    refine lv_iconst (v := (-1)) hx hb dX10_start_12 (by decide) ?_
    exact ret_i (v := (-1)) hx hb hr hlocks hS (hP.sub (ws' := [(h0, .inr (10, vL 67 F1)), (h_s, .inl (cI, 335, .inl f_s)), (h_paceAt, .inl (cI, 40, .inl f_paceAt)), (h_kindOf, .inl (cI, 4, .inl f_kindOf))]) [2, 3, 0, 1] rfl) (hD.sub (ws' := [(h0, .inr (10, vL 67 F1)), (h_s, .inl (cI, 335, .inl f_s)), (h_paceAt, .inl (cI, 40, .inl f_paceAt)), (h_kindOf, .inl (cI, 4, .inl f_kindOf))]) [2, 3, 0, 1] (by decide) rfl) dX10_start_13 rfl (Nat.le_of_ble_eq_true rfl) (Nat.le_of_ble_eq_true rfl) ⟨F1, x_lineTime, x_linePace, x_inside, x_late, x_seed, f_paceAt, f_kindOf, (SAME.up eF1 SAME.rf (by decide)), (get_eq eF1), (get_ne eF1 (by decide) e_lineTime), (get_ne eF1 (by decide) e_linePace), (get_ne eF1 (by decide) e_inside), i_x_inside, (get_ne eF1 (by decide) e_late), i_x_late, (get_ne eF1 (by decide) e_seed), rfl⟩
  · have hP : va_P D vwCl [(h_paceAt, .inl (cI, 40, .inl f_paceAt)), (h_kindOf, .inl (cI, 4, .inl f_kindOf)), (h0, .inr (10, vL 67 F1)), (h_s, .inl (cI, 335, .inl f_s))] H := hP
    have hD : va_D A [(h_paceAt, .inl (cI, 40, .inl f_paceAt)), (h_kindOf, .inl (cI, 4, .inl f_kindOf)), (h0, .inr (10, vL 67 F1)), (h_s, .inl (cI, 335, .inl f_s))] := hD
    refine W.widen (k := 0) (n := 0) (Nat.le_of_ble_eq_true rfl) (Nat.le_of_ble_eq_true rfl) ?_
    refine lv_if_ne (tgt := 14) hx hb dX10_start_9 (by decide) (fun _ => ?_) (fun g => absurd g (by decide))
    refine lv_aload_n hx hb dX10_start_14 rfl (lv_at hl 0 rfl) ?_
    have n5 : F1 25 = .ref h_paceAt := (get_ne eF1 (by decide) e_paceAt)
    have n6 : F1 26 = .ref h_kindOf := (get_ne eF1 (by decide) e_kindOf)
    have n7 : F1 31 = .int x_seed := (get_ne eF1 (by decide) e_seed)
    have n8 : F1 32 = .int x_kicks := (get_ne eF1 (by decide) e_kicks)
    refine call_Vv (wr := []) (As := []) (rest := []) hx hb hml hown hw (m_X10_starts l D cI cJ cB cP cM cZ h0 h_s h_paceAt h_kindOf F1 x_seed x_kicks f_s f_paceAt f_kindOf bs _ n2 n5 n6 n7 n8 i_x_kicks s_s_K0 s_s_US s_s_0 s_s_105 s_s_114 s_s_130 s_s_139 s_s_153 s_s_44 s_s_5 s_s_6 s_s_7) wV_X10_340_X10_starts dX10_start_15 hK hP hD hS hA [2, 3, 0, 1] [] rfl rfl (by decide) (by decide) (by decide) 0 10 rfl rfl GG.fb hG.at hl.1 rfl (Nat.le_of_ble_eq_true rfl) ⟨(Nat.le_of_ble_eq_true rfl), (Nat.le_of_ble_eq_true rfl)⟩ ⟨(Nat.le_of_ble_eq_true rfl), (Nat.le_of_ble_eq_true rfl)⟩ (fun u H locs hp hP hD hS => ?_)
    obtain ⟨F10, y11, y12, y13, y14, y15, g16, g17, t18, t19, t20, t21, t22, t23, t24, t25, t26, rfl⟩ := hp
    have hP : va_P D vwCl [(h0, .inr (10, vL 67 F10)), (h_s, .inl (cI, 335, .inl f_s)), (h_paceAt, .inl (cI, 40, .inl g16)), (h_kindOf, .inl (cI, 4, .inl g17))] H := hP
    have hD : va_D A [(h0, .inr (10, vL 67 F10)), (h_s, .inl (cI, 335, .inl f_s)), (h_paceAt, .inl (cI, 40, .inl g16)), (h_kindOf, .inl (cI, 4, .inl g17))] := hD
    refine W.widen (k := 0) (n := 0) (Nat.le_of_ble_eq_true rfl) (Nat.le_of_ble_eq_true rfl) ?_
    refine lv_iload_n hx hb dX10_start_18 rfl (lv_at hl 1 rfl) ?_
    by_cases k28 : p0 = 0
    · have dk28 : p0.toInt = 0 := eq_i rfl rfl k28
      have k29 : 0 ≤ p0.toInt ∧ p0.toInt ≤ 0 := ⟨Int.le_trans (Int.le_refl _) (Int.le_of_eq dk28.symm), Int.le_trans (Int.le_of_eq dk28) (Int.le_refl _)⟩
      refine lv_ci (y := 0) k28 ?_
      refine lv_tableIn (tgt := 52) (off := 33) hx hb dX10_start_19 (by decide) (by decide) (by decide) (by decide) ?_
      refine lv_aload_n hx hb dX10_start_52 rfl (lv_at hl 0 rfl) ?_
      refine get_f (D := D) (ci := 10) (v := .int y11) (C := RX10) (T := TX10) (N := 67) hx hb hw inAX10 hown hK hP 0 rfl rfl 27 (by decide) (hw _ q_1288) (fun _ h9 => h9) t19 dX10_start_53 ?_
      exact ret_i (v := y11) hx hb hr hlocks hS hP hD dX10_start_56 rfl (Nat.le_of_ble_eq_true rfl) (Nat.le_of_ble_eq_true rfl) ⟨F10, y11, y12, y13, y14, y15, g16, g17, (SAME.tr (SAME.up eF1 SAME.rf (by decide)) t18 (by decide)), (SAME.at t18 (by decide) (get_eq eF1)), t19, t20, t22, t23, t24, t25, t26, rfl⟩
    by_cases k30 : p0 = 1
    · have dk30 : p0.toInt = 1 := eq_i rfl rfl k30
      have k31 : 1 ≤ p0.toInt ∧ p0.toInt ≤ 1 := ⟨Int.le_trans (Int.le_refl _) (Int.le_of_eq dk30.symm), Int.le_trans (Int.le_of_eq dk30) (Int.le_refl _)⟩
      refine lv_ci (y := 1) k30 ?_
      refine lv_tableIn (tgt := 57) (off := 38) hx hb dX10_start_19 (by decide) (by decide) (by decide) (by decide) ?_
      refine lv_aload_n hx hb dX10_start_57 rfl (lv_at hl 0 rfl) ?_
      refine get_f (D := D) (ci := 10) (v := .int y12) (C := RX10) (T := TX10) (N := 67) hx hb hw inAX10 hown hK hP 0 rfl rfl 28 (by decide) (hw _ q_1289) (fun _ h9 => h9) t20 dX10_start_58 ?_
      exact ret_i (v := y12) hx hb hr hlocks hS hP hD dX10_start_61 rfl (Nat.le_of_ble_eq_true rfl) (Nat.le_of_ble_eq_true rfl) ⟨F10, y11, y12, y13, y14, y15, g16, g17, (SAME.tr (SAME.up eF1 SAME.rf (by decide)) t18 (by decide)), (SAME.at t18 (by decide) (get_eq eF1)), t19, t20, t22, t23, t24, t25, t26, rfl⟩
    by_cases k32 : p0 = 2
    · have dk32 : p0.toInt = 2 := eq_i rfl rfl k32
      have k33 : 2 ≤ p0.toInt ∧ p0.toInt ≤ 2 := ⟨Int.le_trans (Int.le_refl _) (Int.le_of_eq dk32.symm), Int.le_trans (Int.le_of_eq dk32) (Int.le_refl _)⟩
      refine lv_ci (y := 2) k32 ?_
      refine lv_tableIn (tgt := 62) (off := 43) hx hb dX10_start_19 (by decide) (by decide) (by decide) (by decide) ?_
      refine lv_aload_n hx hb dX10_start_62 rfl (lv_at hl 0 rfl) ?_
      refine get_f (D := D) (ci := 10) (v := .int y13) (C := RX10) (T := TX10) (N := 67) hx hb hw inAX10 hown hK hP 0 rfl rfl 29 (by decide) (hw _ q_1290) (fun _ h9 => h9) t22 dX10_start_63 ?_
      exact ret_i (v := y13) hx hb hr hlocks hS hP hD dX10_start_66 rfl (Nat.le_of_ble_eq_true rfl) (Nat.le_of_ble_eq_true rfl) ⟨F10, y11, y12, y13, y14, y15, g16, g17, (SAME.tr (SAME.up eF1 SAME.rf (by decide)) t18 (by decide)), (SAME.at t18 (by decide) (get_eq eF1)), t19, t20, t22, t23, t24, t25, t26, rfl⟩
    by_cases k34 : p0 = 3
    · have dk34 : p0.toInt = 3 := eq_i rfl rfl k34
      have k35 : 3 ≤ p0.toInt ∧ p0.toInt ≤ 3 := ⟨Int.le_trans (Int.le_refl _) (Int.le_of_eq dk34.symm), Int.le_trans (Int.le_of_eq dk34) (Int.le_refl _)⟩
      refine lv_ci (y := 3) k34 ?_
      refine lv_tableIn (tgt := 67) (off := 48) hx hb dX10_start_19 (by decide) (by decide) (by decide) (by decide) ?_
      refine lv_aload_n hx hb dX10_start_67 rfl (lv_at hl 0 rfl) ?_
      refine get_f (D := D) (ci := 10) (v := .int y14) (C := RX10) (T := TX10) (N := 67) hx hb hw inAX10 hown hK hP 0 rfl rfl 30 (by decide) (hw _ q_1291) (fun _ h9 => h9) t24 dX10_start_68 ?_
      exact ret_i (v := y14) hx hb hr hlocks hS hP hD dX10_start_71 rfl (Nat.le_of_ble_eq_true rfl) (Nat.le_of_ble_eq_true rfl) ⟨F10, y11, y12, y13, y14, y15, g16, g17, (SAME.tr (SAME.up eF1 SAME.rf (by decide)) t18 (by decide)), (SAME.at t18 (by decide) (get_eq eF1)), t19, t20, t22, t23, t24, t25, t26, rfl⟩
    by_cases k36 : p0 = 4
    · have dk36 : p0.toInt = 4 := eq_i rfl rfl k36
      have k37 : 4 ≤ p0.toInt ∧ p0.toInt ≤ 4 := ⟨Int.le_trans (Int.le_refl _) (Int.le_of_eq dk36.symm), Int.le_trans (Int.le_of_eq dk36) (Int.le_refl _)⟩
      refine lv_ci (y := 4) k36 ?_
      refine lv_tableIn (tgt := 72) (off := 53) hx hb dX10_start_19 (by decide) (by decide) (by decide) (by decide) ?_
      refine lv_aload_n hx hb dX10_start_72 rfl (lv_at hl 0 rfl) ?_
      have n38 : F10 6 = .ref h_s := (SAME.at t18 (by decide) n2)
      refine call_Vi (wr := [(h_paceAt, .inl (cI, 40, .inl g16)), (h_kindOf, .inl (cI, 4, .inl g17))]) (As := []) (rest := []) hx hb hml hown hw (m_X10_weight l D cI cJ cB cP cM cZ h0 h_s F10 y13 f_s bs _ n38 t22 t23 s_s_K0 s_s_US s_s_0 s_s_105 s_s_114 s_s_130 s_s_139 s_s_153 s_s_44 s_s_5 s_s_6 s_s_7) wV_X10_343_X10_weight dX10_start_73 hK hP hD hS hA [0, 1] [2, 3] rfl rfl (by decide) (by decide) (by decide) 0 10 rfl rfl GG.fb hG.at hl.1 rfl (Nat.le_of_ble_eq_true rfl) ⟨(Nat.le_of_ble_eq_true rfl), (Nat.le_of_ble_eq_true rfl)⟩ ⟨(Nat.le_of_ble_eq_true rfl), (Nat.le_of_ble_eq_true rfl)⟩ (fun r39 u H locs hp hP hD hS => ?_)
      obtain rfl := hp
      have hP : va_P D vwCl [(h_paceAt, .inl (cI, 40, .inl g16)), (h_kindOf, .inl (cI, 4, .inl g17)), (h0, .inr (10, vL 67 F10)), (h_s, .inl (cI, 335, .inl f_s))] H := hP
      have hD : va_D A [(h_paceAt, .inl (cI, 40, .inl g16)), (h_kindOf, .inl (cI, 4, .inl g17)), (h0, .inr (10, vL 67 F10)), (h_s, .inl (cI, 335, .inl f_s))] := hD
      refine W.widen (k := 0) (n := 0) (Nat.le_of_ble_eq_true rfl) (Nat.le_of_ble_eq_true rfl) ?_
      exact ret_i (v := r39) hx hb hr hlocks hS (hP.sub (ws' := [(h0, .inr (10, vL 67 F10)), (h_s, .inl (cI, 335, .inl f_s)), (h_paceAt, .inl (cI, 40, .inl g16)), (h_kindOf, .inl (cI, 4, .inl g17))]) [2, 3, 0, 1] rfl) (hD.sub (ws' := [(h0, .inr (10, vL 67 F10)), (h_s, .inl (cI, 335, .inl f_s)), (h_paceAt, .inl (cI, 40, .inl g16)), (h_kindOf, .inl (cI, 4, .inl g17))]) [2, 3, 0, 1] (by decide) rfl) dX10_start_76 rfl (Nat.le_of_ble_eq_true rfl) (Nat.le_of_ble_eq_true rfl) ⟨F10, y11, y12, y13, y14, y15, g16, g17, (SAME.tr (SAME.up eF1 SAME.rf (by decide)) t18 (by decide)), (SAME.at t18 (by decide) (get_eq eF1)), t19, t20, t22, t23, t24, t25, t26, rfl⟩
    have dk28 : p0.toInt ≠ 0 := ne_i rfl rfl k28
    have dk30 : p0.toInt ≠ 1 := ne_i rfl rfl k30
    have dk32 : p0.toInt ≠ 2 := ne_i rfl rfl k32
    have dk34 : p0.toInt ≠ 3 := ne_i rfl rfl k34
    have dk36 : p0.toInt ≠ 4 := ne_i rfl rfl k36
    refine lv_tableOut (tgt := 77) hx hb dX10_start_19 (by omega) (by decide) ?_
    refine lv_iconst (v := (-1)) hx hb dX10_start_77 (by decide) ?_
    exact ret_i (v := (-1)) hx hb hr hlocks hS hP hD dX10_start_78 rfl (Nat.le_of_ble_eq_true rfl) (Nat.le_of_ble_eq_true rfl) ⟨F10, y11, y12, y13, y14, y15, g16, g17, (SAME.tr (SAME.up eF1 SAME.rf (by decide)) t18 (by decide)), (SAME.at t18 (by decide) (get_eq eF1)), t19, t20, t22, t23, t24, t25, t26, rfl⟩
set_option maxHeartbeats 4000000 in
set_option maxRecDepth 100000 in
theorem m_X10_pace (l : Launch) (D : va_G) (cI cJ cB cP cM cZ : ClassId) (h0 : Nat) (h_s : Nat) (h_paceAt : Nat) (h_kindOf : Nat) (Fh : Nat → Value) (x_lineTime : Int32) (x_linePace : Int32) (x_inside : Int32) (x_late : Int32) (x_seed : Int32) (x_kicks : Int32) (f_s : Nat → Int32) (f_paceAt : Nat → Int32) (f_kindOf : Nat → Int32) (p0 : Int32) (bs : Nat → Int32) (sz : Nat) (e_s : Fh 6 = .ref h_s) (e_paceAt : Fh 25 = .ref h_paceAt) (e_kindOf : Fh 26 = .ref h_kindOf) (e_lineTime : Fh 27 = .int x_lineTime) (e_linePace : Fh 28 = .int x_linePace) (e_inside : Fh 29 = .int x_inside) (i_x_inside : IR 0 15 x_inside) (e_late : Fh 30 = .int x_late) (i_x_late : IR 0 15 x_late) (e_seed : Fh 31 = .int x_seed) (e_kicks : Fh 32 = .int x_kicks) (i_x_kicks : IR 0 1 x_kicks) (s_s_K0 : KW 0 f_s) (s_s_US : US bs f_s) (s_s_0 : SG 0 0 0 40 f_s) (s_s_105 : SG 105 108 0 11 f_s) (s_s_114 : SG 114 114 0 5 f_s) (s_s_130 : SG 130 133 0 11 f_s) (s_s_139 : SG 139 139 0 5 f_s) (s_s_153 : SG 153 153 0 44 f_s) (s_s_44 : SG 44 55 0 9 f_s) (s_s_5 : SG 5 5 0 12 f_s) (s_s_6 : SG 6 6 0 12 f_s) (s_s_7 : SG 7 7 0 6 f_s) : CI l yX10_pace cX10_pace 2 (some .int) { frames := 4, cells := 0, slots := 0, locals := 94 } (GG D cI cJ cB cP cM cZ) D [(h0, .inr (10, vL 67 Fh)), (h_s, .inl (cI, 335, .inl f_s)), (h_paceAt, .inl (cI, 40, .inl f_paceAt)), (h_kindOf, .inl (cI, 4, .inl f_kindOf))] sz [.ref h0, .int p0] (fun (r : Int32) (u : va_W) => ∃ (Gh : Nat → Value) (y_lineTime : Int32) (y_linePace : Int32) (y_inside : Int32) (y_late : Int32) (y_seed : Int32) (g_paceAt : Nat → Int32) (g_kindOf : Nat → Int32), SAME [0, 27, 28, 29, 30, 31] Fh Gh ∧ Gh 0 = .int 0 ∧ Gh 27 = .int y_lineTime ∧ Gh 28 = .int y_linePace ∧ Gh 29 = .int y_inside ∧ IR 0 15 y_inside ∧ Gh 30 = .int y_late ∧ IR 0 15 y_late ∧ Gh 31 = .int y_seed ∧ u = [(h0, .inr (10, vL 67 Gh)), (h_s, .inl (cI, 335, .inl f_s)), (h_paceAt, .inl (cI, 40, .inl g_paceAt)), (h_kindOf, .inl (cI, 4, .inl g_kindOf))]) := by
  refine CI_mk (by decide) (Nat.le_of_ble_eq_true rfl) ?_
  intro p e s m below meth c A ls E hAe hG hsz hP hD hA hS hl
  obtain ⟨hx, hb, hr, hw, hown, hlocks, hml, hnm⟩ := E
  have hK := hG.1
  have i_x_inside : 0 ≤ x_inside.toInt ∧ x_inside.toInt ≤ 15 := i_x_inside
  have i_x_late : 0 ≤ x_late.toInt ∧ x_late.toInt ≤ 15 := i_x_late
  have i_x_kicks : 0 ≤ x_kicks.toInt ∧ x_kicks.toInt ≤ 1 := i_x_kicks
  have hl : lv_has ls 2 [(0, .ref h0), (1, .int p0)] := hl
  refine lv_aload_n hx hb dX10_pace_0 rfl (lv_at hl 0 rfl) ?_
  refine lv_iconst (v := 0) hx hb dX10_pace_1 (by decide) ?_
  refine put_f (D := D) (ci := 10) (v := .int 0) (ty := .int) (C := RX10) (T := TX10) (N := 67) hx hb hw inAX10 tyX10 tyX10_ok nmX10 hown hK hP hD hS 0 rfl rfl 0 (by decide) (hw _ q_1261) (fun _ h9 => h9) rfl (by decide +kernel) rfl rfl dX10_pace_2 (fun H locs F1 eF1 hP hD hS => ?_)
  have hP : va_P D vwCl [(h0, .inr (10, vL 67 F1)), (h_s, .inl (cI, 335, .inl f_s)), (h_paceAt, .inl (cI, 40, .inl f_paceAt)), (h_kindOf, .inl (cI, 4, .inl f_kindOf))] H := hP
  have hD : va_D A [(h0, .inr (10, vL 67 F1)), (h_s, .inl (cI, 335, .inl f_s)), (h_paceAt, .inl (cI, 40, .inl f_paceAt)), (h_kindOf, .inl (cI, 4, .inl f_kindOf))] := hD
  refine lv_aload_n hx hb dX10_pace_5 rfl (lv_at hl 0 rfl) ?_
  have n2 : F1 6 = .ref h_s := (get_ne eF1 (by decide) e_s)
  refine call_Vi (wr := [(h_paceAt, .inl (cI, 40, .inl f_paceAt)), (h_kindOf, .inl (cI, 4, .inl f_kindOf))]) (As := []) (rest := []) hx hb hml hown hw (m_X10_hasCrew l D cI cJ cB cP cM cZ h0 h_s F1 f_s bs _ n2 s_s_K0 s_s_US s_s_0 s_s_105 s_s_114 s_s_130 s_s_139 s_s_153 s_s_44 s_s_5 s_s_6 s_s_7) wV_X10_281_X10_hasCrew dX10_pace_6 hK hP hD hS hA [0, 1] [2, 3] rfl rfl (by decide) (by decide) (by decide) 0 10 rfl rfl GG.fb hG.at hl.1 rfl (Nat.le_of_ble_eq_true rfl) ⟨(Nat.le_of_ble_eq_true rfl), (Nat.le_of_ble_eq_true rfl)⟩ ⟨(Nat.le_of_ble_eq_true rfl), (Nat.le_of_ble_eq_true rfl)⟩ (fun r3 u H locs hp hP hD hS => ?_)
  rcases hp with ⟨rfl, rfl⟩ | ⟨rfl, rfl⟩
  · have hP : va_P D vwCl [(h_paceAt, .inl (cI, 40, .inl f_paceAt)), (h_kindOf, .inl (cI, 4, .inl f_kindOf)), (h0, .inr (10, vL 67 F1)), (h_s, .inl (cI, 335, .inl f_s))] H := hP
    have hD : va_D A [(h_paceAt, .inl (cI, 40, .inl f_paceAt)), (h_kindOf, .inl (cI, 4, .inl f_kindOf)), (h0, .inr (10, vL 67 F1)), (h_s, .inl (cI, 335, .inl f_s))] := hD
    refine W.widen (k := 0) (n := 0) (Nat.le_of_ble_eq_true rfl) (Nat.le_of_ble_eq_true rfl) ?_
    refine lv_if_eq (tgt := 28) hx hb dX10_pace_9 (by decide) (fun _ => ?_) (fun g => absurd (by decide) g)
    refine lv_iconst (v := (-1)) hx hb dX10_pace_28 (by decide) ?_
    exact ret_i (v := (-1)) hx hb hr hlocks hS (hP.sub (ws' := [(h0, .inr (10, vL 67 F1)), (h_s, .inl (cI, 335, .inl f_s)), (h_paceAt, .inl (cI, 40, .inl f_paceAt)), (h_kindOf, .inl (cI, 4, .inl f_kindOf))]) [2, 3, 0, 1] rfl) (hD.sub (ws' := [(h0, .inr (10, vL 67 F1)), (h_s, .inl (cI, 335, .inl f_s)), (h_paceAt, .inl (cI, 40, .inl f_paceAt)), (h_kindOf, .inl (cI, 4, .inl f_kindOf))]) [2, 3, 0, 1] (by decide) rfl) dX10_pace_29 rfl (Nat.le_of_ble_eq_true rfl) (Nat.le_of_ble_eq_true rfl) ⟨F1, x_lineTime, x_linePace, x_inside, x_late, x_seed, f_paceAt, f_kindOf, (SAME.up eF1 SAME.rf (by decide)), (get_eq eF1), (get_ne eF1 (by decide) e_lineTime), (get_ne eF1 (by decide) e_linePace), (get_ne eF1 (by decide) e_inside), i_x_inside, (get_ne eF1 (by decide) e_late), i_x_late, (get_ne eF1 (by decide) e_seed), rfl⟩
  · have hP : va_P D vwCl [(h_paceAt, .inl (cI, 40, .inl f_paceAt)), (h_kindOf, .inl (cI, 4, .inl f_kindOf)), (h0, .inr (10, vL 67 F1)), (h_s, .inl (cI, 335, .inl f_s))] H := hP
    have hD : va_D A [(h_paceAt, .inl (cI, 40, .inl f_paceAt)), (h_kindOf, .inl (cI, 4, .inl f_kindOf)), (h0, .inr (10, vL 67 F1)), (h_s, .inl (cI, 335, .inl f_s))] := hD
    refine W.widen (k := 0) (n := 0) (Nat.le_of_ble_eq_true rfl) (Nat.le_of_ble_eq_true rfl) ?_
    refine lv_if_eq (tgt := 28) hx hb dX10_pace_9 (by decide) (fun g => absurd g (by decide)) (fun _ => ?_)
    refine lv_iload_n hx hb dX10_pace_12 rfl (lv_at hl 1 rfl) ?_
    refine lv_iconst (v := 0) hx hb dX10_pace_13 (by decide) ?_
    refine lv_aload_n hx hb dX10_pace_14 rfl (lv_at hl 0 rfl) ?_
    refine get_f (D := D) (ci := 10) (v := .ref h_s) (C := RX10) (T := TX10) (N := 67) hx hb hw inAX10 hown hK hP 2 rfl rfl 6 (by decide) (hw _ q_1267) (fun _ h9 => h9) n2 dX10_pace_15 ?_
    refine lv_iconst (v := 0) hx hb dX10_pace_18 (by decide) ?_
    refine iald_n hx hb hK hP 3 0 rfl rfl 0 rfl (Nat.le_of_ble_eq_true rfl) (Nat.le_of_ble_eq_true rfl) rfl dX10_pace_19 ?_
    refine lv_topi (fun v5 ev5 => ?_)
    have k6 : 0 ≤ v5.toInt ∧ v5.toInt ≤ 40 := by rw [ev5]; exact s_s_0.atN 0 (by decide) (by decide)
    refine lv_iconst (v := 1) hx hb dX10_pace_20 (by decide) ?_
    refine lv_isub hx hb dX10_pace_21 ?_
    refine lv_topi (fun v7 ev7 => ?_)
    have bv7 : v7.toInt = v5.toInt - 1 := by rw [ev7]; exact sub_k rfl rfl k6 ⟨Int.le_refl _, Int.le_refl _⟩ (by decide)
    have k8 : (-1) ≤ v7.toInt ∧ v7.toInt ≤ 39 := sub_r bv7 k6 ⟨Int.le_refl _, Int.le_refl _⟩ (by decide)
    refine call_Si (wr := [(h_paceAt, .inl (cI, 40, .inl f_paceAt)), (h_kindOf, .inl (cI, 4, .inl f_kindOf)), (h0, .inr (10, vL 67 F1)), (h_s, .inl (cI, 335, .inl f_s))]) (As := [.int p0, .int 0, .int v7]) (rest := []) hx hb hml hown hw (m_X10_isIn l D cI cJ cB cP cM cZ p0 0 v7 _ ) wS_X10_211_X10_isIn dX10_pace_22 hP hD hS hA [] [0, 1, 2, 3] rfl rfl (by decide) (by decide) (by decide) GG.fb hG.at hl.1 rfl (Nat.le_of_ble_eq_true rfl) ⟨(Nat.le_of_ble_eq_true rfl), (Nat.le_of_ble_eq_true rfl)⟩ ⟨(Nat.le_of_ble_eq_true rfl), (Nat.le_of_ble_eq_true rfl)⟩ (fun r9 u H locs hp hP hD hS => ?_)
    have zl0 : (0 : Int32).toInt = 0 := by decide
    rcases hp with ⟨t10, rfl, rfl⟩ | ⟨t11, t12, rfl, rfl⟩ | ⟨t13, t14, rfl, rfl⟩
    · have hP : va_P D vwCl [(h_paceAt, .inl (cI, 40, .inl f_paceAt)), (h_kindOf, .inl (cI, 4, .inl f_kindOf)), (h0, .inr (10, vL 67 F1)), (h_s, .inl (cI, 335, .inl f_s))] H := hP
      have hD : va_D A [(h_paceAt, .inl (cI, 40, .inl f_paceAt)), (h_kindOf, .inl (cI, 4, .inl f_kindOf)), (h0, .inr (10, vL 67 F1)), (h_s, .inl (cI, 335, .inl f_s))] := hD
      refine W.widen (k := 0) (n := 0) (Nat.le_of_ble_eq_true rfl) (Nat.le_of_ble_eq_true rfl) ?_
      have k16 : (-2147483648) ≤ p0.toInt ∧ p0.toInt ≤ (-1) := ⟨(ir_any _).1, up_lt t10 (Int.le_refl _) (by decide)⟩
      refine lv_if_ne (tgt := 30) hx hb dX10_pace_25 (by decide) (fun g => absurd (by decide) g) (fun _ => ?_)
      refine lv_iconst (v := (-1)) hx hb dX10_pace_28 (by decide) ?_
      exact ret_i (v := (-1)) hx hb hr hlocks hS (hP.sub (ws' := [(h0, .inr (10, vL 67 F1)), (h_s, .inl (cI, 335, .inl f_s)), (h_paceAt, .inl (cI, 40, .inl f_paceAt)), (h_kindOf, .inl (cI, 4, .inl f_kindOf))]) [2, 3, 0, 1] rfl) (hD.sub (ws' := [(h0, .inr (10, vL 67 F1)), (h_s, .inl (cI, 335, .inl f_s)), (h_paceAt, .inl (cI, 40, .inl f_paceAt)), (h_kindOf, .inl (cI, 4, .inl f_kindOf))]) [2, 3, 0, 1] (by decide) rfl) dX10_pace_29 rfl (Nat.le_of_ble_eq_true rfl) (Nat.le_of_ble_eq_true rfl) ⟨F1, x_lineTime, x_linePace, x_inside, x_late, x_seed, f_paceAt, f_kindOf, (SAME.up eF1 SAME.rf (by decide)), (get_eq eF1), (get_ne eF1 (by decide) e_lineTime), (get_ne eF1 (by decide) e_linePace), (get_ne eF1 (by decide) e_inside), i_x_inside, (get_ne eF1 (by decide) e_late), i_x_late, (get_ne eF1 (by decide) e_seed), rfl⟩
    · have hP : va_P D vwCl [(h_paceAt, .inl (cI, 40, .inl f_paceAt)), (h_kindOf, .inl (cI, 4, .inl f_kindOf)), (h0, .inr (10, vL 67 F1)), (h_s, .inl (cI, 335, .inl f_s))] H := hP
      have hD : va_D A [(h_paceAt, .inl (cI, 40, .inl f_paceAt)), (h_kindOf, .inl (cI, 4, .inl f_kindOf)), (h0, .inr (10, vL 67 F1)), (h_s, .inl (cI, 335, .inl f_s))] := hD
      refine W.widen (k := 0) (n := 0) (Nat.le_of_ble_eq_true rfl) (Nat.le_of_ble_eq_true rfl) ?_
      have k17 : 0 ≤ p0.toInt ∧ p0.toInt ≤ 2147483647 := ⟨Int.le_trans (Int.le_refl _) t11, (ir_any _).2⟩
      refine lv_if_ne (tgt := 30) hx hb dX10_pace_25 (by decide) (fun g => absurd (by decide) g) (fun _ => ?_)
      refine lv_iconst (v := (-1)) hx hb dX10_pace_28 (by decide) ?_
      exact ret_i (v := (-1)) hx hb hr hlocks hS (hP.sub (ws' := [(h0, .inr (10, vL 67 F1)), (h_s, .inl (cI, 335, .inl f_s)), (h_paceAt, .inl (cI, 40, .inl f_paceAt)), (h_kindOf, .inl (cI, 4, .inl f_kindOf))]) [2, 3, 0, 1] rfl) (hD.sub (ws' := [(h0, .inr (10, vL 67 F1)), (h_s, .inl (cI, 335, .inl f_s)), (h_paceAt, .inl (cI, 40, .inl f_paceAt)), (h_kindOf, .inl (cI, 4, .inl f_kindOf))]) [2, 3, 0, 1] (by decide) rfl) dX10_pace_29 rfl (Nat.le_of_ble_eq_true rfl) (Nat.le_of_ble_eq_true rfl) ⟨F1, x_lineTime, x_linePace, x_inside, x_late, x_seed, f_paceAt, f_kindOf, (SAME.up eF1 SAME.rf (by decide)), (get_eq eF1), (get_ne eF1 (by decide) e_lineTime), (get_ne eF1 (by decide) e_linePace), (get_ne eF1 (by decide) e_inside), i_x_inside, (get_ne eF1 (by decide) e_late), i_x_late, (get_ne eF1 (by decide) e_seed), rfl⟩
    · have hP : va_P D vwCl [(h_paceAt, .inl (cI, 40, .inl f_paceAt)), (h_kindOf, .inl (cI, 4, .inl f_kindOf)), (h0, .inr (10, vL 67 F1)), (h_s, .inl (cI, 335, .inl f_s))] H := hP
      have hD : va_D A [(h_paceAt, .inl (cI, 40, .inl f_paceAt)), (h_kindOf, .inl (cI, 4, .inl f_kindOf)), (h0, .inr (10, vL 67 F1)), (h_s, .inl (cI, 335, .inl f_s))] := hD
      refine W.widen (k := 0) (n := 0) (Nat.le_of_ble_eq_true rfl) (Nat.le_of_ble_eq_true rfl) ?_
      have k18 : 0 ≤ p0.toInt ∧ p0.toInt ≤ 2147483647 := ⟨Int.le_trans (Int.le_refl _) t13, (ir_any _).2⟩
      have k19 : 0 ≤ p0.toInt ∧ p0.toInt ≤ 39 := ⟨k18.1, Int.le_trans t14 k8.2⟩
      have k20 : 0 ≤ v7.toInt ∧ v7.toInt ≤ 39 := ⟨Int.le_trans k18.1 t14, k8.2⟩
      have k21 : 1 ≤ v5.toInt ∧ v5.toInt ≤ 40 := ⟨lin_lo (lin_m bv7) k20.1 (by decide), k6.2⟩
      refine lv_if_ne (tgt := 30) hx hb dX10_pace_25 (by decide) (fun _ => ?_) (fun g => absurd g (by decide))
      refine lv_aload_n hx hb dX10_pace_30 rfl (lv_at hl 0 rfl) ?_
      have n22 : F1 25 = .ref h_paceAt := (get_ne eF1 (by decide) e_paceAt)
      have n23 : F1 26 = .ref h_kindOf := (get_ne eF1 (by decide) e_kindOf)
      have n24 : F1 31 = .int x_seed := (get_ne eF1 (by decide) e_seed)
      have n25 : F1 32 = .int x_kicks := (get_ne eF1 (by decide) e_kicks)
      refine call_Vv (wr := []) (As := []) (rest := []) hx hb hml hown hw (m_X10_starts l D cI cJ cB cP cM cZ h0 h_s h_paceAt h_kindOf F1 x_seed x_kicks f_s f_paceAt f_kindOf bs _ n2 n22 n23 n24 n25 i_x_kicks s_s_K0 s_s_US s_s_0 s_s_105 s_s_114 s_s_130 s_s_139 s_s_153 s_s_44 s_s_5 s_s_6 s_s_7) wV_X10_340_X10_starts dX10_pace_31 hK hP hD hS hA [2, 3, 0, 1] [] rfl rfl (by decide) (by decide) (by decide) 0 10 rfl rfl GG.fb hG.at hl.1 rfl (Nat.le_of_ble_eq_true rfl) ⟨(Nat.le_of_ble_eq_true rfl), (Nat.le_of_ble_eq_true rfl)⟩ ⟨(Nat.le_of_ble_eq_true rfl), (Nat.le_of_ble_eq_true rfl)⟩ (fun u H locs hp hP hD hS => ?_)
      obtain ⟨F27, y28, y29, y30, y31, y32, g33, g34, t35, t36, t37, t38, t39, t40, t41, t42, t43, rfl⟩ := hp
      have hP : va_P D vwCl [(h0, .inr (10, vL 67 F27)), (h_s, .inl (cI, 335, .inl f_s)), (h_paceAt, .inl (cI, 40, .inl g33)), (h_kindOf, .inl (cI, 4, .inl g34))] H := hP
      have hD : va_D A [(h0, .inr (10, vL 67 F27)), (h_s, .inl (cI, 335, .inl f_s)), (h_paceAt, .inl (cI, 40, .inl g33)), (h_kindOf, .inl (cI, 4, .inl g34))] := hD
      refine W.widen (k := 0) (n := 0) (Nat.le_of_ble_eq_true rfl) (Nat.le_of_ble_eq_true rfl) ?_
      refine lv_aload_n hx hb dX10_pace_34 rfl (lv_at hl 0 rfl) ?_
      have n45 : F27 25 = .ref h_paceAt := (SAME.at t35 (by decide) n22)
      refine get_f (D := D) (ci := 10) (v := .ref h_paceAt) (C := RX10) (T := TX10) (N := 67) hx hb hw inAX10 hown hK hP 0 rfl rfl 25 (by decide) (hw _ q_1286) (fun _ h9 => h9) n45 dX10_pace_35 ?_
      refine lv_iload_n hx hb dX10_pace_38 rfl (lv_at hl 1 rfl) ?_
      refine va_iald hx hb hK hP 2 0 rfl rfl (ix_k k19 (by decide) (by decide)) dX10_pace_39 ?_
      refine lv_topi (fun v46 ev46 => ?_)
      exact ret_i (v := v46) hx hb hr hlocks hS hP hD dX10_pace_40 rfl (Nat.le_of_ble_eq_true rfl) (Nat.le_of_ble_eq_true rfl) ⟨F27, y28, y29, y30, y31, y32, g33, g34, (SAME.tr (SAME.up eF1 SAME.rf (by decide)) t35 (by decide)), (SAME.at t35 (by decide) (get_eq eF1)), t36, t37, t39, t40, t41, t42, t43, rfl⟩
set_option maxHeartbeats 4000000 in
set_option maxRecDepth 100000 in
theorem m_X10_jumps (l : Launch) (D : va_G) (cI cJ cB cP cM cZ : ClassId) (h0 : Nat) (h_s : Nat) (h_paceAt : Nat) (h_kindOf : Nat) (Fh : Nat → Value) (x_lineTime : Int32) (x_linePace : Int32) (x_inside : Int32) (x_late : Int32) (x_seed : Int32) (x_kicks : Int32) (f_s : Nat → Int32) (f_paceAt : Nat → Int32) (f_kindOf : Nat → Int32) (p0 : Int32) (bs : Nat → Int32) (sz : Nat) (e_s : Fh 6 = .ref h_s) (e_paceAt : Fh 25 = .ref h_paceAt) (e_kindOf : Fh 26 = .ref h_kindOf) (e_lineTime : Fh 27 = .int x_lineTime) (e_linePace : Fh 28 = .int x_linePace) (e_inside : Fh 29 = .int x_inside) (i_x_inside : IR 0 15 x_inside) (e_late : Fh 30 = .int x_late) (i_x_late : IR 0 15 x_late) (e_seed : Fh 31 = .int x_seed) (e_kicks : Fh 32 = .int x_kicks) (i_x_kicks : IR 0 1 x_kicks) (s_s_K0 : KW 0 f_s) (s_s_US : US bs f_s) (s_s_0 : SG 0 0 0 40 f_s) (s_s_105 : SG 105 108 0 11 f_s) (s_s_114 : SG 114 114 0 5 f_s) (s_s_130 : SG 130 133 0 11 f_s) (s_s_139 : SG 139 139 0 5 f_s) (s_s_153 : SG 153 153 0 44 f_s) (s_s_44 : SG 44 55 0 9 f_s) (s_s_5 : SG 5 5 0 12 f_s) (s_s_6 : SG 6 6 0 12 f_s) (s_s_7 : SG 7 7 0 6 f_s) : CI l yX10_jumps cX10_jumps 2 (some .int) { frames := 4, cells := 0, slots := 0, locals := 94 } (GG D cI cJ cB cP cM cZ) D [(h0, .inr (10, vL 67 Fh)), (h_s, .inl (cI, 335, .inl f_s)), (h_paceAt, .inl (cI, 40, .inl f_paceAt)), (h_kindOf, .inl (cI, 4, .inl f_kindOf))] sz [.ref h0, .int p0] (fun (r : Int32) (u : va_W) => ∃ (Gh : Nat → Value) (y_lineTime : Int32) (y_linePace : Int32) (y_inside : Int32) (y_late : Int32) (y_seed : Int32) (g_paceAt : Nat → Int32) (g_kindOf : Nat → Int32), SAME [0, 27, 28, 29, 30, 31] Fh Gh ∧ Gh 0 = .int 0 ∧ Gh 27 = .int y_lineTime ∧ Gh 28 = .int y_linePace ∧ Gh 29 = .int y_inside ∧ IR 0 15 y_inside ∧ Gh 30 = .int y_late ∧ IR 0 15 y_late ∧ Gh 31 = .int y_seed ∧ u = [(h0, .inr (10, vL 67 Gh)), (h_s, .inl (cI, 335, .inl f_s)), (h_paceAt, .inl (cI, 40, .inl g_paceAt)), (h_kindOf, .inl (cI, 4, .inl g_kindOf))]) := by
  refine CI_mk (by decide) (Nat.le_of_ble_eq_true rfl) ?_
  intro p e s m below meth c A ls E hAe hG hsz hP hD hA hS hl
  obtain ⟨hx, hb, hr, hw, hown, hlocks, hml, hnm⟩ := E
  have hK := hG.1
  have i_x_inside : 0 ≤ x_inside.toInt ∧ x_inside.toInt ≤ 15 := i_x_inside
  have i_x_late : 0 ≤ x_late.toInt ∧ x_late.toInt ≤ 15 := i_x_late
  have i_x_kicks : 0 ≤ x_kicks.toInt ∧ x_kicks.toInt ≤ 1 := i_x_kicks
  have hl : lv_has ls 2 [(0, .ref h0), (1, .int p0)] := hl
  refine lv_aload_n hx hb dX10_jumps_0 rfl (lv_at hl 0 rfl) ?_
  refine lv_iconst (v := 0) hx hb dX10_jumps_1 (by decide) ?_
  refine put_f (D := D) (ci := 10) (v := .int 0) (ty := .int) (C := RX10) (T := TX10) (N := 67) hx hb hw inAX10 tyX10 tyX10_ok nmX10 hown hK hP hD hS 0 rfl rfl 0 (by decide) (hw _ q_1261) (fun _ h9 => h9) rfl (by decide +kernel) rfl rfl dX10_jumps_2 (fun H locs F1 eF1 hP hD hS => ?_)
  have hP : va_P D vwCl [(h0, .inr (10, vL 67 F1)), (h_s, .inl (cI, 335, .inl f_s)), (h_paceAt, .inl (cI, 40, .inl f_paceAt)), (h_kindOf, .inl (cI, 4, .inl f_kindOf))] H := hP
  have hD : va_D A [(h0, .inr (10, vL 67 F1)), (h_s, .inl (cI, 335, .inl f_s)), (h_paceAt, .inl (cI, 40, .inl f_paceAt)), (h_kindOf, .inl (cI, 4, .inl f_kindOf))] := hD
  refine lv_aload_n hx hb dX10_jumps_5 rfl (lv_at hl 0 rfl) ?_
  have n2 : F1 6 = .ref h_s := (get_ne eF1 (by decide) e_s)
  refine call_Vi (wr := [(h_paceAt, .inl (cI, 40, .inl f_paceAt)), (h_kindOf, .inl (cI, 4, .inl f_kindOf))]) (As := []) (rest := []) hx hb hml hown hw (m_X10_hasCrew l D cI cJ cB cP cM cZ h0 h_s F1 f_s bs _ n2 s_s_K0 s_s_US s_s_0 s_s_105 s_s_114 s_s_130 s_s_139 s_s_153 s_s_44 s_s_5 s_s_6 s_s_7) wV_X10_281_X10_hasCrew dX10_jumps_6 hK hP hD hS hA [0, 1] [2, 3] rfl rfl (by decide) (by decide) (by decide) 0 10 rfl rfl GG.fb hG.at hl.1 rfl (Nat.le_of_ble_eq_true rfl) ⟨(Nat.le_of_ble_eq_true rfl), (Nat.le_of_ble_eq_true rfl)⟩ ⟨(Nat.le_of_ble_eq_true rfl), (Nat.le_of_ble_eq_true rfl)⟩ (fun r3 u H locs hp hP hD hS => ?_)
  rcases hp with ⟨rfl, rfl⟩ | ⟨rfl, rfl⟩
  · have hP : va_P D vwCl [(h_paceAt, .inl (cI, 40, .inl f_paceAt)), (h_kindOf, .inl (cI, 4, .inl f_kindOf)), (h0, .inr (10, vL 67 F1)), (h_s, .inl (cI, 335, .inl f_s))] H := hP
    have hD : va_D A [(h_paceAt, .inl (cI, 40, .inl f_paceAt)), (h_kindOf, .inl (cI, 4, .inl f_kindOf)), (h0, .inr (10, vL 67 F1)), (h_s, .inl (cI, 335, .inl f_s))] := hD
    refine W.widen (k := 0) (n := 0) (Nat.le_of_ble_eq_true rfl) (Nat.le_of_ble_eq_true rfl) ?_
    refine lv_if_eq (tgt := 21) hx hb dX10_jumps_9 (by decide) (fun _ => ?_) (fun g => absurd (by decide) g)
    refine lv_iconst (v := (-1)) hx hb dX10_jumps_21 (by decide) ?_
    exact ret_i (v := (-1)) hx hb hr hlocks hS (hP.sub (ws' := [(h0, .inr (10, vL 67 F1)), (h_s, .inl (cI, 335, .inl f_s)), (h_paceAt, .inl (cI, 40, .inl f_paceAt)), (h_kindOf, .inl (cI, 4, .inl f_kindOf))]) [2, 3, 0, 1] rfl) (hD.sub (ws' := [(h0, .inr (10, vL 67 F1)), (h_s, .inl (cI, 335, .inl f_s)), (h_paceAt, .inl (cI, 40, .inl f_paceAt)), (h_kindOf, .inl (cI, 4, .inl f_kindOf))]) [2, 3, 0, 1] (by decide) rfl) dX10_jumps_22 rfl (Nat.le_of_ble_eq_true rfl) (Nat.le_of_ble_eq_true rfl) ⟨F1, x_lineTime, x_linePace, x_inside, x_late, x_seed, f_paceAt, f_kindOf, (SAME.up eF1 SAME.rf (by decide)), (get_eq eF1), (get_ne eF1 (by decide) e_lineTime), (get_ne eF1 (by decide) e_linePace), (get_ne eF1 (by decide) e_inside), i_x_inside, (get_ne eF1 (by decide) e_late), i_x_late, (get_ne eF1 (by decide) e_seed), rfl⟩
  · have hP : va_P D vwCl [(h_paceAt, .inl (cI, 40, .inl f_paceAt)), (h_kindOf, .inl (cI, 4, .inl f_kindOf)), (h0, .inr (10, vL 67 F1)), (h_s, .inl (cI, 335, .inl f_s))] H := hP
    have hD : va_D A [(h_paceAt, .inl (cI, 40, .inl f_paceAt)), (h_kindOf, .inl (cI, 4, .inl f_kindOf)), (h0, .inr (10, vL 67 F1)), (h_s, .inl (cI, 335, .inl f_s))] := hD
    refine W.widen (k := 0) (n := 0) (Nat.le_of_ble_eq_true rfl) (Nat.le_of_ble_eq_true rfl) ?_
    refine lv_if_eq (tgt := 21) hx hb dX10_jumps_9 (by decide) (fun g => absurd g (by decide)) (fun _ => ?_)
    refine lv_iload_n hx hb dX10_jumps_12 rfl (lv_at hl 1 rfl) ?_
    refine lv_iconst (v := 0) hx hb dX10_jumps_13 (by decide) ?_
    refine lv_iconst (v := 3) hx hb dX10_jumps_14 (by decide) ?_
    refine call_Si (wr := [(h_paceAt, .inl (cI, 40, .inl f_paceAt)), (h_kindOf, .inl (cI, 4, .inl f_kindOf)), (h0, .inr (10, vL 67 F1)), (h_s, .inl (cI, 335, .inl f_s))]) (As := [.int p0, .int 0, .int 3]) (rest := []) hx hb hml hown hw (m_X10_isIn l D cI cJ cB cP cM cZ p0 0 3 _ ) wS_X10_211_X10_isIn dX10_jumps_15 hP hD hS hA [] [0, 1, 2, 3] rfl rfl (by decide) (by decide) (by decide) GG.fb hG.at hl.1 rfl (Nat.le_of_ble_eq_true rfl) ⟨(Nat.le_of_ble_eq_true rfl), (Nat.le_of_ble_eq_true rfl)⟩ ⟨(Nat.le_of_ble_eq_true rfl), (Nat.le_of_ble_eq_true rfl)⟩ (fun r5 u H locs hp hP hD hS => ?_)
    have zl0 : (0 : Int32).toInt = 0 := by decide
    have zl3 : (3 : Int32).toInt = 3 := by decide
    rcases hp with ⟨t6, rfl, rfl⟩ | ⟨t7, t8, rfl, rfl⟩ | ⟨t9, t10, rfl, rfl⟩
    · have hP : va_P D vwCl [(h_paceAt, .inl (cI, 40, .inl f_paceAt)), (h_kindOf, .inl (cI, 4, .inl f_kindOf)), (h0, .inr (10, vL 67 F1)), (h_s, .inl (cI, 335, .inl f_s))] H := hP
      have hD : va_D A [(h_paceAt, .inl (cI, 40, .inl f_paceAt)), (h_kindOf, .inl (cI, 4, .inl f_kindOf)), (h0, .inr (10, vL 67 F1)), (h_s, .inl (cI, 335, .inl f_s))] := hD
      refine W.widen (k := 0) (n := 0) (Nat.le_of_ble_eq_true rfl) (Nat.le_of_ble_eq_true rfl) ?_
      have k12 : (-2147483648) ≤ p0.toInt ∧ p0.toInt ≤ (-1) := ⟨(ir_any _).1, up_lt t6 (Int.le_refl _) (by decide)⟩
      refine lv_if_ne (tgt := 23) hx hb dX10_jumps_18 (by decide) (fun g => absurd (by decide) g) (fun _ => ?_)
      refine lv_iconst (v := (-1)) hx hb dX10_jumps_21 (by decide) ?_
      exact ret_i (v := (-1)) hx hb hr hlocks hS (hP.sub (ws' := [(h0, .inr (10, vL 67 F1)), (h_s, .inl (cI, 335, .inl f_s)), (h_paceAt, .inl (cI, 40, .inl f_paceAt)), (h_kindOf, .inl (cI, 4, .inl f_kindOf))]) [2, 3, 0, 1] rfl) (hD.sub (ws' := [(h0, .inr (10, vL 67 F1)), (h_s, .inl (cI, 335, .inl f_s)), (h_paceAt, .inl (cI, 40, .inl f_paceAt)), (h_kindOf, .inl (cI, 4, .inl f_kindOf))]) [2, 3, 0, 1] (by decide) rfl) dX10_jumps_22 rfl (Nat.le_of_ble_eq_true rfl) (Nat.le_of_ble_eq_true rfl) ⟨F1, x_lineTime, x_linePace, x_inside, x_late, x_seed, f_paceAt, f_kindOf, (SAME.up eF1 SAME.rf (by decide)), (get_eq eF1), (get_ne eF1 (by decide) e_lineTime), (get_ne eF1 (by decide) e_linePace), (get_ne eF1 (by decide) e_inside), i_x_inside, (get_ne eF1 (by decide) e_late), i_x_late, (get_ne eF1 (by decide) e_seed), rfl⟩
    · have hP : va_P D vwCl [(h_paceAt, .inl (cI, 40, .inl f_paceAt)), (h_kindOf, .inl (cI, 4, .inl f_kindOf)), (h0, .inr (10, vL 67 F1)), (h_s, .inl (cI, 335, .inl f_s))] H := hP
      have hD : va_D A [(h_paceAt, .inl (cI, 40, .inl f_paceAt)), (h_kindOf, .inl (cI, 4, .inl f_kindOf)), (h0, .inr (10, vL 67 F1)), (h_s, .inl (cI, 335, .inl f_s))] := hD
      refine W.widen (k := 0) (n := 0) (Nat.le_of_ble_eq_true rfl) (Nat.le_of_ble_eq_true rfl) ?_
      have k13 : 0 ≤ p0.toInt ∧ p0.toInt ≤ 2147483647 := ⟨Int.le_trans (Int.le_refl _) t7, (ir_any _).2⟩
      have k14 : 4 ≤ p0.toInt ∧ p0.toInt ≤ 2147483647 := ⟨lo_lt t8 (Int.le_refl _) (by decide), k13.2⟩
      refine lv_if_ne (tgt := 23) hx hb dX10_jumps_18 (by decide) (fun g => absurd (by decide) g) (fun _ => ?_)
      refine lv_iconst (v := (-1)) hx hb dX10_jumps_21 (by decide) ?_
      exact ret_i (v := (-1)) hx hb hr hlocks hS (hP.sub (ws' := [(h0, .inr (10, vL 67 F1)), (h_s, .inl (cI, 335, .inl f_s)), (h_paceAt, .inl (cI, 40, .inl f_paceAt)), (h_kindOf, .inl (cI, 4, .inl f_kindOf))]) [2, 3, 0, 1] rfl) (hD.sub (ws' := [(h0, .inr (10, vL 67 F1)), (h_s, .inl (cI, 335, .inl f_s)), (h_paceAt, .inl (cI, 40, .inl f_paceAt)), (h_kindOf, .inl (cI, 4, .inl f_kindOf))]) [2, 3, 0, 1] (by decide) rfl) dX10_jumps_22 rfl (Nat.le_of_ble_eq_true rfl) (Nat.le_of_ble_eq_true rfl) ⟨F1, x_lineTime, x_linePace, x_inside, x_late, x_seed, f_paceAt, f_kindOf, (SAME.up eF1 SAME.rf (by decide)), (get_eq eF1), (get_ne eF1 (by decide) e_lineTime), (get_ne eF1 (by decide) e_linePace), (get_ne eF1 (by decide) e_inside), i_x_inside, (get_ne eF1 (by decide) e_late), i_x_late, (get_ne eF1 (by decide) e_seed), rfl⟩
    · have hP : va_P D vwCl [(h_paceAt, .inl (cI, 40, .inl f_paceAt)), (h_kindOf, .inl (cI, 4, .inl f_kindOf)), (h0, .inr (10, vL 67 F1)), (h_s, .inl (cI, 335, .inl f_s))] H := hP
      have hD : va_D A [(h_paceAt, .inl (cI, 40, .inl f_paceAt)), (h_kindOf, .inl (cI, 4, .inl f_kindOf)), (h0, .inr (10, vL 67 F1)), (h_s, .inl (cI, 335, .inl f_s))] := hD
      refine W.widen (k := 0) (n := 0) (Nat.le_of_ble_eq_true rfl) (Nat.le_of_ble_eq_true rfl) ?_
      have k15 : 0 ≤ p0.toInt ∧ p0.toInt ≤ 2147483647 := ⟨Int.le_trans (Int.le_refl _) t9, (ir_any _).2⟩
      have k16 : 0 ≤ p0.toInt ∧ p0.toInt ≤ 3 := ⟨k15.1, Int.le_trans t10 (Int.le_refl _)⟩
      refine lv_if_ne (tgt := 23) hx hb dX10_jumps_18 (by decide) (fun _ => ?_) (fun g => absurd g (by decide))
      refine lv_aload_n hx hb dX10_jumps_23 rfl (lv_at hl 0 rfl) ?_
      have n17 : F1 25 = .ref h_paceAt := (get_ne eF1 (by decide) e_paceAt)
      have n18 : F1 26 = .ref h_kindOf := (get_ne eF1 (by decide) e_kindOf)
      have n19 : F1 31 = .int x_seed := (get_ne eF1 (by decide) e_seed)
      have n20 : F1 32 = .int x_kicks := (get_ne eF1 (by decide) e_kicks)
      refine call_Vv (wr := []) (As := []) (rest := []) hx hb hml hown hw (m_X10_starts l D cI cJ cB cP cM cZ h0 h_s h_paceAt h_kindOf F1 x_seed x_kicks f_s f_paceAt f_kindOf bs _ n2 n17 n18 n19 n20 i_x_kicks s_s_K0 s_s_US s_s_0 s_s_105 s_s_114 s_s_130 s_s_139 s_s_153 s_s_44 s_s_5 s_s_6 s_s_7) wV_X10_340_X10_starts dX10_jumps_24 hK hP hD hS hA [2, 3, 0, 1] [] rfl rfl (by decide) (by decide) (by decide) 0 10 rfl rfl GG.fb hG.at hl.1 rfl (Nat.le_of_ble_eq_true rfl) ⟨(Nat.le_of_ble_eq_true rfl), (Nat.le_of_ble_eq_true rfl)⟩ ⟨(Nat.le_of_ble_eq_true rfl), (Nat.le_of_ble_eq_true rfl)⟩ (fun u H locs hp hP hD hS => ?_)
      obtain ⟨F22, y23, y24, y25, y26, y27, g28, g29, t30, t31, t32, t33, t34, t35, t36, t37, t38, rfl⟩ := hp
      have hP : va_P D vwCl [(h0, .inr (10, vL 67 F22)), (h_s, .inl (cI, 335, .inl f_s)), (h_paceAt, .inl (cI, 40, .inl g28)), (h_kindOf, .inl (cI, 4, .inl g29))] H := hP
      have hD : va_D A [(h0, .inr (10, vL 67 F22)), (h_s, .inl (cI, 335, .inl f_s)), (h_paceAt, .inl (cI, 40, .inl g28)), (h_kindOf, .inl (cI, 4, .inl g29))] := hD
      refine W.widen (k := 0) (n := 0) (Nat.le_of_ble_eq_true rfl) (Nat.le_of_ble_eq_true rfl) ?_
      refine lv_aload_n hx hb dX10_jumps_27 rfl (lv_at hl 0 rfl) ?_
      have n40 : F22 26 = .ref h_kindOf := (SAME.at t30 (by decide) n18)
      refine get_f (D := D) (ci := 10) (v := .ref h_kindOf) (C := RX10) (T := TX10) (N := 67) hx hb hw inAX10 hown hK hP 0 rfl rfl 26 (by decide) (hw _ q_1287) (fun _ h9 => h9) n40 dX10_jumps_28 ?_
      refine lv_iload_n hx hb dX10_jumps_31 rfl (lv_at hl 1 rfl) ?_
      refine va_iald hx hb hK hP 3 0 rfl rfl (ix_k k16 (by decide) (by decide)) dX10_jumps_32 ?_
      refine lv_topi (fun v41 ev41 => ?_)
      exact ret_i (v := v41) hx hb hr hlocks hS hP hD dX10_jumps_33 rfl (Nat.le_of_ble_eq_true rfl) (Nat.le_of_ble_eq_true rfl) ⟨F22, y23, y24, y25, y26, y27, g28, g29, (SAME.tr (SAME.up eF1 SAME.rf (by decide)) t30 (by decide)), (SAME.at t30 (by decide) (get_eq eF1)), t31, t32, t34, t35, t36, t37, t38, rfl⟩
def fn_X10_inBend (f_s : Nat → Int32) (p0 : Int32) (p1 : Int32) (p2 : Int32) (p3 : Int32) (p4 : Int32) : Int32 := (if (f_s 7) ≤ (0 : Int32) then (fn_X10_bounded ((((((p1 + (((f_s ((56 : Int32) + p0).toNatClampNeg) * p2) / (100 : Int32))) - ((3 : Int32) * (fn_X10_off p4 (f_s ((68 : Int32) + p0).toNatClampNeg)))) - ((2 : Int32) * (fn_X10_off p4 p3))) - (f_s 3)) - ((f_s 115) / (5 : Int32))) - (0 : Int32))) else (fn_X10_bounded ((((((p1 + (((f_s ((56 : Int32) + p0).toNatClampNeg) * p2) / (100 : Int32))) - ((3 : Int32) * (fn_X10_off p4 (f_s ((68 : Int32) + p0).toNatClampNeg)))) - ((2 : Int32) * (fn_X10_off p4 p3))) - (f_s 3)) - ((f_s 115) / (5 : Int32))) - (fn_X10_takenBy f_s (f_s 114)))))
set_option maxHeartbeats 4000000 in
set_option maxRecDepth 100000 in
theorem m_X10_inBend (l : Launch) (D : va_G) (cI cJ cB cP cM cZ : ClassId) (h0 : Nat) (h_s : Nat) (Fh : Nat → Value) (f_s : Nat → Int32) (p0 : Int32) (p1 : Int32) (p2 : Int32) (p3 : Int32) (p4 : Int32) (bs : Nat → Int32) (sz : Nat) (e_s : Fh 6 = .ref h_s) (s_s_K0 : KW 0 f_s) (s_s_US : US bs f_s) (s_s_0 : SG 0 0 0 40 f_s) (s_s_105 : SG 105 108 0 11 f_s) (s_s_114 : SG 114 114 0 5 f_s) (s_s_130 : SG 130 133 0 11 f_s) (s_s_139 : SG 139 139 0 5 f_s) (s_s_153 : SG 153 153 0 44 f_s) (s_s_44 : SG 44 55 0 9 f_s) (s_s_5 : SG 5 5 0 12 f_s) (s_s_6 : SG 6 6 0 12 f_s) (s_s_7 : SG 7 7 0 6 f_s) (i_p0 : IR 0 11 p0) : CI l yX10_inBend cX10_inBend 7 (some .int) { frames := 2, cells := 0, slots := 0, locals := 42 } (GG D cI cJ cB cP cM cZ) D [(h0, .inr (10, vL 67 Fh)), (h_s, .inl (cI, 335, .inl f_s))] sz [.ref h0, .int p0, .int p1, .int p2, .int p3, .int p4] (fun (r : Int32) (u : va_W) => IR 10 250 r ∧ r = fn_X10_inBend f_s p0 p1 p2 p3 p4 ∧ u = [(h0, .inr (10, vL 67 Fh)), (h_s, .inl (cI, 335, .inl f_s))]) := by
  refine CI_mk (by decide) (Nat.le_of_ble_eq_true rfl) ?_
  intro p e s m below meth c A ls E hAe hG hsz hP hD hA hS hl
  obtain ⟨hx, hb, hr, hw, hown, hlocks, hml, hnm⟩ := E
  have hK := hG.1
  have i_p0 : 0 ≤ p0.toInt ∧ p0.toInt ≤ 11 := i_p0
  have hl : lv_has ls 7 [(0, .ref h0), (1, .int p0), (2, .int p1), (3, .int p2), (4, .int p3), (5, .int p4)] := hl
  refine lv_iload_n hx hb dX10_inBend_0 rfl (lv_at hl 2 rfl) ?_
  refine lv_aload_n hx hb dX10_inBend_1 rfl (lv_at hl 0 rfl) ?_
  refine get_f (D := D) (ci := 10) (v := .ref h_s) (C := RX10) (T := TX10) (N := 67) hx hb hw inAX10 hown hK hP 0 rfl rfl 6 (by decide) (hw _ q_1267) (fun _ h9 => h9) e_s dX10_inBend_2 ?_
  refine lv_bipush (v := 56) hx hb dX10_inBend_5 (by decide) ?_
  refine lv_iload_n hx hb dX10_inBend_7 rfl (lv_at hl 1 rfl) ?_
  refine lv_iadd hx hb dX10_inBend_8 ?_
  refine lv_topi (fun v1 ev1 => ?_)
  have bv1 : v1.toInt = 56 + p0.toInt := by rw [ev1]; exact add_k rfl rfl ⟨Int.le_refl _, Int.le_refl _⟩ i_p0 (by decide)
  have k2 : 56 ≤ v1.toInt ∧ v1.toInt ≤ 67 := add_r bv1 ⟨Int.le_refl _, Int.le_refl _⟩ i_p0 (by decide)
  refine va_iald hx hb hK hP 1 0 rfl rfl (ix_k k2 (by decide) (by decide)) dX10_inBend_9 ?_
  refine lv_topi (fun v3 ev3 => ?_)
  refine lv_iload_n hx hb dX10_inBend_10 rfl (lv_at hl 3 rfl) ?_
  refine lv_imul hx hb dX10_inBend_11 ?_
  refine lv_topi (fun v4 ev4 => ?_)
  refine lv_bipush (v := 100) hx hb dX10_inBend_12 (by decide) ?_
  refine lv_idiv hx hb dX10_inBend_14 (by decide) ?_
  refine lv_topi (fun v5 ev5 => ?_)
  refine lv_iadd hx hb dX10_inBend_15 ?_
  refine lv_topi (fun v6 ev6 => ?_)
  refine lv_iconst (v := 3) hx hb dX10_inBend_16 (by decide) ?_
  refine lv_iload hx hb dX10_inBend_17 (lv_at hl 5 rfl) ?_
  refine lv_aload_n hx hb dX10_inBend_19 rfl (lv_at hl 0 rfl) ?_
  refine get_f (D := D) (ci := 10) (v := .ref h_s) (C := RX10) (T := TX10) (N := 67) hx hb hw inAX10 hown hK hP 0 rfl rfl 6 (by decide) (hw _ q_1267) (fun _ h9 => h9) e_s dX10_inBend_20 ?_
  refine lv_bipush (v := 68) hx hb dX10_inBend_23 (by decide) ?_
  refine lv_iload_n hx hb dX10_inBend_25 rfl (lv_at hl 1 rfl) ?_
  refine lv_iadd hx hb dX10_inBend_26 ?_
  refine lv_topi (fun v7 ev7 => ?_)
  have bv7 : v7.toInt = 68 + p0.toInt := by rw [ev7]; exact add_k rfl rfl ⟨Int.le_refl _, Int.le_refl _⟩ i_p0 (by decide)
  have k8 : 68 ≤ v7.toInt ∧ v7.toInt ≤ 79 := add_r bv7 ⟨Int.le_refl _, Int.le_refl _⟩ i_p0 (by decide)
  refine va_iald hx hb hK hP 1 0 rfl rfl (ix_k k8 (by decide) (by decide)) dX10_inBend_27 ?_
  refine lv_topi (fun v9 ev9 => ?_)
  refine call_Si (wr := [(h0, .inr (10, vL 67 Fh)), (h_s, .inl (cI, 335, .inl f_s))]) (As := [.int p4, .int v9]) (rest := [.int 3, .int v6]) hx hb hml hown hw (m_X10_off l D cI cJ cB cP cM cZ p4 v9 _ ) wS_X10_295_X10_off dX10_inBend_28 hP hD hS hA [] [0, 1] rfl rfl (by decide) (by decide) (by decide) GG.fb hG.at hl.1 rfl (Nat.le_of_ble_eq_true rfl) ⟨(Nat.le_of_ble_eq_true rfl), (Nat.le_of_ble_eq_true rfl)⟩ ⟨(Nat.le_of_ble_eq_true rfl), (Nat.le_of_ble_eq_true rfl)⟩ (fun r10 u H locs hp hP hD hS => ?_)
  obtain ⟨t11, rfl⟩ := hp
  have hP : va_P D vwCl [(h0, .inr (10, vL 67 Fh)), (h_s, .inl (cI, 335, .inl f_s))] H := hP
  have hD : va_D A [(h0, .inr (10, vL 67 Fh)), (h_s, .inl (cI, 335, .inl f_s))] := hD
  refine W.widen (k := 0) (n := 0) (Nat.le_of_ble_eq_true rfl) (Nat.le_of_ble_eq_true rfl) ?_
  refine lv_imul hx hb dX10_inBend_31 ?_
  refine lv_topi (fun v13 ev13 => ?_)
  refine lv_isub hx hb dX10_inBend_32 ?_
  refine lv_topi (fun v14 ev14 => ?_)
  refine lv_iconst (v := 2) hx hb dX10_inBend_33 (by decide) ?_
  refine lv_iload hx hb dX10_inBend_34 (lv_at hl 5 rfl) ?_
  refine lv_iload hx hb dX10_inBend_36 (lv_at hl 4 rfl) ?_
  refine call_Si (wr := [(h0, .inr (10, vL 67 Fh)), (h_s, .inl (cI, 335, .inl f_s))]) (As := [.int p4, .int p3]) (rest := [.int 2, .int v14]) hx hb hml hown hw (m_X10_off l D cI cJ cB cP cM cZ p4 p3 _ ) wS_X10_295_X10_off dX10_inBend_38 hP hD hS hA [] [0, 1] rfl rfl (by decide) (by decide) (by decide) GG.fb hG.at hl.1 rfl (Nat.le_of_ble_eq_true rfl) ⟨(Nat.le_of_ble_eq_true rfl), (Nat.le_of_ble_eq_true rfl)⟩ ⟨(Nat.le_of_ble_eq_true rfl), (Nat.le_of_ble_eq_true rfl)⟩ (fun r15 u H locs hp hP hD hS => ?_)
  obtain ⟨t16, rfl⟩ := hp
  have hP : va_P D vwCl [(h0, .inr (10, vL 67 Fh)), (h_s, .inl (cI, 335, .inl f_s))] H := hP
  have hD : va_D A [(h0, .inr (10, vL 67 Fh)), (h_s, .inl (cI, 335, .inl f_s))] := hD
  refine W.widen (k := 0) (n := 0) (Nat.le_of_ble_eq_true rfl) (Nat.le_of_ble_eq_true rfl) ?_
  refine lv_imul hx hb dX10_inBend_41 ?_
  refine lv_topi (fun v18 ev18 => ?_)
  refine lv_isub hx hb dX10_inBend_42 ?_
  refine lv_topi (fun v19 ev19 => ?_)
  refine lv_aload_n hx hb dX10_inBend_43 rfl (lv_at hl 0 rfl) ?_
  refine get_f (D := D) (ci := 10) (v := .ref h_s) (C := RX10) (T := TX10) (N := 67) hx hb hw inAX10 hown hK hP 0 rfl rfl 6 (by decide) (hw _ q_1267) (fun _ h9 => h9) e_s dX10_inBend_44 ?_
  refine lv_iconst (v := 3) hx hb dX10_inBend_47 (by decide) ?_
  refine iald_n hx hb hK hP 1 0 rfl rfl 3 rfl (Nat.le_of_ble_eq_true rfl) (Nat.le_of_ble_eq_true rfl) rfl dX10_inBend_48 ?_
  refine lv_topi (fun v20 ev20 => ?_)
  refine lv_isub hx hb dX10_inBend_49 ?_
  refine lv_topi (fun v21 ev21 => ?_)
  refine lv_aload_n hx hb dX10_inBend_50 rfl (lv_at hl 0 rfl) ?_
  refine get_f (D := D) (ci := 10) (v := .ref h_s) (C := RX10) (T := TX10) (N := 67) hx hb hw inAX10 hown hK hP 0 rfl rfl 6 (by decide) (hw _ q_1267) (fun _ h9 => h9) e_s dX10_inBend_51 ?_
  refine lv_bipush (v := 115) hx hb dX10_inBend_54 (by decide) ?_
  refine iald_n hx hb hK hP 1 0 rfl rfl 115 rfl (Nat.le_of_ble_eq_true rfl) (Nat.le_of_ble_eq_true rfl) rfl dX10_inBend_56 ?_
  refine lv_topi (fun v22 ev22 => ?_)
  refine lv_iconst (v := 5) hx hb dX10_inBend_57 (by decide) ?_
  refine lv_idiv hx hb dX10_inBend_58 (by decide) ?_
  refine lv_topi (fun v23 ev23 => ?_)
  refine lv_isub hx hb dX10_inBend_59 ?_
  refine lv_topi (fun v24 ev24 => ?_)
  refine lv_istore (lv' := [(6, .int v24), (0, .ref h0), (1, .int p0), (2, .int p1), (3, .int p2), (4, .int p3), (5, .int p4)]) hx hb dX10_inBend_60 hl (by decide) rfl (fun ls hl => ?_)
  refine lv_iload hx hb dX10_inBend_62 (lv_at hl 0 rfl) ?_
  refine lv_aload_n hx hb dX10_inBend_64 rfl (lv_at hl 1 rfl) ?_
  refine get_f (D := D) (ci := 10) (v := .ref h_s) (C := RX10) (T := TX10) (N := 67) hx hb hw inAX10 hown hK hP 0 rfl rfl 6 (by decide) (hw _ q_1267) (fun _ h9 => h9) e_s dX10_inBend_65 ?_
  refine lv_bipush (v := 7) hx hb dX10_inBend_68 (by decide) ?_
  refine iald_n hx hb hK hP 1 0 rfl rfl 7 rfl (Nat.le_of_ble_eq_true rfl) (Nat.le_of_ble_eq_true rfl) rfl dX10_inBend_70 ?_
  refine lv_topi (fun v25 ev25 => ?_)
  have k26 : 0 ≤ v25.toInt ∧ v25.toInt ≤ 6 := by rw [ev25]; exact s_s_7.atN 7 (by decide) (by decide)
  refine lv_if_le (tgt := 88) hx hb dX10_inBend_71 (by decide) (fun c27 => ?_) (fun c27 => ?_)
  · have dc27 : v25.toInt ≤ 0 := le_i (a := v25.toInt) (b := 0) rfl rfl c27
    have k28 : 0 ≤ v25.toInt ∧ v25.toInt ≤ 0 := ⟨k26.1, Int.le_trans dc27 (Int.le_refl _)⟩
    refine lv_iconst (v := 0) hx hb dX10_inBend_88 (by decide) ?_
    refine lv_isub hx hb dX10_inBend_89 ?_
    refine lv_topi (fun v29 ev29 => ?_)
    have bv29 : v29.toInt = v24.toInt - 0 := by rw [ev29]; exact sub_k rfl rfl (ir_any _) ⟨Int.le_refl _, Int.le_refl _⟩ (by decide)
    have k30 : (-2147483648) ≤ v29.toInt ∧ v29.toInt ≤ 2147483647 := sub_r bv29 (ir_any _) ⟨Int.le_refl _, Int.le_refl _⟩ (by decide)
    refine call_Si (wr := [(h0, .inr (10, vL 67 Fh)), (h_s, .inl (cI, 335, .inl f_s))]) (As := [.int v29]) (rest := []) hx hb hml hown hw (m_X10_bounded l D cI cJ cB cP cM cZ v29 _ ) wS_X10_311_X10_bounded dX10_inBend_90 hP hD hS hA [] [0, 1] rfl rfl (by decide) (by decide) (by decide) GG.fb hG.at hl.1 rfl (Nat.le_of_ble_eq_true rfl) ⟨(Nat.le_of_ble_eq_true rfl), (Nat.le_of_ble_eq_true rfl)⟩ ⟨(Nat.le_of_ble_eq_true rfl), (Nat.le_of_ble_eq_true rfl)⟩ (fun r31 u H locs hp hP hD hS => ?_)
    obtain ⟨t32, t33, rfl⟩ := hp
    have hP : va_P D vwCl [(h0, .inr (10, vL 67 Fh)), (h_s, .inl (cI, 335, .inl f_s))] H := hP
    have hD : va_D A [(h0, .inr (10, vL 67 Fh)), (h_s, .inl (cI, 335, .inl f_s))] := hD
    refine W.widen (k := 0) (n := 0) (Nat.le_of_ble_eq_true rfl) (Nat.le_of_ble_eq_true rfl) ?_
    exact ret_i (v := r31) hx hb hr hlocks hS hP hD dX10_inBend_93 rfl (Nat.le_of_ble_eq_true rfl) (Nat.le_of_ble_eq_true rfl) ⟨t32, (by subst_vars; unfold fn_X10_inBend; rw [if_pos c27]), rfl⟩
  · have dc27 : 0 < v25.toInt := nle_i (a := v25.toInt) (b := 0) rfl rfl c27
    have k35 : 1 ≤ v25.toInt ∧ v25.toInt ≤ 6 := ⟨lo_lt dc27 (Int.le_refl _) (by decide), k26.2⟩
    refine lv_aload_n hx hb dX10_inBend_74 rfl (lv_at hl 1 rfl) ?_
    refine lv_aload_n hx hb dX10_inBend_75 rfl (lv_at hl 1 rfl) ?_
    refine get_f (D := D) (ci := 10) (v := .ref h_s) (C := RX10) (T := TX10) (N := 67) hx hb hw inAX10 hown hK hP 0 rfl rfl 6 (by decide) (hw _ q_1267) (fun _ h9 => h9) e_s dX10_inBend_76 ?_
    refine lv_bipush (v := 114) hx hb dX10_inBend_79 (by decide) ?_
    refine iald_n hx hb hK hP 1 0 rfl rfl 114 rfl (Nat.le_of_ble_eq_true rfl) (Nat.le_of_ble_eq_true rfl) rfl dX10_inBend_81 ?_
    refine lv_topi (fun v36 ev36 => ?_)
    have k37 : 0 ≤ v36.toInt ∧ v36.toInt ≤ 5 := by rw [ev36]; exact s_s_114.atN 114 (by decide) (by decide)
    refine call_Vi (wr := []) (As := [.int v36]) (rest := [.int v24]) hx hb hml hown hw (m_X10_takenBy l D cI cJ cB cP cM cZ h0 h_s Fh f_s v36 bs _ e_s s_s_K0 s_s_US s_s_0 s_s_105 s_s_114 s_s_130 s_s_139 s_s_153 s_s_44 s_s_5 s_s_6 s_s_7 k37) wV_X10_301_X10_takenBy dX10_inBend_82 hK hP hD hS hA [0, 1] [] rfl rfl (by decide) (by decide) (by decide) 0 10 rfl rfl GG.fb hG.at hl.1 rfl (Nat.le_of_ble_eq_true rfl) ⟨(Nat.le_of_ble_eq_true rfl), (Nat.le_of_ble_eq_true rfl)⟩ ⟨(Nat.le_of_ble_eq_true rfl), (Nat.le_of_ble_eq_true rfl)⟩ (fun r38 u H locs hp hP hD hS => ?_)
    obtain ⟨t39, rfl⟩ := hp
    have hP : va_P D vwCl [(h0, .inr (10, vL 67 Fh)), (h_s, .inl (cI, 335, .inl f_s))] H := hP
    have hD : va_D A [(h0, .inr (10, vL 67 Fh)), (h_s, .inl (cI, 335, .inl f_s))] := hD
    refine W.widen (k := 0) (n := 0) (Nat.le_of_ble_eq_true rfl) (Nat.le_of_ble_eq_true rfl) ?_
    refine lv_goto (tgt := 89) hx hb dX10_inBend_85 (by decide) ?_
    refine lv_isub hx hb dX10_inBend_89 ?_
    refine lv_topi (fun v41 ev41 => ?_)
    refine call_Si (wr := [(h0, .inr (10, vL 67 Fh)), (h_s, .inl (cI, 335, .inl f_s))]) (As := [.int v41]) (rest := []) hx hb hml hown hw (m_X10_bounded l D cI cJ cB cP cM cZ v41 _ ) wS_X10_311_X10_bounded dX10_inBend_90 hP hD hS hA [] [0, 1] rfl rfl (by decide) (by decide) (by decide) GG.fb hG.at hl.1 rfl (Nat.le_of_ble_eq_true rfl) ⟨(Nat.le_of_ble_eq_true rfl), (Nat.le_of_ble_eq_true rfl)⟩ ⟨(Nat.le_of_ble_eq_true rfl), (Nat.le_of_ble_eq_true rfl)⟩ (fun r42 u H locs hp hP hD hS => ?_)
    obtain ⟨t43, t44, rfl⟩ := hp
    have hP : va_P D vwCl [(h0, .inr (10, vL 67 Fh)), (h_s, .inl (cI, 335, .inl f_s))] H := hP
    have hD : va_D A [(h0, .inr (10, vL 67 Fh)), (h_s, .inl (cI, 335, .inl f_s))] := hD
    refine W.widen (k := 0) (n := 0) (Nat.le_of_ble_eq_true rfl) (Nat.le_of_ble_eq_true rfl) ?_
    exact ret_i (v := r42) hx hb hr hlocks hS hP hD dX10_inBend_93 rfl (Nat.le_of_ble_eq_true rfl) (Nat.le_of_ble_eq_true rfl) ⟨t43, (by subst_vars; unfold fn_X10_inBend; rw [if_neg c27]), rfl⟩
def fn_X10_isOver (f_s : Nat → Int32) (p0 : Int32) (p1 : Int32) (p2 : Int32) : Int32 := (if (p1 * p2) ≤ ((20 : Int32) * (f_s ((80 : Int32) + p0).toNatClampNeg)) then (0 : Int32) else (1 : Int32))
set_option maxHeartbeats 4000000 in
set_option maxRecDepth 100000 in
theorem m_X10_isOver (l : Launch) (D : va_G) (cI cJ cB cP cM cZ : ClassId) (h0 : Nat) (h_s : Nat) (Fh : Nat → Value) (f_s : Nat → Int32) (p0 : Int32) (p1 : Int32) (p2 : Int32) (bs : Nat → Int32) (sz : Nat) (e_s : Fh 6 = .ref h_s) (s_s_K0 : KW 0 f_s) (s_s_US : US bs f_s) (s_s_0 : SG 0 0 0 40 f_s) (s_s_105 : SG 105 108 0 11 f_s) (s_s_114 : SG 114 114 0 5 f_s) (s_s_130 : SG 130 133 0 11 f_s) (s_s_139 : SG 139 139 0 5 f_s) (s_s_153 : SG 153 153 0 44 f_s) (s_s_44 : SG 44 55 0 9 f_s) (s_s_5 : SG 5 5 0 12 f_s) (s_s_6 : SG 6 6 0 12 f_s) (s_s_7 : SG 7 7 0 6 f_s) (i_p0 : IR 0 11 p0) : CI l yX10_isOver cX10_isOver 4 (some .boolean) { frames := 0, cells := 0, slots := 0, locals := 0 } (GG D cI cJ cB cP cM cZ) D [(h0, .inr (10, vL 67 Fh)), (h_s, .inl (cI, 335, .inl f_s))] sz [.ref h0, .int p0, .int p1, .int p2] (fun (r : Int32) (u : va_W) => IR 0 1 r ∧ r = fn_X10_isOver f_s p0 p1 p2 ∧ u = [(h0, .inr (10, vL 67 Fh)), (h_s, .inl (cI, 335, .inl f_s))]) := by
  refine CI_mk (by decide) (Nat.le_of_ble_eq_true rfl) ?_
  intro p e s m below meth c A ls E hAe hG hsz hP hD hA hS hl
  obtain ⟨hx, hb, hr, hw, hown, hlocks, hml, hnm⟩ := E
  have hK := hG.1
  have i_p0 : 0 ≤ p0.toInt ∧ p0.toInt ≤ 11 := i_p0
  have hl : lv_has ls 4 [(0, .ref h0), (1, .int p0), (2, .int p1), (3, .int p2)] := hl
  refine lv_iload_n hx hb dX10_isOver_0 rfl (lv_at hl 2 rfl) ?_
  refine lv_iload_n hx hb dX10_isOver_1 rfl (lv_at hl 3 rfl) ?_
  refine lv_imul hx hb dX10_isOver_2 ?_
  refine lv_topi (fun v1 ev1 => ?_)
  refine lv_bipush (v := 20) hx hb dX10_isOver_3 (by decide) ?_
  refine lv_aload_n hx hb dX10_isOver_5 rfl (lv_at hl 0 rfl) ?_
  refine get_f (D := D) (ci := 10) (v := .ref h_s) (C := RX10) (T := TX10) (N := 67) hx hb hw inAX10 hown hK hP 0 rfl rfl 6 (by decide) (hw _ q_1267) (fun _ h9 => h9) e_s dX10_isOver_6 ?_
  refine lv_bipush (v := 80) hx hb dX10_isOver_9 (by decide) ?_
  refine lv_iload_n hx hb dX10_isOver_11 rfl (lv_at hl 1 rfl) ?_
  refine lv_iadd hx hb dX10_isOver_12 ?_
  refine lv_topi (fun v2 ev2 => ?_)
  have bv2 : v2.toInt = 80 + p0.toInt := by rw [ev2]; exact add_k rfl rfl ⟨Int.le_refl _, Int.le_refl _⟩ i_p0 (by decide)
  have k3 : 80 ≤ v2.toInt ∧ v2.toInt ≤ 91 := add_r bv2 ⟨Int.le_refl _, Int.le_refl _⟩ i_p0 (by decide)
  refine va_iald hx hb hK hP 1 0 rfl rfl (ix_k k3 (by decide) (by decide)) dX10_isOver_13 ?_
  refine lv_topi (fun v4 ev4 => ?_)
  refine lv_imul hx hb dX10_isOver_14 ?_
  refine lv_topi (fun v5 ev5 => ?_)
  refine lv_icmp_le (tgt := 22) hx hb dX10_isOver_15 (by decide) (fun c6 => ?_) (fun c6 => ?_)
  · have dc6 : v1.toInt ≤ v5.toInt := le_i (a := v1.toInt) (b := v5.toInt) rfl rfl c6
    refine lv_iconst (v := 0) hx hb dX10_isOver_22 (by decide) ?_
    exact ret_i (v := 0) hx hb hr hlocks hS hP hD dX10_isOver_23 rfl (Nat.le_of_ble_eq_true rfl) (Nat.le_of_ble_eq_true rfl) ⟨(show 0 ≤ (0 : Int32).toInt ∧ (0 : Int32).toInt ≤ 1 by decide), (by subst_vars; unfold fn_X10_isOver; rw [if_pos c6]), rfl⟩
  · have dc6 : v5.toInt < v1.toInt := nle_i (a := v1.toInt) (b := v5.toInt) rfl rfl c6
    have k7 : (-2147483648) ≤ v5.toInt ∧ v5.toInt ≤ 2147483646 := ⟨(ir_any _).1, up_lt dc6 (ir_any _).2 (by decide)⟩
    have k8 : (-2147483647) ≤ v1.toInt ∧ v1.toInt ≤ 2147483647 := ⟨lo_lt dc6 (ir_any _).1 (by decide), (ir_any _).2⟩
    refine lv_iconst (v := 1) hx hb dX10_isOver_18 (by decide) ?_
    refine lv_goto (tgt := 23) hx hb dX10_isOver_19 (by decide) ?_
    exact ret_i (v := 1) hx hb hr hlocks hS hP hD dX10_isOver_23 rfl (Nat.le_of_ble_eq_true rfl) (Nat.le_of_ble_eq_true rfl) ⟨(show 0 ≤ (1 : Int32).toInt ∧ (1 : Int32).toInt ≤ 1 by decide), (by subst_vars; unfold fn_X10_isOver; rw [if_neg c6]), rfl⟩
set_option maxHeartbeats 4000000 in
set_option maxRecDepth 100000 in
theorem m_X10_down (l : Launch) (D : va_G) (cI cJ cB cP cM cZ : ClassId) (h0 : Nat) (h_s : Nat) (h_behindAt : Nat) (Fh : Nat → Value) (x_touchBend : Int32) (x_touchBy : Int32) (f_s : Nat → Int32) (f_behindAt : Nat → Int32) (p0 : Int32) (p1 : Int32) (bs : Nat → Int32) (sz : Nat) (e_s : Fh 6 = .ref h_s) (e_behindAt : Fh 33 = .ref h_behindAt) (e_touchBend : Fh 37 = .int x_touchBend) (e_touchBy : Fh 38 = .int x_touchBy) (i_x_touchBy : IR 0 99 x_touchBy) (s_s_K0 : KW 0 f_s) (s_s_US : US bs f_s) (s_s_0 : SG 0 0 0 40 f_s) (s_s_105 : SG 105 108 0 11 f_s) (s_s_114 : SG 114 114 0 5 f_s) (s_s_130 : SG 130 133 0 11 f_s) (s_s_139 : SG 139 139 0 5 f_s) (s_s_153 : SG 153 153 0 44 f_s) (s_s_44 : SG 44 55 0 9 f_s) (s_s_5 : SG 5 5 0 12 f_s) (s_s_6 : SG 6 6 0 12 f_s) (s_s_7 : SG 7 7 0 6 f_s) : CI l yX10_down cX10_down 7 (some .int) { frames := 3, cells := 0, slots := 0, locals := 68 } (GG D cI cJ cB cP cM cZ) D [(h0, .inr (10, vL 67 Fh)), (h_s, .inl (cI, 335, .inl f_s)), (h_behindAt, .inl (cI, 12, .inl f_behindAt))] sz [.ref h0, .int p0, .int p1] (fun (r : Int32) (u : va_W) => ∃ (Gh : Nat → Value) (y_bendsGone : Int32) (y_overAt : Int32) (y_endPace : Int32) (g_behindAt : Nat → Int32), SAME [34, 35, 36] Fh Gh ∧ Gh 34 = .int y_bendsGone ∧ IR 0 12 y_bendsGone ∧ Gh 35 = .int y_overAt ∧ IR (-1) 11 y_overAt ∧ Gh 36 = .int y_endPace ∧ IR (-1) 32400 r ∧ u = [(h0, .inr (10, vL 67 Gh)), (h_s, .inl (cI, 335, .inl f_s)), (h_behindAt, .inl (cI, 12, .inl g_behindAt))]) := by
  refine CI_mk (by decide) (Nat.le_of_ble_eq_true rfl) ?_
  intro p e s m below meth c A ls E hAe hG hsz hP hD hA hS hl
  obtain ⟨hx, hb, hr, hw, hown, hlocks, hml, hnm⟩ := E
  have hK := hG.1
  have i_x_touchBy : 0 ≤ x_touchBy.toInt ∧ x_touchBy.toInt ≤ 99 := i_x_touchBy
  have hl : lv_has ls 7 [(0, .ref h0), (1, .int p0), (2, .int p1)] := hl
  refine lv_iload_n hx hb dX10_down_0 rfl (lv_at hl 1 rfl) ?_
  refine lv_istore_n (lv' := [(3, .int p0), (0, .ref h0), (1, .int p0), (2, .int p1)]) hx hb dX10_down_1 rfl hl (by decide) rfl (fun ls hl => ?_)
  refine lv_iconst (v := 0) hx hb dX10_down_2 (by decide) ?_
  refine lv_istore (lv' := [(4, .int 0), (3, .int p0), (0, .ref h0), (1, .int p0), (2, .int p1)]) hx hb dX10_down_3 hl (by decide) rfl (fun ls hl => ?_)
  refine lv_iconst (v := 0) hx hb dX10_down_5 (by decide) ?_
  refine lv_istore (lv' := [(5, .int 0), (4, .int 0), (3, .int p0), (0, .ref h0), (1, .int p0), (2, .int p1)]) hx hb dX10_down_6 hl (by decide) rfl (fun ls hl => ?_)
  refine lv_aload_n hx hb dX10_down_8 rfl (lv_at hl 3 rfl) ?_
  refine lv_iconst (v := 0) hx hb dX10_down_9 (by decide) ?_
  refine put_f (D := D) (ci := 10) (v := .int 0) (ty := .int) (C := RX10) (T := TX10) (N := 67) hx hb hw inAX10 tyX10 tyX10_ok nmX10 hown hK hP hD hS 0 rfl rfl 34 (by decide) (hw _ q_1295) (fun _ h9 => h9) rfl (by decide +kernel) rfl rfl dX10_down_10 (fun H locs F1 eF1 hP hD hS => ?_)
  have hP : va_P D vwCl [(h0, .inr (10, vL 67 F1)), (h_s, .inl (cI, 335, .inl f_s)), (h_behindAt, .inl (cI, 12, .inl f_behindAt))] H := hP
  have hD : va_D A [(h0, .inr (10, vL 67 F1)), (h_s, .inl (cI, 335, .inl f_s)), (h_behindAt, .inl (cI, 12, .inl f_behindAt))] := hD
  refine lv_aload_n hx hb dX10_down_13 rfl (lv_at hl 3 rfl) ?_
  refine lv_iconst (v := (-1)) hx hb dX10_down_14 (by decide) ?_
  refine put_f (D := D) (ci := 10) (v := .int (-1)) (ty := .int) (C := RX10) (T := TX10) (N := 67) hx hb hw inAX10 tyX10 tyX10_ok nmX10 hown hK hP hD hS 0 rfl rfl 35 (by decide) (hw _ q_1296) (fun _ h9 => h9) rfl (by decide +kernel) rfl rfl dX10_down_15 (fun H locs F2 eF2 hP hD hS => ?_)
  have hP : va_P D vwCl [(h0, .inr (10, vL 67 F2)), (h_s, .inl (cI, 335, .inl f_s)), (h_behindAt, .inl (cI, 12, .inl f_behindAt))] H := hP
  have hD : va_D A [(h0, .inr (10, vL 67 F2)), (h_s, .inl (cI, 335, .inl f_s)), (h_behindAt, .inl (cI, 12, .inl f_behindAt))] := hD
  refine lv_aload_n hx hb dX10_down_18 rfl (lv_at hl 3 rfl) ?_
  refine lv_iload_n hx hb dX10_down_19 rfl (lv_at hl 2 rfl) ?_
  refine put_f (D := D) (ci := 10) (v := .int p0) (ty := .int) (C := RX10) (T := TX10) (N := 67) hx hb hw inAX10 tyX10 tyX10_ok nmX10 hown hK hP hD hS 0 rfl rfl 36 (by decide) (hw _ q_1297) (fun _ h9 => h9) rfl (by decide +kernel) rfl rfl dX10_down_20 (fun H locs F3 eF3 hP hD hS => ?_)
  have hP : va_P D vwCl [(h0, .inr (10, vL 67 F3)), (h_s, .inl (cI, 335, .inl f_s)), (h_behindAt, .inl (cI, 12, .inl f_behindAt))] H := hP
  have hD : va_D A [(h0, .inr (10, vL 67 F3)), (h_s, .inl (cI, 335, .inl f_s)), (h_behindAt, .inl (cI, 12, .inl f_behindAt))] := hD
  refine lv_iload_n hx hb dX10_down_23 rfl (lv_at hl 5 rfl) ?_
  refine lv_aload_n hx hb dX10_down_24 rfl (lv_at hl 3 rfl) ?_
  have n4 : F1 6 = .ref h_s := (get_ne eF1 (by decide) e_s)
  have n5 : F2 6 = .ref h_s := (get_ne eF2 (by decide) n4)
  have n6 : F3 6 = .ref h_s := (get_ne eF3 (by decide) n5)
  refine get_f (D := D) (ci := 10) (v := .ref h_s) (C := RX10) (T := TX10) (N := 67) hx hb hw inAX10 hown hK hP 0 rfl rfl 6 (by decide) (hw _ q_1267) (fun _ h9 => h9) n6 dX10_down_25 ?_
  refine lv_iconst (v := 2) hx hb dX10_down_28 (by decide) ?_
  refine iald_n hx hb hK hP 1 0 rfl rfl 2 rfl (Nat.le_of_ble_eq_true rfl) (Nat.le_of_ble_eq_true rfl) rfl dX10_down_29 ?_
  refine lv_topi (fun v7 ev7 => ?_)
  refine lv_icmp_le (tgt := 35) hx hb dX10_down_30 (by decide) (fun c8 => ?_) (fun c8 => ?_)
  · have dc8 : p1.toInt ≤ v7.toInt := le_i (a := p1.toInt) (b := v7.toInt) rfl rfl c8
    refine lv_iconst (v := 0) hx hb dX10_down_35 (by decide) ?_
    refine lv_istore (lv' := [(6, .int 0), (5, .int 0), (4, .int 0), (3, .int p0), (0, .ref h0), (1, .int p0), (2, .int p1)]) hx hb dX10_down_36 hl (by decide) rfl (fun ls hl => ?_)
    have n18 : F2 34 = .int 0 := (get_ne eF2 (by decide) (get_eq eF1))
    have n19 : F3 34 = .int 0 := (get_ne eF3 (by decide) n18)
    have n20 : F3 35 = .int (-1) := (get_ne eF3 (by decide) (get_eq eF2))
    refine mloop (α := (Int32) × (Int32) × (Int32) × (Int32) × (Nat → Value) × (Int32) × (Int32) × (Int32) × (Nat → Int32)) (nL := 7) (D := D) (A := A) (H0 := s.heap) (fun a => (12 - a.1.toInt).toNat) (fun a => IR 0 12 a.1 ∧ IR 0 32400 a.2.2.1 ∧ SAME [34, 35, 36] F3 a.2.2.2.2.1 ∧ a.2.2.2.2.1 34 = .int a.2.2.2.2.2.1 ∧ a.2.2.2.2.1 35 = .int a.2.2.2.2.2.2.1 ∧ a.2.2.2.2.1 36 = .int a.2.2.2.2.2.2.2.1 ∧ IR 0 12 a.2.2.2.2.2.1 ∧ IR (-1) (-1) a.2.2.2.2.2.2.1 ∧ (a.2.2.2.2.2.1.toInt = a.1.toInt) ∧ (0 ≤ a.2.2.1.toInt ∧ a.2.2.1.toInt ≤ 2700 * a.1.toInt)) (fun a => [(h0, .inr (10, vL 67 a.2.2.2.2.1)), (h_s, .inl (cI, 335, .inl f_s)), (h_behindAt, .inl (cI, 12, .inl a.2.2.2.2.2.2.2.2))]) (fun a => [(6, .int a.1), (5, .int a.2.1), (4, .int a.2.2.1), (3, .int a.2.2.2.1), (0, .ref h0), (1, .int p0), (2, .int p1)]) (fun H locs ls => W p l e ({ frames := 3, cells := 0, slots := 0, locals := 68 } : Room) s m [.ref h0, .int p0, .int p1].toArray below meth c H locs 0 0 (MQ below (va_Qi (fun (r : Int32) (u : va_W) => ∃ (Gh : Nat → Value) (y_bendsGone : Int32) (y_overAt : Int32) (y_endPace : Int32) (g_behindAt : Nat → Int32), SAME [34, 35, 36] Fh Gh ∧ Gh 34 = .int y_bendsGone ∧ IR 0 12 y_bendsGone ∧ Gh 35 = .int y_overAt ∧ IR (-1) 11 y_overAt ∧ Gh 36 = .int y_endPace ∧ IR (-1) 32400 r ∧ u = [(h0, .inr (10, vL 67 Gh)), (h_s, .inl (cI, 335, .inl f_s)), (h_behindAt, .inl (cI, 12, .inl g_behindAt))]) (PO D A) A) [.ref h0, .int p0, .int p1].toArray s 0 0 A) (F0 m 38 ls [])) ?_ (0, 0, 0, p0, F3, 0, (-1), p0, f_behindAt) ⟨(show 0 ≤ (0 : Int32).toInt ∧ (0 : Int32).toInt ≤ 12 by decide), (show 0 ≤ (0 : Int32).toInt ∧ (0 : Int32).toInt ≤ 32400 by decide), SAME.rf, n19, n20, (get_eq eF3), (show 0 ≤ (0 : Int32).toInt ∧ (0 : Int32).toInt ≤ 12 by decide), (show (-1) ≤ ((-1) : Int32).toInt ∧ ((-1) : Int32).toInt ≤ (-1) by decide), (by show 0 = 0; omega), (by show 0 ≤ 0 ∧ 0 ≤ 2700 * 0; omega)⟩ _ _ _ hP hD hS hl
    rintro ⟨u9, u10, u11, u12, G13, u14, u15, u16, w17⟩ ⟨i21, i22, i23, i24, i25, i26, i27, i28, i29, i30⟩ ih H locs ls hP hD hS hl
    have i21 : 0 ≤ u9.toInt ∧ u9.toInt ≤ 12 := i21
    have i22 : 0 ≤ u11.toInt ∧ u11.toInt ≤ 32400 := i22
    have i27 : 0 ≤ u14.toInt ∧ u14.toInt ≤ 12 := i27
    have i28 : (-1) ≤ u15.toInt ∧ u15.toInt ≤ (-1) := i28
    have i29 : u14.toInt = u9.toInt := i29
    have i30 : 0 ≤ u11.toInt ∧ u11.toInt ≤ 2700 * u9.toInt := i30
    have hP : va_P D vwCl [(h0, .inr (10, vL 67 G13)), (h_s, .inl (cI, 335, .inl f_s)), (h_behindAt, .inl (cI, 12, .inl w17))] H := hP
    have hD : va_D A [(h0, .inr (10, vL 67 G13)), (h_s, .inl (cI, 335, .inl f_s)), (h_behindAt, .inl (cI, 12, .inl w17))] := hD
    have hl : lv_has ls 7 [(6, .int u9), (5, .int u10), (4, .int u11), (3, .int u12), (0, .ref h0), (1, .int p0), (2, .int p1)] := hl
    refine lv_iload hx hb dX10_down_38 (lv_at hl 0 rfl) ?_
    refine lv_aload_n hx hb dX10_down_40 rfl (lv_at hl 4 rfl) ?_
    have n31 : G13 6 = .ref h_s := (SAME.at i23 (by decide) n6)
    refine get_f (D := D) (ci := 10) (v := .ref h_s) (C := RX10) (T := TX10) (N := 67) hx hb hw inAX10 hown hK hP 0 rfl rfl 6 (by decide) (hw _ q_1267) (fun _ h9 => h9) n31 dX10_down_41 ?_
    refine lv_bipush (v := 6) hx hb dX10_down_44 (by decide) ?_
    refine iald_n hx hb hK hP 1 0 rfl rfl 6 rfl (Nat.le_of_ble_eq_true rfl) (Nat.le_of_ble_eq_true rfl) rfl dX10_down_46 ?_
    refine lv_topi (fun v32 ev32 => ?_)
    have k33 : 0 ≤ v32.toInt ∧ v32.toInt ≤ 12 := by rw [ev32]; exact s_s_6.atN 6 (by decide) (by decide)
    refine lv_icmp_ge (tgt := 198) hx hb dX10_down_47 (by decide) (fun c34 => ?_) (fun c34 => ?_)
    · have dc34 : v32.toInt ≤ u9.toInt := le_i (a := v32.toInt) (b := u9.toInt) rfl rfl c34
      refine lv_iload hx hb dX10_down_198 (lv_at hl 2 rfl) ?_
      exact ret_i (v := u11) hx hb hr hlocks hS hP hD dX10_down_200 rfl (Nat.le_of_ble_eq_true rfl) (Nat.le_of_ble_eq_true rfl) ⟨G13, u14, u15, u16, w17, (SAME.tr (SAME.up eF3 (SAME.up eF2 (SAME.up eF1 SAME.rf (by decide)) (by decide)) (by decide)) i23 (by decide)), i24, i27, i25, (ir_wk i28 (by decide) (by decide)), i26, (ir_wk i22 (by decide) (by decide)), rfl⟩
    · have dc34 : u9.toInt < v32.toInt := nle_i (a := v32.toInt) (b := u9.toInt) rfl rfl c34
      have k35 : 0 ≤ u9.toInt ∧ u9.toInt ≤ 11 := ⟨i21.1, up_lt dc34 k33.2 (by decide)⟩
      have k36 : 1 ≤ v32.toInt ∧ v32.toInt ≤ 12 := ⟨lo_lt dc34 i21.1 (by decide), k33.2⟩
      refine lv_aload_n hx hb dX10_down_50 rfl (lv_at hl 4 rfl) ?_
      refine lv_iload hx hb dX10_down_51 (lv_at hl 0 rfl) ?_
      refine lv_iload_n hx hb dX10_down_53 rfl (lv_at hl 3 rfl) ?_
      refine lv_iload_n hx hb dX10_down_54 rfl (lv_at hl 6 rfl) ?_
      refine lv_iload hx hb dX10_down_55 (lv_at hl 1 rfl) ?_
      refine lv_aload_n hx hb dX10_down_57 rfl (lv_at hl 4 rfl) ?_
      refine get_f (D := D) (ci := 10) (v := .ref h_s) (C := RX10) (T := TX10) (N := 67) hx hb hw inAX10 hown hK hP 0 rfl rfl 6 (by decide) (hw _ q_1267) (fun _ h9 => h9) n31 dX10_down_58 ?_
      refine lv_bipush (v := 116) hx hb dX10_down_61 (by decide) ?_
      refine lv_iload hx hb dX10_down_63 (lv_at hl 0 rfl) ?_
      refine lv_iadd hx hb dX10_down_65 ?_
      refine lv_topi (fun v37 ev37 => ?_)
      have bv37 : v37.toInt = 116 + u9.toInt := by rw [ev37]; exact add_k rfl rfl ⟨Int.le_refl _, Int.le_refl _⟩ k35 (by decide)
      have k38 : 116 ≤ v37.toInt ∧ v37.toInt ≤ 127 := add_r bv37 ⟨Int.le_refl _, Int.le_refl _⟩ k35 (by decide)
      refine va_iald hx hb hK hP 1 0 rfl rfl (ix_k k38 (by decide) (by decide)) dX10_down_66 ?_
      refine lv_topi (fun v39 ev39 => ?_)
      refine call_Vi (wr := [(h_behindAt, .inl (cI, 12, .inl w17))]) (As := [.int u9, .int u12, .int p1, .int u10, .int v39]) (rest := []) hx hb hml hown hw (m_X10_inBend l D cI cJ cB cP cM cZ h0 h_s G13 f_s u9 u12 p1 u10 v39 bs _ n31 s_s_K0 s_s_US s_s_0 s_s_105 s_s_114 s_s_130 s_s_139 s_s_153 s_s_44 s_s_5 s_s_6 s_s_7 k35) wV_X10_355_X10_inBend dX10_down_67 hK hP hD hS hA [0, 1] [2] rfl rfl (by decide) (by decide) (by decide) 0 10 rfl rfl GG.fb hG.at hl.1 rfl (Nat.le_of_ble_eq_true rfl) ⟨(Nat.le_of_ble_eq_true rfl), (Nat.le_of_ble_eq_true rfl)⟩ ⟨(Nat.le_of_ble_eq_true rfl), (Nat.le_of_ble_eq_true rfl)⟩ (fun r40 u H locs hp hP hD hS => ?_)
      obtain ⟨t41, t42, rfl⟩ := hp
      have hP : va_P D vwCl [(h_behindAt, .inl (cI, 12, .inl w17)), (h0, .inr (10, vL 67 G13)), (h_s, .inl (cI, 335, .inl f_s))] H := hP
      have hD : va_D A [(h_behindAt, .inl (cI, 12, .inl w17)), (h0, .inr (10, vL 67 G13)), (h_s, .inl (cI, 335, .inl f_s))] := hD
      refine W.widen (k := 0) (n := 0) (Nat.le_of_ble_eq_true rfl) (Nat.le_of_ble_eq_true rfl) ?_
      refine lv_istore_n (lv' := [(3, .int r40), (6, .int u9), (5, .int u10), (4, .int u11), (0, .ref h0), (1, .int p0), (2, .int p1)]) hx hb dX10_down_70 rfl hl (by decide) rfl (fun ls hl => ?_)
      refine lv_aload_n hx hb dX10_down_71 rfl (lv_at hl 4 rfl) ?_
      refine lv_iload_n hx hb dX10_down_72 rfl (lv_at hl 0 rfl) ?_
      refine put_f (D := D) (ci := 10) (v := .int r40) (ty := .int) (C := RX10) (T := TX10) (N := 67) hx hb hw inAX10 tyX10 tyX10_ok nmX10 hown hK hP hD hS 1 rfl rfl 36 (by decide) (hw _ q_1297) (fun _ h9 => h9) rfl (by decide +kernel) rfl rfl dX10_down_73 (fun H locs F44 eF44 hP hD hS => ?_)
      have hP : va_P D vwCl [(h_behindAt, .inl (cI, 12, .inl w17)), (h0, .inr (10, vL 67 F44)), (h_s, .inl (cI, 335, .inl f_s))] H := hP
      have hD : va_D A [(h_behindAt, .inl (cI, 12, .inl w17)), (h0, .inr (10, vL 67 F44)), (h_s, .inl (cI, 335, .inl f_s))] := hD
      refine lv_aload_n hx hb dX10_down_76 rfl (lv_at hl 4 rfl) ?_
      refine lv_iload hx hb dX10_down_77 (lv_at hl 1 rfl) ?_
      refine lv_iload_n hx hb dX10_down_79 rfl (lv_at hl 0 rfl) ?_
      refine lv_aload_n hx hb dX10_down_80 rfl (lv_at hl 4 rfl) ?_
      have n45 : F44 6 = .ref h_s := (get_ne eF44 (by decide) n31)
      refine get_f (D := D) (ci := 10) (v := .ref h_s) (C := RX10) (T := TX10) (N := 67) hx hb hw inAX10 hown hK hP 1 rfl rfl 6 (by decide) (hw _ q_1267) (fun _ h9 => h9) n45 dX10_down_81 ?_
      refine lv_bipush (v := 116) hx hb dX10_down_84 (by decide) ?_
      refine lv_iload hx hb dX10_down_86 (lv_at hl 1 rfl) ?_
      refine lv_iadd hx hb dX10_down_88 ?_
      refine lv_ci (y := v37) ev37.symm ?_
      refine va_iald hx hb hK hP 2 0 rfl rfl (ix_k k38 (by decide) (by decide)) dX10_down_89 ?_
      refine lv_ci (y := v39) ev39.symm ?_
      refine call_Vi (wr := [(h_behindAt, .inl (cI, 12, .inl w17))]) (As := [.int u9, .int r40, .int v39]) (rest := []) hx hb hml hown hw (m_X10_isOver l D cI cJ cB cP cM cZ h0 h_s F44 f_s u9 r40 v39 bs _ n45 s_s_K0 s_s_US s_s_0 s_s_105 s_s_114 s_s_130 s_s_139 s_s_153 s_s_44 s_s_5 s_s_6 s_s_7 k35) wV_X10_359_X10_isOver dX10_down_90 hK hP hD hS hA [1, 2] [0] rfl rfl (by decide) (by decide) (by decide) 0 10 rfl rfl GG.fb hG.at hl.1 rfl (Nat.le_of_ble_eq_true rfl) ⟨(Nat.le_of_ble_eq_true rfl), (Nat.le_of_ble_eq_true rfl)⟩ ⟨(Nat.le_of_ble_eq_true rfl), (Nat.le_of_ble_eq_true rfl)⟩ (fun r46 u H locs hp hP hD hS => ?_)
      obtain ⟨t47, t48, rfl⟩ := hp
      have hP : va_P D vwCl [(h_behindAt, .inl (cI, 12, .inl w17)), (h0, .inr (10, vL 67 F44)), (h_s, .inl (cI, 335, .inl f_s))] H := hP
      have hD : va_D A [(h_behindAt, .inl (cI, 12, .inl w17)), (h0, .inr (10, vL 67 F44)), (h_s, .inl (cI, 335, .inl f_s))] := hD
      refine W.widen (k := 0) (n := 0) (Nat.le_of_ble_eq_true rfl) (Nat.le_of_ble_eq_true rfl) ?_
      refine lv_if_eq (tgt := 104) hx hb dX10_down_93 (by decide) (fun c50 => ?_) (fun c50 => ?_)
      · have dc50 : r46.toInt = 0 := eq_i (a := r46.toInt) (b := 0) rfl rfl c50
        have k51 : 0 ≤ r46.toInt ∧ r46.toInt ≤ 0 := ⟨t47.1, Int.le_trans (Int.le_of_eq dc50) (Int.le_refl _)⟩
        refine lv_iload hx hb dX10_down_104 (lv_at hl 1 rfl) ?_
        refine lv_aload_n hx hb dX10_down_106 rfl (lv_at hl 4 rfl) ?_
        have n52 : F1 37 = .int x_touchBend := (get_ne eF1 (by decide) e_touchBend)
        have n53 : F2 37 = .int x_touchBend := (get_ne eF2 (by decide) n52)
        have n54 : F3 37 = .int x_touchBend := (get_ne eF3 (by decide) n53)
        have n55 : G13 37 = .int x_touchBend := (SAME.at i23 (by decide) n54)
        have n56 : F44 37 = .int x_touchBend := (get_ne eF44 (by decide) n55)
        refine get_f (D := D) (ci := 10) (v := .int x_touchBend) (C := RX10) (T := TX10) (N := 67) hx hb hw inAX10 hown hK hP 1 rfl rfl 37 (by decide) (hw _ q_1298) (fun _ h9 => h9) n56 dX10_down_107 ?_
        refine lv_icmp_ne (tgt := 136) hx hb dX10_down_110 (by decide) (fun c57 => ?_) (fun c57 => ?_)
        · have dc57 : u9.toInt ≠ x_touchBend.toInt := ne_i (a := u9.toInt) (b := x_touchBend.toInt) rfl rfl c57
          refine lv_aload_n hx hb dX10_down_136 rfl (lv_at hl 4 rfl) ?_
          refine lv_iload_n hx hb dX10_down_137 rfl (lv_at hl 0 rfl) ?_
          refine put_f (D := D) (ci := 10) (v := .int r40) (ty := .int) (C := RX10) (T := TX10) (N := 67) hx hb hw inAX10 tyX10 tyX10_ok nmX10 hown hK hP hD hS 1 rfl rfl 36 (by decide) (hw _ q_1297) (fun _ h9 => h9) rfl (by decide +kernel) rfl rfl dX10_down_138 (fun H locs F58 eF58 hP hD hS => ?_)
          have hP : va_P D vwCl [(h_behindAt, .inl (cI, 12, .inl w17)), (h0, .inr (10, vL 67 F58)), (h_s, .inl (cI, 335, .inl f_s))] H := hP
          have hD : va_D A [(h_behindAt, .inl (cI, 12, .inl w17)), (h0, .inr (10, vL 67 F58)), (h_s, .inl (cI, 335, .inl f_s))] := hD
          refine lv_aload_n hx hb dX10_down_141 rfl (lv_at hl 4 rfl) ?_
          have n59 : F1 33 = .ref h_behindAt := (get_ne eF1 (by decide) e_behindAt)
          have n60 : F2 33 = .ref h_behindAt := (get_ne eF2 (by decide) n59)
          have n61 : F3 33 = .ref h_behindAt := (get_ne eF3 (by decide) n60)
          have n62 : G13 33 = .ref h_behindAt := (SAME.at i23 (by decide) n61)
          have n63 : F44 33 = .ref h_behindAt := (get_ne eF44 (by decide) n62)
          have n64 : F58 33 = .ref h_behindAt := (get_ne eF58 (by decide) n63)
          refine get_f (D := D) (ci := 10) (v := .ref h_behindAt) (C := RX10) (T := TX10) (N := 67) hx hb hw inAX10 hown hK hP 1 rfl rfl 33 (by decide) (hw _ q_1294) (fun _ h9 => h9) n64 dX10_down_142 ?_
          refine lv_iload hx hb dX10_down_145 (lv_at hl 1 rfl) ?_
          refine lv_iload_n hx hb dX10_down_147 rfl (lv_at hl 0 rfl) ?_
          obtain ⟨g65, eg65⟩ : ∃ z : Nat → Int32, upd w17 u9.toNatClampNeg r40 = z := ⟨_, rfl⟩
          refine iast_g hx hb hK hP hD hS 0 0 rfl rfl (ix_k k35 (by decide) (by decide)) eg65 dX10_down_148 (fun H locs hP hD hS => ?_)
          have hP : va_P D vwCl [(h_behindAt, .inl (cI, 12, .inl g65)), (h0, .inr (10, vL 67 F58)), (h_s, .inl (cI, 335, .inl f_s))] H := hP
          have hD : va_D A [(h_behindAt, .inl (cI, 12, .inl g65)), (h0, .inr (10, vL 67 F58)), (h_s, .inl (cI, 335, .inl f_s))] := hD
          refine lv_aload_n hx hb dX10_down_149 rfl (lv_at hl 4 rfl) ?_
          have n66 : F58 6 = .ref h_s := (get_ne eF58 (by decide) n45)
          refine get_f (D := D) (ci := 10) (v := .ref h_s) (C := RX10) (T := TX10) (N := 67) hx hb hw inAX10 hown hK hP 1 rfl rfl 6 (by decide) (hw _ q_1267) (fun _ h9 => h9) n66 dX10_down_150 ?_
          refine lv_bipush (v := 116) hx hb dX10_down_153 (by decide) ?_
          refine lv_iload hx hb dX10_down_155 (lv_at hl 1 rfl) ?_
          refine lv_iadd hx hb dX10_down_157 ?_
          refine lv_ci (y := v37) ev37.symm ?_
          refine va_iald hx hb hK hP 2 0 rfl rfl (ix_k k38 (by decide) (by decide)) dX10_down_158 ?_
          refine lv_ci (y := v39) ev39.symm ?_
          refine lv_istore (lv' := [(5, .int v39), (3, .int r40), (6, .int u9), (4, .int u11), (0, .ref h0), (1, .int p0), (2, .int p1)]) hx hb dX10_down_159 hl (by decide) rfl (fun ls hl => ?_)
          refine lv_aload_n hx hb dX10_down_161 rfl (lv_at hl 4 rfl) ?_
          refine lv_dup hx hb dX10_down_162 rfl ?_
          have n67 : F44 34 = .int u14 := (get_ne eF44 (by decide) i24)
          have n68 : F58 34 = .int u14 := (get_ne eF58 (by decide) n67)
          refine get_f (D := D) (ci := 10) (v := .int u14) (C := RX10) (T := TX10) (N := 67) hx hb hw inAX10 hown hK hP 1 rfl rfl 34 (by decide) (hw _ q_1295) (fun _ h9 => h9) n68 dX10_down_163 ?_
          refine lv_iconst (v := 1) hx hb dX10_down_166 (by decide) ?_
          refine lv_iadd hx hb dX10_down_167 ?_
          refine lv_topi (fun v69 ev69 => ?_)
          have bv69 : v69.toInt = u14.toInt + 1 := by rw [ev69]; exact add_k rfl rfl i27 ⟨Int.le_refl _, Int.le_refl _⟩ (by decide)
          have k70 : 1 ≤ v69.toInt ∧ v69.toInt ≤ 13 := add_r bv69 i27 ⟨Int.le_refl _, Int.le_refl _⟩ (by decide)
          refine put_f (D := D) (ci := 10) (v := .int v69) (ty := .int) (C := RX10) (T := TX10) (N := 67) hx hb hw inAX10 tyX10 tyX10_ok nmX10 hown hK hP hD hS 1 rfl rfl 34 (by decide) (hw _ q_1295) (fun _ h9 => h9) rfl (by decide +kernel) rfl rfl dX10_down_168 (fun H locs F71 eF71 hP hD hS => ?_)
          have hP : va_P D vwCl [(h_behindAt, .inl (cI, 12, .inl g65)), (h0, .inr (10, vL 67 F71)), (h_s, .inl (cI, 335, .inl f_s))] H := hP
          have hD : va_D A [(h_behindAt, .inl (cI, 12, .inl g65)), (h0, .inr (10, vL 67 F71)), (h_s, .inl (cI, 335, .inl f_s))] := hD
          refine lv_iload hx hb dX10_down_171 (lv_at hl 3 rfl) ?_
          refine lv_aload_n hx hb dX10_down_173 rfl (lv_at hl 4 rfl) ?_
          have n72 : F71 6 = .ref h_s := (get_ne eF71 (by decide) n66)
          refine get_f (D := D) (ci := 10) (v := .ref h_s) (C := RX10) (T := TX10) (N := 67) hx hb hw inAX10 hown hK hP 1 rfl rfl 6 (by decide) (hw _ q_1267) (fun _ h9 => h9) n72 dX10_down_174 ?_
          refine lv_bipush (v := 44) hx hb dX10_down_177 (by decide) ?_
          refine lv_iload hx hb dX10_down_179 (lv_at hl 2 rfl) ?_
          refine lv_iadd hx hb dX10_down_181 ?_
          refine lv_topi (fun v73 ev73 => ?_)
          have bv73 : v73.toInt = 44 + u9.toInt := by rw [ev73]; exact add_k rfl rfl ⟨Int.le_refl _, Int.le_refl _⟩ k35 (by decide)
          have k74 : 44 ≤ v73.toInt ∧ v73.toInt ≤ 55 := add_r bv73 ⟨Int.le_refl _, Int.le_refl _⟩ k35 (by decide)
          refine va_iald hx hb hK hP 2 0 rfl rfl (ix_k k74 (by decide) (by decide)) dX10_down_182 ?_
          refine lv_topi (fun v75 ev75 => ?_)
          have k76 : 0 ≤ v75.toInt ∧ v75.toInt ≤ 9 := by rw [ev75]; exact s_s_44.at _ (Int.le_trans (by decide) k74.1) (Int.le_trans k74.2 (by decide))
          refine lv_sipush (v := 3000) hx hb dX10_down_183 (by decide) ?_
          refine lv_imul hx hb dX10_down_186 ?_
          refine lv_topi (fun v77 ev77 => ?_)
          have bv77 : v77.toInt = v75.toInt * 3000 := by rw [ev77]; exact mulk_k rfl rfl (by decide) k76 (by decide)
          have k78 : 0 ≤ v77.toInt ∧ v77.toInt ≤ 27000 := mulk_r bv77 (by decide) k76 (by decide)
          refine lv_iload_n hx hb dX10_down_187 rfl (lv_at hl 1 rfl) ?_
          refine lv_idiv hx hb dX10_down_188 (nz_k t41 (by decide)) ?_
          refine lv_topi (fun v79 ev79 => ?_)
          have k80 : 0 ≤ v79.toInt ∧ v79.toInt ≤ 2700 := by rw [ev79]; exact divv_k (Int.le_trans (by decide) k78.1) k78.2 t41.1 (by decide)
          refine lv_iadd hx hb dX10_down_189 ?_
          refine lv_topi (fun v81 ev81 => ?_)
          have bv81 : v81.toInt = u11.toInt + v79.toInt := by rw [ev81]; exact add_k rfl rfl i22 k80 (by decide)
          have k82 : 0 ≤ v81.toInt ∧ v81.toInt ≤ 35100 := add_r bv81 i22 k80 (by decide)
          refine lv_istore (lv' := [(4, .int v81), (5, .int v39), (3, .int r40), (6, .int u9), (0, .ref h0), (1, .int p0), (2, .int p1)]) hx hb dX10_down_190 hl (by decide) rfl (fun ls hl => ?_)
          obtain ⟨v83, ev83⟩ : ∃ z : Int32, z = u9 + 1 := ⟨_, rfl⟩
          have bv83 : v83.toInt = u9.toInt + 1 := by rw [ev83]; exact add_k rfl rfl k35 ⟨Int.le_refl _, Int.le_refl _⟩ (by decide)
          have k84 : 1 ≤ v83.toInt ∧ v83.toInt ≤ 12 := add_r bv83 k35 ⟨Int.le_refl _, Int.le_refl _⟩ (by decide)
          refine lv_iinc (v := v83) (lv' := [(6, .int v83), (4, .int v81), (5, .int v39), (3, .int r40), (0, .ref h0), (1, .int p0), (2, .int p1)]) hx hb dX10_down_192 hl (k := 3) rfl (by rw [ev83]; rfl) (by decide) rfl (fun ls hl => ?_)
          refine lv_goto (tgt := 38) hx hb dX10_down_195 (by decide) ?_
          have n85 : F44 35 = .int u15 := (get_ne eF44 (by decide) i25)
          have n86 : F58 35 = .int u15 := (get_ne eF58 (by decide) n85)
          have n87 : F71 35 = .int u15 := (get_ne eF71 (by decide) n86)
          have n88 : F71 36 = .int r40 := (get_ne eF71 (by decide) (get_eq eF58))
          exact ih (v83, v39, v81, r40, F71, v69, u15, r40, g65) ⟨(ir_wk k84 (by decide) (by decide)), (show 0 ≤ v81.toInt ∧ v81.toInt ≤ 32400 from ⟨by omega, by omega⟩), (SAME.up eF71 (SAME.up eF58 (SAME.up eF44 (SAME.tr SAME.rf i23 (by decide)) (by decide)) (by decide)) (by decide)), (get_eq eF71), n87, n88, (show 0 ≤ v69.toInt ∧ v69.toInt ≤ 12 from ⟨by omega, by omega⟩), i28, (by show v69.toInt = v83.toInt; omega), (by show 0 ≤ v81.toInt ∧ v81.toInt ≤ 2700 * v83.toInt; omega)⟩ (by show (12 - v83.toInt).toNat < (12 - u9.toInt).toNat; omega) _ _ _ (hP.sub [1, 2, 0] rfl) (hD.sub [1, 2, 0] (by decide) rfl) hS (lv_sub hl [0, 2, 1, 3, 4, 5, 6] rfl)
        · have dc57 : u9.toInt = x_touchBend.toInt := eq_i (a := u9.toInt) (b := x_touchBend.toInt) rfl rfl c57
          have k89 : 0 ≤ x_touchBend.toInt ∧ x_touchBend.toInt ≤ 11 := ⟨Int.le_trans k35.1 (Int.le_of_eq dc57), Int.le_trans (Int.le_of_eq dc57.symm) k35.2⟩
          refine lv_iload_n hx hb dX10_down_113 rfl (lv_at hl 0 rfl) ?_
          refine lv_aload_n hx hb dX10_down_114 rfl (lv_at hl 4 rfl) ?_
          have n90 : F1 38 = .int x_touchBy := (get_ne eF1 (by decide) e_touchBy)
          have n91 : F2 38 = .int x_touchBy := (get_ne eF2 (by decide) n90)
          have n92 : F3 38 = .int x_touchBy := (get_ne eF3 (by decide) n91)
          have n93 : G13 38 = .int x_touchBy := (SAME.at i23 (by decide) n92)
          have n94 : F44 38 = .int x_touchBy := (get_ne eF44 (by decide) n93)
          refine get_f (D := D) (ci := 10) (v := .int x_touchBy) (C := RX10) (T := TX10) (N := 67) hx hb hw inAX10 hown hK hP 1 rfl rfl 38 (by decide) (hw _ q_1299) (fun _ h9 => h9) n94 dX10_down_115 ?_
          refine lv_isub hx hb dX10_down_118 ?_
          refine lv_topi (fun v95 ev95 => ?_)
          have bv95 : v95.toInt = r40.toInt - x_touchBy.toInt := by rw [ev95]; exact sub_k rfl rfl t41 i_x_touchBy (by decide)
          have k96 : (-89) ≤ v95.toInt ∧ v95.toInt ≤ 250 := sub_r bv95 t41 i_x_touchBy (by decide)
          refine lv_bipush (v := 10) hx hb dX10_down_119 (by decide) ?_
          refine lv_icmp_ge (tgt := 129) hx hb dX10_down_121 (by decide) (fun c97 => ?_) (fun c97 => ?_)
          · have dc97 : 10 ≤ v95.toInt := le_i (a := 10) (b := v95.toInt) rfl rfl c97
            have k98 : 10 ≤ v95.toInt ∧ v95.toInt ≤ 250 := ⟨Int.le_trans (Int.le_refl _) dc97, k96.2⟩
            refine lv_iload_n hx hb dX10_down_129 rfl (lv_at hl 0 rfl) ?_
            refine lv_aload_n hx hb dX10_down_130 rfl (lv_at hl 4 rfl) ?_
            refine get_f (D := D) (ci := 10) (v := .int x_touchBy) (C := RX10) (T := TX10) (N := 67) hx hb hw inAX10 hown hK hP 1 rfl rfl 38 (by decide) (hw _ q_1299) (fun _ h9 => h9) n94 dX10_down_131 ?_
            refine lv_isub hx hb dX10_down_134 ?_
            refine lv_ci (y := v95) ev95.symm ?_
            refine lv_istore_n (lv' := [(3, .int v95), (6, .int u9), (5, .int u10), (4, .int u11), (0, .ref h0), (1, .int p0), (2, .int p1)]) hx hb dX10_down_135 rfl hl (by decide) rfl (fun ls hl => ?_)
            refine lv_aload_n hx hb dX10_down_136 rfl (lv_at hl 4 rfl) ?_
            refine lv_iload_n hx hb dX10_down_137 rfl (lv_at hl 0 rfl) ?_
            refine put_f (D := D) (ci := 10) (v := .int v95) (ty := .int) (C := RX10) (T := TX10) (N := 67) hx hb hw inAX10 tyX10 tyX10_ok nmX10 hown hK hP hD hS 1 rfl rfl 36 (by decide) (hw _ q_1297) (fun _ h9 => h9) rfl (by decide +kernel) rfl rfl dX10_down_138 (fun H locs F99 eF99 hP hD hS => ?_)
            have hP : va_P D vwCl [(h_behindAt, .inl (cI, 12, .inl w17)), (h0, .inr (10, vL 67 F99)), (h_s, .inl (cI, 335, .inl f_s))] H := hP
            have hD : va_D A [(h_behindAt, .inl (cI, 12, .inl w17)), (h0, .inr (10, vL 67 F99)), (h_s, .inl (cI, 335, .inl f_s))] := hD
            refine lv_aload_n hx hb dX10_down_141 rfl (lv_at hl 4 rfl) ?_
            have n100 : F1 33 = .ref h_behindAt := (get_ne eF1 (by decide) e_behindAt)
            have n101 : F2 33 = .ref h_behindAt := (get_ne eF2 (by decide) n100)
            have n102 : F3 33 = .ref h_behindAt := (get_ne eF3 (by decide) n101)
            have n103 : G13 33 = .ref h_behindAt := (SAME.at i23 (by decide) n102)
            have n104 : F44 33 = .ref h_behindAt := (get_ne eF44 (by decide) n103)
            have n105 : F99 33 = .ref h_behindAt := (get_ne eF99 (by decide) n104)
            refine get_f (D := D) (ci := 10) (v := .ref h_behindAt) (C := RX10) (T := TX10) (N := 67) hx hb hw inAX10 hown hK hP 1 rfl rfl 33 (by decide) (hw _ q_1294) (fun _ h9 => h9) n105 dX10_down_142 ?_
            refine lv_iload hx hb dX10_down_145 (lv_at hl 1 rfl) ?_
            refine lv_iload_n hx hb dX10_down_147 rfl (lv_at hl 0 rfl) ?_
            obtain ⟨g106, eg106⟩ : ∃ z : Nat → Int32, upd w17 u9.toNatClampNeg v95 = z := ⟨_, rfl⟩
            refine iast_g hx hb hK hP hD hS 0 0 rfl rfl (ix_k k35 (by decide) (by decide)) eg106 dX10_down_148 (fun H locs hP hD hS => ?_)
            have hP : va_P D vwCl [(h_behindAt, .inl (cI, 12, .inl g106)), (h0, .inr (10, vL 67 F99)), (h_s, .inl (cI, 335, .inl f_s))] H := hP
            have hD : va_D A [(h_behindAt, .inl (cI, 12, .inl g106)), (h0, .inr (10, vL 67 F99)), (h_s, .inl (cI, 335, .inl f_s))] := hD
            refine lv_aload_n hx hb dX10_down_149 rfl (lv_at hl 4 rfl) ?_
            have n107 : F99 6 = .ref h_s := (get_ne eF99 (by decide) n45)
            refine get_f (D := D) (ci := 10) (v := .ref h_s) (C := RX10) (T := TX10) (N := 67) hx hb hw inAX10 hown hK hP 1 rfl rfl 6 (by decide) (hw _ q_1267) (fun _ h9 => h9) n107 dX10_down_150 ?_
            refine lv_bipush (v := 116) hx hb dX10_down_153 (by decide) ?_
            refine lv_iload hx hb dX10_down_155 (lv_at hl 1 rfl) ?_
            refine lv_iadd hx hb dX10_down_157 ?_
            refine lv_ci (y := v37) ev37.symm ?_
            refine va_iald hx hb hK hP 2 0 rfl rfl (ix_k k38 (by decide) (by decide)) dX10_down_158 ?_
            refine lv_ci (y := v39) ev39.symm ?_
            refine lv_istore (lv' := [(5, .int v39), (3, .int v95), (6, .int u9), (4, .int u11), (0, .ref h0), (1, .int p0), (2, .int p1)]) hx hb dX10_down_159 hl (by decide) rfl (fun ls hl => ?_)
            refine lv_aload_n hx hb dX10_down_161 rfl (lv_at hl 4 rfl) ?_
            refine lv_dup hx hb dX10_down_162 rfl ?_
            have n108 : F44 34 = .int u14 := (get_ne eF44 (by decide) i24)
            have n109 : F99 34 = .int u14 := (get_ne eF99 (by decide) n108)
            refine get_f (D := D) (ci := 10) (v := .int u14) (C := RX10) (T := TX10) (N := 67) hx hb hw inAX10 hown hK hP 1 rfl rfl 34 (by decide) (hw _ q_1295) (fun _ h9 => h9) n109 dX10_down_163 ?_
            refine lv_iconst (v := 1) hx hb dX10_down_166 (by decide) ?_
            refine lv_iadd hx hb dX10_down_167 ?_
            refine lv_topi (fun v110 ev110 => ?_)
            have bv110 : v110.toInt = u14.toInt + 1 := by rw [ev110]; exact add_k rfl rfl i27 ⟨Int.le_refl _, Int.le_refl _⟩ (by decide)
            have k111 : 1 ≤ v110.toInt ∧ v110.toInt ≤ 13 := add_r bv110 i27 ⟨Int.le_refl _, Int.le_refl _⟩ (by decide)
            refine put_f (D := D) (ci := 10) (v := .int v110) (ty := .int) (C := RX10) (T := TX10) (N := 67) hx hb hw inAX10 tyX10 tyX10_ok nmX10 hown hK hP hD hS 1 rfl rfl 34 (by decide) (hw _ q_1295) (fun _ h9 => h9) rfl (by decide +kernel) rfl rfl dX10_down_168 (fun H locs F112 eF112 hP hD hS => ?_)
            have hP : va_P D vwCl [(h_behindAt, .inl (cI, 12, .inl g106)), (h0, .inr (10, vL 67 F112)), (h_s, .inl (cI, 335, .inl f_s))] H := hP
            have hD : va_D A [(h_behindAt, .inl (cI, 12, .inl g106)), (h0, .inr (10, vL 67 F112)), (h_s, .inl (cI, 335, .inl f_s))] := hD
            refine lv_iload hx hb dX10_down_171 (lv_at hl 3 rfl) ?_
            refine lv_aload_n hx hb dX10_down_173 rfl (lv_at hl 4 rfl) ?_
            have n113 : F112 6 = .ref h_s := (get_ne eF112 (by decide) n107)
            refine get_f (D := D) (ci := 10) (v := .ref h_s) (C := RX10) (T := TX10) (N := 67) hx hb hw inAX10 hown hK hP 1 rfl rfl 6 (by decide) (hw _ q_1267) (fun _ h9 => h9) n113 dX10_down_174 ?_
            refine lv_bipush (v := 44) hx hb dX10_down_177 (by decide) ?_
            refine lv_iload hx hb dX10_down_179 (lv_at hl 2 rfl) ?_
            refine lv_iadd hx hb dX10_down_181 ?_
            refine lv_topi (fun v114 ev114 => ?_)
            have bv114 : v114.toInt = 44 + u9.toInt := by rw [ev114]; exact add_k rfl rfl ⟨Int.le_refl _, Int.le_refl _⟩ k35 (by decide)
            have k115 : 44 ≤ v114.toInt ∧ v114.toInt ≤ 55 := add_r bv114 ⟨Int.le_refl _, Int.le_refl _⟩ k35 (by decide)
            refine va_iald hx hb hK hP 2 0 rfl rfl (ix_k k115 (by decide) (by decide)) dX10_down_182 ?_
            refine lv_topi (fun v116 ev116 => ?_)
            have k117 : 0 ≤ v116.toInt ∧ v116.toInt ≤ 9 := by rw [ev116]; exact s_s_44.at _ (Int.le_trans (by decide) k115.1) (Int.le_trans k115.2 (by decide))
            refine lv_sipush (v := 3000) hx hb dX10_down_183 (by decide) ?_
            refine lv_imul hx hb dX10_down_186 ?_
            refine lv_topi (fun v118 ev118 => ?_)
            have bv118 : v118.toInt = v116.toInt * 3000 := by rw [ev118]; exact mulk_k rfl rfl (by decide) k117 (by decide)
            have k119 : 0 ≤ v118.toInt ∧ v118.toInt ≤ 27000 := mulk_r bv118 (by decide) k117 (by decide)
            refine lv_iload_n hx hb dX10_down_187 rfl (lv_at hl 1 rfl) ?_
            refine lv_idiv hx hb dX10_down_188 (nz_k k98 (by decide)) ?_
            refine lv_topi (fun v120 ev120 => ?_)
            have k121 : 0 ≤ v120.toInt ∧ v120.toInt ≤ 2700 := by rw [ev120]; exact divv_k (Int.le_trans (by decide) k119.1) k119.2 k98.1 (by decide)
            refine lv_iadd hx hb dX10_down_189 ?_
            refine lv_topi (fun v122 ev122 => ?_)
            have bv122 : v122.toInt = u11.toInt + v120.toInt := by rw [ev122]; exact add_k rfl rfl i22 k121 (by decide)
            have k123 : 0 ≤ v122.toInt ∧ v122.toInt ≤ 35100 := add_r bv122 i22 k121 (by decide)
            refine lv_istore (lv' := [(4, .int v122), (5, .int v39), (3, .int v95), (6, .int u9), (0, .ref h0), (1, .int p0), (2, .int p1)]) hx hb dX10_down_190 hl (by decide) rfl (fun ls hl => ?_)
            obtain ⟨v124, ev124⟩ : ∃ z : Int32, z = u9 + 1 := ⟨_, rfl⟩
            have bv124 : v124.toInt = u9.toInt + 1 := by rw [ev124]; exact add_k rfl rfl k35 ⟨Int.le_refl _, Int.le_refl _⟩ (by decide)
            have k125 : 1 ≤ v124.toInt ∧ v124.toInt ≤ 12 := add_r bv124 k35 ⟨Int.le_refl _, Int.le_refl _⟩ (by decide)
            refine lv_iinc (v := v124) (lv' := [(6, .int v124), (4, .int v122), (5, .int v39), (3, .int v95), (0, .ref h0), (1, .int p0), (2, .int p1)]) hx hb dX10_down_192 hl (k := 3) rfl (by rw [ev124]; rfl) (by decide) rfl (fun ls hl => ?_)
            refine lv_goto (tgt := 38) hx hb dX10_down_195 (by decide) ?_
            have n126 : F44 35 = .int u15 := (get_ne eF44 (by decide) i25)
            have n127 : F99 35 = .int u15 := (get_ne eF99 (by decide) n126)
            have n128 : F112 35 = .int u15 := (get_ne eF112 (by decide) n127)
            have n129 : F112 36 = .int v95 := (get_ne eF112 (by decide) (get_eq eF99))
            exact ih (v124, v39, v122, v95, F112, v110, u15, v95, g106) ⟨(ir_wk k125 (by decide) (by decide)), (show 0 ≤ v122.toInt ∧ v122.toInt ≤ 32400 from ⟨by omega, by omega⟩), (SAME.up eF112 (SAME.up eF99 (SAME.up eF44 (SAME.tr SAME.rf i23 (by decide)) (by decide)) (by decide)) (by decide)), (get_eq eF112), n128, n129, (show 0 ≤ v110.toInt ∧ v110.toInt ≤ 12 from ⟨by omega, by omega⟩), i28, (by show v110.toInt = v124.toInt; omega), (by show 0 ≤ v122.toInt ∧ v122.toInt ≤ 2700 * v124.toInt; omega)⟩ (by show (12 - v124.toInt).toNat < (12 - u9.toInt).toNat; omega) _ _ _ (hP.sub [1, 2, 0] rfl) (hD.sub [1, 2, 0] (by decide) rfl) hS (lv_sub hl [0, 2, 1, 3, 4, 5, 6] rfl)
          · have dc97 : v95.toInt < 10 := nle_i (a := 10) (b := v95.toInt) rfl rfl c97
            have k130 : (-89) ≤ v95.toInt ∧ v95.toInt ≤ 9 := ⟨k96.1, up_lt dc97 (Int.le_refl _) (by decide)⟩
            refine lv_bipush (v := 10) hx hb dX10_down_124 (by decide) ?_
            refine lv_goto (tgt := 135) hx hb dX10_down_126 (by decide) ?_
            refine lv_istore_n (lv' := [(3, .int 10), (6, .int u9), (5, .int u10), (4, .int u11), (0, .ref h0), (1, .int p0), (2, .int p1)]) hx hb dX10_down_135 rfl hl (by decide) rfl (fun ls hl => ?_)
            refine lv_aload_n hx hb dX10_down_136 rfl (lv_at hl 4 rfl) ?_
            refine lv_iload_n hx hb dX10_down_137 rfl (lv_at hl 0 rfl) ?_
            refine put_f (D := D) (ci := 10) (v := .int 10) (ty := .int) (C := RX10) (T := TX10) (N := 67) hx hb hw inAX10 tyX10 tyX10_ok nmX10 hown hK hP hD hS 1 rfl rfl 36 (by decide) (hw _ q_1297) (fun _ h9 => h9) rfl (by decide +kernel) rfl rfl dX10_down_138 (fun H locs F131 eF131 hP hD hS => ?_)
            have hP : va_P D vwCl [(h_behindAt, .inl (cI, 12, .inl w17)), (h0, .inr (10, vL 67 F131)), (h_s, .inl (cI, 335, .inl f_s))] H := hP
            have hD : va_D A [(h_behindAt, .inl (cI, 12, .inl w17)), (h0, .inr (10, vL 67 F131)), (h_s, .inl (cI, 335, .inl f_s))] := hD
            refine lv_aload_n hx hb dX10_down_141 rfl (lv_at hl 4 rfl) ?_
            have n132 : F1 33 = .ref h_behindAt := (get_ne eF1 (by decide) e_behindAt)
            have n133 : F2 33 = .ref h_behindAt := (get_ne eF2 (by decide) n132)
            have n134 : F3 33 = .ref h_behindAt := (get_ne eF3 (by decide) n133)
            have n135 : G13 33 = .ref h_behindAt := (SAME.at i23 (by decide) n134)
            have n136 : F44 33 = .ref h_behindAt := (get_ne eF44 (by decide) n135)
            have n137 : F131 33 = .ref h_behindAt := (get_ne eF131 (by decide) n136)
            refine get_f (D := D) (ci := 10) (v := .ref h_behindAt) (C := RX10) (T := TX10) (N := 67) hx hb hw inAX10 hown hK hP 1 rfl rfl 33 (by decide) (hw _ q_1294) (fun _ h9 => h9) n137 dX10_down_142 ?_
            refine lv_iload hx hb dX10_down_145 (lv_at hl 1 rfl) ?_
            refine lv_iload_n hx hb dX10_down_147 rfl (lv_at hl 0 rfl) ?_
            obtain ⟨g138, eg138⟩ : ∃ z : Nat → Int32, upd w17 u9.toNatClampNeg 10 = z := ⟨_, rfl⟩
            refine iast_g hx hb hK hP hD hS 0 0 rfl rfl (ix_k k35 (by decide) (by decide)) eg138 dX10_down_148 (fun H locs hP hD hS => ?_)
            have hP : va_P D vwCl [(h_behindAt, .inl (cI, 12, .inl g138)), (h0, .inr (10, vL 67 F131)), (h_s, .inl (cI, 335, .inl f_s))] H := hP
            have hD : va_D A [(h_behindAt, .inl (cI, 12, .inl g138)), (h0, .inr (10, vL 67 F131)), (h_s, .inl (cI, 335, .inl f_s))] := hD
            refine lv_aload_n hx hb dX10_down_149 rfl (lv_at hl 4 rfl) ?_
            have n139 : F131 6 = .ref h_s := (get_ne eF131 (by decide) n45)
            refine get_f (D := D) (ci := 10) (v := .ref h_s) (C := RX10) (T := TX10) (N := 67) hx hb hw inAX10 hown hK hP 1 rfl rfl 6 (by decide) (hw _ q_1267) (fun _ h9 => h9) n139 dX10_down_150 ?_
            refine lv_bipush (v := 116) hx hb dX10_down_153 (by decide) ?_
            refine lv_iload hx hb dX10_down_155 (lv_at hl 1 rfl) ?_
            refine lv_iadd hx hb dX10_down_157 ?_
            refine lv_ci (y := v37) ev37.symm ?_
            refine va_iald hx hb hK hP 2 0 rfl rfl (ix_k k38 (by decide) (by decide)) dX10_down_158 ?_
            refine lv_ci (y := v39) ev39.symm ?_
            refine lv_istore (lv' := [(5, .int v39), (3, .int 10), (6, .int u9), (4, .int u11), (0, .ref h0), (1, .int p0), (2, .int p1)]) hx hb dX10_down_159 hl (by decide) rfl (fun ls hl => ?_)
            refine lv_aload_n hx hb dX10_down_161 rfl (lv_at hl 4 rfl) ?_
            refine lv_dup hx hb dX10_down_162 rfl ?_
            have n140 : F44 34 = .int u14 := (get_ne eF44 (by decide) i24)
            have n141 : F131 34 = .int u14 := (get_ne eF131 (by decide) n140)
            refine get_f (D := D) (ci := 10) (v := .int u14) (C := RX10) (T := TX10) (N := 67) hx hb hw inAX10 hown hK hP 1 rfl rfl 34 (by decide) (hw _ q_1295) (fun _ h9 => h9) n141 dX10_down_163 ?_
            refine lv_iconst (v := 1) hx hb dX10_down_166 (by decide) ?_
            refine lv_iadd hx hb dX10_down_167 ?_
            refine lv_topi (fun v142 ev142 => ?_)
            have bv142 : v142.toInt = u14.toInt + 1 := by rw [ev142]; exact add_k rfl rfl i27 ⟨Int.le_refl _, Int.le_refl _⟩ (by decide)
            have k143 : 1 ≤ v142.toInt ∧ v142.toInt ≤ 13 := add_r bv142 i27 ⟨Int.le_refl _, Int.le_refl _⟩ (by decide)
            refine put_f (D := D) (ci := 10) (v := .int v142) (ty := .int) (C := RX10) (T := TX10) (N := 67) hx hb hw inAX10 tyX10 tyX10_ok nmX10 hown hK hP hD hS 1 rfl rfl 34 (by decide) (hw _ q_1295) (fun _ h9 => h9) rfl (by decide +kernel) rfl rfl dX10_down_168 (fun H locs F144 eF144 hP hD hS => ?_)
            have hP : va_P D vwCl [(h_behindAt, .inl (cI, 12, .inl g138)), (h0, .inr (10, vL 67 F144)), (h_s, .inl (cI, 335, .inl f_s))] H := hP
            have hD : va_D A [(h_behindAt, .inl (cI, 12, .inl g138)), (h0, .inr (10, vL 67 F144)), (h_s, .inl (cI, 335, .inl f_s))] := hD
            refine lv_iload hx hb dX10_down_171 (lv_at hl 3 rfl) ?_
            refine lv_aload_n hx hb dX10_down_173 rfl (lv_at hl 4 rfl) ?_
            have n145 : F144 6 = .ref h_s := (get_ne eF144 (by decide) n139)
            refine get_f (D := D) (ci := 10) (v := .ref h_s) (C := RX10) (T := TX10) (N := 67) hx hb hw inAX10 hown hK hP 1 rfl rfl 6 (by decide) (hw _ q_1267) (fun _ h9 => h9) n145 dX10_down_174 ?_
            refine lv_bipush (v := 44) hx hb dX10_down_177 (by decide) ?_
            refine lv_iload hx hb dX10_down_179 (lv_at hl 2 rfl) ?_
            refine lv_iadd hx hb dX10_down_181 ?_
            refine lv_topi (fun v146 ev146 => ?_)
            have bv146 : v146.toInt = 44 + u9.toInt := by rw [ev146]; exact add_k rfl rfl ⟨Int.le_refl _, Int.le_refl _⟩ k35 (by decide)
            have k147 : 44 ≤ v146.toInt ∧ v146.toInt ≤ 55 := add_r bv146 ⟨Int.le_refl _, Int.le_refl _⟩ k35 (by decide)
            refine va_iald hx hb hK hP 2 0 rfl rfl (ix_k k147 (by decide) (by decide)) dX10_down_182 ?_
            refine lv_topi (fun v148 ev148 => ?_)
            have k149 : 0 ≤ v148.toInt ∧ v148.toInt ≤ 9 := by rw [ev148]; exact s_s_44.at _ (Int.le_trans (by decide) k147.1) (Int.le_trans k147.2 (by decide))
            refine lv_sipush (v := 3000) hx hb dX10_down_183 (by decide) ?_
            refine lv_imul hx hb dX10_down_186 ?_
            refine lv_topi (fun v150 ev150 => ?_)
            have bv150 : v150.toInt = v148.toInt * 3000 := by rw [ev150]; exact mulk_k rfl rfl (by decide) k149 (by decide)
            have k151 : 0 ≤ v150.toInt ∧ v150.toInt ≤ 27000 := mulk_r bv150 (by decide) k149 (by decide)
            refine lv_iload_n hx hb dX10_down_187 rfl (lv_at hl 1 rfl) ?_
            refine lv_idiv hx hb dX10_down_188 (by decide) ?_
            refine lv_topi (fun v152 ev152 => ?_)
            have bv152 : v152.toInt = v150.toInt / 10 := by rw [ev152]; exact div_i rfl rfl (Int.le_trans (by decide) k151.1) (by decide)
            have k153 : 0 ≤ v152.toInt ∧ v152.toInt ≤ 2700 := div_r bv152 k151 (by decide)
            refine lv_iadd hx hb dX10_down_189 ?_
            refine lv_topi (fun v154 ev154 => ?_)
            have bv154 : v154.toInt = u11.toInt + v152.toInt := by rw [ev154]; exact add_k rfl rfl i22 k153 (by decide)
            have k155 : 0 ≤ v154.toInt ∧ v154.toInt ≤ 35100 := add_r bv154 i22 k153 (by decide)
            refine lv_istore (lv' := [(4, .int v154), (5, .int v39), (3, .int 10), (6, .int u9), (0, .ref h0), (1, .int p0), (2, .int p1)]) hx hb dX10_down_190 hl (by decide) rfl (fun ls hl => ?_)
            obtain ⟨v156, ev156⟩ : ∃ z : Int32, z = u9 + 1 := ⟨_, rfl⟩
            have bv156 : v156.toInt = u9.toInt + 1 := by rw [ev156]; exact add_k rfl rfl k35 ⟨Int.le_refl _, Int.le_refl _⟩ (by decide)
            have k157 : 1 ≤ v156.toInt ∧ v156.toInt ≤ 12 := add_r bv156 k35 ⟨Int.le_refl _, Int.le_refl _⟩ (by decide)
            refine lv_iinc (v := v156) (lv' := [(6, .int v156), (4, .int v154), (5, .int v39), (3, .int 10), (0, .ref h0), (1, .int p0), (2, .int p1)]) hx hb dX10_down_192 hl (k := 3) rfl (by rw [ev156]; rfl) (by decide) rfl (fun ls hl => ?_)
            refine lv_goto (tgt := 38) hx hb dX10_down_195 (by decide) ?_
            have n158 : F44 35 = .int u15 := (get_ne eF44 (by decide) i25)
            have n159 : F131 35 = .int u15 := (get_ne eF131 (by decide) n158)
            have n160 : F144 35 = .int u15 := (get_ne eF144 (by decide) n159)
            have n161 : F144 36 = .int 10 := (get_ne eF144 (by decide) (get_eq eF131))
            exact ih (v156, v39, v154, 10, F144, v142, u15, 10, g138) ⟨(ir_wk k157 (by decide) (by decide)), (show 0 ≤ v154.toInt ∧ v154.toInt ≤ 32400 from ⟨by omega, by omega⟩), (SAME.up eF144 (SAME.up eF131 (SAME.up eF44 (SAME.tr SAME.rf i23 (by decide)) (by decide)) (by decide)) (by decide)), (get_eq eF144), n160, n161, (show 0 ≤ v142.toInt ∧ v142.toInt ≤ 12 from ⟨by omega, by omega⟩), i28, (by show v142.toInt = v156.toInt; omega), (by show 0 ≤ v154.toInt ∧ v154.toInt ≤ 2700 * v156.toInt; omega)⟩ (by show (12 - v156.toInt).toNat < (12 - u9.toInt).toNat; omega) _ _ _ (hP.sub [1, 2, 0] rfl) (hD.sub [1, 2, 0] (by decide) rfl) hS (lv_sub hl [0, 2, 1, 3, 4, 5, 6] rfl)
      · have dc50 : r46.toInt ≠ 0 := ne_i (a := r46.toInt) (b := 0) rfl rfl c50
        have k162 : 1 ≤ r46.toInt ∧ r46.toInt ≤ 1 := ⟨ne_lo dc50 t47.1 ⟨Int.le_refl _, Int.le_refl _⟩ (by decide), t47.2⟩
        refine lv_aload_n hx hb dX10_down_96 rfl (lv_at hl 4 rfl) ?_
        refine lv_iload hx hb dX10_down_97 (lv_at hl 1 rfl) ?_
        refine put_f (D := D) (ci := 10) (v := .int u9) (ty := .int) (C := RX10) (T := TX10) (N := 67) hx hb hw inAX10 tyX10 tyX10_ok nmX10 hown hK hP hD hS 1 rfl rfl 35 (by decide) (hw _ q_1296) (fun _ h9 => h9) rfl (by decide +kernel) rfl rfl dX10_down_99 (fun H locs F163 eF163 hP hD hS => ?_)
        have hP : va_P D vwCl [(h_behindAt, .inl (cI, 12, .inl w17)), (h0, .inr (10, vL 67 F163)), (h_s, .inl (cI, 335, .inl f_s))] H := hP
        have hD : va_D A [(h_behindAt, .inl (cI, 12, .inl w17)), (h0, .inr (10, vL 67 F163)), (h_s, .inl (cI, 335, .inl f_s))] := hD
        refine lv_iconst (v := (-1)) hx hb dX10_down_102 (by decide) ?_
        exact ret_i (v := (-1)) hx hb hr hlocks hS (hP.sub (ws' := [(h0, .inr (10, vL 67 F163)), (h_s, .inl (cI, 335, .inl f_s)), (h_behindAt, .inl (cI, 12, .inl w17))]) [1, 2, 0] rfl) (hD.sub (ws' := [(h0, .inr (10, vL 67 F163)), (h_s, .inl (cI, 335, .inl f_s)), (h_behindAt, .inl (cI, 12, .inl w17))]) [1, 2, 0] (by decide) rfl) dX10_down_103 rfl (Nat.le_of_ble_eq_true rfl) (Nat.le_of_ble_eq_true rfl) ⟨F163, u14, u9, r40, w17, (SAME.up eF163 (SAME.up eF44 (SAME.tr (SAME.up eF3 (SAME.up eF2 (SAME.up eF1 SAME.rf (by decide)) (by decide)) (by decide)) i23 (by decide)) (by decide)) (by decide)), (get_ne eF163 (by decide) (get_ne eF44 (by decide) i24)), i27, (get_eq eF163), (ir_wk k35 (by decide) (by decide)), (get_ne eF163 (by decide) (get_eq eF44)), (show (-1) ≤ ((-1) : Int32).toInt ∧ ((-1) : Int32).toInt ≤ 32400 by decide), rfl⟩
  · have dc8 : v7.toInt < p1.toInt := nle_i (a := p1.toInt) (b := v7.toInt) rfl rfl c8
    have k164 : (-2147483648) ≤ v7.toInt ∧ v7.toInt ≤ 2147483646 := ⟨(ir_any _).1, up_lt dc8 (ir_any _).2 (by decide)⟩
    have k165 : (-2147483647) ≤ p1.toInt ∧ p1.toInt ≤ 2147483647 := ⟨lo_lt dc8 (ir_any _).1 (by decide), (ir_any _).2⟩
    refine lv_iconst (v := (-1)) hx hb dX10_down_33 (by decide) ?_
    exact ret_i (v := (-1)) hx hb hr hlocks hS hP hD dX10_down_34 rfl (Nat.le_of_ble_eq_true rfl) (Nat.le_of_ble_eq_true rfl) ⟨F3, 0, (-1), p0, f_behindAt, (SAME.up eF3 (SAME.up eF2 (SAME.up eF1 SAME.rf (by decide)) (by decide)) (by decide)), (get_ne eF3 (by decide) (get_ne eF2 (by decide) (get_eq eF1))), (show 0 ≤ (0 : Int32).toInt ∧ (0 : Int32).toInt ≤ 12 by decide), (get_ne eF3 (by decide) (get_eq eF2)), (show (-1) ≤ ((-1) : Int32).toInt ∧ ((-1) : Int32).toInt ≤ 11 by decide), (get_eq eF3), (show (-1) ≤ ((-1) : Int32).toInt ∧ ((-1) : Int32).toInt ≤ 32400 by decide), rfl⟩
set_option maxHeartbeats 4000000 in
set_option maxRecDepth 100000 in
theorem m_X10_total (l : Launch) (D : va_G) (cI cJ cB cP cM cZ : ClassId) (h0 : Nat) (h_s : Nat) (h_paceAt : Nat) (h_kindOf : Nat) (h_behindAt : Nat) (Fh : Nat → Value) (x_seed : Int32) (x_kicks : Int32) (x_touchBend : Int32) (x_touchBy : Int32) (f_s : Nat → Int32) (f_paceAt : Nat → Int32) (f_kindOf : Nat → Int32) (f_behindAt : Nat → Int32) (bs : Nat → Int32) (sz : Nat) (e_s : Fh 6 = .ref h_s) (e_paceAt : Fh 25 = .ref h_paceAt) (e_kindOf : Fh 26 = .ref h_kindOf) (e_seed : Fh 31 = .int x_seed) (e_kicks : Fh 32 = .int x_kicks) (i_x_kicks : IR 0 1 x_kicks) (e_behindAt : Fh 33 = .ref h_behindAt) (e_touchBend : Fh 37 = .int x_touchBend) (e_touchBy : Fh 38 = .int x_touchBy) (i_x_touchBy : IR 0 99 x_touchBy) (s_s_K0 : KW 0 f_s) (s_s_US : US bs f_s) (s_s_0 : SG 0 0 0 40 f_s) (s_s_105 : SG 105 108 0 11 f_s) (s_s_114 : SG 114 114 0 5 f_s) (s_s_130 : SG 130 133 0 11 f_s) (s_s_139 : SG 139 139 0 5 f_s) (s_s_153 : SG 153 153 0 44 f_s) (s_s_44 : SG 44 55 0 9 f_s) (s_s_5 : SG 5 5 0 12 f_s) (s_s_6 : SG 6 6 0 12 f_s) (s_s_7 : SG 7 7 0 6 f_s) : CI l yX10_total cX10_total 2 (some .int) { frames := 4, cells := 0, slots := 0, locals := 94 } (GG D cI cJ cB cP cM cZ) D [(h0, .inr (10, vL 67 Fh)), (h_s, .inl (cI, 335, .inl f_s)), (h_paceAt, .inl (cI, 40, .inl f_paceAt)), (h_kindOf, .inl (cI, 4, .inl f_kindOf)), (h_behindAt, .inl (cI, 12, .inl f_behindAt))] sz [.ref h0] (fun (r : Int32) (u : va_W) => ∃ (Gh : Nat → Value) (y_lineTime : Int32) (y_linePace : Int32) (y_inside : Int32) (y_late : Int32) (y_seed : Int32) (y_bendsGone : Int32) (y_overAt : Int32) (y_endPace : Int32) (g_paceAt : Nat → Int32) (g_kindOf : Nat → Int32) (g_behindAt : Nat → Int32), SAME [27, 28, 29, 30, 31, 34, 35, 36] Fh Gh ∧ Gh 27 = .int y_lineTime ∧ Gh 28 = .int y_linePace ∧ IR 10 250 y_linePace ∧ Gh 29 = .int y_inside ∧ IR 0 15 y_inside ∧ Gh 30 = .int y_late ∧ IR 0 15 y_late ∧ Gh 31 = .int y_seed ∧ Gh 34 = .int y_bendsGone ∧ IR 0 12 y_bendsGone ∧ Gh 35 = .int y_overAt ∧ IR (-1) 11 y_overAt ∧ Gh 36 = .int y_endPace ∧ u = [(h0, .inr (10, vL 67 Gh)), (h_s, .inl (cI, 335, .inl f_s)), (h_paceAt, .inl (cI, 40, .inl g_paceAt)), (h_kindOf, .inl (cI, 4, .inl g_kindOf)), (h_behindAt, .inl (cI, 12, .inl g_behindAt))]) := by
  refine CI_mk (by decide) (Nat.le_of_ble_eq_true rfl) ?_
  intro p e s m below meth c A ls E hAe hG hsz hP hD hA hS hl
  obtain ⟨hx, hb, hr, hw, hown, hlocks, hml, hnm⟩ := E
  have hK := hG.1
  have i_x_kicks : 0 ≤ x_kicks.toInt ∧ x_kicks.toInt ≤ 1 := i_x_kicks
  have i_x_touchBy : 0 ≤ x_touchBy.toInt ∧ x_touchBy.toInt ≤ 99 := i_x_touchBy
  have hl : lv_has ls 2 [(0, .ref h0)] := hl
  refine lv_aload_n hx hb dX10_total_0 rfl (lv_at hl 0 rfl) ?_
  refine call_Vv (wr := [(h_behindAt, .inl (cI, 12, .inl f_behindAt))]) (As := []) (rest := []) hx hb hml hown hw (m_X10_starts l D cI cJ cB cP cM cZ h0 h_s h_paceAt h_kindOf Fh x_seed x_kicks f_s f_paceAt f_kindOf bs _ e_s e_paceAt e_kindOf e_seed e_kicks i_x_kicks s_s_K0 s_s_US s_s_0 s_s_105 s_s_114 s_s_130 s_s_139 s_s_153 s_s_44 s_s_5 s_s_6 s_s_7) wV_X10_340_X10_starts dX10_total_1 hK hP hD hS hA [0, 1, 2, 3] [4] rfl rfl (by decide) (by decide) (by decide) 0 10 rfl rfl GG.fb hG.at hl.1 rfl (Nat.le_of_ble_eq_true rfl) ⟨(Nat.le_of_ble_eq_true rfl), (Nat.le_of_ble_eq_true rfl)⟩ ⟨(Nat.le_of_ble_eq_true rfl), (Nat.le_of_ble_eq_true rfl)⟩ (fun u H locs hp hP hD hS => ?_)
  obtain ⟨F2, y3, y4, y5, y6, y7, g8, g9, t10, t11, t12, t13, t14, t15, t16, t17, t18, rfl⟩ := hp
  have hP : va_P D vwCl [(h_behindAt, .inl (cI, 12, .inl f_behindAt)), (h0, .inr (10, vL 67 F2)), (h_s, .inl (cI, 335, .inl f_s)), (h_paceAt, .inl (cI, 40, .inl g8)), (h_kindOf, .inl (cI, 4, .inl g9))] H := hP
  have hD : va_D A [(h_behindAt, .inl (cI, 12, .inl f_behindAt)), (h0, .inr (10, vL 67 F2)), (h_s, .inl (cI, 335, .inl f_s)), (h_paceAt, .inl (cI, 40, .inl g8)), (h_kindOf, .inl (cI, 4, .inl g9))] := hD
  refine W.widen (k := 0) (n := 0) (Nat.le_of_ble_eq_true rfl) (Nat.le_of_ble_eq_true rfl) ?_
  refine lv_aload_n hx hb dX10_total_4 rfl (lv_at hl 0 rfl) ?_
  refine lv_aload_n hx hb dX10_total_5 rfl (lv_at hl 0 rfl) ?_
  refine get_f (D := D) (ci := 10) (v := .int y4) (C := RX10) (T := TX10) (N := 67) hx hb hw inAX10 hown hK hP 1 rfl rfl 28 (by decide) (hw _ q_1289) (fun _ h9 => h9) t12 dX10_total_6 ?_
  refine lv_aload_n hx hb dX10_total_9 rfl (lv_at hl 0 rfl) ?_
  have n20 : F2 6 = .ref h_s := (SAME.at t10 (by decide) e_s)
  refine call_Vi (wr := [(h_behindAt, .inl (cI, 12, .inl f_behindAt)), (h_paceAt, .inl (cI, 40, .inl g8)), (h_kindOf, .inl (cI, 4, .inl g9))]) (As := []) (rest := [.int y4, .ref h0]) hx hb hml hown hw (m_X10_weight l D cI cJ cB cP cM cZ h0 h_s F2 y5 f_s bs _ n20 t14 t15 s_s_K0 s_s_US s_s_0 s_s_105 s_s_114 s_s_130 s_s_139 s_s_153 s_s_44 s_s_5 s_s_6 s_s_7) wV_X10_343_X10_weight dX10_total_10 hK hP hD hS hA [1, 2] [0, 3, 4] rfl rfl (by decide) (by decide) (by decide) 0 10 rfl rfl GG.fb hG.at hl.1 rfl (Nat.le_of_ble_eq_true rfl) ⟨(Nat.le_of_ble_eq_true rfl), (Nat.le_of_ble_eq_true rfl)⟩ ⟨(Nat.le_of_ble_eq_true rfl), (Nat.le_of_ble_eq_true rfl)⟩ (fun r21 u H locs hp hP hD hS => ?_)
  obtain rfl := hp
  have hP : va_P D vwCl [(h_behindAt, .inl (cI, 12, .inl f_behindAt)), (h_paceAt, .inl (cI, 40, .inl g8)), (h_kindOf, .inl (cI, 4, .inl g9)), (h0, .inr (10, vL 67 F2)), (h_s, .inl (cI, 335, .inl f_s))] H := hP
  have hD : va_D A [(h_behindAt, .inl (cI, 12, .inl f_behindAt)), (h_paceAt, .inl (cI, 40, .inl g8)), (h_kindOf, .inl (cI, 4, .inl g9)), (h0, .inr (10, vL 67 F2)), (h_s, .inl (cI, 335, .inl f_s))] := hD
  refine W.widen (k := 0) (n := 0) (Nat.le_of_ble_eq_true rfl) (Nat.le_of_ble_eq_true rfl) ?_
  have n23 : F2 33 = .ref h_behindAt := (SAME.at t10 (by decide) e_behindAt)
  have n24 : F2 37 = .int x_touchBend := (SAME.at t10 (by decide) e_touchBend)
  have n25 : F2 38 = .int x_touchBy := (SAME.at t10 (by decide) e_touchBy)
  refine call_Vi (wr := [(h_paceAt, .inl (cI, 40, .inl g8)), (h_kindOf, .inl (cI, 4, .inl g9))]) (As := [.int y4, .int r21]) (rest := []) hx hb hml hown hw (m_X10_down l D cI cJ cB cP cM cZ h0 h_s h_behindAt F2 x_touchBend x_touchBy f_s f_behindAt y4 r21 bs _ n20 n23 n24 n25 i_x_touchBy s_s_K0 s_s_US s_s_0 s_s_105 s_s_114 s_s_130 s_s_139 s_s_153 s_s_44 s_s_5 s_s_6 s_s_7) wV_X10_365_X10_down dX10_total_13 hK hP hD hS hA [3, 4, 0] [1, 2] rfl rfl (by decide) (by decide) (by decide) 0 10 rfl rfl GG.fb hG.at hl.1 rfl (Nat.le_of_ble_eq_true rfl) ⟨(Nat.le_of_ble_eq_true rfl), (Nat.le_of_ble_eq_true rfl)⟩ ⟨(Nat.le_of_ble_eq_true rfl), (Nat.le_of_ble_eq_true rfl)⟩ (fun r26 u H locs hp hP hD hS => ?_)
  obtain ⟨F27, y28, y29, y30, g31, t32, t33, t34, t35, t36, t37, t38, rfl⟩ := hp
  have hP : va_P D vwCl [(h_paceAt, .inl (cI, 40, .inl g8)), (h_kindOf, .inl (cI, 4, .inl g9)), (h0, .inr (10, vL 67 F27)), (h_s, .inl (cI, 335, .inl f_s)), (h_behindAt, .inl (cI, 12, .inl g31))] H := hP
  have hD : va_D A [(h_paceAt, .inl (cI, 40, .inl g8)), (h_kindOf, .inl (cI, 4, .inl g9)), (h0, .inr (10, vL 67 F27)), (h_s, .inl (cI, 335, .inl f_s)), (h_behindAt, .inl (cI, 12, .inl g31))] := hD
  refine W.widen (k := 0) (n := 0) (Nat.le_of_ble_eq_true rfl) (Nat.le_of_ble_eq_true rfl) ?_
  refine lv_istore_n (lv' := [(1, .int r26), (0, .ref h0)]) hx hb dX10_total_16 rfl hl (by decide) rfl (fun ls hl => ?_)
  refine lv_iload_n hx hb dX10_total_17 rfl (lv_at hl 0 rfl) ?_
  refine lv_if_ge (tgt := 25) hx hb dX10_total_18 (by decide) (fun c40 => ?_) (fun c40 => ?_)
  · have dc40 : 0 ≤ r26.toInt := le_i (a := 0) (b := r26.toInt) rfl rfl c40
    have k41 : 0 ≤ r26.toInt ∧ r26.toInt ≤ 32400 := ⟨Int.le_trans (Int.le_refl _) dc40, t38.2⟩
    refine lv_aload_n hx hb dX10_total_25 rfl (lv_at hl 1 rfl) ?_
    have n42 : F27 27 = .int y3 := (SAME.at t32 (by decide) t11)
    refine get_f (D := D) (ci := 10) (v := .int y3) (C := RX10) (T := TX10) (N := 67) hx hb hw inAX10 hown hK hP 2 rfl rfl 27 (by decide) (hw _ q_1288) (fun _ h9 => h9) n42 dX10_total_26 ?_
    refine lv_iload_n hx hb dX10_total_29 rfl (lv_at hl 0 rfl) ?_
    refine lv_iadd hx hb dX10_total_30 ?_
    refine lv_topi (fun v43 ev43 => ?_)
    exact ret_i (v := v43) hx hb hr hlocks hS (hP.sub (ws' := [(h0, .inr (10, vL 67 F27)), (h_s, .inl (cI, 335, .inl f_s)), (h_paceAt, .inl (cI, 40, .inl g8)), (h_kindOf, .inl (cI, 4, .inl g9)), (h_behindAt, .inl (cI, 12, .inl g31))]) [2, 3, 0, 1, 4] rfl) (hD.sub (ws' := [(h0, .inr (10, vL 67 F27)), (h_s, .inl (cI, 335, .inl f_s)), (h_paceAt, .inl (cI, 40, .inl g8)), (h_kindOf, .inl (cI, 4, .inl g9)), (h_behindAt, .inl (cI, 12, .inl g31))]) [2, 3, 0, 1, 4] (by decide) rfl) dX10_total_31 rfl (Nat.le_of_ble_eq_true rfl) (Nat.le_of_ble_eq_true rfl) ⟨F27, y3, y4, y5, y6, y7, y28, y29, y30, g8, g9, g31, (SAME.tr (SAME.tr SAME.rf t10 (by decide)) t32 (by decide)), n42, (SAME.at t32 (by decide) t12), t13, (SAME.at t32 (by decide) t14), t15, (SAME.at t32 (by decide) t16), t17, (SAME.at t32 (by decide) t18), t33, t34, t35, t36, t37, rfl⟩
  · have dc40 : r26.toInt < 0 := nle_i (a := 0) (b := r26.toInt) rfl rfl c40
    have k44 : (-1) ≤ r26.toInt ∧ r26.toInt ≤ (-1) := ⟨t38.1, up_lt dc40 (Int.le_refl _) (by decide)⟩
    refine lv_iconst (v := (-1)) hx hb dX10_total_21 (by decide) ?_
    refine lv_goto (tgt := 31) hx hb dX10_total_22 (by decide) ?_
    exact ret_i (v := (-1)) hx hb hr hlocks hS (hP.sub (ws' := [(h0, .inr (10, vL 67 F27)), (h_s, .inl (cI, 335, .inl f_s)), (h_paceAt, .inl (cI, 40, .inl g8)), (h_kindOf, .inl (cI, 4, .inl g9)), (h_behindAt, .inl (cI, 12, .inl g31))]) [2, 3, 0, 1, 4] rfl) (hD.sub (ws' := [(h0, .inr (10, vL 67 F27)), (h_s, .inl (cI, 335, .inl f_s)), (h_paceAt, .inl (cI, 40, .inl g8)), (h_kindOf, .inl (cI, 4, .inl g9)), (h_behindAt, .inl (cI, 12, .inl g31))]) [2, 3, 0, 1, 4] (by decide) rfl) dX10_total_31 rfl (Nat.le_of_ble_eq_true rfl) (Nat.le_of_ble_eq_true rfl) ⟨F27, y3, y4, y5, y6, y7, y28, y29, y30, g8, g9, g31, (SAME.tr (SAME.tr SAME.rf t10 (by decide)) t32 (by decide)), (SAME.at t32 (by decide) t11), (SAME.at t32 (by decide) t12), t13, (SAME.at t32 (by decide) t14), t15, (SAME.at t32 (by decide) t16), t17, (SAME.at t32 (by decide) t18), t33, t34, t35, t36, t37, rfl⟩
set_option maxHeartbeats 4000000 in
set_option maxRecDepth 100000 in
theorem m_X10_run (l : Launch) (D : va_G) (cI cJ cB cP cM cZ : ClassId) (h0 : Nat) (h_s : Nat) (h_paceAt : Nat) (h_kindOf : Nat) (h_behindAt : Nat) (Fh : Nat → Value) (x_lineTime : Int32) (x_linePace : Int32) (x_inside : Int32) (x_late : Int32) (x_seed : Int32) (x_kicks : Int32) (x_bendsGone : Int32) (x_overAt : Int32) (x_endPace : Int32) (x_touchBend : Int32) (x_touchBy : Int32) (f_s : Nat → Int32) (f_paceAt : Nat → Int32) (f_kindOf : Nat → Int32) (f_behindAt : Nat → Int32) (p0 : Int32) (bs : Nat → Int32) (sz : Nat) (e_s : Fh 6 = .ref h_s) (e_paceAt : Fh 25 = .ref h_paceAt) (e_kindOf : Fh 26 = .ref h_kindOf) (e_lineTime : Fh 27 = .int x_lineTime) (e_linePace : Fh 28 = .int x_linePace) (e_inside : Fh 29 = .int x_inside) (i_x_inside : IR 0 15 x_inside) (e_late : Fh 30 = .int x_late) (i_x_late : IR 0 15 x_late) (e_seed : Fh 31 = .int x_seed) (e_kicks : Fh 32 = .int x_kicks) (i_x_kicks : IR 0 1 x_kicks) (e_behindAt : Fh 33 = .ref h_behindAt) (e_bendsGone : Fh 34 = .int x_bendsGone) (i_x_bendsGone : IR 0 12 x_bendsGone) (e_overAt : Fh 35 = .int x_overAt) (e_endPace : Fh 36 = .int x_endPace) (e_touchBend : Fh 37 = .int x_touchBend) (e_touchBy : Fh 38 = .int x_touchBy) (i_x_touchBy : IR 0 99 x_touchBy) (s_s_K0 : KW 0 f_s) (s_s_US : US bs f_s) (s_s_0 : SG 0 0 0 40 f_s) (s_s_105 : SG 105 108 0 11 f_s) (s_s_114 : SG 114 114 0 5 f_s) (s_s_130 : SG 130 133 0 11 f_s) (s_s_139 : SG 139 139 0 5 f_s) (s_s_153 : SG 153 153 0 44 f_s) (s_s_44 : SG 44 55 0 9 f_s) (s_s_5 : SG 5 5 0 12 f_s) (s_s_6 : SG 6 6 0 12 f_s) (s_s_7 : SG 7 7 0 6 f_s) : CI l yX10_run cX10_run 3 (some .int) { frames := 5, cells := 0, slots := 0, locals := 115 } (GG D cI cJ cB cP cM cZ) D [(h0, .inr (10, vL 67 Fh)), (h_s, .inl (cI, 335, .inl f_s)), (h_paceAt, .inl (cI, 40, .inl f_paceAt)), (h_kindOf, .inl (cI, 4, .inl f_kindOf)), (h_behindAt, .inl (cI, 12, .inl f_behindAt))] sz [.ref h0, .int p0] (fun (r : Int32) (u : va_W) => ∃ (Gh : Nat → Value) (y_lineTime : Int32) (y_linePace : Int32) (y_inside : Int32) (y_late : Int32) (y_seed : Int32) (y_bendsGone : Int32) (y_overAt : Int32) (y_endPace : Int32) (g_paceAt : Nat → Int32) (g_kindOf : Nat → Int32) (g_behindAt : Nat → Int32), SAME [0, 27, 28, 29, 30, 31, 34, 35, 36] Fh Gh ∧ Gh 0 = .int 0 ∧ Gh 27 = .int y_lineTime ∧ Gh 28 = .int y_linePace ∧ Gh 29 = .int y_inside ∧ IR 0 15 y_inside ∧ Gh 30 = .int y_late ∧ IR 0 15 y_late ∧ Gh 31 = .int y_seed ∧ Gh 34 = .int y_bendsGone ∧ IR 0 12 y_bendsGone ∧ Gh 35 = .int y_overAt ∧ Gh 36 = .int y_endPace ∧ u = [(h0, .inr (10, vL 67 Gh)), (h_s, .inl (cI, 335, .inl f_s)), (h_paceAt, .inl (cI, 40, .inl g_paceAt)), (h_kindOf, .inl (cI, 4, .inl g_kindOf)), (h_behindAt, .inl (cI, 12, .inl g_behindAt))]) := by
  refine CI_mk (by decide) (Nat.le_of_ble_eq_true rfl) ?_
  intro p e s m below meth c A ls E hAe hG hsz hP hD hA hS hl
  obtain ⟨hx, hb, hr, hw, hown, hlocks, hml, hnm⟩ := E
  have hK := hG.1
  have i_x_inside : 0 ≤ x_inside.toInt ∧ x_inside.toInt ≤ 15 := i_x_inside
  have i_x_late : 0 ≤ x_late.toInt ∧ x_late.toInt ≤ 15 := i_x_late
  have i_x_kicks : 0 ≤ x_kicks.toInt ∧ x_kicks.toInt ≤ 1 := i_x_kicks
  have i_x_bendsGone : 0 ≤ x_bendsGone.toInt ∧ x_bendsGone.toInt ≤ 12 := i_x_bendsGone
  have i_x_touchBy : 0 ≤ x_touchBy.toInt ∧ x_touchBy.toInt ≤ 99 := i_x_touchBy
  have hl : lv_has ls 3 [(0, .ref h0), (1, .int p0)] := hl
  refine lv_aload_n hx hb dX10_run_0 rfl (lv_at hl 0 rfl) ?_
  refine lv_iconst (v := 0) hx hb dX10_run_1 (by decide) ?_
  refine put_f (D := D) (ci := 10) (v := .int 0) (ty := .int) (C := RX10) (T := TX10) (N := 67) hx hb hw inAX10 tyX10 tyX10_ok nmX10 hown hK hP hD hS 0 rfl rfl 0 (by decide) (hw _ q_1261) (fun _ h9 => h9) rfl (by decide +kernel) rfl rfl dX10_run_2 (fun H locs F1 eF1 hP hD hS => ?_)
  have hP : va_P D vwCl [(h0, .inr (10, vL 67 F1)), (h_s, .inl (cI, 335, .inl f_s)), (h_paceAt, .inl (cI, 40, .inl f_paceAt)), (h_kindOf, .inl (cI, 4, .inl f_kindOf)), (h_behindAt, .inl (cI, 12, .inl f_behindAt))] H := hP
  have hD : va_D A [(h0, .inr (10, vL 67 F1)), (h_s, .inl (cI, 335, .inl f_s)), (h_paceAt, .inl (cI, 40, .inl f_paceAt)), (h_kindOf, .inl (cI, 4, .inl f_kindOf)), (h_behindAt, .inl (cI, 12, .inl f_behindAt))] := hD
  refine lv_aload_n hx hb dX10_run_5 rfl (lv_at hl 0 rfl) ?_
  have n2 : F1 6 = .ref h_s := (get_ne eF1 (by decide) e_s)
  refine call_Vi (wr := [(h_paceAt, .inl (cI, 40, .inl f_paceAt)), (h_kindOf, .inl (cI, 4, .inl f_kindOf)), (h_behindAt, .inl (cI, 12, .inl f_behindAt))]) (As := []) (rest := []) hx hb hml hown hw (m_X10_hasCrew l D cI cJ cB cP cM cZ h0 h_s F1 f_s bs _ n2 s_s_K0 s_s_US s_s_0 s_s_105 s_s_114 s_s_130 s_s_139 s_s_153 s_s_44 s_s_5 s_s_6 s_s_7) wV_X10_281_X10_hasCrew dX10_run_6 hK hP hD hS hA [0, 1] [2, 3, 4] rfl rfl (by decide) (by decide) (by decide) 0 10 rfl rfl GG.fb hG.at hl.1 rfl (Nat.le_of_ble_eq_true rfl) ⟨(Nat.le_of_ble_eq_true rfl), (Nat.le_of_ble_eq_true rfl)⟩ ⟨(Nat.le_of_ble_eq_true rfl), (Nat.le_of_ble_eq_true rfl)⟩ (fun r3 u H locs hp hP hD hS => ?_)
  rcases hp with ⟨rfl, rfl⟩ | ⟨rfl, rfl⟩
  · have hP : va_P D vwCl [(h_paceAt, .inl (cI, 40, .inl f_paceAt)), (h_kindOf, .inl (cI, 4, .inl f_kindOf)), (h_behindAt, .inl (cI, 12, .inl f_behindAt)), (h0, .inr (10, vL 67 F1)), (h_s, .inl (cI, 335, .inl f_s))] H := hP
    have hD : va_D A [(h_paceAt, .inl (cI, 40, .inl f_paceAt)), (h_kindOf, .inl (cI, 4, .inl f_kindOf)), (h_behindAt, .inl (cI, 12, .inl f_behindAt)), (h0, .inr (10, vL 67 F1)), (h_s, .inl (cI, 335, .inl f_s))] := hD
    refine W.widen (k := 0) (n := 0) (Nat.le_of_ble_eq_true rfl) (Nat.le_of_ble_eq_true rfl) ?_
    refine lv_if_ne (tgt := 14) hx hb dX10_run_9 (by decide) (fun g => absurd (by decide) g) (fun _ => ?_)
    refine lv_iconst (v := (-1)) hx hb dX10_run_12 (by decide) ?_
    exact ret_i (v := (-1)) hx hb hr hlocks hS (hP.sub (ws' := [(h0, .inr (10, vL 67 F1)), (h_s, .inl (cI, 335, .inl f_s)), (h_paceAt, .inl (cI, 40, .inl f_paceAt)), (h_kindOf, .inl (cI, 4, .inl f_kindOf)), (h_behindAt, .inl (cI, 12, .inl f_behindAt))]) [3, 4, 0, 1, 2] rfl) (hD.sub (ws' := [(h0, .inr (10, vL 67 F1)), (h_s, .inl (cI, 335, .inl f_s)), (h_paceAt, .inl (cI, 40, .inl f_paceAt)), (h_kindOf, .inl (cI, 4, .inl f_kindOf)), (h_behindAt, .inl (cI, 12, .inl f_behindAt))]) [3, 4, 0, 1, 2] (by decide) rfl) dX10_run_13 rfl (Nat.le_of_ble_eq_true rfl) (Nat.le_of_ble_eq_true rfl) ⟨F1, x_lineTime, x_linePace, x_inside, x_late, x_seed, x_bendsGone, x_overAt, x_endPace, f_paceAt, f_kindOf, f_behindAt, (SAME.up eF1 SAME.rf (by decide)), (get_eq eF1), (get_ne eF1 (by decide) e_lineTime), (get_ne eF1 (by decide) e_linePace), (get_ne eF1 (by decide) e_inside), i_x_inside, (get_ne eF1 (by decide) e_late), i_x_late, (get_ne eF1 (by decide) e_seed), (get_ne eF1 (by decide) e_bendsGone), i_x_bendsGone, (get_ne eF1 (by decide) e_overAt), (get_ne eF1 (by decide) e_endPace), rfl⟩
  · have hP : va_P D vwCl [(h_paceAt, .inl (cI, 40, .inl f_paceAt)), (h_kindOf, .inl (cI, 4, .inl f_kindOf)), (h_behindAt, .inl (cI, 12, .inl f_behindAt)), (h0, .inr (10, vL 67 F1)), (h_s, .inl (cI, 335, .inl f_s))] H := hP
    have hD : va_D A [(h_paceAt, .inl (cI, 40, .inl f_paceAt)), (h_kindOf, .inl (cI, 4, .inl f_kindOf)), (h_behindAt, .inl (cI, 12, .inl f_behindAt)), (h0, .inr (10, vL 67 F1)), (h_s, .inl (cI, 335, .inl f_s))] := hD
    refine W.widen (k := 0) (n := 0) (Nat.le_of_ble_eq_true rfl) (Nat.le_of_ble_eq_true rfl) ?_
    refine lv_if_ne (tgt := 14) hx hb dX10_run_9 (by decide) (fun _ => ?_) (fun g => absurd g (by decide))
    refine lv_aload_n hx hb dX10_run_14 rfl (lv_at hl 0 rfl) ?_
    have n5 : F1 25 = .ref h_paceAt := (get_ne eF1 (by decide) e_paceAt)
    have n6 : F1 26 = .ref h_kindOf := (get_ne eF1 (by decide) e_kindOf)
    have n7 : F1 31 = .int x_seed := (get_ne eF1 (by decide) e_seed)
    have n8 : F1 32 = .int x_kicks := (get_ne eF1 (by decide) e_kicks)
    have n9 : F1 33 = .ref h_behindAt := (get_ne eF1 (by decide) e_behindAt)
    have n10 : F1 37 = .int x_touchBend := (get_ne eF1 (by decide) e_touchBend)
    have n11 : F1 38 = .int x_touchBy := (get_ne eF1 (by decide) e_touchBy)
    refine call_Vi (wr := []) (As := []) (rest := []) hx hb hml hown hw (m_X10_total l D cI cJ cB cP cM cZ h0 h_s h_paceAt h_kindOf h_behindAt F1 x_seed x_kicks x_touchBend x_touchBy f_s f_paceAt f_kindOf f_behindAt bs _ n2 n5 n6 n7 n8 i_x_kicks n9 n10 n11 i_x_touchBy s_s_K0 s_s_US s_s_0 s_s_105 s_s_114 s_s_130 s_s_139 s_s_153 s_s_44 s_s_5 s_s_6 s_s_7) wV_X10_368_X10_total dX10_run_15 hK hP hD hS hA [3, 4, 0, 1, 2] [] rfl rfl (by decide) (by decide) (by decide) 0 10 rfl rfl GG.fb hG.at hl.1 rfl (Nat.le_of_ble_eq_true rfl) ⟨(Nat.le_of_ble_eq_true rfl), (Nat.le_of_ble_eq_true rfl)⟩ ⟨(Nat.le_of_ble_eq_true rfl), (Nat.le_of_ble_eq_true rfl)⟩ (fun r12 u H locs hp hP hD hS => ?_)
    refine hp.elim (fun F13 h9z0 => h9z0.elim (fun y14 h9z1 => h9z1.elim (fun y15 h9z2 => h9z2.elim (fun y16 h9z3 => h9z3.elim (fun y17 h9z4 => h9z4.elim (fun y18 h9z5 => h9z5.elim (fun y19 h9z6 => h9z6.elim (fun y20 h9z7 => h9z7.elim (fun y21 h9z8 => h9z8.elim (fun g22 h9z9 => h9z9.elim (fun g23 h9z10 => h9z10.elim (fun g24 h9z11 => h9z11.elim (fun t25 h9z12 => h9z12.elim (fun t26 h9z13 => h9z13.elim (fun t27 h9z14 => h9z14.elim (fun t28 h9z15 => h9z15.elim (fun t29 h9z16 => h9z16.elim (fun t30 h9z17 => h9z17.elim (fun t31 h9z18 => h9z18.elim (fun t32 h9z19 => h9z19.elim (fun t33 h9z20 => h9z20.elim (fun t34 h9z21 => h9z21.elim (fun t35 h9z22 => h9z22.elim (fun t36 h9z23 => h9z23.elim (fun t37 h9z24 => h9z24.elim (fun t38 h9z25 => ?_))))))))))))))))))))))))))
    clear h9z0 h9z1 h9z2 h9z3 h9z4 h9z5 h9z6 h9z7 h9z8 h9z9 h9z10 h9z11 h9z12 h9z13 h9z14 h9z15 h9z16 h9z17 h9z18 h9z19 h9z20 h9z21 h9z22 h9z23 h9z24
    subst h9z25
    have hP : va_P D vwCl [(h0, .inr (10, vL 67 F13)), (h_s, .inl (cI, 335, .inl f_s)), (h_paceAt, .inl (cI, 40, .inl g22)), (h_kindOf, .inl (cI, 4, .inl g23)), (h_behindAt, .inl (cI, 12, .inl g24))] H := hP
    have hD : va_D A [(h0, .inr (10, vL 67 F13)), (h_s, .inl (cI, 335, .inl f_s)), (h_paceAt, .inl (cI, 40, .inl g22)), (h_kindOf, .inl (cI, 4, .inl g23)), (h_behindAt, .inl (cI, 12, .inl g24))] := hD
    refine W.widen (k := 0) (n := 0) (Nat.le_of_ble_eq_true rfl) (Nat.le_of_ble_eq_true rfl) ?_
    refine lv_istore_n (lv' := [(2, .int r12), (0, .ref h0), (1, .int p0)]) hx hb dX10_run_18 rfl hl (by decide) rfl (fun ls hl => ?_)
    refine lv_iload_n hx hb dX10_run_19 rfl (lv_at hl 2 rfl) ?_
    by_cases k40 : p0 = 0
    · have dk40 : p0.toInt = 0 := eq_i rfl rfl k40
      have k41 : 0 ≤ p0.toInt ∧ p0.toInt ≤ 0 := ⟨Int.le_trans (Int.le_refl _) (Int.le_of_eq dk40.symm), Int.le_trans (Int.le_of_eq dk40) (Int.le_refl _)⟩
      refine lv_ci (y := 0) k40 ?_
      refine lv_tableIn (tgt := 52) (off := 32) hx hb dX10_run_20 (by decide) (by decide) (by decide) (by decide) ?_
      refine lv_iload_n hx hb dX10_run_52 rfl (lv_at hl 0 rfl) ?_
      exact ret_i (v := r12) hx hb hr hlocks hS hP hD dX10_run_53 rfl (Nat.le_of_ble_eq_true rfl) (Nat.le_of_ble_eq_true rfl) ⟨F13, y14, y15, y16, y17, y18, y19, y20, y21, g22, g23, g24, (SAME.tr (SAME.up eF1 SAME.rf (by decide)) t25 (by decide)), (SAME.at t25 (by decide) (get_eq eF1)), t26, t27, t29, t30, t31, t32, t33, t34, t35, t36, t38, rfl⟩
    by_cases k42 : p0 = 1
    · have dk42 : p0.toInt = 1 := eq_i rfl rfl k42
      have k43 : 1 ≤ p0.toInt ∧ p0.toInt ≤ 1 := ⟨Int.le_trans (Int.le_refl _) (Int.le_of_eq dk42.symm), Int.le_trans (Int.le_of_eq dk42) (Int.le_refl _)⟩
      refine lv_ci (y := 1) k42 ?_
      refine lv_tableIn (tgt := 54) (off := 34) hx hb dX10_run_20 (by decide) (by decide) (by decide) (by decide) ?_
      refine lv_aload_n hx hb dX10_run_54 rfl (lv_at hl 1 rfl) ?_
      refine get_f (D := D) (ci := 10) (v := .int y21) (C := RX10) (T := TX10) (N := 67) hx hb hw inAX10 hown hK hP 0 rfl rfl 36 (by decide) (hw _ q_1297) (fun _ h9 => h9) t38 dX10_run_55 ?_
      exact ret_i (v := y21) hx hb hr hlocks hS hP hD dX10_run_58 rfl (Nat.le_of_ble_eq_true rfl) (Nat.le_of_ble_eq_true rfl) ⟨F13, y14, y15, y16, y17, y18, y19, y20, y21, g22, g23, g24, (SAME.tr (SAME.up eF1 SAME.rf (by decide)) t25 (by decide)), (SAME.at t25 (by decide) (get_eq eF1)), t26, t27, t29, t30, t31, t32, t33, t34, t35, t36, t38, rfl⟩
    by_cases k44 : p0 = 2
    · have dk44 : p0.toInt = 2 := eq_i rfl rfl k44
      have k45 : 2 ≤ p0.toInt ∧ p0.toInt ≤ 2 := ⟨Int.le_trans (Int.le_refl _) (Int.le_of_eq dk44.symm), Int.le_trans (Int.le_of_eq dk44) (Int.le_refl _)⟩
      refine lv_ci (y := 2) k44 ?_
      refine lv_tableIn (tgt := 59) (off := 39) hx hb dX10_run_20 (by decide) (by decide) (by decide) (by decide) ?_
      refine lv_aload_n hx hb dX10_run_59 rfl (lv_at hl 1 rfl) ?_
      refine get_f (D := D) (ci := 10) (v := .int y19) (C := RX10) (T := TX10) (N := 67) hx hb hw inAX10 hown hK hP 0 rfl rfl 34 (by decide) (hw _ q_1295) (fun _ h9 => h9) t34 dX10_run_60 ?_
      exact ret_i (v := y19) hx hb hr hlocks hS hP hD dX10_run_63 rfl (Nat.le_of_ble_eq_true rfl) (Nat.le_of_ble_eq_true rfl) ⟨F13, y14, y15, y16, y17, y18, y19, y20, y21, g22, g23, g24, (SAME.tr (SAME.up eF1 SAME.rf (by decide)) t25 (by decide)), (SAME.at t25 (by decide) (get_eq eF1)), t26, t27, t29, t30, t31, t32, t33, t34, t35, t36, t38, rfl⟩
    by_cases k46 : p0 = 3
    · have dk46 : p0.toInt = 3 := eq_i rfl rfl k46
      have k47 : 3 ≤ p0.toInt ∧ p0.toInt ≤ 3 := ⟨Int.le_trans (Int.le_refl _) (Int.le_of_eq dk46.symm), Int.le_trans (Int.le_of_eq dk46) (Int.le_refl _)⟩
      refine lv_ci (y := 3) k46 ?_
      refine lv_tableIn (tgt := 64) (off := 44) hx hb dX10_run_20 (by decide) (by decide) (by decide) (by decide) ?_
      refine lv_aload_n hx hb dX10_run_64 rfl (lv_at hl 1 rfl) ?_
      refine get_f (D := D) (ci := 10) (v := .int y20) (C := RX10) (T := TX10) (N := 67) hx hb hw inAX10 hown hK hP 0 rfl rfl 35 (by decide) (hw _ q_1296) (fun _ h9 => h9) t36 dX10_run_65 ?_
      exact ret_i (v := y20) hx hb hr hlocks hS hP hD dX10_run_68 rfl (Nat.le_of_ble_eq_true rfl) (Nat.le_of_ble_eq_true rfl) ⟨F13, y14, y15, y16, y17, y18, y19, y20, y21, g22, g23, g24, (SAME.tr (SAME.up eF1 SAME.rf (by decide)) t25 (by decide)), (SAME.at t25 (by decide) (get_eq eF1)), t26, t27, t29, t30, t31, t32, t33, t34, t35, t36, t38, rfl⟩
    have dk40 : p0.toInt ≠ 0 := ne_i rfl rfl k40
    have dk42 : p0.toInt ≠ 1 := ne_i rfl rfl k42
    have dk44 : p0.toInt ≠ 2 := ne_i rfl rfl k44
    have dk46 : p0.toInt ≠ 3 := ne_i rfl rfl k46
    refine lv_tableOut (tgt := 69) hx hb dX10_run_20 (by omega) (by decide) ?_
    refine lv_iconst (v := (-1)) hx hb dX10_run_69 (by decide) ?_
    exact ret_i (v := (-1)) hx hb hr hlocks hS hP hD dX10_run_70 rfl (Nat.le_of_ble_eq_true rfl) (Nat.le_of_ble_eq_true rfl) ⟨F13, y14, y15, y16, y17, y18, y19, y20, y21, g22, g23, g24, (SAME.tr (SAME.up eF1 SAME.rf (by decide)) t25 (by decide)), (SAME.at t25 (by decide) (get_eq eF1)), t26, t27, t29, t30, t31, t32, t33, t34, t35, t36, t38, rfl⟩
set_option maxHeartbeats 4000000 in
set_option maxRecDepth 100000 in
theorem m_X10_behind (l : Launch) (D : va_G) (cI cJ cB cP cM cZ : ClassId) (h0 : Nat) (h_s : Nat) (h_paceAt : Nat) (h_kindOf : Nat) (h_behindAt : Nat) (Fh : Nat → Value) (x_lineTime : Int32) (x_linePace : Int32) (x_inside : Int32) (x_late : Int32) (x_seed : Int32) (x_kicks : Int32) (x_bendsGone : Int32) (x_overAt : Int32) (x_endPace : Int32) (x_touchBend : Int32) (x_touchBy : Int32) (f_s : Nat → Int32) (f_paceAt : Nat → Int32) (f_kindOf : Nat → Int32) (f_behindAt : Nat → Int32) (p0 : Int32) (bs : Nat → Int32) (sz : Nat) (e_s : Fh 6 = .ref h_s) (e_paceAt : Fh 25 = .ref h_paceAt) (e_kindOf : Fh 26 = .ref h_kindOf) (e_lineTime : Fh 27 = .int x_lineTime) (e_linePace : Fh 28 = .int x_linePace) (e_inside : Fh 29 = .int x_inside) (i_x_inside : IR 0 15 x_inside) (e_late : Fh 30 = .int x_late) (i_x_late : IR 0 15 x_late) (e_seed : Fh 31 = .int x_seed) (e_kicks : Fh 32 = .int x_kicks) (i_x_kicks : IR 0 1 x_kicks) (e_behindAt : Fh 33 = .ref h_behindAt) (e_bendsGone : Fh 34 = .int x_bendsGone) (i_x_bendsGone : IR 0 12 x_bendsGone) (e_overAt : Fh 35 = .int x_overAt) (e_endPace : Fh 36 = .int x_endPace) (e_touchBend : Fh 37 = .int x_touchBend) (e_touchBy : Fh 38 = .int x_touchBy) (i_x_touchBy : IR 0 99 x_touchBy) (s_s_K0 : KW 0 f_s) (s_s_US : US bs f_s) (s_s_0 : SG 0 0 0 40 f_s) (s_s_105 : SG 105 108 0 11 f_s) (s_s_114 : SG 114 114 0 5 f_s) (s_s_130 : SG 130 133 0 11 f_s) (s_s_139 : SG 139 139 0 5 f_s) (s_s_153 : SG 153 153 0 44 f_s) (s_s_44 : SG 44 55 0 9 f_s) (s_s_5 : SG 5 5 0 12 f_s) (s_s_6 : SG 6 6 0 12 f_s) (s_s_7 : SG 7 7 0 6 f_s) : CI l yX10_behind cX10_behind 2 (some .int) { frames := 5, cells := 0, slots := 0, locals := 115 } (GG D cI cJ cB cP cM cZ) D [(h0, .inr (10, vL 67 Fh)), (h_s, .inl (cI, 335, .inl f_s)), (h_paceAt, .inl (cI, 40, .inl f_paceAt)), (h_kindOf, .inl (cI, 4, .inl f_kindOf)), (h_behindAt, .inl (cI, 12, .inl f_behindAt))] sz [.ref h0, .int p0] (fun (r : Int32) (u : va_W) => ∃ (Gh : Nat → Value) (y_lineTime : Int32) (y_linePace : Int32) (y_inside : Int32) (y_late : Int32) (y_seed : Int32) (y_bendsGone : Int32) (y_overAt : Int32) (y_endPace : Int32) (g_paceAt : Nat → Int32) (g_kindOf : Nat → Int32) (g_behindAt : Nat → Int32), SAME [0, 27, 28, 29, 30, 31, 34, 35, 36] Fh Gh ∧ Gh 0 = .int 0 ∧ Gh 27 = .int y_lineTime ∧ Gh 28 = .int y_linePace ∧ Gh 29 = .int y_inside ∧ IR 0 15 y_inside ∧ Gh 30 = .int y_late ∧ IR 0 15 y_late ∧ Gh 31 = .int y_seed ∧ Gh 34 = .int y_bendsGone ∧ IR 0 12 y_bendsGone ∧ Gh 35 = .int y_overAt ∧ Gh 36 = .int y_endPace ∧ u = [(h0, .inr (10, vL 67 Gh)), (h_s, .inl (cI, 335, .inl f_s)), (h_paceAt, .inl (cI, 40, .inl g_paceAt)), (h_kindOf, .inl (cI, 4, .inl g_kindOf)), (h_behindAt, .inl (cI, 12, .inl g_behindAt))]) := by
  refine CI_mk (by decide) (Nat.le_of_ble_eq_true rfl) ?_
  intro p e s m below meth c A ls E hAe hG hsz hP hD hA hS hl
  obtain ⟨hx, hb, hr, hw, hown, hlocks, hml, hnm⟩ := E
  have hK := hG.1
  have i_x_inside : 0 ≤ x_inside.toInt ∧ x_inside.toInt ≤ 15 := i_x_inside
  have i_x_late : 0 ≤ x_late.toInt ∧ x_late.toInt ≤ 15 := i_x_late
  have i_x_kicks : 0 ≤ x_kicks.toInt ∧ x_kicks.toInt ≤ 1 := i_x_kicks
  have i_x_bendsGone : 0 ≤ x_bendsGone.toInt ∧ x_bendsGone.toInt ≤ 12 := i_x_bendsGone
  have i_x_touchBy : 0 ≤ x_touchBy.toInt ∧ x_touchBy.toInt ≤ 99 := i_x_touchBy
  have hl : lv_has ls 2 [(0, .ref h0), (1, .int p0)] := hl
  refine lv_aload_n hx hb dX10_behind_0 rfl (lv_at hl 0 rfl) ?_
  refine lv_iconst (v := 0) hx hb dX10_behind_1 (by decide) ?_
  refine put_f (D := D) (ci := 10) (v := .int 0) (ty := .int) (C := RX10) (T := TX10) (N := 67) hx hb hw inAX10 tyX10 tyX10_ok nmX10 hown hK hP hD hS 0 rfl rfl 0 (by decide) (hw _ q_1261) (fun _ h9 => h9) rfl (by decide +kernel) rfl rfl dX10_behind_2 (fun H locs F1 eF1 hP hD hS => ?_)
  have hP : va_P D vwCl [(h0, .inr (10, vL 67 F1)), (h_s, .inl (cI, 335, .inl f_s)), (h_paceAt, .inl (cI, 40, .inl f_paceAt)), (h_kindOf, .inl (cI, 4, .inl f_kindOf)), (h_behindAt, .inl (cI, 12, .inl f_behindAt))] H := hP
  have hD : va_D A [(h0, .inr (10, vL 67 F1)), (h_s, .inl (cI, 335, .inl f_s)), (h_paceAt, .inl (cI, 40, .inl f_paceAt)), (h_kindOf, .inl (cI, 4, .inl f_kindOf)), (h_behindAt, .inl (cI, 12, .inl f_behindAt))] := hD
  refine lv_aload_n hx hb dX10_behind_5 rfl (lv_at hl 0 rfl) ?_
  have n2 : F1 6 = .ref h_s := (get_ne eF1 (by decide) e_s)
  refine call_Vi (wr := [(h_paceAt, .inl (cI, 40, .inl f_paceAt)), (h_kindOf, .inl (cI, 4, .inl f_kindOf)), (h_behindAt, .inl (cI, 12, .inl f_behindAt))]) (As := []) (rest := []) hx hb hml hown hw (m_X10_hasCrew l D cI cJ cB cP cM cZ h0 h_s F1 f_s bs _ n2 s_s_K0 s_s_US s_s_0 s_s_105 s_s_114 s_s_130 s_s_139 s_s_153 s_s_44 s_s_5 s_s_6 s_s_7) wV_X10_281_X10_hasCrew dX10_behind_6 hK hP hD hS hA [0, 1] [2, 3, 4] rfl rfl (by decide) (by decide) (by decide) 0 10 rfl rfl GG.fb hG.at hl.1 rfl (Nat.le_of_ble_eq_true rfl) ⟨(Nat.le_of_ble_eq_true rfl), (Nat.le_of_ble_eq_true rfl)⟩ ⟨(Nat.le_of_ble_eq_true rfl), (Nat.le_of_ble_eq_true rfl)⟩ (fun r3 u H locs hp hP hD hS => ?_)
  rcases hp with ⟨rfl, rfl⟩ | ⟨rfl, rfl⟩
  · have hP : va_P D vwCl [(h_paceAt, .inl (cI, 40, .inl f_paceAt)), (h_kindOf, .inl (cI, 4, .inl f_kindOf)), (h_behindAt, .inl (cI, 12, .inl f_behindAt)), (h0, .inr (10, vL 67 F1)), (h_s, .inl (cI, 335, .inl f_s))] H := hP
    have hD : va_D A [(h_paceAt, .inl (cI, 40, .inl f_paceAt)), (h_kindOf, .inl (cI, 4, .inl f_kindOf)), (h_behindAt, .inl (cI, 12, .inl f_behindAt)), (h0, .inr (10, vL 67 F1)), (h_s, .inl (cI, 335, .inl f_s))] := hD
    refine W.widen (k := 0) (n := 0) (Nat.le_of_ble_eq_true rfl) (Nat.le_of_ble_eq_true rfl) ?_
    refine lv_if_ne (tgt := 14) hx hb dX10_behind_9 (by decide) (fun g => absurd (by decide) g) (fun _ => ?_)
    refine lv_iconst (v := (-1)) hx hb dX10_behind_12 (by decide) ?_
    exact ret_i (v := (-1)) hx hb hr hlocks hS (hP.sub (ws' := [(h0, .inr (10, vL 67 F1)), (h_s, .inl (cI, 335, .inl f_s)), (h_paceAt, .inl (cI, 40, .inl f_paceAt)), (h_kindOf, .inl (cI, 4, .inl f_kindOf)), (h_behindAt, .inl (cI, 12, .inl f_behindAt))]) [3, 4, 0, 1, 2] rfl) (hD.sub (ws' := [(h0, .inr (10, vL 67 F1)), (h_s, .inl (cI, 335, .inl f_s)), (h_paceAt, .inl (cI, 40, .inl f_paceAt)), (h_kindOf, .inl (cI, 4, .inl f_kindOf)), (h_behindAt, .inl (cI, 12, .inl f_behindAt))]) [3, 4, 0, 1, 2] (by decide) rfl) dX10_behind_13 rfl (Nat.le_of_ble_eq_true rfl) (Nat.le_of_ble_eq_true rfl) ⟨F1, x_lineTime, x_linePace, x_inside, x_late, x_seed, x_bendsGone, x_overAt, x_endPace, f_paceAt, f_kindOf, f_behindAt, (SAME.up eF1 SAME.rf (by decide)), (get_eq eF1), (get_ne eF1 (by decide) e_lineTime), (get_ne eF1 (by decide) e_linePace), (get_ne eF1 (by decide) e_inside), i_x_inside, (get_ne eF1 (by decide) e_late), i_x_late, (get_ne eF1 (by decide) e_seed), (get_ne eF1 (by decide) e_bendsGone), i_x_bendsGone, (get_ne eF1 (by decide) e_overAt), (get_ne eF1 (by decide) e_endPace), rfl⟩
  · have hP : va_P D vwCl [(h_paceAt, .inl (cI, 40, .inl f_paceAt)), (h_kindOf, .inl (cI, 4, .inl f_kindOf)), (h_behindAt, .inl (cI, 12, .inl f_behindAt)), (h0, .inr (10, vL 67 F1)), (h_s, .inl (cI, 335, .inl f_s))] H := hP
    have hD : va_D A [(h_paceAt, .inl (cI, 40, .inl f_paceAt)), (h_kindOf, .inl (cI, 4, .inl f_kindOf)), (h_behindAt, .inl (cI, 12, .inl f_behindAt)), (h0, .inr (10, vL 67 F1)), (h_s, .inl (cI, 335, .inl f_s))] := hD
    refine W.widen (k := 0) (n := 0) (Nat.le_of_ble_eq_true rfl) (Nat.le_of_ble_eq_true rfl) ?_
    refine lv_if_ne (tgt := 14) hx hb dX10_behind_9 (by decide) (fun _ => ?_) (fun g => absurd g (by decide))
    refine lv_aload_n hx hb dX10_behind_14 rfl (lv_at hl 0 rfl) ?_
    have n5 : F1 25 = .ref h_paceAt := (get_ne eF1 (by decide) e_paceAt)
    have n6 : F1 26 = .ref h_kindOf := (get_ne eF1 (by decide) e_kindOf)
    have n7 : F1 31 = .int x_seed := (get_ne eF1 (by decide) e_seed)
    have n8 : F1 32 = .int x_kicks := (get_ne eF1 (by decide) e_kicks)
    have n9 : F1 33 = .ref h_behindAt := (get_ne eF1 (by decide) e_behindAt)
    have n10 : F1 37 = .int x_touchBend := (get_ne eF1 (by decide) e_touchBend)
    have n11 : F1 38 = .int x_touchBy := (get_ne eF1 (by decide) e_touchBy)
    refine call_Vi (wr := []) (As := []) (rest := []) hx hb hml hown hw (m_X10_total l D cI cJ cB cP cM cZ h0 h_s h_paceAt h_kindOf h_behindAt F1 x_seed x_kicks x_touchBend x_touchBy f_s f_paceAt f_kindOf f_behindAt bs _ n2 n5 n6 n7 n8 i_x_kicks n9 n10 n11 i_x_touchBy s_s_K0 s_s_US s_s_0 s_s_105 s_s_114 s_s_130 s_s_139 s_s_153 s_s_44 s_s_5 s_s_6 s_s_7) wV_X10_368_X10_total dX10_behind_15 hK hP hD hS hA [3, 4, 0, 1, 2] [] rfl rfl (by decide) (by decide) (by decide) 0 10 rfl rfl GG.fb hG.at hl.1 rfl (Nat.le_of_ble_eq_true rfl) ⟨(Nat.le_of_ble_eq_true rfl), (Nat.le_of_ble_eq_true rfl)⟩ ⟨(Nat.le_of_ble_eq_true rfl), (Nat.le_of_ble_eq_true rfl)⟩ (fun r12 u H locs hp hP hD hS => ?_)
    refine hp.elim (fun F13 h9z0 => h9z0.elim (fun y14 h9z1 => h9z1.elim (fun y15 h9z2 => h9z2.elim (fun y16 h9z3 => h9z3.elim (fun y17 h9z4 => h9z4.elim (fun y18 h9z5 => h9z5.elim (fun y19 h9z6 => h9z6.elim (fun y20 h9z7 => h9z7.elim (fun y21 h9z8 => h9z8.elim (fun g22 h9z9 => h9z9.elim (fun g23 h9z10 => h9z10.elim (fun g24 h9z11 => h9z11.elim (fun t25 h9z12 => h9z12.elim (fun t26 h9z13 => h9z13.elim (fun t27 h9z14 => h9z14.elim (fun t28 h9z15 => h9z15.elim (fun t29 h9z16 => h9z16.elim (fun t30 h9z17 => h9z17.elim (fun t31 h9z18 => h9z18.elim (fun t32 h9z19 => h9z19.elim (fun t33 h9z20 => h9z20.elim (fun t34 h9z21 => h9z21.elim (fun t35 h9z22 => h9z22.elim (fun t36 h9z23 => h9z23.elim (fun t37 h9z24 => h9z24.elim (fun t38 h9z25 => ?_))))))))))))))))))))))))))
    clear h9z0 h9z1 h9z2 h9z3 h9z4 h9z5 h9z6 h9z7 h9z8 h9z9 h9z10 h9z11 h9z12 h9z13 h9z14 h9z15 h9z16 h9z17 h9z18 h9z19 h9z20 h9z21 h9z22 h9z23 h9z24
    subst h9z25
    have hP : va_P D vwCl [(h0, .inr (10, vL 67 F13)), (h_s, .inl (cI, 335, .inl f_s)), (h_paceAt, .inl (cI, 40, .inl g22)), (h_kindOf, .inl (cI, 4, .inl g23)), (h_behindAt, .inl (cI, 12, .inl g24))] H := hP
    have hD : va_D A [(h0, .inr (10, vL 67 F13)), (h_s, .inl (cI, 335, .inl f_s)), (h_paceAt, .inl (cI, 40, .inl g22)), (h_kindOf, .inl (cI, 4, .inl g23)), (h_behindAt, .inl (cI, 12, .inl g24))] := hD
    refine W.widen (k := 0) (n := 0) (Nat.le_of_ble_eq_true rfl) (Nat.le_of_ble_eq_true rfl) ?_
    refine lv_pop hx hb dX10_behind_18 rfl ?_
    refine lv_iload_n hx hb dX10_behind_19 rfl (lv_at hl 1 rfl) ?_
    refine lv_iconst (v := 0) hx hb dX10_behind_20 (by decide) ?_
    refine lv_aload_n hx hb dX10_behind_21 rfl (lv_at hl 0 rfl) ?_
    refine get_f (D := D) (ci := 10) (v := .int y19) (C := RX10) (T := TX10) (N := 67) hx hb hw inAX10 hown hK hP 0 rfl rfl 34 (by decide) (hw _ q_1295) (fun _ h9 => h9) t34 dX10_behind_22 ?_
    refine lv_iconst (v := 1) hx hb dX10_behind_25 (by decide) ?_
    refine lv_isub hx hb dX10_behind_26 ?_
    refine lv_topi (fun v40 ev40 => ?_)
    have bv40 : v40.toInt = y19.toInt - 1 := by rw [ev40]; exact sub_k rfl rfl t35 ⟨Int.le_refl _, Int.le_refl _⟩ (by decide)
    have k41 : (-1) ≤ v40.toInt ∧ v40.toInt ≤ 11 := sub_r bv40 t35 ⟨Int.le_refl _, Int.le_refl _⟩ (by decide)
    refine call_Si (wr := [(h0, .inr (10, vL 67 F13)), (h_s, .inl (cI, 335, .inl f_s)), (h_paceAt, .inl (cI, 40, .inl g22)), (h_kindOf, .inl (cI, 4, .inl g23)), (h_behindAt, .inl (cI, 12, .inl g24))]) (As := [.int p0, .int 0, .int v40]) (rest := []) hx hb hml hown hw (m_X10_isIn l D cI cJ cB cP cM cZ p0 0 v40 _ ) wS_X10_211_X10_isIn dX10_behind_27 hP hD hS hA [] [0, 1, 2, 3, 4] rfl rfl (by decide) (by decide) (by decide) GG.fb hG.at hl.1 rfl (Nat.le_of_ble_eq_true rfl) ⟨(Nat.le_of_ble_eq_true rfl), (Nat.le_of_ble_eq_true rfl)⟩ ⟨(Nat.le_of_ble_eq_true rfl), (Nat.le_of_ble_eq_true rfl)⟩ (fun r42 u H locs hp hP hD hS => ?_)
    have zl0 : (0 : Int32).toInt = 0 := by decide
    rcases hp with ⟨t43, rfl, rfl⟩ | ⟨t44, t45, rfl, rfl⟩ | ⟨t46, t47, rfl, rfl⟩
    · have hP : va_P D vwCl [(h0, .inr (10, vL 67 F13)), (h_s, .inl (cI, 335, .inl f_s)), (h_paceAt, .inl (cI, 40, .inl g22)), (h_kindOf, .inl (cI, 4, .inl g23)), (h_behindAt, .inl (cI, 12, .inl g24))] H := hP
      have hD : va_D A [(h0, .inr (10, vL 67 F13)), (h_s, .inl (cI, 335, .inl f_s)), (h_paceAt, .inl (cI, 40, .inl g22)), (h_kindOf, .inl (cI, 4, .inl g23)), (h_behindAt, .inl (cI, 12, .inl g24))] := hD
      refine W.widen (k := 0) (n := 0) (Nat.le_of_ble_eq_true rfl) (Nat.le_of_ble_eq_true rfl) ?_
      have k49 : (-2147483648) ≤ p0.toInt ∧ p0.toInt ≤ (-1) := ⟨(ir_any _).1, up_lt t43 (Int.le_refl _) (by decide)⟩
      refine lv_if_eq (tgt := 42) hx hb dX10_behind_30 (by decide) (fun _ => ?_) (fun g => absurd (by decide) g)
      refine lv_iconst (v := (-1)) hx hb dX10_behind_42 (by decide) ?_
      exact ret_i (v := (-1)) hx hb hr hlocks hS hP hD dX10_behind_43 rfl (Nat.le_of_ble_eq_true rfl) (Nat.le_of_ble_eq_true rfl) ⟨F13, y14, y15, y16, y17, y18, y19, y20, y21, g22, g23, g24, (SAME.tr (SAME.up eF1 SAME.rf (by decide)) t25 (by decide)), (SAME.at t25 (by decide) (get_eq eF1)), t26, t27, t29, t30, t31, t32, t33, t34, t35, t36, t38, rfl⟩
    · have hP : va_P D vwCl [(h0, .inr (10, vL 67 F13)), (h_s, .inl (cI, 335, .inl f_s)), (h_paceAt, .inl (cI, 40, .inl g22)), (h_kindOf, .inl (cI, 4, .inl g23)), (h_behindAt, .inl (cI, 12, .inl g24))] H := hP
      have hD : va_D A [(h0, .inr (10, vL 67 F13)), (h_s, .inl (cI, 335, .inl f_s)), (h_paceAt, .inl (cI, 40, .inl g22)), (h_kindOf, .inl (cI, 4, .inl g23)), (h_behindAt, .inl (cI, 12, .inl g24))] := hD
      refine W.widen (k := 0) (n := 0) (Nat.le_of_ble_eq_true rfl) (Nat.le_of_ble_eq_true rfl) ?_
      have k50 : 0 ≤ p0.toInt ∧ p0.toInt ≤ 2147483647 := ⟨Int.le_trans (Int.le_refl _) t44, (ir_any _).2⟩
      refine lv_if_eq (tgt := 42) hx hb dX10_behind_30 (by decide) (fun _ => ?_) (fun g => absurd (by decide) g)
      refine lv_iconst (v := (-1)) hx hb dX10_behind_42 (by decide) ?_
      exact ret_i (v := (-1)) hx hb hr hlocks hS hP hD dX10_behind_43 rfl (Nat.le_of_ble_eq_true rfl) (Nat.le_of_ble_eq_true rfl) ⟨F13, y14, y15, y16, y17, y18, y19, y20, y21, g22, g23, g24, (SAME.tr (SAME.up eF1 SAME.rf (by decide)) t25 (by decide)), (SAME.at t25 (by decide) (get_eq eF1)), t26, t27, t29, t30, t31, t32, t33, t34, t35, t36, t38, rfl⟩
    · have hP : va_P D vwCl [(h0, .inr (10, vL 67 F13)), (h_s, .inl (cI, 335, .inl f_s)), (h_paceAt, .inl (cI, 40, .inl g22)), (h_kindOf, .inl (cI, 4, .inl g23)), (h_behindAt, .inl (cI, 12, .inl g24))] H := hP
      have hD : va_D A [(h0, .inr (10, vL 67 F13)), (h_s, .inl (cI, 335, .inl f_s)), (h_paceAt, .inl (cI, 40, .inl g22)), (h_kindOf, .inl (cI, 4, .inl g23)), (h_behindAt, .inl (cI, 12, .inl g24))] := hD
      refine W.widen (k := 0) (n := 0) (Nat.le_of_ble_eq_true rfl) (Nat.le_of_ble_eq_true rfl) ?_
      have k51 : 0 ≤ p0.toInt ∧ p0.toInt ≤ 2147483647 := ⟨Int.le_trans (Int.le_refl _) t46, (ir_any _).2⟩
      have k52 : 0 ≤ p0.toInt ∧ p0.toInt ≤ 11 := ⟨k51.1, Int.le_trans t47 k41.2⟩
      have k53 : 0 ≤ v40.toInt ∧ v40.toInt ≤ 11 := ⟨Int.le_trans k51.1 t47, k41.2⟩
      have k54 : 1 ≤ y19.toInt ∧ y19.toInt ≤ 12 := ⟨lin_lo (lin_m bv40) k53.1 (by decide), t35.2⟩
      refine lv_if_eq (tgt := 42) hx hb dX10_behind_30 (by decide) (fun g => absurd g (by decide)) (fun _ => ?_)
      refine lv_aload_n hx hb dX10_behind_33 rfl (lv_at hl 0 rfl) ?_
      have n55 : F13 33 = .ref h_behindAt := (SAME.at t25 (by decide) n9)
      refine get_f (D := D) (ci := 10) (v := .ref h_behindAt) (C := RX10) (T := TX10) (N := 67) hx hb hw inAX10 hown hK hP 0 rfl rfl 33 (by decide) (hw _ q_1294) (fun _ h9 => h9) n55 dX10_behind_34 ?_
      refine lv_iload_n hx hb dX10_behind_37 rfl (lv_at hl 1 rfl) ?_
      refine va_iald hx hb hK hP 4 0 rfl rfl (ix_k k52 (by decide) (by decide)) dX10_behind_38 ?_
      refine lv_topi (fun v56 ev56 => ?_)
      refine lv_goto (tgt := 43) hx hb dX10_behind_39 (by decide) ?_
      exact ret_i (v := v56) hx hb hr hlocks hS hP hD dX10_behind_43 rfl (Nat.le_of_ble_eq_true rfl) (Nat.le_of_ble_eq_true rfl) ⟨F13, y14, y15, y16, y17, y18, y19, y20, y21, g22, g23, g24, (SAME.tr (SAME.up eF1 SAME.rf (by decide)) t25 (by decide)), (SAME.at t25 (by decide) (get_eq eF1)), t26, t27, t29, t30, t31, t32, t33, t34, (ir_wk k54 (by decide) (by decide)), t36, t38, rfl⟩
set_option maxHeartbeats 4000000 in
set_option maxRecDepth 100000 in
theorem m_X10_keeps (l : Launch) (D : va_G) (cI cJ cB cP cM cZ : ClassId) (h0 : Nat) (h_s : Nat) (h_undone : Nat) (Fh : Nat → Value) (x_undoMany : Int32) (f_s : Nat → Int32) (f_undone : Nat → Int32) (bs : Nat → Int32) (sz : Nat) (e_s : Fh 6 = .ref h_s) (e_undone : Fh 39 = .ref h_undone) (e_undoMany : Fh 41 = .int x_undoMany) (i_x_undoMany : IR 0 8 x_undoMany) (s_s_K0 : KW 0 f_s) (s_s_US : US bs f_s) (s_s_0 : SG 0 0 0 40 f_s) (s_s_105 : SG 105 108 0 11 f_s) (s_s_114 : SG 114 114 0 5 f_s) (s_s_130 : SG 130 133 0 11 f_s) (s_s_139 : SG 139 139 0 5 f_s) (s_s_153 : SG 153 153 0 44 f_s) (s_s_44 : SG 44 55 0 9 f_s) (s_s_5 : SG 5 5 0 12 f_s) (s_s_6 : SG 6 6 0 12 f_s) (s_s_7 : SG 7 7 0 6 f_s) (s_undone_1 : SG 1 4 0 11 f_undone) (s_undone_10 : SG 10 10 0 5 f_undone) (s_undone_106 : SG 106 106 0 5 f_undone) (s_undone_121 : SG 121 124 0 11 f_undone) (s_undone_130 : SG 130 130 0 5 f_undone) (s_undone_145 : SG 145 148 0 11 f_undone) (s_undone_154 : SG 154 154 0 5 f_undone) (s_undone_169 : SG 169 172 0 11 f_undone) (s_undone_178 : SG 178 178 0 5 f_undone) (s_undone_25 : SG 25 28 0 11 f_undone) (s_undone_34 : SG 34 34 0 5 f_undone) (s_undone_49 : SG 49 52 0 11 f_undone) (s_undone_58 : SG 58 58 0 5 f_undone) (s_undone_73 : SG 73 76 0 11 f_undone) (s_undone_82 : SG 82 82 0 5 f_undone) (s_undone_97 : SG 97 100 0 11 f_undone) : CV l yX10_keeps cX10_keeps 2 none { frames := 0, cells := 0, slots := 0, locals := 0 } (GG D cI cJ cB cP cM cZ) D [(h0, .inr (10, vL 67 Fh)), (h_s, .inl (cI, 335, .inl f_s)), (h_undone, .inl (cI, 192, .inl f_undone))] sz [.ref h0] (fun (u : va_W) => ∃ (Gh : Nat → Value) (y_undoMany : Int32) (g_undone : Nat → Int32), SAME [41] Fh Gh ∧ Gh 41 = .int y_undoMany ∧ IR 1 8 y_undoMany ∧ SG 1 4 0 11 g_undone ∧ SG 10 10 0 5 g_undone ∧ SG 25 28 0 11 g_undone ∧ SG 34 34 0 5 g_undone ∧ SG 49 52 0 11 g_undone ∧ SG 58 58 0 5 g_undone ∧ SG 73 76 0 11 g_undone ∧ SG 82 82 0 5 g_undone ∧ SG 97 100 0 11 g_undone ∧ SG 106 106 0 5 g_undone ∧ SG 121 124 0 11 g_undone ∧ SG 130 130 0 5 g_undone ∧ SG 145 148 0 11 g_undone ∧ SG 154 154 0 5 g_undone ∧ SG 169 172 0 11 g_undone ∧ SG 178 178 0 5 g_undone ∧ u = [(h0, .inr (10, vL 67 Gh)), (h_s, .inl (cI, 335, .inl f_s)), (h_undone, .inl (cI, 192, .inl g_undone))]) := by
  refine CV_mk (by decide) (Nat.le_of_ble_eq_true rfl) ?_
  intro p e s m below meth c A ls E hAe hG hsz hP hD hA hS hl
  obtain ⟨hx, hb, hr, hw, hown, hlocks, hml, hnm⟩ := E
  have hK := hG.1
  have i_x_undoMany : 0 ≤ x_undoMany.toInt ∧ x_undoMany.toInt ≤ 8 := i_x_undoMany
  have hl : lv_has ls 2 [(0, .ref h0)] := hl
  refine lv_aload_n hx hb dX10_keeps_0 rfl (lv_at hl 0 rfl) ?_
  refine get_f (D := D) (ci := 10) (v := .int x_undoMany) (C := RX10) (T := TX10) (N := 67) hx hb hw inAX10 hown hK hP 0 rfl rfl 41 (by decide) (hw _ q_1302) (fun _ h9 => h9) e_undoMany dX10_keeps_1 ?_
  refine lv_bipush (v := 8) hx hb dX10_keeps_4 (by decide) ?_
  refine lv_icmp_ne (tgt := 45) hx hb dX10_keeps_6 (by decide) (fun c1 => ?_) (fun c1 => ?_)
  · have dc1 : x_undoMany.toInt ≠ 8 := ne_i (a := x_undoMany.toInt) (b := 8) rfl rfl c1
    have k2 : 0 ≤ x_undoMany.toInt ∧ x_undoMany.toInt ≤ 7 := ⟨i_x_undoMany.1, ne_hi dc1 i_x_undoMany.2 ⟨Int.le_refl _, Int.le_refl _⟩ (by decide)⟩
    by_cases k3 : x_undoMany = 0
    · have dk3 : x_undoMany.toInt = 0 := eq_i rfl rfl k3
      have k4 : 0 ≤ x_undoMany.toInt ∧ x_undoMany.toInt ≤ 0 := ⟨k2.1, Int.le_trans (Int.le_of_eq dk3) (Int.le_refl _)⟩
      have n5 : Fh 41 = .int 0 := by rw [e_undoMany]; exact congrArg Value.int k3
      refine lv_iconst (v := 0) hx hb dX10_keeps_45 (by decide) ?_
      refine lv_istore_n (lv' := [(1, .int 0), (0, .ref h0)]) hx hb dX10_keeps_46 rfl hl (by decide) rfl (fun ls hl => ?_)
      refine mloop (α := (Int32) × (Nat → Int32)) (nL := 2) (D := D) (A := A) (H0 := s.heap) (fun a => (24 - a.1.toInt).toNat) (fun a => IR 0 24 a.1 ∧ SG 1 4 0 11 a.2 ∧ SG 10 10 0 5 a.2 ∧ SG 106 106 0 5 a.2 ∧ SG 121 124 0 11 a.2 ∧ SG 130 130 0 5 a.2 ∧ SG 145 148 0 11 a.2 ∧ SG 154 154 0 5 a.2 ∧ SG 169 172 0 11 a.2 ∧ SG 178 178 0 5 a.2 ∧ SG 25 28 0 11 a.2 ∧ SG 34 34 0 5 a.2 ∧ SG 49 52 0 11 a.2 ∧ SG 58 58 0 5 a.2 ∧ SG 73 76 0 11 a.2 ∧ SG 82 82 0 5 a.2 ∧ SG 97 100 0 11 a.2) (fun a => [(h0, .inr (10, vL 67 Fh)), (h_s, .inl (cI, 335, .inl f_s)), (h_undone, .inl (cI, 192, .inl a.2))]) (fun a => [(1, .int a.1), (0, .ref h0)]) (fun H locs ls => W p l e ({ frames := 0, cells := 0, slots := 0, locals := 0 } : Room) s m [.ref h0].toArray below meth c H locs 0 0 (MQ below (va_Qv (fun (u : va_W) => ∃ (Gh : Nat → Value) (y_undoMany : Int32) (g_undone : Nat → Int32), SAME [41] Fh Gh ∧ Gh 41 = .int y_undoMany ∧ IR 1 8 y_undoMany ∧ SG 1 4 0 11 g_undone ∧ SG 10 10 0 5 g_undone ∧ SG 25 28 0 11 g_undone ∧ SG 34 34 0 5 g_undone ∧ SG 49 52 0 11 g_undone ∧ SG 58 58 0 5 g_undone ∧ SG 73 76 0 11 g_undone ∧ SG 82 82 0 5 g_undone ∧ SG 97 100 0 11 g_undone ∧ SG 106 106 0 5 g_undone ∧ SG 121 124 0 11 g_undone ∧ SG 130 130 0 5 g_undone ∧ SG 145 148 0 11 g_undone ∧ SG 154 154 0 5 g_undone ∧ SG 169 172 0 11 g_undone ∧ SG 178 178 0 5 g_undone ∧ u = [(h0, .inr (10, vL 67 Gh)), (h_s, .inl (cI, 335, .inl f_s)), (h_undone, .inl (cI, 192, .inl g_undone))]) (PO D A) A) [.ref h0].toArray s 0 0 A) (F0 m 47 ls [])) ?_ (0, f_undone) ⟨(show 0 ≤ (0 : Int32).toInt ∧ (0 : Int32).toInt ≤ 24 by decide), s_undone_1, s_undone_10, s_undone_106, s_undone_121, s_undone_130, s_undone_145, s_undone_154, s_undone_169, s_undone_178, s_undone_25, s_undone_34, s_undone_49, s_undone_58, s_undone_73, s_undone_82, s_undone_97⟩ _ _ _ hP hD hS hl
      rintro ⟨u6, w7⟩ ⟨i8, i9, i10, i11, i12, i13, i14, i15, i16, i17, i18, i19, i20, i21, i22, i23, i24⟩ ih H locs ls hP hD hS hl
      have i8 : 0 ≤ u6.toInt ∧ u6.toInt ≤ 24 := i8
      have hP : va_P D vwCl [(h0, .inr (10, vL 67 Fh)), (h_s, .inl (cI, 335, .inl f_s)), (h_undone, .inl (cI, 192, .inl w7))] H := hP
      have hD : va_D A [(h0, .inr (10, vL 67 Fh)), (h_s, .inl (cI, 335, .inl f_s)), (h_undone, .inl (cI, 192, .inl w7))] := hD
      have hl : lv_has ls 2 [(1, .int u6), (0, .ref h0)] := hl
      refine lv_iload_n hx hb dX10_keeps_47 rfl (lv_at hl 0 rfl) ?_
      refine lv_bipush (v := 24) hx hb dX10_keeps_48 (by decide) ?_
      refine lv_icmp_ge (tgt := 82) hx hb dX10_keeps_50 (by decide) (fun c25 => ?_) (fun c25 => ?_)
      · have dc25 : 24 ≤ u6.toInt := le_i (a := 24) (b := u6.toInt) rfl rfl c25
        have k26 : 24 ≤ u6.toInt ∧ u6.toInt ≤ 24 := ⟨Int.le_trans (Int.le_refl _) dc25, i8.2⟩
        refine lv_aload_n hx hb dX10_keeps_82 rfl (lv_at hl 1 rfl) ?_
        refine lv_dup hx hb dX10_keeps_83 rfl ?_
        refine get_f (D := D) (ci := 10) (v := .int 0) (C := RX10) (T := TX10) (N := 67) hx hb hw inAX10 hown hK hP 0 rfl rfl 41 (by decide) (hw _ q_1302) (fun _ h9 => h9) n5 dX10_keeps_84 ?_
        refine lv_iconst (v := 1) hx hb dX10_keeps_87 (by decide) ?_
        refine lv_iadd hx hb dX10_keeps_88 ?_
        refine lv_ci (y := 1) (by decide +kernel) ?_
        refine put_f (D := D) (ci := 10) (v := .int 1) (ty := .int) (C := RX10) (T := TX10) (N := 67) hx hb hw inAX10 tyX10 tyX10_ok nmX10 hown hK hP hD hS 0 rfl rfl 41 (by decide) (hw _ q_1302) (fun _ h9 => h9) rfl (by decide +kernel) rfl rfl dX10_keeps_89 (fun H locs F27 eF27 hP hD hS => ?_)
        have hP : va_P D vwCl [(h0, .inr (10, vL 67 F27)), (h_s, .inl (cI, 335, .inl f_s)), (h_undone, .inl (cI, 192, .inl w7))] H := hP
        have hD : va_D A [(h0, .inr (10, vL 67 F27)), (h_s, .inl (cI, 335, .inl f_s)), (h_undone, .inl (cI, 192, .inl w7))] := hD
        exact ret_v hx hb hr hlocks hS hP hD dX10_keeps_92 (Nat.le_of_ble_eq_true rfl) (Nat.le_of_ble_eq_true rfl) ⟨F27, 1, w7, (SAME.up eF27 SAME.rf (by decide)), (get_eq eF27), (show 1 ≤ (1 : Int32).toInt ∧ (1 : Int32).toInt ≤ 8 by decide), i9, i10, i18, i19, i20, i21, i22, i23, i24, i11, i12, i13, i14, i15, i16, i17, rfl⟩
      · have dc25 : u6.toInt < 24 := nle_i (a := 24) (b := u6.toInt) rfl rfl c25
        have k28 : 0 ≤ u6.toInt ∧ u6.toInt ≤ 23 := ⟨i8.1, up_lt dc25 (Int.le_refl _) (by decide)⟩
        refine lv_aload_n hx hb dX10_keeps_53 rfl (lv_at hl 1 rfl) ?_
        refine get_f (D := D) (ci := 10) (v := .ref h_undone) (C := RX10) (T := TX10) (N := 67) hx hb hw inAX10 hown hK hP 0 rfl rfl 39 (by decide) (hw _ q_1300) (fun _ h9 => h9) e_undone dX10_keeps_54 ?_
        refine lv_bipush (v := 24) hx hb dX10_keeps_57 (by decide) ?_
        refine lv_aload_n hx hb dX10_keeps_59 rfl (lv_at hl 1 rfl) ?_
        refine get_f (D := D) (ci := 10) (v := .int 0) (C := RX10) (T := TX10) (N := 67) hx hb hw inAX10 hown hK hP 0 rfl rfl 41 (by decide) (hw _ q_1302) (fun _ h9 => h9) n5 dX10_keeps_60 ?_
        refine lv_imul hx hb dX10_keeps_63 ?_
        refine lv_ci (y := 0) (by decide +kernel) ?_
        refine lv_iload_n hx hb dX10_keeps_64 rfl (lv_at hl 0 rfl) ?_
        refine lv_iadd hx hb dX10_keeps_65 ?_
        refine lv_topi (fun v29 ev29 => ?_)
        have bv29 : v29.toInt = 0 + u6.toInt := by rw [ev29]; exact add_k rfl rfl ⟨Int.le_refl _, Int.le_refl _⟩ k28 (by decide)
        have k30 : 0 ≤ v29.toInt ∧ v29.toInt ≤ 23 := add_r bv29 ⟨Int.le_refl _, Int.le_refl _⟩ k28 (by decide)
        refine lv_aload_n hx hb dX10_keeps_66 rfl (lv_at hl 1 rfl) ?_
        refine get_f (D := D) (ci := 10) (v := .ref h_s) (C := RX10) (T := TX10) (N := 67) hx hb hw inAX10 hown hK hP 0 rfl rfl 6 (by decide) (hw _ q_1267) (fun _ h9 => h9) e_s dX10_keeps_67 ?_
        refine lv_bipush (v := 104) hx hb dX10_keeps_70 (by decide) ?_
        refine lv_iload_n hx hb dX10_keeps_72 rfl (lv_at hl 0 rfl) ?_
        refine lv_iadd hx hb dX10_keeps_73 ?_
        refine lv_topi (fun v31 ev31 => ?_)
        have bv31 : v31.toInt = 104 + u6.toInt := by rw [ev31]; exact add_k rfl rfl ⟨Int.le_refl _, Int.le_refl _⟩ k28 (by decide)
        have k32 : 104 ≤ v31.toInt ∧ v31.toInt ≤ 127 := add_r bv31 ⟨Int.le_refl _, Int.le_refl _⟩ k28 (by decide)
        refine va_iald hx hb hK hP 1 0 rfl rfl (ix_k k32 (by decide) (by decide)) dX10_keeps_74 ?_
        refine lv_topi (fun v33 ev33 => ?_)
        have r34 : IMP (105 ≤ v31.toInt → v31.toInt ≤ 108 → 0 ≤ v33.toInt ∧ v33.toInt ≤ 11) := IMP.mk (fun q1 q2 => by rw [ev33]; exact s_s_105.at _ q1 q2)
        have r35 : IMP (114 ≤ v31.toInt → v31.toInt ≤ 114 → 0 ≤ v33.toInt ∧ v33.toInt ≤ 5) := IMP.mk (fun q1 q2 => by rw [ev33]; exact s_s_114.at _ q1 q2)
        obtain ⟨g36, eg36⟩ : ∃ z : Nat → Int32, upd w7 v29.toNatClampNeg v33 = z := ⟨_, rfl⟩
        have r37 : SG 1 4 0 11 g36 := by rw [← eg36]; exact i9.upI (Int.le_trans (by decide) k30.1) (fun q1 q2 => ⟨Int.le_trans (by decide) (r34.h (by omega) (by omega)).1, Int.le_trans (r34.h (by omega) (by omega)).2 (by decide)⟩)
        have r38 : SG 10 10 0 5 g36 := by rw [← eg36]; exact i10.upI (Int.le_trans (by decide) k30.1) (fun q1 q2 => ⟨Int.le_trans (by decide) (r35.h (by omega) (by omega)).1, Int.le_trans (r35.h (by omega) (by omega)).2 (by decide)⟩)
        have r39 : SG 106 106 0 5 g36 := by rw [← eg36]; exact i11.up (Int.le_trans (by decide) k30.1) (Or.inl (lt_dec k30.2 (by decide)))
        have r40 : SG 121 124 0 11 g36 := by rw [← eg36]; exact i12.up (Int.le_trans (by decide) k30.1) (Or.inl (lt_dec k30.2 (by decide)))
        have r41 : SG 130 130 0 5 g36 := by rw [← eg36]; exact i13.up (Int.le_trans (by decide) k30.1) (Or.inl (lt_dec k30.2 (by decide)))
        have r42 : SG 145 148 0 11 g36 := by rw [← eg36]; exact i14.up (Int.le_trans (by decide) k30.1) (Or.inl (lt_dec k30.2 (by decide)))
        have r43 : SG 154 154 0 5 g36 := by rw [← eg36]; exact i15.up (Int.le_trans (by decide) k30.1) (Or.inl (lt_dec k30.2 (by decide)))
        have r44 : SG 169 172 0 11 g36 := by rw [← eg36]; exact i16.up (Int.le_trans (by decide) k30.1) (Or.inl (lt_dec k30.2 (by decide)))
        have r45 : SG 178 178 0 5 g36 := by rw [← eg36]; exact i17.up (Int.le_trans (by decide) k30.1) (Or.inl (lt_dec k30.2 (by decide)))
        have r46 : SG 25 28 0 11 g36 := by rw [← eg36]; exact i18.up (Int.le_trans (by decide) k30.1) (Or.inl (lt_dec k30.2 (by decide)))
        have r47 : SG 34 34 0 5 g36 := by rw [← eg36]; exact i19.up (Int.le_trans (by decide) k30.1) (Or.inl (lt_dec k30.2 (by decide)))
        have r48 : SG 49 52 0 11 g36 := by rw [← eg36]; exact i20.up (Int.le_trans (by decide) k30.1) (Or.inl (lt_dec k30.2 (by decide)))
        have r49 : SG 58 58 0 5 g36 := by rw [← eg36]; exact i21.up (Int.le_trans (by decide) k30.1) (Or.inl (lt_dec k30.2 (by decide)))
        have r50 : SG 73 76 0 11 g36 := by rw [← eg36]; exact i22.up (Int.le_trans (by decide) k30.1) (Or.inl (lt_dec k30.2 (by decide)))
        have r51 : SG 82 82 0 5 g36 := by rw [← eg36]; exact i23.up (Int.le_trans (by decide) k30.1) (Or.inl (lt_dec k30.2 (by decide)))
        have r52 : SG 97 100 0 11 g36 := by rw [← eg36]; exact i24.up (Int.le_trans (by decide) k30.1) (Or.inl (lt_dec k30.2 (by decide)))
        refine iast_g hx hb hK hP hD hS 2 0 rfl rfl (ix_k k30 (by decide) (by decide)) eg36 dX10_keeps_75 (fun H locs hP hD hS => ?_)
        have hP : va_P D vwCl [(h0, .inr (10, vL 67 Fh)), (h_s, .inl (cI, 335, .inl f_s)), (h_undone, .inl (cI, 192, .inl g36))] H := hP
        have hD : va_D A [(h0, .inr (10, vL 67 Fh)), (h_s, .inl (cI, 335, .inl f_s)), (h_undone, .inl (cI, 192, .inl g36))] := hD
        obtain ⟨v53, ev53⟩ : ∃ z : Int32, z = u6 + 1 := ⟨_, rfl⟩
        have bv53 : v53.toInt = u6.toInt + 1 := by rw [ev53]; exact add_k rfl rfl k28 ⟨Int.le_refl _, Int.le_refl _⟩ (by decide)
        have k54 : 1 ≤ v53.toInt ∧ v53.toInt ≤ 24 := add_r bv53 k28 ⟨Int.le_refl _, Int.le_refl _⟩ (by decide)
        refine lv_iinc (v := v53) (lv' := [(1, .int v53), (0, .ref h0)]) hx hb dX10_keeps_76 hl (k := 0) rfl (by rw [ev53]; rfl) (by decide) rfl (fun ls hl => ?_)
        refine lv_goto (tgt := 47) hx hb dX10_keeps_79 (by decide) ?_
        exact ih (v53, g36) ⟨(ir_wk k54 (by decide) (by decide)), r37, r38, r39, r40, r41, r42, r43, r44, r45, r46, r47, r48, r49, r50, r51, r52⟩ (by show (24 - v53.toInt).toNat < (24 - u6.toInt).toNat; omega) _ _ _ hP hD hS (lv_sub hl [0, 1] rfl)
    have dk3 : x_undoMany.toInt ≠ 0 := ne_i rfl rfl k3
    have k55 : 1 ≤ x_undoMany.toInt ∧ x_undoMany.toInt ≤ 7 := ⟨ne_lo dk3 k2.1 ⟨Int.le_refl _, Int.le_refl _⟩ (by decide), k2.2⟩
    by_cases k56 : x_undoMany = 1
    · have dk56 : x_undoMany.toInt = 1 := eq_i rfl rfl k56
      have k57 : 1 ≤ x_undoMany.toInt ∧ x_undoMany.toInt ≤ 1 := ⟨k55.1, Int.le_trans (Int.le_of_eq dk56) (Int.le_refl _)⟩
      have n58 : Fh 41 = .int 1 := by rw [e_undoMany]; exact congrArg Value.int k56
      refine lv_iconst (v := 0) hx hb dX10_keeps_45 (by decide) ?_
      refine lv_istore_n (lv' := [(1, .int 0), (0, .ref h0)]) hx hb dX10_keeps_46 rfl hl (by decide) rfl (fun ls hl => ?_)
      refine mloop (α := (Int32) × (Nat → Int32)) (nL := 2) (D := D) (A := A) (H0 := s.heap) (fun a => (24 - a.1.toInt).toNat) (fun a => IR 0 24 a.1 ∧ SG 1 4 0 11 a.2 ∧ SG 10 10 0 5 a.2 ∧ SG 106 106 0 5 a.2 ∧ SG 121 124 0 11 a.2 ∧ SG 130 130 0 5 a.2 ∧ SG 145 148 0 11 a.2 ∧ SG 154 154 0 5 a.2 ∧ SG 169 172 0 11 a.2 ∧ SG 178 178 0 5 a.2 ∧ SG 25 28 0 11 a.2 ∧ SG 34 34 0 5 a.2 ∧ SG 49 52 0 11 a.2 ∧ SG 58 58 0 5 a.2 ∧ SG 73 76 0 11 a.2 ∧ SG 82 82 0 5 a.2 ∧ SG 97 100 0 11 a.2) (fun a => [(h0, .inr (10, vL 67 Fh)), (h_s, .inl (cI, 335, .inl f_s)), (h_undone, .inl (cI, 192, .inl a.2))]) (fun a => [(1, .int a.1), (0, .ref h0)]) (fun H locs ls => W p l e ({ frames := 0, cells := 0, slots := 0, locals := 0 } : Room) s m [.ref h0].toArray below meth c H locs 0 0 (MQ below (va_Qv (fun (u : va_W) => ∃ (Gh : Nat → Value) (y_undoMany : Int32) (g_undone : Nat → Int32), SAME [41] Fh Gh ∧ Gh 41 = .int y_undoMany ∧ IR 1 8 y_undoMany ∧ SG 1 4 0 11 g_undone ∧ SG 10 10 0 5 g_undone ∧ SG 25 28 0 11 g_undone ∧ SG 34 34 0 5 g_undone ∧ SG 49 52 0 11 g_undone ∧ SG 58 58 0 5 g_undone ∧ SG 73 76 0 11 g_undone ∧ SG 82 82 0 5 g_undone ∧ SG 97 100 0 11 g_undone ∧ SG 106 106 0 5 g_undone ∧ SG 121 124 0 11 g_undone ∧ SG 130 130 0 5 g_undone ∧ SG 145 148 0 11 g_undone ∧ SG 154 154 0 5 g_undone ∧ SG 169 172 0 11 g_undone ∧ SG 178 178 0 5 g_undone ∧ u = [(h0, .inr (10, vL 67 Gh)), (h_s, .inl (cI, 335, .inl f_s)), (h_undone, .inl (cI, 192, .inl g_undone))]) (PO D A) A) [.ref h0].toArray s 0 0 A) (F0 m 47 ls [])) ?_ (0, f_undone) ⟨(show 0 ≤ (0 : Int32).toInt ∧ (0 : Int32).toInt ≤ 24 by decide), s_undone_1, s_undone_10, s_undone_106, s_undone_121, s_undone_130, s_undone_145, s_undone_154, s_undone_169, s_undone_178, s_undone_25, s_undone_34, s_undone_49, s_undone_58, s_undone_73, s_undone_82, s_undone_97⟩ _ _ _ hP hD hS hl
      rintro ⟨u59, w60⟩ ⟨i61, i62, i63, i64, i65, i66, i67, i68, i69, i70, i71, i72, i73, i74, i75, i76, i77⟩ ih H locs ls hP hD hS hl
      have i61 : 0 ≤ u59.toInt ∧ u59.toInt ≤ 24 := i61
      have hP : va_P D vwCl [(h0, .inr (10, vL 67 Fh)), (h_s, .inl (cI, 335, .inl f_s)), (h_undone, .inl (cI, 192, .inl w60))] H := hP
      have hD : va_D A [(h0, .inr (10, vL 67 Fh)), (h_s, .inl (cI, 335, .inl f_s)), (h_undone, .inl (cI, 192, .inl w60))] := hD
      have hl : lv_has ls 2 [(1, .int u59), (0, .ref h0)] := hl
      refine lv_iload_n hx hb dX10_keeps_47 rfl (lv_at hl 0 rfl) ?_
      refine lv_bipush (v := 24) hx hb dX10_keeps_48 (by decide) ?_
      refine lv_icmp_ge (tgt := 82) hx hb dX10_keeps_50 (by decide) (fun c78 => ?_) (fun c78 => ?_)
      · have dc78 : 24 ≤ u59.toInt := le_i (a := 24) (b := u59.toInt) rfl rfl c78
        have k79 : 24 ≤ u59.toInt ∧ u59.toInt ≤ 24 := ⟨Int.le_trans (Int.le_refl _) dc78, i61.2⟩
        refine lv_aload_n hx hb dX10_keeps_82 rfl (lv_at hl 1 rfl) ?_
        refine lv_dup hx hb dX10_keeps_83 rfl ?_
        refine get_f (D := D) (ci := 10) (v := .int 1) (C := RX10) (T := TX10) (N := 67) hx hb hw inAX10 hown hK hP 0 rfl rfl 41 (by decide) (hw _ q_1302) (fun _ h9 => h9) n58 dX10_keeps_84 ?_
        refine lv_iconst (v := 1) hx hb dX10_keeps_87 (by decide) ?_
        refine lv_iadd hx hb dX10_keeps_88 ?_
        refine lv_ci (y := 2) (by decide +kernel) ?_
        refine put_f (D := D) (ci := 10) (v := .int 2) (ty := .int) (C := RX10) (T := TX10) (N := 67) hx hb hw inAX10 tyX10 tyX10_ok nmX10 hown hK hP hD hS 0 rfl rfl 41 (by decide) (hw _ q_1302) (fun _ h9 => h9) rfl (by decide +kernel) rfl rfl dX10_keeps_89 (fun H locs F80 eF80 hP hD hS => ?_)
        have hP : va_P D vwCl [(h0, .inr (10, vL 67 F80)), (h_s, .inl (cI, 335, .inl f_s)), (h_undone, .inl (cI, 192, .inl w60))] H := hP
        have hD : va_D A [(h0, .inr (10, vL 67 F80)), (h_s, .inl (cI, 335, .inl f_s)), (h_undone, .inl (cI, 192, .inl w60))] := hD
        exact ret_v hx hb hr hlocks hS hP hD dX10_keeps_92 (Nat.le_of_ble_eq_true rfl) (Nat.le_of_ble_eq_true rfl) ⟨F80, 2, w60, (SAME.up eF80 SAME.rf (by decide)), (get_eq eF80), (show 1 ≤ (2 : Int32).toInt ∧ (2 : Int32).toInt ≤ 8 by decide), i62, i63, i71, i72, i73, i74, i75, i76, i77, i64, i65, i66, i67, i68, i69, i70, rfl⟩
      · have dc78 : u59.toInt < 24 := nle_i (a := 24) (b := u59.toInt) rfl rfl c78
        have k81 : 0 ≤ u59.toInt ∧ u59.toInt ≤ 23 := ⟨i61.1, up_lt dc78 (Int.le_refl _) (by decide)⟩
        refine lv_aload_n hx hb dX10_keeps_53 rfl (lv_at hl 1 rfl) ?_
        refine get_f (D := D) (ci := 10) (v := .ref h_undone) (C := RX10) (T := TX10) (N := 67) hx hb hw inAX10 hown hK hP 0 rfl rfl 39 (by decide) (hw _ q_1300) (fun _ h9 => h9) e_undone dX10_keeps_54 ?_
        refine lv_bipush (v := 24) hx hb dX10_keeps_57 (by decide) ?_
        refine lv_aload_n hx hb dX10_keeps_59 rfl (lv_at hl 1 rfl) ?_
        refine get_f (D := D) (ci := 10) (v := .int 1) (C := RX10) (T := TX10) (N := 67) hx hb hw inAX10 hown hK hP 0 rfl rfl 41 (by decide) (hw _ q_1302) (fun _ h9 => h9) n58 dX10_keeps_60 ?_
        refine lv_imul hx hb dX10_keeps_63 ?_
        refine lv_ci (y := 24) (by decide +kernel) ?_
        refine lv_iload_n hx hb dX10_keeps_64 rfl (lv_at hl 0 rfl) ?_
        refine lv_iadd hx hb dX10_keeps_65 ?_
        refine lv_topi (fun v82 ev82 => ?_)
        have bv82 : v82.toInt = 24 + u59.toInt := by rw [ev82]; exact add_k rfl rfl ⟨Int.le_refl _, Int.le_refl _⟩ k81 (by decide)
        have k83 : 24 ≤ v82.toInt ∧ v82.toInt ≤ 47 := add_r bv82 ⟨Int.le_refl _, Int.le_refl _⟩ k81 (by decide)
        refine lv_aload_n hx hb dX10_keeps_66 rfl (lv_at hl 1 rfl) ?_
        refine get_f (D := D) (ci := 10) (v := .ref h_s) (C := RX10) (T := TX10) (N := 67) hx hb hw inAX10 hown hK hP 0 rfl rfl 6 (by decide) (hw _ q_1267) (fun _ h9 => h9) e_s dX10_keeps_67 ?_
        refine lv_bipush (v := 104) hx hb dX10_keeps_70 (by decide) ?_
        refine lv_iload_n hx hb dX10_keeps_72 rfl (lv_at hl 0 rfl) ?_
        refine lv_iadd hx hb dX10_keeps_73 ?_
        refine lv_topi (fun v84 ev84 => ?_)
        have bv84 : v84.toInt = 104 + u59.toInt := by rw [ev84]; exact add_k rfl rfl ⟨Int.le_refl _, Int.le_refl _⟩ k81 (by decide)
        have k85 : 104 ≤ v84.toInt ∧ v84.toInt ≤ 127 := add_r bv84 ⟨Int.le_refl _, Int.le_refl _⟩ k81 (by decide)
        refine va_iald hx hb hK hP 1 0 rfl rfl (ix_k k85 (by decide) (by decide)) dX10_keeps_74 ?_
        refine lv_topi (fun v86 ev86 => ?_)
        have r87 : IMP (105 ≤ v84.toInt → v84.toInt ≤ 108 → 0 ≤ v86.toInt ∧ v86.toInt ≤ 11) := IMP.mk (fun q1 q2 => by rw [ev86]; exact s_s_105.at _ q1 q2)
        have r88 : IMP (114 ≤ v84.toInt → v84.toInt ≤ 114 → 0 ≤ v86.toInt ∧ v86.toInt ≤ 5) := IMP.mk (fun q1 q2 => by rw [ev86]; exact s_s_114.at _ q1 q2)
        obtain ⟨g89, eg89⟩ : ∃ z : Nat → Int32, upd w60 v82.toNatClampNeg v86 = z := ⟨_, rfl⟩
        have r90 : SG 1 4 0 11 g89 := by rw [← eg89]; exact i62.up (Int.le_trans (by decide) k83.1) (Or.inr (Or.inl (dec_lt k83.1 (by decide))))
        have r91 : SG 10 10 0 5 g89 := by rw [← eg89]; exact i63.up (Int.le_trans (by decide) k83.1) (Or.inr (Or.inl (dec_lt k83.1 (by decide))))
        have r92 : SG 106 106 0 5 g89 := by rw [← eg89]; exact i64.up (Int.le_trans (by decide) k83.1) (Or.inl (lt_dec k83.2 (by decide)))
        have r93 : SG 121 124 0 11 g89 := by rw [← eg89]; exact i65.up (Int.le_trans (by decide) k83.1) (Or.inl (lt_dec k83.2 (by decide)))
        have r94 : SG 130 130 0 5 g89 := by rw [← eg89]; exact i66.up (Int.le_trans (by decide) k83.1) (Or.inl (lt_dec k83.2 (by decide)))
        have r95 : SG 145 148 0 11 g89 := by rw [← eg89]; exact i67.up (Int.le_trans (by decide) k83.1) (Or.inl (lt_dec k83.2 (by decide)))
        have r96 : SG 154 154 0 5 g89 := by rw [← eg89]; exact i68.up (Int.le_trans (by decide) k83.1) (Or.inl (lt_dec k83.2 (by decide)))
        have r97 : SG 169 172 0 11 g89 := by rw [← eg89]; exact i69.up (Int.le_trans (by decide) k83.1) (Or.inl (lt_dec k83.2 (by decide)))
        have r98 : SG 178 178 0 5 g89 := by rw [← eg89]; exact i70.up (Int.le_trans (by decide) k83.1) (Or.inl (lt_dec k83.2 (by decide)))
        have r99 : SG 25 28 0 11 g89 := by rw [← eg89]; exact i71.upI (Int.le_trans (by decide) k83.1) (fun q1 q2 => ⟨Int.le_trans (by decide) (r87.h (by omega) (by omega)).1, Int.le_trans (r87.h (by omega) (by omega)).2 (by decide)⟩)
        have r100 : SG 34 34 0 5 g89 := by rw [← eg89]; exact i72.upI (Int.le_trans (by decide) k83.1) (fun q1 q2 => ⟨Int.le_trans (by decide) (r88.h (by omega) (by omega)).1, Int.le_trans (r88.h (by omega) (by omega)).2 (by decide)⟩)
        have r101 : SG 49 52 0 11 g89 := by rw [← eg89]; exact i73.up (Int.le_trans (by decide) k83.1) (Or.inl (lt_dec k83.2 (by decide)))
        have r102 : SG 58 58 0 5 g89 := by rw [← eg89]; exact i74.up (Int.le_trans (by decide) k83.1) (Or.inl (lt_dec k83.2 (by decide)))
        have r103 : SG 73 76 0 11 g89 := by rw [← eg89]; exact i75.up (Int.le_trans (by decide) k83.1) (Or.inl (lt_dec k83.2 (by decide)))
        have r104 : SG 82 82 0 5 g89 := by rw [← eg89]; exact i76.up (Int.le_trans (by decide) k83.1) (Or.inl (lt_dec k83.2 (by decide)))
        have r105 : SG 97 100 0 11 g89 := by rw [← eg89]; exact i77.up (Int.le_trans (by decide) k83.1) (Or.inl (lt_dec k83.2 (by decide)))
        refine iast_g hx hb hK hP hD hS 2 0 rfl rfl (ix_k k83 (by decide) (by decide)) eg89 dX10_keeps_75 (fun H locs hP hD hS => ?_)
        have hP : va_P D vwCl [(h0, .inr (10, vL 67 Fh)), (h_s, .inl (cI, 335, .inl f_s)), (h_undone, .inl (cI, 192, .inl g89))] H := hP
        have hD : va_D A [(h0, .inr (10, vL 67 Fh)), (h_s, .inl (cI, 335, .inl f_s)), (h_undone, .inl (cI, 192, .inl g89))] := hD
        obtain ⟨v106, ev106⟩ : ∃ z : Int32, z = u59 + 1 := ⟨_, rfl⟩
        have bv106 : v106.toInt = u59.toInt + 1 := by rw [ev106]; exact add_k rfl rfl k81 ⟨Int.le_refl _, Int.le_refl _⟩ (by decide)
        have k107 : 1 ≤ v106.toInt ∧ v106.toInt ≤ 24 := add_r bv106 k81 ⟨Int.le_refl _, Int.le_refl _⟩ (by decide)
        refine lv_iinc (v := v106) (lv' := [(1, .int v106), (0, .ref h0)]) hx hb dX10_keeps_76 hl (k := 0) rfl (by rw [ev106]; rfl) (by decide) rfl (fun ls hl => ?_)
        refine lv_goto (tgt := 47) hx hb dX10_keeps_79 (by decide) ?_
        exact ih (v106, g89) ⟨(ir_wk k107 (by decide) (by decide)), r90, r91, r92, r93, r94, r95, r96, r97, r98, r99, r100, r101, r102, r103, r104, r105⟩ (by show (24 - v106.toInt).toNat < (24 - u59.toInt).toNat; omega) _ _ _ hP hD hS (lv_sub hl [0, 1] rfl)
    have dk56 : x_undoMany.toInt ≠ 1 := ne_i rfl rfl k56
    have k108 : 2 ≤ x_undoMany.toInt ∧ x_undoMany.toInt ≤ 7 := ⟨ne_lo dk56 k55.1 ⟨Int.le_refl _, Int.le_refl _⟩ (by decide), k55.2⟩
    by_cases k109 : x_undoMany = 2
    · have dk109 : x_undoMany.toInt = 2 := eq_i rfl rfl k109
      have k110 : 2 ≤ x_undoMany.toInt ∧ x_undoMany.toInt ≤ 2 := ⟨k108.1, Int.le_trans (Int.le_of_eq dk109) (Int.le_refl _)⟩
      have n111 : Fh 41 = .int 2 := by rw [e_undoMany]; exact congrArg Value.int k109
      refine lv_iconst (v := 0) hx hb dX10_keeps_45 (by decide) ?_
      refine lv_istore_n (lv' := [(1, .int 0), (0, .ref h0)]) hx hb dX10_keeps_46 rfl hl (by decide) rfl (fun ls hl => ?_)
      refine mloop (α := (Int32) × (Nat → Int32)) (nL := 2) (D := D) (A := A) (H0 := s.heap) (fun a => (24 - a.1.toInt).toNat) (fun a => IR 0 24 a.1 ∧ SG 1 4 0 11 a.2 ∧ SG 10 10 0 5 a.2 ∧ SG 106 106 0 5 a.2 ∧ SG 121 124 0 11 a.2 ∧ SG 130 130 0 5 a.2 ∧ SG 145 148 0 11 a.2 ∧ SG 154 154 0 5 a.2 ∧ SG 169 172 0 11 a.2 ∧ SG 178 178 0 5 a.2 ∧ SG 25 28 0 11 a.2 ∧ SG 34 34 0 5 a.2 ∧ SG 49 52 0 11 a.2 ∧ SG 58 58 0 5 a.2 ∧ SG 73 76 0 11 a.2 ∧ SG 82 82 0 5 a.2 ∧ SG 97 100 0 11 a.2) (fun a => [(h0, .inr (10, vL 67 Fh)), (h_s, .inl (cI, 335, .inl f_s)), (h_undone, .inl (cI, 192, .inl a.2))]) (fun a => [(1, .int a.1), (0, .ref h0)]) (fun H locs ls => W p l e ({ frames := 0, cells := 0, slots := 0, locals := 0 } : Room) s m [.ref h0].toArray below meth c H locs 0 0 (MQ below (va_Qv (fun (u : va_W) => ∃ (Gh : Nat → Value) (y_undoMany : Int32) (g_undone : Nat → Int32), SAME [41] Fh Gh ∧ Gh 41 = .int y_undoMany ∧ IR 1 8 y_undoMany ∧ SG 1 4 0 11 g_undone ∧ SG 10 10 0 5 g_undone ∧ SG 25 28 0 11 g_undone ∧ SG 34 34 0 5 g_undone ∧ SG 49 52 0 11 g_undone ∧ SG 58 58 0 5 g_undone ∧ SG 73 76 0 11 g_undone ∧ SG 82 82 0 5 g_undone ∧ SG 97 100 0 11 g_undone ∧ SG 106 106 0 5 g_undone ∧ SG 121 124 0 11 g_undone ∧ SG 130 130 0 5 g_undone ∧ SG 145 148 0 11 g_undone ∧ SG 154 154 0 5 g_undone ∧ SG 169 172 0 11 g_undone ∧ SG 178 178 0 5 g_undone ∧ u = [(h0, .inr (10, vL 67 Gh)), (h_s, .inl (cI, 335, .inl f_s)), (h_undone, .inl (cI, 192, .inl g_undone))]) (PO D A) A) [.ref h0].toArray s 0 0 A) (F0 m 47 ls [])) ?_ (0, f_undone) ⟨(show 0 ≤ (0 : Int32).toInt ∧ (0 : Int32).toInt ≤ 24 by decide), s_undone_1, s_undone_10, s_undone_106, s_undone_121, s_undone_130, s_undone_145, s_undone_154, s_undone_169, s_undone_178, s_undone_25, s_undone_34, s_undone_49, s_undone_58, s_undone_73, s_undone_82, s_undone_97⟩ _ _ _ hP hD hS hl
      rintro ⟨u112, w113⟩ ⟨i114, i115, i116, i117, i118, i119, i120, i121, i122, i123, i124, i125, i126, i127, i128, i129, i130⟩ ih H locs ls hP hD hS hl
      have i114 : 0 ≤ u112.toInt ∧ u112.toInt ≤ 24 := i114
      have hP : va_P D vwCl [(h0, .inr (10, vL 67 Fh)), (h_s, .inl (cI, 335, .inl f_s)), (h_undone, .inl (cI, 192, .inl w113))] H := hP
      have hD : va_D A [(h0, .inr (10, vL 67 Fh)), (h_s, .inl (cI, 335, .inl f_s)), (h_undone, .inl (cI, 192, .inl w113))] := hD
      have hl : lv_has ls 2 [(1, .int u112), (0, .ref h0)] := hl
      refine lv_iload_n hx hb dX10_keeps_47 rfl (lv_at hl 0 rfl) ?_
      refine lv_bipush (v := 24) hx hb dX10_keeps_48 (by decide) ?_
      refine lv_icmp_ge (tgt := 82) hx hb dX10_keeps_50 (by decide) (fun c131 => ?_) (fun c131 => ?_)
      · have dc131 : 24 ≤ u112.toInt := le_i (a := 24) (b := u112.toInt) rfl rfl c131
        have k132 : 24 ≤ u112.toInt ∧ u112.toInt ≤ 24 := ⟨Int.le_trans (Int.le_refl _) dc131, i114.2⟩
        refine lv_aload_n hx hb dX10_keeps_82 rfl (lv_at hl 1 rfl) ?_
        refine lv_dup hx hb dX10_keeps_83 rfl ?_
        refine get_f (D := D) (ci := 10) (v := .int 2) (C := RX10) (T := TX10) (N := 67) hx hb hw inAX10 hown hK hP 0 rfl rfl 41 (by decide) (hw _ q_1302) (fun _ h9 => h9) n111 dX10_keeps_84 ?_
        refine lv_iconst (v := 1) hx hb dX10_keeps_87 (by decide) ?_
        refine lv_iadd hx hb dX10_keeps_88 ?_
        refine lv_ci (y := 3) (by decide +kernel) ?_
        refine put_f (D := D) (ci := 10) (v := .int 3) (ty := .int) (C := RX10) (T := TX10) (N := 67) hx hb hw inAX10 tyX10 tyX10_ok nmX10 hown hK hP hD hS 0 rfl rfl 41 (by decide) (hw _ q_1302) (fun _ h9 => h9) rfl (by decide +kernel) rfl rfl dX10_keeps_89 (fun H locs F133 eF133 hP hD hS => ?_)
        have hP : va_P D vwCl [(h0, .inr (10, vL 67 F133)), (h_s, .inl (cI, 335, .inl f_s)), (h_undone, .inl (cI, 192, .inl w113))] H := hP
        have hD : va_D A [(h0, .inr (10, vL 67 F133)), (h_s, .inl (cI, 335, .inl f_s)), (h_undone, .inl (cI, 192, .inl w113))] := hD
        exact ret_v hx hb hr hlocks hS hP hD dX10_keeps_92 (Nat.le_of_ble_eq_true rfl) (Nat.le_of_ble_eq_true rfl) ⟨F133, 3, w113, (SAME.up eF133 SAME.rf (by decide)), (get_eq eF133), (show 1 ≤ (3 : Int32).toInt ∧ (3 : Int32).toInt ≤ 8 by decide), i115, i116, i124, i125, i126, i127, i128, i129, i130, i117, i118, i119, i120, i121, i122, i123, rfl⟩
      · have dc131 : u112.toInt < 24 := nle_i (a := 24) (b := u112.toInt) rfl rfl c131
        have k134 : 0 ≤ u112.toInt ∧ u112.toInt ≤ 23 := ⟨i114.1, up_lt dc131 (Int.le_refl _) (by decide)⟩
        refine lv_aload_n hx hb dX10_keeps_53 rfl (lv_at hl 1 rfl) ?_
        refine get_f (D := D) (ci := 10) (v := .ref h_undone) (C := RX10) (T := TX10) (N := 67) hx hb hw inAX10 hown hK hP 0 rfl rfl 39 (by decide) (hw _ q_1300) (fun _ h9 => h9) e_undone dX10_keeps_54 ?_
        refine lv_bipush (v := 24) hx hb dX10_keeps_57 (by decide) ?_
        refine lv_aload_n hx hb dX10_keeps_59 rfl (lv_at hl 1 rfl) ?_
        refine get_f (D := D) (ci := 10) (v := .int 2) (C := RX10) (T := TX10) (N := 67) hx hb hw inAX10 hown hK hP 0 rfl rfl 41 (by decide) (hw _ q_1302) (fun _ h9 => h9) n111 dX10_keeps_60 ?_
        refine lv_imul hx hb dX10_keeps_63 ?_
        refine lv_ci (y := 48) (by decide +kernel) ?_
        refine lv_iload_n hx hb dX10_keeps_64 rfl (lv_at hl 0 rfl) ?_
        refine lv_iadd hx hb dX10_keeps_65 ?_
        refine lv_topi (fun v135 ev135 => ?_)
        have bv135 : v135.toInt = 48 + u112.toInt := by rw [ev135]; exact add_k rfl rfl ⟨Int.le_refl _, Int.le_refl _⟩ k134 (by decide)
        have k136 : 48 ≤ v135.toInt ∧ v135.toInt ≤ 71 := add_r bv135 ⟨Int.le_refl _, Int.le_refl _⟩ k134 (by decide)
        refine lv_aload_n hx hb dX10_keeps_66 rfl (lv_at hl 1 rfl) ?_
        refine get_f (D := D) (ci := 10) (v := .ref h_s) (C := RX10) (T := TX10) (N := 67) hx hb hw inAX10 hown hK hP 0 rfl rfl 6 (by decide) (hw _ q_1267) (fun _ h9 => h9) e_s dX10_keeps_67 ?_
        refine lv_bipush (v := 104) hx hb dX10_keeps_70 (by decide) ?_
        refine lv_iload_n hx hb dX10_keeps_72 rfl (lv_at hl 0 rfl) ?_
        refine lv_iadd hx hb dX10_keeps_73 ?_
        refine lv_topi (fun v137 ev137 => ?_)
        have bv137 : v137.toInt = 104 + u112.toInt := by rw [ev137]; exact add_k rfl rfl ⟨Int.le_refl _, Int.le_refl _⟩ k134 (by decide)
        have k138 : 104 ≤ v137.toInt ∧ v137.toInt ≤ 127 := add_r bv137 ⟨Int.le_refl _, Int.le_refl _⟩ k134 (by decide)
        refine va_iald hx hb hK hP 1 0 rfl rfl (ix_k k138 (by decide) (by decide)) dX10_keeps_74 ?_
        refine lv_topi (fun v139 ev139 => ?_)
        have r140 : IMP (105 ≤ v137.toInt → v137.toInt ≤ 108 → 0 ≤ v139.toInt ∧ v139.toInt ≤ 11) := IMP.mk (fun q1 q2 => by rw [ev139]; exact s_s_105.at _ q1 q2)
        have r141 : IMP (114 ≤ v137.toInt → v137.toInt ≤ 114 → 0 ≤ v139.toInt ∧ v139.toInt ≤ 5) := IMP.mk (fun q1 q2 => by rw [ev139]; exact s_s_114.at _ q1 q2)
        obtain ⟨g142, eg142⟩ : ∃ z : Nat → Int32, upd w113 v135.toNatClampNeg v139 = z := ⟨_, rfl⟩
        have r143 : SG 1 4 0 11 g142 := by rw [← eg142]; exact i115.up (Int.le_trans (by decide) k136.1) (Or.inr (Or.inl (dec_lt k136.1 (by decide))))
        have r144 : SG 10 10 0 5 g142 := by rw [← eg142]; exact i116.up (Int.le_trans (by decide) k136.1) (Or.inr (Or.inl (dec_lt k136.1 (by decide))))
        have r145 : SG 106 106 0 5 g142 := by rw [← eg142]; exact i117.up (Int.le_trans (by decide) k136.1) (Or.inl (lt_dec k136.2 (by decide)))
        have r146 : SG 121 124 0 11 g142 := by rw [← eg142]; exact i118.up (Int.le_trans (by decide) k136.1) (Or.inl (lt_dec k136.2 (by decide)))
        have r147 : SG 130 130 0 5 g142 := by rw [← eg142]; exact i119.up (Int.le_trans (by decide) k136.1) (Or.inl (lt_dec k136.2 (by decide)))
        have r148 : SG 145 148 0 11 g142 := by rw [← eg142]; exact i120.up (Int.le_trans (by decide) k136.1) (Or.inl (lt_dec k136.2 (by decide)))
        have r149 : SG 154 154 0 5 g142 := by rw [← eg142]; exact i121.up (Int.le_trans (by decide) k136.1) (Or.inl (lt_dec k136.2 (by decide)))
        have r150 : SG 169 172 0 11 g142 := by rw [← eg142]; exact i122.up (Int.le_trans (by decide) k136.1) (Or.inl (lt_dec k136.2 (by decide)))
        have r151 : SG 178 178 0 5 g142 := by rw [← eg142]; exact i123.up (Int.le_trans (by decide) k136.1) (Or.inl (lt_dec k136.2 (by decide)))
        have r152 : SG 25 28 0 11 g142 := by rw [← eg142]; exact i124.up (Int.le_trans (by decide) k136.1) (Or.inr (Or.inl (dec_lt k136.1 (by decide))))
        have r153 : SG 34 34 0 5 g142 := by rw [← eg142]; exact i125.up (Int.le_trans (by decide) k136.1) (Or.inr (Or.inl (dec_lt k136.1 (by decide))))
        have r154 : SG 49 52 0 11 g142 := by rw [← eg142]; exact i126.upI (Int.le_trans (by decide) k136.1) (fun q1 q2 => ⟨Int.le_trans (by decide) (r140.h (by omega) (by omega)).1, Int.le_trans (r140.h (by omega) (by omega)).2 (by decide)⟩)
        have r155 : SG 58 58 0 5 g142 := by rw [← eg142]; exact i127.upI (Int.le_trans (by decide) k136.1) (fun q1 q2 => ⟨Int.le_trans (by decide) (r141.h (by omega) (by omega)).1, Int.le_trans (r141.h (by omega) (by omega)).2 (by decide)⟩)
        have r156 : SG 73 76 0 11 g142 := by rw [← eg142]; exact i128.up (Int.le_trans (by decide) k136.1) (Or.inl (lt_dec k136.2 (by decide)))
        have r157 : SG 82 82 0 5 g142 := by rw [← eg142]; exact i129.up (Int.le_trans (by decide) k136.1) (Or.inl (lt_dec k136.2 (by decide)))
        have r158 : SG 97 100 0 11 g142 := by rw [← eg142]; exact i130.up (Int.le_trans (by decide) k136.1) (Or.inl (lt_dec k136.2 (by decide)))
        refine iast_g hx hb hK hP hD hS 2 0 rfl rfl (ix_k k136 (by decide) (by decide)) eg142 dX10_keeps_75 (fun H locs hP hD hS => ?_)
        have hP : va_P D vwCl [(h0, .inr (10, vL 67 Fh)), (h_s, .inl (cI, 335, .inl f_s)), (h_undone, .inl (cI, 192, .inl g142))] H := hP
        have hD : va_D A [(h0, .inr (10, vL 67 Fh)), (h_s, .inl (cI, 335, .inl f_s)), (h_undone, .inl (cI, 192, .inl g142))] := hD
        obtain ⟨v159, ev159⟩ : ∃ z : Int32, z = u112 + 1 := ⟨_, rfl⟩
        have bv159 : v159.toInt = u112.toInt + 1 := by rw [ev159]; exact add_k rfl rfl k134 ⟨Int.le_refl _, Int.le_refl _⟩ (by decide)
        have k160 : 1 ≤ v159.toInt ∧ v159.toInt ≤ 24 := add_r bv159 k134 ⟨Int.le_refl _, Int.le_refl _⟩ (by decide)
        refine lv_iinc (v := v159) (lv' := [(1, .int v159), (0, .ref h0)]) hx hb dX10_keeps_76 hl (k := 0) rfl (by rw [ev159]; rfl) (by decide) rfl (fun ls hl => ?_)
        refine lv_goto (tgt := 47) hx hb dX10_keeps_79 (by decide) ?_
        exact ih (v159, g142) ⟨(ir_wk k160 (by decide) (by decide)), r143, r144, r145, r146, r147, r148, r149, r150, r151, r152, r153, r154, r155, r156, r157, r158⟩ (by show (24 - v159.toInt).toNat < (24 - u112.toInt).toNat; omega) _ _ _ hP hD hS (lv_sub hl [0, 1] rfl)
    have dk109 : x_undoMany.toInt ≠ 2 := ne_i rfl rfl k109
    have k161 : 3 ≤ x_undoMany.toInt ∧ x_undoMany.toInt ≤ 7 := ⟨ne_lo dk109 k108.1 ⟨Int.le_refl _, Int.le_refl _⟩ (by decide), k108.2⟩
    by_cases k162 : x_undoMany = 3
    · have dk162 : x_undoMany.toInt = 3 := eq_i rfl rfl k162
      have k163 : 3 ≤ x_undoMany.toInt ∧ x_undoMany.toInt ≤ 3 := ⟨k161.1, Int.le_trans (Int.le_of_eq dk162) (Int.le_refl _)⟩
      have n164 : Fh 41 = .int 3 := by rw [e_undoMany]; exact congrArg Value.int k162
      refine lv_iconst (v := 0) hx hb dX10_keeps_45 (by decide) ?_
      refine lv_istore_n (lv' := [(1, .int 0), (0, .ref h0)]) hx hb dX10_keeps_46 rfl hl (by decide) rfl (fun ls hl => ?_)
      refine mloop (α := (Int32) × (Nat → Int32)) (nL := 2) (D := D) (A := A) (H0 := s.heap) (fun a => (24 - a.1.toInt).toNat) (fun a => IR 0 24 a.1 ∧ SG 1 4 0 11 a.2 ∧ SG 10 10 0 5 a.2 ∧ SG 106 106 0 5 a.2 ∧ SG 121 124 0 11 a.2 ∧ SG 130 130 0 5 a.2 ∧ SG 145 148 0 11 a.2 ∧ SG 154 154 0 5 a.2 ∧ SG 169 172 0 11 a.2 ∧ SG 178 178 0 5 a.2 ∧ SG 25 28 0 11 a.2 ∧ SG 34 34 0 5 a.2 ∧ SG 49 52 0 11 a.2 ∧ SG 58 58 0 5 a.2 ∧ SG 73 76 0 11 a.2 ∧ SG 82 82 0 5 a.2 ∧ SG 97 100 0 11 a.2) (fun a => [(h0, .inr (10, vL 67 Fh)), (h_s, .inl (cI, 335, .inl f_s)), (h_undone, .inl (cI, 192, .inl a.2))]) (fun a => [(1, .int a.1), (0, .ref h0)]) (fun H locs ls => W p l e ({ frames := 0, cells := 0, slots := 0, locals := 0 } : Room) s m [.ref h0].toArray below meth c H locs 0 0 (MQ below (va_Qv (fun (u : va_W) => ∃ (Gh : Nat → Value) (y_undoMany : Int32) (g_undone : Nat → Int32), SAME [41] Fh Gh ∧ Gh 41 = .int y_undoMany ∧ IR 1 8 y_undoMany ∧ SG 1 4 0 11 g_undone ∧ SG 10 10 0 5 g_undone ∧ SG 25 28 0 11 g_undone ∧ SG 34 34 0 5 g_undone ∧ SG 49 52 0 11 g_undone ∧ SG 58 58 0 5 g_undone ∧ SG 73 76 0 11 g_undone ∧ SG 82 82 0 5 g_undone ∧ SG 97 100 0 11 g_undone ∧ SG 106 106 0 5 g_undone ∧ SG 121 124 0 11 g_undone ∧ SG 130 130 0 5 g_undone ∧ SG 145 148 0 11 g_undone ∧ SG 154 154 0 5 g_undone ∧ SG 169 172 0 11 g_undone ∧ SG 178 178 0 5 g_undone ∧ u = [(h0, .inr (10, vL 67 Gh)), (h_s, .inl (cI, 335, .inl f_s)), (h_undone, .inl (cI, 192, .inl g_undone))]) (PO D A) A) [.ref h0].toArray s 0 0 A) (F0 m 47 ls [])) ?_ (0, f_undone) ⟨(show 0 ≤ (0 : Int32).toInt ∧ (0 : Int32).toInt ≤ 24 by decide), s_undone_1, s_undone_10, s_undone_106, s_undone_121, s_undone_130, s_undone_145, s_undone_154, s_undone_169, s_undone_178, s_undone_25, s_undone_34, s_undone_49, s_undone_58, s_undone_73, s_undone_82, s_undone_97⟩ _ _ _ hP hD hS hl
      rintro ⟨u165, w166⟩ ⟨i167, i168, i169, i170, i171, i172, i173, i174, i175, i176, i177, i178, i179, i180, i181, i182, i183⟩ ih H locs ls hP hD hS hl
      have i167 : 0 ≤ u165.toInt ∧ u165.toInt ≤ 24 := i167
      have hP : va_P D vwCl [(h0, .inr (10, vL 67 Fh)), (h_s, .inl (cI, 335, .inl f_s)), (h_undone, .inl (cI, 192, .inl w166))] H := hP
      have hD : va_D A [(h0, .inr (10, vL 67 Fh)), (h_s, .inl (cI, 335, .inl f_s)), (h_undone, .inl (cI, 192, .inl w166))] := hD
      have hl : lv_has ls 2 [(1, .int u165), (0, .ref h0)] := hl
      refine lv_iload_n hx hb dX10_keeps_47 rfl (lv_at hl 0 rfl) ?_
      refine lv_bipush (v := 24) hx hb dX10_keeps_48 (by decide) ?_
      refine lv_icmp_ge (tgt := 82) hx hb dX10_keeps_50 (by decide) (fun c184 => ?_) (fun c184 => ?_)
      · have dc184 : 24 ≤ u165.toInt := le_i (a := 24) (b := u165.toInt) rfl rfl c184
        have k185 : 24 ≤ u165.toInt ∧ u165.toInt ≤ 24 := ⟨Int.le_trans (Int.le_refl _) dc184, i167.2⟩
        refine lv_aload_n hx hb dX10_keeps_82 rfl (lv_at hl 1 rfl) ?_
        refine lv_dup hx hb dX10_keeps_83 rfl ?_
        refine get_f (D := D) (ci := 10) (v := .int 3) (C := RX10) (T := TX10) (N := 67) hx hb hw inAX10 hown hK hP 0 rfl rfl 41 (by decide) (hw _ q_1302) (fun _ h9 => h9) n164 dX10_keeps_84 ?_
        refine lv_iconst (v := 1) hx hb dX10_keeps_87 (by decide) ?_
        refine lv_iadd hx hb dX10_keeps_88 ?_
        refine lv_ci (y := 4) (by decide +kernel) ?_
        refine put_f (D := D) (ci := 10) (v := .int 4) (ty := .int) (C := RX10) (T := TX10) (N := 67) hx hb hw inAX10 tyX10 tyX10_ok nmX10 hown hK hP hD hS 0 rfl rfl 41 (by decide) (hw _ q_1302) (fun _ h9 => h9) rfl (by decide +kernel) rfl rfl dX10_keeps_89 (fun H locs F186 eF186 hP hD hS => ?_)
        have hP : va_P D vwCl [(h0, .inr (10, vL 67 F186)), (h_s, .inl (cI, 335, .inl f_s)), (h_undone, .inl (cI, 192, .inl w166))] H := hP
        have hD : va_D A [(h0, .inr (10, vL 67 F186)), (h_s, .inl (cI, 335, .inl f_s)), (h_undone, .inl (cI, 192, .inl w166))] := hD
        exact ret_v hx hb hr hlocks hS hP hD dX10_keeps_92 (Nat.le_of_ble_eq_true rfl) (Nat.le_of_ble_eq_true rfl) ⟨F186, 4, w166, (SAME.up eF186 SAME.rf (by decide)), (get_eq eF186), (show 1 ≤ (4 : Int32).toInt ∧ (4 : Int32).toInt ≤ 8 by decide), i168, i169, i177, i178, i179, i180, i181, i182, i183, i170, i171, i172, i173, i174, i175, i176, rfl⟩
      · have dc184 : u165.toInt < 24 := nle_i (a := 24) (b := u165.toInt) rfl rfl c184
        have k187 : 0 ≤ u165.toInt ∧ u165.toInt ≤ 23 := ⟨i167.1, up_lt dc184 (Int.le_refl _) (by decide)⟩
        refine lv_aload_n hx hb dX10_keeps_53 rfl (lv_at hl 1 rfl) ?_
        refine get_f (D := D) (ci := 10) (v := .ref h_undone) (C := RX10) (T := TX10) (N := 67) hx hb hw inAX10 hown hK hP 0 rfl rfl 39 (by decide) (hw _ q_1300) (fun _ h9 => h9) e_undone dX10_keeps_54 ?_
        refine lv_bipush (v := 24) hx hb dX10_keeps_57 (by decide) ?_
        refine lv_aload_n hx hb dX10_keeps_59 rfl (lv_at hl 1 rfl) ?_
        refine get_f (D := D) (ci := 10) (v := .int 3) (C := RX10) (T := TX10) (N := 67) hx hb hw inAX10 hown hK hP 0 rfl rfl 41 (by decide) (hw _ q_1302) (fun _ h9 => h9) n164 dX10_keeps_60 ?_
        refine lv_imul hx hb dX10_keeps_63 ?_
        refine lv_ci (y := 72) (by decide +kernel) ?_
        refine lv_iload_n hx hb dX10_keeps_64 rfl (lv_at hl 0 rfl) ?_
        refine lv_iadd hx hb dX10_keeps_65 ?_
        refine lv_topi (fun v188 ev188 => ?_)
        have bv188 : v188.toInt = 72 + u165.toInt := by rw [ev188]; exact add_k rfl rfl ⟨Int.le_refl _, Int.le_refl _⟩ k187 (by decide)
        have k189 : 72 ≤ v188.toInt ∧ v188.toInt ≤ 95 := add_r bv188 ⟨Int.le_refl _, Int.le_refl _⟩ k187 (by decide)
        refine lv_aload_n hx hb dX10_keeps_66 rfl (lv_at hl 1 rfl) ?_
        refine get_f (D := D) (ci := 10) (v := .ref h_s) (C := RX10) (T := TX10) (N := 67) hx hb hw inAX10 hown hK hP 0 rfl rfl 6 (by decide) (hw _ q_1267) (fun _ h9 => h9) e_s dX10_keeps_67 ?_
        refine lv_bipush (v := 104) hx hb dX10_keeps_70 (by decide) ?_
        refine lv_iload_n hx hb dX10_keeps_72 rfl (lv_at hl 0 rfl) ?_
        refine lv_iadd hx hb dX10_keeps_73 ?_
        refine lv_topi (fun v190 ev190 => ?_)
        have bv190 : v190.toInt = 104 + u165.toInt := by rw [ev190]; exact add_k rfl rfl ⟨Int.le_refl _, Int.le_refl _⟩ k187 (by decide)
        have k191 : 104 ≤ v190.toInt ∧ v190.toInt ≤ 127 := add_r bv190 ⟨Int.le_refl _, Int.le_refl _⟩ k187 (by decide)
        refine va_iald hx hb hK hP 1 0 rfl rfl (ix_k k191 (by decide) (by decide)) dX10_keeps_74 ?_
        refine lv_topi (fun v192 ev192 => ?_)
        have r193 : IMP (105 ≤ v190.toInt → v190.toInt ≤ 108 → 0 ≤ v192.toInt ∧ v192.toInt ≤ 11) := IMP.mk (fun q1 q2 => by rw [ev192]; exact s_s_105.at _ q1 q2)
        have r194 : IMP (114 ≤ v190.toInt → v190.toInt ≤ 114 → 0 ≤ v192.toInt ∧ v192.toInt ≤ 5) := IMP.mk (fun q1 q2 => by rw [ev192]; exact s_s_114.at _ q1 q2)
        obtain ⟨g195, eg195⟩ : ∃ z : Nat → Int32, upd w166 v188.toNatClampNeg v192 = z := ⟨_, rfl⟩
        have r196 : SG 1 4 0 11 g195 := by rw [← eg195]; exact i168.up (Int.le_trans (by decide) k189.1) (Or.inr (Or.inl (dec_lt k189.1 (by decide))))
        have r197 : SG 10 10 0 5 g195 := by rw [← eg195]; exact i169.up (Int.le_trans (by decide) k189.1) (Or.inr (Or.inl (dec_lt k189.1 (by decide))))
        have r198 : SG 106 106 0 5 g195 := by rw [← eg195]; exact i170.up (Int.le_trans (by decide) k189.1) (Or.inl (lt_dec k189.2 (by decide)))
        have r199 : SG 121 124 0 11 g195 := by rw [← eg195]; exact i171.up (Int.le_trans (by decide) k189.1) (Or.inl (lt_dec k189.2 (by decide)))
        have r200 : SG 130 130 0 5 g195 := by rw [← eg195]; exact i172.up (Int.le_trans (by decide) k189.1) (Or.inl (lt_dec k189.2 (by decide)))
        have r201 : SG 145 148 0 11 g195 := by rw [← eg195]; exact i173.up (Int.le_trans (by decide) k189.1) (Or.inl (lt_dec k189.2 (by decide)))
        have r202 : SG 154 154 0 5 g195 := by rw [← eg195]; exact i174.up (Int.le_trans (by decide) k189.1) (Or.inl (lt_dec k189.2 (by decide)))
        have r203 : SG 169 172 0 11 g195 := by rw [← eg195]; exact i175.up (Int.le_trans (by decide) k189.1) (Or.inl (lt_dec k189.2 (by decide)))
        have r204 : SG 178 178 0 5 g195 := by rw [← eg195]; exact i176.up (Int.le_trans (by decide) k189.1) (Or.inl (lt_dec k189.2 (by decide)))
        have r205 : SG 25 28 0 11 g195 := by rw [← eg195]; exact i177.up (Int.le_trans (by decide) k189.1) (Or.inr (Or.inl (dec_lt k189.1 (by decide))))
        have r206 : SG 34 34 0 5 g195 := by rw [← eg195]; exact i178.up (Int.le_trans (by decide) k189.1) (Or.inr (Or.inl (dec_lt k189.1 (by decide))))
        have r207 : SG 49 52 0 11 g195 := by rw [← eg195]; exact i179.up (Int.le_trans (by decide) k189.1) (Or.inr (Or.inl (dec_lt k189.1 (by decide))))
        have r208 : SG 58 58 0 5 g195 := by rw [← eg195]; exact i180.up (Int.le_trans (by decide) k189.1) (Or.inr (Or.inl (dec_lt k189.1 (by decide))))
        have r209 : SG 73 76 0 11 g195 := by rw [← eg195]; exact i181.upI (Int.le_trans (by decide) k189.1) (fun q1 q2 => ⟨Int.le_trans (by decide) (r193.h (by omega) (by omega)).1, Int.le_trans (r193.h (by omega) (by omega)).2 (by decide)⟩)
        have r210 : SG 82 82 0 5 g195 := by rw [← eg195]; exact i182.upI (Int.le_trans (by decide) k189.1) (fun q1 q2 => ⟨Int.le_trans (by decide) (r194.h (by omega) (by omega)).1, Int.le_trans (r194.h (by omega) (by omega)).2 (by decide)⟩)
        have r211 : SG 97 100 0 11 g195 := by rw [← eg195]; exact i183.up (Int.le_trans (by decide) k189.1) (Or.inl (lt_dec k189.2 (by decide)))
        refine iast_g hx hb hK hP hD hS 2 0 rfl rfl (ix_k k189 (by decide) (by decide)) eg195 dX10_keeps_75 (fun H locs hP hD hS => ?_)
        have hP : va_P D vwCl [(h0, .inr (10, vL 67 Fh)), (h_s, .inl (cI, 335, .inl f_s)), (h_undone, .inl (cI, 192, .inl g195))] H := hP
        have hD : va_D A [(h0, .inr (10, vL 67 Fh)), (h_s, .inl (cI, 335, .inl f_s)), (h_undone, .inl (cI, 192, .inl g195))] := hD
        obtain ⟨v212, ev212⟩ : ∃ z : Int32, z = u165 + 1 := ⟨_, rfl⟩
        have bv212 : v212.toInt = u165.toInt + 1 := by rw [ev212]; exact add_k rfl rfl k187 ⟨Int.le_refl _, Int.le_refl _⟩ (by decide)
        have k213 : 1 ≤ v212.toInt ∧ v212.toInt ≤ 24 := add_r bv212 k187 ⟨Int.le_refl _, Int.le_refl _⟩ (by decide)
        refine lv_iinc (v := v212) (lv' := [(1, .int v212), (0, .ref h0)]) hx hb dX10_keeps_76 hl (k := 0) rfl (by rw [ev212]; rfl) (by decide) rfl (fun ls hl => ?_)
        refine lv_goto (tgt := 47) hx hb dX10_keeps_79 (by decide) ?_
        exact ih (v212, g195) ⟨(ir_wk k213 (by decide) (by decide)), r196, r197, r198, r199, r200, r201, r202, r203, r204, r205, r206, r207, r208, r209, r210, r211⟩ (by show (24 - v212.toInt).toNat < (24 - u165.toInt).toNat; omega) _ _ _ hP hD hS (lv_sub hl [0, 1] rfl)
    have dk162 : x_undoMany.toInt ≠ 3 := ne_i rfl rfl k162
    have k214 : 4 ≤ x_undoMany.toInt ∧ x_undoMany.toInt ≤ 7 := ⟨ne_lo dk162 k161.1 ⟨Int.le_refl _, Int.le_refl _⟩ (by decide), k161.2⟩
    by_cases k215 : x_undoMany = 4
    · have dk215 : x_undoMany.toInt = 4 := eq_i rfl rfl k215
      have k216 : 4 ≤ x_undoMany.toInt ∧ x_undoMany.toInt ≤ 4 := ⟨k214.1, Int.le_trans (Int.le_of_eq dk215) (Int.le_refl _)⟩
      have n217 : Fh 41 = .int 4 := by rw [e_undoMany]; exact congrArg Value.int k215
      refine lv_iconst (v := 0) hx hb dX10_keeps_45 (by decide) ?_
      refine lv_istore_n (lv' := [(1, .int 0), (0, .ref h0)]) hx hb dX10_keeps_46 rfl hl (by decide) rfl (fun ls hl => ?_)
      refine mloop (α := (Int32) × (Nat → Int32)) (nL := 2) (D := D) (A := A) (H0 := s.heap) (fun a => (24 - a.1.toInt).toNat) (fun a => IR 0 24 a.1 ∧ SG 1 4 0 11 a.2 ∧ SG 10 10 0 5 a.2 ∧ SG 106 106 0 5 a.2 ∧ SG 121 124 0 11 a.2 ∧ SG 130 130 0 5 a.2 ∧ SG 145 148 0 11 a.2 ∧ SG 154 154 0 5 a.2 ∧ SG 169 172 0 11 a.2 ∧ SG 178 178 0 5 a.2 ∧ SG 25 28 0 11 a.2 ∧ SG 34 34 0 5 a.2 ∧ SG 49 52 0 11 a.2 ∧ SG 58 58 0 5 a.2 ∧ SG 73 76 0 11 a.2 ∧ SG 82 82 0 5 a.2 ∧ SG 97 100 0 11 a.2) (fun a => [(h0, .inr (10, vL 67 Fh)), (h_s, .inl (cI, 335, .inl f_s)), (h_undone, .inl (cI, 192, .inl a.2))]) (fun a => [(1, .int a.1), (0, .ref h0)]) (fun H locs ls => W p l e ({ frames := 0, cells := 0, slots := 0, locals := 0 } : Room) s m [.ref h0].toArray below meth c H locs 0 0 (MQ below (va_Qv (fun (u : va_W) => ∃ (Gh : Nat → Value) (y_undoMany : Int32) (g_undone : Nat → Int32), SAME [41] Fh Gh ∧ Gh 41 = .int y_undoMany ∧ IR 1 8 y_undoMany ∧ SG 1 4 0 11 g_undone ∧ SG 10 10 0 5 g_undone ∧ SG 25 28 0 11 g_undone ∧ SG 34 34 0 5 g_undone ∧ SG 49 52 0 11 g_undone ∧ SG 58 58 0 5 g_undone ∧ SG 73 76 0 11 g_undone ∧ SG 82 82 0 5 g_undone ∧ SG 97 100 0 11 g_undone ∧ SG 106 106 0 5 g_undone ∧ SG 121 124 0 11 g_undone ∧ SG 130 130 0 5 g_undone ∧ SG 145 148 0 11 g_undone ∧ SG 154 154 0 5 g_undone ∧ SG 169 172 0 11 g_undone ∧ SG 178 178 0 5 g_undone ∧ u = [(h0, .inr (10, vL 67 Gh)), (h_s, .inl (cI, 335, .inl f_s)), (h_undone, .inl (cI, 192, .inl g_undone))]) (PO D A) A) [.ref h0].toArray s 0 0 A) (F0 m 47 ls [])) ?_ (0, f_undone) ⟨(show 0 ≤ (0 : Int32).toInt ∧ (0 : Int32).toInt ≤ 24 by decide), s_undone_1, s_undone_10, s_undone_106, s_undone_121, s_undone_130, s_undone_145, s_undone_154, s_undone_169, s_undone_178, s_undone_25, s_undone_34, s_undone_49, s_undone_58, s_undone_73, s_undone_82, s_undone_97⟩ _ _ _ hP hD hS hl
      rintro ⟨u218, w219⟩ ⟨i220, i221, i222, i223, i224, i225, i226, i227, i228, i229, i230, i231, i232, i233, i234, i235, i236⟩ ih H locs ls hP hD hS hl
      have i220 : 0 ≤ u218.toInt ∧ u218.toInt ≤ 24 := i220
      have hP : va_P D vwCl [(h0, .inr (10, vL 67 Fh)), (h_s, .inl (cI, 335, .inl f_s)), (h_undone, .inl (cI, 192, .inl w219))] H := hP
      have hD : va_D A [(h0, .inr (10, vL 67 Fh)), (h_s, .inl (cI, 335, .inl f_s)), (h_undone, .inl (cI, 192, .inl w219))] := hD
      have hl : lv_has ls 2 [(1, .int u218), (0, .ref h0)] := hl
      refine lv_iload_n hx hb dX10_keeps_47 rfl (lv_at hl 0 rfl) ?_
      refine lv_bipush (v := 24) hx hb dX10_keeps_48 (by decide) ?_
      refine lv_icmp_ge (tgt := 82) hx hb dX10_keeps_50 (by decide) (fun c237 => ?_) (fun c237 => ?_)
      · have dc237 : 24 ≤ u218.toInt := le_i (a := 24) (b := u218.toInt) rfl rfl c237
        have k238 : 24 ≤ u218.toInt ∧ u218.toInt ≤ 24 := ⟨Int.le_trans (Int.le_refl _) dc237, i220.2⟩
        refine lv_aload_n hx hb dX10_keeps_82 rfl (lv_at hl 1 rfl) ?_
        refine lv_dup hx hb dX10_keeps_83 rfl ?_
        refine get_f (D := D) (ci := 10) (v := .int 4) (C := RX10) (T := TX10) (N := 67) hx hb hw inAX10 hown hK hP 0 rfl rfl 41 (by decide) (hw _ q_1302) (fun _ h9 => h9) n217 dX10_keeps_84 ?_
        refine lv_iconst (v := 1) hx hb dX10_keeps_87 (by decide) ?_
        refine lv_iadd hx hb dX10_keeps_88 ?_
        refine lv_ci (y := 5) (by decide +kernel) ?_
        refine put_f (D := D) (ci := 10) (v := .int 5) (ty := .int) (C := RX10) (T := TX10) (N := 67) hx hb hw inAX10 tyX10 tyX10_ok nmX10 hown hK hP hD hS 0 rfl rfl 41 (by decide) (hw _ q_1302) (fun _ h9 => h9) rfl (by decide +kernel) rfl rfl dX10_keeps_89 (fun H locs F239 eF239 hP hD hS => ?_)
        have hP : va_P D vwCl [(h0, .inr (10, vL 67 F239)), (h_s, .inl (cI, 335, .inl f_s)), (h_undone, .inl (cI, 192, .inl w219))] H := hP
        have hD : va_D A [(h0, .inr (10, vL 67 F239)), (h_s, .inl (cI, 335, .inl f_s)), (h_undone, .inl (cI, 192, .inl w219))] := hD
        exact ret_v hx hb hr hlocks hS hP hD dX10_keeps_92 (Nat.le_of_ble_eq_true rfl) (Nat.le_of_ble_eq_true rfl) ⟨F239, 5, w219, (SAME.up eF239 SAME.rf (by decide)), (get_eq eF239), (show 1 ≤ (5 : Int32).toInt ∧ (5 : Int32).toInt ≤ 8 by decide), i221, i222, i230, i231, i232, i233, i234, i235, i236, i223, i224, i225, i226, i227, i228, i229, rfl⟩
      · have dc237 : u218.toInt < 24 := nle_i (a := 24) (b := u218.toInt) rfl rfl c237
        have k240 : 0 ≤ u218.toInt ∧ u218.toInt ≤ 23 := ⟨i220.1, up_lt dc237 (Int.le_refl _) (by decide)⟩
        refine lv_aload_n hx hb dX10_keeps_53 rfl (lv_at hl 1 rfl) ?_
        refine get_f (D := D) (ci := 10) (v := .ref h_undone) (C := RX10) (T := TX10) (N := 67) hx hb hw inAX10 hown hK hP 0 rfl rfl 39 (by decide) (hw _ q_1300) (fun _ h9 => h9) e_undone dX10_keeps_54 ?_
        refine lv_bipush (v := 24) hx hb dX10_keeps_57 (by decide) ?_
        refine lv_aload_n hx hb dX10_keeps_59 rfl (lv_at hl 1 rfl) ?_
        refine get_f (D := D) (ci := 10) (v := .int 4) (C := RX10) (T := TX10) (N := 67) hx hb hw inAX10 hown hK hP 0 rfl rfl 41 (by decide) (hw _ q_1302) (fun _ h9 => h9) n217 dX10_keeps_60 ?_
        refine lv_imul hx hb dX10_keeps_63 ?_
        refine lv_ci (y := 96) (by decide +kernel) ?_
        refine lv_iload_n hx hb dX10_keeps_64 rfl (lv_at hl 0 rfl) ?_
        refine lv_iadd hx hb dX10_keeps_65 ?_
        refine lv_topi (fun v241 ev241 => ?_)
        have bv241 : v241.toInt = 96 + u218.toInt := by rw [ev241]; exact add_k rfl rfl ⟨Int.le_refl _, Int.le_refl _⟩ k240 (by decide)
        have k242 : 96 ≤ v241.toInt ∧ v241.toInt ≤ 119 := add_r bv241 ⟨Int.le_refl _, Int.le_refl _⟩ k240 (by decide)
        refine lv_aload_n hx hb dX10_keeps_66 rfl (lv_at hl 1 rfl) ?_
        refine get_f (D := D) (ci := 10) (v := .ref h_s) (C := RX10) (T := TX10) (N := 67) hx hb hw inAX10 hown hK hP 0 rfl rfl 6 (by decide) (hw _ q_1267) (fun _ h9 => h9) e_s dX10_keeps_67 ?_
        refine lv_bipush (v := 104) hx hb dX10_keeps_70 (by decide) ?_
        refine lv_iload_n hx hb dX10_keeps_72 rfl (lv_at hl 0 rfl) ?_
        refine lv_iadd hx hb dX10_keeps_73 ?_
        refine lv_topi (fun v243 ev243 => ?_)
        have bv243 : v243.toInt = 104 + u218.toInt := by rw [ev243]; exact add_k rfl rfl ⟨Int.le_refl _, Int.le_refl _⟩ k240 (by decide)
        have k244 : 104 ≤ v243.toInt ∧ v243.toInt ≤ 127 := add_r bv243 ⟨Int.le_refl _, Int.le_refl _⟩ k240 (by decide)
        refine va_iald hx hb hK hP 1 0 rfl rfl (ix_k k244 (by decide) (by decide)) dX10_keeps_74 ?_
        refine lv_topi (fun v245 ev245 => ?_)
        have r246 : IMP (105 ≤ v243.toInt → v243.toInt ≤ 108 → 0 ≤ v245.toInt ∧ v245.toInt ≤ 11) := IMP.mk (fun q1 q2 => by rw [ev245]; exact s_s_105.at _ q1 q2)
        have r247 : IMP (114 ≤ v243.toInt → v243.toInt ≤ 114 → 0 ≤ v245.toInt ∧ v245.toInt ≤ 5) := IMP.mk (fun q1 q2 => by rw [ev245]; exact s_s_114.at _ q1 q2)
        obtain ⟨g248, eg248⟩ : ∃ z : Nat → Int32, upd w219 v241.toNatClampNeg v245 = z := ⟨_, rfl⟩
        have r249 : SG 1 4 0 11 g248 := by rw [← eg248]; exact i221.up (Int.le_trans (by decide) k242.1) (Or.inr (Or.inl (dec_lt k242.1 (by decide))))
        have r250 : SG 10 10 0 5 g248 := by rw [← eg248]; exact i222.up (Int.le_trans (by decide) k242.1) (Or.inr (Or.inl (dec_lt k242.1 (by decide))))
        have r251 : SG 106 106 0 5 g248 := by rw [← eg248]; exact i223.upI (Int.le_trans (by decide) k242.1) (fun q1 q2 => ⟨Int.le_trans (by decide) (r247.h (by omega) (by omega)).1, Int.le_trans (r247.h (by omega) (by omega)).2 (by decide)⟩)
        have r252 : SG 121 124 0 11 g248 := by rw [← eg248]; exact i224.up (Int.le_trans (by decide) k242.1) (Or.inl (lt_dec k242.2 (by decide)))
        have r253 : SG 130 130 0 5 g248 := by rw [← eg248]; exact i225.up (Int.le_trans (by decide) k242.1) (Or.inl (lt_dec k242.2 (by decide)))
        have r254 : SG 145 148 0 11 g248 := by rw [← eg248]; exact i226.up (Int.le_trans (by decide) k242.1) (Or.inl (lt_dec k242.2 (by decide)))
        have r255 : SG 154 154 0 5 g248 := by rw [← eg248]; exact i227.up (Int.le_trans (by decide) k242.1) (Or.inl (lt_dec k242.2 (by decide)))
        have r256 : SG 169 172 0 11 g248 := by rw [← eg248]; exact i228.up (Int.le_trans (by decide) k242.1) (Or.inl (lt_dec k242.2 (by decide)))
        have r257 : SG 178 178 0 5 g248 := by rw [← eg248]; exact i229.up (Int.le_trans (by decide) k242.1) (Or.inl (lt_dec k242.2 (by decide)))
        have r258 : SG 25 28 0 11 g248 := by rw [← eg248]; exact i230.up (Int.le_trans (by decide) k242.1) (Or.inr (Or.inl (dec_lt k242.1 (by decide))))
        have r259 : SG 34 34 0 5 g248 := by rw [← eg248]; exact i231.up (Int.le_trans (by decide) k242.1) (Or.inr (Or.inl (dec_lt k242.1 (by decide))))
        have r260 : SG 49 52 0 11 g248 := by rw [← eg248]; exact i232.up (Int.le_trans (by decide) k242.1) (Or.inr (Or.inl (dec_lt k242.1 (by decide))))
        have r261 : SG 58 58 0 5 g248 := by rw [← eg248]; exact i233.up (Int.le_trans (by decide) k242.1) (Or.inr (Or.inl (dec_lt k242.1 (by decide))))
        have r262 : SG 73 76 0 11 g248 := by rw [← eg248]; exact i234.up (Int.le_trans (by decide) k242.1) (Or.inr (Or.inl (dec_lt k242.1 (by decide))))
        have r263 : SG 82 82 0 5 g248 := by rw [← eg248]; exact i235.up (Int.le_trans (by decide) k242.1) (Or.inr (Or.inl (dec_lt k242.1 (by decide))))
        have r264 : SG 97 100 0 11 g248 := by rw [← eg248]; exact i236.upI (Int.le_trans (by decide) k242.1) (fun q1 q2 => ⟨Int.le_trans (by decide) (r246.h (by omega) (by omega)).1, Int.le_trans (r246.h (by omega) (by omega)).2 (by decide)⟩)
        refine iast_g hx hb hK hP hD hS 2 0 rfl rfl (ix_k k242 (by decide) (by decide)) eg248 dX10_keeps_75 (fun H locs hP hD hS => ?_)
        have hP : va_P D vwCl [(h0, .inr (10, vL 67 Fh)), (h_s, .inl (cI, 335, .inl f_s)), (h_undone, .inl (cI, 192, .inl g248))] H := hP
        have hD : va_D A [(h0, .inr (10, vL 67 Fh)), (h_s, .inl (cI, 335, .inl f_s)), (h_undone, .inl (cI, 192, .inl g248))] := hD
        obtain ⟨v265, ev265⟩ : ∃ z : Int32, z = u218 + 1 := ⟨_, rfl⟩
        have bv265 : v265.toInt = u218.toInt + 1 := by rw [ev265]; exact add_k rfl rfl k240 ⟨Int.le_refl _, Int.le_refl _⟩ (by decide)
        have k266 : 1 ≤ v265.toInt ∧ v265.toInt ≤ 24 := add_r bv265 k240 ⟨Int.le_refl _, Int.le_refl _⟩ (by decide)
        refine lv_iinc (v := v265) (lv' := [(1, .int v265), (0, .ref h0)]) hx hb dX10_keeps_76 hl (k := 0) rfl (by rw [ev265]; rfl) (by decide) rfl (fun ls hl => ?_)
        refine lv_goto (tgt := 47) hx hb dX10_keeps_79 (by decide) ?_
        exact ih (v265, g248) ⟨(ir_wk k266 (by decide) (by decide)), r249, r250, r251, r252, r253, r254, r255, r256, r257, r258, r259, r260, r261, r262, r263, r264⟩ (by show (24 - v265.toInt).toNat < (24 - u218.toInt).toNat; omega) _ _ _ hP hD hS (lv_sub hl [0, 1] rfl)
    have dk215 : x_undoMany.toInt ≠ 4 := ne_i rfl rfl k215
    have k267 : 5 ≤ x_undoMany.toInt ∧ x_undoMany.toInt ≤ 7 := ⟨ne_lo dk215 k214.1 ⟨Int.le_refl _, Int.le_refl _⟩ (by decide), k214.2⟩
    by_cases k268 : x_undoMany = 5
    · have dk268 : x_undoMany.toInt = 5 := eq_i rfl rfl k268
      have k269 : 5 ≤ x_undoMany.toInt ∧ x_undoMany.toInt ≤ 5 := ⟨k267.1, Int.le_trans (Int.le_of_eq dk268) (Int.le_refl _)⟩
      have n270 : Fh 41 = .int 5 := by rw [e_undoMany]; exact congrArg Value.int k268
      refine lv_iconst (v := 0) hx hb dX10_keeps_45 (by decide) ?_
      refine lv_istore_n (lv' := [(1, .int 0), (0, .ref h0)]) hx hb dX10_keeps_46 rfl hl (by decide) rfl (fun ls hl => ?_)
      refine mloop (α := (Int32) × (Nat → Int32)) (nL := 2) (D := D) (A := A) (H0 := s.heap) (fun a => (24 - a.1.toInt).toNat) (fun a => IR 0 24 a.1 ∧ SG 1 4 0 11 a.2 ∧ SG 10 10 0 5 a.2 ∧ SG 106 106 0 5 a.2 ∧ SG 121 124 0 11 a.2 ∧ SG 130 130 0 5 a.2 ∧ SG 145 148 0 11 a.2 ∧ SG 154 154 0 5 a.2 ∧ SG 169 172 0 11 a.2 ∧ SG 178 178 0 5 a.2 ∧ SG 25 28 0 11 a.2 ∧ SG 34 34 0 5 a.2 ∧ SG 49 52 0 11 a.2 ∧ SG 58 58 0 5 a.2 ∧ SG 73 76 0 11 a.2 ∧ SG 82 82 0 5 a.2 ∧ SG 97 100 0 11 a.2) (fun a => [(h0, .inr (10, vL 67 Fh)), (h_s, .inl (cI, 335, .inl f_s)), (h_undone, .inl (cI, 192, .inl a.2))]) (fun a => [(1, .int a.1), (0, .ref h0)]) (fun H locs ls => W p l e ({ frames := 0, cells := 0, slots := 0, locals := 0 } : Room) s m [.ref h0].toArray below meth c H locs 0 0 (MQ below (va_Qv (fun (u : va_W) => ∃ (Gh : Nat → Value) (y_undoMany : Int32) (g_undone : Nat → Int32), SAME [41] Fh Gh ∧ Gh 41 = .int y_undoMany ∧ IR 1 8 y_undoMany ∧ SG 1 4 0 11 g_undone ∧ SG 10 10 0 5 g_undone ∧ SG 25 28 0 11 g_undone ∧ SG 34 34 0 5 g_undone ∧ SG 49 52 0 11 g_undone ∧ SG 58 58 0 5 g_undone ∧ SG 73 76 0 11 g_undone ∧ SG 82 82 0 5 g_undone ∧ SG 97 100 0 11 g_undone ∧ SG 106 106 0 5 g_undone ∧ SG 121 124 0 11 g_undone ∧ SG 130 130 0 5 g_undone ∧ SG 145 148 0 11 g_undone ∧ SG 154 154 0 5 g_undone ∧ SG 169 172 0 11 g_undone ∧ SG 178 178 0 5 g_undone ∧ u = [(h0, .inr (10, vL 67 Gh)), (h_s, .inl (cI, 335, .inl f_s)), (h_undone, .inl (cI, 192, .inl g_undone))]) (PO D A) A) [.ref h0].toArray s 0 0 A) (F0 m 47 ls [])) ?_ (0, f_undone) ⟨(show 0 ≤ (0 : Int32).toInt ∧ (0 : Int32).toInt ≤ 24 by decide), s_undone_1, s_undone_10, s_undone_106, s_undone_121, s_undone_130, s_undone_145, s_undone_154, s_undone_169, s_undone_178, s_undone_25, s_undone_34, s_undone_49, s_undone_58, s_undone_73, s_undone_82, s_undone_97⟩ _ _ _ hP hD hS hl
      rintro ⟨u271, w272⟩ ⟨i273, i274, i275, i276, i277, i278, i279, i280, i281, i282, i283, i284, i285, i286, i287, i288, i289⟩ ih H locs ls hP hD hS hl
      have i273 : 0 ≤ u271.toInt ∧ u271.toInt ≤ 24 := i273
      have hP : va_P D vwCl [(h0, .inr (10, vL 67 Fh)), (h_s, .inl (cI, 335, .inl f_s)), (h_undone, .inl (cI, 192, .inl w272))] H := hP
      have hD : va_D A [(h0, .inr (10, vL 67 Fh)), (h_s, .inl (cI, 335, .inl f_s)), (h_undone, .inl (cI, 192, .inl w272))] := hD
      have hl : lv_has ls 2 [(1, .int u271), (0, .ref h0)] := hl
      refine lv_iload_n hx hb dX10_keeps_47 rfl (lv_at hl 0 rfl) ?_
      refine lv_bipush (v := 24) hx hb dX10_keeps_48 (by decide) ?_
      refine lv_icmp_ge (tgt := 82) hx hb dX10_keeps_50 (by decide) (fun c290 => ?_) (fun c290 => ?_)
      · have dc290 : 24 ≤ u271.toInt := le_i (a := 24) (b := u271.toInt) rfl rfl c290
        have k291 : 24 ≤ u271.toInt ∧ u271.toInt ≤ 24 := ⟨Int.le_trans (Int.le_refl _) dc290, i273.2⟩
        refine lv_aload_n hx hb dX10_keeps_82 rfl (lv_at hl 1 rfl) ?_
        refine lv_dup hx hb dX10_keeps_83 rfl ?_
        refine get_f (D := D) (ci := 10) (v := .int 5) (C := RX10) (T := TX10) (N := 67) hx hb hw inAX10 hown hK hP 0 rfl rfl 41 (by decide) (hw _ q_1302) (fun _ h9 => h9) n270 dX10_keeps_84 ?_
        refine lv_iconst (v := 1) hx hb dX10_keeps_87 (by decide) ?_
        refine lv_iadd hx hb dX10_keeps_88 ?_
        refine lv_ci (y := 6) (by decide +kernel) ?_
        refine put_f (D := D) (ci := 10) (v := .int 6) (ty := .int) (C := RX10) (T := TX10) (N := 67) hx hb hw inAX10 tyX10 tyX10_ok nmX10 hown hK hP hD hS 0 rfl rfl 41 (by decide) (hw _ q_1302) (fun _ h9 => h9) rfl (by decide +kernel) rfl rfl dX10_keeps_89 (fun H locs F292 eF292 hP hD hS => ?_)
        have hP : va_P D vwCl [(h0, .inr (10, vL 67 F292)), (h_s, .inl (cI, 335, .inl f_s)), (h_undone, .inl (cI, 192, .inl w272))] H := hP
        have hD : va_D A [(h0, .inr (10, vL 67 F292)), (h_s, .inl (cI, 335, .inl f_s)), (h_undone, .inl (cI, 192, .inl w272))] := hD
        exact ret_v hx hb hr hlocks hS hP hD dX10_keeps_92 (Nat.le_of_ble_eq_true rfl) (Nat.le_of_ble_eq_true rfl) ⟨F292, 6, w272, (SAME.up eF292 SAME.rf (by decide)), (get_eq eF292), (show 1 ≤ (6 : Int32).toInt ∧ (6 : Int32).toInt ≤ 8 by decide), i274, i275, i283, i284, i285, i286, i287, i288, i289, i276, i277, i278, i279, i280, i281, i282, rfl⟩
      · have dc290 : u271.toInt < 24 := nle_i (a := 24) (b := u271.toInt) rfl rfl c290
        have k293 : 0 ≤ u271.toInt ∧ u271.toInt ≤ 23 := ⟨i273.1, up_lt dc290 (Int.le_refl _) (by decide)⟩
        refine lv_aload_n hx hb dX10_keeps_53 rfl (lv_at hl 1 rfl) ?_
        refine get_f (D := D) (ci := 10) (v := .ref h_undone) (C := RX10) (T := TX10) (N := 67) hx hb hw inAX10 hown hK hP 0 rfl rfl 39 (by decide) (hw _ q_1300) (fun _ h9 => h9) e_undone dX10_keeps_54 ?_
        refine lv_bipush (v := 24) hx hb dX10_keeps_57 (by decide) ?_
        refine lv_aload_n hx hb dX10_keeps_59 rfl (lv_at hl 1 rfl) ?_
        refine get_f (D := D) (ci := 10) (v := .int 5) (C := RX10) (T := TX10) (N := 67) hx hb hw inAX10 hown hK hP 0 rfl rfl 41 (by decide) (hw _ q_1302) (fun _ h9 => h9) n270 dX10_keeps_60 ?_
        refine lv_imul hx hb dX10_keeps_63 ?_
        refine lv_ci (y := 120) (by decide +kernel) ?_
        refine lv_iload_n hx hb dX10_keeps_64 rfl (lv_at hl 0 rfl) ?_
        refine lv_iadd hx hb dX10_keeps_65 ?_
        refine lv_topi (fun v294 ev294 => ?_)
        have bv294 : v294.toInt = 120 + u271.toInt := by rw [ev294]; exact add_k rfl rfl ⟨Int.le_refl _, Int.le_refl _⟩ k293 (by decide)
        have k295 : 120 ≤ v294.toInt ∧ v294.toInt ≤ 143 := add_r bv294 ⟨Int.le_refl _, Int.le_refl _⟩ k293 (by decide)
        refine lv_aload_n hx hb dX10_keeps_66 rfl (lv_at hl 1 rfl) ?_
        refine get_f (D := D) (ci := 10) (v := .ref h_s) (C := RX10) (T := TX10) (N := 67) hx hb hw inAX10 hown hK hP 0 rfl rfl 6 (by decide) (hw _ q_1267) (fun _ h9 => h9) e_s dX10_keeps_67 ?_
        refine lv_bipush (v := 104) hx hb dX10_keeps_70 (by decide) ?_
        refine lv_iload_n hx hb dX10_keeps_72 rfl (lv_at hl 0 rfl) ?_
        refine lv_iadd hx hb dX10_keeps_73 ?_
        refine lv_topi (fun v296 ev296 => ?_)
        have bv296 : v296.toInt = 104 + u271.toInt := by rw [ev296]; exact add_k rfl rfl ⟨Int.le_refl _, Int.le_refl _⟩ k293 (by decide)
        have k297 : 104 ≤ v296.toInt ∧ v296.toInt ≤ 127 := add_r bv296 ⟨Int.le_refl _, Int.le_refl _⟩ k293 (by decide)
        refine va_iald hx hb hK hP 1 0 rfl rfl (ix_k k297 (by decide) (by decide)) dX10_keeps_74 ?_
        refine lv_topi (fun v298 ev298 => ?_)
        have r299 : IMP (105 ≤ v296.toInt → v296.toInt ≤ 108 → 0 ≤ v298.toInt ∧ v298.toInt ≤ 11) := IMP.mk (fun q1 q2 => by rw [ev298]; exact s_s_105.at _ q1 q2)
        have r300 : IMP (114 ≤ v296.toInt → v296.toInt ≤ 114 → 0 ≤ v298.toInt ∧ v298.toInt ≤ 5) := IMP.mk (fun q1 q2 => by rw [ev298]; exact s_s_114.at _ q1 q2)
        obtain ⟨g301, eg301⟩ : ∃ z : Nat → Int32, upd w272 v294.toNatClampNeg v298 = z := ⟨_, rfl⟩
        have r302 : SG 1 4 0 11 g301 := by rw [← eg301]; exact i274.up (Int.le_trans (by decide) k295.1) (Or.inr (Or.inl (dec_lt k295.1 (by decide))))
        have r303 : SG 10 10 0 5 g301 := by rw [← eg301]; exact i275.up (Int.le_trans (by decide) k295.1) (Or.inr (Or.inl (dec_lt k295.1 (by decide))))
        have r304 : SG 106 106 0 5 g301 := by rw [← eg301]; exact i276.up (Int.le_trans (by decide) k295.1) (Or.inr (Or.inl (dec_lt k295.1 (by decide))))
        have r305 : SG 121 124 0 11 g301 := by rw [← eg301]; exact i277.upI (Int.le_trans (by decide) k295.1) (fun q1 q2 => ⟨Int.le_trans (by decide) (r299.h (by omega) (by omega)).1, Int.le_trans (r299.h (by omega) (by omega)).2 (by decide)⟩)
        have r306 : SG 130 130 0 5 g301 := by rw [← eg301]; exact i278.upI (Int.le_trans (by decide) k295.1) (fun q1 q2 => ⟨Int.le_trans (by decide) (r300.h (by omega) (by omega)).1, Int.le_trans (r300.h (by omega) (by omega)).2 (by decide)⟩)
        have r307 : SG 145 148 0 11 g301 := by rw [← eg301]; exact i279.up (Int.le_trans (by decide) k295.1) (Or.inl (lt_dec k295.2 (by decide)))
        have r308 : SG 154 154 0 5 g301 := by rw [← eg301]; exact i280.up (Int.le_trans (by decide) k295.1) (Or.inl (lt_dec k295.2 (by decide)))
        have r309 : SG 169 172 0 11 g301 := by rw [← eg301]; exact i281.up (Int.le_trans (by decide) k295.1) (Or.inl (lt_dec k295.2 (by decide)))
        have r310 : SG 178 178 0 5 g301 := by rw [← eg301]; exact i282.up (Int.le_trans (by decide) k295.1) (Or.inl (lt_dec k295.2 (by decide)))
        have r311 : SG 25 28 0 11 g301 := by rw [← eg301]; exact i283.up (Int.le_trans (by decide) k295.1) (Or.inr (Or.inl (dec_lt k295.1 (by decide))))
        have r312 : SG 34 34 0 5 g301 := by rw [← eg301]; exact i284.up (Int.le_trans (by decide) k295.1) (Or.inr (Or.inl (dec_lt k295.1 (by decide))))
        have r313 : SG 49 52 0 11 g301 := by rw [← eg301]; exact i285.up (Int.le_trans (by decide) k295.1) (Or.inr (Or.inl (dec_lt k295.1 (by decide))))
        have r314 : SG 58 58 0 5 g301 := by rw [← eg301]; exact i286.up (Int.le_trans (by decide) k295.1) (Or.inr (Or.inl (dec_lt k295.1 (by decide))))
        have r315 : SG 73 76 0 11 g301 := by rw [← eg301]; exact i287.up (Int.le_trans (by decide) k295.1) (Or.inr (Or.inl (dec_lt k295.1 (by decide))))
        have r316 : SG 82 82 0 5 g301 := by rw [← eg301]; exact i288.up (Int.le_trans (by decide) k295.1) (Or.inr (Or.inl (dec_lt k295.1 (by decide))))
        have r317 : SG 97 100 0 11 g301 := by rw [← eg301]; exact i289.up (Int.le_trans (by decide) k295.1) (Or.inr (Or.inl (dec_lt k295.1 (by decide))))
        refine iast_g hx hb hK hP hD hS 2 0 rfl rfl (ix_k k295 (by decide) (by decide)) eg301 dX10_keeps_75 (fun H locs hP hD hS => ?_)
        have hP : va_P D vwCl [(h0, .inr (10, vL 67 Fh)), (h_s, .inl (cI, 335, .inl f_s)), (h_undone, .inl (cI, 192, .inl g301))] H := hP
        have hD : va_D A [(h0, .inr (10, vL 67 Fh)), (h_s, .inl (cI, 335, .inl f_s)), (h_undone, .inl (cI, 192, .inl g301))] := hD
        obtain ⟨v318, ev318⟩ : ∃ z : Int32, z = u271 + 1 := ⟨_, rfl⟩
        have bv318 : v318.toInt = u271.toInt + 1 := by rw [ev318]; exact add_k rfl rfl k293 ⟨Int.le_refl _, Int.le_refl _⟩ (by decide)
        have k319 : 1 ≤ v318.toInt ∧ v318.toInt ≤ 24 := add_r bv318 k293 ⟨Int.le_refl _, Int.le_refl _⟩ (by decide)
        refine lv_iinc (v := v318) (lv' := [(1, .int v318), (0, .ref h0)]) hx hb dX10_keeps_76 hl (k := 0) rfl (by rw [ev318]; rfl) (by decide) rfl (fun ls hl => ?_)
        refine lv_goto (tgt := 47) hx hb dX10_keeps_79 (by decide) ?_
        exact ih (v318, g301) ⟨(ir_wk k319 (by decide) (by decide)), r302, r303, r304, r305, r306, r307, r308, r309, r310, r311, r312, r313, r314, r315, r316, r317⟩ (by show (24 - v318.toInt).toNat < (24 - u271.toInt).toNat; omega) _ _ _ hP hD hS (lv_sub hl [0, 1] rfl)
    have dk268 : x_undoMany.toInt ≠ 5 := ne_i rfl rfl k268
    have k320 : 6 ≤ x_undoMany.toInt ∧ x_undoMany.toInt ≤ 7 := ⟨ne_lo dk268 k267.1 ⟨Int.le_refl _, Int.le_refl _⟩ (by decide), k267.2⟩
    by_cases k321 : x_undoMany = 6
    · have dk321 : x_undoMany.toInt = 6 := eq_i rfl rfl k321
      have k322 : 6 ≤ x_undoMany.toInt ∧ x_undoMany.toInt ≤ 6 := ⟨k320.1, Int.le_trans (Int.le_of_eq dk321) (Int.le_refl _)⟩
      have n323 : Fh 41 = .int 6 := by rw [e_undoMany]; exact congrArg Value.int k321
      refine lv_iconst (v := 0) hx hb dX10_keeps_45 (by decide) ?_
      refine lv_istore_n (lv' := [(1, .int 0), (0, .ref h0)]) hx hb dX10_keeps_46 rfl hl (by decide) rfl (fun ls hl => ?_)
      refine mloop (α := (Int32) × (Nat → Int32)) (nL := 2) (D := D) (A := A) (H0 := s.heap) (fun a => (24 - a.1.toInt).toNat) (fun a => IR 0 24 a.1 ∧ SG 1 4 0 11 a.2 ∧ SG 10 10 0 5 a.2 ∧ SG 106 106 0 5 a.2 ∧ SG 121 124 0 11 a.2 ∧ SG 130 130 0 5 a.2 ∧ SG 145 148 0 11 a.2 ∧ SG 154 154 0 5 a.2 ∧ SG 169 172 0 11 a.2 ∧ SG 178 178 0 5 a.2 ∧ SG 25 28 0 11 a.2 ∧ SG 34 34 0 5 a.2 ∧ SG 49 52 0 11 a.2 ∧ SG 58 58 0 5 a.2 ∧ SG 73 76 0 11 a.2 ∧ SG 82 82 0 5 a.2 ∧ SG 97 100 0 11 a.2) (fun a => [(h0, .inr (10, vL 67 Fh)), (h_s, .inl (cI, 335, .inl f_s)), (h_undone, .inl (cI, 192, .inl a.2))]) (fun a => [(1, .int a.1), (0, .ref h0)]) (fun H locs ls => W p l e ({ frames := 0, cells := 0, slots := 0, locals := 0 } : Room) s m [.ref h0].toArray below meth c H locs 0 0 (MQ below (va_Qv (fun (u : va_W) => ∃ (Gh : Nat → Value) (y_undoMany : Int32) (g_undone : Nat → Int32), SAME [41] Fh Gh ∧ Gh 41 = .int y_undoMany ∧ IR 1 8 y_undoMany ∧ SG 1 4 0 11 g_undone ∧ SG 10 10 0 5 g_undone ∧ SG 25 28 0 11 g_undone ∧ SG 34 34 0 5 g_undone ∧ SG 49 52 0 11 g_undone ∧ SG 58 58 0 5 g_undone ∧ SG 73 76 0 11 g_undone ∧ SG 82 82 0 5 g_undone ∧ SG 97 100 0 11 g_undone ∧ SG 106 106 0 5 g_undone ∧ SG 121 124 0 11 g_undone ∧ SG 130 130 0 5 g_undone ∧ SG 145 148 0 11 g_undone ∧ SG 154 154 0 5 g_undone ∧ SG 169 172 0 11 g_undone ∧ SG 178 178 0 5 g_undone ∧ u = [(h0, .inr (10, vL 67 Gh)), (h_s, .inl (cI, 335, .inl f_s)), (h_undone, .inl (cI, 192, .inl g_undone))]) (PO D A) A) [.ref h0].toArray s 0 0 A) (F0 m 47 ls [])) ?_ (0, f_undone) ⟨(show 0 ≤ (0 : Int32).toInt ∧ (0 : Int32).toInt ≤ 24 by decide), s_undone_1, s_undone_10, s_undone_106, s_undone_121, s_undone_130, s_undone_145, s_undone_154, s_undone_169, s_undone_178, s_undone_25, s_undone_34, s_undone_49, s_undone_58, s_undone_73, s_undone_82, s_undone_97⟩ _ _ _ hP hD hS hl
      rintro ⟨u324, w325⟩ ⟨i326, i327, i328, i329, i330, i331, i332, i333, i334, i335, i336, i337, i338, i339, i340, i341, i342⟩ ih H locs ls hP hD hS hl
      have i326 : 0 ≤ u324.toInt ∧ u324.toInt ≤ 24 := i326
      have hP : va_P D vwCl [(h0, .inr (10, vL 67 Fh)), (h_s, .inl (cI, 335, .inl f_s)), (h_undone, .inl (cI, 192, .inl w325))] H := hP
      have hD : va_D A [(h0, .inr (10, vL 67 Fh)), (h_s, .inl (cI, 335, .inl f_s)), (h_undone, .inl (cI, 192, .inl w325))] := hD
      have hl : lv_has ls 2 [(1, .int u324), (0, .ref h0)] := hl
      refine lv_iload_n hx hb dX10_keeps_47 rfl (lv_at hl 0 rfl) ?_
      refine lv_bipush (v := 24) hx hb dX10_keeps_48 (by decide) ?_
      refine lv_icmp_ge (tgt := 82) hx hb dX10_keeps_50 (by decide) (fun c343 => ?_) (fun c343 => ?_)
      · have dc343 : 24 ≤ u324.toInt := le_i (a := 24) (b := u324.toInt) rfl rfl c343
        have k344 : 24 ≤ u324.toInt ∧ u324.toInt ≤ 24 := ⟨Int.le_trans (Int.le_refl _) dc343, i326.2⟩
        refine lv_aload_n hx hb dX10_keeps_82 rfl (lv_at hl 1 rfl) ?_
        refine lv_dup hx hb dX10_keeps_83 rfl ?_
        refine get_f (D := D) (ci := 10) (v := .int 6) (C := RX10) (T := TX10) (N := 67) hx hb hw inAX10 hown hK hP 0 rfl rfl 41 (by decide) (hw _ q_1302) (fun _ h9 => h9) n323 dX10_keeps_84 ?_
        refine lv_iconst (v := 1) hx hb dX10_keeps_87 (by decide) ?_
        refine lv_iadd hx hb dX10_keeps_88 ?_
        refine lv_ci (y := 7) (by decide +kernel) ?_
        refine put_f (D := D) (ci := 10) (v := .int 7) (ty := .int) (C := RX10) (T := TX10) (N := 67) hx hb hw inAX10 tyX10 tyX10_ok nmX10 hown hK hP hD hS 0 rfl rfl 41 (by decide) (hw _ q_1302) (fun _ h9 => h9) rfl (by decide +kernel) rfl rfl dX10_keeps_89 (fun H locs F345 eF345 hP hD hS => ?_)
        have hP : va_P D vwCl [(h0, .inr (10, vL 67 F345)), (h_s, .inl (cI, 335, .inl f_s)), (h_undone, .inl (cI, 192, .inl w325))] H := hP
        have hD : va_D A [(h0, .inr (10, vL 67 F345)), (h_s, .inl (cI, 335, .inl f_s)), (h_undone, .inl (cI, 192, .inl w325))] := hD
        exact ret_v hx hb hr hlocks hS hP hD dX10_keeps_92 (Nat.le_of_ble_eq_true rfl) (Nat.le_of_ble_eq_true rfl) ⟨F345, 7, w325, (SAME.up eF345 SAME.rf (by decide)), (get_eq eF345), (show 1 ≤ (7 : Int32).toInt ∧ (7 : Int32).toInt ≤ 8 by decide), i327, i328, i336, i337, i338, i339, i340, i341, i342, i329, i330, i331, i332, i333, i334, i335, rfl⟩
      · have dc343 : u324.toInt < 24 := nle_i (a := 24) (b := u324.toInt) rfl rfl c343
        have k346 : 0 ≤ u324.toInt ∧ u324.toInt ≤ 23 := ⟨i326.1, up_lt dc343 (Int.le_refl _) (by decide)⟩
        refine lv_aload_n hx hb dX10_keeps_53 rfl (lv_at hl 1 rfl) ?_
        refine get_f (D := D) (ci := 10) (v := .ref h_undone) (C := RX10) (T := TX10) (N := 67) hx hb hw inAX10 hown hK hP 0 rfl rfl 39 (by decide) (hw _ q_1300) (fun _ h9 => h9) e_undone dX10_keeps_54 ?_
        refine lv_bipush (v := 24) hx hb dX10_keeps_57 (by decide) ?_
        refine lv_aload_n hx hb dX10_keeps_59 rfl (lv_at hl 1 rfl) ?_
        refine get_f (D := D) (ci := 10) (v := .int 6) (C := RX10) (T := TX10) (N := 67) hx hb hw inAX10 hown hK hP 0 rfl rfl 41 (by decide) (hw _ q_1302) (fun _ h9 => h9) n323 dX10_keeps_60 ?_
        refine lv_imul hx hb dX10_keeps_63 ?_
        refine lv_ci (y := 144) (by decide +kernel) ?_
        refine lv_iload_n hx hb dX10_keeps_64 rfl (lv_at hl 0 rfl) ?_
        refine lv_iadd hx hb dX10_keeps_65 ?_
        refine lv_topi (fun v347 ev347 => ?_)
        have bv347 : v347.toInt = 144 + u324.toInt := by rw [ev347]; exact add_k rfl rfl ⟨Int.le_refl _, Int.le_refl _⟩ k346 (by decide)
        have k348 : 144 ≤ v347.toInt ∧ v347.toInt ≤ 167 := add_r bv347 ⟨Int.le_refl _, Int.le_refl _⟩ k346 (by decide)
        refine lv_aload_n hx hb dX10_keeps_66 rfl (lv_at hl 1 rfl) ?_
        refine get_f (D := D) (ci := 10) (v := .ref h_s) (C := RX10) (T := TX10) (N := 67) hx hb hw inAX10 hown hK hP 0 rfl rfl 6 (by decide) (hw _ q_1267) (fun _ h9 => h9) e_s dX10_keeps_67 ?_
        refine lv_bipush (v := 104) hx hb dX10_keeps_70 (by decide) ?_
        refine lv_iload_n hx hb dX10_keeps_72 rfl (lv_at hl 0 rfl) ?_
        refine lv_iadd hx hb dX10_keeps_73 ?_
        refine lv_topi (fun v349 ev349 => ?_)
        have bv349 : v349.toInt = 104 + u324.toInt := by rw [ev349]; exact add_k rfl rfl ⟨Int.le_refl _, Int.le_refl _⟩ k346 (by decide)
        have k350 : 104 ≤ v349.toInt ∧ v349.toInt ≤ 127 := add_r bv349 ⟨Int.le_refl _, Int.le_refl _⟩ k346 (by decide)
        refine va_iald hx hb hK hP 1 0 rfl rfl (ix_k k350 (by decide) (by decide)) dX10_keeps_74 ?_
        refine lv_topi (fun v351 ev351 => ?_)
        have r352 : IMP (105 ≤ v349.toInt → v349.toInt ≤ 108 → 0 ≤ v351.toInt ∧ v351.toInt ≤ 11) := IMP.mk (fun q1 q2 => by rw [ev351]; exact s_s_105.at _ q1 q2)
        have r353 : IMP (114 ≤ v349.toInt → v349.toInt ≤ 114 → 0 ≤ v351.toInt ∧ v351.toInt ≤ 5) := IMP.mk (fun q1 q2 => by rw [ev351]; exact s_s_114.at _ q1 q2)
        obtain ⟨g354, eg354⟩ : ∃ z : Nat → Int32, upd w325 v347.toNatClampNeg v351 = z := ⟨_, rfl⟩
        have r355 : SG 1 4 0 11 g354 := by rw [← eg354]; exact i327.up (Int.le_trans (by decide) k348.1) (Or.inr (Or.inl (dec_lt k348.1 (by decide))))
        have r356 : SG 10 10 0 5 g354 := by rw [← eg354]; exact i328.up (Int.le_trans (by decide) k348.1) (Or.inr (Or.inl (dec_lt k348.1 (by decide))))
        have r357 : SG 106 106 0 5 g354 := by rw [← eg354]; exact i329.up (Int.le_trans (by decide) k348.1) (Or.inr (Or.inl (dec_lt k348.1 (by decide))))
        have r358 : SG 121 124 0 11 g354 := by rw [← eg354]; exact i330.up (Int.le_trans (by decide) k348.1) (Or.inr (Or.inl (dec_lt k348.1 (by decide))))
        have r359 : SG 130 130 0 5 g354 := by rw [← eg354]; exact i331.up (Int.le_trans (by decide) k348.1) (Or.inr (Or.inl (dec_lt k348.1 (by decide))))
        have r360 : SG 145 148 0 11 g354 := by rw [← eg354]; exact i332.upI (Int.le_trans (by decide) k348.1) (fun q1 q2 => ⟨Int.le_trans (by decide) (r352.h (by omega) (by omega)).1, Int.le_trans (r352.h (by omega) (by omega)).2 (by decide)⟩)
        have r361 : SG 154 154 0 5 g354 := by rw [← eg354]; exact i333.upI (Int.le_trans (by decide) k348.1) (fun q1 q2 => ⟨Int.le_trans (by decide) (r353.h (by omega) (by omega)).1, Int.le_trans (r353.h (by omega) (by omega)).2 (by decide)⟩)
        have r362 : SG 169 172 0 11 g354 := by rw [← eg354]; exact i334.up (Int.le_trans (by decide) k348.1) (Or.inl (lt_dec k348.2 (by decide)))
        have r363 : SG 178 178 0 5 g354 := by rw [← eg354]; exact i335.up (Int.le_trans (by decide) k348.1) (Or.inl (lt_dec k348.2 (by decide)))
        have r364 : SG 25 28 0 11 g354 := by rw [← eg354]; exact i336.up (Int.le_trans (by decide) k348.1) (Or.inr (Or.inl (dec_lt k348.1 (by decide))))
        have r365 : SG 34 34 0 5 g354 := by rw [← eg354]; exact i337.up (Int.le_trans (by decide) k348.1) (Or.inr (Or.inl (dec_lt k348.1 (by decide))))
        have r366 : SG 49 52 0 11 g354 := by rw [← eg354]; exact i338.up (Int.le_trans (by decide) k348.1) (Or.inr (Or.inl (dec_lt k348.1 (by decide))))
        have r367 : SG 58 58 0 5 g354 := by rw [← eg354]; exact i339.up (Int.le_trans (by decide) k348.1) (Or.inr (Or.inl (dec_lt k348.1 (by decide))))
        have r368 : SG 73 76 0 11 g354 := by rw [← eg354]; exact i340.up (Int.le_trans (by decide) k348.1) (Or.inr (Or.inl (dec_lt k348.1 (by decide))))
        have r369 : SG 82 82 0 5 g354 := by rw [← eg354]; exact i341.up (Int.le_trans (by decide) k348.1) (Or.inr (Or.inl (dec_lt k348.1 (by decide))))
        have r370 : SG 97 100 0 11 g354 := by rw [← eg354]; exact i342.up (Int.le_trans (by decide) k348.1) (Or.inr (Or.inl (dec_lt k348.1 (by decide))))
        refine iast_g hx hb hK hP hD hS 2 0 rfl rfl (ix_k k348 (by decide) (by decide)) eg354 dX10_keeps_75 (fun H locs hP hD hS => ?_)
        have hP : va_P D vwCl [(h0, .inr (10, vL 67 Fh)), (h_s, .inl (cI, 335, .inl f_s)), (h_undone, .inl (cI, 192, .inl g354))] H := hP
        have hD : va_D A [(h0, .inr (10, vL 67 Fh)), (h_s, .inl (cI, 335, .inl f_s)), (h_undone, .inl (cI, 192, .inl g354))] := hD
        obtain ⟨v371, ev371⟩ : ∃ z : Int32, z = u324 + 1 := ⟨_, rfl⟩
        have bv371 : v371.toInt = u324.toInt + 1 := by rw [ev371]; exact add_k rfl rfl k346 ⟨Int.le_refl _, Int.le_refl _⟩ (by decide)
        have k372 : 1 ≤ v371.toInt ∧ v371.toInt ≤ 24 := add_r bv371 k346 ⟨Int.le_refl _, Int.le_refl _⟩ (by decide)
        refine lv_iinc (v := v371) (lv' := [(1, .int v371), (0, .ref h0)]) hx hb dX10_keeps_76 hl (k := 0) rfl (by rw [ev371]; rfl) (by decide) rfl (fun ls hl => ?_)
        refine lv_goto (tgt := 47) hx hb dX10_keeps_79 (by decide) ?_
        exact ih (v371, g354) ⟨(ir_wk k372 (by decide) (by decide)), r355, r356, r357, r358, r359, r360, r361, r362, r363, r364, r365, r366, r367, r368, r369, r370⟩ (by show (24 - v371.toInt).toNat < (24 - u324.toInt).toNat; omega) _ _ _ hP hD hS (lv_sub hl [0, 1] rfl)
    have dk321 : x_undoMany.toInt ≠ 6 := ne_i rfl rfl k321
    have k373 : 7 ≤ x_undoMany.toInt ∧ x_undoMany.toInt ≤ 7 := ⟨ne_lo dk321 k320.1 ⟨Int.le_refl _, Int.le_refl _⟩ (by decide), k320.2⟩
    have k374 : x_undoMany = 7 := Int32.toInt_inj.mp (show x_undoMany.toInt = 7 by omega)
    have dk374 : x_undoMany.toInt = 7 := eq_i rfl rfl k374
    have n375 : Fh 41 = .int 7 := by rw [e_undoMany]; exact congrArg Value.int k374
    refine lv_iconst (v := 0) hx hb dX10_keeps_45 (by decide) ?_
    refine lv_istore_n (lv' := [(1, .int 0), (0, .ref h0)]) hx hb dX10_keeps_46 rfl hl (by decide) rfl (fun ls hl => ?_)
    refine mloop (α := (Int32) × (Nat → Int32)) (nL := 2) (D := D) (A := A) (H0 := s.heap) (fun a => (24 - a.1.toInt).toNat) (fun a => IR 0 24 a.1 ∧ SG 1 4 0 11 a.2 ∧ SG 10 10 0 5 a.2 ∧ SG 106 106 0 5 a.2 ∧ SG 121 124 0 11 a.2 ∧ SG 130 130 0 5 a.2 ∧ SG 145 148 0 11 a.2 ∧ SG 154 154 0 5 a.2 ∧ SG 169 172 0 11 a.2 ∧ SG 178 178 0 5 a.2 ∧ SG 25 28 0 11 a.2 ∧ SG 34 34 0 5 a.2 ∧ SG 49 52 0 11 a.2 ∧ SG 58 58 0 5 a.2 ∧ SG 73 76 0 11 a.2 ∧ SG 82 82 0 5 a.2 ∧ SG 97 100 0 11 a.2) (fun a => [(h0, .inr (10, vL 67 Fh)), (h_s, .inl (cI, 335, .inl f_s)), (h_undone, .inl (cI, 192, .inl a.2))]) (fun a => [(1, .int a.1), (0, .ref h0)]) (fun H locs ls => W p l e ({ frames := 0, cells := 0, slots := 0, locals := 0 } : Room) s m [.ref h0].toArray below meth c H locs 0 0 (MQ below (va_Qv (fun (u : va_W) => ∃ (Gh : Nat → Value) (y_undoMany : Int32) (g_undone : Nat → Int32), SAME [41] Fh Gh ∧ Gh 41 = .int y_undoMany ∧ IR 1 8 y_undoMany ∧ SG 1 4 0 11 g_undone ∧ SG 10 10 0 5 g_undone ∧ SG 25 28 0 11 g_undone ∧ SG 34 34 0 5 g_undone ∧ SG 49 52 0 11 g_undone ∧ SG 58 58 0 5 g_undone ∧ SG 73 76 0 11 g_undone ∧ SG 82 82 0 5 g_undone ∧ SG 97 100 0 11 g_undone ∧ SG 106 106 0 5 g_undone ∧ SG 121 124 0 11 g_undone ∧ SG 130 130 0 5 g_undone ∧ SG 145 148 0 11 g_undone ∧ SG 154 154 0 5 g_undone ∧ SG 169 172 0 11 g_undone ∧ SG 178 178 0 5 g_undone ∧ u = [(h0, .inr (10, vL 67 Gh)), (h_s, .inl (cI, 335, .inl f_s)), (h_undone, .inl (cI, 192, .inl g_undone))]) (PO D A) A) [.ref h0].toArray s 0 0 A) (F0 m 47 ls [])) ?_ (0, f_undone) ⟨(show 0 ≤ (0 : Int32).toInt ∧ (0 : Int32).toInt ≤ 24 by decide), s_undone_1, s_undone_10, s_undone_106, s_undone_121, s_undone_130, s_undone_145, s_undone_154, s_undone_169, s_undone_178, s_undone_25, s_undone_34, s_undone_49, s_undone_58, s_undone_73, s_undone_82, s_undone_97⟩ _ _ _ hP hD hS hl
    rintro ⟨u376, w377⟩ ⟨i378, i379, i380, i381, i382, i383, i384, i385, i386, i387, i388, i389, i390, i391, i392, i393, i394⟩ ih H locs ls hP hD hS hl
    have i378 : 0 ≤ u376.toInt ∧ u376.toInt ≤ 24 := i378
    have hP : va_P D vwCl [(h0, .inr (10, vL 67 Fh)), (h_s, .inl (cI, 335, .inl f_s)), (h_undone, .inl (cI, 192, .inl w377))] H := hP
    have hD : va_D A [(h0, .inr (10, vL 67 Fh)), (h_s, .inl (cI, 335, .inl f_s)), (h_undone, .inl (cI, 192, .inl w377))] := hD
    have hl : lv_has ls 2 [(1, .int u376), (0, .ref h0)] := hl
    refine lv_iload_n hx hb dX10_keeps_47 rfl (lv_at hl 0 rfl) ?_
    refine lv_bipush (v := 24) hx hb dX10_keeps_48 (by decide) ?_
    refine lv_icmp_ge (tgt := 82) hx hb dX10_keeps_50 (by decide) (fun c395 => ?_) (fun c395 => ?_)
    · have dc395 : 24 ≤ u376.toInt := le_i (a := 24) (b := u376.toInt) rfl rfl c395
      have k396 : 24 ≤ u376.toInt ∧ u376.toInt ≤ 24 := ⟨Int.le_trans (Int.le_refl _) dc395, i378.2⟩
      refine lv_aload_n hx hb dX10_keeps_82 rfl (lv_at hl 1 rfl) ?_
      refine lv_dup hx hb dX10_keeps_83 rfl ?_
      refine get_f (D := D) (ci := 10) (v := .int 7) (C := RX10) (T := TX10) (N := 67) hx hb hw inAX10 hown hK hP 0 rfl rfl 41 (by decide) (hw _ q_1302) (fun _ h9 => h9) n375 dX10_keeps_84 ?_
      refine lv_iconst (v := 1) hx hb dX10_keeps_87 (by decide) ?_
      refine lv_iadd hx hb dX10_keeps_88 ?_
      refine lv_ci (y := 8) (by decide +kernel) ?_
      refine put_f (D := D) (ci := 10) (v := .int 8) (ty := .int) (C := RX10) (T := TX10) (N := 67) hx hb hw inAX10 tyX10 tyX10_ok nmX10 hown hK hP hD hS 0 rfl rfl 41 (by decide) (hw _ q_1302) (fun _ h9 => h9) rfl (by decide +kernel) rfl rfl dX10_keeps_89 (fun H locs F397 eF397 hP hD hS => ?_)
      have hP : va_P D vwCl [(h0, .inr (10, vL 67 F397)), (h_s, .inl (cI, 335, .inl f_s)), (h_undone, .inl (cI, 192, .inl w377))] H := hP
      have hD : va_D A [(h0, .inr (10, vL 67 F397)), (h_s, .inl (cI, 335, .inl f_s)), (h_undone, .inl (cI, 192, .inl w377))] := hD
      exact ret_v hx hb hr hlocks hS hP hD dX10_keeps_92 (Nat.le_of_ble_eq_true rfl) (Nat.le_of_ble_eq_true rfl) ⟨F397, 8, w377, (SAME.up eF397 SAME.rf (by decide)), (get_eq eF397), (show 1 ≤ (8 : Int32).toInt ∧ (8 : Int32).toInt ≤ 8 by decide), i379, i380, i388, i389, i390, i391, i392, i393, i394, i381, i382, i383, i384, i385, i386, i387, rfl⟩
    · have dc395 : u376.toInt < 24 := nle_i (a := 24) (b := u376.toInt) rfl rfl c395
      have k398 : 0 ≤ u376.toInt ∧ u376.toInt ≤ 23 := ⟨i378.1, up_lt dc395 (Int.le_refl _) (by decide)⟩
      refine lv_aload_n hx hb dX10_keeps_53 rfl (lv_at hl 1 rfl) ?_
      refine get_f (D := D) (ci := 10) (v := .ref h_undone) (C := RX10) (T := TX10) (N := 67) hx hb hw inAX10 hown hK hP 0 rfl rfl 39 (by decide) (hw _ q_1300) (fun _ h9 => h9) e_undone dX10_keeps_54 ?_
      refine lv_bipush (v := 24) hx hb dX10_keeps_57 (by decide) ?_
      refine lv_aload_n hx hb dX10_keeps_59 rfl (lv_at hl 1 rfl) ?_
      refine get_f (D := D) (ci := 10) (v := .int 7) (C := RX10) (T := TX10) (N := 67) hx hb hw inAX10 hown hK hP 0 rfl rfl 41 (by decide) (hw _ q_1302) (fun _ h9 => h9) n375 dX10_keeps_60 ?_
      refine lv_imul hx hb dX10_keeps_63 ?_
      refine lv_ci (y := 168) (by decide +kernel) ?_
      refine lv_iload_n hx hb dX10_keeps_64 rfl (lv_at hl 0 rfl) ?_
      refine lv_iadd hx hb dX10_keeps_65 ?_
      refine lv_topi (fun v399 ev399 => ?_)
      have bv399 : v399.toInt = 168 + u376.toInt := by rw [ev399]; exact add_k rfl rfl ⟨Int.le_refl _, Int.le_refl _⟩ k398 (by decide)
      have k400 : 168 ≤ v399.toInt ∧ v399.toInt ≤ 191 := add_r bv399 ⟨Int.le_refl _, Int.le_refl _⟩ k398 (by decide)
      refine lv_aload_n hx hb dX10_keeps_66 rfl (lv_at hl 1 rfl) ?_
      refine get_f (D := D) (ci := 10) (v := .ref h_s) (C := RX10) (T := TX10) (N := 67) hx hb hw inAX10 hown hK hP 0 rfl rfl 6 (by decide) (hw _ q_1267) (fun _ h9 => h9) e_s dX10_keeps_67 ?_
      refine lv_bipush (v := 104) hx hb dX10_keeps_70 (by decide) ?_
      refine lv_iload_n hx hb dX10_keeps_72 rfl (lv_at hl 0 rfl) ?_
      refine lv_iadd hx hb dX10_keeps_73 ?_
      refine lv_topi (fun v401 ev401 => ?_)
      have bv401 : v401.toInt = 104 + u376.toInt := by rw [ev401]; exact add_k rfl rfl ⟨Int.le_refl _, Int.le_refl _⟩ k398 (by decide)
      have k402 : 104 ≤ v401.toInt ∧ v401.toInt ≤ 127 := add_r bv401 ⟨Int.le_refl _, Int.le_refl _⟩ k398 (by decide)
      refine va_iald hx hb hK hP 1 0 rfl rfl (ix_k k402 (by decide) (by decide)) dX10_keeps_74 ?_
      refine lv_topi (fun v403 ev403 => ?_)
      have r404 : IMP (105 ≤ v401.toInt → v401.toInt ≤ 108 → 0 ≤ v403.toInt ∧ v403.toInt ≤ 11) := IMP.mk (fun q1 q2 => by rw [ev403]; exact s_s_105.at _ q1 q2)
      have r405 : IMP (114 ≤ v401.toInt → v401.toInt ≤ 114 → 0 ≤ v403.toInt ∧ v403.toInt ≤ 5) := IMP.mk (fun q1 q2 => by rw [ev403]; exact s_s_114.at _ q1 q2)
      obtain ⟨g406, eg406⟩ : ∃ z : Nat → Int32, upd w377 v399.toNatClampNeg v403 = z := ⟨_, rfl⟩
      have r407 : SG 1 4 0 11 g406 := by rw [← eg406]; exact i379.up (Int.le_trans (by decide) k400.1) (Or.inr (Or.inl (dec_lt k400.1 (by decide))))
      have r408 : SG 10 10 0 5 g406 := by rw [← eg406]; exact i380.up (Int.le_trans (by decide) k400.1) (Or.inr (Or.inl (dec_lt k400.1 (by decide))))
      have r409 : SG 106 106 0 5 g406 := by rw [← eg406]; exact i381.up (Int.le_trans (by decide) k400.1) (Or.inr (Or.inl (dec_lt k400.1 (by decide))))
      have r410 : SG 121 124 0 11 g406 := by rw [← eg406]; exact i382.up (Int.le_trans (by decide) k400.1) (Or.inr (Or.inl (dec_lt k400.1 (by decide))))
      have r411 : SG 130 130 0 5 g406 := by rw [← eg406]; exact i383.up (Int.le_trans (by decide) k400.1) (Or.inr (Or.inl (dec_lt k400.1 (by decide))))
      have r412 : SG 145 148 0 11 g406 := by rw [← eg406]; exact i384.up (Int.le_trans (by decide) k400.1) (Or.inr (Or.inl (dec_lt k400.1 (by decide))))
      have r413 : SG 154 154 0 5 g406 := by rw [← eg406]; exact i385.up (Int.le_trans (by decide) k400.1) (Or.inr (Or.inl (dec_lt k400.1 (by decide))))
      have r414 : SG 169 172 0 11 g406 := by rw [← eg406]; exact i386.upI (Int.le_trans (by decide) k400.1) (fun q1 q2 => ⟨Int.le_trans (by decide) (r404.h (by omega) (by omega)).1, Int.le_trans (r404.h (by omega) (by omega)).2 (by decide)⟩)
      have r415 : SG 178 178 0 5 g406 := by rw [← eg406]; exact i387.upI (Int.le_trans (by decide) k400.1) (fun q1 q2 => ⟨Int.le_trans (by decide) (r405.h (by omega) (by omega)).1, Int.le_trans (r405.h (by omega) (by omega)).2 (by decide)⟩)
      have r416 : SG 25 28 0 11 g406 := by rw [← eg406]; exact i388.up (Int.le_trans (by decide) k400.1) (Or.inr (Or.inl (dec_lt k400.1 (by decide))))
      have r417 : SG 34 34 0 5 g406 := by rw [← eg406]; exact i389.up (Int.le_trans (by decide) k400.1) (Or.inr (Or.inl (dec_lt k400.1 (by decide))))
      have r418 : SG 49 52 0 11 g406 := by rw [← eg406]; exact i390.up (Int.le_trans (by decide) k400.1) (Or.inr (Or.inl (dec_lt k400.1 (by decide))))
      have r419 : SG 58 58 0 5 g406 := by rw [← eg406]; exact i391.up (Int.le_trans (by decide) k400.1) (Or.inr (Or.inl (dec_lt k400.1 (by decide))))
      have r420 : SG 73 76 0 11 g406 := by rw [← eg406]; exact i392.up (Int.le_trans (by decide) k400.1) (Or.inr (Or.inl (dec_lt k400.1 (by decide))))
      have r421 : SG 82 82 0 5 g406 := by rw [← eg406]; exact i393.up (Int.le_trans (by decide) k400.1) (Or.inr (Or.inl (dec_lt k400.1 (by decide))))
      have r422 : SG 97 100 0 11 g406 := by rw [← eg406]; exact i394.up (Int.le_trans (by decide) k400.1) (Or.inr (Or.inl (dec_lt k400.1 (by decide))))
      refine iast_g hx hb hK hP hD hS 2 0 rfl rfl (ix_k k400 (by decide) (by decide)) eg406 dX10_keeps_75 (fun H locs hP hD hS => ?_)
      have hP : va_P D vwCl [(h0, .inr (10, vL 67 Fh)), (h_s, .inl (cI, 335, .inl f_s)), (h_undone, .inl (cI, 192, .inl g406))] H := hP
      have hD : va_D A [(h0, .inr (10, vL 67 Fh)), (h_s, .inl (cI, 335, .inl f_s)), (h_undone, .inl (cI, 192, .inl g406))] := hD
      obtain ⟨v423, ev423⟩ : ∃ z : Int32, z = u376 + 1 := ⟨_, rfl⟩
      have bv423 : v423.toInt = u376.toInt + 1 := by rw [ev423]; exact add_k rfl rfl k398 ⟨Int.le_refl _, Int.le_refl _⟩ (by decide)
      have k424 : 1 ≤ v423.toInt ∧ v423.toInt ≤ 24 := add_r bv423 k398 ⟨Int.le_refl _, Int.le_refl _⟩ (by decide)
      refine lv_iinc (v := v423) (lv' := [(1, .int v423), (0, .ref h0)]) hx hb dX10_keeps_76 hl (k := 0) rfl (by rw [ev423]; rfl) (by decide) rfl (fun ls hl => ?_)
      refine lv_goto (tgt := 47) hx hb dX10_keeps_79 (by decide) ?_
      exact ih (v423, g406) ⟨(ir_wk k424 (by decide) (by decide)), r407, r408, r409, r410, r411, r412, r413, r414, r415, r416, r417, r418, r419, r420, r421, r422⟩ (by show (24 - v423.toInt).toNat < (24 - u376.toInt).toNat; omega) _ _ _ hP hD hS (lv_sub hl [0, 1] rfl)
  · have dc1 : x_undoMany.toInt = 8 := eq_i (a := x_undoMany.toInt) (b := 8) rfl rfl c1
    have k425 : 8 ≤ x_undoMany.toInt ∧ x_undoMany.toInt ≤ 8 := ⟨Int.le_trans (Int.le_refl _) (Int.le_of_eq dc1.symm), i_x_undoMany.2⟩
    refine lv_iconst (v := 0) hx hb dX10_keeps_9 (by decide) ?_
    refine lv_istore_n (lv' := [(1, .int 0), (0, .ref h0)]) hx hb dX10_keeps_10 rfl hl (by decide) rfl (fun ls hl => ?_)
    refine mloop (α := (Int32) × (Nat → Int32)) (nL := 2) (D := D) (A := A) (H0 := s.heap) (fun a => (168 - a.1.toInt).toNat) (fun a => IR 0 168 a.1 ∧ SG 1 4 0 11 a.2 ∧ SG 10 10 0 5 a.2 ∧ SG 106 106 0 5 a.2 ∧ SG 121 124 0 11 a.2 ∧ SG 130 130 0 5 a.2 ∧ SG 145 148 0 11 a.2 ∧ SG 154 154 0 5 a.2 ∧ SG 169 172 0 11 a.2 ∧ SG 178 178 0 5 a.2 ∧ SG 25 28 0 11 a.2 ∧ SG 34 34 0 5 a.2 ∧ SG 49 52 0 11 a.2 ∧ SG 58 58 0 5 a.2 ∧ SG 73 76 0 11 a.2 ∧ SG 82 82 0 5 a.2 ∧ SG 97 100 0 11 a.2) (fun a => [(h0, .inr (10, vL 67 Fh)), (h_s, .inl (cI, 335, .inl f_s)), (h_undone, .inl (cI, 192, .inl a.2))]) (fun a => [(1, .int a.1), (0, .ref h0)]) (fun H locs ls => W p l e ({ frames := 0, cells := 0, slots := 0, locals := 0 } : Room) s m [.ref h0].toArray below meth c H locs 0 0 (MQ below (va_Qv (fun (u : va_W) => ∃ (Gh : Nat → Value) (y_undoMany : Int32) (g_undone : Nat → Int32), SAME [41] Fh Gh ∧ Gh 41 = .int y_undoMany ∧ IR 1 8 y_undoMany ∧ SG 1 4 0 11 g_undone ∧ SG 10 10 0 5 g_undone ∧ SG 25 28 0 11 g_undone ∧ SG 34 34 0 5 g_undone ∧ SG 49 52 0 11 g_undone ∧ SG 58 58 0 5 g_undone ∧ SG 73 76 0 11 g_undone ∧ SG 82 82 0 5 g_undone ∧ SG 97 100 0 11 g_undone ∧ SG 106 106 0 5 g_undone ∧ SG 121 124 0 11 g_undone ∧ SG 130 130 0 5 g_undone ∧ SG 145 148 0 11 g_undone ∧ SG 154 154 0 5 g_undone ∧ SG 169 172 0 11 g_undone ∧ SG 178 178 0 5 g_undone ∧ u = [(h0, .inr (10, vL 67 Gh)), (h_s, .inl (cI, 335, .inl f_s)), (h_undone, .inl (cI, 192, .inl g_undone))]) (PO D A) A) [.ref h0].toArray s 0 0 A) (F0 m 11 ls [])) ?_ (0, f_undone) ⟨(show 0 ≤ (0 : Int32).toInt ∧ (0 : Int32).toInt ≤ 168 by decide), s_undone_1, s_undone_10, s_undone_106, s_undone_121, s_undone_130, s_undone_145, s_undone_154, s_undone_169, s_undone_178, s_undone_25, s_undone_34, s_undone_49, s_undone_58, s_undone_73, s_undone_82, s_undone_97⟩ _ _ _ hP hD hS hl
    rintro ⟨u426, w427⟩ ⟨i428, i429, i430, i431, i432, i433, i434, i435, i436, i437, i438, i439, i440, i441, i442, i443, i444⟩ ih H locs ls hP hD hS hl
    have i428 : 0 ≤ u426.toInt ∧ u426.toInt ≤ 168 := i428
    have hP : va_P D vwCl [(h0, .inr (10, vL 67 Fh)), (h_s, .inl (cI, 335, .inl f_s)), (h_undone, .inl (cI, 192, .inl w427))] H := hP
    have hD : va_D A [(h0, .inr (10, vL 67 Fh)), (h_s, .inl (cI, 335, .inl f_s)), (h_undone, .inl (cI, 192, .inl w427))] := hD
    have hl : lv_has ls 2 [(1, .int u426), (0, .ref h0)] := hl
    refine lv_iload_n hx hb dX10_keeps_11 rfl (lv_at hl 0 rfl) ?_
    refine lv_sipush (v := 168) hx hb dX10_keeps_12 (by decide) ?_
    refine lv_icmp_ge (tgt := 39) hx hb dX10_keeps_15 (by decide) (fun c445 => ?_) (fun c445 => ?_)
    · have dc445 : 168 ≤ u426.toInt := le_i (a := 168) (b := u426.toInt) rfl rfl c445
      have k446 : 168 ≤ u426.toInt ∧ u426.toInt ≤ 168 := ⟨Int.le_trans (Int.le_refl _) dc445, i428.2⟩
      refine lv_aload_n hx hb dX10_keeps_39 rfl (lv_at hl 1 rfl) ?_
      refine lv_bipush (v := 7) hx hb dX10_keeps_40 (by decide) ?_
      refine put_f (D := D) (ci := 10) (v := .int 7) (ty := .int) (C := RX10) (T := TX10) (N := 67) hx hb hw inAX10 tyX10 tyX10_ok nmX10 hown hK hP hD hS 0 rfl rfl 41 (by decide) (hw _ q_1302) (fun _ h9 => h9) rfl (by decide +kernel) rfl rfl dX10_keeps_42 (fun H locs F447 eF447 hP hD hS => ?_)
      have hP : va_P D vwCl [(h0, .inr (10, vL 67 F447)), (h_s, .inl (cI, 335, .inl f_s)), (h_undone, .inl (cI, 192, .inl w427))] H := hP
      have hD : va_D A [(h0, .inr (10, vL 67 F447)), (h_s, .inl (cI, 335, .inl f_s)), (h_undone, .inl (cI, 192, .inl w427))] := hD
      refine lv_iconst (v := 0) hx hb dX10_keeps_45 (by decide) ?_
      refine lv_istore_n (lv' := [(1, .int 0), (0, .ref h0)]) hx hb dX10_keeps_46 rfl hl (by decide) rfl (fun ls hl => ?_)
      refine mloop (α := (Int32) × (Nat → Int32)) (nL := 2) (D := D) (A := A) (H0 := s.heap) (fun a => (24 - a.1.toInt).toNat) (fun a => IR 0 24 a.1 ∧ SG 1 4 0 11 a.2 ∧ SG 10 10 0 5 a.2 ∧ SG 106 106 0 5 a.2 ∧ SG 121 124 0 11 a.2 ∧ SG 130 130 0 5 a.2 ∧ SG 145 148 0 11 a.2 ∧ SG 154 154 0 5 a.2 ∧ SG 169 172 0 11 a.2 ∧ SG 178 178 0 5 a.2 ∧ SG 25 28 0 11 a.2 ∧ SG 34 34 0 5 a.2 ∧ SG 49 52 0 11 a.2 ∧ SG 58 58 0 5 a.2 ∧ SG 73 76 0 11 a.2 ∧ SG 82 82 0 5 a.2 ∧ SG 97 100 0 11 a.2) (fun a => [(h0, .inr (10, vL 67 F447)), (h_s, .inl (cI, 335, .inl f_s)), (h_undone, .inl (cI, 192, .inl a.2))]) (fun a => [(1, .int a.1), (0, .ref h0)]) (fun H locs ls => W p l e ({ frames := 0, cells := 0, slots := 0, locals := 0 } : Room) s m [.ref h0].toArray below meth c H locs 0 0 (MQ below (va_Qv (fun (u : va_W) => ∃ (Gh : Nat → Value) (y_undoMany : Int32) (g_undone : Nat → Int32), SAME [41] Fh Gh ∧ Gh 41 = .int y_undoMany ∧ IR 1 8 y_undoMany ∧ SG 1 4 0 11 g_undone ∧ SG 10 10 0 5 g_undone ∧ SG 25 28 0 11 g_undone ∧ SG 34 34 0 5 g_undone ∧ SG 49 52 0 11 g_undone ∧ SG 58 58 0 5 g_undone ∧ SG 73 76 0 11 g_undone ∧ SG 82 82 0 5 g_undone ∧ SG 97 100 0 11 g_undone ∧ SG 106 106 0 5 g_undone ∧ SG 121 124 0 11 g_undone ∧ SG 130 130 0 5 g_undone ∧ SG 145 148 0 11 g_undone ∧ SG 154 154 0 5 g_undone ∧ SG 169 172 0 11 g_undone ∧ SG 178 178 0 5 g_undone ∧ u = [(h0, .inr (10, vL 67 Gh)), (h_s, .inl (cI, 335, .inl f_s)), (h_undone, .inl (cI, 192, .inl g_undone))]) (PO D A) A) [.ref h0].toArray s 0 0 A) (F0 m 47 ls [])) ?_ (0, w427) ⟨(show 0 ≤ (0 : Int32).toInt ∧ (0 : Int32).toInt ≤ 24 by decide), i429, i430, i431, i432, i433, i434, i435, i436, i437, i438, i439, i440, i441, i442, i443, i444⟩ _ _ _ hP hD hS hl
      rintro ⟨u448, w449⟩ ⟨i450, i451, i452, i453, i454, i455, i456, i457, i458, i459, i460, i461, i462, i463, i464, i465, i466⟩ ih_47 H locs ls hP hD hS hl
      have i450 : 0 ≤ u448.toInt ∧ u448.toInt ≤ 24 := i450
      have hP : va_P D vwCl [(h0, .inr (10, vL 67 F447)), (h_s, .inl (cI, 335, .inl f_s)), (h_undone, .inl (cI, 192, .inl w449))] H := hP
      have hD : va_D A [(h0, .inr (10, vL 67 F447)), (h_s, .inl (cI, 335, .inl f_s)), (h_undone, .inl (cI, 192, .inl w449))] := hD
      have hl : lv_has ls 2 [(1, .int u448), (0, .ref h0)] := hl
      refine lv_iload_n hx hb dX10_keeps_47 rfl (lv_at hl 0 rfl) ?_
      refine lv_bipush (v := 24) hx hb dX10_keeps_48 (by decide) ?_
      refine lv_icmp_ge (tgt := 82) hx hb dX10_keeps_50 (by decide) (fun c467 => ?_) (fun c467 => ?_)
      · have dc467 : 24 ≤ u448.toInt := le_i (a := 24) (b := u448.toInt) rfl rfl c467
        have k468 : 24 ≤ u448.toInt ∧ u448.toInt ≤ 24 := ⟨Int.le_trans (Int.le_refl _) dc467, i450.2⟩
        refine lv_aload_n hx hb dX10_keeps_82 rfl (lv_at hl 1 rfl) ?_
        refine lv_dup hx hb dX10_keeps_83 rfl ?_
        refine get_f (D := D) (ci := 10) (v := .int 7) (C := RX10) (T := TX10) (N := 67) hx hb hw inAX10 hown hK hP 0 rfl rfl 41 (by decide) (hw _ q_1302) (fun _ h9 => h9) (get_eq eF447) dX10_keeps_84 ?_
        refine lv_iconst (v := 1) hx hb dX10_keeps_87 (by decide) ?_
        refine lv_iadd hx hb dX10_keeps_88 ?_
        refine lv_ci (y := 8) (by decide +kernel) ?_
        refine put_f (D := D) (ci := 10) (v := .int 8) (ty := .int) (C := RX10) (T := TX10) (N := 67) hx hb hw inAX10 tyX10 tyX10_ok nmX10 hown hK hP hD hS 0 rfl rfl 41 (by decide) (hw _ q_1302) (fun _ h9 => h9) rfl (by decide +kernel) rfl rfl dX10_keeps_89 (fun H locs F469 eF469 hP hD hS => ?_)
        have hP : va_P D vwCl [(h0, .inr (10, vL 67 F469)), (h_s, .inl (cI, 335, .inl f_s)), (h_undone, .inl (cI, 192, .inl w449))] H := hP
        have hD : va_D A [(h0, .inr (10, vL 67 F469)), (h_s, .inl (cI, 335, .inl f_s)), (h_undone, .inl (cI, 192, .inl w449))] := hD
        exact ret_v hx hb hr hlocks hS hP hD dX10_keeps_92 (Nat.le_of_ble_eq_true rfl) (Nat.le_of_ble_eq_true rfl) ⟨F469, 8, w449, (SAME.up eF469 (SAME.up eF447 SAME.rf (by decide)) (by decide)), (get_eq eF469), (show 1 ≤ (8 : Int32).toInt ∧ (8 : Int32).toInt ≤ 8 by decide), i451, i452, i460, i461, i462, i463, i464, i465, i466, i453, i454, i455, i456, i457, i458, i459, rfl⟩
      · have dc467 : u448.toInt < 24 := nle_i (a := 24) (b := u448.toInt) rfl rfl c467
        have k470 : 0 ≤ u448.toInt ∧ u448.toInt ≤ 23 := ⟨i450.1, up_lt dc467 (Int.le_refl _) (by decide)⟩
        refine lv_aload_n hx hb dX10_keeps_53 rfl (lv_at hl 1 rfl) ?_
        have n471 : F447 39 = .ref h_undone := (get_ne eF447 (by decide) e_undone)
        refine get_f (D := D) (ci := 10) (v := .ref h_undone) (C := RX10) (T := TX10) (N := 67) hx hb hw inAX10 hown hK hP 0 rfl rfl 39 (by decide) (hw _ q_1300) (fun _ h9 => h9) n471 dX10_keeps_54 ?_
        refine lv_bipush (v := 24) hx hb dX10_keeps_57 (by decide) ?_
        refine lv_aload_n hx hb dX10_keeps_59 rfl (lv_at hl 1 rfl) ?_
        refine get_f (D := D) (ci := 10) (v := .int 7) (C := RX10) (T := TX10) (N := 67) hx hb hw inAX10 hown hK hP 0 rfl rfl 41 (by decide) (hw _ q_1302) (fun _ h9 => h9) (get_eq eF447) dX10_keeps_60 ?_
        refine lv_imul hx hb dX10_keeps_63 ?_
        refine lv_ci (y := 168) (by decide +kernel) ?_
        refine lv_iload_n hx hb dX10_keeps_64 rfl (lv_at hl 0 rfl) ?_
        refine lv_iadd hx hb dX10_keeps_65 ?_
        refine lv_topi (fun v472 ev472 => ?_)
        have bv472 : v472.toInt = 168 + u448.toInt := by rw [ev472]; exact add_k rfl rfl ⟨Int.le_refl _, Int.le_refl _⟩ k470 (by decide)
        have k473 : 168 ≤ v472.toInt ∧ v472.toInt ≤ 191 := add_r bv472 ⟨Int.le_refl _, Int.le_refl _⟩ k470 (by decide)
        refine lv_aload_n hx hb dX10_keeps_66 rfl (lv_at hl 1 rfl) ?_
        have n474 : F447 6 = .ref h_s := (get_ne eF447 (by decide) e_s)
        refine get_f (D := D) (ci := 10) (v := .ref h_s) (C := RX10) (T := TX10) (N := 67) hx hb hw inAX10 hown hK hP 0 rfl rfl 6 (by decide) (hw _ q_1267) (fun _ h9 => h9) n474 dX10_keeps_67 ?_
        refine lv_bipush (v := 104) hx hb dX10_keeps_70 (by decide) ?_
        refine lv_iload_n hx hb dX10_keeps_72 rfl (lv_at hl 0 rfl) ?_
        refine lv_iadd hx hb dX10_keeps_73 ?_
        refine lv_topi (fun v475 ev475 => ?_)
        have bv475 : v475.toInt = 104 + u448.toInt := by rw [ev475]; exact add_k rfl rfl ⟨Int.le_refl _, Int.le_refl _⟩ k470 (by decide)
        have k476 : 104 ≤ v475.toInt ∧ v475.toInt ≤ 127 := add_r bv475 ⟨Int.le_refl _, Int.le_refl _⟩ k470 (by decide)
        refine va_iald hx hb hK hP 1 0 rfl rfl (ix_k k476 (by decide) (by decide)) dX10_keeps_74 ?_
        refine lv_topi (fun v477 ev477 => ?_)
        have r478 : IMP (105 ≤ v475.toInt → v475.toInt ≤ 108 → 0 ≤ v477.toInt ∧ v477.toInt ≤ 11) := IMP.mk (fun q1 q2 => by rw [ev477]; exact s_s_105.at _ q1 q2)
        have r479 : IMP (114 ≤ v475.toInt → v475.toInt ≤ 114 → 0 ≤ v477.toInt ∧ v477.toInt ≤ 5) := IMP.mk (fun q1 q2 => by rw [ev477]; exact s_s_114.at _ q1 q2)
        obtain ⟨g480, eg480⟩ : ∃ z : Nat → Int32, upd w449 v472.toNatClampNeg v477 = z := ⟨_, rfl⟩
        have r481 : SG 1 4 0 11 g480 := by rw [← eg480]; exact i451.up (Int.le_trans (by decide) k473.1) (Or.inr (Or.inl (dec_lt k473.1 (by decide))))
        have r482 : SG 10 10 0 5 g480 := by rw [← eg480]; exact i452.up (Int.le_trans (by decide) k473.1) (Or.inr (Or.inl (dec_lt k473.1 (by decide))))
        have r483 : SG 106 106 0 5 g480 := by rw [← eg480]; exact i453.up (Int.le_trans (by decide) k473.1) (Or.inr (Or.inl (dec_lt k473.1 (by decide))))
        have r484 : SG 121 124 0 11 g480 := by rw [← eg480]; exact i454.up (Int.le_trans (by decide) k473.1) (Or.inr (Or.inl (dec_lt k473.1 (by decide))))
        have r485 : SG 130 130 0 5 g480 := by rw [← eg480]; exact i455.up (Int.le_trans (by decide) k473.1) (Or.inr (Or.inl (dec_lt k473.1 (by decide))))
        have r486 : SG 145 148 0 11 g480 := by rw [← eg480]; exact i456.up (Int.le_trans (by decide) k473.1) (Or.inr (Or.inl (dec_lt k473.1 (by decide))))
        have r487 : SG 154 154 0 5 g480 := by rw [← eg480]; exact i457.up (Int.le_trans (by decide) k473.1) (Or.inr (Or.inl (dec_lt k473.1 (by decide))))
        have r488 : SG 169 172 0 11 g480 := by rw [← eg480]; exact i458.upI (Int.le_trans (by decide) k473.1) (fun q1 q2 => ⟨Int.le_trans (by decide) (r478.h (by omega) (by omega)).1, Int.le_trans (r478.h (by omega) (by omega)).2 (by decide)⟩)
        have r489 : SG 178 178 0 5 g480 := by rw [← eg480]; exact i459.upI (Int.le_trans (by decide) k473.1) (fun q1 q2 => ⟨Int.le_trans (by decide) (r479.h (by omega) (by omega)).1, Int.le_trans (r479.h (by omega) (by omega)).2 (by decide)⟩)
        have r490 : SG 25 28 0 11 g480 := by rw [← eg480]; exact i460.up (Int.le_trans (by decide) k473.1) (Or.inr (Or.inl (dec_lt k473.1 (by decide))))
        have r491 : SG 34 34 0 5 g480 := by rw [← eg480]; exact i461.up (Int.le_trans (by decide) k473.1) (Or.inr (Or.inl (dec_lt k473.1 (by decide))))
        have r492 : SG 49 52 0 11 g480 := by rw [← eg480]; exact i462.up (Int.le_trans (by decide) k473.1) (Or.inr (Or.inl (dec_lt k473.1 (by decide))))
        have r493 : SG 58 58 0 5 g480 := by rw [← eg480]; exact i463.up (Int.le_trans (by decide) k473.1) (Or.inr (Or.inl (dec_lt k473.1 (by decide))))
        have r494 : SG 73 76 0 11 g480 := by rw [← eg480]; exact i464.up (Int.le_trans (by decide) k473.1) (Or.inr (Or.inl (dec_lt k473.1 (by decide))))
        have r495 : SG 82 82 0 5 g480 := by rw [← eg480]; exact i465.up (Int.le_trans (by decide) k473.1) (Or.inr (Or.inl (dec_lt k473.1 (by decide))))
        have r496 : SG 97 100 0 11 g480 := by rw [← eg480]; exact i466.up (Int.le_trans (by decide) k473.1) (Or.inr (Or.inl (dec_lt k473.1 (by decide))))
        refine iast_g hx hb hK hP hD hS 2 0 rfl rfl (ix_k k473 (by decide) (by decide)) eg480 dX10_keeps_75 (fun H locs hP hD hS => ?_)
        have hP : va_P D vwCl [(h0, .inr (10, vL 67 F447)), (h_s, .inl (cI, 335, .inl f_s)), (h_undone, .inl (cI, 192, .inl g480))] H := hP
        have hD : va_D A [(h0, .inr (10, vL 67 F447)), (h_s, .inl (cI, 335, .inl f_s)), (h_undone, .inl (cI, 192, .inl g480))] := hD
        obtain ⟨v497, ev497⟩ : ∃ z : Int32, z = u448 + 1 := ⟨_, rfl⟩
        have bv497 : v497.toInt = u448.toInt + 1 := by rw [ev497]; exact add_k rfl rfl k470 ⟨Int.le_refl _, Int.le_refl _⟩ (by decide)
        have k498 : 1 ≤ v497.toInt ∧ v497.toInt ≤ 24 := add_r bv497 k470 ⟨Int.le_refl _, Int.le_refl _⟩ (by decide)
        refine lv_iinc (v := v497) (lv' := [(1, .int v497), (0, .ref h0)]) hx hb dX10_keeps_76 hl (k := 0) rfl (by rw [ev497]; rfl) (by decide) rfl (fun ls hl => ?_)
        refine lv_goto (tgt := 47) hx hb dX10_keeps_79 (by decide) ?_
        exact ih_47 (v497, g480) ⟨(ir_wk k498 (by decide) (by decide)), r481, r482, r483, r484, r485, r486, r487, r488, r489, r490, r491, r492, r493, r494, r495, r496⟩ (by show (24 - v497.toInt).toNat < (24 - u448.toInt).toNat; omega) _ _ _ hP hD hS (lv_sub hl [0, 1] rfl)
    · have dc445 : u426.toInt < 168 := nle_i (a := 168) (b := u426.toInt) rfl rfl c445
      have k499 : 0 ≤ u426.toInt ∧ u426.toInt ≤ 167 := ⟨i428.1, up_lt dc445 (Int.le_refl _) (by decide)⟩
      refine lv_aload_n hx hb dX10_keeps_18 rfl (lv_at hl 1 rfl) ?_
      refine get_f (D := D) (ci := 10) (v := .ref h_undone) (C := RX10) (T := TX10) (N := 67) hx hb hw inAX10 hown hK hP 0 rfl rfl 39 (by decide) (hw _ q_1300) (fun _ h9 => h9) e_undone dX10_keeps_19 ?_
      refine lv_iload_n hx hb dX10_keeps_22 rfl (lv_at hl 0 rfl) ?_
      refine lv_aload_n hx hb dX10_keeps_23 rfl (lv_at hl 1 rfl) ?_
      refine get_f (D := D) (ci := 10) (v := .ref h_undone) (C := RX10) (T := TX10) (N := 67) hx hb hw inAX10 hown hK hP 0 rfl rfl 39 (by decide) (hw _ q_1300) (fun _ h9 => h9) e_undone dX10_keeps_24 ?_
      refine lv_iload_n hx hb dX10_keeps_27 rfl (lv_at hl 0 rfl) ?_
      refine lv_bipush (v := 24) hx hb dX10_keeps_28 (by decide) ?_
      refine lv_iadd hx hb dX10_keeps_30 ?_
      refine lv_topi (fun v500 ev500 => ?_)
      have bv500 : v500.toInt = u426.toInt + 24 := by rw [ev500]; exact add_k rfl rfl k499 ⟨Int.le_refl _, Int.le_refl _⟩ (by decide)
      have k501 : 24 ≤ v500.toInt ∧ v500.toInt ≤ 191 := add_r bv500 k499 ⟨Int.le_refl _, Int.le_refl _⟩ (by decide)
      refine va_iald hx hb hK hP 2 0 rfl rfl (ix_k k501 (by decide) (by decide)) dX10_keeps_31 ?_
      refine lv_topi (fun v502 ev502 => ?_)
      have r503 : IMP (106 ≤ v500.toInt → v500.toInt ≤ 106 → 0 ≤ v502.toInt ∧ v502.toInt ≤ 5) := IMP.mk (fun q1 q2 => by rw [ev502]; exact i431.at _ q1 q2)
      have r504 : IMP (121 ≤ v500.toInt → v500.toInt ≤ 124 → 0 ≤ v502.toInt ∧ v502.toInt ≤ 11) := IMP.mk (fun q1 q2 => by rw [ev502]; exact i432.at _ q1 q2)
      have r505 : IMP (130 ≤ v500.toInt → v500.toInt ≤ 130 → 0 ≤ v502.toInt ∧ v502.toInt ≤ 5) := IMP.mk (fun q1 q2 => by rw [ev502]; exact i433.at _ q1 q2)
      have r506 : IMP (145 ≤ v500.toInt → v500.toInt ≤ 148 → 0 ≤ v502.toInt ∧ v502.toInt ≤ 11) := IMP.mk (fun q1 q2 => by rw [ev502]; exact i434.at _ q1 q2)
      have r507 : IMP (154 ≤ v500.toInt → v500.toInt ≤ 154 → 0 ≤ v502.toInt ∧ v502.toInt ≤ 5) := IMP.mk (fun q1 q2 => by rw [ev502]; exact i435.at _ q1 q2)
      have r508 : IMP (169 ≤ v500.toInt → v500.toInt ≤ 172 → 0 ≤ v502.toInt ∧ v502.toInt ≤ 11) := IMP.mk (fun q1 q2 => by rw [ev502]; exact i436.at _ q1 q2)
      have r509 : IMP (178 ≤ v500.toInt → v500.toInt ≤ 178 → 0 ≤ v502.toInt ∧ v502.toInt ≤ 5) := IMP.mk (fun q1 q2 => by rw [ev502]; exact i437.at _ q1 q2)
      have r510 : IMP (25 ≤ v500.toInt → v500.toInt ≤ 28 → 0 ≤ v502.toInt ∧ v502.toInt ≤ 11) := IMP.mk (fun q1 q2 => by rw [ev502]; exact i438.at _ q1 q2)
      have r511 : IMP (34 ≤ v500.toInt → v500.toInt ≤ 34 → 0 ≤ v502.toInt ∧ v502.toInt ≤ 5) := IMP.mk (fun q1 q2 => by rw [ev502]; exact i439.at _ q1 q2)
      have r512 : IMP (49 ≤ v500.toInt → v500.toInt ≤ 52 → 0 ≤ v502.toInt ∧ v502.toInt ≤ 11) := IMP.mk (fun q1 q2 => by rw [ev502]; exact i440.at _ q1 q2)
      have r513 : IMP (58 ≤ v500.toInt → v500.toInt ≤ 58 → 0 ≤ v502.toInt ∧ v502.toInt ≤ 5) := IMP.mk (fun q1 q2 => by rw [ev502]; exact i441.at _ q1 q2)
      have r514 : IMP (73 ≤ v500.toInt → v500.toInt ≤ 76 → 0 ≤ v502.toInt ∧ v502.toInt ≤ 11) := IMP.mk (fun q1 q2 => by rw [ev502]; exact i442.at _ q1 q2)
      have r515 : IMP (82 ≤ v500.toInt → v500.toInt ≤ 82 → 0 ≤ v502.toInt ∧ v502.toInt ≤ 5) := IMP.mk (fun q1 q2 => by rw [ev502]; exact i443.at _ q1 q2)
      have r516 : IMP (97 ≤ v500.toInt → v500.toInt ≤ 100 → 0 ≤ v502.toInt ∧ v502.toInt ≤ 11) := IMP.mk (fun q1 q2 => by rw [ev502]; exact i444.at _ q1 q2)
      obtain ⟨g517, eg517⟩ : ∃ z : Nat → Int32, upd w427 u426.toNatClampNeg v502 = z := ⟨_, rfl⟩
      have r518 : SG 1 4 0 11 g517 := by rw [← eg517]; exact i429.upI (Int.le_trans (by decide) k499.1) (fun q1 q2 => ⟨Int.le_trans (by decide) (r510.h (by omega) (by omega)).1, Int.le_trans (r510.h (by omega) (by omega)).2 (by decide)⟩)
      have r519 : SG 10 10 0 5 g517 := by rw [← eg517]; exact i430.upI (Int.le_trans (by decide) k499.1) (fun q1 q2 => ⟨Int.le_trans (by decide) (r511.h (by omega) (by omega)).1, Int.le_trans (r511.h (by omega) (by omega)).2 (by decide)⟩)
      have r520 : SG 106 106 0 5 g517 := by rw [← eg517]; exact i431.upI (Int.le_trans (by decide) k499.1) (fun q1 q2 => ⟨Int.le_trans (by decide) (r505.h (by omega) (by omega)).1, Int.le_trans (r505.h (by omega) (by omega)).2 (by decide)⟩)
      have r521 : SG 121 124 0 11 g517 := by rw [← eg517]; exact i432.upI (Int.le_trans (by decide) k499.1) (fun q1 q2 => ⟨Int.le_trans (by decide) (r506.h (by omega) (by omega)).1, Int.le_trans (r506.h (by omega) (by omega)).2 (by decide)⟩)
      have r522 : SG 130 130 0 5 g517 := by rw [← eg517]; exact i433.upI (Int.le_trans (by decide) k499.1) (fun q1 q2 => ⟨Int.le_trans (by decide) (r507.h (by omega) (by omega)).1, Int.le_trans (r507.h (by omega) (by omega)).2 (by decide)⟩)
      have r523 : SG 145 148 0 11 g517 := by rw [← eg517]; exact i434.upI (Int.le_trans (by decide) k499.1) (fun q1 q2 => ⟨Int.le_trans (by decide) (r508.h (by omega) (by omega)).1, Int.le_trans (r508.h (by omega) (by omega)).2 (by decide)⟩)
      have r524 : SG 154 154 0 5 g517 := by rw [← eg517]; exact i435.upI (Int.le_trans (by decide) k499.1) (fun q1 q2 => ⟨Int.le_trans (by decide) (r509.h (by omega) (by omega)).1, Int.le_trans (r509.h (by omega) (by omega)).2 (by decide)⟩)
      have r525 : SG 169 172 0 11 g517 := by rw [← eg517]; exact i436.up (Int.le_trans (by decide) k499.1) (Or.inl (lt_dec k499.2 (by decide)))
      have r526 : SG 178 178 0 5 g517 := by rw [← eg517]; exact i437.up (Int.le_trans (by decide) k499.1) (Or.inl (lt_dec k499.2 (by decide)))
      have r527 : SG 25 28 0 11 g517 := by rw [← eg517]; exact i438.upI (Int.le_trans (by decide) k499.1) (fun q1 q2 => ⟨Int.le_trans (by decide) (r512.h (by omega) (by omega)).1, Int.le_trans (r512.h (by omega) (by omega)).2 (by decide)⟩)
      have r528 : SG 34 34 0 5 g517 := by rw [← eg517]; exact i439.upI (Int.le_trans (by decide) k499.1) (fun q1 q2 => ⟨Int.le_trans (by decide) (r513.h (by omega) (by omega)).1, Int.le_trans (r513.h (by omega) (by omega)).2 (by decide)⟩)
      have r529 : SG 49 52 0 11 g517 := by rw [← eg517]; exact i440.upI (Int.le_trans (by decide) k499.1) (fun q1 q2 => ⟨Int.le_trans (by decide) (r514.h (by omega) (by omega)).1, Int.le_trans (r514.h (by omega) (by omega)).2 (by decide)⟩)
      have r530 : SG 58 58 0 5 g517 := by rw [← eg517]; exact i441.upI (Int.le_trans (by decide) k499.1) (fun q1 q2 => ⟨Int.le_trans (by decide) (r515.h (by omega) (by omega)).1, Int.le_trans (r515.h (by omega) (by omega)).2 (by decide)⟩)
      have r531 : SG 73 76 0 11 g517 := by rw [← eg517]; exact i442.upI (Int.le_trans (by decide) k499.1) (fun q1 q2 => ⟨Int.le_trans (by decide) (r516.h (by omega) (by omega)).1, Int.le_trans (r516.h (by omega) (by omega)).2 (by decide)⟩)
      have r532 : SG 82 82 0 5 g517 := by rw [← eg517]; exact i443.upI (Int.le_trans (by decide) k499.1) (fun q1 q2 => ⟨Int.le_trans (by decide) (r503.h (by omega) (by omega)).1, Int.le_trans (r503.h (by omega) (by omega)).2 (by decide)⟩)
      have r533 : SG 97 100 0 11 g517 := by rw [← eg517]; exact i444.upI (Int.le_trans (by decide) k499.1) (fun q1 q2 => ⟨Int.le_trans (by decide) (r504.h (by omega) (by omega)).1, Int.le_trans (r504.h (by omega) (by omega)).2 (by decide)⟩)
      refine iast_g hx hb hK hP hD hS 2 0 rfl rfl (ix_k k499 (by decide) (by decide)) eg517 dX10_keeps_32 (fun H locs hP hD hS => ?_)
      have hP : va_P D vwCl [(h0, .inr (10, vL 67 Fh)), (h_s, .inl (cI, 335, .inl f_s)), (h_undone, .inl (cI, 192, .inl g517))] H := hP
      have hD : va_D A [(h0, .inr (10, vL 67 Fh)), (h_s, .inl (cI, 335, .inl f_s)), (h_undone, .inl (cI, 192, .inl g517))] := hD
      obtain ⟨v534, ev534⟩ : ∃ z : Int32, z = u426 + 1 := ⟨_, rfl⟩
      have bv534 : v534.toInt = u426.toInt + 1 := by rw [ev534]; exact add_k rfl rfl k499 ⟨Int.le_refl _, Int.le_refl _⟩ (by decide)
      have k535 : 1 ≤ v534.toInt ∧ v534.toInt ≤ 168 := add_r bv534 k499 ⟨Int.le_refl _, Int.le_refl _⟩ (by decide)
      refine lv_iinc (v := v534) (lv' := [(1, .int v534), (0, .ref h0)]) hx hb dX10_keeps_33 hl (k := 0) rfl (by rw [ev534]; rfl) (by decide) rfl (fun ls hl => ?_)
      refine lv_goto (tgt := 11) hx hb dX10_keeps_36 (by decide) ?_
      exact ih (v534, g517) ⟨(ir_wk k535 (by decide) (by decide)), r518, r519, r520, r521, r522, r523, r524, r525, r526, r527, r528, r529, r530, r531, r532, r533⟩ (by show (168 - v534.toInt).toNat < (168 - u426.toInt).toNat; omega) _ _ _ hP hD hS (lv_sub hl [0, 1] rfl)
