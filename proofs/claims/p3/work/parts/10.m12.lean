set_option maxHeartbeats 4000000 in
set_option maxRecDepth 100000 in
theorem m_X10_totalBy (l : Launch) (D : va_G) (cI cJ cB cP cM cZ : ClassId) (h0 : Nat) (h_s : Nat) (h_paceAt : Nat) (h_kindOf : Nat) (h_behindAt : Nat) (Fh : Nat → Value) (x_touchBend : Int32) (x_touchBy : Int32) (f_s : Nat → Int32) (f_paceAt : Nat → Int32) (f_kindOf : Nat → Int32) (f_behindAt : Nat → Int32) (p0 : Int32) (sz : Nat) (e_s : Fh 6 = .ref h_s) (e_paceAt : Fh 25 = .ref h_paceAt) (e_kindOf : Fh 26 = .ref h_kindOf) (e_behindAt : Fh 33 = .ref h_behindAt) (e_touchBend : Fh 37 = .int x_touchBend) (e_touchBy : Fh 38 = .int x_touchBy) (i_x_touchBy : IR 0 99 x_touchBy) (s_s_K0 : KW 0 f_s) (s_s_0 : SG 0 0 0 40 f_s) (s_s_105 : SG 105 108 0 11 f_s) (s_s_114 : SG 114 114 0 5 f_s) (s_s_130 : SG 130 133 0 11 f_s) (s_s_139 : SG 139 139 0 5 f_s) (s_s_153 : SG 153 153 0 44 f_s) (s_s_44 : SG 44 55 0 9 f_s) (s_s_5 : SG 5 5 0 12 f_s) (s_s_6 : SG 6 6 0 12 f_s) (s_s_7 : SG 7 7 0 6 f_s) : CI l yX10_totalBy cX10_totalBy 3 (some .int) { frames := 5, cells := 0, slots := 0, locals := 115 } (GG D cI cJ cB cP cM cZ) D [(h0, .inr (10, vL 67 Fh)), (h_s, .inl (cI, 335, .inl f_s)), (h_paceAt, .inl (cI, 40, .inl f_paceAt)), (h_kindOf, .inl (cI, 4, .inl f_kindOf)), (h_behindAt, .inl (cI, 12, .inl f_behindAt))] sz [.ref h0, .int p0] (fun (r : Int32) (u : va_W) => ∃ (Gh : Nat → Value) (y_lineTime : Int32) (y_linePace : Int32) (y_inside : Int32) (y_late : Int32) (y_seed : Int32) (y_bendsGone : Int32) (y_overAt : Int32) (y_endPace : Int32) (g_paceAt : Nat → Int32) (g_kindOf : Nat → Int32) (g_behindAt : Nat → Int32), SAME [27, 28, 29, 30, 31, 32, 34, 35, 36] Fh Gh ∧ Gh 27 = .int y_lineTime ∧ Gh 28 = .int y_linePace ∧ IR 10 250 y_linePace ∧ Gh 29 = .int y_inside ∧ IR 0 15 y_inside ∧ Gh 30 = .int y_late ∧ IR 0 15 y_late ∧ Gh 31 = .int y_seed ∧ Gh 32 = .int 0 ∧ Gh 34 = .int y_bendsGone ∧ IR 0 12 y_bendsGone ∧ Gh 35 = .int y_overAt ∧ IR (-1) 11 y_overAt ∧ Gh 36 = .int y_endPace ∧ u = [(h0, .inr (10, vL 67 Gh)), (h_s, .inl (cI, 335, .inl f_s)), (h_paceAt, .inl (cI, 40, .inl g_paceAt)), (h_kindOf, .inl (cI, 4, .inl g_kindOf)), (h_behindAt, .inl (cI, 12, .inl g_behindAt))]) := by
  refine CI_mk (by decide) (Nat.le_of_ble_eq_true rfl) ?_
  intro p e s m below meth c A ls E hAe hG hsz hP hD hA hS hl
  obtain ⟨hx, hb, hr, hw, hown, hlocks, hml, hnm⟩ := E
  have hK := hG.1
  have i_x_touchBy : 0 ≤ x_touchBy.toInt ∧ x_touchBy.toInt ≤ 99 := i_x_touchBy
  have hl : lv_has ls 3 [(0, .ref h0), (1, .int p0)] := hl
  refine lv_aload_n hx hb dX10_totalBy_0 rfl (lv_at hl 0 rfl) ?_
  refine lv_iload_n hx hb dX10_totalBy_1 rfl (lv_at hl 1 rfl) ?_
  refine put_f (D := D) (ci := 10) (v := .int p0) (ty := .int) (C := RX10) (T := TX10) (N := 67) hx hb hw inAX10 tyX10 tyX10_ok nmX10 hown hK hP hD hS 0 rfl rfl 31 (by decide) (hw _ q_1292) (fun _ h9 => h9) rfl (by decide +kernel) rfl rfl dX10_totalBy_2 (fun H locs F1 eF1 hP hD hS => ?_)
  have hP : va_P D vwCl [(h0, .inr (10, vL 67 F1)), (h_s, .inl (cI, 335, .inl f_s)), (h_paceAt, .inl (cI, 40, .inl f_paceAt)), (h_kindOf, .inl (cI, 4, .inl f_kindOf)), (h_behindAt, .inl (cI, 12, .inl f_behindAt))] H := hP
  have hD : va_D A [(h0, .inr (10, vL 67 F1)), (h_s, .inl (cI, 335, .inl f_s)), (h_paceAt, .inl (cI, 40, .inl f_paceAt)), (h_kindOf, .inl (cI, 4, .inl f_kindOf)), (h_behindAt, .inl (cI, 12, .inl f_behindAt))] := hD
  refine lv_aload_n hx hb dX10_totalBy_5 rfl (lv_at hl 0 rfl) ?_
  refine lv_iconst (v := 1) hx hb dX10_totalBy_6 (by decide) ?_
  refine put_f (D := D) (ci := 10) (v := .int 1) (ty := .boolean) (C := RX10) (T := TX10) (N := 67) hx hb hw inAX10 tyX10 tyX10_ok nmX10 hown hK hP hD hS 0 rfl rfl 32 (by decide) (hw _ q_1293) (fun _ h9 => h9) rfl (by decide +kernel) rfl rfl dX10_totalBy_7 (fun H locs F2 eF2 hP hD hS => ?_)
  have hP : va_P D vwCl [(h0, .inr (10, vL 67 F2)), (h_s, .inl (cI, 335, .inl f_s)), (h_paceAt, .inl (cI, 40, .inl f_paceAt)), (h_kindOf, .inl (cI, 4, .inl f_kindOf)), (h_behindAt, .inl (cI, 12, .inl f_behindAt))] H := hP
  have hD : va_D A [(h0, .inr (10, vL 67 F2)), (h_s, .inl (cI, 335, .inl f_s)), (h_paceAt, .inl (cI, 40, .inl f_paceAt)), (h_kindOf, .inl (cI, 4, .inl f_kindOf)), (h_behindAt, .inl (cI, 12, .inl f_behindAt))] := hD
  refine lv_aload_n hx hb dX10_totalBy_10 rfl (lv_at hl 0 rfl) ?_
  have n3 : F1 6 = .ref h_s := (get_ne eF1 (by decide) e_s)
  have n4 : F2 6 = .ref h_s := (get_ne eF2 (by decide) n3)
  have n5 : F1 25 = .ref h_paceAt := (get_ne eF1 (by decide) e_paceAt)
  have n6 : F2 25 = .ref h_paceAt := (get_ne eF2 (by decide) n5)
  have n7 : F1 26 = .ref h_kindOf := (get_ne eF1 (by decide) e_kindOf)
  have n8 : F2 26 = .ref h_kindOf := (get_ne eF2 (by decide) n7)
  have n9 : F2 31 = .int p0 := (get_ne eF2 (by decide) (get_eq eF1))
  have n10 : F1 33 = .ref h_behindAt := (get_ne eF1 (by decide) e_behindAt)
  have n11 : F2 33 = .ref h_behindAt := (get_ne eF2 (by decide) n10)
  have n12 : F1 37 = .int x_touchBend := (get_ne eF1 (by decide) e_touchBend)
  have n13 : F2 37 = .int x_touchBend := (get_ne eF2 (by decide) n12)
  have n14 : F1 38 = .int x_touchBy := (get_ne eF1 (by decide) e_touchBy)
  have n15 : F2 38 = .int x_touchBy := (get_ne eF2 (by decide) n14)
  refine call_Vi (wr := []) (As := []) (rest := []) hx hb hml hown hw (m_X10_total l D cI cJ cB cP cM cZ h0 h_s h_paceAt h_kindOf h_behindAt F2 p0 1 x_touchBend x_touchBy f_s f_paceAt f_kindOf f_behindAt _ n4 n6 n8 n9 (get_eq eF2) (show 0 ≤ (1 : Int32).toInt ∧ (1 : Int32).toInt ≤ 1 by decide) n11 n13 n15 i_x_touchBy s_s_K0 s_s_0 s_s_105 s_s_114 s_s_130 s_s_139 s_s_153 s_s_44 s_s_5 s_s_6 s_s_7) wV_X10_368_X10_total dX10_totalBy_11 hK hP hD hS hA [0, 1, 2, 3, 4] [] rfl rfl (by decide) (by decide) (by decide) 0 10 rfl rfl GG.fb hG.at hl.1 rfl (Nat.le_of_ble_eq_true rfl) ⟨(Nat.le_of_ble_eq_true rfl), (Nat.le_of_ble_eq_true rfl)⟩ ⟨(Nat.le_of_ble_eq_true rfl), (Nat.le_of_ble_eq_true rfl)⟩ (fun r16 u H locs hp hP hD hS => ?_)
  have zl1 : (1 : Int32).toInt = 1 := by decide
  refine hp.elim (fun F17 h9z0 => h9z0.elim (fun y18 h9z1 => h9z1.elim (fun y19 h9z2 => h9z2.elim (fun y20 h9z3 => h9z3.elim (fun y21 h9z4 => h9z4.elim (fun y22 h9z5 => h9z5.elim (fun y23 h9z6 => h9z6.elim (fun y24 h9z7 => h9z7.elim (fun y25 h9z8 => h9z8.elim (fun g26 h9z9 => h9z9.elim (fun g27 h9z10 => h9z10.elim (fun g28 h9z11 => h9z11.elim (fun t29 h9z12 => h9z12.elim (fun t30 h9z13 => h9z13.elim (fun t31 h9z14 => h9z14.elim (fun t32 h9z15 => h9z15.elim (fun t33 h9z16 => h9z16.elim (fun t34 h9z17 => h9z17.elim (fun t35 h9z18 => h9z18.elim (fun t36 h9z19 => h9z19.elim (fun t37 h9z20 => h9z20.elim (fun t38 h9z21 => h9z21.elim (fun t39 h9z22 => h9z22.elim (fun t40 h9z23 => h9z23.elim (fun t41 h9z24 => h9z24.elim (fun t42 h9z25 => ?_))))))))))))))))))))))))))
  clear h9z0 h9z1 h9z2 h9z3 h9z4 h9z5 h9z6 h9z7 h9z8 h9z9 h9z10 h9z11 h9z12 h9z13 h9z14 h9z15 h9z16 h9z17 h9z18 h9z19 h9z20 h9z21 h9z22 h9z23 h9z24
  subst h9z25
  have hP : va_P D vwCl [(h0, .inr (10, vL 67 F17)), (h_s, .inl (cI, 335, .inl f_s)), (h_paceAt, .inl (cI, 40, .inl g26)), (h_kindOf, .inl (cI, 4, .inl g27)), (h_behindAt, .inl (cI, 12, .inl g28))] H := hP
  have hD : va_D A [(h0, .inr (10, vL 67 F17)), (h_s, .inl (cI, 335, .inl f_s)), (h_paceAt, .inl (cI, 40, .inl g26)), (h_kindOf, .inl (cI, 4, .inl g27)), (h_behindAt, .inl (cI, 12, .inl g28))] := hD
  refine W.widen (k := 0) (n := 0) (Nat.le_of_ble_eq_true rfl) (Nat.le_of_ble_eq_true rfl) ?_
  refine lv_istore_n (lv' := [(2, .int r16), (0, .ref h0), (1, .int p0)]) hx hb dX10_totalBy_14 rfl hl (by decide) rfl (fun ls hl => ?_)
  refine lv_aload_n hx hb dX10_totalBy_15 rfl (lv_at hl 1 rfl) ?_
  refine lv_iconst (v := 0) hx hb dX10_totalBy_16 (by decide) ?_
  refine put_f (D := D) (ci := 10) (v := .int 0) (ty := .boolean) (C := RX10) (T := TX10) (N := 67) hx hb hw inAX10 tyX10 tyX10_ok nmX10 hown hK hP hD hS 0 rfl rfl 32 (by decide) (hw _ q_1293) (fun _ h9 => h9) rfl (by decide +kernel) rfl rfl dX10_totalBy_17 (fun H locs F44 eF44 hP hD hS => ?_)
  have hP : va_P D vwCl [(h0, .inr (10, vL 67 F44)), (h_s, .inl (cI, 335, .inl f_s)), (h_paceAt, .inl (cI, 40, .inl g26)), (h_kindOf, .inl (cI, 4, .inl g27)), (h_behindAt, .inl (cI, 12, .inl g28))] H := hP
  have hD : va_D A [(h0, .inr (10, vL 67 F44)), (h_s, .inl (cI, 335, .inl f_s)), (h_paceAt, .inl (cI, 40, .inl g26)), (h_kindOf, .inl (cI, 4, .inl g27)), (h_behindAt, .inl (cI, 12, .inl g28))] := hD
  refine lv_iload_n hx hb dX10_totalBy_20 rfl (lv_at hl 0 rfl) ?_
  exact ret_i (v := r16) hx hb hr hlocks hS hP hD dX10_totalBy_21 rfl (Nat.le_of_ble_eq_true rfl) (Nat.le_of_ble_eq_true rfl) ⟨F44, y18, y19, y20, y21, y22, y23, y24, y25, g26, g27, g28, (SAME.up eF44 (SAME.tr (SAME.up eF2 (SAME.up eF1 SAME.rf (by decide)) (by decide)) t29 (by decide)) (by decide)), (get_ne eF44 (by decide) t30), (get_ne eF44 (by decide) t31), t32, (get_ne eF44 (by decide) t33), t34, (get_ne eF44 (by decide) t35), t36, (get_ne eF44 (by decide) t37), (get_eq eF44), (get_ne eF44 (by decide) t38), t39, (get_ne eF44 (by decide) t40), t41, (get_ne eF44 (by decide) t42), rfl⟩
set_option maxHeartbeats 4000000 in
set_option maxRecDepth 100000 in
theorem m_X10_drawn (l : Launch) (D : va_G) (cI cJ cB cP cM cZ : ClassId) (h0 : Nat) (h_s : Nat) (h_paceAt : Nat) (h_kindOf : Nat) (h_behindAt : Nat) (Fh : Nat → Value) (x_lineTime : Int32) (x_linePace : Int32) (x_inside : Int32) (x_late : Int32) (x_seed : Int32) (x_kicks : Int32) (x_bendsGone : Int32) (x_overAt : Int32) (x_endPace : Int32) (x_touchBend : Int32) (x_touchBy : Int32) (f_s : Nat → Int32) (f_paceAt : Nat → Int32) (f_kindOf : Nat → Int32) (f_behindAt : Nat → Int32) (p0 : Int32) (sz : Nat) (e_s : Fh 6 = .ref h_s) (e_paceAt : Fh 25 = .ref h_paceAt) (e_kindOf : Fh 26 = .ref h_kindOf) (e_lineTime : Fh 27 = .int x_lineTime) (e_linePace : Fh 28 = .int x_linePace) (e_inside : Fh 29 = .int x_inside) (i_x_inside : IR 0 15 x_inside) (e_late : Fh 30 = .int x_late) (i_x_late : IR 0 15 x_late) (e_seed : Fh 31 = .int x_seed) (e_kicks : Fh 32 = .int x_kicks) (i_x_kicks : IR 0 1 x_kicks) (e_behindAt : Fh 33 = .ref h_behindAt) (e_bendsGone : Fh 34 = .int x_bendsGone) (i_x_bendsGone : IR 0 12 x_bendsGone) (e_overAt : Fh 35 = .int x_overAt) (e_endPace : Fh 36 = .int x_endPace) (e_touchBend : Fh 37 = .int x_touchBend) (e_touchBy : Fh 38 = .int x_touchBy) (i_x_touchBy : IR 0 99 x_touchBy) (s_s_K0 : KW 0 f_s) (s_s_0 : SG 0 0 0 40 f_s) (s_s_105 : SG 105 108 0 11 f_s) (s_s_114 : SG 114 114 0 5 f_s) (s_s_130 : SG 130 133 0 11 f_s) (s_s_139 : SG 139 139 0 5 f_s) (s_s_153 : SG 153 153 0 44 f_s) (s_s_44 : SG 44 55 0 9 f_s) (s_s_5 : SG 5 5 0 12 f_s) (s_s_6 : SG 6 6 0 12 f_s) (s_s_7 : SG 7 7 0 6 f_s) : CI l yX10_drawn cX10_drawn 2 (some .int) { frames := 6, cells := 0, slots := 0, locals := 137 } (GG D cI cJ cB cP cM cZ) D [(h0, .inr (10, vL 67 Fh)), (h_s, .inl (cI, 335, .inl f_s)), (h_paceAt, .inl (cI, 40, .inl f_paceAt)), (h_kindOf, .inl (cI, 4, .inl f_kindOf)), (h_behindAt, .inl (cI, 12, .inl f_behindAt))] sz [.ref h0, .int p0] (fun (r : Int32) (u : va_W) => ∃ (Gh : Nat → Value) (y_lineTime : Int32) (y_linePace : Int32) (y_inside : Int32) (y_late : Int32) (y_seed : Int32) (y_kicks : Int32) (y_bendsGone : Int32) (y_overAt : Int32) (y_endPace : Int32) (g_paceAt : Nat → Int32) (g_kindOf : Nat → Int32) (g_behindAt : Nat → Int32), SAME [0, 27, 28, 29, 30, 31, 32, 34, 35, 36] Fh Gh ∧ Gh 0 = .int 0 ∧ Gh 27 = .int y_lineTime ∧ Gh 28 = .int y_linePace ∧ Gh 29 = .int y_inside ∧ IR 0 15 y_inside ∧ Gh 30 = .int y_late ∧ IR 0 15 y_late ∧ Gh 31 = .int y_seed ∧ Gh 32 = .int y_kicks ∧ IR 0 1 y_kicks ∧ Gh 34 = .int y_bendsGone ∧ IR 0 12 y_bendsGone ∧ Gh 35 = .int y_overAt ∧ Gh 36 = .int y_endPace ∧ u = [(h0, .inr (10, vL 67 Gh)), (h_s, .inl (cI, 335, .inl f_s)), (h_paceAt, .inl (cI, 40, .inl g_paceAt)), (h_kindOf, .inl (cI, 4, .inl g_kindOf)), (h_behindAt, .inl (cI, 12, .inl g_behindAt))]) := by
  refine CI_mk (by decide) (Nat.le_of_ble_eq_true rfl) ?_
  intro p e s m below meth c A ls E hAe hG hsz hP hD hA hS hl
  obtain ⟨hx, hb, hr, hw, hown, hlocks, hml, hnm⟩ := E
  have hK := hG.1
  have i_x_inside : 0 ≤ x_inside.toInt ∧ x_inside.toInt ≤ 15 := i_x_inside
  have i_x_late : 0 ≤ x_late.toInt ∧ x_late.toInt ≤ 15 := i_x_late
  have i_x_kicks : 0 ≤ x_kicks.toInt ∧ x_kicks.toInt ≤ 1 := i_x_kicks
  have i_x_bendsGone : 0 ≤ x_bendsGone.toInt ∧ x_bendsGone.toInt ≤ 12 := i_x_bendsGone
  have i_x_touchBy : 0 ≤ x_touchBy.toInt ∧ x_touchBy.toInt ≤ 99 := i_x_touchBy
  have hl : lv_has ls 2 [(0, .ref h0), (1, .int p0)] := hl
  refine lv_aload_n hx hb dX10_drawn_0 rfl (lv_at hl 0 rfl) ?_
  refine lv_iconst (v := 0) hx hb dX10_drawn_1 (by decide) ?_
  refine put_f (D := D) (ci := 10) (v := .int 0) (ty := .int) (C := RX10) (T := TX10) (N := 67) hx hb hw inAX10 tyX10 tyX10_ok nmX10 hown hK hP hD hS 0 rfl rfl 0 (by decide) (hw _ q_1261) (fun _ h9 => h9) rfl (by decide +kernel) rfl rfl dX10_drawn_2 (fun H locs F1 eF1 hP hD hS => ?_)
  have hP : va_P D vwCl [(h0, .inr (10, vL 67 F1)), (h_s, .inl (cI, 335, .inl f_s)), (h_paceAt, .inl (cI, 40, .inl f_paceAt)), (h_kindOf, .inl (cI, 4, .inl f_kindOf)), (h_behindAt, .inl (cI, 12, .inl f_behindAt))] H := hP
  have hD : va_D A [(h0, .inr (10, vL 67 F1)), (h_s, .inl (cI, 335, .inl f_s)), (h_paceAt, .inl (cI, 40, .inl f_paceAt)), (h_kindOf, .inl (cI, 4, .inl f_kindOf)), (h_behindAt, .inl (cI, 12, .inl f_behindAt))] := hD
  refine lv_aload_n hx hb dX10_drawn_5 rfl (lv_at hl 0 rfl) ?_
  have n2 : F1 6 = .ref h_s := (get_ne eF1 (by decide) e_s)
  refine call_Vi (wr := [(h_paceAt, .inl (cI, 40, .inl f_paceAt)), (h_kindOf, .inl (cI, 4, .inl f_kindOf)), (h_behindAt, .inl (cI, 12, .inl f_behindAt))]) (As := []) (rest := []) hx hb hml hown hw (m_X10_hasCrew l D cI cJ cB cP cM cZ h0 h_s F1 f_s _ n2 s_s_K0 s_s_0 s_s_105 s_s_114 s_s_130 s_s_139 s_s_153 s_s_44 s_s_5 s_s_6 s_s_7) wV_X10_281_X10_hasCrew dX10_drawn_6 hK hP hD hS hA [0, 1] [2, 3, 4] rfl rfl (by decide) (by decide) (by decide) 0 10 rfl rfl GG.fb hG.at hl.1 rfl (Nat.le_of_ble_eq_true rfl) ⟨(Nat.le_of_ble_eq_true rfl), (Nat.le_of_ble_eq_true rfl)⟩ ⟨(Nat.le_of_ble_eq_true rfl), (Nat.le_of_ble_eq_true rfl)⟩ (fun r3 u H locs hp hP hD hS => ?_)
  rcases hp with ⟨rfl, rfl⟩ | ⟨rfl, rfl⟩
  · have hP : va_P D vwCl [(h_paceAt, .inl (cI, 40, .inl f_paceAt)), (h_kindOf, .inl (cI, 4, .inl f_kindOf)), (h_behindAt, .inl (cI, 12, .inl f_behindAt)), (h0, .inr (10, vL 67 F1)), (h_s, .inl (cI, 335, .inl f_s))] H := hP
    have hD : va_D A [(h_paceAt, .inl (cI, 40, .inl f_paceAt)), (h_kindOf, .inl (cI, 4, .inl f_kindOf)), (h_behindAt, .inl (cI, 12, .inl f_behindAt)), (h0, .inr (10, vL 67 F1)), (h_s, .inl (cI, 335, .inl f_s))] := hD
    refine W.widen (k := 0) (n := 0) (Nat.le_of_ble_eq_true rfl) (Nat.le_of_ble_eq_true rfl) ?_
    refine lv_if_eq (tgt := 20) hx hb dX10_drawn_9 (by decide) (fun _ => ?_) (fun g => absurd (by decide) g)
    refine lv_iconst (v := (-1)) hx hb dX10_drawn_20 (by decide) ?_
    exact ret_i (v := (-1)) hx hb hr hlocks hS (hP.sub (ws' := [(h0, .inr (10, vL 67 F1)), (h_s, .inl (cI, 335, .inl f_s)), (h_paceAt, .inl (cI, 40, .inl f_paceAt)), (h_kindOf, .inl (cI, 4, .inl f_kindOf)), (h_behindAt, .inl (cI, 12, .inl f_behindAt))]) [3, 4, 0, 1, 2] rfl) (hD.sub (ws' := [(h0, .inr (10, vL 67 F1)), (h_s, .inl (cI, 335, .inl f_s)), (h_paceAt, .inl (cI, 40, .inl f_paceAt)), (h_kindOf, .inl (cI, 4, .inl f_kindOf)), (h_behindAt, .inl (cI, 12, .inl f_behindAt))]) [3, 4, 0, 1, 2] (by decide) rfl) dX10_drawn_21 rfl (Nat.le_of_ble_eq_true rfl) (Nat.le_of_ble_eq_true rfl) ⟨F1, x_lineTime, x_linePace, x_inside, x_late, x_seed, x_kicks, x_bendsGone, x_overAt, x_endPace, f_paceAt, f_kindOf, f_behindAt, (SAME.up eF1 SAME.rf (by decide)), (get_eq eF1), (get_ne eF1 (by decide) e_lineTime), (get_ne eF1 (by decide) e_linePace), (get_ne eF1 (by decide) e_inside), i_x_inside, (get_ne eF1 (by decide) e_late), i_x_late, (get_ne eF1 (by decide) e_seed), (get_ne eF1 (by decide) e_kicks), i_x_kicks, (get_ne eF1 (by decide) e_bendsGone), i_x_bendsGone, (get_ne eF1 (by decide) e_overAt), (get_ne eF1 (by decide) e_endPace), rfl⟩
  · have hP : va_P D vwCl [(h_paceAt, .inl (cI, 40, .inl f_paceAt)), (h_kindOf, .inl (cI, 4, .inl f_kindOf)), (h_behindAt, .inl (cI, 12, .inl f_behindAt)), (h0, .inr (10, vL 67 F1)), (h_s, .inl (cI, 335, .inl f_s))] H := hP
    have hD : va_D A [(h_paceAt, .inl (cI, 40, .inl f_paceAt)), (h_kindOf, .inl (cI, 4, .inl f_kindOf)), (h_behindAt, .inl (cI, 12, .inl f_behindAt)), (h0, .inr (10, vL 67 F1)), (h_s, .inl (cI, 335, .inl f_s))] := hD
    refine W.widen (k := 0) (n := 0) (Nat.le_of_ble_eq_true rfl) (Nat.le_of_ble_eq_true rfl) ?_
    refine lv_if_eq (tgt := 20) hx hb dX10_drawn_9 (by decide) (fun g => absurd g (by decide)) (fun _ => ?_)
    refine lv_aload_n hx hb dX10_drawn_12 rfl (lv_at hl 0 rfl) ?_
    refine lv_iload_n hx hb dX10_drawn_13 rfl (lv_at hl 1 rfl) ?_
    have n5 : F1 25 = .ref h_paceAt := (get_ne eF1 (by decide) e_paceAt)
    have n6 : F1 26 = .ref h_kindOf := (get_ne eF1 (by decide) e_kindOf)
    have n7 : F1 33 = .ref h_behindAt := (get_ne eF1 (by decide) e_behindAt)
    have n8 : F1 37 = .int x_touchBend := (get_ne eF1 (by decide) e_touchBend)
    have n9 : F1 38 = .int x_touchBy := (get_ne eF1 (by decide) e_touchBy)
    refine call_Vi (wr := []) (As := [.int p0]) (rest := []) hx hb hml hown hw (m_X10_totalBy l D cI cJ cB cP cM cZ h0 h_s h_paceAt h_kindOf h_behindAt F1 x_touchBend x_touchBy f_s f_paceAt f_kindOf f_behindAt p0 _ n2 n5 n6 n7 n8 n9 i_x_touchBy s_s_K0 s_s_0 s_s_105 s_s_114 s_s_130 s_s_139 s_s_153 s_s_44 s_s_5 s_s_6 s_s_7) wV_X10_438_X10_totalBy dX10_drawn_14 hK hP hD hS hA [3, 4, 0, 1, 2] [] rfl rfl (by decide) (by decide) (by decide) 0 10 rfl rfl GG.fb hG.at hl.1 rfl (Nat.le_of_ble_eq_true rfl) ⟨(Nat.le_of_ble_eq_true rfl), (Nat.le_of_ble_eq_true rfl)⟩ ⟨(Nat.le_of_ble_eq_true rfl), (Nat.le_of_ble_eq_true rfl)⟩ (fun r10 u H locs hp hP hD hS => ?_)
    refine hp.elim (fun F11 h9z0 => h9z0.elim (fun y12 h9z1 => h9z1.elim (fun y13 h9z2 => h9z2.elim (fun y14 h9z3 => h9z3.elim (fun y15 h9z4 => h9z4.elim (fun y16 h9z5 => h9z5.elim (fun y17 h9z6 => h9z6.elim (fun y18 h9z7 => h9z7.elim (fun y19 h9z8 => h9z8.elim (fun g20 h9z9 => h9z9.elim (fun g21 h9z10 => h9z10.elim (fun g22 h9z11 => h9z11.elim (fun t23 h9z12 => h9z12.elim (fun t24 h9z13 => h9z13.elim (fun t25 h9z14 => h9z14.elim (fun t26 h9z15 => h9z15.elim (fun t27 h9z16 => h9z16.elim (fun t28 h9z17 => h9z17.elim (fun t29 h9z18 => h9z18.elim (fun t30 h9z19 => h9z19.elim (fun t31 h9z20 => h9z20.elim (fun t32 h9z21 => h9z21.elim (fun t33 h9z22 => h9z22.elim (fun t34 h9z23 => h9z23.elim (fun t35 h9z24 => h9z24.elim (fun t36 h9z25 => h9z25.elim (fun t37 h9z26 => ?_)))))))))))))))))))))))))))
    clear h9z0 h9z1 h9z2 h9z3 h9z4 h9z5 h9z6 h9z7 h9z8 h9z9 h9z10 h9z11 h9z12 h9z13 h9z14 h9z15 h9z16 h9z17 h9z18 h9z19 h9z20 h9z21 h9z22 h9z23 h9z24 h9z25
    subst h9z26
    have hP : va_P D vwCl [(h0, .inr (10, vL 67 F11)), (h_s, .inl (cI, 335, .inl f_s)), (h_paceAt, .inl (cI, 40, .inl g20)), (h_kindOf, .inl (cI, 4, .inl g21)), (h_behindAt, .inl (cI, 12, .inl g22))] H := hP
    have hD : va_D A [(h0, .inr (10, vL 67 F11)), (h_s, .inl (cI, 335, .inl f_s)), (h_paceAt, .inl (cI, 40, .inl g20)), (h_kindOf, .inl (cI, 4, .inl g21)), (h_behindAt, .inl (cI, 12, .inl g22))] := hD
    refine W.widen (k := 0) (n := 0) (Nat.le_of_ble_eq_true rfl) (Nat.le_of_ble_eq_true rfl) ?_
    refine lv_goto (tgt := 21) hx hb dX10_drawn_17 (by decide) ?_
    exact ret_i (v := r10) hx hb hr hlocks hS hP hD dX10_drawn_21 rfl (Nat.le_of_ble_eq_true rfl) (Nat.le_of_ble_eq_true rfl) ⟨F11, y12, y13, y14, y15, y16, 0, y17, y18, y19, g20, g21, g22, (SAME.tr (SAME.up eF1 SAME.rf (by decide)) t23 (by decide)), (SAME.at t23 (by decide) (get_eq eF1)), t24, t25, t27, t28, t29, t30, t31, t32, (show 0 ≤ (0 : Int32).toInt ∧ (0 : Int32).toInt ≤ 1 by decide), t33, t34, t35, t37, rfl⟩
set_option maxHeartbeats 4000000 in
set_option maxRecDepth 100000 in
theorem m_X10_odds (l : Launch) (D : va_G) (cI cJ cB cP cM cZ : ClassId) (h0 : Nat) (h_s : Nat) (h_paceAt : Nat) (h_kindOf : Nat) (h_behindAt : Nat) (Fh : Nat → Value) (x_lineTime : Int32) (x_linePace : Int32) (x_inside : Int32) (x_late : Int32) (x_seed : Int32) (x_kicks : Int32) (x_bendsGone : Int32) (x_overAt : Int32) (x_endPace : Int32) (x_touchBend : Int32) (x_touchBy : Int32) (f_s : Nat → Int32) (f_paceAt : Nat → Int32) (f_kindOf : Nat → Int32) (f_behindAt : Nat → Int32) (p0 : Int32) (p1 : Int32) (p2 : Int32) (sz : Nat) (e_s : Fh 6 = .ref h_s) (e_paceAt : Fh 25 = .ref h_paceAt) (e_kindOf : Fh 26 = .ref h_kindOf) (e_lineTime : Fh 27 = .int x_lineTime) (e_linePace : Fh 28 = .int x_linePace) (e_inside : Fh 29 = .int x_inside) (i_x_inside : IR 0 15 x_inside) (e_late : Fh 30 = .int x_late) (i_x_late : IR 0 15 x_late) (e_seed : Fh 31 = .int x_seed) (e_kicks : Fh 32 = .int x_kicks) (i_x_kicks : IR 0 1 x_kicks) (e_behindAt : Fh 33 = .ref h_behindAt) (e_bendsGone : Fh 34 = .int x_bendsGone) (i_x_bendsGone : IR 0 12 x_bendsGone) (e_overAt : Fh 35 = .int x_overAt) (e_endPace : Fh 36 = .int x_endPace) (e_touchBend : Fh 37 = .int x_touchBend) (e_touchBy : Fh 38 = .int x_touchBy) (i_x_touchBy : IR 0 99 x_touchBy) (s_s_K0 : KW 0 f_s) (s_s_0 : SG 0 0 0 40 f_s) (s_s_105 : SG 105 108 0 11 f_s) (s_s_114 : SG 114 114 0 5 f_s) (s_s_130 : SG 130 133 0 11 f_s) (s_s_139 : SG 139 139 0 5 f_s) (s_s_153 : SG 153 153 0 44 f_s) (s_s_44 : SG 44 55 0 9 f_s) (s_s_5 : SG 5 5 0 12 f_s) (s_s_6 : SG 6 6 0 12 f_s) (s_s_7 : SG 7 7 0 6 f_s) : CI l yX10_odds cX10_odds 7 (some .int) { frames := 6, cells := 0, slots := 0, locals := 137 } (GG D cI cJ cB cP cM cZ) D [(h0, .inr (10, vL 67 Fh)), (h_s, .inl (cI, 335, .inl f_s)), (h_paceAt, .inl (cI, 40, .inl f_paceAt)), (h_kindOf, .inl (cI, 4, .inl f_kindOf)), (h_behindAt, .inl (cI, 12, .inl f_behindAt))] sz [.ref h0, .int p0, .int p1, .int p2] (fun (r : Int32) (u : va_W) => ∃ (Gh : Nat → Value) (y_lineTime : Int32) (y_linePace : Int32) (y_inside : Int32) (y_late : Int32) (y_seed : Int32) (y_kicks : Int32) (y_bendsGone : Int32) (y_overAt : Int32) (y_endPace : Int32) (g_paceAt : Nat → Int32) (g_kindOf : Nat → Int32) (g_behindAt : Nat → Int32), SAME [0, 27, 28, 29, 30, 31, 32, 34, 35, 36] Fh Gh ∧ Gh 0 = .int 0 ∧ Gh 27 = .int y_lineTime ∧ Gh 28 = .int y_linePace ∧ Gh 29 = .int y_inside ∧ IR 0 15 y_inside ∧ Gh 30 = .int y_late ∧ IR 0 15 y_late ∧ Gh 31 = .int y_seed ∧ Gh 32 = .int y_kicks ∧ IR 0 1 y_kicks ∧ Gh 34 = .int y_bendsGone ∧ IR 0 12 y_bendsGone ∧ Gh 35 = .int y_overAt ∧ Gh 36 = .int y_endPace ∧ u = [(h0, .inr (10, vL 67 Gh)), (h_s, .inl (cI, 335, .inl f_s)), (h_paceAt, .inl (cI, 40, .inl g_paceAt)), (h_kindOf, .inl (cI, 4, .inl g_kindOf)), (h_behindAt, .inl (cI, 12, .inl g_behindAt))]) := by
  refine CI_mk (by decide) (Nat.le_of_ble_eq_true rfl) ?_
  intro p e s m below meth c A ls E hAe hG hsz hP hD hA hS hl
  obtain ⟨hx, hb, hr, hw, hown, hlocks, hml, hnm⟩ := E
  have hK := hG.1
  have i_x_inside : 0 ≤ x_inside.toInt ∧ x_inside.toInt ≤ 15 := i_x_inside
  have i_x_late : 0 ≤ x_late.toInt ∧ x_late.toInt ≤ 15 := i_x_late
  have i_x_kicks : 0 ≤ x_kicks.toInt ∧ x_kicks.toInt ≤ 1 := i_x_kicks
  have i_x_bendsGone : 0 ≤ x_bendsGone.toInt ∧ x_bendsGone.toInt ≤ 12 := i_x_bendsGone
  have i_x_touchBy : 0 ≤ x_touchBy.toInt ∧ x_touchBy.toInt ≤ 99 := i_x_touchBy
  have hl : lv_has ls 7 [(0, .ref h0), (1, .int p0), (2, .int p1), (3, .int p2)] := hl
  refine lv_aload_n hx hb dX10_odds_0 rfl (lv_at hl 0 rfl) ?_
  refine lv_iconst (v := 0) hx hb dX10_odds_1 (by decide) ?_
  refine put_f (D := D) (ci := 10) (v := .int 0) (ty := .int) (C := RX10) (T := TX10) (N := 67) hx hb hw inAX10 tyX10 tyX10_ok nmX10 hown hK hP hD hS 0 rfl rfl 0 (by decide) (hw _ q_1261) (fun _ h9 => h9) rfl (by decide +kernel) rfl rfl dX10_odds_2 (fun H locs F1 eF1 hP hD hS => ?_)
  have hP : va_P D vwCl [(h0, .inr (10, vL 67 F1)), (h_s, .inl (cI, 335, .inl f_s)), (h_paceAt, .inl (cI, 40, .inl f_paceAt)), (h_kindOf, .inl (cI, 4, .inl f_kindOf)), (h_behindAt, .inl (cI, 12, .inl f_behindAt))] H := hP
  have hD : va_D A [(h0, .inr (10, vL 67 F1)), (h_s, .inl (cI, 335, .inl f_s)), (h_paceAt, .inl (cI, 40, .inl f_paceAt)), (h_kindOf, .inl (cI, 4, .inl f_kindOf)), (h_behindAt, .inl (cI, 12, .inl f_behindAt))] := hD
  refine lv_aload_n hx hb dX10_odds_5 rfl (lv_at hl 0 rfl) ?_
  have n2 : F1 6 = .ref h_s := (get_ne eF1 (by decide) e_s)
  refine call_Vi (wr := [(h_paceAt, .inl (cI, 40, .inl f_paceAt)), (h_kindOf, .inl (cI, 4, .inl f_kindOf)), (h_behindAt, .inl (cI, 12, .inl f_behindAt))]) (As := []) (rest := []) hx hb hml hown hw (m_X10_hasCrew l D cI cJ cB cP cM cZ h0 h_s F1 f_s _ n2 s_s_K0 s_s_0 s_s_105 s_s_114 s_s_130 s_s_139 s_s_153 s_s_44 s_s_5 s_s_6 s_s_7) wV_X10_281_X10_hasCrew dX10_odds_6 hK hP hD hS hA [0, 1] [2, 3, 4] rfl rfl (by decide) (by decide) (by decide) 0 10 rfl rfl GG.fb hG.at hl.1 rfl (Nat.le_of_ble_eq_true rfl) ⟨(Nat.le_of_ble_eq_true rfl), (Nat.le_of_ble_eq_true rfl)⟩ ⟨(Nat.le_of_ble_eq_true rfl), (Nat.le_of_ble_eq_true rfl)⟩ (fun r3 u H locs hp hP hD hS => ?_)
  rcases hp with ⟨rfl, rfl⟩ | ⟨rfl, rfl⟩
  · have hP : va_P D vwCl [(h_paceAt, .inl (cI, 40, .inl f_paceAt)), (h_kindOf, .inl (cI, 4, .inl f_kindOf)), (h_behindAt, .inl (cI, 12, .inl f_behindAt)), (h0, .inr (10, vL 67 F1)), (h_s, .inl (cI, 335, .inl f_s))] H := hP
    have hD : va_D A [(h_paceAt, .inl (cI, 40, .inl f_paceAt)), (h_kindOf, .inl (cI, 4, .inl f_kindOf)), (h_behindAt, .inl (cI, 12, .inl f_behindAt)), (h0, .inr (10, vL 67 F1)), (h_s, .inl (cI, 335, .inl f_s))] := hD
    refine W.widen (k := 0) (n := 0) (Nat.le_of_ble_eq_true rfl) (Nat.le_of_ble_eq_true rfl) ?_
    refine lv_if_eq (tgt := 22) hx hb dX10_odds_9 (by decide) (fun _ => ?_) (fun g => absurd (by decide) g)
    refine lv_iconst (v := (-1)) hx hb dX10_odds_22 (by decide) ?_
    exact ret_i (v := (-1)) hx hb hr hlocks hS (hP.sub (ws' := [(h0, .inr (10, vL 67 F1)), (h_s, .inl (cI, 335, .inl f_s)), (h_paceAt, .inl (cI, 40, .inl f_paceAt)), (h_kindOf, .inl (cI, 4, .inl f_kindOf)), (h_behindAt, .inl (cI, 12, .inl f_behindAt))]) [3, 4, 0, 1, 2] rfl) (hD.sub (ws' := [(h0, .inr (10, vL 67 F1)), (h_s, .inl (cI, 335, .inl f_s)), (h_paceAt, .inl (cI, 40, .inl f_paceAt)), (h_kindOf, .inl (cI, 4, .inl f_kindOf)), (h_behindAt, .inl (cI, 12, .inl f_behindAt))]) [3, 4, 0, 1, 2] (by decide) rfl) dX10_odds_23 rfl (Nat.le_of_ble_eq_true rfl) (Nat.le_of_ble_eq_true rfl) ⟨F1, x_lineTime, x_linePace, x_inside, x_late, x_seed, x_kicks, x_bendsGone, x_overAt, x_endPace, f_paceAt, f_kindOf, f_behindAt, (SAME.up eF1 SAME.rf (by decide)), (get_eq eF1), (get_ne eF1 (by decide) e_lineTime), (get_ne eF1 (by decide) e_linePace), (get_ne eF1 (by decide) e_inside), i_x_inside, (get_ne eF1 (by decide) e_late), i_x_late, (get_ne eF1 (by decide) e_seed), (get_ne eF1 (by decide) e_kicks), i_x_kicks, (get_ne eF1 (by decide) e_bendsGone), i_x_bendsGone, (get_ne eF1 (by decide) e_overAt), (get_ne eF1 (by decide) e_endPace), rfl⟩
  · have hP : va_P D vwCl [(h_paceAt, .inl (cI, 40, .inl f_paceAt)), (h_kindOf, .inl (cI, 4, .inl f_kindOf)), (h_behindAt, .inl (cI, 12, .inl f_behindAt)), (h0, .inr (10, vL 67 F1)), (h_s, .inl (cI, 335, .inl f_s))] H := hP
    have hD : va_D A [(h_paceAt, .inl (cI, 40, .inl f_paceAt)), (h_kindOf, .inl (cI, 4, .inl f_kindOf)), (h_behindAt, .inl (cI, 12, .inl f_behindAt)), (h0, .inr (10, vL 67 F1)), (h_s, .inl (cI, 335, .inl f_s))] := hD
    refine W.widen (k := 0) (n := 0) (Nat.le_of_ble_eq_true rfl) (Nat.le_of_ble_eq_true rfl) ?_
    refine lv_if_eq (tgt := 22) hx hb dX10_odds_9 (by decide) (fun g => absurd g (by decide)) (fun _ => ?_)
    refine lv_iload_n hx hb dX10_odds_12 rfl (lv_at hl 1 rfl) ?_
    refine lv_iconst (v := 1) hx hb dX10_odds_13 (by decide) ?_
    refine lv_bipush (v := 60) hx hb dX10_odds_14 (by decide) ?_
    refine call_Si (wr := [(h_paceAt, .inl (cI, 40, .inl f_paceAt)), (h_kindOf, .inl (cI, 4, .inl f_kindOf)), (h_behindAt, .inl (cI, 12, .inl f_behindAt)), (h0, .inr (10, vL 67 F1)), (h_s, .inl (cI, 335, .inl f_s))]) (As := [.int p0, .int 1, .int 60]) (rest := []) hx hb hml hown hw (m_X10_isIn l D cI cJ cB cP cM cZ p0 1 60 _ ) wS_X10_211_X10_isIn dX10_odds_16 hP hD hS hA [] [0, 1, 2, 3, 4] rfl rfl (by decide) (by decide) (by decide) GG.fb hG.at hl.1 rfl (Nat.le_of_ble_eq_true rfl) ⟨(Nat.le_of_ble_eq_true rfl), (Nat.le_of_ble_eq_true rfl)⟩ ⟨(Nat.le_of_ble_eq_true rfl), (Nat.le_of_ble_eq_true rfl)⟩ (fun r5 u H locs hp hP hD hS => ?_)
    have zl1 : (1 : Int32).toInt = 1 := by decide
    have zl60 : (60 : Int32).toInt = 60 := by decide
    rcases hp with ⟨t6, rfl, rfl⟩ | ⟨t7, t8, rfl, rfl⟩ | ⟨t9, t10, rfl, rfl⟩
    · have hP : va_P D vwCl [(h_paceAt, .inl (cI, 40, .inl f_paceAt)), (h_kindOf, .inl (cI, 4, .inl f_kindOf)), (h_behindAt, .inl (cI, 12, .inl f_behindAt)), (h0, .inr (10, vL 67 F1)), (h_s, .inl (cI, 335, .inl f_s))] H := hP
      have hD : va_D A [(h_paceAt, .inl (cI, 40, .inl f_paceAt)), (h_kindOf, .inl (cI, 4, .inl f_kindOf)), (h_behindAt, .inl (cI, 12, .inl f_behindAt)), (h0, .inr (10, vL 67 F1)), (h_s, .inl (cI, 335, .inl f_s))] := hD
      refine W.widen (k := 0) (n := 0) (Nat.le_of_ble_eq_true rfl) (Nat.le_of_ble_eq_true rfl) ?_
      have k12 : (-2147483648) ≤ p0.toInt ∧ p0.toInt ≤ 0 := ⟨(ir_any _).1, up_lt t6 (Int.le_refl _) (by decide)⟩
      refine lv_if_ne (tgt := 24) hx hb dX10_odds_19 (by decide) (fun g => absurd (by decide) g) (fun _ => ?_)
      refine lv_iconst (v := (-1)) hx hb dX10_odds_22 (by decide) ?_
      exact ret_i (v := (-1)) hx hb hr hlocks hS (hP.sub (ws' := [(h0, .inr (10, vL 67 F1)), (h_s, .inl (cI, 335, .inl f_s)), (h_paceAt, .inl (cI, 40, .inl f_paceAt)), (h_kindOf, .inl (cI, 4, .inl f_kindOf)), (h_behindAt, .inl (cI, 12, .inl f_behindAt))]) [3, 4, 0, 1, 2] rfl) (hD.sub (ws' := [(h0, .inr (10, vL 67 F1)), (h_s, .inl (cI, 335, .inl f_s)), (h_paceAt, .inl (cI, 40, .inl f_paceAt)), (h_kindOf, .inl (cI, 4, .inl f_kindOf)), (h_behindAt, .inl (cI, 12, .inl f_behindAt))]) [3, 4, 0, 1, 2] (by decide) rfl) dX10_odds_23 rfl (Nat.le_of_ble_eq_true rfl) (Nat.le_of_ble_eq_true rfl) ⟨F1, x_lineTime, x_linePace, x_inside, x_late, x_seed, x_kicks, x_bendsGone, x_overAt, x_endPace, f_paceAt, f_kindOf, f_behindAt, (SAME.up eF1 SAME.rf (by decide)), (get_eq eF1), (get_ne eF1 (by decide) e_lineTime), (get_ne eF1 (by decide) e_linePace), (get_ne eF1 (by decide) e_inside), i_x_inside, (get_ne eF1 (by decide) e_late), i_x_late, (get_ne eF1 (by decide) e_seed), (get_ne eF1 (by decide) e_kicks), i_x_kicks, (get_ne eF1 (by decide) e_bendsGone), i_x_bendsGone, (get_ne eF1 (by decide) e_overAt), (get_ne eF1 (by decide) e_endPace), rfl⟩
    · have hP : va_P D vwCl [(h_paceAt, .inl (cI, 40, .inl f_paceAt)), (h_kindOf, .inl (cI, 4, .inl f_kindOf)), (h_behindAt, .inl (cI, 12, .inl f_behindAt)), (h0, .inr (10, vL 67 F1)), (h_s, .inl (cI, 335, .inl f_s))] H := hP
      have hD : va_D A [(h_paceAt, .inl (cI, 40, .inl f_paceAt)), (h_kindOf, .inl (cI, 4, .inl f_kindOf)), (h_behindAt, .inl (cI, 12, .inl f_behindAt)), (h0, .inr (10, vL 67 F1)), (h_s, .inl (cI, 335, .inl f_s))] := hD
      refine W.widen (k := 0) (n := 0) (Nat.le_of_ble_eq_true rfl) (Nat.le_of_ble_eq_true rfl) ?_
      have k13 : 1 ≤ p0.toInt ∧ p0.toInt ≤ 2147483647 := ⟨Int.le_trans (Int.le_refl _) t7, (ir_any _).2⟩
      have k14 : 61 ≤ p0.toInt ∧ p0.toInt ≤ 2147483647 := ⟨lo_lt t8 (Int.le_refl _) (by decide), k13.2⟩
      refine lv_if_ne (tgt := 24) hx hb dX10_odds_19 (by decide) (fun g => absurd (by decide) g) (fun _ => ?_)
      refine lv_iconst (v := (-1)) hx hb dX10_odds_22 (by decide) ?_
      exact ret_i (v := (-1)) hx hb hr hlocks hS (hP.sub (ws' := [(h0, .inr (10, vL 67 F1)), (h_s, .inl (cI, 335, .inl f_s)), (h_paceAt, .inl (cI, 40, .inl f_paceAt)), (h_kindOf, .inl (cI, 4, .inl f_kindOf)), (h_behindAt, .inl (cI, 12, .inl f_behindAt))]) [3, 4, 0, 1, 2] rfl) (hD.sub (ws' := [(h0, .inr (10, vL 67 F1)), (h_s, .inl (cI, 335, .inl f_s)), (h_paceAt, .inl (cI, 40, .inl f_paceAt)), (h_kindOf, .inl (cI, 4, .inl f_kindOf)), (h_behindAt, .inl (cI, 12, .inl f_behindAt))]) [3, 4, 0, 1, 2] (by decide) rfl) dX10_odds_23 rfl (Nat.le_of_ble_eq_true rfl) (Nat.le_of_ble_eq_true rfl) ⟨F1, x_lineTime, x_linePace, x_inside, x_late, x_seed, x_kicks, x_bendsGone, x_overAt, x_endPace, f_paceAt, f_kindOf, f_behindAt, (SAME.up eF1 SAME.rf (by decide)), (get_eq eF1), (get_ne eF1 (by decide) e_lineTime), (get_ne eF1 (by decide) e_linePace), (get_ne eF1 (by decide) e_inside), i_x_inside, (get_ne eF1 (by decide) e_late), i_x_late, (get_ne eF1 (by decide) e_seed), (get_ne eF1 (by decide) e_kicks), i_x_kicks, (get_ne eF1 (by decide) e_bendsGone), i_x_bendsGone, (get_ne eF1 (by decide) e_overAt), (get_ne eF1 (by decide) e_endPace), rfl⟩
    · have hP : va_P D vwCl [(h_paceAt, .inl (cI, 40, .inl f_paceAt)), (h_kindOf, .inl (cI, 4, .inl f_kindOf)), (h_behindAt, .inl (cI, 12, .inl f_behindAt)), (h0, .inr (10, vL 67 F1)), (h_s, .inl (cI, 335, .inl f_s))] H := hP
      have hD : va_D A [(h_paceAt, .inl (cI, 40, .inl f_paceAt)), (h_kindOf, .inl (cI, 4, .inl f_kindOf)), (h_behindAt, .inl (cI, 12, .inl f_behindAt)), (h0, .inr (10, vL 67 F1)), (h_s, .inl (cI, 335, .inl f_s))] := hD
      refine W.widen (k := 0) (n := 0) (Nat.le_of_ble_eq_true rfl) (Nat.le_of_ble_eq_true rfl) ?_
      have k15 : 1 ≤ p0.toInt ∧ p0.toInt ≤ 2147483647 := ⟨Int.le_trans (Int.le_refl _) t9, (ir_any _).2⟩
      have k16 : 1 ≤ p0.toInt ∧ p0.toInt ≤ 60 := ⟨k15.1, Int.le_trans t10 (Int.le_refl _)⟩
      refine lv_if_ne (tgt := 24) hx hb dX10_odds_19 (by decide) (fun _ => ?_) (fun g => absurd g (by decide))
      refine lv_iconst (v := 0) hx hb dX10_odds_24 (by decide) ?_
      refine lv_istore (lv' := [(4, .int 0), (0, .ref h0), (1, .int p0), (2, .int p1), (3, .int p2)]) hx hb dX10_odds_25 hl (by decide) rfl (fun ls hl => ?_)
      refine lv_iconst (v := 0) hx hb dX10_odds_27 (by decide) ?_
      refine lv_istore (lv' := [(5, .int 0), (4, .int 0), (0, .ref h0), (1, .int p0), (2, .int p1), (3, .int p2)]) hx hb dX10_odds_28 hl (by decide) rfl (fun ls hl => ?_)
      have n32 : F1 27 = .int x_lineTime := (get_ne eF1 (by decide) e_lineTime)
      have n33 : F1 28 = .int x_linePace := (get_ne eF1 (by decide) e_linePace)
      have n34 : F1 29 = .int x_inside := (get_ne eF1 (by decide) e_inside)
      have n35 : F1 30 = .int x_late := (get_ne eF1 (by decide) e_late)
      have n36 : F1 31 = .int x_seed := (get_ne eF1 (by decide) e_seed)
      have n37 : F1 32 = .int x_kicks := (get_ne eF1 (by decide) e_kicks)
      have n38 : F1 34 = .int x_bendsGone := (get_ne eF1 (by decide) e_bendsGone)
      have n39 : F1 35 = .int x_overAt := (get_ne eF1 (by decide) e_overAt)
      have n40 : F1 36 = .int x_endPace := (get_ne eF1 (by decide) e_endPace)
      refine mloop (α := (Int32) × (Int32) × (Nat → Int32) × (Nat → Int32) × (Nat → Int32) × (Nat → Value) × (Int32) × (Int32) × (Int32) × (Int32) × (Int32) × (Int32) × (Int32) × (Int32) × (Int32)) (nL := 7) (D := D) (A := A) (H0 := s.heap) (fun a => (60 - a.1.toInt).toNat) (fun a => IR 0 60 a.1 ∧ SAME [27, 28, 29, 30, 31, 32, 34, 35, 36] F1 a.2.2.2.2.2.1 ∧ a.2.2.2.2.2.1 27 = .int a.2.2.2.2.2.2.1 ∧ a.2.2.2.2.2.1 28 = .int a.2.2.2.2.2.2.2.1 ∧ a.2.2.2.2.2.1 29 = .int a.2.2.2.2.2.2.2.2.1 ∧ a.2.2.2.2.2.1 30 = .int a.2.2.2.2.2.2.2.2.2.1 ∧ a.2.2.2.2.2.1 31 = .int a.2.2.2.2.2.2.2.2.2.2.1 ∧ a.2.2.2.2.2.1 32 = .int a.2.2.2.2.2.2.2.2.2.2.2.1 ∧ a.2.2.2.2.2.1 34 = .int a.2.2.2.2.2.2.2.2.2.2.2.2.1 ∧ a.2.2.2.2.2.1 35 = .int a.2.2.2.2.2.2.2.2.2.2.2.2.2.1 ∧ a.2.2.2.2.2.1 36 = .int a.2.2.2.2.2.2.2.2.2.2.2.2.2.2 ∧ IR 0 15 a.2.2.2.2.2.2.2.2.1 ∧ IR 0 15 a.2.2.2.2.2.2.2.2.2.1 ∧ IR 0 1 a.2.2.2.2.2.2.2.2.2.2.2.1 ∧ IR 0 12 a.2.2.2.2.2.2.2.2.2.2.2.2.1) (fun a => [(h_paceAt, .inl (cI, 40, .inl a.2.2.1)), (h_kindOf, .inl (cI, 4, .inl a.2.2.2.1)), (h_behindAt, .inl (cI, 12, .inl a.2.2.2.2.1)), (h0, .inr (10, vL 67 a.2.2.2.2.2.1)), (h_s, .inl (cI, 335, .inl f_s))]) (fun a => [(5, .int a.1), (4, .int a.2.1), (0, .ref h0), (1, .int p0), (2, .int p1), (3, .int p2)]) (fun H locs ls => W p l e ({ frames := 6, cells := 0, slots := 0, locals := 137 } : Room) s m [.ref h0, .int p0, .int p1, .int p2].toArray below meth c H locs 0 0 (MQ below (va_Qi (fun (r : Int32) (u : va_W) => ∃ (Gh : Nat → Value) (y_lineTime : Int32) (y_linePace : Int32) (y_inside : Int32) (y_late : Int32) (y_seed : Int32) (y_kicks : Int32) (y_bendsGone : Int32) (y_overAt : Int32) (y_endPace : Int32) (g_paceAt : Nat → Int32) (g_kindOf : Nat → Int32) (g_behindAt : Nat → Int32), SAME [0, 27, 28, 29, 30, 31, 32, 34, 35, 36] Fh Gh ∧ Gh 0 = .int 0 ∧ Gh 27 = .int y_lineTime ∧ Gh 28 = .int y_linePace ∧ Gh 29 = .int y_inside ∧ IR 0 15 y_inside ∧ Gh 30 = .int y_late ∧ IR 0 15 y_late ∧ Gh 31 = .int y_seed ∧ Gh 32 = .int y_kicks ∧ IR 0 1 y_kicks ∧ Gh 34 = .int y_bendsGone ∧ IR 0 12 y_bendsGone ∧ Gh 35 = .int y_overAt ∧ Gh 36 = .int y_endPace ∧ u = [(h0, .inr (10, vL 67 Gh)), (h_s, .inl (cI, 335, .inl f_s)), (h_paceAt, .inl (cI, 40, .inl g_paceAt)), (h_kindOf, .inl (cI, 4, .inl g_kindOf)), (h_behindAt, .inl (cI, 12, .inl g_behindAt))]) (PO D A) A) [.ref h0, .int p0, .int p1, .int p2].toArray s 0 0 A) (F0 m 30 ls [])) ?_ (0, 0, f_paceAt, f_kindOf, f_behindAt, F1, x_lineTime, x_linePace, x_inside, x_late, x_seed, x_kicks, x_bendsGone, x_overAt, x_endPace) ⟨(show 0 ≤ (0 : Int32).toInt ∧ (0 : Int32).toInt ≤ 60 by decide), SAME.rf, n32, n33, n34, n35, n36, n37, n38, n39, n40, i_x_inside, i_x_late, i_x_kicks, i_x_bendsGone⟩ _ _ _ hP hD hS hl
      rintro ⟨u17, u18, w19, w20, w21, G22, u23, u24, u25, u26, u27, u28, u29, u30, u31⟩ ⟨i41, i42, i43, i44, i45, i46, i47, i48, i49, i50, i51, i52, i53, i54, i55⟩ ih H locs ls hP hD hS hl
      have i41 : 0 ≤ u17.toInt ∧ u17.toInt ≤ 60 := i41
      have i52 : 0 ≤ u25.toInt ∧ u25.toInt ≤ 15 := i52
      have i53 : 0 ≤ u26.toInt ∧ u26.toInt ≤ 15 := i53
      have i54 : 0 ≤ u28.toInt ∧ u28.toInt ≤ 1 := i54
      have i55 : 0 ≤ u29.toInt ∧ u29.toInt ≤ 12 := i55
      have hP : va_P D vwCl [(h_paceAt, .inl (cI, 40, .inl w19)), (h_kindOf, .inl (cI, 4, .inl w20)), (h_behindAt, .inl (cI, 12, .inl w21)), (h0, .inr (10, vL 67 G22)), (h_s, .inl (cI, 335, .inl f_s))] H := hP
      have hD : va_D A [(h_paceAt, .inl (cI, 40, .inl w19)), (h_kindOf, .inl (cI, 4, .inl w20)), (h_behindAt, .inl (cI, 12, .inl w21)), (h0, .inr (10, vL 67 G22)), (h_s, .inl (cI, 335, .inl f_s))] := hD
      have hl : lv_has ls 7 [(5, .int u17), (4, .int u18), (0, .ref h0), (1, .int p0), (2, .int p1), (3, .int p2)] := hl
      refine lv_iload hx hb dX10_odds_30 (lv_at hl 0 rfl) ?_
      refine lv_iload_n hx hb dX10_odds_32 rfl (lv_at hl 3 rfl) ?_
      refine lv_icmp_ge (tgt := 73) hx hb dX10_odds_33 (by decide) (fun c56 => ?_) (fun c56 => ?_)
      · have dc56 : p0.toInt ≤ u17.toInt := le_i (a := p0.toInt) (b := u17.toInt) rfl rfl c56
        have k57 : 1 ≤ u17.toInt ∧ u17.toInt ≤ 60 := ⟨Int.le_trans k16.1 dc56, i41.2⟩
        refine lv_iload hx hb dX10_odds_73 (lv_at hl 1 rfl) ?_
        exact ret_i (v := u18) hx hb hr hlocks hS (hP.sub (ws' := [(h0, .inr (10, vL 67 G22)), (h_s, .inl (cI, 335, .inl f_s)), (h_paceAt, .inl (cI, 40, .inl w19)), (h_kindOf, .inl (cI, 4, .inl w20)), (h_behindAt, .inl (cI, 12, .inl w21))]) [3, 4, 0, 1, 2] rfl) (hD.sub (ws' := [(h0, .inr (10, vL 67 G22)), (h_s, .inl (cI, 335, .inl f_s)), (h_paceAt, .inl (cI, 40, .inl w19)), (h_kindOf, .inl (cI, 4, .inl w20)), (h_behindAt, .inl (cI, 12, .inl w21))]) [3, 4, 0, 1, 2] (by decide) rfl) dX10_odds_75 rfl (Nat.le_of_ble_eq_true rfl) (Nat.le_of_ble_eq_true rfl) ⟨G22, u23, u24, u25, u26, u27, u28, u29, u30, u31, w19, w20, w21, (SAME.tr (SAME.up eF1 SAME.rf (by decide)) i42 (by decide)), (SAME.at i42 (by decide) (get_eq eF1)), i43, i44, i45, i52, i46, i53, i47, i48, i54, i49, i55, i50, i51, rfl⟩
      · have dc56 : u17.toInt < p0.toInt := nle_i (a := p0.toInt) (b := u17.toInt) rfl rfl c56
        have k58 : 0 ≤ u17.toInt ∧ u17.toInt ≤ 59 := ⟨i41.1, up_lt dc56 k16.2 (by decide)⟩
        refine lv_aload_n hx hb dX10_odds_36 rfl (lv_at hl 2 rfl) ?_
        refine lv_iload_n hx hb dX10_odds_37 rfl (lv_at hl 4 rfl) ?_
        refine lv_iload hx hb dX10_odds_38 (lv_at hl 0 rfl) ?_
        refine lv_iadd hx hb dX10_odds_40 ?_
        refine lv_topi (fun v59 ev59 => ?_)
        have n60 : G22 6 = .ref h_s := (SAME.at i42 (by decide) n2)
        have n61 : F1 25 = .ref h_paceAt := (get_ne eF1 (by decide) e_paceAt)
        have n62 : G22 25 = .ref h_paceAt := (SAME.at i42 (by decide) n61)
        have n63 : F1 26 = .ref h_kindOf := (get_ne eF1 (by decide) e_kindOf)
        have n64 : G22 26 = .ref h_kindOf := (SAME.at i42 (by decide) n63)
        have n65 : F1 33 = .ref h_behindAt := (get_ne eF1 (by decide) e_behindAt)
        have n66 : G22 33 = .ref h_behindAt := (SAME.at i42 (by decide) n65)
        have n67 : F1 37 = .int x_touchBend := (get_ne eF1 (by decide) e_touchBend)
        have n68 : G22 37 = .int x_touchBend := (SAME.at i42 (by decide) n67)
        have n69 : F1 38 = .int x_touchBy := (get_ne eF1 (by decide) e_touchBy)
        have n70 : G22 38 = .int x_touchBy := (SAME.at i42 (by decide) n69)
        refine call_Vi (wr := []) (As := [.int v59]) (rest := []) hx hb hml hown hw (m_X10_totalBy l D cI cJ cB cP cM cZ h0 h_s h_paceAt h_kindOf h_behindAt G22 x_touchBend x_touchBy f_s w19 w20 w21 v59 _ n60 n62 n64 n66 n68 n70 i_x_touchBy s_s_K0 s_s_0 s_s_105 s_s_114 s_s_130 s_s_139 s_s_153 s_s_44 s_s_5 s_s_6 s_s_7) wV_X10_438_X10_totalBy dX10_odds_41 hK hP hD hS hA [3, 4, 0, 1, 2] [] rfl rfl (by decide) (by decide) (by decide) 0 10 rfl rfl GG.fb hG.at hl.1 rfl (Nat.le_of_ble_eq_true rfl) ⟨(Nat.le_of_ble_eq_true rfl), (Nat.le_of_ble_eq_true rfl)⟩ ⟨(Nat.le_of_ble_eq_true rfl), (Nat.le_of_ble_eq_true rfl)⟩ (fun r71 u H locs hp hP hD hS => ?_)
        refine hp.elim (fun F72 h9z0 => h9z0.elim (fun y73 h9z1 => h9z1.elim (fun y74 h9z2 => h9z2.elim (fun y75 h9z3 => h9z3.elim (fun y76 h9z4 => h9z4.elim (fun y77 h9z5 => h9z5.elim (fun y78 h9z6 => h9z6.elim (fun y79 h9z7 => h9z7.elim (fun y80 h9z8 => h9z8.elim (fun g81 h9z9 => h9z9.elim (fun g82 h9z10 => h9z10.elim (fun g83 h9z11 => h9z11.elim (fun t84 h9z12 => h9z12.elim (fun t85 h9z13 => h9z13.elim (fun t86 h9z14 => h9z14.elim (fun t87 h9z15 => h9z15.elim (fun t88 h9z16 => h9z16.elim (fun t89 h9z17 => h9z17.elim (fun t90 h9z18 => h9z18.elim (fun t91 h9z19 => h9z19.elim (fun t92 h9z20 => h9z20.elim (fun t93 h9z21 => h9z21.elim (fun t94 h9z22 => h9z22.elim (fun t95 h9z23 => h9z23.elim (fun t96 h9z24 => h9z24.elim (fun t97 h9z25 => h9z25.elim (fun t98 h9z26 => ?_)))))))))))))))))))))))))))
        clear h9z0 h9z1 h9z2 h9z3 h9z4 h9z5 h9z6 h9z7 h9z8 h9z9 h9z10 h9z11 h9z12 h9z13 h9z14 h9z15 h9z16 h9z17 h9z18 h9z19 h9z20 h9z21 h9z22 h9z23 h9z24 h9z25
        subst h9z26
        have hP : va_P D vwCl [(h0, .inr (10, vL 67 F72)), (h_s, .inl (cI, 335, .inl f_s)), (h_paceAt, .inl (cI, 40, .inl g81)), (h_kindOf, .inl (cI, 4, .inl g82)), (h_behindAt, .inl (cI, 12, .inl g83))] H := hP
        have hD : va_D A [(h0, .inr (10, vL 67 F72)), (h_s, .inl (cI, 335, .inl f_s)), (h_paceAt, .inl (cI, 40, .inl g81)), (h_kindOf, .inl (cI, 4, .inl g82)), (h_behindAt, .inl (cI, 12, .inl g83))] := hD
        refine W.widen (k := 0) (n := 0) (Nat.le_of_ble_eq_true rfl) (Nat.le_of_ble_eq_true rfl) ?_
        refine lv_istore (lv' := [(6, .int r71), (5, .int u17), (4, .int u18), (0, .ref h0), (1, .int p0), (2, .int p1), (3, .int p2)]) hx hb dX10_odds_44 hl (by decide) rfl (fun ls hl => ?_)
        refine lv_iload hx hb dX10_odds_46 (lv_at hl 2 rfl) ?_
        refine lv_iload hx hb dX10_odds_48 (lv_at hl 0 rfl) ?_
        refine lv_if_lt (tgt := 63) hx hb dX10_odds_50 (by decide) (fun c100 => ?_) (fun c100 => ?_)
        · have dc100 : r71.toInt < 0 := lt_i (a := r71.toInt) (b := 0) rfl rfl c100
          have k101 : (-2147483648) ≤ r71.toInt ∧ r71.toInt ≤ (-1) := ⟨(ir_any _).1, up_lt dc100 (Int.le_refl _) (by decide)⟩
          refine lv_iconst (v := 0) hx hb dX10_odds_63 (by decide) ?_
          refine lv_iadd hx hb dX10_odds_64 ?_
          refine lv_topi (fun v102 ev102 => ?_)
          have bv102 : v102.toInt = u18.toInt + 0 := by rw [ev102]; exact add_k rfl rfl (ir_any _) ⟨Int.le_refl _, Int.le_refl _⟩ (by decide)
          have k103 : (-2147483648) ≤ v102.toInt ∧ v102.toInt ≤ 2147483647 := add_r bv102 (ir_any _) ⟨Int.le_refl _, Int.le_refl _⟩ (by decide)
          refine lv_istore (lv' := [(4, .int v102), (6, .int r71), (5, .int u17), (0, .ref h0), (1, .int p0), (2, .int p1), (3, .int p2)]) hx hb dX10_odds_65 hl (by decide) rfl (fun ls hl => ?_)
          obtain ⟨v104, ev104⟩ : ∃ z : Int32, z = u17 + 1 := ⟨_, rfl⟩
          have bv104 : v104.toInt = u17.toInt + 1 := by rw [ev104]; exact add_k rfl rfl k58 ⟨Int.le_refl _, Int.le_refl _⟩ (by decide)
          have k105 : 1 ≤ v104.toInt ∧ v104.toInt ≤ 60 := add_r bv104 k58 ⟨Int.le_refl _, Int.le_refl _⟩ (by decide)
          refine lv_iinc (v := v104) (lv' := [(5, .int v104), (4, .int v102), (6, .int r71), (0, .ref h0), (1, .int p0), (2, .int p1), (3, .int p2)]) hx hb dX10_odds_67 hl (k := 2) rfl (by rw [ev104]; rfl) (by decide) rfl (fun ls hl => ?_)
          refine lv_goto (tgt := 30) hx hb dX10_odds_70 (by decide) ?_
          exact ih (v104, v102, g81, g82, g83, F72, y73, y74, y75, y76, y77, 0, y78, y79, y80) ⟨(ir_wk k105 (by decide) (by decide)), (SAME.tr (SAME.tr SAME.rf i42 (by decide)) t84 (by decide)), t85, t86, t88, t90, t92, t93, t94, t96, t98, t89, t91, (show 0 ≤ (0 : Int32).toInt ∧ (0 : Int32).toInt ≤ 1 by decide), t95⟩ (by show (60 - v104.toInt).toNat < (60 - u17.toInt).toNat; omega) _ _ _ (hP.sub [2, 3, 4, 0, 1] rfl) (hD.sub [2, 3, 4, 0, 1] (by decide) rfl) hS (lv_sub hl [0, 1, 3, 4, 5, 6] rfl)
        · have dc100 : 0 ≤ r71.toInt := nlt_i (a := r71.toInt) (b := 0) rfl rfl c100
          have k106 : 0 ≤ r71.toInt ∧ r71.toInt ≤ 2147483647 := ⟨Int.le_trans (Int.le_refl _) dc100, (ir_any _).2⟩
          refine lv_iload hx hb dX10_odds_53 (lv_at hl 0 rfl) ?_
          refine lv_iload_n hx hb dX10_odds_55 rfl (lv_at hl 6 rfl) ?_
          refine lv_icmp_ge (tgt := 63) hx hb dX10_odds_56 (by decide) (fun c107 => ?_) (fun c107 => ?_)
          · have dc107 : p2.toInt ≤ r71.toInt := le_i (a := p2.toInt) (b := r71.toInt) rfl rfl c107
            refine lv_iconst (v := 0) hx hb dX10_odds_63 (by decide) ?_
            refine lv_iadd hx hb dX10_odds_64 ?_
            refine lv_topi (fun v108 ev108 => ?_)
            have bv108 : v108.toInt = u18.toInt + 0 := by rw [ev108]; exact add_k rfl rfl (ir_any _) ⟨Int.le_refl _, Int.le_refl _⟩ (by decide)
            have k109 : (-2147483648) ≤ v108.toInt ∧ v108.toInt ≤ 2147483647 := add_r bv108 (ir_any _) ⟨Int.le_refl _, Int.le_refl _⟩ (by decide)
            refine lv_istore (lv' := [(4, .int v108), (6, .int r71), (5, .int u17), (0, .ref h0), (1, .int p0), (2, .int p1), (3, .int p2)]) hx hb dX10_odds_65 hl (by decide) rfl (fun ls hl => ?_)
            obtain ⟨v110, ev110⟩ : ∃ z : Int32, z = u17 + 1 := ⟨_, rfl⟩
            have bv110 : v110.toInt = u17.toInt + 1 := by rw [ev110]; exact add_k rfl rfl k58 ⟨Int.le_refl _, Int.le_refl _⟩ (by decide)
            have k111 : 1 ≤ v110.toInt ∧ v110.toInt ≤ 60 := add_r bv110 k58 ⟨Int.le_refl _, Int.le_refl _⟩ (by decide)
            refine lv_iinc (v := v110) (lv' := [(5, .int v110), (4, .int v108), (6, .int r71), (0, .ref h0), (1, .int p0), (2, .int p1), (3, .int p2)]) hx hb dX10_odds_67 hl (k := 2) rfl (by rw [ev110]; rfl) (by decide) rfl (fun ls hl => ?_)
            refine lv_goto (tgt := 30) hx hb dX10_odds_70 (by decide) ?_
            exact ih (v110, v108, g81, g82, g83, F72, y73, y74, y75, y76, y77, 0, y78, y79, y80) ⟨(ir_wk k111 (by decide) (by decide)), (SAME.tr (SAME.tr SAME.rf i42 (by decide)) t84 (by decide)), t85, t86, t88, t90, t92, t93, t94, t96, t98, t89, t91, (show 0 ≤ (0 : Int32).toInt ∧ (0 : Int32).toInt ≤ 1 by decide), t95⟩ (by show (60 - v110.toInt).toNat < (60 - u17.toInt).toNat; omega) _ _ _ (hP.sub [2, 3, 4, 0, 1] rfl) (hD.sub [2, 3, 4, 0, 1] (by decide) rfl) hS (lv_sub hl [0, 1, 3, 4, 5, 6] rfl)
          · have dc107 : r71.toInt < p2.toInt := nle_i (a := p2.toInt) (b := r71.toInt) rfl rfl c107
            have k112 : 0 ≤ r71.toInt ∧ r71.toInt ≤ 2147483646 := ⟨k106.1, up_lt dc107 (ir_any _).2 (by decide)⟩
            have k113 : 1 ≤ p2.toInt ∧ p2.toInt ≤ 2147483647 := ⟨lo_lt dc107 k106.1 (by decide), (ir_any _).2⟩
            refine lv_iconst (v := 1) hx hb dX10_odds_59 (by decide) ?_
            refine lv_goto (tgt := 64) hx hb dX10_odds_60 (by decide) ?_
            refine lv_iadd hx hb dX10_odds_64 ?_
            refine lv_topi (fun v114 ev114 => ?_)
            refine lv_istore (lv' := [(4, .int v114), (6, .int r71), (5, .int u17), (0, .ref h0), (1, .int p0), (2, .int p1), (3, .int p2)]) hx hb dX10_odds_65 hl (by decide) rfl (fun ls hl => ?_)
            obtain ⟨v115, ev115⟩ : ∃ z : Int32, z = u17 + 1 := ⟨_, rfl⟩
            have bv115 : v115.toInt = u17.toInt + 1 := by rw [ev115]; exact add_k rfl rfl k58 ⟨Int.le_refl _, Int.le_refl _⟩ (by decide)
            have k116 : 1 ≤ v115.toInt ∧ v115.toInt ≤ 60 := add_r bv115 k58 ⟨Int.le_refl _, Int.le_refl _⟩ (by decide)
            refine lv_iinc (v := v115) (lv' := [(5, .int v115), (4, .int v114), (6, .int r71), (0, .ref h0), (1, .int p0), (2, .int p1), (3, .int p2)]) hx hb dX10_odds_67 hl (k := 2) rfl (by rw [ev115]; rfl) (by decide) rfl (fun ls hl => ?_)
            refine lv_goto (tgt := 30) hx hb dX10_odds_70 (by decide) ?_
            exact ih (v115, v114, g81, g82, g83, F72, y73, y74, y75, y76, y77, 0, y78, y79, y80) ⟨(ir_wk k116 (by decide) (by decide)), (SAME.tr (SAME.tr SAME.rf i42 (by decide)) t84 (by decide)), t85, t86, t88, t90, t92, t93, t94, t96, t98, t89, t91, (show 0 ≤ (0 : Int32).toInt ∧ (0 : Int32).toInt ≤ 1 by decide), t95⟩ (by show (60 - v115.toInt).toNat < (60 - u17.toInt).toNat; omega) _ _ _ (hP.sub [2, 3, 4, 0, 1] rfl) (hD.sub [2, 3, 4, 0, 1] (by decide) rfl) hS (lv_sub hl [0, 1, 3, 4, 5, 6] rfl)
set_option maxHeartbeats 4000000 in
set_option maxRecDepth 100000 in
theorem m_X10_room (l : Launch) (D : va_G) (cI cJ cB cP cM cZ : ClassId) (h0 : Nat) (h_s : Nat) (h_paceAt : Nat) (h_kindOf : Nat) (Fh : Nat → Value) (x_lineTime : Int32) (x_linePace : Int32) (x_inside : Int32) (x_late : Int32) (x_seed : Int32) (x_kicks : Int32) (f_s : Nat → Int32) (f_paceAt : Nat → Int32) (f_kindOf : Nat → Int32) (sz : Nat) (e_s : Fh 6 = .ref h_s) (e_paceAt : Fh 25 = .ref h_paceAt) (e_kindOf : Fh 26 = .ref h_kindOf) (e_lineTime : Fh 27 = .int x_lineTime) (e_linePace : Fh 28 = .int x_linePace) (e_inside : Fh 29 = .int x_inside) (i_x_inside : IR 0 15 x_inside) (e_late : Fh 30 = .int x_late) (i_x_late : IR 0 15 x_late) (e_seed : Fh 31 = .int x_seed) (e_kicks : Fh 32 = .int x_kicks) (i_x_kicks : IR 0 1 x_kicks) (s_s_K0 : KW 0 f_s) (s_s_0 : SG 0 0 0 40 f_s) (s_s_105 : SG 105 108 0 11 f_s) (s_s_114 : SG 114 114 0 5 f_s) (s_s_130 : SG 130 133 0 11 f_s) (s_s_139 : SG 139 139 0 5 f_s) (s_s_153 : SG 153 153 0 44 f_s) (s_s_44 : SG 44 55 0 9 f_s) (s_s_5 : SG 5 5 0 12 f_s) (s_s_6 : SG 6 6 0 12 f_s) (s_s_7 : SG 7 7 0 6 f_s) : CI l yX10_room cX10_room 2 (some .int) { frames := 4, cells := 0, slots := 0, locals := 94 } (GG D cI cJ cB cP cM cZ) D [(h0, .inr (10, vL 67 Fh)), (h_s, .inl (cI, 335, .inl f_s)), (h_paceAt, .inl (cI, 40, .inl f_paceAt)), (h_kindOf, .inl (cI, 4, .inl f_kindOf))] sz [.ref h0] (fun (r : Int32) (u : va_W) => ∃ (Gh : Nat → Value) (y_lineTime : Int32) (y_linePace : Int32) (y_inside : Int32) (y_late : Int32) (y_seed : Int32) (g_paceAt : Nat → Int32) (g_kindOf : Nat → Int32), SAME [0, 27, 28, 29, 30, 31] Fh Gh ∧ Gh 0 = .int 0 ∧ Gh 27 = .int y_lineTime ∧ Gh 28 = .int y_linePace ∧ Gh 29 = .int y_inside ∧ IR 0 15 y_inside ∧ Gh 30 = .int y_late ∧ IR 0 15 y_late ∧ Gh 31 = .int y_seed ∧ IR (-1) 99 r ∧ u = [(h0, .inr (10, vL 67 Gh)), (h_s, .inl (cI, 335, .inl f_s)), (h_paceAt, .inl (cI, 40, .inl g_paceAt)), (h_kindOf, .inl (cI, 4, .inl g_kindOf))]) := by
  refine CI_mk (by decide) (Nat.le_of_ble_eq_true rfl) ?_
  intro p e s m below meth c A ls E hAe hG hsz hP hD hA hS hl
  obtain ⟨hx, hb, hr, hw, hown, hlocks, hml, hnm⟩ := E
  have hK := hG.1
  have i_x_inside : 0 ≤ x_inside.toInt ∧ x_inside.toInt ≤ 15 := i_x_inside
  have i_x_late : 0 ≤ x_late.toInt ∧ x_late.toInt ≤ 15 := i_x_late
  have i_x_kicks : 0 ≤ x_kicks.toInt ∧ x_kicks.toInt ≤ 1 := i_x_kicks
  have hl : lv_has ls 2 [(0, .ref h0)] := hl
  refine lv_aload_n hx hb dX10_room_0 rfl (lv_at hl 0 rfl) ?_
  refine lv_iconst (v := 0) hx hb dX10_room_1 (by decide) ?_
  refine put_f (D := D) (ci := 10) (v := .int 0) (ty := .int) (C := RX10) (T := TX10) (N := 67) hx hb hw inAX10 tyX10 tyX10_ok nmX10 hown hK hP hD hS 0 rfl rfl 0 (by decide) (hw _ q_1261) (fun _ h9 => h9) rfl (by decide +kernel) rfl rfl dX10_room_2 (fun H locs F1 eF1 hP hD hS => ?_)
  have hP : va_P D vwCl [(h0, .inr (10, vL 67 F1)), (h_s, .inl (cI, 335, .inl f_s)), (h_paceAt, .inl (cI, 40, .inl f_paceAt)), (h_kindOf, .inl (cI, 4, .inl f_kindOf))] H := hP
  have hD : va_D A [(h0, .inr (10, vL 67 F1)), (h_s, .inl (cI, 335, .inl f_s)), (h_paceAt, .inl (cI, 40, .inl f_paceAt)), (h_kindOf, .inl (cI, 4, .inl f_kindOf))] := hD
  refine lv_aload_n hx hb dX10_room_5 rfl (lv_at hl 0 rfl) ?_
  have n2 : F1 6 = .ref h_s := (get_ne eF1 (by decide) e_s)
  refine call_Vi (wr := [(h_paceAt, .inl (cI, 40, .inl f_paceAt)), (h_kindOf, .inl (cI, 4, .inl f_kindOf))]) (As := []) (rest := []) hx hb hml hown hw (m_X10_hasCrew l D cI cJ cB cP cM cZ h0 h_s F1 f_s _ n2 s_s_K0 s_s_0 s_s_105 s_s_114 s_s_130 s_s_139 s_s_153 s_s_44 s_s_5 s_s_6 s_s_7) wV_X10_281_X10_hasCrew dX10_room_6 hK hP hD hS hA [0, 1] [2, 3] rfl rfl (by decide) (by decide) (by decide) 0 10 rfl rfl GG.fb hG.at hl.1 rfl (Nat.le_of_ble_eq_true rfl) ⟨(Nat.le_of_ble_eq_true rfl), (Nat.le_of_ble_eq_true rfl)⟩ ⟨(Nat.le_of_ble_eq_true rfl), (Nat.le_of_ble_eq_true rfl)⟩ (fun r3 u H locs hp hP hD hS => ?_)
  rcases hp with ⟨rfl, rfl⟩ | ⟨rfl, rfl⟩
  · have hP : va_P D vwCl [(h_paceAt, .inl (cI, 40, .inl f_paceAt)), (h_kindOf, .inl (cI, 4, .inl f_kindOf)), (h0, .inr (10, vL 67 F1)), (h_s, .inl (cI, 335, .inl f_s))] H := hP
    have hD : va_D A [(h_paceAt, .inl (cI, 40, .inl f_paceAt)), (h_kindOf, .inl (cI, 4, .inl f_kindOf)), (h0, .inr (10, vL 67 F1)), (h_s, .inl (cI, 335, .inl f_s))] := hD
    refine W.widen (k := 0) (n := 0) (Nat.le_of_ble_eq_true rfl) (Nat.le_of_ble_eq_true rfl) ?_
    refine lv_if_ne (tgt := 14) hx hb dX10_room_9 (by decide) (fun g => absurd (by decide) g) (fun _ => ?_)
    refine lv_iconst (v := (-1)) hx hb dX10_room_12 (by decide) ?_
    exact ret_i (v := (-1)) hx hb hr hlocks hS (hP.sub (ws' := [(h0, .inr (10, vL 67 F1)), (h_s, .inl (cI, 335, .inl f_s)), (h_paceAt, .inl (cI, 40, .inl f_paceAt)), (h_kindOf, .inl (cI, 4, .inl f_kindOf))]) [2, 3, 0, 1] rfl) (hD.sub (ws' := [(h0, .inr (10, vL 67 F1)), (h_s, .inl (cI, 335, .inl f_s)), (h_paceAt, .inl (cI, 40, .inl f_paceAt)), (h_kindOf, .inl (cI, 4, .inl f_kindOf))]) [2, 3, 0, 1] (by decide) rfl) dX10_room_13 rfl (Nat.le_of_ble_eq_true rfl) (Nat.le_of_ble_eq_true rfl) ⟨F1, x_lineTime, x_linePace, x_inside, x_late, x_seed, f_paceAt, f_kindOf, (SAME.up eF1 SAME.rf (by decide)), (get_eq eF1), (get_ne eF1 (by decide) e_lineTime), (get_ne eF1 (by decide) e_linePace), (get_ne eF1 (by decide) e_inside), i_x_inside, (get_ne eF1 (by decide) e_late), i_x_late, (get_ne eF1 (by decide) e_seed), (show (-1) ≤ ((-1) : Int32).toInt ∧ ((-1) : Int32).toInt ≤ 99 by decide), rfl⟩
  · have hP : va_P D vwCl [(h_paceAt, .inl (cI, 40, .inl f_paceAt)), (h_kindOf, .inl (cI, 4, .inl f_kindOf)), (h0, .inr (10, vL 67 F1)), (h_s, .inl (cI, 335, .inl f_s))] H := hP
    have hD : va_D A [(h_paceAt, .inl (cI, 40, .inl f_paceAt)), (h_kindOf, .inl (cI, 4, .inl f_kindOf)), (h0, .inr (10, vL 67 F1)), (h_s, .inl (cI, 335, .inl f_s))] := hD
    refine W.widen (k := 0) (n := 0) (Nat.le_of_ble_eq_true rfl) (Nat.le_of_ble_eq_true rfl) ?_
    refine lv_if_ne (tgt := 14) hx hb dX10_room_9 (by decide) (fun _ => ?_) (fun g => absurd g (by decide))
    refine lv_aload_n hx hb dX10_room_14 rfl (lv_at hl 0 rfl) ?_
    have n5 : F1 25 = .ref h_paceAt := (get_ne eF1 (by decide) e_paceAt)
    have n6 : F1 26 = .ref h_kindOf := (get_ne eF1 (by decide) e_kindOf)
    have n7 : F1 31 = .int x_seed := (get_ne eF1 (by decide) e_seed)
    have n8 : F1 32 = .int x_kicks := (get_ne eF1 (by decide) e_kicks)
    refine call_Vv (wr := []) (As := []) (rest := []) hx hb hml hown hw (m_X10_starts l D cI cJ cB cP cM cZ h0 h_s h_paceAt h_kindOf F1 x_seed x_kicks f_s f_paceAt f_kindOf _ n2 n5 n6 n7 n8 i_x_kicks s_s_K0 s_s_0 s_s_105 s_s_114 s_s_130 s_s_139 s_s_153 s_s_44 s_s_5 s_s_6 s_s_7) wV_X10_340_X10_starts dX10_room_15 hK hP hD hS hA [2, 3, 0, 1] [] rfl rfl (by decide) (by decide) (by decide) 0 10 rfl rfl GG.fb hG.at hl.1 rfl (Nat.le_of_ble_eq_true rfl) ⟨(Nat.le_of_ble_eq_true rfl), (Nat.le_of_ble_eq_true rfl)⟩ ⟨(Nat.le_of_ble_eq_true rfl), (Nat.le_of_ble_eq_true rfl)⟩ (fun u H locs hp hP hD hS => ?_)
    obtain ⟨F10, y11, y12, y13, y14, y15, g16, g17, t18, t19, t20, t21, t22, t23, t24, t25, t26, rfl⟩ := hp
    have hP : va_P D vwCl [(h0, .inr (10, vL 67 F10)), (h_s, .inl (cI, 335, .inl f_s)), (h_paceAt, .inl (cI, 40, .inl g16)), (h_kindOf, .inl (cI, 4, .inl g17))] H := hP
    have hD : va_D A [(h0, .inr (10, vL 67 F10)), (h_s, .inl (cI, 335, .inl f_s)), (h_paceAt, .inl (cI, 40, .inl g16)), (h_kindOf, .inl (cI, 4, .inl g17))] := hD
    refine W.widen (k := 0) (n := 0) (Nat.le_of_ble_eq_true rfl) (Nat.le_of_ble_eq_true rfl) ?_
    refine lv_aload_n hx hb dX10_room_18 rfl (lv_at hl 0 rfl) ?_
    have n28 : F10 6 = .ref h_s := (SAME.at t18 (by decide) n2)
    refine get_f (D := D) (ci := 10) (v := .ref h_s) (C := RX10) (T := TX10) (N := 67) hx hb hw inAX10 hown hK hP 0 rfl rfl 6 (by decide) (hw _ q_1267) (fun _ h9 => h9) n28 dX10_room_19 ?_
    refine lv_iconst (v := 2) hx hb dX10_room_22 (by decide) ?_
    refine iald_n hx hb hK hP 1 0 rfl rfl 2 rfl (Nat.le_of_ble_eq_true rfl) (Nat.le_of_ble_eq_true rfl) rfl dX10_room_23 ?_
    refine lv_topi (fun v29 ev29 => ?_)
    refine lv_aload_n hx hb dX10_room_24 rfl (lv_at hl 0 rfl) ?_
    refine get_f (D := D) (ci := 10) (v := .ref h_s) (C := RX10) (T := TX10) (N := 67) hx hb hw inAX10 hown hK hP 0 rfl rfl 6 (by decide) (hw _ q_1267) (fun _ h9 => h9) n28 dX10_room_25 ?_
    refine lv_iconst (v := 1) hx hb dX10_room_28 (by decide) ?_
    refine iald_n hx hb hK hP 1 0 rfl rfl 1 rfl (Nat.le_of_ble_eq_true rfl) (Nat.le_of_ble_eq_true rfl) rfl dX10_room_29 ?_
    refine lv_topi (fun v30 ev30 => ?_)
    refine lv_isub hx hb dX10_room_30 ?_
    refine lv_topi (fun v31 ev31 => ?_)
    refine lv_aload_n hx hb dX10_room_31 rfl (lv_at hl 0 rfl) ?_
    refine lv_aload_n hx hb dX10_room_32 rfl (lv_at hl 0 rfl) ?_
    refine get_f (D := D) (ci := 10) (v := .int y13) (C := RX10) (T := TX10) (N := 67) hx hb hw inAX10 hown hK hP 0 rfl rfl 29 (by decide) (hw _ q_1290) (fun _ h9 => h9) t22 dX10_room_33 ?_
    refine call_Vi (wr := [(h_paceAt, .inl (cI, 40, .inl g16)), (h_kindOf, .inl (cI, 4, .inl g17))]) (As := [.int y13]) (rest := [.int v31]) hx hb hml hown hw (m_X10_weightOf l D cI cJ cB cP cM cZ h0 h_s F10 f_s y13 _ n28 s_s_K0 s_s_0 s_s_105 s_s_114 s_s_130 s_s_139 s_s_153 s_s_44 s_s_5 s_s_6 s_s_7) wV_X10_308_X10_weightOf dX10_room_36 hK hP hD hS hA [0, 1] [2, 3] rfl rfl (by decide) (by decide) (by decide) 0 10 rfl rfl GG.fb hG.at hl.1 rfl (Nat.le_of_ble_eq_true rfl) ⟨(Nat.le_of_ble_eq_true rfl), (Nat.le_of_ble_eq_true rfl)⟩ ⟨(Nat.le_of_ble_eq_true rfl), (Nat.le_of_ble_eq_true rfl)⟩ (fun r32 u H locs hp hP hD hS => ?_)
    obtain rfl := hp
    have hP : va_P D vwCl [(h_paceAt, .inl (cI, 40, .inl g16)), (h_kindOf, .inl (cI, 4, .inl g17)), (h0, .inr (10, vL 67 F10)), (h_s, .inl (cI, 335, .inl f_s))] H := hP
    have hD : va_D A [(h_paceAt, .inl (cI, 40, .inl g16)), (h_kindOf, .inl (cI, 4, .inl g17)), (h0, .inr (10, vL 67 F10)), (h_s, .inl (cI, 335, .inl f_s))] := hD
    refine W.widen (k := 0) (n := 0) (Nat.le_of_ble_eq_true rfl) (Nat.le_of_ble_eq_true rfl) ?_
    refine lv_isub hx hb dX10_room_39 ?_
    refine lv_topi (fun v34 ev34 => ?_)
    refine lv_istore_n (lv' := [(1, .int v34), (0, .ref h0)]) hx hb dX10_room_40 rfl hl (by decide) rfl (fun ls hl => ?_)
    refine lv_iload_n hx hb dX10_room_41 rfl (lv_at hl 0 rfl) ?_
    refine lv_if_ge (tgt := 49) hx hb dX10_room_42 (by decide) (fun c35 => ?_) (fun c35 => ?_)
    · have dc35 : 0 ≤ v34.toInt := le_i (a := 0) (b := v34.toInt) rfl rfl c35
      have k36 : 0 ≤ v34.toInt ∧ v34.toInt ≤ 2147483647 := ⟨Int.le_trans (Int.le_refl _) dc35, (ir_any _).2⟩
      refine lv_iload_n hx hb dX10_room_49 rfl (lv_at hl 0 rfl) ?_
      refine lv_bipush (v := 99) hx hb dX10_room_50 (by decide) ?_
      refine call_Si (wr := [(h_paceAt, .inl (cI, 40, .inl g16)), (h_kindOf, .inl (cI, 4, .inl g17)), (h0, .inr (10, vL 67 F10)), (h_s, .inl (cI, 335, .inl f_s))]) (As := [.int v34, .int 99]) (rest := []) hx hb hml hown hw (m_X10_lesser l D cI cJ cB cP cM cZ v34 99 _ ) wS_X10_27_X10_lesser dX10_room_52 hP hD hS hA [] [0, 1, 2, 3] rfl rfl (by decide) (by decide) (by decide) GG.fb hG.at hl.1 rfl (Nat.le_of_ble_eq_true rfl) ⟨(Nat.le_of_ble_eq_true rfl), (Nat.le_of_ble_eq_true rfl)⟩ ⟨(Nat.le_of_ble_eq_true rfl), (Nat.le_of_ble_eq_true rfl)⟩ (fun r37 u H locs hp hP hD hS => ?_)
      have zl99 : (99 : Int32).toInt = 99 := by decide
      obtain ⟨t38, t39, rfl⟩ := hp
      have hP : va_P D vwCl [(h_paceAt, .inl (cI, 40, .inl g16)), (h_kindOf, .inl (cI, 4, .inl g17)), (h0, .inr (10, vL 67 F10)), (h_s, .inl (cI, 335, .inl f_s))] H := hP
      have hD : va_D A [(h_paceAt, .inl (cI, 40, .inl g16)), (h_kindOf, .inl (cI, 4, .inl g17)), (h0, .inr (10, vL 67 F10)), (h_s, .inl (cI, 335, .inl f_s))] := hD
      refine W.widen (k := 0) (n := 0) (Nat.le_of_ble_eq_true rfl) (Nat.le_of_ble_eq_true rfl) ?_
      have k41 : 0 ≤ r37.toInt ∧ r37.toInt ≤ 99 := ⟨by omega, by omega⟩
      exact ret_i (v := r37) hx hb hr hlocks hS (hP.sub (ws' := [(h0, .inr (10, vL 67 F10)), (h_s, .inl (cI, 335, .inl f_s)), (h_paceAt, .inl (cI, 40, .inl g16)), (h_kindOf, .inl (cI, 4, .inl g17))]) [2, 3, 0, 1] rfl) (hD.sub (ws' := [(h0, .inr (10, vL 67 F10)), (h_s, .inl (cI, 335, .inl f_s)), (h_paceAt, .inl (cI, 40, .inl g16)), (h_kindOf, .inl (cI, 4, .inl g17))]) [2, 3, 0, 1] (by decide) rfl) dX10_room_55 rfl (Nat.le_of_ble_eq_true rfl) (Nat.le_of_ble_eq_true rfl) ⟨F10, y11, y12, y13, y14, y15, g16, g17, (SAME.tr (SAME.up eF1 SAME.rf (by decide)) t18 (by decide)), (SAME.at t18 (by decide) (get_eq eF1)), t19, t20, t22, t23, t24, t25, t26, (ir_wk k41 (by decide) (by decide)), rfl⟩
    · have dc35 : v34.toInt < 0 := nle_i (a := 0) (b := v34.toInt) rfl rfl c35
      have k42 : (-2147483648) ≤ v34.toInt ∧ v34.toInt ≤ (-1) := ⟨(ir_any _).1, up_lt dc35 (Int.le_refl _) (by decide)⟩
      refine lv_iconst (v := (-1)) hx hb dX10_room_45 (by decide) ?_
      refine lv_goto (tgt := 55) hx hb dX10_room_46 (by decide) ?_
      exact ret_i (v := (-1)) hx hb hr hlocks hS (hP.sub (ws' := [(h0, .inr (10, vL 67 F10)), (h_s, .inl (cI, 335, .inl f_s)), (h_paceAt, .inl (cI, 40, .inl g16)), (h_kindOf, .inl (cI, 4, .inl g17))]) [2, 3, 0, 1] rfl) (hD.sub (ws' := [(h0, .inr (10, vL 67 F10)), (h_s, .inl (cI, 335, .inl f_s)), (h_paceAt, .inl (cI, 40, .inl g16)), (h_kindOf, .inl (cI, 4, .inl g17))]) [2, 3, 0, 1] (by decide) rfl) dX10_room_55 rfl (Nat.le_of_ble_eq_true rfl) (Nat.le_of_ble_eq_true rfl) ⟨F10, y11, y12, y13, y14, y15, g16, g17, (SAME.tr (SAME.up eF1 SAME.rf (by decide)) t18 (by decide)), (SAME.at t18 (by decide) (get_eq eF1)), t19, t20, t22, t23, t24, t25, t26, (show (-1) ≤ ((-1) : Int32).toInt ∧ ((-1) : Int32).toInt ≤ 99 by decide), rfl⟩
theorem zn_k {x : Int32} (h : 0 ≤ x.toInt ∧ x.toInt ≤ 1) : vp_nar .boolean x = x := by
  obtain ⟨n, en, hn, tn⟩ := ni_of h.1
  have h2 : n = 0 ∨ n = 1 := by omega
  rcases h2 with h2 | h2
  · subst h2; subst en; decide +kernel
  · subst h2; subst en; decide +kernel
/-- how many of the first n on the pile join two -/
def nbin (f : Nat → Int32) : Nat → Int
  | 0 => 0
  | n + 1 => nbin f n + (if (f n).toInt = 21 ∨ (f n).toInt = 22 then 1 else 0)
theorem nbin_nn (f : Nat → Int32) : ∀ n, 0 ≤ nbin f n
  | 0 => Int.le_refl 0
  | n + 1 => by
    have h := nbin_nn f n
    show 0 ≤ nbin f n + (if (f n).toInt = 21 ∨ (f n).toInt = 22 then 1 else 0)
    split <;> omega
theorem nbin_eq {f g : Nat → Int32} : ∀ n, (∀ j, j < n → g j = f j) → nbin g n = nbin f n
  | 0, _ => rfl
  | n + 1, h => by
    show nbin g n + (if (g n).toInt = 21 ∨ (g n).toInt = 22 then 1 else 0) = nbin f n + (if (f n).toInt = 21 ∨ (f n).toInt = 22 then 1 else 0)
    rw [nbin_eq n (fun j hj => h j (by omega)), h n (by omega)]
theorem nbin_1 {f : Nat → Int32} {n : Nat} (h : (f n).toInt = 21 ∨ (f n).toInt = 22) : nbin f (n + 1) = nbin f n + 1 := by
  show nbin f n + (if (f n).toInt = 21 ∨ (f n).toInt = 22 then 1 else 0) = _
  rw [if_pos h]
theorem nbin_0 {f : Nat → Int32} {n : Nat} (h : ¬ ((f n).toInt = 21 ∨ (f n).toInt = 22)) : nbin f (n + 1) = nbin f n := by
  show nbin f n + (if (f n).toInt = 21 ∨ (f n).toInt = 22 then 1 else 0) = _
  rw [if_neg h]; omega
theorem dep_le (f : Nat → Int32) (b : Nat) : ∀ n : Nat, dep f b n ≤ n
  | 0 => Int.le_refl 0
  | n + 1 => by
    have h := dep_le f b n
    show dep f b n + stp (f (b + 3 * n)).toInt ≤ _
    have h2 := stp_ca (f (b + 3 * n)).toInt
    by_cases h3 : (f (b + 3 * n)).toInt = 20
    · rw [h2.1 h3]; omega
    · by_cases h4 : (f (b + 3 * n)).toInt = 21 ∨ (f (b + 3 * n)).toInt = 22
      · rw [h2.2.1 h4]; omega
      · rw [h2.2.2 h3 (by omega) (by omega)]; omega
/-- g is f with one code more -/
def APP (f g : Nat → Int32) (c : Int) (w : Int32) : Prop := (∀ j, j < 3 * c.toNat → g j = f j) ∧ g (3 * c.toNat) = w
theorem APP.of {f g1 g2 g3 : Nat → Int32} {c : Int} {i1 i2 i3 w x2 x3 : Int32} (e1 : upd f i1.toNatClampNeg w = g1) (e2 : upd g1 i2.toNatClampNeg x2 = g2) (e3 : upd g2 i3.toNatClampNeg x3 = g3) (hc : 0 ≤ c) (h1 : i1.toInt = 3 * c) (h2 : i2.toInt = 3 * c + 1) (h3 : i3.toInt = 3 * c + 2) : APP f g3 c w := by
  subst e1; subst e2; subst e3
  simp only [cl_nat]
  refine ⟨fun j hj => ?_, ?_⟩
  · rw [pk_un (by omega), pk_un (by omega), pk_un (by omega)]
  · rw [pk_un (by omega), pk_un (by omega), show 3 * c.toNat = i1.toInt.toNat by omega, pk_us]
/-- the codes so far are good, and as many truths lie on their pile as the signs that wait need -/
def SMI (fr fs : Nat → Int32) (c t w : Int) : Prop := 0 ≤ c ∧ 0 ≤ t ∧ gdc fr 0 c.toNat ∧ dep fr 0 c.toNat = nbin fs t.toNat + w
theorem SMI.zero {fr fs : Nat → Int32} : SMI fr fs 0 0 0 := ⟨Int.le_refl 0, Int.le_refl 0, fun i hi => absurd hi (Nat.not_lt_zero _), rfl⟩
theorem SMI.w {fr fs : Nat → Int32} {c t w w' : Int} (h : SMI fr fs c t w) (e : w' = w) : SMI fr fs c t w' := by subst e; exact h
theorem u153 {f g : Nat → Int32} {c : Int} {i x : Int32} (h : (f 153).toInt = c) (e : upd f i.toNatClampNeg x = g) (hi : 154 ≤ i.toInt) : (g 153).toInt = c := by
  subst e
  rw [cl_nat, pk_un (by omega)]
  exact h
theorem CPY.mn {g f : Nat → Int32} {og of : Nat} {n n' : Int} (h : CPY g og f of n) (hn : n' ≤ n) : CPY g og f of n' := fun j hj => h j (by omega)
theorem app_dep {fr fr' : Nat → Int32} {c : Int} {w : Int32} (hc : 0 ≤ c) (a : APP fr fr' c w) : dep fr' 0 (c + 1).toNat = dep fr 0 c.toNat + stp w.toInt ∧ dep fr' 0 c.toNat = dep fr 0 c.toNat := by
  have e : (c + 1).toNat = c.toNat + 1 := by omega
  have h1 : dep fr' 0 c.toNat = dep fr 0 c.toNat := dep_eq c.toNat (fun j hj => by rw [Nat.zero_add]; exact a.1 j hj)
  refine ⟨?_, h1⟩
  rw [e]
  show dep fr' 0 c.toNat + stp (fr' (0 + 3 * c.toNat)).toInt = _
  rw [h1, Nat.zero_add, a.2]
theorem app_gdc {fr fr' : Nat → Int32} {c : Int} {w : Int32} (hc : 0 ≤ c) (a : APP fr fr' c w) (g : gdc fr 0 c.toNat) (h1 : w.toInt = 20 → 1 ≤ dep fr 0 c.toNat) (h2 : w.toInt = 21 ∨ w.toInt = 22 → 2 ≤ dep fr 0 c.toNat) : gdc fr' 0 (c + 1).toNat := by
  have e : (c + 1).toNat = c.toNat + 1 := by omega
  rw [e]
  intro i hi
  by_cases hi2 : i < c.toNat
  · have g2 : gdc fr' 0 c.toNat := gdc_eq (f := fr) (b := 0) (fun j hj => by rw [Nat.zero_add]; exact a.1 j hj) g
    exact g2 i hi2
  · have e2 : i = c.toNat := by omega
    subst e2
    rw [Nat.zero_add, a.2, (app_dep hc a).2]
    exact ⟨h1, h2⟩
theorem SMI.bin {fr fr' fs : Nat → Int32} {c t c' t' : Int} {v ix : Int32} (h : SMI fr fs c t 1) (a : APP fr fr' c v) (hv : v.toInt = 21 ∨ v.toInt = 22) (e : v = fs ix.toNatClampNeg) (hix : ix.toInt = t - 1) (h1 : 1 ≤ t) (ec : c' = c + 1) (et : t' = t - 1) : SMI fr' fs c' t' 1 := by
  subst ec; subst et
  obtain ⟨hc, ht, g, d⟩ := h
  rw [cl_nat] at e
  have et : t.toNat = (t - 1).toNat + 1 := by omega
  have ei : ix.toInt.toNat = (t - 1).toNat := by omega
  have hb : nbin fs t.toNat = nbin fs (t - 1).toNat + 1 := by
    rw [et]
    exact nbin_1 (by rw [← ei, ← e]; exact hv)
  have hn := nbin_nn fs (t - 1).toNat
  refine ⟨by omega, by omega, app_gdc hc a g (fun q => by omega) (fun q => by omega), ?_⟩
  rw [(app_dep hc a).1, (stp_ca v.toInt).2.1 hv]
  omega
theorem SMI.not {fr fr' fs : Nat → Int32} {c t c' t' : Int} {v w ix : Int32} (h : SMI fr fs c t 1) (a : APP fr fr' c w) (hw : w.toInt = 20) (hv : v.toInt = 20) (e : v = fs ix.toNatClampNeg) (hix : ix.toInt = t - 1) (h1 : 1 ≤ t) (ec : c' = c + 1) (et : t' = t - 1) : SMI fr' fs c' t' 1 := by
  subst ec; subst et
  obtain ⟨hc, ht, g, d⟩ := h
  rw [cl_nat] at e
  have et : t.toNat = (t - 1).toNat + 1 := by omega
  have ei : ix.toInt.toNat = (t - 1).toNat := by omega
  have hb : nbin fs t.toNat = nbin fs (t - 1).toNat := by
    rw [et]
    exact nbin_0 (by rw [← ei, ← e]; omega)
  have hn := nbin_nn fs (t - 1).toNat
  refine ⟨by omega, by omega, app_gdc hc a g (fun q => by omega) (fun q => by omega), ?_⟩
  rw [(app_dep hc a).1, (stp_ca w.toInt).1 hw]
  omega
theorem SMI.leaf {fr fr' fs : Nat → Int32} {c t c' w' : Int} {w : Int32} (h : SMI fr fs c t 0) (a : APP fr fr' c w) (hw : 0 ≤ w.toInt ∧ w.toInt ≤ 6) (ec : c' = c + 1) (ew : w' = 1) : SMI fr' fs c' t w' := by
  subst ec; subst ew
  obtain ⟨hc, ht, g, d⟩ := h
  refine ⟨by omega, ht, app_gdc hc a g (fun q => by omega) (fun q => by omega), ?_⟩
  rw [(app_dep hc a).1, (stp_ca w.toInt).2.2 (by omega) (by omega) (by omega)]
  omega
theorem SMI.push {fr fs fs' : Nat → Int32} {c t t' : Int} {x ix : Int32} (h : SMI fr fs c t 0) (e : upd fs ix.toNatClampNeg x = fs') (hix : ix.toInt = t) (hx : x.toInt = 20 ∨ x.toInt = 23) (et : t' = t + 1) : SMI fr fs' c t' 0 := by
  subst et; subst e
  rw [cl_nat]
  obtain ⟨hc, ht, g, d⟩ := h
  refine ⟨hc, by omega, g, ?_⟩
  rw [show (t + 1).toNat = t.toNat + 1 by omega, show ix.toInt.toNat = t.toNat by omega, nbin_0 (by rw [pk_us]; omega), nbin_eq t.toNat (fun j hj => pk_un (by omega))]
  exact d
theorem SMI.pushb {fr fs fs' : Nat → Int32} {c t t' : Int} {x ix : Int32} (h : SMI fr fs c t 1) (e : upd fs ix.toNatClampNeg x = fs') (hix : ix.toInt = t) (hx : x.toInt = 21 ∨ x.toInt = 22) (et : t' = t + 1) : SMI fr fs' c t' 0 := by
  subst et; subst e
  rw [cl_nat]
  obtain ⟨hc, ht, g, d⟩ := h
  refine ⟨hc, by omega, g, ?_⟩
  rw [show (t + 1).toNat = t.toNat + 1 by omega, show ix.toInt.toNat = t.toNat by omega, nbin_1 (by rw [pk_us]; exact hx), nbin_eq (f := fs) t.toNat (fun j hj => pk_un (by omega))]
  omega
/-- what joins() leaves on top joins nothing -/
def JT (f : Nat → Int32) (t : Int) (k : Int) : Prop := k = 22 → 1 ≤ t → nbin f (t - 1).toNat = nbin f t.toNat
theorem JT.no {f : Nat → Int32} {t k : Int} (h : t ≤ 0) : JT f t k := fun _ q => by omega
theorem JT.ne {f : Nat → Int32} {t k : Int} (h : k ≠ 22) : JT f t k := fun q => absurd q h
theorem JT.at {f : Nat → Int32} {t k : Int} {v ix : Int32} (e : v = f ix.toNatClampNeg) (hix : ix.toInt = t - 1) (h1 : v.toInt ≠ 21) (h2 : v.toInt ≠ 22) : JT f t k := fun _ q => by
  rw [cl_nat] at e
  have et : t.toNat = (t - 1).toNat + 1 := by omega
  rw [et]
  refine (nbin_0 ?_).symm
  rw [show (t - 1).toNat = ix.toInt.toNat by omega, ← e]
  omega
theorem SMI.pop {fr fs : Nat → Int32} {c t t' k : Int} (h : SMI fr fs c t 1) (j : JT fs t k) (hk : k = 22) (h1 : 1 ≤ t) (et : t' = t - 1) : SMI fr fs c t' 1 := by
  subst et
  obtain ⟨hc, ht, g, d⟩ := h
  refine ⟨hc, by omega, g, ?_⟩
  rw [j hk h1]
  exact d
theorem KW.sent {fr g : Nat → Int32} {c : Int} (hc : 0 ≤ c ∧ c ≤ 44) (h : gdc fr 0 c.toNat) (e : (g 153).toInt = c) (hcp : CPY g 154 fr 0 (3 * c)) : KW 0 g := by
  refine ⟨by show 0 ≤ (g (0 + 153)).toInt ∧ _; rw [Nat.zero_add, e]; exact hc, ?_⟩
  rw [Nat.zero_add, Nat.zero_add, e]
  exact gdc_eq (f := fr) (b := 0) (fun j hj => hcp j (by omega)) h
theorem KW.g {f : Nat → Int32} (h : KW 0 f) {i v ix : Int32} {n : Int} (e : v = f ix.toNatClampNeg) (hix : ix.toInt = 154 + 3 * i.toInt) (h0 : 0 ≤ i.toInt) (hn : (f 153).toInt = n) (hi : i.toInt < n) : (v.toInt = 20 → 1 ≤ dep f 154 i.toInt.toNat) ∧ (v.toInt = 21 ∨ v.toInt = 22 → 2 ≤ dep f 154 i.toInt.toNat) := by
  have h2 := h.2
  rw [Nat.zero_add, Nat.zero_add, hn] at h2
  have h3 := h2 i.toInt.toNat (by omega)
  rw [cl_nat] at e
  rw [show 154 + 3 * i.toInt.toNat = ix.toInt.toNat by omega, ← e] at h3
  exact h3
theorem dep_st {f : Nat → Int32} {i v ix : Int32} {i' : Int} (e : v = f ix.toNatClampNeg) (hix : ix.toInt = 154 + 3 * i.toInt) (h0 : 0 ≤ i.toInt) (hi : i' = i.toInt + 1) : dep f 154 i'.toNat = dep f 154 i.toInt.toNat + stp v.toInt := by
  rw [dep_to h0 hi]
  rw [cl_nat] at e
  rw [show 154 + 3 * i.toInt.toNat = ix.toInt.toNat by omega, ← e]
set_option maxHeartbeats 4000000 in
set_option maxRecDepth 100000 in
theorem m_X10_code (l : Launch) (D : va_G) (cI cJ cB cP cM cZ : ClassId) (h0 : Nat) (h_read : Nat) (Fh : Nat → Value) (x_codes : Int32) (x_ones : Int32) (x_top : Int32) (x_isWhole : Int32) (f_read : Nat → Int32) (p0 : Int32) (p1 : Int32) (p2 : Int32) (sz : Nat) (e_read : Fh 8 = .ref h_read) (e_codes : Fh 58 = .int x_codes) (i_x_codes : IR 0 44 x_codes) (e_ones : Fh 59 = .int x_ones) (i_x_ones : IR 0 20 x_ones) (e_top : Fh 60 = .int x_top) (i_x_top : IR 0 45 x_top) (e_isWhole : Fh 62 = .int x_isWhole) (i_x_isWhole : IR 0 1 x_isWhole) (z_0 : x_top.toInt + x_codes.toInt + 1 + x_isWhole.toInt ≤ 2 * x_ones.toInt) (o_0 : x_top.toInt + x_codes.toInt + x_isWhole.toInt ≤ 2 * x_ones.toInt) : CV l yX10_code cX10_code 4 none { frames := 0, cells := 0, slots := 0, locals := 0 } (GG D cI cJ cB cP cM cZ) D [(h0, .inr (10, vL 67 Fh)), (h_read, .inl (cI, 135, .inl f_read))] sz [.ref h0, .int p0, .int p1, .int p2] (fun (u : va_W) => ∃ (Gh : Nat → Value) (y_codes : Int32) (g_read : Nat → Int32), SAME [58] Fh Gh ∧ Gh 58 = .int y_codes ∧ IR 1 45 y_codes ∧ (y_codes.toInt = x_codes.toInt + 1) ∧ (APP f_read g_read x_codes.toInt p0) ∧ (x_top.toInt + y_codes.toInt + x_isWhole.toInt ≤ 2 * x_ones.toInt) ∧ u = [(h0, .inr (10, vL 67 Gh)), (h_read, .inl (cI, 135, .inl g_read))]) := by
  refine CV_mk (by decide) (Nat.le_of_ble_eq_true rfl) ?_
  intro p e s m below meth c A ls E hAe hG hsz hP hD hA hS hl
  obtain ⟨hx, hb, hr, hw, hown, hlocks, hml, hnm⟩ := E
  have hK := hG.1
  have i_x_codes : 0 ≤ x_codes.toInt ∧ x_codes.toInt ≤ 44 := i_x_codes
  have i_x_ones : 0 ≤ x_ones.toInt ∧ x_ones.toInt ≤ 20 := i_x_ones
  have i_x_top : 0 ≤ x_top.toInt ∧ x_top.toInt ≤ 45 := i_x_top
  have i_x_isWhole : 0 ≤ x_isWhole.toInt ∧ x_isWhole.toInt ≤ 1 := i_x_isWhole
  have hl : lv_has ls 4 [(0, .ref h0), (1, .int p0), (2, .int p1), (3, .int p2)] := hl
  refine lv_aload_n hx hb dX10_code_0 rfl (lv_at hl 0 rfl) ?_
  refine get_f (D := D) (ci := 10) (v := .ref h_read) (C := RX10) (T := TX10) (N := 67) hx hb hw inAX10 hown hK hP 0 rfl rfl 8 (by decide) (hw _ q_1269) (fun _ h9 => h9) e_read dX10_code_1 ?_
  refine lv_iconst (v := 3) hx hb dX10_code_4 (by decide) ?_
  refine lv_aload_n hx hb dX10_code_5 rfl (lv_at hl 0 rfl) ?_
  refine get_f (D := D) (ci := 10) (v := .int x_codes) (C := RX10) (T := TX10) (N := 67) hx hb hw inAX10 hown hK hP 0 rfl rfl 58 (by decide) (hw _ q_1319) (fun _ h9 => h9) e_codes dX10_code_6 ?_
  refine lv_imul hx hb dX10_code_9 ?_
  refine lv_topi (fun v1 ev1 => ?_)
  have bv1 : v1.toInt = 3 * x_codes.toInt := by rw [ev1]; exact kmul_k rfl rfl (by decide) i_x_codes (by decide)
  have k2 : 0 ≤ v1.toInt ∧ v1.toInt ≤ 132 := kmul_r bv1 (by decide) i_x_codes (by decide)
  refine lv_iload_n hx hb dX10_code_10 rfl (lv_at hl 1 rfl) ?_
  obtain ⟨g3, eg3⟩ : ∃ z : Nat → Int32, upd f_read v1.toNatClampNeg p0 = z := ⟨_, rfl⟩
  refine iast_g hx hb hK hP hD hS 1 0 rfl rfl (ix_k k2 (by decide) (by decide)) eg3 dX10_code_11 (fun H locs hP hD hS => ?_)
  have hP : va_P D vwCl [(h0, .inr (10, vL 67 Fh)), (h_read, .inl (cI, 135, .inl g3))] H := hP
  have hD : va_D A [(h0, .inr (10, vL 67 Fh)), (h_read, .inl (cI, 135, .inl g3))] := hD
  refine lv_aload_n hx hb dX10_code_12 rfl (lv_at hl 0 rfl) ?_
  refine get_f (D := D) (ci := 10) (v := .ref h_read) (C := RX10) (T := TX10) (N := 67) hx hb hw inAX10 hown hK hP 0 rfl rfl 8 (by decide) (hw _ q_1269) (fun _ h9 => h9) e_read dX10_code_13 ?_
  refine lv_iconst (v := 3) hx hb dX10_code_16 (by decide) ?_
  refine lv_aload_n hx hb dX10_code_17 rfl (lv_at hl 0 rfl) ?_
  refine get_f (D := D) (ci := 10) (v := .int x_codes) (C := RX10) (T := TX10) (N := 67) hx hb hw inAX10 hown hK hP 0 rfl rfl 58 (by decide) (hw _ q_1319) (fun _ h9 => h9) e_codes dX10_code_18 ?_
  refine lv_imul hx hb dX10_code_21 ?_
  refine lv_ci (y := v1) ev1.symm ?_
  refine lv_iconst (v := 1) hx hb dX10_code_22 (by decide) ?_
  refine lv_iadd hx hb dX10_code_23 ?_
  refine lv_topi (fun v4 ev4 => ?_)
  have bv4 : v4.toInt = v1.toInt + 1 := by rw [ev4]; exact add_k rfl rfl k2 ⟨Int.le_refl _, Int.le_refl _⟩ (by decide)
  have k5 : 1 ≤ v4.toInt ∧ v4.toInt ≤ 133 := add_r bv4 k2 ⟨Int.le_refl _, Int.le_refl _⟩ (by decide)
  refine lv_iload_n hx hb dX10_code_24 rfl (lv_at hl 2 rfl) ?_
  obtain ⟨g6, eg6⟩ : ∃ z : Nat → Int32, upd g3 v4.toNatClampNeg p1 = z := ⟨_, rfl⟩
  refine iast_g hx hb hK hP hD hS 1 0 rfl rfl (ix_k k5 (by decide) (by decide)) eg6 dX10_code_25 (fun H locs hP hD hS => ?_)
  have hP : va_P D vwCl [(h0, .inr (10, vL 67 Fh)), (h_read, .inl (cI, 135, .inl g6))] H := hP
  have hD : va_D A [(h0, .inr (10, vL 67 Fh)), (h_read, .inl (cI, 135, .inl g6))] := hD
  refine lv_aload_n hx hb dX10_code_26 rfl (lv_at hl 0 rfl) ?_
  refine get_f (D := D) (ci := 10) (v := .ref h_read) (C := RX10) (T := TX10) (N := 67) hx hb hw inAX10 hown hK hP 0 rfl rfl 8 (by decide) (hw _ q_1269) (fun _ h9 => h9) e_read dX10_code_27 ?_
  refine lv_iconst (v := 3) hx hb dX10_code_30 (by decide) ?_
  refine lv_aload_n hx hb dX10_code_31 rfl (lv_at hl 0 rfl) ?_
  refine get_f (D := D) (ci := 10) (v := .int x_codes) (C := RX10) (T := TX10) (N := 67) hx hb hw inAX10 hown hK hP 0 rfl rfl 58 (by decide) (hw _ q_1319) (fun _ h9 => h9) e_codes dX10_code_32 ?_
  refine lv_imul hx hb dX10_code_35 ?_
  refine lv_ci (y := v1) ev1.symm ?_
  refine lv_iconst (v := 2) hx hb dX10_code_36 (by decide) ?_
  refine lv_iadd hx hb dX10_code_37 ?_
  refine lv_topi (fun v7 ev7 => ?_)
  have bv7 : v7.toInt = v1.toInt + 2 := by rw [ev7]; exact add_k rfl rfl k2 ⟨Int.le_refl _, Int.le_refl _⟩ (by decide)
  have k8 : 2 ≤ v7.toInt ∧ v7.toInt ≤ 134 := add_r bv7 k2 ⟨Int.le_refl _, Int.le_refl _⟩ (by decide)
  refine lv_iload_n hx hb dX10_code_38 rfl (lv_at hl 3 rfl) ?_
  obtain ⟨g9, eg9⟩ : ∃ z : Nat → Int32, upd g6 v7.toNatClampNeg p2 = z := ⟨_, rfl⟩
  refine iast_g hx hb hK hP hD hS 1 0 rfl rfl (ix_k k8 (by decide) (by decide)) eg9 dX10_code_39 (fun H locs hP hD hS => ?_)
  have hP : va_P D vwCl [(h0, .inr (10, vL 67 Fh)), (h_read, .inl (cI, 135, .inl g9))] H := hP
  have hD : va_D A [(h0, .inr (10, vL 67 Fh)), (h_read, .inl (cI, 135, .inl g9))] := hD
  refine lv_aload_n hx hb dX10_code_40 rfl (lv_at hl 0 rfl) ?_
  refine lv_dup hx hb dX10_code_41 rfl ?_
  refine get_f (D := D) (ci := 10) (v := .int x_codes) (C := RX10) (T := TX10) (N := 67) hx hb hw inAX10 hown hK hP 0 rfl rfl 58 (by decide) (hw _ q_1319) (fun _ h9 => h9) e_codes dX10_code_42 ?_
  refine lv_iconst (v := 1) hx hb dX10_code_45 (by decide) ?_
  refine lv_iadd hx hb dX10_code_46 ?_
  refine lv_topi (fun v10 ev10 => ?_)
  have bv10 : v10.toInt = x_codes.toInt + 1 := by rw [ev10]; exact add_k rfl rfl i_x_codes ⟨Int.le_refl _, Int.le_refl _⟩ (by decide)
  have k11 : 1 ≤ v10.toInt ∧ v10.toInt ≤ 45 := add_r bv10 i_x_codes ⟨Int.le_refl _, Int.le_refl _⟩ (by decide)
  refine put_f (D := D) (ci := 10) (v := .int v10) (ty := .int) (C := RX10) (T := TX10) (N := 67) hx hb hw inAX10 tyX10 tyX10_ok nmX10 hown hK hP hD hS 0 rfl rfl 58 (by decide) (hw _ q_1319) (fun _ h9 => h9) rfl (by decide +kernel) rfl rfl dX10_code_47 (fun H locs F12 eF12 hP hD hS => ?_)
  have hP : va_P D vwCl [(h0, .inr (10, vL 67 F12)), (h_read, .inl (cI, 135, .inl g9))] H := hP
  have hD : va_D A [(h0, .inr (10, vL 67 F12)), (h_read, .inl (cI, 135, .inl g9))] := hD
  exact ret_v hx hb hr hlocks hS hP hD dX10_code_50 (Nat.le_of_ble_eq_true rfl) (Nat.le_of_ble_eq_true rfl) ⟨F12, v10, g9, (SAME.up eF12 SAME.rf (by decide)), (get_eq eF12), k11, (by omega), (APP.of eg3 eg6 eg9 (by omega) (by omega) (by omega) (by omega)), (by omega), rfl⟩
set_option maxHeartbeats 4000000 in
set_option maxRecDepth 100000 in
theorem m_X10_joins (l : Launch) (D : va_G) (cI cJ cB cP cM cZ : ClassId) (h0 : Nat) (h_read : Nat) (h_stack : Nat) (Fh : Nat → Value) (x_codes : Int32) (x_ones : Int32) (x_top : Int32) (x_isWhole : Int32) (f_read : Nat → Int32) (f_stack : Nat → Int32) (p0 : Int32) (sz : Nat) (e_read : Fh 8 = .ref h_read) (e_stack : Fh 57 = .ref h_stack) (e_codes : Fh 58 = .int x_codes) (i_x_codes : IR 0 45 x_codes) (e_ones : Fh 59 = .int x_ones) (i_x_ones : IR 0 20 x_ones) (e_top : Fh 60 = .int x_top) (i_x_top : IR 0 45 x_top) (e_isWhole : Fh 62 = .int x_isWhole) (i_x_isWhole : IR 0 1 x_isWhole) (z_0 : x_isWhole.toInt = 1) (z_1 : SMI f_read f_stack x_codes.toInt x_top.toInt 1) (o_0 : x_top.toInt + x_codes.toInt + x_isWhole.toInt ≤ 2 * x_ones.toInt) : CV l yX10_joins cX10_joins 2 none { frames := 1, cells := 0, slots := 0, locals := 23 } (GG D cI cJ cB cP cM cZ) D [(h0, .inr (10, vL 67 Fh)), (h_read, .inl (cI, 135, .inl f_read)), (h_stack, .inl (cI, 45, .inl f_stack))] sz [.ref h0, .int p0] (fun (u : va_W) => ∃ (Gh : Nat → Value) (y_codes : Int32) (y_top : Int32) (g_read : Nat → Int32), SAME [58, 60] Fh Gh ∧ Gh 58 = .int y_codes ∧ IR 0 45 y_codes ∧ Gh 60 = .int y_top ∧ IR 0 45 y_top ∧ (SMI g_read f_stack y_codes.toInt y_top.toInt 1) ∧ (JT f_stack y_top.toInt p0.toInt) ∧ (y_top.toInt + y_codes.toInt + x_isWhole.toInt ≤ 2 * x_ones.toInt) ∧ u = [(h0, .inr (10, vL 67 Gh)), (h_read, .inl (cI, 135, .inl g_read)), (h_stack, .inl (cI, 45, .inl f_stack))]) := by
  refine CV_mk (by decide) (Nat.le_of_ble_eq_true rfl) ?_
  intro p e s m below meth c A ls E hAe hG hsz hP hD hA hS hl
  obtain ⟨hx, hb, hr, hw, hown, hlocks, hml, hnm⟩ := E
  have hK := hG.1
  have i_x_codes : 0 ≤ x_codes.toInt ∧ x_codes.toInt ≤ 45 := i_x_codes
  have i_x_ones : 0 ≤ x_ones.toInt ∧ x_ones.toInt ≤ 20 := i_x_ones
  have i_x_top : 0 ≤ x_top.toInt ∧ x_top.toInt ≤ 45 := i_x_top
  have i_x_isWhole : 0 ≤ x_isWhole.toInt ∧ x_isWhole.toInt ≤ 1 := i_x_isWhole
  have hl : lv_has ls 2 [(0, .ref h0), (1, .int p0)] := hl
  refine mloop (α := (Nat → Value) × (Int32) × (Int32) × (Nat → Int32)) (nL := 2) (D := D) (A := A) (H0 := s.heap) (fun a => (a.2.2.1.toInt).toNat) (fun a => SAME [58, 60] Fh a.1 ∧ a.1 58 = .int a.2.1 ∧ a.1 60 = .int a.2.2.1 ∧ IR 0 45 a.2.1 ∧ IR 0 45 a.2.2.1 ∧ (SMI a.2.2.2 f_stack a.2.1.toInt a.2.2.1.toInt 1) ∧ (a.2.2.1.toInt + a.2.1.toInt + x_isWhole.toInt ≤ 2 * x_ones.toInt)) (fun a => [(h0, .inr (10, vL 67 a.1)), (h_read, .inl (cI, 135, .inl a.2.2.2)), (h_stack, .inl (cI, 45, .inl f_stack))]) (fun a => [(0, .ref h0), (1, .int p0)]) (fun H locs ls => W p l e ({ frames := 1, cells := 0, slots := 0, locals := 23 } : Room) s m [.ref h0, .int p0].toArray below meth c H locs 0 0 (MQ below (va_Qv (fun (u : va_W) => ∃ (Gh : Nat → Value) (y_codes : Int32) (y_top : Int32) (g_read : Nat → Int32), SAME [58, 60] Fh Gh ∧ Gh 58 = .int y_codes ∧ IR 0 45 y_codes ∧ Gh 60 = .int y_top ∧ IR 0 45 y_top ∧ (SMI g_read f_stack y_codes.toInt y_top.toInt 1) ∧ (JT f_stack y_top.toInt p0.toInt) ∧ (y_top.toInt + y_codes.toInt + x_isWhole.toInt ≤ 2 * x_ones.toInt) ∧ u = [(h0, .inr (10, vL 67 Gh)), (h_read, .inl (cI, 135, .inl g_read)), (h_stack, .inl (cI, 45, .inl f_stack))]) (PO D A) A) [.ref h0, .int p0].toArray s 0 0 A) (F0 m 0 ls [])) ?_ (Fh, x_codes, x_top, f_read) ⟨SAME.rf, e_codes, e_top, i_x_codes, i_x_top, (show SMI f_read f_stack x_codes.toInt x_top.toInt 1 from z_1), (by show x_top.toInt + x_codes.toInt + x_isWhole.toInt ≤ 2 * x_ones.toInt; omega)⟩ _ _ _ hP hD hS hl
  rintro ⟨G1, u2, u3, w4⟩ ⟨i5, i6, i7, i8, i9, i10, i11⟩ ih H locs ls hP hD hS hl
  have i8 : 0 ≤ u2.toInt ∧ u2.toInt ≤ 45 := i8
  have i9 : 0 ≤ u3.toInt ∧ u3.toInt ≤ 45 := i9
  have i10 : SMI w4 f_stack u2.toInt u3.toInt 1 := i10
  have i11 : u3.toInt + u2.toInt + x_isWhole.toInt ≤ 2 * x_ones.toInt := i11
  have hP : va_P D vwCl [(h0, .inr (10, vL 67 G1)), (h_read, .inl (cI, 135, .inl w4)), (h_stack, .inl (cI, 45, .inl f_stack))] H := hP
  have hD : va_D A [(h0, .inr (10, vL 67 G1)), (h_read, .inl (cI, 135, .inl w4)), (h_stack, .inl (cI, 45, .inl f_stack))] := hD
  have hl : lv_has ls 2 [(0, .ref h0), (1, .int p0)] := hl
  refine lv_aload_n hx hb dX10_joins_0 rfl (lv_at hl 0 rfl) ?_
  refine get_f (D := D) (ci := 10) (v := .int u3) (C := RX10) (T := TX10) (N := 67) hx hb hw inAX10 hown hK hP 0 rfl rfl 60 (by decide) (hw _ q_1321) (fun _ h9 => h9) i7 dX10_joins_1 ?_
  refine lv_if_le (tgt := 73) hx hb dX10_joins_4 (by decide) (fun c12 => ?_) (fun c12 => ?_)
  · have dc12 : u3.toInt ≤ 0 := le_i (a := u3.toInt) (b := 0) rfl rfl c12
    have k13 : 0 ≤ u3.toInt ∧ u3.toInt ≤ 0 := ⟨i9.1, Int.le_trans dc12 (Int.le_refl _)⟩
    exact ret_v hx hb hr hlocks hS hP hD dX10_joins_73 (Nat.le_of_ble_eq_true rfl) (Nat.le_of_ble_eq_true rfl) ⟨G1, u2, u3, w4, (SAME.tr SAME.rf i5 (by decide)), i6, i8, i7, (ir_wk k13 (by decide) (by decide)), i10, (JT.no (by omega)), (by omega), rfl⟩
  · have dc12 : 0 < u3.toInt := nle_i (a := u3.toInt) (b := 0) rfl rfl c12
    have k14 : 1 ≤ u3.toInt ∧ u3.toInt ≤ 45 := ⟨lo_lt dc12 (Int.le_refl _) (by decide), i9.2⟩
    refine lv_aload_n hx hb dX10_joins_7 rfl (lv_at hl 0 rfl) ?_
    have n15 : G1 57 = .ref h_stack := (SAME.at i5 (by decide) e_stack)
    refine get_f (D := D) (ci := 10) (v := .ref h_stack) (C := RX10) (T := TX10) (N := 67) hx hb hw inAX10 hown hK hP 0 rfl rfl 57 (by decide) (hw _ q_1318) (fun _ h9 => h9) n15 dX10_joins_8 ?_
    refine lv_aload_n hx hb dX10_joins_11 rfl (lv_at hl 0 rfl) ?_
    refine get_f (D := D) (ci := 10) (v := .int u3) (C := RX10) (T := TX10) (N := 67) hx hb hw inAX10 hown hK hP 0 rfl rfl 60 (by decide) (hw _ q_1321) (fun _ h9 => h9) i7 dX10_joins_12 ?_
    refine lv_iconst (v := 1) hx hb dX10_joins_15 (by decide) ?_
    refine lv_isub hx hb dX10_joins_16 ?_
    refine lv_topi (fun v16 ev16 => ?_)
    have bv16 : v16.toInt = u3.toInt - 1 := by rw [ev16]; exact sub_k rfl rfl k14 ⟨Int.le_refl _, Int.le_refl _⟩ (by decide)
    have k17 : 0 ≤ v16.toInt ∧ v16.toInt ≤ 44 := sub_r bv16 k14 ⟨Int.le_refl _, Int.le_refl _⟩ (by decide)
    refine va_iald hx hb hK hP 2 0 rfl rfl (ix_k k17 (by decide) (by decide)) dX10_joins_17 ?_
    refine lv_topi (fun v18 ev18 => ?_)
    refine lv_bipush (v := 21) hx hb dX10_joins_18 (by decide) ?_
    refine lv_icmp_eq (tgt := 45) hx hb dX10_joins_20 (by decide) (fun c19 => ?_) (fun c19 => ?_)
    · have dc19 : v18.toInt = 21 := eq_i (a := v18.toInt) (b := 21) rfl rfl c19
      have k20 : 21 ≤ v18.toInt ∧ v18.toInt ≤ 21 := ⟨Int.le_trans (Int.le_refl _) (Int.le_of_eq dc19.symm), Int.le_trans (Int.le_of_eq dc19) (Int.le_refl _)⟩
      refine lv_aload_n hx hb dX10_joins_45 rfl (lv_at hl 0 rfl) ?_
      refine lv_dup hx hb dX10_joins_46 rfl ?_
      refine get_f (D := D) (ci := 10) (v := .int u3) (C := RX10) (T := TX10) (N := 67) hx hb hw inAX10 hown hK hP 0 rfl rfl 60 (by decide) (hw _ q_1321) (fun _ h9 => h9) i7 dX10_joins_47 ?_
      refine lv_iconst (v := 1) hx hb dX10_joins_50 (by decide) ?_
      refine lv_isub hx hb dX10_joins_51 ?_
      refine lv_ci (y := v16) ev16.symm ?_
      refine put_f (D := D) (ci := 10) (v := .int v16) (ty := .int) (C := RX10) (T := TX10) (N := 67) hx hb hw inAX10 tyX10 tyX10_ok nmX10 hown hK hP hD hS 0 rfl rfl 60 (by decide) (hw _ q_1321) (fun _ h9 => h9) rfl (by decide +kernel) rfl rfl dX10_joins_52 (fun H locs F21 eF21 hP hD hS => ?_)
      have hP : va_P D vwCl [(h0, .inr (10, vL 67 F21)), (h_read, .inl (cI, 135, .inl w4)), (h_stack, .inl (cI, 45, .inl f_stack))] H := hP
      have hD : va_D A [(h0, .inr (10, vL 67 F21)), (h_read, .inl (cI, 135, .inl w4)), (h_stack, .inl (cI, 45, .inl f_stack))] := hD
      refine lv_aload_n hx hb dX10_joins_55 rfl (lv_at hl 0 rfl) ?_
      refine lv_aload_n hx hb dX10_joins_56 rfl (lv_at hl 0 rfl) ?_
      have n22 : F21 57 = .ref h_stack := (get_ne eF21 (by decide) n15)
      refine get_f (D := D) (ci := 10) (v := .ref h_stack) (C := RX10) (T := TX10) (N := 67) hx hb hw inAX10 hown hK hP 0 rfl rfl 57 (by decide) (hw _ q_1318) (fun _ h9 => h9) n22 dX10_joins_57 ?_
      refine lv_aload_n hx hb dX10_joins_60 rfl (lv_at hl 0 rfl) ?_
      refine get_f (D := D) (ci := 10) (v := .int v16) (C := RX10) (T := TX10) (N := 67) hx hb hw inAX10 hown hK hP 0 rfl rfl 60 (by decide) (hw _ q_1321) (fun _ h9 => h9) (get_eq eF21) dX10_joins_61 ?_
      refine va_iald hx hb hK hP 2 0 rfl rfl (ix_k k17 (by decide) (by decide)) dX10_joins_64 ?_
      refine lv_ci (y := v18) ev18.symm ?_
      refine lv_iconst (v := 0) hx hb dX10_joins_65 (by decide) ?_
      refine lv_iconst (v := 0) hx hb dX10_joins_66 (by decide) ?_
      have n23 : G1 8 = .ref h_read := (SAME.at i5 (by decide) e_read)
      have n24 : F21 8 = .ref h_read := (get_ne eF21 (by decide) n23)
      have n25 : F21 58 = .int u2 := (get_ne eF21 (by decide) i6)
      have n26 : G1 59 = .int x_ones := (SAME.at i5 (by decide) e_ones)
      have n27 : F21 59 = .int x_ones := (get_ne eF21 (by decide) n26)
      have n28 : G1 62 = .int x_isWhole := (SAME.at i5 (by decide) e_isWhole)
      have n29 : F21 62 = .int x_isWhole := (get_ne eF21 (by decide) n28)
      refine call_Vv (wr := [(h_stack, .inl (cI, 45, .inl f_stack))]) (As := [.int v18, .int 0, .int 0]) (rest := []) hx hb hml hown hw (m_X10_code l D cI cJ cB cP cM cZ h0 h_read F21 u2 x_ones v16 x_isWhole w4 v18 0 0 _ n24 n25 (show 0 ≤ u2.toInt ∧ u2.toInt ≤ 44 from ⟨by omega, by omega⟩) n27 i_x_ones (get_eq eF21) (ir_wk k17 (by decide) (by decide)) n29 i_x_isWhole (by omega) (by omega)) wV_X10_447_X10_code dX10_joins_67 hK hP hD hS hA [0, 1] [2] rfl rfl (by decide) (by decide) (by decide) 0 10 rfl rfl GG.fb hG.at hl.1 rfl (Nat.le_of_ble_eq_true rfl) ⟨(Nat.le_of_ble_eq_true rfl), (Nat.le_of_ble_eq_true rfl)⟩ ⟨(Nat.le_of_ble_eq_true rfl), (Nat.le_of_ble_eq_true rfl)⟩ (fun u H locs hp hP hD hS => ?_)
      have zl0 : (0 : Int32).toInt = 0 := by decide
      obtain ⟨F31, y32, g33, t34, t35, t36, t37, t38, t39, rfl⟩ := hp
      have hP : va_P D vwCl [(h_stack, .inl (cI, 45, .inl f_stack)), (h0, .inr (10, vL 67 F31)), (h_read, .inl (cI, 135, .inl g33))] H := hP
      have hD : va_D A [(h_stack, .inl (cI, 45, .inl f_stack)), (h0, .inr (10, vL 67 F31)), (h_read, .inl (cI, 135, .inl g33))] := hD
      refine W.widen (k := 0) (n := 0) (Nat.le_of_ble_eq_true rfl) (Nat.le_of_ble_eq_true rfl) ?_
      refine lv_goto (tgt := 0) hx hb dX10_joins_70 (by decide) ?_
      have n41 : F31 60 = .int v16 := (SAME.at t34 (by decide) (get_eq eF21))
      exact ih (F31, y32, v16, g33) ⟨(SAME.tr (SAME.up eF21 (SAME.tr SAME.rf i5 (by decide)) (by decide)) t34 (by decide)), t35, n41, (ir_wk t36 (by decide) (by decide)), (ir_wk k17 (by decide) (by decide)), (show SMI g33 f_stack y32.toInt v16.toInt 1 from (SMI.bin i10 t38 (by omega) ev18 (by omega) (by omega) (by omega) (by omega))), (by show v16.toInt + y32.toInt + x_isWhole.toInt ≤ 2 * x_ones.toInt; omega)⟩ (by show (v16.toInt).toNat < (u3.toInt).toNat; omega) _ _ _ (hP.sub [1, 2, 0] rfl) (hD.sub [1, 2, 0] (by decide) rfl) hS (lv_sub hl [0, 1] rfl)
    · have dc19 : v18.toInt ≠ 21 := ne_i (a := v18.toInt) (b := 21) rfl rfl c19
      refine lv_aload_n hx hb dX10_joins_23 rfl (lv_at hl 0 rfl) ?_
      refine get_f (D := D) (ci := 10) (v := .ref h_stack) (C := RX10) (T := TX10) (N := 67) hx hb hw inAX10 hown hK hP 0 rfl rfl 57 (by decide) (hw _ q_1318) (fun _ h9 => h9) n15 dX10_joins_24 ?_
      refine lv_aload_n hx hb dX10_joins_27 rfl (lv_at hl 0 rfl) ?_
      refine get_f (D := D) (ci := 10) (v := .int u3) (C := RX10) (T := TX10) (N := 67) hx hb hw inAX10 hown hK hP 0 rfl rfl 60 (by decide) (hw _ q_1321) (fun _ h9 => h9) i7 dX10_joins_28 ?_
      refine lv_iconst (v := 1) hx hb dX10_joins_31 (by decide) ?_
      refine lv_isub hx hb dX10_joins_32 ?_
      refine lv_ci (y := v16) ev16.symm ?_
      refine va_iald hx hb hK hP 2 0 rfl rfl (ix_k k17 (by decide) (by decide)) dX10_joins_33 ?_
      refine lv_ci (y := v18) ev18.symm ?_
      refine lv_bipush (v := 22) hx hb dX10_joins_34 (by decide) ?_
      refine lv_icmp_ne (tgt := 73) hx hb dX10_joins_36 (by decide) (fun c42 => ?_) (fun c42 => ?_)
      · have dc42 : v18.toInt ≠ 22 := ne_i (a := v18.toInt) (b := 22) rfl rfl c42
        exact ret_v hx hb hr hlocks hS hP hD dX10_joins_73 (Nat.le_of_ble_eq_true rfl) (Nat.le_of_ble_eq_true rfl) ⟨G1, u2, u3, w4, (SAME.tr SAME.rf i5 (by decide)), i6, i8, i7, (ir_wk k14 (by decide) (by decide)), i10, (JT.at ev18 (by omega) (by omega) (by omega)), (by omega), rfl⟩
      · have dc42 : v18.toInt = 22 := eq_i (a := v18.toInt) (b := 22) rfl rfl c42
        have k43 : 22 ≤ v18.toInt ∧ v18.toInt ≤ 22 := ⟨Int.le_trans (Int.le_refl _) (Int.le_of_eq dc42.symm), Int.le_trans (Int.le_of_eq dc42) (Int.le_refl _)⟩
        refine lv_iload_n hx hb dX10_joins_39 rfl (lv_at hl 1 rfl) ?_
        refine lv_bipush (v := 22) hx hb dX10_joins_40 (by decide) ?_
        refine lv_icmp_ne (tgt := 73) hx hb dX10_joins_42 (by decide) (fun c44 => ?_) (fun c44 => ?_)
        · have dc44 : p0.toInt ≠ 22 := ne_i (a := p0.toInt) (b := 22) rfl rfl c44
          exact ret_v hx hb hr hlocks hS hP hD dX10_joins_73 (Nat.le_of_ble_eq_true rfl) (Nat.le_of_ble_eq_true rfl) ⟨G1, u2, u3, w4, (SAME.tr SAME.rf i5 (by decide)), i6, i8, i7, (ir_wk k14 (by decide) (by decide)), i10, (JT.ne (by omega)), (by omega), rfl⟩
        · have dc44 : p0.toInt = 22 := eq_i (a := p0.toInt) (b := 22) rfl rfl c44
          have k45 : 22 ≤ p0.toInt ∧ p0.toInt ≤ 22 := ⟨Int.le_trans (Int.le_refl _) (Int.le_of_eq dc44.symm), Int.le_trans (Int.le_of_eq dc44) (Int.le_refl _)⟩
          refine lv_aload_n hx hb dX10_joins_45 rfl (lv_at hl 0 rfl) ?_
          refine lv_dup hx hb dX10_joins_46 rfl ?_
          refine get_f (D := D) (ci := 10) (v := .int u3) (C := RX10) (T := TX10) (N := 67) hx hb hw inAX10 hown hK hP 0 rfl rfl 60 (by decide) (hw _ q_1321) (fun _ h9 => h9) i7 dX10_joins_47 ?_
          refine lv_iconst (v := 1) hx hb dX10_joins_50 (by decide) ?_
          refine lv_isub hx hb dX10_joins_51 ?_
          refine lv_ci (y := v16) ev16.symm ?_
          refine put_f (D := D) (ci := 10) (v := .int v16) (ty := .int) (C := RX10) (T := TX10) (N := 67) hx hb hw inAX10 tyX10 tyX10_ok nmX10 hown hK hP hD hS 0 rfl rfl 60 (by decide) (hw _ q_1321) (fun _ h9 => h9) rfl (by decide +kernel) rfl rfl dX10_joins_52 (fun H locs F46 eF46 hP hD hS => ?_)
          have hP : va_P D vwCl [(h0, .inr (10, vL 67 F46)), (h_read, .inl (cI, 135, .inl w4)), (h_stack, .inl (cI, 45, .inl f_stack))] H := hP
          have hD : va_D A [(h0, .inr (10, vL 67 F46)), (h_read, .inl (cI, 135, .inl w4)), (h_stack, .inl (cI, 45, .inl f_stack))] := hD
          refine lv_aload_n hx hb dX10_joins_55 rfl (lv_at hl 0 rfl) ?_
          refine lv_aload_n hx hb dX10_joins_56 rfl (lv_at hl 0 rfl) ?_
          have n47 : F46 57 = .ref h_stack := (get_ne eF46 (by decide) n15)
          refine get_f (D := D) (ci := 10) (v := .ref h_stack) (C := RX10) (T := TX10) (N := 67) hx hb hw inAX10 hown hK hP 0 rfl rfl 57 (by decide) (hw _ q_1318) (fun _ h9 => h9) n47 dX10_joins_57 ?_
          refine lv_aload_n hx hb dX10_joins_60 rfl (lv_at hl 0 rfl) ?_
          refine get_f (D := D) (ci := 10) (v := .int v16) (C := RX10) (T := TX10) (N := 67) hx hb hw inAX10 hown hK hP 0 rfl rfl 60 (by decide) (hw _ q_1321) (fun _ h9 => h9) (get_eq eF46) dX10_joins_61 ?_
          refine va_iald hx hb hK hP 2 0 rfl rfl (ix_k k17 (by decide) (by decide)) dX10_joins_64 ?_
          refine lv_ci (y := v18) ev18.symm ?_
          refine lv_iconst (v := 0) hx hb dX10_joins_65 (by decide) ?_
          refine lv_iconst (v := 0) hx hb dX10_joins_66 (by decide) ?_
          have n48 : G1 8 = .ref h_read := (SAME.at i5 (by decide) e_read)
          have n49 : F46 8 = .ref h_read := (get_ne eF46 (by decide) n48)
          have n50 : F46 58 = .int u2 := (get_ne eF46 (by decide) i6)
          have n51 : G1 59 = .int x_ones := (SAME.at i5 (by decide) e_ones)
          have n52 : F46 59 = .int x_ones := (get_ne eF46 (by decide) n51)
          have n53 : G1 62 = .int x_isWhole := (SAME.at i5 (by decide) e_isWhole)
          have n54 : F46 62 = .int x_isWhole := (get_ne eF46 (by decide) n53)
          refine call_Vv (wr := [(h_stack, .inl (cI, 45, .inl f_stack))]) (As := [.int v18, .int 0, .int 0]) (rest := []) hx hb hml hown hw (m_X10_code l D cI cJ cB cP cM cZ h0 h_read F46 u2 x_ones v16 x_isWhole w4 v18 0 0 _ n49 n50 (show 0 ≤ u2.toInt ∧ u2.toInt ≤ 44 from ⟨by omega, by omega⟩) n52 i_x_ones (get_eq eF46) (ir_wk k17 (by decide) (by decide)) n54 i_x_isWhole (by omega) (by omega)) wV_X10_447_X10_code dX10_joins_67 hK hP hD hS hA [0, 1] [2] rfl rfl (by decide) (by decide) (by decide) 0 10 rfl rfl GG.fb hG.at hl.1 rfl (Nat.le_of_ble_eq_true rfl) ⟨(Nat.le_of_ble_eq_true rfl), (Nat.le_of_ble_eq_true rfl)⟩ ⟨(Nat.le_of_ble_eq_true rfl), (Nat.le_of_ble_eq_true rfl)⟩ (fun u H locs hp hP hD hS => ?_)
          have zl0 : (0 : Int32).toInt = 0 := by decide
          obtain ⟨F56, y57, g58, t59, t60, t61, t62, t63, t64, rfl⟩ := hp
          have hP : va_P D vwCl [(h_stack, .inl (cI, 45, .inl f_stack)), (h0, .inr (10, vL 67 F56)), (h_read, .inl (cI, 135, .inl g58))] H := hP
          have hD : va_D A [(h_stack, .inl (cI, 45, .inl f_stack)), (h0, .inr (10, vL 67 F56)), (h_read, .inl (cI, 135, .inl g58))] := hD
          refine W.widen (k := 0) (n := 0) (Nat.le_of_ble_eq_true rfl) (Nat.le_of_ble_eq_true rfl) ?_
          refine lv_goto (tgt := 0) hx hb dX10_joins_70 (by decide) ?_
          have n66 : F56 60 = .int v16 := (SAME.at t59 (by decide) (get_eq eF46))
          exact ih (F56, y57, v16, g58) ⟨(SAME.tr (SAME.up eF46 (SAME.tr SAME.rf i5 (by decide)) (by decide)) t59 (by decide)), t60, n66, (ir_wk t61 (by decide) (by decide)), (ir_wk k17 (by decide) (by decide)), (show SMI g58 f_stack y57.toInt v16.toInt 1 from (SMI.bin i10 t63 (by omega) ev18 (by omega) (by omega) (by omega) (by omega))), (by show v16.toInt + y57.toInt + x_isWhole.toInt ≤ 2 * x_ones.toInt; omega)⟩ (by show (v16.toInt).toNat < (u3.toInt).toNat; omega) _ _ _ (hP.sub [1, 2, 0] rfl) (hD.sub [1, 2, 0] (by decide) rfl) hS (lv_sub hl [0, 1] rfl)
set_option maxHeartbeats 4000000 in
set_option maxRecDepth 100000 in
theorem m_X10_nots (l : Launch) (D : va_G) (cI cJ cB cP cM cZ : ClassId) (h0 : Nat) (h_read : Nat) (h_stack : Nat) (Fh : Nat → Value) (x_codes : Int32) (x_ones : Int32) (x_top : Int32) (x_deep : Int32) (x_isWhole : Int32) (f_read : Nat → Int32) (f_stack : Nat → Int32) (sz : Nat) (e_read : Fh 8 = .ref h_read) (e_stack : Fh 57 = .ref h_stack) (e_codes : Fh 58 = .int x_codes) (i_x_codes : IR 0 45 x_codes) (e_ones : Fh 59 = .int x_ones) (i_x_ones : IR 0 20 x_ones) (e_top : Fh 60 = .int x_top) (i_x_top : IR 0 45 x_top) (e_deep : Fh 61 = .int x_deep) (e_isWhole : Fh 62 = .int x_isWhole) (i_x_isWhole : IR 0 1 x_isWhole) (z_0 : x_isWhole.toInt = 1) (z_1 : SMI f_read f_stack x_codes.toInt x_top.toInt 1) (o_0 : x_top.toInt + x_codes.toInt + x_isWhole.toInt ≤ 2 * x_ones.toInt) : CV l yX10_nots cX10_nots 1 none { frames := 1, cells := 0, slots := 0, locals := 23 } (GG D cI cJ cB cP cM cZ) D [(h0, .inr (10, vL 67 Fh)), (h_read, .inl (cI, 135, .inl f_read)), (h_stack, .inl (cI, 45, .inl f_stack))] sz [.ref h0] (fun (u : va_W) => ∃ (Gh : Nat → Value) (y_codes : Int32) (y_top : Int32) (y_deep : Int32) (g_read : Nat → Int32), SAME [58, 60, 61] Fh Gh ∧ Gh 58 = .int y_codes ∧ IR 0 45 y_codes ∧ Gh 60 = .int y_top ∧ IR 0 45 y_top ∧ Gh 61 = .int y_deep ∧ (SMI g_read f_stack y_codes.toInt y_top.toInt 1) ∧ (y_top.toInt + y_codes.toInt + x_isWhole.toInt ≤ 2 * x_ones.toInt) ∧ u = [(h0, .inr (10, vL 67 Gh)), (h_read, .inl (cI, 135, .inl g_read)), (h_stack, .inl (cI, 45, .inl f_stack))]) := by
  refine CV_mk (by decide) (Nat.le_of_ble_eq_true rfl) ?_
  intro p e s m below meth c A ls E hAe hG hsz hP hD hA hS hl
  obtain ⟨hx, hb, hr, hw, hown, hlocks, hml, hnm⟩ := E
  have hK := hG.1
  have i_x_codes : 0 ≤ x_codes.toInt ∧ x_codes.toInt ≤ 45 := i_x_codes
  have i_x_ones : 0 ≤ x_ones.toInt ∧ x_ones.toInt ≤ 20 := i_x_ones
  have i_x_top : 0 ≤ x_top.toInt ∧ x_top.toInt ≤ 45 := i_x_top
  have i_x_isWhole : 0 ≤ x_isWhole.toInt ∧ x_isWhole.toInt ≤ 1 := i_x_isWhole
  have hl : lv_has ls 1 [(0, .ref h0)] := hl
  refine mloop (α := (Nat → Value) × (Int32) × (Int32) × (Int32) × (Nat → Int32)) (nL := 1) (D := D) (A := A) (H0 := s.heap) (fun a => (a.2.2.1.toInt).toNat) (fun a => SAME [58, 60, 61] Fh a.1 ∧ a.1 58 = .int a.2.1 ∧ a.1 60 = .int a.2.2.1 ∧ a.1 61 = .int a.2.2.2.1 ∧ IR 0 45 a.2.1 ∧ IR 0 45 a.2.2.1 ∧ (SMI a.2.2.2.2 f_stack a.2.1.toInt a.2.2.1.toInt 1) ∧ (a.2.2.1.toInt + a.2.1.toInt + x_isWhole.toInt ≤ 2 * x_ones.toInt)) (fun a => [(h0, .inr (10, vL 67 a.1)), (h_read, .inl (cI, 135, .inl a.2.2.2.2)), (h_stack, .inl (cI, 45, .inl f_stack))]) (fun a => [(0, .ref h0)]) (fun H locs ls => W p l e ({ frames := 1, cells := 0, slots := 0, locals := 23 } : Room) s m [.ref h0].toArray below meth c H locs 0 0 (MQ below (va_Qv (fun (u : va_W) => ∃ (Gh : Nat → Value) (y_codes : Int32) (y_top : Int32) (y_deep : Int32) (g_read : Nat → Int32), SAME [58, 60, 61] Fh Gh ∧ Gh 58 = .int y_codes ∧ IR 0 45 y_codes ∧ Gh 60 = .int y_top ∧ IR 0 45 y_top ∧ Gh 61 = .int y_deep ∧ (SMI g_read f_stack y_codes.toInt y_top.toInt 1) ∧ (y_top.toInt + y_codes.toInt + x_isWhole.toInt ≤ 2 * x_ones.toInt) ∧ u = [(h0, .inr (10, vL 67 Gh)), (h_read, .inl (cI, 135, .inl g_read)), (h_stack, .inl (cI, 45, .inl f_stack))]) (PO D A) A) [.ref h0].toArray s 0 0 A) (F0 m 0 ls [])) ?_ (Fh, x_codes, x_top, x_deep, f_read) ⟨SAME.rf, e_codes, e_top, e_deep, i_x_codes, i_x_top, (show SMI f_read f_stack x_codes.toInt x_top.toInt 1 from z_1), (by show x_top.toInt + x_codes.toInt + x_isWhole.toInt ≤ 2 * x_ones.toInt; omega)⟩ _ _ _ hP hD hS hl
  rintro ⟨G1, u2, u3, u4, w5⟩ ⟨i6, i7, i8, i9, i10, i11, i12, i13⟩ ih H locs ls hP hD hS hl
  have i10 : 0 ≤ u2.toInt ∧ u2.toInt ≤ 45 := i10
  have i11 : 0 ≤ u3.toInt ∧ u3.toInt ≤ 45 := i11
  have i12 : SMI w5 f_stack u2.toInt u3.toInt 1 := i12
  have i13 : u3.toInt + u2.toInt + x_isWhole.toInt ≤ 2 * x_ones.toInt := i13
  have hP : va_P D vwCl [(h0, .inr (10, vL 67 G1)), (h_read, .inl (cI, 135, .inl w5)), (h_stack, .inl (cI, 45, .inl f_stack))] H := hP
  have hD : va_D A [(h0, .inr (10, vL 67 G1)), (h_read, .inl (cI, 135, .inl w5)), (h_stack, .inl (cI, 45, .inl f_stack))] := hD
  have hl : lv_has ls 1 [(0, .ref h0)] := hl
  refine lv_aload_n hx hb dX10_nots_0 rfl (lv_at hl 0 rfl) ?_
  refine get_f (D := D) (ci := 10) (v := .int u3) (C := RX10) (T := TX10) (N := 67) hx hb hw inAX10 hown hK hP 0 rfl rfl 60 (by decide) (hw _ q_1321) (fun _ h9 => h9) i8 dX10_nots_1 ?_
  refine lv_if_le (tgt := 54) hx hb dX10_nots_4 (by decide) (fun c14 => ?_) (fun c14 => ?_)
  · have dc14 : u3.toInt ≤ 0 := le_i (a := u3.toInt) (b := 0) rfl rfl c14
    have k15 : 0 ≤ u3.toInt ∧ u3.toInt ≤ 0 := ⟨i11.1, Int.le_trans dc14 (Int.le_refl _)⟩
    exact ret_v hx hb hr hlocks hS hP hD dX10_nots_54 (Nat.le_of_ble_eq_true rfl) (Nat.le_of_ble_eq_true rfl) ⟨G1, u2, u3, u4, w5, (SAME.tr SAME.rf i6 (by decide)), i7, i10, i8, (ir_wk k15 (by decide) (by decide)), i9, i12, (by omega), rfl⟩
  · have dc14 : 0 < u3.toInt := nle_i (a := u3.toInt) (b := 0) rfl rfl c14
    have k16 : 1 ≤ u3.toInt ∧ u3.toInt ≤ 45 := ⟨lo_lt dc14 (Int.le_refl _) (by decide), i11.2⟩
    refine lv_aload_n hx hb dX10_nots_7 rfl (lv_at hl 0 rfl) ?_
    have n17 : G1 57 = .ref h_stack := (SAME.at i6 (by decide) e_stack)
    refine get_f (D := D) (ci := 10) (v := .ref h_stack) (C := RX10) (T := TX10) (N := 67) hx hb hw inAX10 hown hK hP 0 rfl rfl 57 (by decide) (hw _ q_1318) (fun _ h9 => h9) n17 dX10_nots_8 ?_
    refine lv_aload_n hx hb dX10_nots_11 rfl (lv_at hl 0 rfl) ?_
    refine get_f (D := D) (ci := 10) (v := .int u3) (C := RX10) (T := TX10) (N := 67) hx hb hw inAX10 hown hK hP 0 rfl rfl 60 (by decide) (hw _ q_1321) (fun _ h9 => h9) i8 dX10_nots_12 ?_
    refine lv_iconst (v := 1) hx hb dX10_nots_15 (by decide) ?_
    refine lv_isub hx hb dX10_nots_16 ?_
    refine lv_topi (fun v18 ev18 => ?_)
    have bv18 : v18.toInt = u3.toInt - 1 := by rw [ev18]; exact sub_k rfl rfl k16 ⟨Int.le_refl _, Int.le_refl _⟩ (by decide)
    have k19 : 0 ≤ v18.toInt ∧ v18.toInt ≤ 44 := sub_r bv18 k16 ⟨Int.le_refl _, Int.le_refl _⟩ (by decide)
    refine va_iald hx hb hK hP 2 0 rfl rfl (ix_k k19 (by decide) (by decide)) dX10_nots_17 ?_
    refine lv_topi (fun v20 ev20 => ?_)
    refine lv_bipush (v := 20) hx hb dX10_nots_18 (by decide) ?_
    refine lv_icmp_ne (tgt := 54) hx hb dX10_nots_20 (by decide) (fun c21 => ?_) (fun c21 => ?_)
    · have dc21 : v20.toInt ≠ 20 := ne_i (a := v20.toInt) (b := 20) rfl rfl c21
      exact ret_v hx hb hr hlocks hS hP hD dX10_nots_54 (Nat.le_of_ble_eq_true rfl) (Nat.le_of_ble_eq_true rfl) ⟨G1, u2, u3, u4, w5, (SAME.tr SAME.rf i6 (by decide)), i7, i10, i8, (ir_wk k16 (by decide) (by decide)), i9, i12, (by omega), rfl⟩
    · have dc21 : v20.toInt = 20 := eq_i (a := v20.toInt) (b := 20) rfl rfl c21
      have k22 : 20 ≤ v20.toInt ∧ v20.toInt ≤ 20 := ⟨Int.le_trans (Int.le_refl _) (Int.le_of_eq dc21.symm), Int.le_trans (Int.le_of_eq dc21) (Int.le_refl _)⟩
      refine lv_aload_n hx hb dX10_nots_23 rfl (lv_at hl 0 rfl) ?_
      refine lv_dup hx hb dX10_nots_24 rfl ?_
      refine get_f (D := D) (ci := 10) (v := .int u3) (C := RX10) (T := TX10) (N := 67) hx hb hw inAX10 hown hK hP 0 rfl rfl 60 (by decide) (hw _ q_1321) (fun _ h9 => h9) i8 dX10_nots_25 ?_
      refine lv_iconst (v := 1) hx hb dX10_nots_28 (by decide) ?_
      refine lv_isub hx hb dX10_nots_29 ?_
      refine lv_ci (y := v18) ev18.symm ?_
      refine put_f (D := D) (ci := 10) (v := .int v18) (ty := .int) (C := RX10) (T := TX10) (N := 67) hx hb hw inAX10 tyX10 tyX10_ok nmX10 hown hK hP hD hS 0 rfl rfl 60 (by decide) (hw _ q_1321) (fun _ h9 => h9) rfl (by decide +kernel) rfl rfl dX10_nots_30 (fun H locs F23 eF23 hP hD hS => ?_)
      have hP : va_P D vwCl [(h0, .inr (10, vL 67 F23)), (h_read, .inl (cI, 135, .inl w5)), (h_stack, .inl (cI, 45, .inl f_stack))] H := hP
      have hD : va_D A [(h0, .inr (10, vL 67 F23)), (h_read, .inl (cI, 135, .inl w5)), (h_stack, .inl (cI, 45, .inl f_stack))] := hD
      refine lv_aload_n hx hb dX10_nots_33 rfl (lv_at hl 0 rfl) ?_
      refine lv_dup hx hb dX10_nots_34 rfl ?_
      have n24 : F23 61 = .int u4 := (get_ne eF23 (by decide) i9)
      refine get_f (D := D) (ci := 10) (v := .int u4) (C := RX10) (T := TX10) (N := 67) hx hb hw inAX10 hown hK hP 0 rfl rfl 61 (by decide) (hw _ q_1322) (fun _ h9 => h9) n24 dX10_nots_35 ?_
      refine lv_iconst (v := 1) hx hb dX10_nots_38 (by decide) ?_
      refine lv_isub hx hb dX10_nots_39 ?_
      refine lv_topi (fun v25 ev25 => ?_)
      refine put_f (D := D) (ci := 10) (v := .int v25) (ty := .int) (C := RX10) (T := TX10) (N := 67) hx hb hw inAX10 tyX10 tyX10_ok nmX10 hown hK hP hD hS 0 rfl rfl 61 (by decide) (hw _ q_1322) (fun _ h9 => h9) rfl (by decide +kernel) rfl rfl dX10_nots_40 (fun H locs F26 eF26 hP hD hS => ?_)
      have hP : va_P D vwCl [(h0, .inr (10, vL 67 F26)), (h_read, .inl (cI, 135, .inl w5)), (h_stack, .inl (cI, 45, .inl f_stack))] H := hP
      have hD : va_D A [(h0, .inr (10, vL 67 F26)), (h_read, .inl (cI, 135, .inl w5)), (h_stack, .inl (cI, 45, .inl f_stack))] := hD
      refine lv_aload_n hx hb dX10_nots_43 rfl (lv_at hl 0 rfl) ?_
      refine lv_bipush (v := 20) hx hb dX10_nots_44 (by decide) ?_
      refine lv_iconst (v := 0) hx hb dX10_nots_46 (by decide) ?_
      refine lv_iconst (v := 0) hx hb dX10_nots_47 (by decide) ?_
      have n27 : G1 8 = .ref h_read := (SAME.at i6 (by decide) e_read)
      have n28 : F23 8 = .ref h_read := (get_ne eF23 (by decide) n27)
      have n29 : F26 8 = .ref h_read := (get_ne eF26 (by decide) n28)
      have n30 : F23 58 = .int u2 := (get_ne eF23 (by decide) i7)
      have n31 : F26 58 = .int u2 := (get_ne eF26 (by decide) n30)
      have n32 : G1 59 = .int x_ones := (SAME.at i6 (by decide) e_ones)
      have n33 : F23 59 = .int x_ones := (get_ne eF23 (by decide) n32)
      have n34 : F26 59 = .int x_ones := (get_ne eF26 (by decide) n33)
      have n35 : F26 60 = .int v18 := (get_ne eF26 (by decide) (get_eq eF23))
      have n36 : G1 62 = .int x_isWhole := (SAME.at i6 (by decide) e_isWhole)
      have n37 : F23 62 = .int x_isWhole := (get_ne eF23 (by decide) n36)
      have n38 : F26 62 = .int x_isWhole := (get_ne eF26 (by decide) n37)
      refine call_Vv (wr := [(h_stack, .inl (cI, 45, .inl f_stack))]) (As := [.int 20, .int 0, .int 0]) (rest := []) hx hb hml hown hw (m_X10_code l D cI cJ cB cP cM cZ h0 h_read F26 u2 x_ones v18 x_isWhole w5 20 0 0 _ n29 n31 (show 0 ≤ u2.toInt ∧ u2.toInt ≤ 44 from ⟨by omega, by omega⟩) n34 i_x_ones n35 (ir_wk k19 (by decide) (by decide)) n38 i_x_isWhole (by omega) (by omega)) wV_X10_447_X10_code dX10_nots_48 hK hP hD hS hA [0, 1] [2] rfl rfl (by decide) (by decide) (by decide) 0 10 rfl rfl GG.fb hG.at hl.1 rfl (Nat.le_of_ble_eq_true rfl) ⟨(Nat.le_of_ble_eq_true rfl), (Nat.le_of_ble_eq_true rfl)⟩ ⟨(Nat.le_of_ble_eq_true rfl), (Nat.le_of_ble_eq_true rfl)⟩ (fun u H locs hp hP hD hS => ?_)
      have zl0 : (0 : Int32).toInt = 0 := by decide
      have zl20 : (20 : Int32).toInt = 20 := by decide
      obtain ⟨F40, y41, g42, t43, t44, t45, t46, t47, t48, rfl⟩ := hp
      have hP : va_P D vwCl [(h_stack, .inl (cI, 45, .inl f_stack)), (h0, .inr (10, vL 67 F40)), (h_read, .inl (cI, 135, .inl g42))] H := hP
      have hD : va_D A [(h_stack, .inl (cI, 45, .inl f_stack)), (h0, .inr (10, vL 67 F40)), (h_read, .inl (cI, 135, .inl g42))] := hD
      refine W.widen (k := 0) (n := 0) (Nat.le_of_ble_eq_true rfl) (Nat.le_of_ble_eq_true rfl) ?_
      refine lv_goto (tgt := 0) hx hb dX10_nots_51 (by decide) ?_
      have n50 : F40 60 = .int v18 := (SAME.at t43 (by decide) n35)
      have n51 : F40 61 = .int v25 := (SAME.at t43 (by decide) (get_eq eF26))
      exact ih (F40, y41, v18, v25, g42) ⟨(SAME.tr (SAME.up eF26 (SAME.up eF23 (SAME.tr SAME.rf i6 (by decide)) (by decide)) (by decide)) t43 (by decide)), t44, n50, n51, (ir_wk t45 (by decide) (by decide)), (ir_wk k19 (by decide) (by decide)), (show SMI g42 f_stack y41.toInt v18.toInt 1 from (SMI.not i12 t47 (by decide) (by omega) ev20 (by omega) (by omega) (by omega) (by omega))), (by show v18.toInt + y41.toInt + x_isWhole.toInt ≤ 2 * x_ones.toInt; omega)⟩ (by show (v18.toInt).toNat < (u3.toInt).toNat; omega) _ _ _ (hP.sub [1, 2, 0] rfl) (hD.sub [1, 2, 0] (by decide) rfl) hS (lv_sub hl [0] rfl)
set_option maxHeartbeats 4000000 in
set_option maxRecDepth 100000 in
theorem m_X10_leafOf (l : Launch) (D : va_G) (cI cJ cB cP cM cZ : ClassId) (h0 : Nat) (Fh : Nat → Value) (x_token : Int32) (x_number : Int32) (x_word : Int64) (sz : Nat) (e_token : Fh 11 = .int x_token) (i_x_token : IR 0 4 x_token) (e_number : Fh 14 = .int x_number) (e_word : Fh 18 = .long x_word) (o_0 : (x_token.toInt = 2 → 0 ≤ x_number.toInt ∧ x_number.toInt ≤ 999)) : CI l yX10_leafOf cX10_leafOf 1 (some .int) { frames := 1, cells := 0, slots := 0, locals := 22 } (GG D cI cJ cB cP cM cZ) D [(h0, .inr (10, vL 67 Fh))] sz [.ref h0] (fun (r : Int32) (u : va_W) => IR (-1) 6 r ∧ ((0 ≤ r.toInt → x_token.toInt = 1)) ∧ u = [(h0, .inr (10, vL 67 Fh))]) := by
  refine CI_mk (by decide) (Nat.le_of_ble_eq_true rfl) ?_
  intro p e s m below meth c A ls E hAe hG hsz hP hD hA hS hl
  obtain ⟨hx, hb, hr, hw, hown, hlocks, hml, hnm⟩ := E
  have hK := hG.1
  have i_x_token : 0 ≤ x_token.toInt ∧ x_token.toInt ≤ 4 := i_x_token
  have hl : lv_has ls 1 [(0, .ref h0)] := hl
  refine lv_aload_n hx hb dX10_leafOf_0 rfl (lv_at hl 0 rfl) ?_
  refine lv_ldc2 hx hb hown (hw _ q_1242) dX10_leafOf_1 ?_
  refine call_Vi (wr := []) (As := [.long 1668441463]) (rest := []) hx hb hml hown hw (m_X10_isWord l D cI cJ cB cP cM cZ h0 Fh x_token x_number x_word 1668441463 _ e_token i_x_token e_number e_word (by omega)) wV_X10_225_X10_isWord dX10_leafOf_4 hK hP hD hS hA [0] [] rfl rfl (by decide) (by decide) (by decide) 0 10 rfl rfl GG.fb hG.at hl.1 rfl (Nat.le_of_ble_eq_true rfl) ⟨(Nat.le_of_ble_eq_true rfl), (Nat.le_of_ble_eq_true rfl)⟩ ⟨(Nat.le_of_ble_eq_true rfl), (Nat.le_of_ble_eq_true rfl)⟩ (fun r1 u H locs hp hP hD hS => ?_)
  have zl1668441463 : (1668441463 : Int32).toInt = 1668441463 := by decide
  obtain ⟨t2, t3, rfl⟩ := hp
  have hP : va_P D vwCl [(h0, .inr (10, vL 67 Fh))] H := hP
  have hD : va_D A [(h0, .inr (10, vL 67 Fh))] := hD
  refine W.widen (k := 0) (n := 0) (Nat.le_of_ble_eq_true rfl) (Nat.le_of_ble_eq_true rfl) ?_
  refine lv_if_eq (tgt := 14) hx hb dX10_leafOf_7 (by decide) (fun c5 => ?_) (fun c5 => ?_)
  · have dc5 : r1.toInt = 0 := eq_i (a := r1.toInt) (b := 0) rfl rfl c5
    have k6 : 0 ≤ r1.toInt ∧ r1.toInt ≤ 0 := ⟨t2.1, Int.le_trans (Int.le_of_eq dc5) (Int.le_refl _)⟩
    refine lv_aload_n hx hb dX10_leafOf_14 rfl (lv_at hl 0 rfl) ?_
    refine lv_ldc2 hx hb hown (hw _ q_1251) dX10_leafOf_15 ?_
    refine call_Vi (wr := []) (As := [.long 1734702195]) (rest := []) hx hb hml hown hw (m_X10_isWord l D cI cJ cB cP cM cZ h0 Fh x_token x_number x_word 1734702195 _ e_token i_x_token e_number e_word (by omega)) wV_X10_225_X10_isWord dX10_leafOf_18 hK hP hD hS hA [0] [] rfl rfl (by decide) (by decide) (by decide) 0 10 rfl rfl GG.fb hG.at hl.1 rfl (Nat.le_of_ble_eq_true rfl) ⟨(Nat.le_of_ble_eq_true rfl), (Nat.le_of_ble_eq_true rfl)⟩ ⟨(Nat.le_of_ble_eq_true rfl), (Nat.le_of_ble_eq_true rfl)⟩ (fun r7 u H locs hp hP hD hS => ?_)
    have zl1734702195 : (1734702195 : Int32).toInt = 1734702195 := by decide
    obtain ⟨t8, t9, rfl⟩ := hp
    have hP : va_P D vwCl [(h0, .inr (10, vL 67 Fh))] H := hP
    have hD : va_D A [(h0, .inr (10, vL 67 Fh))] := hD
    refine W.widen (k := 0) (n := 0) (Nat.le_of_ble_eq_true rfl) (Nat.le_of_ble_eq_true rfl) ?_
    refine lv_if_eq (tgt := 28) hx hb dX10_leafOf_21 (by decide) (fun c11 => ?_) (fun c11 => ?_)
    · have dc11 : r7.toInt = 0 := eq_i (a := r7.toInt) (b := 0) rfl rfl c11
      have k12 : 0 ≤ r7.toInt ∧ r7.toInt ≤ 0 := ⟨t8.1, Int.le_trans (Int.le_of_eq dc11) (Int.le_refl _)⟩
      refine lv_aload_n hx hb dX10_leafOf_28 rfl (lv_at hl 0 rfl) ?_
      refine lv_ldc2 hx hb hown (hw _ q_1252) dX10_leafOf_29 ?_
      refine call_Vi (wr := []) (As := [.long 418363302244]) (rest := []) hx hb hml hown hw (m_X10_isWord l D cI cJ cB cP cM cZ h0 Fh x_token x_number x_word 418363302244 _ e_token i_x_token e_number e_word (by omega)) wV_X10_225_X10_isWord dX10_leafOf_32 hK hP hD hS hA [0] [] rfl rfl (by decide) (by decide) (by decide) 0 10 rfl rfl GG.fb hG.at hl.1 rfl (Nat.le_of_ble_eq_true rfl) ⟨(Nat.le_of_ble_eq_true rfl), (Nat.le_of_ble_eq_true rfl)⟩ ⟨(Nat.le_of_ble_eq_true rfl), (Nat.le_of_ble_eq_true rfl)⟩ (fun r13 u H locs hp hP hD hS => ?_)
      obtain ⟨t14, t15, rfl⟩ := hp
      have hP : va_P D vwCl [(h0, .inr (10, vL 67 Fh))] H := hP
      have hD : va_D A [(h0, .inr (10, vL 67 Fh))] := hD
      refine W.widen (k := 0) (n := 0) (Nat.le_of_ble_eq_true rfl) (Nat.le_of_ble_eq_true rfl) ?_
      refine lv_if_eq (tgt := 42) hx hb dX10_leafOf_35 (by decide) (fun c17 => ?_) (fun c17 => ?_)
      · have dc17 : r13.toInt = 0 := eq_i (a := r13.toInt) (b := 0) rfl rfl c17
        have k18 : 0 ≤ r13.toInt ∧ r13.toInt ≤ 0 := ⟨t14.1, Int.le_trans (Int.le_of_eq dc17) (Int.le_refl _)⟩
        refine lv_aload_n hx hb dX10_leafOf_42 rfl (lv_at hl 0 rfl) ?_
        refine lv_ldc2 hx hb hown (hw _ q_1253) dX10_leafOf_43 ?_
        refine call_Vi (wr := []) (As := [.long 1886745448]) (rest := []) hx hb hml hown hw (m_X10_isWord l D cI cJ cB cP cM cZ h0 Fh x_token x_number x_word 1886745448 _ e_token i_x_token e_number e_word (by omega)) wV_X10_225_X10_isWord dX10_leafOf_46 hK hP hD hS hA [0] [] rfl rfl (by decide) (by decide) (by decide) 0 10 rfl rfl GG.fb hG.at hl.1 rfl (Nat.le_of_ble_eq_true rfl) ⟨(Nat.le_of_ble_eq_true rfl), (Nat.le_of_ble_eq_true rfl)⟩ ⟨(Nat.le_of_ble_eq_true rfl), (Nat.le_of_ble_eq_true rfl)⟩ (fun r19 u H locs hp hP hD hS => ?_)
        have zl1886745448 : (1886745448 : Int32).toInt = 1886745448 := by decide
        obtain ⟨t20, t21, rfl⟩ := hp
        have hP : va_P D vwCl [(h0, .inr (10, vL 67 Fh))] H := hP
        have hD : va_D A [(h0, .inr (10, vL 67 Fh))] := hD
        refine W.widen (k := 0) (n := 0) (Nat.le_of_ble_eq_true rfl) (Nat.le_of_ble_eq_true rfl) ?_
        refine lv_if_eq (tgt := 56) hx hb dX10_leafOf_49 (by decide) (fun c23 => ?_) (fun c23 => ?_)
        · have dc23 : r19.toInt = 0 := eq_i (a := r19.toInt) (b := 0) rfl rfl c23
          have k24 : 0 ≤ r19.toInt ∧ r19.toInt ≤ 0 := ⟨t20.1, Int.le_trans (Int.le_of_eq dc23) (Int.le_refl _)⟩
          refine lv_aload_n hx hb dX10_leafOf_56 rfl (lv_at hl 0 rfl) ?_
          refine lv_ldc2 hx hb hown (hw _ q_1254) dX10_leafOf_57 ?_
          refine call_Vi (wr := []) (As := [.long 1717921140]) (rest := []) hx hb hml hown hw (m_X10_isWord l D cI cJ cB cP cM cZ h0 Fh x_token x_number x_word 1717921140 _ e_token i_x_token e_number e_word (by omega)) wV_X10_225_X10_isWord dX10_leafOf_60 hK hP hD hS hA [0] [] rfl rfl (by decide) (by decide) (by decide) 0 10 rfl rfl GG.fb hG.at hl.1 rfl (Nat.le_of_ble_eq_true rfl) ⟨(Nat.le_of_ble_eq_true rfl), (Nat.le_of_ble_eq_true rfl)⟩ ⟨(Nat.le_of_ble_eq_true rfl), (Nat.le_of_ble_eq_true rfl)⟩ (fun r25 u H locs hp hP hD hS => ?_)
          have zl1717921140 : (1717921140 : Int32).toInt = 1717921140 := by decide
          obtain ⟨t26, t27, rfl⟩ := hp
          have hP : va_P D vwCl [(h0, .inr (10, vL 67 Fh))] H := hP
          have hD : va_D A [(h0, .inr (10, vL 67 Fh))] := hD
          refine W.widen (k := 0) (n := 0) (Nat.le_of_ble_eq_true rfl) (Nat.le_of_ble_eq_true rfl) ?_
          refine lv_if_eq (tgt := 70) hx hb dX10_leafOf_63 (by decide) (fun c29 => ?_) (fun c29 => ?_)
          · have dc29 : r25.toInt = 0 := eq_i (a := r25.toInt) (b := 0) rfl rfl c29
            have k30 : 0 ≤ r25.toInt ∧ r25.toInt ≤ 0 := ⟨t26.1, Int.le_trans (Int.le_of_eq dc29) (Int.le_refl _)⟩
            refine lv_aload_n hx hb dX10_leafOf_70 rfl (lv_at hl 0 rfl) ?_
            refine lv_ldc2 hx hb hown (hw _ q_1255) dX10_leafOf_71 ?_
            refine call_Vi (wr := []) (As := [.long 131277443786868]) (rest := []) hx hb hml hown hw (m_X10_isWord l D cI cJ cB cP cM cZ h0 Fh x_token x_number x_word 131277443786868 _ e_token i_x_token e_number e_word (by omega)) wV_X10_225_X10_isWord dX10_leafOf_74 hK hP hD hS hA [0] [] rfl rfl (by decide) (by decide) (by decide) 0 10 rfl rfl GG.fb hG.at hl.1 rfl (Nat.le_of_ble_eq_true rfl) ⟨(Nat.le_of_ble_eq_true rfl), (Nat.le_of_ble_eq_true rfl)⟩ ⟨(Nat.le_of_ble_eq_true rfl), (Nat.le_of_ble_eq_true rfl)⟩ (fun r31 u H locs hp hP hD hS => ?_)
            obtain ⟨t32, t33, rfl⟩ := hp
            have hP : va_P D vwCl [(h0, .inr (10, vL 67 Fh))] H := hP
            have hD : va_D A [(h0, .inr (10, vL 67 Fh))] := hD
            refine W.widen (k := 0) (n := 0) (Nat.le_of_ble_eq_true rfl) (Nat.le_of_ble_eq_true rfl) ?_
            refine lv_if_eq (tgt := 84) hx hb dX10_leafOf_77 (by decide) (fun c35 => ?_) (fun c35 => ?_)
            · have dc35 : r31.toInt = 0 := eq_i (a := r31.toInt) (b := 0) rfl rfl c35
              have k36 : 0 ≤ r31.toInt ∧ r31.toInt ≤ 0 := ⟨t32.1, Int.le_trans (Int.le_of_eq dc35) (Int.le_refl _)⟩
              refine lv_aload_n hx hb dX10_leafOf_84 rfl (lv_at hl 0 rfl) ?_
              refine lv_ldc2 hx hb hown (hw _ q_1256) dX10_leafOf_85 ?_
              refine call_Vi (wr := []) (As := [.long 121450625394034]) (rest := []) hx hb hml hown hw (m_X10_isWord l D cI cJ cB cP cM cZ h0 Fh x_token x_number x_word 121450625394034 _ e_token i_x_token e_number e_word (by omega)) wV_X10_225_X10_isWord dX10_leafOf_88 hK hP hD hS hA [0] [] rfl rfl (by decide) (by decide) (by decide) 0 10 rfl rfl GG.fb hG.at hl.1 rfl (Nat.le_of_ble_eq_true rfl) ⟨(Nat.le_of_ble_eq_true rfl), (Nat.le_of_ble_eq_true rfl)⟩ ⟨(Nat.le_of_ble_eq_true rfl), (Nat.le_of_ble_eq_true rfl)⟩ (fun r37 u H locs hp hP hD hS => ?_)
              obtain ⟨t38, t39, rfl⟩ := hp
              have hP : va_P D vwCl [(h0, .inr (10, vL 67 Fh))] H := hP
              have hD : va_D A [(h0, .inr (10, vL 67 Fh))] := hD
              refine W.widen (k := 0) (n := 0) (Nat.le_of_ble_eq_true rfl) (Nat.le_of_ble_eq_true rfl) ?_
              refine lv_if_eq (tgt := 99) hx hb dX10_leafOf_91 (by decide) (fun c41 => ?_) (fun c41 => ?_)
              · have dc41 : r37.toInt = 0 := eq_i (a := r37.toInt) (b := 0) rfl rfl c41
                have k42 : 0 ≤ r37.toInt ∧ r37.toInt ≤ 0 := ⟨t38.1, Int.le_trans (Int.le_of_eq dc41) (Int.le_refl _)⟩
                refine lv_iconst (v := (-1)) hx hb dX10_leafOf_99 (by decide) ?_
                exact ret_i (v := (-1)) hx hb hr hlocks hS hP hD dX10_leafOf_100 rfl (Nat.le_of_ble_eq_true rfl) (Nat.le_of_ble_eq_true rfl) ⟨(show (-1) ≤ ((-1) : Int32).toInt ∧ ((-1) : Int32).toInt ≤ 6 by decide), (by have zlm1 : ((-1) : Int32).toInt = (-1) := (by decide); omega), rfl⟩
              · have dc41 : r37.toInt ≠ 0 := ne_i (a := r37.toInt) (b := 0) rfl rfl c41
                have k43 : 1 ≤ r37.toInt ∧ r37.toInt ≤ 1 := ⟨ne_lo dc41 t38.1 ⟨Int.le_refl _, Int.le_refl _⟩ (by decide), t38.2⟩
                refine lv_bipush (v := 6) hx hb dX10_leafOf_94 (by decide) ?_
                refine lv_goto (tgt := 100) hx hb dX10_leafOf_96 (by decide) ?_
                exact ret_i (v := 6) hx hb hr hlocks hS hP hD dX10_leafOf_100 rfl (Nat.le_of_ble_eq_true rfl) (Nat.le_of_ble_eq_true rfl) ⟨(show (-1) ≤ (6 : Int32).toInt ∧ (6 : Int32).toInt ≤ 6 by decide), (by have zl6 : (6 : Int32).toInt = 6 := (by decide); omega), rfl⟩
            · have dc35 : r31.toInt ≠ 0 := ne_i (a := r31.toInt) (b := 0) rfl rfl c35
              have k44 : 1 ≤ r31.toInt ∧ r31.toInt ≤ 1 := ⟨ne_lo dc35 t32.1 ⟨Int.le_refl _, Int.le_refl _⟩ (by decide), t32.2⟩
              refine lv_iconst (v := 5) hx hb dX10_leafOf_80 (by decide) ?_
              refine lv_goto (tgt := 100) hx hb dX10_leafOf_81 (by decide) ?_
              exact ret_i (v := 5) hx hb hr hlocks hS hP hD dX10_leafOf_100 rfl (Nat.le_of_ble_eq_true rfl) (Nat.le_of_ble_eq_true rfl) ⟨(show (-1) ≤ (5 : Int32).toInt ∧ (5 : Int32).toInt ≤ 6 by decide), (by have zl5 : (5 : Int32).toInt = 5 := (by decide); omega), rfl⟩
          · have dc29 : r25.toInt ≠ 0 := ne_i (a := r25.toInt) (b := 0) rfl rfl c29
            have k45 : 1 ≤ r25.toInt ∧ r25.toInt ≤ 1 := ⟨ne_lo dc29 t26.1 ⟨Int.le_refl _, Int.le_refl _⟩ (by decide), t26.2⟩
            refine lv_iconst (v := 4) hx hb dX10_leafOf_66 (by decide) ?_
            refine lv_goto (tgt := 100) hx hb dX10_leafOf_67 (by decide) ?_
            exact ret_i (v := 4) hx hb hr hlocks hS hP hD dX10_leafOf_100 rfl (Nat.le_of_ble_eq_true rfl) (Nat.le_of_ble_eq_true rfl) ⟨(show (-1) ≤ (4 : Int32).toInt ∧ (4 : Int32).toInt ≤ 6 by decide), (by have zl4 : (4 : Int32).toInt = 4 := (by decide); omega), rfl⟩
        · have dc23 : r19.toInt ≠ 0 := ne_i (a := r19.toInt) (b := 0) rfl rfl c23
          have k46 : 1 ≤ r19.toInt ∧ r19.toInt ≤ 1 := ⟨ne_lo dc23 t20.1 ⟨Int.le_refl _, Int.le_refl _⟩ (by decide), t20.2⟩
          refine lv_iconst (v := 3) hx hb dX10_leafOf_52 (by decide) ?_
          refine lv_goto (tgt := 100) hx hb dX10_leafOf_53 (by decide) ?_
          exact ret_i (v := 3) hx hb hr hlocks hS hP hD dX10_leafOf_100 rfl (Nat.le_of_ble_eq_true rfl) (Nat.le_of_ble_eq_true rfl) ⟨(show (-1) ≤ (3 : Int32).toInt ∧ (3 : Int32).toInt ≤ 6 by decide), (by have zl3 : (3 : Int32).toInt = 3 := (by decide); omega), rfl⟩
      · have dc17 : r13.toInt ≠ 0 := ne_i (a := r13.toInt) (b := 0) rfl rfl c17
        have k47 : 1 ≤ r13.toInt ∧ r13.toInt ≤ 1 := ⟨ne_lo dc17 t14.1 ⟨Int.le_refl _, Int.le_refl _⟩ (by decide), t14.2⟩
        refine lv_iconst (v := 2) hx hb dX10_leafOf_38 (by decide) ?_
        refine lv_goto (tgt := 100) hx hb dX10_leafOf_39 (by decide) ?_
        exact ret_i (v := 2) hx hb hr hlocks hS hP hD dX10_leafOf_100 rfl (Nat.le_of_ble_eq_true rfl) (Nat.le_of_ble_eq_true rfl) ⟨(show (-1) ≤ (2 : Int32).toInt ∧ (2 : Int32).toInt ≤ 6 by decide), (by have zl2 : (2 : Int32).toInt = 2 := (by decide); omega), rfl⟩
    · have dc11 : r7.toInt ≠ 0 := ne_i (a := r7.toInt) (b := 0) rfl rfl c11
      have k48 : 1 ≤ r7.toInt ∧ r7.toInt ≤ 1 := ⟨ne_lo dc11 t8.1 ⟨Int.le_refl _, Int.le_refl _⟩ (by decide), t8.2⟩
      refine lv_iconst (v := 1) hx hb dX10_leafOf_24 (by decide) ?_
      refine lv_goto (tgt := 100) hx hb dX10_leafOf_25 (by decide) ?_
      exact ret_i (v := 1) hx hb hr hlocks hS hP hD dX10_leafOf_100 rfl (Nat.le_of_ble_eq_true rfl) (Nat.le_of_ble_eq_true rfl) ⟨(show (-1) ≤ (1 : Int32).toInt ∧ (1 : Int32).toInt ≤ 6 by decide), (by have zl1 : (1 : Int32).toInt = 1 := (by decide); omega), rfl⟩
  · have dc5 : r1.toInt ≠ 0 := ne_i (a := r1.toInt) (b := 0) rfl rfl c5
    have k49 : 1 ≤ r1.toInt ∧ r1.toInt ≤ 1 := ⟨ne_lo dc5 t2.1 ⟨Int.le_refl _, Int.le_refl _⟩ (by decide), t2.2⟩
    refine lv_iconst (v := 0) hx hb dX10_leafOf_10 (by decide) ?_
    refine lv_goto (tgt := 100) hx hb dX10_leafOf_11 (by decide) ?_
    exact ret_i (v := 0) hx hb hr hlocks hS hP hD dX10_leafOf_100 rfl (Nat.le_of_ble_eq_true rfl) (Nat.le_of_ble_eq_true rfl) ⟨(show (-1) ≤ (0 : Int32).toInt ∧ (0 : Int32).toInt ≤ 6 by decide), (by have zl0 : (0 : Int32).toInt = 0 := (by decide); omega), rfl⟩
set_option maxHeartbeats 4000000 in
set_option maxRecDepth 100000 in
theorem m_X10_operand (l : Launch) (D : va_G) (cI cJ cB cP cM cZ : ClassId) (h0 : Nat) (h_tape : Nat) (h_s : Nat) (h_read : Nat) (h_names : Nat) (h_reserved : Nat) (h_stack : Nat) (Fh : Nat → Value) (x_size : Int32) (x_p : Int32) (x_limit : Int32) (x_token : Int32) (x_at : Int32) (x_span : Int32) (x_number : Int32) (x_fault : Int32) (x_faultAt : Int32) (x_word : Int64) (x_codes : Int32) (x_ones : Int32) (x_top : Int32) (x_deep : Int32) (x_isWhole : Int32) (f_tape : Nat → Int32) (f_s : Nat → Int32) (f_read : Nat → Int32) (f_names : Nat → Int64) (f_reserved : Nat → Int64) (f_stack : Nat → Int32) (sz : Nat) (e_tape : Fh 1 = .ref h_tape) (e_size : Fh 3 = .int x_size) (i_x_size : IR 0 940 x_size) (e_p : Fh 4 = .int x_p) (i_x_p : IR 0 940 x_p) (e_limit : Fh 5 = .int x_limit) (i_x_limit : IR 200 940 x_limit) (e_s : Fh 6 = .ref h_s) (e_read : Fh 8 = .ref h_read) (e_names : Fh 9 = .ref h_names) (e_reserved : Fh 10 = .ref h_reserved) (e_token : Fh 11 = .int x_token) (i_x_token : IR 0 4 x_token) (e_at : Fh 12 = .int x_at) (e_span : Fh 13 = .int x_span) (e_number : Fh 14 = .int x_number) (e_fault : Fh 15 = .int x_fault) (e_faultAt : Fh 16 = .int x_faultAt) (e_word : Fh 18 = .long x_word) (e_stack : Fh 57 = .ref h_stack) (e_codes : Fh 58 = .int x_codes) (i_x_codes : IR 0 45 x_codes) (e_ones : Fh 59 = .int x_ones) (i_x_ones : IR 0 20 x_ones) (e_top : Fh 60 = .int x_top) (i_x_top : IR 0 45 x_top) (e_deep : Fh 61 = .int x_deep) (e_isWhole : Fh 62 = .int x_isWhole) (i_x_isWhole : IR 0 1 x_isWhole) (s_s_K0 : KW 0 f_s) (s_s_0 : SG 0 0 0 40 f_s) (s_s_105 : SG 105 108 0 11 f_s) (s_s_114 : SG 114 114 0 5 f_s) (s_s_130 : SG 130 133 0 11 f_s) (s_s_139 : SG 139 139 0 5 f_s) (s_s_153 : SG 153 153 0 44 f_s) (s_s_44 : SG 44 55 0 9 f_s) (s_s_5 : SG 5 5 0 12 f_s) (s_s_6 : SG 6 6 0 12 f_s) (s_s_7 : SG 7 7 0 6 f_s) (z_0 : x_isWhole.toInt = 0) (z_1 : SMI f_read f_stack x_codes.toInt x_top.toInt 0) (o_0 : (x_token.toInt = 2 → 0 ≤ x_number.toInt ∧ x_number.toInt ≤ 999)) (o_1 : x_top.toInt + x_codes.toInt + x_isWhole.toInt ≤ 2 * x_ones.toInt) : CI l yX10_operand cX10_operand 5 (some .boolean) { frames := 2, cells := 0, slots := 0, locals := 43 } (GG D cI cJ cB cP cM cZ) D [(h0, .inr (10, vL 67 Fh)), (h_tape, .inl (cB, 940, .inl f_tape)), (h_s, .inl (cI, 335, .inl f_s)), (h_read, .inl (cI, 135, .inl f_read)), (h_names, .inl (cJ, 36, .inr (.inl f_names))), (h_reserved, .inl (cJ, 23, .inr (.inl f_reserved))), (h_stack, .inl (cI, 45, .inl f_stack))] sz [.ref h0] (fun (r : Int32) (u : va_W) => ∃ (Gh : Nat → Value) (y_p : Int32) (y_token : Int32) (y_at : Int32) (y_span : Int32) (y_number : Int32) (y_fault : Int32) (y_faultAt : Int32) (y_word : Int64) (y_codes : Int32) (y_ones : Int32) (y_top : Int32) (y_deep : Int32) (y_isWhole : Int32) (g_read : Nat → Int32) (g_stack : Nat → Int32), SAME [4, 11, 12, 13, 14, 15, 16, 18, 58, 59, 60, 61, 62] Fh Gh ∧ Gh 4 = .int y_p ∧ IR 0 940 y_p ∧ Gh 11 = .int y_token ∧ IR 0 4 y_token ∧ Gh 12 = .int y_at ∧ Gh 13 = .int y_span ∧ Gh 14 = .int y_number ∧ Gh 15 = .int y_fault ∧ Gh 16 = .int y_faultAt ∧ Gh 18 = .long y_word ∧ Gh 58 = .int y_codes ∧ IR 0 45 y_codes ∧ Gh 59 = .int y_ones ∧ IR 0 20 y_ones ∧ Gh 60 = .int y_top ∧ IR 0 45 y_top ∧ Gh 61 = .int y_deep ∧ Gh 62 = .int y_isWhole ∧ IR 0 1 y_isWhole ∧ IR 0 1 r ∧ ((r.toInt = 1 → (1 ≤ x_token.toInt ∧ x_token.toInt ≤ 3 ∧ x_p.toInt ≤ y_p.toInt ∧ (1 ≤ y_token.toInt → y_token.toInt ≤ 3 → x_p.toInt < y_p.toInt)))) ∧ ((r.toInt = 1 → SMI g_read g_stack y_codes.toInt y_top.toInt y_isWhole.toInt)) ∧ ((y_token.toInt = 2 → 0 ≤ y_number.toInt ∧ y_number.toInt ≤ 999)) ∧ (y_top.toInt + y_codes.toInt + y_isWhole.toInt ≤ 2 * y_ones.toInt) ∧ u = [(h0, .inr (10, vL 67 Gh)), (h_tape, .inl (cB, 940, .inl f_tape)), (h_s, .inl (cI, 335, .inl f_s)), (h_read, .inl (cI, 135, .inl g_read)), (h_names, .inl (cJ, 36, .inr (.inl f_names))), (h_reserved, .inl (cJ, 23, .inr (.inl f_reserved))), (h_stack, .inl (cI, 45, .inl g_stack))]) := by
  refine CI_mk (by decide) (Nat.le_of_ble_eq_true rfl) ?_
  intro p e s m below meth c A ls E hAe hG hsz hP hD hA hS hl
  obtain ⟨hx, hb, hr, hw, hown, hlocks, hml, hnm⟩ := E
  have hK := hG.1
  have i_x_size : 0 ≤ x_size.toInt ∧ x_size.toInt ≤ 940 := i_x_size
  have i_x_p : 0 ≤ x_p.toInt ∧ x_p.toInt ≤ 940 := i_x_p
  have i_x_limit : 200 ≤ x_limit.toInt ∧ x_limit.toInt ≤ 940 := i_x_limit
  have i_x_token : 0 ≤ x_token.toInt ∧ x_token.toInt ≤ 4 := i_x_token
  have i_x_codes : 0 ≤ x_codes.toInt ∧ x_codes.toInt ≤ 45 := i_x_codes
  have i_x_ones : 0 ≤ x_ones.toInt ∧ x_ones.toInt ≤ 20 := i_x_ones
  have i_x_top : 0 ≤ x_top.toInt ∧ x_top.toInt ≤ 45 := i_x_top
  have i_x_isWhole : 0 ≤ x_isWhole.toInt ∧ x_isWhole.toInt ≤ 1 := i_x_isWhole
  have hl : lv_has ls 5 [(0, .ref h0)] := hl
  refine lv_aload_n hx hb dX10_operand_0 rfl (lv_at hl 0 rfl) ?_
  refine lv_ldc2 hx hb hown (hw _ q_1250) dX10_operand_1 ?_
  refine call_Vi (wr := [(h_tape, .inl (cB, 940, .inl f_tape)), (h_s, .inl (cI, 335, .inl f_s)), (h_read, .inl (cI, 135, .inl f_read)), (h_names, .inl (cJ, 36, .inr (.inl f_names))), (h_reserved, .inl (cJ, 23, .inr (.inl f_reserved))), (h_stack, .inl (cI, 45, .inl f_stack))]) (As := [.long 7237492]) (rest := []) hx hb hml hown hw (m_X10_isWord l D cI cJ cB cP cM cZ h0 Fh x_token x_number x_word 7237492 _ e_token i_x_token e_number e_word (by omega)) wV_X10_225_X10_isWord dX10_operand_4 hK hP hD hS hA [0] [1, 2, 3, 4, 5, 6] rfl rfl (by decide) (by decide) (by decide) 0 10 rfl rfl GG.fb hG.at hl.1 rfl (Nat.le_of_ble_eq_true rfl) ⟨(Nat.le_of_ble_eq_true rfl), (Nat.le_of_ble_eq_true rfl)⟩ ⟨(Nat.le_of_ble_eq_true rfl), (Nat.le_of_ble_eq_true rfl)⟩ (fun r1 u H locs hp hP hD hS => ?_)
  have zl7237492 : (7237492 : Int32).toInt = 7237492 := by decide
  obtain ⟨t2, t3, rfl⟩ := hp
  have hP : va_P D vwCl [(h_tape, .inl (cB, 940, .inl f_tape)), (h_s, .inl (cI, 335, .inl f_s)), (h_read, .inl (cI, 135, .inl f_read)), (h_names, .inl (cJ, 36, .inr (.inl f_names))), (h_reserved, .inl (cJ, 23, .inr (.inl f_reserved))), (h_stack, .inl (cI, 45, .inl f_stack)), (h0, .inr (10, vL 67 Fh))] H := hP
  have hD : va_D A [(h_tape, .inl (cB, 940, .inl f_tape)), (h_s, .inl (cI, 335, .inl f_s)), (h_read, .inl (cI, 135, .inl f_read)), (h_names, .inl (cJ, 36, .inr (.inl f_names))), (h_reserved, .inl (cJ, 23, .inr (.inl f_reserved))), (h_stack, .inl (cI, 45, .inl f_stack)), (h0, .inr (10, vL 67 Fh))] := hD
  refine W.widen (k := 0) (n := 0) (Nat.le_of_ble_eq_true rfl) (Nat.le_of_ble_eq_true rfl) ?_
  refine lv_istore_n (lv' := [(1, .int r1), (0, .ref h0)]) hx hb dX10_operand_7 rfl hl (by decide) rfl (fun ls hl => ?_)
  refine lv_aload_n hx hb dX10_operand_8 rfl (lv_at hl 1 rfl) ?_
  refine lv_bipush (v := 40) hx hb dX10_operand_9 (by decide) ?_
  refine call_Vi (wr := [(h_tape, .inl (cB, 940, .inl f_tape)), (h_s, .inl (cI, 335, .inl f_s)), (h_read, .inl (cI, 135, .inl f_read)), (h_names, .inl (cJ, 36, .inr (.inl f_names))), (h_reserved, .inl (cJ, 23, .inr (.inl f_reserved))), (h_stack, .inl (cI, 45, .inl f_stack))]) (As := [.int 40]) (rest := []) hx hb hml hown hw (m_X10_isSign l D cI cJ cB cP cM cZ h0 Fh x_token x_number 40 _ e_token i_x_token e_number (by omega)) wV_X10_202_X10_isSign dX10_operand_11 hK hP hD hS hA [6] [0, 1, 2, 3, 4, 5] rfl rfl (by decide) (by decide) (by decide) 0 10 rfl rfl GG.fb hG.at hl.1 rfl (Nat.le_of_ble_eq_true rfl) ⟨(Nat.le_of_ble_eq_true rfl), (Nat.le_of_ble_eq_true rfl)⟩ ⟨(Nat.le_of_ble_eq_true rfl), (Nat.le_of_ble_eq_true rfl)⟩ (fun r5 u H locs hp hP hD hS => ?_)
  have zl40 : (40 : Int32).toInt = 40 := by decide
  obtain ⟨t6, t7, rfl⟩ := hp
  have hP : va_P D vwCl [(h_tape, .inl (cB, 940, .inl f_tape)), (h_s, .inl (cI, 335, .inl f_s)), (h_read, .inl (cI, 135, .inl f_read)), (h_names, .inl (cJ, 36, .inr (.inl f_names))), (h_reserved, .inl (cJ, 23, .inr (.inl f_reserved))), (h_stack, .inl (cI, 45, .inl f_stack)), (h0, .inr (10, vL 67 Fh))] H := hP
  have hD : va_D A [(h_tape, .inl (cB, 940, .inl f_tape)), (h_s, .inl (cI, 335, .inl f_s)), (h_read, .inl (cI, 135, .inl f_read)), (h_names, .inl (cJ, 36, .inr (.inl f_names))), (h_reserved, .inl (cJ, 23, .inr (.inl f_reserved))), (h_stack, .inl (cI, 45, .inl f_stack)), (h0, .inr (10, vL 67 Fh))] := hD
  refine W.widen (k := 0) (n := 0) (Nat.le_of_ble_eq_true rfl) (Nat.le_of_ble_eq_true rfl) ?_
  refine lv_istore_n (lv' := [(2, .int r5), (1, .int r1), (0, .ref h0)]) hx hb dX10_operand_14 rfl hl (by decide) rfl (fun ls hl => ?_)
  refine lv_aload_n hx hb dX10_operand_15 rfl (lv_at hl 2 rfl) ?_
  refine call_Vi (wr := [(h_tape, .inl (cB, 940, .inl f_tape)), (h_s, .inl (cI, 335, .inl f_s)), (h_read, .inl (cI, 135, .inl f_read)), (h_names, .inl (cJ, 36, .inr (.inl f_names))), (h_reserved, .inl (cJ, 23, .inr (.inl f_reserved))), (h_stack, .inl (cI, 45, .inl f_stack))]) (As := []) (rest := []) hx hb hml hown hw (m_X10_leafOf l D cI cJ cB cP cM cZ h0 Fh x_token x_number x_word _ e_token i_x_token e_number e_word (by omega)) wV_X10_454_X10_leafOf dX10_operand_16 hK hP hD hS hA [6] [0, 1, 2, 3, 4, 5] rfl rfl (by decide) (by decide) (by decide) 0 10 rfl rfl GG.fb hG.at hl.1 rfl (Nat.le_of_ble_eq_true rfl) ⟨(Nat.le_of_ble_eq_true rfl), (Nat.le_of_ble_eq_true rfl)⟩ ⟨(Nat.le_of_ble_eq_true rfl), (Nat.le_of_ble_eq_true rfl)⟩ (fun r9 u H locs hp hP hD hS => ?_)
  obtain ⟨t10, t11, rfl⟩ := hp
  have hP : va_P D vwCl [(h_tape, .inl (cB, 940, .inl f_tape)), (h_s, .inl (cI, 335, .inl f_s)), (h_read, .inl (cI, 135, .inl f_read)), (h_names, .inl (cJ, 36, .inr (.inl f_names))), (h_reserved, .inl (cJ, 23, .inr (.inl f_reserved))), (h_stack, .inl (cI, 45, .inl f_stack)), (h0, .inr (10, vL 67 Fh))] H := hP
  have hD : va_D A [(h_tape, .inl (cB, 940, .inl f_tape)), (h_s, .inl (cI, 335, .inl f_s)), (h_read, .inl (cI, 135, .inl f_read)), (h_names, .inl (cJ, 36, .inr (.inl f_names))), (h_reserved, .inl (cJ, 23, .inr (.inl f_reserved))), (h_stack, .inl (cI, 45, .inl f_stack)), (h0, .inr (10, vL 67 Fh))] := hD
  refine W.widen (k := 0) (n := 0) (Nat.le_of_ble_eq_true rfl) (Nat.le_of_ble_eq_true rfl) ?_
  refine lv_istore_n (lv' := [(3, .int r9), (2, .int r5), (1, .int r1), (0, .ref h0)]) hx hb dX10_operand_19 rfl hl (by decide) rfl (fun ls hl => ?_)
  refine lv_iload_n hx hb dX10_operand_20 rfl (lv_at hl 2 rfl) ?_
  refine lv_if_ne (tgt := 38) hx hb dX10_operand_21 (by decide) (fun c13 => ?_) (fun c13 => ?_)
  · have dc13 : r1.toInt ≠ 0 := ne_i (a := r1.toInt) (b := 0) rfl rfl c13
    have k14 : 1 ≤ r1.toInt ∧ r1.toInt ≤ 1 := ⟨ne_lo dc13 t2.1 ⟨Int.le_refl _, Int.le_refl _⟩ (by decide), t2.2⟩
    refine lv_aload_n hx hb dX10_operand_38 rfl (lv_at hl 3 rfl) ?_
    refine get_f (D := D) (ci := 10) (v := .int x_ones) (C := RX10) (T := TX10) (N := 67) hx hb hw inAX10 hown hK hP 6 rfl rfl 59 (by decide) (hw _ q_1320) (fun _ h9 => h9) e_ones dX10_operand_39 ?_
    refine lv_bipush (v := 20) hx hb dX10_operand_42 (by decide) ?_
    refine lv_icmp_eq (tgt := 56) hx hb dX10_operand_44 (by decide) (fun c15 => ?_) (fun c15 => ?_)
    · have dc15 : x_ones.toInt = 20 := eq_i (a := x_ones.toInt) (b := 20) rfl rfl c15
      have k16 : 20 ≤ x_ones.toInt ∧ x_ones.toInt ≤ 20 := ⟨Int.le_trans (Int.le_refl _) (Int.le_of_eq dc15.symm), i_x_ones.2⟩
      refine lv_aload_n hx hb dX10_operand_56 rfl (lv_at hl 3 rfl) ?_
      refine lv_iconst (v := 4) hx hb dX10_operand_57 (by decide) ?_
      refine call_Vi (wr := [(h_tape, .inl (cB, 940, .inl f_tape)), (h_s, .inl (cI, 335, .inl f_s)), (h_read, .inl (cI, 135, .inl f_read)), (h_names, .inl (cJ, 36, .inr (.inl f_names))), (h_reserved, .inl (cJ, 23, .inr (.inl f_reserved))), (h_stack, .inl (cI, 45, .inl f_stack))]) (As := [.int 4]) (rest := []) hx hb hml hown hw (m_X10_bad l D cI cJ cB cP cM cZ h0 Fh x_at 4 _ e_at) wV_X10_205_X10_bad dX10_operand_58 hK hP hD hS hA [6] [0, 1, 2, 3, 4, 5] rfl rfl (by decide) (by decide) (by decide) 0 10 rfl rfl GG.fb hG.at hl.1 rfl (Nat.le_of_ble_eq_true rfl) ⟨(Nat.le_of_ble_eq_true rfl), (Nat.le_of_ble_eq_true rfl)⟩ ⟨(Nat.le_of_ble_eq_true rfl), (Nat.le_of_ble_eq_true rfl)⟩ (fun r17 u H locs hp hP hD hS => ?_)
      have zl4 : (4 : Int32).toInt = 4 := by decide
      obtain ⟨F18, t19, t20, t21, rfl, rfl⟩ := hp
      have hP : va_P D vwCl [(h_tape, .inl (cB, 940, .inl f_tape)), (h_s, .inl (cI, 335, .inl f_s)), (h_read, .inl (cI, 135, .inl f_read)), (h_names, .inl (cJ, 36, .inr (.inl f_names))), (h_reserved, .inl (cJ, 23, .inr (.inl f_reserved))), (h_stack, .inl (cI, 45, .inl f_stack)), (h0, .inr (10, vL 67 F18))] H := hP
      have hD : va_D A [(h_tape, .inl (cB, 940, .inl f_tape)), (h_s, .inl (cI, 335, .inl f_s)), (h_read, .inl (cI, 135, .inl f_read)), (h_names, .inl (cJ, 36, .inr (.inl f_names))), (h_reserved, .inl (cJ, 23, .inr (.inl f_reserved))), (h_stack, .inl (cI, 45, .inl f_stack)), (h0, .inr (10, vL 67 F18))] := hD
      refine W.widen (k := 0) (n := 0) (Nat.le_of_ble_eq_true rfl) (Nat.le_of_ble_eq_true rfl) ?_
      exact ret_i (v := 0) hx hb hr hlocks hS (hP.sub (ws' := [(h0, .inr (10, vL 67 F18)), (h_tape, .inl (cB, 940, .inl f_tape)), (h_s, .inl (cI, 335, .inl f_s)), (h_read, .inl (cI, 135, .inl f_read)), (h_names, .inl (cJ, 36, .inr (.inl f_names))), (h_reserved, .inl (cJ, 23, .inr (.inl f_reserved))), (h_stack, .inl (cI, 45, .inl f_stack))]) [6, 0, 1, 2, 3, 4, 5] rfl) (hD.sub (ws' := [(h0, .inr (10, vL 67 F18)), (h_tape, .inl (cB, 940, .inl f_tape)), (h_s, .inl (cI, 335, .inl f_s)), (h_read, .inl (cI, 135, .inl f_read)), (h_names, .inl (cJ, 36, .inr (.inl f_names))), (h_reserved, .inl (cJ, 23, .inr (.inl f_reserved))), (h_stack, .inl (cI, 45, .inl f_stack))]) [6, 0, 1, 2, 3, 4, 5] (by decide) rfl) dX10_operand_61 rfl (Nat.le_of_ble_eq_true rfl) (Nat.le_of_ble_eq_true rfl) ⟨F18, x_p, x_token, x_at, x_span, x_number, 4, x_at, x_word, x_codes, x_ones, x_top, x_deep, x_isWhole, f_read, f_stack, (SAME.tr SAME.rf t19 (by decide)), (SAME.at t19 (by decide) e_p), i_x_p, (SAME.at t19 (by decide) e_token), i_x_token, (SAME.at t19 (by decide) e_at), (SAME.at t19 (by decide) e_span), (SAME.at t19 (by decide) e_number), t20, t21, (SAME.at t19 (by decide) e_word), (SAME.at t19 (by decide) e_codes), i_x_codes, (SAME.at t19 (by decide) e_ones), (ir_wk k16 (by decide) (by decide)), (SAME.at t19 (by decide) e_top), i_x_top, (SAME.at t19 (by decide) e_deep), (SAME.at t19 (by decide) e_isWhole), i_x_isWhole, (show 0 ≤ (0 : Int32).toInt ∧ (0 : Int32).toInt ≤ 1 by decide), (by have zl0 : (0 : Int32).toInt = 0 := (by decide); have zl1 : (1 : Int32).toInt = 1 := (by decide); omega), (fun q => absurd q (by decide)), (by have zl4 : (4 : Int32).toInt = 4 := (by decide); omega), (by have zl4 : (4 : Int32).toInt = 4 := (by decide); omega), rfl⟩
    · have dc15 : x_ones.toInt ≠ 20 := ne_i (a := x_ones.toInt) (b := 20) rfl rfl c15
      have k23 : 0 ≤ x_ones.toInt ∧ x_ones.toInt ≤ 19 := ⟨i_x_ones.1, ne_hi dc15 i_x_ones.2 ⟨Int.le_refl _, Int.le_refl _⟩ (by decide)⟩
      refine lv_aload_n hx hb dX10_operand_47 rfl (lv_at hl 3 rfl) ?_
      refine get_f (D := D) (ci := 10) (v := .int x_deep) (C := RX10) (T := TX10) (N := 67) hx hb hw inAX10 hown hK hP 6 rfl rfl 61 (by decide) (hw _ q_1322) (fun _ h9 => h9) e_deep dX10_operand_48 ?_
      refine lv_bipush (v := 8) hx hb dX10_operand_51 (by decide) ?_
      refine lv_icmp_le (tgt := 62) hx hb dX10_operand_53 (by decide) (fun c24 => ?_) (fun c24 => ?_)
      · have dc24 : x_deep.toInt ≤ 8 := le_i (a := x_deep.toInt) (b := 8) rfl rfl c24
        have k25 : (-2147483648) ≤ x_deep.toInt ∧ x_deep.toInt ≤ 8 := ⟨(ir_any _).1, Int.le_trans dc24 (Int.le_refl _)⟩
        refine lv_aload_n hx hb dX10_operand_62 rfl (lv_at hl 3 rfl) ?_
        refine lv_dup hx hb dX10_operand_63 rfl ?_
        refine get_f (D := D) (ci := 10) (v := .int x_ones) (C := RX10) (T := TX10) (N := 67) hx hb hw inAX10 hown hK hP 6 rfl rfl 59 (by decide) (hw _ q_1320) (fun _ h9 => h9) e_ones dX10_operand_64 ?_
        refine lv_iconst (v := 1) hx hb dX10_operand_67 (by decide) ?_
        refine lv_iadd hx hb dX10_operand_68 ?_
        refine lv_topi (fun v26 ev26 => ?_)
        have bv26 : v26.toInt = x_ones.toInt + 1 := by rw [ev26]; exact add_k rfl rfl k23 ⟨Int.le_refl _, Int.le_refl _⟩ (by decide)
        have k27 : 1 ≤ v26.toInt ∧ v26.toInt ≤ 20 := add_r bv26 k23 ⟨Int.le_refl _, Int.le_refl _⟩ (by decide)
        refine put_f (D := D) (ci := 10) (v := .int v26) (ty := .int) (C := RX10) (T := TX10) (N := 67) hx hb hw inAX10 tyX10 tyX10_ok nmX10 hown hK hP hD hS 6 rfl rfl 59 (by decide) (hw _ q_1320) (fun _ h9 => h9) rfl (by decide +kernel) rfl rfl dX10_operand_69 (fun H locs F28 eF28 hP hD hS => ?_)
        have hP : va_P D vwCl [(h_tape, .inl (cB, 940, .inl f_tape)), (h_s, .inl (cI, 335, .inl f_s)), (h_read, .inl (cI, 135, .inl f_read)), (h_names, .inl (cJ, 36, .inr (.inl f_names))), (h_reserved, .inl (cJ, 23, .inr (.inl f_reserved))), (h_stack, .inl (cI, 45, .inl f_stack)), (h0, .inr (10, vL 67 F28))] H := hP
        have hD : va_D A [(h_tape, .inl (cB, 940, .inl f_tape)), (h_s, .inl (cI, 335, .inl f_s)), (h_read, .inl (cI, 135, .inl f_read)), (h_names, .inl (cJ, 36, .inr (.inl f_names))), (h_reserved, .inl (cJ, 23, .inr (.inl f_reserved))), (h_stack, .inl (cI, 45, .inl f_stack)), (h0, .inr (10, vL 67 F28))] := hD
        refine lv_aload_n hx hb dX10_operand_72 rfl (lv_at hl 3 rfl) ?_
        have n29 : F28 1 = .ref h_tape := (get_ne eF28 (by decide) e_tape)
        have n30 : F28 3 = .int x_size := (get_ne eF28 (by decide) e_size)
        have n31 : F28 4 = .int x_p := (get_ne eF28 (by decide) e_p)
        have n32 : F28 5 = .int x_limit := (get_ne eF28 (by decide) e_limit)
        have n33 : F28 11 = .int x_token := (get_ne eF28 (by decide) e_token)
        have n34 : F28 14 = .int x_number := (get_ne eF28 (by decide) e_number)
        have n35 : F28 18 = .long x_word := (get_ne eF28 (by decide) e_word)
        refine call_Vv (wr := [(h_s, .inl (cI, 335, .inl f_s)), (h_read, .inl (cI, 135, .inl f_read)), (h_names, .inl (cJ, 36, .inr (.inl f_names))), (h_reserved, .inl (cJ, 23, .inr (.inl f_reserved))), (h_stack, .inl (cI, 45, .inl f_stack))]) (As := []) (rest := []) hx hb hml hown hw (m_X10_next l D cI cJ cB cP cM cZ h0 h_tape F28 x_size x_p x_limit x_token x_number x_word f_tape _ n29 n30 i_x_size n31 i_x_p n32 i_x_limit n33 i_x_token n34 n35 (by omega)) wV_X10_208_X10_next dX10_operand_73 hK hP hD hS hA [6, 0] [1, 2, 3, 4, 5] rfl rfl (by decide) (by decide) (by decide) 0 10 rfl rfl GG.fb hG.at hl.1 rfl (Nat.le_of_ble_eq_true rfl) ⟨(Nat.le_of_ble_eq_true rfl), (Nat.le_of_ble_eq_true rfl)⟩ ⟨(Nat.le_of_ble_eq_true rfl), (Nat.le_of_ble_eq_true rfl)⟩ (fun u H locs hp hP hD hS => ?_)
        obtain ⟨F37, y38, y39, y40, y41, y42, y43, t44, t45, t46, t47, t48, t49, t50, t51, t52, t53, t54, t55, t56, t57, rfl⟩ := hp
        have hP : va_P D vwCl [(h_s, .inl (cI, 335, .inl f_s)), (h_read, .inl (cI, 135, .inl f_read)), (h_names, .inl (cJ, 36, .inr (.inl f_names))), (h_reserved, .inl (cJ, 23, .inr (.inl f_reserved))), (h_stack, .inl (cI, 45, .inl f_stack)), (h0, .inr (10, vL 67 F37)), (h_tape, .inl (cB, 940, .inl f_tape))] H := hP
        have hD : va_D A [(h_s, .inl (cI, 335, .inl f_s)), (h_read, .inl (cI, 135, .inl f_read)), (h_names, .inl (cJ, 36, .inr (.inl f_names))), (h_reserved, .inl (cJ, 23, .inr (.inl f_reserved))), (h_stack, .inl (cI, 45, .inl f_stack)), (h0, .inr (10, vL 67 F37)), (h_tape, .inl (cB, 940, .inl f_tape))] := hD
        refine W.widen (k := 0) (n := 0) (Nat.le_of_ble_eq_true rfl) (Nat.le_of_ble_eq_true rfl) ?_
        refine lv_iload_n hx hb dX10_operand_76 rfl (lv_at hl 2 rfl) ?_
        refine lv_if_ne (tgt := 84) hx hb dX10_operand_77 (by decide) (fun c59 => ?_) (fun c59 => False.elim (bad_le (Int.le_of_eq (eq_i (a := r1.toInt) (b := 0) rfl rfl c59)) k14.1 (Int.le_refl _) (by decide)))
        have dc59 : r1.toInt ≠ 0 := ne_i (a := r1.toInt) (b := 0) rfl rfl c59
        refine lv_aload_n hx hb dX10_operand_84 rfl (lv_at hl 3 rfl) ?_
        have n60 : F28 57 = .ref h_stack := (get_ne eF28 (by decide) e_stack)
        have n61 : F37 57 = .ref h_stack := (SAME.at t44 (by decide) n60)
        refine get_f (D := D) (ci := 10) (v := .ref h_stack) (C := RX10) (T := TX10) (N := 67) hx hb hw inAX10 hown hK hP 5 rfl rfl 57 (by decide) (hw _ q_1318) (fun _ h9 => h9) n61 dX10_operand_85 ?_
        refine lv_aload_n hx hb dX10_operand_88 rfl (lv_at hl 3 rfl) ?_
        have n62 : F28 60 = .int x_top := (get_ne eF28 (by decide) e_top)
        have n63 : F37 60 = .int x_top := (SAME.at t44 (by decide) n62)
        refine get_f (D := D) (ci := 10) (v := .int x_top) (C := RX10) (T := TX10) (N := 67) hx hb hw inAX10 hown hK hP 5 rfl rfl 60 (by decide) (hw _ q_1321) (fun _ h9 => h9) n63 dX10_operand_89 ?_
        refine lv_iload_n hx hb dX10_operand_92 rfl (lv_at hl 2 rfl) ?_
        refine lv_if_eq (tgt := 101) hx hb dX10_operand_93 (by decide) (fun c64 => False.elim (bad_le (Int.le_of_eq (eq_i (a := r1.toInt) (b := 0) rfl rfl c64)) k14.1 (Int.le_refl _) (by decide))) (fun c64 => ?_)
        have dc64 : r1.toInt ≠ 0 := ne_i (a := r1.toInt) (b := 0) rfl rfl c64
        refine lv_bipush (v := 20) hx hb dX10_operand_96 (by decide) ?_
        refine lv_goto (tgt := 103) hx hb dX10_operand_98 (by decide) ?_
        obtain ⟨g65, eg65⟩ : ∃ z : Nat → Int32, upd f_stack x_top.toNatClampNeg 20 = z := ⟨_, rfl⟩
        refine iast_g hx hb hK hP hD hS 4 0 rfl rfl (ix_i (by omega) (by omega)) eg65 dX10_operand_103 (fun H locs hP hD hS => ?_)
        have hP : va_P D vwCl [(h_s, .inl (cI, 335, .inl f_s)), (h_read, .inl (cI, 135, .inl f_read)), (h_names, .inl (cJ, 36, .inr (.inl f_names))), (h_reserved, .inl (cJ, 23, .inr (.inl f_reserved))), (h_stack, .inl (cI, 45, .inl g65)), (h0, .inr (10, vL 67 F37)), (h_tape, .inl (cB, 940, .inl f_tape))] H := hP
        have hD : va_D A [(h_s, .inl (cI, 335, .inl f_s)), (h_read, .inl (cI, 135, .inl f_read)), (h_names, .inl (cJ, 36, .inr (.inl f_names))), (h_reserved, .inl (cJ, 23, .inr (.inl f_reserved))), (h_stack, .inl (cI, 45, .inl g65)), (h0, .inr (10, vL 67 F37)), (h_tape, .inl (cB, 940, .inl f_tape))] := hD
        refine lv_aload_n hx hb dX10_operand_104 rfl (lv_at hl 3 rfl) ?_
        refine lv_dup hx hb dX10_operand_105 rfl ?_
        refine get_f (D := D) (ci := 10) (v := .int x_top) (C := RX10) (T := TX10) (N := 67) hx hb hw inAX10 hown hK hP 5 rfl rfl 60 (by decide) (hw _ q_1321) (fun _ h9 => h9) n63 dX10_operand_106 ?_
        refine lv_iconst (v := 1) hx hb dX10_operand_109 (by decide) ?_
        refine lv_iadd hx hb dX10_operand_110 ?_
        refine lv_topi (fun v66 ev66 => ?_)
        have bv66 : v66.toInt = x_top.toInt + 1 := by rw [ev66]; exact add_k rfl rfl i_x_top ⟨Int.le_refl _, Int.le_refl _⟩ (by decide)
        have k67 : 1 ≤ v66.toInt ∧ v66.toInt ≤ 46 := add_r bv66 i_x_top ⟨Int.le_refl _, Int.le_refl _⟩ (by decide)
        refine put_f (D := D) (ci := 10) (v := .int v66) (ty := .int) (C := RX10) (T := TX10) (N := 67) hx hb hw inAX10 tyX10 tyX10_ok nmX10 hown hK hP hD hS 5 rfl rfl 60 (by decide) (hw _ q_1321) (fun _ h9 => h9) rfl (by decide +kernel) rfl rfl dX10_operand_111 (fun H locs F68 eF68 hP hD hS => ?_)
        have hP : va_P D vwCl [(h_s, .inl (cI, 335, .inl f_s)), (h_read, .inl (cI, 135, .inl f_read)), (h_names, .inl (cJ, 36, .inr (.inl f_names))), (h_reserved, .inl (cJ, 23, .inr (.inl f_reserved))), (h_stack, .inl (cI, 45, .inl g65)), (h0, .inr (10, vL 67 F68)), (h_tape, .inl (cB, 940, .inl f_tape))] H := hP
        have hD : va_D A [(h_s, .inl (cI, 335, .inl f_s)), (h_read, .inl (cI, 135, .inl f_read)), (h_names, .inl (cJ, 36, .inr (.inl f_names))), (h_reserved, .inl (cJ, 23, .inr (.inl f_reserved))), (h_stack, .inl (cI, 45, .inl g65)), (h0, .inr (10, vL 67 F68)), (h_tape, .inl (cB, 940, .inl f_tape))] := hD
        refine lv_aload_n hx hb dX10_operand_114 rfl (lv_at hl 3 rfl) ?_
        refine lv_dup hx hb dX10_operand_115 rfl ?_
        have n69 : F28 61 = .int x_deep := (get_ne eF28 (by decide) e_deep)
        have n70 : F37 61 = .int x_deep := (SAME.at t44 (by decide) n69)
        have n71 : F68 61 = .int x_deep := (get_ne eF68 (by decide) n70)
        refine get_f (D := D) (ci := 10) (v := .int x_deep) (C := RX10) (T := TX10) (N := 67) hx hb hw inAX10 hown hK hP 5 rfl rfl 61 (by decide) (hw _ q_1322) (fun _ h9 => h9) n71 dX10_operand_116 ?_
        refine lv_iconst (v := 1) hx hb dX10_operand_119 (by decide) ?_
        refine lv_iadd hx hb dX10_operand_120 ?_
        refine lv_topi (fun v72 ev72 => ?_)
        have bv72 : v72.toInt = x_deep.toInt + 1 := by rw [ev72]; exact add_k rfl rfl k25 ⟨Int.le_refl _, Int.le_refl _⟩ (by decide)
        have k73 : (-2147483647) ≤ v72.toInt ∧ v72.toInt ≤ 9 := add_r bv72 k25 ⟨Int.le_refl _, Int.le_refl _⟩ (by decide)
        refine put_f (D := D) (ci := 10) (v := .int v72) (ty := .int) (C := RX10) (T := TX10) (N := 67) hx hb hw inAX10 tyX10 tyX10_ok nmX10 hown hK hP hD hS 5 rfl rfl 61 (by decide) (hw _ q_1322) (fun _ h9 => h9) rfl (by decide +kernel) rfl rfl dX10_operand_121 (fun H locs F74 eF74 hP hD hS => ?_)
        have hP : va_P D vwCl [(h_s, .inl (cI, 335, .inl f_s)), (h_read, .inl (cI, 135, .inl f_read)), (h_names, .inl (cJ, 36, .inr (.inl f_names))), (h_reserved, .inl (cJ, 23, .inr (.inl f_reserved))), (h_stack, .inl (cI, 45, .inl g65)), (h0, .inr (10, vL 67 F74)), (h_tape, .inl (cB, 940, .inl f_tape))] H := hP
        have hD : va_D A [(h_s, .inl (cI, 335, .inl f_s)), (h_read, .inl (cI, 135, .inl f_read)), (h_names, .inl (cJ, 36, .inr (.inl f_names))), (h_reserved, .inl (cJ, 23, .inr (.inl f_reserved))), (h_stack, .inl (cI, 45, .inl g65)), (h0, .inr (10, vL 67 F74)), (h_tape, .inl (cB, 940, .inl f_tape))] := hD
        refine lv_iconst (v := 1) hx hb dX10_operand_124 (by decide) ?_
        exact ret_i (v := 1) hx hb hr hlocks hS (hP.sub (ws' := [(h0, .inr (10, vL 67 F74)), (h_tape, .inl (cB, 940, .inl f_tape)), (h_s, .inl (cI, 335, .inl f_s)), (h_read, .inl (cI, 135, .inl f_read)), (h_names, .inl (cJ, 36, .inr (.inl f_names))), (h_reserved, .inl (cJ, 23, .inr (.inl f_reserved))), (h_stack, .inl (cI, 45, .inl g65))]) [5, 6, 0, 1, 2, 3, 4] rfl) (hD.sub (ws' := [(h0, .inr (10, vL 67 F74)), (h_tape, .inl (cB, 940, .inl f_tape)), (h_s, .inl (cI, 335, .inl f_s)), (h_read, .inl (cI, 135, .inl f_read)), (h_names, .inl (cJ, 36, .inr (.inl f_names))), (h_reserved, .inl (cJ, 23, .inr (.inl f_reserved))), (h_stack, .inl (cI, 45, .inl g65))]) [5, 6, 0, 1, 2, 3, 4] (by decide) rfl) dX10_operand_125 rfl (Nat.le_of_ble_eq_true rfl) (Nat.le_of_ble_eq_true rfl) ⟨F74, y38, y39, y40, y41, y42, x_fault, x_faultAt, y43, x_codes, v26, v66, v72, x_isWhole, f_read, g65, (SAME.up eF74 (SAME.up eF68 (SAME.tr (SAME.up eF28 SAME.rf (by decide)) t44 (by decide)) (by decide)) (by decide)), (get_ne eF74 (by decide) (get_ne eF68 (by decide) t45)), t46, (get_ne eF74 (by decide) (get_ne eF68 (by decide) t47)), t48, (get_ne eF74 (by decide) (get_ne eF68 (by decide) t49)), (get_ne eF74 (by decide) (get_ne eF68 (by decide) t51)), (get_ne eF74 (by decide) (get_ne eF68 (by decide) t53)), (get_ne eF74 (by decide) (get_ne eF68 (by decide) (SAME.at t44 (by decide) (get_ne eF28 (by decide) e_fault)))), (get_ne eF74 (by decide) (get_ne eF68 (by decide) (SAME.at t44 (by decide) (get_ne eF28 (by decide) e_faultAt)))), (get_ne eF74 (by decide) (get_ne eF68 (by decide) t54)), (get_ne eF74 (by decide) (get_ne eF68 (by decide) (SAME.at t44 (by decide) (get_ne eF28 (by decide) e_codes)))), i_x_codes, (get_ne eF74 (by decide) (get_ne eF68 (by decide) (SAME.at t44 (by decide) (get_eq eF28)))), (ir_wk k27 (by decide) (by decide)), (get_ne eF74 (by decide) (get_eq eF68)), (show 0 ≤ v66.toInt ∧ v66.toInt ≤ 45 from ⟨by omega, by omega⟩), (get_eq eF74), (get_ne eF74 (by decide) (get_ne eF68 (by decide) (SAME.at t44 (by decide) (get_ne eF28 (by decide) e_isWhole)))), i_x_isWhole, (show 0 ≤ (1 : Int32).toInt ∧ (1 : Int32).toInt ≤ 1 by decide), (by have zl1 : (1 : Int32).toInt = 1 := (by decide); omega), (fun _ => SMI.w (SMI.push z_1 eg65 (by omega) (by decide) (by omega)) (by omega)), (by omega), (by omega), rfl⟩
      · have dc24 : 8 < x_deep.toInt := nle_i (a := x_deep.toInt) (b := 8) rfl rfl c24
        have k75 : 9 ≤ x_deep.toInt ∧ x_deep.toInt ≤ 2147483647 := ⟨lo_lt dc24 (Int.le_refl _) (by decide), (ir_any _).2⟩
        refine lv_aload_n hx hb dX10_operand_56 rfl (lv_at hl 3 rfl) ?_
        refine lv_iconst (v := 4) hx hb dX10_operand_57 (by decide) ?_
        refine call_Vi (wr := [(h_tape, .inl (cB, 940, .inl f_tape)), (h_s, .inl (cI, 335, .inl f_s)), (h_read, .inl (cI, 135, .inl f_read)), (h_names, .inl (cJ, 36, .inr (.inl f_names))), (h_reserved, .inl (cJ, 23, .inr (.inl f_reserved))), (h_stack, .inl (cI, 45, .inl f_stack))]) (As := [.int 4]) (rest := []) hx hb hml hown hw (m_X10_bad l D cI cJ cB cP cM cZ h0 Fh x_at 4 _ e_at) wV_X10_205_X10_bad dX10_operand_58 hK hP hD hS hA [6] [0, 1, 2, 3, 4, 5] rfl rfl (by decide) (by decide) (by decide) 0 10 rfl rfl GG.fb hG.at hl.1 rfl (Nat.le_of_ble_eq_true rfl) ⟨(Nat.le_of_ble_eq_true rfl), (Nat.le_of_ble_eq_true rfl)⟩ ⟨(Nat.le_of_ble_eq_true rfl), (Nat.le_of_ble_eq_true rfl)⟩ (fun r76 u H locs hp hP hD hS => ?_)
        have zl4 : (4 : Int32).toInt = 4 := by decide
        obtain ⟨F77, t78, t79, t80, rfl, rfl⟩ := hp
        have hP : va_P D vwCl [(h_tape, .inl (cB, 940, .inl f_tape)), (h_s, .inl (cI, 335, .inl f_s)), (h_read, .inl (cI, 135, .inl f_read)), (h_names, .inl (cJ, 36, .inr (.inl f_names))), (h_reserved, .inl (cJ, 23, .inr (.inl f_reserved))), (h_stack, .inl (cI, 45, .inl f_stack)), (h0, .inr (10, vL 67 F77))] H := hP
        have hD : va_D A [(h_tape, .inl (cB, 940, .inl f_tape)), (h_s, .inl (cI, 335, .inl f_s)), (h_read, .inl (cI, 135, .inl f_read)), (h_names, .inl (cJ, 36, .inr (.inl f_names))), (h_reserved, .inl (cJ, 23, .inr (.inl f_reserved))), (h_stack, .inl (cI, 45, .inl f_stack)), (h0, .inr (10, vL 67 F77))] := hD
        refine W.widen (k := 0) (n := 0) (Nat.le_of_ble_eq_true rfl) (Nat.le_of_ble_eq_true rfl) ?_
        exact ret_i (v := 0) hx hb hr hlocks hS (hP.sub (ws' := [(h0, .inr (10, vL 67 F77)), (h_tape, .inl (cB, 940, .inl f_tape)), (h_s, .inl (cI, 335, .inl f_s)), (h_read, .inl (cI, 135, .inl f_read)), (h_names, .inl (cJ, 36, .inr (.inl f_names))), (h_reserved, .inl (cJ, 23, .inr (.inl f_reserved))), (h_stack, .inl (cI, 45, .inl f_stack))]) [6, 0, 1, 2, 3, 4, 5] rfl) (hD.sub (ws' := [(h0, .inr (10, vL 67 F77)), (h_tape, .inl (cB, 940, .inl f_tape)), (h_s, .inl (cI, 335, .inl f_s)), (h_read, .inl (cI, 135, .inl f_read)), (h_names, .inl (cJ, 36, .inr (.inl f_names))), (h_reserved, .inl (cJ, 23, .inr (.inl f_reserved))), (h_stack, .inl (cI, 45, .inl f_stack))]) [6, 0, 1, 2, 3, 4, 5] (by decide) rfl) dX10_operand_61 rfl (Nat.le_of_ble_eq_true rfl) (Nat.le_of_ble_eq_true rfl) ⟨F77, x_p, x_token, x_at, x_span, x_number, 4, x_at, x_word, x_codes, x_ones, x_top, x_deep, x_isWhole, f_read, f_stack, (SAME.tr SAME.rf t78 (by decide)), (SAME.at t78 (by decide) e_p), i_x_p, (SAME.at t78 (by decide) e_token), i_x_token, (SAME.at t78 (by decide) e_at), (SAME.at t78 (by decide) e_span), (SAME.at t78 (by decide) e_number), t79, t80, (SAME.at t78 (by decide) e_word), (SAME.at t78 (by decide) e_codes), i_x_codes, (SAME.at t78 (by decide) e_ones), (ir_wk k23 (by decide) (by decide)), (SAME.at t78 (by decide) e_top), i_x_top, (SAME.at t78 (by decide) e_deep), (SAME.at t78 (by decide) e_isWhole), i_x_isWhole, (show 0 ≤ (0 : Int32).toInt ∧ (0 : Int32).toInt ≤ 1 by decide), (by have zl0 : (0 : Int32).toInt = 0 := (by decide); have zl1 : (1 : Int32).toInt = 1 := (by decide); omega), (fun q => absurd q (by decide)), (by have zl4 : (4 : Int32).toInt = 4 := (by decide); omega), (by have zl4 : (4 : Int32).toInt = 4 := (by decide); omega), rfl⟩
  · have dc13 : r1.toInt = 0 := eq_i (a := r1.toInt) (b := 0) rfl rfl c13
    have k82 : 0 ≤ r1.toInt ∧ r1.toInt ≤ 0 := ⟨t2.1, Int.le_trans (Int.le_of_eq dc13) (Int.le_refl _)⟩
    refine lv_iload_n hx hb dX10_operand_24 rfl (lv_at hl 1 rfl) ?_
    refine lv_if_ne (tgt := 38) hx hb dX10_operand_25 (by decide) (fun c83 => ?_) (fun c83 => ?_)
    · have dc83 : r5.toInt ≠ 0 := ne_i (a := r5.toInt) (b := 0) rfl rfl c83
      have k84 : 1 ≤ r5.toInt ∧ r5.toInt ≤ 1 := ⟨ne_lo dc83 t6.1 ⟨Int.le_refl _, Int.le_refl _⟩ (by decide), t6.2⟩
      refine lv_aload_n hx hb dX10_operand_38 rfl (lv_at hl 3 rfl) ?_
      refine get_f (D := D) (ci := 10) (v := .int x_ones) (C := RX10) (T := TX10) (N := 67) hx hb hw inAX10 hown hK hP 6 rfl rfl 59 (by decide) (hw _ q_1320) (fun _ h9 => h9) e_ones dX10_operand_39 ?_
      refine lv_bipush (v := 20) hx hb dX10_operand_42 (by decide) ?_
      refine lv_icmp_eq (tgt := 56) hx hb dX10_operand_44 (by decide) (fun c85 => ?_) (fun c85 => ?_)
      · have dc85 : x_ones.toInt = 20 := eq_i (a := x_ones.toInt) (b := 20) rfl rfl c85
        have k86 : 20 ≤ x_ones.toInt ∧ x_ones.toInt ≤ 20 := ⟨Int.le_trans (Int.le_refl _) (Int.le_of_eq dc85.symm), i_x_ones.2⟩
        refine lv_aload_n hx hb dX10_operand_56 rfl (lv_at hl 3 rfl) ?_
        refine lv_iconst (v := 4) hx hb dX10_operand_57 (by decide) ?_
        refine call_Vi (wr := [(h_tape, .inl (cB, 940, .inl f_tape)), (h_s, .inl (cI, 335, .inl f_s)), (h_read, .inl (cI, 135, .inl f_read)), (h_names, .inl (cJ, 36, .inr (.inl f_names))), (h_reserved, .inl (cJ, 23, .inr (.inl f_reserved))), (h_stack, .inl (cI, 45, .inl f_stack))]) (As := [.int 4]) (rest := []) hx hb hml hown hw (m_X10_bad l D cI cJ cB cP cM cZ h0 Fh x_at 4 _ e_at) wV_X10_205_X10_bad dX10_operand_58 hK hP hD hS hA [6] [0, 1, 2, 3, 4, 5] rfl rfl (by decide) (by decide) (by decide) 0 10 rfl rfl GG.fb hG.at hl.1 rfl (Nat.le_of_ble_eq_true rfl) ⟨(Nat.le_of_ble_eq_true rfl), (Nat.le_of_ble_eq_true rfl)⟩ ⟨(Nat.le_of_ble_eq_true rfl), (Nat.le_of_ble_eq_true rfl)⟩ (fun r87 u H locs hp hP hD hS => ?_)
        have zl4 : (4 : Int32).toInt = 4 := by decide
        obtain ⟨F88, t89, t90, t91, rfl, rfl⟩ := hp
        have hP : va_P D vwCl [(h_tape, .inl (cB, 940, .inl f_tape)), (h_s, .inl (cI, 335, .inl f_s)), (h_read, .inl (cI, 135, .inl f_read)), (h_names, .inl (cJ, 36, .inr (.inl f_names))), (h_reserved, .inl (cJ, 23, .inr (.inl f_reserved))), (h_stack, .inl (cI, 45, .inl f_stack)), (h0, .inr (10, vL 67 F88))] H := hP
        have hD : va_D A [(h_tape, .inl (cB, 940, .inl f_tape)), (h_s, .inl (cI, 335, .inl f_s)), (h_read, .inl (cI, 135, .inl f_read)), (h_names, .inl (cJ, 36, .inr (.inl f_names))), (h_reserved, .inl (cJ, 23, .inr (.inl f_reserved))), (h_stack, .inl (cI, 45, .inl f_stack)), (h0, .inr (10, vL 67 F88))] := hD
        refine W.widen (k := 0) (n := 0) (Nat.le_of_ble_eq_true rfl) (Nat.le_of_ble_eq_true rfl) ?_
        exact ret_i (v := 0) hx hb hr hlocks hS (hP.sub (ws' := [(h0, .inr (10, vL 67 F88)), (h_tape, .inl (cB, 940, .inl f_tape)), (h_s, .inl (cI, 335, .inl f_s)), (h_read, .inl (cI, 135, .inl f_read)), (h_names, .inl (cJ, 36, .inr (.inl f_names))), (h_reserved, .inl (cJ, 23, .inr (.inl f_reserved))), (h_stack, .inl (cI, 45, .inl f_stack))]) [6, 0, 1, 2, 3, 4, 5] rfl) (hD.sub (ws' := [(h0, .inr (10, vL 67 F88)), (h_tape, .inl (cB, 940, .inl f_tape)), (h_s, .inl (cI, 335, .inl f_s)), (h_read, .inl (cI, 135, .inl f_read)), (h_names, .inl (cJ, 36, .inr (.inl f_names))), (h_reserved, .inl (cJ, 23, .inr (.inl f_reserved))), (h_stack, .inl (cI, 45, .inl f_stack))]) [6, 0, 1, 2, 3, 4, 5] (by decide) rfl) dX10_operand_61 rfl (Nat.le_of_ble_eq_true rfl) (Nat.le_of_ble_eq_true rfl) ⟨F88, x_p, x_token, x_at, x_span, x_number, 4, x_at, x_word, x_codes, x_ones, x_top, x_deep, x_isWhole, f_read, f_stack, (SAME.tr SAME.rf t89 (by decide)), (SAME.at t89 (by decide) e_p), i_x_p, (SAME.at t89 (by decide) e_token), i_x_token, (SAME.at t89 (by decide) e_at), (SAME.at t89 (by decide) e_span), (SAME.at t89 (by decide) e_number), t90, t91, (SAME.at t89 (by decide) e_word), (SAME.at t89 (by decide) e_codes), i_x_codes, (SAME.at t89 (by decide) e_ones), (ir_wk k86 (by decide) (by decide)), (SAME.at t89 (by decide) e_top), i_x_top, (SAME.at t89 (by decide) e_deep), (SAME.at t89 (by decide) e_isWhole), i_x_isWhole, (show 0 ≤ (0 : Int32).toInt ∧ (0 : Int32).toInt ≤ 1 by decide), (by have zl0 : (0 : Int32).toInt = 0 := (by decide); have zl1 : (1 : Int32).toInt = 1 := (by decide); omega), (fun q => absurd q (by decide)), (by have zl4 : (4 : Int32).toInt = 4 := (by decide); omega), (by have zl4 : (4 : Int32).toInt = 4 := (by decide); omega), rfl⟩
      · have dc85 : x_ones.toInt ≠ 20 := ne_i (a := x_ones.toInt) (b := 20) rfl rfl c85
        have k93 : 0 ≤ x_ones.toInt ∧ x_ones.toInt ≤ 19 := ⟨i_x_ones.1, ne_hi dc85 i_x_ones.2 ⟨Int.le_refl _, Int.le_refl _⟩ (by decide)⟩
        refine lv_aload_n hx hb dX10_operand_47 rfl (lv_at hl 3 rfl) ?_
        refine get_f (D := D) (ci := 10) (v := .int x_deep) (C := RX10) (T := TX10) (N := 67) hx hb hw inAX10 hown hK hP 6 rfl rfl 61 (by decide) (hw _ q_1322) (fun _ h9 => h9) e_deep dX10_operand_48 ?_
        refine lv_bipush (v := 8) hx hb dX10_operand_51 (by decide) ?_
        refine lv_icmp_le (tgt := 62) hx hb dX10_operand_53 (by decide) (fun c94 => ?_) (fun c94 => ?_)
        · have dc94 : x_deep.toInt ≤ 8 := le_i (a := x_deep.toInt) (b := 8) rfl rfl c94
          have k95 : (-2147483648) ≤ x_deep.toInt ∧ x_deep.toInt ≤ 8 := ⟨(ir_any _).1, Int.le_trans dc94 (Int.le_refl _)⟩
          refine lv_aload_n hx hb dX10_operand_62 rfl (lv_at hl 3 rfl) ?_
          refine lv_dup hx hb dX10_operand_63 rfl ?_
          refine get_f (D := D) (ci := 10) (v := .int x_ones) (C := RX10) (T := TX10) (N := 67) hx hb hw inAX10 hown hK hP 6 rfl rfl 59 (by decide) (hw _ q_1320) (fun _ h9 => h9) e_ones dX10_operand_64 ?_
          refine lv_iconst (v := 1) hx hb dX10_operand_67 (by decide) ?_
          refine lv_iadd hx hb dX10_operand_68 ?_
          refine lv_topi (fun v96 ev96 => ?_)
          have bv96 : v96.toInt = x_ones.toInt + 1 := by rw [ev96]; exact add_k rfl rfl k93 ⟨Int.le_refl _, Int.le_refl _⟩ (by decide)
          have k97 : 1 ≤ v96.toInt ∧ v96.toInt ≤ 20 := add_r bv96 k93 ⟨Int.le_refl _, Int.le_refl _⟩ (by decide)
          refine put_f (D := D) (ci := 10) (v := .int v96) (ty := .int) (C := RX10) (T := TX10) (N := 67) hx hb hw inAX10 tyX10 tyX10_ok nmX10 hown hK hP hD hS 6 rfl rfl 59 (by decide) (hw _ q_1320) (fun _ h9 => h9) rfl (by decide +kernel) rfl rfl dX10_operand_69 (fun H locs F98 eF98 hP hD hS => ?_)
          have hP : va_P D vwCl [(h_tape, .inl (cB, 940, .inl f_tape)), (h_s, .inl (cI, 335, .inl f_s)), (h_read, .inl (cI, 135, .inl f_read)), (h_names, .inl (cJ, 36, .inr (.inl f_names))), (h_reserved, .inl (cJ, 23, .inr (.inl f_reserved))), (h_stack, .inl (cI, 45, .inl f_stack)), (h0, .inr (10, vL 67 F98))] H := hP
          have hD : va_D A [(h_tape, .inl (cB, 940, .inl f_tape)), (h_s, .inl (cI, 335, .inl f_s)), (h_read, .inl (cI, 135, .inl f_read)), (h_names, .inl (cJ, 36, .inr (.inl f_names))), (h_reserved, .inl (cJ, 23, .inr (.inl f_reserved))), (h_stack, .inl (cI, 45, .inl f_stack)), (h0, .inr (10, vL 67 F98))] := hD
          refine lv_aload_n hx hb dX10_operand_72 rfl (lv_at hl 3 rfl) ?_
          have n99 : F98 1 = .ref h_tape := (get_ne eF98 (by decide) e_tape)
          have n100 : F98 3 = .int x_size := (get_ne eF98 (by decide) e_size)
          have n101 : F98 4 = .int x_p := (get_ne eF98 (by decide) e_p)
          have n102 : F98 5 = .int x_limit := (get_ne eF98 (by decide) e_limit)
          have n103 : F98 11 = .int x_token := (get_ne eF98 (by decide) e_token)
          have n104 : F98 14 = .int x_number := (get_ne eF98 (by decide) e_number)
          have n105 : F98 18 = .long x_word := (get_ne eF98 (by decide) e_word)
          refine call_Vv (wr := [(h_s, .inl (cI, 335, .inl f_s)), (h_read, .inl (cI, 135, .inl f_read)), (h_names, .inl (cJ, 36, .inr (.inl f_names))), (h_reserved, .inl (cJ, 23, .inr (.inl f_reserved))), (h_stack, .inl (cI, 45, .inl f_stack))]) (As := []) (rest := []) hx hb hml hown hw (m_X10_next l D cI cJ cB cP cM cZ h0 h_tape F98 x_size x_p x_limit x_token x_number x_word f_tape _ n99 n100 i_x_size n101 i_x_p n102 i_x_limit n103 i_x_token n104 n105 (by omega)) wV_X10_208_X10_next dX10_operand_73 hK hP hD hS hA [6, 0] [1, 2, 3, 4, 5] rfl rfl (by decide) (by decide) (by decide) 0 10 rfl rfl GG.fb hG.at hl.1 rfl (Nat.le_of_ble_eq_true rfl) ⟨(Nat.le_of_ble_eq_true rfl), (Nat.le_of_ble_eq_true rfl)⟩ ⟨(Nat.le_of_ble_eq_true rfl), (Nat.le_of_ble_eq_true rfl)⟩ (fun u H locs hp hP hD hS => ?_)
          obtain ⟨F107, y108, y109, y110, y111, y112, y113, t114, t115, t116, t117, t118, t119, t120, t121, t122, t123, t124, t125, t126, t127, rfl⟩ := hp
          have hP : va_P D vwCl [(h_s, .inl (cI, 335, .inl f_s)), (h_read, .inl (cI, 135, .inl f_read)), (h_names, .inl (cJ, 36, .inr (.inl f_names))), (h_reserved, .inl (cJ, 23, .inr (.inl f_reserved))), (h_stack, .inl (cI, 45, .inl f_stack)), (h0, .inr (10, vL 67 F107)), (h_tape, .inl (cB, 940, .inl f_tape))] H := hP
          have hD : va_D A [(h_s, .inl (cI, 335, .inl f_s)), (h_read, .inl (cI, 135, .inl f_read)), (h_names, .inl (cJ, 36, .inr (.inl f_names))), (h_reserved, .inl (cJ, 23, .inr (.inl f_reserved))), (h_stack, .inl (cI, 45, .inl f_stack)), (h0, .inr (10, vL 67 F107)), (h_tape, .inl (cB, 940, .inl f_tape))] := hD
          refine W.widen (k := 0) (n := 0) (Nat.le_of_ble_eq_true rfl) (Nat.le_of_ble_eq_true rfl) ?_
          refine lv_iload_n hx hb dX10_operand_76 rfl (lv_at hl 2 rfl) ?_
          refine lv_if_ne (tgt := 84) hx hb dX10_operand_77 (by decide) (fun c129 => False.elim (bad_ne (ne_i (a := r1.toInt) (b := 0) rfl rfl c129) k82 ⟨Int.le_refl _, Int.le_refl _⟩ (by decide))) (fun c129 => ?_)
          have dc129 : r1.toInt = 0 := eq_i (a := r1.toInt) (b := 0) rfl rfl c129
          refine lv_iload_n hx hb dX10_operand_80 rfl (lv_at hl 1 rfl) ?_
          refine lv_if_eq (tgt := 126) hx hb dX10_operand_81 (by decide) (fun c130 => False.elim (bad_le (Int.le_of_eq (eq_i (a := r5.toInt) (b := 0) rfl rfl c130)) k84.1 (Int.le_refl _) (by decide))) (fun c130 => ?_)
          have dc130 : r5.toInt ≠ 0 := ne_i (a := r5.toInt) (b := 0) rfl rfl c130
          refine lv_aload_n hx hb dX10_operand_84 rfl (lv_at hl 3 rfl) ?_
          have n131 : F98 57 = .ref h_stack := (get_ne eF98 (by decide) e_stack)
          have n132 : F107 57 = .ref h_stack := (SAME.at t114 (by decide) n131)
          refine get_f (D := D) (ci := 10) (v := .ref h_stack) (C := RX10) (T := TX10) (N := 67) hx hb hw inAX10 hown hK hP 5 rfl rfl 57 (by decide) (hw _ q_1318) (fun _ h9 => h9) n132 dX10_operand_85 ?_
          refine lv_aload_n hx hb dX10_operand_88 rfl (lv_at hl 3 rfl) ?_
          have n133 : F98 60 = .int x_top := (get_ne eF98 (by decide) e_top)
          have n134 : F107 60 = .int x_top := (SAME.at t114 (by decide) n133)
          refine get_f (D := D) (ci := 10) (v := .int x_top) (C := RX10) (T := TX10) (N := 67) hx hb hw inAX10 hown hK hP 5 rfl rfl 60 (by decide) (hw _ q_1321) (fun _ h9 => h9) n134 dX10_operand_89 ?_
          refine lv_iload_n hx hb dX10_operand_92 rfl (lv_at hl 2 rfl) ?_
          refine lv_if_eq (tgt := 101) hx hb dX10_operand_93 (by decide) (fun c135 => ?_) (fun c135 => False.elim (bad_ne (ne_i (a := r1.toInt) (b := 0) rfl rfl c135) k82 ⟨Int.le_refl _, Int.le_refl _⟩ (by decide)))
          have dc135 : r1.toInt = 0 := eq_i (a := r1.toInt) (b := 0) rfl rfl c135
          refine lv_bipush (v := 23) hx hb dX10_operand_101 (by decide) ?_
          obtain ⟨g136, eg136⟩ : ∃ z : Nat → Int32, upd f_stack x_top.toNatClampNeg 23 = z := ⟨_, rfl⟩
          refine iast_g hx hb hK hP hD hS 4 0 rfl rfl (ix_i (by omega) (by omega)) eg136 dX10_operand_103 (fun H locs hP hD hS => ?_)
          have hP : va_P D vwCl [(h_s, .inl (cI, 335, .inl f_s)), (h_read, .inl (cI, 135, .inl f_read)), (h_names, .inl (cJ, 36, .inr (.inl f_names))), (h_reserved, .inl (cJ, 23, .inr (.inl f_reserved))), (h_stack, .inl (cI, 45, .inl g136)), (h0, .inr (10, vL 67 F107)), (h_tape, .inl (cB, 940, .inl f_tape))] H := hP
          have hD : va_D A [(h_s, .inl (cI, 335, .inl f_s)), (h_read, .inl (cI, 135, .inl f_read)), (h_names, .inl (cJ, 36, .inr (.inl f_names))), (h_reserved, .inl (cJ, 23, .inr (.inl f_reserved))), (h_stack, .inl (cI, 45, .inl g136)), (h0, .inr (10, vL 67 F107)), (h_tape, .inl (cB, 940, .inl f_tape))] := hD
          refine lv_aload_n hx hb dX10_operand_104 rfl (lv_at hl 3 rfl) ?_
          refine lv_dup hx hb dX10_operand_105 rfl ?_
          refine get_f (D := D) (ci := 10) (v := .int x_top) (C := RX10) (T := TX10) (N := 67) hx hb hw inAX10 hown hK hP 5 rfl rfl 60 (by decide) (hw _ q_1321) (fun _ h9 => h9) n134 dX10_operand_106 ?_
          refine lv_iconst (v := 1) hx hb dX10_operand_109 (by decide) ?_
          refine lv_iadd hx hb dX10_operand_110 ?_
          refine lv_topi (fun v137 ev137 => ?_)
          have bv137 : v137.toInt = x_top.toInt + 1 := by rw [ev137]; exact add_k rfl rfl i_x_top ⟨Int.le_refl _, Int.le_refl _⟩ (by decide)
          have k138 : 1 ≤ v137.toInt ∧ v137.toInt ≤ 46 := add_r bv137 i_x_top ⟨Int.le_refl _, Int.le_refl _⟩ (by decide)
          refine put_f (D := D) (ci := 10) (v := .int v137) (ty := .int) (C := RX10) (T := TX10) (N := 67) hx hb hw inAX10 tyX10 tyX10_ok nmX10 hown hK hP hD hS 5 rfl rfl 60 (by decide) (hw _ q_1321) (fun _ h9 => h9) rfl (by decide +kernel) rfl rfl dX10_operand_111 (fun H locs F139 eF139 hP hD hS => ?_)
          have hP : va_P D vwCl [(h_s, .inl (cI, 335, .inl f_s)), (h_read, .inl (cI, 135, .inl f_read)), (h_names, .inl (cJ, 36, .inr (.inl f_names))), (h_reserved, .inl (cJ, 23, .inr (.inl f_reserved))), (h_stack, .inl (cI, 45, .inl g136)), (h0, .inr (10, vL 67 F139)), (h_tape, .inl (cB, 940, .inl f_tape))] H := hP
          have hD : va_D A [(h_s, .inl (cI, 335, .inl f_s)), (h_read, .inl (cI, 135, .inl f_read)), (h_names, .inl (cJ, 36, .inr (.inl f_names))), (h_reserved, .inl (cJ, 23, .inr (.inl f_reserved))), (h_stack, .inl (cI, 45, .inl g136)), (h0, .inr (10, vL 67 F139)), (h_tape, .inl (cB, 940, .inl f_tape))] := hD
          refine lv_aload_n hx hb dX10_operand_114 rfl (lv_at hl 3 rfl) ?_
          refine lv_dup hx hb dX10_operand_115 rfl ?_
          have n140 : F98 61 = .int x_deep := (get_ne eF98 (by decide) e_deep)
          have n141 : F107 61 = .int x_deep := (SAME.at t114 (by decide) n140)
          have n142 : F139 61 = .int x_deep := (get_ne eF139 (by decide) n141)
          refine get_f (D := D) (ci := 10) (v := .int x_deep) (C := RX10) (T := TX10) (N := 67) hx hb hw inAX10 hown hK hP 5 rfl rfl 61 (by decide) (hw _ q_1322) (fun _ h9 => h9) n142 dX10_operand_116 ?_
          refine lv_iconst (v := 1) hx hb dX10_operand_119 (by decide) ?_
          refine lv_iadd hx hb dX10_operand_120 ?_
          refine lv_topi (fun v143 ev143 => ?_)
          have bv143 : v143.toInt = x_deep.toInt + 1 := by rw [ev143]; exact add_k rfl rfl k95 ⟨Int.le_refl _, Int.le_refl _⟩ (by decide)
          have k144 : (-2147483647) ≤ v143.toInt ∧ v143.toInt ≤ 9 := add_r bv143 k95 ⟨Int.le_refl _, Int.le_refl _⟩ (by decide)
          refine put_f (D := D) (ci := 10) (v := .int v143) (ty := .int) (C := RX10) (T := TX10) (N := 67) hx hb hw inAX10 tyX10 tyX10_ok nmX10 hown hK hP hD hS 5 rfl rfl 61 (by decide) (hw _ q_1322) (fun _ h9 => h9) rfl (by decide +kernel) rfl rfl dX10_operand_121 (fun H locs F145 eF145 hP hD hS => ?_)
          have hP : va_P D vwCl [(h_s, .inl (cI, 335, .inl f_s)), (h_read, .inl (cI, 135, .inl f_read)), (h_names, .inl (cJ, 36, .inr (.inl f_names))), (h_reserved, .inl (cJ, 23, .inr (.inl f_reserved))), (h_stack, .inl (cI, 45, .inl g136)), (h0, .inr (10, vL 67 F145)), (h_tape, .inl (cB, 940, .inl f_tape))] H := hP
          have hD : va_D A [(h_s, .inl (cI, 335, .inl f_s)), (h_read, .inl (cI, 135, .inl f_read)), (h_names, .inl (cJ, 36, .inr (.inl f_names))), (h_reserved, .inl (cJ, 23, .inr (.inl f_reserved))), (h_stack, .inl (cI, 45, .inl g136)), (h0, .inr (10, vL 67 F145)), (h_tape, .inl (cB, 940, .inl f_tape))] := hD
          refine lv_iconst (v := 1) hx hb dX10_operand_124 (by decide) ?_
          exact ret_i (v := 1) hx hb hr hlocks hS (hP.sub (ws' := [(h0, .inr (10, vL 67 F145)), (h_tape, .inl (cB, 940, .inl f_tape)), (h_s, .inl (cI, 335, .inl f_s)), (h_read, .inl (cI, 135, .inl f_read)), (h_names, .inl (cJ, 36, .inr (.inl f_names))), (h_reserved, .inl (cJ, 23, .inr (.inl f_reserved))), (h_stack, .inl (cI, 45, .inl g136))]) [5, 6, 0, 1, 2, 3, 4] rfl) (hD.sub (ws' := [(h0, .inr (10, vL 67 F145)), (h_tape, .inl (cB, 940, .inl f_tape)), (h_s, .inl (cI, 335, .inl f_s)), (h_read, .inl (cI, 135, .inl f_read)), (h_names, .inl (cJ, 36, .inr (.inl f_names))), (h_reserved, .inl (cJ, 23, .inr (.inl f_reserved))), (h_stack, .inl (cI, 45, .inl g136))]) [5, 6, 0, 1, 2, 3, 4] (by decide) rfl) dX10_operand_125 rfl (Nat.le_of_ble_eq_true rfl) (Nat.le_of_ble_eq_true rfl) ⟨F145, y108, y109, y110, y111, y112, x_fault, x_faultAt, y113, x_codes, v96, v137, v143, x_isWhole, f_read, g136, (SAME.up eF145 (SAME.up eF139 (SAME.tr (SAME.up eF98 SAME.rf (by decide)) t114 (by decide)) (by decide)) (by decide)), (get_ne eF145 (by decide) (get_ne eF139 (by decide) t115)), t116, (get_ne eF145 (by decide) (get_ne eF139 (by decide) t117)), t118, (get_ne eF145 (by decide) (get_ne eF139 (by decide) t119)), (get_ne eF145 (by decide) (get_ne eF139 (by decide) t121)), (get_ne eF145 (by decide) (get_ne eF139 (by decide) t123)), (get_ne eF145 (by decide) (get_ne eF139 (by decide) (SAME.at t114 (by decide) (get_ne eF98 (by decide) e_fault)))), (get_ne eF145 (by decide) (get_ne eF139 (by decide) (SAME.at t114 (by decide) (get_ne eF98 (by decide) e_faultAt)))), (get_ne eF145 (by decide) (get_ne eF139 (by decide) t124)), (get_ne eF145 (by decide) (get_ne eF139 (by decide) (SAME.at t114 (by decide) (get_ne eF98 (by decide) e_codes)))), i_x_codes, (get_ne eF145 (by decide) (get_ne eF139 (by decide) (SAME.at t114 (by decide) (get_eq eF98)))), (ir_wk k97 (by decide) (by decide)), (get_ne eF145 (by decide) (get_eq eF139)), (show 0 ≤ v137.toInt ∧ v137.toInt ≤ 45 from ⟨by omega, by omega⟩), (get_eq eF145), (get_ne eF145 (by decide) (get_ne eF139 (by decide) (SAME.at t114 (by decide) (get_ne eF98 (by decide) e_isWhole)))), i_x_isWhole, (show 0 ≤ (1 : Int32).toInt ∧ (1 : Int32).toInt ≤ 1 by decide), (by have zl1 : (1 : Int32).toInt = 1 := (by decide); omega), (fun _ => SMI.w (SMI.push z_1 eg136 (by omega) (by decide) (by omega)) (by omega)), (by omega), (by omega), rfl⟩
        · have dc94 : 8 < x_deep.toInt := nle_i (a := x_deep.toInt) (b := 8) rfl rfl c94
          have k146 : 9 ≤ x_deep.toInt ∧ x_deep.toInt ≤ 2147483647 := ⟨lo_lt dc94 (Int.le_refl _) (by decide), (ir_any _).2⟩
          refine lv_aload_n hx hb dX10_operand_56 rfl (lv_at hl 3 rfl) ?_
          refine lv_iconst (v := 4) hx hb dX10_operand_57 (by decide) ?_
          refine call_Vi (wr := [(h_tape, .inl (cB, 940, .inl f_tape)), (h_s, .inl (cI, 335, .inl f_s)), (h_read, .inl (cI, 135, .inl f_read)), (h_names, .inl (cJ, 36, .inr (.inl f_names))), (h_reserved, .inl (cJ, 23, .inr (.inl f_reserved))), (h_stack, .inl (cI, 45, .inl f_stack))]) (As := [.int 4]) (rest := []) hx hb hml hown hw (m_X10_bad l D cI cJ cB cP cM cZ h0 Fh x_at 4 _ e_at) wV_X10_205_X10_bad dX10_operand_58 hK hP hD hS hA [6] [0, 1, 2, 3, 4, 5] rfl rfl (by decide) (by decide) (by decide) 0 10 rfl rfl GG.fb hG.at hl.1 rfl (Nat.le_of_ble_eq_true rfl) ⟨(Nat.le_of_ble_eq_true rfl), (Nat.le_of_ble_eq_true rfl)⟩ ⟨(Nat.le_of_ble_eq_true rfl), (Nat.le_of_ble_eq_true rfl)⟩ (fun r147 u H locs hp hP hD hS => ?_)
          have zl4 : (4 : Int32).toInt = 4 := by decide
          obtain ⟨F148, t149, t150, t151, rfl, rfl⟩ := hp
          have hP : va_P D vwCl [(h_tape, .inl (cB, 940, .inl f_tape)), (h_s, .inl (cI, 335, .inl f_s)), (h_read, .inl (cI, 135, .inl f_read)), (h_names, .inl (cJ, 36, .inr (.inl f_names))), (h_reserved, .inl (cJ, 23, .inr (.inl f_reserved))), (h_stack, .inl (cI, 45, .inl f_stack)), (h0, .inr (10, vL 67 F148))] H := hP
          have hD : va_D A [(h_tape, .inl (cB, 940, .inl f_tape)), (h_s, .inl (cI, 335, .inl f_s)), (h_read, .inl (cI, 135, .inl f_read)), (h_names, .inl (cJ, 36, .inr (.inl f_names))), (h_reserved, .inl (cJ, 23, .inr (.inl f_reserved))), (h_stack, .inl (cI, 45, .inl f_stack)), (h0, .inr (10, vL 67 F148))] := hD
          refine W.widen (k := 0) (n := 0) (Nat.le_of_ble_eq_true rfl) (Nat.le_of_ble_eq_true rfl) ?_
          exact ret_i (v := 0) hx hb hr hlocks hS (hP.sub (ws' := [(h0, .inr (10, vL 67 F148)), (h_tape, .inl (cB, 940, .inl f_tape)), (h_s, .inl (cI, 335, .inl f_s)), (h_read, .inl (cI, 135, .inl f_read)), (h_names, .inl (cJ, 36, .inr (.inl f_names))), (h_reserved, .inl (cJ, 23, .inr (.inl f_reserved))), (h_stack, .inl (cI, 45, .inl f_stack))]) [6, 0, 1, 2, 3, 4, 5] rfl) (hD.sub (ws' := [(h0, .inr (10, vL 67 F148)), (h_tape, .inl (cB, 940, .inl f_tape)), (h_s, .inl (cI, 335, .inl f_s)), (h_read, .inl (cI, 135, .inl f_read)), (h_names, .inl (cJ, 36, .inr (.inl f_names))), (h_reserved, .inl (cJ, 23, .inr (.inl f_reserved))), (h_stack, .inl (cI, 45, .inl f_stack))]) [6, 0, 1, 2, 3, 4, 5] (by decide) rfl) dX10_operand_61 rfl (Nat.le_of_ble_eq_true rfl) (Nat.le_of_ble_eq_true rfl) ⟨F148, x_p, x_token, x_at, x_span, x_number, 4, x_at, x_word, x_codes, x_ones, x_top, x_deep, x_isWhole, f_read, f_stack, (SAME.tr SAME.rf t149 (by decide)), (SAME.at t149 (by decide) e_p), i_x_p, (SAME.at t149 (by decide) e_token), i_x_token, (SAME.at t149 (by decide) e_at), (SAME.at t149 (by decide) e_span), (SAME.at t149 (by decide) e_number), t150, t151, (SAME.at t149 (by decide) e_word), (SAME.at t149 (by decide) e_codes), i_x_codes, (SAME.at t149 (by decide) e_ones), (ir_wk k93 (by decide) (by decide)), (SAME.at t149 (by decide) e_top), i_x_top, (SAME.at t149 (by decide) e_deep), (SAME.at t149 (by decide) e_isWhole), i_x_isWhole, (show 0 ≤ (0 : Int32).toInt ∧ (0 : Int32).toInt ≤ 1 by decide), (by have zl0 : (0 : Int32).toInt = 0 := (by decide); have zl1 : (1 : Int32).toInt = 1 := (by decide); omega), (fun q => absurd q (by decide)), (by have zl4 : (4 : Int32).toInt = 4 := (by decide); omega), (by have zl4 : (4 : Int32).toInt = 4 := (by decide); omega), rfl⟩
    · have dc83 : r5.toInt = 0 := eq_i (a := r5.toInt) (b := 0) rfl rfl c83
      have k153 : 0 ≤ r5.toInt ∧ r5.toInt ≤ 0 := ⟨t6.1, Int.le_trans (Int.le_of_eq dc83) (Int.le_refl _)⟩
      refine lv_iload_n hx hb dX10_operand_28 rfl (lv_at hl 0 rfl) ?_
      refine lv_if_ge (tgt := 38) hx hb dX10_operand_29 (by decide) (fun c154 => ?_) (fun c154 => ?_)
      · have dc154 : 0 ≤ r9.toInt := le_i (a := 0) (b := r9.toInt) rfl rfl c154
        have k155 : 0 ≤ r9.toInt ∧ r9.toInt ≤ 6 := ⟨Int.le_trans (Int.le_refl _) dc154, t10.2⟩
        refine lv_aload_n hx hb dX10_operand_38 rfl (lv_at hl 3 rfl) ?_
        refine get_f (D := D) (ci := 10) (v := .int x_ones) (C := RX10) (T := TX10) (N := 67) hx hb hw inAX10 hown hK hP 6 rfl rfl 59 (by decide) (hw _ q_1320) (fun _ h9 => h9) e_ones dX10_operand_39 ?_
        refine lv_bipush (v := 20) hx hb dX10_operand_42 (by decide) ?_
        refine lv_icmp_eq (tgt := 56) hx hb dX10_operand_44 (by decide) (fun c156 => ?_) (fun c156 => ?_)
        · have dc156 : x_ones.toInt = 20 := eq_i (a := x_ones.toInt) (b := 20) rfl rfl c156
          have k157 : 20 ≤ x_ones.toInt ∧ x_ones.toInt ≤ 20 := ⟨Int.le_trans (Int.le_refl _) (Int.le_of_eq dc156.symm), i_x_ones.2⟩
          refine lv_aload_n hx hb dX10_operand_56 rfl (lv_at hl 3 rfl) ?_
          refine lv_iconst (v := 4) hx hb dX10_operand_57 (by decide) ?_
          refine call_Vi (wr := [(h_tape, .inl (cB, 940, .inl f_tape)), (h_s, .inl (cI, 335, .inl f_s)), (h_read, .inl (cI, 135, .inl f_read)), (h_names, .inl (cJ, 36, .inr (.inl f_names))), (h_reserved, .inl (cJ, 23, .inr (.inl f_reserved))), (h_stack, .inl (cI, 45, .inl f_stack))]) (As := [.int 4]) (rest := []) hx hb hml hown hw (m_X10_bad l D cI cJ cB cP cM cZ h0 Fh x_at 4 _ e_at) wV_X10_205_X10_bad dX10_operand_58 hK hP hD hS hA [6] [0, 1, 2, 3, 4, 5] rfl rfl (by decide) (by decide) (by decide) 0 10 rfl rfl GG.fb hG.at hl.1 rfl (Nat.le_of_ble_eq_true rfl) ⟨(Nat.le_of_ble_eq_true rfl), (Nat.le_of_ble_eq_true rfl)⟩ ⟨(Nat.le_of_ble_eq_true rfl), (Nat.le_of_ble_eq_true rfl)⟩ (fun r158 u H locs hp hP hD hS => ?_)
          have zl4 : (4 : Int32).toInt = 4 := by decide
          obtain ⟨F159, t160, t161, t162, rfl, rfl⟩ := hp
          have hP : va_P D vwCl [(h_tape, .inl (cB, 940, .inl f_tape)), (h_s, .inl (cI, 335, .inl f_s)), (h_read, .inl (cI, 135, .inl f_read)), (h_names, .inl (cJ, 36, .inr (.inl f_names))), (h_reserved, .inl (cJ, 23, .inr (.inl f_reserved))), (h_stack, .inl (cI, 45, .inl f_stack)), (h0, .inr (10, vL 67 F159))] H := hP
          have hD : va_D A [(h_tape, .inl (cB, 940, .inl f_tape)), (h_s, .inl (cI, 335, .inl f_s)), (h_read, .inl (cI, 135, .inl f_read)), (h_names, .inl (cJ, 36, .inr (.inl f_names))), (h_reserved, .inl (cJ, 23, .inr (.inl f_reserved))), (h_stack, .inl (cI, 45, .inl f_stack)), (h0, .inr (10, vL 67 F159))] := hD
          refine W.widen (k := 0) (n := 0) (Nat.le_of_ble_eq_true rfl) (Nat.le_of_ble_eq_true rfl) ?_
          exact ret_i (v := 0) hx hb hr hlocks hS (hP.sub (ws' := [(h0, .inr (10, vL 67 F159)), (h_tape, .inl (cB, 940, .inl f_tape)), (h_s, .inl (cI, 335, .inl f_s)), (h_read, .inl (cI, 135, .inl f_read)), (h_names, .inl (cJ, 36, .inr (.inl f_names))), (h_reserved, .inl (cJ, 23, .inr (.inl f_reserved))), (h_stack, .inl (cI, 45, .inl f_stack))]) [6, 0, 1, 2, 3, 4, 5] rfl) (hD.sub (ws' := [(h0, .inr (10, vL 67 F159)), (h_tape, .inl (cB, 940, .inl f_tape)), (h_s, .inl (cI, 335, .inl f_s)), (h_read, .inl (cI, 135, .inl f_read)), (h_names, .inl (cJ, 36, .inr (.inl f_names))), (h_reserved, .inl (cJ, 23, .inr (.inl f_reserved))), (h_stack, .inl (cI, 45, .inl f_stack))]) [6, 0, 1, 2, 3, 4, 5] (by decide) rfl) dX10_operand_61 rfl (Nat.le_of_ble_eq_true rfl) (Nat.le_of_ble_eq_true rfl) ⟨F159, x_p, x_token, x_at, x_span, x_number, 4, x_at, x_word, x_codes, x_ones, x_top, x_deep, x_isWhole, f_read, f_stack, (SAME.tr SAME.rf t160 (by decide)), (SAME.at t160 (by decide) e_p), i_x_p, (SAME.at t160 (by decide) e_token), i_x_token, (SAME.at t160 (by decide) e_at), (SAME.at t160 (by decide) e_span), (SAME.at t160 (by decide) e_number), t161, t162, (SAME.at t160 (by decide) e_word), (SAME.at t160 (by decide) e_codes), i_x_codes, (SAME.at t160 (by decide) e_ones), (ir_wk k157 (by decide) (by decide)), (SAME.at t160 (by decide) e_top), i_x_top, (SAME.at t160 (by decide) e_deep), (SAME.at t160 (by decide) e_isWhole), i_x_isWhole, (show 0 ≤ (0 : Int32).toInt ∧ (0 : Int32).toInt ≤ 1 by decide), (by have zl0 : (0 : Int32).toInt = 0 := (by decide); have zl1 : (1 : Int32).toInt = 1 := (by decide); omega), (fun q => absurd q (by decide)), (by have zl4 : (4 : Int32).toInt = 4 := (by decide); omega), (by have zl4 : (4 : Int32).toInt = 4 := (by decide); omega), rfl⟩
        · have dc156 : x_ones.toInt ≠ 20 := ne_i (a := x_ones.toInt) (b := 20) rfl rfl c156
          have k164 : 0 ≤ x_ones.toInt ∧ x_ones.toInt ≤ 19 := ⟨i_x_ones.1, ne_hi dc156 i_x_ones.2 ⟨Int.le_refl _, Int.le_refl _⟩ (by decide)⟩
          refine lv_aload_n hx hb dX10_operand_47 rfl (lv_at hl 3 rfl) ?_
          refine get_f (D := D) (ci := 10) (v := .int x_deep) (C := RX10) (T := TX10) (N := 67) hx hb hw inAX10 hown hK hP 6 rfl rfl 61 (by decide) (hw _ q_1322) (fun _ h9 => h9) e_deep dX10_operand_48 ?_
          refine lv_bipush (v := 8) hx hb dX10_operand_51 (by decide) ?_
          refine lv_icmp_le (tgt := 62) hx hb dX10_operand_53 (by decide) (fun c165 => ?_) (fun c165 => ?_)
          · have dc165 : x_deep.toInt ≤ 8 := le_i (a := x_deep.toInt) (b := 8) rfl rfl c165
            have k166 : (-2147483648) ≤ x_deep.toInt ∧ x_deep.toInt ≤ 8 := ⟨(ir_any _).1, Int.le_trans dc165 (Int.le_refl _)⟩
            refine lv_aload_n hx hb dX10_operand_62 rfl (lv_at hl 3 rfl) ?_
            refine lv_dup hx hb dX10_operand_63 rfl ?_
            refine get_f (D := D) (ci := 10) (v := .int x_ones) (C := RX10) (T := TX10) (N := 67) hx hb hw inAX10 hown hK hP 6 rfl rfl 59 (by decide) (hw _ q_1320) (fun _ h9 => h9) e_ones dX10_operand_64 ?_
            refine lv_iconst (v := 1) hx hb dX10_operand_67 (by decide) ?_
            refine lv_iadd hx hb dX10_operand_68 ?_
            refine lv_topi (fun v167 ev167 => ?_)
            have bv167 : v167.toInt = x_ones.toInt + 1 := by rw [ev167]; exact add_k rfl rfl k164 ⟨Int.le_refl _, Int.le_refl _⟩ (by decide)
            have k168 : 1 ≤ v167.toInt ∧ v167.toInt ≤ 20 := add_r bv167 k164 ⟨Int.le_refl _, Int.le_refl _⟩ (by decide)
            refine put_f (D := D) (ci := 10) (v := .int v167) (ty := .int) (C := RX10) (T := TX10) (N := 67) hx hb hw inAX10 tyX10 tyX10_ok nmX10 hown hK hP hD hS 6 rfl rfl 59 (by decide) (hw _ q_1320) (fun _ h9 => h9) rfl (by decide +kernel) rfl rfl dX10_operand_69 (fun H locs F169 eF169 hP hD hS => ?_)
            have hP : va_P D vwCl [(h_tape, .inl (cB, 940, .inl f_tape)), (h_s, .inl (cI, 335, .inl f_s)), (h_read, .inl (cI, 135, .inl f_read)), (h_names, .inl (cJ, 36, .inr (.inl f_names))), (h_reserved, .inl (cJ, 23, .inr (.inl f_reserved))), (h_stack, .inl (cI, 45, .inl f_stack)), (h0, .inr (10, vL 67 F169))] H := hP
            have hD : va_D A [(h_tape, .inl (cB, 940, .inl f_tape)), (h_s, .inl (cI, 335, .inl f_s)), (h_read, .inl (cI, 135, .inl f_read)), (h_names, .inl (cJ, 36, .inr (.inl f_names))), (h_reserved, .inl (cJ, 23, .inr (.inl f_reserved))), (h_stack, .inl (cI, 45, .inl f_stack)), (h0, .inr (10, vL 67 F169))] := hD
            refine lv_aload_n hx hb dX10_operand_72 rfl (lv_at hl 3 rfl) ?_
            have n170 : F169 1 = .ref h_tape := (get_ne eF169 (by decide) e_tape)
            have n171 : F169 3 = .int x_size := (get_ne eF169 (by decide) e_size)
            have n172 : F169 4 = .int x_p := (get_ne eF169 (by decide) e_p)
            have n173 : F169 5 = .int x_limit := (get_ne eF169 (by decide) e_limit)
            have n174 : F169 11 = .int x_token := (get_ne eF169 (by decide) e_token)
            have n175 : F169 14 = .int x_number := (get_ne eF169 (by decide) e_number)
            have n176 : F169 18 = .long x_word := (get_ne eF169 (by decide) e_word)
            refine call_Vv (wr := [(h_s, .inl (cI, 335, .inl f_s)), (h_read, .inl (cI, 135, .inl f_read)), (h_names, .inl (cJ, 36, .inr (.inl f_names))), (h_reserved, .inl (cJ, 23, .inr (.inl f_reserved))), (h_stack, .inl (cI, 45, .inl f_stack))]) (As := []) (rest := []) hx hb hml hown hw (m_X10_next l D cI cJ cB cP cM cZ h0 h_tape F169 x_size x_p x_limit x_token x_number x_word f_tape _ n170 n171 i_x_size n172 i_x_p n173 i_x_limit n174 i_x_token n175 n176 (by omega)) wV_X10_208_X10_next dX10_operand_73 hK hP hD hS hA [6, 0] [1, 2, 3, 4, 5] rfl rfl (by decide) (by decide) (by decide) 0 10 rfl rfl GG.fb hG.at hl.1 rfl (Nat.le_of_ble_eq_true rfl) ⟨(Nat.le_of_ble_eq_true rfl), (Nat.le_of_ble_eq_true rfl)⟩ ⟨(Nat.le_of_ble_eq_true rfl), (Nat.le_of_ble_eq_true rfl)⟩ (fun u H locs hp hP hD hS => ?_)
            obtain ⟨F178, y179, y180, y181, y182, y183, y184, t185, t186, t187, t188, t189, t190, t191, t192, t193, t194, t195, t196, t197, t198, rfl⟩ := hp
            have hP : va_P D vwCl [(h_s, .inl (cI, 335, .inl f_s)), (h_read, .inl (cI, 135, .inl f_read)), (h_names, .inl (cJ, 36, .inr (.inl f_names))), (h_reserved, .inl (cJ, 23, .inr (.inl f_reserved))), (h_stack, .inl (cI, 45, .inl f_stack)), (h0, .inr (10, vL 67 F178)), (h_tape, .inl (cB, 940, .inl f_tape))] H := hP
            have hD : va_D A [(h_s, .inl (cI, 335, .inl f_s)), (h_read, .inl (cI, 135, .inl f_read)), (h_names, .inl (cJ, 36, .inr (.inl f_names))), (h_reserved, .inl (cJ, 23, .inr (.inl f_reserved))), (h_stack, .inl (cI, 45, .inl f_stack)), (h0, .inr (10, vL 67 F178)), (h_tape, .inl (cB, 940, .inl f_tape))] := hD
            refine W.widen (k := 0) (n := 0) (Nat.le_of_ble_eq_true rfl) (Nat.le_of_ble_eq_true rfl) ?_
            refine lv_iload_n hx hb dX10_operand_76 rfl (lv_at hl 2 rfl) ?_
            refine lv_if_ne (tgt := 84) hx hb dX10_operand_77 (by decide) (fun c200 => False.elim (bad_ne (ne_i (a := r1.toInt) (b := 0) rfl rfl c200) k82 ⟨Int.le_refl _, Int.le_refl _⟩ (by decide))) (fun c200 => ?_)
            have dc200 : r1.toInt = 0 := eq_i (a := r1.toInt) (b := 0) rfl rfl c200
            refine lv_iload_n hx hb dX10_operand_80 rfl (lv_at hl 1 rfl) ?_
            refine lv_if_eq (tgt := 126) hx hb dX10_operand_81 (by decide) (fun c201 => ?_) (fun c201 => False.elim (bad_ne (ne_i (a := r5.toInt) (b := 0) rfl rfl c201) k153 ⟨Int.le_refl _, Int.le_refl _⟩ (by decide)))
            have dc201 : r5.toInt = 0 := eq_i (a := r5.toInt) (b := 0) rfl rfl c201
            refine lv_aload_n hx hb dX10_operand_126 rfl (lv_at hl 3 rfl) ?_
            refine lv_iconst (v := 1) hx hb dX10_operand_127 (by decide) ?_
            refine put_f (D := D) (ci := 10) (v := .int 1) (ty := .boolean) (C := RX10) (T := TX10) (N := 67) hx hb hw inAX10 tyX10 tyX10_ok nmX10 hown hK hP hD hS 5 rfl rfl 62 (by decide) (hw _ q_1323) (fun _ h9 => h9) rfl (by decide +kernel) rfl rfl dX10_operand_128 (fun H locs F202 eF202 hP hD hS => ?_)
            have hP : va_P D vwCl [(h_s, .inl (cI, 335, .inl f_s)), (h_read, .inl (cI, 135, .inl f_read)), (h_names, .inl (cJ, 36, .inr (.inl f_names))), (h_reserved, .inl (cJ, 23, .inr (.inl f_reserved))), (h_stack, .inl (cI, 45, .inl f_stack)), (h0, .inr (10, vL 67 F202)), (h_tape, .inl (cB, 940, .inl f_tape))] H := hP
            have hD : va_D A [(h_s, .inl (cI, 335, .inl f_s)), (h_read, .inl (cI, 135, .inl f_read)), (h_names, .inl (cJ, 36, .inr (.inl f_names))), (h_reserved, .inl (cJ, 23, .inr (.inl f_reserved))), (h_stack, .inl (cI, 45, .inl f_stack)), (h0, .inr (10, vL 67 F202)), (h_tape, .inl (cB, 940, .inl f_tape))] := hD
            refine lv_iload_n hx hb dX10_operand_131 rfl (lv_at hl 0 rfl) ?_
            refine lv_iconst (v := 2) hx hb dX10_operand_132 (by decide) ?_
            refine lv_icmp_ge (tgt := 145) hx hb dX10_operand_133 (by decide) (fun c203 => ?_) (fun c203 => ?_)
            · have dc203 : 2 ≤ r9.toInt := le_i (a := 2) (b := r9.toInt) rfl rfl c203
              have k204 : 2 ≤ r9.toInt ∧ r9.toInt ≤ 6 := ⟨Int.le_trans (Int.le_refl _) dc203, k155.2⟩
              refine lv_iload_n hx hb dX10_operand_145 rfl (lv_at hl 0 rfl) ?_
              refine lv_iconst (v := 2) hx hb dX10_operand_146 (by decide) ?_
              refine lv_icmp_ne (tgt := 201) hx hb dX10_operand_147 (by decide) (fun c205 => ?_) (fun c205 => ?_)
              · have dc205 : r9.toInt ≠ 2 := ne_i (a := r9.toInt) (b := 2) rfl rfl c205
                have k206 : 3 ≤ r9.toInt ∧ r9.toInt ≤ 6 := ⟨ne_lo dc205 k204.1 ⟨Int.le_refl _, Int.le_refl _⟩ (by decide), k204.2⟩
                refine lv_aload_n hx hb dX10_operand_201 rfl (lv_at hl 3 rfl) ?_
                have n207 : F202 11 = .int y180 := (get_ne eF202 (by decide) t188)
                refine get_f (D := D) (ci := 10) (v := .int y180) (C := RX10) (T := TX10) (N := 67) hx hb hw inAX10 hown hK hP 5 rfl rfl 11 (by decide) (hw _ q_1272) (fun _ h9 => h9) n207 dX10_operand_202 ?_
                refine lv_iconst (v := 3) hx hb dX10_operand_205 (by decide) ?_
                refine lv_icmp_ne (tgt := 227) hx hb dX10_operand_206 (by decide) (fun c208 => ?_) (fun c208 => ?_)
                · have dc208 : y180.toInt ≠ 3 := ne_i (a := y180.toInt) (b := 3) rfl rfl c208
                  refine lv_aload_n hx hb dX10_operand_227 rfl (lv_at hl 3 rfl) ?_
                  refine lv_iconst (v := 1) hx hb dX10_operand_228 (by decide) ?_
                  have n209 : F202 12 = .int y181 := (get_ne eF202 (by decide) t190)
                  refine call_Vi (wr := [(h_s, .inl (cI, 335, .inl f_s)), (h_read, .inl (cI, 135, .inl f_read)), (h_names, .inl (cJ, 36, .inr (.inl f_names))), (h_reserved, .inl (cJ, 23, .inr (.inl f_reserved))), (h_stack, .inl (cI, 45, .inl f_stack)), (h_tape, .inl (cB, 940, .inl f_tape))]) (As := [.int 1]) (rest := []) hx hb hml hown hw (m_X10_bad l D cI cJ cB cP cM cZ h0 F202 y181 1 _ n209) wV_X10_205_X10_bad dX10_operand_229 hK hP hD hS hA [5] [0, 1, 2, 3, 4, 6] rfl rfl (by decide) (by decide) (by decide) 0 10 rfl rfl GG.fb hG.at hl.1 rfl (Nat.le_of_ble_eq_true rfl) ⟨(Nat.le_of_ble_eq_true rfl), (Nat.le_of_ble_eq_true rfl)⟩ ⟨(Nat.le_of_ble_eq_true rfl), (Nat.le_of_ble_eq_true rfl)⟩ (fun r210 u H locs hp hP hD hS => ?_)
                  have zl1 : (1 : Int32).toInt = 1 := by decide
                  obtain ⟨F211, t212, t213, t214, rfl, rfl⟩ := hp
                  have hP : va_P D vwCl [(h_s, .inl (cI, 335, .inl f_s)), (h_read, .inl (cI, 135, .inl f_read)), (h_names, .inl (cJ, 36, .inr (.inl f_names))), (h_reserved, .inl (cJ, 23, .inr (.inl f_reserved))), (h_stack, .inl (cI, 45, .inl f_stack)), (h_tape, .inl (cB, 940, .inl f_tape)), (h0, .inr (10, vL 67 F211))] H := hP
                  have hD : va_D A [(h_s, .inl (cI, 335, .inl f_s)), (h_read, .inl (cI, 135, .inl f_read)), (h_names, .inl (cJ, 36, .inr (.inl f_names))), (h_reserved, .inl (cJ, 23, .inr (.inl f_reserved))), (h_stack, .inl (cI, 45, .inl f_stack)), (h_tape, .inl (cB, 940, .inl f_tape)), (h0, .inr (10, vL 67 F211))] := hD
                  refine W.widen (k := 0) (n := 0) (Nat.le_of_ble_eq_true rfl) (Nat.le_of_ble_eq_true rfl) ?_
                  exact ret_i (v := 0) hx hb hr hlocks hS (hP.sub (ws' := [(h0, .inr (10, vL 67 F211)), (h_tape, .inl (cB, 940, .inl f_tape)), (h_s, .inl (cI, 335, .inl f_s)), (h_read, .inl (cI, 135, .inl f_read)), (h_names, .inl (cJ, 36, .inr (.inl f_names))), (h_reserved, .inl (cJ, 23, .inr (.inl f_reserved))), (h_stack, .inl (cI, 45, .inl f_stack))]) [6, 5, 0, 1, 2, 3, 4] rfl) (hD.sub (ws' := [(h0, .inr (10, vL 67 F211)), (h_tape, .inl (cB, 940, .inl f_tape)), (h_s, .inl (cI, 335, .inl f_s)), (h_read, .inl (cI, 135, .inl f_read)), (h_names, .inl (cJ, 36, .inr (.inl f_names))), (h_reserved, .inl (cJ, 23, .inr (.inl f_reserved))), (h_stack, .inl (cI, 45, .inl f_stack))]) [6, 5, 0, 1, 2, 3, 4] (by decide) rfl) dX10_operand_232 rfl (Nat.le_of_ble_eq_true rfl) (Nat.le_of_ble_eq_true rfl) ⟨F211, y179, y180, y181, y182, y183, 1, y181, y184, x_codes, v167, x_top, x_deep, 1, f_read, f_stack, (SAME.tr (SAME.up eF202 (SAME.tr (SAME.up eF169 SAME.rf (by decide)) t185 (by decide)) (by decide)) t212 (by decide)), (SAME.at t212 (by decide) (get_ne eF202 (by decide) t186)), t187, (SAME.at t212 (by decide) n207), t189, (SAME.at t212 (by decide) n209), (SAME.at t212 (by decide) (get_ne eF202 (by decide) t192)), (SAME.at t212 (by decide) (get_ne eF202 (by decide) t194)), t213, t214, (SAME.at t212 (by decide) (get_ne eF202 (by decide) t195)), (SAME.at t212 (by decide) (get_ne eF202 (by decide) (SAME.at t185 (by decide) (get_ne eF169 (by decide) e_codes)))), i_x_codes, (SAME.at t212 (by decide) (get_ne eF202 (by decide) (SAME.at t185 (by decide) (get_eq eF169)))), (ir_wk k168 (by decide) (by decide)), (SAME.at t212 (by decide) (get_ne eF202 (by decide) (SAME.at t185 (by decide) (get_ne eF169 (by decide) e_top)))), i_x_top, (SAME.at t212 (by decide) (get_ne eF202 (by decide) (SAME.at t185 (by decide) (get_ne eF169 (by decide) e_deep)))), (SAME.at t212 (by decide) (get_eq eF202)), (show 0 ≤ (1 : Int32).toInt ∧ (1 : Int32).toInt ≤ 1 by decide), (show 0 ≤ (0 : Int32).toInt ∧ (0 : Int32).toInt ≤ 1 by decide), (by have zl0 : (0 : Int32).toInt = 0 := (by decide); have zl1 : (1 : Int32).toInt = 1 := (by decide); omega), (fun q => absurd q (by decide)), (by have zl1 : (1 : Int32).toInt = 1 := (by decide); omega), (by have zl1 : (1 : Int32).toInt = 1 := (by decide); omega), rfl⟩
                · have dc208 : y180.toInt = 3 := eq_i (a := y180.toInt) (b := 3) rfl rfl c208
                  have k216 : 3 ≤ y180.toInt ∧ y180.toInt ≤ 3 := ⟨Int.le_trans (Int.le_refl _) (Int.le_of_eq dc208.symm), Int.le_trans (Int.le_of_eq dc208) (Int.le_refl _)⟩
                  refine lv_aload_n hx hb dX10_operand_209 rfl (lv_at hl 3 rfl) ?_
                  have n217 : F202 14 = .int y183 := (get_ne eF202 (by decide) t194)
                  refine get_f (D := D) (ci := 10) (v := .int y183) (C := RX10) (T := TX10) (N := 67) hx hb hw inAX10 hown hK hP 5 rfl rfl 14 (by decide) (hw _ q_1275) (fun _ h9 => h9) n217 dX10_operand_210 ?_
                  refine lv_bipush (v := 60) hx hb dX10_operand_213 (by decide) ?_
                  refine lv_icmp_lt (tgt := 227) hx hb dX10_operand_215 (by decide) (fun c218 => ?_) (fun c218 => ?_)
                  · have dc218 : y183.toInt < 60 := lt_i (a := y183.toInt) (b := 60) rfl rfl c218
                    have k219 : (-2147483648) ≤ y183.toInt ∧ y183.toInt ≤ 59 := ⟨(ir_any _).1, up_lt dc218 (Int.le_refl _) (by decide)⟩
                    refine lv_aload_n hx hb dX10_operand_227 rfl (lv_at hl 3 rfl) ?_
                    refine lv_iconst (v := 1) hx hb dX10_operand_228 (by decide) ?_
                    have n220 : F202 12 = .int y181 := (get_ne eF202 (by decide) t190)
                    refine call_Vi (wr := [(h_s, .inl (cI, 335, .inl f_s)), (h_read, .inl (cI, 135, .inl f_read)), (h_names, .inl (cJ, 36, .inr (.inl f_names))), (h_reserved, .inl (cJ, 23, .inr (.inl f_reserved))), (h_stack, .inl (cI, 45, .inl f_stack)), (h_tape, .inl (cB, 940, .inl f_tape))]) (As := [.int 1]) (rest := []) hx hb hml hown hw (m_X10_bad l D cI cJ cB cP cM cZ h0 F202 y181 1 _ n220) wV_X10_205_X10_bad dX10_operand_229 hK hP hD hS hA [5] [0, 1, 2, 3, 4, 6] rfl rfl (by decide) (by decide) (by decide) 0 10 rfl rfl GG.fb hG.at hl.1 rfl (Nat.le_of_ble_eq_true rfl) ⟨(Nat.le_of_ble_eq_true rfl), (Nat.le_of_ble_eq_true rfl)⟩ ⟨(Nat.le_of_ble_eq_true rfl), (Nat.le_of_ble_eq_true rfl)⟩ (fun r221 u H locs hp hP hD hS => ?_)
                    have zl1 : (1 : Int32).toInt = 1 := by decide
                    obtain ⟨F222, t223, t224, t225, rfl, rfl⟩ := hp
                    have hP : va_P D vwCl [(h_s, .inl (cI, 335, .inl f_s)), (h_read, .inl (cI, 135, .inl f_read)), (h_names, .inl (cJ, 36, .inr (.inl f_names))), (h_reserved, .inl (cJ, 23, .inr (.inl f_reserved))), (h_stack, .inl (cI, 45, .inl f_stack)), (h_tape, .inl (cB, 940, .inl f_tape)), (h0, .inr (10, vL 67 F222))] H := hP
                    have hD : va_D A [(h_s, .inl (cI, 335, .inl f_s)), (h_read, .inl (cI, 135, .inl f_read)), (h_names, .inl (cJ, 36, .inr (.inl f_names))), (h_reserved, .inl (cJ, 23, .inr (.inl f_reserved))), (h_stack, .inl (cI, 45, .inl f_stack)), (h_tape, .inl (cB, 940, .inl f_tape)), (h0, .inr (10, vL 67 F222))] := hD
                    refine W.widen (k := 0) (n := 0) (Nat.le_of_ble_eq_true rfl) (Nat.le_of_ble_eq_true rfl) ?_
                    exact ret_i (v := 0) hx hb hr hlocks hS (hP.sub (ws' := [(h0, .inr (10, vL 67 F222)), (h_tape, .inl (cB, 940, .inl f_tape)), (h_s, .inl (cI, 335, .inl f_s)), (h_read, .inl (cI, 135, .inl f_read)), (h_names, .inl (cJ, 36, .inr (.inl f_names))), (h_reserved, .inl (cJ, 23, .inr (.inl f_reserved))), (h_stack, .inl (cI, 45, .inl f_stack))]) [6, 5, 0, 1, 2, 3, 4] rfl) (hD.sub (ws' := [(h0, .inr (10, vL 67 F222)), (h_tape, .inl (cB, 940, .inl f_tape)), (h_s, .inl (cI, 335, .inl f_s)), (h_read, .inl (cI, 135, .inl f_read)), (h_names, .inl (cJ, 36, .inr (.inl f_names))), (h_reserved, .inl (cJ, 23, .inr (.inl f_reserved))), (h_stack, .inl (cI, 45, .inl f_stack))]) [6, 5, 0, 1, 2, 3, 4] (by decide) rfl) dX10_operand_232 rfl (Nat.le_of_ble_eq_true rfl) (Nat.le_of_ble_eq_true rfl) ⟨F222, y179, y180, y181, y182, y183, 1, y181, y184, x_codes, v167, x_top, x_deep, 1, f_read, f_stack, (SAME.tr (SAME.up eF202 (SAME.tr (SAME.up eF169 SAME.rf (by decide)) t185 (by decide)) (by decide)) t223 (by decide)), (SAME.at t223 (by decide) (get_ne eF202 (by decide) t186)), t187, (SAME.at t223 (by decide) n207), (ir_wk k216 (by decide) (by decide)), (SAME.at t223 (by decide) n220), (SAME.at t223 (by decide) (get_ne eF202 (by decide) t192)), (SAME.at t223 (by decide) n217), t224, t225, (SAME.at t223 (by decide) (get_ne eF202 (by decide) t195)), (SAME.at t223 (by decide) (get_ne eF202 (by decide) (SAME.at t185 (by decide) (get_ne eF169 (by decide) e_codes)))), i_x_codes, (SAME.at t223 (by decide) (get_ne eF202 (by decide) (SAME.at t185 (by decide) (get_eq eF169)))), (ir_wk k168 (by decide) (by decide)), (SAME.at t223 (by decide) (get_ne eF202 (by decide) (SAME.at t185 (by decide) (get_ne eF169 (by decide) e_top)))), i_x_top, (SAME.at t223 (by decide) (get_ne eF202 (by decide) (SAME.at t185 (by decide) (get_ne eF169 (by decide) e_deep)))), (SAME.at t223 (by decide) (get_eq eF202)), (show 0 ≤ (1 : Int32).toInt ∧ (1 : Int32).toInt ≤ 1 by decide), (show 0 ≤ (0 : Int32).toInt ∧ (0 : Int32).toInt ≤ 1 by decide), (by have zl0 : (0 : Int32).toInt = 0 := (by decide); have zl1 : (1 : Int32).toInt = 1 := (by decide); omega), (fun q => absurd q (by decide)), (by have zl1 : (1 : Int32).toInt = 1 := (by decide); omega), (by have zl1 : (1 : Int32).toInt = 1 := (by decide); omega), rfl⟩
                  · have dc218 : 60 ≤ y183.toInt := nlt_i (a := y183.toInt) (b := 60) rfl rfl c218
                    have k227 : 60 ≤ y183.toInt ∧ y183.toInt ≤ 2147483647 := ⟨Int.le_trans (Int.le_refl _) dc218, (ir_any _).2⟩
                    refine lv_aload_n hx hb dX10_operand_218 rfl (lv_at hl 3 rfl) ?_
                    refine get_f (D := D) (ci := 10) (v := .int y183) (C := RX10) (T := TX10) (N := 67) hx hb hw inAX10 hown hK hP 5 rfl rfl 14 (by decide) (hw _ q_1275) (fun _ h9 => h9) n217 dX10_operand_219 ?_
                    refine lv_bipush (v := 62) hx hb dX10_operand_222 (by decide) ?_
                    refine lv_icmp_le (tgt := 233) hx hb dX10_operand_224 (by decide) (fun c228 => ?_) (fun c228 => ?_)
                    · have dc228 : y183.toInt ≤ 62 := le_i (a := y183.toInt) (b := 62) rfl rfl c228
                      have k229 : 60 ≤ y183.toInt ∧ y183.toInt ≤ 62 := ⟨k227.1, Int.le_trans dc228 (Int.le_refl _)⟩
                      refine lv_aload_n hx hb dX10_operand_233 rfl (lv_at hl 3 rfl) ?_
                      refine get_f (D := D) (ci := 10) (v := .int y183) (C := RX10) (T := TX10) (N := 67) hx hb hw inAX10 hown hK hP 5 rfl rfl 14 (by decide) (hw _ q_1275) (fun _ h9 => h9) n217 dX10_operand_234 ?_
                      refine lv_istore (lv' := [(4, .int y183), (3, .int r9), (2, .int r5), (1, .int r1), (0, .ref h0)]) hx hb dX10_operand_237 hl (by decide) rfl (fun ls hl => ?_)
                      refine lv_aload_n hx hb dX10_operand_239 rfl (lv_at hl 4 rfl) ?_
                      have n230 : F178 1 = .ref h_tape := (SAME.at t185 (by decide) n170)
                      have n231 : F202 1 = .ref h_tape := (get_ne eF202 (by decide) n230)
                      have n232 : F178 3 = .int x_size := (SAME.at t185 (by decide) n171)
                      have n233 : F202 3 = .int x_size := (get_ne eF202 (by decide) n232)
                      have n234 : F202 4 = .int y179 := (get_ne eF202 (by decide) t186)
                      have n235 : F178 5 = .int x_limit := (SAME.at t185 (by decide) n173)
                      have n236 : F202 5 = .int x_limit := (get_ne eF202 (by decide) n235)
                      have n237 : F202 18 = .long y184 := (get_ne eF202 (by decide) t195)
                      refine call_Vv (wr := [(h_s, .inl (cI, 335, .inl f_s)), (h_read, .inl (cI, 135, .inl f_read)), (h_names, .inl (cJ, 36, .inr (.inl f_names))), (h_reserved, .inl (cJ, 23, .inr (.inl f_reserved))), (h_stack, .inl (cI, 45, .inl f_stack))]) (As := []) (rest := []) hx hb hml hown hw (m_X10_next l D cI cJ cB cP cM cZ h0 h_tape F202 x_size y179 x_limit y180 y183 y184 f_tape _ n231 n233 i_x_size n234 t187 n236 i_x_limit n207 (ir_wk k216 (by decide) (by decide)) n217 n237 (by omega)) wV_X10_208_X10_next dX10_operand_240 hK hP hD hS hA [5, 6] [0, 1, 2, 3, 4] rfl rfl (by decide) (by decide) (by decide) 0 10 rfl rfl GG.fb hG.at hl.1 rfl (Nat.le_of_ble_eq_true rfl) ⟨(Nat.le_of_ble_eq_true rfl), (Nat.le_of_ble_eq_true rfl)⟩ ⟨(Nat.le_of_ble_eq_true rfl), (Nat.le_of_ble_eq_true rfl)⟩ (fun u H locs hp hP hD hS => ?_)
                      obtain ⟨F239, y240, y241, y242, y243, y244, y245, t246, t247, t248, t249, t250, t251, t252, t253, t254, t255, t256, t257, t258, t259, rfl⟩ := hp
                      clear t197 t198
                      have hP : va_P D vwCl [(h_s, .inl (cI, 335, .inl f_s)), (h_read, .inl (cI, 135, .inl f_read)), (h_names, .inl (cJ, 36, .inr (.inl f_names))), (h_reserved, .inl (cJ, 23, .inr (.inl f_reserved))), (h_stack, .inl (cI, 45, .inl f_stack)), (h0, .inr (10, vL 67 F239)), (h_tape, .inl (cB, 940, .inl f_tape))] H := hP
                      have hD : va_D A [(h_s, .inl (cI, 335, .inl f_s)), (h_read, .inl (cI, 135, .inl f_read)), (h_names, .inl (cJ, 36, .inr (.inl f_names))), (h_reserved, .inl (cJ, 23, .inr (.inl f_reserved))), (h_stack, .inl (cI, 45, .inl f_stack)), (h0, .inr (10, vL 67 F239)), (h_tape, .inl (cB, 940, .inl f_tape))] := hD
                      refine W.widen (k := 0) (n := 0) (Nat.le_of_ble_eq_true rfl) (Nat.le_of_ble_eq_true rfl) ?_
                      refine lv_aload_n hx hb dX10_operand_243 rfl (lv_at hl 4 rfl) ?_
                      refine get_f (D := D) (ci := 10) (v := .int y241) (C := RX10) (T := TX10) (N := 67) hx hb hw inAX10 hown hK hP 5 rfl rfl 11 (by decide) (hw _ q_1272) (fun _ h9 => h9) t249 dX10_operand_244 ?_
                      refine lv_iconst (v := 2) hx hb dX10_operand_247 (by decide) ?_
                      refine lv_icmp_eq (tgt := 257) hx hb dX10_operand_248 (by decide) (fun c261 => ?_) (fun c261 => ?_)
                      · have dc261 : y241.toInt = 2 := eq_i (a := y241.toInt) (b := 2) rfl rfl c261
                        have k262 : 2 ≤ y241.toInt ∧ y241.toInt ≤ 2 := ⟨Int.le_trans (Int.le_refl _) (Int.le_of_eq dc261.symm), Int.le_trans (Int.le_of_eq dc261) (Int.le_refl _)⟩
                        refine lv_aload_n hx hb dX10_operand_257 rfl (lv_at hl 4 rfl) ?_
                        refine lv_iload_n hx hb dX10_operand_258 rfl (lv_at hl 1 rfl) ?_
                        refine lv_iload hx hb dX10_operand_259 (lv_at hl 0 rfl) ?_
                        refine lv_aload_n hx hb dX10_operand_261 rfl (lv_at hl 4 rfl) ?_
                        refine get_f (D := D) (ci := 10) (v := .int y244) (C := RX10) (T := TX10) (N := 67) hx hb hw inAX10 hown hK hP 5 rfl rfl 14 (by decide) (hw _ q_1275) (fun _ h9 => h9) t255 dX10_operand_262 ?_
                        have n263 : F169 8 = .ref h_read := (get_ne eF169 (by decide) e_read)
                        have n264 : F178 8 = .ref h_read := (SAME.at t185 (by decide) n263)
                        have n265 : F202 8 = .ref h_read := (get_ne eF202 (by decide) n264)
                        have n266 : F239 8 = .ref h_read := (SAME.at t246 (by decide) n265)
                        have n267 : F169 58 = .int x_codes := (get_ne eF169 (by decide) e_codes)
                        have n268 : F178 58 = .int x_codes := (SAME.at t185 (by decide) n267)
                        have n269 : F202 58 = .int x_codes := (get_ne eF202 (by decide) n268)
                        have n270 : F239 58 = .int x_codes := (SAME.at t246 (by decide) n269)
                        have n271 : F178 59 = .int v167 := (SAME.at t185 (by decide) (get_eq eF169))
                        have n272 : F202 59 = .int v167 := (get_ne eF202 (by decide) n271)
                        have n273 : F239 59 = .int v167 := (SAME.at t246 (by decide) n272)
                        have n274 : F169 60 = .int x_top := (get_ne eF169 (by decide) e_top)
                        have n275 : F178 60 = .int x_top := (SAME.at t185 (by decide) n274)
                        have n276 : F202 60 = .int x_top := (get_ne eF202 (by decide) n275)
                        have n277 : F239 60 = .int x_top := (SAME.at t246 (by decide) n276)
                        have n278 : F239 62 = .int 1 := (SAME.at t246 (by decide) (get_eq eF202))
                        refine call_Vv (wr := [(h_s, .inl (cI, 335, .inl f_s)), (h_names, .inl (cJ, 36, .inr (.inl f_names))), (h_reserved, .inl (cJ, 23, .inr (.inl f_reserved))), (h_stack, .inl (cI, 45, .inl f_stack)), (h_tape, .inl (cB, 940, .inl f_tape))]) (As := [.int r9, .int y183, .int y244]) (rest := []) hx hb hml hown hw (m_X10_code l D cI cJ cB cP cM cZ h0 h_read F239 x_codes v167 x_top 1 f_read r9 y183 y244 _ n266 n270 (show 0 ≤ x_codes.toInt ∧ x_codes.toInt ≤ 44 from ⟨by omega, by omega⟩) n273 (ir_wk k168 (by decide) (by decide)) n277 i_x_top n278 (show 0 ≤ (1 : Int32).toInt ∧ (1 : Int32).toInt ≤ 1 by decide) (by have z0 : (1 : Int32).toInt = 1 := rfl; omega) (by have z0 : (1 : Int32).toInt = 1 := rfl; omega)) wV_X10_447_X10_code dX10_operand_265 hK hP hD hS hA [5, 1] [0, 2, 3, 4, 6] rfl rfl (by decide) (by decide) (by decide) 0 10 rfl rfl GG.fb hG.at hl.1 rfl (Nat.le_of_ble_eq_true rfl) ⟨(Nat.le_of_ble_eq_true rfl), (Nat.le_of_ble_eq_true rfl)⟩ ⟨(Nat.le_of_ble_eq_true rfl), (Nat.le_of_ble_eq_true rfl)⟩ (fun u H locs hp hP hD hS => ?_)
                        have zl1 : (1 : Int32).toInt = 1 := by decide
                        obtain ⟨F280, y281, g282, t283, t284, t285, t286, t287, t288, rfl⟩ := hp
                        have hP : va_P D vwCl [(h_s, .inl (cI, 335, .inl f_s)), (h_names, .inl (cJ, 36, .inr (.inl f_names))), (h_reserved, .inl (cJ, 23, .inr (.inl f_reserved))), (h_stack, .inl (cI, 45, .inl f_stack)), (h_tape, .inl (cB, 940, .inl f_tape)), (h0, .inr (10, vL 67 F280)), (h_read, .inl (cI, 135, .inl g282))] H := hP
                        have hD : va_D A [(h_s, .inl (cI, 335, .inl f_s)), (h_names, .inl (cJ, 36, .inr (.inl f_names))), (h_reserved, .inl (cJ, 23, .inr (.inl f_reserved))), (h_stack, .inl (cI, 45, .inl f_stack)), (h_tape, .inl (cB, 940, .inl f_tape)), (h0, .inr (10, vL 67 F280)), (h_read, .inl (cI, 135, .inl g282))] := hD
                        refine W.widen (k := 0) (n := 0) (Nat.le_of_ble_eq_true rfl) (Nat.le_of_ble_eq_true rfl) ?_
                        refine lv_aload_n hx hb dX10_operand_268 rfl (lv_at hl 4 rfl) ?_
                        have n290 : F239 1 = .ref h_tape := (SAME.at t246 (by decide) n231)
                        have n291 : F280 1 = .ref h_tape := (SAME.at t283 (by decide) n290)
                        have n292 : F239 3 = .int x_size := (SAME.at t246 (by decide) n233)
                        have n293 : F280 3 = .int x_size := (SAME.at t283 (by decide) n292)
                        have n294 : F280 4 = .int y240 := (SAME.at t283 (by decide) t247)
                        have n295 : F239 5 = .int x_limit := (SAME.at t246 (by decide) n236)
                        have n296 : F280 5 = .int x_limit := (SAME.at t283 (by decide) n295)
                        have n297 : F280 11 = .int y241 := (SAME.at t283 (by decide) t249)
                        have n298 : F280 14 = .int y244 := (SAME.at t283 (by decide) t255)
                        have n299 : F280 18 = .long y245 := (SAME.at t283 (by decide) t256)
                        refine call_Vv (wr := [(h_s, .inl (cI, 335, .inl f_s)), (h_names, .inl (cJ, 36, .inr (.inl f_names))), (h_reserved, .inl (cJ, 23, .inr (.inl f_reserved))), (h_stack, .inl (cI, 45, .inl f_stack)), (h_read, .inl (cI, 135, .inl g282))]) (As := []) (rest := []) hx hb hml hown hw (m_X10_next l D cI cJ cB cP cM cZ h0 h_tape F280 x_size y240 x_limit y241 y244 y245 f_tape _ n291 n293 i_x_size n294 t248 n296 i_x_limit n297 (ir_wk k262 (by decide) (by decide)) n298 n299 (by omega)) wV_X10_208_X10_next dX10_operand_269 hK hP hD hS hA [5, 4] [0, 1, 2, 3, 6] rfl rfl (by decide) (by decide) (by decide) 0 10 rfl rfl GG.fb hG.at hl.1 rfl (Nat.le_of_ble_eq_true rfl) ⟨(Nat.le_of_ble_eq_true rfl), (Nat.le_of_ble_eq_true rfl)⟩ ⟨(Nat.le_of_ble_eq_true rfl), (Nat.le_of_ble_eq_true rfl)⟩ (fun u H locs hp hP hD hS => ?_)
                        obtain ⟨F301, y302, y303, y304, y305, y306, y307, t308, t309, t310, t311, t312, t313, t314, t315, t316, t317, t318, t319, t320, t321, rfl⟩ := hp
                        clear t258 t259
                        have hP : va_P D vwCl [(h_s, .inl (cI, 335, .inl f_s)), (h_names, .inl (cJ, 36, .inr (.inl f_names))), (h_reserved, .inl (cJ, 23, .inr (.inl f_reserved))), (h_stack, .inl (cI, 45, .inl f_stack)), (h_read, .inl (cI, 135, .inl g282)), (h0, .inr (10, vL 67 F301)), (h_tape, .inl (cB, 940, .inl f_tape))] H := hP
                        have hD : va_D A [(h_s, .inl (cI, 335, .inl f_s)), (h_names, .inl (cJ, 36, .inr (.inl f_names))), (h_reserved, .inl (cJ, 23, .inr (.inl f_reserved))), (h_stack, .inl (cI, 45, .inl f_stack)), (h_read, .inl (cI, 135, .inl g282)), (h0, .inr (10, vL 67 F301)), (h_tape, .inl (cB, 940, .inl f_tape))] := hD
                        refine W.widen (k := 0) (n := 0) (Nat.le_of_ble_eq_true rfl) (Nat.le_of_ble_eq_true rfl) ?_
                        refine lv_iconst (v := 1) hx hb dX10_operand_272 (by decide) ?_
                        exact ret_i (v := 1) hx hb hr hlocks hS (hP.sub (ws' := [(h0, .inr (10, vL 67 F301)), (h_tape, .inl (cB, 940, .inl f_tape)), (h_s, .inl (cI, 335, .inl f_s)), (h_read, .inl (cI, 135, .inl g282)), (h_names, .inl (cJ, 36, .inr (.inl f_names))), (h_reserved, .inl (cJ, 23, .inr (.inl f_reserved))), (h_stack, .inl (cI, 45, .inl f_stack))]) [5, 6, 0, 4, 1, 2, 3] rfl) (hD.sub (ws' := [(h0, .inr (10, vL 67 F301)), (h_tape, .inl (cB, 940, .inl f_tape)), (h_s, .inl (cI, 335, .inl f_s)), (h_read, .inl (cI, 135, .inl g282)), (h_names, .inl (cJ, 36, .inr (.inl f_names))), (h_reserved, .inl (cJ, 23, .inr (.inl f_reserved))), (h_stack, .inl (cI, 45, .inl f_stack))]) [5, 6, 0, 4, 1, 2, 3] (by decide) rfl) dX10_operand_273 rfl (Nat.le_of_ble_eq_true rfl) (Nat.le_of_ble_eq_true rfl) ⟨F301, y302, y303, y304, y305, y306, x_fault, x_faultAt, y307, y281, v167, x_top, x_deep, 1, g282, f_stack, (SAME.tr (SAME.tr (SAME.tr (SAME.up eF202 (SAME.tr (SAME.up eF169 SAME.rf (by decide)) t185 (by decide)) (by decide)) t246 (by decide)) t283 (by decide)) t308 (by decide)), t309, t310, t311, t312, t313, t315, t317, (SAME.at t308 (by decide) (SAME.at t283 (by decide) (SAME.at t246 (by decide) (get_ne eF202 (by decide) (SAME.at t185 (by decide) (get_ne eF169 (by decide) e_fault)))))), (SAME.at t308 (by decide) (SAME.at t283 (by decide) (SAME.at t246 (by decide) (get_ne eF202 (by decide) (SAME.at t185 (by decide) (get_ne eF169 (by decide) e_faultAt)))))), t318, (SAME.at t308 (by decide) t284), (ir_wk t285 (by decide) (by decide)), (SAME.at t308 (by decide) (SAME.at t283 (by decide) n273)), (ir_wk k168 (by decide) (by decide)), (SAME.at t308 (by decide) (SAME.at t283 (by decide) n277)), i_x_top, (SAME.at t308 (by decide) (SAME.at t283 (by decide) (SAME.at t246 (by decide) (get_ne eF202 (by decide) (SAME.at t185 (by decide) (get_ne eF169 (by decide) e_deep)))))), (SAME.at t308 (by decide) (SAME.at t283 (by decide) n278)), (show 0 ≤ (1 : Int32).toInt ∧ (1 : Int32).toInt ≤ 1 by decide), (show 0 ≤ (1 : Int32).toInt ∧ (1 : Int32).toInt ≤ 1 by decide), (by have zl1 : (1 : Int32).toInt = 1 := (by decide); omega), (fun _ => SMI.leaf z_1 t287 (ir_wk k206 (by decide) (by decide)) (by omega) (by decide)), (by have zl1 : (1 : Int32).toInt = 1 := (by decide); omega), (by have zl1 : (1 : Int32).toInt = 1 := (by decide); omega), rfl⟩
                      · have dc261 : y241.toInt ≠ 2 := ne_i (a := y241.toInt) (b := 2) rfl rfl c261
                        refine lv_aload_n hx hb dX10_operand_251 rfl (lv_at hl 4 rfl) ?_
                        refine lv_iconst (v := 1) hx hb dX10_operand_252 (by decide) ?_
                        refine call_Vi (wr := [(h_s, .inl (cI, 335, .inl f_s)), (h_read, .inl (cI, 135, .inl f_read)), (h_names, .inl (cJ, 36, .inr (.inl f_names))), (h_reserved, .inl (cJ, 23, .inr (.inl f_reserved))), (h_stack, .inl (cI, 45, .inl f_stack)), (h_tape, .inl (cB, 940, .inl f_tape))]) (As := [.int 1]) (rest := []) hx hb hml hown hw (m_X10_bad l D cI cJ cB cP cM cZ h0 F239 y242 1 _ t251) wV_X10_205_X10_bad dX10_operand_253 hK hP hD hS hA [5] [0, 1, 2, 3, 4, 6] rfl rfl (by decide) (by decide) (by decide) 0 10 rfl rfl GG.fb hG.at hl.1 rfl (Nat.le_of_ble_eq_true rfl) ⟨(Nat.le_of_ble_eq_true rfl), (Nat.le_of_ble_eq_true rfl)⟩ ⟨(Nat.le_of_ble_eq_true rfl), (Nat.le_of_ble_eq_true rfl)⟩ (fun r323 u H locs hp hP hD hS => ?_)
                        have zl1 : (1 : Int32).toInt = 1 := by decide
                        obtain ⟨F324, t325, t326, t327, rfl, rfl⟩ := hp
                        have hP : va_P D vwCl [(h_s, .inl (cI, 335, .inl f_s)), (h_read, .inl (cI, 135, .inl f_read)), (h_names, .inl (cJ, 36, .inr (.inl f_names))), (h_reserved, .inl (cJ, 23, .inr (.inl f_reserved))), (h_stack, .inl (cI, 45, .inl f_stack)), (h_tape, .inl (cB, 940, .inl f_tape)), (h0, .inr (10, vL 67 F324))] H := hP
                        have hD : va_D A [(h_s, .inl (cI, 335, .inl f_s)), (h_read, .inl (cI, 135, .inl f_read)), (h_names, .inl (cJ, 36, .inr (.inl f_names))), (h_reserved, .inl (cJ, 23, .inr (.inl f_reserved))), (h_stack, .inl (cI, 45, .inl f_stack)), (h_tape, .inl (cB, 940, .inl f_tape)), (h0, .inr (10, vL 67 F324))] := hD
                        refine W.widen (k := 0) (n := 0) (Nat.le_of_ble_eq_true rfl) (Nat.le_of_ble_eq_true rfl) ?_
                        exact ret_i (v := 0) hx hb hr hlocks hS (hP.sub (ws' := [(h0, .inr (10, vL 67 F324)), (h_tape, .inl (cB, 940, .inl f_tape)), (h_s, .inl (cI, 335, .inl f_s)), (h_read, .inl (cI, 135, .inl f_read)), (h_names, .inl (cJ, 36, .inr (.inl f_names))), (h_reserved, .inl (cJ, 23, .inr (.inl f_reserved))), (h_stack, .inl (cI, 45, .inl f_stack))]) [6, 5, 0, 1, 2, 3, 4] rfl) (hD.sub (ws' := [(h0, .inr (10, vL 67 F324)), (h_tape, .inl (cB, 940, .inl f_tape)), (h_s, .inl (cI, 335, .inl f_s)), (h_read, .inl (cI, 135, .inl f_read)), (h_names, .inl (cJ, 36, .inr (.inl f_names))), (h_reserved, .inl (cJ, 23, .inr (.inl f_reserved))), (h_stack, .inl (cI, 45, .inl f_stack))]) [6, 5, 0, 1, 2, 3, 4] (by decide) rfl) dX10_operand_256 rfl (Nat.le_of_ble_eq_true rfl) (Nat.le_of_ble_eq_true rfl) ⟨F324, y240, y241, y242, y243, y244, 1, y242, y245, x_codes, v167, x_top, x_deep, 1, f_read, f_stack, (SAME.tr (SAME.tr (SAME.up eF202 (SAME.tr (SAME.up eF169 SAME.rf (by decide)) t185 (by decide)) (by decide)) t246 (by decide)) t325 (by decide)), (SAME.at t325 (by decide) t247), t248, (SAME.at t325 (by decide) t249), t250, (SAME.at t325 (by decide) t251), (SAME.at t325 (by decide) t253), (SAME.at t325 (by decide) t255), t326, t327, (SAME.at t325 (by decide) t256), (SAME.at t325 (by decide) (SAME.at t246 (by decide) (get_ne eF202 (by decide) (SAME.at t185 (by decide) (get_ne eF169 (by decide) e_codes))))), i_x_codes, (SAME.at t325 (by decide) (SAME.at t246 (by decide) (get_ne eF202 (by decide) (SAME.at t185 (by decide) (get_eq eF169))))), (ir_wk k168 (by decide) (by decide)), (SAME.at t325 (by decide) (SAME.at t246 (by decide) (get_ne eF202 (by decide) (SAME.at t185 (by decide) (get_ne eF169 (by decide) e_top))))), i_x_top, (SAME.at t325 (by decide) (SAME.at t246 (by decide) (get_ne eF202 (by decide) (SAME.at t185 (by decide) (get_ne eF169 (by decide) e_deep))))), (SAME.at t325 (by decide) (SAME.at t246 (by decide) (get_eq eF202))), (show 0 ≤ (1 : Int32).toInt ∧ (1 : Int32).toInt ≤ 1 by decide), (show 0 ≤ (0 : Int32).toInt ∧ (0 : Int32).toInt ≤ 1 by decide), (by have zl0 : (0 : Int32).toInt = 0 := (by decide); have zl1 : (1 : Int32).toInt = 1 := (by decide); omega), (fun q => absurd q (by decide)), (by have zl1 : (1 : Int32).toInt = 1 := (by decide); omega), (by have zl1 : (1 : Int32).toInt = 1 := (by decide); omega), rfl⟩
                    · have dc228 : 62 < y183.toInt := nle_i (a := y183.toInt) (b := 62) rfl rfl c228
                      have k329 : 63 ≤ y183.toInt ∧ y183.toInt ≤ 2147483647 := ⟨lo_lt dc228 (Int.le_refl _) (by decide), k227.2⟩
                      refine lv_aload_n hx hb dX10_operand_227 rfl (lv_at hl 3 rfl) ?_
                      refine lv_iconst (v := 1) hx hb dX10_operand_228 (by decide) ?_
                      have n330 : F202 12 = .int y181 := (get_ne eF202 (by decide) t190)
                      refine call_Vi (wr := [(h_s, .inl (cI, 335, .inl f_s)), (h_read, .inl (cI, 135, .inl f_read)), (h_names, .inl (cJ, 36, .inr (.inl f_names))), (h_reserved, .inl (cJ, 23, .inr (.inl f_reserved))), (h_stack, .inl (cI, 45, .inl f_stack)), (h_tape, .inl (cB, 940, .inl f_tape))]) (As := [.int 1]) (rest := []) hx hb hml hown hw (m_X10_bad l D cI cJ cB cP cM cZ h0 F202 y181 1 _ n330) wV_X10_205_X10_bad dX10_operand_229 hK hP hD hS hA [5] [0, 1, 2, 3, 4, 6] rfl rfl (by decide) (by decide) (by decide) 0 10 rfl rfl GG.fb hG.at hl.1 rfl (Nat.le_of_ble_eq_true rfl) ⟨(Nat.le_of_ble_eq_true rfl), (Nat.le_of_ble_eq_true rfl)⟩ ⟨(Nat.le_of_ble_eq_true rfl), (Nat.le_of_ble_eq_true rfl)⟩ (fun r331 u H locs hp hP hD hS => ?_)
                      have zl1 : (1 : Int32).toInt = 1 := by decide
                      obtain ⟨F332, t333, t334, t335, rfl, rfl⟩ := hp
                      have hP : va_P D vwCl [(h_s, .inl (cI, 335, .inl f_s)), (h_read, .inl (cI, 135, .inl f_read)), (h_names, .inl (cJ, 36, .inr (.inl f_names))), (h_reserved, .inl (cJ, 23, .inr (.inl f_reserved))), (h_stack, .inl (cI, 45, .inl f_stack)), (h_tape, .inl (cB, 940, .inl f_tape)), (h0, .inr (10, vL 67 F332))] H := hP
                      have hD : va_D A [(h_s, .inl (cI, 335, .inl f_s)), (h_read, .inl (cI, 135, .inl f_read)), (h_names, .inl (cJ, 36, .inr (.inl f_names))), (h_reserved, .inl (cJ, 23, .inr (.inl f_reserved))), (h_stack, .inl (cI, 45, .inl f_stack)), (h_tape, .inl (cB, 940, .inl f_tape)), (h0, .inr (10, vL 67 F332))] := hD
                      refine W.widen (k := 0) (n := 0) (Nat.le_of_ble_eq_true rfl) (Nat.le_of_ble_eq_true rfl) ?_
                      exact ret_i (v := 0) hx hb hr hlocks hS (hP.sub (ws' := [(h0, .inr (10, vL 67 F332)), (h_tape, .inl (cB, 940, .inl f_tape)), (h_s, .inl (cI, 335, .inl f_s)), (h_read, .inl (cI, 135, .inl f_read)), (h_names, .inl (cJ, 36, .inr (.inl f_names))), (h_reserved, .inl (cJ, 23, .inr (.inl f_reserved))), (h_stack, .inl (cI, 45, .inl f_stack))]) [6, 5, 0, 1, 2, 3, 4] rfl) (hD.sub (ws' := [(h0, .inr (10, vL 67 F332)), (h_tape, .inl (cB, 940, .inl f_tape)), (h_s, .inl (cI, 335, .inl f_s)), (h_read, .inl (cI, 135, .inl f_read)), (h_names, .inl (cJ, 36, .inr (.inl f_names))), (h_reserved, .inl (cJ, 23, .inr (.inl f_reserved))), (h_stack, .inl (cI, 45, .inl f_stack))]) [6, 5, 0, 1, 2, 3, 4] (by decide) rfl) dX10_operand_232 rfl (Nat.le_of_ble_eq_true rfl) (Nat.le_of_ble_eq_true rfl) ⟨F332, y179, y180, y181, y182, y183, 1, y181, y184, x_codes, v167, x_top, x_deep, 1, f_read, f_stack, (SAME.tr (SAME.up eF202 (SAME.tr (SAME.up eF169 SAME.rf (by decide)) t185 (by decide)) (by decide)) t333 (by decide)), (SAME.at t333 (by decide) (get_ne eF202 (by decide) t186)), t187, (SAME.at t333 (by decide) n207), (ir_wk k216 (by decide) (by decide)), (SAME.at t333 (by decide) n330), (SAME.at t333 (by decide) (get_ne eF202 (by decide) t192)), (SAME.at t333 (by decide) n217), t334, t335, (SAME.at t333 (by decide) (get_ne eF202 (by decide) t195)), (SAME.at t333 (by decide) (get_ne eF202 (by decide) (SAME.at t185 (by decide) (get_ne eF169 (by decide) e_codes)))), i_x_codes, (SAME.at t333 (by decide) (get_ne eF202 (by decide) (SAME.at t185 (by decide) (get_eq eF169)))), (ir_wk k168 (by decide) (by decide)), (SAME.at t333 (by decide) (get_ne eF202 (by decide) (SAME.at t185 (by decide) (get_ne eF169 (by decide) e_top)))), i_x_top, (SAME.at t333 (by decide) (get_ne eF202 (by decide) (SAME.at t185 (by decide) (get_ne eF169 (by decide) e_deep)))), (SAME.at t333 (by decide) (get_eq eF202)), (show 0 ≤ (1 : Int32).toInt ∧ (1 : Int32).toInt ≤ 1 by decide), (show 0 ≤ (0 : Int32).toInt ∧ (0 : Int32).toInt ≤ 1 by decide), (by have zl0 : (0 : Int32).toInt = 0 := (by decide); have zl1 : (1 : Int32).toInt = 1 := (by decide); omega), (fun q => absurd q (by decide)), (by have zl1 : (1 : Int32).toInt = 1 := (by decide); omega), (by have zl1 : (1 : Int32).toInt = 1 := (by decide); omega), rfl⟩
              · have dc205 : r9.toInt = 2 := eq_i (a := r9.toInt) (b := 2) rfl rfl c205
                have k337 : 2 ≤ r9.toInt ∧ r9.toInt ≤ 2 := ⟨k204.1, Int.le_trans (Int.le_of_eq dc205) (Int.le_refl _)⟩
                refine lv_aload_n hx hb dX10_operand_150 rfl (lv_at hl 3 rfl) ?_
                have n338 : F169 10 = .ref h_reserved := (get_ne eF169 (by decide) e_reserved)
                have n339 : F178 10 = .ref h_reserved := (SAME.at t185 (by decide) n338)
                have n340 : F202 10 = .ref h_reserved := (get_ne eF202 (by decide) n339)
                have n341 : F202 11 = .int y180 := (get_ne eF202 (by decide) t188)
                have n342 : F202 14 = .int y183 := (get_ne eF202 (by decide) t194)
                have n343 : F202 18 = .long y184 := (get_ne eF202 (by decide) t195)
                refine call_Vi (wr := [(h_s, .inl (cI, 335, .inl f_s)), (h_read, .inl (cI, 135, .inl f_read)), (h_names, .inl (cJ, 36, .inr (.inl f_names))), (h_stack, .inl (cI, 45, .inl f_stack)), (h_tape, .inl (cB, 940, .inl f_tape))]) (As := []) (rest := []) hx hb hml hown hw (m_X10_isName l D cI cJ cB cP cM cZ h0 h_reserved F202 y180 y183 y184 f_reserved _ n340 n341 t189 n342 n343 (by omega)) wV_X10_218_X10_isName dX10_operand_151 hK hP hD hS hA [5, 3] [0, 1, 2, 4, 6] rfl rfl (by decide) (by decide) (by decide) 0 10 rfl rfl GG.fb hG.at hl.1 rfl (Nat.le_of_ble_eq_true rfl) ⟨(Nat.le_of_ble_eq_true rfl), (Nat.le_of_ble_eq_true rfl)⟩ ⟨(Nat.le_of_ble_eq_true rfl), (Nat.le_of_ble_eq_true rfl)⟩ (fun r344 u H locs hp hP hD hS => ?_)
                obtain ⟨t345, rfl⟩ := hp
                have hP : va_P D vwCl [(h_s, .inl (cI, 335, .inl f_s)), (h_read, .inl (cI, 135, .inl f_read)), (h_names, .inl (cJ, 36, .inr (.inl f_names))), (h_stack, .inl (cI, 45, .inl f_stack)), (h_tape, .inl (cB, 940, .inl f_tape)), (h0, .inr (10, vL 67 F202)), (h_reserved, .inl (cJ, 23, .inr (.inl f_reserved)))] H := hP
                have hD : va_D A [(h_s, .inl (cI, 335, .inl f_s)), (h_read, .inl (cI, 135, .inl f_read)), (h_names, .inl (cJ, 36, .inr (.inl f_names))), (h_stack, .inl (cI, 45, .inl f_stack)), (h_tape, .inl (cB, 940, .inl f_tape)), (h0, .inr (10, vL 67 F202)), (h_reserved, .inl (cJ, 23, .inr (.inl f_reserved)))] := hD
                refine W.widen (k := 0) (n := 0) (Nat.le_of_ble_eq_true rfl) (Nat.le_of_ble_eq_true rfl) ?_
                refine lv_if_ne (tgt := 163) hx hb dX10_operand_154 (by decide) (fun c347 => ?_) (fun c347 => ?_)
                · have dc347 : r344.toInt ≠ 0 := ne_i (a := r344.toInt) (b := 0) rfl rfl c347
                  have k348 : 1 ≤ r344.toInt ∧ r344.toInt ≤ 1 := ⟨ne_lo dc347 t345.1 ⟨Int.le_refl _, Int.le_refl _⟩ (by decide), t345.2⟩
                  refine lv_aload_n hx hb dX10_operand_163 rfl (lv_at hl 3 rfl) ?_
                  refine lv_iconst (v := 0) hx hb dX10_operand_164 (by decide) ?_
                  refine lv_aload_n hx hb dX10_operand_165 rfl (lv_at hl 3 rfl) ?_
                  have n349 : F169 6 = .ref h_s := (get_ne eF169 (by decide) e_s)
                  have n350 : F178 6 = .ref h_s := (SAME.at t185 (by decide) n349)
                  have n351 : F202 6 = .ref h_s := (get_ne eF202 (by decide) n350)
                  refine get_f (D := D) (ci := 10) (v := .ref h_s) (C := RX10) (T := TX10) (N := 67) hx hb hw inAX10 hown hK hP 5 rfl rfl 6 (by decide) (hw _ q_1267) (fun _ h9 => h9) n351 dX10_operand_166 ?_
                  refine lv_iconst (v := 5) hx hb dX10_operand_169 (by decide) ?_
                  refine iald_n hx hb hK hP 0 0 rfl rfl 5 rfl (Nat.le_of_ble_eq_true rfl) (Nat.le_of_ble_eq_true rfl) rfl dX10_operand_170 ?_
                  refine lv_topi (fun v352 ev352 => ?_)
                  have k353 : 0 ≤ v352.toInt ∧ v352.toInt ≤ 12 := by rw [ev352]; exact s_s_5.atN 5 (by decide) (by decide)
                  have n354 : F169 9 = .ref h_names := (get_ne eF169 (by decide) e_names)
                  have n355 : F178 9 = .ref h_names := (SAME.at t185 (by decide) n354)
                  have n356 : F202 9 = .ref h_names := (get_ne eF202 (by decide) n355)
                  refine call_Vi (wr := [(h_s, .inl (cI, 335, .inl f_s)), (h_read, .inl (cI, 135, .inl f_read)), (h_stack, .inl (cI, 45, .inl f_stack)), (h_tape, .inl (cB, 940, .inl f_tape)), (h_reserved, .inl (cJ, 23, .inr (.inl f_reserved)))]) (As := [.int 0, .int v352]) (rest := []) hx hb hml hown hw (m_X10_find l D cI cJ cB cP cM cZ h0 h_names F202 y184 f_names 0 v352 _ n356 n343 (show 0 ≤ (0 : Int32).toInt ∧ (0 : Int32).toInt ≤ 30 by decide) k353 (by have z0 : (0 : Int32).toInt = 0 := rfl; omega)) wV_X10_222_X10_find dX10_operand_171 hK hP hD hS hA [5, 2] [0, 1, 3, 4, 6] rfl rfl (by decide) (by decide) (by decide) 0 10 rfl rfl GG.fb hG.at hl.1 rfl (Nat.le_of_ble_eq_true rfl) ⟨(Nat.le_of_ble_eq_true rfl), (Nat.le_of_ble_eq_true rfl)⟩ ⟨(Nat.le_of_ble_eq_true rfl), (Nat.le_of_ble_eq_true rfl)⟩ (fun r357 u H locs hp hP hD hS => ?_)
                  have zl0 : (0 : Int32).toInt = 0 := by decide
                  rcases hp with ⟨t358, t359, rfl, rfl⟩ | ⟨t360, t361, t362, rfl⟩
                  · have hP : va_P D vwCl [(h_s, .inl (cI, 335, .inl f_s)), (h_read, .inl (cI, 135, .inl f_read)), (h_stack, .inl (cI, 45, .inl f_stack)), (h_tape, .inl (cB, 940, .inl f_tape)), (h_reserved, .inl (cJ, 23, .inr (.inl f_reserved))), (h0, .inr (10, vL 67 F202)), (h_names, .inl (cJ, 36, .inr (.inl f_names)))] H := hP
                    have hD : va_D A [(h_s, .inl (cI, 335, .inl f_s)), (h_read, .inl (cI, 135, .inl f_read)), (h_stack, .inl (cI, 45, .inl f_stack)), (h_tape, .inl (cB, 940, .inl f_tape)), (h_reserved, .inl (cJ, 23, .inr (.inl f_reserved))), (h0, .inr (10, vL 67 F202)), (h_names, .inl (cJ, 36, .inr (.inl f_names)))] := hD
                    refine W.widen (k := 0) (n := 0) (Nat.le_of_ble_eq_true rfl) (Nat.le_of_ble_eq_true rfl) ?_
                    refine lv_istore (lv' := [(4, .int (-1)), (3, .int r9), (2, .int r5), (1, .int r1), (0, .ref h0)]) hx hb dX10_operand_174 hl (by decide) rfl (fun ls hl => ?_)
                    refine lv_iload hx hb dX10_operand_176 (lv_at hl 0 rfl) ?_
                    refine lv_if_ge (tgt := 187) hx hb dX10_operand_178 (by decide) (fun g => absurd g (by decide)) (fun _ => ?_)
                    refine lv_aload_n hx hb dX10_operand_181 rfl (lv_at hl 4 rfl) ?_
                    refine lv_iconst (v := 3) hx hb dX10_operand_182 (by decide) ?_
                    have n364 : F202 12 = .int y181 := (get_ne eF202 (by decide) t190)
                    refine call_Vi (wr := [(h_s, .inl (cI, 335, .inl f_s)), (h_read, .inl (cI, 135, .inl f_read)), (h_stack, .inl (cI, 45, .inl f_stack)), (h_tape, .inl (cB, 940, .inl f_tape)), (h_reserved, .inl (cJ, 23, .inr (.inl f_reserved))), (h_names, .inl (cJ, 36, .inr (.inl f_names)))]) (As := [.int 3]) (rest := []) hx hb hml hown hw (m_X10_bad l D cI cJ cB cP cM cZ h0 F202 y181 3 _ n364) wV_X10_205_X10_bad dX10_operand_183 hK hP hD hS hA [5] [0, 1, 2, 3, 4, 6] rfl rfl (by decide) (by decide) (by decide) 0 10 rfl rfl GG.fb hG.at hl.1 rfl (Nat.le_of_ble_eq_true rfl) ⟨(Nat.le_of_ble_eq_true rfl), (Nat.le_of_ble_eq_true rfl)⟩ ⟨(Nat.le_of_ble_eq_true rfl), (Nat.le_of_ble_eq_true rfl)⟩ (fun r365 u H locs hp hP hD hS => ?_)
                    have zl3 : (3 : Int32).toInt = 3 := by decide
                    obtain ⟨F366, t367, t368, t369, rfl, rfl⟩ := hp
                    have hP : va_P D vwCl [(h_s, .inl (cI, 335, .inl f_s)), (h_read, .inl (cI, 135, .inl f_read)), (h_stack, .inl (cI, 45, .inl f_stack)), (h_tape, .inl (cB, 940, .inl f_tape)), (h_reserved, .inl (cJ, 23, .inr (.inl f_reserved))), (h_names, .inl (cJ, 36, .inr (.inl f_names))), (h0, .inr (10, vL 67 F366))] H := hP
                    have hD : va_D A [(h_s, .inl (cI, 335, .inl f_s)), (h_read, .inl (cI, 135, .inl f_read)), (h_stack, .inl (cI, 45, .inl f_stack)), (h_tape, .inl (cB, 940, .inl f_tape)), (h_reserved, .inl (cJ, 23, .inr (.inl f_reserved))), (h_names, .inl (cJ, 36, .inr (.inl f_names))), (h0, .inr (10, vL 67 F366))] := hD
                    refine W.widen (k := 0) (n := 0) (Nat.le_of_ble_eq_true rfl) (Nat.le_of_ble_eq_true rfl) ?_
                    exact ret_i (v := 0) hx hb hr hlocks hS (hP.sub (ws' := [(h0, .inr (10, vL 67 F366)), (h_tape, .inl (cB, 940, .inl f_tape)), (h_s, .inl (cI, 335, .inl f_s)), (h_read, .inl (cI, 135, .inl f_read)), (h_names, .inl (cJ, 36, .inr (.inl f_names))), (h_reserved, .inl (cJ, 23, .inr (.inl f_reserved))), (h_stack, .inl (cI, 45, .inl f_stack))]) [6, 3, 0, 1, 5, 4, 2] rfl) (hD.sub (ws' := [(h0, .inr (10, vL 67 F366)), (h_tape, .inl (cB, 940, .inl f_tape)), (h_s, .inl (cI, 335, .inl f_s)), (h_read, .inl (cI, 135, .inl f_read)), (h_names, .inl (cJ, 36, .inr (.inl f_names))), (h_reserved, .inl (cJ, 23, .inr (.inl f_reserved))), (h_stack, .inl (cI, 45, .inl f_stack))]) [6, 3, 0, 1, 5, 4, 2] (by decide) rfl) dX10_operand_186 rfl (Nat.le_of_ble_eq_true rfl) (Nat.le_of_ble_eq_true rfl) ⟨F366, y179, y180, y181, y182, y183, 3, y181, y184, x_codes, v167, x_top, x_deep, 1, f_read, f_stack, (SAME.tr (SAME.up eF202 (SAME.tr (SAME.up eF169 SAME.rf (by decide)) t185 (by decide)) (by decide)) t367 (by decide)), (SAME.at t367 (by decide) (get_ne eF202 (by decide) t186)), t187, (SAME.at t367 (by decide) n341), t189, (SAME.at t367 (by decide) n364), (SAME.at t367 (by decide) (get_ne eF202 (by decide) t192)), (SAME.at t367 (by decide) n342), t368, t369, (SAME.at t367 (by decide) n343), (SAME.at t367 (by decide) (get_ne eF202 (by decide) (SAME.at t185 (by decide) (get_ne eF169 (by decide) e_codes)))), i_x_codes, (SAME.at t367 (by decide) (get_ne eF202 (by decide) (SAME.at t185 (by decide) (get_eq eF169)))), (ir_wk k168 (by decide) (by decide)), (SAME.at t367 (by decide) (get_ne eF202 (by decide) (SAME.at t185 (by decide) (get_ne eF169 (by decide) e_top)))), i_x_top, (SAME.at t367 (by decide) (get_ne eF202 (by decide) (SAME.at t185 (by decide) (get_ne eF169 (by decide) e_deep)))), (SAME.at t367 (by decide) (get_eq eF202)), (show 0 ≤ (1 : Int32).toInt ∧ (1 : Int32).toInt ≤ 1 by decide), (show 0 ≤ (0 : Int32).toInt ∧ (0 : Int32).toInt ≤ 1 by decide), (by have zl0 : (0 : Int32).toInt = 0 := (by decide); have zl1 : (1 : Int32).toInt = 1 := (by decide); omega), (fun q => absurd q (by decide)), (by have zl1 : (1 : Int32).toInt = 1 := (by decide); have zl3 : (3 : Int32).toInt = 3 := (by decide); omega), (by have zl1 : (1 : Int32).toInt = 1 := (by decide); have zl3 : (3 : Int32).toInt = 3 := (by decide); omega), rfl⟩
                  · have hP : va_P D vwCl [(h_s, .inl (cI, 335, .inl f_s)), (h_read, .inl (cI, 135, .inl f_read)), (h_stack, .inl (cI, 45, .inl f_stack)), (h_tape, .inl (cB, 940, .inl f_tape)), (h_reserved, .inl (cJ, 23, .inr (.inl f_reserved))), (h0, .inr (10, vL 67 F202)), (h_names, .inl (cJ, 36, .inr (.inl f_names)))] H := hP
                    have hD : va_D A [(h_s, .inl (cI, 335, .inl f_s)), (h_read, .inl (cI, 135, .inl f_read)), (h_stack, .inl (cI, 45, .inl f_stack)), (h_tape, .inl (cB, 940, .inl f_tape)), (h_reserved, .inl (cJ, 23, .inr (.inl f_reserved))), (h0, .inr (10, vL 67 F202)), (h_names, .inl (cJ, 36, .inr (.inl f_names)))] := hD
                    refine W.widen (k := 0) (n := 0) (Nat.le_of_ble_eq_true rfl) (Nat.le_of_ble_eq_true rfl) ?_
                    have k371 : 1 ≤ v352.toInt ∧ v352.toInt ≤ 12 := ⟨lo_lt t361 (Int.le_refl _) (by decide), k353.2⟩
                    refine lv_istore (lv' := [(4, .int r357), (3, .int r9), (2, .int r5), (1, .int r1), (0, .ref h0)]) hx hb dX10_operand_174 hl (by decide) rfl (fun ls hl => ?_)
                    refine lv_iload hx hb dX10_operand_176 (lv_at hl 0 rfl) ?_
                    refine lv_if_ge (tgt := 187) hx hb dX10_operand_178 (by decide) (fun c372 => ?_) (fun c372 => False.elim (bad_lt (nle_i (a := 0) (b := r357.toInt) rfl rfl c372) t360.1 (Int.le_refl _) (by decide)))
                    have dc372 : 0 ≤ r357.toInt := le_i (a := 0) (b := r357.toInt) rfl rfl c372
                    refine lv_aload_n hx hb dX10_operand_187 rfl (lv_at hl 4 rfl) ?_
                    refine lv_iload_n hx hb dX10_operand_188 rfl (lv_at hl 1 rfl) ?_
                    refine lv_iconst (v := 0) hx hb dX10_operand_189 (by decide) ?_
                    refine lv_iload hx hb dX10_operand_190 (lv_at hl 0 rfl) ?_
                    have n373 : F169 8 = .ref h_read := (get_ne eF169 (by decide) e_read)
                    have n374 : F178 8 = .ref h_read := (SAME.at t185 (by decide) n373)
                    have n375 : F202 8 = .ref h_read := (get_ne eF202 (by decide) n374)
                    have n376 : F169 58 = .int x_codes := (get_ne eF169 (by decide) e_codes)
                    have n377 : F178 58 = .int x_codes := (SAME.at t185 (by decide) n376)
                    have n378 : F202 58 = .int x_codes := (get_ne eF202 (by decide) n377)
                    have n379 : F178 59 = .int v167 := (SAME.at t185 (by decide) (get_eq eF169))
                    have n380 : F202 59 = .int v167 := (get_ne eF202 (by decide) n379)
                    have n381 : F169 60 = .int x_top := (get_ne eF169 (by decide) e_top)
                    have n382 : F178 60 = .int x_top := (SAME.at t185 (by decide) n381)
                    have n383 : F202 60 = .int x_top := (get_ne eF202 (by decide) n382)
                    refine call_Vv (wr := [(h_s, .inl (cI, 335, .inl f_s)), (h_stack, .inl (cI, 45, .inl f_stack)), (h_tape, .inl (cB, 940, .inl f_tape)), (h_reserved, .inl (cJ, 23, .inr (.inl f_reserved))), (h_names, .inl (cJ, 36, .inr (.inl f_names)))]) (As := [.int r9, .int 0, .int r357]) (rest := []) hx hb hml hown hw (m_X10_code l D cI cJ cB cP cM cZ h0 h_read F202 x_codes v167 x_top 1 f_read r9 0 r357 _ n375 n378 (show 0 ≤ x_codes.toInt ∧ x_codes.toInt ≤ 44 from ⟨by omega, by omega⟩) n380 (ir_wk k168 (by decide) (by decide)) n383 i_x_top (get_eq eF202) (show 0 ≤ (1 : Int32).toInt ∧ (1 : Int32).toInt ≤ 1 by decide) (by have z0 : (1 : Int32).toInt = 1 := rfl; omega) (by have z0 : (1 : Int32).toInt = 1 := rfl; omega)) wV_X10_447_X10_code dX10_operand_192 hK hP hD hS hA [5, 1] [0, 2, 3, 4, 6] rfl rfl (by decide) (by decide) (by decide) 0 10 rfl rfl GG.fb hG.at hl.1 rfl (Nat.le_of_ble_eq_true rfl) ⟨(Nat.le_of_ble_eq_true rfl), (Nat.le_of_ble_eq_true rfl)⟩ ⟨(Nat.le_of_ble_eq_true rfl), (Nat.le_of_ble_eq_true rfl)⟩ (fun u H locs hp hP hD hS => ?_)
                    have zl1 : (1 : Int32).toInt = 1 := by decide
                    obtain ⟨F385, y386, g387, t388, t389, t390, t391, t392, t393, rfl⟩ := hp
                    have hP : va_P D vwCl [(h_s, .inl (cI, 335, .inl f_s)), (h_stack, .inl (cI, 45, .inl f_stack)), (h_tape, .inl (cB, 940, .inl f_tape)), (h_reserved, .inl (cJ, 23, .inr (.inl f_reserved))), (h_names, .inl (cJ, 36, .inr (.inl f_names))), (h0, .inr (10, vL 67 F385)), (h_read, .inl (cI, 135, .inl g387))] H := hP
                    have hD : va_D A [(h_s, .inl (cI, 335, .inl f_s)), (h_stack, .inl (cI, 45, .inl f_stack)), (h_tape, .inl (cB, 940, .inl f_tape)), (h_reserved, .inl (cJ, 23, .inr (.inl f_reserved))), (h_names, .inl (cJ, 36, .inr (.inl f_names))), (h0, .inr (10, vL 67 F385)), (h_read, .inl (cI, 135, .inl g387))] := hD
                    refine W.widen (k := 0) (n := 0) (Nat.le_of_ble_eq_true rfl) (Nat.le_of_ble_eq_true rfl) ?_
                    refine lv_aload_n hx hb dX10_operand_195 rfl (lv_at hl 4 rfl) ?_
                    have n395 : F178 1 = .ref h_tape := (SAME.at t185 (by decide) n170)
                    have n396 : F202 1 = .ref h_tape := (get_ne eF202 (by decide) n395)
                    have n397 : F385 1 = .ref h_tape := (SAME.at t388 (by decide) n396)
                    have n398 : F178 3 = .int x_size := (SAME.at t185 (by decide) n171)
                    have n399 : F202 3 = .int x_size := (get_ne eF202 (by decide) n398)
                    have n400 : F385 3 = .int x_size := (SAME.at t388 (by decide) n399)
                    have n401 : F202 4 = .int y179 := (get_ne eF202 (by decide) t186)
                    have n402 : F385 4 = .int y179 := (SAME.at t388 (by decide) n401)
                    have n403 : F178 5 = .int x_limit := (SAME.at t185 (by decide) n173)
                    have n404 : F202 5 = .int x_limit := (get_ne eF202 (by decide) n403)
                    have n405 : F385 5 = .int x_limit := (SAME.at t388 (by decide) n404)
                    have n406 : F385 11 = .int y180 := (SAME.at t388 (by decide) n341)
                    have n407 : F385 14 = .int y183 := (SAME.at t388 (by decide) n342)
                    have n408 : F385 18 = .long y184 := (SAME.at t388 (by decide) n343)
                    refine call_Vv (wr := [(h_s, .inl (cI, 335, .inl f_s)), (h_stack, .inl (cI, 45, .inl f_stack)), (h_reserved, .inl (cJ, 23, .inr (.inl f_reserved))), (h_names, .inl (cJ, 36, .inr (.inl f_names))), (h_read, .inl (cI, 135, .inl g387))]) (As := []) (rest := []) hx hb hml hown hw (m_X10_next l D cI cJ cB cP cM cZ h0 h_tape F385 x_size y179 x_limit y180 y183 y184 f_tape _ n397 n400 i_x_size n402 t187 n405 i_x_limit n406 t189 n407 n408 (by omega)) wV_X10_208_X10_next dX10_operand_196 hK hP hD hS hA [5, 2] [0, 1, 3, 4, 6] rfl rfl (by decide) (by decide) (by decide) 0 10 rfl rfl GG.fb hG.at hl.1 rfl (Nat.le_of_ble_eq_true rfl) ⟨(Nat.le_of_ble_eq_true rfl), (Nat.le_of_ble_eq_true rfl)⟩ ⟨(Nat.le_of_ble_eq_true rfl), (Nat.le_of_ble_eq_true rfl)⟩ (fun u H locs hp hP hD hS => ?_)
                    obtain ⟨F410, y411, y412, y413, y414, y415, y416, t417, t418, t419, t420, t421, t422, t423, t424, t425, t426, t427, t428, t429, t430, rfl⟩ := hp
                    clear t197 t198
                    have hP : va_P D vwCl [(h_s, .inl (cI, 335, .inl f_s)), (h_stack, .inl (cI, 45, .inl f_stack)), (h_reserved, .inl (cJ, 23, .inr (.inl f_reserved))), (h_names, .inl (cJ, 36, .inr (.inl f_names))), (h_read, .inl (cI, 135, .inl g387)), (h0, .inr (10, vL 67 F410)), (h_tape, .inl (cB, 940, .inl f_tape))] H := hP
                    have hD : va_D A [(h_s, .inl (cI, 335, .inl f_s)), (h_stack, .inl (cI, 45, .inl f_stack)), (h_reserved, .inl (cJ, 23, .inr (.inl f_reserved))), (h_names, .inl (cJ, 36, .inr (.inl f_names))), (h_read, .inl (cI, 135, .inl g387)), (h0, .inr (10, vL 67 F410)), (h_tape, .inl (cB, 940, .inl f_tape))] := hD
                    refine W.widen (k := 0) (n := 0) (Nat.le_of_ble_eq_true rfl) (Nat.le_of_ble_eq_true rfl) ?_
                    refine lv_iconst (v := 1) hx hb dX10_operand_199 (by decide) ?_
                    exact ret_i (v := 1) hx hb hr hlocks hS (hP.sub (ws' := [(h0, .inr (10, vL 67 F410)), (h_tape, .inl (cB, 940, .inl f_tape)), (h_s, .inl (cI, 335, .inl f_s)), (h_read, .inl (cI, 135, .inl g387)), (h_names, .inl (cJ, 36, .inr (.inl f_names))), (h_reserved, .inl (cJ, 23, .inr (.inl f_reserved))), (h_stack, .inl (cI, 45, .inl f_stack))]) [5, 6, 0, 4, 3, 2, 1] rfl) (hD.sub (ws' := [(h0, .inr (10, vL 67 F410)), (h_tape, .inl (cB, 940, .inl f_tape)), (h_s, .inl (cI, 335, .inl f_s)), (h_read, .inl (cI, 135, .inl g387)), (h_names, .inl (cJ, 36, .inr (.inl f_names))), (h_reserved, .inl (cJ, 23, .inr (.inl f_reserved))), (h_stack, .inl (cI, 45, .inl f_stack))]) [5, 6, 0, 4, 3, 2, 1] (by decide) rfl) dX10_operand_200 rfl (Nat.le_of_ble_eq_true rfl) (Nat.le_of_ble_eq_true rfl) ⟨F410, y411, y412, y413, y414, y415, x_fault, x_faultAt, y416, y386, v167, x_top, x_deep, 1, g387, f_stack, (SAME.tr (SAME.tr (SAME.up eF202 (SAME.tr (SAME.up eF169 SAME.rf (by decide)) t185 (by decide)) (by decide)) t388 (by decide)) t417 (by decide)), t418, t419, t420, t421, t422, t424, t426, (SAME.at t417 (by decide) (SAME.at t388 (by decide) (get_ne eF202 (by decide) (SAME.at t185 (by decide) (get_ne eF169 (by decide) e_fault))))), (SAME.at t417 (by decide) (SAME.at t388 (by decide) (get_ne eF202 (by decide) (SAME.at t185 (by decide) (get_ne eF169 (by decide) e_faultAt))))), t427, (SAME.at t417 (by decide) t389), (ir_wk t390 (by decide) (by decide)), (SAME.at t417 (by decide) (SAME.at t388 (by decide) n380)), (ir_wk k168 (by decide) (by decide)), (SAME.at t417 (by decide) (SAME.at t388 (by decide) n383)), i_x_top, (SAME.at t417 (by decide) (SAME.at t388 (by decide) (get_ne eF202 (by decide) (SAME.at t185 (by decide) (get_ne eF169 (by decide) e_deep))))), (SAME.at t417 (by decide) (SAME.at t388 (by decide) (get_eq eF202))), (show 0 ≤ (1 : Int32).toInt ∧ (1 : Int32).toInt ≤ 1 by decide), (show 0 ≤ (1 : Int32).toInt ∧ (1 : Int32).toInt ≤ 1 by decide), (by have zl1 : (1 : Int32).toInt = 1 := (by decide); omega), (fun _ => SMI.leaf z_1 t392 (ir_wk k337 (by decide) (by decide)) (by omega) (by decide)), (by have zl1 : (1 : Int32).toInt = 1 := (by decide); omega), (by have zl1 : (1 : Int32).toInt = 1 := (by decide); omega), rfl⟩
                · have dc347 : r344.toInt = 0 := eq_i (a := r344.toInt) (b := 0) rfl rfl c347
                  have k432 : 0 ≤ r344.toInt ∧ r344.toInt ≤ 0 := ⟨t345.1, Int.le_trans (Int.le_of_eq dc347) (Int.le_refl _)⟩
                  refine lv_aload_n hx hb dX10_operand_157 rfl (lv_at hl 3 rfl) ?_
                  refine lv_iconst (v := 1) hx hb dX10_operand_158 (by decide) ?_
                  have n433 : F202 12 = .int y181 := (get_ne eF202 (by decide) t190)
                  refine call_Vi (wr := [(h_s, .inl (cI, 335, .inl f_s)), (h_read, .inl (cI, 135, .inl f_read)), (h_names, .inl (cJ, 36, .inr (.inl f_names))), (h_stack, .inl (cI, 45, .inl f_stack)), (h_tape, .inl (cB, 940, .inl f_tape)), (h_reserved, .inl (cJ, 23, .inr (.inl f_reserved)))]) (As := [.int 1]) (rest := []) hx hb hml hown hw (m_X10_bad l D cI cJ cB cP cM cZ h0 F202 y181 1 _ n433) wV_X10_205_X10_bad dX10_operand_159 hK hP hD hS hA [5] [0, 1, 2, 3, 4, 6] rfl rfl (by decide) (by decide) (by decide) 0 10 rfl rfl GG.fb hG.at hl.1 rfl (Nat.le_of_ble_eq_true rfl) ⟨(Nat.le_of_ble_eq_true rfl), (Nat.le_of_ble_eq_true rfl)⟩ ⟨(Nat.le_of_ble_eq_true rfl), (Nat.le_of_ble_eq_true rfl)⟩ (fun r434 u H locs hp hP hD hS => ?_)
                  have zl1 : (1 : Int32).toInt = 1 := by decide
                  obtain ⟨F435, t436, t437, t438, rfl, rfl⟩ := hp
                  have hP : va_P D vwCl [(h_s, .inl (cI, 335, .inl f_s)), (h_read, .inl (cI, 135, .inl f_read)), (h_names, .inl (cJ, 36, .inr (.inl f_names))), (h_stack, .inl (cI, 45, .inl f_stack)), (h_tape, .inl (cB, 940, .inl f_tape)), (h_reserved, .inl (cJ, 23, .inr (.inl f_reserved))), (h0, .inr (10, vL 67 F435))] H := hP
                  have hD : va_D A [(h_s, .inl (cI, 335, .inl f_s)), (h_read, .inl (cI, 135, .inl f_read)), (h_names, .inl (cJ, 36, .inr (.inl f_names))), (h_stack, .inl (cI, 45, .inl f_stack)), (h_tape, .inl (cB, 940, .inl f_tape)), (h_reserved, .inl (cJ, 23, .inr (.inl f_reserved))), (h0, .inr (10, vL 67 F435))] := hD
                  refine W.widen (k := 0) (n := 0) (Nat.le_of_ble_eq_true rfl) (Nat.le_of_ble_eq_true rfl) ?_
                  exact ret_i (v := 0) hx hb hr hlocks hS (hP.sub (ws' := [(h0, .inr (10, vL 67 F435)), (h_tape, .inl (cB, 940, .inl f_tape)), (h_s, .inl (cI, 335, .inl f_s)), (h_read, .inl (cI, 135, .inl f_read)), (h_names, .inl (cJ, 36, .inr (.inl f_names))), (h_reserved, .inl (cJ, 23, .inr (.inl f_reserved))), (h_stack, .inl (cI, 45, .inl f_stack))]) [6, 4, 0, 1, 2, 5, 3] rfl) (hD.sub (ws' := [(h0, .inr (10, vL 67 F435)), (h_tape, .inl (cB, 940, .inl f_tape)), (h_s, .inl (cI, 335, .inl f_s)), (h_read, .inl (cI, 135, .inl f_read)), (h_names, .inl (cJ, 36, .inr (.inl f_names))), (h_reserved, .inl (cJ, 23, .inr (.inl f_reserved))), (h_stack, .inl (cI, 45, .inl f_stack))]) [6, 4, 0, 1, 2, 5, 3] (by decide) rfl) dX10_operand_162 rfl (Nat.le_of_ble_eq_true rfl) (Nat.le_of_ble_eq_true rfl) ⟨F435, y179, y180, y181, y182, y183, 1, y181, y184, x_codes, v167, x_top, x_deep, 1, f_read, f_stack, (SAME.tr (SAME.up eF202 (SAME.tr (SAME.up eF169 SAME.rf (by decide)) t185 (by decide)) (by decide)) t436 (by decide)), (SAME.at t436 (by decide) (get_ne eF202 (by decide) t186)), t187, (SAME.at t436 (by decide) n341), t189, (SAME.at t436 (by decide) n433), (SAME.at t436 (by decide) (get_ne eF202 (by decide) t192)), (SAME.at t436 (by decide) n342), t437, t438, (SAME.at t436 (by decide) n343), (SAME.at t436 (by decide) (get_ne eF202 (by decide) (SAME.at t185 (by decide) (get_ne eF169 (by decide) e_codes)))), i_x_codes, (SAME.at t436 (by decide) (get_ne eF202 (by decide) (SAME.at t185 (by decide) (get_eq eF169)))), (ir_wk k168 (by decide) (by decide)), (SAME.at t436 (by decide) (get_ne eF202 (by decide) (SAME.at t185 (by decide) (get_ne eF169 (by decide) e_top)))), i_x_top, (SAME.at t436 (by decide) (get_ne eF202 (by decide) (SAME.at t185 (by decide) (get_ne eF169 (by decide) e_deep)))), (SAME.at t436 (by decide) (get_eq eF202)), (show 0 ≤ (1 : Int32).toInt ∧ (1 : Int32).toInt ≤ 1 by decide), (show 0 ≤ (0 : Int32).toInt ∧ (0 : Int32).toInt ≤ 1 by decide), (by have zl0 : (0 : Int32).toInt = 0 := (by decide); have zl1 : (1 : Int32).toInt = 1 := (by decide); omega), (fun q => absurd q (by decide)), (by have zl1 : (1 : Int32).toInt = 1 := (by decide); omega), (by have zl1 : (1 : Int32).toInt = 1 := (by decide); omega), rfl⟩
            · have dc203 : r9.toInt < 2 := nle_i (a := 2) (b := r9.toInt) rfl rfl c203
              have k440 : 0 ≤ r9.toInt ∧ r9.toInt ≤ 1 := ⟨k155.1, up_lt dc203 (Int.le_refl _) (by decide)⟩
              refine lv_aload_n hx hb dX10_operand_136 rfl (lv_at hl 3 rfl) ?_
              refine lv_iload_n hx hb dX10_operand_137 rfl (lv_at hl 0 rfl) ?_
              refine lv_iconst (v := 0) hx hb dX10_operand_138 (by decide) ?_
              refine lv_iconst (v := 0) hx hb dX10_operand_139 (by decide) ?_
              have n441 : F169 8 = .ref h_read := (get_ne eF169 (by decide) e_read)
              have n442 : F178 8 = .ref h_read := (SAME.at t185 (by decide) n441)
              have n443 : F202 8 = .ref h_read := (get_ne eF202 (by decide) n442)
              have n444 : F169 58 = .int x_codes := (get_ne eF169 (by decide) e_codes)
              have n445 : F178 58 = .int x_codes := (SAME.at t185 (by decide) n444)
              have n446 : F202 58 = .int x_codes := (get_ne eF202 (by decide) n445)
              have n447 : F178 59 = .int v167 := (SAME.at t185 (by decide) (get_eq eF169))
              have n448 : F202 59 = .int v167 := (get_ne eF202 (by decide) n447)
              have n449 : F169 60 = .int x_top := (get_ne eF169 (by decide) e_top)
              have n450 : F178 60 = .int x_top := (SAME.at t185 (by decide) n449)
              have n451 : F202 60 = .int x_top := (get_ne eF202 (by decide) n450)
              refine call_Vv (wr := [(h_s, .inl (cI, 335, .inl f_s)), (h_names, .inl (cJ, 36, .inr (.inl f_names))), (h_reserved, .inl (cJ, 23, .inr (.inl f_reserved))), (h_stack, .inl (cI, 45, .inl f_stack)), (h_tape, .inl (cB, 940, .inl f_tape))]) (As := [.int r9, .int 0, .int 0]) (rest := []) hx hb hml hown hw (m_X10_code l D cI cJ cB cP cM cZ h0 h_read F202 x_codes v167 x_top 1 f_read r9 0 0 _ n443 n446 (show 0 ≤ x_codes.toInt ∧ x_codes.toInt ≤ 44 from ⟨by omega, by omega⟩) n448 (ir_wk k168 (by decide) (by decide)) n451 i_x_top (get_eq eF202) (show 0 ≤ (1 : Int32).toInt ∧ (1 : Int32).toInt ≤ 1 by decide) (by have z0 : (1 : Int32).toInt = 1 := rfl; omega) (by have z0 : (1 : Int32).toInt = 1 := rfl; omega)) wV_X10_447_X10_code dX10_operand_140 hK hP hD hS hA [5, 1] [0, 2, 3, 4, 6] rfl rfl (by decide) (by decide) (by decide) 0 10 rfl rfl GG.fb hG.at hl.1 rfl (Nat.le_of_ble_eq_true rfl) ⟨(Nat.le_of_ble_eq_true rfl), (Nat.le_of_ble_eq_true rfl)⟩ ⟨(Nat.le_of_ble_eq_true rfl), (Nat.le_of_ble_eq_true rfl)⟩ (fun u H locs hp hP hD hS => ?_)
              have zl0 : (0 : Int32).toInt = 0 := by decide
              have zl1 : (1 : Int32).toInt = 1 := by decide
              obtain ⟨F453, y454, g455, t456, t457, t458, t459, t460, t461, rfl⟩ := hp
              have hP : va_P D vwCl [(h_s, .inl (cI, 335, .inl f_s)), (h_names, .inl (cJ, 36, .inr (.inl f_names))), (h_reserved, .inl (cJ, 23, .inr (.inl f_reserved))), (h_stack, .inl (cI, 45, .inl f_stack)), (h_tape, .inl (cB, 940, .inl f_tape)), (h0, .inr (10, vL 67 F453)), (h_read, .inl (cI, 135, .inl g455))] H := hP
              have hD : va_D A [(h_s, .inl (cI, 335, .inl f_s)), (h_names, .inl (cJ, 36, .inr (.inl f_names))), (h_reserved, .inl (cJ, 23, .inr (.inl f_reserved))), (h_stack, .inl (cI, 45, .inl f_stack)), (h_tape, .inl (cB, 940, .inl f_tape)), (h0, .inr (10, vL 67 F453)), (h_read, .inl (cI, 135, .inl g455))] := hD
              refine W.widen (k := 0) (n := 0) (Nat.le_of_ble_eq_true rfl) (Nat.le_of_ble_eq_true rfl) ?_
              refine lv_iconst (v := 1) hx hb dX10_operand_143 (by decide) ?_
              exact ret_i (v := 1) hx hb hr hlocks hS (hP.sub (ws' := [(h0, .inr (10, vL 67 F453)), (h_tape, .inl (cB, 940, .inl f_tape)), (h_s, .inl (cI, 335, .inl f_s)), (h_read, .inl (cI, 135, .inl g455)), (h_names, .inl (cJ, 36, .inr (.inl f_names))), (h_reserved, .inl (cJ, 23, .inr (.inl f_reserved))), (h_stack, .inl (cI, 45, .inl f_stack))]) [5, 4, 0, 6, 1, 2, 3] rfl) (hD.sub (ws' := [(h0, .inr (10, vL 67 F453)), (h_tape, .inl (cB, 940, .inl f_tape)), (h_s, .inl (cI, 335, .inl f_s)), (h_read, .inl (cI, 135, .inl g455)), (h_names, .inl (cJ, 36, .inr (.inl f_names))), (h_reserved, .inl (cJ, 23, .inr (.inl f_reserved))), (h_stack, .inl (cI, 45, .inl f_stack))]) [5, 4, 0, 6, 1, 2, 3] (by decide) rfl) dX10_operand_144 rfl (Nat.le_of_ble_eq_true rfl) (Nat.le_of_ble_eq_true rfl) ⟨F453, y179, y180, y181, y182, y183, x_fault, x_faultAt, y184, y454, v167, x_top, x_deep, 1, g455, f_stack, (SAME.tr (SAME.up eF202 (SAME.tr (SAME.up eF169 SAME.rf (by decide)) t185 (by decide)) (by decide)) t456 (by decide)), (SAME.at t456 (by decide) (get_ne eF202 (by decide) t186)), t187, (SAME.at t456 (by decide) (get_ne eF202 (by decide) t188)), t189, (SAME.at t456 (by decide) (get_ne eF202 (by decide) t190)), (SAME.at t456 (by decide) (get_ne eF202 (by decide) t192)), (SAME.at t456 (by decide) (get_ne eF202 (by decide) t194)), (SAME.at t456 (by decide) (get_ne eF202 (by decide) (SAME.at t185 (by decide) (get_ne eF169 (by decide) e_fault)))), (SAME.at t456 (by decide) (get_ne eF202 (by decide) (SAME.at t185 (by decide) (get_ne eF169 (by decide) e_faultAt)))), (SAME.at t456 (by decide) (get_ne eF202 (by decide) t195)), t457, (ir_wk t458 (by decide) (by decide)), (SAME.at t456 (by decide) n448), (ir_wk k168 (by decide) (by decide)), (SAME.at t456 (by decide) n451), i_x_top, (SAME.at t456 (by decide) (get_ne eF202 (by decide) (SAME.at t185 (by decide) (get_ne eF169 (by decide) e_deep)))), (SAME.at t456 (by decide) (get_eq eF202)), (show 0 ≤ (1 : Int32).toInt ∧ (1 : Int32).toInt ≤ 1 by decide), (show 0 ≤ (1 : Int32).toInt ∧ (1 : Int32).toInt ≤ 1 by decide), (by have zl1 : (1 : Int32).toInt = 1 := (by decide); omega), (fun _ => SMI.leaf z_1 t460 (ir_wk k440 (by decide) (by decide)) (by omega) (by decide)), (by have zl1 : (1 : Int32).toInt = 1 := (by decide); omega), (by have zl1 : (1 : Int32).toInt = 1 := (by decide); omega), rfl⟩
          · have dc165 : 8 < x_deep.toInt := nle_i (a := x_deep.toInt) (b := 8) rfl rfl c165
            have k463 : 9 ≤ x_deep.toInt ∧ x_deep.toInt ≤ 2147483647 := ⟨lo_lt dc165 (Int.le_refl _) (by decide), (ir_any _).2⟩
            refine lv_aload_n hx hb dX10_operand_56 rfl (lv_at hl 3 rfl) ?_
            refine lv_iconst (v := 4) hx hb dX10_operand_57 (by decide) ?_
            refine call_Vi (wr := [(h_tape, .inl (cB, 940, .inl f_tape)), (h_s, .inl (cI, 335, .inl f_s)), (h_read, .inl (cI, 135, .inl f_read)), (h_names, .inl (cJ, 36, .inr (.inl f_names))), (h_reserved, .inl (cJ, 23, .inr (.inl f_reserved))), (h_stack, .inl (cI, 45, .inl f_stack))]) (As := [.int 4]) (rest := []) hx hb hml hown hw (m_X10_bad l D cI cJ cB cP cM cZ h0 Fh x_at 4 _ e_at) wV_X10_205_X10_bad dX10_operand_58 hK hP hD hS hA [6] [0, 1, 2, 3, 4, 5] rfl rfl (by decide) (by decide) (by decide) 0 10 rfl rfl GG.fb hG.at hl.1 rfl (Nat.le_of_ble_eq_true rfl) ⟨(Nat.le_of_ble_eq_true rfl), (Nat.le_of_ble_eq_true rfl)⟩ ⟨(Nat.le_of_ble_eq_true rfl), (Nat.le_of_ble_eq_true rfl)⟩ (fun r464 u H locs hp hP hD hS => ?_)
            have zl4 : (4 : Int32).toInt = 4 := by decide
            obtain ⟨F465, t466, t467, t468, rfl, rfl⟩ := hp
            have hP : va_P D vwCl [(h_tape, .inl (cB, 940, .inl f_tape)), (h_s, .inl (cI, 335, .inl f_s)), (h_read, .inl (cI, 135, .inl f_read)), (h_names, .inl (cJ, 36, .inr (.inl f_names))), (h_reserved, .inl (cJ, 23, .inr (.inl f_reserved))), (h_stack, .inl (cI, 45, .inl f_stack)), (h0, .inr (10, vL 67 F465))] H := hP
            have hD : va_D A [(h_tape, .inl (cB, 940, .inl f_tape)), (h_s, .inl (cI, 335, .inl f_s)), (h_read, .inl (cI, 135, .inl f_read)), (h_names, .inl (cJ, 36, .inr (.inl f_names))), (h_reserved, .inl (cJ, 23, .inr (.inl f_reserved))), (h_stack, .inl (cI, 45, .inl f_stack)), (h0, .inr (10, vL 67 F465))] := hD
            refine W.widen (k := 0) (n := 0) (Nat.le_of_ble_eq_true rfl) (Nat.le_of_ble_eq_true rfl) ?_
            exact ret_i (v := 0) hx hb hr hlocks hS (hP.sub (ws' := [(h0, .inr (10, vL 67 F465)), (h_tape, .inl (cB, 940, .inl f_tape)), (h_s, .inl (cI, 335, .inl f_s)), (h_read, .inl (cI, 135, .inl f_read)), (h_names, .inl (cJ, 36, .inr (.inl f_names))), (h_reserved, .inl (cJ, 23, .inr (.inl f_reserved))), (h_stack, .inl (cI, 45, .inl f_stack))]) [6, 0, 1, 2, 3, 4, 5] rfl) (hD.sub (ws' := [(h0, .inr (10, vL 67 F465)), (h_tape, .inl (cB, 940, .inl f_tape)), (h_s, .inl (cI, 335, .inl f_s)), (h_read, .inl (cI, 135, .inl f_read)), (h_names, .inl (cJ, 36, .inr (.inl f_names))), (h_reserved, .inl (cJ, 23, .inr (.inl f_reserved))), (h_stack, .inl (cI, 45, .inl f_stack))]) [6, 0, 1, 2, 3, 4, 5] (by decide) rfl) dX10_operand_61 rfl (Nat.le_of_ble_eq_true rfl) (Nat.le_of_ble_eq_true rfl) ⟨F465, x_p, x_token, x_at, x_span, x_number, 4, x_at, x_word, x_codes, x_ones, x_top, x_deep, x_isWhole, f_read, f_stack, (SAME.tr SAME.rf t466 (by decide)), (SAME.at t466 (by decide) e_p), i_x_p, (SAME.at t466 (by decide) e_token), i_x_token, (SAME.at t466 (by decide) e_at), (SAME.at t466 (by decide) e_span), (SAME.at t466 (by decide) e_number), t467, t468, (SAME.at t466 (by decide) e_word), (SAME.at t466 (by decide) e_codes), i_x_codes, (SAME.at t466 (by decide) e_ones), (ir_wk k164 (by decide) (by decide)), (SAME.at t466 (by decide) e_top), i_x_top, (SAME.at t466 (by decide) e_deep), (SAME.at t466 (by decide) e_isWhole), i_x_isWhole, (show 0 ≤ (0 : Int32).toInt ∧ (0 : Int32).toInt ≤ 1 by decide), (by have zl0 : (0 : Int32).toInt = 0 := (by decide); have zl1 : (1 : Int32).toInt = 1 := (by decide); omega), (fun q => absurd q (by decide)), (by have zl4 : (4 : Int32).toInt = 4 := (by decide); omega), (by have zl4 : (4 : Int32).toInt = 4 := (by decide); omega), rfl⟩
      · have dc154 : r9.toInt < 0 := nle_i (a := 0) (b := r9.toInt) rfl rfl c154
        have k470 : (-1) ≤ r9.toInt ∧ r9.toInt ≤ (-1) := ⟨t10.1, up_lt dc154 (Int.le_refl _) (by decide)⟩
        refine lv_aload_n hx hb dX10_operand_32 rfl (lv_at hl 3 rfl) ?_
        refine lv_iconst (v := 1) hx hb dX10_operand_33 (by decide) ?_
        refine call_Vi (wr := [(h_tape, .inl (cB, 940, .inl f_tape)), (h_s, .inl (cI, 335, .inl f_s)), (h_read, .inl (cI, 135, .inl f_read)), (h_names, .inl (cJ, 36, .inr (.inl f_names))), (h_reserved, .inl (cJ, 23, .inr (.inl f_reserved))), (h_stack, .inl (cI, 45, .inl f_stack))]) (As := [.int 1]) (rest := []) hx hb hml hown hw (m_X10_bad l D cI cJ cB cP cM cZ h0 Fh x_at 1 _ e_at) wV_X10_205_X10_bad dX10_operand_34 hK hP hD hS hA [6] [0, 1, 2, 3, 4, 5] rfl rfl (by decide) (by decide) (by decide) 0 10 rfl rfl GG.fb hG.at hl.1 rfl (Nat.le_of_ble_eq_true rfl) ⟨(Nat.le_of_ble_eq_true rfl), (Nat.le_of_ble_eq_true rfl)⟩ ⟨(Nat.le_of_ble_eq_true rfl), (Nat.le_of_ble_eq_true rfl)⟩ (fun r471 u H locs hp hP hD hS => ?_)
        have zl1 : (1 : Int32).toInt = 1 := by decide
        obtain ⟨F472, t473, t474, t475, rfl, rfl⟩ := hp
        have hP : va_P D vwCl [(h_tape, .inl (cB, 940, .inl f_tape)), (h_s, .inl (cI, 335, .inl f_s)), (h_read, .inl (cI, 135, .inl f_read)), (h_names, .inl (cJ, 36, .inr (.inl f_names))), (h_reserved, .inl (cJ, 23, .inr (.inl f_reserved))), (h_stack, .inl (cI, 45, .inl f_stack)), (h0, .inr (10, vL 67 F472))] H := hP
        have hD : va_D A [(h_tape, .inl (cB, 940, .inl f_tape)), (h_s, .inl (cI, 335, .inl f_s)), (h_read, .inl (cI, 135, .inl f_read)), (h_names, .inl (cJ, 36, .inr (.inl f_names))), (h_reserved, .inl (cJ, 23, .inr (.inl f_reserved))), (h_stack, .inl (cI, 45, .inl f_stack)), (h0, .inr (10, vL 67 F472))] := hD
        refine W.widen (k := 0) (n := 0) (Nat.le_of_ble_eq_true rfl) (Nat.le_of_ble_eq_true rfl) ?_
        exact ret_i (v := 0) hx hb hr hlocks hS (hP.sub (ws' := [(h0, .inr (10, vL 67 F472)), (h_tape, .inl (cB, 940, .inl f_tape)), (h_s, .inl (cI, 335, .inl f_s)), (h_read, .inl (cI, 135, .inl f_read)), (h_names, .inl (cJ, 36, .inr (.inl f_names))), (h_reserved, .inl (cJ, 23, .inr (.inl f_reserved))), (h_stack, .inl (cI, 45, .inl f_stack))]) [6, 0, 1, 2, 3, 4, 5] rfl) (hD.sub (ws' := [(h0, .inr (10, vL 67 F472)), (h_tape, .inl (cB, 940, .inl f_tape)), (h_s, .inl (cI, 335, .inl f_s)), (h_read, .inl (cI, 135, .inl f_read)), (h_names, .inl (cJ, 36, .inr (.inl f_names))), (h_reserved, .inl (cJ, 23, .inr (.inl f_reserved))), (h_stack, .inl (cI, 45, .inl f_stack))]) [6, 0, 1, 2, 3, 4, 5] (by decide) rfl) dX10_operand_37 rfl (Nat.le_of_ble_eq_true rfl) (Nat.le_of_ble_eq_true rfl) ⟨F472, x_p, x_token, x_at, x_span, x_number, 1, x_at, x_word, x_codes, x_ones, x_top, x_deep, x_isWhole, f_read, f_stack, (SAME.tr SAME.rf t473 (by decide)), (SAME.at t473 (by decide) e_p), i_x_p, (SAME.at t473 (by decide) e_token), i_x_token, (SAME.at t473 (by decide) e_at), (SAME.at t473 (by decide) e_span), (SAME.at t473 (by decide) e_number), t474, t475, (SAME.at t473 (by decide) e_word), (SAME.at t473 (by decide) e_codes), i_x_codes, (SAME.at t473 (by decide) e_ones), i_x_ones, (SAME.at t473 (by decide) e_top), i_x_top, (SAME.at t473 (by decide) e_deep), (SAME.at t473 (by decide) e_isWhole), i_x_isWhole, (show 0 ≤ (0 : Int32).toInt ∧ (0 : Int32).toInt ≤ 1 by decide), (by have zl0 : (0 : Int32).toInt = 0 := (by decide); have zl1 : (1 : Int32).toInt = 1 := (by decide); omega), (fun q => absurd q (by decide)), (by have zl1 : (1 : Int32).toInt = 1 := (by decide); omega), (by have zl1 : (1 : Int32).toInt = 1 := (by decide); omega), rfl⟩
