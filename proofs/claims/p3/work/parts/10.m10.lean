set_option maxHeartbeats 4000000 in
set_option maxRecDepth 100000 in
theorem m_X10_best (l : Launch) (D : va_G) (cI cJ cB cP cM cZ : ClassId) (h0 : Nat) (h_s : Nat) (h_behindAt : Nat) (h_times : Nat) (h_bestYard : Nat) (h_bestCrew : Nat) (h_stateBy : Nat) (h_timeOf : Nat) (Fh : Nat → Value) (x_bendsGone : Int32) (x_overAt : Int32) (x_endPace : Int32) (x_touchBend : Int32) (x_touchBy : Int32) (x_bestId : Int32) (x_choicePace : Int32) (x_choiceSet : Int32) (x_choiceAhead : Int32) (x_hasBest : Int32) (f_s : Nat → Int32) (f_behindAt : Nat → Int32) (f_times : Nat → Int32) (f_bestYard : Nat → Int32) (f_bestCrew : Nat → Int32) (f_stateBy : Nat → Int32) (f_timeOf : Nat → Int32) (sz : Nat) (e_s : Fh 6 = .ref h_s) (e_behindAt : Fh 33 = .ref h_behindAt) (e_bendsGone : Fh 34 = .int x_bendsGone) (i_x_bendsGone : IR 0 12 x_bendsGone) (e_overAt : Fh 35 = .int x_overAt) (e_endPace : Fh 36 = .int x_endPace) (e_touchBend : Fh 37 = .int x_touchBend) (e_touchBy : Fh 38 = .int x_touchBy) (i_x_touchBy : IR 0 99 x_touchBy) (e_times : Fh 42 = .ref h_times) (e_bestYard : Fh 43 = .ref h_bestYard) (e_bestCrew : Fh 44 = .ref h_bestCrew) (e_bestId : Fh 45 = .int x_bestId) (e_choicePace : Fh 46 = .int x_choicePace) (e_choiceSet : Fh 47 = .int x_choiceSet) (e_choiceAhead : Fh 48 = .int x_choiceAhead) (e_stateBy : Fh 49 = .ref h_stateBy) (e_timeOf : Fh 50 = .ref h_timeOf) (e_hasBest : Fh 51 = .int x_hasBest) (i_x_hasBest : IR 0 1 x_hasBest) (s_s_K0 : KW 0 f_s) (s_s_0 : SG 0 0 0 40 f_s) (s_s_105 : SG 105 108 0 11 f_s) (s_s_114 : SG 114 114 0 5 f_s) (s_s_130 : SG 130 133 0 11 f_s) (s_s_139 : SG 139 139 0 5 f_s) (s_s_153 : SG 153 153 0 44 f_s) (s_s_44 : SG 44 55 0 9 f_s) (s_s_5 : SG 5 5 0 12 f_s) (s_s_6 : SG 6 6 0 12 f_s) (s_s_7 : SG 7 7 0 6 f_s) (s_times_0 : SG 0 316191 0 100000000 f_times) (s_stateBy_0 : SG 0 38559 (-1) 7711 f_stateBy) (s_timeOf_0 : SG 0 38559 0 300 f_timeOf) : CI l yX10_best cX10_best 5 (some .int) { frames := 6, cells := 0, slots := 0, locals := 141 } (GG D cI cJ cB cP cM cZ) D [(h0, .inr (10, vL 67 Fh)), (h_s, .inl (cI, 335, .inl f_s)), (h_behindAt, .inl (cI, 12, .inl f_behindAt)), (h_times, .inl (cI, 316192, .inl f_times)), (h_bestYard, .inl (cI, 4, .inl f_bestYard)), (h_bestCrew, .inl (cI, 4, .inl f_bestCrew)), (h_stateBy, .inl (cI, 38560, .inl f_stateBy)), (h_timeOf, .inl (cI, 38560, .inl f_timeOf))] sz [.ref h0] (fun (r : Int32) (u : va_W) => ∃ (Gh : Nat → Value) (y_bendsGone : Int32) (y_overAt : Int32) (y_endPace : Int32) (y_bestId : Int32) (y_choicePace : Int32) (y_choiceSet : Int32) (y_choiceAhead : Int32) (y_hasBest : Int32) (g_behindAt : Nat → Int32) (g_times : Nat → Int32) (g_bestYard : Nat → Int32) (g_bestCrew : Nat → Int32) (g_stateBy : Nat → Int32) (g_timeOf : Nat → Int32), SAME [0, 34, 35, 36, 45, 46, 47, 48, 51] Fh Gh ∧ Gh 0 = .int 0 ∧ Gh 34 = .int y_bendsGone ∧ IR 0 12 y_bendsGone ∧ Gh 35 = .int y_overAt ∧ Gh 36 = .int y_endPace ∧ Gh 45 = .int y_bestId ∧ Gh 46 = .int y_choicePace ∧ Gh 47 = .int y_choiceSet ∧ Gh 48 = .int y_choiceAhead ∧ Gh 51 = .int y_hasBest ∧ IR 0 1 y_hasBest ∧ SG 0 316191 0 100000000 g_times ∧ SG 0 38559 (-1) 7711 g_stateBy ∧ SG 0 38559 0 300 g_timeOf ∧ IR (-1) 99999999 r ∧ u = [(h0, .inr (10, vL 67 Gh)), (h_s, .inl (cI, 335, .inl f_s)), (h_behindAt, .inl (cI, 12, .inl g_behindAt)), (h_times, .inl (cI, 316192, .inl g_times)), (h_bestYard, .inl (cI, 4, .inl g_bestYard)), (h_bestCrew, .inl (cI, 4, .inl g_bestCrew)), (h_stateBy, .inl (cI, 38560, .inl g_stateBy)), (h_timeOf, .inl (cI, 38560, .inl g_timeOf))]) := by
  refine CI_mk (by decide) (Nat.le_of_ble_eq_true rfl) ?_
  intro p e s m below meth c A ls E hAe hG hsz hP hD hA hS hl
  obtain ⟨hx, hb, hr, hw, hown, hlocks, hml, hnm⟩ := E
  have hK := hG.1
  have i_x_bendsGone : 0 ≤ x_bendsGone.toInt ∧ x_bendsGone.toInt ≤ 12 := i_x_bendsGone
  have i_x_touchBy : 0 ≤ x_touchBy.toInt ∧ x_touchBy.toInt ≤ 99 := i_x_touchBy
  have i_x_hasBest : 0 ≤ x_hasBest.toInt ∧ x_hasBest.toInt ≤ 1 := i_x_hasBest
  have hl : lv_has ls 5 [(0, .ref h0)] := hl
  refine lv_aload_n hx hb dX10_best_0 rfl (lv_at hl 0 rfl) ?_
  refine lv_iconst (v := 0) hx hb dX10_best_1 (by decide) ?_
  refine put_f (D := D) (ci := 10) (v := .int 0) (ty := .int) (C := RX10) (T := TX10) (N := 67) hx hb hw inAX10 tyX10 tyX10_ok nmX10 hown hK hP hD hS 0 rfl rfl 0 (by decide) (hw _ q_1261) (fun _ h9 => h9) rfl (by decide +kernel) rfl rfl dX10_best_2 (fun H locs F1 eF1 hP hD hS => ?_)
  have hP : va_P D vwCl [(h0, .inr (10, vL 67 F1)), (h_s, .inl (cI, 335, .inl f_s)), (h_behindAt, .inl (cI, 12, .inl f_behindAt)), (h_times, .inl (cI, 316192, .inl f_times)), (h_bestYard, .inl (cI, 4, .inl f_bestYard)), (h_bestCrew, .inl (cI, 4, .inl f_bestCrew)), (h_stateBy, .inl (cI, 38560, .inl f_stateBy)), (h_timeOf, .inl (cI, 38560, .inl f_timeOf))] H := hP
  have hD : va_D A [(h0, .inr (10, vL 67 F1)), (h_s, .inl (cI, 335, .inl f_s)), (h_behindAt, .inl (cI, 12, .inl f_behindAt)), (h_times, .inl (cI, 316192, .inl f_times)), (h_bestYard, .inl (cI, 4, .inl f_bestYard)), (h_bestCrew, .inl (cI, 4, .inl f_bestCrew)), (h_stateBy, .inl (cI, 38560, .inl f_stateBy)), (h_timeOf, .inl (cI, 38560, .inl f_timeOf))] := hD
  refine lv_aload_n hx hb dX10_best_5 rfl (lv_at hl 0 rfl) ?_
  have n2 : F1 6 = .ref h_s := (get_ne eF1 (by decide) e_s)
  refine call_Vi (wr := [(h_behindAt, .inl (cI, 12, .inl f_behindAt)), (h_times, .inl (cI, 316192, .inl f_times)), (h_bestYard, .inl (cI, 4, .inl f_bestYard)), (h_bestCrew, .inl (cI, 4, .inl f_bestCrew)), (h_stateBy, .inl (cI, 38560, .inl f_stateBy)), (h_timeOf, .inl (cI, 38560, .inl f_timeOf))]) (As := []) (rest := []) hx hb hml hown hw (m_X10_hasCrew l D cI cJ cB cP cM cZ h0 h_s F1 f_s _ n2 s_s_K0 s_s_0 s_s_105 s_s_114 s_s_130 s_s_139 s_s_153 s_s_44 s_s_5 s_s_6 s_s_7) wV_X10_281_X10_hasCrew dX10_best_6 hK hP hD hS hA [0, 1] [2, 3, 4, 5, 6, 7] rfl rfl (by decide) (by decide) (by decide) 0 10 rfl rfl GG.fb hG.at hl.1 rfl (Nat.le_of_ble_eq_true rfl) ⟨(Nat.le_of_ble_eq_true rfl), (Nat.le_of_ble_eq_true rfl)⟩ ⟨(Nat.le_of_ble_eq_true rfl), (Nat.le_of_ble_eq_true rfl)⟩ (fun r3 u H locs hp hP hD hS => ?_)
  rcases hp with ⟨rfl, rfl⟩ | ⟨rfl, rfl⟩
  · have hP : va_P D vwCl [(h_behindAt, .inl (cI, 12, .inl f_behindAt)), (h_times, .inl (cI, 316192, .inl f_times)), (h_bestYard, .inl (cI, 4, .inl f_bestYard)), (h_bestCrew, .inl (cI, 4, .inl f_bestCrew)), (h_stateBy, .inl (cI, 38560, .inl f_stateBy)), (h_timeOf, .inl (cI, 38560, .inl f_timeOf)), (h0, .inr (10, vL 67 F1)), (h_s, .inl (cI, 335, .inl f_s))] H := hP
    have hD : va_D A [(h_behindAt, .inl (cI, 12, .inl f_behindAt)), (h_times, .inl (cI, 316192, .inl f_times)), (h_bestYard, .inl (cI, 4, .inl f_bestYard)), (h_bestCrew, .inl (cI, 4, .inl f_bestCrew)), (h_stateBy, .inl (cI, 38560, .inl f_stateBy)), (h_timeOf, .inl (cI, 38560, .inl f_timeOf)), (h0, .inr (10, vL 67 F1)), (h_s, .inl (cI, 335, .inl f_s))] := hD
    refine W.widen (k := 0) (n := 0) (Nat.le_of_ble_eq_true rfl) (Nat.le_of_ble_eq_true rfl) ?_
    refine lv_if_ne (tgt := 14) hx hb dX10_best_9 (by decide) (fun g => absurd (by decide) g) (fun _ => ?_)
    refine lv_iconst (v := (-1)) hx hb dX10_best_12 (by decide) ?_
    exact ret_i (v := (-1)) hx hb hr hlocks hS (hP.sub (ws' := [(h0, .inr (10, vL 67 F1)), (h_s, .inl (cI, 335, .inl f_s)), (h_behindAt, .inl (cI, 12, .inl f_behindAt)), (h_times, .inl (cI, 316192, .inl f_times)), (h_bestYard, .inl (cI, 4, .inl f_bestYard)), (h_bestCrew, .inl (cI, 4, .inl f_bestCrew)), (h_stateBy, .inl (cI, 38560, .inl f_stateBy)), (h_timeOf, .inl (cI, 38560, .inl f_timeOf))]) [6, 7, 0, 1, 2, 3, 4, 5] rfl) (hD.sub (ws' := [(h0, .inr (10, vL 67 F1)), (h_s, .inl (cI, 335, .inl f_s)), (h_behindAt, .inl (cI, 12, .inl f_behindAt)), (h_times, .inl (cI, 316192, .inl f_times)), (h_bestYard, .inl (cI, 4, .inl f_bestYard)), (h_bestCrew, .inl (cI, 4, .inl f_bestCrew)), (h_stateBy, .inl (cI, 38560, .inl f_stateBy)), (h_timeOf, .inl (cI, 38560, .inl f_timeOf))]) [6, 7, 0, 1, 2, 3, 4, 5] (by decide) rfl) dX10_best_13 rfl (Nat.le_of_ble_eq_true rfl) (Nat.le_of_ble_eq_true rfl) ⟨F1, x_bendsGone, x_overAt, x_endPace, x_bestId, x_choicePace, x_choiceSet, x_choiceAhead, x_hasBest, f_behindAt, f_times, f_bestYard, f_bestCrew, f_stateBy, f_timeOf, (SAME.up eF1 SAME.rf (by decide)), (get_eq eF1), (get_ne eF1 (by decide) e_bendsGone), i_x_bendsGone, (get_ne eF1 (by decide) e_overAt), (get_ne eF1 (by decide) e_endPace), (get_ne eF1 (by decide) e_bestId), (get_ne eF1 (by decide) e_choicePace), (get_ne eF1 (by decide) e_choiceSet), (get_ne eF1 (by decide) e_choiceAhead), (get_ne eF1 (by decide) e_hasBest), i_x_hasBest, s_times_0, s_stateBy_0, s_timeOf_0, (show (-1) ≤ ((-1) : Int32).toInt ∧ ((-1) : Int32).toInt ≤ 99999999 by decide), rfl⟩
  · have hP : va_P D vwCl [(h_behindAt, .inl (cI, 12, .inl f_behindAt)), (h_times, .inl (cI, 316192, .inl f_times)), (h_bestYard, .inl (cI, 4, .inl f_bestYard)), (h_bestCrew, .inl (cI, 4, .inl f_bestCrew)), (h_stateBy, .inl (cI, 38560, .inl f_stateBy)), (h_timeOf, .inl (cI, 38560, .inl f_timeOf)), (h0, .inr (10, vL 67 F1)), (h_s, .inl (cI, 335, .inl f_s))] H := hP
    have hD : va_D A [(h_behindAt, .inl (cI, 12, .inl f_behindAt)), (h_times, .inl (cI, 316192, .inl f_times)), (h_bestYard, .inl (cI, 4, .inl f_bestYard)), (h_bestCrew, .inl (cI, 4, .inl f_bestCrew)), (h_stateBy, .inl (cI, 38560, .inl f_stateBy)), (h_timeOf, .inl (cI, 38560, .inl f_timeOf)), (h0, .inr (10, vL 67 F1)), (h_s, .inl (cI, 335, .inl f_s))] := hD
    refine W.widen (k := 0) (n := 0) (Nat.le_of_ble_eq_true rfl) (Nat.le_of_ble_eq_true rfl) ?_
    refine lv_if_ne (tgt := 14) hx hb dX10_best_9 (by decide) (fun _ => ?_) (fun g => absurd g (by decide))
    refine lv_aload_n hx hb dX10_best_14 rfl (lv_at hl 0 rfl) ?_
    have n5 : F1 33 = .ref h_behindAt := (get_ne eF1 (by decide) e_behindAt)
    have n6 : F1 34 = .int x_bendsGone := (get_ne eF1 (by decide) e_bendsGone)
    have n7 : F1 35 = .int x_overAt := (get_ne eF1 (by decide) e_overAt)
    have n8 : F1 36 = .int x_endPace := (get_ne eF1 (by decide) e_endPace)
    have n9 : F1 37 = .int x_touchBend := (get_ne eF1 (by decide) e_touchBend)
    have n10 : F1 38 = .int x_touchBy := (get_ne eF1 (by decide) e_touchBy)
    have n11 : F1 42 = .ref h_times := (get_ne eF1 (by decide) e_times)
    have n12 : F1 46 = .int x_choicePace := (get_ne eF1 (by decide) e_choicePace)
    have n13 : F1 47 = .int x_choiceSet := (get_ne eF1 (by decide) e_choiceSet)
    have n14 : F1 48 = .int x_choiceAhead := (get_ne eF1 (by decide) e_choiceAhead)
    have n15 : F1 49 = .ref h_stateBy := (get_ne eF1 (by decide) e_stateBy)
    have n16 : F1 50 = .ref h_timeOf := (get_ne eF1 (by decide) e_timeOf)
    refine call_Vi (wr := [(h_bestYard, .inl (cI, 4, .inl f_bestYard)), (h_bestCrew, .inl (cI, 4, .inl f_bestCrew))]) (As := []) (rest := []) hx hb hml hown hw (m_X10_bestOf l D cI cJ cB cP cM cZ h0 h_s h_behindAt h_times h_stateBy h_timeOf F1 x_bendsGone x_overAt x_endPace x_touchBend x_touchBy x_choicePace x_choiceSet x_choiceAhead f_s f_behindAt f_times f_stateBy f_timeOf _ n2 n5 n6 i_x_bendsGone n7 n8 n9 n10 i_x_touchBy n11 n12 n13 n14 n15 n16 s_s_K0 s_s_0 s_s_105 s_s_114 s_s_130 s_s_139 s_s_153 s_s_44 s_s_5 s_s_6 s_s_7 s_times_0 s_stateBy_0 s_timeOf_0) wV_X10_401_X10_bestOf dX10_best_15 hK hP hD hS hA [6, 7, 0, 1, 4, 5] [2, 3] rfl rfl (by decide) (by decide) (by decide) 0 10 rfl rfl GG.fb hG.at hl.1 rfl (Nat.le_of_ble_eq_true rfl) ⟨(Nat.le_of_ble_eq_true rfl), (Nat.le_of_ble_eq_true rfl)⟩ ⟨(Nat.le_of_ble_eq_true rfl), (Nat.le_of_ble_eq_true rfl)⟩ (fun r17 u H locs hp hP hD hS => ?_)
    refine hp.elim (fun F18 h9z0 => h9z0.elim (fun y19 h9z1 => h9z1.elim (fun y20 h9z2 => h9z2.elim (fun y21 h9z3 => h9z3.elim (fun y22 h9z4 => h9z4.elim (fun y23 h9z5 => h9z5.elim (fun y24 h9z6 => h9z6.elim (fun g25 h9z7 => h9z7.elim (fun g26 h9z8 => h9z8.elim (fun g27 h9z9 => h9z9.elim (fun g28 h9z10 => h9z10.elim (fun t29 h9z11 => h9z11.elim (fun t30 h9z12 => h9z12.elim (fun t31 h9z13 => h9z13.elim (fun t32 h9z14 => h9z14.elim (fun t33 h9z15 => h9z15.elim (fun t34 h9z16 => h9z16.elim (fun t35 h9z17 => h9z17.elim (fun t36 h9z18 => h9z18.elim (fun t37 h9z19 => h9z19.elim (fun t38 h9z20 => h9z20.elim (fun t39 h9z21 => h9z21.elim (fun t40 h9z22 => h9z22.elim (fun t41 h9z23 => h9z23.elim (fun t42 h9z24 => ?_)))))))))))))))))))))))))
    clear h9z0 h9z1 h9z2 h9z3 h9z4 h9z5 h9z6 h9z7 h9z8 h9z9 h9z10 h9z11 h9z12 h9z13 h9z14 h9z15 h9z16 h9z17 h9z18 h9z19 h9z20 h9z21 h9z22 h9z23
    subst h9z24
    have hP : va_P D vwCl [(h_bestYard, .inl (cI, 4, .inl f_bestYard)), (h_bestCrew, .inl (cI, 4, .inl f_bestCrew)), (h0, .inr (10, vL 67 F18)), (h_s, .inl (cI, 335, .inl f_s)), (h_behindAt, .inl (cI, 12, .inl g25)), (h_times, .inl (cI, 316192, .inl g26)), (h_stateBy, .inl (cI, 38560, .inl g27)), (h_timeOf, .inl (cI, 38560, .inl g28))] H := hP
    have hD : va_D A [(h_bestYard, .inl (cI, 4, .inl f_bestYard)), (h_bestCrew, .inl (cI, 4, .inl f_bestCrew)), (h0, .inr (10, vL 67 F18)), (h_s, .inl (cI, 335, .inl f_s)), (h_behindAt, .inl (cI, 12, .inl g25)), (h_times, .inl (cI, 316192, .inl g26)), (h_stateBy, .inl (cI, 38560, .inl g27)), (h_timeOf, .inl (cI, 38560, .inl g28))] := hD
    refine W.widen (k := 0) (n := 0) (Nat.le_of_ble_eq_true rfl) (Nat.le_of_ble_eq_true rfl) ?_
    refine lv_istore_n (lv' := [(1, .int r17), (0, .ref h0)]) hx hb dX10_best_18 rfl hl (by decide) rfl (fun ls hl => ?_)
    refine lv_iload_n hx hb dX10_best_19 rfl (lv_at hl 0 rfl) ?_
    refine lv_ldcw hx hb hown (hw _ q_1701) dX10_best_20 ?_
    refine lv_icmp_lt (tgt := 28) hx hb dX10_best_23 (by decide) (fun c44 => ?_) (fun c44 => ?_)
    · have dc44 : r17.toInt < 100000000 := lt_i (a := r17.toInt) (b := 100000000) rfl rfl c44
      have k45 : 0 ≤ r17.toInt ∧ r17.toInt ≤ 99999999 := ⟨t40.1, up_lt dc44 (Int.le_refl _) (by decide)⟩
      refine lv_iconst (v := 0) hx hb dX10_best_28 (by decide) ?_
      refine lv_iconst (v := 0) hx hb dX10_best_29 (by decide) ?_
      refine lv_iconst (v := 0) hx hb dX10_best_30 (by decide) ?_
      refine lv_bipush (v := 30) hx hb dX10_best_31 (by decide) ?_
      refine call_Si (wr := [(h_bestYard, .inl (cI, 4, .inl f_bestYard)), (h_bestCrew, .inl (cI, 4, .inl f_bestCrew)), (h0, .inr (10, vL 67 F18)), (h_s, .inl (cI, 335, .inl f_s)), (h_behindAt, .inl (cI, 12, .inl g25)), (h_times, .inl (cI, 316192, .inl g26)), (h_stateBy, .inl (cI, 38560, .inl g27)), (h_timeOf, .inl (cI, 38560, .inl g28))]) (As := [.int 0, .int 0, .int 0, .int 30]) (rest := []) hx hb hml hown hw (m_X10_slot l D cI cJ cB cP cM cZ 0 0 0 30 _ (show 0 ≤ (0 : Int32).toInt ∧ (0 : Int32).toInt ≤ 40 by decide) (show 0 ≤ (0 : Int32).toInt ∧ (0 : Int32).toInt ≤ 15 by decide) (show 0 ≤ (0 : Int32).toInt ∧ (0 : Int32).toInt ≤ 1 by decide) (show 10 ≤ (30 : Int32).toInt ∧ (30 : Int32).toInt ≤ 250 by decide)) wS_X10_390_X10_slot dX10_best_33 hP hD hS hA [] [0, 1, 2, 3, 4, 5, 6, 7] rfl rfl (by decide) (by decide) (by decide) GG.fb hG.at hl.1 rfl (Nat.le_of_ble_eq_true rfl) ⟨(Nat.le_of_ble_eq_true rfl), (Nat.le_of_ble_eq_true rfl)⟩ ⟨(Nat.le_of_ble_eq_true rfl), (Nat.le_of_ble_eq_true rfl)⟩ (fun r46 u H locs hp hP hD hS => ?_)
      have zl0 : (0 : Int32).toInt = 0 := by decide
      have zl30 : (30 : Int32).toInt = 30 := by decide
      obtain ⟨t47, t48, rfl⟩ := hp
      have hP : va_P D vwCl [(h_bestYard, .inl (cI, 4, .inl f_bestYard)), (h_bestCrew, .inl (cI, 4, .inl f_bestCrew)), (h0, .inr (10, vL 67 F18)), (h_s, .inl (cI, 335, .inl f_s)), (h_behindAt, .inl (cI, 12, .inl g25)), (h_times, .inl (cI, 316192, .inl g26)), (h_stateBy, .inl (cI, 38560, .inl g27)), (h_timeOf, .inl (cI, 38560, .inl g28))] H := hP
      have hD : va_D A [(h_bestYard, .inl (cI, 4, .inl f_bestYard)), (h_bestCrew, .inl (cI, 4, .inl f_bestCrew)), (h0, .inr (10, vL 67 F18)), (h_s, .inl (cI, 335, .inl f_s)), (h_behindAt, .inl (cI, 12, .inl g25)), (h_times, .inl (cI, 316192, .inl g26)), (h_stateBy, .inl (cI, 38560, .inl g27)), (h_timeOf, .inl (cI, 38560, .inl g28))] := hD
      refine W.widen (k := 0) (n := 0) (Nat.le_of_ble_eq_true rfl) (Nat.le_of_ble_eq_true rfl) ?_
      have k50 : 20 ≤ r46.toInt ∧ r46.toInt ≤ 20 := ⟨by omega, by omega⟩
      refine lv_istore_n (lv' := [(2, .int r46), (1, .int r17), (0, .ref h0)]) hx hb dX10_best_36 rfl hl (by decide) rfl (fun ls hl => ?_)
      refine lv_iconst (v := 0) hx hb dX10_best_37 (by decide) ?_
      refine lv_istore_n (lv' := [(3, .int 0), (2, .int r46), (1, .int r17), (0, .ref h0)]) hx hb dX10_best_38 rfl hl (by decide) rfl (fun ls hl => ?_)
      refine mloop (α := (Int32) × (Int32) × (Nat → Int32)) (nL := 5) (D := D) (A := A) (H0 := s.heap) (fun a => (40 - a.1.toInt).toNat) (fun a => IR 0 40 a.1 ∧ IR 0 7711 a.2.1 ∧ ((g26 (7712 * a.1.toInt + a.2.1.toInt).toNat).toInt < 100000000)) (fun a => [(h_bestYard, .inl (cI, 4, .inl a.2.2)), (h_bestCrew, .inl (cI, 4, .inl f_bestCrew)), (h0, .inr (10, vL 67 F18)), (h_s, .inl (cI, 335, .inl f_s)), (h_behindAt, .inl (cI, 12, .inl g25)), (h_times, .inl (cI, 316192, .inl g26)), (h_stateBy, .inl (cI, 38560, .inl g27)), (h_timeOf, .inl (cI, 38560, .inl g28))]) (fun a => [(3, .int a.1), (2, .int a.2.1), (1, .int r17), (0, .ref h0)]) (fun H locs ls => W p l e ({ frames := 6, cells := 0, slots := 0, locals := 141 } : Room) s m [.ref h0].toArray below meth c H locs 0 0 (MQ below (va_Qi (fun (r : Int32) (u : va_W) => ∃ (Gh : Nat → Value) (y_bendsGone : Int32) (y_overAt : Int32) (y_endPace : Int32) (y_bestId : Int32) (y_choicePace : Int32) (y_choiceSet : Int32) (y_choiceAhead : Int32) (y_hasBest : Int32) (g_behindAt : Nat → Int32) (g_times : Nat → Int32) (g_bestYard : Nat → Int32) (g_bestCrew : Nat → Int32) (g_stateBy : Nat → Int32) (g_timeOf : Nat → Int32), SAME [0, 34, 35, 36, 45, 46, 47, 48, 51] Fh Gh ∧ Gh 0 = .int 0 ∧ Gh 34 = .int y_bendsGone ∧ IR 0 12 y_bendsGone ∧ Gh 35 = .int y_overAt ∧ Gh 36 = .int y_endPace ∧ Gh 45 = .int y_bestId ∧ Gh 46 = .int y_choicePace ∧ Gh 47 = .int y_choiceSet ∧ Gh 48 = .int y_choiceAhead ∧ Gh 51 = .int y_hasBest ∧ IR 0 1 y_hasBest ∧ SG 0 316191 0 100000000 g_times ∧ SG 0 38559 (-1) 7711 g_stateBy ∧ SG 0 38559 0 300 g_timeOf ∧ IR (-1) 99999999 r ∧ u = [(h0, .inr (10, vL 67 Gh)), (h_s, .inl (cI, 335, .inl f_s)), (h_behindAt, .inl (cI, 12, .inl g_behindAt)), (h_times, .inl (cI, 316192, .inl g_times)), (h_bestYard, .inl (cI, 4, .inl g_bestYard)), (h_bestCrew, .inl (cI, 4, .inl g_bestCrew)), (h_stateBy, .inl (cI, 38560, .inl g_stateBy)), (h_timeOf, .inl (cI, 38560, .inl g_timeOf))]) (PO D A) A) [.ref h0].toArray s 0 0 A) (F0 m 39 ls [])) ?_ (0, r46, f_bestYard) ⟨(show 0 ≤ (0 : Int32).toInt ∧ (0 : Int32).toInt ≤ 40 by decide), (ir_wk k50 (by decide) (by decide)), (show (g26 (7712 * 0 + r46.toInt).toNat).toInt < 100000000 from (by rw [show (7712 * 0 + r46.toInt).toNat = 20 by omega, ← t42]; omega))⟩ _ _ _ hP hD hS hl
      rintro ⟨u51, u52, w53⟩ ⟨i54, i55, i56⟩ ih H locs ls hP hD hS hl
      have i54 : 0 ≤ u51.toInt ∧ u51.toInt ≤ 40 := i54
      have i55 : 0 ≤ u52.toInt ∧ u52.toInt ≤ 7711 := i55
      have i56 : (g26 (7712 * u51.toInt + u52.toInt).toNat).toInt < 100000000 := i56
      have hP : va_P D vwCl [(h_bestYard, .inl (cI, 4, .inl w53)), (h_bestCrew, .inl (cI, 4, .inl f_bestCrew)), (h0, .inr (10, vL 67 F18)), (h_s, .inl (cI, 335, .inl f_s)), (h_behindAt, .inl (cI, 12, .inl g25)), (h_times, .inl (cI, 316192, .inl g26)), (h_stateBy, .inl (cI, 38560, .inl g27)), (h_timeOf, .inl (cI, 38560, .inl g28))] H := hP
      have hD : va_D A [(h_bestYard, .inl (cI, 4, .inl w53)), (h_bestCrew, .inl (cI, 4, .inl f_bestCrew)), (h0, .inr (10, vL 67 F18)), (h_s, .inl (cI, 335, .inl f_s)), (h_behindAt, .inl (cI, 12, .inl g25)), (h_times, .inl (cI, 316192, .inl g26)), (h_stateBy, .inl (cI, 38560, .inl g27)), (h_timeOf, .inl (cI, 38560, .inl g28))] := hD
      have hl : lv_has ls 5 [(3, .int u51), (2, .int u52), (1, .int r17), (0, .ref h0)] := hl
      refine lv_iload_n hx hb dX10_best_39 rfl (lv_at hl 0 rfl) ?_
      refine lv_aload_n hx hb dX10_best_40 rfl (lv_at hl 3 rfl) ?_
      have n57 : F18 6 = .ref h_s := (SAME.at t29 (by decide) n2)
      refine get_f (D := D) (ci := 10) (v := .ref h_s) (C := RX10) (T := TX10) (N := 67) hx hb hw inAX10 hown hK hP 2 rfl rfl 6 (by decide) (hw _ q_1267) (fun _ h9 => h9) n57 dX10_best_41 ?_
      refine lv_iconst (v := 0) hx hb dX10_best_44 (by decide) ?_
      refine iald_n hx hb hK hP 3 0 rfl rfl 0 rfl (Nat.le_of_ble_eq_true rfl) (Nat.le_of_ble_eq_true rfl) rfl dX10_best_45 ?_
      refine lv_topi (fun v58 ev58 => ?_)
      have k59 : 0 ≤ v58.toInt ∧ v58.toInt ≤ 40 := by rw [ev58]; exact s_s_0.atN 0 (by decide) (by decide)
      refine lv_icmp_ge (tgt := 114) hx hb dX10_best_46 (by decide) (fun c60 => ?_) (fun c60 => ?_)
      · have dc60 : v58.toInt ≤ u51.toInt := le_i (a := v58.toInt) (b := u51.toInt) rfl rfl c60
        refine lv_iconst (v := 0) hx hb dX10_best_114 (by decide) ?_
        refine lv_istore_n (lv' := [(3, .int 0), (2, .int u52), (1, .int r17), (0, .ref h0)]) hx hb dX10_best_115 rfl hl (by decide) rfl (fun ls hl => ?_)
        refine mloop (α := (Int32) × (Nat → Int32)) (nL := 5) (D := D) (A := A) (H0 := s.heap) (fun a => (4 - a.1.toInt).toNat) (fun a => IR 0 4 a.1) (fun a => [(h_bestYard, .inl (cI, 4, .inl w53)), (h_bestCrew, .inl (cI, 4, .inl a.2)), (h0, .inr (10, vL 67 F18)), (h_s, .inl (cI, 335, .inl f_s)), (h_behindAt, .inl (cI, 12, .inl g25)), (h_times, .inl (cI, 316192, .inl g26)), (h_stateBy, .inl (cI, 38560, .inl g27)), (h_timeOf, .inl (cI, 38560, .inl g28))]) (fun a => [(3, .int a.1), (2, .int u52), (1, .int r17), (0, .ref h0)]) (fun H locs ls => W p l e ({ frames := 6, cells := 0, slots := 0, locals := 141 } : Room) s m [.ref h0].toArray below meth c H locs 0 0 (MQ below (va_Qi (fun (r : Int32) (u : va_W) => ∃ (Gh : Nat → Value) (y_bendsGone : Int32) (y_overAt : Int32) (y_endPace : Int32) (y_bestId : Int32) (y_choicePace : Int32) (y_choiceSet : Int32) (y_choiceAhead : Int32) (y_hasBest : Int32) (g_behindAt : Nat → Int32) (g_times : Nat → Int32) (g_bestYard : Nat → Int32) (g_bestCrew : Nat → Int32) (g_stateBy : Nat → Int32) (g_timeOf : Nat → Int32), SAME [0, 34, 35, 36, 45, 46, 47, 48, 51] Fh Gh ∧ Gh 0 = .int 0 ∧ Gh 34 = .int y_bendsGone ∧ IR 0 12 y_bendsGone ∧ Gh 35 = .int y_overAt ∧ Gh 36 = .int y_endPace ∧ Gh 45 = .int y_bestId ∧ Gh 46 = .int y_choicePace ∧ Gh 47 = .int y_choiceSet ∧ Gh 48 = .int y_choiceAhead ∧ Gh 51 = .int y_hasBest ∧ IR 0 1 y_hasBest ∧ SG 0 316191 0 100000000 g_times ∧ SG 0 38559 (-1) 7711 g_stateBy ∧ SG 0 38559 0 300 g_timeOf ∧ IR (-1) 99999999 r ∧ u = [(h0, .inr (10, vL 67 Gh)), (h_s, .inl (cI, 335, .inl f_s)), (h_behindAt, .inl (cI, 12, .inl g_behindAt)), (h_times, .inl (cI, 316192, .inl g_times)), (h_bestYard, .inl (cI, 4, .inl g_bestYard)), (h_bestCrew, .inl (cI, 4, .inl g_bestCrew)), (h_stateBy, .inl (cI, 38560, .inl g_stateBy)), (h_timeOf, .inl (cI, 38560, .inl g_timeOf))]) (PO D A) A) [.ref h0].toArray s 0 0 A) (F0 m 116 ls [])) ?_ (0, f_bestCrew) (show 0 ≤ (0 : Int32).toInt ∧ (0 : Int32).toInt ≤ 4 by decide) _ _ _ hP hD hS hl
        rintro ⟨u61, w62⟩ i63 ih_116 H locs ls hP hD hS hl
        have i63 : 0 ≤ u61.toInt ∧ u61.toInt ≤ 4 := i63
        have hP : va_P D vwCl [(h_bestYard, .inl (cI, 4, .inl w53)), (h_bestCrew, .inl (cI, 4, .inl w62)), (h0, .inr (10, vL 67 F18)), (h_s, .inl (cI, 335, .inl f_s)), (h_behindAt, .inl (cI, 12, .inl g25)), (h_times, .inl (cI, 316192, .inl g26)), (h_stateBy, .inl (cI, 38560, .inl g27)), (h_timeOf, .inl (cI, 38560, .inl g28))] H := hP
        have hD : va_D A [(h_bestYard, .inl (cI, 4, .inl w53)), (h_bestCrew, .inl (cI, 4, .inl w62)), (h0, .inr (10, vL 67 F18)), (h_s, .inl (cI, 335, .inl f_s)), (h_behindAt, .inl (cI, 12, .inl g25)), (h_times, .inl (cI, 316192, .inl g26)), (h_stateBy, .inl (cI, 38560, .inl g27)), (h_timeOf, .inl (cI, 38560, .inl g28))] := hD
        have hl : lv_has ls 5 [(3, .int u61), (2, .int u52), (1, .int r17), (0, .ref h0)] := hl
        refine lv_iload_n hx hb dX10_best_116 rfl (lv_at hl 0 rfl) ?_
        refine lv_iconst (v := 4) hx hb dX10_best_117 (by decide) ?_
        refine lv_icmp_ge (tgt := 142) hx hb dX10_best_118 (by decide) (fun c64 => ?_) (fun c64 => ?_)
        · have dc64 : 4 ≤ u61.toInt := le_i (a := 4) (b := u61.toInt) rfl rfl c64
          have k65 : 4 ≤ u61.toInt ∧ u61.toInt ≤ 4 := ⟨Int.le_trans (Int.le_refl _) dc64, i63.2⟩
          refine lv_aload_n hx hb dX10_best_142 rfl (lv_at hl 3 rfl) ?_
          refine lv_aload_n hx hb dX10_best_143 rfl (lv_at hl 3 rfl) ?_
          refine get_f (D := D) (ci := 10) (v := .ref h_s) (C := RX10) (T := TX10) (N := 67) hx hb hw inAX10 hown hK hP 2 rfl rfl 6 (by decide) (hw _ q_1267) (fun _ h9 => h9) n57 dX10_best_144 ?_
          refine lv_sipush (v := 334) hx hb dX10_best_147 (by decide) ?_
          refine iald_n hx hb hK hP 3 0 rfl rfl 334 rfl (Nat.le_of_ble_eq_true rfl) (Nat.le_of_ble_eq_true rfl) rfl dX10_best_150 ?_
          refine lv_topi (fun v66 ev66 => ?_)
          refine put_f (D := D) (ci := 10) (v := .int v66) (ty := .int) (C := RX10) (T := TX10) (N := 67) hx hb hw inAX10 tyX10 tyX10_ok nmX10 hown hK hP hD hS 2 rfl rfl 45 (by decide) (hw _ q_1306) (fun _ h9 => h9) rfl (by decide +kernel) rfl rfl dX10_best_151 (fun H locs F67 eF67 hP hD hS => ?_)
          have hP : va_P D vwCl [(h_bestYard, .inl (cI, 4, .inl w53)), (h_bestCrew, .inl (cI, 4, .inl w62)), (h0, .inr (10, vL 67 F67)), (h_s, .inl (cI, 335, .inl f_s)), (h_behindAt, .inl (cI, 12, .inl g25)), (h_times, .inl (cI, 316192, .inl g26)), (h_stateBy, .inl (cI, 38560, .inl g27)), (h_timeOf, .inl (cI, 38560, .inl g28))] H := hP
          have hD : va_D A [(h_bestYard, .inl (cI, 4, .inl w53)), (h_bestCrew, .inl (cI, 4, .inl w62)), (h0, .inr (10, vL 67 F67)), (h_s, .inl (cI, 335, .inl f_s)), (h_behindAt, .inl (cI, 12, .inl g25)), (h_times, .inl (cI, 316192, .inl g26)), (h_stateBy, .inl (cI, 38560, .inl g27)), (h_timeOf, .inl (cI, 38560, .inl g28))] := hD
          refine lv_aload_n hx hb dX10_best_154 rfl (lv_at hl 3 rfl) ?_
          refine lv_iconst (v := 1) hx hb dX10_best_155 (by decide) ?_
          refine put_f (D := D) (ci := 10) (v := .int 1) (ty := .boolean) (C := RX10) (T := TX10) (N := 67) hx hb hw inAX10 tyX10 tyX10_ok nmX10 hown hK hP hD hS 2 rfl rfl 51 (by decide) (hw _ q_1312) (fun _ h9 => h9) rfl (by decide +kernel) rfl rfl dX10_best_156 (fun H locs F68 eF68 hP hD hS => ?_)
          have hP : va_P D vwCl [(h_bestYard, .inl (cI, 4, .inl w53)), (h_bestCrew, .inl (cI, 4, .inl w62)), (h0, .inr (10, vL 67 F68)), (h_s, .inl (cI, 335, .inl f_s)), (h_behindAt, .inl (cI, 12, .inl g25)), (h_times, .inl (cI, 316192, .inl g26)), (h_stateBy, .inl (cI, 38560, .inl g27)), (h_timeOf, .inl (cI, 38560, .inl g28))] H := hP
          have hD : va_D A [(h_bestYard, .inl (cI, 4, .inl w53)), (h_bestCrew, .inl (cI, 4, .inl w62)), (h0, .inr (10, vL 67 F68)), (h_s, .inl (cI, 335, .inl f_s)), (h_behindAt, .inl (cI, 12, .inl g25)), (h_times, .inl (cI, 316192, .inl g26)), (h_stateBy, .inl (cI, 38560, .inl g27)), (h_timeOf, .inl (cI, 38560, .inl g28))] := hD
          refine lv_iload_n hx hb dX10_best_159 rfl (lv_at hl 2 rfl) ?_
          exact ret_i (v := r17) hx hb hr hlocks hS (hP.sub (ws' := [(h0, .inr (10, vL 67 F68)), (h_s, .inl (cI, 335, .inl f_s)), (h_behindAt, .inl (cI, 12, .inl g25)), (h_times, .inl (cI, 316192, .inl g26)), (h_bestYard, .inl (cI, 4, .inl w53)), (h_bestCrew, .inl (cI, 4, .inl w62)), (h_stateBy, .inl (cI, 38560, .inl g27)), (h_timeOf, .inl (cI, 38560, .inl g28))]) [2, 3, 4, 5, 0, 1, 6, 7] rfl) (hD.sub (ws' := [(h0, .inr (10, vL 67 F68)), (h_s, .inl (cI, 335, .inl f_s)), (h_behindAt, .inl (cI, 12, .inl g25)), (h_times, .inl (cI, 316192, .inl g26)), (h_bestYard, .inl (cI, 4, .inl w53)), (h_bestCrew, .inl (cI, 4, .inl w62)), (h_stateBy, .inl (cI, 38560, .inl g27)), (h_timeOf, .inl (cI, 38560, .inl g28))]) [2, 3, 4, 5, 0, 1, 6, 7] (by decide) rfl) dX10_best_160 rfl (Nat.le_of_ble_eq_true rfl) (Nat.le_of_ble_eq_true rfl) ⟨F68, y19, y20, y21, v66, y22, y23, y24, 1, g25, g26, w53, w62, g27, g28, (SAME.up eF68 (SAME.up eF67 (SAME.tr (SAME.up eF1 SAME.rf (by decide)) t29 (by decide)) (by decide)) (by decide)), (get_ne eF68 (by decide) (get_ne eF67 (by decide) (SAME.at t29 (by decide) (get_eq eF1)))), (get_ne eF68 (by decide) (get_ne eF67 (by decide) t30)), t31, (get_ne eF68 (by decide) (get_ne eF67 (by decide) t32)), (get_ne eF68 (by decide) (get_ne eF67 (by decide) t33)), (get_ne eF68 (by decide) (get_eq eF67)), (get_ne eF68 (by decide) (get_ne eF67 (by decide) t34)), (get_ne eF68 (by decide) (get_ne eF67 (by decide) t35)), (get_ne eF68 (by decide) (get_ne eF67 (by decide) t36)), (get_eq eF68), (show 0 ≤ (1 : Int32).toInt ∧ (1 : Int32).toInt ≤ 1 by decide), t37, t38, t39, (ir_wk k45 (by decide) (by decide)), rfl⟩
        · have dc64 : u61.toInt < 4 := nle_i (a := 4) (b := u61.toInt) rfl rfl c64
          have k69 : 0 ≤ u61.toInt ∧ u61.toInt ≤ 3 := ⟨i63.1, up_lt dc64 (Int.le_refl _) (by decide)⟩
          refine lv_aload_n hx hb dX10_best_121 rfl (lv_at hl 3 rfl) ?_
          have n70 : F1 44 = .ref h_bestCrew := (get_ne eF1 (by decide) e_bestCrew)
          have n71 : F18 44 = .ref h_bestCrew := (SAME.at t29 (by decide) n70)
          refine get_f (D := D) (ci := 10) (v := .ref h_bestCrew) (C := RX10) (T := TX10) (N := 67) hx hb hw inAX10 hown hK hP 2 rfl rfl 44 (by decide) (hw _ q_1305) (fun _ h9 => h9) n71 dX10_best_122 ?_
          refine lv_iload_n hx hb dX10_best_125 rfl (lv_at hl 0 rfl) ?_
          refine lv_aload_n hx hb dX10_best_126 rfl (lv_at hl 3 rfl) ?_
          refine get_f (D := D) (ci := 10) (v := .ref h_s) (C := RX10) (T := TX10) (N := 67) hx hb hw inAX10 hown hK hP 2 rfl rfl 6 (by decide) (hw _ q_1267) (fun _ h9 => h9) n57 dX10_best_127 ?_
          refine lv_bipush (v := 105) hx hb dX10_best_130 (by decide) ?_
          refine lv_iload_n hx hb dX10_best_132 rfl (lv_at hl 0 rfl) ?_
          refine lv_iadd hx hb dX10_best_133 ?_
          refine lv_topi (fun v72 ev72 => ?_)
          have bv72 : v72.toInt = 105 + u61.toInt := by rw [ev72]; exact add_k rfl rfl ⟨Int.le_refl _, Int.le_refl _⟩ k69 (by decide)
          have k73 : 105 ≤ v72.toInt ∧ v72.toInt ≤ 108 := add_r bv72 ⟨Int.le_refl _, Int.le_refl _⟩ k69 (by decide)
          refine va_iald hx hb hK hP 3 0 rfl rfl (ix_k k73 (by decide) (by decide)) dX10_best_134 ?_
          refine lv_topi (fun v74 ev74 => ?_)
          have k75 : 0 ≤ v74.toInt ∧ v74.toInt ≤ 11 := by rw [ev74]; exact s_s_105.at _ (Int.le_trans (by decide) k73.1) (Int.le_trans k73.2 (by decide))
          obtain ⟨g76, eg76⟩ : ∃ z : Nat → Int32, upd w62 u61.toNatClampNeg v74 = z := ⟨_, rfl⟩
          refine iast_g hx hb hK hP hD hS 1 0 rfl rfl (ix_k k69 (by decide) (by decide)) eg76 dX10_best_135 (fun H locs hP hD hS => ?_)
          have hP : va_P D vwCl [(h_bestYard, .inl (cI, 4, .inl w53)), (h_bestCrew, .inl (cI, 4, .inl g76)), (h0, .inr (10, vL 67 F18)), (h_s, .inl (cI, 335, .inl f_s)), (h_behindAt, .inl (cI, 12, .inl g25)), (h_times, .inl (cI, 316192, .inl g26)), (h_stateBy, .inl (cI, 38560, .inl g27)), (h_timeOf, .inl (cI, 38560, .inl g28))] H := hP
          have hD : va_D A [(h_bestYard, .inl (cI, 4, .inl w53)), (h_bestCrew, .inl (cI, 4, .inl g76)), (h0, .inr (10, vL 67 F18)), (h_s, .inl (cI, 335, .inl f_s)), (h_behindAt, .inl (cI, 12, .inl g25)), (h_times, .inl (cI, 316192, .inl g26)), (h_stateBy, .inl (cI, 38560, .inl g27)), (h_timeOf, .inl (cI, 38560, .inl g28))] := hD
          obtain ⟨v77, ev77⟩ : ∃ z : Int32, z = u61 + 1 := ⟨_, rfl⟩
          have bv77 : v77.toInt = u61.toInt + 1 := by rw [ev77]; exact add_k rfl rfl k69 ⟨Int.le_refl _, Int.le_refl _⟩ (by decide)
          have k78 : 1 ≤ v77.toInt ∧ v77.toInt ≤ 4 := add_r bv77 k69 ⟨Int.le_refl _, Int.le_refl _⟩ (by decide)
          refine lv_iinc (v := v77) (lv' := [(3, .int v77), (2, .int u52), (1, .int r17), (0, .ref h0)]) hx hb dX10_best_136 hl (k := 0) rfl (by rw [ev77]; rfl) (by decide) rfl (fun ls hl => ?_)
          refine lv_goto (tgt := 116) hx hb dX10_best_139 (by decide) ?_
          exact ih_116 (v77, g76) (ir_wk k78 (by decide) (by decide)) (by show (4 - v77.toInt).toNat < (4 - u61.toInt).toNat; omega) _ _ _ hP hD hS (lv_sub hl [0, 1, 2, 3] rfl)
      · have dc60 : u51.toInt < v58.toInt := nle_i (a := v58.toInt) (b := u51.toInt) rfl rfl c60
        have k79 : 0 ≤ u51.toInt ∧ u51.toInt ≤ 39 := ⟨i54.1, up_lt dc60 k59.2 (by decide)⟩
        have k80 : 1 ≤ v58.toInt ∧ v58.toInt ≤ 40 := ⟨lo_lt dc60 i54.1 (by decide), k59.2⟩
        refine lv_iconst (v := 0) hx hb dX10_best_49 (by decide) ?_
        refine lv_istore (lv' := [(4, .int 0), (3, .int u51), (2, .int u52), (1, .int r17), (0, .ref h0)]) hx hb dX10_best_50 hl (by decide) rfl (fun ls hl => ?_)
        refine mloop (α := (Int32)) (nL := 5) (D := D) (A := A) (H0 := s.heap) (fun a => (4 - a.toInt).toNat) (fun a => IR 0 4 a ∧ (EXC g26 g27 g28 u51 u52 (a.toInt))) (fun a => [(h_bestYard, .inl (cI, 4, .inl w53)), (h_bestCrew, .inl (cI, 4, .inl f_bestCrew)), (h0, .inr (10, vL 67 F18)), (h_s, .inl (cI, 335, .inl f_s)), (h_behindAt, .inl (cI, 12, .inl g25)), (h_times, .inl (cI, 316192, .inl g26)), (h_stateBy, .inl (cI, 38560, .inl g27)), (h_timeOf, .inl (cI, 38560, .inl g28))]) (fun a => [(4, .int a), (3, .int u51), (2, .int u52), (1, .int r17), (0, .ref h0)]) (fun H locs ls => W p l e ({ frames := 6, cells := 0, slots := 0, locals := 141 } : Room) s m [.ref h0].toArray below meth c H locs 0 0 (MQ below (va_Qi (fun (r : Int32) (u : va_W) => ∃ (Gh : Nat → Value) (y_bendsGone : Int32) (y_overAt : Int32) (y_endPace : Int32) (y_bestId : Int32) (y_choicePace : Int32) (y_choiceSet : Int32) (y_choiceAhead : Int32) (y_hasBest : Int32) (g_behindAt : Nat → Int32) (g_times : Nat → Int32) (g_bestYard : Nat → Int32) (g_bestCrew : Nat → Int32) (g_stateBy : Nat → Int32) (g_timeOf : Nat → Int32), SAME [0, 34, 35, 36, 45, 46, 47, 48, 51] Fh Gh ∧ Gh 0 = .int 0 ∧ Gh 34 = .int y_bendsGone ∧ IR 0 12 y_bendsGone ∧ Gh 35 = .int y_overAt ∧ Gh 36 = .int y_endPace ∧ Gh 45 = .int y_bestId ∧ Gh 46 = .int y_choicePace ∧ Gh 47 = .int y_choiceSet ∧ Gh 48 = .int y_choiceAhead ∧ Gh 51 = .int y_hasBest ∧ IR 0 1 y_hasBest ∧ SG 0 316191 0 100000000 g_times ∧ SG 0 38559 (-1) 7711 g_stateBy ∧ SG 0 38559 0 300 g_timeOf ∧ IR (-1) 99999999 r ∧ u = [(h0, .inr (10, vL 67 Gh)), (h_s, .inl (cI, 335, .inl f_s)), (h_behindAt, .inl (cI, 12, .inl g_behindAt)), (h_times, .inl (cI, 316192, .inl g_times)), (h_bestYard, .inl (cI, 4, .inl g_bestYard)), (h_bestCrew, .inl (cI, 4, .inl g_bestCrew)), (h_stateBy, .inl (cI, 38560, .inl g_stateBy)), (h_timeOf, .inl (cI, 38560, .inl g_timeOf))]) (PO D A) A) [.ref h0].toArray s 0 0 A) (F0 m 52 ls [])) ?_ (0) ⟨(show 0 ≤ (0 : Int32).toInt ∧ (0 : Int32).toInt ≤ 4 by decide), (show EXC g26 g27 g28 u51 u52 (0) from (EXC.of t41 ⟨by omega, by rw [← ev58]; omega⟩ ⟨by omega, by omega⟩ i56))⟩ _ _ _ hP hD hS hl
        rintro u81 ⟨i82, i83⟩ ih_52 H locs ls hP hD hS hl
        have i82 : 0 ≤ u81.toInt ∧ u81.toInt ≤ 4 := i82
        have i83 : EXC g26 g27 g28 u51 u52 (u81.toInt) := i83
        have hP : va_P D vwCl [(h_bestYard, .inl (cI, 4, .inl w53)), (h_bestCrew, .inl (cI, 4, .inl f_bestCrew)), (h0, .inr (10, vL 67 F18)), (h_s, .inl (cI, 335, .inl f_s)), (h_behindAt, .inl (cI, 12, .inl g25)), (h_times, .inl (cI, 316192, .inl g26)), (h_stateBy, .inl (cI, 38560, .inl g27)), (h_timeOf, .inl (cI, 38560, .inl g28))] H := hP
        have hD : va_D A [(h_bestYard, .inl (cI, 4, .inl w53)), (h_bestCrew, .inl (cI, 4, .inl f_bestCrew)), (h0, .inr (10, vL 67 F18)), (h_s, .inl (cI, 335, .inl f_s)), (h_behindAt, .inl (cI, 12, .inl g25)), (h_times, .inl (cI, 316192, .inl g26)), (h_stateBy, .inl (cI, 38560, .inl g27)), (h_timeOf, .inl (cI, 38560, .inl g28))] := hD
        have hl : lv_has ls 5 [(4, .int u81), (3, .int u51), (2, .int u52), (1, .int r17), (0, .ref h0)] := hl
        refine lv_aload_n hx hb dX10_best_52 rfl (lv_at hl 4 rfl) ?_
        refine lv_iload_n hx hb dX10_best_53 rfl (lv_at hl 1 rfl) ?_
        refine lv_iload_n hx hb dX10_best_54 rfl (lv_at hl 2 rfl) ?_
        refine lv_iload hx hb dX10_best_55 (lv_at hl 0 rfl) ?_
        have n84 : F18 42 = .ref h_times := (SAME.at t29 (by decide) n11)
        have n85 : F18 49 = .ref h_stateBy := (SAME.at t29 (by decide) n15)
        have n86 : F18 50 = .ref h_timeOf := (SAME.at t29 (by decide) n16)
        refine call_Vi (wr := [(h_bestYard, .inl (cI, 4, .inl w53)), (h_bestCrew, .inl (cI, 4, .inl f_bestCrew)), (h_s, .inl (cI, 335, .inl f_s)), (h_behindAt, .inl (cI, 12, .inl g25))]) (As := [.int u51, .int u52, .int u81]) (rest := []) hx hb hml hown hw (m_X10_timeBy l D cI cJ cB cP cM cZ h0 h_times h_stateBy h_timeOf F18 g26 g27 g28 u51 u52 u81 _ n84 n85 n86 t37 t38 t39 k79 i55 i82) wV_X10_398_X10_timeBy dX10_best_57 hK hP hD hS hA [2, 5, 6, 7] [0, 1, 3, 4] rfl rfl (by decide) (by decide) (by decide) 0 10 rfl rfl GG.fb hG.at hl.1 rfl (Nat.le_of_ble_eq_true rfl) ⟨(Nat.le_of_ble_eq_true rfl), (Nat.le_of_ble_eq_true rfl)⟩ ⟨(Nat.le_of_ble_eq_true rfl), (Nat.le_of_ble_eq_true rfl)⟩ (fun r87 u H locs hp hP hD hS => ?_)
        obtain ⟨t88, t89, rfl⟩ := hp
        have hP : va_P D vwCl [(h_bestYard, .inl (cI, 4, .inl w53)), (h_bestCrew, .inl (cI, 4, .inl f_bestCrew)), (h_s, .inl (cI, 335, .inl f_s)), (h_behindAt, .inl (cI, 12, .inl g25)), (h0, .inr (10, vL 67 F18)), (h_times, .inl (cI, 316192, .inl g26)), (h_stateBy, .inl (cI, 38560, .inl g27)), (h_timeOf, .inl (cI, 38560, .inl g28))] H := hP
        have hD : va_D A [(h_bestYard, .inl (cI, 4, .inl w53)), (h_bestCrew, .inl (cI, 4, .inl f_bestCrew)), (h_s, .inl (cI, 335, .inl f_s)), (h_behindAt, .inl (cI, 12, .inl g25)), (h0, .inr (10, vL 67 F18)), (h_times, .inl (cI, 316192, .inl g26)), (h_stateBy, .inl (cI, 38560, .inl g27)), (h_timeOf, .inl (cI, 38560, .inl g28))] := hD
        refine W.widen (k := 0) (n := 0) (Nat.le_of_ble_eq_true rfl) (Nat.le_of_ble_eq_true rfl) ?_
        refine lv_aload_n hx hb dX10_best_60 rfl (lv_at hl 4 rfl) ?_
        refine get_f (D := D) (ci := 10) (v := .ref h_times) (C := RX10) (T := TX10) (N := 67) hx hb hw inAX10 hown hK hP 4 rfl rfl 42 (by decide) (hw _ q_1303) (fun _ h9 => h9) n84 dX10_best_61 ?_
        refine lv_sipush (v := 7712) hx hb dX10_best_64 (by decide) ?_
        refine lv_iload_n hx hb dX10_best_67 rfl (lv_at hl 1 rfl) ?_
        refine lv_imul hx hb dX10_best_68 ?_
        refine lv_topi (fun v91 ev91 => ?_)
        have bv91 : v91.toInt = 7712 * u51.toInt := by rw [ev91]; exact kmul_k rfl rfl (by decide) k79 (by decide)
        have k92 : 0 ≤ v91.toInt ∧ v91.toInt ≤ 300768 := kmul_r bv91 (by decide) k79 (by decide)
        refine lv_iload_n hx hb dX10_best_69 rfl (lv_at hl 2 rfl) ?_
        refine lv_iadd hx hb dX10_best_70 ?_
        refine lv_topi (fun v93 ev93 => ?_)
        have bv93 : v93.toInt = v91.toInt + u52.toInt := by rw [ev93]; exact add_k rfl rfl k92 i55 (by decide)
        have k94 : 0 ≤ v93.toInt ∧ v93.toInt ≤ 308479 := add_r bv93 k92 i55 (by decide)
        refine va_iald hx hb hK hP 5 0 rfl rfl (ix_k k94 (by decide) (by decide)) dX10_best_71 ?_
        refine lv_topi (fun v95 ev95 => ?_)
        have k96 : 0 ≤ v95.toInt ∧ v95.toInt ≤ 100000000 := by rw [ev95]; exact t37.at _ (Int.le_trans (by decide) k94.1) (Int.le_trans k94.2 (by decide))
        refine lv_icmp_eq (tgt := 81) hx hb dX10_best_72 (by decide) (fun c97 => ?_) (fun c97 => ?_)
        · have dc97 : r87.toInt = v95.toInt := eq_i (a := r87.toInt) (b := v95.toInt) rfl rfl c97
          have k98 : 0 ≤ r87.toInt ∧ r87.toInt ≤ 100000000 := ⟨t88.1, Int.le_trans (Int.le_of_eq dc97) k96.2⟩
          refine lv_iload hx hb dX10_best_81 (lv_at hl 0 rfl) ?_
          refine lv_if_le (tgt := 96) hx hb dX10_best_83 (by decide) (fun c99 => ?_) (fun c99 => ?_)
          · have dc99 : u81.toInt ≤ 0 := le_i (a := u81.toInt) (b := 0) rfl rfl c99
            have k100 : 0 ≤ u81.toInt ∧ u81.toInt ≤ 0 := ⟨i82.1, Int.le_trans dc99 (Int.le_refl _)⟩
            refine lv_aload_n hx hb dX10_best_96 rfl (lv_at hl 4 rfl) ?_
            refine get_f (D := D) (ci := 10) (v := .ref h_stateBy) (C := RX10) (T := TX10) (N := 67) hx hb hw inAX10 hown hK hP 4 rfl rfl 49 (by decide) (hw _ q_1310) (fun _ h9 => h9) n85 dX10_best_97 ?_
            refine lv_iconst (v := 5) hx hb dX10_best_100 (by decide) ?_
            refine lv_iload_n hx hb dX10_best_101 rfl (lv_at hl 2 rfl) ?_
            refine lv_imul hx hb dX10_best_102 ?_
            refine lv_topi (fun v101 ev101 => ?_)
            have bv101 : v101.toInt = 5 * u52.toInt := by rw [ev101]; exact kmul_k rfl rfl (by decide) i55 (by decide)
            have k102 : 0 ≤ v101.toInt ∧ v101.toInt ≤ 38555 := kmul_r bv101 (by decide) i55 (by decide)
            refine lv_iload hx hb dX10_best_103 (lv_at hl 0 rfl) ?_
            refine lv_iadd hx hb dX10_best_105 ?_
            refine lv_topi (fun v103 ev103 => ?_)
            have bv103 : v103.toInt = v101.toInt + u81.toInt := by rw [ev103]; exact add_k rfl rfl k102 k100 (by decide)
            have k104 : 0 ≤ v103.toInt ∧ v103.toInt ≤ 38555 := add_r bv103 k102 k100 (by decide)
            refine va_iald hx hb hK hP 6 0 rfl rfl (ix_k k104 (by decide) (by decide)) dX10_best_106 ?_
            refine lv_topi (fun v105 ev105 => ?_)
            have k106 : (-1) ≤ v105.toInt ∧ v105.toInt ≤ 7711 := by rw [ev105]; exact t38.at _ (Int.le_trans (by decide) k104.1) (Int.le_trans k104.2 (by decide))
            have h107 := best_nx (cv := u81) ⟨by omega, by omega⟩ ⟨by omega, by omega⟩ ⟨by omega, by omega⟩ t38 t39 t37 t89 ev95 (by omega) (by omega) i56 ev105 (by omega)
            have k108 : 0 ≤ v105.toInt ∧ v105.toInt ≤ 7711 := ⟨h107.1, k106.2⟩
            refine lv_istore_n (lv' := [(2, .int v105), (4, .int u81), (3, .int u51), (1, .int r17), (0, .ref h0)]) hx hb dX10_best_107 rfl hl (by decide) rfl (fun ls hl => ?_)
            obtain ⟨v109, ev109⟩ : ∃ z : Int32, z = u51 + 1 := ⟨_, rfl⟩
            have bv109 : v109.toInt = u51.toInt + 1 := by rw [ev109]; exact add_k rfl rfl k79 ⟨Int.le_refl _, Int.le_refl _⟩ (by decide)
            have k110 : 1 ≤ v109.toInt ∧ v109.toInt ≤ 40 := add_r bv109 k79 ⟨Int.le_refl _, Int.le_refl _⟩ (by decide)
            refine lv_iinc (v := v109) (lv' := [(3, .int v109), (2, .int v105), (4, .int u81), (1, .int r17), (0, .ref h0)]) hx hb dX10_best_108 hl (k := 2) rfl (by rw [ev109]; rfl) (by decide) rfl (fun ls hl => ?_)
            refine lv_goto (tgt := 39) hx hb dX10_best_111 (by decide) ?_
            exact ih (v109, v105, w53) ⟨(ir_wk k110 (by decide) (by decide)), k108, (show (g26 (7712 * v109.toInt + v105.toInt).toNat).toInt < 100000000 from (by rw [show (7712 * v109.toInt + v105.toInt).toNat = (7712 * (u51.toInt + 1) + v105.toInt).toNat by omega]; exact h107.2))⟩ (by show (40 - v109.toInt).toNat < (40 - u51.toInt).toNat; omega) _ _ _ (hP.sub [0, 1, 4, 2, 3, 5, 6, 7] rfl) (hD.sub [0, 1, 4, 2, 3, 5, 6, 7] (by decide) rfl) hS (lv_sub hl [0, 1, 3, 4] rfl)
          · have dc99 : 0 < u81.toInt := nle_i (a := u81.toInt) (b := 0) rfl rfl c99
            have k111 : 1 ≤ u81.toInt ∧ u81.toInt ≤ 4 := ⟨lo_lt dc99 (Int.le_refl _) (by decide), i82.2⟩
            refine lv_aload_n hx hb dX10_best_86 rfl (lv_at hl 4 rfl) ?_
            have n112 : F1 43 = .ref h_bestYard := (get_ne eF1 (by decide) e_bestYard)
            have n113 : F18 43 = .ref h_bestYard := (SAME.at t29 (by decide) n112)
            refine get_f (D := D) (ci := 10) (v := .ref h_bestYard) (C := RX10) (T := TX10) (N := 67) hx hb hw inAX10 hown hK hP 4 rfl rfl 43 (by decide) (hw _ q_1304) (fun _ h9 => h9) n113 dX10_best_87 ?_
            refine lv_iload hx hb dX10_best_90 (lv_at hl 0 rfl) ?_
            refine lv_iconst (v := 1) hx hb dX10_best_92 (by decide) ?_
            refine lv_isub hx hb dX10_best_93 ?_
            refine lv_topi (fun v114 ev114 => ?_)
            have bv114 : v114.toInt = u81.toInt - 1 := by rw [ev114]; exact sub_k rfl rfl k111 ⟨Int.le_refl _, Int.le_refl _⟩ (by decide)
            have k115 : 0 ≤ v114.toInt ∧ v114.toInt ≤ 3 := sub_r bv114 k111 ⟨Int.le_refl _, Int.le_refl _⟩ (by decide)
            refine lv_iload_n hx hb dX10_best_94 rfl (lv_at hl 1 rfl) ?_
            obtain ⟨g116, eg116⟩ : ∃ z : Nat → Int32, upd w53 v114.toNatClampNeg u51 = z := ⟨_, rfl⟩
            refine iast_g hx hb hK hP hD hS 0 0 rfl rfl (ix_k k115 (by decide) (by decide)) eg116 dX10_best_95 (fun H locs hP hD hS => ?_)
            have hP : va_P D vwCl [(h_bestYard, .inl (cI, 4, .inl g116)), (h_bestCrew, .inl (cI, 4, .inl f_bestCrew)), (h_s, .inl (cI, 335, .inl f_s)), (h_behindAt, .inl (cI, 12, .inl g25)), (h0, .inr (10, vL 67 F18)), (h_times, .inl (cI, 316192, .inl g26)), (h_stateBy, .inl (cI, 38560, .inl g27)), (h_timeOf, .inl (cI, 38560, .inl g28))] H := hP
            have hD : va_D A [(h_bestYard, .inl (cI, 4, .inl g116)), (h_bestCrew, .inl (cI, 4, .inl f_bestCrew)), (h_s, .inl (cI, 335, .inl f_s)), (h_behindAt, .inl (cI, 12, .inl g25)), (h0, .inr (10, vL 67 F18)), (h_times, .inl (cI, 316192, .inl g26)), (h_stateBy, .inl (cI, 38560, .inl g27)), (h_timeOf, .inl (cI, 38560, .inl g28))] := hD
            refine lv_aload_n hx hb dX10_best_96 rfl (lv_at hl 4 rfl) ?_
            refine get_f (D := D) (ci := 10) (v := .ref h_stateBy) (C := RX10) (T := TX10) (N := 67) hx hb hw inAX10 hown hK hP 4 rfl rfl 49 (by decide) (hw _ q_1310) (fun _ h9 => h9) n85 dX10_best_97 ?_
            refine lv_iconst (v := 5) hx hb dX10_best_100 (by decide) ?_
            refine lv_iload_n hx hb dX10_best_101 rfl (lv_at hl 2 rfl) ?_
            refine lv_imul hx hb dX10_best_102 ?_
            refine lv_topi (fun v117 ev117 => ?_)
            have bv117 : v117.toInt = 5 * u52.toInt := by rw [ev117]; exact kmul_k rfl rfl (by decide) i55 (by decide)
            have k118 : 0 ≤ v117.toInt ∧ v117.toInt ≤ 38555 := kmul_r bv117 (by decide) i55 (by decide)
            refine lv_iload hx hb dX10_best_103 (lv_at hl 0 rfl) ?_
            refine lv_iadd hx hb dX10_best_105 ?_
            refine lv_topi (fun v119 ev119 => ?_)
            have bv119 : v119.toInt = v117.toInt + u81.toInt := by rw [ev119]; exact add_k rfl rfl k118 k111 (by decide)
            have k120 : 1 ≤ v119.toInt ∧ v119.toInt ≤ 38559 := add_r bv119 k118 k111 (by decide)
            refine va_iald hx hb hK hP 6 0 rfl rfl (ix_k k120 (by decide) (by decide)) dX10_best_106 ?_
            refine lv_topi (fun v121 ev121 => ?_)
            have k122 : (-1) ≤ v121.toInt ∧ v121.toInt ≤ 7711 := by rw [ev121]; exact t38.at _ (Int.le_trans (by decide) k120.1) (Int.le_trans k120.2 (by decide))
            have h123 := best_nx (cv := u81) ⟨by omega, by omega⟩ ⟨by omega, by omega⟩ ⟨by omega, by omega⟩ t38 t39 t37 t89 ev95 (by omega) (by omega) i56 ev121 (by omega)
            have k124 : 0 ≤ v121.toInt ∧ v121.toInt ≤ 7711 := ⟨h123.1, k122.2⟩
            refine lv_istore_n (lv' := [(2, .int v121), (4, .int u81), (3, .int u51), (1, .int r17), (0, .ref h0)]) hx hb dX10_best_107 rfl hl (by decide) rfl (fun ls hl => ?_)
            obtain ⟨v125, ev125⟩ : ∃ z : Int32, z = u51 + 1 := ⟨_, rfl⟩
            have bv125 : v125.toInt = u51.toInt + 1 := by rw [ev125]; exact add_k rfl rfl k79 ⟨Int.le_refl _, Int.le_refl _⟩ (by decide)
            have k126 : 1 ≤ v125.toInt ∧ v125.toInt ≤ 40 := add_r bv125 k79 ⟨Int.le_refl _, Int.le_refl _⟩ (by decide)
            refine lv_iinc (v := v125) (lv' := [(3, .int v125), (2, .int v121), (4, .int u81), (1, .int r17), (0, .ref h0)]) hx hb dX10_best_108 hl (k := 2) rfl (by rw [ev125]; rfl) (by decide) rfl (fun ls hl => ?_)
            refine lv_goto (tgt := 39) hx hb dX10_best_111 (by decide) ?_
            exact ih (v125, v121, g116) ⟨(ir_wk k126 (by decide) (by decide)), k124, (show (g26 (7712 * v125.toInt + v121.toInt).toNat).toInt < 100000000 from (by rw [show (7712 * v125.toInt + v121.toInt).toNat = (7712 * (u51.toInt + 1) + v121.toInt).toNat by omega]; exact h123.2))⟩ (by show (40 - v125.toInt).toNat < (40 - u51.toInt).toNat; omega) _ _ _ (hP.sub [0, 1, 4, 2, 3, 5, 6, 7] rfl) (hD.sub [0, 1, 4, 2, 3, 5, 6, 7] (by decide) rfl) hS (lv_sub hl [0, 1, 3, 4] rfl)
        · have dc97 : r87.toInt ≠ v95.toInt := ne_i (a := r87.toInt) (b := v95.toInt) rfl rfl c97
          have h127 := EXC.step i83 t89 rfl ev95 (by omega) (by omega) (rfl : u81.toInt + 1 = u81.toInt + 1)
          have dh127 := EXC.le h127
          obtain ⟨v128, ev128⟩ : ∃ z : Int32, z = u81 + 1 := ⟨_, rfl⟩
          have bv128 : v128.toInt = u81.toInt + 1 := by rw [ev128]; exact add_k rfl rfl i82 ⟨Int.le_refl _, Int.le_refl _⟩ (by decide)
          have k129 : 1 ≤ v128.toInt ∧ v128.toInt ≤ 5 := add_r bv128 i82 ⟨Int.le_refl _, Int.le_refl _⟩ (by decide)
          refine lv_iinc (v := v128) (lv' := [(4, .int v128), (3, .int u51), (2, .int u52), (1, .int r17), (0, .ref h0)]) hx hb dX10_best_75 hl (k := 0) rfl (by rw [ev128]; rfl) (by decide) rfl (fun ls hl => ?_)
          refine lv_goto (tgt := 52) hx hb dX10_best_78 (by decide) ?_
          exact ih_52 (v128) ⟨(show 0 ≤ v128.toInt ∧ v128.toInt ≤ 4 from ⟨by omega, by omega⟩), (show EXC g26 g27 g28 u51 u52 (v128.toInt) from (by rw [show v128.toInt = u81.toInt + 1 by omega]; exact h127))⟩ (by show (4 - v128.toInt).toNat < (4 - u81.toInt).toNat; omega) _ _ _ (hP.sub [0, 1, 4, 2, 3, 5, 6, 7] rfl) (hD.sub [0, 1, 4, 2, 3, 5, 6, 7] (by decide) rfl) hS (lv_sub hl [0, 1, 2, 3, 4] rfl)
    · have dc44 : 100000000 ≤ r17.toInt := nlt_i (a := r17.toInt) (b := 100000000) rfl rfl c44
      have k130 : 100000000 ≤ r17.toInt ∧ r17.toInt ≤ 100000000 := ⟨Int.le_trans (Int.le_refl _) dc44, t40.2⟩
      refine lv_iconst (v := (-1)) hx hb dX10_best_26 (by decide) ?_
      exact ret_i (v := (-1)) hx hb hr hlocks hS (hP.sub (ws' := [(h0, .inr (10, vL 67 F18)), (h_s, .inl (cI, 335, .inl f_s)), (h_behindAt, .inl (cI, 12, .inl g25)), (h_times, .inl (cI, 316192, .inl g26)), (h_bestYard, .inl (cI, 4, .inl f_bestYard)), (h_bestCrew, .inl (cI, 4, .inl f_bestCrew)), (h_stateBy, .inl (cI, 38560, .inl g27)), (h_timeOf, .inl (cI, 38560, .inl g28))]) [2, 3, 4, 5, 0, 1, 6, 7] rfl) (hD.sub (ws' := [(h0, .inr (10, vL 67 F18)), (h_s, .inl (cI, 335, .inl f_s)), (h_behindAt, .inl (cI, 12, .inl g25)), (h_times, .inl (cI, 316192, .inl g26)), (h_bestYard, .inl (cI, 4, .inl f_bestYard)), (h_bestCrew, .inl (cI, 4, .inl f_bestCrew)), (h_stateBy, .inl (cI, 38560, .inl g27)), (h_timeOf, .inl (cI, 38560, .inl g28))]) [2, 3, 4, 5, 0, 1, 6, 7] (by decide) rfl) dX10_best_27 rfl (Nat.le_of_ble_eq_true rfl) (Nat.le_of_ble_eq_true rfl) ⟨F18, y19, y20, y21, x_bestId, y22, y23, y24, x_hasBest, g25, g26, f_bestYard, f_bestCrew, g27, g28, (SAME.tr (SAME.up eF1 SAME.rf (by decide)) t29 (by decide)), (SAME.at t29 (by decide) (get_eq eF1)), t30, t31, t32, t33, (SAME.at t29 (by decide) (get_ne eF1 (by decide) e_bestId)), t34, t35, t36, (SAME.at t29 (by decide) (get_ne eF1 (by decide) e_hasBest)), i_x_hasBest, t37, t38, t39, (show (-1) ≤ ((-1) : Int32).toInt ∧ ((-1) : Int32).toInt ≤ 99999999 by decide), rfl⟩
set_option maxHeartbeats 4000000 in
set_option maxRecDepth 100000 in
theorem m_X10_when (l : Launch) (D : va_G) (cI cJ cB cP cM cZ : ClassId) (h0 : Nat) (h_bestYard : Nat) (Fh : Nat → Value) (x_hasBest : Int32) (f_bestYard : Nat → Int32) (p0 : Int32) (sz : Nat) (e_bestYard : Fh 43 = .ref h_bestYard) (e_hasBest : Fh 51 = .int x_hasBest) (i_x_hasBest : IR 0 1 x_hasBest) : CI l yX10_when cX10_when 2 (some .int) { frames := 1, cells := 0, slots := 0, locals := 22 } (GG D cI cJ cB cP cM cZ) D [(h0, .inr (10, vL 67 Fh)), (h_bestYard, .inl (cI, 4, .inl f_bestYard))] sz [.ref h0, .int p0] (fun (r : Int32) (u : va_W) => ∃ (Gh : Nat → Value), SAME [0] Fh Gh ∧ Gh 0 = .int 0 ∧ u = [(h0, .inr (10, vL 67 Gh)), (h_bestYard, .inl (cI, 4, .inl f_bestYard))]) := by
  refine CI_mk (by decide) (Nat.le_of_ble_eq_true rfl) ?_
  intro p e s m below meth c A ls E hAe hG hsz hP hD hA hS hl
  obtain ⟨hx, hb, hr, hw, hown, hlocks, hml, hnm⟩ := E
  have hK := hG.1
  have i_x_hasBest : 0 ≤ x_hasBest.toInt ∧ x_hasBest.toInt ≤ 1 := i_x_hasBest
  have hl : lv_has ls 2 [(0, .ref h0), (1, .int p0)] := hl
  refine lv_aload_n hx hb dX10_when_0 rfl (lv_at hl 0 rfl) ?_
  refine lv_iconst (v := 0) hx hb dX10_when_1 (by decide) ?_
  refine put_f (D := D) (ci := 10) (v := .int 0) (ty := .int) (C := RX10) (T := TX10) (N := 67) hx hb hw inAX10 tyX10 tyX10_ok nmX10 hown hK hP hD hS 0 rfl rfl 0 (by decide) (hw _ q_1261) (fun _ h9 => h9) rfl (by decide +kernel) rfl rfl dX10_when_2 (fun H locs F1 eF1 hP hD hS => ?_)
  have hP : va_P D vwCl [(h0, .inr (10, vL 67 F1)), (h_bestYard, .inl (cI, 4, .inl f_bestYard))] H := hP
  have hD : va_D A [(h0, .inr (10, vL 67 F1)), (h_bestYard, .inl (cI, 4, .inl f_bestYard))] := hD
  refine lv_aload_n hx hb dX10_when_5 rfl (lv_at hl 0 rfl) ?_
  have n2 : F1 51 = .int x_hasBest := (get_ne eF1 (by decide) e_hasBest)
  refine get_f (D := D) (ci := 10) (v := .int x_hasBest) (C := RX10) (T := TX10) (N := 67) hx hb hw inAX10 hown hK hP 0 rfl rfl 51 (by decide) (hw _ q_1312) (fun _ h9 => h9) n2 dX10_when_6 ?_
  refine lv_if_eq (tgt := 30) hx hb dX10_when_9 (by decide) (fun c3 => ?_) (fun c3 => ?_)
  · have dc3 : x_hasBest.toInt = 0 := eq_i (a := x_hasBest.toInt) (b := 0) rfl rfl c3
    have k4 : 0 ≤ x_hasBest.toInt ∧ x_hasBest.toInt ≤ 0 := ⟨i_x_hasBest.1, Int.le_trans (Int.le_of_eq dc3) (Int.le_refl _)⟩
    refine lv_iconst (v := (-1)) hx hb dX10_when_30 (by decide) ?_
    exact ret_i (v := (-1)) hx hb hr hlocks hS hP hD dX10_when_31 rfl (Nat.le_of_ble_eq_true rfl) (Nat.le_of_ble_eq_true rfl) ⟨F1, (SAME.up eF1 SAME.rf (by decide)), (get_eq eF1), rfl⟩
  · have dc3 : x_hasBest.toInt ≠ 0 := ne_i (a := x_hasBest.toInt) (b := 0) rfl rfl c3
    have k5 : 1 ≤ x_hasBest.toInt ∧ x_hasBest.toInt ≤ 1 := ⟨ne_lo dc3 i_x_hasBest.1 ⟨Int.le_refl _, Int.le_refl _⟩ (by decide), i_x_hasBest.2⟩
    refine lv_iload_n hx hb dX10_when_12 rfl (lv_at hl 1 rfl) ?_
    refine lv_iconst (v := 0) hx hb dX10_when_13 (by decide) ?_
    refine lv_iconst (v := 3) hx hb dX10_when_14 (by decide) ?_
    refine call_Si (wr := [(h0, .inr (10, vL 67 F1)), (h_bestYard, .inl (cI, 4, .inl f_bestYard))]) (As := [.int p0, .int 0, .int 3]) (rest := []) hx hb hml hown hw (m_X10_isIn l D cI cJ cB cP cM cZ p0 0 3 _ ) wS_X10_211_X10_isIn dX10_when_15 hP hD hS hA [] [0, 1] rfl rfl (by decide) (by decide) (by decide) GG.fb hG.at hl.1 rfl (Nat.le_of_ble_eq_true rfl) ⟨(Nat.le_of_ble_eq_true rfl), (Nat.le_of_ble_eq_true rfl)⟩ ⟨(Nat.le_of_ble_eq_true rfl), (Nat.le_of_ble_eq_true rfl)⟩ (fun r6 u H locs hp hP hD hS => ?_)
    have zl0 : (0 : Int32).toInt = 0 := by decide
    have zl3 : (3 : Int32).toInt = 3 := by decide
    rcases hp with ⟨t7, rfl, rfl⟩ | ⟨t8, t9, rfl, rfl⟩ | ⟨t10, t11, rfl, rfl⟩
    · have hP : va_P D vwCl [(h0, .inr (10, vL 67 F1)), (h_bestYard, .inl (cI, 4, .inl f_bestYard))] H := hP
      have hD : va_D A [(h0, .inr (10, vL 67 F1)), (h_bestYard, .inl (cI, 4, .inl f_bestYard))] := hD
      refine W.widen (k := 0) (n := 0) (Nat.le_of_ble_eq_true rfl) (Nat.le_of_ble_eq_true rfl) ?_
      have k13 : (-2147483648) ≤ p0.toInt ∧ p0.toInt ≤ (-1) := ⟨(ir_any _).1, up_lt t7 (Int.le_refl _) (by decide)⟩
      refine lv_if_eq (tgt := 30) hx hb dX10_when_18 (by decide) (fun _ => ?_) (fun g => absurd (by decide) g)
      refine lv_iconst (v := (-1)) hx hb dX10_when_30 (by decide) ?_
      exact ret_i (v := (-1)) hx hb hr hlocks hS hP hD dX10_when_31 rfl (Nat.le_of_ble_eq_true rfl) (Nat.le_of_ble_eq_true rfl) ⟨F1, (SAME.up eF1 SAME.rf (by decide)), (get_eq eF1), rfl⟩
    · have hP : va_P D vwCl [(h0, .inr (10, vL 67 F1)), (h_bestYard, .inl (cI, 4, .inl f_bestYard))] H := hP
      have hD : va_D A [(h0, .inr (10, vL 67 F1)), (h_bestYard, .inl (cI, 4, .inl f_bestYard))] := hD
      refine W.widen (k := 0) (n := 0) (Nat.le_of_ble_eq_true rfl) (Nat.le_of_ble_eq_true rfl) ?_
      have k14 : 0 ≤ p0.toInt ∧ p0.toInt ≤ 2147483647 := ⟨Int.le_trans (Int.le_refl _) t8, (ir_any _).2⟩
      have k15 : 4 ≤ p0.toInt ∧ p0.toInt ≤ 2147483647 := ⟨lo_lt t9 (Int.le_refl _) (by decide), k14.2⟩
      refine lv_if_eq (tgt := 30) hx hb dX10_when_18 (by decide) (fun _ => ?_) (fun g => absurd (by decide) g)
      refine lv_iconst (v := (-1)) hx hb dX10_when_30 (by decide) ?_
      exact ret_i (v := (-1)) hx hb hr hlocks hS hP hD dX10_when_31 rfl (Nat.le_of_ble_eq_true rfl) (Nat.le_of_ble_eq_true rfl) ⟨F1, (SAME.up eF1 SAME.rf (by decide)), (get_eq eF1), rfl⟩
    · have hP : va_P D vwCl [(h0, .inr (10, vL 67 F1)), (h_bestYard, .inl (cI, 4, .inl f_bestYard))] H := hP
      have hD : va_D A [(h0, .inr (10, vL 67 F1)), (h_bestYard, .inl (cI, 4, .inl f_bestYard))] := hD
      refine W.widen (k := 0) (n := 0) (Nat.le_of_ble_eq_true rfl) (Nat.le_of_ble_eq_true rfl) ?_
      have k16 : 0 ≤ p0.toInt ∧ p0.toInt ≤ 2147483647 := ⟨Int.le_trans (Int.le_refl _) t10, (ir_any _).2⟩
      have k17 : 0 ≤ p0.toInt ∧ p0.toInt ≤ 3 := ⟨k16.1, Int.le_trans t11 (Int.le_refl _)⟩
      refine lv_if_eq (tgt := 30) hx hb dX10_when_18 (by decide) (fun g => absurd g (by decide)) (fun _ => ?_)
      refine lv_aload_n hx hb dX10_when_21 rfl (lv_at hl 0 rfl) ?_
      have n18 : F1 43 = .ref h_bestYard := (get_ne eF1 (by decide) e_bestYard)
      refine get_f (D := D) (ci := 10) (v := .ref h_bestYard) (C := RX10) (T := TX10) (N := 67) hx hb hw inAX10 hown hK hP 0 rfl rfl 43 (by decide) (hw _ q_1304) (fun _ h9 => h9) n18 dX10_when_22 ?_
      refine lv_iload_n hx hb dX10_when_25 rfl (lv_at hl 1 rfl) ?_
      refine va_iald hx hb hK hP 1 0 rfl rfl (ix_k k17 (by decide) (by decide)) dX10_when_26 ?_
      refine lv_topi (fun v19 ev19 => ?_)
      refine lv_goto (tgt := 31) hx hb dX10_when_27 (by decide) ?_
      exact ret_i (v := v19) hx hb hr hlocks hS hP hD dX10_when_31 rfl (Nat.le_of_ble_eq_true rfl) (Nat.le_of_ble_eq_true rfl) ⟨F1, (SAME.up eF1 SAME.rf (by decide)), (get_eq eF1), rfl⟩
def fn_X10_place (p0 : Int32) (p1 : Int32) (p2 : Int32) : Int32 := (((((p0 * (10 : Int32)) + p1) * (241 : Int32)) + p2) - (10 : Int32))
set_option maxHeartbeats 4000000 in
set_option maxRecDepth 100000 in
theorem m_X10_place (l : Launch) (D : va_G) (cI cJ cB cP cM cZ : ClassId) (p0 : Int32) (p1 : Int32) (p2 : Int32) (sz : Nat) (i_p0 : IR 0 12 p0) (i_p1 : IR 0 9 p1) (i_p2 : IR 10 250 p2) : CI l yX10_place cX10_place 3 (some .int) { frames := 0, cells := 0, slots := 0, locals := 0 } (GG D cI cJ cB cP cM cZ) D [] sz [.int p0, .int p1, .int p2] (fun (r : Int32) (u : va_W) => IR 0 31329 r ∧ r = fn_X10_place p0 p1 p2 ∧ (r.toInt = (p0.toInt * 10 + p1.toInt) * 241 + p2.toInt - 10) ∧ u = []) := by
  refine CI_mk (by decide) (Nat.le_of_ble_eq_true rfl) ?_
  intro p e s m below meth c A ls E hAe hG hsz hP hD hA hS hl
  obtain ⟨hx, hb, hr, hw, hown, hlocks, hml, hnm⟩ := E
  have hK := hG.1
  have i_p0 : 0 ≤ p0.toInt ∧ p0.toInt ≤ 12 := i_p0
  have i_p1 : 0 ≤ p1.toInt ∧ p1.toInt ≤ 9 := i_p1
  have i_p2 : 10 ≤ p2.toInt ∧ p2.toInt ≤ 250 := i_p2
  have hl : lv_has ls 3 [(0, .int p0), (1, .int p1), (2, .int p2)] := hl
  refine lv_iload_n hx hb dX10_place_0 rfl (lv_at hl 0 rfl) ?_
  refine lv_bipush (v := 10) hx hb dX10_place_1 (by decide) ?_
  refine lv_imul hx hb dX10_place_3 ?_
  refine lv_topi (fun v1 ev1 => ?_)
  have bv1 : v1.toInt = p0.toInt * 10 := by rw [ev1]; exact mulk_k rfl rfl (by decide) i_p0 (by decide)
  have k2 : 0 ≤ v1.toInt ∧ v1.toInt ≤ 120 := mulk_r bv1 (by decide) i_p0 (by decide)
  refine lv_iload_n hx hb dX10_place_4 rfl (lv_at hl 1 rfl) ?_
  refine lv_iadd hx hb dX10_place_5 ?_
  refine lv_topi (fun v3 ev3 => ?_)
  have bv3 : v3.toInt = v1.toInt + p1.toInt := by rw [ev3]; exact add_k rfl rfl k2 i_p1 (by decide)
  have k4 : 0 ≤ v3.toInt ∧ v3.toInt ≤ 129 := add_r bv3 k2 i_p1 (by decide)
  refine lv_sipush (v := 241) hx hb dX10_place_6 (by decide) ?_
  refine lv_imul hx hb dX10_place_9 ?_
  refine lv_topi (fun v5 ev5 => ?_)
  have bv5 : v5.toInt = v3.toInt * 241 := by rw [ev5]; exact mulk_k rfl rfl (by decide) k4 (by decide)
  have k6 : 0 ≤ v5.toInt ∧ v5.toInt ≤ 31089 := mulk_r bv5 (by decide) k4 (by decide)
  refine lv_iload_n hx hb dX10_place_10 rfl (lv_at hl 2 rfl) ?_
  refine lv_iadd hx hb dX10_place_11 ?_
  refine lv_topi (fun v7 ev7 => ?_)
  have bv7 : v7.toInt = v5.toInt + p2.toInt := by rw [ev7]; exact add_k rfl rfl k6 i_p2 (by decide)
  have k8 : 10 ≤ v7.toInt ∧ v7.toInt ≤ 31339 := add_r bv7 k6 i_p2 (by decide)
  refine lv_bipush (v := 10) hx hb dX10_place_12 (by decide) ?_
  refine lv_isub hx hb dX10_place_14 ?_
  refine lv_topi (fun v9 ev9 => ?_)
  have bv9 : v9.toInt = v7.toInt - 10 := by rw [ev9]; exact sub_k rfl rfl k8 ⟨Int.le_refl _, Int.le_refl _⟩ (by decide)
  have k10 : 0 ≤ v9.toInt ∧ v9.toInt ≤ 31329 := sub_r bv9 k8 ⟨Int.le_refl _, Int.le_refl _⟩ (by decide)
  exact ret_i (v := v9) hx hb hr hlocks hS hP hD dX10_place_15 rfl (Nat.le_of_ble_eq_true rfl) (Nat.le_of_ble_eq_true rfl) ⟨k10, (by subst_vars; unfold fn_X10_place; rfl), (by omega), rfl⟩
def fn_X10_downBy (f_s : Nat → Int32) (f_downs : Nat → Int32) (p0 : Int32) (p1 : Int32) (p2 : Int32) (p3 : Int32) (p4 : Int32) : Int32 := (if (fn_X10_isOver f_s p0 (fn_X10_inBend f_s p0 p2 p3 p1 p4) p4) = (0 : Int32) then ((((f_s ((44 : Int32) + p0).toNatClampNeg) * (3000 : Int32)) / (fn_X10_inBend f_s p0 p2 p3 p1 p4)) + (f_downs (fn_X10_place (p0 + (1 : Int32)) p4 (fn_X10_inBend f_s p0 p2 p3 p1 p4)).toNatClampNeg)) else (100000000 : Int32))
set_option maxHeartbeats 4000000 in
set_option maxRecDepth 100000 in
theorem m_X10_downBy (l : Launch) (D : va_G) (cI cJ cB cP cM cZ : ClassId) (h0 : Nat) (h_s : Nat) (h_downs : Nat) (Fh : Nat → Value) (f_s : Nat → Int32) (f_downs : Nat → Int32) (p0 : Int32) (p1 : Int32) (p2 : Int32) (p3 : Int32) (p4 : Int32) (sz : Nat) (e_s : Fh 6 = .ref h_s) (e_downs : Fh 53 = .ref h_downs) (s_s_K0 : KW 0 f_s) (s_s_0 : SG 0 0 0 40 f_s) (s_s_105 : SG 105 108 0 11 f_s) (s_s_114 : SG 114 114 0 5 f_s) (s_s_130 : SG 130 133 0 11 f_s) (s_s_139 : SG 139 139 0 5 f_s) (s_s_153 : SG 153 153 0 44 f_s) (s_s_44 : SG 44 55 0 9 f_s) (s_s_5 : SG 5 5 0 12 f_s) (s_s_6 : SG 6 6 0 12 f_s) (s_s_7 : SG 7 7 0 6 f_s) (s_downs_0 : SG 0 31329 0 100000000 f_downs) (i_p0 : IR 0 11 p0) (i_p1 : IR 0 9 p1) (i_p2 : IR 10 250 p2) (i_p4 : IR 0 9 p4) : CI l yX10_downBy cX10_downBy 7 (some .int) { frames := 3, cells := 0, slots := 0, locals := 68 } (GG D cI cJ cB cP cM cZ) D [(h0, .inr (10, vL 67 Fh)), (h_s, .inl (cI, 335, .inl f_s)), (h_downs, .inl (cI, 31330, .inl f_downs))] sz [.ref h0, .int p0, .int p1, .int p2, .int p3, .int p4] (fun (r : Int32) (u : va_W) => IR 0 100002700 r ∧ r = fn_X10_downBy f_s f_downs p0 p1 p2 p3 p4 ∧ u = [(h0, .inr (10, vL 67 Fh)), (h_s, .inl (cI, 335, .inl f_s)), (h_downs, .inl (cI, 31330, .inl f_downs))]) := by
  refine CI_mk (by decide) (Nat.le_of_ble_eq_true rfl) ?_
  intro p e s m below meth c A ls E hAe hG hsz hP hD hA hS hl
  obtain ⟨hx, hb, hr, hw, hown, hlocks, hml, hnm⟩ := E
  have hK := hG.1
  have i_p0 : 0 ≤ p0.toInt ∧ p0.toInt ≤ 11 := i_p0
  have i_p1 : 0 ≤ p1.toInt ∧ p1.toInt ≤ 9 := i_p1
  have i_p2 : 10 ≤ p2.toInt ∧ p2.toInt ≤ 250 := i_p2
  have i_p4 : 0 ≤ p4.toInt ∧ p4.toInt ≤ 9 := i_p4
  have hl : lv_has ls 7 [(0, .ref h0), (1, .int p0), (2, .int p1), (3, .int p2), (4, .int p3), (5, .int p4)] := hl
  refine lv_aload_n hx hb dX10_downBy_0 rfl (lv_at hl 0 rfl) ?_
  refine lv_iload_n hx hb dX10_downBy_1 rfl (lv_at hl 1 rfl) ?_
  refine lv_iload_n hx hb dX10_downBy_2 rfl (lv_at hl 3 rfl) ?_
  refine lv_iload hx hb dX10_downBy_3 (lv_at hl 4 rfl) ?_
  refine lv_iload_n hx hb dX10_downBy_5 rfl (lv_at hl 2 rfl) ?_
  refine lv_iload hx hb dX10_downBy_6 (lv_at hl 5 rfl) ?_
  refine call_Vi (wr := [(h_downs, .inl (cI, 31330, .inl f_downs))]) (As := [.int p0, .int p2, .int p3, .int p1, .int p4]) (rest := []) hx hb hml hown hw (m_X10_inBend l D cI cJ cB cP cM cZ h0 h_s Fh f_s p0 p2 p3 p1 p4 _ e_s s_s_K0 s_s_0 s_s_105 s_s_114 s_s_130 s_s_139 s_s_153 s_s_44 s_s_5 s_s_6 s_s_7 i_p0) wV_X10_355_X10_inBend dX10_downBy_8 hK hP hD hS hA [0, 1] [2] rfl rfl (by decide) (by decide) (by decide) 0 10 rfl rfl GG.fb hG.at hl.1 rfl (Nat.le_of_ble_eq_true rfl) ⟨(Nat.le_of_ble_eq_true rfl), (Nat.le_of_ble_eq_true rfl)⟩ ⟨(Nat.le_of_ble_eq_true rfl), (Nat.le_of_ble_eq_true rfl)⟩ (fun r1 u H locs hp hP hD hS => ?_)
  obtain ⟨t2, t3, rfl⟩ := hp
  have hP : va_P D vwCl [(h_downs, .inl (cI, 31330, .inl f_downs)), (h0, .inr (10, vL 67 Fh)), (h_s, .inl (cI, 335, .inl f_s))] H := hP
  have hD : va_D A [(h_downs, .inl (cI, 31330, .inl f_downs)), (h0, .inr (10, vL 67 Fh)), (h_s, .inl (cI, 335, .inl f_s))] := hD
  refine W.widen (k := 0) (n := 0) (Nat.le_of_ble_eq_true rfl) (Nat.le_of_ble_eq_true rfl) ?_
  refine lv_istore (lv' := [(6, .int r1), (0, .ref h0), (1, .int p0), (2, .int p1), (3, .int p2), (4, .int p3), (5, .int p4)]) hx hb dX10_downBy_11 hl (by decide) rfl (fun ls hl => ?_)
  refine lv_aload_n hx hb dX10_downBy_13 rfl (lv_at hl 1 rfl) ?_
  refine lv_iload_n hx hb dX10_downBy_14 rfl (lv_at hl 2 rfl) ?_
  refine lv_iload hx hb dX10_downBy_15 (lv_at hl 0 rfl) ?_
  refine lv_iload hx hb dX10_downBy_17 (lv_at hl 6 rfl) ?_
  refine call_Vi (wr := [(h_downs, .inl (cI, 31330, .inl f_downs))]) (As := [.int p0, .int r1, .int p4]) (rest := []) hx hb hml hown hw (m_X10_isOver l D cI cJ cB cP cM cZ h0 h_s Fh f_s p0 r1 p4 _ e_s s_s_K0 s_s_0 s_s_105 s_s_114 s_s_130 s_s_139 s_s_153 s_s_44 s_s_5 s_s_6 s_s_7 i_p0) wV_X10_359_X10_isOver dX10_downBy_19 hK hP hD hS hA [1, 2] [0] rfl rfl (by decide) (by decide) (by decide) 0 10 rfl rfl GG.fb hG.at hl.1 rfl (Nat.le_of_ble_eq_true rfl) ⟨(Nat.le_of_ble_eq_true rfl), (Nat.le_of_ble_eq_true rfl)⟩ ⟨(Nat.le_of_ble_eq_true rfl), (Nat.le_of_ble_eq_true rfl)⟩ (fun r5 u H locs hp hP hD hS => ?_)
  obtain ⟨t6, t7, rfl⟩ := hp
  have hP : va_P D vwCl [(h_downs, .inl (cI, 31330, .inl f_downs)), (h0, .inr (10, vL 67 Fh)), (h_s, .inl (cI, 335, .inl f_s))] H := hP
  have hD : va_D A [(h_downs, .inl (cI, 31330, .inl f_downs)), (h0, .inr (10, vL 67 Fh)), (h_s, .inl (cI, 335, .inl f_s))] := hD
  refine W.widen (k := 0) (n := 0) (Nat.le_of_ble_eq_true rfl) (Nat.le_of_ble_eq_true rfl) ?_
  refine lv_if_eq (tgt := 31) hx hb dX10_downBy_22 (by decide) (fun c9 => ?_) (fun c9 => ?_)
  · have dc9 : r5.toInt = 0 := eq_i (a := r5.toInt) (b := 0) rfl rfl c9
    have k10 : 0 ≤ r5.toInt ∧ r5.toInt ≤ 0 := ⟨t6.1, Int.le_trans (Int.le_of_eq dc9) (Int.le_refl _)⟩
    refine lv_aload_n hx hb dX10_downBy_31 rfl (lv_at hl 1 rfl) ?_
    refine get_f (D := D) (ci := 10) (v := .ref h_s) (C := RX10) (T := TX10) (N := 67) hx hb hw inAX10 hown hK hP 1 rfl rfl 6 (by decide) (hw _ q_1267) (fun _ h9 => h9) e_s dX10_downBy_32 ?_
    refine lv_bipush (v := 44) hx hb dX10_downBy_35 (by decide) ?_
    refine lv_iload_n hx hb dX10_downBy_37 rfl (lv_at hl 2 rfl) ?_
    refine lv_iadd hx hb dX10_downBy_38 ?_
    refine lv_topi (fun v11 ev11 => ?_)
    have bv11 : v11.toInt = 44 + p0.toInt := by rw [ev11]; exact add_k rfl rfl ⟨Int.le_refl _, Int.le_refl _⟩ i_p0 (by decide)
    have k12 : 44 ≤ v11.toInt ∧ v11.toInt ≤ 55 := add_r bv11 ⟨Int.le_refl _, Int.le_refl _⟩ i_p0 (by decide)
    refine va_iald hx hb hK hP 2 0 rfl rfl (ix_k k12 (by decide) (by decide)) dX10_downBy_39 ?_
    refine lv_topi (fun v13 ev13 => ?_)
    have k14 : 0 ≤ v13.toInt ∧ v13.toInt ≤ 9 := by rw [ev13]; exact s_s_44.at _ (Int.le_trans (by decide) k12.1) (Int.le_trans k12.2 (by decide))
    refine lv_sipush (v := 3000) hx hb dX10_downBy_40 (by decide) ?_
    refine lv_imul hx hb dX10_downBy_43 ?_
    refine lv_topi (fun v15 ev15 => ?_)
    have bv15 : v15.toInt = v13.toInt * 3000 := by rw [ev15]; exact mulk_k rfl rfl (by decide) k14 (by decide)
    have k16 : 0 ≤ v15.toInt ∧ v15.toInt ≤ 27000 := mulk_r bv15 (by decide) k14 (by decide)
    refine lv_iload hx hb dX10_downBy_44 (lv_at hl 0 rfl) ?_
    refine lv_idiv hx hb dX10_downBy_46 (nz_k t2 (by decide)) ?_
    refine lv_topi (fun v17 ev17 => ?_)
    have k18 : 0 ≤ v17.toInt ∧ v17.toInt ≤ 2700 := by rw [ev17]; exact divv_k (Int.le_trans (by decide) k16.1) k16.2 t2.1 (by decide)
    refine lv_aload_n hx hb dX10_downBy_47 rfl (lv_at hl 1 rfl) ?_
    refine get_f (D := D) (ci := 10) (v := .ref h_downs) (C := RX10) (T := TX10) (N := 67) hx hb hw inAX10 hown hK hP 1 rfl rfl 53 (by decide) (hw _ q_1314) (fun _ h9 => h9) e_downs dX10_downBy_48 ?_
    refine lv_iload_n hx hb dX10_downBy_51 rfl (lv_at hl 2 rfl) ?_
    refine lv_iconst (v := 1) hx hb dX10_downBy_52 (by decide) ?_
    refine lv_iadd hx hb dX10_downBy_53 ?_
    refine lv_topi (fun v19 ev19 => ?_)
    have bv19 : v19.toInt = p0.toInt + 1 := by rw [ev19]; exact add_k rfl rfl i_p0 ⟨Int.le_refl _, Int.le_refl _⟩ (by decide)
    have k20 : 1 ≤ v19.toInt ∧ v19.toInt ≤ 12 := add_r bv19 i_p0 ⟨Int.le_refl _, Int.le_refl _⟩ (by decide)
    refine lv_iload hx hb dX10_downBy_54 (lv_at hl 6 rfl) ?_
    refine lv_iload hx hb dX10_downBy_56 (lv_at hl 0 rfl) ?_
    refine call_Si (wr := [(h_downs, .inl (cI, 31330, .inl f_downs)), (h0, .inr (10, vL 67 Fh)), (h_s, .inl (cI, 335, .inl f_s))]) (As := [.int v19, .int p4, .int r1]) (rest := [.ref h_downs, .int v17]) hx hb hml hown hw (m_X10_place l D cI cJ cB cP cM cZ v19 p4 r1 _ (ir_wk k20 (by decide) (by decide)) i_p4 t2) wS_X10_407_X10_place dX10_downBy_58 hP hD hS hA [] [0, 1, 2] rfl rfl (by decide) (by decide) (by decide) GG.fb hG.at hl.1 rfl (Nat.le_of_ble_eq_true rfl) ⟨(Nat.le_of_ble_eq_true rfl), (Nat.le_of_ble_eq_true rfl)⟩ ⟨(Nat.le_of_ble_eq_true rfl), (Nat.le_of_ble_eq_true rfl)⟩ (fun r21 u H locs hp hP hD hS => ?_)
    obtain ⟨t22, t23, t24, rfl⟩ := hp
    have hP : va_P D vwCl [(h_downs, .inl (cI, 31330, .inl f_downs)), (h0, .inr (10, vL 67 Fh)), (h_s, .inl (cI, 335, .inl f_s))] H := hP
    have hD : va_D A [(h_downs, .inl (cI, 31330, .inl f_downs)), (h0, .inr (10, vL 67 Fh)), (h_s, .inl (cI, 335, .inl f_s))] := hD
    refine W.widen (k := 0) (n := 0) (Nat.le_of_ble_eq_true rfl) (Nat.le_of_ble_eq_true rfl) ?_
    have k26 : 2410 ≤ r21.toInt ∧ r21.toInt ≤ 31329 := ⟨by omega, by omega⟩
    refine va_iald hx hb hK hP 0 0 rfl rfl (ix_k k26 (by decide) (by decide)) dX10_downBy_61 ?_
    refine lv_topi (fun v27 ev27 => ?_)
    have k28 : 0 ≤ v27.toInt ∧ v27.toInt ≤ 100000000 := by rw [ev27]; exact s_downs_0.at _ (Int.le_trans (by decide) k26.1) (Int.le_trans k26.2 (by decide))
    refine lv_iadd hx hb dX10_downBy_62 ?_
    refine lv_topi (fun v29 ev29 => ?_)
    have bv29 : v29.toInt = v17.toInt + v27.toInt := by rw [ev29]; exact add_k rfl rfl k18 k28 (by decide)
    have k30 : 0 ≤ v29.toInt ∧ v29.toInt ≤ 100002700 := add_r bv29 k18 k28 (by decide)
    exact ret_i (v := v29) hx hb hr hlocks hS (hP.sub (ws' := [(h0, .inr (10, vL 67 Fh)), (h_s, .inl (cI, 335, .inl f_s)), (h_downs, .inl (cI, 31330, .inl f_downs))]) [1, 2, 0] rfl) (hD.sub (ws' := [(h0, .inr (10, vL 67 Fh)), (h_s, .inl (cI, 335, .inl f_s)), (h_downs, .inl (cI, 31330, .inl f_downs))]) [1, 2, 0] (by decide) rfl) dX10_downBy_63 rfl (Nat.le_of_ble_eq_true rfl) (Nat.le_of_ble_eq_true rfl) ⟨k30, (by have qc9 := And.intro c9 True.intro; clear c9; subst_vars; unfold fn_X10_downBy; rw [if_pos qc9.1]), rfl⟩
  · have dc9 : r5.toInt ≠ 0 := ne_i (a := r5.toInt) (b := 0) rfl rfl c9
    have k31 : 1 ≤ r5.toInt ∧ r5.toInt ≤ 1 := ⟨ne_lo dc9 t6.1 ⟨Int.le_refl _, Int.le_refl _⟩ (by decide), t6.2⟩
    refine lv_ldcw hx hb hown (hw _ q_1701) dX10_downBy_25 ?_
    refine lv_goto (tgt := 63) hx hb dX10_downBy_28 (by decide) ?_
    exact ret_i (v := 100000000) hx hb hr hlocks hS (hP.sub (ws' := [(h0, .inr (10, vL 67 Fh)), (h_s, .inl (cI, 335, .inl f_s)), (h_downs, .inl (cI, 31330, .inl f_downs))]) [1, 2, 0] rfl) (hD.sub (ws' := [(h0, .inr (10, vL 67 Fh)), (h_s, .inl (cI, 335, .inl f_s)), (h_downs, .inl (cI, 31330, .inl f_downs))]) [1, 2, 0] (by decide) rfl) dX10_downBy_63 rfl (Nat.le_of_ble_eq_true rfl) (Nat.le_of_ble_eq_true rfl) ⟨(show 0 ≤ (100000000 : Int32).toInt ∧ (100000000 : Int32).toInt ≤ 100002700 by decide), (by subst_vars; unfold fn_X10_downBy; rw [if_neg c9]), rfl⟩
/-! the table of line() -/
theorem bnd_i (x : Int32) : 10 ≤ (fn_X10_bounded x).toInt ∧ (fn_X10_bounded x).toInt ≤ 250 := by
  unfold fn_X10_bounded fn_X10_lesser
  by_cases h : (10 : Int32) ≤ x
  · rw [if_pos h]
    have h1 := le_i (a := 10) rfl rfl h
    by_cases h2 : (250 : Int32) ≤ x
    · rw [if_pos h2]; exact ⟨by decide, by decide⟩
    · rw [if_neg h2]
      have h3 := nle_i (a := 250) rfl rfl h2
      omega
  · rw [if_neg h]; exact ⟨by decide, by decide⟩
theorem inb_i (s : Nat → Int32) (b p w a h : Int32) : 10 ≤ (fn_X10_inBend s b p w a h).toInt ∧ (fn_X10_inBend s b p w a h).toInt ≤ 250 := by
  unfold fn_X10_inBend
  split
  · exact bnd_i _
  · exact bnd_i _
theorem pl_i {b a p : Int32} (hb : 0 ≤ b.toInt ∧ b.toInt ≤ 12) (ha : 0 ≤ a.toInt ∧ a.toInt ≤ 9) (hp : 10 ≤ p.toInt ∧ p.toInt ≤ 250) : (fn_X10_place b a p).toInt = (b.toInt * 10 + a.toInt) * 241 + p.toInt - 10 := by
  unfold fn_X10_place
  exact sub_i (add_i (mul_i (add_i (mul_i rfl (b := 10) rfl (by omega) (by omega)) rfl (by omega) (by omega)) (b := 241) rfl (by omega) (by omega)) rfl (by omega) (by omega)) (b := 10) rfl (by omega) (by omega)
theorem b1_i {b : Int32} (hb : 0 ≤ b.toInt ∧ b.toInt ≤ 11) : (b + 1).toInt = b.toInt + 1 := add_i rfl (b := 1) rfl (by omega) (by omega)
theorem db_upd {s dn : Nat → Int32} {b a p w h v : Int32} {k : Nat} (hb : 0 ≤ b.toInt ∧ b.toInt ≤ 11) (hh : 0 ≤ h.toInt ∧ h.toInt ≤ 9) (hk : (k : Int) < 2410 * (b.toInt + 1)) : fn_X10_downBy s (upd dn k v) b a p w h = fn_X10_downBy s dn b a p w h := by
  unfold fn_X10_downBy
  split
  · have h1 := inb_i s b p w a h
    have h2 := pl_i (b := b + 1) (a := h) (p := fn_X10_inBend s b p w a h) (by rw [b1_i hb]; omega) hh h1
    rw [b1_i hb] at h2
    rw [cl_nat (i := fn_X10_place (b + 1) h (fn_X10_inBend s b p w a h)), pk_un (by omega)]
  · rfl
def DQ (s dn : Nat → Int32) (w b a p : Int32) : Prop := (dn ((b.toInt * 10 + a.toInt) * 241 + p.toInt - 10).toNat).toInt = 100000000 ∨ ∃ h : Int32, (0 ≤ h.toInt ∧ h.toInt ≤ 9) ∧ dn ((b.toInt * 10 + a.toInt) * 241 + p.toInt - 10).toNat = fn_X10_downBy s dn b a p w h
def DBL (s dn : Nat → Int32) (w : Int32) (B b0 a0 p0 : Int) : Prop := ∀ b a p : Int32, 0 ≤ b.toInt → b.toInt < B → 0 ≤ a.toInt → a.toInt ≤ 9 → 10 ≤ p.toInt → p.toInt ≤ 250 → (b0 < b.toInt ∨ (b.toInt = b0 ∧ (a.toInt < a0 ∨ (a.toInt = a0 ∧ p.toInt < p0)))) → DQ s dn w b a p
theorem DBL.zero {s dn : Nat → Int32} {w : Int32} {B b0 : Int} (h : B ≤ b0) : DBL s dn w B b0 0 10 := fun b a p h1 h2 h3 h4 h5 h6 h7 => by omega
theorem DBL.nb {s dn : Nat → Int32} {w : Int32} {B b0 a0 p0 b1 : Int} (h : DBL s dn w B b0 a0 p0) (ha : 10 ≤ a0) (e : b1 = b0 - 1) : DBL s dn w B b1 0 10 := fun b a p h1 h2 h3 h4 h5 h6 h7 => h b a p h1 h2 h3 h4 h5 h6 (by omega)
theorem DBL.na {s dn : Nat → Int32} {w : Int32} {B b0 a0 p0 a1 : Int} (h : DBL s dn w B b0 a0 p0) (ha : 251 ≤ p0) (e : a1 = a0 + 1) : DBL s dn w B b0 a1 10 := fun b a p h1 h2 h3 h4 h5 h6 h7 => h b a p h1 h2 h3 h4 h5 h6 (by omega)
theorem DBL.fin {s dn : Nat → Int32} {w : Int32} {B b0 a0 p0 : Int} (h : DBL s dn w B b0 a0 p0) (hb : b0 < 0) : DBL s dn w B (-1) 0 10 := fun b a p h1 h2 h3 h4 h5 h6 h7 => h b a p h1 h2 h3 h4 h5 h6 (by omega)
def VD (s dn : Nat → Int32) (w : Int32) (B : Int) (b a p v : Int32) (k : Int) : Prop := b.toInt < B → (v.toInt = 100000000 ∨ ∃ h : Int32, (0 ≤ h.toInt ∧ h.toInt < k) ∧ v = fn_X10_downBy s dn b a p w h)
theorem VD.step {s dn : Nat → Int32} {w b a p v t r cv : Int32} {B c c' : Int} (h : VD s dn w B b a p v c) (et : t = fn_X10_downBy s dn b a p w cv) (hl : r.toInt ≤ v.toInt ∧ r.toInt ≤ t.toInt ∧ (r.toInt = v.toInt ∨ r.toInt = t.toInt)) (ecv : cv.toInt = c) (h0 : 0 ≤ c) (ec : c' = c + 1) : VD s dn w B b a p r c' := by
  intro hB
  rcases hl.2.2 with q | q
  · have e : r = v := Int32.toInt_inj.mp q
    subst e
    rcases h hB with h | ⟨d, hd, e⟩
    · exact Or.inl h
    · exact Or.inr ⟨d, ⟨hd.1, by omega⟩, e⟩
  · have e : r = t := Int32.toInt_inj.mp q
    subst e
    exact Or.inr ⟨cv, ⟨by omega, by omega⟩, et⟩
theorem DBL.step {s dn dn' : Nat → Int32} {w : Int32} {B b0 a0 p0 p1 c : Int} {bv av pv ix v : Int32} (h : DBL s dn w B b0 a0 p0) (e : upd dn ix.toNatClampNeg v = dn') (eb : bv.toInt = b0) (ea : av.toInt = a0) (ep : pv.toInt = p0) (hix : ix.toInt = (b0 * 10 + a0) * 241 + p0 - 10) (hb : 0 ≤ b0 ∧ b0 ≤ 12) (hB : B ≤ 12) (ha : 0 ≤ a0 ∧ a0 ≤ 9) (hp : 10 ≤ p0 ∧ p0 ≤ 250) (hv : VD s dn w B bv av pv v c) (hc : c ≤ 10) (e1 : p1 = p0 + 1) : DBL s dn' w B b0 a0 p1 := by
  subst e
  rw [cl_nat]
  intro b a p h1 h2 h3 h4 h5 h6 h7
  by_cases hq : b.toInt = b0 ∧ a.toInt = a0 ∧ p.toInt = p0
  · have e1 : b = bv := Int32.toInt_inj.mp (by omega)
    have e2 : a = av := Int32.toInt_inj.mp (by omega)
    have e3 : p = pv := Int32.toInt_inj.mp (by omega)
    subst e1; subst e2; subst e3
    have ei : ((b.toInt * 10 + a.toInt) * 241 + p.toInt - 10).toNat = ix.toInt.toNat := by omega
    unfold DQ
    rw [ei, pk_us]
    rcases hv h2 with hv | ⟨d, hd, hv⟩
    · exact Or.inl hv
    · refine Or.inr ⟨d, ⟨hd.1, by omega⟩, ?_⟩
      rw [db_upd ⟨h1, by omega⟩ ⟨hd.1, by omega⟩ (by omega)]
      exact hv
  · have hne : ((b.toInt * 10 + a.toInt) * 241 + p.toInt - 10).toNat ≠ ix.toInt.toNat := by omega
    have hh := h b a p h1 h2 h3 h4 h5 h6 (by omega)
    unfold DQ at hh ⊢
    rw [pk_un hne]
    rcases hh with hh | ⟨d, hd, hh⟩
    · exact Or.inl hh
    · refine Or.inr ⟨d, hd, ?_⟩
      rw [db_upd ⟨h1, by omega⟩ hd (by omega)]
      exact hh
def EXD (s dn : Nat → Int32) (w b a p : Int32) (c : Int) : Prop := ∃ d : Int32, (c ≤ d.toInt ∧ 0 ≤ d.toInt ∧ d.toInt ≤ 9) ∧ dn ((b.toInt * 10 + a.toInt) * 241 + p.toInt - 10).toNat = fn_X10_downBy s dn b a p w d
theorem EXD.of {s dn : Nat → Int32} {w b a p : Int32} {B : Int} (h : DBL s dn w B (-1) 0 10) (hb : 0 ≤ b.toInt ∧ b.toInt < B) (ha : 0 ≤ a.toInt ∧ a.toInt ≤ 9) (hp : 10 ≤ p.toInt ∧ p.toInt ≤ 250) (hlt : (dn ((b.toInt * 10 + a.toInt) * 241 + p.toInt - 10).toNat).toInt < 100000000) : EXD s dn w b a p 0 := by
  rcases h b a p hb.1 hb.2 ha.1 ha.2 hp.1 hp.2 (by omega) with q | ⟨d, hd, q⟩
  · omega
  · exact ⟨d, ⟨hd.1, hd.1, hd.2⟩, q⟩
theorem EXD.step {s dn : Nat → Int32} {w b a p t cv x ix : Int32} {c c' : Int} (h : EXD s dn w b a p c) (et : t = fn_X10_downBy s dn b a p w cv) (ecv : cv.toInt = c) (ex : x = dn ix.toNatClampNeg) (hix : ix.toInt = (b.toInt * 10 + a.toInt) * 241 + p.toInt - 10) (hne : t.toInt ≠ x.toInt) (ec : c' = c + 1) : EXD s dn w b a p c' := by
  obtain ⟨d, hd, q⟩ := h
  refine ⟨d, ⟨?_, hd.2⟩, q⟩
  by_cases hq : d.toInt = c
  · have e : d = cv := Int32.toInt_inj.mp (by omega)
    subst e
    rw [cl_nat, hix] at ex
    exact absurd (by rw [et, ex, q]) hne
  · omega
theorem EXD.le {s dn : Nat → Int32} {w b a p : Int32} {c : Int} (h : EXD s dn w b a p c) : c ≤ 9 := by
  obtain ⟨d, hd, q⟩ := h
  omega
theorem line_nx {s dn : Nat → Int32} {w b a p t hv x ix v : Int32} (hb : 0 ≤ b.toInt ∧ b.toInt ≤ 11) (hh : 0 ≤ hv.toInt ∧ hv.toInt ≤ 9) (hs : SG 44 55 0 9 s) (hdn : SG 0 31329 0 100000000 dn) (et : t = fn_X10_downBy s dn b a p w hv) (ex : x = dn ix.toNatClampNeg) (hix : ix.toInt = (b.toInt * 10 + a.toInt) * 241 + p.toInt - 10) (heq : t.toInt = x.toInt) (hlt : (dn ((b.toInt * 10 + a.toInt) * 241 + p.toInt - 10).toNat).toInt < 100000000) (ev : v = fn_X10_inBend s b p w a hv) : (dn (((b.toInt + 1) * 10 + hv.toInt) * 241 + v.toInt - 10).toNat).toInt < 100000000 := by
  rw [cl_nat, hix] at ex
  rw [← ex, ← heq] at hlt
  have h1 := inb_i s b p w a hv
  rw [← ev] at h1
  unfold fn_X10_downBy at et
  rw [← ev] at et
  by_cases h : fn_X10_isOver s b v hv = 0
  · rw [if_pos h] at et
    have h2 := pl_i (b := b + 1) (a := hv) (p := v) (by rw [b1_i hb]; omega) hh h1
    rw [b1_i hb] at h2
    have h3 := hdn.at (fn_X10_place (b + 1) hv v) (by omega) (by omega)
    have e44 : ((44 : Int32) + b).toInt = 44 + b.toInt := add_i (a := 44) rfl rfl (by omega) (by omega)
    have h4 := hs.at ((44 : Int32) + b) (by omega) (by omega)
    have e3 : (s ((44 : Int32) + b).toNatClampNeg * 3000).toInt = (s ((44 : Int32) + b).toNatClampNeg).toInt * 3000 := mul_i rfl (b := 3000) rfl (by omega) (by omega)
    have h5 := divv_k (x := s ((44 : Int32) + b).toNatClampNeg * 3000) (y := v) (ah := 27000) (bl := 10) (hi := 2700) (by omega) (by omega) h1.1 (by decide)
    have e8 : t.toInt = (s ((44 : Int32) + b).toNatClampNeg * 3000 / v).toInt + (dn (fn_X10_place (b + 1) hv v).toNatClampNeg).toInt := by
      rw [et]
      exact add_i rfl rfl (by omega) (by omega)
    rw [cl_nat (i := fn_X10_place (b + 1) hv v), h2] at e8
    omega
  · rw [if_neg h] at et
    subst et
    have : (100000000 : Int32).toInt = 100000000 := rfl
    omega
set_option maxHeartbeats 4000000 in
set_option maxRecDepth 100000 in
theorem m_X10_line (l : Launch) (D : va_G) (cI cJ cB cP cM cZ : ClassId) (h0 : Nat) (h_s : Nat) (h_paceAt : Nat) (h_kindOf : Nat) (h_downs : Nat) (h_lineHeights : Nat) (Fh : Nat → Value) (x_lineTime : Int32) (x_linePace : Int32) (x_inside : Int32) (x_late : Int32) (x_seed : Int32) (x_kicks : Int32) (x_hasLine : Int32) (x_lineId : Int32) (x_lineBends : Int32) (f_s : Nat → Int32) (f_paceAt : Nat → Int32) (f_kindOf : Nat → Int32) (f_downs : Nat → Int32) (f_lineHeights : Nat → Int32) (sz : Nat) (e_s : Fh 6 = .ref h_s) (e_paceAt : Fh 25 = .ref h_paceAt) (e_kindOf : Fh 26 = .ref h_kindOf) (e_lineTime : Fh 27 = .int x_lineTime) (e_linePace : Fh 28 = .int x_linePace) (e_inside : Fh 29 = .int x_inside) (i_x_inside : IR 0 15 x_inside) (e_late : Fh 30 = .int x_late) (i_x_late : IR 0 15 x_late) (e_seed : Fh 31 = .int x_seed) (e_kicks : Fh 32 = .int x_kicks) (i_x_kicks : IR 0 1 x_kicks) (e_hasLine : Fh 52 = .int x_hasLine) (i_x_hasLine : IR 0 1 x_hasLine) (e_downs : Fh 53 = .ref h_downs) (e_lineHeights : Fh 54 = .ref h_lineHeights) (e_lineId : Fh 55 = .int x_lineId) (e_lineBends : Fh 56 = .int x_lineBends) (i_x_lineBends : IR 0 12 x_lineBends) (s_s_K0 : KW 0 f_s) (s_s_0 : SG 0 0 0 40 f_s) (s_s_105 : SG 105 108 0 11 f_s) (s_s_114 : SG 114 114 0 5 f_s) (s_s_130 : SG 130 133 0 11 f_s) (s_s_139 : SG 139 139 0 5 f_s) (s_s_153 : SG 153 153 0 44 f_s) (s_s_44 : SG 44 55 0 9 f_s) (s_s_5 : SG 5 5 0 12 f_s) (s_s_6 : SG 6 6 0 12 f_s) (s_s_7 : SG 7 7 0 6 f_s) (s_downs_0 : SG 0 31329 0 100000000 f_downs) : CI l yX10_line cX10_line 7 (some .int) { frames := 4, cells := 0, slots := 0, locals := 94 } (GG D cI cJ cB cP cM cZ) D [(h0, .inr (10, vL 67 Fh)), (h_s, .inl (cI, 335, .inl f_s)), (h_paceAt, .inl (cI, 40, .inl f_paceAt)), (h_kindOf, .inl (cI, 4, .inl f_kindOf)), (h_downs, .inl (cI, 31330, .inl f_downs)), (h_lineHeights, .inl (cI, 12, .inl f_lineHeights))] sz [.ref h0] (fun (r : Int32) (u : va_W) => ∃ (Gh : Nat → Value) (y_lineTime : Int32) (y_linePace : Int32) (y_inside : Int32) (y_late : Int32) (y_seed : Int32) (y_hasLine : Int32) (y_lineId : Int32) (y_lineBends : Int32) (g_paceAt : Nat → Int32) (g_kindOf : Nat → Int32) (g_downs : Nat → Int32) (g_lineHeights : Nat → Int32), SAME [0, 27, 28, 29, 30, 31, 52, 55, 56] Fh Gh ∧ Gh 0 = .int 0 ∧ Gh 27 = .int y_lineTime ∧ Gh 28 = .int y_linePace ∧ Gh 29 = .int y_inside ∧ IR 0 15 y_inside ∧ Gh 30 = .int y_late ∧ IR 0 15 y_late ∧ Gh 31 = .int y_seed ∧ Gh 52 = .int y_hasLine ∧ IR 0 1 y_hasLine ∧ Gh 55 = .int y_lineId ∧ Gh 56 = .int y_lineBends ∧ IR 0 12 y_lineBends ∧ SG 0 31329 0 100000000 g_downs ∧ u = [(h0, .inr (10, vL 67 Gh)), (h_s, .inl (cI, 335, .inl f_s)), (h_paceAt, .inl (cI, 40, .inl g_paceAt)), (h_kindOf, .inl (cI, 4, .inl g_kindOf)), (h_downs, .inl (cI, 31330, .inl g_downs)), (h_lineHeights, .inl (cI, 12, .inl g_lineHeights))]) := by
  refine CI_mk (by decide) (Nat.le_of_ble_eq_true rfl) ?_
  intro p e s m below meth c A ls E hAe hG hsz hP hD hA hS hl
  obtain ⟨hx, hb, hr, hw, hown, hlocks, hml, hnm⟩ := E
  have hK := hG.1
  have i_x_inside : 0 ≤ x_inside.toInt ∧ x_inside.toInt ≤ 15 := i_x_inside
  have i_x_late : 0 ≤ x_late.toInt ∧ x_late.toInt ≤ 15 := i_x_late
  have i_x_kicks : 0 ≤ x_kicks.toInt ∧ x_kicks.toInt ≤ 1 := i_x_kicks
  have i_x_hasLine : 0 ≤ x_hasLine.toInt ∧ x_hasLine.toInt ≤ 1 := i_x_hasLine
  have i_x_lineBends : 0 ≤ x_lineBends.toInt ∧ x_lineBends.toInt ≤ 12 := i_x_lineBends
  have hl : lv_has ls 7 [(0, .ref h0)] := hl
  refine lv_aload_n hx hb dX10_line_0 rfl (lv_at hl 0 rfl) ?_
  refine lv_iconst (v := 0) hx hb dX10_line_1 (by decide) ?_
  refine put_f (D := D) (ci := 10) (v := .int 0) (ty := .int) (C := RX10) (T := TX10) (N := 67) hx hb hw inAX10 tyX10 tyX10_ok nmX10 hown hK hP hD hS 0 rfl rfl 0 (by decide) (hw _ q_1261) (fun _ h9 => h9) rfl (by decide +kernel) rfl rfl dX10_line_2 (fun H locs F1 eF1 hP hD hS => ?_)
  have hP : va_P D vwCl [(h0, .inr (10, vL 67 F1)), (h_s, .inl (cI, 335, .inl f_s)), (h_paceAt, .inl (cI, 40, .inl f_paceAt)), (h_kindOf, .inl (cI, 4, .inl f_kindOf)), (h_downs, .inl (cI, 31330, .inl f_downs)), (h_lineHeights, .inl (cI, 12, .inl f_lineHeights))] H := hP
  have hD : va_D A [(h0, .inr (10, vL 67 F1)), (h_s, .inl (cI, 335, .inl f_s)), (h_paceAt, .inl (cI, 40, .inl f_paceAt)), (h_kindOf, .inl (cI, 4, .inl f_kindOf)), (h_downs, .inl (cI, 31330, .inl f_downs)), (h_lineHeights, .inl (cI, 12, .inl f_lineHeights))] := hD
  refine lv_aload_n hx hb dX10_line_5 rfl (lv_at hl 0 rfl) ?_
  have n2 : F1 6 = .ref h_s := (get_ne eF1 (by decide) e_s)
  refine call_Vi (wr := [(h_paceAt, .inl (cI, 40, .inl f_paceAt)), (h_kindOf, .inl (cI, 4, .inl f_kindOf)), (h_downs, .inl (cI, 31330, .inl f_downs)), (h_lineHeights, .inl (cI, 12, .inl f_lineHeights))]) (As := []) (rest := []) hx hb hml hown hw (m_X10_hasCrew l D cI cJ cB cP cM cZ h0 h_s F1 f_s _ n2 s_s_K0 s_s_0 s_s_105 s_s_114 s_s_130 s_s_139 s_s_153 s_s_44 s_s_5 s_s_6 s_s_7) wV_X10_281_X10_hasCrew dX10_line_6 hK hP hD hS hA [0, 1] [2, 3, 4, 5] rfl rfl (by decide) (by decide) (by decide) 0 10 rfl rfl GG.fb hG.at hl.1 rfl (Nat.le_of_ble_eq_true rfl) ⟨(Nat.le_of_ble_eq_true rfl), (Nat.le_of_ble_eq_true rfl)⟩ ⟨(Nat.le_of_ble_eq_true rfl), (Nat.le_of_ble_eq_true rfl)⟩ (fun r3 u H locs hp hP hD hS => ?_)
  rcases hp with ⟨rfl, rfl⟩ | ⟨rfl, rfl⟩
  · have hP : va_P D vwCl [(h_paceAt, .inl (cI, 40, .inl f_paceAt)), (h_kindOf, .inl (cI, 4, .inl f_kindOf)), (h_downs, .inl (cI, 31330, .inl f_downs)), (h_lineHeights, .inl (cI, 12, .inl f_lineHeights)), (h0, .inr (10, vL 67 F1)), (h_s, .inl (cI, 335, .inl f_s))] H := hP
    have hD : va_D A [(h_paceAt, .inl (cI, 40, .inl f_paceAt)), (h_kindOf, .inl (cI, 4, .inl f_kindOf)), (h_downs, .inl (cI, 31330, .inl f_downs)), (h_lineHeights, .inl (cI, 12, .inl f_lineHeights)), (h0, .inr (10, vL 67 F1)), (h_s, .inl (cI, 335, .inl f_s))] := hD
    refine W.widen (k := 0) (n := 0) (Nat.le_of_ble_eq_true rfl) (Nat.le_of_ble_eq_true rfl) ?_
    refine lv_if_ne (tgt := 14) hx hb dX10_line_9 (by decide) (fun g => absurd (by decide) g) (fun _ => ?_)
    refine lv_iconst (v := (-1)) hx hb dX10_line_12 (by decide) ?_
    exact ret_i (v := (-1)) hx hb hr hlocks hS (hP.sub (ws' := [(h0, .inr (10, vL 67 F1)), (h_s, .inl (cI, 335, .inl f_s)), (h_paceAt, .inl (cI, 40, .inl f_paceAt)), (h_kindOf, .inl (cI, 4, .inl f_kindOf)), (h_downs, .inl (cI, 31330, .inl f_downs)), (h_lineHeights, .inl (cI, 12, .inl f_lineHeights))]) [4, 5, 0, 1, 2, 3] rfl) (hD.sub (ws' := [(h0, .inr (10, vL 67 F1)), (h_s, .inl (cI, 335, .inl f_s)), (h_paceAt, .inl (cI, 40, .inl f_paceAt)), (h_kindOf, .inl (cI, 4, .inl f_kindOf)), (h_downs, .inl (cI, 31330, .inl f_downs)), (h_lineHeights, .inl (cI, 12, .inl f_lineHeights))]) [4, 5, 0, 1, 2, 3] (by decide) rfl) dX10_line_13 rfl (Nat.le_of_ble_eq_true rfl) (Nat.le_of_ble_eq_true rfl) ⟨F1, x_lineTime, x_linePace, x_inside, x_late, x_seed, x_hasLine, x_lineId, x_lineBends, f_paceAt, f_kindOf, f_downs, f_lineHeights, (SAME.up eF1 SAME.rf (by decide)), (get_eq eF1), (get_ne eF1 (by decide) e_lineTime), (get_ne eF1 (by decide) e_linePace), (get_ne eF1 (by decide) e_inside), i_x_inside, (get_ne eF1 (by decide) e_late), i_x_late, (get_ne eF1 (by decide) e_seed), (get_ne eF1 (by decide) e_hasLine), i_x_hasLine, (get_ne eF1 (by decide) e_lineId), (get_ne eF1 (by decide) e_lineBends), i_x_lineBends, s_downs_0, rfl⟩
  · have hP : va_P D vwCl [(h_paceAt, .inl (cI, 40, .inl f_paceAt)), (h_kindOf, .inl (cI, 4, .inl f_kindOf)), (h_downs, .inl (cI, 31330, .inl f_downs)), (h_lineHeights, .inl (cI, 12, .inl f_lineHeights)), (h0, .inr (10, vL 67 F1)), (h_s, .inl (cI, 335, .inl f_s))] H := hP
    have hD : va_D A [(h_paceAt, .inl (cI, 40, .inl f_paceAt)), (h_kindOf, .inl (cI, 4, .inl f_kindOf)), (h_downs, .inl (cI, 31330, .inl f_downs)), (h_lineHeights, .inl (cI, 12, .inl f_lineHeights)), (h0, .inr (10, vL 67 F1)), (h_s, .inl (cI, 335, .inl f_s))] := hD
    refine W.widen (k := 0) (n := 0) (Nat.le_of_ble_eq_true rfl) (Nat.le_of_ble_eq_true rfl) ?_
    refine lv_if_ne (tgt := 14) hx hb dX10_line_9 (by decide) (fun _ => ?_) (fun g => absurd g (by decide))
    refine lv_aload_n hx hb dX10_line_14 rfl (lv_at hl 0 rfl) ?_
    have n5 : F1 25 = .ref h_paceAt := (get_ne eF1 (by decide) e_paceAt)
    have n6 : F1 26 = .ref h_kindOf := (get_ne eF1 (by decide) e_kindOf)
    have n7 : F1 31 = .int x_seed := (get_ne eF1 (by decide) e_seed)
    have n8 : F1 32 = .int x_kicks := (get_ne eF1 (by decide) e_kicks)
    refine call_Vv (wr := [(h_downs, .inl (cI, 31330, .inl f_downs)), (h_lineHeights, .inl (cI, 12, .inl f_lineHeights))]) (As := []) (rest := []) hx hb hml hown hw (m_X10_starts l D cI cJ cB cP cM cZ h0 h_s h_paceAt h_kindOf F1 x_seed x_kicks f_s f_paceAt f_kindOf _ n2 n5 n6 n7 n8 i_x_kicks s_s_K0 s_s_0 s_s_105 s_s_114 s_s_130 s_s_139 s_s_153 s_s_44 s_s_5 s_s_6 s_s_7) wV_X10_340_X10_starts dX10_line_15 hK hP hD hS hA [4, 5, 0, 1] [2, 3] rfl rfl (by decide) (by decide) (by decide) 0 10 rfl rfl GG.fb hG.at hl.1 rfl (Nat.le_of_ble_eq_true rfl) ⟨(Nat.le_of_ble_eq_true rfl), (Nat.le_of_ble_eq_true rfl)⟩ ⟨(Nat.le_of_ble_eq_true rfl), (Nat.le_of_ble_eq_true rfl)⟩ (fun u H locs hp hP hD hS => ?_)
    obtain ⟨F10, y11, y12, y13, y14, y15, g16, g17, t18, t19, t20, t21, t22, t23, t24, t25, t26, rfl⟩ := hp
    have hP : va_P D vwCl [(h_downs, .inl (cI, 31330, .inl f_downs)), (h_lineHeights, .inl (cI, 12, .inl f_lineHeights)), (h0, .inr (10, vL 67 F10)), (h_s, .inl (cI, 335, .inl f_s)), (h_paceAt, .inl (cI, 40, .inl g16)), (h_kindOf, .inl (cI, 4, .inl g17))] H := hP
    have hD : va_D A [(h_downs, .inl (cI, 31330, .inl f_downs)), (h_lineHeights, .inl (cI, 12, .inl f_lineHeights)), (h0, .inr (10, vL 67 F10)), (h_s, .inl (cI, 335, .inl f_s)), (h_paceAt, .inl (cI, 40, .inl g16)), (h_kindOf, .inl (cI, 4, .inl g17))] := hD
    refine W.widen (k := 0) (n := 0) (Nat.le_of_ble_eq_true rfl) (Nat.le_of_ble_eq_true rfl) ?_
    refine lv_aload_n hx hb dX10_line_18 rfl (lv_at hl 0 rfl) ?_
    have n28 : F10 6 = .ref h_s := (SAME.at t18 (by decide) n2)
    refine call_Vi (wr := [(h_downs, .inl (cI, 31330, .inl f_downs)), (h_lineHeights, .inl (cI, 12, .inl f_lineHeights)), (h_paceAt, .inl (cI, 40, .inl g16)), (h_kindOf, .inl (cI, 4, .inl g17))]) (As := []) (rest := []) hx hb hml hown hw (m_X10_weight l D cI cJ cB cP cM cZ h0 h_s F10 y13 f_s _ n28 t22 t23 s_s_K0 s_s_0 s_s_105 s_s_114 s_s_130 s_s_139 s_s_153 s_s_44 s_s_5 s_s_6 s_s_7) wV_X10_343_X10_weight dX10_line_19 hK hP hD hS hA [2, 3] [0, 1, 4, 5] rfl rfl (by decide) (by decide) (by decide) 0 10 rfl rfl GG.fb hG.at hl.1 rfl (Nat.le_of_ble_eq_true rfl) ⟨(Nat.le_of_ble_eq_true rfl), (Nat.le_of_ble_eq_true rfl)⟩ ⟨(Nat.le_of_ble_eq_true rfl), (Nat.le_of_ble_eq_true rfl)⟩ (fun r29 u H locs hp hP hD hS => ?_)
    obtain rfl := hp
    have hP : va_P D vwCl [(h_downs, .inl (cI, 31330, .inl f_downs)), (h_lineHeights, .inl (cI, 12, .inl f_lineHeights)), (h_paceAt, .inl (cI, 40, .inl g16)), (h_kindOf, .inl (cI, 4, .inl g17)), (h0, .inr (10, vL 67 F10)), (h_s, .inl (cI, 335, .inl f_s))] H := hP
    have hD : va_D A [(h_downs, .inl (cI, 31330, .inl f_downs)), (h_lineHeights, .inl (cI, 12, .inl f_lineHeights)), (h_paceAt, .inl (cI, 40, .inl g16)), (h_kindOf, .inl (cI, 4, .inl g17)), (h0, .inr (10, vL 67 F10)), (h_s, .inl (cI, 335, .inl f_s))] := hD
    refine W.widen (k := 0) (n := 0) (Nat.le_of_ble_eq_true rfl) (Nat.le_of_ble_eq_true rfl) ?_
    refine lv_istore_n (lv' := [(1, .int r29), (0, .ref h0)]) hx hb dX10_line_22 rfl hl (by decide) rfl (fun ls hl => ?_)
    refine lv_iload_n hx hb dX10_line_23 rfl (lv_at hl 0 rfl) ?_
    refine lv_aload_n hx hb dX10_line_24 rfl (lv_at hl 1 rfl) ?_
    refine get_f (D := D) (ci := 10) (v := .ref h_s) (C := RX10) (T := TX10) (N := 67) hx hb hw inAX10 hown hK hP 4 rfl rfl 6 (by decide) (hw _ q_1267) (fun _ h9 => h9) n28 dX10_line_25 ?_
    refine lv_iconst (v := 2) hx hb dX10_line_28 (by decide) ?_
    refine iald_n hx hb hK hP 5 0 rfl rfl 2 rfl (Nat.le_of_ble_eq_true rfl) (Nat.le_of_ble_eq_true rfl) rfl dX10_line_29 ?_
    refine lv_topi (fun v31 ev31 => ?_)
    refine lv_icmp_le (tgt := 35) hx hb dX10_line_30 (by decide) (fun c32 => ?_) (fun c32 => ?_)
    · have dc32 : r29.toInt ≤ v31.toInt := le_i (a := r29.toInt) (b := v31.toInt) rfl rfl c32
      refine lv_aload_n hx hb dX10_line_35 rfl (lv_at hl 1 rfl) ?_
      refine get_f (D := D) (ci := 10) (v := .ref h_s) (C := RX10) (T := TX10) (N := 67) hx hb hw inAX10 hown hK hP 4 rfl rfl 6 (by decide) (hw _ q_1267) (fun _ h9 => h9) n28 dX10_line_36 ?_
      refine lv_bipush (v := 6) hx hb dX10_line_39 (by decide) ?_
      refine iald_n hx hb hK hP 5 0 rfl rfl 6 rfl (Nat.le_of_ble_eq_true rfl) (Nat.le_of_ble_eq_true rfl) rfl dX10_line_41 ?_
      refine lv_topi (fun v33 ev33 => ?_)
      have k34 : 0 ≤ v33.toInt ∧ v33.toInt ≤ 12 := by rw [ev33]; exact s_s_6.atN 6 (by decide) (by decide)
      refine lv_istore_n (lv' := [(2, .int v33), (1, .int r29), (0, .ref h0)]) hx hb dX10_line_42 rfl hl (by decide) rfl (fun ls hl => ?_)
      refine mloop (α := (Int32) × (Nat → Int32)) (nL := 7) (D := D) (A := A) (H0 := s.heap) (fun a => (a.1.toInt + 1).toNat) (fun a => IR (-1) 12 a.1 ∧ SG 0 31329 0 100000000 a.2 ∧ (DBL f_s a.2 r29 v33.toInt (a.1.toInt) 0 10)) (fun a => [(h_downs, .inl (cI, 31330, .inl a.2)), (h_lineHeights, .inl (cI, 12, .inl f_lineHeights)), (h_paceAt, .inl (cI, 40, .inl g16)), (h_kindOf, .inl (cI, 4, .inl g17)), (h0, .inr (10, vL 67 F10)), (h_s, .inl (cI, 335, .inl f_s))]) (fun a => [(2, .int a.1), (1, .int r29), (0, .ref h0)]) (fun H locs ls => W p l e ({ frames := 4, cells := 0, slots := 0, locals := 94 } : Room) s m [.ref h0].toArray below meth c H locs 0 0 (MQ below (va_Qi (fun (r : Int32) (u : va_W) => ∃ (Gh : Nat → Value) (y_lineTime : Int32) (y_linePace : Int32) (y_inside : Int32) (y_late : Int32) (y_seed : Int32) (y_hasLine : Int32) (y_lineId : Int32) (y_lineBends : Int32) (g_paceAt : Nat → Int32) (g_kindOf : Nat → Int32) (g_downs : Nat → Int32) (g_lineHeights : Nat → Int32), SAME [0, 27, 28, 29, 30, 31, 52, 55, 56] Fh Gh ∧ Gh 0 = .int 0 ∧ Gh 27 = .int y_lineTime ∧ Gh 28 = .int y_linePace ∧ Gh 29 = .int y_inside ∧ IR 0 15 y_inside ∧ Gh 30 = .int y_late ∧ IR 0 15 y_late ∧ Gh 31 = .int y_seed ∧ Gh 52 = .int y_hasLine ∧ IR 0 1 y_hasLine ∧ Gh 55 = .int y_lineId ∧ Gh 56 = .int y_lineBends ∧ IR 0 12 y_lineBends ∧ SG 0 31329 0 100000000 g_downs ∧ u = [(h0, .inr (10, vL 67 Gh)), (h_s, .inl (cI, 335, .inl f_s)), (h_paceAt, .inl (cI, 40, .inl g_paceAt)), (h_kindOf, .inl (cI, 4, .inl g_kindOf)), (h_downs, .inl (cI, 31330, .inl g_downs)), (h_lineHeights, .inl (cI, 12, .inl g_lineHeights))]) (PO D A) A) [.ref h0].toArray s 0 0 A) (F0 m 43 ls [])) ?_ (v33, f_downs) ⟨(ir_wk k34 (by decide) (by decide)), s_downs_0, (show DBL f_s f_downs r29 v33.toInt (v33.toInt) 0 10 from (DBL.zero (by omega)))⟩ _ _ _ hP hD hS hl
      rintro ⟨u35, w36⟩ ⟨i37, i38, i39⟩ ih H locs ls hP hD hS hl
      have i37 : (-1) ≤ u35.toInt ∧ u35.toInt ≤ 12 := i37
      have i39 : DBL f_s w36 r29 v33.toInt (u35.toInt) 0 10 := i39
      have hP : va_P D vwCl [(h_downs, .inl (cI, 31330, .inl w36)), (h_lineHeights, .inl (cI, 12, .inl f_lineHeights)), (h_paceAt, .inl (cI, 40, .inl g16)), (h_kindOf, .inl (cI, 4, .inl g17)), (h0, .inr (10, vL 67 F10)), (h_s, .inl (cI, 335, .inl f_s))] H := hP
      have hD : va_D A [(h_downs, .inl (cI, 31330, .inl w36)), (h_lineHeights, .inl (cI, 12, .inl f_lineHeights)), (h_paceAt, .inl (cI, 40, .inl g16)), (h_kindOf, .inl (cI, 4, .inl g17)), (h0, .inr (10, vL 67 F10)), (h_s, .inl (cI, 335, .inl f_s))] := hD
      have hl : lv_has ls 7 [(2, .int u35), (1, .int r29), (0, .ref h0)] := hl
      refine lv_iload_n hx hb dX10_line_43 rfl (lv_at hl 0 rfl) ?_
      refine lv_if_lt (tgt := 164) hx hb dX10_line_44 (by decide) (fun c40 => ?_) (fun c40 => ?_)
      · have dc40 : u35.toInt < 0 := lt_i (a := u35.toInt) (b := 0) rfl rfl c40
        have k41 : (-1) ≤ u35.toInt ∧ u35.toInt ≤ (-1) := ⟨i37.1, up_lt dc40 (Int.le_refl _) (by decide)⟩
        refine lv_aload_n hx hb dX10_line_164 rfl (lv_at hl 2 rfl) ?_
        have n42 : F1 53 = .ref h_downs := (get_ne eF1 (by decide) e_downs)
        have n43 : F10 53 = .ref h_downs := (SAME.at t18 (by decide) n42)
        refine get_f (D := D) (ci := 10) (v := .ref h_downs) (C := RX10) (T := TX10) (N := 67) hx hb hw inAX10 hown hK hP 4 rfl rfl 53 (by decide) (hw _ q_1314) (fun _ h9 => h9) n43 dX10_line_165 ?_
        refine lv_iconst (v := 0) hx hb dX10_line_168 (by decide) ?_
        refine lv_iconst (v := 0) hx hb dX10_line_169 (by decide) ?_
        refine lv_aload_n hx hb dX10_line_170 rfl (lv_at hl 2 rfl) ?_
        refine get_f (D := D) (ci := 10) (v := .int y12) (C := RX10) (T := TX10) (N := 67) hx hb hw inAX10 hown hK hP 4 rfl rfl 28 (by decide) (hw _ q_1289) (fun _ h9 => h9) t20 dX10_line_171 ?_
        refine call_Si (wr := [(h_downs, .inl (cI, 31330, .inl w36)), (h_lineHeights, .inl (cI, 12, .inl f_lineHeights)), (h_paceAt, .inl (cI, 40, .inl g16)), (h_kindOf, .inl (cI, 4, .inl g17)), (h0, .inr (10, vL 67 F10)), (h_s, .inl (cI, 335, .inl f_s))]) (As := [.int 0, .int 0, .int y12]) (rest := [.ref h_downs]) hx hb hml hown hw (m_X10_place l D cI cJ cB cP cM cZ 0 0 y12 _ (show 0 ≤ (0 : Int32).toInt ∧ (0 : Int32).toInt ≤ 12 by decide) (show 0 ≤ (0 : Int32).toInt ∧ (0 : Int32).toInt ≤ 9 by decide) t21) wS_X10_407_X10_place dX10_line_174 hP hD hS hA [] [0, 1, 2, 3, 4, 5] rfl rfl (by decide) (by decide) (by decide) GG.fb hG.at hl.1 rfl (Nat.le_of_ble_eq_true rfl) ⟨(Nat.le_of_ble_eq_true rfl), (Nat.le_of_ble_eq_true rfl)⟩ ⟨(Nat.le_of_ble_eq_true rfl), (Nat.le_of_ble_eq_true rfl)⟩ (fun r44 u H locs hp hP hD hS => ?_)
        have zl0 : (0 : Int32).toInt = 0 := by decide
        obtain ⟨t45, t46, t47, rfl⟩ := hp
        have hP : va_P D vwCl [(h_downs, .inl (cI, 31330, .inl w36)), (h_lineHeights, .inl (cI, 12, .inl f_lineHeights)), (h_paceAt, .inl (cI, 40, .inl g16)), (h_kindOf, .inl (cI, 4, .inl g17)), (h0, .inr (10, vL 67 F10)), (h_s, .inl (cI, 335, .inl f_s))] H := hP
        have hD : va_D A [(h_downs, .inl (cI, 31330, .inl w36)), (h_lineHeights, .inl (cI, 12, .inl f_lineHeights)), (h_paceAt, .inl (cI, 40, .inl g16)), (h_kindOf, .inl (cI, 4, .inl g17)), (h0, .inr (10, vL 67 F10)), (h_s, .inl (cI, 335, .inl f_s))] := hD
        refine W.widen (k := 0) (n := 0) (Nat.le_of_ble_eq_true rfl) (Nat.le_of_ble_eq_true rfl) ?_
        have k49 : 0 ≤ r44.toInt ∧ r44.toInt ≤ 240 := ⟨by omega, by omega⟩
        refine va_iald hx hb hK hP 0 0 rfl rfl (ix_k k49 (by decide) (by decide)) dX10_line_177 ?_
        refine lv_topi (fun v50 ev50 => ?_)
        have k51 : 0 ≤ v50.toInt ∧ v50.toInt ≤ 100000000 := by rw [ev50]; exact i38.at _ (Int.le_trans (by decide) k49.1) (Int.le_trans k49.2 (by decide))
        refine lv_istore_n (lv' := [(2, .int v50), (1, .int r29), (0, .ref h0)]) hx hb dX10_line_178 rfl hl (by decide) rfl (fun ls hl => ?_)
        refine lv_iload_n hx hb dX10_line_179 rfl (lv_at hl 0 rfl) ?_
        refine lv_ldcw hx hb hown (hw _ q_1701) dX10_line_180 ?_
        refine lv_icmp_lt (tgt := 188) hx hb dX10_line_183 (by decide) (fun c52 => ?_) (fun c52 => ?_)
        · have dc52 : v50.toInt < 100000000 := lt_i (a := v50.toInt) (b := 100000000) rfl rfl c52
          have k53 : 0 ≤ v50.toInt ∧ v50.toInt ≤ 99999999 := ⟨k51.1, up_lt dc52 (Int.le_refl _) (by decide)⟩
          refine lv_aload_n hx hb dX10_line_188 rfl (lv_at hl 2 rfl) ?_
          refine get_f (D := D) (ci := 10) (v := .int y12) (C := RX10) (T := TX10) (N := 67) hx hb hw inAX10 hown hK hP 4 rfl rfl 28 (by decide) (hw _ q_1289) (fun _ h9 => h9) t20 dX10_line_189 ?_
          refine lv_istore_n (lv' := [(3, .int y12), (2, .int v50), (1, .int r29), (0, .ref h0)]) hx hb dX10_line_192 rfl hl (by decide) rfl (fun ls hl => ?_)
          refine lv_iconst (v := 0) hx hb dX10_line_193 (by decide) ?_
          refine lv_istore (lv' := [(4, .int 0), (3, .int y12), (2, .int v50), (1, .int r29), (0, .ref h0)]) hx hb dX10_line_194 hl (by decide) rfl (fun ls hl => ?_)
          refine lv_iconst (v := 0) hx hb dX10_line_196 (by decide) ?_
          refine lv_istore (lv' := [(5, .int 0), (4, .int 0), (3, .int y12), (2, .int v50), (1, .int r29), (0, .ref h0)]) hx hb dX10_line_197 hl (by decide) rfl (fun ls hl => ?_)
          refine mloop (α := (Int32) × (Int32) × (Int32) × (Nat → Int32)) (nL := 7) (D := D) (A := A) (H0 := s.heap) (fun a => (12 - a.1.toInt).toNat) (fun a => IR 0 12 a.1 ∧ IR 0 9 a.2.1 ∧ IR 10 250 a.2.2.1 ∧ ((w36 ((a.1.toInt * 10 + a.2.1.toInt) * 241 + a.2.2.1.toInt - 10).toNat).toInt < 100000000)) (fun a => [(h_downs, .inl (cI, 31330, .inl w36)), (h_lineHeights, .inl (cI, 12, .inl a.2.2.2)), (h_paceAt, .inl (cI, 40, .inl g16)), (h_kindOf, .inl (cI, 4, .inl g17)), (h0, .inr (10, vL 67 F10)), (h_s, .inl (cI, 335, .inl f_s))]) (fun a => [(5, .int a.1), (4, .int a.2.1), (3, .int a.2.2.1), (2, .int v50), (1, .int r29), (0, .ref h0)]) (fun H locs ls => W p l e ({ frames := 4, cells := 0, slots := 0, locals := 94 } : Room) s m [.ref h0].toArray below meth c H locs 0 0 (MQ below (va_Qi (fun (r : Int32) (u : va_W) => ∃ (Gh : Nat → Value) (y_lineTime : Int32) (y_linePace : Int32) (y_inside : Int32) (y_late : Int32) (y_seed : Int32) (y_hasLine : Int32) (y_lineId : Int32) (y_lineBends : Int32) (g_paceAt : Nat → Int32) (g_kindOf : Nat → Int32) (g_downs : Nat → Int32) (g_lineHeights : Nat → Int32), SAME [0, 27, 28, 29, 30, 31, 52, 55, 56] Fh Gh ∧ Gh 0 = .int 0 ∧ Gh 27 = .int y_lineTime ∧ Gh 28 = .int y_linePace ∧ Gh 29 = .int y_inside ∧ IR 0 15 y_inside ∧ Gh 30 = .int y_late ∧ IR 0 15 y_late ∧ Gh 31 = .int y_seed ∧ Gh 52 = .int y_hasLine ∧ IR 0 1 y_hasLine ∧ Gh 55 = .int y_lineId ∧ Gh 56 = .int y_lineBends ∧ IR 0 12 y_lineBends ∧ SG 0 31329 0 100000000 g_downs ∧ u = [(h0, .inr (10, vL 67 Gh)), (h_s, .inl (cI, 335, .inl f_s)), (h_paceAt, .inl (cI, 40, .inl g_paceAt)), (h_kindOf, .inl (cI, 4, .inl g_kindOf)), (h_downs, .inl (cI, 31330, .inl g_downs)), (h_lineHeights, .inl (cI, 12, .inl g_lineHeights))]) (PO D A) A) [.ref h0].toArray s 0 0 A) (F0 m 199 ls [])) ?_ (0, 0, y12, f_lineHeights) ⟨(show 0 ≤ (0 : Int32).toInt ∧ (0 : Int32).toInt ≤ 12 by decide), (show 0 ≤ (0 : Int32).toInt ∧ (0 : Int32).toInt ≤ 9 by decide), t21, (show (w36 ((0 * 10 + 0) * 241 + y12.toInt - 10).toNat).toInt < 100000000 from (by rw [show ((0 * 10 + 0) * 241 + y12.toInt - 10).toNat = r44.toInt.toNat by omega, ← cl_nat, ← ev50]; omega))⟩ _ _ _ hP hD hS hl
          rintro ⟨u54, u55, u56, w57⟩ ⟨i58, i59, i60, i61⟩ ih_199 H locs ls hP hD hS hl
          have i58 : 0 ≤ u54.toInt ∧ u54.toInt ≤ 12 := i58
          have i59 : 0 ≤ u55.toInt ∧ u55.toInt ≤ 9 := i59
          have i60 : 10 ≤ u56.toInt ∧ u56.toInt ≤ 250 := i60
          have i61 : (w36 ((u54.toInt * 10 + u55.toInt) * 241 + u56.toInt - 10).toNat).toInt < 100000000 := i61
          have hP : va_P D vwCl [(h_downs, .inl (cI, 31330, .inl w36)), (h_lineHeights, .inl (cI, 12, .inl w57)), (h_paceAt, .inl (cI, 40, .inl g16)), (h_kindOf, .inl (cI, 4, .inl g17)), (h0, .inr (10, vL 67 F10)), (h_s, .inl (cI, 335, .inl f_s))] H := hP
          have hD : va_D A [(h_downs, .inl (cI, 31330, .inl w36)), (h_lineHeights, .inl (cI, 12, .inl w57)), (h_paceAt, .inl (cI, 40, .inl g16)), (h_kindOf, .inl (cI, 4, .inl g17)), (h0, .inr (10, vL 67 F10)), (h_s, .inl (cI, 335, .inl f_s))] := hD
          have hl : lv_has ls 7 [(5, .int u54), (4, .int u55), (3, .int u56), (2, .int v50), (1, .int r29), (0, .ref h0)] := hl
          refine lv_iload hx hb dX10_line_199 (lv_at hl 0 rfl) ?_
          refine lv_aload_n hx hb dX10_line_201 rfl (lv_at hl 5 rfl) ?_
          refine get_f (D := D) (ci := 10) (v := .ref h_s) (C := RX10) (T := TX10) (N := 67) hx hb hw inAX10 hown hK hP 4 rfl rfl 6 (by decide) (hw _ q_1267) (fun _ h9 => h9) n28 dX10_line_202 ?_
          refine lv_bipush (v := 6) hx hb dX10_line_205 (by decide) ?_
          refine iald_n hx hb hK hP 5 0 rfl rfl 6 rfl (Nat.le_of_ble_eq_true rfl) (Nat.le_of_ble_eq_true rfl) rfl dX10_line_207 ?_
          refine lv_ci (y := v33) ev33.symm ?_
          refine lv_icmp_ge (tgt := 280) hx hb dX10_line_208 (by decide) (fun c62 => ?_) (fun c62 => ?_)
          · have dc62 : v33.toInt ≤ u54.toInt := le_i (a := v33.toInt) (b := u54.toInt) rfl rfl c62
            refine lv_aload_n hx hb dX10_line_280 rfl (lv_at hl 5 rfl) ?_
            refine lv_aload_n hx hb dX10_line_281 rfl (lv_at hl 5 rfl) ?_
            refine get_f (D := D) (ci := 10) (v := .ref h_s) (C := RX10) (T := TX10) (N := 67) hx hb hw inAX10 hown hK hP 4 rfl rfl 6 (by decide) (hw _ q_1267) (fun _ h9 => h9) n28 dX10_line_282 ?_
            refine lv_bipush (v := 6) hx hb dX10_line_285 (by decide) ?_
            refine iald_n hx hb hK hP 5 0 rfl rfl 6 rfl (Nat.le_of_ble_eq_true rfl) (Nat.le_of_ble_eq_true rfl) rfl dX10_line_287 ?_
            refine lv_ci (y := v33) ev33.symm ?_
            refine put_f (D := D) (ci := 10) (v := .int v33) (ty := .int) (C := RX10) (T := TX10) (N := 67) hx hb hw inAX10 tyX10 tyX10_ok nmX10 hown hK hP hD hS 4 rfl rfl 56 (by decide) (hw _ q_1317) (fun _ h9 => h9) rfl (by decide +kernel) rfl rfl dX10_line_288 (fun H locs F63 eF63 hP hD hS => ?_)
            have hP : va_P D vwCl [(h_downs, .inl (cI, 31330, .inl w36)), (h_lineHeights, .inl (cI, 12, .inl w57)), (h_paceAt, .inl (cI, 40, .inl g16)), (h_kindOf, .inl (cI, 4, .inl g17)), (h0, .inr (10, vL 67 F63)), (h_s, .inl (cI, 335, .inl f_s))] H := hP
            have hD : va_D A [(h_downs, .inl (cI, 31330, .inl w36)), (h_lineHeights, .inl (cI, 12, .inl w57)), (h_paceAt, .inl (cI, 40, .inl g16)), (h_kindOf, .inl (cI, 4, .inl g17)), (h0, .inr (10, vL 67 F63)), (h_s, .inl (cI, 335, .inl f_s))] := hD
            refine lv_aload_n hx hb dX10_line_291 rfl (lv_at hl 5 rfl) ?_
            refine lv_aload_n hx hb dX10_line_292 rfl (lv_at hl 5 rfl) ?_
            have n64 : F63 6 = .ref h_s := (get_ne eF63 (by decide) n28)
            refine get_f (D := D) (ci := 10) (v := .ref h_s) (C := RX10) (T := TX10) (N := 67) hx hb hw inAX10 hown hK hP 4 rfl rfl 6 (by decide) (hw _ q_1267) (fun _ h9 => h9) n64 dX10_line_293 ?_
            refine lv_sipush (v := 334) hx hb dX10_line_296 (by decide) ?_
            refine iald_n hx hb hK hP 5 0 rfl rfl 334 rfl (Nat.le_of_ble_eq_true rfl) (Nat.le_of_ble_eq_true rfl) rfl dX10_line_299 ?_
            refine lv_topi (fun v65 ev65 => ?_)
            refine put_f (D := D) (ci := 10) (v := .int v65) (ty := .int) (C := RX10) (T := TX10) (N := 67) hx hb hw inAX10 tyX10 tyX10_ok nmX10 hown hK hP hD hS 4 rfl rfl 55 (by decide) (hw _ q_1316) (fun _ h9 => h9) rfl (by decide +kernel) rfl rfl dX10_line_300 (fun H locs F66 eF66 hP hD hS => ?_)
            have hP : va_P D vwCl [(h_downs, .inl (cI, 31330, .inl w36)), (h_lineHeights, .inl (cI, 12, .inl w57)), (h_paceAt, .inl (cI, 40, .inl g16)), (h_kindOf, .inl (cI, 4, .inl g17)), (h0, .inr (10, vL 67 F66)), (h_s, .inl (cI, 335, .inl f_s))] H := hP
            have hD : va_D A [(h_downs, .inl (cI, 31330, .inl w36)), (h_lineHeights, .inl (cI, 12, .inl w57)), (h_paceAt, .inl (cI, 40, .inl g16)), (h_kindOf, .inl (cI, 4, .inl g17)), (h0, .inr (10, vL 67 F66)), (h_s, .inl (cI, 335, .inl f_s))] := hD
            refine lv_aload_n hx hb dX10_line_303 rfl (lv_at hl 5 rfl) ?_
            refine lv_iconst (v := 1) hx hb dX10_line_304 (by decide) ?_
            refine put_f (D := D) (ci := 10) (v := .int 1) (ty := .boolean) (C := RX10) (T := TX10) (N := 67) hx hb hw inAX10 tyX10 tyX10_ok nmX10 hown hK hP hD hS 4 rfl rfl 52 (by decide) (hw _ q_1313) (fun _ h9 => h9) rfl (by decide +kernel) rfl rfl dX10_line_305 (fun H locs F67 eF67 hP hD hS => ?_)
            have hP : va_P D vwCl [(h_downs, .inl (cI, 31330, .inl w36)), (h_lineHeights, .inl (cI, 12, .inl w57)), (h_paceAt, .inl (cI, 40, .inl g16)), (h_kindOf, .inl (cI, 4, .inl g17)), (h0, .inr (10, vL 67 F67)), (h_s, .inl (cI, 335, .inl f_s))] H := hP
            have hD : va_D A [(h_downs, .inl (cI, 31330, .inl w36)), (h_lineHeights, .inl (cI, 12, .inl w57)), (h_paceAt, .inl (cI, 40, .inl g16)), (h_kindOf, .inl (cI, 4, .inl g17)), (h0, .inr (10, vL 67 F67)), (h_s, .inl (cI, 335, .inl f_s))] := hD
            refine lv_aload_n hx hb dX10_line_308 rfl (lv_at hl 5 rfl) ?_
            have n68 : F63 27 = .int y11 := (get_ne eF63 (by decide) t19)
            have n69 : F66 27 = .int y11 := (get_ne eF66 (by decide) n68)
            have n70 : F67 27 = .int y11 := (get_ne eF67 (by decide) n69)
            refine get_f (D := D) (ci := 10) (v := .int y11) (C := RX10) (T := TX10) (N := 67) hx hb hw inAX10 hown hK hP 4 rfl rfl 27 (by decide) (hw _ q_1288) (fun _ h9 => h9) n70 dX10_line_309 ?_
            refine lv_iload_n hx hb dX10_line_312 rfl (lv_at hl 3 rfl) ?_
            refine lv_iadd hx hb dX10_line_313 ?_
            refine lv_topi (fun v71 ev71 => ?_)
            exact ret_i (v := v71) hx hb hr hlocks hS (hP.sub (ws' := [(h0, .inr (10, vL 67 F67)), (h_s, .inl (cI, 335, .inl f_s)), (h_paceAt, .inl (cI, 40, .inl g16)), (h_kindOf, .inl (cI, 4, .inl g17)), (h_downs, .inl (cI, 31330, .inl w36)), (h_lineHeights, .inl (cI, 12, .inl w57))]) [4, 5, 2, 3, 0, 1] rfl) (hD.sub (ws' := [(h0, .inr (10, vL 67 F67)), (h_s, .inl (cI, 335, .inl f_s)), (h_paceAt, .inl (cI, 40, .inl g16)), (h_kindOf, .inl (cI, 4, .inl g17)), (h_downs, .inl (cI, 31330, .inl w36)), (h_lineHeights, .inl (cI, 12, .inl w57))]) [4, 5, 2, 3, 0, 1] (by decide) rfl) dX10_line_314 rfl (Nat.le_of_ble_eq_true rfl) (Nat.le_of_ble_eq_true rfl) ⟨F67, y11, y12, y13, y14, y15, 1, v65, v33, g16, g17, w36, w57, (SAME.up eF67 (SAME.up eF66 (SAME.up eF63 (SAME.tr (SAME.up eF1 SAME.rf (by decide)) t18 (by decide)) (by decide)) (by decide)) (by decide)), (get_ne eF67 (by decide) (get_ne eF66 (by decide) (get_ne eF63 (by decide) (SAME.at t18 (by decide) (get_eq eF1))))), n70, (get_ne eF67 (by decide) (get_ne eF66 (by decide) (get_ne eF63 (by decide) t20))), (get_ne eF67 (by decide) (get_ne eF66 (by decide) (get_ne eF63 (by decide) t22))), t23, (get_ne eF67 (by decide) (get_ne eF66 (by decide) (get_ne eF63 (by decide) t24))), t25, (get_ne eF67 (by decide) (get_ne eF66 (by decide) (get_ne eF63 (by decide) t26))), (get_eq eF67), (show 0 ≤ (1 : Int32).toInt ∧ (1 : Int32).toInt ≤ 1 by decide), (get_ne eF67 (by decide) (get_eq eF66)), (get_ne eF67 (by decide) (get_ne eF66 (by decide) (get_eq eF63))), k34, i38, rfl⟩
          · have dc62 : u54.toInt < v33.toInt := nle_i (a := v33.toInt) (b := u54.toInt) rfl rfl c62
            have k72 : 0 ≤ u54.toInt ∧ u54.toInt ≤ 11 := ⟨i58.1, up_lt dc62 k34.2 (by decide)⟩
            have k73 : 1 ≤ v33.toInt ∧ v33.toInt ≤ 12 := ⟨lo_lt dc62 i58.1 (by decide), k34.2⟩
            refine lv_iconst (v := 0) hx hb dX10_line_211 (by decide) ?_
            refine lv_istore (lv' := [(6, .int 0), (5, .int u54), (4, .int u55), (3, .int u56), (2, .int v50), (1, .int r29), (0, .ref h0)]) hx hb dX10_line_212 hl (by decide) rfl (fun ls hl => ?_)
            refine mloop (α := (Int32)) (nL := 7) (D := D) (A := A) (H0 := s.heap) (fun a => (9 - a.toInt).toNat) (fun a => IR 0 9 a ∧ (EXD f_s w36 r29 u54 u55 u56 (a.toInt))) (fun a => [(h_downs, .inl (cI, 31330, .inl w36)), (h_lineHeights, .inl (cI, 12, .inl w57)), (h_paceAt, .inl (cI, 40, .inl g16)), (h_kindOf, .inl (cI, 4, .inl g17)), (h0, .inr (10, vL 67 F10)), (h_s, .inl (cI, 335, .inl f_s))]) (fun a => [(6, .int a), (5, .int u54), (4, .int u55), (3, .int u56), (2, .int v50), (1, .int r29), (0, .ref h0)]) (fun H locs ls => W p l e ({ frames := 4, cells := 0, slots := 0, locals := 94 } : Room) s m [.ref h0].toArray below meth c H locs 0 0 (MQ below (va_Qi (fun (r : Int32) (u : va_W) => ∃ (Gh : Nat → Value) (y_lineTime : Int32) (y_linePace : Int32) (y_inside : Int32) (y_late : Int32) (y_seed : Int32) (y_hasLine : Int32) (y_lineId : Int32) (y_lineBends : Int32) (g_paceAt : Nat → Int32) (g_kindOf : Nat → Int32) (g_downs : Nat → Int32) (g_lineHeights : Nat → Int32), SAME [0, 27, 28, 29, 30, 31, 52, 55, 56] Fh Gh ∧ Gh 0 = .int 0 ∧ Gh 27 = .int y_lineTime ∧ Gh 28 = .int y_linePace ∧ Gh 29 = .int y_inside ∧ IR 0 15 y_inside ∧ Gh 30 = .int y_late ∧ IR 0 15 y_late ∧ Gh 31 = .int y_seed ∧ Gh 52 = .int y_hasLine ∧ IR 0 1 y_hasLine ∧ Gh 55 = .int y_lineId ∧ Gh 56 = .int y_lineBends ∧ IR 0 12 y_lineBends ∧ SG 0 31329 0 100000000 g_downs ∧ u = [(h0, .inr (10, vL 67 Gh)), (h_s, .inl (cI, 335, .inl f_s)), (h_paceAt, .inl (cI, 40, .inl g_paceAt)), (h_kindOf, .inl (cI, 4, .inl g_kindOf)), (h_downs, .inl (cI, 31330, .inl g_downs)), (h_lineHeights, .inl (cI, 12, .inl g_lineHeights))]) (PO D A) A) [.ref h0].toArray s 0 0 A) (F0 m 214 ls [])) ?_ (0) ⟨(show 0 ≤ (0 : Int32).toInt ∧ (0 : Int32).toInt ≤ 9 by decide), (show EXD f_s w36 r29 u54 u55 u56 (0) from (EXD.of (DBL.fin i39 (by omega)) ⟨by omega, by omega⟩ ⟨by omega, by omega⟩ ⟨by omega, by omega⟩ i61))⟩ _ _ _ hP hD hS hl
            rintro u74 ⟨i75, i76⟩ ih_214 H locs ls hP hD hS hl
            have i75 : 0 ≤ u74.toInt ∧ u74.toInt ≤ 9 := i75
            have i76 : EXD f_s w36 r29 u54 u55 u56 (u74.toInt) := i76
            have hP : va_P D vwCl [(h_downs, .inl (cI, 31330, .inl w36)), (h_lineHeights, .inl (cI, 12, .inl w57)), (h_paceAt, .inl (cI, 40, .inl g16)), (h_kindOf, .inl (cI, 4, .inl g17)), (h0, .inr (10, vL 67 F10)), (h_s, .inl (cI, 335, .inl f_s))] H := hP
            have hD : va_D A [(h_downs, .inl (cI, 31330, .inl w36)), (h_lineHeights, .inl (cI, 12, .inl w57)), (h_paceAt, .inl (cI, 40, .inl g16)), (h_kindOf, .inl (cI, 4, .inl g17)), (h0, .inr (10, vL 67 F10)), (h_s, .inl (cI, 335, .inl f_s))] := hD
            have hl : lv_has ls 7 [(6, .int u74), (5, .int u54), (4, .int u55), (3, .int u56), (2, .int v50), (1, .int r29), (0, .ref h0)] := hl
            refine lv_aload_n hx hb dX10_line_214 rfl (lv_at hl 6 rfl) ?_
            refine lv_iload hx hb dX10_line_215 (lv_at hl 1 rfl) ?_
            refine lv_iload hx hb dX10_line_217 (lv_at hl 2 rfl) ?_
            refine lv_iload_n hx hb dX10_line_219 rfl (lv_at hl 3 rfl) ?_
            refine lv_iload_n hx hb dX10_line_220 rfl (lv_at hl 5 rfl) ?_
            refine lv_iload hx hb dX10_line_221 (lv_at hl 0 rfl) ?_
            refine call_Vi (wr := [(h_lineHeights, .inl (cI, 12, .inl w57)), (h_paceAt, .inl (cI, 40, .inl g16)), (h_kindOf, .inl (cI, 4, .inl g17))]) (As := [.int u54, .int u55, .int u56, .int r29, .int u74]) (rest := []) hx hb hml hown hw (m_X10_downBy l D cI cJ cB cP cM cZ h0 h_s h_downs F10 f_s w36 u54 u55 u56 r29 u74 _ n28 n43 s_s_K0 s_s_0 s_s_105 s_s_114 s_s_130 s_s_139 s_s_153 s_s_44 s_s_5 s_s_6 s_s_7 i38 k72 i59 i60 i75) wV_X10_410_X10_downBy dX10_line_223 hK hP hD hS hA [4, 5, 0] [1, 2, 3] rfl rfl (by decide) (by decide) (by decide) 0 10 rfl rfl GG.fb hG.at hl.1 rfl (Nat.le_of_ble_eq_true rfl) ⟨(Nat.le_of_ble_eq_true rfl), (Nat.le_of_ble_eq_true rfl)⟩ ⟨(Nat.le_of_ble_eq_true rfl), (Nat.le_of_ble_eq_true rfl)⟩ (fun r77 u H locs hp hP hD hS => ?_)
            obtain ⟨t78, t79, rfl⟩ := hp
            have hP : va_P D vwCl [(h_lineHeights, .inl (cI, 12, .inl w57)), (h_paceAt, .inl (cI, 40, .inl g16)), (h_kindOf, .inl (cI, 4, .inl g17)), (h0, .inr (10, vL 67 F10)), (h_s, .inl (cI, 335, .inl f_s)), (h_downs, .inl (cI, 31330, .inl w36))] H := hP
            have hD : va_D A [(h_lineHeights, .inl (cI, 12, .inl w57)), (h_paceAt, .inl (cI, 40, .inl g16)), (h_kindOf, .inl (cI, 4, .inl g17)), (h0, .inr (10, vL 67 F10)), (h_s, .inl (cI, 335, .inl f_s)), (h_downs, .inl (cI, 31330, .inl w36))] := hD
            refine W.widen (k := 0) (n := 0) (Nat.le_of_ble_eq_true rfl) (Nat.le_of_ble_eq_true rfl) ?_
            refine lv_aload_n hx hb dX10_line_226 rfl (lv_at hl 6 rfl) ?_
            refine get_f (D := D) (ci := 10) (v := .ref h_downs) (C := RX10) (T := TX10) (N := 67) hx hb hw inAX10 hown hK hP 3 rfl rfl 53 (by decide) (hw _ q_1314) (fun _ h9 => h9) n43 dX10_line_227 ?_
            refine lv_iload hx hb dX10_line_230 (lv_at hl 1 rfl) ?_
            refine lv_iload hx hb dX10_line_232 (lv_at hl 2 rfl) ?_
            refine lv_iload_n hx hb dX10_line_234 rfl (lv_at hl 3 rfl) ?_
            refine call_Si (wr := [(h_lineHeights, .inl (cI, 12, .inl w57)), (h_paceAt, .inl (cI, 40, .inl g16)), (h_kindOf, .inl (cI, 4, .inl g17)), (h0, .inr (10, vL 67 F10)), (h_s, .inl (cI, 335, .inl f_s)), (h_downs, .inl (cI, 31330, .inl w36))]) (As := [.int u54, .int u55, .int u56]) (rest := [.ref h_downs, .int r77]) hx hb hml hown hw (m_X10_place l D cI cJ cB cP cM cZ u54 u55 u56 _ (ir_wk k72 (by decide) (by decide)) i59 i60) wS_X10_407_X10_place dX10_line_235 hP hD hS hA [] [0, 1, 2, 3, 4, 5] rfl rfl (by decide) (by decide) (by decide) GG.fb hG.at hl.1 rfl (Nat.le_of_ble_eq_true rfl) ⟨(Nat.le_of_ble_eq_true rfl), (Nat.le_of_ble_eq_true rfl)⟩ ⟨(Nat.le_of_ble_eq_true rfl), (Nat.le_of_ble_eq_true rfl)⟩ (fun r81 u H locs hp hP hD hS => ?_)
            obtain ⟨t82, t83, t84, rfl⟩ := hp
            have hP : va_P D vwCl [(h_lineHeights, .inl (cI, 12, .inl w57)), (h_paceAt, .inl (cI, 40, .inl g16)), (h_kindOf, .inl (cI, 4, .inl g17)), (h0, .inr (10, vL 67 F10)), (h_s, .inl (cI, 335, .inl f_s)), (h_downs, .inl (cI, 31330, .inl w36))] H := hP
            have hD : va_D A [(h_lineHeights, .inl (cI, 12, .inl w57)), (h_paceAt, .inl (cI, 40, .inl g16)), (h_kindOf, .inl (cI, 4, .inl g17)), (h0, .inr (10, vL 67 F10)), (h_s, .inl (cI, 335, .inl f_s)), (h_downs, .inl (cI, 31330, .inl w36))] := hD
            refine W.widen (k := 0) (n := 0) (Nat.le_of_ble_eq_true rfl) (Nat.le_of_ble_eq_true rfl) ?_
            have k86 : 0 ≤ r81.toInt ∧ r81.toInt ≤ 28919 := ⟨by omega, by omega⟩
            refine va_iald hx hb hK hP 5 0 rfl rfl (ix_k k86 (by decide) (by decide)) dX10_line_238 ?_
            refine lv_topi (fun v87 ev87 => ?_)
            have k88 : 0 ≤ v87.toInt ∧ v87.toInt ≤ 100000000 := by rw [ev87]; exact i38.at _ (Int.le_trans (by decide) k86.1) (Int.le_trans k86.2 (by decide))
            refine lv_icmp_eq (tgt := 248) hx hb dX10_line_239 (by decide) (fun c89 => ?_) (fun c89 => ?_)
            · have dc89 : r77.toInt = v87.toInt := eq_i (a := r77.toInt) (b := v87.toInt) rfl rfl c89
              have k90 : 0 ≤ r77.toInt ∧ r77.toInt ≤ 100000000 := ⟨t78.1, Int.le_trans (Int.le_of_eq dc89) k88.2⟩
              refine lv_aload_n hx hb dX10_line_248 rfl (lv_at hl 6 rfl) ?_
              have n91 : F1 54 = .ref h_lineHeights := (get_ne eF1 (by decide) e_lineHeights)
              have n92 : F10 54 = .ref h_lineHeights := (SAME.at t18 (by decide) n91)
              refine get_f (D := D) (ci := 10) (v := .ref h_lineHeights) (C := RX10) (T := TX10) (N := 67) hx hb hw inAX10 hown hK hP 3 rfl rfl 54 (by decide) (hw _ q_1315) (fun _ h9 => h9) n92 dX10_line_249 ?_
              refine lv_iload hx hb dX10_line_252 (lv_at hl 1 rfl) ?_
              refine lv_iload hx hb dX10_line_254 (lv_at hl 0 rfl) ?_
              obtain ⟨g93, eg93⟩ : ∃ z : Nat → Int32, upd w57 u54.toNatClampNeg u74 = z := ⟨_, rfl⟩
              refine iast_g hx hb hK hP hD hS 0 0 rfl rfl (ix_k k72 (by decide) (by decide)) eg93 dX10_line_256 (fun H locs hP hD hS => ?_)
              have hP : va_P D vwCl [(h_lineHeights, .inl (cI, 12, .inl g93)), (h_paceAt, .inl (cI, 40, .inl g16)), (h_kindOf, .inl (cI, 4, .inl g17)), (h0, .inr (10, vL 67 F10)), (h_s, .inl (cI, 335, .inl f_s)), (h_downs, .inl (cI, 31330, .inl w36))] H := hP
              have hD : va_D A [(h_lineHeights, .inl (cI, 12, .inl g93)), (h_paceAt, .inl (cI, 40, .inl g16)), (h_kindOf, .inl (cI, 4, .inl g17)), (h0, .inr (10, vL 67 F10)), (h_s, .inl (cI, 335, .inl f_s)), (h_downs, .inl (cI, 31330, .inl w36))] := hD
              refine lv_aload_n hx hb dX10_line_257 rfl (lv_at hl 6 rfl) ?_
              refine lv_iload hx hb dX10_line_258 (lv_at hl 1 rfl) ?_
              refine lv_iload_n hx hb dX10_line_260 rfl (lv_at hl 3 rfl) ?_
              refine lv_iload_n hx hb dX10_line_261 rfl (lv_at hl 5 rfl) ?_
              refine lv_iload hx hb dX10_line_262 (lv_at hl 2 rfl) ?_
              refine lv_iload hx hb dX10_line_264 (lv_at hl 0 rfl) ?_
              refine call_Vi (wr := [(h_lineHeights, .inl (cI, 12, .inl g93)), (h_paceAt, .inl (cI, 40, .inl g16)), (h_kindOf, .inl (cI, 4, .inl g17)), (h_downs, .inl (cI, 31330, .inl w36))]) (As := [.int u54, .int u56, .int r29, .int u55, .int u74]) (rest := []) hx hb hml hown hw (m_X10_inBend l D cI cJ cB cP cM cZ h0 h_s F10 f_s u54 u56 r29 u55 u74 _ n28 s_s_K0 s_s_0 s_s_105 s_s_114 s_s_130 s_s_139 s_s_153 s_s_44 s_s_5 s_s_6 s_s_7 k72) wV_X10_355_X10_inBend dX10_line_266 hK hP hD hS hA [3, 4] [0, 1, 2, 5] rfl rfl (by decide) (by decide) (by decide) 0 10 rfl rfl GG.fb hG.at hl.1 rfl (Nat.le_of_ble_eq_true rfl) ⟨(Nat.le_of_ble_eq_true rfl), (Nat.le_of_ble_eq_true rfl)⟩ ⟨(Nat.le_of_ble_eq_true rfl), (Nat.le_of_ble_eq_true rfl)⟩ (fun r94 u H locs hp hP hD hS => ?_)
              obtain ⟨t95, t96, rfl⟩ := hp
              have hP : va_P D vwCl [(h_lineHeights, .inl (cI, 12, .inl g93)), (h_paceAt, .inl (cI, 40, .inl g16)), (h_kindOf, .inl (cI, 4, .inl g17)), (h_downs, .inl (cI, 31330, .inl w36)), (h0, .inr (10, vL 67 F10)), (h_s, .inl (cI, 335, .inl f_s))] H := hP
              have hD : va_D A [(h_lineHeights, .inl (cI, 12, .inl g93)), (h_paceAt, .inl (cI, 40, .inl g16)), (h_kindOf, .inl (cI, 4, .inl g17)), (h_downs, .inl (cI, 31330, .inl w36)), (h0, .inr (10, vL 67 F10)), (h_s, .inl (cI, 335, .inl f_s))] := hD
              refine W.widen (k := 0) (n := 0) (Nat.le_of_ble_eq_true rfl) (Nat.le_of_ble_eq_true rfl) ?_
              have h98 := line_nx (hv := u74) ⟨by omega, by omega⟩ ⟨by omega, by omega⟩ s_s_44 i38 t79 ev87 (by omega) (by omega) i61 t96
              refine lv_istore_n (lv' := [(3, .int r94), (6, .int u74), (5, .int u54), (4, .int u55), (2, .int v50), (1, .int r29), (0, .ref h0)]) hx hb dX10_line_269 rfl hl (by decide) rfl (fun ls hl => ?_)
              refine lv_iload hx hb dX10_line_270 (lv_at hl 1 rfl) ?_
              refine lv_istore (lv' := [(4, .int u74), (3, .int r94), (6, .int u74), (5, .int u54), (2, .int v50), (1, .int r29), (0, .ref h0)]) hx hb dX10_line_272 hl (by decide) rfl (fun ls hl => ?_)
              obtain ⟨v99, ev99⟩ : ∃ z : Int32, z = u54 + 1 := ⟨_, rfl⟩
              have bv99 : v99.toInt = u54.toInt + 1 := by rw [ev99]; exact add_k rfl rfl k72 ⟨Int.le_refl _, Int.le_refl _⟩ (by decide)
              have k100 : 1 ≤ v99.toInt ∧ v99.toInt ≤ 12 := add_r bv99 k72 ⟨Int.le_refl _, Int.le_refl _⟩ (by decide)
              refine lv_iinc (v := v99) (lv' := [(5, .int v99), (4, .int u74), (3, .int r94), (6, .int u74), (2, .int v50), (1, .int r29), (0, .ref h0)]) hx hb dX10_line_274 hl (k := 3) rfl (by rw [ev99]; rfl) (by decide) rfl (fun ls hl => ?_)
              refine lv_goto (tgt := 199) hx hb dX10_line_277 (by decide) ?_
              exact ih_199 (v99, u74, r94, g93) ⟨(ir_wk k100 (by decide) (by decide)), i75, t95, (show (w36 ((v99.toInt * 10 + u74.toInt) * 241 + r94.toInt - 10).toNat).toInt < 100000000 from (by rw [show ((v99.toInt * 10 + u74.toInt) * 241 + r94.toInt - 10).toNat = (((u54.toInt + 1) * 10 + u74.toInt) * 241 + r94.toInt - 10).toNat by omega]; exact h98))⟩ (by show (12 - v99.toInt).toNat < (12 - u54.toInt).toNat; omega) _ _ _ (hP.sub [3, 0, 1, 2, 4, 5] rfl) (hD.sub [3, 0, 1, 2, 4, 5] (by decide) rfl) hS (lv_sub hl [0, 1, 2, 4, 5, 6] rfl)
            · have dc89 : r77.toInt ≠ v87.toInt := ne_i (a := r77.toInt) (b := v87.toInt) rfl rfl c89
              have h101 := EXD.step i76 t79 rfl ev87 (by omega) (by omega) (rfl : u74.toInt + 1 = u74.toInt + 1)
              have dh101 := EXD.le h101
              obtain ⟨v102, ev102⟩ : ∃ z : Int32, z = u74 + 1 := ⟨_, rfl⟩
              have bv102 : v102.toInt = u74.toInt + 1 := by rw [ev102]; exact add_k rfl rfl i75 ⟨Int.le_refl _, Int.le_refl _⟩ (by decide)
              have k103 : 1 ≤ v102.toInt ∧ v102.toInt ≤ 10 := add_r bv102 i75 ⟨Int.le_refl _, Int.le_refl _⟩ (by decide)
              refine lv_iinc (v := v102) (lv' := [(6, .int v102), (5, .int u54), (4, .int u55), (3, .int u56), (2, .int v50), (1, .int r29), (0, .ref h0)]) hx hb dX10_line_242 hl (k := 0) rfl (by rw [ev102]; rfl) (by decide) rfl (fun ls hl => ?_)
              refine lv_goto (tgt := 214) hx hb dX10_line_245 (by decide) ?_
              exact ih_214 (v102) ⟨(show 0 ≤ v102.toInt ∧ v102.toInt ≤ 9 from ⟨by omega, by omega⟩), (show EXD f_s w36 r29 u54 u55 u56 (v102.toInt) from (by rw [show v102.toInt = u74.toInt + 1 by omega]; exact h101))⟩ (by show (9 - v102.toInt).toNat < (9 - u74.toInt).toNat; omega) _ _ _ (hP.sub [5, 0, 1, 2, 3, 4] rfl) (hD.sub [5, 0, 1, 2, 3, 4] (by decide) rfl) hS (lv_sub hl [0, 1, 2, 3, 4, 5, 6] rfl)
        · have dc52 : 100000000 ≤ v50.toInt := nlt_i (a := v50.toInt) (b := 100000000) rfl rfl c52
          have k104 : 100000000 ≤ v50.toInt ∧ v50.toInt ≤ 100000000 := ⟨Int.le_trans (Int.le_refl _) dc52, k51.2⟩
          refine lv_iconst (v := (-1)) hx hb dX10_line_186 (by decide) ?_
          exact ret_i (v := (-1)) hx hb hr hlocks hS (hP.sub (ws' := [(h0, .inr (10, vL 67 F10)), (h_s, .inl (cI, 335, .inl f_s)), (h_paceAt, .inl (cI, 40, .inl g16)), (h_kindOf, .inl (cI, 4, .inl g17)), (h_downs, .inl (cI, 31330, .inl w36)), (h_lineHeights, .inl (cI, 12, .inl f_lineHeights))]) [4, 5, 2, 3, 0, 1] rfl) (hD.sub (ws' := [(h0, .inr (10, vL 67 F10)), (h_s, .inl (cI, 335, .inl f_s)), (h_paceAt, .inl (cI, 40, .inl g16)), (h_kindOf, .inl (cI, 4, .inl g17)), (h_downs, .inl (cI, 31330, .inl w36)), (h_lineHeights, .inl (cI, 12, .inl f_lineHeights))]) [4, 5, 2, 3, 0, 1] (by decide) rfl) dX10_line_187 rfl (Nat.le_of_ble_eq_true rfl) (Nat.le_of_ble_eq_true rfl) ⟨F10, y11, y12, y13, y14, y15, x_hasLine, x_lineId, x_lineBends, g16, g17, w36, f_lineHeights, (SAME.tr (SAME.up eF1 SAME.rf (by decide)) t18 (by decide)), (SAME.at t18 (by decide) (get_eq eF1)), t19, t20, t22, t23, t24, t25, t26, (SAME.at t18 (by decide) (get_ne eF1 (by decide) e_hasLine)), i_x_hasLine, (SAME.at t18 (by decide) (get_ne eF1 (by decide) e_lineId)), (SAME.at t18 (by decide) (get_ne eF1 (by decide) e_lineBends)), i_x_lineBends, i38, rfl⟩
      · have dc40 : 0 ≤ u35.toInt := nlt_i (a := u35.toInt) (b := 0) rfl rfl c40
        have k105 : 0 ≤ u35.toInt ∧ u35.toInt ≤ 12 := ⟨Int.le_trans (Int.le_refl _) dc40, i37.2⟩
        refine lv_iconst (v := 0) hx hb dX10_line_47 (by decide) ?_
        refine lv_istore_n (lv' := [(3, .int 0), (2, .int u35), (1, .int r29), (0, .ref h0)]) hx hb dX10_line_48 rfl hl (by decide) rfl (fun ls hl => ?_)
        refine mloop (α := (Int32) × (Nat → Int32)) (nL := 7) (D := D) (A := A) (H0 := s.heap) (fun a => (10 - a.1.toInt).toNat) (fun a => IR 0 10 a.1 ∧ SG 0 31329 0 100000000 a.2 ∧ (DBL f_s a.2 r29 v33.toInt (u35.toInt) (a.1.toInt) 10)) (fun a => [(h_downs, .inl (cI, 31330, .inl a.2)), (h_lineHeights, .inl (cI, 12, .inl f_lineHeights)), (h_paceAt, .inl (cI, 40, .inl g16)), (h_kindOf, .inl (cI, 4, .inl g17)), (h0, .inr (10, vL 67 F10)), (h_s, .inl (cI, 335, .inl f_s))]) (fun a => [(3, .int a.1), (2, .int u35), (1, .int r29), (0, .ref h0)]) (fun H locs ls => W p l e ({ frames := 4, cells := 0, slots := 0, locals := 94 } : Room) s m [.ref h0].toArray below meth c H locs 0 0 (MQ below (va_Qi (fun (r : Int32) (u : va_W) => ∃ (Gh : Nat → Value) (y_lineTime : Int32) (y_linePace : Int32) (y_inside : Int32) (y_late : Int32) (y_seed : Int32) (y_hasLine : Int32) (y_lineId : Int32) (y_lineBends : Int32) (g_paceAt : Nat → Int32) (g_kindOf : Nat → Int32) (g_downs : Nat → Int32) (g_lineHeights : Nat → Int32), SAME [0, 27, 28, 29, 30, 31, 52, 55, 56] Fh Gh ∧ Gh 0 = .int 0 ∧ Gh 27 = .int y_lineTime ∧ Gh 28 = .int y_linePace ∧ Gh 29 = .int y_inside ∧ IR 0 15 y_inside ∧ Gh 30 = .int y_late ∧ IR 0 15 y_late ∧ Gh 31 = .int y_seed ∧ Gh 52 = .int y_hasLine ∧ IR 0 1 y_hasLine ∧ Gh 55 = .int y_lineId ∧ Gh 56 = .int y_lineBends ∧ IR 0 12 y_lineBends ∧ SG 0 31329 0 100000000 g_downs ∧ u = [(h0, .inr (10, vL 67 Gh)), (h_s, .inl (cI, 335, .inl f_s)), (h_paceAt, .inl (cI, 40, .inl g_paceAt)), (h_kindOf, .inl (cI, 4, .inl g_kindOf)), (h_downs, .inl (cI, 31330, .inl g_downs)), (h_lineHeights, .inl (cI, 12, .inl g_lineHeights))]) (PO D A) A) [.ref h0].toArray s 0 0 A) (F0 m 49 ls [])) ?_ (0, w36) ⟨(show 0 ≤ (0 : Int32).toInt ∧ (0 : Int32).toInt ≤ 10 by decide), i38, (show DBL f_s w36 r29 v33.toInt (u35.toInt) (0) 10 from i39)⟩ _ _ _ hP hD hS hl
        rintro ⟨u106, w107⟩ ⟨i108, i109, i110⟩ ih_49 H locs ls hP hD hS hl
        have i108 : 0 ≤ u106.toInt ∧ u106.toInt ≤ 10 := i108
        have i110 : DBL f_s w107 r29 v33.toInt (u35.toInt) (u106.toInt) 10 := i110
        have hP : va_P D vwCl [(h_downs, .inl (cI, 31330, .inl w107)), (h_lineHeights, .inl (cI, 12, .inl f_lineHeights)), (h_paceAt, .inl (cI, 40, .inl g16)), (h_kindOf, .inl (cI, 4, .inl g17)), (h0, .inr (10, vL 67 F10)), (h_s, .inl (cI, 335, .inl f_s))] H := hP
        have hD : va_D A [(h_downs, .inl (cI, 31330, .inl w107)), (h_lineHeights, .inl (cI, 12, .inl f_lineHeights)), (h_paceAt, .inl (cI, 40, .inl g16)), (h_kindOf, .inl (cI, 4, .inl g17)), (h0, .inr (10, vL 67 F10)), (h_s, .inl (cI, 335, .inl f_s))] := hD
        have hl : lv_has ls 7 [(3, .int u106), (2, .int u35), (1, .int r29), (0, .ref h0)] := hl
        refine lv_iload_n hx hb dX10_line_49 rfl (lv_at hl 0 rfl) ?_
        refine lv_bipush (v := 10) hx hb dX10_line_50 (by decide) ?_
        refine lv_icmp_ge (tgt := 158) hx hb dX10_line_52 (by decide) (fun c111 => ?_) (fun c111 => ?_)
        · have dc111 : 10 ≤ u106.toInt := le_i (a := 10) (b := u106.toInt) rfl rfl c111
          have k112 : 10 ≤ u106.toInt ∧ u106.toInt ≤ 10 := ⟨Int.le_trans (Int.le_refl _) dc111, i108.2⟩
          obtain ⟨v113, ev113⟩ : ∃ z : Int32, z = u35 + (-1) := ⟨_, rfl⟩
          have bv113 : v113.toInt = u35.toInt + (-1) := by rw [ev113]; exact add_k rfl rfl k105 ⟨Int.le_refl _, Int.le_refl _⟩ (by decide)
          have k114 : (-1) ≤ v113.toInt ∧ v113.toInt ≤ 11 := add_r bv113 k105 ⟨Int.le_refl _, Int.le_refl _⟩ (by decide)
          refine lv_iinc (v := v113) (lv' := [(2, .int v113), (3, .int u106), (1, .int r29), (0, .ref h0)]) hx hb dX10_line_158 hl (k := 1) rfl (by rw [ev113]; rfl) (by decide) rfl (fun ls hl => ?_)
          refine lv_goto (tgt := 43) hx hb dX10_line_161 (by decide) ?_
          exact ih (v113, w107) ⟨(ir_wk k114 (by decide) (by decide)), i109, (show DBL f_s w107 r29 v33.toInt (v113.toInt) 0 10 from (DBL.nb i110 (by omega) (by omega)))⟩ (by show (v113.toInt + 1).toNat < (u35.toInt + 1).toNat; omega) _ _ _ hP hD hS (lv_sub hl [0, 2, 3] rfl)
        · have dc111 : u106.toInt < 10 := nle_i (a := 10) (b := u106.toInt) rfl rfl c111
          have k115 : 0 ≤ u106.toInt ∧ u106.toInt ≤ 9 := ⟨i108.1, up_lt dc111 (Int.le_refl _) (by decide)⟩
          refine lv_bipush (v := 10) hx hb dX10_line_55 (by decide) ?_
          refine lv_istore (lv' := [(4, .int 10), (3, .int u106), (2, .int u35), (1, .int r29), (0, .ref h0)]) hx hb dX10_line_57 hl (by decide) rfl (fun ls hl => ?_)
          refine mloop (α := (Int32) × (Nat → Int32)) (nL := 7) (D := D) (A := A) (H0 := s.heap) (fun a => (251 - a.1.toInt).toNat) (fun a => IR 10 251 a.1 ∧ SG 0 31329 0 100000000 a.2 ∧ (DBL f_s a.2 r29 v33.toInt (u35.toInt) (u106.toInt) (a.1.toInt))) (fun a => [(h_downs, .inl (cI, 31330, .inl a.2)), (h_lineHeights, .inl (cI, 12, .inl f_lineHeights)), (h_paceAt, .inl (cI, 40, .inl g16)), (h_kindOf, .inl (cI, 4, .inl g17)), (h0, .inr (10, vL 67 F10)), (h_s, .inl (cI, 335, .inl f_s))]) (fun a => [(4, .int a.1), (3, .int u106), (2, .int u35), (1, .int r29), (0, .ref h0)]) (fun H locs ls => W p l e ({ frames := 4, cells := 0, slots := 0, locals := 94 } : Room) s m [.ref h0].toArray below meth c H locs 0 0 (MQ below (va_Qi (fun (r : Int32) (u : va_W) => ∃ (Gh : Nat → Value) (y_lineTime : Int32) (y_linePace : Int32) (y_inside : Int32) (y_late : Int32) (y_seed : Int32) (y_hasLine : Int32) (y_lineId : Int32) (y_lineBends : Int32) (g_paceAt : Nat → Int32) (g_kindOf : Nat → Int32) (g_downs : Nat → Int32) (g_lineHeights : Nat → Int32), SAME [0, 27, 28, 29, 30, 31, 52, 55, 56] Fh Gh ∧ Gh 0 = .int 0 ∧ Gh 27 = .int y_lineTime ∧ Gh 28 = .int y_linePace ∧ Gh 29 = .int y_inside ∧ IR 0 15 y_inside ∧ Gh 30 = .int y_late ∧ IR 0 15 y_late ∧ Gh 31 = .int y_seed ∧ Gh 52 = .int y_hasLine ∧ IR 0 1 y_hasLine ∧ Gh 55 = .int y_lineId ∧ Gh 56 = .int y_lineBends ∧ IR 0 12 y_lineBends ∧ SG 0 31329 0 100000000 g_downs ∧ u = [(h0, .inr (10, vL 67 Gh)), (h_s, .inl (cI, 335, .inl f_s)), (h_paceAt, .inl (cI, 40, .inl g_paceAt)), (h_kindOf, .inl (cI, 4, .inl g_kindOf)), (h_downs, .inl (cI, 31330, .inl g_downs)), (h_lineHeights, .inl (cI, 12, .inl g_lineHeights))]) (PO D A) A) [.ref h0].toArray s 0 0 A) (F0 m 59 ls [])) ?_ (10, w107) ⟨(show 10 ≤ (10 : Int32).toInt ∧ (10 : Int32).toInt ≤ 251 by decide), i109, (show DBL f_s w107 r29 v33.toInt (u35.toInt) (u106.toInt) (10) from i110)⟩ _ _ _ hP hD hS hl
          rintro ⟨u116, w117⟩ ⟨i118, i119, i120⟩ ih_59 H locs ls hP hD hS hl
          have i118 : 10 ≤ u116.toInt ∧ u116.toInt ≤ 251 := i118
          have i120 : DBL f_s w117 r29 v33.toInt (u35.toInt) (u106.toInt) (u116.toInt) := i120
          have hP : va_P D vwCl [(h_downs, .inl (cI, 31330, .inl w117)), (h_lineHeights, .inl (cI, 12, .inl f_lineHeights)), (h_paceAt, .inl (cI, 40, .inl g16)), (h_kindOf, .inl (cI, 4, .inl g17)), (h0, .inr (10, vL 67 F10)), (h_s, .inl (cI, 335, .inl f_s))] H := hP
          have hD : va_D A [(h_downs, .inl (cI, 31330, .inl w117)), (h_lineHeights, .inl (cI, 12, .inl f_lineHeights)), (h_paceAt, .inl (cI, 40, .inl g16)), (h_kindOf, .inl (cI, 4, .inl g17)), (h0, .inr (10, vL 67 F10)), (h_s, .inl (cI, 335, .inl f_s))] := hD
          have hl : lv_has ls 7 [(4, .int u116), (3, .int u106), (2, .int u35), (1, .int r29), (0, .ref h0)] := hl
          refine lv_iload hx hb dX10_line_59 (lv_at hl 0 rfl) ?_
          refine lv_sipush (v := 250) hx hb dX10_line_61 (by decide) ?_
          refine lv_icmp_gt (tgt := 152) hx hb dX10_line_64 (by decide) (fun c121 => ?_) (fun c121 => ?_)
          · have dc121 : 250 < u116.toInt := lt_i (a := 250) (b := u116.toInt) rfl rfl c121
            have k122 : 251 ≤ u116.toInt ∧ u116.toInt ≤ 251 := ⟨lo_lt dc121 (Int.le_refl _) (by decide), i118.2⟩
            obtain ⟨v123, ev123⟩ : ∃ z : Int32, z = u106 + 1 := ⟨_, rfl⟩
            have bv123 : v123.toInt = u106.toInt + 1 := by rw [ev123]; exact add_k rfl rfl k115 ⟨Int.le_refl _, Int.le_refl _⟩ (by decide)
            have k124 : 1 ≤ v123.toInt ∧ v123.toInt ≤ 10 := add_r bv123 k115 ⟨Int.le_refl _, Int.le_refl _⟩ (by decide)
            refine lv_iinc (v := v123) (lv' := [(3, .int v123), (4, .int u116), (2, .int u35), (1, .int r29), (0, .ref h0)]) hx hb dX10_line_152 hl (k := 1) rfl (by rw [ev123]; rfl) (by decide) rfl (fun ls hl => ?_)
            refine lv_goto (tgt := 49) hx hb dX10_line_155 (by decide) ?_
            exact ih_49 (v123, w117) ⟨(ir_wk k124 (by decide) (by decide)), i119, (show DBL f_s w117 r29 v33.toInt (u35.toInt) (v123.toInt) 10 from (DBL.na i120 (by omega) (by omega)))⟩ (by show (10 - v123.toInt).toNat < (10 - u106.toInt).toNat; omega) _ _ _ hP hD hS (lv_sub hl [0, 2, 3, 4] rfl)
          · have dc121 : u116.toInt ≤ 250 := nlt_i (a := 250) (b := u116.toInt) rfl rfl c121
            have k125 : 10 ≤ u116.toInt ∧ u116.toInt ≤ 250 := ⟨i118.1, Int.le_trans dc121 (Int.le_refl _)⟩
            refine lv_iload_n hx hb dX10_line_67 rfl (lv_at hl 2 rfl) ?_
            refine lv_aload_n hx hb dX10_line_68 rfl (lv_at hl 4 rfl) ?_
            refine get_f (D := D) (ci := 10) (v := .ref h_s) (C := RX10) (T := TX10) (N := 67) hx hb hw inAX10 hown hK hP 4 rfl rfl 6 (by decide) (hw _ q_1267) (fun _ h9 => h9) n28 dX10_line_69 ?_
            refine lv_bipush (v := 6) hx hb dX10_line_72 (by decide) ?_
            refine iald_n hx hb hK hP 5 0 rfl rfl 6 rfl (Nat.le_of_ble_eq_true rfl) (Nat.le_of_ble_eq_true rfl) rfl dX10_line_74 ?_
            refine lv_ci (y := v33) ev33.symm ?_
            refine lv_icmp_ne (tgt := 82) hx hb dX10_line_75 (by decide) (fun c126 => ?_) (fun c126 => ?_)
            · have dc126 : u35.toInt ≠ v33.toInt := ne_i (a := u35.toInt) (b := v33.toInt) rfl rfl c126
              refine lv_ldcw hx hb hown (hw _ q_1701) dX10_line_82 ?_
              refine lv_istore (lv' := [(5, .int 100000000), (4, .int u116), (3, .int u106), (2, .int u35), (1, .int r29), (0, .ref h0)]) hx hb dX10_line_85 hl (by decide) rfl (fun ls hl => ?_)
              refine lv_iconst (v := 0) hx hb dX10_line_87 (by decide) ?_
              refine lv_istore (lv' := [(6, .int 0), (5, .int 100000000), (4, .int u116), (3, .int u106), (2, .int u35), (1, .int r29), (0, .ref h0)]) hx hb dX10_line_88 hl (by decide) rfl (fun ls hl => ?_)
              refine mloop (α := (Int32) × (Int32)) (nL := 7) (D := D) (A := A) (H0 := s.heap) (fun a => (10 - a.1.toInt).toNat) (fun a => IR 0 10 a.1 ∧ IR 0 100000000 a.2 ∧ (VD f_s w117 r29 v33.toInt u35 u106 u116 a.2 (a.1.toInt))) (fun a => [(h_downs, .inl (cI, 31330, .inl w117)), (h_lineHeights, .inl (cI, 12, .inl f_lineHeights)), (h_paceAt, .inl (cI, 40, .inl g16)), (h_kindOf, .inl (cI, 4, .inl g17)), (h0, .inr (10, vL 67 F10)), (h_s, .inl (cI, 335, .inl f_s))]) (fun a => [(6, .int a.1), (5, .int a.2), (4, .int u116), (3, .int u106), (2, .int u35), (1, .int r29), (0, .ref h0)]) (fun H locs ls => W p l e ({ frames := 4, cells := 0, slots := 0, locals := 94 } : Room) s m [.ref h0].toArray below meth c H locs 0 0 (MQ below (va_Qi (fun (r : Int32) (u : va_W) => ∃ (Gh : Nat → Value) (y_lineTime : Int32) (y_linePace : Int32) (y_inside : Int32) (y_late : Int32) (y_seed : Int32) (y_hasLine : Int32) (y_lineId : Int32) (y_lineBends : Int32) (g_paceAt : Nat → Int32) (g_kindOf : Nat → Int32) (g_downs : Nat → Int32) (g_lineHeights : Nat → Int32), SAME [0, 27, 28, 29, 30, 31, 52, 55, 56] Fh Gh ∧ Gh 0 = .int 0 ∧ Gh 27 = .int y_lineTime ∧ Gh 28 = .int y_linePace ∧ Gh 29 = .int y_inside ∧ IR 0 15 y_inside ∧ Gh 30 = .int y_late ∧ IR 0 15 y_late ∧ Gh 31 = .int y_seed ∧ Gh 52 = .int y_hasLine ∧ IR 0 1 y_hasLine ∧ Gh 55 = .int y_lineId ∧ Gh 56 = .int y_lineBends ∧ IR 0 12 y_lineBends ∧ SG 0 31329 0 100000000 g_downs ∧ u = [(h0, .inr (10, vL 67 Gh)), (h_s, .inl (cI, 335, .inl f_s)), (h_paceAt, .inl (cI, 40, .inl g_paceAt)), (h_kindOf, .inl (cI, 4, .inl g_kindOf)), (h_downs, .inl (cI, 31330, .inl g_downs)), (h_lineHeights, .inl (cI, 12, .inl g_lineHeights))]) (PO D A) A) [.ref h0].toArray s 0 0 A) (F0 m 90 ls [])) ?_ (0, 100000000) ⟨(show 0 ≤ (0 : Int32).toInt ∧ (0 : Int32).toInt ≤ 10 by decide), (show 0 ≤ (100000000 : Int32).toInt ∧ (100000000 : Int32).toInt ≤ 100000000 by decide), (show VD f_s w117 r29 v33.toInt u35 u106 u116 (100000000 : Int32) (0) from (by intro q; first | exact Or.inl (by decide) | (exfalso; omega)))⟩ _ _ _ hP hD hS hl
              rintro ⟨u127, u128⟩ ⟨i129, i130, i131⟩ ih_90 H locs ls hP hD hS hl
              have i129 : 0 ≤ u127.toInt ∧ u127.toInt ≤ 10 := i129
              have i130 : 0 ≤ u128.toInt ∧ u128.toInt ≤ 100000000 := i130
              have i131 : VD f_s w117 r29 v33.toInt u35 u106 u116 u128 (u127.toInt) := i131
              have hP : va_P D vwCl [(h_downs, .inl (cI, 31330, .inl w117)), (h_lineHeights, .inl (cI, 12, .inl f_lineHeights)), (h_paceAt, .inl (cI, 40, .inl g16)), (h_kindOf, .inl (cI, 4, .inl g17)), (h0, .inr (10, vL 67 F10)), (h_s, .inl (cI, 335, .inl f_s))] H := hP
              have hD : va_D A [(h_downs, .inl (cI, 31330, .inl w117)), (h_lineHeights, .inl (cI, 12, .inl f_lineHeights)), (h_paceAt, .inl (cI, 40, .inl g16)), (h_kindOf, .inl (cI, 4, .inl g17)), (h0, .inr (10, vL 67 F10)), (h_s, .inl (cI, 335, .inl f_s))] := hD
              have hl : lv_has ls 7 [(6, .int u127), (5, .int u128), (4, .int u116), (3, .int u106), (2, .int u35), (1, .int r29), (0, .ref h0)] := hl
              refine lv_iload_n hx hb dX10_line_90 rfl (lv_at hl 4 rfl) ?_
              refine lv_aload_n hx hb dX10_line_91 rfl (lv_at hl 6 rfl) ?_
              refine get_f (D := D) (ci := 10) (v := .ref h_s) (C := RX10) (T := TX10) (N := 67) hx hb hw inAX10 hown hK hP 4 rfl rfl 6 (by decide) (hw _ q_1267) (fun _ h9 => h9) n28 dX10_line_92 ?_
              refine lv_bipush (v := 6) hx hb dX10_line_95 (by decide) ?_
              refine iald_n hx hb hK hP 5 0 rfl rfl 6 rfl (Nat.le_of_ble_eq_true rfl) (Nat.le_of_ble_eq_true rfl) rfl dX10_line_97 ?_
              refine lv_ci (y := v33) ev33.symm ?_
              refine lv_icmp_ge (tgt := 132) hx hb dX10_line_98 (by decide) (fun c132 => ?_) (fun c132 => ?_)
              · have dc132 : v33.toInt ≤ u35.toInt := le_i (a := v33.toInt) (b := u35.toInt) rfl rfl c132
                refine lv_aload_n hx hb dX10_line_132 rfl (lv_at hl 6 rfl) ?_
                have n133 : F1 53 = .ref h_downs := (get_ne eF1 (by decide) e_downs)
                have n134 : F10 53 = .ref h_downs := (SAME.at t18 (by decide) n133)
                refine get_f (D := D) (ci := 10) (v := .ref h_downs) (C := RX10) (T := TX10) (N := 67) hx hb hw inAX10 hown hK hP 4 rfl rfl 53 (by decide) (hw _ q_1314) (fun _ h9 => h9) n134 dX10_line_133 ?_
                refine lv_iload_n hx hb dX10_line_136 rfl (lv_at hl 4 rfl) ?_
                refine lv_iload_n hx hb dX10_line_137 rfl (lv_at hl 3 rfl) ?_
                refine lv_iload hx hb dX10_line_138 (lv_at hl 2 rfl) ?_
                refine call_Si (wr := [(h_downs, .inl (cI, 31330, .inl w117)), (h_lineHeights, .inl (cI, 12, .inl f_lineHeights)), (h_paceAt, .inl (cI, 40, .inl g16)), (h_kindOf, .inl (cI, 4, .inl g17)), (h0, .inr (10, vL 67 F10)), (h_s, .inl (cI, 335, .inl f_s))]) (As := [.int u35, .int u106, .int u116]) (rest := [.ref h_downs]) hx hb hml hown hw (m_X10_place l D cI cJ cB cP cM cZ u35 u106 u116 _ k105 k115 k125) wS_X10_407_X10_place dX10_line_140 hP hD hS hA [] [0, 1, 2, 3, 4, 5] rfl rfl (by decide) (by decide) (by decide) GG.fb hG.at hl.1 rfl (Nat.le_of_ble_eq_true rfl) ⟨(Nat.le_of_ble_eq_true rfl), (Nat.le_of_ble_eq_true rfl)⟩ ⟨(Nat.le_of_ble_eq_true rfl), (Nat.le_of_ble_eq_true rfl)⟩ (fun r135 u H locs hp hP hD hS => ?_)
                obtain ⟨t136, t137, t138, rfl⟩ := hp
                have hP : va_P D vwCl [(h_downs, .inl (cI, 31330, .inl w117)), (h_lineHeights, .inl (cI, 12, .inl f_lineHeights)), (h_paceAt, .inl (cI, 40, .inl g16)), (h_kindOf, .inl (cI, 4, .inl g17)), (h0, .inr (10, vL 67 F10)), (h_s, .inl (cI, 335, .inl f_s))] H := hP
                have hD : va_D A [(h_downs, .inl (cI, 31330, .inl w117)), (h_lineHeights, .inl (cI, 12, .inl f_lineHeights)), (h_paceAt, .inl (cI, 40, .inl g16)), (h_kindOf, .inl (cI, 4, .inl g17)), (h0, .inr (10, vL 67 F10)), (h_s, .inl (cI, 335, .inl f_s))] := hD
                refine W.widen (k := 0) (n := 0) (Nat.le_of_ble_eq_true rfl) (Nat.le_of_ble_eq_true rfl) ?_
                refine lv_iload hx hb dX10_line_143 (lv_at hl 1 rfl) ?_
                obtain ⟨g140, eg140⟩ : ∃ z : Nat → Int32, upd w117 r135.toNatClampNeg u128 = z := ⟨_, rfl⟩
                have r141 : SG 0 31329 0 100000000 g140 := by rw [← eg140]; exact i119.up (Int.le_trans (by decide) t136.1) (Or.inr (Or.inr (ir_wk i130 (by decide) (by decide))))
                refine iast_g hx hb hK hP hD hS 0 0 rfl rfl (ix_k t136 (by decide) (by decide)) eg140 dX10_line_145 (fun H locs hP hD hS => ?_)
                have hP : va_P D vwCl [(h_downs, .inl (cI, 31330, .inl g140)), (h_lineHeights, .inl (cI, 12, .inl f_lineHeights)), (h_paceAt, .inl (cI, 40, .inl g16)), (h_kindOf, .inl (cI, 4, .inl g17)), (h0, .inr (10, vL 67 F10)), (h_s, .inl (cI, 335, .inl f_s))] H := hP
                have hD : va_D A [(h_downs, .inl (cI, 31330, .inl g140)), (h_lineHeights, .inl (cI, 12, .inl f_lineHeights)), (h_paceAt, .inl (cI, 40, .inl g16)), (h_kindOf, .inl (cI, 4, .inl g17)), (h0, .inr (10, vL 67 F10)), (h_s, .inl (cI, 335, .inl f_s))] := hD
                obtain ⟨v142, ev142⟩ : ∃ z : Int32, z = u116 + 1 := ⟨_, rfl⟩
                have bv142 : v142.toInt = u116.toInt + 1 := by rw [ev142]; exact add_k rfl rfl k125 ⟨Int.le_refl _, Int.le_refl _⟩ (by decide)
                have k143 : 11 ≤ v142.toInt ∧ v142.toInt ≤ 251 := add_r bv142 k125 ⟨Int.le_refl _, Int.le_refl _⟩ (by decide)
                refine lv_iinc (v := v142) (lv' := [(4, .int v142), (6, .int u127), (5, .int u128), (3, .int u106), (2, .int u35), (1, .int r29), (0, .ref h0)]) hx hb dX10_line_146 hl (k := 2) rfl (by rw [ev142]; rfl) (by decide) rfl (fun ls hl => ?_)
                refine lv_goto (tgt := 59) hx hb dX10_line_149 (by decide) ?_
                exact ih_59 (v142, g140) ⟨(ir_wk k143 (by decide) (by decide)), r141, (show DBL f_s g140 r29 v33.toInt (u35.toInt) (u106.toInt) (v142.toInt) from (DBL.step i120 eg140 (bv := u35) (av := u106) (pv := u116) rfl rfl rfl (by omega) ⟨by omega, by omega⟩ (by omega) ⟨by omega, by omega⟩ ⟨by omega, by omega⟩ i131 (by omega) (by omega)))⟩ (by show (251 - v142.toInt).toNat < (251 - u116.toInt).toNat; omega) _ _ _ hP hD hS (lv_sub hl [0, 3, 4, 5, 6] rfl)
              · have dc132 : u35.toInt < v33.toInt := nle_i (a := v33.toInt) (b := u35.toInt) rfl rfl c132
                have k144 : 0 ≤ u35.toInt ∧ u35.toInt ≤ 11 := ⟨k105.1, up_lt dc132 k34.2 (by decide)⟩
                have k145 : 1 ≤ v33.toInt ∧ v33.toInt ≤ 12 := ⟨lo_lt dc132 k105.1 (by decide), k34.2⟩
                refine lv_iload hx hb dX10_line_101 (lv_at hl 0 rfl) ?_
                refine lv_bipush (v := 10) hx hb dX10_line_103 (by decide) ?_
                refine lv_icmp_ge (tgt := 132) hx hb dX10_line_105 (by decide) (fun c146 => ?_) (fun c146 => ?_)
                · have dc146 : 10 ≤ u127.toInt := le_i (a := 10) (b := u127.toInt) rfl rfl c146
                  have k147 : 10 ≤ u127.toInt ∧ u127.toInt ≤ 10 := ⟨Int.le_trans (Int.le_refl _) dc146, i129.2⟩
                  refine lv_aload_n hx hb dX10_line_132 rfl (lv_at hl 6 rfl) ?_
                  have n148 : F1 53 = .ref h_downs := (get_ne eF1 (by decide) e_downs)
                  have n149 : F10 53 = .ref h_downs := (SAME.at t18 (by decide) n148)
                  refine get_f (D := D) (ci := 10) (v := .ref h_downs) (C := RX10) (T := TX10) (N := 67) hx hb hw inAX10 hown hK hP 4 rfl rfl 53 (by decide) (hw _ q_1314) (fun _ h9 => h9) n149 dX10_line_133 ?_
                  refine lv_iload_n hx hb dX10_line_136 rfl (lv_at hl 4 rfl) ?_
                  refine lv_iload_n hx hb dX10_line_137 rfl (lv_at hl 3 rfl) ?_
                  refine lv_iload hx hb dX10_line_138 (lv_at hl 2 rfl) ?_
                  refine call_Si (wr := [(h_downs, .inl (cI, 31330, .inl w117)), (h_lineHeights, .inl (cI, 12, .inl f_lineHeights)), (h_paceAt, .inl (cI, 40, .inl g16)), (h_kindOf, .inl (cI, 4, .inl g17)), (h0, .inr (10, vL 67 F10)), (h_s, .inl (cI, 335, .inl f_s))]) (As := [.int u35, .int u106, .int u116]) (rest := [.ref h_downs]) hx hb hml hown hw (m_X10_place l D cI cJ cB cP cM cZ u35 u106 u116 _ (ir_wk k144 (by decide) (by decide)) k115 k125) wS_X10_407_X10_place dX10_line_140 hP hD hS hA [] [0, 1, 2, 3, 4, 5] rfl rfl (by decide) (by decide) (by decide) GG.fb hG.at hl.1 rfl (Nat.le_of_ble_eq_true rfl) ⟨(Nat.le_of_ble_eq_true rfl), (Nat.le_of_ble_eq_true rfl)⟩ ⟨(Nat.le_of_ble_eq_true rfl), (Nat.le_of_ble_eq_true rfl)⟩ (fun r150 u H locs hp hP hD hS => ?_)
                  obtain ⟨t151, t152, t153, rfl⟩ := hp
                  have hP : va_P D vwCl [(h_downs, .inl (cI, 31330, .inl w117)), (h_lineHeights, .inl (cI, 12, .inl f_lineHeights)), (h_paceAt, .inl (cI, 40, .inl g16)), (h_kindOf, .inl (cI, 4, .inl g17)), (h0, .inr (10, vL 67 F10)), (h_s, .inl (cI, 335, .inl f_s))] H := hP
                  have hD : va_D A [(h_downs, .inl (cI, 31330, .inl w117)), (h_lineHeights, .inl (cI, 12, .inl f_lineHeights)), (h_paceAt, .inl (cI, 40, .inl g16)), (h_kindOf, .inl (cI, 4, .inl g17)), (h0, .inr (10, vL 67 F10)), (h_s, .inl (cI, 335, .inl f_s))] := hD
                  refine W.widen (k := 0) (n := 0) (Nat.le_of_ble_eq_true rfl) (Nat.le_of_ble_eq_true rfl) ?_
                  have k155 : 0 ≤ r150.toInt ∧ r150.toInt ≤ 28919 := ⟨by omega, by omega⟩
                  refine lv_iload hx hb dX10_line_143 (lv_at hl 1 rfl) ?_
                  obtain ⟨g156, eg156⟩ : ∃ z : Nat → Int32, upd w117 r150.toNatClampNeg u128 = z := ⟨_, rfl⟩
                  have r157 : SG 0 31329 0 100000000 g156 := by rw [← eg156]; exact i119.up (Int.le_trans (by decide) k155.1) (Or.inr (Or.inr (ir_wk i130 (by decide) (by decide))))
                  refine iast_g hx hb hK hP hD hS 0 0 rfl rfl (ix_k k155 (by decide) (by decide)) eg156 dX10_line_145 (fun H locs hP hD hS => ?_)
                  have hP : va_P D vwCl [(h_downs, .inl (cI, 31330, .inl g156)), (h_lineHeights, .inl (cI, 12, .inl f_lineHeights)), (h_paceAt, .inl (cI, 40, .inl g16)), (h_kindOf, .inl (cI, 4, .inl g17)), (h0, .inr (10, vL 67 F10)), (h_s, .inl (cI, 335, .inl f_s))] H := hP
                  have hD : va_D A [(h_downs, .inl (cI, 31330, .inl g156)), (h_lineHeights, .inl (cI, 12, .inl f_lineHeights)), (h_paceAt, .inl (cI, 40, .inl g16)), (h_kindOf, .inl (cI, 4, .inl g17)), (h0, .inr (10, vL 67 F10)), (h_s, .inl (cI, 335, .inl f_s))] := hD
                  obtain ⟨v158, ev158⟩ : ∃ z : Int32, z = u116 + 1 := ⟨_, rfl⟩
                  have bv158 : v158.toInt = u116.toInt + 1 := by rw [ev158]; exact add_k rfl rfl k125 ⟨Int.le_refl _, Int.le_refl _⟩ (by decide)
                  have k159 : 11 ≤ v158.toInt ∧ v158.toInt ≤ 251 := add_r bv158 k125 ⟨Int.le_refl _, Int.le_refl _⟩ (by decide)
                  refine lv_iinc (v := v158) (lv' := [(4, .int v158), (6, .int u127), (5, .int u128), (3, .int u106), (2, .int u35), (1, .int r29), (0, .ref h0)]) hx hb dX10_line_146 hl (k := 2) rfl (by rw [ev158]; rfl) (by decide) rfl (fun ls hl => ?_)
                  refine lv_goto (tgt := 59) hx hb dX10_line_149 (by decide) ?_
                  exact ih_59 (v158, g156) ⟨(ir_wk k159 (by decide) (by decide)), r157, (show DBL f_s g156 r29 v33.toInt (u35.toInt) (u106.toInt) (v158.toInt) from (DBL.step i120 eg156 (bv := u35) (av := u106) (pv := u116) rfl rfl rfl (by omega) ⟨by omega, by omega⟩ (by omega) ⟨by omega, by omega⟩ ⟨by omega, by omega⟩ i131 (by omega) (by omega)))⟩ (by show (251 - v158.toInt).toNat < (251 - u116.toInt).toNat; omega) _ _ _ hP hD hS (lv_sub hl [0, 3, 4, 5, 6] rfl)
                · have dc146 : u127.toInt < 10 := nle_i (a := 10) (b := u127.toInt) rfl rfl c146
                  have k160 : 0 ≤ u127.toInt ∧ u127.toInt ≤ 9 := ⟨i129.1, up_lt dc146 (Int.le_refl _) (by decide)⟩
                  refine lv_iload hx hb dX10_line_108 (lv_at hl 1 rfl) ?_
                  refine lv_aload_n hx hb dX10_line_110 rfl (lv_at hl 6 rfl) ?_
                  refine lv_iload_n hx hb dX10_line_111 rfl (lv_at hl 4 rfl) ?_
                  refine lv_iload_n hx hb dX10_line_112 rfl (lv_at hl 3 rfl) ?_
                  refine lv_iload hx hb dX10_line_113 (lv_at hl 2 rfl) ?_
                  refine lv_iload_n hx hb dX10_line_115 rfl (lv_at hl 5 rfl) ?_
                  refine lv_iload hx hb dX10_line_116 (lv_at hl 0 rfl) ?_
                  have n161 : F1 53 = .ref h_downs := (get_ne eF1 (by decide) e_downs)
                  have n162 : F10 53 = .ref h_downs := (SAME.at t18 (by decide) n161)
                  refine call_Vi (wr := [(h_lineHeights, .inl (cI, 12, .inl f_lineHeights)), (h_paceAt, .inl (cI, 40, .inl g16)), (h_kindOf, .inl (cI, 4, .inl g17))]) (As := [.int u35, .int u106, .int u116, .int r29, .int u127]) (rest := [.int u128]) hx hb hml hown hw (m_X10_downBy l D cI cJ cB cP cM cZ h0 h_s h_downs F10 f_s w117 u35 u106 u116 r29 u127 _ n28 n162 s_s_K0 s_s_0 s_s_105 s_s_114 s_s_130 s_s_139 s_s_153 s_s_44 s_s_5 s_s_6 s_s_7 i119 k144 k115 k125 k160) wV_X10_410_X10_downBy dX10_line_118 hK hP hD hS hA [4, 5, 0] [1, 2, 3] rfl rfl (by decide) (by decide) (by decide) 0 10 rfl rfl GG.fb hG.at hl.1 rfl (Nat.le_of_ble_eq_true rfl) ⟨(Nat.le_of_ble_eq_true rfl), (Nat.le_of_ble_eq_true rfl)⟩ ⟨(Nat.le_of_ble_eq_true rfl), (Nat.le_of_ble_eq_true rfl)⟩ (fun r163 u H locs hp hP hD hS => ?_)
                  obtain ⟨t164, t165, rfl⟩ := hp
                  have hP : va_P D vwCl [(h_lineHeights, .inl (cI, 12, .inl f_lineHeights)), (h_paceAt, .inl (cI, 40, .inl g16)), (h_kindOf, .inl (cI, 4, .inl g17)), (h0, .inr (10, vL 67 F10)), (h_s, .inl (cI, 335, .inl f_s)), (h_downs, .inl (cI, 31330, .inl w117))] H := hP
                  have hD : va_D A [(h_lineHeights, .inl (cI, 12, .inl f_lineHeights)), (h_paceAt, .inl (cI, 40, .inl g16)), (h_kindOf, .inl (cI, 4, .inl g17)), (h0, .inr (10, vL 67 F10)), (h_s, .inl (cI, 335, .inl f_s)), (h_downs, .inl (cI, 31330, .inl w117))] := hD
                  refine W.widen (k := 0) (n := 0) (Nat.le_of_ble_eq_true rfl) (Nat.le_of_ble_eq_true rfl) ?_
                  refine call_Si (wr := [(h_lineHeights, .inl (cI, 12, .inl f_lineHeights)), (h_paceAt, .inl (cI, 40, .inl g16)), (h_kindOf, .inl (cI, 4, .inl g17)), (h0, .inr (10, vL 67 F10)), (h_s, .inl (cI, 335, .inl f_s)), (h_downs, .inl (cI, 31330, .inl w117))]) (As := [.int u128, .int r163]) (rest := []) hx hb hml hown hw (m_X10_lesser l D cI cJ cB cP cM cZ u128 r163 _ ) wS_X10_27_X10_lesser dX10_line_121 hP hD hS hA [] [0, 1, 2, 3, 4, 5] rfl rfl (by decide) (by decide) (by decide) GG.fb hG.at hl.1 rfl (Nat.le_of_ble_eq_true rfl) ⟨(Nat.le_of_ble_eq_true rfl), (Nat.le_of_ble_eq_true rfl)⟩ ⟨(Nat.le_of_ble_eq_true rfl), (Nat.le_of_ble_eq_true rfl)⟩ (fun r167 u H locs hp hP hD hS => ?_)
                  obtain ⟨t168, t169, rfl⟩ := hp
                  have hP : va_P D vwCl [(h_lineHeights, .inl (cI, 12, .inl f_lineHeights)), (h_paceAt, .inl (cI, 40, .inl g16)), (h_kindOf, .inl (cI, 4, .inl g17)), (h0, .inr (10, vL 67 F10)), (h_s, .inl (cI, 335, .inl f_s)), (h_downs, .inl (cI, 31330, .inl w117))] H := hP
                  have hD : va_D A [(h_lineHeights, .inl (cI, 12, .inl f_lineHeights)), (h_paceAt, .inl (cI, 40, .inl g16)), (h_kindOf, .inl (cI, 4, .inl g17)), (h0, .inr (10, vL 67 F10)), (h_s, .inl (cI, 335, .inl f_s)), (h_downs, .inl (cI, 31330, .inl w117))] := hD
                  refine W.widen (k := 0) (n := 0) (Nat.le_of_ble_eq_true rfl) (Nat.le_of_ble_eq_true rfl) ?_
                  have k171 : 0 ≤ r167.toInt ∧ r167.toInt ≤ 100000000 := ⟨by omega, by omega⟩
                  refine lv_istore (lv' := [(5, .int r167), (6, .int u127), (4, .int u116), (3, .int u106), (2, .int u35), (1, .int r29), (0, .ref h0)]) hx hb dX10_line_124 hl (by decide) rfl (fun ls hl => ?_)
                  obtain ⟨v172, ev172⟩ : ∃ z : Int32, z = u127 + 1 := ⟨_, rfl⟩
                  have bv172 : v172.toInt = u127.toInt + 1 := by rw [ev172]; exact add_k rfl rfl k160 ⟨Int.le_refl _, Int.le_refl _⟩ (by decide)
                  have k173 : 1 ≤ v172.toInt ∧ v172.toInt ≤ 10 := add_r bv172 k160 ⟨Int.le_refl _, Int.le_refl _⟩ (by decide)
                  refine lv_iinc (v := v172) (lv' := [(6, .int v172), (5, .int r167), (4, .int u116), (3, .int u106), (2, .int u35), (1, .int r29), (0, .ref h0)]) hx hb dX10_line_126 hl (k := 1) rfl (by rw [ev172]; rfl) (by decide) rfl (fun ls hl => ?_)
                  refine lv_goto (tgt := 90) hx hb dX10_line_129 (by decide) ?_
                  exact ih_90 (v172, r167) ⟨(ir_wk k173 (by decide) (by decide)), k171, (show VD f_s w117 r29 v33.toInt u35 u106 u116 r167 (v172.toInt) from (VD.step i131 t165 t169 (by omega) (by omega) (by omega)))⟩ (by show (10 - v172.toInt).toNat < (10 - u127.toInt).toNat; omega) _ _ _ (hP.sub [5, 0, 1, 2, 3, 4] rfl) (hD.sub [5, 0, 1, 2, 3, 4] (by decide) rfl) hS (lv_sub hl [0, 1, 2, 3, 4, 5, 6] rfl)
            · have dc126 : u35.toInt = v33.toInt := eq_i (a := u35.toInt) (b := v33.toInt) rfl rfl c126
              refine lv_iconst (v := 0) hx hb dX10_line_78 (by decide) ?_
              refine lv_goto (tgt := 85) hx hb dX10_line_79 (by decide) ?_
              refine lv_istore (lv' := [(5, .int 0), (4, .int u116), (3, .int u106), (2, .int u35), (1, .int r29), (0, .ref h0)]) hx hb dX10_line_85 hl (by decide) rfl (fun ls hl => ?_)
              refine lv_iconst (v := 0) hx hb dX10_line_87 (by decide) ?_
              refine lv_istore (lv' := [(6, .int 0), (5, .int 0), (4, .int u116), (3, .int u106), (2, .int u35), (1, .int r29), (0, .ref h0)]) hx hb dX10_line_88 hl (by decide) rfl (fun ls hl => ?_)
              refine mloop (α := (Int32) × (Int32)) (nL := 7) (D := D) (A := A) (H0 := s.heap) (fun a => (10 - a.1.toInt).toNat) (fun a => IR 0 10 a.1 ∧ IR 0 100000000 a.2 ∧ (VD f_s w117 r29 v33.toInt u35 u106 u116 a.2 (a.1.toInt))) (fun a => [(h_downs, .inl (cI, 31330, .inl w117)), (h_lineHeights, .inl (cI, 12, .inl f_lineHeights)), (h_paceAt, .inl (cI, 40, .inl g16)), (h_kindOf, .inl (cI, 4, .inl g17)), (h0, .inr (10, vL 67 F10)), (h_s, .inl (cI, 335, .inl f_s))]) (fun a => [(6, .int a.1), (5, .int a.2), (4, .int u116), (3, .int u106), (2, .int u35), (1, .int r29), (0, .ref h0)]) (fun H locs ls => W p l e ({ frames := 4, cells := 0, slots := 0, locals := 94 } : Room) s m [.ref h0].toArray below meth c H locs 0 0 (MQ below (va_Qi (fun (r : Int32) (u : va_W) => ∃ (Gh : Nat → Value) (y_lineTime : Int32) (y_linePace : Int32) (y_inside : Int32) (y_late : Int32) (y_seed : Int32) (y_hasLine : Int32) (y_lineId : Int32) (y_lineBends : Int32) (g_paceAt : Nat → Int32) (g_kindOf : Nat → Int32) (g_downs : Nat → Int32) (g_lineHeights : Nat → Int32), SAME [0, 27, 28, 29, 30, 31, 52, 55, 56] Fh Gh ∧ Gh 0 = .int 0 ∧ Gh 27 = .int y_lineTime ∧ Gh 28 = .int y_linePace ∧ Gh 29 = .int y_inside ∧ IR 0 15 y_inside ∧ Gh 30 = .int y_late ∧ IR 0 15 y_late ∧ Gh 31 = .int y_seed ∧ Gh 52 = .int y_hasLine ∧ IR 0 1 y_hasLine ∧ Gh 55 = .int y_lineId ∧ Gh 56 = .int y_lineBends ∧ IR 0 12 y_lineBends ∧ SG 0 31329 0 100000000 g_downs ∧ u = [(h0, .inr (10, vL 67 Gh)), (h_s, .inl (cI, 335, .inl f_s)), (h_paceAt, .inl (cI, 40, .inl g_paceAt)), (h_kindOf, .inl (cI, 4, .inl g_kindOf)), (h_downs, .inl (cI, 31330, .inl g_downs)), (h_lineHeights, .inl (cI, 12, .inl g_lineHeights))]) (PO D A) A) [.ref h0].toArray s 0 0 A) (F0 m 90 ls [])) ?_ (0, 0) ⟨(show 0 ≤ (0 : Int32).toInt ∧ (0 : Int32).toInt ≤ 10 by decide), (show 0 ≤ (0 : Int32).toInt ∧ (0 : Int32).toInt ≤ 100000000 by decide), (show VD f_s w117 r29 v33.toInt u35 u106 u116 (0 : Int32) (0) from (by intro q; first | exact Or.inl (by decide) | (exfalso; omega)))⟩ _ _ _ hP hD hS hl
              rintro ⟨u174, u175⟩ ⟨i176, i177, i178⟩ ih_90 H locs ls hP hD hS hl
              have i176 : 0 ≤ u174.toInt ∧ u174.toInt ≤ 10 := i176
              have i177 : 0 ≤ u175.toInt ∧ u175.toInt ≤ 100000000 := i177
              have i178 : VD f_s w117 r29 v33.toInt u35 u106 u116 u175 (u174.toInt) := i178
              have hP : va_P D vwCl [(h_downs, .inl (cI, 31330, .inl w117)), (h_lineHeights, .inl (cI, 12, .inl f_lineHeights)), (h_paceAt, .inl (cI, 40, .inl g16)), (h_kindOf, .inl (cI, 4, .inl g17)), (h0, .inr (10, vL 67 F10)), (h_s, .inl (cI, 335, .inl f_s))] H := hP
              have hD : va_D A [(h_downs, .inl (cI, 31330, .inl w117)), (h_lineHeights, .inl (cI, 12, .inl f_lineHeights)), (h_paceAt, .inl (cI, 40, .inl g16)), (h_kindOf, .inl (cI, 4, .inl g17)), (h0, .inr (10, vL 67 F10)), (h_s, .inl (cI, 335, .inl f_s))] := hD
              have hl : lv_has ls 7 [(6, .int u174), (5, .int u175), (4, .int u116), (3, .int u106), (2, .int u35), (1, .int r29), (0, .ref h0)] := hl
              refine lv_iload_n hx hb dX10_line_90 rfl (lv_at hl 4 rfl) ?_
              refine lv_aload_n hx hb dX10_line_91 rfl (lv_at hl 6 rfl) ?_
              refine get_f (D := D) (ci := 10) (v := .ref h_s) (C := RX10) (T := TX10) (N := 67) hx hb hw inAX10 hown hK hP 4 rfl rfl 6 (by decide) (hw _ q_1267) (fun _ h9 => h9) n28 dX10_line_92 ?_
              refine lv_bipush (v := 6) hx hb dX10_line_95 (by decide) ?_
              refine iald_n hx hb hK hP 5 0 rfl rfl 6 rfl (Nat.le_of_ble_eq_true rfl) (Nat.le_of_ble_eq_true rfl) rfl dX10_line_97 ?_
              refine lv_ci (y := v33) ev33.symm ?_
              refine lv_icmp_ge (tgt := 132) hx hb dX10_line_98 (by decide) (fun c179 => ?_) (fun c179 => ?_)
              · have dc179 : v33.toInt ≤ u35.toInt := le_i (a := v33.toInt) (b := u35.toInt) rfl rfl c179
                refine lv_aload_n hx hb dX10_line_132 rfl (lv_at hl 6 rfl) ?_
                have n180 : F1 53 = .ref h_downs := (get_ne eF1 (by decide) e_downs)
                have n181 : F10 53 = .ref h_downs := (SAME.at t18 (by decide) n180)
                refine get_f (D := D) (ci := 10) (v := .ref h_downs) (C := RX10) (T := TX10) (N := 67) hx hb hw inAX10 hown hK hP 4 rfl rfl 53 (by decide) (hw _ q_1314) (fun _ h9 => h9) n181 dX10_line_133 ?_
                refine lv_iload_n hx hb dX10_line_136 rfl (lv_at hl 4 rfl) ?_
                refine lv_iload_n hx hb dX10_line_137 rfl (lv_at hl 3 rfl) ?_
                refine lv_iload hx hb dX10_line_138 (lv_at hl 2 rfl) ?_
                refine call_Si (wr := [(h_downs, .inl (cI, 31330, .inl w117)), (h_lineHeights, .inl (cI, 12, .inl f_lineHeights)), (h_paceAt, .inl (cI, 40, .inl g16)), (h_kindOf, .inl (cI, 4, .inl g17)), (h0, .inr (10, vL 67 F10)), (h_s, .inl (cI, 335, .inl f_s))]) (As := [.int u35, .int u106, .int u116]) (rest := [.ref h_downs]) hx hb hml hown hw (m_X10_place l D cI cJ cB cP cM cZ u35 u106 u116 _ k105 k115 k125) wS_X10_407_X10_place dX10_line_140 hP hD hS hA [] [0, 1, 2, 3, 4, 5] rfl rfl (by decide) (by decide) (by decide) GG.fb hG.at hl.1 rfl (Nat.le_of_ble_eq_true rfl) ⟨(Nat.le_of_ble_eq_true rfl), (Nat.le_of_ble_eq_true rfl)⟩ ⟨(Nat.le_of_ble_eq_true rfl), (Nat.le_of_ble_eq_true rfl)⟩ (fun r182 u H locs hp hP hD hS => ?_)
                obtain ⟨t183, t184, t185, rfl⟩ := hp
                have hP : va_P D vwCl [(h_downs, .inl (cI, 31330, .inl w117)), (h_lineHeights, .inl (cI, 12, .inl f_lineHeights)), (h_paceAt, .inl (cI, 40, .inl g16)), (h_kindOf, .inl (cI, 4, .inl g17)), (h0, .inr (10, vL 67 F10)), (h_s, .inl (cI, 335, .inl f_s))] H := hP
                have hD : va_D A [(h_downs, .inl (cI, 31330, .inl w117)), (h_lineHeights, .inl (cI, 12, .inl f_lineHeights)), (h_paceAt, .inl (cI, 40, .inl g16)), (h_kindOf, .inl (cI, 4, .inl g17)), (h0, .inr (10, vL 67 F10)), (h_s, .inl (cI, 335, .inl f_s))] := hD
                refine W.widen (k := 0) (n := 0) (Nat.le_of_ble_eq_true rfl) (Nat.le_of_ble_eq_true rfl) ?_
                refine lv_iload hx hb dX10_line_143 (lv_at hl 1 rfl) ?_
                obtain ⟨g187, eg187⟩ : ∃ z : Nat → Int32, upd w117 r182.toNatClampNeg u175 = z := ⟨_, rfl⟩
                have r188 : SG 0 31329 0 100000000 g187 := by rw [← eg187]; exact i119.up (Int.le_trans (by decide) t183.1) (Or.inr (Or.inr (ir_wk i177 (by decide) (by decide))))
                refine iast_g hx hb hK hP hD hS 0 0 rfl rfl (ix_k t183 (by decide) (by decide)) eg187 dX10_line_145 (fun H locs hP hD hS => ?_)
                have hP : va_P D vwCl [(h_downs, .inl (cI, 31330, .inl g187)), (h_lineHeights, .inl (cI, 12, .inl f_lineHeights)), (h_paceAt, .inl (cI, 40, .inl g16)), (h_kindOf, .inl (cI, 4, .inl g17)), (h0, .inr (10, vL 67 F10)), (h_s, .inl (cI, 335, .inl f_s))] H := hP
                have hD : va_D A [(h_downs, .inl (cI, 31330, .inl g187)), (h_lineHeights, .inl (cI, 12, .inl f_lineHeights)), (h_paceAt, .inl (cI, 40, .inl g16)), (h_kindOf, .inl (cI, 4, .inl g17)), (h0, .inr (10, vL 67 F10)), (h_s, .inl (cI, 335, .inl f_s))] := hD
                obtain ⟨v189, ev189⟩ : ∃ z : Int32, z = u116 + 1 := ⟨_, rfl⟩
                have bv189 : v189.toInt = u116.toInt + 1 := by rw [ev189]; exact add_k rfl rfl k125 ⟨Int.le_refl _, Int.le_refl _⟩ (by decide)
                have k190 : 11 ≤ v189.toInt ∧ v189.toInt ≤ 251 := add_r bv189 k125 ⟨Int.le_refl _, Int.le_refl _⟩ (by decide)
                refine lv_iinc (v := v189) (lv' := [(4, .int v189), (6, .int u174), (5, .int u175), (3, .int u106), (2, .int u35), (1, .int r29), (0, .ref h0)]) hx hb dX10_line_146 hl (k := 2) rfl (by rw [ev189]; rfl) (by decide) rfl (fun ls hl => ?_)
                refine lv_goto (tgt := 59) hx hb dX10_line_149 (by decide) ?_
                exact ih_59 (v189, g187) ⟨(ir_wk k190 (by decide) (by decide)), r188, (show DBL f_s g187 r29 v33.toInt (u35.toInt) (u106.toInt) (v189.toInt) from (DBL.step i120 eg187 (bv := u35) (av := u106) (pv := u116) rfl rfl rfl (by omega) ⟨by omega, by omega⟩ (by omega) ⟨by omega, by omega⟩ ⟨by omega, by omega⟩ i178 (by omega) (by omega)))⟩ (by show (251 - v189.toInt).toNat < (251 - u116.toInt).toNat; omega) _ _ _ hP hD hS (lv_sub hl [0, 3, 4, 5, 6] rfl)
              · have dc179 : u35.toInt < v33.toInt := nle_i (a := v33.toInt) (b := u35.toInt) rfl rfl c179
                have k191 : 0 ≤ u35.toInt ∧ u35.toInt ≤ 11 := ⟨k105.1, up_lt dc179 k34.2 (by decide)⟩
                have k192 : 1 ≤ v33.toInt ∧ v33.toInt ≤ 12 := ⟨lo_lt dc179 k105.1 (by decide), k34.2⟩
                refine lv_iload hx hb dX10_line_101 (lv_at hl 0 rfl) ?_
                refine lv_bipush (v := 10) hx hb dX10_line_103 (by decide) ?_
                refine lv_icmp_ge (tgt := 132) hx hb dX10_line_105 (by decide) (fun c193 => ?_) (fun c193 => ?_)
                · have dc193 : 10 ≤ u174.toInt := le_i (a := 10) (b := u174.toInt) rfl rfl c193
                  have k194 : 10 ≤ u174.toInt ∧ u174.toInt ≤ 10 := ⟨Int.le_trans (Int.le_refl _) dc193, i176.2⟩
                  refine lv_aload_n hx hb dX10_line_132 rfl (lv_at hl 6 rfl) ?_
                  have n195 : F1 53 = .ref h_downs := (get_ne eF1 (by decide) e_downs)
                  have n196 : F10 53 = .ref h_downs := (SAME.at t18 (by decide) n195)
                  refine get_f (D := D) (ci := 10) (v := .ref h_downs) (C := RX10) (T := TX10) (N := 67) hx hb hw inAX10 hown hK hP 4 rfl rfl 53 (by decide) (hw _ q_1314) (fun _ h9 => h9) n196 dX10_line_133 ?_
                  refine lv_iload_n hx hb dX10_line_136 rfl (lv_at hl 4 rfl) ?_
                  refine lv_iload_n hx hb dX10_line_137 rfl (lv_at hl 3 rfl) ?_
                  refine lv_iload hx hb dX10_line_138 (lv_at hl 2 rfl) ?_
                  refine call_Si (wr := [(h_downs, .inl (cI, 31330, .inl w117)), (h_lineHeights, .inl (cI, 12, .inl f_lineHeights)), (h_paceAt, .inl (cI, 40, .inl g16)), (h_kindOf, .inl (cI, 4, .inl g17)), (h0, .inr (10, vL 67 F10)), (h_s, .inl (cI, 335, .inl f_s))]) (As := [.int u35, .int u106, .int u116]) (rest := [.ref h_downs]) hx hb hml hown hw (m_X10_place l D cI cJ cB cP cM cZ u35 u106 u116 _ (ir_wk k191 (by decide) (by decide)) k115 k125) wS_X10_407_X10_place dX10_line_140 hP hD hS hA [] [0, 1, 2, 3, 4, 5] rfl rfl (by decide) (by decide) (by decide) GG.fb hG.at hl.1 rfl (Nat.le_of_ble_eq_true rfl) ⟨(Nat.le_of_ble_eq_true rfl), (Nat.le_of_ble_eq_true rfl)⟩ ⟨(Nat.le_of_ble_eq_true rfl), (Nat.le_of_ble_eq_true rfl)⟩ (fun r197 u H locs hp hP hD hS => ?_)
                  obtain ⟨t198, t199, t200, rfl⟩ := hp
                  have hP : va_P D vwCl [(h_downs, .inl (cI, 31330, .inl w117)), (h_lineHeights, .inl (cI, 12, .inl f_lineHeights)), (h_paceAt, .inl (cI, 40, .inl g16)), (h_kindOf, .inl (cI, 4, .inl g17)), (h0, .inr (10, vL 67 F10)), (h_s, .inl (cI, 335, .inl f_s))] H := hP
                  have hD : va_D A [(h_downs, .inl (cI, 31330, .inl w117)), (h_lineHeights, .inl (cI, 12, .inl f_lineHeights)), (h_paceAt, .inl (cI, 40, .inl g16)), (h_kindOf, .inl (cI, 4, .inl g17)), (h0, .inr (10, vL 67 F10)), (h_s, .inl (cI, 335, .inl f_s))] := hD
                  refine W.widen (k := 0) (n := 0) (Nat.le_of_ble_eq_true rfl) (Nat.le_of_ble_eq_true rfl) ?_
                  have k202 : 0 ≤ r197.toInt ∧ r197.toInt ≤ 28919 := ⟨by omega, by omega⟩
                  refine lv_iload hx hb dX10_line_143 (lv_at hl 1 rfl) ?_
                  obtain ⟨g203, eg203⟩ : ∃ z : Nat → Int32, upd w117 r197.toNatClampNeg u175 = z := ⟨_, rfl⟩
                  have r204 : SG 0 31329 0 100000000 g203 := by rw [← eg203]; exact i119.up (Int.le_trans (by decide) k202.1) (Or.inr (Or.inr (ir_wk i177 (by decide) (by decide))))
                  refine iast_g hx hb hK hP hD hS 0 0 rfl rfl (ix_k k202 (by decide) (by decide)) eg203 dX10_line_145 (fun H locs hP hD hS => ?_)
                  have hP : va_P D vwCl [(h_downs, .inl (cI, 31330, .inl g203)), (h_lineHeights, .inl (cI, 12, .inl f_lineHeights)), (h_paceAt, .inl (cI, 40, .inl g16)), (h_kindOf, .inl (cI, 4, .inl g17)), (h0, .inr (10, vL 67 F10)), (h_s, .inl (cI, 335, .inl f_s))] H := hP
                  have hD : va_D A [(h_downs, .inl (cI, 31330, .inl g203)), (h_lineHeights, .inl (cI, 12, .inl f_lineHeights)), (h_paceAt, .inl (cI, 40, .inl g16)), (h_kindOf, .inl (cI, 4, .inl g17)), (h0, .inr (10, vL 67 F10)), (h_s, .inl (cI, 335, .inl f_s))] := hD
                  obtain ⟨v205, ev205⟩ : ∃ z : Int32, z = u116 + 1 := ⟨_, rfl⟩
                  have bv205 : v205.toInt = u116.toInt + 1 := by rw [ev205]; exact add_k rfl rfl k125 ⟨Int.le_refl _, Int.le_refl _⟩ (by decide)
                  have k206 : 11 ≤ v205.toInt ∧ v205.toInt ≤ 251 := add_r bv205 k125 ⟨Int.le_refl _, Int.le_refl _⟩ (by decide)
                  refine lv_iinc (v := v205) (lv' := [(4, .int v205), (6, .int u174), (5, .int u175), (3, .int u106), (2, .int u35), (1, .int r29), (0, .ref h0)]) hx hb dX10_line_146 hl (k := 2) rfl (by rw [ev205]; rfl) (by decide) rfl (fun ls hl => ?_)
                  refine lv_goto (tgt := 59) hx hb dX10_line_149 (by decide) ?_
                  exact ih_59 (v205, g203) ⟨(ir_wk k206 (by decide) (by decide)), r204, (show DBL f_s g203 r29 v33.toInt (u35.toInt) (u106.toInt) (v205.toInt) from (DBL.step i120 eg203 (bv := u35) (av := u106) (pv := u116) rfl rfl rfl (by omega) ⟨by omega, by omega⟩ (by omega) ⟨by omega, by omega⟩ ⟨by omega, by omega⟩ i178 (by omega) (by omega)))⟩ (by show (251 - v205.toInt).toNat < (251 - u116.toInt).toNat; omega) _ _ _ hP hD hS (lv_sub hl [0, 3, 4, 5, 6] rfl)
                · have dc193 : u174.toInt < 10 := nle_i (a := 10) (b := u174.toInt) rfl rfl c193
                  have k207 : 0 ≤ u174.toInt ∧ u174.toInt ≤ 9 := ⟨i176.1, up_lt dc193 (Int.le_refl _) (by decide)⟩
                  refine lv_iload hx hb dX10_line_108 (lv_at hl 1 rfl) ?_
                  refine lv_aload_n hx hb dX10_line_110 rfl (lv_at hl 6 rfl) ?_
                  refine lv_iload_n hx hb dX10_line_111 rfl (lv_at hl 4 rfl) ?_
                  refine lv_iload_n hx hb dX10_line_112 rfl (lv_at hl 3 rfl) ?_
                  refine lv_iload hx hb dX10_line_113 (lv_at hl 2 rfl) ?_
                  refine lv_iload_n hx hb dX10_line_115 rfl (lv_at hl 5 rfl) ?_
                  refine lv_iload hx hb dX10_line_116 (lv_at hl 0 rfl) ?_
                  have n208 : F1 53 = .ref h_downs := (get_ne eF1 (by decide) e_downs)
                  have n209 : F10 53 = .ref h_downs := (SAME.at t18 (by decide) n208)
                  refine call_Vi (wr := [(h_lineHeights, .inl (cI, 12, .inl f_lineHeights)), (h_paceAt, .inl (cI, 40, .inl g16)), (h_kindOf, .inl (cI, 4, .inl g17))]) (As := [.int u35, .int u106, .int u116, .int r29, .int u174]) (rest := [.int u175]) hx hb hml hown hw (m_X10_downBy l D cI cJ cB cP cM cZ h0 h_s h_downs F10 f_s w117 u35 u106 u116 r29 u174 _ n28 n209 s_s_K0 s_s_0 s_s_105 s_s_114 s_s_130 s_s_139 s_s_153 s_s_44 s_s_5 s_s_6 s_s_7 i119 k191 k115 k125 k207) wV_X10_410_X10_downBy dX10_line_118 hK hP hD hS hA [4, 5, 0] [1, 2, 3] rfl rfl (by decide) (by decide) (by decide) 0 10 rfl rfl GG.fb hG.at hl.1 rfl (Nat.le_of_ble_eq_true rfl) ⟨(Nat.le_of_ble_eq_true rfl), (Nat.le_of_ble_eq_true rfl)⟩ ⟨(Nat.le_of_ble_eq_true rfl), (Nat.le_of_ble_eq_true rfl)⟩ (fun r210 u H locs hp hP hD hS => ?_)
                  obtain ⟨t211, t212, rfl⟩ := hp
                  have hP : va_P D vwCl [(h_lineHeights, .inl (cI, 12, .inl f_lineHeights)), (h_paceAt, .inl (cI, 40, .inl g16)), (h_kindOf, .inl (cI, 4, .inl g17)), (h0, .inr (10, vL 67 F10)), (h_s, .inl (cI, 335, .inl f_s)), (h_downs, .inl (cI, 31330, .inl w117))] H := hP
                  have hD : va_D A [(h_lineHeights, .inl (cI, 12, .inl f_lineHeights)), (h_paceAt, .inl (cI, 40, .inl g16)), (h_kindOf, .inl (cI, 4, .inl g17)), (h0, .inr (10, vL 67 F10)), (h_s, .inl (cI, 335, .inl f_s)), (h_downs, .inl (cI, 31330, .inl w117))] := hD
                  refine W.widen (k := 0) (n := 0) (Nat.le_of_ble_eq_true rfl) (Nat.le_of_ble_eq_true rfl) ?_
                  refine call_Si (wr := [(h_lineHeights, .inl (cI, 12, .inl f_lineHeights)), (h_paceAt, .inl (cI, 40, .inl g16)), (h_kindOf, .inl (cI, 4, .inl g17)), (h0, .inr (10, vL 67 F10)), (h_s, .inl (cI, 335, .inl f_s)), (h_downs, .inl (cI, 31330, .inl w117))]) (As := [.int u175, .int r210]) (rest := []) hx hb hml hown hw (m_X10_lesser l D cI cJ cB cP cM cZ u175 r210 _ ) wS_X10_27_X10_lesser dX10_line_121 hP hD hS hA [] [0, 1, 2, 3, 4, 5] rfl rfl (by decide) (by decide) (by decide) GG.fb hG.at hl.1 rfl (Nat.le_of_ble_eq_true rfl) ⟨(Nat.le_of_ble_eq_true rfl), (Nat.le_of_ble_eq_true rfl)⟩ ⟨(Nat.le_of_ble_eq_true rfl), (Nat.le_of_ble_eq_true rfl)⟩ (fun r214 u H locs hp hP hD hS => ?_)
                  obtain ⟨t215, t216, rfl⟩ := hp
                  have hP : va_P D vwCl [(h_lineHeights, .inl (cI, 12, .inl f_lineHeights)), (h_paceAt, .inl (cI, 40, .inl g16)), (h_kindOf, .inl (cI, 4, .inl g17)), (h0, .inr (10, vL 67 F10)), (h_s, .inl (cI, 335, .inl f_s)), (h_downs, .inl (cI, 31330, .inl w117))] H := hP
                  have hD : va_D A [(h_lineHeights, .inl (cI, 12, .inl f_lineHeights)), (h_paceAt, .inl (cI, 40, .inl g16)), (h_kindOf, .inl (cI, 4, .inl g17)), (h0, .inr (10, vL 67 F10)), (h_s, .inl (cI, 335, .inl f_s)), (h_downs, .inl (cI, 31330, .inl w117))] := hD
                  refine W.widen (k := 0) (n := 0) (Nat.le_of_ble_eq_true rfl) (Nat.le_of_ble_eq_true rfl) ?_
                  have k218 : 0 ≤ r214.toInt ∧ r214.toInt ≤ 100000000 := ⟨by omega, by omega⟩
                  refine lv_istore (lv' := [(5, .int r214), (6, .int u174), (4, .int u116), (3, .int u106), (2, .int u35), (1, .int r29), (0, .ref h0)]) hx hb dX10_line_124 hl (by decide) rfl (fun ls hl => ?_)
                  obtain ⟨v219, ev219⟩ : ∃ z : Int32, z = u174 + 1 := ⟨_, rfl⟩
                  have bv219 : v219.toInt = u174.toInt + 1 := by rw [ev219]; exact add_k rfl rfl k207 ⟨Int.le_refl _, Int.le_refl _⟩ (by decide)
                  have k220 : 1 ≤ v219.toInt ∧ v219.toInt ≤ 10 := add_r bv219 k207 ⟨Int.le_refl _, Int.le_refl _⟩ (by decide)
                  refine lv_iinc (v := v219) (lv' := [(6, .int v219), (5, .int r214), (4, .int u116), (3, .int u106), (2, .int u35), (1, .int r29), (0, .ref h0)]) hx hb dX10_line_126 hl (k := 1) rfl (by rw [ev219]; rfl) (by decide) rfl (fun ls hl => ?_)
                  refine lv_goto (tgt := 90) hx hb dX10_line_129 (by decide) ?_
                  exact ih_90 (v219, r214) ⟨(ir_wk k220 (by decide) (by decide)), k218, (show VD f_s w117 r29 v33.toInt u35 u106 u116 r214 (v219.toInt) from (VD.step i178 t212 t216 (by omega) (by omega) (by omega)))⟩ (by show (10 - v219.toInt).toNat < (10 - u174.toInt).toNat; omega) _ _ _ (hP.sub [5, 0, 1, 2, 3, 4] rfl) (hD.sub [5, 0, 1, 2, 3, 4] (by decide) rfl) hS (lv_sub hl [0, 1, 2, 3, 4, 5, 6] rfl)
    · have dc32 : v31.toInt < r29.toInt := nle_i (a := r29.toInt) (b := v31.toInt) rfl rfl c32
      have k221 : (-2147483648) ≤ v31.toInt ∧ v31.toInt ≤ 2147483646 := ⟨(ir_any _).1, up_lt dc32 (ir_any _).2 (by decide)⟩
      have k222 : (-2147483647) ≤ r29.toInt ∧ r29.toInt ≤ 2147483647 := ⟨lo_lt dc32 (ir_any _).1 (by decide), (ir_any _).2⟩
      refine lv_iconst (v := (-1)) hx hb dX10_line_33 (by decide) ?_
      exact ret_i (v := (-1)) hx hb hr hlocks hS (hP.sub (ws' := [(h0, .inr (10, vL 67 F10)), (h_s, .inl (cI, 335, .inl f_s)), (h_paceAt, .inl (cI, 40, .inl g16)), (h_kindOf, .inl (cI, 4, .inl g17)), (h_downs, .inl (cI, 31330, .inl f_downs)), (h_lineHeights, .inl (cI, 12, .inl f_lineHeights))]) [4, 5, 2, 3, 0, 1] rfl) (hD.sub (ws' := [(h0, .inr (10, vL 67 F10)), (h_s, .inl (cI, 335, .inl f_s)), (h_paceAt, .inl (cI, 40, .inl g16)), (h_kindOf, .inl (cI, 4, .inl g17)), (h_downs, .inl (cI, 31330, .inl f_downs)), (h_lineHeights, .inl (cI, 12, .inl f_lineHeights))]) [4, 5, 2, 3, 0, 1] (by decide) rfl) dX10_line_34 rfl (Nat.le_of_ble_eq_true rfl) (Nat.le_of_ble_eq_true rfl) ⟨F10, y11, y12, y13, y14, y15, x_hasLine, x_lineId, x_lineBends, g16, g17, f_downs, f_lineHeights, (SAME.tr (SAME.up eF1 SAME.rf (by decide)) t18 (by decide)), (SAME.at t18 (by decide) (get_eq eF1)), t19, t20, t22, t23, t24, t25, t26, (SAME.at t18 (by decide) (get_ne eF1 (by decide) e_hasLine)), i_x_hasLine, (SAME.at t18 (by decide) (get_ne eF1 (by decide) e_lineId)), (SAME.at t18 (by decide) (get_ne eF1 (by decide) e_lineBends)), i_x_lineBends, s_downs_0, rfl⟩
set_option maxHeartbeats 4000000 in
set_option maxRecDepth 100000 in
theorem m_X10_height (l : Launch) (D : va_G) (cI cJ cB cP cM cZ : ClassId) (h0 : Nat) (h_lineHeights : Nat) (Fh : Nat → Value) (x_hasLine : Int32) (x_lineBends : Int32) (f_lineHeights : Nat → Int32) (p0 : Int32) (sz : Nat) (e_hasLine : Fh 52 = .int x_hasLine) (i_x_hasLine : IR 0 1 x_hasLine) (e_lineHeights : Fh 54 = .ref h_lineHeights) (e_lineBends : Fh 56 = .int x_lineBends) (i_x_lineBends : IR 0 12 x_lineBends) : CI l yX10_height cX10_height 2 (some .int) { frames := 1, cells := 0, slots := 0, locals := 22 } (GG D cI cJ cB cP cM cZ) D [(h0, .inr (10, vL 67 Fh)), (h_lineHeights, .inl (cI, 12, .inl f_lineHeights))] sz [.ref h0, .int p0] (fun (r : Int32) (u : va_W) => ∃ (Gh : Nat → Value), SAME [0] Fh Gh ∧ Gh 0 = .int 0 ∧ u = [(h0, .inr (10, vL 67 Gh)), (h_lineHeights, .inl (cI, 12, .inl f_lineHeights))]) := by
  refine CI_mk (by decide) (Nat.le_of_ble_eq_true rfl) ?_
  intro p e s m below meth c A ls E hAe hG hsz hP hD hA hS hl
  obtain ⟨hx, hb, hr, hw, hown, hlocks, hml, hnm⟩ := E
  have hK := hG.1
  have i_x_hasLine : 0 ≤ x_hasLine.toInt ∧ x_hasLine.toInt ≤ 1 := i_x_hasLine
  have i_x_lineBends : 0 ≤ x_lineBends.toInt ∧ x_lineBends.toInt ≤ 12 := i_x_lineBends
  have hl : lv_has ls 2 [(0, .ref h0), (1, .int p0)] := hl
  refine lv_aload_n hx hb dX10_height_0 rfl (lv_at hl 0 rfl) ?_
  refine lv_iconst (v := 0) hx hb dX10_height_1 (by decide) ?_
  refine put_f (D := D) (ci := 10) (v := .int 0) (ty := .int) (C := RX10) (T := TX10) (N := 67) hx hb hw inAX10 tyX10 tyX10_ok nmX10 hown hK hP hD hS 0 rfl rfl 0 (by decide) (hw _ q_1261) (fun _ h9 => h9) rfl (by decide +kernel) rfl rfl dX10_height_2 (fun H locs F1 eF1 hP hD hS => ?_)
  have hP : va_P D vwCl [(h0, .inr (10, vL 67 F1)), (h_lineHeights, .inl (cI, 12, .inl f_lineHeights))] H := hP
  have hD : va_D A [(h0, .inr (10, vL 67 F1)), (h_lineHeights, .inl (cI, 12, .inl f_lineHeights))] := hD
  refine lv_aload_n hx hb dX10_height_5 rfl (lv_at hl 0 rfl) ?_
  have n2 : F1 52 = .int x_hasLine := (get_ne eF1 (by decide) e_hasLine)
  refine get_f (D := D) (ci := 10) (v := .int x_hasLine) (C := RX10) (T := TX10) (N := 67) hx hb hw inAX10 hown hK hP 0 rfl rfl 52 (by decide) (hw _ q_1313) (fun _ h9 => h9) n2 dX10_height_6 ?_
  refine lv_if_eq (tgt := 35) hx hb dX10_height_9 (by decide) (fun c3 => ?_) (fun c3 => ?_)
  · have dc3 : x_hasLine.toInt = 0 := eq_i (a := x_hasLine.toInt) (b := 0) rfl rfl c3
    have k4 : 0 ≤ x_hasLine.toInt ∧ x_hasLine.toInt ≤ 0 := ⟨i_x_hasLine.1, Int.le_trans (Int.le_of_eq dc3) (Int.le_refl _)⟩
    refine lv_iconst (v := (-1)) hx hb dX10_height_35 (by decide) ?_
    exact ret_i (v := (-1)) hx hb hr hlocks hS hP hD dX10_height_36 rfl (Nat.le_of_ble_eq_true rfl) (Nat.le_of_ble_eq_true rfl) ⟨F1, (SAME.up eF1 SAME.rf (by decide)), (get_eq eF1), rfl⟩
  · have dc3 : x_hasLine.toInt ≠ 0 := ne_i (a := x_hasLine.toInt) (b := 0) rfl rfl c3
    have k5 : 1 ≤ x_hasLine.toInt ∧ x_hasLine.toInt ≤ 1 := ⟨ne_lo dc3 i_x_hasLine.1 ⟨Int.le_refl _, Int.le_refl _⟩ (by decide), i_x_hasLine.2⟩
    refine lv_iload_n hx hb dX10_height_12 rfl (lv_at hl 1 rfl) ?_
    refine lv_iconst (v := 0) hx hb dX10_height_13 (by decide) ?_
    refine lv_aload_n hx hb dX10_height_14 rfl (lv_at hl 0 rfl) ?_
    have n6 : F1 56 = .int x_lineBends := (get_ne eF1 (by decide) e_lineBends)
    refine get_f (D := D) (ci := 10) (v := .int x_lineBends) (C := RX10) (T := TX10) (N := 67) hx hb hw inAX10 hown hK hP 0 rfl rfl 56 (by decide) (hw _ q_1317) (fun _ h9 => h9) n6 dX10_height_15 ?_
    refine lv_iconst (v := 1) hx hb dX10_height_18 (by decide) ?_
    refine lv_isub hx hb dX10_height_19 ?_
    refine lv_topi (fun v7 ev7 => ?_)
    have bv7 : v7.toInt = x_lineBends.toInt - 1 := by rw [ev7]; exact sub_k rfl rfl i_x_lineBends ⟨Int.le_refl _, Int.le_refl _⟩ (by decide)
    have k8 : (-1) ≤ v7.toInt ∧ v7.toInt ≤ 11 := sub_r bv7 i_x_lineBends ⟨Int.le_refl _, Int.le_refl _⟩ (by decide)
    refine call_Si (wr := [(h0, .inr (10, vL 67 F1)), (h_lineHeights, .inl (cI, 12, .inl f_lineHeights))]) (As := [.int p0, .int 0, .int v7]) (rest := []) hx hb hml hown hw (m_X10_isIn l D cI cJ cB cP cM cZ p0 0 v7 _ ) wS_X10_211_X10_isIn dX10_height_20 hP hD hS hA [] [0, 1] rfl rfl (by decide) (by decide) (by decide) GG.fb hG.at hl.1 rfl (Nat.le_of_ble_eq_true rfl) ⟨(Nat.le_of_ble_eq_true rfl), (Nat.le_of_ble_eq_true rfl)⟩ ⟨(Nat.le_of_ble_eq_true rfl), (Nat.le_of_ble_eq_true rfl)⟩ (fun r9 u H locs hp hP hD hS => ?_)
    have zl0 : (0 : Int32).toInt = 0 := by decide
    rcases hp with ⟨t10, rfl, rfl⟩ | ⟨t11, t12, rfl, rfl⟩ | ⟨t13, t14, rfl, rfl⟩
    · have hP : va_P D vwCl [(h0, .inr (10, vL 67 F1)), (h_lineHeights, .inl (cI, 12, .inl f_lineHeights))] H := hP
      have hD : va_D A [(h0, .inr (10, vL 67 F1)), (h_lineHeights, .inl (cI, 12, .inl f_lineHeights))] := hD
      refine W.widen (k := 0) (n := 0) (Nat.le_of_ble_eq_true rfl) (Nat.le_of_ble_eq_true rfl) ?_
      have k16 : (-2147483648) ≤ p0.toInt ∧ p0.toInt ≤ (-1) := ⟨(ir_any _).1, up_lt t10 (Int.le_refl _) (by decide)⟩
      refine lv_if_eq (tgt := 35) hx hb dX10_height_23 (by decide) (fun _ => ?_) (fun g => absurd (by decide) g)
      refine lv_iconst (v := (-1)) hx hb dX10_height_35 (by decide) ?_
      exact ret_i (v := (-1)) hx hb hr hlocks hS hP hD dX10_height_36 rfl (Nat.le_of_ble_eq_true rfl) (Nat.le_of_ble_eq_true rfl) ⟨F1, (SAME.up eF1 SAME.rf (by decide)), (get_eq eF1), rfl⟩
    · have hP : va_P D vwCl [(h0, .inr (10, vL 67 F1)), (h_lineHeights, .inl (cI, 12, .inl f_lineHeights))] H := hP
      have hD : va_D A [(h0, .inr (10, vL 67 F1)), (h_lineHeights, .inl (cI, 12, .inl f_lineHeights))] := hD
      refine W.widen (k := 0) (n := 0) (Nat.le_of_ble_eq_true rfl) (Nat.le_of_ble_eq_true rfl) ?_
      have k17 : 0 ≤ p0.toInt ∧ p0.toInt ≤ 2147483647 := ⟨Int.le_trans (Int.le_refl _) t11, (ir_any _).2⟩
      refine lv_if_eq (tgt := 35) hx hb dX10_height_23 (by decide) (fun _ => ?_) (fun g => absurd (by decide) g)
      refine lv_iconst (v := (-1)) hx hb dX10_height_35 (by decide) ?_
      exact ret_i (v := (-1)) hx hb hr hlocks hS hP hD dX10_height_36 rfl (Nat.le_of_ble_eq_true rfl) (Nat.le_of_ble_eq_true rfl) ⟨F1, (SAME.up eF1 SAME.rf (by decide)), (get_eq eF1), rfl⟩
    · have hP : va_P D vwCl [(h0, .inr (10, vL 67 F1)), (h_lineHeights, .inl (cI, 12, .inl f_lineHeights))] H := hP
      have hD : va_D A [(h0, .inr (10, vL 67 F1)), (h_lineHeights, .inl (cI, 12, .inl f_lineHeights))] := hD
      refine W.widen (k := 0) (n := 0) (Nat.le_of_ble_eq_true rfl) (Nat.le_of_ble_eq_true rfl) ?_
      have k18 : 0 ≤ p0.toInt ∧ p0.toInt ≤ 2147483647 := ⟨Int.le_trans (Int.le_refl _) t13, (ir_any _).2⟩
      have k19 : 0 ≤ p0.toInt ∧ p0.toInt ≤ 11 := ⟨k18.1, Int.le_trans t14 k8.2⟩
      have k20 : 0 ≤ v7.toInt ∧ v7.toInt ≤ 11 := ⟨Int.le_trans k18.1 t14, k8.2⟩
      have k21 : 1 ≤ x_lineBends.toInt ∧ x_lineBends.toInt ≤ 12 := ⟨lin_lo (lin_m bv7) k20.1 (by decide), i_x_lineBends.2⟩
      refine lv_if_eq (tgt := 35) hx hb dX10_height_23 (by decide) (fun g => absurd g (by decide)) (fun _ => ?_)
      refine lv_aload_n hx hb dX10_height_26 rfl (lv_at hl 0 rfl) ?_
      have n22 : F1 54 = .ref h_lineHeights := (get_ne eF1 (by decide) e_lineHeights)
      refine get_f (D := D) (ci := 10) (v := .ref h_lineHeights) (C := RX10) (T := TX10) (N := 67) hx hb hw inAX10 hown hK hP 0 rfl rfl 54 (by decide) (hw _ q_1315) (fun _ h9 => h9) n22 dX10_height_27 ?_
      refine lv_iload_n hx hb dX10_height_30 rfl (lv_at hl 1 rfl) ?_
      refine va_iald hx hb hK hP 1 0 rfl rfl (ix_k k19 (by decide) (by decide)) dX10_height_31 ?_
      refine lv_topi (fun v23 ev23 => ?_)
      refine lv_goto (tgt := 36) hx hb dX10_height_32 (by decide) ?_
      exact ret_i (v := v23) hx hb hr hlocks hS hP hD dX10_height_36 rfl (Nat.le_of_ble_eq_true rfl) (Nat.le_of_ble_eq_true rfl) ⟨F1, (SAME.up eF1 SAME.rf (by decide)), (get_eq eF1), rfl⟩
set_option maxHeartbeats 4000000 in
set_option maxRecDepth 100000 in
theorem m_X10_take (l : Launch) (D : va_G) (cI cJ cB cP cM cZ : ClassId) (h0 : Nat) (h_s : Nat) (h_undone : Nat) (h_bestYard : Nat) (h_bestCrew : Nat) (h_lineHeights : Nat) (Fh : Nat → Value) (x_undoMany : Int32) (x_bestId : Int32) (x_hasBest : Int32) (x_hasLine : Int32) (x_lineId : Int32) (f_s : Nat → Int32) (f_undone : Nat → Int32) (f_bestYard : Nat → Int32) (f_bestCrew : Nat → Int32) (f_lineHeights : Nat → Int32) (p0 : Int32) (sz : Nat) (e_s : Fh 6 = .ref h_s) (e_undone : Fh 39 = .ref h_undone) (e_undoMany : Fh 41 = .int x_undoMany) (i_x_undoMany : IR 0 8 x_undoMany) (e_bestYard : Fh 43 = .ref h_bestYard) (e_bestCrew : Fh 44 = .ref h_bestCrew) (e_bestId : Fh 45 = .int x_bestId) (e_hasBest : Fh 51 = .int x_hasBest) (i_x_hasBest : IR 0 1 x_hasBest) (e_hasLine : Fh 52 = .int x_hasLine) (i_x_hasLine : IR 0 1 x_hasLine) (e_lineHeights : Fh 54 = .ref h_lineHeights) (e_lineId : Fh 55 = .int x_lineId) (s_s_K0 : KW 0 f_s) (s_s_0 : SG 0 0 0 40 f_s) (s_s_105 : SG 105 108 0 11 f_s) (s_s_114 : SG 114 114 0 5 f_s) (s_s_130 : SG 130 133 0 11 f_s) (s_s_139 : SG 139 139 0 5 f_s) (s_s_153 : SG 153 153 0 44 f_s) (s_s_44 : SG 44 55 0 9 f_s) (s_s_5 : SG 5 5 0 12 f_s) (s_s_6 : SG 6 6 0 12 f_s) (s_s_7 : SG 7 7 0 6 f_s) (s_undone_1 : SG 1 4 0 11 f_undone) (s_undone_10 : SG 10 10 0 5 f_undone) (s_undone_106 : SG 106 106 0 5 f_undone) (s_undone_121 : SG 121 124 0 11 f_undone) (s_undone_130 : SG 130 130 0 5 f_undone) (s_undone_145 : SG 145 148 0 11 f_undone) (s_undone_154 : SG 154 154 0 5 f_undone) (s_undone_169 : SG 169 172 0 11 f_undone) (s_undone_178 : SG 178 178 0 5 f_undone) (s_undone_25 : SG 25 28 0 11 f_undone) (s_undone_34 : SG 34 34 0 5 f_undone) (s_undone_49 : SG 49 52 0 11 f_undone) (s_undone_58 : SG 58 58 0 5 f_undone) (s_undone_73 : SG 73 76 0 11 f_undone) (s_undone_82 : SG 82 82 0 5 f_undone) (s_undone_97 : SG 97 100 0 11 f_undone) : CI l yX10_take cX10_take 4 (some .boolean) { frames := 1, cells := 0, slots := 0, locals := 21 } (GG D cI cJ cB cP cM cZ) D [(h0, .inr (10, vL 67 Fh)), (h_s, .inl (cI, 335, .inl f_s)), (h_undone, .inl (cI, 192, .inl f_undone)), (h_bestYard, .inl (cI, 4, .inl f_bestYard)), (h_bestCrew, .inl (cI, 4, .inl f_bestCrew)), (h_lineHeights, .inl (cI, 12, .inl f_lineHeights))] sz [.ref h0, .int p0] (fun (r : Int32) (u : va_W) => ∃ (Gh : Nat → Value) (y_undoMany : Int32) (g_s : Nat → Int32) (g_undone : Nat → Int32), SAME [0, 41] Fh Gh ∧ Gh 0 = .int 0 ∧ Gh 41 = .int y_undoMany ∧ IR 0 8 y_undoMany ∧ SG 153 153 0 44 g_s ∧ SG 0 0 0 40 g_s ∧ SG 5 5 0 12 g_s ∧ SG 6 6 0 12 g_s ∧ SG 7 7 0 6 g_s ∧ SG 44 55 0 9 g_s ∧ KW 0 g_s ∧ SG 105 108 0 11 g_s ∧ SG 114 114 0 5 g_s ∧ SG 130 133 0 11 g_s ∧ SG 139 139 0 5 g_s ∧ SG 1 4 0 11 g_undone ∧ SG 10 10 0 5 g_undone ∧ SG 25 28 0 11 g_undone ∧ SG 34 34 0 5 g_undone ∧ SG 49 52 0 11 g_undone ∧ SG 58 58 0 5 g_undone ∧ SG 73 76 0 11 g_undone ∧ SG 82 82 0 5 g_undone ∧ SG 97 100 0 11 g_undone ∧ SG 106 106 0 5 g_undone ∧ SG 121 124 0 11 g_undone ∧ SG 130 130 0 5 g_undone ∧ SG 145 148 0 11 g_undone ∧ SG 154 154 0 5 g_undone ∧ SG 169 172 0 11 g_undone ∧ SG 178 178 0 5 g_undone ∧ IR 0 1 r ∧ u = [(h0, .inr (10, vL 67 Gh)), (h_s, .inl (cI, 335, .inl g_s)), (h_undone, .inl (cI, 192, .inl g_undone)), (h_bestYard, .inl (cI, 4, .inl f_bestYard)), (h_bestCrew, .inl (cI, 4, .inl f_bestCrew)), (h_lineHeights, .inl (cI, 12, .inl f_lineHeights))]) := by
  refine CI_mk (by decide) (Nat.le_of_ble_eq_true rfl) ?_
  intro p e s m below meth c A ls E hAe hG hsz hP hD hA hS hl
  obtain ⟨hx, hb, hr, hw, hown, hlocks, hml, hnm⟩ := E
  have hK := hG.1
  have i_x_undoMany : 0 ≤ x_undoMany.toInt ∧ x_undoMany.toInt ≤ 8 := i_x_undoMany
  have i_x_hasBest : 0 ≤ x_hasBest.toInt ∧ x_hasBest.toInt ≤ 1 := i_x_hasBest
  have i_x_hasLine : 0 ≤ x_hasLine.toInt ∧ x_hasLine.toInt ≤ 1 := i_x_hasLine
  have hl : lv_has ls 4 [(0, .ref h0), (1, .int p0)] := hl
  refine lv_aload_n hx hb dX10_take_0 rfl (lv_at hl 0 rfl) ?_
  refine lv_iconst (v := 0) hx hb dX10_take_1 (by decide) ?_
  refine put_f (D := D) (ci := 10) (v := .int 0) (ty := .int) (C := RX10) (T := TX10) (N := 67) hx hb hw inAX10 tyX10 tyX10_ok nmX10 hown hK hP hD hS 0 rfl rfl 0 (by decide) (hw _ q_1261) (fun _ h9 => h9) rfl (by decide +kernel) rfl rfl dX10_take_2 (fun H locs F1 eF1 hP hD hS => ?_)
  have hP : va_P D vwCl [(h0, .inr (10, vL 67 F1)), (h_s, .inl (cI, 335, .inl f_s)), (h_undone, .inl (cI, 192, .inl f_undone)), (h_bestYard, .inl (cI, 4, .inl f_bestYard)), (h_bestCrew, .inl (cI, 4, .inl f_bestCrew)), (h_lineHeights, .inl (cI, 12, .inl f_lineHeights))] H := hP
  have hD : va_D A [(h0, .inr (10, vL 67 F1)), (h_s, .inl (cI, 335, .inl f_s)), (h_undone, .inl (cI, 192, .inl f_undone)), (h_bestYard, .inl (cI, 4, .inl f_bestYard)), (h_bestCrew, .inl (cI, 4, .inl f_bestCrew)), (h_lineHeights, .inl (cI, 12, .inl f_lineHeights))] := hD
  refine lv_iload_n hx hb dX10_take_5 rfl (lv_at hl 1 rfl) ?_
  refine lv_if_ne (tgt := 73) hx hb dX10_take_6 (by decide) (fun c2 => ?_) (fun c2 => ?_)
  · have dc2 : p0.toInt ≠ 0 := ne_i (a := p0.toInt) (b := 0) rfl rfl c2
    refine lv_iload_n hx hb dX10_take_73 rfl (lv_at hl 1 rfl) ?_
    refine lv_iconst (v := 1) hx hb dX10_take_74 (by decide) ?_
    refine lv_icmp_ne (tgt := 111) hx hb dX10_take_75 (by decide) (fun c3 => ?_) (fun c3 => ?_)
    · have dc3 : p0.toInt ≠ 1 := ne_i (a := p0.toInt) (b := 1) rfl rfl c3
      refine lv_iconst (v := 0) hx hb dX10_take_111 (by decide) ?_
      refine lv_istore_n (lv' := [(2, .int 0), (0, .ref h0), (1, .int p0)]) hx hb dX10_take_112 rfl hl (by decide) rfl (fun ls hl => ?_)
      refine lv_iconst (v := 0) hx hb dX10_take_113 (by decide) ?_
      refine lv_istore_n (lv' := [(3, .int 0), (2, .int 0), (0, .ref h0), (1, .int p0)]) hx hb dX10_take_114 rfl hl (by decide) rfl (fun ls hl => ?_)
      refine mloop (α := (Int32) × (Int32)) (nL := 4) (D := D) (A := A) (H0 := s.heap) (fun a => (0 - a.1.toInt).toNat) (fun a => IR 0 0 a.1 ∧ IR 0 0 a.2) (fun a => [(h0, .inr (10, vL 67 F1)), (h_s, .inl (cI, 335, .inl f_s)), (h_undone, .inl (cI, 192, .inl f_undone)), (h_bestYard, .inl (cI, 4, .inl f_bestYard)), (h_bestCrew, .inl (cI, 4, .inl f_bestCrew)), (h_lineHeights, .inl (cI, 12, .inl f_lineHeights))]) (fun a => [(3, .int a.1), (2, .int a.2), (0, .ref h0), (1, .int p0)]) (fun H locs ls => W p l e ({ frames := 1, cells := 0, slots := 0, locals := 21 } : Room) s m [.ref h0, .int p0].toArray below meth c H locs 0 0 (MQ below (va_Qi (fun (r : Int32) (u : va_W) => ∃ (Gh : Nat → Value) (y_undoMany : Int32) (g_s : Nat → Int32) (g_undone : Nat → Int32), SAME [0, 41] Fh Gh ∧ Gh 0 = .int 0 ∧ Gh 41 = .int y_undoMany ∧ IR 0 8 y_undoMany ∧ SG 153 153 0 44 g_s ∧ SG 0 0 0 40 g_s ∧ SG 5 5 0 12 g_s ∧ SG 6 6 0 12 g_s ∧ SG 7 7 0 6 g_s ∧ SG 44 55 0 9 g_s ∧ KW 0 g_s ∧ SG 105 108 0 11 g_s ∧ SG 114 114 0 5 g_s ∧ SG 130 133 0 11 g_s ∧ SG 139 139 0 5 g_s ∧ SG 1 4 0 11 g_undone ∧ SG 10 10 0 5 g_undone ∧ SG 25 28 0 11 g_undone ∧ SG 34 34 0 5 g_undone ∧ SG 49 52 0 11 g_undone ∧ SG 58 58 0 5 g_undone ∧ SG 73 76 0 11 g_undone ∧ SG 82 82 0 5 g_undone ∧ SG 97 100 0 11 g_undone ∧ SG 106 106 0 5 g_undone ∧ SG 121 124 0 11 g_undone ∧ SG 130 130 0 5 g_undone ∧ SG 145 148 0 11 g_undone ∧ SG 154 154 0 5 g_undone ∧ SG 169 172 0 11 g_undone ∧ SG 178 178 0 5 g_undone ∧ IR 0 1 r ∧ u = [(h0, .inr (10, vL 67 Gh)), (h_s, .inl (cI, 335, .inl g_s)), (h_undone, .inl (cI, 192, .inl g_undone)), (h_bestYard, .inl (cI, 4, .inl f_bestYard)), (h_bestCrew, .inl (cI, 4, .inl f_bestCrew)), (h_lineHeights, .inl (cI, 12, .inl f_lineHeights))]) (PO D A) A) [.ref h0, .int p0].toArray s 0 0 A) (F0 m 115 ls [])) ?_ (0, 0) ⟨(show 0 ≤ (0 : Int32).toInt ∧ (0 : Int32).toInt ≤ 0 by decide), (show 0 ≤ (0 : Int32).toInt ∧ (0 : Int32).toInt ≤ 0 by decide)⟩ _ _ _ hP hD hS hl
      rintro ⟨u4, u5⟩ ⟨i6, i7⟩ ih H locs ls hP hD hS hl
      have i6 : 0 ≤ u4.toInt ∧ u4.toInt ≤ 0 := i6
      have i7 : 0 ≤ u5.toInt ∧ u5.toInt ≤ 0 := i7
      have hP : va_P D vwCl [(h0, .inr (10, vL 67 F1)), (h_s, .inl (cI, 335, .inl f_s)), (h_undone, .inl (cI, 192, .inl f_undone)), (h_bestYard, .inl (cI, 4, .inl f_bestYard)), (h_bestCrew, .inl (cI, 4, .inl f_bestCrew)), (h_lineHeights, .inl (cI, 12, .inl f_lineHeights))] H := hP
      have hD : va_D A [(h0, .inr (10, vL 67 F1)), (h_s, .inl (cI, 335, .inl f_s)), (h_undone, .inl (cI, 192, .inl f_undone)), (h_bestYard, .inl (cI, 4, .inl f_bestYard)), (h_bestCrew, .inl (cI, 4, .inl f_bestCrew)), (h_lineHeights, .inl (cI, 12, .inl f_lineHeights))] := hD
      have hl : lv_has ls 4 [(3, .int u4), (2, .int u5), (0, .ref h0), (1, .int p0)] := hl
      refine lv_iload_n hx hb dX10_take_115 rfl (lv_at hl 0 rfl) ?_
      refine lv_iconst (v := 4) hx hb dX10_take_116 (by decide) ?_
      refine lv_icmp_ge (tgt := 154) hx hb dX10_take_117 (by decide) (fun c8 => False.elim (bad_le (le_i (a := 4) (b := u4.toInt) rfl rfl c8) (Int.le_refl _) i6.2 (by decide))) (fun c8 => ?_)
      have dc8 : u4.toInt < 4 := nle_i (a := 4) (b := u4.toInt) rfl rfl c8
      refine lv_iload_n hx hb dX10_take_120 rfl (lv_at hl 1 rfl) ?_
      refine lv_if_eq (tgt := 154) hx hb dX10_take_121 (by decide) (fun c9 => ?_) (fun c9 => False.elim (bad_ne (ne_i (a := u5.toInt) (b := 0) rfl rfl c9) i7 ⟨Int.le_refl _, Int.le_refl _⟩ (by decide)))
      have dc9 : u5.toInt = 0 := eq_i (a := u5.toInt) (b := 0) rfl rfl c9
      refine lv_iload_n hx hb dX10_take_154 rfl (lv_at hl 1 rfl) ?_
      refine lv_if_ne (tgt := 160) hx hb dX10_take_155 (by decide) (fun c10 => False.elim (bad_ne (ne_i (a := u5.toInt) (b := 0) rfl rfl c10) i7 ⟨Int.le_refl _, Int.le_refl _⟩ (by decide))) (fun c10 => ?_)
      have dc10 : u5.toInt = 0 := eq_i (a := u5.toInt) (b := 0) rfl rfl c10
      refine lv_iconst (v := 0) hx hb dX10_take_158 (by decide) ?_
      exact ret_i (v := 0) hx hb hr hlocks hS hP hD dX10_take_159 rfl (Nat.le_of_ble_eq_true rfl) (Nat.le_of_ble_eq_true rfl) ⟨F1, x_undoMany, f_s, f_undone, (SAME.up eF1 SAME.rf (by decide)), (get_eq eF1), (get_ne eF1 (by decide) e_undoMany), i_x_undoMany, s_s_153, s_s_0, s_s_5, s_s_6, s_s_7, s_s_44, s_s_K0, s_s_105, s_s_114, s_s_130, s_s_139, s_undone_1, s_undone_10, s_undone_25, s_undone_34, s_undone_49, s_undone_58, s_undone_73, s_undone_82, s_undone_97, s_undone_106, s_undone_121, s_undone_130, s_undone_145, s_undone_154, s_undone_169, s_undone_178, (show 0 ≤ (0 : Int32).toInt ∧ (0 : Int32).toInt ≤ 1 by decide), rfl⟩
    · have dc3 : p0.toInt = 1 := eq_i (a := p0.toInt) (b := 1) rfl rfl c3
      have k11 : 1 ≤ p0.toInt ∧ p0.toInt ≤ 1 := ⟨Int.le_trans (Int.le_refl _) (Int.le_of_eq dc3.symm), Int.le_trans (Int.le_of_eq dc3) (Int.le_refl _)⟩
      refine lv_aload_n hx hb dX10_take_78 rfl (lv_at hl 0 rfl) ?_
      have n12 : F1 51 = .int x_hasBest := (get_ne eF1 (by decide) e_hasBest)
      refine get_f (D := D) (ci := 10) (v := .int x_hasBest) (C := RX10) (T := TX10) (N := 67) hx hb hw inAX10 hown hK hP 0 rfl rfl 51 (by decide) (hw _ q_1312) (fun _ h9 => h9) n12 dX10_take_79 ?_
      refine lv_if_eq (tgt := 111) hx hb dX10_take_82 (by decide) (fun c13 => ?_) (fun c13 => ?_)
      · have dc13 : x_hasBest.toInt = 0 := eq_i (a := x_hasBest.toInt) (b := 0) rfl rfl c13
        have k14 : 0 ≤ x_hasBest.toInt ∧ x_hasBest.toInt ≤ 0 := ⟨i_x_hasBest.1, Int.le_trans (Int.le_of_eq dc13) (Int.le_refl _)⟩
        refine lv_iconst (v := 0) hx hb dX10_take_111 (by decide) ?_
        refine lv_istore_n (lv' := [(2, .int 0), (0, .ref h0), (1, .int p0)]) hx hb dX10_take_112 rfl hl (by decide) rfl (fun ls hl => ?_)
        refine lv_iconst (v := 0) hx hb dX10_take_113 (by decide) ?_
        refine lv_istore_n (lv' := [(3, .int 0), (2, .int 0), (0, .ref h0), (1, .int p0)]) hx hb dX10_take_114 rfl hl (by decide) rfl (fun ls hl => ?_)
        refine mloop (α := (Int32) × (Int32)) (nL := 4) (D := D) (A := A) (H0 := s.heap) (fun a => (0 - a.1.toInt).toNat) (fun a => IR 0 0 a.1 ∧ IR 0 0 a.2) (fun a => [(h0, .inr (10, vL 67 F1)), (h_s, .inl (cI, 335, .inl f_s)), (h_undone, .inl (cI, 192, .inl f_undone)), (h_bestYard, .inl (cI, 4, .inl f_bestYard)), (h_bestCrew, .inl (cI, 4, .inl f_bestCrew)), (h_lineHeights, .inl (cI, 12, .inl f_lineHeights))]) (fun a => [(3, .int a.1), (2, .int a.2), (0, .ref h0), (1, .int p0)]) (fun H locs ls => W p l e ({ frames := 1, cells := 0, slots := 0, locals := 21 } : Room) s m [.ref h0, .int p0].toArray below meth c H locs 0 0 (MQ below (va_Qi (fun (r : Int32) (u : va_W) => ∃ (Gh : Nat → Value) (y_undoMany : Int32) (g_s : Nat → Int32) (g_undone : Nat → Int32), SAME [0, 41] Fh Gh ∧ Gh 0 = .int 0 ∧ Gh 41 = .int y_undoMany ∧ IR 0 8 y_undoMany ∧ SG 153 153 0 44 g_s ∧ SG 0 0 0 40 g_s ∧ SG 5 5 0 12 g_s ∧ SG 6 6 0 12 g_s ∧ SG 7 7 0 6 g_s ∧ SG 44 55 0 9 g_s ∧ KW 0 g_s ∧ SG 105 108 0 11 g_s ∧ SG 114 114 0 5 g_s ∧ SG 130 133 0 11 g_s ∧ SG 139 139 0 5 g_s ∧ SG 1 4 0 11 g_undone ∧ SG 10 10 0 5 g_undone ∧ SG 25 28 0 11 g_undone ∧ SG 34 34 0 5 g_undone ∧ SG 49 52 0 11 g_undone ∧ SG 58 58 0 5 g_undone ∧ SG 73 76 0 11 g_undone ∧ SG 82 82 0 5 g_undone ∧ SG 97 100 0 11 g_undone ∧ SG 106 106 0 5 g_undone ∧ SG 121 124 0 11 g_undone ∧ SG 130 130 0 5 g_undone ∧ SG 145 148 0 11 g_undone ∧ SG 154 154 0 5 g_undone ∧ SG 169 172 0 11 g_undone ∧ SG 178 178 0 5 g_undone ∧ IR 0 1 r ∧ u = [(h0, .inr (10, vL 67 Gh)), (h_s, .inl (cI, 335, .inl g_s)), (h_undone, .inl (cI, 192, .inl g_undone)), (h_bestYard, .inl (cI, 4, .inl f_bestYard)), (h_bestCrew, .inl (cI, 4, .inl f_bestCrew)), (h_lineHeights, .inl (cI, 12, .inl f_lineHeights))]) (PO D A) A) [.ref h0, .int p0].toArray s 0 0 A) (F0 m 115 ls [])) ?_ (0, 0) ⟨(show 0 ≤ (0 : Int32).toInt ∧ (0 : Int32).toInt ≤ 0 by decide), (show 0 ≤ (0 : Int32).toInt ∧ (0 : Int32).toInt ≤ 0 by decide)⟩ _ _ _ hP hD hS hl
        rintro ⟨u15, u16⟩ ⟨i17, i18⟩ ih H locs ls hP hD hS hl
        have i17 : 0 ≤ u15.toInt ∧ u15.toInt ≤ 0 := i17
        have i18 : 0 ≤ u16.toInt ∧ u16.toInt ≤ 0 := i18
        have hP : va_P D vwCl [(h0, .inr (10, vL 67 F1)), (h_s, .inl (cI, 335, .inl f_s)), (h_undone, .inl (cI, 192, .inl f_undone)), (h_bestYard, .inl (cI, 4, .inl f_bestYard)), (h_bestCrew, .inl (cI, 4, .inl f_bestCrew)), (h_lineHeights, .inl (cI, 12, .inl f_lineHeights))] H := hP
        have hD : va_D A [(h0, .inr (10, vL 67 F1)), (h_s, .inl (cI, 335, .inl f_s)), (h_undone, .inl (cI, 192, .inl f_undone)), (h_bestYard, .inl (cI, 4, .inl f_bestYard)), (h_bestCrew, .inl (cI, 4, .inl f_bestCrew)), (h_lineHeights, .inl (cI, 12, .inl f_lineHeights))] := hD
        have hl : lv_has ls 4 [(3, .int u15), (2, .int u16), (0, .ref h0), (1, .int p0)] := hl
        refine lv_iload_n hx hb dX10_take_115 rfl (lv_at hl 0 rfl) ?_
        refine lv_iconst (v := 4) hx hb dX10_take_116 (by decide) ?_
        refine lv_icmp_ge (tgt := 154) hx hb dX10_take_117 (by decide) (fun c19 => False.elim (bad_le (le_i (a := 4) (b := u15.toInt) rfl rfl c19) (Int.le_refl _) i17.2 (by decide))) (fun c19 => ?_)
        have dc19 : u15.toInt < 4 := nle_i (a := 4) (b := u15.toInt) rfl rfl c19
        refine lv_iload_n hx hb dX10_take_120 rfl (lv_at hl 1 rfl) ?_
        refine lv_if_eq (tgt := 154) hx hb dX10_take_121 (by decide) (fun c20 => ?_) (fun c20 => False.elim (bad_ne (ne_i (a := u16.toInt) (b := 0) rfl rfl c20) i18 ⟨Int.le_refl _, Int.le_refl _⟩ (by decide)))
        have dc20 : u16.toInt = 0 := eq_i (a := u16.toInt) (b := 0) rfl rfl c20
        refine lv_iload_n hx hb dX10_take_154 rfl (lv_at hl 1 rfl) ?_
        refine lv_if_ne (tgt := 160) hx hb dX10_take_155 (by decide) (fun c21 => False.elim (bad_ne (ne_i (a := u16.toInt) (b := 0) rfl rfl c21) i18 ⟨Int.le_refl _, Int.le_refl _⟩ (by decide))) (fun c21 => ?_)
        have dc21 : u16.toInt = 0 := eq_i (a := u16.toInt) (b := 0) rfl rfl c21
        refine lv_iconst (v := 0) hx hb dX10_take_158 (by decide) ?_
        exact ret_i (v := 0) hx hb hr hlocks hS hP hD dX10_take_159 rfl (Nat.le_of_ble_eq_true rfl) (Nat.le_of_ble_eq_true rfl) ⟨F1, x_undoMany, f_s, f_undone, (SAME.up eF1 SAME.rf (by decide)), (get_eq eF1), (get_ne eF1 (by decide) e_undoMany), i_x_undoMany, s_s_153, s_s_0, s_s_5, s_s_6, s_s_7, s_s_44, s_s_K0, s_s_105, s_s_114, s_s_130, s_s_139, s_undone_1, s_undone_10, s_undone_25, s_undone_34, s_undone_49, s_undone_58, s_undone_73, s_undone_82, s_undone_97, s_undone_106, s_undone_121, s_undone_130, s_undone_145, s_undone_154, s_undone_169, s_undone_178, (show 0 ≤ (0 : Int32).toInt ∧ (0 : Int32).toInt ≤ 1 by decide), rfl⟩
      · have dc13 : x_hasBest.toInt ≠ 0 := ne_i (a := x_hasBest.toInt) (b := 0) rfl rfl c13
        have k22 : 1 ≤ x_hasBest.toInt ∧ x_hasBest.toInt ≤ 1 := ⟨ne_lo dc13 i_x_hasBest.1 ⟨Int.le_refl _, Int.le_refl _⟩ (by decide), i_x_hasBest.2⟩
        refine lv_aload_n hx hb dX10_take_85 rfl (lv_at hl 0 rfl) ?_
        have n23 : F1 45 = .int x_bestId := (get_ne eF1 (by decide) e_bestId)
        refine get_f (D := D) (ci := 10) (v := .int x_bestId) (C := RX10) (T := TX10) (N := 67) hx hb hw inAX10 hown hK hP 0 rfl rfl 45 (by decide) (hw _ q_1306) (fun _ h9 => h9) n23 dX10_take_86 ?_
        refine lv_aload_n hx hb dX10_take_89 rfl (lv_at hl 0 rfl) ?_
        have n24 : F1 6 = .ref h_s := (get_ne eF1 (by decide) e_s)
        refine get_f (D := D) (ci := 10) (v := .ref h_s) (C := RX10) (T := TX10) (N := 67) hx hb hw inAX10 hown hK hP 0 rfl rfl 6 (by decide) (hw _ q_1267) (fun _ h9 => h9) n24 dX10_take_90 ?_
        refine lv_sipush (v := 334) hx hb dX10_take_93 (by decide) ?_
        refine iald_n hx hb hK hP 1 0 rfl rfl 334 rfl (Nat.le_of_ble_eq_true rfl) (Nat.le_of_ble_eq_true rfl) rfl dX10_take_96 ?_
        refine lv_topi (fun v25 ev25 => ?_)
        refine lv_icmp_ne (tgt := 111) hx hb dX10_take_97 (by decide) (fun c26 => ?_) (fun c26 => ?_)
        · have dc26 : x_bestId.toInt ≠ v25.toInt := ne_i (a := x_bestId.toInt) (b := v25.toInt) rfl rfl c26
          refine lv_iconst (v := 0) hx hb dX10_take_111 (by decide) ?_
          refine lv_istore_n (lv' := [(2, .int 0), (0, .ref h0), (1, .int p0)]) hx hb dX10_take_112 rfl hl (by decide) rfl (fun ls hl => ?_)
          refine lv_iconst (v := 0) hx hb dX10_take_113 (by decide) ?_
          refine lv_istore_n (lv' := [(3, .int 0), (2, .int 0), (0, .ref h0), (1, .int p0)]) hx hb dX10_take_114 rfl hl (by decide) rfl (fun ls hl => ?_)
          refine mloop (α := (Int32) × (Int32)) (nL := 4) (D := D) (A := A) (H0 := s.heap) (fun a => (0 - a.1.toInt).toNat) (fun a => IR 0 0 a.1 ∧ IR 0 0 a.2) (fun a => [(h0, .inr (10, vL 67 F1)), (h_s, .inl (cI, 335, .inl f_s)), (h_undone, .inl (cI, 192, .inl f_undone)), (h_bestYard, .inl (cI, 4, .inl f_bestYard)), (h_bestCrew, .inl (cI, 4, .inl f_bestCrew)), (h_lineHeights, .inl (cI, 12, .inl f_lineHeights))]) (fun a => [(3, .int a.1), (2, .int a.2), (0, .ref h0), (1, .int p0)]) (fun H locs ls => W p l e ({ frames := 1, cells := 0, slots := 0, locals := 21 } : Room) s m [.ref h0, .int p0].toArray below meth c H locs 0 0 (MQ below (va_Qi (fun (r : Int32) (u : va_W) => ∃ (Gh : Nat → Value) (y_undoMany : Int32) (g_s : Nat → Int32) (g_undone : Nat → Int32), SAME [0, 41] Fh Gh ∧ Gh 0 = .int 0 ∧ Gh 41 = .int y_undoMany ∧ IR 0 8 y_undoMany ∧ SG 153 153 0 44 g_s ∧ SG 0 0 0 40 g_s ∧ SG 5 5 0 12 g_s ∧ SG 6 6 0 12 g_s ∧ SG 7 7 0 6 g_s ∧ SG 44 55 0 9 g_s ∧ KW 0 g_s ∧ SG 105 108 0 11 g_s ∧ SG 114 114 0 5 g_s ∧ SG 130 133 0 11 g_s ∧ SG 139 139 0 5 g_s ∧ SG 1 4 0 11 g_undone ∧ SG 10 10 0 5 g_undone ∧ SG 25 28 0 11 g_undone ∧ SG 34 34 0 5 g_undone ∧ SG 49 52 0 11 g_undone ∧ SG 58 58 0 5 g_undone ∧ SG 73 76 0 11 g_undone ∧ SG 82 82 0 5 g_undone ∧ SG 97 100 0 11 g_undone ∧ SG 106 106 0 5 g_undone ∧ SG 121 124 0 11 g_undone ∧ SG 130 130 0 5 g_undone ∧ SG 145 148 0 11 g_undone ∧ SG 154 154 0 5 g_undone ∧ SG 169 172 0 11 g_undone ∧ SG 178 178 0 5 g_undone ∧ IR 0 1 r ∧ u = [(h0, .inr (10, vL 67 Gh)), (h_s, .inl (cI, 335, .inl g_s)), (h_undone, .inl (cI, 192, .inl g_undone)), (h_bestYard, .inl (cI, 4, .inl f_bestYard)), (h_bestCrew, .inl (cI, 4, .inl f_bestCrew)), (h_lineHeights, .inl (cI, 12, .inl f_lineHeights))]) (PO D A) A) [.ref h0, .int p0].toArray s 0 0 A) (F0 m 115 ls [])) ?_ (0, 0) ⟨(show 0 ≤ (0 : Int32).toInt ∧ (0 : Int32).toInt ≤ 0 by decide), (show 0 ≤ (0 : Int32).toInt ∧ (0 : Int32).toInt ≤ 0 by decide)⟩ _ _ _ hP hD hS hl
          rintro ⟨u27, u28⟩ ⟨i29, i30⟩ ih H locs ls hP hD hS hl
          have i29 : 0 ≤ u27.toInt ∧ u27.toInt ≤ 0 := i29
          have i30 : 0 ≤ u28.toInt ∧ u28.toInt ≤ 0 := i30
          have hP : va_P D vwCl [(h0, .inr (10, vL 67 F1)), (h_s, .inl (cI, 335, .inl f_s)), (h_undone, .inl (cI, 192, .inl f_undone)), (h_bestYard, .inl (cI, 4, .inl f_bestYard)), (h_bestCrew, .inl (cI, 4, .inl f_bestCrew)), (h_lineHeights, .inl (cI, 12, .inl f_lineHeights))] H := hP
          have hD : va_D A [(h0, .inr (10, vL 67 F1)), (h_s, .inl (cI, 335, .inl f_s)), (h_undone, .inl (cI, 192, .inl f_undone)), (h_bestYard, .inl (cI, 4, .inl f_bestYard)), (h_bestCrew, .inl (cI, 4, .inl f_bestCrew)), (h_lineHeights, .inl (cI, 12, .inl f_lineHeights))] := hD
          have hl : lv_has ls 4 [(3, .int u27), (2, .int u28), (0, .ref h0), (1, .int p0)] := hl
          refine lv_iload_n hx hb dX10_take_115 rfl (lv_at hl 0 rfl) ?_
          refine lv_iconst (v := 4) hx hb dX10_take_116 (by decide) ?_
          refine lv_icmp_ge (tgt := 154) hx hb dX10_take_117 (by decide) (fun c31 => False.elim (bad_le (le_i (a := 4) (b := u27.toInt) rfl rfl c31) (Int.le_refl _) i29.2 (by decide))) (fun c31 => ?_)
          have dc31 : u27.toInt < 4 := nle_i (a := 4) (b := u27.toInt) rfl rfl c31
          refine lv_iload_n hx hb dX10_take_120 rfl (lv_at hl 1 rfl) ?_
          refine lv_if_eq (tgt := 154) hx hb dX10_take_121 (by decide) (fun c32 => ?_) (fun c32 => False.elim (bad_ne (ne_i (a := u28.toInt) (b := 0) rfl rfl c32) i30 ⟨Int.le_refl _, Int.le_refl _⟩ (by decide)))
          have dc32 : u28.toInt = 0 := eq_i (a := u28.toInt) (b := 0) rfl rfl c32
          refine lv_iload_n hx hb dX10_take_154 rfl (lv_at hl 1 rfl) ?_
          refine lv_if_ne (tgt := 160) hx hb dX10_take_155 (by decide) (fun c33 => False.elim (bad_ne (ne_i (a := u28.toInt) (b := 0) rfl rfl c33) i30 ⟨Int.le_refl _, Int.le_refl _⟩ (by decide))) (fun c33 => ?_)
          have dc33 : u28.toInt = 0 := eq_i (a := u28.toInt) (b := 0) rfl rfl c33
          refine lv_iconst (v := 0) hx hb dX10_take_158 (by decide) ?_
          exact ret_i (v := 0) hx hb hr hlocks hS hP hD dX10_take_159 rfl (Nat.le_of_ble_eq_true rfl) (Nat.le_of_ble_eq_true rfl) ⟨F1, x_undoMany, f_s, f_undone, (SAME.up eF1 SAME.rf (by decide)), (get_eq eF1), (get_ne eF1 (by decide) e_undoMany), i_x_undoMany, s_s_153, s_s_0, s_s_5, s_s_6, s_s_7, s_s_44, s_s_K0, s_s_105, s_s_114, s_s_130, s_s_139, s_undone_1, s_undone_10, s_undone_25, s_undone_34, s_undone_49, s_undone_58, s_undone_73, s_undone_82, s_undone_97, s_undone_106, s_undone_121, s_undone_130, s_undone_145, s_undone_154, s_undone_169, s_undone_178, (show 0 ≤ (0 : Int32).toInt ∧ (0 : Int32).toInt ≤ 1 by decide), rfl⟩
        · have dc26 : x_bestId.toInt = v25.toInt := eq_i (a := x_bestId.toInt) (b := v25.toInt) rfl rfl c26
          refine lv_aload_n hx hb dX10_take_100 rfl (lv_at hl 0 rfl) ?_
          refine call_Vi (wr := [(h_undone, .inl (cI, 192, .inl f_undone)), (h_bestYard, .inl (cI, 4, .inl f_bestYard)), (h_bestCrew, .inl (cI, 4, .inl f_bestCrew)), (h_lineHeights, .inl (cI, 12, .inl f_lineHeights))]) (As := []) (rest := []) hx hb hml hown hw (m_X10_hasCrew l D cI cJ cB cP cM cZ h0 h_s F1 f_s _ n24 s_s_K0 s_s_0 s_s_105 s_s_114 s_s_130 s_s_139 s_s_153 s_s_44 s_s_5 s_s_6 s_s_7) wV_X10_281_X10_hasCrew dX10_take_101 hK hP hD hS hA [0, 1] [2, 3, 4, 5] rfl rfl (by decide) (by decide) (by decide) 0 10 rfl rfl GG.fb hG.at hl.1 rfl (Nat.le_of_ble_eq_true rfl) ⟨(Nat.le_of_ble_eq_true rfl), (Nat.le_of_ble_eq_true rfl)⟩ ⟨(Nat.le_of_ble_eq_true rfl), (Nat.le_of_ble_eq_true rfl)⟩ (fun r34 u H locs hp hP hD hS => ?_)
          rcases hp with ⟨rfl, rfl⟩ | ⟨rfl, rfl⟩
          · have hP : va_P D vwCl [(h_undone, .inl (cI, 192, .inl f_undone)), (h_bestYard, .inl (cI, 4, .inl f_bestYard)), (h_bestCrew, .inl (cI, 4, .inl f_bestCrew)), (h_lineHeights, .inl (cI, 12, .inl f_lineHeights)), (h0, .inr (10, vL 67 F1)), (h_s, .inl (cI, 335, .inl f_s))] H := hP
            have hD : va_D A [(h_undone, .inl (cI, 192, .inl f_undone)), (h_bestYard, .inl (cI, 4, .inl f_bestYard)), (h_bestCrew, .inl (cI, 4, .inl f_bestCrew)), (h_lineHeights, .inl (cI, 12, .inl f_lineHeights)), (h0, .inr (10, vL 67 F1)), (h_s, .inl (cI, 335, .inl f_s))] := hD
            refine W.widen (k := 0) (n := 0) (Nat.le_of_ble_eq_true rfl) (Nat.le_of_ble_eq_true rfl) ?_
            refine lv_if_eq (tgt := 111) hx hb dX10_take_104 (by decide) (fun _ => ?_) (fun g => absurd (by decide) g)
            refine lv_iconst (v := 0) hx hb dX10_take_111 (by decide) ?_
            refine lv_istore_n (lv' := [(2, .int 0), (0, .ref h0), (1, .int p0)]) hx hb dX10_take_112 rfl hl (by decide) rfl (fun ls hl => ?_)
            refine lv_iconst (v := 0) hx hb dX10_take_113 (by decide) ?_
            refine lv_istore_n (lv' := [(3, .int 0), (2, .int 0), (0, .ref h0), (1, .int p0)]) hx hb dX10_take_114 rfl hl (by decide) rfl (fun ls hl => ?_)
            refine mloop (α := (Int32) × (Int32)) (nL := 4) (D := D) (A := A) (H0 := s.heap) (fun a => (0 - a.1.toInt).toNat) (fun a => IR 0 0 a.1 ∧ IR 0 0 a.2) (fun a => [(h_undone, .inl (cI, 192, .inl f_undone)), (h_bestYard, .inl (cI, 4, .inl f_bestYard)), (h_bestCrew, .inl (cI, 4, .inl f_bestCrew)), (h_lineHeights, .inl (cI, 12, .inl f_lineHeights)), (h0, .inr (10, vL 67 F1)), (h_s, .inl (cI, 335, .inl f_s))]) (fun a => [(3, .int a.1), (2, .int a.2), (0, .ref h0), (1, .int p0)]) (fun H locs ls => W p l e ({ frames := 1, cells := 0, slots := 0, locals := 21 } : Room) s m [.ref h0, .int p0].toArray below meth c H locs 0 0 (MQ below (va_Qi (fun (r : Int32) (u : va_W) => ∃ (Gh : Nat → Value) (y_undoMany : Int32) (g_s : Nat → Int32) (g_undone : Nat → Int32), SAME [0, 41] Fh Gh ∧ Gh 0 = .int 0 ∧ Gh 41 = .int y_undoMany ∧ IR 0 8 y_undoMany ∧ SG 153 153 0 44 g_s ∧ SG 0 0 0 40 g_s ∧ SG 5 5 0 12 g_s ∧ SG 6 6 0 12 g_s ∧ SG 7 7 0 6 g_s ∧ SG 44 55 0 9 g_s ∧ KW 0 g_s ∧ SG 105 108 0 11 g_s ∧ SG 114 114 0 5 g_s ∧ SG 130 133 0 11 g_s ∧ SG 139 139 0 5 g_s ∧ SG 1 4 0 11 g_undone ∧ SG 10 10 0 5 g_undone ∧ SG 25 28 0 11 g_undone ∧ SG 34 34 0 5 g_undone ∧ SG 49 52 0 11 g_undone ∧ SG 58 58 0 5 g_undone ∧ SG 73 76 0 11 g_undone ∧ SG 82 82 0 5 g_undone ∧ SG 97 100 0 11 g_undone ∧ SG 106 106 0 5 g_undone ∧ SG 121 124 0 11 g_undone ∧ SG 130 130 0 5 g_undone ∧ SG 145 148 0 11 g_undone ∧ SG 154 154 0 5 g_undone ∧ SG 169 172 0 11 g_undone ∧ SG 178 178 0 5 g_undone ∧ IR 0 1 r ∧ u = [(h0, .inr (10, vL 67 Gh)), (h_s, .inl (cI, 335, .inl g_s)), (h_undone, .inl (cI, 192, .inl g_undone)), (h_bestYard, .inl (cI, 4, .inl f_bestYard)), (h_bestCrew, .inl (cI, 4, .inl f_bestCrew)), (h_lineHeights, .inl (cI, 12, .inl f_lineHeights))]) (PO D A) A) [.ref h0, .int p0].toArray s 0 0 A) (F0 m 115 ls [])) ?_ (0, 0) ⟨(show 0 ≤ (0 : Int32).toInt ∧ (0 : Int32).toInt ≤ 0 by decide), (show 0 ≤ (0 : Int32).toInt ∧ (0 : Int32).toInt ≤ 0 by decide)⟩ _ _ _ hP hD hS hl
            rintro ⟨u36, u37⟩ ⟨i38, i39⟩ ih H locs ls hP hD hS hl
            have i38 : 0 ≤ u36.toInt ∧ u36.toInt ≤ 0 := i38
            have i39 : 0 ≤ u37.toInt ∧ u37.toInt ≤ 0 := i39
            have hP : va_P D vwCl [(h_undone, .inl (cI, 192, .inl f_undone)), (h_bestYard, .inl (cI, 4, .inl f_bestYard)), (h_bestCrew, .inl (cI, 4, .inl f_bestCrew)), (h_lineHeights, .inl (cI, 12, .inl f_lineHeights)), (h0, .inr (10, vL 67 F1)), (h_s, .inl (cI, 335, .inl f_s))] H := hP
            have hD : va_D A [(h_undone, .inl (cI, 192, .inl f_undone)), (h_bestYard, .inl (cI, 4, .inl f_bestYard)), (h_bestCrew, .inl (cI, 4, .inl f_bestCrew)), (h_lineHeights, .inl (cI, 12, .inl f_lineHeights)), (h0, .inr (10, vL 67 F1)), (h_s, .inl (cI, 335, .inl f_s))] := hD
            have hl : lv_has ls 4 [(3, .int u36), (2, .int u37), (0, .ref h0), (1, .int p0)] := hl
            refine lv_iload_n hx hb dX10_take_115 rfl (lv_at hl 0 rfl) ?_
            refine lv_iconst (v := 4) hx hb dX10_take_116 (by decide) ?_
            refine lv_icmp_ge (tgt := 154) hx hb dX10_take_117 (by decide) (fun c40 => False.elim (bad_le (le_i (a := 4) (b := u36.toInt) rfl rfl c40) (Int.le_refl _) i38.2 (by decide))) (fun c40 => ?_)
            have dc40 : u36.toInt < 4 := nle_i (a := 4) (b := u36.toInt) rfl rfl c40
            refine lv_iload_n hx hb dX10_take_120 rfl (lv_at hl 1 rfl) ?_
            refine lv_if_eq (tgt := 154) hx hb dX10_take_121 (by decide) (fun c41 => ?_) (fun c41 => False.elim (bad_ne (ne_i (a := u37.toInt) (b := 0) rfl rfl c41) i39 ⟨Int.le_refl _, Int.le_refl _⟩ (by decide)))
            have dc41 : u37.toInt = 0 := eq_i (a := u37.toInt) (b := 0) rfl rfl c41
            refine lv_iload_n hx hb dX10_take_154 rfl (lv_at hl 1 rfl) ?_
            refine lv_if_ne (tgt := 160) hx hb dX10_take_155 (by decide) (fun c42 => False.elim (bad_ne (ne_i (a := u37.toInt) (b := 0) rfl rfl c42) i39 ⟨Int.le_refl _, Int.le_refl _⟩ (by decide))) (fun c42 => ?_)
            have dc42 : u37.toInt = 0 := eq_i (a := u37.toInt) (b := 0) rfl rfl c42
            refine lv_iconst (v := 0) hx hb dX10_take_158 (by decide) ?_
            exact ret_i (v := 0) hx hb hr hlocks hS (hP.sub (ws' := [(h0, .inr (10, vL 67 F1)), (h_s, .inl (cI, 335, .inl f_s)), (h_undone, .inl (cI, 192, .inl f_undone)), (h_bestYard, .inl (cI, 4, .inl f_bestYard)), (h_bestCrew, .inl (cI, 4, .inl f_bestCrew)), (h_lineHeights, .inl (cI, 12, .inl f_lineHeights))]) [4, 5, 0, 1, 2, 3] rfl) (hD.sub (ws' := [(h0, .inr (10, vL 67 F1)), (h_s, .inl (cI, 335, .inl f_s)), (h_undone, .inl (cI, 192, .inl f_undone)), (h_bestYard, .inl (cI, 4, .inl f_bestYard)), (h_bestCrew, .inl (cI, 4, .inl f_bestCrew)), (h_lineHeights, .inl (cI, 12, .inl f_lineHeights))]) [4, 5, 0, 1, 2, 3] (by decide) rfl) dX10_take_159 rfl (Nat.le_of_ble_eq_true rfl) (Nat.le_of_ble_eq_true rfl) ⟨F1, x_undoMany, f_s, f_undone, (SAME.up eF1 SAME.rf (by decide)), (get_eq eF1), (get_ne eF1 (by decide) e_undoMany), i_x_undoMany, s_s_153, s_s_0, s_s_5, s_s_6, s_s_7, s_s_44, s_s_K0, s_s_105, s_s_114, s_s_130, s_s_139, s_undone_1, s_undone_10, s_undone_25, s_undone_34, s_undone_49, s_undone_58, s_undone_73, s_undone_82, s_undone_97, s_undone_106, s_undone_121, s_undone_130, s_undone_145, s_undone_154, s_undone_169, s_undone_178, (show 0 ≤ (0 : Int32).toInt ∧ (0 : Int32).toInt ≤ 1 by decide), rfl⟩
          · have hP : va_P D vwCl [(h_undone, .inl (cI, 192, .inl f_undone)), (h_bestYard, .inl (cI, 4, .inl f_bestYard)), (h_bestCrew, .inl (cI, 4, .inl f_bestCrew)), (h_lineHeights, .inl (cI, 12, .inl f_lineHeights)), (h0, .inr (10, vL 67 F1)), (h_s, .inl (cI, 335, .inl f_s))] H := hP
            have hD : va_D A [(h_undone, .inl (cI, 192, .inl f_undone)), (h_bestYard, .inl (cI, 4, .inl f_bestYard)), (h_bestCrew, .inl (cI, 4, .inl f_bestCrew)), (h_lineHeights, .inl (cI, 12, .inl f_lineHeights)), (h0, .inr (10, vL 67 F1)), (h_s, .inl (cI, 335, .inl f_s))] := hD
            refine W.widen (k := 0) (n := 0) (Nat.le_of_ble_eq_true rfl) (Nat.le_of_ble_eq_true rfl) ?_
            refine lv_if_eq (tgt := 111) hx hb dX10_take_104 (by decide) (fun g => absurd g (by decide)) (fun _ => ?_)
            refine lv_iconst (v := 1) hx hb dX10_take_107 (by decide) ?_
            refine lv_goto (tgt := 112) hx hb dX10_take_108 (by decide) ?_
            refine lv_istore_n (lv' := [(2, .int 1), (0, .ref h0), (1, .int p0)]) hx hb dX10_take_112 rfl hl (by decide) rfl (fun ls hl => ?_)
            refine lv_iconst (v := 0) hx hb dX10_take_113 (by decide) ?_
            refine lv_istore_n (lv' := [(3, .int 0), (2, .int 1), (0, .ref h0), (1, .int p0)]) hx hb dX10_take_114 rfl hl (by decide) rfl (fun ls hl => ?_)
            refine mloop (α := (Int32) × (Int32)) (nL := 4) (D := D) (A := A) (H0 := s.heap) (fun a => (4 - a.1.toInt).toNat) (fun a => IR 0 4 a.1 ∧ IR 0 1 a.2) (fun a => [(h_undone, .inl (cI, 192, .inl f_undone)), (h_bestYard, .inl (cI, 4, .inl f_bestYard)), (h_bestCrew, .inl (cI, 4, .inl f_bestCrew)), (h_lineHeights, .inl (cI, 12, .inl f_lineHeights)), (h0, .inr (10, vL 67 F1)), (h_s, .inl (cI, 335, .inl f_s))]) (fun a => [(3, .int a.1), (2, .int a.2), (0, .ref h0), (1, .int p0)]) (fun H locs ls => W p l e ({ frames := 1, cells := 0, slots := 0, locals := 21 } : Room) s m [.ref h0, .int p0].toArray below meth c H locs 0 0 (MQ below (va_Qi (fun (r : Int32) (u : va_W) => ∃ (Gh : Nat → Value) (y_undoMany : Int32) (g_s : Nat → Int32) (g_undone : Nat → Int32), SAME [0, 41] Fh Gh ∧ Gh 0 = .int 0 ∧ Gh 41 = .int y_undoMany ∧ IR 0 8 y_undoMany ∧ SG 153 153 0 44 g_s ∧ SG 0 0 0 40 g_s ∧ SG 5 5 0 12 g_s ∧ SG 6 6 0 12 g_s ∧ SG 7 7 0 6 g_s ∧ SG 44 55 0 9 g_s ∧ KW 0 g_s ∧ SG 105 108 0 11 g_s ∧ SG 114 114 0 5 g_s ∧ SG 130 133 0 11 g_s ∧ SG 139 139 0 5 g_s ∧ SG 1 4 0 11 g_undone ∧ SG 10 10 0 5 g_undone ∧ SG 25 28 0 11 g_undone ∧ SG 34 34 0 5 g_undone ∧ SG 49 52 0 11 g_undone ∧ SG 58 58 0 5 g_undone ∧ SG 73 76 0 11 g_undone ∧ SG 82 82 0 5 g_undone ∧ SG 97 100 0 11 g_undone ∧ SG 106 106 0 5 g_undone ∧ SG 121 124 0 11 g_undone ∧ SG 130 130 0 5 g_undone ∧ SG 145 148 0 11 g_undone ∧ SG 154 154 0 5 g_undone ∧ SG 169 172 0 11 g_undone ∧ SG 178 178 0 5 g_undone ∧ IR 0 1 r ∧ u = [(h0, .inr (10, vL 67 Gh)), (h_s, .inl (cI, 335, .inl g_s)), (h_undone, .inl (cI, 192, .inl g_undone)), (h_bestYard, .inl (cI, 4, .inl f_bestYard)), (h_bestCrew, .inl (cI, 4, .inl f_bestCrew)), (h_lineHeights, .inl (cI, 12, .inl f_lineHeights))]) (PO D A) A) [.ref h0, .int p0].toArray s 0 0 A) (F0 m 115 ls [])) ?_ (0, 1) ⟨(show 0 ≤ (0 : Int32).toInt ∧ (0 : Int32).toInt ≤ 4 by decide), (show 0 ≤ (1 : Int32).toInt ∧ (1 : Int32).toInt ≤ 1 by decide)⟩ _ _ _ hP hD hS hl
            rintro ⟨u43, u44⟩ ⟨i45, i46⟩ ih H locs ls hP hD hS hl
            have i45 : 0 ≤ u43.toInt ∧ u43.toInt ≤ 4 := i45
            have i46 : 0 ≤ u44.toInt ∧ u44.toInt ≤ 1 := i46
            have hP : va_P D vwCl [(h_undone, .inl (cI, 192, .inl f_undone)), (h_bestYard, .inl (cI, 4, .inl f_bestYard)), (h_bestCrew, .inl (cI, 4, .inl f_bestCrew)), (h_lineHeights, .inl (cI, 12, .inl f_lineHeights)), (h0, .inr (10, vL 67 F1)), (h_s, .inl (cI, 335, .inl f_s))] H := hP
            have hD : va_D A [(h_undone, .inl (cI, 192, .inl f_undone)), (h_bestYard, .inl (cI, 4, .inl f_bestYard)), (h_bestCrew, .inl (cI, 4, .inl f_bestCrew)), (h_lineHeights, .inl (cI, 12, .inl f_lineHeights)), (h0, .inr (10, vL 67 F1)), (h_s, .inl (cI, 335, .inl f_s))] := hD
            have hl : lv_has ls 4 [(3, .int u43), (2, .int u44), (0, .ref h0), (1, .int p0)] := hl
            refine lv_iload_n hx hb dX10_take_115 rfl (lv_at hl 0 rfl) ?_
            refine lv_iconst (v := 4) hx hb dX10_take_116 (by decide) ?_
            refine lv_icmp_ge (tgt := 154) hx hb dX10_take_117 (by decide) (fun c47 => ?_) (fun c47 => ?_)
            · have dc47 : 4 ≤ u43.toInt := le_i (a := 4) (b := u43.toInt) rfl rfl c47
              have k48 : 4 ≤ u43.toInt ∧ u43.toInt ≤ 4 := ⟨Int.le_trans (Int.le_refl _) dc47, i45.2⟩
              refine lv_iload_n hx hb dX10_take_154 rfl (lv_at hl 1 rfl) ?_
              refine lv_if_ne (tgt := 160) hx hb dX10_take_155 (by decide) (fun c49 => ?_) (fun c49 => ?_)
              · have dc49 : u44.toInt ≠ 0 := ne_i (a := u44.toInt) (b := 0) rfl rfl c49
                have k50 : 1 ≤ u44.toInt ∧ u44.toInt ≤ 1 := ⟨ne_lo dc49 i46.1 ⟨Int.le_refl _, Int.le_refl _⟩ (by decide), i46.2⟩
                refine lv_aload_n hx hb dX10_take_160 rfl (lv_at hl 2 rfl) ?_
                have n51 : F1 39 = .ref h_undone := (get_ne eF1 (by decide) e_undone)
                have n52 : F1 41 = .int x_undoMany := (get_ne eF1 (by decide) e_undoMany)
                refine call_Vv (wr := [(h_bestYard, .inl (cI, 4, .inl f_bestYard)), (h_bestCrew, .inl (cI, 4, .inl f_bestCrew)), (h_lineHeights, .inl (cI, 12, .inl f_lineHeights))]) (As := []) (rest := []) hx hb hml hown hw (m_X10_keeps l D cI cJ cB cP cM cZ h0 h_s h_undone F1 x_undoMany f_s f_undone _ n24 n51 n52 i_x_undoMany s_s_K0 s_s_0 s_s_105 s_s_114 s_s_130 s_s_139 s_s_153 s_s_44 s_s_5 s_s_6 s_s_7 s_undone_1 s_undone_10 s_undone_106 s_undone_121 s_undone_130 s_undone_145 s_undone_154 s_undone_169 s_undone_178 s_undone_25 s_undone_34 s_undone_49 s_undone_58 s_undone_73 s_undone_82 s_undone_97) wV_X10_371_X10_keeps dX10_take_161 hK hP hD hS hA [4, 5, 0] [1, 2, 3] rfl rfl (by decide) (by decide) (by decide) 0 10 rfl rfl GG.fb hG.at hl.1 rfl (Nat.le_of_ble_eq_true rfl) ⟨(Nat.le_of_ble_eq_true rfl), (Nat.le_of_ble_eq_true rfl)⟩ ⟨(Nat.le_of_ble_eq_true rfl), (Nat.le_of_ble_eq_true rfl)⟩ (fun u H locs hp hP hD hS => ?_)
                obtain ⟨F54, y55, g56, t57, t58, t59, t60, t61, t62, t63, t64, t65, t66, t67, t68, t69, t70, t71, t72, t73, t74, t75, rfl⟩ := hp
                have hP : va_P D vwCl [(h_bestYard, .inl (cI, 4, .inl f_bestYard)), (h_bestCrew, .inl (cI, 4, .inl f_bestCrew)), (h_lineHeights, .inl (cI, 12, .inl f_lineHeights)), (h0, .inr (10, vL 67 F54)), (h_s, .inl (cI, 335, .inl f_s)), (h_undone, .inl (cI, 192, .inl g56))] H := hP
                have hD : va_D A [(h_bestYard, .inl (cI, 4, .inl f_bestYard)), (h_bestCrew, .inl (cI, 4, .inl f_bestCrew)), (h_lineHeights, .inl (cI, 12, .inl f_lineHeights)), (h0, .inr (10, vL 67 F54)), (h_s, .inl (cI, 335, .inl f_s)), (h_undone, .inl (cI, 192, .inl g56))] := hD
                refine W.widen (k := 0) (n := 0) (Nat.le_of_ble_eq_true rfl) (Nat.le_of_ble_eq_true rfl) ?_
                refine lv_iconst (v := 0) hx hb dX10_take_164 (by decide) ?_
                refine lv_istore_n (lv' := [(3, .int 0), (2, .int u44), (0, .ref h0), (1, .int p0)]) hx hb dX10_take_165 rfl hl (by decide) rfl (fun ls hl => ?_)
                refine mloop (α := (Int32) × (Nat → Int32)) (nL := 4) (D := D) (A := A) (H0 := s.heap) (fun a => (4 - a.1.toInt).toNat) (fun a => IR 0 4 a.1 ∧ KW 0 a.2 ∧ SG 0 0 0 40 a.2 ∧ SG 105 108 0 11 a.2 ∧ SG 114 114 0 5 a.2 ∧ SG 130 133 0 11 a.2 ∧ SG 139 139 0 5 a.2 ∧ SG 153 153 0 44 a.2 ∧ SG 44 55 0 9 a.2 ∧ SG 5 5 0 12 a.2 ∧ SG 6 6 0 12 a.2 ∧ SG 7 7 0 6 a.2) (fun a => [(h_bestYard, .inl (cI, 4, .inl f_bestYard)), (h_bestCrew, .inl (cI, 4, .inl f_bestCrew)), (h_lineHeights, .inl (cI, 12, .inl f_lineHeights)), (h0, .inr (10, vL 67 F54)), (h_s, .inl (cI, 335, .inl a.2)), (h_undone, .inl (cI, 192, .inl g56))]) (fun a => [(3, .int a.1), (2, .int u44), (0, .ref h0), (1, .int p0)]) (fun H locs ls => W p l e ({ frames := 1, cells := 0, slots := 0, locals := 21 } : Room) s m [.ref h0, .int p0].toArray below meth c H locs 0 0 (MQ below (va_Qi (fun (r : Int32) (u : va_W) => ∃ (Gh : Nat → Value) (y_undoMany : Int32) (g_s : Nat → Int32) (g_undone : Nat → Int32), SAME [0, 41] Fh Gh ∧ Gh 0 = .int 0 ∧ Gh 41 = .int y_undoMany ∧ IR 0 8 y_undoMany ∧ SG 153 153 0 44 g_s ∧ SG 0 0 0 40 g_s ∧ SG 5 5 0 12 g_s ∧ SG 6 6 0 12 g_s ∧ SG 7 7 0 6 g_s ∧ SG 44 55 0 9 g_s ∧ KW 0 g_s ∧ SG 105 108 0 11 g_s ∧ SG 114 114 0 5 g_s ∧ SG 130 133 0 11 g_s ∧ SG 139 139 0 5 g_s ∧ SG 1 4 0 11 g_undone ∧ SG 10 10 0 5 g_undone ∧ SG 25 28 0 11 g_undone ∧ SG 34 34 0 5 g_undone ∧ SG 49 52 0 11 g_undone ∧ SG 58 58 0 5 g_undone ∧ SG 73 76 0 11 g_undone ∧ SG 82 82 0 5 g_undone ∧ SG 97 100 0 11 g_undone ∧ SG 106 106 0 5 g_undone ∧ SG 121 124 0 11 g_undone ∧ SG 130 130 0 5 g_undone ∧ SG 145 148 0 11 g_undone ∧ SG 154 154 0 5 g_undone ∧ SG 169 172 0 11 g_undone ∧ SG 178 178 0 5 g_undone ∧ IR 0 1 r ∧ u = [(h0, .inr (10, vL 67 Gh)), (h_s, .inl (cI, 335, .inl g_s)), (h_undone, .inl (cI, 192, .inl g_undone)), (h_bestYard, .inl (cI, 4, .inl f_bestYard)), (h_bestCrew, .inl (cI, 4, .inl f_bestCrew)), (h_lineHeights, .inl (cI, 12, .inl f_lineHeights))]) (PO D A) A) [.ref h0, .int p0].toArray s 0 0 A) (F0 m 166 ls [])) ?_ (0, f_s) ⟨(show 0 ≤ (0 : Int32).toInt ∧ (0 : Int32).toInt ≤ 4 by decide), s_s_K0, s_s_0, s_s_105, s_s_114, s_s_130, s_s_139, s_s_153, s_s_44, s_s_5, s_s_6, s_s_7⟩ _ _ _ hP hD hS hl
                rintro ⟨u77, w78⟩ ⟨i79, i80, i81, i82, i83, i84, i85, i86, i87, i88, i89, i90⟩ ih_166 H locs ls hP hD hS hl
                have i79 : 0 ≤ u77.toInt ∧ u77.toInt ≤ 4 := i79
                have hP : va_P D vwCl [(h_bestYard, .inl (cI, 4, .inl f_bestYard)), (h_bestCrew, .inl (cI, 4, .inl f_bestCrew)), (h_lineHeights, .inl (cI, 12, .inl f_lineHeights)), (h0, .inr (10, vL 67 F54)), (h_s, .inl (cI, 335, .inl w78)), (h_undone, .inl (cI, 192, .inl g56))] H := hP
                have hD : va_D A [(h_bestYard, .inl (cI, 4, .inl f_bestYard)), (h_bestCrew, .inl (cI, 4, .inl f_bestCrew)), (h_lineHeights, .inl (cI, 12, .inl f_lineHeights)), (h0, .inr (10, vL 67 F54)), (h_s, .inl (cI, 335, .inl w78)), (h_undone, .inl (cI, 192, .inl g56))] := hD
                have hl : lv_has ls 4 [(3, .int u77), (2, .int u44), (0, .ref h0), (1, .int p0)] := hl
                refine lv_iload_n hx hb dX10_take_166 rfl (lv_at hl 0 rfl) ?_
                refine lv_iconst (v := 4) hx hb dX10_take_167 (by decide) ?_
                refine lv_icmp_ge (tgt := 192) hx hb dX10_take_168 (by decide) (fun c91 => ?_) (fun c91 => ?_)
                · have dc91 : 4 ≤ u77.toInt := le_i (a := 4) (b := u77.toInt) rfl rfl c91
                  have k92 : 4 ≤ u77.toInt ∧ u77.toInt ≤ 4 := ⟨Int.le_trans (Int.le_refl _) dc91, i79.2⟩
                  refine lv_iconst (v := 1) hx hb dX10_take_192 (by decide) ?_
                  exact ret_i (v := 1) hx hb hr hlocks hS (hP.sub (ws' := [(h0, .inr (10, vL 67 F54)), (h_s, .inl (cI, 335, .inl w78)), (h_undone, .inl (cI, 192, .inl g56)), (h_bestYard, .inl (cI, 4, .inl f_bestYard)), (h_bestCrew, .inl (cI, 4, .inl f_bestCrew)), (h_lineHeights, .inl (cI, 12, .inl f_lineHeights))]) [3, 4, 5, 0, 1, 2] rfl) (hD.sub (ws' := [(h0, .inr (10, vL 67 F54)), (h_s, .inl (cI, 335, .inl w78)), (h_undone, .inl (cI, 192, .inl g56)), (h_bestYard, .inl (cI, 4, .inl f_bestYard)), (h_bestCrew, .inl (cI, 4, .inl f_bestCrew)), (h_lineHeights, .inl (cI, 12, .inl f_lineHeights))]) [3, 4, 5, 0, 1, 2] (by decide) rfl) dX10_take_193 rfl (Nat.le_of_ble_eq_true rfl) (Nat.le_of_ble_eq_true rfl) ⟨F54, y55, w78, g56, (SAME.tr (SAME.up eF1 SAME.rf (by decide)) t57 (by decide)), (SAME.at t57 (by decide) (get_eq eF1)), t58, (ir_wk t59 (by decide) (by decide)), i86, i81, i88, i89, i90, i87, i80, i82, i83, i84, i85, t60, t61, t62, t63, t64, t65, t66, t67, t68, t69, t70, t71, t72, t73, t74, t75, (show 0 ≤ (1 : Int32).toInt ∧ (1 : Int32).toInt ≤ 1 by decide), rfl⟩
                · have dc91 : u77.toInt < 4 := nle_i (a := 4) (b := u77.toInt) rfl rfl c91
                  have k93 : 0 ≤ u77.toInt ∧ u77.toInt ≤ 3 := ⟨i79.1, up_lt dc91 (Int.le_refl _) (by decide)⟩
                  refine lv_aload_n hx hb dX10_take_171 rfl (lv_at hl 2 rfl) ?_
                  have n94 : F54 6 = .ref h_s := (SAME.at t57 (by decide) n24)
                  refine get_f (D := D) (ci := 10) (v := .ref h_s) (C := RX10) (T := TX10) (N := 67) hx hb hw inAX10 hown hK hP 3 rfl rfl 6 (by decide) (hw _ q_1267) (fun _ h9 => h9) n94 dX10_take_172 ?_
                  refine lv_bipush (v := 109) hx hb dX10_take_175 (by decide) ?_
                  refine lv_iload_n hx hb dX10_take_177 rfl (lv_at hl 0 rfl) ?_
                  refine lv_iadd hx hb dX10_take_178 ?_
                  refine lv_topi (fun v95 ev95 => ?_)
                  have bv95 : v95.toInt = 109 + u77.toInt := by rw [ev95]; exact add_k rfl rfl ⟨Int.le_refl _, Int.le_refl _⟩ k93 (by decide)
                  have k96 : 109 ≤ v95.toInt ∧ v95.toInt ≤ 112 := add_r bv95 ⟨Int.le_refl _, Int.le_refl _⟩ k93 (by decide)
                  refine lv_aload_n hx hb dX10_take_179 rfl (lv_at hl 2 rfl) ?_
                  have n97 : F1 43 = .ref h_bestYard := (get_ne eF1 (by decide) e_bestYard)
                  have n98 : F54 43 = .ref h_bestYard := (SAME.at t57 (by decide) n97)
                  refine get_f (D := D) (ci := 10) (v := .ref h_bestYard) (C := RX10) (T := TX10) (N := 67) hx hb hw inAX10 hown hK hP 3 rfl rfl 43 (by decide) (hw _ q_1304) (fun _ h9 => h9) n98 dX10_take_180 ?_
                  refine lv_iload_n hx hb dX10_take_183 rfl (lv_at hl 0 rfl) ?_
                  refine va_iald hx hb hK hP 0 0 rfl rfl (ix_k k93 (by decide) (by decide)) dX10_take_184 ?_
                  refine lv_topi (fun v99 ev99 => ?_)
                  obtain ⟨g100, eg100⟩ : ∃ z : Nat → Int32, upd w78 v95.toNatClampNeg v99 = z := ⟨_, rfl⟩
                  have r101 : KW 0 g100 := by rw [← eg100]; exact i80.up (Int.le_trans (by decide) k96.1) (Or.inl (lt_dec k96.2 (by decide)))
                  have r102 : SG 0 0 0 40 g100 := by rw [← eg100]; exact i81.up (Int.le_trans (by decide) k96.1) (Or.inr (Or.inl (dec_lt k96.1 (by decide))))
                  have r103 : SG 105 108 0 11 g100 := by rw [← eg100]; exact i82.up (Int.le_trans (by decide) k96.1) (Or.inr (Or.inl (dec_lt k96.1 (by decide))))
                  have r104 : SG 114 114 0 5 g100 := by rw [← eg100]; exact i83.up (Int.le_trans (by decide) k96.1) (Or.inl (lt_dec k96.2 (by decide)))
                  have r105 : SG 130 133 0 11 g100 := by rw [← eg100]; exact i84.up (Int.le_trans (by decide) k96.1) (Or.inl (lt_dec k96.2 (by decide)))
                  have r106 : SG 139 139 0 5 g100 := by rw [← eg100]; exact i85.up (Int.le_trans (by decide) k96.1) (Or.inl (lt_dec k96.2 (by decide)))
                  have r107 : SG 153 153 0 44 g100 := by rw [← eg100]; exact i86.up (Int.le_trans (by decide) k96.1) (Or.inl (lt_dec k96.2 (by decide)))
                  have r108 : SG 44 55 0 9 g100 := by rw [← eg100]; exact i87.up (Int.le_trans (by decide) k96.1) (Or.inr (Or.inl (dec_lt k96.1 (by decide))))
                  have r109 : SG 5 5 0 12 g100 := by rw [← eg100]; exact i88.up (Int.le_trans (by decide) k96.1) (Or.inr (Or.inl (dec_lt k96.1 (by decide))))
                  have r110 : SG 6 6 0 12 g100 := by rw [← eg100]; exact i89.up (Int.le_trans (by decide) k96.1) (Or.inr (Or.inl (dec_lt k96.1 (by decide))))
                  have r111 : SG 7 7 0 6 g100 := by rw [← eg100]; exact i90.up (Int.le_trans (by decide) k96.1) (Or.inr (Or.inl (dec_lt k96.1 (by decide))))
                  refine iast_g hx hb hK hP hD hS 4 0 rfl rfl (ix_k k96 (by decide) (by decide)) eg100 dX10_take_185 (fun H locs hP hD hS => ?_)
                  have hP : va_P D vwCl [(h_bestYard, .inl (cI, 4, .inl f_bestYard)), (h_bestCrew, .inl (cI, 4, .inl f_bestCrew)), (h_lineHeights, .inl (cI, 12, .inl f_lineHeights)), (h0, .inr (10, vL 67 F54)), (h_s, .inl (cI, 335, .inl g100)), (h_undone, .inl (cI, 192, .inl g56))] H := hP
                  have hD : va_D A [(h_bestYard, .inl (cI, 4, .inl f_bestYard)), (h_bestCrew, .inl (cI, 4, .inl f_bestCrew)), (h_lineHeights, .inl (cI, 12, .inl f_lineHeights)), (h0, .inr (10, vL 67 F54)), (h_s, .inl (cI, 335, .inl g100)), (h_undone, .inl (cI, 192, .inl g56))] := hD
                  obtain ⟨v112, ev112⟩ : ∃ z : Int32, z = u77 + 1 := ⟨_, rfl⟩
                  have bv112 : v112.toInt = u77.toInt + 1 := by rw [ev112]; exact add_k rfl rfl k93 ⟨Int.le_refl _, Int.le_refl _⟩ (by decide)
                  have k113 : 1 ≤ v112.toInt ∧ v112.toInt ≤ 4 := add_r bv112 k93 ⟨Int.le_refl _, Int.le_refl _⟩ (by decide)
                  refine lv_iinc (v := v112) (lv' := [(3, .int v112), (2, .int u44), (0, .ref h0), (1, .int p0)]) hx hb dX10_take_186 hl (k := 0) rfl (by rw [ev112]; rfl) (by decide) rfl (fun ls hl => ?_)
                  refine lv_goto (tgt := 166) hx hb dX10_take_189 (by decide) ?_
                  exact ih_166 (v112, g100) ⟨(ir_wk k113 (by decide) (by decide)), r101, r102, r103, r104, r105, r106, r107, r108, r109, r110, r111⟩ (by show (4 - v112.toInt).toNat < (4 - u77.toInt).toNat; omega) _ _ _ hP hD hS (lv_sub hl [0, 1, 2, 3] rfl)
              · have dc49 : u44.toInt = 0 := eq_i (a := u44.toInt) (b := 0) rfl rfl c49
                have k114 : 0 ≤ u44.toInt ∧ u44.toInt ≤ 0 := ⟨i46.1, Int.le_trans (Int.le_of_eq dc49) (Int.le_refl _)⟩
                refine lv_iconst (v := 0) hx hb dX10_take_158 (by decide) ?_
                exact ret_i (v := 0) hx hb hr hlocks hS (hP.sub (ws' := [(h0, .inr (10, vL 67 F1)), (h_s, .inl (cI, 335, .inl f_s)), (h_undone, .inl (cI, 192, .inl f_undone)), (h_bestYard, .inl (cI, 4, .inl f_bestYard)), (h_bestCrew, .inl (cI, 4, .inl f_bestCrew)), (h_lineHeights, .inl (cI, 12, .inl f_lineHeights))]) [4, 5, 0, 1, 2, 3] rfl) (hD.sub (ws' := [(h0, .inr (10, vL 67 F1)), (h_s, .inl (cI, 335, .inl f_s)), (h_undone, .inl (cI, 192, .inl f_undone)), (h_bestYard, .inl (cI, 4, .inl f_bestYard)), (h_bestCrew, .inl (cI, 4, .inl f_bestCrew)), (h_lineHeights, .inl (cI, 12, .inl f_lineHeights))]) [4, 5, 0, 1, 2, 3] (by decide) rfl) dX10_take_159 rfl (Nat.le_of_ble_eq_true rfl) (Nat.le_of_ble_eq_true rfl) ⟨F1, x_undoMany, f_s, f_undone, (SAME.up eF1 SAME.rf (by decide)), (get_eq eF1), (get_ne eF1 (by decide) e_undoMany), i_x_undoMany, s_s_153, s_s_0, s_s_5, s_s_6, s_s_7, s_s_44, s_s_K0, s_s_105, s_s_114, s_s_130, s_s_139, s_undone_1, s_undone_10, s_undone_25, s_undone_34, s_undone_49, s_undone_58, s_undone_73, s_undone_82, s_undone_97, s_undone_106, s_undone_121, s_undone_130, s_undone_145, s_undone_154, s_undone_169, s_undone_178, (show 0 ≤ (0 : Int32).toInt ∧ (0 : Int32).toInt ≤ 1 by decide), rfl⟩
            · have dc47 : u43.toInt < 4 := nle_i (a := 4) (b := u43.toInt) rfl rfl c47
              have k115 : 0 ≤ u43.toInt ∧ u43.toInt ≤ 3 := ⟨i45.1, up_lt dc47 (Int.le_refl _) (by decide)⟩
              refine lv_iload_n hx hb dX10_take_120 rfl (lv_at hl 1 rfl) ?_
              refine lv_if_eq (tgt := 154) hx hb dX10_take_121 (by decide) (fun c116 => ?_) (fun c116 => ?_)
              · have dc116 : u44.toInt = 0 := eq_i (a := u44.toInt) (b := 0) rfl rfl c116
                have k117 : 0 ≤ u44.toInt ∧ u44.toInt ≤ 0 := ⟨i46.1, Int.le_trans (Int.le_of_eq dc116) (Int.le_refl _)⟩
                refine lv_iload_n hx hb dX10_take_154 rfl (lv_at hl 1 rfl) ?_
                refine lv_if_ne (tgt := 160) hx hb dX10_take_155 (by decide) (fun c118 => False.elim (bad_ne (ne_i (a := u44.toInt) (b := 0) rfl rfl c118) k117 ⟨Int.le_refl _, Int.le_refl _⟩ (by decide))) (fun c118 => ?_)
                have dc118 : u44.toInt = 0 := eq_i (a := u44.toInt) (b := 0) rfl rfl c118
                refine lv_iconst (v := 0) hx hb dX10_take_158 (by decide) ?_
                exact ret_i (v := 0) hx hb hr hlocks hS (hP.sub (ws' := [(h0, .inr (10, vL 67 F1)), (h_s, .inl (cI, 335, .inl f_s)), (h_undone, .inl (cI, 192, .inl f_undone)), (h_bestYard, .inl (cI, 4, .inl f_bestYard)), (h_bestCrew, .inl (cI, 4, .inl f_bestCrew)), (h_lineHeights, .inl (cI, 12, .inl f_lineHeights))]) [4, 5, 0, 1, 2, 3] rfl) (hD.sub (ws' := [(h0, .inr (10, vL 67 F1)), (h_s, .inl (cI, 335, .inl f_s)), (h_undone, .inl (cI, 192, .inl f_undone)), (h_bestYard, .inl (cI, 4, .inl f_bestYard)), (h_bestCrew, .inl (cI, 4, .inl f_bestCrew)), (h_lineHeights, .inl (cI, 12, .inl f_lineHeights))]) [4, 5, 0, 1, 2, 3] (by decide) rfl) dX10_take_159 rfl (Nat.le_of_ble_eq_true rfl) (Nat.le_of_ble_eq_true rfl) ⟨F1, x_undoMany, f_s, f_undone, (SAME.up eF1 SAME.rf (by decide)), (get_eq eF1), (get_ne eF1 (by decide) e_undoMany), i_x_undoMany, s_s_153, s_s_0, s_s_5, s_s_6, s_s_7, s_s_44, s_s_K0, s_s_105, s_s_114, s_s_130, s_s_139, s_undone_1, s_undone_10, s_undone_25, s_undone_34, s_undone_49, s_undone_58, s_undone_73, s_undone_82, s_undone_97, s_undone_106, s_undone_121, s_undone_130, s_undone_145, s_undone_154, s_undone_169, s_undone_178, (show 0 ≤ (0 : Int32).toInt ∧ (0 : Int32).toInt ≤ 1 by decide), rfl⟩
              · have dc116 : u44.toInt ≠ 0 := ne_i (a := u44.toInt) (b := 0) rfl rfl c116
                have k119 : 1 ≤ u44.toInt ∧ u44.toInt ≤ 1 := ⟨ne_lo dc116 i46.1 ⟨Int.le_refl _, Int.le_refl _⟩ (by decide), i46.2⟩
                refine lv_aload_n hx hb dX10_take_124 rfl (lv_at hl 2 rfl) ?_
                refine get_f (D := D) (ci := 10) (v := .ref h_s) (C := RX10) (T := TX10) (N := 67) hx hb hw inAX10 hown hK hP 4 rfl rfl 6 (by decide) (hw _ q_1267) (fun _ h9 => h9) n24 dX10_take_125 ?_
                refine lv_bipush (v := 105) hx hb dX10_take_128 (by decide) ?_
                refine lv_iload_n hx hb dX10_take_130 rfl (lv_at hl 0 rfl) ?_
                refine lv_iadd hx hb dX10_take_131 ?_
                refine lv_topi (fun v120 ev120 => ?_)
                have bv120 : v120.toInt = 105 + u43.toInt := by rw [ev120]; exact add_k rfl rfl ⟨Int.le_refl _, Int.le_refl _⟩ k115 (by decide)
                have k121 : 105 ≤ v120.toInt ∧ v120.toInt ≤ 108 := add_r bv120 ⟨Int.le_refl _, Int.le_refl _⟩ k115 (by decide)
                refine va_iald hx hb hK hP 5 0 rfl rfl (ix_k k121 (by decide) (by decide)) dX10_take_132 ?_
                refine lv_topi (fun v122 ev122 => ?_)
                have k123 : 0 ≤ v122.toInt ∧ v122.toInt ≤ 11 := by rw [ev122]; exact s_s_105.at _ (Int.le_trans (by decide) k121.1) (Int.le_trans k121.2 (by decide))
                refine lv_aload_n hx hb dX10_take_133 rfl (lv_at hl 2 rfl) ?_
                have n124 : F1 44 = .ref h_bestCrew := (get_ne eF1 (by decide) e_bestCrew)
                refine get_f (D := D) (ci := 10) (v := .ref h_bestCrew) (C := RX10) (T := TX10) (N := 67) hx hb hw inAX10 hown hK hP 4 rfl rfl 44 (by decide) (hw _ q_1305) (fun _ h9 => h9) n124 dX10_take_134 ?_
                refine lv_iload_n hx hb dX10_take_137 rfl (lv_at hl 0 rfl) ?_
                refine va_iald hx hb hK hP 2 0 rfl rfl (ix_k k115 (by decide) (by decide)) dX10_take_138 ?_
                refine lv_topi (fun v125 ev125 => ?_)
                refine lv_icmp_ne (tgt := 146) hx hb dX10_take_139 (by decide) (fun c126 => ?_) (fun c126 => ?_)
                · have dc126 : v122.toInt ≠ v125.toInt := ne_i (a := v122.toInt) (b := v125.toInt) rfl rfl c126
                  refine lv_iconst (v := 0) hx hb dX10_take_146 (by decide) ?_
                  refine lv_istore_n (lv' := [(2, .int 0), (3, .int u43), (0, .ref h0), (1, .int p0)]) hx hb dX10_take_147 rfl hl (by decide) rfl (fun ls hl => ?_)
                  obtain ⟨v127, ev127⟩ : ∃ z : Int32, z = u43 + 1 := ⟨_, rfl⟩
                  have bv127 : v127.toInt = u43.toInt + 1 := by rw [ev127]; exact add_k rfl rfl k115 ⟨Int.le_refl _, Int.le_refl _⟩ (by decide)
                  have k128 : 1 ≤ v127.toInt ∧ v127.toInt ≤ 4 := add_r bv127 k115 ⟨Int.le_refl _, Int.le_refl _⟩ (by decide)
                  refine lv_iinc (v := v127) (lv' := [(3, .int v127), (2, .int 0), (0, .ref h0), (1, .int p0)]) hx hb dX10_take_148 hl (k := 1) rfl (by rw [ev127]; rfl) (by decide) rfl (fun ls hl => ?_)
                  refine lv_goto (tgt := 115) hx hb dX10_take_151 (by decide) ?_
                  exact ih (v127, 0) ⟨(ir_wk k128 (by decide) (by decide)), (show 0 ≤ (0 : Int32).toInt ∧ (0 : Int32).toInt ≤ 1 by decide)⟩ (by show (4 - v127.toInt).toNat < (4 - u43.toInt).toNat; omega) _ _ _ hP hD hS (lv_sub hl [0, 1, 2, 3] rfl)
                · have dc126 : v122.toInt = v125.toInt := eq_i (a := v122.toInt) (b := v125.toInt) rfl rfl c126
                  have k129 : 0 ≤ v125.toInt ∧ v125.toInt ≤ 11 := ⟨Int.le_trans k123.1 (Int.le_of_eq dc126), Int.le_trans (Int.le_of_eq dc126.symm) k123.2⟩
                  refine lv_iconst (v := 1) hx hb dX10_take_142 (by decide) ?_
                  refine lv_goto (tgt := 147) hx hb dX10_take_143 (by decide) ?_
                  refine lv_istore_n (lv' := [(2, .int 1), (3, .int u43), (0, .ref h0), (1, .int p0)]) hx hb dX10_take_147 rfl hl (by decide) rfl (fun ls hl => ?_)
                  obtain ⟨v130, ev130⟩ : ∃ z : Int32, z = u43 + 1 := ⟨_, rfl⟩
                  have bv130 : v130.toInt = u43.toInt + 1 := by rw [ev130]; exact add_k rfl rfl k115 ⟨Int.le_refl _, Int.le_refl _⟩ (by decide)
                  have k131 : 1 ≤ v130.toInt ∧ v130.toInt ≤ 4 := add_r bv130 k115 ⟨Int.le_refl _, Int.le_refl _⟩ (by decide)
                  refine lv_iinc (v := v130) (lv' := [(3, .int v130), (2, .int 1), (0, .ref h0), (1, .int p0)]) hx hb dX10_take_148 hl (k := 1) rfl (by rw [ev130]; rfl) (by decide) rfl (fun ls hl => ?_)
                  refine lv_goto (tgt := 115) hx hb dX10_take_151 (by decide) ?_
                  exact ih (v130, 1) ⟨(ir_wk k131 (by decide) (by decide)), (show 0 ≤ (1 : Int32).toInt ∧ (1 : Int32).toInt ≤ 1 by decide)⟩ (by show (4 - v130.toInt).toNat < (4 - u43.toInt).toNat; omega) _ _ _ hP hD hS (lv_sub hl [0, 1, 2, 3] rfl)
  · have dc2 : p0.toInt = 0 := eq_i (a := p0.toInt) (b := 0) rfl rfl c2
    have k132 : 0 ≤ p0.toInt ∧ p0.toInt ≤ 0 := ⟨Int.le_trans (Int.le_refl _) (Int.le_of_eq dc2.symm), Int.le_trans (Int.le_of_eq dc2) (Int.le_refl _)⟩
    refine lv_aload_n hx hb dX10_take_9 rfl (lv_at hl 0 rfl) ?_
    have n133 : F1 52 = .int x_hasLine := (get_ne eF1 (by decide) e_hasLine)
    refine get_f (D := D) (ci := 10) (v := .int x_hasLine) (C := RX10) (T := TX10) (N := 67) hx hb hw inAX10 hown hK hP 0 rfl rfl 52 (by decide) (hw _ q_1313) (fun _ h9 => h9) n133 dX10_take_10 ?_
    refine lv_if_eq (tgt := 31) hx hb dX10_take_13 (by decide) (fun c134 => ?_) (fun c134 => ?_)
    · have dc134 : x_hasLine.toInt = 0 := eq_i (a := x_hasLine.toInt) (b := 0) rfl rfl c134
      have k135 : 0 ≤ x_hasLine.toInt ∧ x_hasLine.toInt ≤ 0 := ⟨i_x_hasLine.1, Int.le_trans (Int.le_of_eq dc134) (Int.le_refl _)⟩
      refine lv_iconst (v := 0) hx hb dX10_take_31 (by decide) ?_
      exact ret_i (v := 0) hx hb hr hlocks hS hP hD dX10_take_32 rfl (Nat.le_of_ble_eq_true rfl) (Nat.le_of_ble_eq_true rfl) ⟨F1, x_undoMany, f_s, f_undone, (SAME.up eF1 SAME.rf (by decide)), (get_eq eF1), (get_ne eF1 (by decide) e_undoMany), i_x_undoMany, s_s_153, s_s_0, s_s_5, s_s_6, s_s_7, s_s_44, s_s_K0, s_s_105, s_s_114, s_s_130, s_s_139, s_undone_1, s_undone_10, s_undone_25, s_undone_34, s_undone_49, s_undone_58, s_undone_73, s_undone_82, s_undone_97, s_undone_106, s_undone_121, s_undone_130, s_undone_145, s_undone_154, s_undone_169, s_undone_178, (show 0 ≤ (0 : Int32).toInt ∧ (0 : Int32).toInt ≤ 1 by decide), rfl⟩
    · have dc134 : x_hasLine.toInt ≠ 0 := ne_i (a := x_hasLine.toInt) (b := 0) rfl rfl c134
      have k136 : 1 ≤ x_hasLine.toInt ∧ x_hasLine.toInt ≤ 1 := ⟨ne_lo dc134 i_x_hasLine.1 ⟨Int.le_refl _, Int.le_refl _⟩ (by decide), i_x_hasLine.2⟩
      refine lv_aload_n hx hb dX10_take_16 rfl (lv_at hl 0 rfl) ?_
      have n137 : F1 55 = .int x_lineId := (get_ne eF1 (by decide) e_lineId)
      refine get_f (D := D) (ci := 10) (v := .int x_lineId) (C := RX10) (T := TX10) (N := 67) hx hb hw inAX10 hown hK hP 0 rfl rfl 55 (by decide) (hw _ q_1316) (fun _ h9 => h9) n137 dX10_take_17 ?_
      refine lv_aload_n hx hb dX10_take_20 rfl (lv_at hl 0 rfl) ?_
      have n138 : F1 6 = .ref h_s := (get_ne eF1 (by decide) e_s)
      refine get_f (D := D) (ci := 10) (v := .ref h_s) (C := RX10) (T := TX10) (N := 67) hx hb hw inAX10 hown hK hP 0 rfl rfl 6 (by decide) (hw _ q_1267) (fun _ h9 => h9) n138 dX10_take_21 ?_
      refine lv_sipush (v := 334) hx hb dX10_take_24 (by decide) ?_
      refine iald_n hx hb hK hP 1 0 rfl rfl 334 rfl (Nat.le_of_ble_eq_true rfl) (Nat.le_of_ble_eq_true rfl) rfl dX10_take_27 ?_
      refine lv_topi (fun v139 ev139 => ?_)
      refine lv_icmp_eq (tgt := 33) hx hb dX10_take_28 (by decide) (fun c140 => ?_) (fun c140 => ?_)
      · have dc140 : x_lineId.toInt = v139.toInt := eq_i (a := x_lineId.toInt) (b := v139.toInt) rfl rfl c140
        refine lv_aload_n hx hb dX10_take_33 rfl (lv_at hl 0 rfl) ?_
        have n141 : F1 39 = .ref h_undone := (get_ne eF1 (by decide) e_undone)
        have n142 : F1 41 = .int x_undoMany := (get_ne eF1 (by decide) e_undoMany)
        refine call_Vv (wr := [(h_bestYard, .inl (cI, 4, .inl f_bestYard)), (h_bestCrew, .inl (cI, 4, .inl f_bestCrew)), (h_lineHeights, .inl (cI, 12, .inl f_lineHeights))]) (As := []) (rest := []) hx hb hml hown hw (m_X10_keeps l D cI cJ cB cP cM cZ h0 h_s h_undone F1 x_undoMany f_s f_undone _ n138 n141 n142 i_x_undoMany s_s_K0 s_s_0 s_s_105 s_s_114 s_s_130 s_s_139 s_s_153 s_s_44 s_s_5 s_s_6 s_s_7 s_undone_1 s_undone_10 s_undone_106 s_undone_121 s_undone_130 s_undone_145 s_undone_154 s_undone_169 s_undone_178 s_undone_25 s_undone_34 s_undone_49 s_undone_58 s_undone_73 s_undone_82 s_undone_97) wV_X10_371_X10_keeps dX10_take_34 hK hP hD hS hA [0, 1, 2] [3, 4, 5] rfl rfl (by decide) (by decide) (by decide) 0 10 rfl rfl GG.fb hG.at hl.1 rfl (Nat.le_of_ble_eq_true rfl) ⟨(Nat.le_of_ble_eq_true rfl), (Nat.le_of_ble_eq_true rfl)⟩ ⟨(Nat.le_of_ble_eq_true rfl), (Nat.le_of_ble_eq_true rfl)⟩ (fun u H locs hp hP hD hS => ?_)
        obtain ⟨F144, y145, g146, t147, t148, t149, t150, t151, t152, t153, t154, t155, t156, t157, t158, t159, t160, t161, t162, t163, t164, t165, rfl⟩ := hp
        have hP : va_P D vwCl [(h_bestYard, .inl (cI, 4, .inl f_bestYard)), (h_bestCrew, .inl (cI, 4, .inl f_bestCrew)), (h_lineHeights, .inl (cI, 12, .inl f_lineHeights)), (h0, .inr (10, vL 67 F144)), (h_s, .inl (cI, 335, .inl f_s)), (h_undone, .inl (cI, 192, .inl g146))] H := hP
        have hD : va_D A [(h_bestYard, .inl (cI, 4, .inl f_bestYard)), (h_bestCrew, .inl (cI, 4, .inl f_bestCrew)), (h_lineHeights, .inl (cI, 12, .inl f_lineHeights)), (h0, .inr (10, vL 67 F144)), (h_s, .inl (cI, 335, .inl f_s)), (h_undone, .inl (cI, 192, .inl g146))] := hD
        refine W.widen (k := 0) (n := 0) (Nat.le_of_ble_eq_true rfl) (Nat.le_of_ble_eq_true rfl) ?_
        refine lv_iconst (v := 0) hx hb dX10_take_37 (by decide) ?_
        refine lv_istore_n (lv' := [(2, .int 0), (0, .ref h0), (1, .int p0)]) hx hb dX10_take_38 rfl hl (by decide) rfl (fun ls hl => ?_)
        refine mloop (α := (Int32) × (Nat → Int32)) (nL := 4) (D := D) (A := A) (H0 := s.heap) (fun a => (12 - a.1.toInt).toNat) (fun a => IR 0 12 a.1 ∧ KW 0 a.2 ∧ SG 0 0 0 40 a.2 ∧ SG 105 108 0 11 a.2 ∧ SG 114 114 0 5 a.2 ∧ SG 130 133 0 11 a.2 ∧ SG 139 139 0 5 a.2 ∧ SG 153 153 0 44 a.2 ∧ SG 44 55 0 9 a.2 ∧ SG 5 5 0 12 a.2 ∧ SG 6 6 0 12 a.2 ∧ SG 7 7 0 6 a.2) (fun a => [(h_bestYard, .inl (cI, 4, .inl f_bestYard)), (h_bestCrew, .inl (cI, 4, .inl f_bestCrew)), (h_lineHeights, .inl (cI, 12, .inl f_lineHeights)), (h0, .inr (10, vL 67 F144)), (h_s, .inl (cI, 335, .inl a.2)), (h_undone, .inl (cI, 192, .inl g146))]) (fun a => [(2, .int a.1), (0, .ref h0), (1, .int p0)]) (fun H locs ls => W p l e ({ frames := 1, cells := 0, slots := 0, locals := 21 } : Room) s m [.ref h0, .int p0].toArray below meth c H locs 0 0 (MQ below (va_Qi (fun (r : Int32) (u : va_W) => ∃ (Gh : Nat → Value) (y_undoMany : Int32) (g_s : Nat → Int32) (g_undone : Nat → Int32), SAME [0, 41] Fh Gh ∧ Gh 0 = .int 0 ∧ Gh 41 = .int y_undoMany ∧ IR 0 8 y_undoMany ∧ SG 153 153 0 44 g_s ∧ SG 0 0 0 40 g_s ∧ SG 5 5 0 12 g_s ∧ SG 6 6 0 12 g_s ∧ SG 7 7 0 6 g_s ∧ SG 44 55 0 9 g_s ∧ KW 0 g_s ∧ SG 105 108 0 11 g_s ∧ SG 114 114 0 5 g_s ∧ SG 130 133 0 11 g_s ∧ SG 139 139 0 5 g_s ∧ SG 1 4 0 11 g_undone ∧ SG 10 10 0 5 g_undone ∧ SG 25 28 0 11 g_undone ∧ SG 34 34 0 5 g_undone ∧ SG 49 52 0 11 g_undone ∧ SG 58 58 0 5 g_undone ∧ SG 73 76 0 11 g_undone ∧ SG 82 82 0 5 g_undone ∧ SG 97 100 0 11 g_undone ∧ SG 106 106 0 5 g_undone ∧ SG 121 124 0 11 g_undone ∧ SG 130 130 0 5 g_undone ∧ SG 145 148 0 11 g_undone ∧ SG 154 154 0 5 g_undone ∧ SG 169 172 0 11 g_undone ∧ SG 178 178 0 5 g_undone ∧ IR 0 1 r ∧ u = [(h0, .inr (10, vL 67 Gh)), (h_s, .inl (cI, 335, .inl g_s)), (h_undone, .inl (cI, 192, .inl g_undone)), (h_bestYard, .inl (cI, 4, .inl f_bestYard)), (h_bestCrew, .inl (cI, 4, .inl f_bestCrew)), (h_lineHeights, .inl (cI, 12, .inl f_lineHeights))]) (PO D A) A) [.ref h0, .int p0].toArray s 0 0 A) (F0 m 39 ls [])) ?_ (0, f_s) ⟨(show 0 ≤ (0 : Int32).toInt ∧ (0 : Int32).toInt ≤ 12 by decide), s_s_K0, s_s_0, s_s_105, s_s_114, s_s_130, s_s_139, s_s_153, s_s_44, s_s_5, s_s_6, s_s_7⟩ _ _ _ hP hD hS hl
        rintro ⟨u167, w168⟩ ⟨i169, i170, i171, i172, i173, i174, i175, i176, i177, i178, i179, i180⟩ ih H locs ls hP hD hS hl
        have i169 : 0 ≤ u167.toInt ∧ u167.toInt ≤ 12 := i169
        have hP : va_P D vwCl [(h_bestYard, .inl (cI, 4, .inl f_bestYard)), (h_bestCrew, .inl (cI, 4, .inl f_bestCrew)), (h_lineHeights, .inl (cI, 12, .inl f_lineHeights)), (h0, .inr (10, vL 67 F144)), (h_s, .inl (cI, 335, .inl w168)), (h_undone, .inl (cI, 192, .inl g146))] H := hP
        have hD : va_D A [(h_bestYard, .inl (cI, 4, .inl f_bestYard)), (h_bestCrew, .inl (cI, 4, .inl f_bestCrew)), (h_lineHeights, .inl (cI, 12, .inl f_lineHeights)), (h0, .inr (10, vL 67 F144)), (h_s, .inl (cI, 335, .inl w168)), (h_undone, .inl (cI, 192, .inl g146))] := hD
        have hl : lv_has ls 4 [(2, .int u167), (0, .ref h0), (1, .int p0)] := hl
        refine lv_iload_n hx hb dX10_take_39 rfl (lv_at hl 0 rfl) ?_
        refine lv_aload_n hx hb dX10_take_40 rfl (lv_at hl 1 rfl) ?_
        have n181 : F144 6 = .ref h_s := (SAME.at t147 (by decide) n138)
        refine get_f (D := D) (ci := 10) (v := .ref h_s) (C := RX10) (T := TX10) (N := 67) hx hb hw inAX10 hown hK hP 3 rfl rfl 6 (by decide) (hw _ q_1267) (fun _ h9 => h9) n181 dX10_take_41 ?_
        refine lv_bipush (v := 6) hx hb dX10_take_44 (by decide) ?_
        refine iald_n hx hb hK hP 4 0 rfl rfl 6 rfl (Nat.le_of_ble_eq_true rfl) (Nat.le_of_ble_eq_true rfl) rfl dX10_take_46 ?_
        refine lv_topi (fun v182 ev182 => ?_)
        have k183 : 0 ≤ v182.toInt ∧ v182.toInt ≤ 12 := by rw [ev182]; exact i179.atN 6 (by decide) (by decide)
        refine lv_icmp_ge (tgt := 71) hx hb dX10_take_47 (by decide) (fun c184 => ?_) (fun c184 => ?_)
        · have dc184 : v182.toInt ≤ u167.toInt := le_i (a := v182.toInt) (b := u167.toInt) rfl rfl c184
          refine lv_iconst (v := 1) hx hb dX10_take_71 (by decide) ?_
          exact ret_i (v := 1) hx hb hr hlocks hS (hP.sub (ws' := [(h0, .inr (10, vL 67 F144)), (h_s, .inl (cI, 335, .inl w168)), (h_undone, .inl (cI, 192, .inl g146)), (h_bestYard, .inl (cI, 4, .inl f_bestYard)), (h_bestCrew, .inl (cI, 4, .inl f_bestCrew)), (h_lineHeights, .inl (cI, 12, .inl f_lineHeights))]) [3, 4, 5, 0, 1, 2] rfl) (hD.sub (ws' := [(h0, .inr (10, vL 67 F144)), (h_s, .inl (cI, 335, .inl w168)), (h_undone, .inl (cI, 192, .inl g146)), (h_bestYard, .inl (cI, 4, .inl f_bestYard)), (h_bestCrew, .inl (cI, 4, .inl f_bestCrew)), (h_lineHeights, .inl (cI, 12, .inl f_lineHeights))]) [3, 4, 5, 0, 1, 2] (by decide) rfl) dX10_take_72 rfl (Nat.le_of_ble_eq_true rfl) (Nat.le_of_ble_eq_true rfl) ⟨F144, y145, w168, g146, (SAME.tr (SAME.up eF1 SAME.rf (by decide)) t147 (by decide)), (SAME.at t147 (by decide) (get_eq eF1)), t148, (ir_wk t149 (by decide) (by decide)), i176, i171, i178, i179, i180, i177, i170, i172, i173, i174, i175, t150, t151, t152, t153, t154, t155, t156, t157, t158, t159, t160, t161, t162, t163, t164, t165, (show 0 ≤ (1 : Int32).toInt ∧ (1 : Int32).toInt ≤ 1 by decide), rfl⟩
        · have dc184 : u167.toInt < v182.toInt := nle_i (a := v182.toInt) (b := u167.toInt) rfl rfl c184
          have k185 : 0 ≤ u167.toInt ∧ u167.toInt ≤ 11 := ⟨i169.1, up_lt dc184 k183.2 (by decide)⟩
          have k186 : 1 ≤ v182.toInt ∧ v182.toInt ≤ 12 := ⟨lo_lt dc184 i169.1 (by decide), k183.2⟩
          refine lv_aload_n hx hb dX10_take_50 rfl (lv_at hl 1 rfl) ?_
          refine get_f (D := D) (ci := 10) (v := .ref h_s) (C := RX10) (T := TX10) (N := 67) hx hb hw inAX10 hown hK hP 3 rfl rfl 6 (by decide) (hw _ q_1267) (fun _ h9 => h9) n181 dX10_take_51 ?_
          refine lv_bipush (v := 116) hx hb dX10_take_54 (by decide) ?_
          refine lv_iload_n hx hb dX10_take_56 rfl (lv_at hl 0 rfl) ?_
          refine lv_iadd hx hb dX10_take_57 ?_
          refine lv_topi (fun v187 ev187 => ?_)
          have bv187 : v187.toInt = 116 + u167.toInt := by rw [ev187]; exact add_k rfl rfl ⟨Int.le_refl _, Int.le_refl _⟩ k185 (by decide)
          have k188 : 116 ≤ v187.toInt ∧ v187.toInt ≤ 127 := add_r bv187 ⟨Int.le_refl _, Int.le_refl _⟩ k185 (by decide)
          refine lv_aload_n hx hb dX10_take_58 rfl (lv_at hl 1 rfl) ?_
          have n189 : F1 54 = .ref h_lineHeights := (get_ne eF1 (by decide) e_lineHeights)
          have n190 : F144 54 = .ref h_lineHeights := (SAME.at t147 (by decide) n189)
          refine get_f (D := D) (ci := 10) (v := .ref h_lineHeights) (C := RX10) (T := TX10) (N := 67) hx hb hw inAX10 hown hK hP 3 rfl rfl 54 (by decide) (hw _ q_1315) (fun _ h9 => h9) n190 dX10_take_59 ?_
          refine lv_iload_n hx hb dX10_take_62 rfl (lv_at hl 0 rfl) ?_
          refine va_iald hx hb hK hP 2 0 rfl rfl (ix_k k185 (by decide) (by decide)) dX10_take_63 ?_
          refine lv_topi (fun v191 ev191 => ?_)
          obtain ⟨g192, eg192⟩ : ∃ z : Nat → Int32, upd w168 v187.toNatClampNeg v191 = z := ⟨_, rfl⟩
          have r193 : KW 0 g192 := by rw [← eg192]; exact i170.up (Int.le_trans (by decide) k188.1) (Or.inl (lt_dec k188.2 (by decide)))
          have r194 : SG 0 0 0 40 g192 := by rw [← eg192]; exact i171.up (Int.le_trans (by decide) k188.1) (Or.inr (Or.inl (dec_lt k188.1 (by decide))))
          have r195 : SG 105 108 0 11 g192 := by rw [← eg192]; exact i172.up (Int.le_trans (by decide) k188.1) (Or.inr (Or.inl (dec_lt k188.1 (by decide))))
          have r196 : SG 114 114 0 5 g192 := by rw [← eg192]; exact i173.up (Int.le_trans (by decide) k188.1) (Or.inr (Or.inl (dec_lt k188.1 (by decide))))
          have r197 : SG 130 133 0 11 g192 := by rw [← eg192]; exact i174.up (Int.le_trans (by decide) k188.1) (Or.inl (lt_dec k188.2 (by decide)))
          have r198 : SG 139 139 0 5 g192 := by rw [← eg192]; exact i175.up (Int.le_trans (by decide) k188.1) (Or.inl (lt_dec k188.2 (by decide)))
          have r199 : SG 153 153 0 44 g192 := by rw [← eg192]; exact i176.up (Int.le_trans (by decide) k188.1) (Or.inl (lt_dec k188.2 (by decide)))
          have r200 : SG 44 55 0 9 g192 := by rw [← eg192]; exact i177.up (Int.le_trans (by decide) k188.1) (Or.inr (Or.inl (dec_lt k188.1 (by decide))))
          have r201 : SG 5 5 0 12 g192 := by rw [← eg192]; exact i178.up (Int.le_trans (by decide) k188.1) (Or.inr (Or.inl (dec_lt k188.1 (by decide))))
          have r202 : SG 6 6 0 12 g192 := by rw [← eg192]; exact i179.up (Int.le_trans (by decide) k188.1) (Or.inr (Or.inl (dec_lt k188.1 (by decide))))
          have r203 : SG 7 7 0 6 g192 := by rw [← eg192]; exact i180.up (Int.le_trans (by decide) k188.1) (Or.inr (Or.inl (dec_lt k188.1 (by decide))))
          refine iast_g hx hb hK hP hD hS 4 0 rfl rfl (ix_k k188 (by decide) (by decide)) eg192 dX10_take_64 (fun H locs hP hD hS => ?_)
          have hP : va_P D vwCl [(h_bestYard, .inl (cI, 4, .inl f_bestYard)), (h_bestCrew, .inl (cI, 4, .inl f_bestCrew)), (h_lineHeights, .inl (cI, 12, .inl f_lineHeights)), (h0, .inr (10, vL 67 F144)), (h_s, .inl (cI, 335, .inl g192)), (h_undone, .inl (cI, 192, .inl g146))] H := hP
          have hD : va_D A [(h_bestYard, .inl (cI, 4, .inl f_bestYard)), (h_bestCrew, .inl (cI, 4, .inl f_bestCrew)), (h_lineHeights, .inl (cI, 12, .inl f_lineHeights)), (h0, .inr (10, vL 67 F144)), (h_s, .inl (cI, 335, .inl g192)), (h_undone, .inl (cI, 192, .inl g146))] := hD
          obtain ⟨v204, ev204⟩ : ∃ z : Int32, z = u167 + 1 := ⟨_, rfl⟩
          have bv204 : v204.toInt = u167.toInt + 1 := by rw [ev204]; exact add_k rfl rfl k185 ⟨Int.le_refl _, Int.le_refl _⟩ (by decide)
          have k205 : 1 ≤ v204.toInt ∧ v204.toInt ≤ 12 := add_r bv204 k185 ⟨Int.le_refl _, Int.le_refl _⟩ (by decide)
          refine lv_iinc (v := v204) (lv' := [(2, .int v204), (0, .ref h0), (1, .int p0)]) hx hb dX10_take_65 hl (k := 0) rfl (by rw [ev204]; rfl) (by decide) rfl (fun ls hl => ?_)
          refine lv_goto (tgt := 39) hx hb dX10_take_68 (by decide) ?_
          exact ih (v204, g192) ⟨(ir_wk k205 (by decide) (by decide)), r193, r194, r195, r196, r197, r198, r199, r200, r201, r202, r203⟩ (by show (12 - v204.toInt).toNat < (12 - u167.toInt).toNat; omega) _ _ _ hP hD hS (lv_sub hl [0, 1, 2] rfl)
      · have dc140 : x_lineId.toInt ≠ v139.toInt := ne_i (a := x_lineId.toInt) (b := v139.toInt) rfl rfl c140
        refine lv_iconst (v := 0) hx hb dX10_take_31 (by decide) ?_
        exact ret_i (v := 0) hx hb hr hlocks hS hP hD dX10_take_32 rfl (Nat.le_of_ble_eq_true rfl) (Nat.le_of_ble_eq_true rfl) ⟨F1, x_undoMany, f_s, f_undone, (SAME.up eF1 SAME.rf (by decide)), (get_eq eF1), (get_ne eF1 (by decide) e_undoMany), i_x_undoMany, s_s_153, s_s_0, s_s_5, s_s_6, s_s_7, s_s_44, s_s_K0, s_s_105, s_s_114, s_s_130, s_s_139, s_undone_1, s_undone_10, s_undone_25, s_undone_34, s_undone_49, s_undone_58, s_undone_73, s_undone_82, s_undone_97, s_undone_106, s_undone_121, s_undone_130, s_undone_145, s_undone_154, s_undone_169, s_undone_178, (show 0 ≤ (0 : Int32).toInt ∧ (0 : Int32).toInt ≤ 1 by decide), rfl⟩
