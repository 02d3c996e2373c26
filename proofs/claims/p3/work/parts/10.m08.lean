set_option maxHeartbeats 4000000 in
set_option maxRecDepth 100000 in
theorem m_X10_total (l : Launch) (D : va_G) (cI cJ cB cP cM cZ : ClassId) (h0 : Nat) (h_s : Nat) (h_paceAt : Nat) (h_kindOf : Nat) (h_behindAt : Nat) (Fh : Nat → Value) (x_seed : Int32) (x_kicks : Int32) (x_touchBend : Int32) (x_touchBy : Int32) (f_s : Nat → Int32) (f_paceAt : Nat → Int32) (f_kindOf : Nat → Int32) (f_behindAt : Nat → Int32) (sz : Nat) (e_s : Fh 6 = .ref h_s) (e_paceAt : Fh 25 = .ref h_paceAt) (e_kindOf : Fh 26 = .ref h_kindOf) (e_seed : Fh 31 = .int x_seed) (e_kicks : Fh 32 = .int x_kicks) (i_x_kicks : IR 0 1 x_kicks) (e_behindAt : Fh 33 = .ref h_behindAt) (e_touchBend : Fh 37 = .int x_touchBend) (e_touchBy : Fh 38 = .int x_touchBy) (i_x_touchBy : IR 0 99 x_touchBy) (s_s_K0 : KW 0 f_s) (s_s_0 : SG 0 0 0 40 f_s) (s_s_105 : SG 105 108 0 11 f_s) (s_s_114 : SG 114 114 0 5 f_s) (s_s_130 : SG 130 133 0 11 f_s) (s_s_139 : SG 139 139 0 5 f_s) (s_s_153 : SG 153 153 0 44 f_s) (s_s_44 : SG 44 55 0 9 f_s) (s_s_5 : SG 5 5 0 12 f_s) (s_s_6 : SG 6 6 0 12 f_s) (s_s_7 : SG 7 7 0 6 f_s) : CI l yX10_total cX10_total 2 (some .int) { frames := 4, cells := 0, slots := 0, locals := 94 } (GG D cI cJ cB cP cM cZ) D [(h0, .inr (10, vL 67 Fh)), (h_s, .inl (cI, 335, .inl f_s)), (h_paceAt, .inl (cI, 40, .inl f_paceAt)), (h_kindOf, .inl (cI, 4, .inl f_kindOf)), (h_behindAt, .inl (cI, 12, .inl f_behindAt))] sz [.ref h0] (fun (r : Int32) (u : va_W) => ∃ (Gh : Nat → Value) (y_lineTime : Int32) (y_linePace : Int32) (y_inside : Int32) (y_late : Int32) (y_seed : Int32) (y_bendsGone : Int32) (y_overAt : Int32) (y_endPace : Int32) (g_paceAt : Nat → Int32) (g_kindOf : Nat → Int32) (g_behindAt : Nat → Int32), SAME [27, 28, 29, 30, 31, 34, 35, 36] Fh Gh ∧ Gh 27 = .int y_lineTime ∧ Gh 28 = .int y_linePace ∧ IR 10 250 y_linePace ∧ Gh 29 = .int y_inside ∧ IR 0 15 y_inside ∧ Gh 30 = .int y_late ∧ IR 0 15 y_late ∧ Gh 31 = .int y_seed ∧ Gh 34 = .int y_bendsGone ∧ IR 0 12 y_bendsGone ∧ Gh 35 = .int y_overAt ∧ IR (-1) 11 y_overAt ∧ Gh 36 = .int y_endPace ∧ u = [(h0, .inr (10, vL 67 Gh)), (h_s, .inl (cI, 335, .inl f_s)), (h_paceAt, .inl (cI, 40, .inl g_paceAt)), (h_kindOf, .inl (cI, 4, .inl g_kindOf)), (h_behindAt, .inl (cI, 12, .inl g_behindAt))]) := by
  refine CI_mk (by decide) (Nat.le_of_ble_eq_true rfl) ?_
  intro p e s m below meth c A ls E hAe hG hsz hP hD hA hS hl
  obtain ⟨hx, hb, hr, hw, hown, hlocks, hml, hnm⟩ := E
  have hK := hG.1
  have i_x_kicks : 0 ≤ x_kicks.toInt ∧ x_kicks.toInt ≤ 1 := i_x_kicks
  have i_x_touchBy : 0 ≤ x_touchBy.toInt ∧ x_touchBy.toInt ≤ 99 := i_x_touchBy
  have hl : lv_has ls 2 [(0, .ref h0)] := hl
  refine lv_aload_n hx hb dX10_total_0 rfl (lv_at hl 0 rfl) ?_
  refine call_Vv (wr := [(h_behindAt, .inl (cI, 12, .inl f_behindAt))]) (As := []) (rest := []) hx hb hml hown hw (m_X10_starts l D cI cJ cB cP cM cZ h0 h_s h_paceAt h_kindOf Fh x_seed x_kicks f_s f_paceAt f_kindOf _ e_s e_paceAt e_kindOf e_seed e_kicks i_x_kicks s_s_K0 s_s_0 s_s_105 s_s_114 s_s_130 s_s_139 s_s_153 s_s_44 s_s_5 s_s_6 s_s_7) wV_X10_340_X10_starts dX10_total_1 hK hP hD hS hA [0, 1, 2, 3] [4] rfl rfl (by decide) (by decide) (by decide) 0 10 rfl rfl GG.fb hG.at hl.1 rfl (Nat.le_of_ble_eq_true rfl) ⟨(Nat.le_of_ble_eq_true rfl), (Nat.le_of_ble_eq_true rfl)⟩ ⟨(Nat.le_of_ble_eq_true rfl), (Nat.le_of_ble_eq_true rfl)⟩ (fun u H locs hp hP hD hS => ?_)
  obtain ⟨F2, y3, y4, y5, y6, y7, g8, g9, t10, t11, t12, t13, t14, t15, t16, t17, t18, rfl⟩ := hp
  have hP : va_P D vwCl [(h_behindAt, .inl (cI, 12, .inl f_behindAt)), (h0, .inr (10, vL 67 F2)), (h_s, .inl (cI, 335, .inl f_s)), (h_paceAt, .inl (cI, 40, .inl g8)), (h_kindOf, .inl (cI, 4, .inl g9))] H := hP
  have hD : va_D A [(h_behindAt, .inl (cI, 12, .inl f_behindAt)), (h0, .inr (10, vL 67 F2)), (h_s, .inl (cI, 335, .inl f_s)), (h_paceAt, .inl (cI, 40, .inl g8)), (h_kindOf, .inl (cI, 4, .inl g9))] := hD
  refine W.widen (k := 0) (n := 0) (Nat.le_of_ble_eq_true rfl) (Nat.le_of_ble_eq_true rfl) ?_
  refine lv_aload_n hx hb dX10_total_4 rfl (lv_at hl 0 rfl) ?_
  refine lv_aload_n hx hb dX10_total_5 rfl (lv_at hl 0 rfl) ?_
  refine get_f (D := D) (ci := 10) (v := .int y4) (C := RX10) (T := TX10) (N := 67) hx hb hw inAX10 hown hK hP 1 rfl rfl 28 (by decide) (hw _ q_1289) (fun _ h9 => h9) t12 dX10_total_6 ?_
  refine lv_aload_n hx hb dX10_total_9 rfl (lv_at hl 0 rfl) ?_
  have n20 : F2 6 = .ref h_s := (SAME.at t10 (by decide) e_s)
  refine call_Vi (wr := [(h_behindAt, .inl (cI, 12, .inl f_behindAt)), (h_paceAt, .inl (cI, 40, .inl g8)), (h_kindOf, .inl (cI, 4, .inl g9))]) (As := []) (rest := [.int y4, .ref h0]) hx hb hml hown hw (m_X10_weight l D cI cJ cB cP cM cZ h0 h_s F2 y5 f_s _ n20 t14 t15 s_s_K0 s_s_0 s_s_105 s_s_114 s_s_130 s_s_139 s_s_153 s_s_44 s_s_5 s_s_6 s_s_7) wV_X10_343_X10_weight dX10_total_10 hK hP hD hS hA [1, 2] [0, 3, 4] rfl rfl (by decide) (by decide) (by decide) 0 10 rfl rfl GG.fb hG.at hl.1 rfl (Nat.le_of_ble_eq_true rfl) ⟨(Nat.le_of_ble_eq_true rfl), (Nat.le_of_ble_eq_true rfl)⟩ ⟨(Nat.le_of_ble_eq_true rfl), (Nat.le_of_ble_eq_true rfl)⟩ (fun r21 u H locs hp hP hD hS => ?_)
  obtain rfl := hp
  have hP : va_P D vwCl [(h_behindAt, .inl (cI, 12, .inl f_behindAt)), (h_paceAt, .inl (cI, 40, .inl g8)), (h_kindOf, .inl (cI, 4, .inl g9)), (h0, .inr (10, vL 67 F2)), (h_s, .inl (cI, 335, .inl f_s))] H := hP
  have hD : va_D A [(h_behindAt, .inl (cI, 12, .inl f_behindAt)), (h_paceAt, .inl (cI, 40, .inl g8)), (h_kindOf, .inl (cI, 4, .inl g9)), (h0, .inr (10, vL 67 F2)), (h_s, .inl (cI, 335, .inl f_s))] := hD
  refine W.widen (k := 0) (n := 0) (Nat.le_of_ble_eq_true rfl) (Nat.le_of_ble_eq_true rfl) ?_
  have n23 : F2 33 = .ref h_behindAt := (SAME.at t10 (by decide) e_behindAt)
  have n24 : F2 37 = .int x_touchBend := (SAME.at t10 (by decide) e_touchBend)
  have n25 : F2 38 = .int x_touchBy := (SAME.at t10 (by decide) e_touchBy)
  refine call_Vi (wr := [(h_paceAt, .inl (cI, 40, .inl g8)), (h_kindOf, .inl (cI, 4, .inl g9))]) (As := [.int y4, .int r21]) (rest := []) hx hb hml hown hw (m_X10_down l D cI cJ cB cP cM cZ h0 h_s h_behindAt F2 x_touchBend x_touchBy f_s f_behindAt y4 r21 _ n20 n23 n24 n25 i_x_touchBy s_s_K0 s_s_0 s_s_105 s_s_114 s_s_130 s_s_139 s_s_153 s_s_44 s_s_5 s_s_6 s_s_7) wV_X10_365_X10_down dX10_total_13 hK hP hD hS hA [3, 4, 0] [1, 2] rfl rfl (by decide) (by decide) (by decide) 0 10 rfl rfl GG.fb hG.at hl.1 rfl (Nat.le_of_ble_eq_true rfl) ⟨(Nat.le_of_ble_eq_true rfl), (Nat.le_of_ble_eq_true rfl)⟩ ⟨(Nat.le_of_ble_eq_true rfl), (Nat.le_of_ble_eq_true rfl)⟩ (fun r26 u H locs hp hP hD hS => ?_)
  obtain ⟨F27, y28, y29, y30, g31, t32, t33, t34, t35, t36, t37, t38, rfl⟩ := hp
  have hP : va_P D vwCl [(h_paceAt, .inl (cI, 40, .inl g8)), (h_kindOf, .inl (cI, 4, .inl g9)), (h0, .inr (10, vL 67 F27)), (h_s, .inl (cI, 335, .inl f_s)), (h_behindAt, .inl (cI, 12, .inl g31))] H := hP
  have hD : va_D A [(h_paceAt, .inl (cI, 40, .inl g8)), (h_kindOf, .inl (cI, 4, .inl g9)), (h0, .inr (10, vL 67 F27)), (h_s, .inl (cI, 335, .inl f_s)), (h_behindAt, .inl (cI, 12, .inl g31))] := hD
  refine W.widen (k := 0) (n := 0) (Nat.le_of_ble_eq_true rfl) (Nat.le_of_ble_eq_true rfl) ?_
  refine lv_istore_n (lv' := [(1, .int r26), (0, .ref h0)]) hx hb dX10_total_16 rfl hl (by decide) rfl (fun ls hl => ?_)
  refine lv_iload_n hx hb dX10_total_17 rfl (lv_at hl 0 rfl) ?_
  refine lv_if_ge (tgt := 25) hx hb dX10_total_18 (by decide) (fun c40 => ?_) (fun c40 => ?_)
  · have dc40 : 0 ≤ r26.toInt := le_i (a := 0) (b := r26.toInt) rfl rfl c40
    have k41 : 0 ≤ r26.toInt ∧ r26.toInt ≤ 32400 := ⟨Int.le_trans (Int.le_refl _) dc40, t38.2⟩
    refine lv_aload_n hx hb dX10_total_25 rfl (lv_at hl 1 rfl) ?_
    have n42 : F27 27 = .int y3 := (SAME.at t32 (by decide) t11)
    refine get_f (D := D) (ci := 10) (v := .int y3) (C := RX10) (T := TX10) (N := 67) hx hb hw inAX10 hown hK hP 2 rfl rfl 27 (by decide) (hw _ q_1288) (fun _ h9 => h9) n42 dX10_total_26 ?_
    refine lv_iload_n hx hb dX10_total_29 rfl (lv_at hl 0 rfl) ?_
    refine lv_iadd hx hb dX10_total_30 ?_
    refine lv_topi (fun v43 ev43 => ?_)
    exact ret_i (v := v43) hx hb hr hlocks hS (hP.sub (ws' := [(h0, .inr (10, vL 67 F27)), (h_s, .inl (cI, 335, .inl f_s)), (h_paceAt, .inl (cI, 40, .inl g8)), (h_kindOf, .inl (cI, 4, .inl g9)), (h_behindAt, .inl (cI, 12, .inl g31))]) [2, 3, 0, 1, 4] rfl) (hD.sub (ws' := [(h0, .inr (10, vL 67 F27)), (h_s, .inl (cI, 335, .inl f_s)), (h_paceAt, .inl (cI, 40, .inl g8)), (h_kindOf, .inl (cI, 4, .inl g9)), (h_behindAt, .inl (cI, 12, .inl g31))]) [2, 3, 0, 1, 4] (by decide) rfl) dX10_total_31 rfl (Nat.le_of_ble_eq_true rfl) (Nat.le_of_ble_eq_true rfl) ⟨F27, y3, y4, y5, y6, y7, y28, y29, y30, g8, g9, g31, (SAME.tr (SAME.tr SAME.rf t10 (by decide)) t32 (by decide)), n42, (SAME.at t32 (by decide) t12), t13, (SAME.at t32 (by decide) t14), t15, (SAME.at t32 (by decide) t16), t17, (SAME.at t32 (by decide) t18), t33, t34, t35, t36, t37, rfl⟩
  · have dc40 : r26.toInt < 0 := nle_i (a := 0) (b := r26.toInt) rfl rfl c40
    have k44 : (-1) ≤ r26.toInt ∧ r26.toInt ≤ (-1) := ⟨t38.1, up_lt dc40 (Int.le_refl _) (by decide)⟩
    refine lv_iconst (v := (-1)) hx hb dX10_total_21 (by decide) ?_
    refine lv_goto (tgt := 31) hx hb dX10_total_22 (by decide) ?_
    exact ret_i (v := (-1)) hx hb hr hlocks hS (hP.sub (ws' := [(h0, .inr (10, vL 67 F27)), (h_s, .inl (cI, 335, .inl f_s)), (h_paceAt, .inl (cI, 40, .inl g8)), (h_kindOf, .inl (cI, 4, .inl g9)), (h_behindAt, .inl (cI, 12, .inl g31))]) [2, 3, 0, 1, 4] rfl) (hD.sub (ws' := [(h0, .inr (10, vL 67 F27)), (h_s, .inl (cI, 335, .inl f_s)), (h_paceAt, .inl (cI, 40, .inl g8)), (h_kindOf, .inl (cI, 4, .inl g9)), (h_behindAt, .inl (cI, 12, .inl g31))]) [2, 3, 0, 1, 4] (by decide) rfl) dX10_total_31 rfl (Nat.le_of_ble_eq_true rfl) (Nat.le_of_ble_eq_true rfl) ⟨F27, y3, y4, y5, y6, y7, y28, y29, y30, g8, g9, g31, (SAME.tr (SAME.tr SAME.rf t10 (by decide)) t32 (by decide)), (SAME.at t32 (by decide) t11), (SAME.at t32 (by decide) t12), t13, (SAME.at t32 (by decide) t14), t15, (SAME.at t32 (by decide) t16), t17, (SAME.at t32 (by decide) t18), t33, t34, t35, t36, t37, rfl⟩
set_option maxHeartbeats 4000000 in
set_option maxRecDepth 100000 in
theorem m_X10_run (l : Launch) (D : va_G) (cI cJ cB cP cM cZ : ClassId) (h0 : Nat) (h_s : Nat) (h_paceAt : Nat) (h_kindOf : Nat) (h_behindAt : Nat) (Fh : Nat → Value) (x_lineTime : Int32) (x_linePace : Int32) (x_inside : Int32) (x_late : Int32) (x_seed : Int32) (x_kicks : Int32) (x_bendsGone : Int32) (x_overAt : Int32) (x_endPace : Int32) (x_touchBend : Int32) (x_touchBy : Int32) (f_s : Nat → Int32) (f_paceAt : Nat → Int32) (f_kindOf : Nat → Int32) (f_behindAt : Nat → Int32) (p0 : Int32) (sz : Nat) (e_s : Fh 6 = .ref h_s) (e_paceAt : Fh 25 = .ref h_paceAt) (e_kindOf : Fh 26 = .ref h_kindOf) (e_lineTime : Fh 27 = .int x_lineTime) (e_linePace : Fh 28 = .int x_linePace) (e_inside : Fh 29 = .int x_inside) (i_x_inside : IR 0 15 x_inside) (e_late : Fh 30 = .int x_late) (i_x_late : IR 0 15 x_late) (e_seed : Fh 31 = .int x_seed) (e_kicks : Fh 32 = .int x_kicks) (i_x_kicks : IR 0 1 x_kicks) (e_behindAt : Fh 33 = .ref h_behindAt) (e_bendsGone : Fh 34 = .int x_bendsGone) (i_x_bendsGone : IR 0 12 x_bendsGone) (e_overAt : Fh 35 = .int x_overAt) (e_endPace : Fh 36 = .int x_endPace) (e_touchBend : Fh 37 = .int x_touchBend) (e_touchBy : Fh 38 = .int x_touchBy) (i_x_touchBy : IR 0 99 x_touchBy) (s_s_K0 : KW 0 f_s) (s_s_0 : SG 0 0 0 40 f_s) (s_s_105 : SG 105 108 0 11 f_s) (s_s_114 : SG 114 114 0 5 f_s) (s_s_130 : SG 130 133 0 11 f_s) (s_s_139 : SG 139 139 0 5 f_s) (s_s_153 : SG 153 153 0 44 f_s) (s_s_44 : SG 44 55 0 9 f_s) (s_s_5 : SG 5 5 0 12 f_s) (s_s_6 : SG 6 6 0 12 f_s) (s_s_7 : SG 7 7 0 6 f_s) : CI l yX10_run cX10_run 3 (some .int) { frames := 5, cells := 0, slots := 0, locals := 115 } (GG D cI cJ cB cP cM cZ) D [(h0, .inr (10, vL 67 Fh)), (h_s, .inl (cI, 335, .inl f_s)), (h_paceAt, .inl (cI, 40, .inl f_paceAt)), (h_kindOf, .inl (cI, 4, .inl f_kindOf)), (h_behindAt, .inl (cI, 12, .inl f_behindAt))] sz [.ref h0, .int p0] (fun (r : Int32) (u : va_W) => ∃ (Gh : Nat → Value) (y_lineTime : Int32) (y_linePace : Int32) (y_inside : Int32) (y_late : Int32) (y_seed : Int32) (y_bendsGone : Int32) (y_overAt : Int32) (y_endPace : Int32) (g_paceAt : Nat → Int32) (g_kindOf : Nat → Int32) (g_behindAt : Nat → Int32), SAME [0, 27, 28, 29, 30, 31, 34, 35, 36] Fh Gh ∧ Gh 0 = .int 0 ∧ Gh 27 = .int y_lineTime ∧ Gh 28 = .int y_linePace ∧ Gh 29 = .int y_inside ∧ IR 0 15 y_inside ∧ Gh 30 = .int y_late ∧ IR 0 15 y_late ∧ Gh 31 = .int y_seed ∧ Gh 34 = .int y_bendsGone ∧ IR 0 12 y_bendsGone ∧ Gh 35 = .int y_overAt ∧ Gh 36 = .int y_endPace ∧ u = [(h0, .inr (10, vL 67 Gh)), (h_s, .inl (cI, 335, .inl f_s)), (h_paceAt, .inl (cI, 40, .inl g_paceAt)), (h_kindOf, .inl (cI, 4, .inl g_kindOf)), (h_behindAt, .inl (cI, 12, .inl g_behindAt))]) := by
  refine CI_mk (by decide) (Nat.le_of_ble_eq_true rfl) ?_
  intro p e s m below meth c A ls E hAe hG hsz hP hD hA hS hl
  obtain ⟨hx, hb, hr, hw, hown, hlocks, hml, hnm⟩ := E
  have hK := hG.1
  have i_x_inside : 0 ≤ x_inside.toInt ∧ x_inside.toInt ≤ 15 := i_x_inside
  have i_x_late : 0 ≤ x_late.toInt ∧ x_late.toInt ≤ 15 := i_x_late
  have i_x_kicks : 0 ≤ x_kicks.toInt ∧ x_kicks.toInt ≤ 1 := i_x_kicks
  have i_x_bendsGone : 0 ≤ x_bendsGone.toInt ∧ x_bendsGone.toInt ≤ 12 := i_x_bendsGone
  have i_x_touchBy : 0 ≤ x_touchBy.toInt ∧ x_touchBy.toInt ≤ 99 := i_x_touchBy
  have hl : lv_has ls 3 [(0, .ref h0), (1, .int p0)] := hl
  refine lv_aload_n hx hb dX10_run_0 rfl (lv_at hl 0 rfl) ?_
  refine lv_iconst (v := 0) hx hb dX10_run_1 (by decide) ?_
  refine put_f (D := D) (ci := 10) (v := .int 0) (ty := .int) (C := RX10) (T := TX10) (N := 67) hx hb hw inAX10 tyX10 tyX10_ok nmX10 hown hK hP hD hS 0 rfl rfl 0 (by decide) (hw _ q_1261) (fun _ h9 => h9) rfl (by decide +kernel) rfl rfl dX10_run_2 (fun H locs F1 eF1 hP hD hS => ?_)
  have hP : va_P D vwCl [(h0, .inr (10, vL 67 F1)), (h_s, .inl (cI, 335, .inl f_s)), (h_paceAt, .inl (cI, 40, .inl f_paceAt)), (h_kindOf, .inl (cI, 4, .inl f_kindOf)), (h_behindAt, .inl (cI, 12, .inl f_behindAt))] H := hP
  have hD : va_D A [(h0, .inr (10, vL 67 F1)), (h_s, .inl (cI, 335, .inl f_s)), (h_paceAt, .inl (cI, 40, .inl f_paceAt)), (h_kindOf, .inl (cI, 4, .inl f_kindOf)), (h_behindAt, .inl (cI, 12, .inl f_behindAt))] := hD
  refine lv_aload_n hx hb dX10_run_5 rfl (lv_at hl 0 rfl) ?_
  have n2 : F1 6 = .ref h_s := (get_ne eF1 (by decide) e_s)
  refine call_Vi (wr := [(h_paceAt, .inl (cI, 40, .inl f_paceAt)), (h_kindOf, .inl (cI, 4, .inl f_kindOf)), (h_behindAt, .inl (cI, 12, .inl f_behindAt))]) (As := []) (rest := []) hx hb hml hown hw (m_X10_hasCrew l D cI cJ cB cP cM cZ h0 h_s F1 f_s _ n2 s_s_K0 s_s_0 s_s_105 s_s_114 s_s_130 s_s_139 s_s_153 s_s_44 s_s_5 s_s_6 s_s_7) wV_X10_281_X10_hasCrew dX10_run_6 hK hP hD hS hA [0, 1] [2, 3, 4] rfl rfl (by decide) (by decide) (by decide) 0 10 rfl rfl GG.fb hG.at hl.1 rfl (Nat.le_of_ble_eq_true rfl) ⟨(Nat.le_of_ble_eq_true rfl), (Nat.le_of_ble_eq_true rfl)⟩ ⟨(Nat.le_of_ble_eq_true rfl), (Nat.le_of_ble_eq_true rfl)⟩ (fun r3 u H locs hp hP hD hS => ?_)
  rcases hp with ⟨rfl, rfl⟩ | ⟨rfl, rfl⟩
  · have hP : va_P D vwCl [(h_paceAt, .inl (cI, 40, .inl f_paceAt)), (h_kindOf, .inl (cI, 4, .inl f_kindOf)), (h_behindAt, .inl (cI, 12, .inl f_behindAt)), (h0, .inr (10, vL 67 F1)), (h_s, .inl (cI, 335, .inl f_s))] H := hP
    have hD : va_D A [(h_paceAt, .inl (cI, 40, .inl f_paceAt)), (h_kindOf, .inl (cI, 4, .inl f_kindOf)), (h_behindAt, .inl (cI, 12, .inl f_behindAt)), (h0, .inr (10, vL 67 F1)), (h_s, .inl (cI, 335, .inl f_s))] := hD
    refine W.widen (k := 0) (n := 0) (Nat.le_of_ble_eq_true rfl) (Nat.le_of_ble_eq_true rfl) ?_
    refine lv_if_ne (tgt := 14) hx hb dX10_run_9 (by decide) (fun g => absurd (by decide) g) (fun _ => ?_)
    refine lv_iconst (v := (-1)) hx hb dX10_run_12 (by decide) ?_
    exact ret_i (v := (-1)) hx hb hr hlocks hS (hP.sub (ws' := [(h0, .inr (10, vL 67 F1)), (h_s, .inl (cI, 335, .inl f_s)), (h_paceAt, .inl (cI, 40, .inl f_paceAt)), (h_kindOf, .inl (cI, 4, .inl f_kindOf)), (h_behindAt, .inl (cI, 12, .inl f_behindAt))]) [3, 4, 0, 1, 2] rfl) (hD.sub (ws' := [(h0, .inr (10, vL 67 F1)), (h_s, .inl (cI, 335, .inl f_s)), (h_paceAt, .inl (cI, 40, .inl f_paceAt)), (h_kindOf, .inl (cI, 4, .inl f_kindOf)), (h_behindAt, .inl (cI, 12, .inl f_behindAt))]) [3, 4, 0, 1, 2] (by decide) rfl) dX10_run_13 rfl (Nat.le_of_ble_eq_true rfl) (Nat.le_of_ble_eq_true rfl) ⟨F1, x_lineTime, x_linePace, x_inside, x_late, x_seed, x_bendsGone, x_overAt, x_endPace, f_paceAt, f_kindOf, f_behindAt, (SAME.up eF1 SAME.rf (by decide)), (get_eq eF1), (get_ne eF1 (by decide) e_lineTime), (get_ne eF1 (by decide) e_linePace), (get_ne eF1 (by decide) e_inside), i_x_inside, (get_ne eF1 (by decide) e_late), i_x_late, (get_ne eF1 (by decide) e_seed), (get_ne eF1 (by decide) e_bendsGone), i_x_bendsGone, (get_ne eF1 (by decide) e_overAt), (get_ne eF1 (by decide) e_endPace), rfl⟩
  · have hP : va_P D vwCl [(h_paceAt, .inl (cI, 40, .inl f_paceAt)), (h_kindOf, .inl (cI, 4, .inl f_kindOf)), (h_behindAt, .inl (cI, 12, .inl f_behindAt)), (h0, .inr (10, vL 67 F1)), (h_s, .inl (cI, 335, .inl f_s))] H := hP
    have hD : va_D A [(h_paceAt, .inl (cI, 40, .inl f_paceAt)), (h_kindOf, .inl (cI, 4, .inl f_kindOf)), (h_behindAt, .inl (cI, 12, .inl f_behindAt)), (h0, .inr (10, vL 67 F1)), (h_s, .inl (cI, 335, .inl f_s))] := hD
    refine W.widen (k := 0) (n := 0) (Nat.le_of_ble_eq_true rfl) (Nat.le_of_ble_eq_true rfl) ?_
    refine lv_if_ne (tgt := 14) hx hb dX10_run_9 (by decide) (fun _ => ?_) (fun g => absurd g (by decide))
    refine lv_aload_n hx hb dX10_run_14 rfl (lv_at hl 0 rfl) ?_
    have n5 : F1 25 = .ref h_paceAt := (get_ne eF1 (by decide) e_paceAt)
    have n6 : F1 26 = .ref h_kindOf := (get_ne eF1 (by decide) e_kindOf)
    have n7 : F1 31 = .int x_seed := (get_ne eF1 (by decide) e_seed)
    have n8 : F1 32 = .int x_kicks := (get_ne eF1 (by decide) e_kicks)
    have n9 : F1 33 = .ref h_behindAt := (get_ne eF1 (by decide) e_behindAt)
    have n10 : F1 37 = .int x_touchBend := (get_ne eF1 (by decide) e_touchBend)
    have n11 : F1 38 = .int x_touchBy := (get_ne eF1 (by decide) e_touchBy)
    refine call_Vi (wr := []) (As := []) (rest := []) hx hb hml hown hw (m_X10_total l D cI cJ cB cP cM cZ h0 h_s h_paceAt h_kindOf h_behindAt F1 x_seed x_kicks x_touchBend x_touchBy f_s f_paceAt f_kindOf f_behindAt _ n2 n5 n6 n7 n8 i_x_kicks n9 n10 n11 i_x_touchBy s_s_K0 s_s_0 s_s_105 s_s_114 s_s_130 s_s_139 s_s_153 s_s_44 s_s_5 s_s_6 s_s_7) wV_X10_368_X10_total dX10_run_15 hK hP hD hS hA [3, 4, 0, 1, 2] [] rfl rfl (by decide) (by decide) (by decide) 0 10 rfl rfl GG.fb hG.at hl.1 rfl (Nat.le_of_ble_eq_true rfl) ⟨(Nat.le_of_ble_eq_true rfl), (Nat.le_of_ble_eq_true rfl)⟩ ⟨(Nat.le_of_ble_eq_true rfl), (Nat.le_of_ble_eq_true rfl)⟩ (fun r12 u H locs hp hP hD hS => ?_)
    refine hp.elim (fun F13 h9z0 => h9z0.elim (fun y14 h9z1 => h9z1.elim (fun y15 h9z2 => h9z2.elim (fun y16 h9z3 => h9z3.elim (fun y17 h9z4 => h9z4.elim (fun y18 h9z5 => h9z5.elim (fun y19 h9z6 => h9z6.elim (fun y20 h9z7 => h9z7.elim (fun y21 h9z8 => h9z8.elim (fun g22 h9z9 => h9z9.elim (fun g23 h9z10 => h9z10.elim (fun g24 h9z11 => h9z11.elim (fun t25 h9z12 => h9z12.elim (fun t26 h9z13 => h9z13.elim (fun t27 h9z14 => h9z14.elim (fun t28 h9z15 => h9z15.elim (fun t29 h9z16 => h9z16.elim (fun t30 h9z17 => h9z17.elim (fun t31 h9z18 => h9z18.elim (fun t32 h9z19 => h9z19.elim (fun t33 h9z20 => h9z20.elim (fun t34 h9z21 => h9z21.elim (fun t35 h9z22 => h9z22.elim (fun t36 h9z23 => h9z23.elim (fun t37 h9z24 => h9z24.elim (fun t38 h9z25 => ?_))))))))))))))))))))))))))
    clear h9z0 h9z1 h9z2 h9z3 h9z4 h9z5 h9z6 h9z7 h9z8 h9z9 h9z10 h9z11 h9z12 h9z13 h9z14 h9z15 h9z16 h9z17 h9z18 h9z19 h9z20 h9z21 h9z22 h9z23 h9z24
    subst h9z25
    have hP : va_P D vwCl [(h0, .inr (10, vL 67 F13)), (h_s, .inl (cI, 335, .inl f_s)), (h_paceAt, .inl (cI, 40, .inl g22)), (h_kindOf, .inl (cI, 4, .inl g23)), (h_behindAt, .inl (cI, 12, .inl g24))] H := hP
    have hD : va_D A [(h0, .inr (10, vL 67 F13)), (h_s, .inl (cI, 335, .inl f_s)), (h_paceAt, .inl (cI, 40, .inl g22)), (h_kindOf, .inl (cI, 4, .inl g23)), (h_behindAt, .inl (cI, 12, .inl g24))] := hD
    refine W.widen (k := 0) (n := 0) (Nat.le_of_ble_eq_true rfl) (Nat.le_of_ble_eq_true rfl) ?_
    refine lv_istore_n (lv' := [(2, .int r12), (0, .ref h0), (1, .int p0)]) hx hb dX10_run_18 rfl hl (by decide) rfl (fun ls hl => ?_)
    refine lv_iload_n hx hb dX10_run_19 rfl (lv_at hl 2 rfl) ?_
    by_cases k40 : p0 = 0
    · have dk40 : p0.toInt = 0 := eq_i rfl rfl k40
      have k41 : 0 ≤ p0.toInt ∧ p0.toInt ≤ 0 := ⟨Int.le_trans (Int.le_refl _) (Int.le_of_eq dk40.symm), Int.le_trans (Int.le_of_eq dk40) (Int.le_refl _)⟩
      refine lv_ci (y := 0) k40 ?_
      refine lv_tableIn (tgt := 52) (off := 32) hx hb dX10_run_20 (by decide) (by decide) (by decide) (by decide) ?_
      refine lv_iload_n hx hb dX10_run_52 rfl (lv_at hl 0 rfl) ?_
      exact ret_i (v := r12) hx hb hr hlocks hS hP hD dX10_run_53 rfl (Nat.le_of_ble_eq_true rfl) (Nat.le_of_ble_eq_true rfl) ⟨F13, y14, y15, y16, y17, y18, y19, y20, y21, g22, g23, g24, (SAME.tr (SAME.up eF1 SAME.rf (by decide)) t25 (by decide)), (SAME.at t25 (by decide) (get_eq eF1)), t26, t27, t29, t30, t31, t32, t33, t34, t35, t36, t38, rfl⟩
    by_cases k42 : p0 = 1
    · have dk42 : p0.toInt = 1 := eq_i rfl rfl k42
      have k43 : 1 ≤ p0.toInt ∧ p0.toInt ≤ 1 := ⟨Int.le_trans (Int.le_refl _) (Int.le_of_eq dk42.symm), Int.le_trans (Int.le_of_eq dk42) (Int.le_refl _)⟩
      refine lv_ci (y := 1) k42 ?_
      refine lv_tableIn (tgt := 54) (off := 34) hx hb dX10_run_20 (by decide) (by decide) (by decide) (by decide) ?_
      refine lv_aload_n hx hb dX10_run_54 rfl (lv_at hl 1 rfl) ?_
      refine get_f (D := D) (ci := 10) (v := .int y21) (C := RX10) (T := TX10) (N := 67) hx hb hw inAX10 hown hK hP 0 rfl rfl 36 (by decide) (hw _ q_1297) (fun _ h9 => h9) t38 dX10_run_55 ?_
      exact ret_i (v := y21) hx hb hr hlocks hS hP hD dX10_run_58 rfl (Nat.le_of_ble_eq_true rfl) (Nat.le_of_ble_eq_true rfl) ⟨F13, y14, y15, y16, y17, y18, y19, y20, y21, g22, g23, g24, (SAME.tr (SAME.up eF1 SAME.rf (by decide)) t25 (by decide)), (SAME.at t25 (by decide) (get_eq eF1)), t26, t27, t29, t30, t31, t32, t33, t34, t35, t36, t38, rfl⟩
    by_cases k44 : p0 = 2
    · have dk44 : p0.toInt = 2 := eq_i rfl rfl k44
      have k45 : 2 ≤ p0.toInt ∧ p0.toInt ≤ 2 := ⟨Int.le_trans (Int.le_refl _) (Int.le_of_eq dk44.symm), Int.le_trans (Int.le_of_eq dk44) (Int.le_refl _)⟩
      refine lv_ci (y := 2) k44 ?_
      refine lv_tableIn (tgt := 59) (off := 39) hx hb dX10_run_20 (by decide) (by decide) (by decide) (by decide) ?_
      refine lv_aload_n hx hb dX10_run_59 rfl (lv_at hl 1 rfl) ?_
      refine get_f (D := D) (ci := 10) (v := .int y19) (C := RX10) (T := TX10) (N := 67) hx hb hw inAX10 hown hK hP 0 rfl rfl 34 (by decide) (hw _ q_1295) (fun _ h9 => h9) t34 dX10_run_60 ?_
      exact ret_i (v := y19) hx hb hr hlocks hS hP hD dX10_run_63 rfl (Nat.le_of_ble_eq_true rfl) (Nat.le_of_ble_eq_true rfl) ⟨F13, y14, y15, y16, y17, y18, y19, y20, y21, g22, g23, g24, (SAME.tr (SAME.up eF1 SAME.rf (by decide)) t25 (by decide)), (SAME.at t25 (by decide) (get_eq eF1)), t26, t27, t29, t30, t31, t32, t33, t34, t35, t36, t38, rfl⟩
    by_cases k46 : p0 = 3
    · have dk46 : p0.toInt = 3 := eq_i rfl rfl k46
      have k47 : 3 ≤ p0.toInt ∧ p0.toInt ≤ 3 := ⟨Int.le_trans (Int.le_refl _) (Int.le_of_eq dk46.symm), Int.le_trans (Int.le_of_eq dk46) (Int.le_refl _)⟩
      refine lv_ci (y := 3) k46 ?_
      refine lv_tableIn (tgt := 64) (off := 44) hx hb dX10_run_20 (by decide) (by decide) (by decide) (by decide) ?_
      refine lv_aload_n hx hb dX10_run_64 rfl (lv_at hl 1 rfl) ?_
      refine get_f (D := D) (ci := 10) (v := .int y20) (C := RX10) (T := TX10) (N := 67) hx hb hw inAX10 hown hK hP 0 rfl rfl 35 (by decide) (hw _ q_1296) (fun _ h9 => h9) t36 dX10_run_65 ?_
      exact ret_i (v := y20) hx hb hr hlocks hS hP hD dX10_run_68 rfl (Nat.le_of_ble_eq_true rfl) (Nat.le_of_ble_eq_true rfl) ⟨F13, y14, y15, y16, y17, y18, y19, y20, y21, g22, g23, g24, (SAME.tr (SAME.up eF1 SAME.rf (by decide)) t25 (by decide)), (SAME.at t25 (by decide) (get_eq eF1)), t26, t27, t29, t30, t31, t32, t33, t34, t35, t36, t38, rfl⟩
    have dk40 : p0.toInt ≠ 0 := ne_i rfl rfl k40
    have dk42 : p0.toInt ≠ 1 := ne_i rfl rfl k42
    have dk44 : p0.toInt ≠ 2 := ne_i rfl rfl k44
    have dk46 : p0.toInt ≠ 3 := ne_i rfl rfl k46
    refine lv_tableOut (tgt := 69) hx hb dX10_run_20 (by omega) (by decide) ?_
    refine lv_iconst (v := (-1)) hx hb dX10_run_69 (by decide) ?_
    exact ret_i (v := (-1)) hx hb hr hlocks hS hP hD dX10_run_70 rfl (Nat.le_of_ble_eq_true rfl) (Nat.le_of_ble_eq_true rfl) ⟨F13, y14, y15, y16, y17, y18, y19, y20, y21, g22, g23, g24, (SAME.tr (SAME.up eF1 SAME.rf (by decide)) t25 (by decide)), (SAME.at t25 (by decide) (get_eq eF1)), t26, t27, t29, t30, t31, t32, t33, t34, t35, t36, t38, rfl⟩
set_option maxHeartbeats 4000000 in
set_option maxRecDepth 100000 in
theorem m_X10_behind (l : Launch) (D : va_G) (cI cJ cB cP cM cZ : ClassId) (h0 : Nat) (h_s : Nat) (h_paceAt : Nat) (h_kindOf : Nat) (h_behindAt : Nat) (Fh : Nat → Value) (x_lineTime : Int32) (x_linePace : Int32) (x_inside : Int32) (x_late : Int32) (x_seed : Int32) (x_kicks : Int32) (x_bendsGone : Int32) (x_overAt : Int32) (x_endPace : Int32) (x_touchBend : Int32) (x_touchBy : Int32) (f_s : Nat → Int32) (f_paceAt : Nat → Int32) (f_kindOf : Nat → Int32) (f_behindAt : Nat → Int32) (p0 : Int32) (sz : Nat) (e_s : Fh 6 = .ref h_s) (e_paceAt : Fh 25 = .ref h_paceAt) (e_kindOf : Fh 26 = .ref h_kindOf) (e_lineTime : Fh 27 = .int x_lineTime) (e_linePace : Fh 28 = .int x_linePace) (e_inside : Fh 29 = .int x_inside) (i_x_inside : IR 0 15 x_inside) (e_late : Fh 30 = .int x_late) (i_x_late : IR 0 15 x_late) (e_seed : Fh 31 = .int x_seed) (e_kicks : Fh 32 = .int x_kicks) (i_x_kicks : IR 0 1 x_kicks) (e_behindAt : Fh 33 = .ref h_behindAt) (e_bendsGone : Fh 34 = .int x_bendsGone) (i_x_bendsGone : IR 0 12 x_bendsGone) (e_overAt : Fh 35 = .int x_overAt) (e_endPace : Fh 36 = .int x_endPace) (e_touchBend : Fh 37 = .int x_touchBend) (e_touchBy : Fh 38 = .int x_touchBy) (i_x_touchBy : IR 0 99 x_touchBy) (s_s_K0 : KW 0 f_s) (s_s_0 : SG 0 0 0 40 f_s) (s_s_105 : SG 105 108 0 11 f_s) (s_s_114 : SG 114 114 0 5 f_s) (s_s_130 : SG 130 133 0 11 f_s) (s_s_139 : SG 139 139 0 5 f_s) (s_s_153 : SG 153 153 0 44 f_s) (s_s_44 : SG 44 55 0 9 f_s) (s_s_5 : SG 5 5 0 12 f_s) (s_s_6 : SG 6 6 0 12 f_s) (s_s_7 : SG 7 7 0 6 f_s) : CI l yX10_behind cX10_behind 2 (some .int) { frames := 5, cells := 0, slots := 0, locals := 115 } (GG D cI cJ cB cP cM cZ) D [(h0, .inr (10, vL 67 Fh)), (h_s, .inl (cI, 335, .inl f_s)), (h_paceAt, .inl (cI, 40, .inl f_paceAt)), (h_kindOf, .inl (cI, 4, .inl f_kindOf)), (h_behindAt, .inl (cI, 12, .inl f_behindAt))] sz [.ref h0, .int p0] (fun (r : Int32) (u : va_W) => ∃ (Gh : Nat → Value) (y_lineTime : Int32) (y_linePace : Int32) (y_inside : Int32) (y_late : Int32) (y_seed : Int32) (y_bendsGone : Int32) (y_overAt : Int32) (y_endPace : Int32) (g_paceAt : Nat → Int32) (g_kindOf : Nat → Int32) (g_behindAt : Nat → Int32), SAME [0, 27, 28, 29, 30, 31, 34, 35, 36] Fh Gh ∧ Gh 0 = .int 0 ∧ Gh 27 = .int y_lineTime ∧ Gh 28 = .int y_linePace ∧ Gh 29 = .int y_inside ∧ IR 0 15 y_inside ∧ Gh 30 = .int y_late ∧ IR 0 15 y_late ∧ Gh 31 = .int y_seed ∧ Gh 34 = .int y_bendsGone ∧ IR 0 12 y_bendsGone ∧ Gh 35 = .int y_overAt ∧ Gh 36 = .int y_endPace ∧ u = [(h0, .inr (10, vL 67 Gh)), (h_s, .inl (cI, 335, .inl f_s)), (h_paceAt, .inl (cI, 40, .inl g_paceAt)), (h_kindOf, .inl (cI, 4, .inl g_kindOf)), (h_behindAt, .inl (cI, 12, .inl g_behindAt))]) := by
  refine CI_mk (by decide) (Nat.le_of_ble_eq_true rfl) ?_
  intro p e s m below meth c A ls E hAe hG hsz hP hD hA hS hl
  obtain ⟨hx, hb, hr, hw, hown, hlocks, hml, hnm⟩ := E
  have hK := hG.1
  have i_x_inside : 0 ≤ x_inside.toInt ∧ x_inside.toInt ≤ 15 := i_x_inside
  have i_x_late : 0 ≤ x_late.toInt ∧ x_late.toInt ≤ 15 := i_x_late
  have i_x_kicks : 0 ≤ x_kicks.toInt ∧ x_kicks.toInt ≤ 1 := i_x_kicks
  have i_x_bendsGone : 0 ≤ x_bendsGone.toInt ∧ x_bendsGone.toInt ≤ 12 := i_x_bendsGone
  have i_x_touchBy : 0 ≤ x_touchBy.toInt ∧ x_touchBy.toInt ≤ 99 := i_x_touchBy
  have hl : lv_has ls 2 [(0, .ref h0), (1, .int p0)] := hl
  refine lv_aload_n hx hb dX10_behind_0 rfl (lv_at hl 0 rfl) ?_
  refine lv_iconst (v := 0) hx hb dX10_behind_1 (by decide) ?_
  refine put_f (D := D) (ci := 10) (v := .int 0) (ty := .int) (C := RX10) (T := TX10) (N := 67) hx hb hw inAX10 tyX10 tyX10_ok nmX10 hown hK hP hD hS 0 rfl rfl 0 (by decide) (hw _ q_1261) (fun _ h9 => h9) rfl (by decide +kernel) rfl rfl dX10_behind_2 (fun H locs F1 eF1 hP hD hS => ?_)
  have hP : va_P D vwCl [(h0, .inr (10, vL 67 F1)), (h_s, .inl (cI, 335, .inl f_s)), (h_paceAt, .inl (cI, 40, .inl f_paceAt)), (h_kindOf, .inl (cI, 4, .inl f_kindOf)), (h_behindAt, .inl (cI, 12, .inl f_behindAt))] H := hP
  have hD : va_D A [(h0, .inr (10, vL 67 F1)), (h_s, .inl (cI, 335, .inl f_s)), (h_paceAt, .inl (cI, 40, .inl f_paceAt)), (h_kindOf, .inl (cI, 4, .inl f_kindOf)), (h_behindAt, .inl (cI, 12, .inl f_behindAt))] := hD
  refine lv_aload_n hx hb dX10_behind_5 rfl (lv_at hl 0 rfl) ?_
  have n2 : F1 6 = .ref h_s := (get_ne eF1 (by decide) e_s)
  refine call_Vi (wr := [(h_paceAt, .inl (cI, 40, .inl f_paceAt)), (h_kindOf, .inl (cI, 4, .inl f_kindOf)), (h_behindAt, .inl (cI, 12, .inl f_behindAt))]) (As := []) (rest := []) hx hb hml hown hw (m_X10_hasCrew l D cI cJ cB cP cM cZ h0 h_s F1 f_s _ n2 s_s_K0 s_s_0 s_s_105 s_s_114 s_s_130 s_s_139 s_s_153 s_s_44 s_s_5 s_s_6 s_s_7) wV_X10_281_X10_hasCrew dX10_behind_6 hK hP hD hS hA [0, 1] [2, 3, 4] rfl rfl (by decide) (by decide) (by decide) 0 10 rfl rfl GG.fb hG.at hl.1 rfl (Nat.le_of_ble_eq_true rfl) ⟨(Nat.le_of_ble_eq_true rfl), (Nat.le_of_ble_eq_true rfl)⟩ ⟨(Nat.le_of_ble_eq_true rfl), (Nat.le_of_ble_eq_true rfl)⟩ (fun r3 u H locs hp hP hD hS => ?_)
  rcases hp with ⟨rfl, rfl⟩ | ⟨rfl, rfl⟩
  · have hP : va_P D vwCl [(h_paceAt, .inl (cI, 40, .inl f_paceAt)), (h_kindOf, .inl (cI, 4, .inl f_kindOf)), (h_behindAt, .inl (cI, 12, .inl f_behindAt)), (h0, .inr (10, vL 67 F1)), (h_s, .inl (cI, 335, .inl f_s))] H := hP
    have hD : va_D A [(h_paceAt, .inl (cI, 40, .inl f_paceAt)), (h_kindOf, .inl (cI, 4, .inl f_kindOf)), (h_behindAt, .inl (cI, 12, .inl f_behindAt)), (h0, .inr (10, vL 67 F1)), (h_s, .inl (cI, 335, .inl f_s))] := hD
    refine W.widen (k := 0) (n := 0) (Nat.le_of_ble_eq_true rfl) (Nat.le_of_ble_eq_true rfl) ?_
    refine lv_if_ne (tgt := 14) hx hb dX10_behind_9 (by decide) (fun g => absurd (by decide) g) (fun _ => ?_)
    refine lv_iconst (v := (-1)) hx hb dX10_behind_12 (by decide) ?_
    exact ret_i (v := (-1)) hx hb hr hlocks hS (hP.sub (ws' := [(h0, .inr (10, vL 67 F1)), (h_s, .inl (cI, 335, .inl f_s)), (h_paceAt, .inl (cI, 40, .inl f_paceAt)), (h_kindOf, .inl (cI, 4, .inl f_kindOf)), (h_behindAt, .inl (cI, 12, .inl f_behindAt))]) [3, 4, 0, 1, 2] rfl) (hD.sub (ws' := [(h0, .inr (10, vL 67 F1)), (h_s, .inl (cI, 335, .inl f_s)), (h_paceAt, .inl (cI, 40, .inl f_paceAt)), (h_kindOf, .inl (cI, 4, .inl f_kindOf)), (h_behindAt, .inl (cI, 12, .inl f_behindAt))]) [3, 4, 0, 1, 2] (by decide) rfl) dX10_behind_13 rfl (Nat.le_of_ble_eq_true rfl) (Nat.le_of_ble_eq_true rfl) ⟨F1, x_lineTime, x_linePace, x_inside, x_late, x_seed, x_bendsGone, x_overAt, x_endPace, f_paceAt, f_kindOf, f_behindAt, (SAME.up eF1 SAME.rf (by decide)), (get_eq eF1), (get_ne eF1 (by decide) e_lineTime), (get_ne eF1 (by decide) e_linePace), (get_ne eF1 (by decide) e_inside), i_x_inside, (get_ne eF1 (by decide) e_late), i_x_late, (get_ne eF1 (by decide) e_seed), (get_ne eF1 (by decide) e_bendsGone), i_x_bendsGone, (get_ne eF1 (by decide) e_overAt), (get_ne eF1 (by decide) e_endPace), rfl⟩
  · have hP : va_P D vwCl [(h_paceAt, .inl (cI, 40, .inl f_paceAt)), (h_kindOf, .inl (cI, 4, .inl f_kindOf)), (h_behindAt, .inl (cI, 12, .inl f_behindAt)), (h0, .inr (10, vL 67 F1)), (h_s, .inl (cI, 335, .inl f_s))] H := hP
    have hD : va_D A [(h_paceAt, .inl (cI, 40, .inl f_paceAt)), (h_kindOf, .inl (cI, 4, .inl f_kindOf)), (h_behindAt, .inl (cI, 12, .inl f_behindAt)), (h0, .inr (10, vL 67 F1)), (h_s, .inl (cI, 335, .inl f_s))] := hD
    refine W.widen (k := 0) (n := 0) (Nat.le_of_ble_eq_true rfl) (Nat.le_of_ble_eq_true rfl) ?_
    refine lv_if_ne (tgt := 14) hx hb dX10_behind_9 (by decide) (fun _ => ?_) (fun g => absurd g (by decide))
    refine lv_aload_n hx hb dX10_behind_14 rfl (lv_at hl 0 rfl) ?_
    have n5 : F1 25 = .ref h_paceAt := (get_ne eF1 (by decide) e_paceAt)
    have n6 : F1 26 = .ref h_kindOf := (get_ne eF1 (by decide) e_kindOf)
    have n7 : F1 31 = .int x_seed := (get_ne eF1 (by decide) e_seed)
    have n8 : F1 32 = .int x_kicks := (get_ne eF1 (by decide) e_kicks)
    have n9 : F1 33 = .ref h_behindAt := (get_ne eF1 (by decide) e_behindAt)
    have n10 : F1 37 = .int x_touchBend := (get_ne eF1 (by decide) e_touchBend)
    have n11 : F1 38 = .int x_touchBy := (get_ne eF1 (by decide) e_touchBy)
    refine call_Vi (wr := []) (As := []) (rest := []) hx hb hml hown hw (m_X10_total l D cI cJ cB cP cM cZ h0 h_s h_paceAt h_kindOf h_behindAt F1 x_seed x_kicks x_touchBend x_touchBy f_s f_paceAt f_kindOf f_behindAt _ n2 n5 n6 n7 n8 i_x_kicks n9 n10 n11 i_x_touchBy s_s_K0 s_s_0 s_s_105 s_s_114 s_s_130 s_s_139 s_s_153 s_s_44 s_s_5 s_s_6 s_s_7) wV_X10_368_X10_total dX10_behind_15 hK hP hD hS hA [3, 4, 0, 1, 2] [] rfl rfl (by decide) (by decide) (by decide) 0 10 rfl rfl GG.fb hG.at hl.1 rfl (Nat.le_of_ble_eq_true rfl) ⟨(Nat.le_of_ble_eq_true rfl), (Nat.le_of_ble_eq_true rfl)⟩ ⟨(Nat.le_of_ble_eq_true rfl), (Nat.le_of_ble_eq_true rfl)⟩ (fun r12 u H locs hp hP hD hS => ?_)
    refine hp.elim (fun F13 h9z0 => h9z0.elim (fun y14 h9z1 => h9z1.elim (fun y15 h9z2 => h9z2.elim (fun y16 h9z3 => h9z3.elim (fun y17 h9z4 => h9z4.elim (fun y18 h9z5 => h9z5.elim (fun y19 h9z6 => h9z6.elim (fun y20 h9z7 => h9z7.elim (fun y21 h9z8 => h9z8.elim (fun g22 h9z9 => h9z9.elim (fun g23 h9z10 => h9z10.elim (fun g24 h9z11 => h9z11.elim (fun t25 h9z12 => h9z12.elim (fun t26 h9z13 => h9z13.elim (fun t27 h9z14 => h9z14.elim (fun t28 h9z15 => h9z15.elim (fun t29 h9z16 => h9z16.elim (fun t30 h9z17 => h9z17.elim (fun t31 h9z18 => h9z18.elim (fun t32 h9z19 => h9z19.elim (fun t33 h9z20 => h9z20.elim (fun t34 h9z21 => h9z21.elim (fun t35 h9z22 => h9z22.elim (fun t36 h9z23 => h9z23.elim (fun t37 h9z24 => h9z24.elim (fun t38 h9z25 => ?_))))))))))))))))))))))))))
    clear h9z0 h9z1 h9z2 h9z3 h9z4 h9z5 h9z6 h9z7 h9z8 h9z9 h9z10 h9z11 h9z12 h9z13 h9z14 h9z15 h9z16 h9z17 h9z18 h9z19 h9z20 h9z21 h9z22 h9z23 h9z24
    subst h9z25
    have hP : va_P D vwCl [(h0, .inr (10, vL 67 F13)), (h_s, .inl (cI, 335, .inl f_s)), (h_paceAt, .inl (cI, 40, .inl g22)), (h_kindOf, .inl (cI, 4, .inl g23)), (h_behindAt, .inl (cI, 12, .inl g24))] H := hP
    have hD : va_D A [(h0, .inr (10, vL 67 F13)), (h_s, .inl (cI, 335, .inl f_s)), (h_paceAt, .inl (cI, 40, .inl g22)), (h_kindOf, .inl (cI, 4, .inl g23)), (h_behindAt, .inl (cI, 12, .inl g24))] := hD
    refine W.widen (k := 0) (n := 0) (Nat.le_of_ble_eq_true rfl) (Nat.le_of_ble_eq_true rfl) ?_
    refine lv_pop hx hb dX10_behind_18 rfl ?_
    refine lv_iload_n hx hb dX10_behind_19 rfl (lv_at hl 1 rfl) ?_
    refine lv_iconst (v := 0) hx hb dX10_behind_20 (by decide) ?_
    refine lv_aload_n hx hb dX10_behind_21 rfl (lv_at hl 0 rfl) ?_
    refine get_f (D := D) (ci := 10) (v := .int y19) (C := RX10) (T := TX10) (N := 67) hx hb hw inAX10 hown hK hP 0 rfl rfl 34 (by decide) (hw _ q_1295) (fun _ h9 => h9) t34 dX10_behind_22 ?_
    refine lv_iconst (v := 1) hx hb dX10_behind_25 (by decide) ?_
    refine lv_isub hx hb dX10_behind_26 ?_
    refine lv_topi (fun v40 ev40 => ?_)
    have bv40 : v40.toInt = y19.toInt - 1 := by rw [ev40]; exact sub_k rfl rfl t35 ⟨Int.le_refl _, Int.le_refl _⟩ (by decide)
    have k41 : (-1) ≤ v40.toInt ∧ v40.toInt ≤ 11 := sub_r bv40 t35 ⟨Int.le_refl _, Int.le_refl _⟩ (by decide)
    refine call_Si (wr := [(h0, .inr (10, vL 67 F13)), (h_s, .inl (cI, 335, .inl f_s)), (h_paceAt, .inl (cI, 40, .inl g22)), (h_kindOf, .inl (cI, 4, .inl g23)), (h_behindAt, .inl (cI, 12, .inl g24))]) (As := [.int p0, .int 0, .int v40]) (rest := []) hx hb hml hown hw (m_X10_isIn l D cI cJ cB cP cM cZ p0 0 v40 _ ) wS_X10_211_X10_isIn dX10_behind_27 hP hD hS hA [] [0, 1, 2, 3, 4] rfl rfl (by decide) (by decide) (by decide) GG.fb hG.at hl.1 rfl (Nat.le_of_ble_eq_true rfl) ⟨(Nat.le_of_ble_eq_true rfl), (Nat.le_of_ble_eq_true rfl)⟩ ⟨(Nat.le_of_ble_eq_true rfl), (Nat.le_of_ble_eq_true rfl)⟩ (fun r42 u H locs hp hP hD hS => ?_)
    have zl0 : (0 : Int32).toInt = 0 := by decide
    rcases hp with ⟨t43, rfl, rfl⟩ | ⟨t44, t45, rfl, rfl⟩ | ⟨t46, t47, rfl, rfl⟩
    · have hP : va_P D vwCl [(h0, .inr (10, vL 67 F13)), (h_s, .inl (cI, 335, .inl f_s)), (h_paceAt, .inl (cI, 40, .inl g22)), (h_kindOf, .inl (cI, 4, .inl g23)), (h_behindAt, .inl (cI, 12, .inl g24))] H := hP
      have hD : va_D A [(h0, .inr (10, vL 67 F13)), (h_s, .inl (cI, 335, .inl f_s)), (h_paceAt, .inl (cI, 40, .inl g22)), (h_kindOf, .inl (cI, 4, .inl g23)), (h_behindAt, .inl (cI, 12, .inl g24))] := hD
      refine W.widen (k := 0) (n := 0) (Nat.le_of_ble_eq_true rfl) (Nat.le_of_ble_eq_true rfl) ?_
      have k49 : (-2147483648) ≤ p0.toInt ∧ p0.toInt ≤ (-1) := ⟨(ir_any _).1, up_lt t43 (Int.le_refl _) (by decide)⟩
      refine lv_if_eq (tgt := 42) hx hb dX10_behind_30 (by decide) (fun _ => ?_) (fun g => absurd (by decide) g)
      refine lv_iconst (v := (-1)) hx hb dX10_behind_42 (by decide) ?_
      exact ret_i (v := (-1)) hx hb hr hlocks hS hP hD dX10_behind_43 rfl (Nat.le_of_ble_eq_true rfl) (Nat.le_of_ble_eq_true rfl) ⟨F13, y14, y15, y16, y17, y18, y19, y20, y21, g22, g23, g24, (SAME.tr (SAME.up eF1 SAME.rf (by decide)) t25 (by decide)), (SAME.at t25 (by decide) (get_eq eF1)), t26, t27, t29, t30, t31, t32, t33, t34, t35, t36, t38, rfl⟩
    · have hP : va_P D vwCl [(h0, .inr (10, vL 67 F13)), (h_s, .inl (cI, 335, .inl f_s)), (h_paceAt, .inl (cI, 40, .inl g22)), (h_kindOf, .inl (cI, 4, .inl g23)), (h_behindAt, .inl (cI, 12, .inl g24))] H := hP
      have hD : va_D A [(h0, .inr (10, vL 67 F13)), (h_s, .inl (cI, 335, .inl f_s)), (h_paceAt, .inl (cI, 40, .inl g22)), (h_kindOf, .inl (cI, 4, .inl g23)), (h_behindAt, .inl (cI, 12, .inl g24))] := hD
      refine W.widen (k := 0) (n := 0) (Nat.le_of_ble_eq_true rfl) (Nat.le_of_ble_eq_true rfl) ?_
      have k50 : 0 ≤ p0.toInt ∧ p0.toInt ≤ 2147483647 := ⟨Int.le_trans (Int.le_refl _) t44, (ir_any _).2⟩
      refine lv_if_eq (tgt := 42) hx hb dX10_behind_30 (by decide) (fun _ => ?_) (fun g => absurd (by decide) g)
      refine lv_iconst (v := (-1)) hx hb dX10_behind_42 (by decide) ?_
      exact ret_i (v := (-1)) hx hb hr hlocks hS hP hD dX10_behind_43 rfl (Nat.le_of_ble_eq_true rfl) (Nat.le_of_ble_eq_true rfl) ⟨F13, y14, y15, y16, y17, y18, y19, y20, y21, g22, g23, g24, (SAME.tr (SAME.up eF1 SAME.rf (by decide)) t25 (by decide)), (SAME.at t25 (by decide) (get_eq eF1)), t26, t27, t29, t30, t31, t32, t33, t34, t35, t36, t38, rfl⟩
    · have hP : va_P D vwCl [(h0, .inr (10, vL 67 F13)), (h_s, .inl (cI, 335, .inl f_s)), (h_paceAt, .inl (cI, 40, .inl g22)), (h_kindOf, .inl (cI, 4, .inl g23)), (h_behindAt, .inl (cI, 12, .inl g24))] H := hP
      have hD : va_D A [(h0, .inr (10, vL 67 F13)), (h_s, .inl (cI, 335, .inl f_s)), (h_paceAt, .inl (cI, 40, .inl g22)), (h_kindOf, .inl (cI, 4, .inl g23)), (h_behindAt, .inl (cI, 12, .inl g24))] := hD
      refine W.widen (k := 0) (n := 0) (Nat.le_of_ble_eq_true rfl) (Nat.le_of_ble_eq_true rfl) ?_
      have k51 : 0 ≤ p0.toInt ∧ p0.toInt ≤ 2147483647 := ⟨Int.le_trans (Int.le_refl _) t46, (ir_any _).2⟩
      have k52 : 0 ≤ p0.toInt ∧ p0.toInt ≤ 11 := ⟨k51.1, Int.le_trans t47 k41.2⟩
      have k53 : 0 ≤ v40.toInt ∧ v40.toInt ≤ 11 := ⟨Int.le_trans k51.1 t47, k41.2⟩
      have k54 : 1 ≤ y19.toInt ∧ y19.toInt ≤ 12 := ⟨lin_lo (lin_m bv40) k53.1 (by decide), t35.2⟩
      refine lv_if_eq (tgt := 42) hx hb dX10_behind_30 (by decide) (fun g => absurd g (by decide)) (fun _ => ?_)
      refine lv_aload_n hx hb dX10_behind_33 rfl (lv_at hl 0 rfl) ?_
      have n55 : F13 33 = .ref h_behindAt := (SAME.at t25 (by decide) n9)
      refine get_f (D := D) (ci := 10) (v := .ref h_behindAt) (C := RX10) (T := TX10) (N := 67) hx hb hw inAX10 hown hK hP 0 rfl rfl 33 (by decide) (hw _ q_1294) (fun _ h9 => h9) n55 dX10_behind_34 ?_
      refine lv_iload_n hx hb dX10_behind_37 rfl (lv_at hl 1 rfl) ?_
      refine va_iald hx hb hK hP 4 0 rfl rfl (ix_k k52 (by decide) (by decide)) dX10_behind_38 ?_
      refine lv_topi (fun v56 ev56 => ?_)
      refine lv_goto (tgt := 43) hx hb dX10_behind_39 (by decide) ?_
      exact ret_i (v := v56) hx hb hr hlocks hS hP hD dX10_behind_43 rfl (Nat.le_of_ble_eq_true rfl) (Nat.le_of_ble_eq_true rfl) ⟨F13, y14, y15, y16, y17, y18, y19, y20, y21, g22, g23, g24, (SAME.tr (SAME.up eF1 SAME.rf (by decide)) t25 (by decide)), (SAME.at t25 (by decide) (get_eq eF1)), t26, t27, t29, t30, t31, t32, t33, t34, (ir_wk k54 (by decide) (by decide)), t36, t38, rfl⟩
set_option maxHeartbeats 4000000 in
set_option maxRecDepth 100000 in
theorem m_X10_keeps (l : Launch) (D : va_G) (cI cJ cB cP cM cZ : ClassId) (h0 : Nat) (h_s : Nat) (h_undone : Nat) (Fh : Nat → Value) (x_undoMany : Int32) (f_s : Nat → Int32) (f_undone : Nat → Int32) (sz : Nat) (e_s : Fh 6 = .ref h_s) (e_undone : Fh 39 = .ref h_undone) (e_undoMany : Fh 41 = .int x_undoMany) (i_x_undoMany : IR 0 8 x_undoMany) (s_s_K0 : KW 0 f_s) (s_s_0 : SG 0 0 0 40 f_s) (s_s_105 : SG 105 108 0 11 f_s) (s_s_114 : SG 114 114 0 5 f_s) (s_s_130 : SG 130 133 0 11 f_s) (s_s_139 : SG 139 139 0 5 f_s) (s_s_153 : SG 153 153 0 44 f_s) (s_s_44 : SG 44 55 0 9 f_s) (s_s_5 : SG 5 5 0 12 f_s) (s_s_6 : SG 6 6 0 12 f_s) (s_s_7 : SG 7 7 0 6 f_s) (s_undone_1 : SG 1 4 0 11 f_undone) (s_undone_10 : SG 10 10 0 5 f_undone) (s_undone_106 : SG 106 106 0 5 f_undone) (s_undone_121 : SG 121 124 0 11 f_undone) (s_undone_130 : SG 130 130 0 5 f_undone) (s_undone_145 : SG 145 148 0 11 f_undone) (s_undone_154 : SG 154 154 0 5 f_undone) (s_undone_169 : SG 169 172 0 11 f_undone) (s_undone_178 : SG 178 178 0 5 f_undone) (s_undone_25 : SG 25 28 0 11 f_undone) (s_undone_34 : SG 34 34 0 5 f_undone) (s_undone_49 : SG 49 52 0 11 f_undone) (s_undone_58 : SG 58 58 0 5 f_undone) (s_undone_73 : SG 73 76 0 11 f_undone) (s_undone_82 : SG 82 82 0 5 f_undone) (s_undone_97 : SG 97 100 0 11 f_undone) : CV l yX10_keeps cX10_keeps 2 none { frames := 0, cells := 0, slots := 0, locals := 0 } (GG D cI cJ cB cP cM cZ) D [(h0, .inr (10, vL 67 Fh)), (h_s, .inl (cI, 335, .inl f_s)), (h_undone, .inl (cI, 192, .inl f_undone))] sz [.ref h0] (fun (u : va_W) => ∃ (Gh : Nat → Value) (y_undoMany : Int32) (g_undone : Nat → Int32), SAME [41] Fh Gh ∧ Gh 41 = .int y_undoMany ∧ IR 1 8 y_undoMany ∧ SG 1 4 0 11 g_undone ∧ SG 10 10 0 5 g_undone ∧ SG 25 28 0 11 g_undone ∧ SG 34 34 0 5 g_undone ∧ SG 49 52 0 11 g_undone ∧ SG 58 58 0 5 g_undone ∧ SG 73 76 0 11 g_undone ∧ SG 82 82 0 5 g_undone ∧ SG 97 100 0 11 g_undone ∧ SG 106 106 0 5 g_undone ∧ SG 121 124 0 11 g_undone ∧ SG 130 130 0 5 g_undone ∧ SG 145 148 0 11 g_undone ∧ SG 154 154 0 5 g_undone ∧ SG 169 172 0 11 g_undone ∧ SG 178 178 0 5 g_undone ∧ u = [(h0, .inr (10, vL 67 Gh)), (h_s, .inl (cI, 335, .inl f_s)), (h_undone, .inl (cI, 192, .inl g_undone))]) := by
  refine CV_mk (by decide) (Nat.le_of_ble_eq_true rfl) ?_
  intro p e s m below meth c A ls E hAe hG hsz hP hD hA hS hl
  obtain ⟨hx, hb, hr, hw, hown, hlocks, hml, hnm⟩ := E
  have hK := hG.1
  have i_x_undoMany : 0 ≤ x_undoMany.toInt ∧ x_undoMany.toInt ≤ 8 := i_x_undoMany
  have hl : lv_has ls 2 [(0, .ref h0)] := hl
  refine lv_aload_n hx hb dX10_keeps_0 rfl (lv_at hl 0 rfl) ?_
  refine get_f (D := D) (ci := 10) (v := .int x_undoMany) (C := RX10) (T := TX10) (N := 67) hx hb hw inAX10 hown hK hP 0 rfl rfl 41 (by decide) (hw _ q_1302) (fun _ h9 => h9) e_undoMany dX10_keeps_1 ?_
  refine lv_bipush (v := 8) hx hb dX10_keeps_4 (by decide) ?_
  refine lv_icmp_ne (tgt := 45) hx hb dX10_keeps_6 (by decide) (fun c1 => ?_) (fun c1 => ?_)
  · have dc1 : x_undoMany.toInt ≠ 8 := ne_i (a := x_undoMany.toInt) (b := 8) rfl rfl c1
    have k2 : 0 ≤ x_undoMany.toInt ∧ x_undoMany.toInt ≤ 7 := ⟨i_x_undoMany.1, ne_hi dc1 i_x_undoMany.2 ⟨Int.le_refl _, Int.le_refl _⟩ (by decide)⟩
    by_cases k3 : x_undoMany = 0
    · have dk3 : x_undoMany.toInt = 0 := eq_i rfl rfl k3
      have k4 : 0 ≤ x_undoMany.toInt ∧ x_undoMany.toInt ≤ 0 := ⟨k2.1, Int.le_trans (Int.le_of_eq dk3) (Int.le_refl _)⟩
      have n5 : Fh 41 = .int 0 := by rw [e_undoMany]; exact congrArg Value.int k3
      refine lv_iconst (v := 0) hx hb dX10_keeps_45 (by decide) ?_
      refine lv_istore_n (lv' := [(1, .int 0), (0, .ref h0)]) hx hb dX10_keeps_46 rfl hl (by decide) rfl (fun ls hl => ?_)
      refine mloop (α := (Int32) × (Nat → Int32)) (nL := 2) (D := D) (A := A) (H0 := s.heap) (fun a => (24 - a.1.toInt).toNat) (fun a => IR 0 24 a.1 ∧ SG 1 4 0 11 a.2 ∧ SG 10 10 0 5 a.2 ∧ SG 106 106 0 5 a.2 ∧ SG 121 124 0 11 a.2 ∧ SG 130 130 0 5 a.2 ∧ SG 145 148 0 11 a.2 ∧ SG 154 154 0 5 a.2 ∧ SG 169 172 0 11 a.2 ∧ SG 178 178 0 5 a.2 ∧ SG 25 28 0 11 a.2 ∧ SG 34 34 0 5 a.2 ∧ SG 49 52 0 11 a.2 ∧ SG 58 58 0 5 a.2 ∧ SG 73 76 0 11 a.2 ∧ SG 82 82 0 5 a.2 ∧ SG 97 100 0 11 a.2) (fun a => [(h0, .inr (10, vL 67 Fh)), (h_s, .inl (cI, 335, .inl f_s)), (h_undone, .inl (cI, 192, .inl a.2))]) (fun a => [(1, .int a.1), (0, .ref h0)]) (fun H locs ls => W p l e ({ frames := 0, cells := 0, slots := 0, locals := 0 } : Room) s m [.ref h0].toArray below meth c H locs 0 0 (MQ below (va_Qv (fun (u : va_W) => ∃ (Gh : Nat → Value) (y_undoMany : Int32) (g_undone : Nat → Int32), SAME [41] Fh Gh ∧ Gh 41 = .int y_undoMany ∧ IR 1 8 y_undoMany ∧ SG 1 4 0 11 g_undone ∧ SG 10 10 0 5 g_undone ∧ SG 25 28 0 11 g_undone ∧ SG 34 34 0 5 g_undone ∧ SG 49 52 0 11 g_undone ∧ SG 58 58 0 5 g_undone ∧ SG 73 76 0 11 g_undone ∧ SG 82 82 0 5 g_undone ∧ SG 97 100 0 11 g_undone ∧ SG 106 106 0 5 g_undone ∧ SG 121 124 0 11 g_undone ∧ SG 130 130 0 5 g_undone ∧ SG 145 148 0 11 g_undone ∧ SG 154 154 0 5 g_undone ∧ SG 169 172 0 11 g_undone ∧ SG 178 178 0 5 g_undone ∧ u = [(h0, .inr (10, vL 67 Gh)), (h_s, .inl (cI, 335, .inl f_s)), (h_undone, .inl (cI, 192, .inl g_undone))]) (PO D A) A) [.ref h0].toArray s 0 0 A) (F0 m 47 ls [])) ?_ (0, f_undone) ⟨(show 0 ≤ (0 : Int32).toInt ∧ (0 : Int32).toInt ≤ 24 by decide), s_undone_1, s_undone_10, s_undone_106, s_undone_121, s_undone_130, s_undone_145, s_undone_154, s_undone_169, s_undone_178, s_undone_25, s_undone_34, s_undone_49, s_undone_58, s_undone_73, s_undone_82, s_undone_97⟩ _ _ _ hP hD hS hl
      rintro ⟨u6, w7⟩ ⟨i8, i9, i10, i11, i12, i13, i14, i15, i16, i17, i18, i19, i20, i21, i22, i23, i24⟩ ih H locs ls hP hD hS hl
      have i8 : 0 ≤ u6.toInt ∧ u6.toInt ≤ 24 := i8
      have hP : va_P D vwCl [(h0, .inr (10, vL 67 Fh)), (h_s, .inl (cI, 335, .inl f_s)), (h_undone, .inl (cI, 192, .inl w7))] H := hP
      have hD : va_D A [(h0, .inr (10, vL 67 Fh)), (h_s, .inl (cI, 335, .inl f_s)), (h_undone, .inl (cI, 192, .inl w7))] := hD
      have hl : lv_has ls 2 [(1, .int u6), (0, .ref h0)] := hl
      refine lv_iload_n hx hb dX10_keeps_47 rfl (lv_at hl 0 rfl) ?_
      refine lv_bipush (v := 24) hx hb dX10_keeps_48 (by decide) ?_
      refine lv_icmp_ge (tgt := 82) hx hb dX10_keeps_50 (by decide) (fun c25 => ?_) (fun c25 => ?_)
      · have dc25 : 24 ≤ u6.toInt := le_i (a := 24) (b := u6.toInt) rfl rfl c25
        have k26 : 24 ≤ u6.toInt ∧ u6.toInt ≤ 24 := ⟨Int.le_trans (Int.le_refl _) dc25, i8.2⟩
        refine lv_aload_n hx hb dX10_keeps_82 rfl (lv_at hl 1 rfl) ?_
        refine lv_dup hx hb dX10_keeps_83 rfl ?_
        refine get_f (D := D) (ci := 10) (v := .int 0) (C := RX10) (T := TX10) (N := 67) hx hb hw inAX10 hown hK hP 0 rfl rfl 41 (by decide) (hw _ q_1302) (fun _ h9 => h9) n5 dX10_keeps_84 ?_
        refine lv_iconst (v := 1) hx hb dX10_keeps_87 (by decide) ?_
        refine lv_iadd hx hb dX10_keeps_88 ?_
        refine lv_ci (y := 1) (by decide +kernel) ?_
        refine put_f (D := D) (ci := 10) (v := .int 1) (ty := .int) (C := RX10) (T := TX10) (N := 67) hx hb hw inAX10 tyX10 tyX10_ok nmX10 hown hK hP hD hS 0 rfl rfl 41 (by decide) (hw _ q_1302) (fun _ h9 => h9) rfl (by decide +kernel) rfl rfl dX10_keeps_89 (fun H locs F27 eF27 hP hD hS => ?_)
        have hP : va_P D vwCl [(h0, .inr (10, vL 67 F27)), (h_s, .inl (cI, 335, .inl f_s)), (h_undone, .inl (cI, 192, .inl w7))] H := hP
        have hD : va_D A [(h0, .inr (10, vL 67 F27)), (h_s, .inl (cI, 335, .inl f_s)), (h_undone, .inl (cI, 192, .inl w7))] := hD
        exact ret_v hx hb hr hlocks hS hP hD dX10_keeps_92 (Nat.le_of_ble_eq_true rfl) (Nat.le_of_ble_eq_true rfl) ⟨F27, 1, w7, (SAME.up eF27 SAME.rf (by decide)), (get_eq eF27), (show 1 ≤ (1 : Int32).toInt ∧ (1 : Int32).toInt ≤ 8 by decide), i9, i10, i18, i19, i20, i21, i22, i23, i24, i11, i12, i13, i14, i15, i16, i17, rfl⟩
      · have dc25 : u6.toInt < 24 := nle_i (a := 24) (b := u6.toInt) rfl rfl c25
        have k28 : 0 ≤ u6.toInt ∧ u6.toInt ≤ 23 := ⟨i8.1, up_lt dc25 (Int.le_refl _) (by decide)⟩
        refine lv_aload_n hx hb dX10_keeps_53 rfl (lv_at hl 1 rfl) ?_
        refine get_f (D := D) (ci := 10) (v := .ref h_undone) (C := RX10) (T := TX10) (N := 67) hx hb hw inAX10 hown hK hP 0 rfl rfl 39 (by decide) (hw _ q_1300) (fun _ h9 => h9) e_undone dX10_keeps_54 ?_
        refine lv_bipush (v := 24) hx hb dX10_keeps_57 (by decide) ?_
        refine lv_aload_n hx hb dX10_keeps_59 rfl (lv_at hl 1 rfl) ?_
        refine get_f (D := D) (ci := 10) (v := .int 0) (C := RX10) (T := TX10) (N := 67) hx hb hw inAX10 hown hK hP 0 rfl rfl 41 (by decide) (hw _ q_1302) (fun _ h9 => h9) n5 dX10_keeps_60 ?_
        refine lv_imul hx hb dX10_keeps_63 ?_
        refine lv_ci (y := 0) (by decide +kernel) ?_
        refine lv_iload_n hx hb dX10_keeps_64 rfl (lv_at hl 0 rfl) ?_
        refine lv_iadd hx hb dX10_keeps_65 ?_
        refine lv_topi (fun v29 ev29 => ?_)
        have bv29 : v29.toInt = 0 + u6.toInt := by rw [ev29]; exact add_k rfl rfl ⟨Int.le_refl _, Int.le_refl _⟩ k28 (by decide)
        have k30 : 0 ≤ v29.toInt ∧ v29.toInt ≤ 23 := add_r bv29 ⟨Int.le_refl _, Int.le_refl _⟩ k28 (by decide)
        refine lv_aload_n hx hb dX10_keeps_66 rfl (lv_at hl 1 rfl) ?_
        refine get_f (D := D) (ci := 10) (v := .ref h_s) (C := RX10) (T := TX10) (N := 67) hx hb hw inAX10 hown hK hP 0 rfl rfl 6 (by decide) (hw _ q_1267) (fun _ h9 => h9) e_s dX10_keeps_67 ?_
        refine lv_bipush (v := 104) hx hb dX10_keeps_70 (by decide) ?_
        refine lv_iload_n hx hb dX10_keeps_72 rfl (lv_at hl 0 rfl) ?_
        refine lv_iadd hx hb dX10_keeps_73 ?_
        refine lv_topi (fun v31 ev31 => ?_)
        have bv31 : v31.toInt = 104 + u6.toInt := by rw [ev31]; exact add_k rfl rfl ⟨Int.le_refl _, Int.le_refl _⟩ k28 (by decide)
        have k32 : 104 ≤ v31.toInt ∧ v31.toInt ≤ 127 := add_r bv31 ⟨Int.le_refl _, Int.le_refl _⟩ k28 (by decide)
        refine va_iald hx hb hK hP 1 0 rfl rfl (ix_k k32 (by decide) (by decide)) dX10_keeps_74 ?_
        refine lv_topi (fun v33 ev33 => ?_)
        have r34 : IMP (105 ≤ v31.toInt → v31.toInt ≤ 108 → 0 ≤ v33.toInt ∧ v33.toInt ≤ 11) := IMP.mk (fun q1 q2 => by rw [ev33]; exact s_s_105.at _ q1 q2)
        have r35 : IMP (114 ≤ v31.toInt → v31.toInt ≤ 114 → 0 ≤ v33.toInt ∧ v33.toInt ≤ 5) := IMP.mk (fun q1 q2 => by rw [ev33]; exact s_s_114.at _ q1 q2)
        obtain ⟨g36, eg36⟩ : ∃ z : Nat → Int32, upd w7 v29.toNatClampNeg v33 = z := ⟨_, rfl⟩
        have r37 : SG 1 4 0 11 g36 := by rw [← eg36]; exact i9.upI (Int.le_trans (by decide) k30.1) (fun q1 q2 => ⟨Int.le_trans (by decide) (r34.h (by omega) (by omega)).1, Int.le_trans (r34.h (by omega) (by omega)).2 (by decide)⟩)
        have r38 : SG 10 10 0 5 g36 := by rw [← eg36]; exact i10.upI (Int.le_trans (by decide) k30.1) (fun q1 q2 => ⟨Int.le_trans (by decide) (r35.h (by omega) (by omega)).1, Int.le_trans (r35.h (by omega) (by omega)).2 (by decide)⟩)
        have r39 : SG 106 106 0 5 g36 := by rw [← eg36]; exact i11.up (Int.le_trans (by decide) k30.1) (Or.inl (lt_dec k30.2 (by decide)))
        have r40 : SG 121 124 0 11 g36 := by rw [← eg36]; exact i12.up (Int.le_trans (by decide) k30.1) (Or.inl (lt_dec k30.2 (by decide)))
        have r41 : SG 130 130 0 5 g36 := by rw [← eg36]; exact i13.up (Int.le_trans (by decide) k30.1) (Or.inl (lt_dec k30.2 (by decide)))
        have r42 : SG 145 148 0 11 g36 := by rw [← eg36]; exact i14.up (Int.le_trans (by decide) k30.1) (Or.inl (lt_dec k30.2 (by decide)))
        have r43 : SG 154 154 0 5 g36 := by rw [← eg36]; exact i15.up (Int.le_trans (by decide) k30.1) (Or.inl (lt_dec k30.2 (by decide)))
        have r44 : SG 169 172 0 11 g36 := by rw [← eg36]; exact i16.up (Int.le_trans (by decide) k30.1) (Or.inl (lt_dec k30.2 (by decide)))
        have r45 : SG 178 178 0 5 g36 := by rw [← eg36]; exact i17.up (Int.le_trans (by decide) k30.1) (Or.inl (lt_dec k30.2 (by decide)))
        have r46 : SG 25 28 0 11 g36 := by rw [← eg36]; exact i18.up (Int.le_trans (by decide) k30.1) (Or.inl (lt_dec k30.2 (by decide)))
        have r47 : SG 34 34 0 5 g36 := by rw [← eg36]; exact i19.up (Int.le_trans (by decide) k30.1) (Or.inl (lt_dec k30.2 (by decide)))
        have r48 : SG 49 52 0 11 g36 := by rw [← eg36]; exact i20.up (Int.le_trans (by decide) k30.1) (Or.inl (lt_dec k30.2 (by decide)))
        have r49 : SG 58 58 0 5 g36 := by rw [← eg36]; exact i21.up (Int.le_trans (by decide) k30.1) (Or.inl (lt_dec k30.2 (by decide)))
        have r50 : SG 73 76 0 11 g36 := by rw [← eg36]; exact i22.up (Int.le_trans (by decide) k30.1) (Or.inl (lt_dec k30.2 (by decide)))
        have r51 : SG 82 82 0 5 g36 := by rw [← eg36]; exact i23.up (Int.le_trans (by decide) k30.1) (Or.inl (lt_dec k30.2 (by decide)))
        have r52 : SG 97 100 0 11 g36 := by rw [← eg36]; exact i24.up (Int.le_trans (by decide) k30.1) (Or.inl (lt_dec k30.2 (by decide)))
        refine iast_g hx hb hK hP hD hS 2 0 rfl rfl (ix_k k30 (by decide) (by decide)) eg36 dX10_keeps_75 (fun H locs hP hD hS => ?_)
        have hP : va_P D vwCl [(h0, .inr (10, vL 67 Fh)), (h_s, .inl (cI, 335, .inl f_s)), (h_undone, .inl (cI, 192, .inl g36))] H := hP
        have hD : va_D A [(h0, .inr (10, vL 67 Fh)), (h_s, .inl (cI, 335, .inl f_s)), (h_undone, .inl (cI, 192, .inl g36))] := hD
        obtain ⟨v53, ev53⟩ : ∃ z : Int32, z = u6 + 1 := ⟨_, rfl⟩
        have bv53 : v53.toInt = u6.toInt + 1 := by rw [ev53]; exact add_k rfl rfl k28 ⟨Int.le_refl _, Int.le_refl _⟩ (by decide)
        have k54 : 1 ≤ v53.toInt ∧ v53.toInt ≤ 24 := add_r bv53 k28 ⟨Int.le_refl _, Int.le_refl _⟩ (by decide)
        refine lv_iinc (v := v53) (lv' := [(1, .int v53), (0, .ref h0)]) hx hb dX10_keeps_76 hl (k := 0) rfl (by rw [ev53]; rfl) (by decide) rfl (fun ls hl => ?_)
        refine lv_goto (tgt := 47) hx hb dX10_keeps_79 (by decide) ?_
        exact ih (v53, g36) ⟨(ir_wk k54 (by decide) (by decide)), r37, r38, r39, r40, r41, r42, r43, r44, r45, r46, r47, r48, r49, r50, r51, r52⟩ (by show (24 - v53.toInt).toNat < (24 - u6.toInt).toNat; omega) _ _ _ hP hD hS (lv_sub hl [0, 1] rfl)
    have dk3 : x_undoMany.toInt ≠ 0 := ne_i rfl rfl k3
    have k55 : 1 ≤ x_undoMany.toInt ∧ x_undoMany.toInt ≤ 7 := ⟨ne_lo dk3 k2.1 ⟨Int.le_refl _, Int.le_refl _⟩ (by decide), k2.2⟩
    by_cases k56 : x_undoMany = 1
    · have dk56 : x_undoMany.toInt = 1 := eq_i rfl rfl k56
      have k57 : 1 ≤ x_undoMany.toInt ∧ x_undoMany.toInt ≤ 1 := ⟨k55.1, Int.le_trans (Int.le_of_eq dk56) (Int.le_refl _)⟩
      have n58 : Fh 41 = .int 1 := by rw [e_undoMany]; exact congrArg Value.int k56
      refine lv_iconst (v := 0) hx hb dX10_keeps_45 (by decide) ?_
      refine lv_istore_n (lv' := [(1, .int 0), (0, .ref h0)]) hx hb dX10_keeps_46 rfl hl (by decide) rfl (fun ls hl => ?_)
      refine mloop (α := (Int32) × (Nat → Int32)) (nL := 2) (D := D) (A := A) (H0 := s.heap) (fun a => (24 - a.1.toInt).toNat) (fun a => IR 0 24 a.1 ∧ SG 1 4 0 11 a.2 ∧ SG 10 10 0 5 a.2 ∧ SG 106 106 0 5 a.2 ∧ SG 121 124 0 11 a.2 ∧ SG 130 130 0 5 a.2 ∧ SG 145 148 0 11 a.2 ∧ SG 154 154 0 5 a.2 ∧ SG 169 172 0 11 a.2 ∧ SG 178 178 0 5 a.2 ∧ SG 25 28 0 11 a.2 ∧ SG 34 34 0 5 a.2 ∧ SG 49 52 0 11 a.2 ∧ SG 58 58 0 5 a.2 ∧ SG 73 76 0 11 a.2 ∧ SG 82 82 0 5 a.2 ∧ SG 97 100 0 11 a.2) (fun a => [(h0, .inr (10, vL 67 Fh)), (h_s, .inl (cI, 335, .inl f_s)), (h_undone, .inl (cI, 192, .inl a.2))]) (fun a => [(1, .int a.1), (0, .ref h0)]) (fun H locs ls => W p l e ({ frames := 0, cells := 0, slots := 0, locals := 0 } : Room) s m [.ref h0].toArray below meth c H locs 0 0 (MQ below (va_Qv (fun (u : va_W) => ∃ (Gh : Nat → Value) (y_undoMany : Int32) (g_undone : Nat → Int32), SAME [41] Fh Gh ∧ Gh 41 = .int y_undoMany ∧ IR 1 8 y_undoMany ∧ SG 1 4 0 11 g_undone ∧ SG 10 10 0 5 g_undone ∧ SG 25 28 0 11 g_undone ∧ SG 34 34 0 5 g_undone ∧ SG 49 52 0 11 g_undone ∧ SG 58 58 0 5 g_undone ∧ SG 73 76 0 11 g_undone ∧ SG 82 82 0 5 g_undone ∧ SG 97 100 0 11 g_undone ∧ SG 106 106 0 5 g_undone ∧ SG 121 124 0 11 g_undone ∧ SG 130 130 0 5 g_undone ∧ SG 145 148 0 11 g_undone ∧ SG 154 154 0 5 g_undone ∧ SG 169 172 0 11 g_undone ∧ SG 178 178 0 5 g_undone ∧ u = [(h0, .inr (10, vL 67 Gh)), (h_s, .inl (cI, 335, .inl f_s)), (h_undone, .inl (cI, 192, .inl g_undone))]) (PO D A) A) [.ref h0].toArray s 0 0 A) (F0 m 47 ls [])) ?_ (0, f_undone) ⟨(show 0 ≤ (0 : Int32).toInt ∧ (0 : Int32).toInt ≤ 24 by decide), s_undone_1, s_undone_10, s_undone_106, s_undone_121, s_undone_130, s_undone_145, s_undone_154, s_undone_169, s_undone_178, s_undone_25, s_undone_34, s_undone_49, s_undone_58, s_undone_73, s_undone_82, s_undone_97⟩ _ _ _ hP hD hS hl
      rintro ⟨u59, w60⟩ ⟨i61, i62, i63, i64, i65, i66, i67, i68, i69, i70, i71, i72, i73, i74, i75, i76, i77⟩ ih H locs ls hP hD hS hl
      have i61 : 0 ≤ u59.toInt ∧ u59.toInt ≤ 24 := i61
      have hP : va_P D vwCl [(h0, .inr (10, vL 67 Fh)), (h_s, .inl (cI, 335, .inl f_s)), (h_undone, .inl (cI, 192, .inl w60))] H := hP
      have hD : va_D A [(h0, .inr (10, vL 67 Fh)), (h_s, .inl (cI, 335, .inl f_s)), (h_undone, .inl (cI, 192, .inl w60))] := hD
      have hl : lv_has ls 2 [(1, .int u59), (0, .ref h0)] := hl
      refine lv_iload_n hx hb dX10_keeps_47 rfl (lv_at hl 0 rfl) ?_
      refine lv_bipush (v := 24) hx hb dX10_keeps_48 (by decide) ?_
      refine lv_icmp_ge (tgt := 82) hx hb dX10_keeps_50 (by decide) (fun c78 => ?_) (fun c78 => ?_)
      · have dc78 : 24 ≤ u59.toInt := le_i (a := 24) (b := u59.toInt) rfl rfl c78
        have k79 : 24 ≤ u59.toInt ∧ u59.toInt ≤ 24 := ⟨Int.le_trans (Int.le_refl _) dc78, i61.2⟩
        refine lv_aload_n hx hb dX10_keeps_82 rfl (lv_at hl 1 rfl) ?_
        refine lv_dup hx hb dX10_keeps_83 rfl ?_
        refine get_f (D := D) (ci := 10) (v := .int 1) (C := RX10) (T := TX10) (N := 67) hx hb hw inAX10 hown hK hP 0 rfl rfl 41 (by decide) (hw _ q_1302) (fun _ h9 => h9) n58 dX10_keeps_84 ?_
        refine lv_iconst (v := 1) hx hb dX10_keeps_87 (by decide) ?_
        refine lv_iadd hx hb dX10_keeps_88 ?_
        refine lv_ci (y := 2) (by decide +kernel) ?_
        refine put_f (D := D) (ci := 10) (v := .int 2) (ty := .int) (C := RX10) (T := TX10) (N := 67) hx hb hw inAX10 tyX10 tyX10_ok nmX10 hown hK hP hD hS 0 rfl rfl 41 (by decide) (hw _ q_1302) (fun _ h9 => h9) rfl (by decide +kernel) rfl rfl dX10_keeps_89 (fun H locs F80 eF80 hP hD hS => ?_)
        have hP : va_P D vwCl [(h0, .inr (10, vL 67 F80)), (h_s, .inl (cI, 335, .inl f_s)), (h_undone, .inl (cI, 192, .inl w60))] H := hP
        have hD : va_D A [(h0, .inr (10, vL 67 F80)), (h_s, .inl (cI, 335, .inl f_s)), (h_undone, .inl (cI, 192, .inl w60))] := hD
        exact ret_v hx hb hr hlocks hS hP hD dX10_keeps_92 (Nat.le_of_ble_eq_true rfl) (Nat.le_of_ble_eq_true rfl) ⟨F80, 2, w60, (SAME.up eF80 SAME.rf (by decide)), (get_eq eF80), (show 1 ≤ (2 : Int32).toInt ∧ (2 : Int32).toInt ≤ 8 by decide), i62, i63, i71, i72, i73, i74, i75, i76, i77, i64, i65, i66, i67, i68, i69, i70, rfl⟩
      · have dc78 : u59.toInt < 24 := nle_i (a := 24) (b := u59.toInt) rfl rfl c78
        have k81 : 0 ≤ u59.toInt ∧ u59.toInt ≤ 23 := ⟨i61.1, up_lt dc78 (Int.le_refl _) (by decide)⟩
        refine lv_aload_n hx hb dX10_keeps_53 rfl (lv_at hl 1 rfl) ?_
        refine get_f (D := D) (ci := 10) (v := .ref h_undone) (C := RX10) (T := TX10) (N := 67) hx hb hw inAX10 hown hK hP 0 rfl rfl 39 (by decide) (hw _ q_1300) (fun _ h9 => h9) e_undone dX10_keeps_54 ?_
        refine lv_bipush (v := 24) hx hb dX10_keeps_57 (by decide) ?_
        refine lv_aload_n hx hb dX10_keeps_59 rfl (lv_at hl 1 rfl) ?_
        refine get_f (D := D) (ci := 10) (v := .int 1) (C := RX10) (T := TX10) (N := 67) hx hb hw inAX10 hown hK hP 0 rfl rfl 41 (by decide) (hw _ q_1302) (fun _ h9 => h9) n58 dX10_keeps_60 ?_
        refine lv_imul hx hb dX10_keeps_63 ?_
        refine lv_ci (y := 24) (by decide +kernel) ?_
        refine lv_iload_n hx hb dX10_keeps_64 rfl (lv_at hl 0 rfl) ?_
        refine lv_iadd hx hb dX10_keeps_65 ?_
        refine lv_topi (fun v82 ev82 => ?_)
        have bv82 : v82.toInt = 24 + u59.toInt := by rw [ev82]; exact add_k rfl rfl ⟨Int.le_refl _, Int.le_refl _⟩ k81 (by decide)
        have k83 : 24 ≤ v82.toInt ∧ v82.toInt ≤ 47 := add_r bv82 ⟨Int.le_refl _, Int.le_refl _⟩ k81 (by decide)
        refine lv_aload_n hx hb dX10_keeps_66 rfl (lv_at hl 1 rfl) ?_
        refine get_f (D := D) (ci := 10) (v := .ref h_s) (C := RX10) (T := TX10) (N := 67) hx hb hw inAX10 hown hK hP 0 rfl rfl 6 (by decide) (hw _ q_1267) (fun _ h9 => h9) e_s dX10_keeps_67 ?_
        refine lv_bipush (v := 104) hx hb dX10_keeps_70 (by decide) ?_
        refine lv_iload_n hx hb dX10_keeps_72 rfl (lv_at hl 0 rfl) ?_
        refine lv_iadd hx hb dX10_keeps_73 ?_
        refine lv_topi (fun v84 ev84 => ?_)
        have bv84 : v84.toInt = 104 + u59.toInt := by rw [ev84]; exact add_k rfl rfl ⟨Int.le_refl _, Int.le_refl _⟩ k81 (by decide)
        have k85 : 104 ≤ v84.toInt ∧ v84.toInt ≤ 127 := add_r bv84 ⟨Int.le_refl _, Int.le_refl _⟩ k81 (by decide)
        refine va_iald hx hb hK hP 1 0 rfl rfl (ix_k k85 (by decide) (by decide)) dX10_keeps_74 ?_
        refine lv_topi (fun v86 ev86 => ?_)
        have r87 : IMP (105 ≤ v84.toInt → v84.toInt ≤ 108 → 0 ≤ v86.toInt ∧ v86.toInt ≤ 11) := IMP.mk (fun q1 q2 => by rw [ev86]; exact s_s_105.at _ q1 q2)
        have r88 : IMP (114 ≤ v84.toInt → v84.toInt ≤ 114 → 0 ≤ v86.toInt ∧ v86.toInt ≤ 5) := IMP.mk (fun q1 q2 => by rw [ev86]; exact s_s_114.at _ q1 q2)
        obtain ⟨g89, eg89⟩ : ∃ z : Nat → Int32, upd w60 v82.toNatClampNeg v86 = z := ⟨_, rfl⟩
        have r90 : SG 1 4 0 11 g89 := by rw [← eg89]; exact i62.up (Int.le_trans (by decide) k83.1) (Or.inr (Or.inl (dec_lt k83.1 (by decide))))
        have r91 : SG 10 10 0 5 g89 := by rw [← eg89]; exact i63.up (Int.le_trans (by decide) k83.1) (Or.inr (Or.inl (dec_lt k83.1 (by decide))))
        have r92 : SG 106 106 0 5 g89 := by rw [← eg89]; exact i64.up (Int.le_trans (by decide) k83.1) (Or.inl (lt_dec k83.2 (by decide)))
        have r93 : SG 121 124 0 11 g89 := by rw [← eg89]; exact i65.up (Int.le_trans (by decide) k83.1) (Or.inl (lt_dec k83.2 (by decide)))
        have r94 : SG 130 130 0 5 g89 := by rw [← eg89]; exact i66.up (Int.le_trans (by decide) k83.1) (Or.inl (lt_dec k83.2 (by decide)))
        have r95 : SG 145 148 0 11 g89 := by rw [← eg89]; exact i67.up (Int.le_trans (by decide) k83.1) (Or.inl (lt_dec k83.2 (by decide)))
        have r96 : SG 154 154 0 5 g89 := by rw [← eg89]; exact i68.up (Int.le_trans (by decide) k83.1) (Or.inl (lt_dec k83.2 (by decide)))
        have r97 : SG 169 172 0 11 g89 := by rw [← eg89]; exact i69.up (Int.le_trans (by decide) k83.1) (Or.inl (lt_dec k83.2 (by decide)))
        have r98 : SG 178 178 0 5 g89 := by rw [← eg89]; exact i70.up (Int.le_trans (by decide) k83.1) (Or.inl (lt_dec k83.2 (by decide)))
        have r99 : SG 25 28 0 11 g89 := by rw [← eg89]; exact i71.upI (Int.le_trans (by decide) k83.1) (fun q1 q2 => ⟨Int.le_trans (by decide) (r87.h (by omega) (by omega)).1, Int.le_trans (r87.h (by omega) (by omega)).2 (by decide)⟩)
        have r100 : SG 34 34 0 5 g89 := by rw [← eg89]; exact i72.upI (Int.le_trans (by decide) k83.1) (fun q1 q2 => ⟨Int.le_trans (by decide) (r88.h (by omega) (by omega)).1, Int.le_trans (r88.h (by omega) (by omega)).2 (by decide)⟩)
        have r101 : SG 49 52 0 11 g89 := by rw [← eg89]; exact i73.up (Int.le_trans (by decide) k83.1) (Or.inl (lt_dec k83.2 (by decide)))
        have r102 : SG 58 58 0 5 g89 := by rw [← eg89]; exact i74.up (Int.le_trans (by decide) k83.1) (Or.inl (lt_dec k83.2 (by decide)))
        have r103 : SG 73 76 0 11 g89 := by rw [← eg89]; exact i75.up (Int.le_trans (by decide) k83.1) (Or.inl (lt_dec k83.2 (by decide)))
        have r104 : SG 82 82 0 5 g89 := by rw [← eg89]; exact i76.up (Int.le_trans (by decide) k83.1) (Or.inl (lt_dec k83.2 (by decide)))
        have r105 : SG 97 100 0 11 g89 := by rw [← eg89]; exact i77.up (Int.le_trans (by decide) k83.1) (Or.inl (lt_dec k83.2 (by decide)))
        refine iast_g hx hb hK hP hD hS 2 0 rfl rfl (ix_k k83 (by decide) (by decide)) eg89 dX10_keeps_75 (fun H locs hP hD hS => ?_)
        have hP : va_P D vwCl [(h0, .inr (10, vL 67 Fh)), (h_s, .inl (cI, 335, .inl f_s)), (h_undone, .inl (cI, 192, .inl g89))] H := hP
        have hD : va_D A [(h0, .inr (10, vL 67 Fh)), (h_s, .inl (cI, 335, .inl f_s)), (h_undone, .inl (cI, 192, .inl g89))] := hD
        obtain ⟨v106, ev106⟩ : ∃ z : Int32, z = u59 + 1 := ⟨_, rfl⟩
        have bv106 : v106.toInt = u59.toInt + 1 := by rw [ev106]; exact add_k rfl rfl k81 ⟨Int.le_refl _, Int.le_refl _⟩ (by decide)
        have k107 : 1 ≤ v106.toInt ∧ v106.toInt ≤ 24 := add_r bv106 k81 ⟨Int.le_refl _, Int.le_refl _⟩ (by decide)
        refine lv_iinc (v := v106) (lv' := [(1, .int v106), (0, .ref h0)]) hx hb dX10_keeps_76 hl (k := 0) rfl (by rw [ev106]; rfl) (by decide) rfl (fun ls hl => ?_)
        refine lv_goto (tgt := 47) hx hb dX10_keeps_79 (by decide) ?_
        exact ih (v106, g89) ⟨(ir_wk k107 (by decide) (by decide)), r90, r91, r92, r93, r94, r95, r96, r97, r98, r99, r100, r101, r102, r103, r104, r105⟩ (by show (24 - v106.toInt).toNat < (24 - u59.toInt).toNat; omega) _ _ _ hP hD hS (lv_sub hl [0, 1] rfl)
    have dk56 : x_undoMany.toInt ≠ 1 := ne_i rfl rfl k56
    have k108 : 2 ≤ x_undoMany.toInt ∧ x_undoMany.toInt ≤ 7 := ⟨ne_lo dk56 k55.1 ⟨Int.le_refl _, Int.le_refl _⟩ (by decide), k55.2⟩
    by_cases k109 : x_undoMany = 2
    · have dk109 : x_undoMany.toInt = 2 := eq_i rfl rfl k109
      have k110 : 2 ≤ x_undoMany.toInt ∧ x_undoMany.toInt ≤ 2 := ⟨k108.1, Int.le_trans (Int.le_of_eq dk109) (Int.le_refl _)⟩
      have n111 : Fh 41 = .int 2 := by rw [e_undoMany]; exact congrArg Value.int k109
      refine lv_iconst (v := 0) hx hb dX10_keeps_45 (by decide) ?_
      refine lv_istore_n (lv' := [(1, .int 0), (0, .ref h0)]) hx hb dX10_keeps_46 rfl hl (by decide) rfl (fun ls hl => ?_)
      refine mloop (α := (Int32) × (Nat → Int32)) (nL := 2) (D := D) (A := A) (H0 := s.heap) (fun a => (24 - a.1.toInt).toNat) (fun a => IR 0 24 a.1 ∧ SG 1 4 0 11 a.2 ∧ SG 10 10 0 5 a.2 ∧ SG 106 106 0 5 a.2 ∧ SG 121 124 0 11 a.2 ∧ SG 130 130 0 5 a.2 ∧ SG 145 148 0 11 a.2 ∧ SG 154 154 0 5 a.2 ∧ SG 169 172 0 11 a.2 ∧ SG 178 178 0 5 a.2 ∧ SG 25 28 0 11 a.2 ∧ SG 34 34 0 5 a.2 ∧ SG 49 52 0 11 a.2 ∧ SG 58 58 0 5 a.2 ∧ SG 73 76 0 11 a.2 ∧ SG 82 82 0 5 a.2 ∧ SG 97 100 0 11 a.2) (fun a => [(h0, .inr (10, vL 67 Fh)), (h_s, .inl (cI, 335, .inl f_s)), (h_undone, .inl (cI, 192, .inl a.2))]) (fun a => [(1, .int a.1), (0, .ref h0)]) (fun H locs ls => W p l e ({ frames := 0, cells := 0, slots := 0, locals := 0 } : Room) s m [.ref h0].toArray below meth c H locs 0 0 (MQ below (va_Qv (fun (u : va_W) => ∃ (Gh : Nat → Value) (y_undoMany : Int32) (g_undone : Nat → Int32), SAME [41] Fh Gh ∧ Gh 41 = .int y_undoMany ∧ IR 1 8 y_undoMany ∧ SG 1 4 0 11 g_undone ∧ SG 10 10 0 5 g_undone ∧ SG 25 28 0 11 g_undone ∧ SG 34 34 0 5 g_undone ∧ SG 49 52 0 11 g_undone ∧ SG 58 58 0 5 g_undone ∧ SG 73 76 0 11 g_undone ∧ SG 82 82 0 5 g_undone ∧ SG 97 100 0 11 g_undone ∧ SG 106 106 0 5 g_undone ∧ SG 121 124 0 11 g_undone ∧ SG 130 130 0 5 g_undone ∧ SG 145 148 0 11 g_undone ∧ SG 154 154 0 5 g_undone ∧ SG 169 172 0 11 g_undone ∧ SG 178 178 0 5 g_undone ∧ u = [(h0, .inr (10, vL 67 Gh)), (h_s, .inl (cI, 335, .inl f_s)), (h_undone, .inl (cI, 192, .inl g_undone))]) (PO D A) A) [.ref h0].toArray s 0 0 A) (F0 m 47 ls [])) ?_ (0, f_undone) ⟨(show 0 ≤ (0 : Int32).toInt ∧ (0 : Int32).toInt ≤ 24 by decide), s_undone_1, s_undone_10, s_undone_106, s_undone_121, s_undone_130, s_undone_145, s_undone_154, s_undone_169, s_undone_178, s_undone_25, s_undone_34, s_undone_49, s_undone_58, s_undone_73, s_undone_82, s_undone_97⟩ _ _ _ hP hD hS hl
      rintro ⟨u112, w113⟩ ⟨i114, i115, i116, i117, i118, i119, i120, i121, i122, i123, i124, i125, i126, i127, i128, i129, i130⟩ ih H locs ls hP hD hS hl
      have i114 : 0 ≤ u112.toInt ∧ u112.toInt ≤ 24 := i114
      have hP : va_P D vwCl [(h0, .inr (10, vL 67 Fh)), (h_s, .inl (cI, 335, .inl f_s)), (h_undone, .inl (cI, 192, .inl w113))] H := hP
      have hD : va_D A [(h0, .inr (10, vL 67 Fh)), (h_s, .inl (cI, 335, .inl f_s)), (h_undone, .inl (cI, 192, .inl w113))] := hD
      have hl : lv_has ls 2 [(1, .int u112), (0, .ref h0)] := hl
      refine lv_iload_n hx hb dX10_keeps_47 rfl (lv_at hl 0 rfl) ?_
      refine lv_bipush (v := 24) hx hb dX10_keeps_48 (by decide) ?_
      refine lv_icmp_ge (tgt := 82) hx hb dX10_keeps_50 (by decide) (fun c131 => ?_) (fun c131 => ?_)
      · have dc131 : 24 ≤ u112.toInt := le_i (a := 24) (b := u112.toInt) rfl rfl c131
        have k132 : 24 ≤ u112.toInt ∧ u112.toInt ≤ 24 := ⟨Int.le_trans (Int.le_refl _) dc131, i114.2⟩
        refine lv_aload_n hx hb dX10_keeps_82 rfl (lv_at hl 1 rfl) ?_
        refine lv_dup hx hb dX10_keeps_83 rfl ?_
        refine get_f (D := D) (ci := 10) (v := .int 2) (C := RX10) (T := TX10) (N := 67) hx hb hw inAX10 hown hK hP 0 rfl rfl 41 (by decide) (hw _ q_1302) (fun _ h9 => h9) n111 dX10_keeps_84 ?_
        refine lv_iconst (v := 1) hx hb dX10_keeps_87 (by decide) ?_
        refine lv_iadd hx hb dX10_keeps_88 ?_
        refine lv_ci (y := 3) (by decide +kernel) ?_
        refine put_f (D := D) (ci := 10) (v := .int 3) (ty := .int) (C := RX10) (T := TX10) (N := 67) hx hb hw inAX10 tyX10 tyX10_ok nmX10 hown hK hP hD hS 0 rfl rfl 41 (by decide) (hw _ q_1302) (fun _ h9 => h9) rfl (by decide +kernel) rfl rfl dX10_keeps_89 (fun H locs F133 eF133 hP hD hS => ?_)
        have hP : va_P D vwCl [(h0, .inr (10, vL 67 F133)), (h_s, .inl (cI, 335, .inl f_s)), (h_undone, .inl (cI, 192, .inl w113))] H := hP
        have hD : va_D A [(h0, .inr (10, vL 67 F133)), (h_s, .inl (cI, 335, .inl f_s)), (h_undone, .inl (cI, 192, .inl w113))] := hD
        exact ret_v hx hb hr hlocks hS hP hD dX10_keeps_92 (Nat.le_of_ble_eq_true rfl) (Nat.le_of_ble_eq_true rfl) ⟨F133, 3, w113, (SAME.up eF133 SAME.rf (by decide)), (get_eq eF133), (show 1 ≤ (3 : Int32).toInt ∧ (3 : Int32).toInt ≤ 8 by decide), i115, i116, i124, i125, i126, i127, i128, i129, i130, i117, i118, i119, i120, i121, i122, i123, rfl⟩
      · have dc131 : u112.toInt < 24 := nle_i (a := 24) (b := u112.toInt) rfl rfl c131
        have k134 : 0 ≤ u112.toInt ∧ u112.toInt ≤ 23 := ⟨i114.1, up_lt dc131 (Int.le_refl _) (by decide)⟩
        refine lv_aload_n hx hb dX10_keeps_53 rfl (lv_at hl 1 rfl) ?_
        refine get_f (D := D) (ci := 10) (v := .ref h_undone) (C := RX10) (T := TX10) (N := 67) hx hb hw inAX10 hown hK hP 0 rfl rfl 39 (by decide) (hw _ q_1300) (fun _ h9 => h9) e_undone dX10_keeps_54 ?_
        refine lv_bipush (v := 24) hx hb dX10_keeps_57 (by decide) ?_
        refine lv_aload_n hx hb dX10_keeps_59 rfl (lv_at hl 1 rfl) ?_
        refine get_f (D := D) (ci := 10) (v := .int 2) (C := RX10) (T := TX10) (N := 67) hx hb hw inAX10 hown hK hP 0 rfl rfl 41 (by decide) (hw _ q_1302) (fun _ h9 => h9) n111 dX10_keeps_60 ?_
        refine lv_imul hx hb dX10_keeps_63 ?_
        refine lv_ci (y := 48) (by decide +kernel) ?_
        refine lv_iload_n hx hb dX10_keeps_64 rfl (lv_at hl 0 rfl) ?_
        refine lv_iadd hx hb dX10_keeps_65 ?_
        refine lv_topi (fun v135 ev135 => ?_)
        have bv135 : v135.toInt = 48 + u112.toInt := by rw [ev135]; exact add_k rfl rfl ⟨Int.le_refl _, Int.le_refl _⟩ k134 (by decide)
        have k136 : 48 ≤ v135.toInt ∧ v135.toInt ≤ 71 := add_r bv135 ⟨Int.le_refl _, Int.le_refl _⟩ k134 (by decide)
        refine lv_aload_n hx hb dX10_keeps_66 rfl (lv_at hl 1 rfl) ?_
        refine get_f (D := D) (ci := 10) (v := .ref h_s) (C := RX10) (T := TX10) (N := 67) hx hb hw inAX10 hown hK hP 0 rfl rfl 6 (by decide) (hw _ q_1267) (fun _ h9 => h9) e_s dX10_keeps_67 ?_
        refine lv_bipush (v := 104) hx hb dX10_keeps_70 (by decide) ?_
        refine lv_iload_n hx hb dX10_keeps_72 rfl (lv_at hl 0 rfl) ?_
        refine lv_iadd hx hb dX10_keeps_73 ?_
        refine lv_topi (fun v137 ev137 => ?_)
        have bv137 : v137.toInt = 104 + u112.toInt := by rw [ev137]; exact add_k rfl rfl ⟨Int.le_refl _, Int.le_refl _⟩ k134 (by decide)
        have k138 : 104 ≤ v137.toInt ∧ v137.toInt ≤ 127 := add_r bv137 ⟨Int.le_refl _, Int.le_refl _⟩ k134 (by decide)
        refine va_iald hx hb hK hP 1 0 rfl rfl (ix_k k138 (by decide) (by decide)) dX10_keeps_74 ?_
        refine lv_topi (fun v139 ev139 => ?_)
        have r140 : IMP (105 ≤ v137.toInt → v137.toInt ≤ 108 → 0 ≤ v139.toInt ∧ v139.toInt ≤ 11) := IMP.mk (fun q1 q2 => by rw [ev139]; exact s_s_105.at _ q1 q2)
        have r141 : IMP (114 ≤ v137.toInt → v137.toInt ≤ 114 → 0 ≤ v139.toInt ∧ v139.toInt ≤ 5) := IMP.mk (fun q1 q2 => by rw [ev139]; exact s_s_114.at _ q1 q2)
        obtain ⟨g142, eg142⟩ : ∃ z : Nat → Int32, upd w113 v135.toNatClampNeg v139 = z := ⟨_, rfl⟩
        have r143 : SG 1 4 0 11 g142 := by rw [← eg142]; exact i115.up (Int.le_trans (by decide) k136.1) (Or.inr (Or.inl (dec_lt k136.1 (by decide))))
        have r144 : SG 10 10 0 5 g142 := by rw [← eg142]; exact i116.up (Int.le_trans (by decide) k136.1) (Or.inr (Or.inl (dec_lt k136.1 (by decide))))
        have r145 : SG 106 106 0 5 g142 := by rw [← eg142]; exact i117.up (Int.le_trans (by decide) k136.1) (Or.inl (lt_dec k136.2 (by decide)))
        have r146 : SG 121 124 0 11 g142 := by rw [← eg142]; exact i118.up (Int.le_trans (by decide) k136.1) (Or.inl (lt_dec k136.2 (by decide)))
        have r147 : SG 130 130 0 5 g142 := by rw [← eg142]; exact i119.up (Int.le_trans (by decide) k136.1) (Or.inl (lt_dec k136.2 (by decide)))
        have r148 : SG 145 148 0 11 g142 := by rw [← eg142]; exact i120.up (Int.le_trans (by decide) k136.1) (Or.inl (lt_dec k136.2 (by decide)))
        have r149 : SG 154 154 0 5 g142 := by rw [← eg142]; exact i121.up (Int.le_trans (by decide) k136.1) (Or.inl (lt_dec k136.2 (by decide)))
        have r150 : SG 169 172 0 11 g142 := by rw [← eg142]; exact i122.up (Int.le_trans (by decide) k136.1) (Or.inl (lt_dec k136.2 (by decide)))
        have r151 : SG 178 178 0 5 g142 := by rw [← eg142]; exact i123.up (Int.le_trans (by decide) k136.1) (Or.inl (lt_dec k136.2 (by decide)))
        have r152 : SG 25 28 0 11 g142 := by rw [← eg142]; exact i124.up (Int.le_trans (by decide) k136.1) (Or.inr (Or.inl (dec_lt k136.1 (by decide))))
        have r153 : SG 34 34 0 5 g142 := by rw [← eg142]; exact i125.up (Int.le_trans (by decide) k136.1) (Or.inr (Or.inl (dec_lt k136.1 (by decide))))
        have r154 : SG 49 52 0 11 g142 := by rw [← eg142]; exact i126.upI (Int.le_trans (by decide) k136.1) (fun q1 q2 => ⟨Int.le_trans (by decide) (r140.h (by omega) (by omega)).1, Int.le_trans (r140.h (by omega) (by omega)).2 (by decide)⟩)
        have r155 : SG 58 58 0 5 g142 := by rw [← eg142]; exact i127.upI (Int.le_trans (by decide) k136.1) (fun q1 q2 => ⟨Int.le_trans (by decide) (r141.h (by omega) (by omega)).1, Int.le_trans (r141.h (by omega) (by omega)).2 (by decide)⟩)
        have r156 : SG 73 76 0 11 g142 := by rw [← eg142]; exact i128.up (Int.le_trans (by decide) k136.1) (Or.inl (lt_dec k136.2 (by decide)))
        have r157 : SG 82 82 0 5 g142 := by rw [← eg142]; exact i129.up (Int.le_trans (by decide) k136.1) (Or.inl (lt_dec k136.2 (by decide)))
        have r158 : SG 97 100 0 11 g142 := by rw [← eg142]; exact i130.up (Int.le_trans (by decide) k136.1) (Or.inl (lt_dec k136.2 (by decide)))
        refine iast_g hx hb hK hP hD hS 2 0 rfl rfl (ix_k k136 (by decide) (by decide)) eg142 dX10_keeps_75 (fun H locs hP hD hS => ?_)
        have hP : va_P D vwCl [(h0, .inr (10, vL 67 Fh)), (h_s, .inl (cI, 335, .inl f_s)), (h_undone, .inl (cI, 192, .inl g142))] H := hP
        have hD : va_D A [(h0, .inr (10, vL 67 Fh)), (h_s, .inl (cI, 335, .inl f_s)), (h_undone, .inl (cI, 192, .inl g142))] := hD
        obtain ⟨v159, ev159⟩ : ∃ z : Int32, z = u112 + 1 := ⟨_, rfl⟩
        have bv159 : v159.toInt = u112.toInt + 1 := by rw [ev159]; exact add_k rfl rfl k134 ⟨Int.le_refl _, Int.le_refl _⟩ (by decide)
        have k160 : 1 ≤ v159.toInt ∧ v159.toInt ≤ 24 := add_r bv159 k134 ⟨Int.le_refl _, Int.le_refl _⟩ (by decide)
        refine lv_iinc (v := v159) (lv' := [(1, .int v159), (0, .ref h0)]) hx hb dX10_keeps_76 hl (k := 0) rfl (by rw [ev159]; rfl) (by decide) rfl (fun ls hl => ?_)
        refine lv_goto (tgt := 47) hx hb dX10_keeps_79 (by decide) ?_
        exact ih (v159, g142) ⟨(ir_wk k160 (by decide) (by decide)), r143, r144, r145, r146, r147, r148, r149, r150, r151, r152, r153, r154, r155, r156, r157, r158⟩ (by show (24 - v159.toInt).toNat < (24 - u112.toInt).toNat; omega) _ _ _ hP hD hS (lv_sub hl [0, 1] rfl)
    have dk109 : x_undoMany.toInt ≠ 2 := ne_i rfl rfl k109
    have k161 : 3 ≤ x_undoMany.toInt ∧ x_undoMany.toInt ≤ 7 := ⟨ne_lo dk109 k108.1 ⟨Int.le_refl _, Int.le_refl _⟩ (by decide), k108.2⟩
    by_cases k162 : x_undoMany = 3
    · have dk162 : x_undoMany.toInt = 3 := eq_i rfl rfl k162
      have k163 : 3 ≤ x_undoMany.toInt ∧ x_undoMany.toInt ≤ 3 := ⟨k161.1, Int.le_trans (Int.le_of_eq dk162) (Int.le_refl _)⟩
      have n164 : Fh 41 = .int 3 := by rw [e_undoMany]; exact congrArg Value.int k162
      refine lv_iconst (v := 0) hx hb dX10_keeps_45 (by decide) ?_
      refine lv_istore_n (lv' := [(1, .int 0), (0, .ref h0)]) hx hb dX10_keeps_46 rfl hl (by decide) rfl (fun ls hl => ?_)
      refine mloop (α := (Int32) × (Nat → Int32)) (nL := 2) (D := D) (A := A) (H0 := s.heap) (fun a => (24 - a.1.toInt).toNat) (fun a => IR 0 24 a.1 ∧ SG 1 4 0 11 a.2 ∧ SG 10 10 0 5 a.2 ∧ SG 106 106 0 5 a.2 ∧ SG 121 124 0 11 a.2 ∧ SG 130 130 0 5 a.2 ∧ SG 145 148 0 11 a.2 ∧ SG 154 154 0 5 a.2 ∧ SG 169 172 0 11 a.2 ∧ SG 178 178 0 5 a.2 ∧ SG 25 28 0 11 a.2 ∧ SG 34 34 0 5 a.2 ∧ SG 49 52 0 11 a.2 ∧ SG 58 58 0 5 a.2 ∧ SG 73 76 0 11 a.2 ∧ SG 82 82 0 5 a.2 ∧ SG 97 100 0 11 a.2) (fun a => [(h0, .inr (10, vL 67 Fh)), (h_s, .inl (cI, 335, .inl f_s)), (h_undone, .inl (cI, 192, .inl a.2))]) (fun a => [(1, .int a.1), (0, .ref h0)]) (fun H locs ls => W p l e ({ frames := 0, cells := 0, slots := 0, locals := 0 } : Room) s m [.ref h0].toArray below meth c H locs 0 0 (MQ below (va_Qv (fun (u : va_W) => ∃ (Gh : Nat → Value) (y_undoMany : Int32) (g_undone : Nat → Int32), SAME [41] Fh Gh ∧ Gh 41 = .int y_undoMany ∧ IR 1 8 y_undoMany ∧ SG 1 4 0 11 g_undone ∧ SG 10 10 0 5 g_undone ∧ SG 25 28 0 11 g_undone ∧ SG 34 34 0 5 g_undone ∧ SG 49 52 0 11 g_undone ∧ SG 58 58 0 5 g_undone ∧ SG 73 76 0 11 g_undone ∧ SG 82 82 0 5 g_undone ∧ SG 97 100 0 11 g_undone ∧ SG 106 106 0 5 g_undone ∧ SG 121 124 0 11 g_undone ∧ SG 130 130 0 5 g_undone ∧ SG 145 148 0 11 g_undone ∧ SG 154 154 0 5 g_undone ∧ SG 169 172 0 11 g_undone ∧ SG 178 178 0 5 g_undone ∧ u = [(h0, .inr (10, vL 67 Gh)), (h_s, .inl (cI, 335, .inl f_s)), (h_undone, .inl (cI, 192, .inl g_undone))]) (PO D A) A) [.ref h0].toArray s 0 0 A) (F0 m 47 ls [])) ?_ (0, f_undone) ⟨(show 0 ≤ (0 : Int32).toInt ∧ (0 : Int32).toInt ≤ 24 by decide), s_undone_1, s_undone_10, s_undone_106, s_undone_121, s_undone_130, s_undone_145, s_undone_154, s_undone_169, s_undone_178, s_undone_25, s_undone_34, s_undone_49, s_undone_58, s_undone_73, s_undone_82, s_undone_97⟩ _ _ _ hP hD hS hl
      rintro ⟨u165, w166⟩ ⟨i167, i168, i169, i170, i171, i172, i173, i174, i175, i176, i177, i178, i179, i180, i181, i182, i183⟩ ih H locs ls hP hD hS hl
      have i167 : 0 ≤ u165.toInt ∧ u165.toInt ≤ 24 := i167
      have hP : va_P D vwCl [(h0, .inr (10, vL 67 Fh)), (h_s, .inl (cI, 335, .inl f_s)), (h_undone, .inl (cI, 192, .inl w166))] H := hP
      have hD : va_D A [(h0, .inr (10, vL 67 Fh)), (h_s, .inl (cI, 335, .inl f_s)), (h_undone, .inl (cI, 192, .inl w166))] := hD
      have hl : lv_has ls 2 [(1, .int u165), (0, .ref h0)] := hl
      refine lv_iload_n hx hb dX10_keeps_47 rfl (lv_at hl 0 rfl) ?_
      refine lv_bipush (v := 24) hx hb dX10_keeps_48 (by decide) ?_
      refine lv_icmp_ge (tgt := 82) hx hb dX10_keeps_50 (by decide) (fun c184 => ?_) (fun c184 => ?_)
      · have dc184 : 24 ≤ u165.toInt := le_i (a := 24) (b := u165.toInt) rfl rfl c184
        have k185 : 24 ≤ u165.toInt ∧ u165.toInt ≤ 24 := ⟨Int.le_trans (Int.le_refl _) dc184, i167.2⟩
        refine lv_aload_n hx hb dX10_keeps_82 rfl (lv_at hl 1 rfl) ?_
        refine lv_dup hx hb dX10_keeps_83 rfl ?_
        refine get_f (D := D) (ci := 10) (v := .int 3) (C := RX10) (T := TX10) (N := 67) hx hb hw inAX10 hown hK hP 0 rfl rfl 41 (by decide) (hw _ q_1302) (fun _ h9 => h9) n164 dX10_keeps_84 ?_
        refine lv_iconst (v := 1) hx hb dX10_keeps_87 (by decide) ?_
        refine lv_iadd hx hb dX10_keeps_88 ?_
        refine lv_ci (y := 4) (by decide +kernel) ?_
        refine put_f (D := D) (ci := 10) (v := .int 4) (ty := .int) (C := RX10) (T := TX10) (N := 67) hx hb hw inAX10 tyX10 tyX10_ok nmX10 hown hK hP hD hS 0 rfl rfl 41 (by decide) (hw _ q_1302) (fun _ h9 => h9) rfl (by decide +kernel) rfl rfl dX10_keeps_89 (fun H locs F186 eF186 hP hD hS => ?_)
        have hP : va_P D vwCl [(h0, .inr (10, vL 67 F186)), (h_s, .inl (cI, 335, .inl f_s)), (h_undone, .inl (cI, 192, .inl w166))] H := hP
        have hD : va_D A [(h0, .inr (10, vL 67 F186)), (h_s, .inl (cI, 335, .inl f_s)), (h_undone, .inl (cI, 192, .inl w166))] := hD
        exact ret_v hx hb hr hlocks hS hP hD dX10_keeps_92 (Nat.le_of_ble_eq_true rfl) (Nat.le_of_ble_eq_true rfl) ⟨F186, 4, w166, (SAME.up eF186 SAME.rf (by decide)), (get_eq eF186), (show 1 ≤ (4 : Int32).toInt ∧ (4 : Int32).toInt ≤ 8 by decide), i168, i169, i177, i178, i179, i180, i181, i182, i183, i170, i171, i172, i173, i174, i175, i176, rfl⟩
      · have dc184 : u165.toInt < 24 := nle_i (a := 24) (b := u165.toInt) rfl rfl c184
        have k187 : 0 ≤ u165.toInt ∧ u165.toInt ≤ 23 := ⟨i167.1, up_lt dc184 (Int.le_refl _) (by decide)⟩
        refine lv_aload_n hx hb dX10_keeps_53 rfl (lv_at hl 1 rfl) ?_
        refine get_f (D := D) (ci := 10) (v := .ref h_undone) (C := RX10) (T := TX10) (N := 67) hx hb hw inAX10 hown hK hP 0 rfl rfl 39 (by decide) (hw _ q_1300) (fun _ h9 => h9) e_undone dX10_keeps_54 ?_
        refine lv_bipush (v := 24) hx hb dX10_keeps_57 (by decide) ?_
        refine lv_aload_n hx hb dX10_keeps_59 rfl (lv_at hl 1 rfl) ?_
        refine get_f (D := D) (ci := 10) (v := .int 3) (C := RX10) (T := TX10) (N := 67) hx hb hw inAX10 hown hK hP 0 rfl rfl 41 (by decide) (hw _ q_1302) (fun _ h9 => h9) n164 dX10_keeps_60 ?_
        refine lv_imul hx hb dX10_keeps_63 ?_
        refine lv_ci (y := 72) (by decide +kernel) ?_
        refine lv_iload_n hx hb dX10_keeps_64 rfl (lv_at hl 0 rfl) ?_
        refine lv_iadd hx hb dX10_keeps_65 ?_
        refine lv_topi (fun v188 ev188 => ?_)
        have bv188 : v188.toInt = 72 + u165.toInt := by rw [ev188]; exact add_k rfl rfl ⟨Int.le_refl _, Int.le_refl _⟩ k187 (by decide)
        have k189 : 72 ≤ v188.toInt ∧ v188.toInt ≤ 95 := add_r bv188 ⟨Int.le_refl _, Int.le_refl _⟩ k187 (by decide)
        refine lv_aload_n hx hb dX10_keeps_66 rfl (lv_at hl 1 rfl) ?_
        refine get_f (D := D) (ci := 10) (v := .ref h_s) (C := RX10) (T := TX10) (N := 67) hx hb hw inAX10 hown hK hP 0 rfl rfl 6 (by decide) (hw _ q_1267) (fun _ h9 => h9) e_s dX10_keeps_67 ?_
        refine lv_bipush (v := 104) hx hb dX10_keeps_70 (by decide) ?_
        refine lv_iload_n hx hb dX10_keeps_72 rfl (lv_at hl 0 rfl) ?_
        refine lv_iadd hx hb dX10_keeps_73 ?_
        refine lv_topi (fun v190 ev190 => ?_)
        have bv190 : v190.toInt = 104 + u165.toInt := by rw [ev190]; exact add_k rfl rfl ⟨Int.le_refl _, Int.le_refl _⟩ k187 (by decide)
        have k191 : 104 ≤ v190.toInt ∧ v190.toInt ≤ 127 := add_r bv190 ⟨Int.le_refl _, Int.le_refl _⟩ k187 (by decide)
        refine va_iald hx hb hK hP 1 0 rfl rfl (ix_k k191 (by decide) (by decide)) dX10_keeps_74 ?_
        refine lv_topi (fun v192 ev192 => ?_)
        have r193 : IMP (105 ≤ v190.toInt → v190.toInt ≤ 108 → 0 ≤ v192.toInt ∧ v192.toInt ≤ 11) := IMP.mk (fun q1 q2 => by rw [ev192]; exact s_s_105.at _ q1 q2)
        have r194 : IMP (114 ≤ v190.toInt → v190.toInt ≤ 114 → 0 ≤ v192.toInt ∧ v192.toInt ≤ 5) := IMP.mk (fun q1 q2 => by rw [ev192]; exact s_s_114.at _ q1 q2)
        obtain ⟨g195, eg195⟩ : ∃ z : Nat → Int32, upd w166 v188.toNatClampNeg v192 = z := ⟨_, rfl⟩
        have r196 : SG 1 4 0 11 g195 := by rw [← eg195]; exact i168.up (Int.le_trans (by decide) k189.1) (Or.inr (Or.inl (dec_lt k189.1 (by decide))))
        have r197 : SG 10 10 0 5 g195 := by rw [← eg195]; exact i169.up (Int.le_trans (by decide) k189.1) (Or.inr (Or.inl (dec_lt k189.1 (by decide))))
        have r198 : SG 106 106 0 5 g195 := by rw [← eg195]; exact i170.up (Int.le_trans (by decide) k189.1) (Or.inl (lt_dec k189.2 (by decide)))
        have r199 : SG 121 124 0 11 g195 := by rw [← eg195]; exact i171.up (Int.le_trans (by decide) k189.1) (Or.inl (lt_dec k189.2 (by decide)))
        have r200 : SG 130 130 0 5 g195 := by rw [← eg195]; exact i172.up (Int.le_trans (by decide) k189.1) (Or.inl (lt_dec k189.2 (by decide)))
        have r201 : SG 145 148 0 11 g195 := by rw [← eg195]; exact i173.up (Int.le_trans (by decide) k189.1) (Or.inl (lt_dec k189.2 (by decide)))
        have r202 : SG 154 154 0 5 g195 := by rw [← eg195]; exact i174.up (Int.le_trans (by decide) k189.1) (Or.inl (lt_dec k189.2 (by decide)))
        have r203 : SG 169 172 0 11 g195 := by rw [← eg195]; exact i175.up (Int.le_trans (by decide) k189.1) (Or.inl (lt_dec k189.2 (by decide)))
        have r204 : SG 178 178 0 5 g195 := by rw [← eg195]; exact i176.up (Int.le_trans (by decide) k189.1) (Or.inl (lt_dec k189.2 (by decide)))
        have r205 : SG 25 28 0 11 g195 := by rw [← eg195]; exact i177.up (Int.le_trans (by decide) k189.1) (Or.inr (Or.inl (dec_lt k189.1 (by decide))))
        have r206 : SG 34 34 0 5 g195 := by rw [← eg195]; exact i178.up (Int.le_trans (by decide) k189.1) (Or.inr (Or.inl (dec_lt k189.1 (by decide))))
        have r207 : SG 49 52 0 11 g195 := by rw [← eg195]; exact i179.up (Int.le_trans (by decide) k189.1) (Or.inr (Or.inl (dec_lt k189.1 (by decide))))
        have r208 : SG 58 58 0 5 g195 := by rw [← eg195]; exact i180.up (Int.le_trans (by decide) k189.1) (Or.inr (Or.inl (dec_lt k189.1 (by decide))))
        have r209 : SG 73 76 0 11 g195 := by rw [← eg195]; exact i181.upI (Int.le_trans (by decide) k189.1) (fun q1 q2 => ⟨Int.le_trans (by decide) (r193.h (by omega) (by omega)).1, Int.le_trans (r193.h (by omega) (by omega)).2 (by decide)⟩)
        have r210 : SG 82 82 0 5 g195 := by rw [← eg195]; exact i182.upI (Int.le_trans (by decide) k189.1) (fun q1 q2 => ⟨Int.le_trans (by decide) (r194.h (by omega) (by omega)).1, Int.le_trans (r194.h (by omega) (by omega)).2 (by decide)⟩)
        have r211 : SG 97 100 0 11 g195 := by rw [← eg195]; exact i183.up (Int.le_trans (by decide) k189.1) (Or.inl (lt_dec k189.2 (by decide)))
        refine iast_g hx hb hK hP hD hS 2 0 rfl rfl (ix_k k189 (by decide) (by decide)) eg195 dX10_keeps_75 (fun H locs hP hD hS => ?_)
        have hP : va_P D vwCl [(h0, .inr (10, vL 67 Fh)), (h_s, .inl (cI, 335, .inl f_s)), (h_undone, .inl (cI, 192, .inl g195))] H := hP
        have hD : va_D A [(h0, .inr (10, vL 67 Fh)), (h_s, .inl (cI, 335, .inl f_s)), (h_undone, .inl (cI, 192, .inl g195))] := hD
        obtain ⟨v212, ev212⟩ : ∃ z : Int32, z = u165 + 1 := ⟨_, rfl⟩
        have bv212 : v212.toInt = u165.toInt + 1 := by rw [ev212]; exact add_k rfl rfl k187 ⟨Int.le_refl _, Int.le_refl _⟩ (by decide)
        have k213 : 1 ≤ v212.toInt ∧ v212.toInt ≤ 24 := add_r bv212 k187 ⟨Int.le_refl _, Int.le_refl _⟩ (by decide)
        refine lv_iinc (v := v212) (lv' := [(1, .int v212), (0, .ref h0)]) hx hb dX10_keeps_76 hl (k := 0) rfl (by rw [ev212]; rfl) (by decide) rfl (fun ls hl => ?_)
        refine lv_goto (tgt := 47) hx hb dX10_keeps_79 (by decide) ?_
        exact ih (v212, g195) ⟨(ir_wk k213 (by decide) (by decide)), r196, r197, r198, r199, r200, r201, r202, r203, r204, r205, r206, r207, r208, r209, r210, r211⟩ (by show (24 - v212.toInt).toNat < (24 - u165.toInt).toNat; omega) _ _ _ hP hD hS (lv_sub hl [0, 1] rfl)
    have dk162 : x_undoMany.toInt ≠ 3 := ne_i rfl rfl k162
    have k214 : 4 ≤ x_undoMany.toInt ∧ x_undoMany.toInt ≤ 7 := ⟨ne_lo dk162 k161.1 ⟨Int.le_refl _, Int.le_refl _⟩ (by decide), k161.2⟩
    by_cases k215 : x_undoMany = 4
    · have dk215 : x_undoMany.toInt = 4 := eq_i rfl rfl k215
      have k216 : 4 ≤ x_undoMany.toInt ∧ x_undoMany.toInt ≤ 4 := ⟨k214.1, Int.le_trans (Int.le_of_eq dk215) (Int.le_refl _)⟩
      have n217 : Fh 41 = .int 4 := by rw [e_undoMany]; exact congrArg Value.int k215
      refine lv_iconst (v := 0) hx hb dX10_keeps_45 (by decide) ?_
      refine lv_istore_n (lv' := [(1, .int 0), (0, .ref h0)]) hx hb dX10_keeps_46 rfl hl (by decide) rfl (fun ls hl => ?_)
      refine mloop (α := (Int32) × (Nat → Int32)) (nL := 2) (D := D) (A := A) (H0 := s.heap) (fun a => (24 - a.1.toInt).toNat) (fun a => IR 0 24 a.1 ∧ SG 1 4 0 11 a.2 ∧ SG 10 10 0 5 a.2 ∧ SG 106 106 0 5 a.2 ∧ SG 121 124 0 11 a.2 ∧ SG 130 130 0 5 a.2 ∧ SG 145 148 0 11 a.2 ∧ SG 154 154 0 5 a.2 ∧ SG 169 172 0 11 a.2 ∧ SG 178 178 0 5 a.2 ∧ SG 25 28 0 11 a.2 ∧ SG 34 34 0 5 a.2 ∧ SG 49 52 0 11 a.2 ∧ SG 58 58 0 5 a.2 ∧ SG 73 76 0 11 a.2 ∧ SG 82 82 0 5 a.2 ∧ SG 97 100 0 11 a.2) (fun a => [(h0, .inr (10, vL 67 Fh)), (h_s, .inl (cI, 335, .inl f_s)), (h_undone, .inl (cI, 192, .inl a.2))]) (fun a => [(1, .int a.1), (0, .ref h0)]) (fun H locs ls => W p l e ({ frames := 0, cells := 0, slots := 0, locals := 0 } : Room) s m [.ref h0].toArray below meth c H locs 0 0 (MQ below (va_Qv (fun (u : va_W) => ∃ (Gh : Nat → Value) (y_undoMany : Int32) (g_undone : Nat → Int32), SAME [41] Fh Gh ∧ Gh 41 = .int y_undoMany ∧ IR 1 8 y_undoMany ∧ SG 1 4 0 11 g_undone ∧ SG 10 10 0 5 g_undone ∧ SG 25 28 0 11 g_undone ∧ SG 34 34 0 5 g_undone ∧ SG 49 52 0 11 g_undone ∧ SG 58 58 0 5 g_undone ∧ SG 73 76 0 11 g_undone ∧ SG 82 82 0 5 g_undone ∧ SG 97 100 0 11 g_undone ∧ SG 106 106 0 5 g_undone ∧ SG 121 124 0 11 g_undone ∧ SG 130 130 0 5 g_undone ∧ SG 145 148 0 11 g_undone ∧ SG 154 154 0 5 g_undone ∧ SG 169 172 0 11 g_undone ∧ SG 178 178 0 5 g_undone ∧ u = [(h0, .inr (10, vL 67 Gh)), (h_s, .inl (cI, 335, .inl f_s)), (h_undone, .inl (cI, 192, .inl g_undone))]) (PO D A) A) [.ref h0].toArray s 0 0 A) (F0 m 47 ls [])) ?_ (0, f_undone) ⟨(show 0 ≤ (0 : Int32).toInt ∧ (0 : Int32).toInt ≤ 24 by decide), s_undone_1, s_undone_10, s_undone_106, s_undone_121, s_undone_130, s_undone_145, s_undone_154, s_undone_169, s_undone_178, s_undone_25, s_undone_34, s_undone_49, s_undone_58, s_undone_73, s_undone_82, s_undone_97⟩ _ _ _ hP hD hS hl
      rintro ⟨u218, w219⟩ ⟨i220, i221, i222, i223, i224, i225, i226, i227, i228, i229, i230, i231, i232, i233, i234, i235, i236⟩ ih H locs ls hP hD hS hl
      have i220 : 0 ≤ u218.toInt ∧ u218.toInt ≤ 24 := i220
      have hP : va_P D vwCl [(h0, .inr (10, vL 67 Fh)), (h_s, .inl (cI, 335, .inl f_s)), (h_undone, .inl (cI, 192, .inl w219))] H := hP
      have hD : va_D A [(h0, .inr (10, vL 67 Fh)), (h_s, .inl (cI, 335, .inl f_s)), (h_undone, .inl (cI, 192, .inl w219))] := hD
      have hl : lv_has ls 2 [(1, .int u218), (0, .ref h0)] := hl
      refine lv_iload_n hx hb dX10_keeps_47 rfl (lv_at hl 0 rfl) ?_
      refine lv_bipush (v := 24) hx hb dX10_keeps_48 (by decide) ?_
      refine lv_icmp_ge (tgt := 82) hx hb dX10_keeps_50 (by decide) (fun c237 => ?_) (fun c237 => ?_)
      · have dc237 : 24 ≤ u218.toInt := le_i (a := 24) (b := u218.toInt) rfl rfl c237
        have k238 : 24 ≤ u218.toInt ∧ u218.toInt ≤ 24 := ⟨Int.le_trans (Int.le_refl _) dc237, i220.2⟩
        refine lv_aload_n hx hb dX10_keeps_82 rfl (lv_at hl 1 rfl) ?_
        refine lv_dup hx hb dX10_keeps_83 rfl ?_
        refine get_f (D := D) (ci := 10) (v := .int 4) (C := RX10) (T := TX10) (N := 67) hx hb hw inAX10 hown hK hP 0 rfl rfl 41 (by decide) (hw _ q_1302) (fun _ h9 => h9) n217 dX10_keeps_84 ?_
        refine lv_iconst (v := 1) hx hb dX10_keeps_87 (by decide) ?_
        refine lv_iadd hx hb dX10_keeps_88 ?_
        refine lv_ci (y := 5) (by decide +kernel) ?_
        refine put_f (D := D) (ci := 10) (v := .int 5) (ty := .int) (C := RX10) (T := TX10) (N := 67) hx hb hw inAX10 tyX10 tyX10_ok nmX10 hown hK hP hD hS 0 rfl rfl 41 (by decide) (hw _ q_1302) (fun _ h9 => h9) rfl (by decide +kernel) rfl rfl dX10_keeps_89 (fun H locs F239 eF239 hP hD hS => ?_)
        have hP : va_P D vwCl [(h0, .inr (10, vL 67 F239)), (h_s, .inl (cI, 335, .inl f_s)), (h_undone, .inl (cI, 192, .inl w219))] H := hP
        have hD : va_D A [(h0, .inr (10, vL 67 F239)), (h_s, .inl (cI, 335, .inl f_s)), (h_undone, .inl (cI, 192, .inl w219))] := hD
        exact ret_v hx hb hr hlocks hS hP hD dX10_keeps_92 (Nat.le_of_ble_eq_true rfl) (Nat.le_of_ble_eq_true rfl) ⟨F239, 5, w219, (SAME.up eF239 SAME.rf (by decide)), (get_eq eF239), (show 1 ≤ (5 : Int32).toInt ∧ (5 : Int32).toInt ≤ 8 by decide), i221, i222, i230, i231, i232, i233, i234, i235, i236, i223, i224, i225, i226, i227, i228, i229, rfl⟩
      · have dc237 : u218.toInt < 24 := nle_i (a := 24) (b := u218.toInt) rfl rfl c237
        have k240 : 0 ≤ u218.toInt ∧ u218.toInt ≤ 23 := ⟨i220.1, up_lt dc237 (Int.le_refl _) (by decide)⟩
        refine lv_aload_n hx hb dX10_keeps_53 rfl (lv_at hl 1 rfl) ?_
        refine get_f (D := D) (ci := 10) (v := .ref h_undone) (C := RX10) (T := TX10) (N := 67) hx hb hw inAX10 hown hK hP 0 rfl rfl 39 (by decide) (hw _ q_1300) (fun _ h9 => h9) e_undone dX10_keeps_54 ?_
        refine lv_bipush (v := 24) hx hb dX10_keeps_57 (by decide) ?_
        refine lv_aload_n hx hb dX10_keeps_59 rfl (lv_at hl 1 rfl) ?_
        refine get_f (D := D) (ci := 10) (v := .int 4) (C := RX10) (T := TX10) (N := 67) hx hb hw inAX10 hown hK hP 0 rfl rfl 41 (by decide) (hw _ q_1302) (fun _ h9 => h9) n217 dX10_keeps_60 ?_
        refine lv_imul hx hb dX10_keeps_63 ?_
        refine lv_ci (y := 96) (by decide +kernel) ?_
        refine lv_iload_n hx hb dX10_keeps_64 rfl (lv_at hl 0 rfl) ?_
        refine lv_iadd hx hb dX10_keeps_65 ?_
        refine lv_topi (fun v241 ev241 => ?_)
        have bv241 : v241.toInt = 96 + u218.toInt := by rw [ev241]; exact add_k rfl rfl ⟨Int.le_refl _, Int.le_refl _⟩ k240 (by decide)
        have k242 : 96 ≤ v241.toInt ∧ v241.toInt ≤ 119 := add_r bv241 ⟨Int.le_refl _, Int.le_refl _⟩ k240 (by decide)
        refine lv_aload_n hx hb dX10_keeps_66 rfl (lv_at hl 1 rfl) ?_
        refine get_f (D := D) (ci := 10) (v := .ref h_s) (C := RX10) (T := TX10) (N := 67) hx hb hw inAX10 hown hK hP 0 rfl rfl 6 (by decide) (hw _ q_1267) (fun _ h9 => h9) e_s dX10_keeps_67 ?_
        refine lv_bipush (v := 104) hx hb dX10_keeps_70 (by decide) ?_
        refine lv_iload_n hx hb dX10_keeps_72 rfl (lv_at hl 0 rfl) ?_
        refine lv_iadd hx hb dX10_keeps_73 ?_
        refine lv_topi (fun v243 ev243 => ?_)
        have bv243 : v243.toInt = 104 + u218.toInt := by rw [ev243]; exact add_k rfl rfl ⟨Int.le_refl _, Int.le_refl _⟩ k240 (by decide)
        have k244 : 104 ≤ v243.toInt ∧ v243.toInt ≤ 127 := add_r bv243 ⟨Int.le_refl _, Int.le_refl _⟩ k240 (by decide)
        refine va_iald hx hb hK hP 1 0 rfl rfl (ix_k k244 (by decide) (by decide)) dX10_keeps_74 ?_
        refine lv_topi (fun v245 ev245 => ?_)
        have r246 : IMP (105 ≤ v243.toInt → v243.toInt ≤ 108 → 0 ≤ v245.toInt ∧ v245.toInt ≤ 11) := IMP.mk (fun q1 q2 => by rw [ev245]; exact s_s_105.at _ q1 q2)
        have r247 : IMP (114 ≤ v243.toInt → v243.toInt ≤ 114 → 0 ≤ v245.toInt ∧ v245.toInt ≤ 5) := IMP.mk (fun q1 q2 => by rw [ev245]; exact s_s_114.at _ q1 q2)
        obtain ⟨g248, eg248⟩ : ∃ z : Nat → Int32, upd w219 v241.toNatClampNeg v245 = z := ⟨_, rfl⟩
        have r249 : SG 1 4 0 11 g248 := by rw [← eg248]; exact i221.up (Int.le_trans (by decide) k242.1) (Or.inr (Or.inl (dec_lt k242.1 (by decide))))
        have r250 : SG 10 10 0 5 g248 := by rw [← eg248]; exact i222.up (Int.le_trans (by decide) k242.1) (Or.inr (Or.inl (dec_lt k242.1 (by decide))))
        have r251 : SG 106 106 0 5 g248 := by rw [← eg248]; exact i223.upI (Int.le_trans (by decide) k242.1) (fun q1 q2 => ⟨Int.le_trans (by decide) (r247.h (by omega) (by omega)).1, Int.le_trans (r247.h (by omega) (by omega)).2 (by decide)⟩)
        have r252 : SG 121 124 0 11 g248 := by rw [← eg248]; exact i224.up (Int.le_trans (by decide) k242.1) (Or.inl (lt_dec k242.2 (by decide)))
        have r253 : SG 130 130 0 5 g248 := by rw [← eg248]; exact i225.up (Int.le_trans (by decide) k242.1) (Or.inl (lt_dec k242.2 (by decide)))
        have r254 : SG 145 148 0 11 g248 := by rw [← eg248]; exact i226.up (Int.le_trans (by decide) k242.1) (Or.inl (lt_dec k242.2 (by decide)))
        have r255 : SG 154 154 0 5 g248 := by rw [← eg248]; exact i227.up (Int.le_trans (by decide) k242.1) (Or.inl (lt_dec k242.2 (by decide)))
        have r256 : SG 169 172 0 11 g248 := by rw [← eg248]; exact i228.up (Int.le_trans (by decide) k242.1) (Or.inl (lt_dec k242.2 (by decide)))
        have r257 : SG 178 178 0 5 g248 := by rw [← eg248]; exact i229.up (Int.le_trans (by decide) k242.1) (Or.inl (lt_dec k242.2 (by decide)))
        have r258 : SG 25 28 0 11 g248 := by rw [← eg248]; exact i230.up (Int.le_trans (by decide) k242.1) (Or.inr (Or.inl (dec_lt k242.1 (by decide))))
        have r259 : SG 34 34 0 5 g248 := by rw [← eg248]; exact i231.up (Int.le_trans (by decide) k242.1) (Or.inr (Or.inl (dec_lt k242.1 (by decide))))
        have r260 : SG 49 52 0 11 g248 := by rw [← eg248]; exact i232.up (Int.le_trans (by decide) k242.1) (Or.inr (Or.inl (dec_lt k242.1 (by decide))))
        have r261 : SG 58 58 0 5 g248 := by rw [← eg248]; exact i233.up (Int.le_trans (by decide) k242.1) (Or.inr (Or.inl (dec_lt k242.1 (by decide))))
        have r262 : SG 73 76 0 11 g248 := by rw [← eg248]; exact i234.up (Int.le_trans (by decide) k242.1) (Or.inr (Or.inl (dec_lt k242.1 (by decide))))
        have r263 : SG 82 82 0 5 g248 := by rw [← eg248]; exact i235.up (Int.le_trans (by decide) k242.1) (Or.inr (Or.inl (dec_lt k242.1 (by decide))))
        have r264 : SG 97 100 0 11 g248 := by rw [← eg248]; exact i236.upI (Int.le_trans (by decide) k242.1) (fun q1 q2 => ⟨Int.le_trans (by decide) (r246.h (by omega) (by omega)).1, Int.le_trans (r246.h (by omega) (by omega)).2 (by decide)⟩)
        refine iast_g hx hb hK hP hD hS 2 0 rfl rfl (ix_k k242 (by decide) (by decide)) eg248 dX10_keeps_75 (fun H locs hP hD hS => ?_)
        have hP : va_P D vwCl [(h0, .inr (10, vL 67 Fh)), (h_s, .inl (cI, 335, .inl f_s)), (h_undone, .inl (cI, 192, .inl g248))] H := hP
        have hD : va_D A [(h0, .inr (10, vL 67 Fh)), (h_s, .inl (cI, 335, .inl f_s)), (h_undone, .inl (cI, 192, .inl g248))] := hD
        obtain ⟨v265, ev265⟩ : ∃ z : Int32, z = u218 + 1 := ⟨_, rfl⟩
        have bv265 : v265.toInt = u218.toInt + 1 := by rw [ev265]; exact add_k rfl rfl k240 ⟨Int.le_refl _, Int.le_refl _⟩ (by decide)
        have k266 : 1 ≤ v265.toInt ∧ v265.toInt ≤ 24 := add_r bv265 k240 ⟨Int.le_refl _, Int.le_refl _⟩ (by decide)
        refine lv_iinc (v := v265) (lv' := [(1, .int v265), (0, .ref h0)]) hx hb dX10_keeps_76 hl (k := 0) rfl (by rw [ev265]; rfl) (by decide) rfl (fun ls hl => ?_)
        refine lv_goto (tgt := 47) hx hb dX10_keeps_79 (by decide) ?_
        exact ih (v265, g248) ⟨(ir_wk k266 (by decide) (by decide)), r249, r250, r251, r252, r253, r254, r255, r256, r257, r258, r259, r260, r261, r262, r263, r264⟩ (by show (24 - v265.toInt).toNat < (24 - u218.toInt).toNat; omega) _ _ _ hP hD hS (lv_sub hl [0, 1] rfl)
    have dk215 : x_undoMany.toInt ≠ 4 := ne_i rfl rfl k215
    have k267 : 5 ≤ x_undoMany.toInt ∧ x_undoMany.toInt ≤ 7 := ⟨ne_lo dk215 k214.1 ⟨Int.le_refl _, Int.le_refl _⟩ (by decide), k214.2⟩
    by_cases k268 : x_undoMany = 5
    · have dk268 : x_undoMany.toInt = 5 := eq_i rfl rfl k268
      have k269 : 5 ≤ x_undoMany.toInt ∧ x_undoMany.toInt ≤ 5 := ⟨k267.1, Int.le_trans (Int.le_of_eq dk268) (Int.le_refl _)⟩
      have n270 : Fh 41 = .int 5 := by rw [e_undoMany]; exact congrArg Value.int k268
      refine lv_iconst (v := 0) hx hb dX10_keeps_45 (by decide) ?_
      refine lv_istore_n (lv' := [(1, .int 0), (0, .ref h0)]) hx hb dX10_keeps_46 rfl hl (by decide) rfl (fun ls hl => ?_)
      refine mloop (α := (Int32) × (Nat → Int32)) (nL := 2) (D := D) (A := A) (H0 := s.heap) (fun a => (24 - a.1.toInt).toNat) (fun a => IR 0 24 a.1 ∧ SG 1 4 0 11 a.2 ∧ SG 10 10 0 5 a.2 ∧ SG 106 106 0 5 a.2 ∧ SG 121 124 0 11 a.2 ∧ SG 130 130 0 5 a.2 ∧ SG 145 148 0 11 a.2 ∧ SG 154 154 0 5 a.2 ∧ SG 169 172 0 11 a.2 ∧ SG 178 178 0 5 a.2 ∧ SG 25 28 0 11 a.2 ∧ SG 34 34 0 5 a.2 ∧ SG 49 52 0 11 a.2 ∧ SG 58 58 0 5 a.2 ∧ SG 73 76 0 11 a.2 ∧ SG 82 82 0 5 a.2 ∧ SG 97 100 0 11 a.2) (fun a => [(h0, .inr (10, vL 67 Fh)), (h_s, .inl (cI, 335, .inl f_s)), (h_undone, .inl (cI, 192, .inl a.2))]) (fun a => [(1, .int a.1), (0, .ref h0)]) (fun H locs ls => W p l e ({ frames := 0, cells := 0, slots := 0, locals := 0 } : Room) s m [.ref h0].toArray below meth c H locs 0 0 (MQ below (va_Qv (fun (u : va_W) => ∃ (Gh : Nat → Value) (y_undoMany : Int32) (g_undone : Nat → Int32), SAME [41] Fh Gh ∧ Gh 41 = .int y_undoMany ∧ IR 1 8 y_undoMany ∧ SG 1 4 0 11 g_undone ∧ SG 10 10 0 5 g_undone ∧ SG 25 28 0 11 g_undone ∧ SG 34 34 0 5 g_undone ∧ SG 49 52 0 11 g_undone ∧ SG 58 58 0 5 g_undone ∧ SG 73 76 0 11 g_undone ∧ SG 82 82 0 5 g_undone ∧ SG 97 100 0 11 g_undone ∧ SG 106 106 0 5 g_undone ∧ SG 121 124 0 11 g_undone ∧ SG 130 130 0 5 g_undone ∧ SG 145 148 0 11 g_undone ∧ SG 154 154 0 5 g_undone ∧ SG 169 172 0 11 g_undone ∧ SG 178 178 0 5 g_undone ∧ u = [(h0, .inr (10, vL 67 Gh)), (h_s, .inl (cI, 335, .inl f_s)), (h_undone, .inl (cI, 192, .inl g_undone))]) (PO D A) A) [.ref h0].toArray s 0 0 A) (F0 m 47 ls [])) ?_ (0, f_undone) ⟨(show 0 ≤ (0 : Int32).toInt ∧ (0 : Int32).toInt ≤ 24 by decide), s_undone_1, s_undone_10, s_undone_106, s_undone_121, s_undone_130, s_undone_145, s_undone_154, s_undone_169, s_undone_178, s_undone_25, s_undone_34, s_undone_49, s_undone_58, s_undone_73, s_undone_82, s_undone_97⟩ _ _ _ hP hD hS hl
      rintro ⟨u271, w272⟩ ⟨i273, i274, i275, i276, i277, i278, i279, i280, i281, i282, i283, i284, i285, i286, i287, i288, i289⟩ ih H locs ls hP hD hS hl
      have i273 : 0 ≤ u271.toInt ∧ u271.toInt ≤ 24 := i273
      have hP : va_P D vwCl [(h0, .inr (10, vL 67 Fh)), (h_s, .inl (cI, 335, .inl f_s)), (h_undone, .inl (cI, 192, .inl w272))] H := hP
      have hD : va_D A [(h0, .inr (10, vL 67 Fh)), (h_s, .inl (cI, 335, .inl f_s)), (h_undone, .inl (cI, 192, .inl w272))] := hD
      have hl : lv_has ls 2 [(1, .int u271), (0, .ref h0)] := hl
      refine lv_iload_n hx hb dX10_keeps_47 rfl (lv_at hl 0 rfl) ?_
      refine lv_bipush (v := 24) hx hb dX10_keeps_48 (by decide) ?_
      refine lv_icmp_ge (tgt := 82) hx hb dX10_keeps_50 (by decide) (fun c290 => ?_) (fun c290 => ?_)
      · have dc290 : 24 ≤ u271.toInt := le_i (a := 24) (b := u271.toInt) rfl rfl c290
        have k291 : 24 ≤ u271.toInt ∧ u271.toInt ≤ 24 := ⟨Int.le_trans (Int.le_refl _) dc290, i273.2⟩
        refine lv_aload_n hx hb dX10_keeps_82 rfl (lv_at hl 1 rfl) ?_
        refine lv_dup hx hb dX10_keeps_83 rfl ?_
        refine get_f (D := D) (ci := 10) (v := .int 5) (C := RX10) (T := TX10) (N := 67) hx hb hw inAX10 hown hK hP 0 rfl rfl 41 (by decide) (hw _ q_1302) (fun _ h9 => h9) n270 dX10_keeps_84 ?_
        refine lv_iconst (v := 1) hx hb dX10_keeps_87 (by decide) ?_
        refine lv_iadd hx hb dX10_keeps_88 ?_
        refine lv_ci (y := 6) (by decide +kernel) ?_
        refine put_f (D := D) (ci := 10) (v := .int 6) (ty := .int) (C := RX10) (T := TX10) (N := 67) hx hb hw inAX10 tyX10 tyX10_ok nmX10 hown hK hP hD hS 0 rfl rfl 41 (by decide) (hw _ q_1302) (fun _ h9 => h9) rfl (by decide +kernel) rfl rfl dX10_keeps_89 (fun H locs F292 eF292 hP hD hS => ?_)
        have hP : va_P D vwCl [(h0, .inr (10, vL 67 F292)), (h_s, .inl (cI, 335, .inl f_s)), (h_undone, .inl (cI, 192, .inl w272))] H := hP
        have hD : va_D A [(h0, .inr (10, vL 67 F292)), (h_s, .inl (cI, 335, .inl f_s)), (h_undone, .inl (cI, 192, .inl w272))] := hD
        exact ret_v hx hb hr hlocks hS hP hD dX10_keeps_92 (Nat.le_of_ble_eq_true rfl) (Nat.le_of_ble_eq_true rfl) ⟨F292, 6, w272, (SAME.up eF292 SAME.rf (by decide)), (get_eq eF292), (show 1 ≤ (6 : Int32).toInt ∧ (6 : Int32).toInt ≤ 8 by decide), i274, i275, i283, i284, i285, i286, i287, i288, i289, i276, i277, i278, i279, i280, i281, i282, rfl⟩
      · have dc290 : u271.toInt < 24 := nle_i (a := 24) (b := u271.toInt) rfl rfl c290
        have k293 : 0 ≤ u271.toInt ∧ u271.toInt ≤ 23 := ⟨i273.1, up_lt dc290 (Int.le_refl _) (by decide)⟩
        refine lv_aload_n hx hb dX10_keeps_53 rfl (lv_at hl 1 rfl) ?_
        refine get_f (D := D) (ci := 10) (v := .ref h_undone) (C := RX10) (T := TX10) (N := 67) hx hb hw inAX10 hown hK hP 0 rfl rfl 39 (by decide) (hw _ q_1300) (fun _ h9 => h9) e_undone dX10_keeps_54 ?_
        refine lv_bipush (v := 24) hx hb dX10_keeps_57 (by decide) ?_
        refine lv_aload_n hx hb dX10_keeps_59 rfl (lv_at hl 1 rfl) ?_
        refine get_f (D := D) (ci := 10) (v := .int 5) (C := RX10) (T := TX10) (N := 67) hx hb hw inAX10 hown hK hP 0 rfl rfl 41 (by decide) (hw _ q_1302) (fun _ h9 => h9) n270 dX10_keeps_60 ?_
        refine lv_imul hx hb dX10_keeps_63 ?_
        refine lv_ci (y := 120) (by decide +kernel) ?_
        refine lv_iload_n hx hb dX10_keeps_64 rfl (lv_at hl 0 rfl) ?_
        refine lv_iadd hx hb dX10_keeps_65 ?_
        refine lv_topi (fun v294 ev294 => ?_)
        have bv294 : v294.toInt = 120 + u271.toInt := by rw [ev294]; exact add_k rfl rfl ⟨Int.le_refl _, Int.le_refl _⟩ k293 (by decide)
        have k295 : 120 ≤ v294.toInt ∧ v294.toInt ≤ 143 := add_r bv294 ⟨Int.le_refl _, Int.le_refl _⟩ k293 (by decide)
        refine lv_aload_n hx hb dX10_keeps_66 rfl (lv_at hl 1 rfl) ?_
        refine get_f (D := D) (ci := 10) (v := .ref h_s) (C := RX10) (T := TX10) (N := 67) hx hb hw inAX10 hown hK hP 0 rfl rfl 6 (by decide) (hw _ q_1267) (fun _ h9 => h9) e_s dX10_keeps_67 ?_
        refine lv_bipush (v := 104) hx hb dX10_keeps_70 (by decide) ?_
        refine lv_iload_n hx hb dX10_keeps_72 rfl (lv_at hl 0 rfl) ?_
        refine lv_iadd hx hb dX10_keeps_73 ?_
        refine lv_topi (fun v296 ev296 => ?_)
        have bv296 : v296.toInt = 104 + u271.toInt := by rw [ev296]; exact add_k rfl rfl ⟨Int.le_refl _, Int.le_refl _⟩ k293 (by decide)
        have k297 : 104 ≤ v296.toInt ∧ v296.toInt ≤ 127 := add_r bv296 ⟨Int.le_refl _, Int.le_refl _⟩ k293 (by decide)
        refine va_iald hx hb hK hP 1 0 rfl rfl (ix_k k297 (by decide) (by decide)) dX10_keeps_74 ?_
        refine lv_topi (fun v298 ev298 => ?_)
        have r299 : IMP (105 ≤ v296.toInt → v296.toInt ≤ 108 → 0 ≤ v298.toInt ∧ v298.toInt ≤ 11) := IMP.mk (fun q1 q2 => by rw [ev298]; exact s_s_105.at _ q1 q2)
        have r300 : IMP (114 ≤ v296.toInt → v296.toInt ≤ 114 → 0 ≤ v298.toInt ∧ v298.toInt ≤ 5) := IMP.mk (fun q1 q2 => by rw [ev298]; exact s_s_114.at _ q1 q2)
        obtain ⟨g301, eg301⟩ : ∃ z : Nat → Int32, upd w272 v294.toNatClampNeg v298 = z := ⟨_, rfl⟩
        have r302 : SG 1 4 0 11 g301 := by rw [← eg301]; exact i274.up (Int.le_trans (by decide) k295.1) (Or.inr (Or.inl (dec_lt k295.1 (by decide))))
        have r303 : SG 10 10 0 5 g301 := by rw [← eg301]; exact i275.up (Int.le_trans (by decide) k295.1) (Or.inr (Or.inl (dec_lt k295.1 (by decide))))
        have r304 : SG 106 106 0 5 g301 := by rw [← eg301]; exact i276.up (Int.le_trans (by decide) k295.1) (Or.inr (Or.inl (dec_lt k295.1 (by decide))))
        have r305 : SG 121 124 0 11 g301 := by rw [← eg301]; exact i277.upI (Int.le_trans (by decide) k295.1) (fun q1 q2 => ⟨Int.le_trans (by decide) (r299.h (by omega) (by omega)).1, Int.le_trans (r299.h (by omega) (by omega)).2 (by decide)⟩)
        have r306 : SG 130 130 0 5 g301 := by rw [← eg301]; exact i278.upI (Int.le_trans (by decide) k295.1) (fun q1 q2 => ⟨Int.le_trans (by decide) (r300.h (by omega) (by omega)).1, Int.le_trans (r300.h (by omega) (by omega)).2 (by decide)⟩)
        have r307 : SG 145 148 0 11 g301 := by rw [← eg301]; exact i279.up (Int.le_trans (by decide) k295.1) (Or.inl (lt_dec k295.2 (by decide)))
        have r308 : SG 154 154 0 5 g301 := by rw [← eg301]; exact i280.up (Int.le_trans (by decide) k295.1) (Or.inl (lt_dec k295.2 (by decide)))
        have r309 : SG 169 172 0 11 g301 := by rw [← eg301]; exact i281.up (Int.le_trans (by decide) k295.1) (Or.inl (lt_dec k295.2 (by decide)))
        have r310 : SG 178 178 0 5 g301 := by rw [← eg301]; exact i282.up (Int.le_trans (by decide) k295.1) (Or.inl (lt_dec k295.2 (by decide)))
        have r311 : SG 25 28 0 11 g301 := by rw [← eg301]; exact i283.up (Int.le_trans (by decide) k295.1) (Or.inr (Or.inl (dec_lt k295.1 (by decide))))
        have r312 : SG 34 34 0 5 g301 := by rw [← eg301]; exact i284.up (Int.le_trans (by decide) k295.1) (Or.inr (Or.inl (dec_lt k295.1 (by decide))))
        have r313 : SG 49 52 0 11 g301 := by rw [← eg301]; exact i285.up (Int.le_trans (by decide) k295.1) (Or.inr (Or.inl (dec_lt k295.1 (by decide))))
        have r314 : SG 58 58 0 5 g301 := by rw [← eg301]; exact i286.up (Int.le_trans (by decide) k295.1) (Or.inr (Or.inl (dec_lt k295.1 (by decide))))
        have r315 : SG 73 76 0 11 g301 := by rw [← eg301]; exact i287.up (Int.le_trans (by decide) k295.1) (Or.inr (Or.inl (dec_lt k295.1 (by decide))))
        have r316 : SG 82 82 0 5 g301 := by rw [← eg301]; exact i288.up (Int.le_trans (by decide) k295.1) (Or.inr (Or.inl (dec_lt k295.1 (by decide))))
        have r317 : SG 97 100 0 11 g301 := by rw [← eg301]; exact i289.up (Int.le_trans (by decide) k295.1) (Or.inr (Or.inl (dec_lt k295.1 (by decide))))
        refine iast_g hx hb hK hP hD hS 2 0 rfl rfl (ix_k k295 (by decide) (by decide)) eg301 dX10_keeps_75 (fun H locs hP hD hS => ?_)
        have hP : va_P D vwCl [(h0, .inr (10, vL 67 Fh)), (h_s, .inl (cI, 335, .inl f_s)), (h_undone, .inl (cI, 192, .inl g301))] H := hP
        have hD : va_D A [(h0, .inr (10, vL 67 Fh)), (h_s, .inl (cI, 335, .inl f_s)), (h_undone, .inl (cI, 192, .inl g301))] := hD
        obtain ⟨v318, ev318⟩ : ∃ z : Int32, z = u271 + 1 := ⟨_, rfl⟩
        have bv318 : v318.toInt = u271.toInt + 1 := by rw [ev318]; exact add_k rfl rfl k293 ⟨Int.le_refl _, Int.le_refl _⟩ (by decide)
        have k319 : 1 ≤ v318.toInt ∧ v318.toInt ≤ 24 := add_r bv318 k293 ⟨Int.le_refl _, Int.le_refl _⟩ (by decide)
        refine lv_iinc (v := v318) (lv' := [(1, .int v318), (0, .ref h0)]) hx hb dX10_keeps_76 hl (k := 0) rfl (by rw [ev318]; rfl) (by decide) rfl (fun ls hl => ?_)
        refine lv_goto (tgt := 47) hx hb dX10_keeps_79 (by decide) ?_
        exact ih (v318, g301) ⟨(ir_wk k319 (by decide) (by decide)), r302, r303, r304, r305, r306, r307, r308, r309, r310, r311, r312, r313, r314, r315, r316, r317⟩ (by show (24 - v318.toInt).toNat < (24 - u271.toInt).toNat; omega) _ _ _ hP hD hS (lv_sub hl [0, 1] rfl)
    have dk268 : x_undoMany.toInt ≠ 5 := ne_i rfl rfl k268
    have k320 : 6 ≤ x_undoMany.toInt ∧ x_undoMany.toInt ≤ 7 := ⟨ne_lo dk268 k267.1 ⟨Int.le_refl _, Int.le_refl _⟩ (by decide), k267.2⟩
    by_cases k321 : x_undoMany = 6
    · have dk321 : x_undoMany.toInt = 6 := eq_i rfl rfl k321
      have k322 : 6 ≤ x_undoMany.toInt ∧ x_undoMany.toInt ≤ 6 := ⟨k320.1, Int.le_trans (Int.le_of_eq dk321) (Int.le_refl _)⟩
      have n323 : Fh 41 = .int 6 := by rw [e_undoMany]; exact congrArg Value.int k321
      refine lv_iconst (v := 0) hx hb dX10_keeps_45 (by decide) ?_
      refine lv_istore_n (lv' := [(1, .int 0), (0, .ref h0)]) hx hb dX10_keeps_46 rfl hl (by decide) rfl (fun ls hl => ?_)
      refine mloop (α := (Int32) × (Nat → Int32)) (nL := 2) (D := D) (A := A) (H0 := s.heap) (fun a => (24 - a.1.toInt).toNat) (fun a => IR 0 24 a.1 ∧ SG 1 4 0 11 a.2 ∧ SG 10 10 0 5 a.2 ∧ SG 106 106 0 5 a.2 ∧ SG 121 124 0 11 a.2 ∧ SG 130 130 0 5 a.2 ∧ SG 145 148 0 11 a.2 ∧ SG 154 154 0 5 a.2 ∧ SG 169 172 0 11 a.2 ∧ SG 178 178 0 5 a.2 ∧ SG 25 28 0 11 a.2 ∧ SG 34 34 0 5 a.2 ∧ SG 49 52 0 11 a.2 ∧ SG 58 58 0 5 a.2 ∧ SG 73 76 0 11 a.2 ∧ SG 82 82 0 5 a.2 ∧ SG 97 100 0 11 a.2) (fun a => [(h0, .inr (10, vL 67 Fh)), (h_s, .inl (cI, 335, .inl f_s)), (h_undone, .inl (cI, 192, .inl a.2))]) (fun a => [(1, .int a.1), (0, .ref h0)]) (fun H locs ls => W p l e ({ frames := 0, cells := 0, slots := 0, locals := 0 } : Room) s m [.ref h0].toArray below meth c H locs 0 0 (MQ below (va_Qv (fun (u : va_W) => ∃ (Gh : Nat → Value) (y_undoMany : Int32) (g_undone : Nat → Int32), SAME [41] Fh Gh ∧ Gh 41 = .int y_undoMany ∧ IR 1 8 y_undoMany ∧ SG 1 4 0 11 g_undone ∧ SG 10 10 0 5 g_undone ∧ SG 25 28 0 11 g_undone ∧ SG 34 34 0 5 g_undone ∧ SG 49 52 0 11 g_undone ∧ SG 58 58 0 5 g_undone ∧ SG 73 76 0 11 g_undone ∧ SG 82 82 0 5 g_undone ∧ SG 97 100 0 11 g_undone ∧ SG 106 106 0 5 g_undone ∧ SG 121 124 0 11 g_undone ∧ SG 130 130 0 5 g_undone ∧ SG 145 148 0 11 g_undone ∧ SG 154 154 0 5 g_undone ∧ SG 169 172 0 11 g_undone ∧ SG 178 178 0 5 g_undone ∧ u = [(h0, .inr (10, vL 67 Gh)), (h_s, .inl (cI, 335, .inl f_s)), (h_undone, .inl (cI, 192, .inl g_undone))]) (PO D A) A) [.ref h0].toArray s 0 0 A) (F0 m 47 ls [])) ?_ (0, f_undone) ⟨(show 0 ≤ (0 : Int32).toInt ∧ (0 : Int32).toInt ≤ 24 by decide), s_undone_1, s_undone_10, s_undone_106, s_undone_121, s_undone_130, s_undone_145, s_undone_154, s_undone_169, s_undone_178, s_undone_25, s_undone_34, s_undone_49, s_undone_58, s_undone_73, s_undone_82, s_undone_97⟩ _ _ _ hP hD hS hl
      rintro ⟨u324, w325⟩ ⟨i326, i327, i328, i329, i330, i331, i332, i333, i334, i335, i336, i337, i338, i339, i340, i341, i342⟩ ih H locs ls hP hD hS hl
      have i326 : 0 ≤ u324.toInt ∧ u324.toInt ≤ 24 := i326
      have hP : va_P D vwCl [(h0, .inr (10, vL 67 Fh)), (h_s, .inl (cI, 335, .inl f_s)), (h_undone, .inl (cI, 192, .inl w325))] H := hP
      have hD : va_D A [(h0, .inr (10, vL 67 Fh)), (h_s, .inl (cI, 335, .inl f_s)), (h_undone, .inl (cI, 192, .inl w325))] := hD
      have hl : lv_has ls 2 [(1, .int u324), (0, .ref h0)] := hl
      refine lv_iload_n hx hb dX10_keeps_47 rfl (lv_at hl 0 rfl) ?_
      refine lv_bipush (v := 24) hx hb dX10_keeps_48 (by decide) ?_
      refine lv_icmp_ge (tgt := 82) hx hb dX10_keeps_50 (by decide) (fun c343 => ?_) (fun c343 => ?_)
      · have dc343 : 24 ≤ u324.toInt := le_i (a := 24) (b := u324.toInt) rfl rfl c343
        have k344 : 24 ≤ u324.toInt ∧ u324.toInt ≤ 24 := ⟨Int.le_trans (Int.le_refl _) dc343, i326.2⟩
        refine lv_aload_n hx hb dX10_keeps_82 rfl (lv_at hl 1 rfl) ?_
        refine lv_dup hx hb dX10_keeps_83 rfl ?_
        refine get_f (D := D) (ci := 10) (v := .int 6) (C := RX10) (T := TX10) (N := 67) hx hb hw inAX10 hown hK hP 0 rfl rfl 41 (by decide) (hw _ q_1302) (fun _ h9 => h9) n323 dX10_keeps_84 ?_
        refine lv_iconst (v := 1) hx hb dX10_keeps_87 (by decide) ?_
        refine lv_iadd hx hb dX10_keeps_88 ?_
        refine lv_ci (y := 7) (by decide +kernel) ?_
        refine put_f (D := D) (ci := 10) (v := .int 7) (ty := .int) (C := RX10) (T := TX10) (N := 67) hx hb hw inAX10 tyX10 tyX10_ok nmX10 hown hK hP hD hS 0 rfl rfl 41 (by decide) (hw _ q_1302) (fun _ h9 => h9) rfl (by decide +kernel) rfl rfl dX10_keeps_89 (fun H locs F345 eF345 hP hD hS => ?_)
        have hP : va_P D vwCl [(h0, .inr (10, vL 67 F345)), (h_s, .inl (cI, 335, .inl f_s)), (h_undone, .inl (cI, 192, .inl w325))] H := hP
        have hD : va_D A [(h0, .inr (10, vL 67 F345)), (h_s, .inl (cI, 335, .inl f_s)), (h_undone, .inl (cI, 192, .inl w325))] := hD
        exact ret_v hx hb hr hlocks hS hP hD dX10_keeps_92 (Nat.le_of_ble_eq_true rfl) (Nat.le_of_ble_eq_true rfl) ⟨F345, 7, w325, (SAME.up eF345 SAME.rf (by decide)), (get_eq eF345), (show 1 ≤ (7 : Int32).toInt ∧ (7 : Int32).toInt ≤ 8 by decide), i327, i328, i336, i337, i338, i339, i340, i341, i342, i329, i330, i331, i332, i333, i334, i335, rfl⟩
      · have dc343 : u324.toInt < 24 := nle_i (a := 24) (b := u324.toInt) rfl rfl c343
        have k346 : 0 ≤ u324.toInt ∧ u324.toInt ≤ 23 := ⟨i326.1, up_lt dc343 (Int.le_refl _) (by decide)⟩
        refine lv_aload_n hx hb dX10_keeps_53 rfl (lv_at hl 1 rfl) ?_
        refine get_f (D := D) (ci := 10) (v := .ref h_undone) (C := RX10) (T := TX10) (N := 67) hx hb hw inAX10 hown hK hP 0 rfl rfl 39 (by decide) (hw _ q_1300) (fun _ h9 => h9) e_undone dX10_keeps_54 ?_
        refine lv_bipush (v := 24) hx hb dX10_keeps_57 (by decide) ?_
        refine lv_aload_n hx hb dX10_keeps_59 rfl (lv_at hl 1 rfl) ?_
        refine get_f (D := D) (ci := 10) (v := .int 6) (C := RX10) (T := TX10) (N := 67) hx hb hw inAX10 hown hK hP 0 rfl rfl 41 (by decide) (hw _ q_1302) (fun _ h9 => h9) n323 dX10_keeps_60 ?_
        refine lv_imul hx hb dX10_keeps_63 ?_
        refine lv_ci (y := 144) (by decide +kernel) ?_
        refine lv_iload_n hx hb dX10_keeps_64 rfl (lv_at hl 0 rfl) ?_
        refine lv_iadd hx hb dX10_keeps_65 ?_
        refine lv_topi (fun v347 ev347 => ?_)
        have bv347 : v347.toInt = 144 + u324.toInt := by rw [ev347]; exact add_k rfl rfl ⟨Int.le_refl _, Int.le_refl _⟩ k346 (by decide)
        have k348 : 144 ≤ v347.toInt ∧ v347.toInt ≤ 167 := add_r bv347 ⟨Int.le_refl _, Int.le_refl _⟩ k346 (by decide)
        refine lv_aload_n hx hb dX10_keeps_66 rfl (lv_at hl 1 rfl) ?_
        refine get_f (D := D) (ci := 10) (v := .ref h_s) (C := RX10) (T := TX10) (N := 67) hx hb hw inAX10 hown hK hP 0 rfl rfl 6 (by decide) (hw _ q_1267) (fun _ h9 => h9) e_s dX10_keeps_67 ?_
        refine lv_bipush (v := 104) hx hb dX10_keeps_70 (by decide) ?_
        refine lv_iload_n hx hb dX10_keeps_72 rfl (lv_at hl 0 rfl) ?_
        refine lv_iadd hx hb dX10_keeps_73 ?_
        refine lv_topi (fun v349 ev349 => ?_)
        have bv349 : v349.toInt = 104 + u324.toInt := by rw [ev349]; exact add_k rfl rfl ⟨Int.le_refl _, Int.le_refl _⟩ k346 (by decide)
        have k350 : 104 ≤ v349.toInt ∧ v349.toInt ≤ 127 := add_r bv349 ⟨Int.le_refl _, Int.le_refl _⟩ k346 (by decide)
        refine va_iald hx hb hK hP 1 0 rfl rfl (ix_k k350 (by decide) (by decide)) dX10_keeps_74 ?_
        refine lv_topi (fun v351 ev351 => ?_)
        have r352 : IMP (105 ≤ v349.toInt → v349.toInt ≤ 108 → 0 ≤ v351.toInt ∧ v351.toInt ≤ 11) := IMP.mk (fun q1 q2 => by rw [ev351]; exact s_s_105.at _ q1 q2)
        have r353 : IMP (114 ≤ v349.toInt → v349.toInt ≤ 114 → 0 ≤ v351.toInt ∧ v351.toInt ≤ 5) := IMP.mk (fun q1 q2 => by rw [ev351]; exact s_s_114.at _ q1 q2)
        obtain ⟨g354, eg354⟩ : ∃ z : Nat → Int32, upd w325 v347.toNatClampNeg v351 = z := ⟨_, rfl⟩
        have r355 : SG 1 4 0 11 g354 := by rw [← eg354]; exact i327.up (Int.le_trans (by decide) k348.1) (Or.inr (Or.inl (dec_lt k348.1 (by decide))))
        have r356 : SG 10 10 0 5 g354 := by rw [← eg354]; exact i328.up (Int.le_trans (by decide) k348.1) (Or.inr (Or.inl (dec_lt k348.1 (by decide))))
        have r357 : SG 106 106 0 5 g354 := by rw [← eg354]; exact i329.up (Int.le_trans (by decide) k348.1) (Or.inr (Or.inl (dec_lt k348.1 (by decide))))
        have r358 : SG 121 124 0 11 g354 := by rw [← eg354]; exact i330.up (Int.le_trans (by decide) k348.1) (Or.inr (Or.inl (dec_lt k348.1 (by decide))))
        have r359 : SG 130 130 0 5 g354 := by rw [← eg354]; exact i331.up (Int.le_trans (by decide) k348.1) (Or.inr (Or.inl (dec_lt k348.1 (by decide))))
        have r360 : SG 145 148 0 11 g354 := by rw [← eg354]; exact i332.upI (Int.le_trans (by decide) k348.1) (fun q1 q2 => ⟨Int.le_trans (by decide) (r352.h (by omega) (by omega)).1, Int.le_trans (r352.h (by omega) (by omega)).2 (by decide)⟩)
        have r361 : SG 154 154 0 5 g354 := by rw [← eg354]; exact i333.upI (Int.le_trans (by decide) k348.1) (fun q1 q2 => ⟨Int.le_trans (by decide) (r353.h (by omega) (by omega)).1, Int.le_trans (r353.h (by omega) (by omega)).2 (by decide)⟩)
        have r362 : SG 169 172 0 11 g354 := by rw [← eg354]; exact i334.up (Int.le_trans (by decide) k348.1) (Or.inl (lt_dec k348.2 (by decide)))
        have r363 : SG 178 178 0 5 g354 := by rw [← eg354]; exact i335.up (Int.le_trans (by decide) k348.1) (Or.inl (lt_dec k348.2 (by decide)))
        have r364 : SG 25 28 0 11 g354 := by rw [← eg354]; exact i336.up (Int.le_trans (by decide) k348.1) (Or.inr (Or.inl (dec_lt k348.1 (by decide))))
        have r365 : SG 34 34 0 5 g354 := by rw [← eg354]; exact i337.up (Int.le_trans (by decide) k348.1) (Or.inr (Or.inl (dec_lt k348.1 (by decide))))
        have r366 : SG 49 52 0 11 g354 := by rw [← eg354]; exact i338.up (Int.le_trans (by decide) k348.1) (Or.inr (Or.inl (dec_lt k348.1 (by decide))))
        have r367 : SG 58 58 0 5 g354 := by rw [← eg354]; exact i339.up (Int.le_trans (by decide) k348.1) (Or.inr (Or.inl (dec_lt k348.1 (by decide))))
        have r368 : SG 73 76 0 11 g354 := by rw [← eg354]; exact i340.up (Int.le_trans (by decide) k348.1) (Or.inr (Or.inl (dec_lt k348.1 (by decide))))
        have r369 : SG 82 82 0 5 g354 := by rw [← eg354]; exact i341.up (Int.le_trans (by decide) k348.1) (Or.inr (Or.inl (dec_lt k348.1 (by decide))))
        have r370 : SG 97 100 0 11 g354 := by rw [← eg354]; exact i342.up (Int.le_trans (by decide) k348.1) (Or.inr (Or.inl (dec_lt k348.1 (by decide))))
        refine iast_g hx hb hK hP hD hS 2 0 rfl rfl (ix_k k348 (by decide) (by decide)) eg354 dX10_keeps_75 (fun H locs hP hD hS => ?_)
        have hP : va_P D vwCl [(h0, .inr (10, vL 67 Fh)), (h_s, .inl (cI, 335, .inl f_s)), (h_undone, .inl (cI, 192, .inl g354))] H := hP
        have hD : va_D A [(h0, .inr (10, vL 67 Fh)), (h_s, .inl (cI, 335, .inl f_s)), (h_undone, .inl (cI, 192, .inl g354))] := hD
        obtain ⟨v371, ev371⟩ : ∃ z : Int32, z = u324 + 1 := ⟨_, rfl⟩
        have bv371 : v371.toInt = u324.toInt + 1 := by rw [ev371]; exact add_k rfl rfl k346 ⟨Int.le_refl _, Int.le_refl _⟩ (by decide)
        have k372 : 1 ≤ v371.toInt ∧ v371.toInt ≤ 24 := add_r bv371 k346 ⟨Int.le_refl _, Int.le_refl _⟩ (by decide)
        refine lv_iinc (v := v371) (lv' := [(1, .int v371), (0, .ref h0)]) hx hb dX10_keeps_76 hl (k := 0) rfl (by rw [ev371]; rfl) (by decide) rfl (fun ls hl => ?_)
        refine lv_goto (tgt := 47) hx hb dX10_keeps_79 (by decide) ?_
        exact ih (v371, g354) ⟨(ir_wk k372 (by decide) (by decide)), r355, r356, r357, r358, r359, r360, r361, r362, r363, r364, r365, r366, r367, r368, r369, r370⟩ (by show (24 - v371.toInt).toNat < (24 - u324.toInt).toNat; omega) _ _ _ hP hD hS (lv_sub hl [0, 1] rfl)
    have dk321 : x_undoMany.toInt ≠ 6 := ne_i rfl rfl k321
    have k373 : 7 ≤ x_undoMany.toInt ∧ x_undoMany.toInt ≤ 7 := ⟨ne_lo dk321 k320.1 ⟨Int.le_refl _, Int.le_refl _⟩ (by decide), k320.2⟩
    have k374 : x_undoMany = 7 := Int32.toInt_inj.mp (show x_undoMany.toInt = 7 by omega)
    have dk374 : x_undoMany.toInt = 7 := eq_i rfl rfl k374
    have n375 : Fh 41 = .int 7 := by rw [e_undoMany]; exact congrArg Value.int k374
    refine lv_iconst (v := 0) hx hb dX10_keeps_45 (by decide) ?_
    refine lv_istore_n (lv' := [(1, .int 0), (0, .ref h0)]) hx hb dX10_keeps_46 rfl hl (by decide) rfl (fun ls hl => ?_)
    refine mloop (α := (Int32) × (Nat → Int32)) (nL := 2) (D := D) (A := A) (H0 := s.heap) (fun a => (24 - a.1.toInt).toNat) (fun a => IR 0 24 a.1 ∧ SG 1 4 0 11 a.2 ∧ SG 10 10 0 5 a.2 ∧ SG 106 106 0 5 a.2 ∧ SG 121 124 0 11 a.2 ∧ SG 130 130 0 5 a.2 ∧ SG 145 148 0 11 a.2 ∧ SG 154 154 0 5 a.2 ∧ SG 169 172 0 11 a.2 ∧ SG 178 178 0 5 a.2 ∧ SG 25 28 0 11 a.2 ∧ SG 34 34 0 5 a.2 ∧ SG 49 52 0 11 a.2 ∧ SG 58 58 0 5 a.2 ∧ SG 73 76 0 11 a.2 ∧ SG 82 82 0 5 a.2 ∧ SG 97 100 0 11 a.2) (fun a => [(h0, .inr (10, vL 67 Fh)), (h_s, .inl (cI, 335, .inl f_s)), (h_undone, .inl (cI, 192, .inl a.2))]) (fun a => [(1, .int a.1), (0, .ref h0)]) (fun H locs ls => W p l e ({ frames := 0, cells := 0, slots := 0, locals := 0 } : Room) s m [.ref h0].toArray below meth c H locs 0 0 (MQ below (va_Qv (fun (u : va_W) => ∃ (Gh : Nat → Value) (y_undoMany : Int32) (g_undone : Nat → Int32), SAME [41] Fh Gh ∧ Gh 41 = .int y_undoMany ∧ IR 1 8 y_undoMany ∧ SG 1 4 0 11 g_undone ∧ SG 10 10 0 5 g_undone ∧ SG 25 28 0 11 g_undone ∧ SG 34 34 0 5 g_undone ∧ SG 49 52 0 11 g_undone ∧ SG 58 58 0 5 g_undone ∧ SG 73 76 0 11 g_undone ∧ SG 82 82 0 5 g_undone ∧ SG 97 100 0 11 g_undone ∧ SG 106 106 0 5 g_undone ∧ SG 121 124 0 11 g_undone ∧ SG 130 130 0 5 g_undone ∧ SG 145 148 0 11 g_undone ∧ SG 154 154 0 5 g_undone ∧ SG 169 172 0 11 g_undone ∧ SG 178 178 0 5 g_undone ∧ u = [(h0, .inr (10, vL 67 Gh)), (h_s, .inl (cI, 335, .inl f_s)), (h_undone, .inl (cI, 192, .inl g_undone))]) (PO D A) A) [.ref h0].toArray s 0 0 A) (F0 m 47 ls [])) ?_ (0, f_undone) ⟨(show 0 ≤ (0 : Int32).toInt ∧ (0 : Int32).toInt ≤ 24 by decide), s_undone_1, s_undone_10, s_undone_106, s_undone_121, s_undone_130, s_undone_145, s_undone_154, s_undone_169, s_undone_178, s_undone_25, s_undone_34, s_undone_49, s_undone_58, s_undone_73, s_undone_82, s_undone_97⟩ _ _ _ hP hD hS hl
    rintro ⟨u376, w377⟩ ⟨i378, i379, i380, i381, i382, i383, i384, i385, i386, i387, i388, i389, i390, i391, i392, i393, i394⟩ ih H locs ls hP hD hS hl
    have i378 : 0 ≤ u376.toInt ∧ u376.toInt ≤ 24 := i378
    have hP : va_P D vwCl [(h0, .inr (10, vL 67 Fh)), (h_s, .inl (cI, 335, .inl f_s)), (h_undone, .inl (cI, 192, .inl w377))] H := hP
    have hD : va_D A [(h0, .inr (10, vL 67 Fh)), (h_s, .inl (cI, 335, .inl f_s)), (h_undone, .inl (cI, 192, .inl w377))] := hD
    have hl : lv_has ls 2 [(1, .int u376), (0, .ref h0)] := hl
    refine lv_iload_n hx hb dX10_keeps_47 rfl (lv_at hl 0 rfl) ?_
    refine lv_bipush (v := 24) hx hb dX10_keeps_48 (by decide) ?_
    refine lv_icmp_ge (tgt := 82) hx hb dX10_keeps_50 (by decide) (fun c395 => ?_) (fun c395 => ?_)
    · have dc395 : 24 ≤ u376.toInt := le_i (a := 24) (b := u376.toInt) rfl rfl c395
      have k396 : 24 ≤ u376.toInt ∧ u376.toInt ≤ 24 := ⟨Int.le_trans (Int.le_refl _) dc395, i378.2⟩
      refine lv_aload_n hx hb dX10_keeps_82 rfl (lv_at hl 1 rfl) ?_
      refine lv_dup hx hb dX10_keeps_83 rfl ?_
      refine get_f (D := D) (ci := 10) (v := .int 7) (C := RX10) (T := TX10) (N := 67) hx hb hw inAX10 hown hK hP 0 rfl rfl 41 (by decide) (hw _ q_1302) (fun _ h9 => h9) n375 dX10_keeps_84 ?_
      refine lv_iconst (v := 1) hx hb dX10_keeps_87 (by decide) ?_
      refine lv_iadd hx hb dX10_keeps_88 ?_
      refine lv_ci (y := 8) (by decide +kernel) ?_
      refine put_f (D := D) (ci := 10) (v := .int 8) (ty := .int) (C := RX10) (T := TX10) (N := 67) hx hb hw inAX10 tyX10 tyX10_ok nmX10 hown hK hP hD hS 0 rfl rfl 41 (by decide) (hw _ q_1302) (fun _ h9 => h9) rfl (by decide +kernel) rfl rfl dX10_keeps_89 (fun H locs F397 eF397 hP hD hS => ?_)
      have hP : va_P D vwCl [(h0, .inr (10, vL 67 F397)), (h_s, .inl (cI, 335, .inl f_s)), (h_undone, .inl (cI, 192, .inl w377))] H := hP
      have hD : va_D A [(h0, .inr (10, vL 67 F397)), (h_s, .inl (cI, 335, .inl f_s)), (h_undone, .inl (cI, 192, .inl w377))] := hD
      exact ret_v hx hb hr hlocks hS hP hD dX10_keeps_92 (Nat.le_of_ble_eq_true rfl) (Nat.le_of_ble_eq_true rfl) ⟨F397, 8, w377, (SAME.up eF397 SAME.rf (by decide)), (get_eq eF397), (show 1 ≤ (8 : Int32).toInt ∧ (8 : Int32).toInt ≤ 8 by decide), i379, i380, i388, i389, i390, i391, i392, i393, i394, i381, i382, i383, i384, i385, i386, i387, rfl⟩
    · have dc395 : u376.toInt < 24 := nle_i (a := 24) (b := u376.toInt) rfl rfl c395
      have k398 : 0 ≤ u376.toInt ∧ u376.toInt ≤ 23 := ⟨i378.1, up_lt dc395 (Int.le_refl _) (by decide)⟩
      refine lv_aload_n hx hb dX10_keeps_53 rfl (lv_at hl 1 rfl) ?_
      refine get_f (D := D) (ci := 10) (v := .ref h_undone) (C := RX10) (T := TX10) (N := 67) hx hb hw inAX10 hown hK hP 0 rfl rfl 39 (by decide) (hw _ q_1300) (fun _ h9 => h9) e_undone dX10_keeps_54 ?_
      refine lv_bipush (v := 24) hx hb dX10_keeps_57 (by decide) ?_
      refine lv_aload_n hx hb dX10_keeps_59 rfl (lv_at hl 1 rfl) ?_
      refine get_f (D := D) (ci := 10) (v := .int 7) (C := RX10) (T := TX10) (N := 67) hx hb hw inAX10 hown hK hP 0 rfl rfl 41 (by decide) (hw _ q_1302) (fun _ h9 => h9) n375 dX10_keeps_60 ?_
      refine lv_imul hx hb dX10_keeps_63 ?_
      refine lv_ci (y := 168) (by decide +kernel) ?_
      refine lv_iload_n hx hb dX10_keeps_64 rfl (lv_at hl 0 rfl) ?_
      refine lv_iadd hx hb dX10_keeps_65 ?_
      refine lv_topi (fun v399 ev399 => ?_)
      have bv399 : v399.toInt = 168 + u376.toInt := by rw [ev399]; exact add_k rfl rfl ⟨Int.le_refl _, Int.le_refl _⟩ k398 (by decide)
      have k400 : 168 ≤ v399.toInt ∧ v399.toInt ≤ 191 := add_r bv399 ⟨Int.le_refl _, Int.le_refl _⟩ k398 (by decide)
      refine lv_aload_n hx hb dX10_keeps_66 rfl (lv_at hl 1 rfl) ?_
      refine get_f (D := D) (ci := 10) (v := .ref h_s) (C := RX10) (T := TX10) (N := 67) hx hb hw inAX10 hown hK hP 0 rfl rfl 6 (by decide) (hw _ q_1267) (fun _ h9 => h9) e_s dX10_keeps_67 ?_
      refine lv_bipush (v := 104) hx hb dX10_keeps_70 (by decide) ?_
      refine lv_iload_n hx hb dX10_keeps_72 rfl (lv_at hl 0 rfl) ?_
      refine lv_iadd hx hb dX10_keeps_73 ?_
      refine lv_topi (fun v401 ev401 => ?_)
      have bv401 : v401.toInt = 104 + u376.toInt := by rw [ev401]; exact add_k rfl rfl ⟨Int.le_refl _, Int.le_refl _⟩ k398 (by decide)
      have k402 : 104 ≤ v401.toInt ∧ v401.toInt ≤ 127 := add_r bv401 ⟨Int.le_refl _, Int.le_refl _⟩ k398 (by decide)
      refine va_iald hx hb hK hP 1 0 rfl rfl (ix_k k402 (by decide) (by decide)) dX10_keeps_74 ?_
      refine lv_topi (fun v403 ev403 => ?_)
      have r404 : IMP (105 ≤ v401.toInt → v401.toInt ≤ 108 → 0 ≤ v403.toInt ∧ v403.toInt ≤ 11) := IMP.mk (fun q1 q2 => by rw [ev403]; exact s_s_105.at _ q1 q2)
      have r405 : IMP (114 ≤ v401.toInt → v401.toInt ≤ 114 → 0 ≤ v403.toInt ∧ v403.toInt ≤ 5) := IMP.mk (fun q1 q2 => by rw [ev403]; exact s_s_114.at _ q1 q2)
      obtain ⟨g406, eg406⟩ : ∃ z : Nat → Int32, upd w377 v399.toNatClampNeg v403 = z := ⟨_, rfl⟩
      have r407 : SG 1 4 0 11 g406 := by rw [← eg406]; exact i379.up (Int.le_trans (by decide) k400.1) (Or.inr (Or.inl (dec_lt k400.1 (by decide))))
      have r408 : SG 10 10 0 5 g406 := by rw [← eg406]; exact i380.up (Int.le_trans (by decide) k400.1) (Or.inr (Or.inl (dec_lt k400.1 (by decide))))
      have r409 : SG 106 106 0 5 g406 := by rw [← eg406]; exact i381.up (Int.le_trans (by decide) k400.1) (Or.inr (Or.inl (dec_lt k400.1 (by decide))))
      have r410 : SG 121 124 0 11 g406 := by rw [← eg406]; exact i382.up (Int.le_trans (by decide) k400.1) (Or.inr (Or.inl (dec_lt k400.1 (by decide))))
      have r411 : SG 130 130 0 5 g406 := by rw [← eg406]; exact i383.up (Int.le_trans (by decide) k400.1) (Or.inr (Or.inl (dec_lt k400.1 (by decide))))
      have r412 : SG 145 148 0 11 g406 := by rw [← eg406]; exact i384.up (Int.le_trans (by decide) k400.1) (Or.inr (Or.inl (dec_lt k400.1 (by decide))))
      have r413 : SG 154 154 0 5 g406 := by rw [← eg406]; exact i385.up (Int.le_trans (by decide) k400.1) (Or.inr (Or.inl (dec_lt k400.1 (by decide))))
      have r414 : SG 169 172 0 11 g406 := by rw [← eg406]; exact i386.upI (Int.le_trans (by decide) k400.1) (fun q1 q2 => ⟨Int.le_trans (by decide) (r404.h (by omega) (by omega)).1, Int.le_trans (r404.h (by omega) (by omega)).2 (by decide)⟩)
      have r415 : SG 178 178 0 5 g406 := by rw [← eg406]; exact i387.upI (Int.le_trans (by decide) k400.1) (fun q1 q2 => ⟨Int.le_trans (by decide) (r405.h (by omega) (by omega)).1, Int.le_trans (r405.h (by omega) (by omega)).2 (by decide)⟩)
      have r416 : SG 25 28 0 11 g406 := by rw [← eg406]; exact i388.up (Int.le_trans (by decide) k400.1) (Or.inr (Or.inl (dec_lt k400.1 (by decide))))
      have r417 : SG 34 34 0 5 g406 := by rw [← eg406]; exact i389.up (Int.le_trans (by decide) k400.1) (Or.inr (Or.inl (dec_lt k400.1 (by decide))))
      have r418 : SG 49 52 0 11 g406 := by rw [← eg406]; exact i390.up (Int.le_trans (by decide) k400.1) (Or.inr (Or.inl (dec_lt k400.1 (by decide))))
      have r419 : SG 58 58 0 5 g406 := by rw [← eg406]; exact i391.up (Int.le_trans (by decide) k400.1) (Or.inr (Or.inl (dec_lt k400.1 (by decide))))
      have r420 : SG 73 76 0 11 g406 := by rw [← eg406]; exact i392.up (Int.le_trans (by decide) k400.1) (Or.inr (Or.inl (dec_lt k400.1 (by decide))))
      have r421 : SG 82 82 0 5 g406 := by rw [← eg406]; exact i393.up (Int.le_trans (by decide) k400.1) (Or.inr (Or.inl (dec_lt k400.1 (by decide))))
      have r422 : SG 97 100 0 11 g406 := by rw [← eg406]; exact i394.up (Int.le_trans (by decide) k400.1) (Or.inr (Or.inl (dec_lt k400.1 (by decide))))
      refine iast_g hx hb hK hP hD hS 2 0 rfl rfl (ix_k k400 (by decide) (by decide)) eg406 dX10_keeps_75 (fun H locs hP hD hS => ?_)
      have hP : va_P D vwCl [(h0, .inr (10, vL 67 Fh)), (h_s, .inl (cI, 335, .inl f_s)), (h_undone, .inl (cI, 192, .inl g406))] H := hP
      have hD : va_D A [(h0, .inr (10, vL 67 Fh)), (h_s, .inl (cI, 335, .inl f_s)), (h_undone, .inl (cI, 192, .inl g406))] := hD
      obtain ⟨v423, ev423⟩ : ∃ z : Int32, z = u376 + 1 := ⟨_, rfl⟩
      have bv423 : v423.toInt = u376.toInt + 1 := by rw [ev423]; exact add_k rfl rfl k398 ⟨Int.le_refl _, Int.le_refl _⟩ (by decide)
      have k424 : 1 ≤ v423.toInt ∧ v423.toInt ≤ 24 := add_r bv423 k398 ⟨Int.le_refl _, Int.le_refl _⟩ (by decide)
      refine lv_iinc (v := v423) (lv' := [(1, .int v423), (0, .ref h0)]) hx hb dX10_keeps_76 hl (k := 0) rfl (by rw [ev423]; rfl) (by decide) rfl (fun ls hl => ?_)
      refine lv_goto (tgt := 47) hx hb dX10_keeps_79 (by decide) ?_
      exact ih (v423, g406) ⟨(ir_wk k424 (by decide) (by decide)), r407, r408, r409, r410, r411, r412, r413, r414, r415, r416, r417, r418, r419, r420, r421, r422⟩ (by show (24 - v423.toInt).toNat < (24 - u376.toInt).toNat; omega) _ _ _ hP hD hS (lv_sub hl [0, 1] rfl)
  · have dc1 : x_undoMany.toInt = 8 := eq_i (a := x_undoMany.toInt) (b := 8) rfl rfl c1
    have k425 : 8 ≤ x_undoMany.toInt ∧ x_undoMany.toInt ≤ 8 := ⟨Int.le_trans (Int.le_refl _) (Int.le_of_eq dc1.symm), i_x_undoMany.2⟩
    refine lv_iconst (v := 0) hx hb dX10_keeps_9 (by decide) ?_
    refine lv_istore_n (lv' := [(1, .int 0), (0, .ref h0)]) hx hb dX10_keeps_10 rfl hl (by decide) rfl (fun ls hl => ?_)
    refine mloop (α := (Int32) × (Nat → Int32)) (nL := 2) (D := D) (A := A) (H0 := s.heap) (fun a => (168 - a.1.toInt).toNat) (fun a => IR 0 168 a.1 ∧ SG 1 4 0 11 a.2 ∧ SG 10 10 0 5 a.2 ∧ SG 106 106 0 5 a.2 ∧ SG 121 124 0 11 a.2 ∧ SG 130 130 0 5 a.2 ∧ SG 145 148 0 11 a.2 ∧ SG 154 154 0 5 a.2 ∧ SG 169 172 0 11 a.2 ∧ SG 178 178 0 5 a.2 ∧ SG 25 28 0 11 a.2 ∧ SG 34 34 0 5 a.2 ∧ SG 49 52 0 11 a.2 ∧ SG 58 58 0 5 a.2 ∧ SG 73 76 0 11 a.2 ∧ SG 82 82 0 5 a.2 ∧ SG 97 100 0 11 a.2) (fun a => [(h0, .inr (10, vL 67 Fh)), (h_s, .inl (cI, 335, .inl f_s)), (h_undone, .inl (cI, 192, .inl a.2))]) (fun a => [(1, .int a.1), (0, .ref h0)]) (fun H locs ls => W p l e ({ frames := 0, cells := 0, slots := 0, locals := 0 } : Room) s m [.ref h0].toArray below meth c H locs 0 0 (MQ below (va_Qv (fun (u : va_W) => ∃ (Gh : Nat → Value) (y_undoMany : Int32) (g_undone : Nat → Int32), SAME [41] Fh Gh ∧ Gh 41 = .int y_undoMany ∧ IR 1 8 y_undoMany ∧ SG 1 4 0 11 g_undone ∧ SG 10 10 0 5 g_undone ∧ SG 25 28 0 11 g_undone ∧ SG 34 34 0 5 g_undone ∧ SG 49 52 0 11 g_undone ∧ SG 58 58 0 5 g_undone ∧ SG 73 76 0 11 g_undone ∧ SG 82 82 0 5 g_undone ∧ SG 97 100 0 11 g_undone ∧ SG 106 106 0 5 g_undone ∧ SG 121 124 0 11 g_undone ∧ SG 130 130 0 5 g_undone ∧ SG 145 148 0 11 g_undone ∧ SG 154 154 0 5 g_undone ∧ SG 169 172 0 11 g_undone ∧ SG 178 178 0 5 g_undone ∧ u = [(h0, .inr (10, vL 67 Gh)), (h_s, .inl (cI, 335, .inl f_s)), (h_undone, .inl (cI, 192, .inl g_undone))]) (PO D A) A) [.ref h0].toArray s 0 0 A) (F0 m 11 ls [])) ?_ (0, f_undone) ⟨(show 0 ≤ (0 : Int32).toInt ∧ (0 : Int32).toInt ≤ 168 by decide), s_undone_1, s_undone_10, s_undone_106, s_undone_121, s_undone_130, s_undone_145, s_undone_154, s_undone_169, s_undone_178, s_undone_25, s_undone_34, s_undone_49, s_undone_58, s_undone_73, s_undone_82, s_undone_97⟩ _ _ _ hP hD hS hl
    rintro ⟨u426, w427⟩ ⟨i428, i429, i430, i431, i432, i433, i434, i435, i436, i437, i438, i439, i440, i441, i442, i443, i444⟩ ih H locs ls hP hD hS hl
    have i428 : 0 ≤ u426.toInt ∧ u426.toInt ≤ 168 := i428
    have hP : va_P D vwCl [(h0, .inr (10, vL 67 Fh)), (h_s, .inl (cI, 335, .inl f_s)), (h_undone, .inl (cI, 192, .inl w427))] H := hP
    have hD : va_D A [(h0, .inr (10, vL 67 Fh)), (h_s, .inl (cI, 335, .inl f_s)), (h_undone, .inl (cI, 192, .inl w427))] := hD
    have hl : lv_has ls 2 [(1, .int u426), (0, .ref h0)] := hl
    refine lv_iload_n hx hb dX10_keeps_11 rfl (lv_at hl 0 rfl) ?_
    refine lv_sipush (v := 168) hx hb dX10_keeps_12 (by decide) ?_
    refine lv_icmp_ge (tgt := 39) hx hb dX10_keeps_15 (by decide) (fun c445 => ?_) (fun c445 => ?_)
    · have dc445 : 168 ≤ u426.toInt := le_i (a := 168) (b := u426.toInt) rfl rfl c445
      have k446 : 168 ≤ u426.toInt ∧ u426.toInt ≤ 168 := ⟨Int.le_trans (Int.le_refl _) dc445, i428.2⟩
      refine lv_aload_n hx hb dX10_keeps_39 rfl (lv_at hl 1 rfl) ?_
      refine lv_bipush (v := 7) hx hb dX10_keeps_40 (by decide) ?_
      refine put_f (D := D) (ci := 10) (v := .int 7) (ty := .int) (C := RX10) (T := TX10) (N := 67) hx hb hw inAX10 tyX10 tyX10_ok nmX10 hown hK hP hD hS 0 rfl rfl 41 (by decide) (hw _ q_1302) (fun _ h9 => h9) rfl (by decide +kernel) rfl rfl dX10_keeps_42 (fun H locs F447 eF447 hP hD hS => ?_)
      have hP : va_P D vwCl [(h0, .inr (10, vL 67 F447)), (h_s, .inl (cI, 335, .inl f_s)), (h_undone, .inl (cI, 192, .inl w427))] H := hP
      have hD : va_D A [(h0, .inr (10, vL 67 F447)), (h_s, .inl (cI, 335, .inl f_s)), (h_undone, .inl (cI, 192, .inl w427))] := hD
      refine lv_iconst (v := 0) hx hb dX10_keeps_45 (by decide) ?_
      refine lv_istore_n (lv' := [(1, .int 0), (0, .ref h0)]) hx hb dX10_keeps_46 rfl hl (by decide) rfl (fun ls hl => ?_)
      refine mloop (α := (Int32) × (Nat → Int32)) (nL := 2) (D := D) (A := A) (H0 := s.heap) (fun a => (24 - a.1.toInt).toNat) (fun a => IR 0 24 a.1 ∧ SG 1 4 0 11 a.2 ∧ SG 10 10 0 5 a.2 ∧ SG 106 106 0 5 a.2 ∧ SG 121 124 0 11 a.2 ∧ SG 130 130 0 5 a.2 ∧ SG 145 148 0 11 a.2 ∧ SG 154 154 0 5 a.2 ∧ SG 169 172 0 11 a.2 ∧ SG 178 178 0 5 a.2 ∧ SG 25 28 0 11 a.2 ∧ SG 34 34 0 5 a.2 ∧ SG 49 52 0 11 a.2 ∧ SG 58 58 0 5 a.2 ∧ SG 73 76 0 11 a.2 ∧ SG 82 82 0 5 a.2 ∧ SG 97 100 0 11 a.2) (fun a => [(h0, .inr (10, vL 67 F447)), (h_s, .inl (cI, 335, .inl f_s)), (h_undone, .inl (cI, 192, .inl a.2))]) (fun a => [(1, .int a.1), (0, .ref h0)]) (fun H locs ls => W p l e ({ frames := 0, cells := 0, slots := 0, locals := 0 } : Room) s m [.ref h0].toArray below meth c H locs 0 0 (MQ below (va_Qv (fun (u : va_W) => ∃ (Gh : Nat → Value) (y_undoMany : Int32) (g_undone : Nat → Int32), SAME [41] Fh Gh ∧ Gh 41 = .int y_undoMany ∧ IR 1 8 y_undoMany ∧ SG 1 4 0 11 g_undone ∧ SG 10 10 0 5 g_undone ∧ SG 25 28 0 11 g_undone ∧ SG 34 34 0 5 g_undone ∧ SG 49 52 0 11 g_undone ∧ SG 58 58 0 5 g_undone ∧ SG 73 76 0 11 g_undone ∧ SG 82 82 0 5 g_undone ∧ SG 97 100 0 11 g_undone ∧ SG 106 106 0 5 g_undone ∧ SG 121 124 0 11 g_undone ∧ SG 130 130 0 5 g_undone ∧ SG 145 148 0 11 g_undone ∧ SG 154 154 0 5 g_undone ∧ SG 169 172 0 11 g_undone ∧ SG 178 178 0 5 g_undone ∧ u = [(h0, .inr (10, vL 67 Gh)), (h_s, .inl (cI, 335, .inl f_s)), (h_undone, .inl (cI, 192, .inl g_undone))]) (PO D A) A) [.ref h0].toArray s 0 0 A) (F0 m 47 ls [])) ?_ (0, w427) ⟨(show 0 ≤ (0 : Int32).toInt ∧ (0 : Int32).toInt ≤ 24 by decide), i429, i430, i431, i432, i433, i434, i435, i436, i437, i438, i439, i440, i441, i442, i443, i444⟩ _ _ _ hP hD hS hl
      rintro ⟨u448, w449⟩ ⟨i450, i451, i452, i453, i454, i455, i456, i457, i458, i459, i460, i461, i462, i463, i464, i465, i466⟩ ih_47 H locs ls hP hD hS hl
      have i450 : 0 ≤ u448.toInt ∧ u448.toInt ≤ 24 := i450
      have hP : va_P D vwCl [(h0, .inr (10, vL 67 F447)), (h_s, .inl (cI, 335, .inl f_s)), (h_undone, .inl (cI, 192, .inl w449))] H := hP
      have hD : va_D A [(h0, .inr (10, vL 67 F447)), (h_s, .inl (cI, 335, .inl f_s)), (h_undone, .inl (cI, 192, .inl w449))] := hD
      have hl : lv_has ls 2 [(1, .int u448), (0, .ref h0)] := hl
      refine lv_iload_n hx hb dX10_keeps_47 rfl (lv_at hl 0 rfl) ?_
      refine lv_bipush (v := 24) hx hb dX10_keeps_48 (by decide) ?_
      refine lv_icmp_ge (tgt := 82) hx hb dX10_keeps_50 (by decide) (fun c467 => ?_) (fun c467 => ?_)
      · have dc467 : 24 ≤ u448.toInt := le_i (a := 24) (b := u448.toInt) rfl rfl c467
        have k468 : 24 ≤ u448.toInt ∧ u448.toInt ≤ 24 := ⟨Int.le_trans (Int.le_refl _) dc467, i450.2⟩
        refine lv_aload_n hx hb dX10_keeps_82 rfl (lv_at hl 1 rfl) ?_
        refine lv_dup hx hb dX10_keeps_83 rfl ?_
        refine get_f (D := D) (ci := 10) (v := .int 7) (C := RX10) (T := TX10) (N := 67) hx hb hw inAX10 hown hK hP 0 rfl rfl 41 (by decide) (hw _ q_1302) (fun _ h9 => h9) (get_eq eF447) dX10_keeps_84 ?_
        refine lv_iconst (v := 1) hx hb dX10_keeps_87 (by decide) ?_
        refine lv_iadd hx hb dX10_keeps_88 ?_
        refine lv_ci (y := 8) (by decide +kernel) ?_
        refine put_f (D := D) (ci := 10) (v := .int 8) (ty := .int) (C := RX10) (T := TX10) (N := 67) hx hb hw inAX10 tyX10 tyX10_ok nmX10 hown hK hP hD hS 0 rfl rfl 41 (by decide) (hw _ q_1302) (fun _ h9 => h9) rfl (by decide +kernel) rfl rfl dX10_keeps_89 (fun H locs F469 eF469 hP hD hS => ?_)
        have hP : va_P D vwCl [(h0, .inr (10, vL 67 F469)), (h_s, .inl (cI, 335, .inl f_s)), (h_undone, .inl (cI, 192, .inl w449))] H := hP
        have hD : va_D A [(h0, .inr (10, vL 67 F469)), (h_s, .inl (cI, 335, .inl f_s)), (h_undone, .inl (cI, 192, .inl w449))] := hD
        exact ret_v hx hb hr hlocks hS hP hD dX10_keeps_92 (Nat.le_of_ble_eq_true rfl) (Nat.le_of_ble_eq_true rfl) ⟨F469, 8, w449, (SAME.up eF469 (SAME.up eF447 SAME.rf (by decide)) (by decide)), (get_eq eF469), (show 1 ≤ (8 : Int32).toInt ∧ (8 : Int32).toInt ≤ 8 by decide), i451, i452, i460, i461, i462, i463, i464, i465, i466, i453, i454, i455, i456, i457, i458, i459, rfl⟩
      · have dc467 : u448.toInt < 24 := nle_i (a := 24) (b := u448.toInt) rfl rfl c467
        have k470 : 0 ≤ u448.toInt ∧ u448.toInt ≤ 23 := ⟨i450.1, up_lt dc467 (Int.le_refl _) (by decide)⟩
        refine lv_aload_n hx hb dX10_keeps_53 rfl (lv_at hl 1 rfl) ?_
        have n471 : F447 39 = .ref h_undone := (get_ne eF447 (by decide) e_undone)
        refine get_f (D := D) (ci := 10) (v := .ref h_undone) (C := RX10) (T := TX10) (N := 67) hx hb hw inAX10 hown hK hP 0 rfl rfl 39 (by decide) (hw _ q_1300) (fun _ h9 => h9) n471 dX10_keeps_54 ?_
        refine lv_bipush (v := 24) hx hb dX10_keeps_57 (by decide) ?_
        refine lv_aload_n hx hb dX10_keeps_59 rfl (lv_at hl 1 rfl) ?_
        refine get_f (D := D) (ci := 10) (v := .int 7) (C := RX10) (T := TX10) (N := 67) hx hb hw inAX10 hown hK hP 0 rfl rfl 41 (by decide) (hw _ q_1302) (fun _ h9 => h9) (get_eq eF447) dX10_keeps_60 ?_
        refine lv_imul hx hb dX10_keeps_63 ?_
        refine lv_ci (y := 168) (by decide +kernel) ?_
        refine lv_iload_n hx hb dX10_keeps_64 rfl (lv_at hl 0 rfl) ?_
        refine lv_iadd hx hb dX10_keeps_65 ?_
        refine lv_topi (fun v472 ev472 => ?_)
        have bv472 : v472.toInt = 168 + u448.toInt := by rw [ev472]; exact add_k rfl rfl ⟨Int.le_refl _, Int.le_refl _⟩ k470 (by decide)
        have k473 : 168 ≤ v472.toInt ∧ v472.toInt ≤ 191 := add_r bv472 ⟨Int.le_refl _, Int.le_refl _⟩ k470 (by decide)
        refine lv_aload_n hx hb dX10_keeps_66 rfl (lv_at hl 1 rfl) ?_
        have n474 : F447 6 = .ref h_s := (get_ne eF447 (by decide) e_s)
        refine get_f (D := D) (ci := 10) (v := .ref h_s) (C := RX10) (T := TX10) (N := 67) hx hb hw inAX10 hown hK hP 0 rfl rfl 6 (by decide) (hw _ q_1267) (fun _ h9 => h9) n474 dX10_keeps_67 ?_
        refine lv_bipush (v := 104) hx hb dX10_keeps_70 (by decide) ?_
        refine lv_iload_n hx hb dX10_keeps_72 rfl (lv_at hl 0 rfl) ?_
        refine lv_iadd hx hb dX10_keeps_73 ?_
        refine lv_topi (fun v475 ev475 => ?_)
        have bv475 : v475.toInt = 104 + u448.toInt := by rw [ev475]; exact add_k rfl rfl ⟨Int.le_refl _, Int.le_refl _⟩ k470 (by decide)
        have k476 : 104 ≤ v475.toInt ∧ v475.toInt ≤ 127 := add_r bv475 ⟨Int.le_refl _, Int.le_refl _⟩ k470 (by decide)
        refine va_iald hx hb hK hP 1 0 rfl rfl (ix_k k476 (by decide) (by decide)) dX10_keeps_74 ?_
        refine lv_topi (fun v477 ev477 => ?_)
        have r478 : IMP (105 ≤ v475.toInt → v475.toInt ≤ 108 → 0 ≤ v477.toInt ∧ v477.toInt ≤ 11) := IMP.mk (fun q1 q2 => by rw [ev477]; exact s_s_105.at _ q1 q2)
        have r479 : IMP (114 ≤ v475.toInt → v475.toInt ≤ 114 → 0 ≤ v477.toInt ∧ v477.toInt ≤ 5) := IMP.mk (fun q1 q2 => by rw [ev477]; exact s_s_114.at _ q1 q2)
        obtain ⟨g480, eg480⟩ : ∃ z : Nat → Int32, upd w449 v472.toNatClampNeg v477 = z := ⟨_, rfl⟩
        have r481 : SG 1 4 0 11 g480 := by rw [← eg480]; exact i451.up (Int.le_trans (by decide) k473.1) (Or.inr (Or.inl (dec_lt k473.1 (by decide))))
        have r482 : SG 10 10 0 5 g480 := by rw [← eg480]; exact i452.up (Int.le_trans (by decide) k473.1) (Or.inr (Or.inl (dec_lt k473.1 (by decide))))
        have r483 : SG 106 106 0 5 g480 := by rw [← eg480]; exact i453.up (Int.le_trans (by decide) k473.1) (Or.inr (Or.inl (dec_lt k473.1 (by decide))))
        have r484 : SG 121 124 0 11 g480 := by rw [← eg480]; exact i454.up (Int.le_trans (by decide) k473.1) (Or.inr (Or.inl (dec_lt k473.1 (by decide))))
        have r485 : SG 130 130 0 5 g480 := by rw [← eg480]; exact i455.up (Int.le_trans (by decide) k473.1) (Or.inr (Or.inl (dec_lt k473.1 (by decide))))
        have r486 : SG 145 148 0 11 g480 := by rw [← eg480]; exact i456.up (Int.le_trans (by decide) k473.1) (Or.inr (Or.inl (dec_lt k473.1 (by decide))))
        have r487 : SG 154 154 0 5 g480 := by rw [← eg480]; exact i457.up (Int.le_trans (by decide) k473.1) (Or.inr (Or.inl (dec_lt k473.1 (by decide))))
        have r488 : SG 169 172 0 11 g480 := by rw [← eg480]; exact i458.upI (Int.le_trans (by decide) k473.1) (fun q1 q2 => ⟨Int.le_trans (by decide) (r478.h (by omega) (by omega)).1, Int.le_trans (r478.h (by omega) (by omega)).2 (by decide)⟩)
        have r489 : SG 178 178 0 5 g480 := by rw [← eg480]; exact i459.upI (Int.le_trans (by decide) k473.1) (fun q1 q2 => ⟨Int.le_trans (by decide) (r479.h (by omega) (by omega)).1, Int.le_trans (r479.h (by omega) (by omega)).2 (by decide)⟩)
        have r490 : SG 25 28 0 11 g480 := by rw [← eg480]; exact i460.up (Int.le_trans (by decide) k473.1) (Or.inr (Or.inl (dec_lt k473.1 (by decide))))
        have r491 : SG 34 34 0 5 g480 := by rw [← eg480]; exact i461.up (Int.le_trans (by decide) k473.1) (Or.inr (Or.inl (dec_lt k473.1 (by decide))))
        have r492 : SG 49 52 0 11 g480 := by rw [← eg480]; exact i462.up (Int.le_trans (by decide) k473.1) (Or.inr (Or.inl (dec_lt k473.1 (by decide))))
        have r493 : SG 58 58 0 5 g480 := by rw [← eg480]; exact i463.up (Int.le_trans (by decide) k473.1) (Or.inr (Or.inl (dec_lt k473.1 (by decide))))
        have r494 : SG 73 76 0 11 g480 := by rw [← eg480]; exact i464.up (Int.le_trans (by decide) k473.1) (Or.inr (Or.inl (dec_lt k473.1 (by decide))))
        have r495 : SG 82 82 0 5 g480 := by rw [← eg480]; exact i465.up (Int.le_trans (by decide) k473.1) (Or.inr (Or.inl (dec_lt k473.1 (by decide))))
        have r496 : SG 97 100 0 11 g480 := by rw [← eg480]; exact i466.up (Int.le_trans (by decide) k473.1) (Or.inr (Or.inl (dec_lt k473.1 (by decide))))
        refine iast_g hx hb hK hP hD hS 2 0 rfl rfl (ix_k k473 (by decide) (by decide)) eg480 dX10_keeps_75 (fun H locs hP hD hS => ?_)
        have hP : va_P D vwCl [(h0, .inr (10, vL 67 F447)), (h_s, .inl (cI, 335, .inl f_s)), (h_undone, .inl (cI, 192, .inl g480))] H := hP
        have hD : va_D A [(h0, .inr (10, vL 67 F447)), (h_s, .inl (cI, 335, .inl f_s)), (h_undone, .inl (cI, 192, .inl g480))] := hD
        obtain ⟨v497, ev497⟩ : ∃ z : Int32, z = u448 + 1 := ⟨_, rfl⟩
        have bv497 : v497.toInt = u448.toInt + 1 := by rw [ev497]; exact add_k rfl rfl k470 ⟨Int.le_refl _, Int.le_refl _⟩ (by decide)
        have k498 : 1 ≤ v497.toInt ∧ v497.toInt ≤ 24 := add_r bv497 k470 ⟨Int.le_refl _, Int.le_refl _⟩ (by decide)
        refine lv_iinc (v := v497) (lv' := [(1, .int v497), (0, .ref h0)]) hx hb dX10_keeps_76 hl (k := 0) rfl (by rw [ev497]; rfl) (by decide) rfl (fun ls hl => ?_)
        refine lv_goto (tgt := 47) hx hb dX10_keeps_79 (by decide) ?_
        exact ih_47 (v497, g480) ⟨(ir_wk k498 (by decide) (by decide)), r481, r482, r483, r484, r485, r486, r487, r488, r489, r490, r491, r492, r493, r494, r495, r496⟩ (by show (24 - v497.toInt).toNat < (24 - u448.toInt).toNat; omega) _ _ _ hP hD hS (lv_sub hl [0, 1] rfl)
    · have dc445 : u426.toInt < 168 := nle_i (a := 168) (b := u426.toInt) rfl rfl c445
      have k499 : 0 ≤ u426.toInt ∧ u426.toInt ≤ 167 := ⟨i428.1, up_lt dc445 (Int.le_refl _) (by decide)⟩
      refine lv_aload_n hx hb dX10_keeps_18 rfl (lv_at hl 1 rfl) ?_
      refine get_f (D := D) (ci := 10) (v := .ref h_undone) (C := RX10) (T := TX10) (N := 67) hx hb hw inAX10 hown hK hP 0 rfl rfl 39 (by decide) (hw _ q_1300) (fun _ h9 => h9) e_undone dX10_keeps_19 ?_
      refine lv_iload_n hx hb dX10_keeps_22 rfl (lv_at hl 0 rfl) ?_
      refine lv_aload_n hx hb dX10_keeps_23 rfl (lv_at hl 1 rfl) ?_
      refine get_f (D := D) (ci := 10) (v := .ref h_undone) (C := RX10) (T := TX10) (N := 67) hx hb hw inAX10 hown hK hP 0 rfl rfl 39 (by decide) (hw _ q_1300) (fun _ h9 => h9) e_undone dX10_keeps_24 ?_
      refine lv_iload_n hx hb dX10_keeps_27 rfl (lv_at hl 0 rfl) ?_
      refine lv_bipush (v := 24) hx hb dX10_keeps_28 (by decide) ?_
      refine lv_iadd hx hb dX10_keeps_30 ?_
      refine lv_topi (fun v500 ev500 => ?_)
      have bv500 : v500.toInt = u426.toInt + 24 := by rw [ev500]; exact add_k rfl rfl k499 ⟨Int.le_refl _, Int.le_refl _⟩ (by decide)
      have k501 : 24 ≤ v500.toInt ∧ v500.toInt ≤ 191 := add_r bv500 k499 ⟨Int.le_refl _, Int.le_refl _⟩ (by decide)
      refine va_iald hx hb hK hP 2 0 rfl rfl (ix_k k501 (by decide) (by decide)) dX10_keeps_31 ?_
      refine lv_topi (fun v502 ev502 => ?_)
      have r503 : IMP (106 ≤ v500.toInt → v500.toInt ≤ 106 → 0 ≤ v502.toInt ∧ v502.toInt ≤ 5) := IMP.mk (fun q1 q2 => by rw [ev502]; exact i431.at _ q1 q2)
      have r504 : IMP (121 ≤ v500.toInt → v500.toInt ≤ 124 → 0 ≤ v502.toInt ∧ v502.toInt ≤ 11) := IMP.mk (fun q1 q2 => by rw [ev502]; exact i432.at _ q1 q2)
      have r505 : IMP (130 ≤ v500.toInt → v500.toInt ≤ 130 → 0 ≤ v502.toInt ∧ v502.toInt ≤ 5) := IMP.mk (fun q1 q2 => by rw [ev502]; exact i433.at _ q1 q2)
      have r506 : IMP (145 ≤ v500.toInt → v500.toInt ≤ 148 → 0 ≤ v502.toInt ∧ v502.toInt ≤ 11) := IMP.mk (fun q1 q2 => by rw [ev502]; exact i434.at _ q1 q2)
      have r507 : IMP (154 ≤ v500.toInt → v500.toInt ≤ 154 → 0 ≤ v502.toInt ∧ v502.toInt ≤ 5) := IMP.mk (fun q1 q2 => by rw [ev502]; exact i435.at _ q1 q2)
      have r508 : IMP (169 ≤ v500.toInt → v500.toInt ≤ 172 → 0 ≤ v502.toInt ∧ v502.toInt ≤ 11) := IMP.mk (fun q1 q2 => by rw [ev502]; exact i436.at _ q1 q2)
      have r509 : IMP (178 ≤ v500.toInt → v500.toInt ≤ 178 → 0 ≤ v502.toInt ∧ v502.toInt ≤ 5) := IMP.mk (fun q1 q2 => by rw [ev502]; exact i437.at _ q1 q2)
      have r510 : IMP (25 ≤ v500.toInt → v500.toInt ≤ 28 → 0 ≤ v502.toInt ∧ v502.toInt ≤ 11) := IMP.mk (fun q1 q2 => by rw [ev502]; exact i438.at _ q1 q2)
      have r511 : IMP (34 ≤ v500.toInt → v500.toInt ≤ 34 → 0 ≤ v502.toInt ∧ v502.toInt ≤ 5) := IMP.mk (fun q1 q2 => by rw [ev502]; exact i439.at _ q1 q2)
      have r512 : IMP (49 ≤ v500.toInt → v500.toInt ≤ 52 → 0 ≤ v502.toInt ∧ v502.toInt ≤ 11) := IMP.mk (fun q1 q2 => by rw [ev502]; exact i440.at _ q1 q2)
      have r513 : IMP (58 ≤ v500.toInt → v500.toInt ≤ 58 → 0 ≤ v502.toInt ∧ v502.toInt ≤ 5) := IMP.mk (fun q1 q2 => by rw [ev502]; exact i441.at _ q1 q2)
      have r514 : IMP (73 ≤ v500.toInt → v500.toInt ≤ 76 → 0 ≤ v502.toInt ∧ v502.toInt ≤ 11) := IMP.mk (fun q1 q2 => by rw [ev502]; exact i442.at _ q1 q2)
      have r515 : IMP (82 ≤ v500.toInt → v500.toInt ≤ 82 → 0 ≤ v502.toInt ∧ v502.toInt ≤ 5) := IMP.mk (fun q1 q2 => by rw [ev502]; exact i443.at _ q1 q2)
      have r516 : IMP (97 ≤ v500.toInt → v500.toInt ≤ 100 → 0 ≤ v502.toInt ∧ v502.toInt ≤ 11) := IMP.mk (fun q1 q2 => by rw [ev502]; exact i444.at _ q1 q2)
      obtain ⟨g517, eg517⟩ : ∃ z : Nat → Int32, upd w427 u426.toNatClampNeg v502 = z := ⟨_, rfl⟩
      have r518 : SG 1 4 0 11 g517 := by rw [← eg517]; exact i429.upI (Int.le_trans (by decide) k499.1) (fun q1 q2 => ⟨Int.le_trans (by decide) (r510.h (by omega) (by omega)).1, Int.le_trans (r510.h (by omega) (by omega)).2 (by decide)⟩)
      have r519 : SG 10 10 0 5 g517 := by rw [← eg517]; exact i430.upI (Int.le_trans (by decide) k499.1) (fun q1 q2 => ⟨Int.le_trans (by decide) (r511.h (by omega) (by omega)).1, Int.le_trans (r511.h (by omega) (by omega)).2 (by decide)⟩)
      have r520 : SG 106 106 0 5 g517 := by rw [← eg517]; exact i431.upI (Int.le_trans (by decide) k499.1) (fun q1 q2 => ⟨Int.le_trans (by decide) (r505.h (by omega) (by omega)).1, Int.le_trans (r505.h (by omega) (by omega)).2 (by decide)⟩)
      have r521 : SG 121 124 0 11 g517 := by rw [← eg517]; exact i432.upI (Int.le_trans (by decide) k499.1) (fun q1 q2 => ⟨Int.le_trans (by decide) (r506.h (by omega) (by omega)).1, Int.le_trans (r506.h (by omega) (by omega)).2 (by decide)⟩)
      have r522 : SG 130 130 0 5 g517 := by rw [← eg517]; exact i433.upI (Int.le_trans (by decide) k499.1) (fun q1 q2 => ⟨Int.le_trans (by decide) (r507.h (by omega) (by omega)).1, Int.le_trans (r507.h (by omega) (by omega)).2 (by decide)⟩)
      have r523 : SG 145 148 0 11 g517 := by rw [← eg517]; exact i434.upI (Int.le_trans (by decide) k499.1) (fun q1 q2 => ⟨Int.le_trans (by decide) (r508.h (by omega) (by omega)).1, Int.le_trans (r508.h (by omega) (by omega)).2 (by decide)⟩)
      have r524 : SG 154 154 0 5 g517 := by rw [← eg517]; exact i435.upI (Int.le_trans (by decide) k499.1) (fun q1 q2 => ⟨Int.le_trans (by decide) (r509.h (by omega) (by omega)).1, Int.le_trans (r509.h (by omega) (by omega)).2 (by decide)⟩)
      have r525 : SG 169 172 0 11 g517 := by rw [← eg517]; exact i436.up (Int.le_trans (by decide) k499.1) (Or.inl (lt_dec k499.2 (by decide)))
      have r526 : SG 178 178 0 5 g517 := by rw [← eg517]; exact i437.up (Int.le_trans (by decide) k499.1) (Or.inl (lt_dec k499.2 (by decide)))
      have r527 : SG 25 28 0 11 g517 := by rw [← eg517]; exact i438.upI (Int.le_trans (by decide) k499.1) (fun q1 q2 => ⟨Int.le_trans (by decide) (r512.h (by omega) (by omega)).1, Int.le_trans (r512.h (by omega) (by omega)).2 (by decide)⟩)
      have r528 : SG 34 34 0 5 g517 := by rw [← eg517]; exact i439.upI (Int.le_trans (by decide) k499.1) (fun q1 q2 => ⟨Int.le_trans (by decide) (r513.h (by omega) (by omega)).1, Int.le_trans (r513.h (by omega) (by omega)).2 (by decide)⟩)
      have r529 : SG 49 52 0 11 g517 := by rw [← eg517]; exact i440.upI (Int.le_trans (by decide) k499.1) (fun q1 q2 => ⟨Int.le_trans (by decide) (r514.h (by omega) (by omega)).1, Int.le_trans (r514.h (by omega) (by omega)).2 (by decide)⟩)
      have r530 : SG 58 58 0 5 g517 := by rw [← eg517]; exact i441.upI (Int.le_trans (by decide) k499.1) (fun q1 q2 => ⟨Int.le_trans (by decide) (r515.h (by omega) (by omega)).1, Int.le_trans (r515.h (by omega) (by omega)).2 (by decide)⟩)
      have r531 : SG 73 76 0 11 g517 := by rw [← eg517]; exact i442.upI (Int.le_trans (by decide) k499.1) (fun q1 q2 => ⟨Int.le_trans (by decide) (r516.h (by omega) (by omega)).1, Int.le_trans (r516.h (by omega) (by omega)).2 (by decide)⟩)
      have r532 : SG 82 82 0 5 g517 := by rw [← eg517]; exact i443.upI (Int.le_trans (by decide) k499.1) (fun q1 q2 => ⟨Int.le_trans (by decide) (r503.h (by omega) (by omega)).1, Int.le_trans (r503.h (by omega) (by omega)).2 (by decide)⟩)
      have r533 : SG 97 100 0 11 g517 := by rw [← eg517]; exact i444.upI (Int.le_trans (by decide) k499.1) (fun q1 q2 => ⟨Int.le_trans (by decide) (r504.h (by omega) (by omega)).1, Int.le_trans (r504.h (by omega) (by omega)).2 (by decide)⟩)
      refine iast_g hx hb hK hP hD hS 2 0 rfl rfl (ix_k k499 (by decide) (by decide)) eg517 dX10_keeps_32 (fun H locs hP hD hS => ?_)
      have hP : va_P D vwCl [(h0, .inr (10, vL 67 Fh)), (h_s, .inl (cI, 335, .inl f_s)), (h_undone, .inl (cI, 192, .inl g517))] H := hP
      have hD : va_D A [(h0, .inr (10, vL 67 Fh)), (h_s, .inl (cI, 335, .inl f_s)), (h_undone, .inl (cI, 192, .inl g517))] := hD
      obtain ⟨v534, ev534⟩ : ∃ z : Int32, z = u426 + 1 := ⟨_, rfl⟩
      have bv534 : v534.toInt = u426.toInt + 1 := by rw [ev534]; exact add_k rfl rfl k499 ⟨Int.le_refl _, Int.le_refl _⟩ (by decide)
      have k535 : 1 ≤ v534.toInt ∧ v534.toInt ≤ 168 := add_r bv534 k499 ⟨Int.le_refl _, Int.le_refl _⟩ (by decide)
      refine lv_iinc (v := v534) (lv' := [(1, .int v534), (0, .ref h0)]) hx hb dX10_keeps_33 hl (k := 0) rfl (by rw [ev534]; rfl) (by decide) rfl (fun ls hl => ?_)
      refine lv_goto (tgt := 11) hx hb dX10_keeps_36 (by decide) ?_
      exact ih (v534, g517) ⟨(ir_wk k535 (by decide) (by decide)), r518, r519, r520, r521, r522, r523, r524, r525, r526, r527, r528, r529, r530, r531, r532, r533⟩ (by show (168 - v534.toInt).toNat < (168 - u426.toInt).toNat; omega) _ _ _ hP hD hS (lv_sub hl [0, 1] rfl)
set_option maxHeartbeats 4000000 in
set_option maxRecDepth 100000 in
theorem m_X10_undo (l : Launch) (D : va_G) (cI cJ cB cP cM cZ : ClassId) (h0 : Nat) (h_s : Nat) (h_undone : Nat) (Fh : Nat → Value) (x_undoMany : Int32) (f_s : Nat → Int32) (f_undone : Nat → Int32) (sz : Nat) (e_s : Fh 6 = .ref h_s) (e_undone : Fh 39 = .ref h_undone) (e_undoMany : Fh 41 = .int x_undoMany) (i_x_undoMany : IR 0 8 x_undoMany) (s_s_K0 : KW 0 f_s) (s_s_0 : SG 0 0 0 40 f_s) (s_s_105 : SG 105 108 0 11 f_s) (s_s_114 : SG 114 114 0 5 f_s) (s_s_130 : SG 130 133 0 11 f_s) (s_s_139 : SG 139 139 0 5 f_s) (s_s_153 : SG 153 153 0 44 f_s) (s_s_44 : SG 44 55 0 9 f_s) (s_s_5 : SG 5 5 0 12 f_s) (s_s_6 : SG 6 6 0 12 f_s) (s_s_7 : SG 7 7 0 6 f_s) (s_undone_1 : SG 1 4 0 11 f_undone) (s_undone_10 : SG 10 10 0 5 f_undone) (s_undone_106 : SG 106 106 0 5 f_undone) (s_undone_121 : SG 121 124 0 11 f_undone) (s_undone_130 : SG 130 130 0 5 f_undone) (s_undone_145 : SG 145 148 0 11 f_undone) (s_undone_154 : SG 154 154 0 5 f_undone) (s_undone_169 : SG 169 172 0 11 f_undone) (s_undone_178 : SG 178 178 0 5 f_undone) (s_undone_25 : SG 25 28 0 11 f_undone) (s_undone_34 : SG 34 34 0 5 f_undone) (s_undone_49 : SG 49 52 0 11 f_undone) (s_undone_58 : SG 58 58 0 5 f_undone) (s_undone_73 : SG 73 76 0 11 f_undone) (s_undone_82 : SG 82 82 0 5 f_undone) (s_undone_97 : SG 97 100 0 11 f_undone) : CI l yX10_undo cX10_undo 2 (some .int) { frames := 0, cells := 0, slots := 0, locals := 0 } (GG D cI cJ cB cP cM cZ) D [(h0, .inr (10, vL 67 Fh)), (h_s, .inl (cI, 335, .inl f_s)), (h_undone, .inl (cI, 192, .inl f_undone))] sz [.ref h0] (fun (r : Int32) (u : va_W) => ∃ (Gh : Nat → Value) (y_undoMany : Int32) (g_s : Nat → Int32), SAME [0, 41] Fh Gh ∧ Gh 0 = .int 0 ∧ Gh 41 = .int y_undoMany ∧ IR 0 7 y_undoMany ∧ SG 153 153 0 44 g_s ∧ SG 0 0 0 40 g_s ∧ SG 5 5 0 12 g_s ∧ SG 6 6 0 12 g_s ∧ SG 7 7 0 6 g_s ∧ SG 44 55 0 9 g_s ∧ KW 0 g_s ∧ SG 105 108 0 11 g_s ∧ SG 114 114 0 5 g_s ∧ SG 130 133 0 11 g_s ∧ SG 139 139 0 5 g_s ∧ IR (-1) 7 r ∧ u = [(h0, .inr (10, vL 67 Gh)), (h_s, .inl (cI, 335, .inl g_s)), (h_undone, .inl (cI, 192, .inl f_undone))]) := by
  refine CI_mk (by decide) (Nat.le_of_ble_eq_true rfl) ?_
  intro p e s m below meth c A ls E hAe hG hsz hP hD hA hS hl
  obtain ⟨hx, hb, hr, hw, hown, hlocks, hml, hnm⟩ := E
  have hK := hG.1
  have i_x_undoMany : 0 ≤ x_undoMany.toInt ∧ x_undoMany.toInt ≤ 8 := i_x_undoMany
  have hl : lv_has ls 2 [(0, .ref h0)] := hl
  refine lv_aload_n hx hb dX10_undo_0 rfl (lv_at hl 0 rfl) ?_
  refine lv_iconst (v := 0) hx hb dX10_undo_1 (by decide) ?_
  refine put_f (D := D) (ci := 10) (v := .int 0) (ty := .int) (C := RX10) (T := TX10) (N := 67) hx hb hw inAX10 tyX10 tyX10_ok nmX10 hown hK hP hD hS 0 rfl rfl 0 (by decide) (hw _ q_1261) (fun _ h9 => h9) rfl (by decide +kernel) rfl rfl dX10_undo_2 (fun H locs F1 eF1 hP hD hS => ?_)
  have hP : va_P D vwCl [(h0, .inr (10, vL 67 F1)), (h_s, .inl (cI, 335, .inl f_s)), (h_undone, .inl (cI, 192, .inl f_undone))] H := hP
  have hD : va_D A [(h0, .inr (10, vL 67 F1)), (h_s, .inl (cI, 335, .inl f_s)), (h_undone, .inl (cI, 192, .inl f_undone))] := hD
  refine lv_aload_n hx hb dX10_undo_5 rfl (lv_at hl 0 rfl) ?_
  have n2 : F1 41 = .int x_undoMany := (get_ne eF1 (by decide) e_undoMany)
  refine get_f (D := D) (ci := 10) (v := .int x_undoMany) (C := RX10) (T := TX10) (N := 67) hx hb hw inAX10 hown hK hP 0 rfl rfl 41 (by decide) (hw _ q_1302) (fun _ h9 => h9) n2 dX10_undo_6 ?_
  refine lv_if_ne (tgt := 14) hx hb dX10_undo_9 (by decide) (fun c3 => ?_) (fun c3 => ?_)
  · have dc3 : x_undoMany.toInt ≠ 0 := ne_i (a := x_undoMany.toInt) (b := 0) rfl rfl c3
    have k4 : 1 ≤ x_undoMany.toInt ∧ x_undoMany.toInt ≤ 8 := ⟨ne_lo dc3 i_x_undoMany.1 ⟨Int.le_refl _, Int.le_refl _⟩ (by decide), i_x_undoMany.2⟩
    refine lv_aload_n hx hb dX10_undo_14 rfl (lv_at hl 0 rfl) ?_
    refine lv_dup hx hb dX10_undo_15 rfl ?_
    refine get_f (D := D) (ci := 10) (v := .int x_undoMany) (C := RX10) (T := TX10) (N := 67) hx hb hw inAX10 hown hK hP 0 rfl rfl 41 (by decide) (hw _ q_1302) (fun _ h9 => h9) n2 dX10_undo_16 ?_
    refine lv_iconst (v := 1) hx hb dX10_undo_19 (by decide) ?_
    refine lv_isub hx hb dX10_undo_20 ?_
    refine lv_topi (fun v5 ev5 => ?_)
    have bv5 : v5.toInt = x_undoMany.toInt - 1 := by rw [ev5]; exact sub_k rfl rfl k4 ⟨Int.le_refl _, Int.le_refl _⟩ (by decide)
    have k6 : 0 ≤ v5.toInt ∧ v5.toInt ≤ 7 := sub_r bv5 k4 ⟨Int.le_refl _, Int.le_refl _⟩ (by decide)
    refine put_f (D := D) (ci := 10) (v := .int v5) (ty := .int) (C := RX10) (T := TX10) (N := 67) hx hb hw inAX10 tyX10 tyX10_ok nmX10 hown hK hP hD hS 0 rfl rfl 41 (by decide) (hw _ q_1302) (fun _ h9 => h9) rfl (by decide +kernel) rfl rfl dX10_undo_21 (fun H locs F7 eF7 hP hD hS => ?_)
    have hP : va_P D vwCl [(h0, .inr (10, vL 67 F7)), (h_s, .inl (cI, 335, .inl f_s)), (h_undone, .inl (cI, 192, .inl f_undone))] H := hP
    have hD : va_D A [(h0, .inr (10, vL 67 F7)), (h_s, .inl (cI, 335, .inl f_s)), (h_undone, .inl (cI, 192, .inl f_undone))] := hD
    by_cases k8 : v5 = 0
    · have dk8 : v5.toInt = 0 := eq_i rfl rfl k8
      have k9 : 0 ≤ v5.toInt ∧ v5.toInt ≤ 0 := ⟨k6.1, Int.le_trans (Int.le_of_eq dk8) (Int.le_refl _)⟩
      have k10 : 1 ≤ x_undoMany.toInt ∧ x_undoMany.toInt ≤ 1 := ⟨k4.1, lin_hi (lin_m bv5) k9.2 (by decide)⟩
      have n11 : F7 41 = .int 0 := by rw [(get_eq eF7)]; exact congrArg Value.int k8
      refine lv_iconst (v := 0) hx hb dX10_undo_24 (by decide) ?_
      refine lv_istore_n (lv' := [(1, .int 0), (0, .ref h0)]) hx hb dX10_undo_25 rfl hl (by decide) rfl (fun ls hl => ?_)
      refine mloop (α := (Int32) × (Nat → Int32)) (nL := 2) (D := D) (A := A) (H0 := s.heap) (fun a => (24 - a.1.toInt).toNat) (fun a => IR 0 24 a.1 ∧ KW 0 a.2 ∧ SG 0 0 0 40 a.2 ∧ SG 105 108 0 11 a.2 ∧ SG 114 114 0 5 a.2 ∧ SG 130 133 0 11 a.2 ∧ SG 139 139 0 5 a.2 ∧ SG 153 153 0 44 a.2 ∧ SG 44 55 0 9 a.2 ∧ SG 5 5 0 12 a.2 ∧ SG 6 6 0 12 a.2 ∧ SG 7 7 0 6 a.2) (fun a => [(h0, .inr (10, vL 67 F7)), (h_s, .inl (cI, 335, .inl a.2)), (h_undone, .inl (cI, 192, .inl f_undone))]) (fun a => [(1, .int a.1), (0, .ref h0)]) (fun H locs ls => W p l e ({ frames := 0, cells := 0, slots := 0, locals := 0 } : Room) s m [.ref h0].toArray below meth c H locs 0 0 (MQ below (va_Qi (fun (r : Int32) (u : va_W) => ∃ (Gh : Nat → Value) (y_undoMany : Int32) (g_s : Nat → Int32), SAME [0, 41] Fh Gh ∧ Gh 0 = .int 0 ∧ Gh 41 = .int y_undoMany ∧ IR 0 7 y_undoMany ∧ SG 153 153 0 44 g_s ∧ SG 0 0 0 40 g_s ∧ SG 5 5 0 12 g_s ∧ SG 6 6 0 12 g_s ∧ SG 7 7 0 6 g_s ∧ SG 44 55 0 9 g_s ∧ KW 0 g_s ∧ SG 105 108 0 11 g_s ∧ SG 114 114 0 5 g_s ∧ SG 130 133 0 11 g_s ∧ SG 139 139 0 5 g_s ∧ IR (-1) 7 r ∧ u = [(h0, .inr (10, vL 67 Gh)), (h_s, .inl (cI, 335, .inl g_s)), (h_undone, .inl (cI, 192, .inl f_undone))]) (PO D A) A) [.ref h0].toArray s 0 0 A) (F0 m 26 ls [])) ?_ (0, f_s) ⟨(show 0 ≤ (0 : Int32).toInt ∧ (0 : Int32).toInt ≤ 24 by decide), s_s_K0, s_s_0, s_s_105, s_s_114, s_s_130, s_s_139, s_s_153, s_s_44, s_s_5, s_s_6, s_s_7⟩ _ _ _ hP hD hS hl
      rintro ⟨u12, w13⟩ ⟨i14, i15, i16, i17, i18, i19, i20, i21, i22, i23, i24, i25⟩ ih H locs ls hP hD hS hl
      have i14 : 0 ≤ u12.toInt ∧ u12.toInt ≤ 24 := i14
      have hP : va_P D vwCl [(h0, .inr (10, vL 67 F7)), (h_s, .inl (cI, 335, .inl w13)), (h_undone, .inl (cI, 192, .inl f_undone))] H := hP
      have hD : va_D A [(h0, .inr (10, vL 67 F7)), (h_s, .inl (cI, 335, .inl w13)), (h_undone, .inl (cI, 192, .inl f_undone))] := hD
      have hl : lv_has ls 2 [(1, .int u12), (0, .ref h0)] := hl
      refine lv_iload_n hx hb dX10_undo_26 rfl (lv_at hl 0 rfl) ?_
      refine lv_bipush (v := 24) hx hb dX10_undo_27 (by decide) ?_
      refine lv_icmp_ge (tgt := 61) hx hb dX10_undo_29 (by decide) (fun c26 => ?_) (fun c26 => ?_)
      · have dc26 : 24 ≤ u12.toInt := le_i (a := 24) (b := u12.toInt) rfl rfl c26
        have k27 : 24 ≤ u12.toInt ∧ u12.toInt ≤ 24 := ⟨Int.le_trans (Int.le_refl _) dc26, i14.2⟩
        refine lv_aload_n hx hb dX10_undo_61 rfl (lv_at hl 1 rfl) ?_
        refine get_f (D := D) (ci := 10) (v := .int 0) (C := RX10) (T := TX10) (N := 67) hx hb hw inAX10 hown hK hP 0 rfl rfl 41 (by decide) (hw _ q_1302) (fun _ h9 => h9) n11 dX10_undo_62 ?_
        exact ret_i (v := 0) hx hb hr hlocks hS hP hD dX10_undo_65 rfl (Nat.le_of_ble_eq_true rfl) (Nat.le_of_ble_eq_true rfl) ⟨F7, v5, w13, (SAME.up eF7 (SAME.up eF1 SAME.rf (by decide)) (by decide)), (get_ne eF7 (by decide) (get_eq eF1)), (get_eq eF7), (ir_wk k9 (by decide) (by decide)), i21, i16, i23, i24, i25, i22, i15, i17, i18, i19, i20, (show (-1) ≤ (0 : Int32).toInt ∧ (0 : Int32).toInt ≤ 7 by decide), rfl⟩
      · have dc26 : u12.toInt < 24 := nle_i (a := 24) (b := u12.toInt) rfl rfl c26
        have k28 : 0 ≤ u12.toInt ∧ u12.toInt ≤ 23 := ⟨i14.1, up_lt dc26 (Int.le_refl _) (by decide)⟩
        refine lv_aload_n hx hb dX10_undo_32 rfl (lv_at hl 1 rfl) ?_
        have n29 : F1 6 = .ref h_s := (get_ne eF1 (by decide) e_s)
        have n30 : F7 6 = .ref h_s := (get_ne eF7 (by decide) n29)
        refine get_f (D := D) (ci := 10) (v := .ref h_s) (C := RX10) (T := TX10) (N := 67) hx hb hw inAX10 hown hK hP 0 rfl rfl 6 (by decide) (hw _ q_1267) (fun _ h9 => h9) n30 dX10_undo_33 ?_
        refine lv_bipush (v := 104) hx hb dX10_undo_36 (by decide) ?_
        refine lv_iload_n hx hb dX10_undo_38 rfl (lv_at hl 0 rfl) ?_
        refine lv_iadd hx hb dX10_undo_39 ?_
        refine lv_topi (fun v31 ev31 => ?_)
        have bv31 : v31.toInt = 104 + u12.toInt := by rw [ev31]; exact add_k rfl rfl ⟨Int.le_refl _, Int.le_refl _⟩ k28 (by decide)
        have k32 : 104 ≤ v31.toInt ∧ v31.toInt ≤ 127 := add_r bv31 ⟨Int.le_refl _, Int.le_refl _⟩ k28 (by decide)
        refine lv_aload_n hx hb dX10_undo_40 rfl (lv_at hl 1 rfl) ?_
        have n33 : F1 39 = .ref h_undone := (get_ne eF1 (by decide) e_undone)
        have n34 : F7 39 = .ref h_undone := (get_ne eF7 (by decide) n33)
        refine get_f (D := D) (ci := 10) (v := .ref h_undone) (C := RX10) (T := TX10) (N := 67) hx hb hw inAX10 hown hK hP 0 rfl rfl 39 (by decide) (hw _ q_1300) (fun _ h9 => h9) n34 dX10_undo_41 ?_
        refine lv_bipush (v := 24) hx hb dX10_undo_44 (by decide) ?_
        refine lv_aload_n hx hb dX10_undo_46 rfl (lv_at hl 1 rfl) ?_
        refine get_f (D := D) (ci := 10) (v := .int 0) (C := RX10) (T := TX10) (N := 67) hx hb hw inAX10 hown hK hP 0 rfl rfl 41 (by decide) (hw _ q_1302) (fun _ h9 => h9) n11 dX10_undo_47 ?_
        refine lv_imul hx hb dX10_undo_50 ?_
        refine lv_ci (y := 0) (by decide +kernel) ?_
        refine lv_iload_n hx hb dX10_undo_51 rfl (lv_at hl 0 rfl) ?_
        refine lv_iadd hx hb dX10_undo_52 ?_
        refine lv_topi (fun v35 ev35 => ?_)
        have bv35 : v35.toInt = 0 + u12.toInt := by rw [ev35]; exact add_k rfl rfl ⟨Int.le_refl _, Int.le_refl _⟩ k28 (by decide)
        have k36 : 0 ≤ v35.toInt ∧ v35.toInt ≤ 23 := add_r bv35 ⟨Int.le_refl _, Int.le_refl _⟩ k28 (by decide)
        refine va_iald hx hb hK hP 2 0 rfl rfl (ix_k k36 (by decide) (by decide)) dX10_undo_53 ?_
        refine lv_topi (fun v37 ev37 => ?_)
        have r38 : IMP (1 ≤ v35.toInt → v35.toInt ≤ 4 → 0 ≤ v37.toInt ∧ v37.toInt ≤ 11) := IMP.mk (fun q1 q2 => by rw [ev37]; exact s_undone_1.at _ q1 q2)
        have r39 : IMP (10 ≤ v35.toInt → v35.toInt ≤ 10 → 0 ≤ v37.toInt ∧ v37.toInt ≤ 5) := IMP.mk (fun q1 q2 => by rw [ev37]; exact s_undone_10.at _ q1 q2)
        obtain ⟨g40, eg40⟩ : ∃ z : Nat → Int32, upd w13 v31.toNatClampNeg v37 = z := ⟨_, rfl⟩
        have r41 : KW 0 g40 := by rw [← eg40]; exact i15.up (Int.le_trans (by decide) k32.1) (Or.inl (lt_dec k32.2 (by decide)))
        have r42 : SG 0 0 0 40 g40 := by rw [← eg40]; exact i16.up (Int.le_trans (by decide) k32.1) (Or.inr (Or.inl (dec_lt k32.1 (by decide))))
        have r43 : SG 105 108 0 11 g40 := by rw [← eg40]; exact i17.upI (Int.le_trans (by decide) k32.1) (fun q1 q2 => ⟨Int.le_trans (by decide) (r38.h (by omega) (by omega)).1, Int.le_trans (r38.h (by omega) (by omega)).2 (by decide)⟩)
        have r44 : SG 114 114 0 5 g40 := by rw [← eg40]; exact i18.upI (Int.le_trans (by decide) k32.1) (fun q1 q2 => ⟨Int.le_trans (by decide) (r39.h (by omega) (by omega)).1, Int.le_trans (r39.h (by omega) (by omega)).2 (by decide)⟩)
        have r45 : SG 130 133 0 11 g40 := by rw [← eg40]; exact i19.up (Int.le_trans (by decide) k32.1) (Or.inl (lt_dec k32.2 (by decide)))
        have r46 : SG 139 139 0 5 g40 := by rw [← eg40]; exact i20.up (Int.le_trans (by decide) k32.1) (Or.inl (lt_dec k32.2 (by decide)))
        have r47 : SG 153 153 0 44 g40 := by rw [← eg40]; exact i21.up (Int.le_trans (by decide) k32.1) (Or.inl (lt_dec k32.2 (by decide)))
        have r48 : SG 44 55 0 9 g40 := by rw [← eg40]; exact i22.up (Int.le_trans (by decide) k32.1) (Or.inr (Or.inl (dec_lt k32.1 (by decide))))
        have r49 : SG 5 5 0 12 g40 := by rw [← eg40]; exact i23.up (Int.le_trans (by decide) k32.1) (Or.inr (Or.inl (dec_lt k32.1 (by decide))))
        have r50 : SG 6 6 0 12 g40 := by rw [← eg40]; exact i24.up (Int.le_trans (by decide) k32.1) (Or.inr (Or.inl (dec_lt k32.1 (by decide))))
        have r51 : SG 7 7 0 6 g40 := by rw [← eg40]; exact i25.up (Int.le_trans (by decide) k32.1) (Or.inr (Or.inl (dec_lt k32.1 (by decide))))
        refine iast_g hx hb hK hP hD hS 1 0 rfl rfl (ix_k k32 (by decide) (by decide)) eg40 dX10_undo_54 (fun H locs hP hD hS => ?_)
        have hP : va_P D vwCl [(h0, .inr (10, vL 67 F7)), (h_s, .inl (cI, 335, .inl g40)), (h_undone, .inl (cI, 192, .inl f_undone))] H := hP
        have hD : va_D A [(h0, .inr (10, vL 67 F7)), (h_s, .inl (cI, 335, .inl g40)), (h_undone, .inl (cI, 192, .inl f_undone))] := hD
        obtain ⟨v52, ev52⟩ : ∃ z : Int32, z = u12 + 1 := ⟨_, rfl⟩
        have bv52 : v52.toInt = u12.toInt + 1 := by rw [ev52]; exact add_k rfl rfl k28 ⟨Int.le_refl _, Int.le_refl _⟩ (by decide)
        have k53 : 1 ≤ v52.toInt ∧ v52.toInt ≤ 24 := add_r bv52 k28 ⟨Int.le_refl _, Int.le_refl _⟩ (by decide)
        refine lv_iinc (v := v52) (lv' := [(1, .int v52), (0, .ref h0)]) hx hb dX10_undo_55 hl (k := 0) rfl (by rw [ev52]; rfl) (by decide) rfl (fun ls hl => ?_)
        refine lv_goto (tgt := 26) hx hb dX10_undo_58 (by decide) ?_
        exact ih (v52, g40) ⟨(ir_wk k53 (by decide) (by decide)), r41, r42, r43, r44, r45, r46, r47, r48, r49, r50, r51⟩ (by show (24 - v52.toInt).toNat < (24 - u12.toInt).toNat; omega) _ _ _ hP hD hS (lv_sub hl [0, 1] rfl)
    have dk8 : v5.toInt ≠ 0 := ne_i rfl rfl k8
    have k54 : 1 ≤ v5.toInt ∧ v5.toInt ≤ 7 := ⟨ne_lo dk8 k6.1 ⟨Int.le_refl _, Int.le_refl _⟩ (by decide), k6.2⟩
    have k55 : 2 ≤ x_undoMany.toInt ∧ x_undoMany.toInt ≤ 8 := ⟨lin_lo (lin_m bv5) k54.1 (by decide), k4.2⟩
    by_cases k56 : v5 = 1
    · have dk56 : v5.toInt = 1 := eq_i rfl rfl k56
      have k57 : 1 ≤ v5.toInt ∧ v5.toInt ≤ 1 := ⟨k54.1, Int.le_trans (Int.le_of_eq dk56) (Int.le_refl _)⟩
      have k58 : 2 ≤ x_undoMany.toInt ∧ x_undoMany.toInt ≤ 2 := ⟨k55.1, lin_hi (lin_m bv5) k57.2 (by decide)⟩
      have n59 : F7 41 = .int 1 := by rw [(get_eq eF7)]; exact congrArg Value.int k56
      refine lv_iconst (v := 0) hx hb dX10_undo_24 (by decide) ?_
      refine lv_istore_n (lv' := [(1, .int 0), (0, .ref h0)]) hx hb dX10_undo_25 rfl hl (by decide) rfl (fun ls hl => ?_)
      refine mloop (α := (Int32) × (Nat → Int32)) (nL := 2) (D := D) (A := A) (H0 := s.heap) (fun a => (24 - a.1.toInt).toNat) (fun a => IR 0 24 a.1 ∧ KW 0 a.2 ∧ SG 0 0 0 40 a.2 ∧ SG 105 108 0 11 a.2 ∧ SG 114 114 0 5 a.2 ∧ SG 130 133 0 11 a.2 ∧ SG 139 139 0 5 a.2 ∧ SG 153 153 0 44 a.2 ∧ SG 44 55 0 9 a.2 ∧ SG 5 5 0 12 a.2 ∧ SG 6 6 0 12 a.2 ∧ SG 7 7 0 6 a.2) (fun a => [(h0, .inr (10, vL 67 F7)), (h_s, .inl (cI, 335, .inl a.2)), (h_undone, .inl (cI, 192, .inl f_undone))]) (fun a => [(1, .int a.1), (0, .ref h0)]) (fun H locs ls => W p l e ({ frames := 0, cells := 0, slots := 0, locals := 0 } : Room) s m [.ref h0].toArray below meth c H locs 0 0 (MQ below (va_Qi (fun (r : Int32) (u : va_W) => ∃ (Gh : Nat → Value) (y_undoMany : Int32) (g_s : Nat → Int32), SAME [0, 41] Fh Gh ∧ Gh 0 = .int 0 ∧ Gh 41 = .int y_undoMany ∧ IR 0 7 y_undoMany ∧ SG 153 153 0 44 g_s ∧ SG 0 0 0 40 g_s ∧ SG 5 5 0 12 g_s ∧ SG 6 6 0 12 g_s ∧ SG 7 7 0 6 g_s ∧ SG 44 55 0 9 g_s ∧ KW 0 g_s ∧ SG 105 108 0 11 g_s ∧ SG 114 114 0 5 g_s ∧ SG 130 133 0 11 g_s ∧ SG 139 139 0 5 g_s ∧ IR (-1) 7 r ∧ u = [(h0, .inr (10, vL 67 Gh)), (h_s, .inl (cI, 335, .inl g_s)), (h_undone, .inl (cI, 192, .inl f_undone))]) (PO D A) A) [.ref h0].toArray s 0 0 A) (F0 m 26 ls [])) ?_ (0, f_s) ⟨(show 0 ≤ (0 : Int32).toInt ∧ (0 : Int32).toInt ≤ 24 by decide), s_s_K0, s_s_0, s_s_105, s_s_114, s_s_130, s_s_139, s_s_153, s_s_44, s_s_5, s_s_6, s_s_7⟩ _ _ _ hP hD hS hl
      rintro ⟨u60, w61⟩ ⟨i62, i63, i64, i65, i66, i67, i68, i69, i70, i71, i72, i73⟩ ih H locs ls hP hD hS hl
      have i62 : 0 ≤ u60.toInt ∧ u60.toInt ≤ 24 := i62
      have hP : va_P D vwCl [(h0, .inr (10, vL 67 F7)), (h_s, .inl (cI, 335, .inl w61)), (h_undone, .inl (cI, 192, .inl f_undone))] H := hP
      have hD : va_D A [(h0, .inr (10, vL 67 F7)), (h_s, .inl (cI, 335, .inl w61)), (h_undone, .inl (cI, 192, .inl f_undone))] := hD
      have hl : lv_has ls 2 [(1, .int u60), (0, .ref h0)] := hl
      refine lv_iload_n hx hb dX10_undo_26 rfl (lv_at hl 0 rfl) ?_
      refine lv_bipush (v := 24) hx hb dX10_undo_27 (by decide) ?_
      refine lv_icmp_ge (tgt := 61) hx hb dX10_undo_29 (by decide) (fun c74 => ?_) (fun c74 => ?_)
      · have dc74 : 24 ≤ u60.toInt := le_i (a := 24) (b := u60.toInt) rfl rfl c74
        have k75 : 24 ≤ u60.toInt ∧ u60.toInt ≤ 24 := ⟨Int.le_trans (Int.le_refl _) dc74, i62.2⟩
        refine lv_aload_n hx hb dX10_undo_61 rfl (lv_at hl 1 rfl) ?_
        refine get_f (D := D) (ci := 10) (v := .int 1) (C := RX10) (T := TX10) (N := 67) hx hb hw inAX10 hown hK hP 0 rfl rfl 41 (by decide) (hw _ q_1302) (fun _ h9 => h9) n59 dX10_undo_62 ?_
        exact ret_i (v := 1) hx hb hr hlocks hS hP hD dX10_undo_65 rfl (Nat.le_of_ble_eq_true rfl) (Nat.le_of_ble_eq_true rfl) ⟨F7, v5, w61, (SAME.up eF7 (SAME.up eF1 SAME.rf (by decide)) (by decide)), (get_ne eF7 (by decide) (get_eq eF1)), (get_eq eF7), (ir_wk k57 (by decide) (by decide)), i69, i64, i71, i72, i73, i70, i63, i65, i66, i67, i68, (show (-1) ≤ (1 : Int32).toInt ∧ (1 : Int32).toInt ≤ 7 by decide), rfl⟩
      · have dc74 : u60.toInt < 24 := nle_i (a := 24) (b := u60.toInt) rfl rfl c74
        have k76 : 0 ≤ u60.toInt ∧ u60.toInt ≤ 23 := ⟨i62.1, up_lt dc74 (Int.le_refl _) (by decide)⟩
        refine lv_aload_n hx hb dX10_undo_32 rfl (lv_at hl 1 rfl) ?_
        have n77 : F1 6 = .ref h_s := (get_ne eF1 (by decide) e_s)
        have n78 : F7 6 = .ref h_s := (get_ne eF7 (by decide) n77)
        refine get_f (D := D) (ci := 10) (v := .ref h_s) (C := RX10) (T := TX10) (N := 67) hx hb hw inAX10 hown hK hP 0 rfl rfl 6 (by decide) (hw _ q_1267) (fun _ h9 => h9) n78 dX10_undo_33 ?_
        refine lv_bipush (v := 104) hx hb dX10_undo_36 (by decide) ?_
        refine lv_iload_n hx hb dX10_undo_38 rfl (lv_at hl 0 rfl) ?_
        refine lv_iadd hx hb dX10_undo_39 ?_
        refine lv_topi (fun v79 ev79 => ?_)
        have bv79 : v79.toInt = 104 + u60.toInt := by rw [ev79]; exact add_k rfl rfl ⟨Int.le_refl _, Int.le_refl _⟩ k76 (by decide)
        have k80 : 104 ≤ v79.toInt ∧ v79.toInt ≤ 127 := add_r bv79 ⟨Int.le_refl _, Int.le_refl _⟩ k76 (by decide)
        refine lv_aload_n hx hb dX10_undo_40 rfl (lv_at hl 1 rfl) ?_
        have n81 : F1 39 = .ref h_undone := (get_ne eF1 (by decide) e_undone)
        have n82 : F7 39 = .ref h_undone := (get_ne eF7 (by decide) n81)
        refine get_f (D := D) (ci := 10) (v := .ref h_undone) (C := RX10) (T := TX10) (N := 67) hx hb hw inAX10 hown hK hP 0 rfl rfl 39 (by decide) (hw _ q_1300) (fun _ h9 => h9) n82 dX10_undo_41 ?_
        refine lv_bipush (v := 24) hx hb dX10_undo_44 (by decide) ?_
        refine lv_aload_n hx hb dX10_undo_46 rfl (lv_at hl 1 rfl) ?_
        refine get_f (D := D) (ci := 10) (v := .int 1) (C := RX10) (T := TX10) (N := 67) hx hb hw inAX10 hown hK hP 0 rfl rfl 41 (by decide) (hw _ q_1302) (fun _ h9 => h9) n59 dX10_undo_47 ?_
        refine lv_imul hx hb dX10_undo_50 ?_
        refine lv_ci (y := 24) (by decide +kernel) ?_
        refine lv_iload_n hx hb dX10_undo_51 rfl (lv_at hl 0 rfl) ?_
        refine lv_iadd hx hb dX10_undo_52 ?_
        refine lv_topi (fun v83 ev83 => ?_)
        have bv83 : v83.toInt = 24 + u60.toInt := by rw [ev83]; exact add_k rfl rfl ⟨Int.le_refl _, Int.le_refl _⟩ k76 (by decide)
        have k84 : 24 ≤ v83.toInt ∧ v83.toInt ≤ 47 := add_r bv83 ⟨Int.le_refl _, Int.le_refl _⟩ k76 (by decide)
        refine va_iald hx hb hK hP 2 0 rfl rfl (ix_k k84 (by decide) (by decide)) dX10_undo_53 ?_
        refine lv_topi (fun v85 ev85 => ?_)
        have r86 : IMP (25 ≤ v83.toInt → v83.toInt ≤ 28 → 0 ≤ v85.toInt ∧ v85.toInt ≤ 11) := IMP.mk (fun q1 q2 => by rw [ev85]; exact s_undone_25.at _ q1 q2)
        have r87 : IMP (34 ≤ v83.toInt → v83.toInt ≤ 34 → 0 ≤ v85.toInt ∧ v85.toInt ≤ 5) := IMP.mk (fun q1 q2 => by rw [ev85]; exact s_undone_34.at _ q1 q2)
        obtain ⟨g88, eg88⟩ : ∃ z : Nat → Int32, upd w61 v79.toNatClampNeg v85 = z := ⟨_, rfl⟩
        have r89 : KW 0 g88 := by rw [← eg88]; exact i63.up (Int.le_trans (by decide) k80.1) (Or.inl (lt_dec k80.2 (by decide)))
        have r90 : SG 0 0 0 40 g88 := by rw [← eg88]; exact i64.up (Int.le_trans (by decide) k80.1) (Or.inr (Or.inl (dec_lt k80.1 (by decide))))
        have r91 : SG 105 108 0 11 g88 := by rw [← eg88]; exact i65.upI (Int.le_trans (by decide) k80.1) (fun q1 q2 => ⟨Int.le_trans (by decide) (r86.h (by omega) (by omega)).1, Int.le_trans (r86.h (by omega) (by omega)).2 (by decide)⟩)
        have r92 : SG 114 114 0 5 g88 := by rw [← eg88]; exact i66.upI (Int.le_trans (by decide) k80.1) (fun q1 q2 => ⟨Int.le_trans (by decide) (r87.h (by omega) (by omega)).1, Int.le_trans (r87.h (by omega) (by omega)).2 (by decide)⟩)
        have r93 : SG 130 133 0 11 g88 := by rw [← eg88]; exact i67.up (Int.le_trans (by decide) k80.1) (Or.inl (lt_dec k80.2 (by decide)))
        have r94 : SG 139 139 0 5 g88 := by rw [← eg88]; exact i68.up (Int.le_trans (by decide) k80.1) (Or.inl (lt_dec k80.2 (by decide)))
        have r95 : SG 153 153 0 44 g88 := by rw [← eg88]; exact i69.up (Int.le_trans (by decide) k80.1) (Or.inl (lt_dec k80.2 (by decide)))
        have r96 : SG 44 55 0 9 g88 := by rw [← eg88]; exact i70.up (Int.le_trans (by decide) k80.1) (Or.inr (Or.inl (dec_lt k80.1 (by decide))))
        have r97 : SG 5 5 0 12 g88 := by rw [← eg88]; exact i71.up (Int.le_trans (by decide) k80.1) (Or.inr (Or.inl (dec_lt k80.1 (by decide))))
        have r98 : SG 6 6 0 12 g88 := by rw [← eg88]; exact i72.up (Int.le_trans (by decide) k80.1) (Or.inr (Or.inl (dec_lt k80.1 (by decide))))
        have r99 : SG 7 7 0 6 g88 := by rw [← eg88]; exact i73.up (Int.le_trans (by decide) k80.1) (Or.inr (Or.inl (dec_lt k80.1 (by decide))))
        refine iast_g hx hb hK hP hD hS 1 0 rfl rfl (ix_k k80 (by decide) (by decide)) eg88 dX10_undo_54 (fun H locs hP hD hS => ?_)
        have hP : va_P D vwCl [(h0, .inr (10, vL 67 F7)), (h_s, .inl (cI, 335, .inl g88)), (h_undone, .inl (cI, 192, .inl f_undone))] H := hP
        have hD : va_D A [(h0, .inr (10, vL 67 F7)), (h_s, .inl (cI, 335, .inl g88)), (h_undone, .inl (cI, 192, .inl f_undone))] := hD
        obtain ⟨v100, ev100⟩ : ∃ z : Int32, z = u60 + 1 := ⟨_, rfl⟩
        have bv100 : v100.toInt = u60.toInt + 1 := by rw [ev100]; exact add_k rfl rfl k76 ⟨Int.le_refl _, Int.le_refl _⟩ (by decide)
        have k101 : 1 ≤ v100.toInt ∧ v100.toInt ≤ 24 := add_r bv100 k76 ⟨Int.le_refl _, Int.le_refl _⟩ (by decide)
        refine lv_iinc (v := v100) (lv' := [(1, .int v100), (0, .ref h0)]) hx hb dX10_undo_55 hl (k := 0) rfl (by rw [ev100]; rfl) (by decide) rfl (fun ls hl => ?_)
        refine lv_goto (tgt := 26) hx hb dX10_undo_58 (by decide) ?_
        exact ih (v100, g88) ⟨(ir_wk k101 (by decide) (by decide)), r89, r90, r91, r92, r93, r94, r95, r96, r97, r98, r99⟩ (by show (24 - v100.toInt).toNat < (24 - u60.toInt).toNat; omega) _ _ _ hP hD hS (lv_sub hl [0, 1] rfl)
    have dk56 : v5.toInt ≠ 1 := ne_i rfl rfl k56
    have k102 : 2 ≤ v5.toInt ∧ v5.toInt ≤ 7 := ⟨ne_lo dk56 k54.1 ⟨Int.le_refl _, Int.le_refl _⟩ (by decide), k54.2⟩
    have k103 : 3 ≤ x_undoMany.toInt ∧ x_undoMany.toInt ≤ 8 := ⟨lin_lo (lin_m bv5) k102.1 (by decide), k55.2⟩
    by_cases k104 : v5 = 2
    · have dk104 : v5.toInt = 2 := eq_i rfl rfl k104
      have k105 : 2 ≤ v5.toInt ∧ v5.toInt ≤ 2 := ⟨k102.1, Int.le_trans (Int.le_of_eq dk104) (Int.le_refl _)⟩
      have k106 : 3 ≤ x_undoMany.toInt ∧ x_undoMany.toInt ≤ 3 := ⟨k103.1, lin_hi (lin_m bv5) k105.2 (by decide)⟩
      have n107 : F7 41 = .int 2 := by rw [(get_eq eF7)]; exact congrArg Value.int k104
      refine lv_iconst (v := 0) hx hb dX10_undo_24 (by decide) ?_
      refine lv_istore_n (lv' := [(1, .int 0), (0, .ref h0)]) hx hb dX10_undo_25 rfl hl (by decide) rfl (fun ls hl => ?_)
      refine mloop (α := (Int32) × (Nat → Int32)) (nL := 2) (D := D) (A := A) (H0 := s.heap) (fun a => (24 - a.1.toInt).toNat) (fun a => IR 0 24 a.1 ∧ KW 0 a.2 ∧ SG 0 0 0 40 a.2 ∧ SG 105 108 0 11 a.2 ∧ SG 114 114 0 5 a.2 ∧ SG 130 133 0 11 a.2 ∧ SG 139 139 0 5 a.2 ∧ SG 153 153 0 44 a.2 ∧ SG 44 55 0 9 a.2 ∧ SG 5 5 0 12 a.2 ∧ SG 6 6 0 12 a.2 ∧ SG 7 7 0 6 a.2) (fun a => [(h0, .inr (10, vL 67 F7)), (h_s, .inl (cI, 335, .inl a.2)), (h_undone, .inl (cI, 192, .inl f_undone))]) (fun a => [(1, .int a.1), (0, .ref h0)]) (fun H locs ls => W p l e ({ frames := 0, cells := 0, slots := 0, locals := 0 } : Room) s m [.ref h0].toArray below meth c H locs 0 0 (MQ below (va_Qi (fun (r : Int32) (u : va_W) => ∃ (Gh : Nat → Value) (y_undoMany : Int32) (g_s : Nat → Int32), SAME [0, 41] Fh Gh ∧ Gh 0 = .int 0 ∧ Gh 41 = .int y_undoMany ∧ IR 0 7 y_undoMany ∧ SG 153 153 0 44 g_s ∧ SG 0 0 0 40 g_s ∧ SG 5 5 0 12 g_s ∧ SG 6 6 0 12 g_s ∧ SG 7 7 0 6 g_s ∧ SG 44 55 0 9 g_s ∧ KW 0 g_s ∧ SG 105 108 0 11 g_s ∧ SG 114 114 0 5 g_s ∧ SG 130 133 0 11 g_s ∧ SG 139 139 0 5 g_s ∧ IR (-1) 7 r ∧ u = [(h0, .inr (10, vL 67 Gh)), (h_s, .inl (cI, 335, .inl g_s)), (h_undone, .inl (cI, 192, .inl f_undone))]) (PO D A) A) [.ref h0].toArray s 0 0 A) (F0 m 26 ls [])) ?_ (0, f_s) ⟨(show 0 ≤ (0 : Int32).toInt ∧ (0 : Int32).toInt ≤ 24 by decide), s_s_K0, s_s_0, s_s_105, s_s_114, s_s_130, s_s_139, s_s_153, s_s_44, s_s_5, s_s_6, s_s_7⟩ _ _ _ hP hD hS hl
      rintro ⟨u108, w109⟩ ⟨i110, i111, i112, i113, i114, i115, i116, i117, i118, i119, i120, i121⟩ ih H locs ls hP hD hS hl
      have i110 : 0 ≤ u108.toInt ∧ u108.toInt ≤ 24 := i110
      have hP : va_P D vwCl [(h0, .inr (10, vL 67 F7)), (h_s, .inl (cI, 335, .inl w109)), (h_undone, .inl (cI, 192, .inl f_undone))] H := hP
      have hD : va_D A [(h0, .inr (10, vL 67 F7)), (h_s, .inl (cI, 335, .inl w109)), (h_undone, .inl (cI, 192, .inl f_undone))] := hD
      have hl : lv_has ls 2 [(1, .int u108), (0, .ref h0)] := hl
      refine lv_iload_n hx hb dX10_undo_26 rfl (lv_at hl 0 rfl) ?_
      refine lv_bipush (v := 24) hx hb dX10_undo_27 (by decide) ?_
      refine lv_icmp_ge (tgt := 61) hx hb dX10_undo_29 (by decide) (fun c122 => ?_) (fun c122 => ?_)
      · have dc122 : 24 ≤ u108.toInt := le_i (a := 24) (b := u108.toInt) rfl rfl c122
        have k123 : 24 ≤ u108.toInt ∧ u108.toInt ≤ 24 := ⟨Int.le_trans (Int.le_refl _) dc122, i110.2⟩
        refine lv_aload_n hx hb dX10_undo_61 rfl (lv_at hl 1 rfl) ?_
        refine get_f (D := D) (ci := 10) (v := .int 2) (C := RX10) (T := TX10) (N := 67) hx hb hw inAX10 hown hK hP 0 rfl rfl 41 (by decide) (hw _ q_1302) (fun _ h9 => h9) n107 dX10_undo_62 ?_
        exact ret_i (v := 2) hx hb hr hlocks hS hP hD dX10_undo_65 rfl (Nat.le_of_ble_eq_true rfl) (Nat.le_of_ble_eq_true rfl) ⟨F7, v5, w109, (SAME.up eF7 (SAME.up eF1 SAME.rf (by decide)) (by decide)), (get_ne eF7 (by decide) (get_eq eF1)), (get_eq eF7), (ir_wk k105 (by decide) (by decide)), i117, i112, i119, i120, i121, i118, i111, i113, i114, i115, i116, (show (-1) ≤ (2 : Int32).toInt ∧ (2 : Int32).toInt ≤ 7 by decide), rfl⟩
      · have dc122 : u108.toInt < 24 := nle_i (a := 24) (b := u108.toInt) rfl rfl c122
        have k124 : 0 ≤ u108.toInt ∧ u108.toInt ≤ 23 := ⟨i110.1, up_lt dc122 (Int.le_refl _) (by decide)⟩
        refine lv_aload_n hx hb dX10_undo_32 rfl (lv_at hl 1 rfl) ?_
        have n125 : F1 6 = .ref h_s := (get_ne eF1 (by decide) e_s)
        have n126 : F7 6 = .ref h_s := (get_ne eF7 (by decide) n125)
        refine get_f (D := D) (ci := 10) (v := .ref h_s) (C := RX10) (T := TX10) (N := 67) hx hb hw inAX10 hown hK hP 0 rfl rfl 6 (by decide) (hw _ q_1267) (fun _ h9 => h9) n126 dX10_undo_33 ?_
        refine lv_bipush (v := 104) hx hb dX10_undo_36 (by decide) ?_
        refine lv_iload_n hx hb dX10_undo_38 rfl (lv_at hl 0 rfl) ?_
        refine lv_iadd hx hb dX10_undo_39 ?_
        refine lv_topi (fun v127 ev127 => ?_)
        have bv127 : v127.toInt = 104 + u108.toInt := by rw [ev127]; exact add_k rfl rfl ⟨Int.le_refl _, Int.le_refl _⟩ k124 (by decide)
        have k128 : 104 ≤ v127.toInt ∧ v127.toInt ≤ 127 := add_r bv127 ⟨Int.le_refl _, Int.le_refl _⟩ k124 (by decide)
        refine lv_aload_n hx hb dX10_undo_40 rfl (lv_at hl 1 rfl) ?_
        have n129 : F1 39 = .ref h_undone := (get_ne eF1 (by decide) e_undone)
        have n130 : F7 39 = .ref h_undone := (get_ne eF7 (by decide) n129)
        refine get_f (D := D) (ci := 10) (v := .ref h_undone) (C := RX10) (T := TX10) (N := 67) hx hb hw inAX10 hown hK hP 0 rfl rfl 39 (by decide) (hw _ q_1300) (fun _ h9 => h9) n130 dX10_undo_41 ?_
        refine lv_bipush (v := 24) hx hb dX10_undo_44 (by decide) ?_
        refine lv_aload_n hx hb dX10_undo_46 rfl (lv_at hl 1 rfl) ?_
        refine get_f (D := D) (ci := 10) (v := .int 2) (C := RX10) (T := TX10) (N := 67) hx hb hw inAX10 hown hK hP 0 rfl rfl 41 (by decide) (hw _ q_1302) (fun _ h9 => h9) n107 dX10_undo_47 ?_
        refine lv_imul hx hb dX10_undo_50 ?_
        refine lv_ci (y := 48) (by decide +kernel) ?_
        refine lv_iload_n hx hb dX10_undo_51 rfl (lv_at hl 0 rfl) ?_
        refine lv_iadd hx hb dX10_undo_52 ?_
        refine lv_topi (fun v131 ev131 => ?_)
        have bv131 : v131.toInt = 48 + u108.toInt := by rw [ev131]; exact add_k rfl rfl ⟨Int.le_refl _, Int.le_refl _⟩ k124 (by decide)
        have k132 : 48 ≤ v131.toInt ∧ v131.toInt ≤ 71 := add_r bv131 ⟨Int.le_refl _, Int.le_refl _⟩ k124 (by decide)
        refine va_iald hx hb hK hP 2 0 rfl rfl (ix_k k132 (by decide) (by decide)) dX10_undo_53 ?_
        refine lv_topi (fun v133 ev133 => ?_)
        have r134 : IMP (49 ≤ v131.toInt → v131.toInt ≤ 52 → 0 ≤ v133.toInt ∧ v133.toInt ≤ 11) := IMP.mk (fun q1 q2 => by rw [ev133]; exact s_undone_49.at _ q1 q2)
        have r135 : IMP (58 ≤ v131.toInt → v131.toInt ≤ 58 → 0 ≤ v133.toInt ∧ v133.toInt ≤ 5) := IMP.mk (fun q1 q2 => by rw [ev133]; exact s_undone_58.at _ q1 q2)
        obtain ⟨g136, eg136⟩ : ∃ z : Nat → Int32, upd w109 v127.toNatClampNeg v133 = z := ⟨_, rfl⟩
        have r137 : KW 0 g136 := by rw [← eg136]; exact i111.up (Int.le_trans (by decide) k128.1) (Or.inl (lt_dec k128.2 (by decide)))
        have r138 : SG 0 0 0 40 g136 := by rw [← eg136]; exact i112.up (Int.le_trans (by decide) k128.1) (Or.inr (Or.inl (dec_lt k128.1 (by decide))))
        have r139 : SG 105 108 0 11 g136 := by rw [← eg136]; exact i113.upI (Int.le_trans (by decide) k128.1) (fun q1 q2 => ⟨Int.le_trans (by decide) (r134.h (by omega) (by omega)).1, Int.le_trans (r134.h (by omega) (by omega)).2 (by decide)⟩)
        have r140 : SG 114 114 0 5 g136 := by rw [← eg136]; exact i114.upI (Int.le_trans (by decide) k128.1) (fun q1 q2 => ⟨Int.le_trans (by decide) (r135.h (by omega) (by omega)).1, Int.le_trans (r135.h (by omega) (by omega)).2 (by decide)⟩)
        have r141 : SG 130 133 0 11 g136 := by rw [← eg136]; exact i115.up (Int.le_trans (by decide) k128.1) (Or.inl (lt_dec k128.2 (by decide)))
        have r142 : SG 139 139 0 5 g136 := by rw [← eg136]; exact i116.up (Int.le_trans (by decide) k128.1) (Or.inl (lt_dec k128.2 (by decide)))
        have r143 : SG 153 153 0 44 g136 := by rw [← eg136]; exact i117.up (Int.le_trans (by decide) k128.1) (Or.inl (lt_dec k128.2 (by decide)))
        have r144 : SG 44 55 0 9 g136 := by rw [← eg136]; exact i118.up (Int.le_trans (by decide) k128.1) (Or.inr (Or.inl (dec_lt k128.1 (by decide))))
        have r145 : SG 5 5 0 12 g136 := by rw [← eg136]; exact i119.up (Int.le_trans (by decide) k128.1) (Or.inr (Or.inl (dec_lt k128.1 (by decide))))
        have r146 : SG 6 6 0 12 g136 := by rw [← eg136]; exact i120.up (Int.le_trans (by decide) k128.1) (Or.inr (Or.inl (dec_lt k128.1 (by decide))))
        have r147 : SG 7 7 0 6 g136 := by rw [← eg136]; exact i121.up (Int.le_trans (by decide) k128.1) (Or.inr (Or.inl (dec_lt k128.1 (by decide))))
        refine iast_g hx hb hK hP hD hS 1 0 rfl rfl (ix_k k128 (by decide) (by decide)) eg136 dX10_undo_54 (fun H locs hP hD hS => ?_)
        have hP : va_P D vwCl [(h0, .inr (10, vL 67 F7)), (h_s, .inl (cI, 335, .inl g136)), (h_undone, .inl (cI, 192, .inl f_undone))] H := hP
        have hD : va_D A [(h0, .inr (10, vL 67 F7)), (h_s, .inl (cI, 335, .inl g136)), (h_undone, .inl (cI, 192, .inl f_undone))] := hD
        obtain ⟨v148, ev148⟩ : ∃ z : Int32, z = u108 + 1 := ⟨_, rfl⟩
        have bv148 : v148.toInt = u108.toInt + 1 := by rw [ev148]; exact add_k rfl rfl k124 ⟨Int.le_refl _, Int.le_refl _⟩ (by decide)
        have k149 : 1 ≤ v148.toInt ∧ v148.toInt ≤ 24 := add_r bv148 k124 ⟨Int.le_refl _, Int.le_refl _⟩ (by decide)
        refine lv_iinc (v := v148) (lv' := [(1, .int v148), (0, .ref h0)]) hx hb dX10_undo_55 hl (k := 0) rfl (by rw [ev148]; rfl) (by decide) rfl (fun ls hl => ?_)
        refine lv_goto (tgt := 26) hx hb dX10_undo_58 (by decide) ?_
        exact ih (v148, g136) ⟨(ir_wk k149 (by decide) (by decide)), r137, r138, r139, r140, r141, r142, r143, r144, r145, r146, r147⟩ (by show (24 - v148.toInt).toNat < (24 - u108.toInt).toNat; omega) _ _ _ hP hD hS (lv_sub hl [0, 1] rfl)
    have dk104 : v5.toInt ≠ 2 := ne_i rfl rfl k104
    have k150 : 3 ≤ v5.toInt ∧ v5.toInt ≤ 7 := ⟨ne_lo dk104 k102.1 ⟨Int.le_refl _, Int.le_refl _⟩ (by decide), k102.2⟩
    have k151 : 4 ≤ x_undoMany.toInt ∧ x_undoMany.toInt ≤ 8 := ⟨lin_lo (lin_m bv5) k150.1 (by decide), k103.2⟩
    by_cases k152 : v5 = 3
    · have dk152 : v5.toInt = 3 := eq_i rfl rfl k152
      have k153 : 3 ≤ v5.toInt ∧ v5.toInt ≤ 3 := ⟨k150.1, Int.le_trans (Int.le_of_eq dk152) (Int.le_refl _)⟩
      have k154 : 4 ≤ x_undoMany.toInt ∧ x_undoMany.toInt ≤ 4 := ⟨k151.1, lin_hi (lin_m bv5) k153.2 (by decide)⟩
      have n155 : F7 41 = .int 3 := by rw [(get_eq eF7)]; exact congrArg Value.int k152
      refine lv_iconst (v := 0) hx hb dX10_undo_24 (by decide) ?_
      refine lv_istore_n (lv' := [(1, .int 0), (0, .ref h0)]) hx hb dX10_undo_25 rfl hl (by decide) rfl (fun ls hl => ?_)
      refine mloop (α := (Int32) × (Nat → Int32)) (nL := 2) (D := D) (A := A) (H0 := s.heap) (fun a => (24 - a.1.toInt).toNat) (fun a => IR 0 24 a.1 ∧ KW 0 a.2 ∧ SG 0 0 0 40 a.2 ∧ SG 105 108 0 11 a.2 ∧ SG 114 114 0 5 a.2 ∧ SG 130 133 0 11 a.2 ∧ SG 139 139 0 5 a.2 ∧ SG 153 153 0 44 a.2 ∧ SG 44 55 0 9 a.2 ∧ SG 5 5 0 12 a.2 ∧ SG 6 6 0 12 a.2 ∧ SG 7 7 0 6 a.2) (fun a => [(h0, .inr (10, vL 67 F7)), (h_s, .inl (cI, 335, .inl a.2)), (h_undone, .inl (cI, 192, .inl f_undone))]) (fun a => [(1, .int a.1), (0, .ref h0)]) (fun H locs ls => W p l e ({ frames := 0, cells := 0, slots := 0, locals := 0 } : Room) s m [.ref h0].toArray below meth c H locs 0 0 (MQ below (va_Qi (fun (r : Int32) (u : va_W) => ∃ (Gh : Nat → Value) (y_undoMany : Int32) (g_s : Nat → Int32), SAME [0, 41] Fh Gh ∧ Gh 0 = .int 0 ∧ Gh 41 = .int y_undoMany ∧ IR 0 7 y_undoMany ∧ SG 153 153 0 44 g_s ∧ SG 0 0 0 40 g_s ∧ SG 5 5 0 12 g_s ∧ SG 6 6 0 12 g_s ∧ SG 7 7 0 6 g_s ∧ SG 44 55 0 9 g_s ∧ KW 0 g_s ∧ SG 105 108 0 11 g_s ∧ SG 114 114 0 5 g_s ∧ SG 130 133 0 11 g_s ∧ SG 139 139 0 5 g_s ∧ IR (-1) 7 r ∧ u = [(h0, .inr (10, vL 67 Gh)), (h_s, .inl (cI, 335, .inl g_s)), (h_undone, .inl (cI, 192, .inl f_undone))]) (PO D A) A) [.ref h0].toArray s 0 0 A) (F0 m 26 ls [])) ?_ (0, f_s) ⟨(show 0 ≤ (0 : Int32).toInt ∧ (0 : Int32).toInt ≤ 24 by decide), s_s_K0, s_s_0, s_s_105, s_s_114, s_s_130, s_s_139, s_s_153, s_s_44, s_s_5, s_s_6, s_s_7⟩ _ _ _ hP hD hS hl
      rintro ⟨u156, w157⟩ ⟨i158, i159, i160, i161, i162, i163, i164, i165, i166, i167, i168, i169⟩ ih H locs ls hP hD hS hl
      have i158 : 0 ≤ u156.toInt ∧ u156.toInt ≤ 24 := i158
      have hP : va_P D vwCl [(h0, .inr (10, vL 67 F7)), (h_s, .inl (cI, 335, .inl w157)), (h_undone, .inl (cI, 192, .inl f_undone))] H := hP
      have hD : va_D A [(h0, .inr (10, vL 67 F7)), (h_s, .inl (cI, 335, .inl w157)), (h_undone, .inl (cI, 192, .inl f_undone))] := hD
      have hl : lv_has ls 2 [(1, .int u156), (0, .ref h0)] := hl
      refine lv_iload_n hx hb dX10_undo_26 rfl (lv_at hl 0 rfl) ?_
      refine lv_bipush (v := 24) hx hb dX10_undo_27 (by decide) ?_
      refine lv_icmp_ge (tgt := 61) hx hb dX10_undo_29 (by decide) (fun c170 => ?_) (fun c170 => ?_)
      · have dc170 : 24 ≤ u156.toInt := le_i (a := 24) (b := u156.toInt) rfl rfl c170
        have k171 : 24 ≤ u156.toInt ∧ u156.toInt ≤ 24 := ⟨Int.le_trans (Int.le_refl _) dc170, i158.2⟩
        refine lv_aload_n hx hb dX10_undo_61 rfl (lv_at hl 1 rfl) ?_
        refine get_f (D := D) (ci := 10) (v := .int 3) (C := RX10) (T := TX10) (N := 67) hx hb hw inAX10 hown hK hP 0 rfl rfl 41 (by decide) (hw _ q_1302) (fun _ h9 => h9) n155 dX10_undo_62 ?_
        exact ret_i (v := 3) hx hb hr hlocks hS hP hD dX10_undo_65 rfl (Nat.le_of_ble_eq_true rfl) (Nat.le_of_ble_eq_true rfl) ⟨F7, v5, w157, (SAME.up eF7 (SAME.up eF1 SAME.rf (by decide)) (by decide)), (get_ne eF7 (by decide) (get_eq eF1)), (get_eq eF7), (ir_wk k153 (by decide) (by decide)), i165, i160, i167, i168, i169, i166, i159, i161, i162, i163, i164, (show (-1) ≤ (3 : Int32).toInt ∧ (3 : Int32).toInt ≤ 7 by decide), rfl⟩
      · have dc170 : u156.toInt < 24 := nle_i (a := 24) (b := u156.toInt) rfl rfl c170
        have k172 : 0 ≤ u156.toInt ∧ u156.toInt ≤ 23 := ⟨i158.1, up_lt dc170 (Int.le_refl _) (by decide)⟩
        refine lv_aload_n hx hb dX10_undo_32 rfl (lv_at hl 1 rfl) ?_
        have n173 : F1 6 = .ref h_s := (get_ne eF1 (by decide) e_s)
        have n174 : F7 6 = .ref h_s := (get_ne eF7 (by decide) n173)
        refine get_f (D := D) (ci := 10) (v := .ref h_s) (C := RX10) (T := TX10) (N := 67) hx hb hw inAX10 hown hK hP 0 rfl rfl 6 (by decide) (hw _ q_1267) (fun _ h9 => h9) n174 dX10_undo_33 ?_
        refine lv_bipush (v := 104) hx hb dX10_undo_36 (by decide) ?_
        refine lv_iload_n hx hb dX10_undo_38 rfl (lv_at hl 0 rfl) ?_
        refine lv_iadd hx hb dX10_undo_39 ?_
        refine lv_topi (fun v175 ev175 => ?_)
        have bv175 : v175.toInt = 104 + u156.toInt := by rw [ev175]; exact add_k rfl rfl ⟨Int.le_refl _, Int.le_refl _⟩ k172 (by decide)
        have k176 : 104 ≤ v175.toInt ∧ v175.toInt ≤ 127 := add_r bv175 ⟨Int.le_refl _, Int.le_refl _⟩ k172 (by decide)
        refine lv_aload_n hx hb dX10_undo_40 rfl (lv_at hl 1 rfl) ?_
        have n177 : F1 39 = .ref h_undone := (get_ne eF1 (by decide) e_undone)
        have n178 : F7 39 = .ref h_undone := (get_ne eF7 (by decide) n177)
        refine get_f (D := D) (ci := 10) (v := .ref h_undone) (C := RX10) (T := TX10) (N := 67) hx hb hw inAX10 hown hK hP 0 rfl rfl 39 (by decide) (hw _ q_1300) (fun _ h9 => h9) n178 dX10_undo_41 ?_
        refine lv_bipush (v := 24) hx hb dX10_undo_44 (by decide) ?_
        refine lv_aload_n hx hb dX10_undo_46 rfl (lv_at hl 1 rfl) ?_
        refine get_f (D := D) (ci := 10) (v := .int 3) (C := RX10) (T := TX10) (N := 67) hx hb hw inAX10 hown hK hP 0 rfl rfl 41 (by decide) (hw _ q_1302) (fun _ h9 => h9) n155 dX10_undo_47 ?_
        refine lv_imul hx hb dX10_undo_50 ?_
        refine lv_ci (y := 72) (by decide +kernel) ?_
        refine lv_iload_n hx hb dX10_undo_51 rfl (lv_at hl 0 rfl) ?_
        refine lv_iadd hx hb dX10_undo_52 ?_
        refine lv_topi (fun v179 ev179 => ?_)
        have bv179 : v179.toInt = 72 + u156.toInt := by rw [ev179]; exact add_k rfl rfl ⟨Int.le_refl _, Int.le_refl _⟩ k172 (by decide)
        have k180 : 72 ≤ v179.toInt ∧ v179.toInt ≤ 95 := add_r bv179 ⟨Int.le_refl _, Int.le_refl _⟩ k172 (by decide)
        refine va_iald hx hb hK hP 2 0 rfl rfl (ix_k k180 (by decide) (by decide)) dX10_undo_53 ?_
        refine lv_topi (fun v181 ev181 => ?_)
        have r182 : IMP (73 ≤ v179.toInt → v179.toInt ≤ 76 → 0 ≤ v181.toInt ∧ v181.toInt ≤ 11) := IMP.mk (fun q1 q2 => by rw [ev181]; exact s_undone_73.at _ q1 q2)
        have r183 : IMP (82 ≤ v179.toInt → v179.toInt ≤ 82 → 0 ≤ v181.toInt ∧ v181.toInt ≤ 5) := IMP.mk (fun q1 q2 => by rw [ev181]; exact s_undone_82.at _ q1 q2)
        obtain ⟨g184, eg184⟩ : ∃ z : Nat → Int32, upd w157 v175.toNatClampNeg v181 = z := ⟨_, rfl⟩
        have r185 : KW 0 g184 := by rw [← eg184]; exact i159.up (Int.le_trans (by decide) k176.1) (Or.inl (lt_dec k176.2 (by decide)))
        have r186 : SG 0 0 0 40 g184 := by rw [← eg184]; exact i160.up (Int.le_trans (by decide) k176.1) (Or.inr (Or.inl (dec_lt k176.1 (by decide))))
        have r187 : SG 105 108 0 11 g184 := by rw [← eg184]; exact i161.upI (Int.le_trans (by decide) k176.1) (fun q1 q2 => ⟨Int.le_trans (by decide) (r182.h (by omega) (by omega)).1, Int.le_trans (r182.h (by omega) (by omega)).2 (by decide)⟩)
        have r188 : SG 114 114 0 5 g184 := by rw [← eg184]; exact i162.upI (Int.le_trans (by decide) k176.1) (fun q1 q2 => ⟨Int.le_trans (by decide) (r183.h (by omega) (by omega)).1, Int.le_trans (r183.h (by omega) (by omega)).2 (by decide)⟩)
        have r189 : SG 130 133 0 11 g184 := by rw [← eg184]; exact i163.up (Int.le_trans (by decide) k176.1) (Or.inl (lt_dec k176.2 (by decide)))
        have r190 : SG 139 139 0 5 g184 := by rw [← eg184]; exact i164.up (Int.le_trans (by decide) k176.1) (Or.inl (lt_dec k176.2 (by decide)))
        have r191 : SG 153 153 0 44 g184 := by rw [← eg184]; exact i165.up (Int.le_trans (by decide) k176.1) (Or.inl (lt_dec k176.2 (by decide)))
        have r192 : SG 44 55 0 9 g184 := by rw [← eg184]; exact i166.up (Int.le_trans (by decide) k176.1) (Or.inr (Or.inl (dec_lt k176.1 (by decide))))
        have r193 : SG 5 5 0 12 g184 := by rw [← eg184]; exact i167.up (Int.le_trans (by decide) k176.1) (Or.inr (Or.inl (dec_lt k176.1 (by decide))))
        have r194 : SG 6 6 0 12 g184 := by rw [← eg184]; exact i168.up (Int.le_trans (by decide) k176.1) (Or.inr (Or.inl (dec_lt k176.1 (by decide))))
        have r195 : SG 7 7 0 6 g184 := by rw [← eg184]; exact i169.up (Int.le_trans (by decide) k176.1) (Or.inr (Or.inl (dec_lt k176.1 (by decide))))
        refine iast_g hx hb hK hP hD hS 1 0 rfl rfl (ix_k k176 (by decide) (by decide)) eg184 dX10_undo_54 (fun H locs hP hD hS => ?_)
        have hP : va_P D vwCl [(h0, .inr (10, vL 67 F7)), (h_s, .inl (cI, 335, .inl g184)), (h_undone, .inl (cI, 192, .inl f_undone))] H := hP
        have hD : va_D A [(h0, .inr (10, vL 67 F7)), (h_s, .inl (cI, 335, .inl g184)), (h_undone, .inl (cI, 192, .inl f_undone))] := hD
        obtain ⟨v196, ev196⟩ : ∃ z : Int32, z = u156 + 1 := ⟨_, rfl⟩
        have bv196 : v196.toInt = u156.toInt + 1 := by rw [ev196]; exact add_k rfl rfl k172 ⟨Int.le_refl _, Int.le_refl _⟩ (by decide)
        have k197 : 1 ≤ v196.toInt ∧ v196.toInt ≤ 24 := add_r bv196 k172 ⟨Int.le_refl _, Int.le_refl _⟩ (by decide)
        refine lv_iinc (v := v196) (lv' := [(1, .int v196), (0, .ref h0)]) hx hb dX10_undo_55 hl (k := 0) rfl (by rw [ev196]; rfl) (by decide) rfl (fun ls hl => ?_)
        refine lv_goto (tgt := 26) hx hb dX10_undo_58 (by decide) ?_
        exact ih (v196, g184) ⟨(ir_wk k197 (by decide) (by decide)), r185, r186, r187, r188, r189, r190, r191, r192, r193, r194, r195⟩ (by show (24 - v196.toInt).toNat < (24 - u156.toInt).toNat; omega) _ _ _ hP hD hS (lv_sub hl [0, 1] rfl)
    have dk152 : v5.toInt ≠ 3 := ne_i rfl rfl k152
    have k198 : 4 ≤ v5.toInt ∧ v5.toInt ≤ 7 := ⟨ne_lo dk152 k150.1 ⟨Int.le_refl _, Int.le_refl _⟩ (by decide), k150.2⟩
    have k199 : 5 ≤ x_undoMany.toInt ∧ x_undoMany.toInt ≤ 8 := ⟨lin_lo (lin_m bv5) k198.1 (by decide), k151.2⟩
    by_cases k200 : v5 = 4
    · have dk200 : v5.toInt = 4 := eq_i rfl rfl k200
      have k201 : 4 ≤ v5.toInt ∧ v5.toInt ≤ 4 := ⟨k198.1, Int.le_trans (Int.le_of_eq dk200) (Int.le_refl _)⟩
      have k202 : 5 ≤ x_undoMany.toInt ∧ x_undoMany.toInt ≤ 5 := ⟨k199.1, lin_hi (lin_m bv5) k201.2 (by decide)⟩
      have n203 : F7 41 = .int 4 := by rw [(get_eq eF7)]; exact congrArg Value.int k200
      refine lv_iconst (v := 0) hx hb dX10_undo_24 (by decide) ?_
      refine lv_istore_n (lv' := [(1, .int 0), (0, .ref h0)]) hx hb dX10_undo_25 rfl hl (by decide) rfl (fun ls hl => ?_)
      refine mloop (α := (Int32) × (Nat → Int32)) (nL := 2) (D := D) (A := A) (H0 := s.heap) (fun a => (24 - a.1.toInt).toNat) (fun a => IR 0 24 a.1 ∧ KW 0 a.2 ∧ SG 0 0 0 40 a.2 ∧ SG 105 108 0 11 a.2 ∧ SG 114 114 0 5 a.2 ∧ SG 130 133 0 11 a.2 ∧ SG 139 139 0 5 a.2 ∧ SG 153 153 0 44 a.2 ∧ SG 44 55 0 9 a.2 ∧ SG 5 5 0 12 a.2 ∧ SG 6 6 0 12 a.2 ∧ SG 7 7 0 6 a.2) (fun a => [(h0, .inr (10, vL 67 F7)), (h_s, .inl (cI, 335, .inl a.2)), (h_undone, .inl (cI, 192, .inl f_undone))]) (fun a => [(1, .int a.1), (0, .ref h0)]) (fun H locs ls => W p l e ({ frames := 0, cells := 0, slots := 0, locals := 0 } : Room) s m [.ref h0].toArray below meth c H locs 0 0 (MQ below (va_Qi (fun (r : Int32) (u : va_W) => ∃ (Gh : Nat → Value) (y_undoMany : Int32) (g_s : Nat → Int32), SAME [0, 41] Fh Gh ∧ Gh 0 = .int 0 ∧ Gh 41 = .int y_undoMany ∧ IR 0 7 y_undoMany ∧ SG 153 153 0 44 g_s ∧ SG 0 0 0 40 g_s ∧ SG 5 5 0 12 g_s ∧ SG 6 6 0 12 g_s ∧ SG 7 7 0 6 g_s ∧ SG 44 55 0 9 g_s ∧ KW 0 g_s ∧ SG 105 108 0 11 g_s ∧ SG 114 114 0 5 g_s ∧ SG 130 133 0 11 g_s ∧ SG 139 139 0 5 g_s ∧ IR (-1) 7 r ∧ u = [(h0, .inr (10, vL 67 Gh)), (h_s, .inl (cI, 335, .inl g_s)), (h_undone, .inl (cI, 192, .inl f_undone))]) (PO D A) A) [.ref h0].toArray s 0 0 A) (F0 m 26 ls [])) ?_ (0, f_s) ⟨(show 0 ≤ (0 : Int32).toInt ∧ (0 : Int32).toInt ≤ 24 by decide), s_s_K0, s_s_0, s_s_105, s_s_114, s_s_130, s_s_139, s_s_153, s_s_44, s_s_5, s_s_6, s_s_7⟩ _ _ _ hP hD hS hl
      rintro ⟨u204, w205⟩ ⟨i206, i207, i208, i209, i210, i211, i212, i213, i214, i215, i216, i217⟩ ih H locs ls hP hD hS hl
      have i206 : 0 ≤ u204.toInt ∧ u204.toInt ≤ 24 := i206
      have hP : va_P D vwCl [(h0, .inr (10, vL 67 F7)), (h_s, .inl (cI, 335, .inl w205)), (h_undone, .inl (cI, 192, .inl f_undone))] H := hP
      have hD : va_D A [(h0, .inr (10, vL 67 F7)), (h_s, .inl (cI, 335, .inl w205)), (h_undone, .inl (cI, 192, .inl f_undone))] := hD
      have hl : lv_has ls 2 [(1, .int u204), (0, .ref h0)] := hl
      refine lv_iload_n hx hb dX10_undo_26 rfl (lv_at hl 0 rfl) ?_
      refine lv_bipush (v := 24) hx hb dX10_undo_27 (by decide) ?_
      refine lv_icmp_ge (tgt := 61) hx hb dX10_undo_29 (by decide) (fun c218 => ?_) (fun c218 => ?_)
      · have dc218 : 24 ≤ u204.toInt := le_i (a := 24) (b := u204.toInt) rfl rfl c218
        have k219 : 24 ≤ u204.toInt ∧ u204.toInt ≤ 24 := ⟨Int.le_trans (Int.le_refl _) dc218, i206.2⟩
        refine lv_aload_n hx hb dX10_undo_61 rfl (lv_at hl 1 rfl) ?_
        refine get_f (D := D) (ci := 10) (v := .int 4) (C := RX10) (T := TX10) (N := 67) hx hb hw inAX10 hown hK hP 0 rfl rfl 41 (by decide) (hw _ q_1302) (fun _ h9 => h9) n203 dX10_undo_62 ?_
        exact ret_i (v := 4) hx hb hr hlocks hS hP hD dX10_undo_65 rfl (Nat.le_of_ble_eq_true rfl) (Nat.le_of_ble_eq_true rfl) ⟨F7, v5, w205, (SAME.up eF7 (SAME.up eF1 SAME.rf (by decide)) (by decide)), (get_ne eF7 (by decide) (get_eq eF1)), (get_eq eF7), (ir_wk k201 (by decide) (by decide)), i213, i208, i215, i216, i217, i214, i207, i209, i210, i211, i212, (show (-1) ≤ (4 : Int32).toInt ∧ (4 : Int32).toInt ≤ 7 by decide), rfl⟩
      · have dc218 : u204.toInt < 24 := nle_i (a := 24) (b := u204.toInt) rfl rfl c218
        have k220 : 0 ≤ u204.toInt ∧ u204.toInt ≤ 23 := ⟨i206.1, up_lt dc218 (Int.le_refl _) (by decide)⟩
        refine lv_aload_n hx hb dX10_undo_32 rfl (lv_at hl 1 rfl) ?_
        have n221 : F1 6 = .ref h_s := (get_ne eF1 (by decide) e_s)
        have n222 : F7 6 = .ref h_s := (get_ne eF7 (by decide) n221)
        refine get_f (D := D) (ci := 10) (v := .ref h_s) (C := RX10) (T := TX10) (N := 67) hx hb hw inAX10 hown hK hP 0 rfl rfl 6 (by decide) (hw _ q_1267) (fun _ h9 => h9) n222 dX10_undo_33 ?_
        refine lv_bipush (v := 104) hx hb dX10_undo_36 (by decide) ?_
        refine lv_iload_n hx hb dX10_undo_38 rfl (lv_at hl 0 rfl) ?_
        refine lv_iadd hx hb dX10_undo_39 ?_
        refine lv_topi (fun v223 ev223 => ?_)
        have bv223 : v223.toInt = 104 + u204.toInt := by rw [ev223]; exact add_k rfl rfl ⟨Int.le_refl _, Int.le_refl _⟩ k220 (by decide)
        have k224 : 104 ≤ v223.toInt ∧ v223.toInt ≤ 127 := add_r bv223 ⟨Int.le_refl _, Int.le_refl _⟩ k220 (by decide)
        refine lv_aload_n hx hb dX10_undo_40 rfl (lv_at hl 1 rfl) ?_
        have n225 : F1 39 = .ref h_undone := (get_ne eF1 (by decide) e_undone)
        have n226 : F7 39 = .ref h_undone := (get_ne eF7 (by decide) n225)
        refine get_f (D := D) (ci := 10) (v := .ref h_undone) (C := RX10) (T := TX10) (N := 67) hx hb hw inAX10 hown hK hP 0 rfl rfl 39 (by decide) (hw _ q_1300) (fun _ h9 => h9) n226 dX10_undo_41 ?_
        refine lv_bipush (v := 24) hx hb dX10_undo_44 (by decide) ?_
        refine lv_aload_n hx hb dX10_undo_46 rfl (lv_at hl 1 rfl) ?_
        refine get_f (D := D) (ci := 10) (v := .int 4) (C := RX10) (T := TX10) (N := 67) hx hb hw inAX10 hown hK hP 0 rfl rfl 41 (by decide) (hw _ q_1302) (fun _ h9 => h9) n203 dX10_undo_47 ?_
        refine lv_imul hx hb dX10_undo_50 ?_
        refine lv_ci (y := 96) (by decide +kernel) ?_
        refine lv_iload_n hx hb dX10_undo_51 rfl (lv_at hl 0 rfl) ?_
        refine lv_iadd hx hb dX10_undo_52 ?_
        refine lv_topi (fun v227 ev227 => ?_)
        have bv227 : v227.toInt = 96 + u204.toInt := by rw [ev227]; exact add_k rfl rfl ⟨Int.le_refl _, Int.le_refl _⟩ k220 (by decide)
        have k228 : 96 ≤ v227.toInt ∧ v227.toInt ≤ 119 := add_r bv227 ⟨Int.le_refl _, Int.le_refl _⟩ k220 (by decide)
        refine va_iald hx hb hK hP 2 0 rfl rfl (ix_k k228 (by decide) (by decide)) dX10_undo_53 ?_
        refine lv_topi (fun v229 ev229 => ?_)
        have r230 : IMP (106 ≤ v227.toInt → v227.toInt ≤ 106 → 0 ≤ v229.toInt ∧ v229.toInt ≤ 5) := IMP.mk (fun q1 q2 => by rw [ev229]; exact s_undone_106.at _ q1 q2)
        have r231 : IMP (97 ≤ v227.toInt → v227.toInt ≤ 100 → 0 ≤ v229.toInt ∧ v229.toInt ≤ 11) := IMP.mk (fun q1 q2 => by rw [ev229]; exact s_undone_97.at _ q1 q2)
        obtain ⟨g232, eg232⟩ : ∃ z : Nat → Int32, upd w205 v223.toNatClampNeg v229 = z := ⟨_, rfl⟩
        have r233 : KW 0 g232 := by rw [← eg232]; exact i207.up (Int.le_trans (by decide) k224.1) (Or.inl (lt_dec k224.2 (by decide)))
        have r234 : SG 0 0 0 40 g232 := by rw [← eg232]; exact i208.up (Int.le_trans (by decide) k224.1) (Or.inr (Or.inl (dec_lt k224.1 (by decide))))
        have r235 : SG 105 108 0 11 g232 := by rw [← eg232]; exact i209.upI (Int.le_trans (by decide) k224.1) (fun q1 q2 => ⟨Int.le_trans (by decide) (r231.h (by omega) (by omega)).1, Int.le_trans (r231.h (by omega) (by omega)).2 (by decide)⟩)
        have r236 : SG 114 114 0 5 g232 := by rw [← eg232]; exact i210.upI (Int.le_trans (by decide) k224.1) (fun q1 q2 => ⟨Int.le_trans (by decide) (r230.h (by omega) (by omega)).1, Int.le_trans (r230.h (by omega) (by omega)).2 (by decide)⟩)
        have r237 : SG 130 133 0 11 g232 := by rw [← eg232]; exact i211.up (Int.le_trans (by decide) k224.1) (Or.inl (lt_dec k224.2 (by decide)))
        have r238 : SG 139 139 0 5 g232 := by rw [← eg232]; exact i212.up (Int.le_trans (by decide) k224.1) (Or.inl (lt_dec k224.2 (by decide)))
        have r239 : SG 153 153 0 44 g232 := by rw [← eg232]; exact i213.up (Int.le_trans (by decide) k224.1) (Or.inl (lt_dec k224.2 (by decide)))
        have r240 : SG 44 55 0 9 g232 := by rw [← eg232]; exact i214.up (Int.le_trans (by decide) k224.1) (Or.inr (Or.inl (dec_lt k224.1 (by decide))))
        have r241 : SG 5 5 0 12 g232 := by rw [← eg232]; exact i215.up (Int.le_trans (by decide) k224.1) (Or.inr (Or.inl (dec_lt k224.1 (by decide))))
        have r242 : SG 6 6 0 12 g232 := by rw [← eg232]; exact i216.up (Int.le_trans (by decide) k224.1) (Or.inr (Or.inl (dec_lt k224.1 (by decide))))
        have r243 : SG 7 7 0 6 g232 := by rw [← eg232]; exact i217.up (Int.le_trans (by decide) k224.1) (Or.inr (Or.inl (dec_lt k224.1 (by decide))))
        refine iast_g hx hb hK hP hD hS 1 0 rfl rfl (ix_k k224 (by decide) (by decide)) eg232 dX10_undo_54 (fun H locs hP hD hS => ?_)
        have hP : va_P D vwCl [(h0, .inr (10, vL 67 F7)), (h_s, .inl (cI, 335, .inl g232)), (h_undone, .inl (cI, 192, .inl f_undone))] H := hP
        have hD : va_D A [(h0, .inr (10, vL 67 F7)), (h_s, .inl (cI, 335, .inl g232)), (h_undone, .inl (cI, 192, .inl f_undone))] := hD
        obtain ⟨v244, ev244⟩ : ∃ z : Int32, z = u204 + 1 := ⟨_, rfl⟩
        have bv244 : v244.toInt = u204.toInt + 1 := by rw [ev244]; exact add_k rfl rfl k220 ⟨Int.le_refl _, Int.le_refl _⟩ (by decide)
        have k245 : 1 ≤ v244.toInt ∧ v244.toInt ≤ 24 := add_r bv244 k220 ⟨Int.le_refl _, Int.le_refl _⟩ (by decide)
        refine lv_iinc (v := v244) (lv' := [(1, .int v244), (0, .ref h0)]) hx hb dX10_undo_55 hl (k := 0) rfl (by rw [ev244]; rfl) (by decide) rfl (fun ls hl => ?_)
        refine lv_goto (tgt := 26) hx hb dX10_undo_58 (by decide) ?_
        exact ih (v244, g232) ⟨(ir_wk k245 (by decide) (by decide)), r233, r234, r235, r236, r237, r238, r239, r240, r241, r242, r243⟩ (by show (24 - v244.toInt).toNat < (24 - u204.toInt).toNat; omega) _ _ _ hP hD hS (lv_sub hl [0, 1] rfl)
    have dk200 : v5.toInt ≠ 4 := ne_i rfl rfl k200
    have k246 : 5 ≤ v5.toInt ∧ v5.toInt ≤ 7 := ⟨ne_lo dk200 k198.1 ⟨Int.le_refl _, Int.le_refl _⟩ (by decide), k198.2⟩
    have k247 : 6 ≤ x_undoMany.toInt ∧ x_undoMany.toInt ≤ 8 := ⟨lin_lo (lin_m bv5) k246.1 (by decide), k199.2⟩
    by_cases k248 : v5 = 5
    · have dk248 : v5.toInt = 5 := eq_i rfl rfl k248
      have k249 : 5 ≤ v5.toInt ∧ v5.toInt ≤ 5 := ⟨k246.1, Int.le_trans (Int.le_of_eq dk248) (Int.le_refl _)⟩
      have k250 : 6 ≤ x_undoMany.toInt ∧ x_undoMany.toInt ≤ 6 := ⟨k247.1, lin_hi (lin_m bv5) k249.2 (by decide)⟩
      have n251 : F7 41 = .int 5 := by rw [(get_eq eF7)]; exact congrArg Value.int k248
      refine lv_iconst (v := 0) hx hb dX10_undo_24 (by decide) ?_
      refine lv_istore_n (lv' := [(1, .int 0), (0, .ref h0)]) hx hb dX10_undo_25 rfl hl (by decide) rfl (fun ls hl => ?_)
      refine mloop (α := (Int32) × (Nat → Int32)) (nL := 2) (D := D) (A := A) (H0 := s.heap) (fun a => (24 - a.1.toInt).toNat) (fun a => IR 0 24 a.1 ∧ KW 0 a.2 ∧ SG 0 0 0 40 a.2 ∧ SG 105 108 0 11 a.2 ∧ SG 114 114 0 5 a.2 ∧ SG 130 133 0 11 a.2 ∧ SG 139 139 0 5 a.2 ∧ SG 153 153 0 44 a.2 ∧ SG 44 55 0 9 a.2 ∧ SG 5 5 0 12 a.2 ∧ SG 6 6 0 12 a.2 ∧ SG 7 7 0 6 a.2) (fun a => [(h0, .inr (10, vL 67 F7)), (h_s, .inl (cI, 335, .inl a.2)), (h_undone, .inl (cI, 192, .inl f_undone))]) (fun a => [(1, .int a.1), (0, .ref h0)]) (fun H locs ls => W p l e ({ frames := 0, cells := 0, slots := 0, locals := 0 } : Room) s m [.ref h0].toArray below meth c H locs 0 0 (MQ below (va_Qi (fun (r : Int32) (u : va_W) => ∃ (Gh : Nat → Value) (y_undoMany : Int32) (g_s : Nat → Int32), SAME [0, 41] Fh Gh ∧ Gh 0 = .int 0 ∧ Gh 41 = .int y_undoMany ∧ IR 0 7 y_undoMany ∧ SG 153 153 0 44 g_s ∧ SG 0 0 0 40 g_s ∧ SG 5 5 0 12 g_s ∧ SG 6 6 0 12 g_s ∧ SG 7 7 0 6 g_s ∧ SG 44 55 0 9 g_s ∧ KW 0 g_s ∧ SG 105 108 0 11 g_s ∧ SG 114 114 0 5 g_s ∧ SG 130 133 0 11 g_s ∧ SG 139 139 0 5 g_s ∧ IR (-1) 7 r ∧ u = [(h0, .inr (10, vL 67 Gh)), (h_s, .inl (cI, 335, .inl g_s)), (h_undone, .inl (cI, 192, .inl f_undone))]) (PO D A) A) [.ref h0].toArray s 0 0 A) (F0 m 26 ls [])) ?_ (0, f_s) ⟨(show 0 ≤ (0 : Int32).toInt ∧ (0 : Int32).toInt ≤ 24 by decide), s_s_K0, s_s_0, s_s_105, s_s_114, s_s_130, s_s_139, s_s_153, s_s_44, s_s_5, s_s_6, s_s_7⟩ _ _ _ hP hD hS hl
      rintro ⟨u252, w253⟩ ⟨i254, i255, i256, i257, i258, i259, i260, i261, i262, i263, i264, i265⟩ ih H locs ls hP hD hS hl
      have i254 : 0 ≤ u252.toInt ∧ u252.toInt ≤ 24 := i254
      have hP : va_P D vwCl [(h0, .inr (10, vL 67 F7)), (h_s, .inl (cI, 335, .inl w253)), (h_undone, .inl (cI, 192, .inl f_undone))] H := hP
      have hD : va_D A [(h0, .inr (10, vL 67 F7)), (h_s, .inl (cI, 335, .inl w253)), (h_undone, .inl (cI, 192, .inl f_undone))] := hD
      have hl : lv_has ls 2 [(1, .int u252), (0, .ref h0)] := hl
      refine lv_iload_n hx hb dX10_undo_26 rfl (lv_at hl 0 rfl) ?_
      refine lv_bipush (v := 24) hx hb dX10_undo_27 (by decide) ?_
      refine lv_icmp_ge (tgt := 61) hx hb dX10_undo_29 (by decide) (fun c266 => ?_) (fun c266 => ?_)
      · have dc266 : 24 ≤ u252.toInt := le_i (a := 24) (b := u252.toInt) rfl rfl c266
        have k267 : 24 ≤ u252.toInt ∧ u252.toInt ≤ 24 := ⟨Int.le_trans (Int.le_refl _) dc266, i254.2⟩
        refine lv_aload_n hx hb dX10_undo_61 rfl (lv_at hl 1 rfl) ?_
        refine get_f (D := D) (ci := 10) (v := .int 5) (C := RX10) (T := TX10) (N := 67) hx hb hw inAX10 hown hK hP 0 rfl rfl 41 (by decide) (hw _ q_1302) (fun _ h9 => h9) n251 dX10_undo_62 ?_
        exact ret_i (v := 5) hx hb hr hlocks hS hP hD dX10_undo_65 rfl (Nat.le_of_ble_eq_true rfl) (Nat.le_of_ble_eq_true rfl) ⟨F7, v5, w253, (SAME.up eF7 (SAME.up eF1 SAME.rf (by decide)) (by decide)), (get_ne eF7 (by decide) (get_eq eF1)), (get_eq eF7), (ir_wk k249 (by decide) (by decide)), i261, i256, i263, i264, i265, i262, i255, i257, i258, i259, i260, (show (-1) ≤ (5 : Int32).toInt ∧ (5 : Int32).toInt ≤ 7 by decide), rfl⟩
      · have dc266 : u252.toInt < 24 := nle_i (a := 24) (b := u252.toInt) rfl rfl c266
        have k268 : 0 ≤ u252.toInt ∧ u252.toInt ≤ 23 := ⟨i254.1, up_lt dc266 (Int.le_refl _) (by decide)⟩
        refine lv_aload_n hx hb dX10_undo_32 rfl (lv_at hl 1 rfl) ?_
        have n269 : F1 6 = .ref h_s := (get_ne eF1 (by decide) e_s)
        have n270 : F7 6 = .ref h_s := (get_ne eF7 (by decide) n269)
        refine get_f (D := D) (ci := 10) (v := .ref h_s) (C := RX10) (T := TX10) (N := 67) hx hb hw inAX10 hown hK hP 0 rfl rfl 6 (by decide) (hw _ q_1267) (fun _ h9 => h9) n270 dX10_undo_33 ?_
        refine lv_bipush (v := 104) hx hb dX10_undo_36 (by decide) ?_
        refine lv_iload_n hx hb dX10_undo_38 rfl (lv_at hl 0 rfl) ?_
        refine lv_iadd hx hb dX10_undo_39 ?_
        refine lv_topi (fun v271 ev271 => ?_)
        have bv271 : v271.toInt = 104 + u252.toInt := by rw [ev271]; exact add_k rfl rfl ⟨Int.le_refl _, Int.le_refl _⟩ k268 (by decide)
        have k272 : 104 ≤ v271.toInt ∧ v271.toInt ≤ 127 := add_r bv271 ⟨Int.le_refl _, Int.le_refl _⟩ k268 (by decide)
        refine lv_aload_n hx hb dX10_undo_40 rfl (lv_at hl 1 rfl) ?_
        have n273 : F1 39 = .ref h_undone := (get_ne eF1 (by decide) e_undone)
        have n274 : F7 39 = .ref h_undone := (get_ne eF7 (by decide) n273)
        refine get_f (D := D) (ci := 10) (v := .ref h_undone) (C := RX10) (T := TX10) (N := 67) hx hb hw inAX10 hown hK hP 0 rfl rfl 39 (by decide) (hw _ q_1300) (fun _ h9 => h9) n274 dX10_undo_41 ?_
        refine lv_bipush (v := 24) hx hb dX10_undo_44 (by decide) ?_
        refine lv_aload_n hx hb dX10_undo_46 rfl (lv_at hl 1 rfl) ?_
        refine get_f (D := D) (ci := 10) (v := .int 5) (C := RX10) (T := TX10) (N := 67) hx hb hw inAX10 hown hK hP 0 rfl rfl 41 (by decide) (hw _ q_1302) (fun _ h9 => h9) n251 dX10_undo_47 ?_
        refine lv_imul hx hb dX10_undo_50 ?_
        refine lv_ci (y := 120) (by decide +kernel) ?_
        refine lv_iload_n hx hb dX10_undo_51 rfl (lv_at hl 0 rfl) ?_
        refine lv_iadd hx hb dX10_undo_52 ?_
        refine lv_topi (fun v275 ev275 => ?_)
        have bv275 : v275.toInt = 120 + u252.toInt := by rw [ev275]; exact add_k rfl rfl ⟨Int.le_refl _, Int.le_refl _⟩ k268 (by decide)
        have k276 : 120 ≤ v275.toInt ∧ v275.toInt ≤ 143 := add_r bv275 ⟨Int.le_refl _, Int.le_refl _⟩ k268 (by decide)
        refine va_iald hx hb hK hP 2 0 rfl rfl (ix_k k276 (by decide) (by decide)) dX10_undo_53 ?_
        refine lv_topi (fun v277 ev277 => ?_)
        have r278 : IMP (121 ≤ v275.toInt → v275.toInt ≤ 124 → 0 ≤ v277.toInt ∧ v277.toInt ≤ 11) := IMP.mk (fun q1 q2 => by rw [ev277]; exact s_undone_121.at _ q1 q2)
        have r279 : IMP (130 ≤ v275.toInt → v275.toInt ≤ 130 → 0 ≤ v277.toInt ∧ v277.toInt ≤ 5) := IMP.mk (fun q1 q2 => by rw [ev277]; exact s_undone_130.at _ q1 q2)
        obtain ⟨g280, eg280⟩ : ∃ z : Nat → Int32, upd w253 v271.toNatClampNeg v277 = z := ⟨_, rfl⟩
        have r281 : KW 0 g280 := by rw [← eg280]; exact i255.up (Int.le_trans (by decide) k272.1) (Or.inl (lt_dec k272.2 (by decide)))
        have r282 : SG 0 0 0 40 g280 := by rw [← eg280]; exact i256.up (Int.le_trans (by decide) k272.1) (Or.inr (Or.inl (dec_lt k272.1 (by decide))))
        have r283 : SG 105 108 0 11 g280 := by rw [← eg280]; exact i257.upI (Int.le_trans (by decide) k272.1) (fun q1 q2 => ⟨Int.le_trans (by decide) (r278.h (by omega) (by omega)).1, Int.le_trans (r278.h (by omega) (by omega)).2 (by decide)⟩)
        have r284 : SG 114 114 0 5 g280 := by rw [← eg280]; exact i258.upI (Int.le_trans (by decide) k272.1) (fun q1 q2 => ⟨Int.le_trans (by decide) (r279.h (by omega) (by omega)).1, Int.le_trans (r279.h (by omega) (by omega)).2 (by decide)⟩)
        have r285 : SG 130 133 0 11 g280 := by rw [← eg280]; exact i259.up (Int.le_trans (by decide) k272.1) (Or.inl (lt_dec k272.2 (by decide)))
        have r286 : SG 139 139 0 5 g280 := by rw [← eg280]; exact i260.up (Int.le_trans (by decide) k272.1) (Or.inl (lt_dec k272.2 (by decide)))
        have r287 : SG 153 153 0 44 g280 := by rw [← eg280]; exact i261.up (Int.le_trans (by decide) k272.1) (Or.inl (lt_dec k272.2 (by decide)))
        have r288 : SG 44 55 0 9 g280 := by rw [← eg280]; exact i262.up (Int.le_trans (by decide) k272.1) (Or.inr (Or.inl (dec_lt k272.1 (by decide))))
        have r289 : SG 5 5 0 12 g280 := by rw [← eg280]; exact i263.up (Int.le_trans (by decide) k272.1) (Or.inr (Or.inl (dec_lt k272.1 (by decide))))
        have r290 : SG 6 6 0 12 g280 := by rw [← eg280]; exact i264.up (Int.le_trans (by decide) k272.1) (Or.inr (Or.inl (dec_lt k272.1 (by decide))))
        have r291 : SG 7 7 0 6 g280 := by rw [← eg280]; exact i265.up (Int.le_trans (by decide) k272.1) (Or.inr (Or.inl (dec_lt k272.1 (by decide))))
        refine iast_g hx hb hK hP hD hS 1 0 rfl rfl (ix_k k272 (by decide) (by decide)) eg280 dX10_undo_54 (fun H locs hP hD hS => ?_)
        have hP : va_P D vwCl [(h0, .inr (10, vL 67 F7)), (h_s, .inl (cI, 335, .inl g280)), (h_undone, .inl (cI, 192, .inl f_undone))] H := hP
        have hD : va_D A [(h0, .inr (10, vL 67 F7)), (h_s, .inl (cI, 335, .inl g280)), (h_undone, .inl (cI, 192, .inl f_undone))] := hD
        obtain ⟨v292, ev292⟩ : ∃ z : Int32, z = u252 + 1 := ⟨_, rfl⟩
        have bv292 : v292.toInt = u252.toInt + 1 := by rw [ev292]; exact add_k rfl rfl k268 ⟨Int.le_refl _, Int.le_refl _⟩ (by decide)
        have k293 : 1 ≤ v292.toInt ∧ v292.toInt ≤ 24 := add_r bv292 k268 ⟨Int.le_refl _, Int.le_refl _⟩ (by decide)
        refine lv_iinc (v := v292) (lv' := [(1, .int v292), (0, .ref h0)]) hx hb dX10_undo_55 hl (k := 0) rfl (by rw [ev292]; rfl) (by decide) rfl (fun ls hl => ?_)
        refine lv_goto (tgt := 26) hx hb dX10_undo_58 (by decide) ?_
        exact ih (v292, g280) ⟨(ir_wk k293 (by decide) (by decide)), r281, r282, r283, r284, r285, r286, r287, r288, r289, r290, r291⟩ (by show (24 - v292.toInt).toNat < (24 - u252.toInt).toNat; omega) _ _ _ hP hD hS (lv_sub hl [0, 1] rfl)
    have dk248 : v5.toInt ≠ 5 := ne_i rfl rfl k248
    have k294 : 6 ≤ v5.toInt ∧ v5.toInt ≤ 7 := ⟨ne_lo dk248 k246.1 ⟨Int.le_refl _, Int.le_refl _⟩ (by decide), k246.2⟩
    have k295 : 7 ≤ x_undoMany.toInt ∧ x_undoMany.toInt ≤ 8 := ⟨lin_lo (lin_m bv5) k294.1 (by decide), k247.2⟩
    by_cases k296 : v5 = 6
    · have dk296 : v5.toInt = 6 := eq_i rfl rfl k296
      have k297 : 6 ≤ v5.toInt ∧ v5.toInt ≤ 6 := ⟨k294.1, Int.le_trans (Int.le_of_eq dk296) (Int.le_refl _)⟩
      have k298 : 7 ≤ x_undoMany.toInt ∧ x_undoMany.toInt ≤ 7 := ⟨k295.1, lin_hi (lin_m bv5) k297.2 (by decide)⟩
      have n299 : F7 41 = .int 6 := by rw [(get_eq eF7)]; exact congrArg Value.int k296
      refine lv_iconst (v := 0) hx hb dX10_undo_24 (by decide) ?_
      refine lv_istore_n (lv' := [(1, .int 0), (0, .ref h0)]) hx hb dX10_undo_25 rfl hl (by decide) rfl (fun ls hl => ?_)
      refine mloop (α := (Int32) × (Nat → Int32)) (nL := 2) (D := D) (A := A) (H0 := s.heap) (fun a => (24 - a.1.toInt).toNat) (fun a => IR 0 24 a.1 ∧ KW 0 a.2 ∧ SG 0 0 0 40 a.2 ∧ SG 105 108 0 11 a.2 ∧ SG 114 114 0 5 a.2 ∧ SG 130 133 0 11 a.2 ∧ SG 139 139 0 5 a.2 ∧ SG 153 153 0 44 a.2 ∧ SG 44 55 0 9 a.2 ∧ SG 5 5 0 12 a.2 ∧ SG 6 6 0 12 a.2 ∧ SG 7 7 0 6 a.2) (fun a => [(h0, .inr (10, vL 67 F7)), (h_s, .inl (cI, 335, .inl a.2)), (h_undone, .inl (cI, 192, .inl f_undone))]) (fun a => [(1, .int a.1), (0, .ref h0)]) (fun H locs ls => W p l e ({ frames := 0, cells := 0, slots := 0, locals := 0 } : Room) s m [.ref h0].toArray below meth c H locs 0 0 (MQ below (va_Qi (fun (r : Int32) (u : va_W) => ∃ (Gh : Nat → Value) (y_undoMany : Int32) (g_s : Nat → Int32), SAME [0, 41] Fh Gh ∧ Gh 0 = .int 0 ∧ Gh 41 = .int y_undoMany ∧ IR 0 7 y_undoMany ∧ SG 153 153 0 44 g_s ∧ SG 0 0 0 40 g_s ∧ SG 5 5 0 12 g_s ∧ SG 6 6 0 12 g_s ∧ SG 7 7 0 6 g_s ∧ SG 44 55 0 9 g_s ∧ KW 0 g_s ∧ SG 105 108 0 11 g_s ∧ SG 114 114 0 5 g_s ∧ SG 130 133 0 11 g_s ∧ SG 139 139 0 5 g_s ∧ IR (-1) 7 r ∧ u = [(h0, .inr (10, vL 67 Gh)), (h_s, .inl (cI, 335, .inl g_s)), (h_undone, .inl (cI, 192, .inl f_undone))]) (PO D A) A) [.ref h0].toArray s 0 0 A) (F0 m 26 ls [])) ?_ (0, f_s) ⟨(show 0 ≤ (0 : Int32).toInt ∧ (0 : Int32).toInt ≤ 24 by decide), s_s_K0, s_s_0, s_s_105, s_s_114, s_s_130, s_s_139, s_s_153, s_s_44, s_s_5, s_s_6, s_s_7⟩ _ _ _ hP hD hS hl
      rintro ⟨u300, w301⟩ ⟨i302, i303, i304, i305, i306, i307, i308, i309, i310, i311, i312, i313⟩ ih H locs ls hP hD hS hl
      have i302 : 0 ≤ u300.toInt ∧ u300.toInt ≤ 24 := i302
      have hP : va_P D vwCl [(h0, .inr (10, vL 67 F7)), (h_s, .inl (cI, 335, .inl w301)), (h_undone, .inl (cI, 192, .inl f_undone))] H := hP
      have hD : va_D A [(h0, .inr (10, vL 67 F7)), (h_s, .inl (cI, 335, .inl w301)), (h_undone, .inl (cI, 192, .inl f_undone))] := hD
      have hl : lv_has ls 2 [(1, .int u300), (0, .ref h0)] := hl
      refine lv_iload_n hx hb dX10_undo_26 rfl (lv_at hl 0 rfl) ?_
      refine lv_bipush (v := 24) hx hb dX10_undo_27 (by decide) ?_
      refine lv_icmp_ge (tgt := 61) hx hb dX10_undo_29 (by decide) (fun c314 => ?_) (fun c314 => ?_)
      · have dc314 : 24 ≤ u300.toInt := le_i (a := 24) (b := u300.toInt) rfl rfl c314
        have k315 : 24 ≤ u300.toInt ∧ u300.toInt ≤ 24 := ⟨Int.le_trans (Int.le_refl _) dc314, i302.2⟩
        refine lv_aload_n hx hb dX10_undo_61 rfl (lv_at hl 1 rfl) ?_
        refine get_f (D := D) (ci := 10) (v := .int 6) (C := RX10) (T := TX10) (N := 67) hx hb hw inAX10 hown hK hP 0 rfl rfl 41 (by decide) (hw _ q_1302) (fun _ h9 => h9) n299 dX10_undo_62 ?_
        exact ret_i (v := 6) hx hb hr hlocks hS hP hD dX10_undo_65 rfl (Nat.le_of_ble_eq_true rfl) (Nat.le_of_ble_eq_true rfl) ⟨F7, v5, w301, (SAME.up eF7 (SAME.up eF1 SAME.rf (by decide)) (by decide)), (get_ne eF7 (by decide) (get_eq eF1)), (get_eq eF7), (ir_wk k297 (by decide) (by decide)), i309, i304, i311, i312, i313, i310, i303, i305, i306, i307, i308, (show (-1) ≤ (6 : Int32).toInt ∧ (6 : Int32).toInt ≤ 7 by decide), rfl⟩
      · have dc314 : u300.toInt < 24 := nle_i (a := 24) (b := u300.toInt) rfl rfl c314
        have k316 : 0 ≤ u300.toInt ∧ u300.toInt ≤ 23 := ⟨i302.1, up_lt dc314 (Int.le_refl _) (by decide)⟩
        refine lv_aload_n hx hb dX10_undo_32 rfl (lv_at hl 1 rfl) ?_
        have n317 : F1 6 = .ref h_s := (get_ne eF1 (by decide) e_s)
        have n318 : F7 6 = .ref h_s := (get_ne eF7 (by decide) n317)
        refine get_f (D := D) (ci := 10) (v := .ref h_s) (C := RX10) (T := TX10) (N := 67) hx hb hw inAX10 hown hK hP 0 rfl rfl 6 (by decide) (hw _ q_1267) (fun _ h9 => h9) n318 dX10_undo_33 ?_
        refine lv_bipush (v := 104) hx hb dX10_undo_36 (by decide) ?_
        refine lv_iload_n hx hb dX10_undo_38 rfl (lv_at hl 0 rfl) ?_
        refine lv_iadd hx hb dX10_undo_39 ?_
        refine lv_topi (fun v319 ev319 => ?_)
        have bv319 : v319.toInt = 104 + u300.toInt := by rw [ev319]; exact add_k rfl rfl ⟨Int.le_refl _, Int.le_refl _⟩ k316 (by decide)
        have k320 : 104 ≤ v319.toInt ∧ v319.toInt ≤ 127 := add_r bv319 ⟨Int.le_refl _, Int.le_refl _⟩ k316 (by decide)
        refine lv_aload_n hx hb dX10_undo_40 rfl (lv_at hl 1 rfl) ?_
        have n321 : F1 39 = .ref h_undone := (get_ne eF1 (by decide) e_undone)
        have n322 : F7 39 = .ref h_undone := (get_ne eF7 (by decide) n321)
        refine get_f (D := D) (ci := 10) (v := .ref h_undone) (C := RX10) (T := TX10) (N := 67) hx hb hw inAX10 hown hK hP 0 rfl rfl 39 (by decide) (hw _ q_1300) (fun _ h9 => h9) n322 dX10_undo_41 ?_
        refine lv_bipush (v := 24) hx hb dX10_undo_44 (by decide) ?_
        refine lv_aload_n hx hb dX10_undo_46 rfl (lv_at hl 1 rfl) ?_
        refine get_f (D := D) (ci := 10) (v := .int 6) (C := RX10) (T := TX10) (N := 67) hx hb hw inAX10 hown hK hP 0 rfl rfl 41 (by decide) (hw _ q_1302) (fun _ h9 => h9) n299 dX10_undo_47 ?_
        refine lv_imul hx hb dX10_undo_50 ?_
        refine lv_ci (y := 144) (by decide +kernel) ?_
        refine lv_iload_n hx hb dX10_undo_51 rfl (lv_at hl 0 rfl) ?_
        refine lv_iadd hx hb dX10_undo_52 ?_
        refine lv_topi (fun v323 ev323 => ?_)
        have bv323 : v323.toInt = 144 + u300.toInt := by rw [ev323]; exact add_k rfl rfl ⟨Int.le_refl _, Int.le_refl _⟩ k316 (by decide)
        have k324 : 144 ≤ v323.toInt ∧ v323.toInt ≤ 167 := add_r bv323 ⟨Int.le_refl _, Int.le_refl _⟩ k316 (by decide)
        refine va_iald hx hb hK hP 2 0 rfl rfl (ix_k k324 (by decide) (by decide)) dX10_undo_53 ?_
        refine lv_topi (fun v325 ev325 => ?_)
        have r326 : IMP (145 ≤ v323.toInt → v323.toInt ≤ 148 → 0 ≤ v325.toInt ∧ v325.toInt ≤ 11) := IMP.mk (fun q1 q2 => by rw [ev325]; exact s_undone_145.at _ q1 q2)
        have r327 : IMP (154 ≤ v323.toInt → v323.toInt ≤ 154 → 0 ≤ v325.toInt ∧ v325.toInt ≤ 5) := IMP.mk (fun q1 q2 => by rw [ev325]; exact s_undone_154.at _ q1 q2)
        obtain ⟨g328, eg328⟩ : ∃ z : Nat → Int32, upd w301 v319.toNatClampNeg v325 = z := ⟨_, rfl⟩
        have r329 : KW 0 g328 := by rw [← eg328]; exact i303.up (Int.le_trans (by decide) k320.1) (Or.inl (lt_dec k320.2 (by decide)))
        have r330 : SG 0 0 0 40 g328 := by rw [← eg328]; exact i304.up (Int.le_trans (by decide) k320.1) (Or.inr (Or.inl (dec_lt k320.1 (by decide))))
        have r331 : SG 105 108 0 11 g328 := by rw [← eg328]; exact i305.upI (Int.le_trans (by decide) k320.1) (fun q1 q2 => ⟨Int.le_trans (by decide) (r326.h (by omega) (by omega)).1, Int.le_trans (r326.h (by omega) (by omega)).2 (by decide)⟩)
        have r332 : SG 114 114 0 5 g328 := by rw [← eg328]; exact i306.upI (Int.le_trans (by decide) k320.1) (fun q1 q2 => ⟨Int.le_trans (by decide) (r327.h (by omega) (by omega)).1, Int.le_trans (r327.h (by omega) (by omega)).2 (by decide)⟩)
        have r333 : SG 130 133 0 11 g328 := by rw [← eg328]; exact i307.up (Int.le_trans (by decide) k320.1) (Or.inl (lt_dec k320.2 (by decide)))
        have r334 : SG 139 139 0 5 g328 := by rw [← eg328]; exact i308.up (Int.le_trans (by decide) k320.1) (Or.inl (lt_dec k320.2 (by decide)))
        have r335 : SG 153 153 0 44 g328 := by rw [← eg328]; exact i309.up (Int.le_trans (by decide) k320.1) (Or.inl (lt_dec k320.2 (by decide)))
        have r336 : SG 44 55 0 9 g328 := by rw [← eg328]; exact i310.up (Int.le_trans (by decide) k320.1) (Or.inr (Or.inl (dec_lt k320.1 (by decide))))
        have r337 : SG 5 5 0 12 g328 := by rw [← eg328]; exact i311.up (Int.le_trans (by decide) k320.1) (Or.inr (Or.inl (dec_lt k320.1 (by decide))))
        have r338 : SG 6 6 0 12 g328 := by rw [← eg328]; exact i312.up (Int.le_trans (by decide) k320.1) (Or.inr (Or.inl (dec_lt k320.1 (by decide))))
        have r339 : SG 7 7 0 6 g328 := by rw [← eg328]; exact i313.up (Int.le_trans (by decide) k320.1) (Or.inr (Or.inl (dec_lt k320.1 (by decide))))
        refine iast_g hx hb hK hP hD hS 1 0 rfl rfl (ix_k k320 (by decide) (by decide)) eg328 dX10_undo_54 (fun H locs hP hD hS => ?_)
        have hP : va_P D vwCl [(h0, .inr (10, vL 67 F7)), (h_s, .inl (cI, 335, .inl g328)), (h_undone, .inl (cI, 192, .inl f_undone))] H := hP
        have hD : va_D A [(h0, .inr (10, vL 67 F7)), (h_s, .inl (cI, 335, .inl g328)), (h_undone, .inl (cI, 192, .inl f_undone))] := hD
        obtain ⟨v340, ev340⟩ : ∃ z : Int32, z = u300 + 1 := ⟨_, rfl⟩
        have bv340 : v340.toInt = u300.toInt + 1 := by rw [ev340]; exact add_k rfl rfl k316 ⟨Int.le_refl _, Int.le_refl _⟩ (by decide)
        have k341 : 1 ≤ v340.toInt ∧ v340.toInt ≤ 24 := add_r bv340 k316 ⟨Int.le_refl _, Int.le_refl _⟩ (by decide)
        refine lv_iinc (v := v340) (lv' := [(1, .int v340), (0, .ref h0)]) hx hb dX10_undo_55 hl (k := 0) rfl (by rw [ev340]; rfl) (by decide) rfl (fun ls hl => ?_)
        refine lv_goto (tgt := 26) hx hb dX10_undo_58 (by decide) ?_
        exact ih (v340, g328) ⟨(ir_wk k341 (by decide) (by decide)), r329, r330, r331, r332, r333, r334, r335, r336, r337, r338, r339⟩ (by show (24 - v340.toInt).toNat < (24 - u300.toInt).toNat; omega) _ _ _ hP hD hS (lv_sub hl [0, 1] rfl)
    have dk296 : v5.toInt ≠ 6 := ne_i rfl rfl k296
    have k342 : 7 ≤ v5.toInt ∧ v5.toInt ≤ 7 := ⟨ne_lo dk296 k294.1 ⟨Int.le_refl _, Int.le_refl _⟩ (by decide), k294.2⟩
    have k343 : 8 ≤ x_undoMany.toInt ∧ x_undoMany.toInt ≤ 8 := ⟨lin_lo (lin_m bv5) k342.1 (by decide), k295.2⟩
    have k344 : v5 = 7 := Int32.toInt_inj.mp (show v5.toInt = 7 by omega)
    have dk344 : v5.toInt = 7 := eq_i rfl rfl k344
    have n345 : F7 41 = .int 7 := by rw [(get_eq eF7)]; exact congrArg Value.int k344
    refine lv_iconst (v := 0) hx hb dX10_undo_24 (by decide) ?_
    refine lv_istore_n (lv' := [(1, .int 0), (0, .ref h0)]) hx hb dX10_undo_25 rfl hl (by decide) rfl (fun ls hl => ?_)
    refine mloop (α := (Int32) × (Nat → Int32)) (nL := 2) (D := D) (A := A) (H0 := s.heap) (fun a => (24 - a.1.toInt).toNat) (fun a => IR 0 24 a.1 ∧ KW 0 a.2 ∧ SG 0 0 0 40 a.2 ∧ SG 105 108 0 11 a.2 ∧ SG 114 114 0 5 a.2 ∧ SG 130 133 0 11 a.2 ∧ SG 139 139 0 5 a.2 ∧ SG 153 153 0 44 a.2 ∧ SG 44 55 0 9 a.2 ∧ SG 5 5 0 12 a.2 ∧ SG 6 6 0 12 a.2 ∧ SG 7 7 0 6 a.2) (fun a => [(h0, .inr (10, vL 67 F7)), (h_s, .inl (cI, 335, .inl a.2)), (h_undone, .inl (cI, 192, .inl f_undone))]) (fun a => [(1, .int a.1), (0, .ref h0)]) (fun H locs ls => W p l e ({ frames := 0, cells := 0, slots := 0, locals := 0 } : Room) s m [.ref h0].toArray below meth c H locs 0 0 (MQ below (va_Qi (fun (r : Int32) (u : va_W) => ∃ (Gh : Nat → Value) (y_undoMany : Int32) (g_s : Nat → Int32), SAME [0, 41] Fh Gh ∧ Gh 0 = .int 0 ∧ Gh 41 = .int y_undoMany ∧ IR 0 7 y_undoMany ∧ SG 153 153 0 44 g_s ∧ SG 0 0 0 40 g_s ∧ SG 5 5 0 12 g_s ∧ SG 6 6 0 12 g_s ∧ SG 7 7 0 6 g_s ∧ SG 44 55 0 9 g_s ∧ KW 0 g_s ∧ SG 105 108 0 11 g_s ∧ SG 114 114 0 5 g_s ∧ SG 130 133 0 11 g_s ∧ SG 139 139 0 5 g_s ∧ IR (-1) 7 r ∧ u = [(h0, .inr (10, vL 67 Gh)), (h_s, .inl (cI, 335, .inl g_s)), (h_undone, .inl (cI, 192, .inl f_undone))]) (PO D A) A) [.ref h0].toArray s 0 0 A) (F0 m 26 ls [])) ?_ (0, f_s) ⟨(show 0 ≤ (0 : Int32).toInt ∧ (0 : Int32).toInt ≤ 24 by decide), s_s_K0, s_s_0, s_s_105, s_s_114, s_s_130, s_s_139, s_s_153, s_s_44, s_s_5, s_s_6, s_s_7⟩ _ _ _ hP hD hS hl
    rintro ⟨u346, w347⟩ ⟨i348, i349, i350, i351, i352, i353, i354, i355, i356, i357, i358, i359⟩ ih H locs ls hP hD hS hl
    have i348 : 0 ≤ u346.toInt ∧ u346.toInt ≤ 24 := i348
    have hP : va_P D vwCl [(h0, .inr (10, vL 67 F7)), (h_s, .inl (cI, 335, .inl w347)), (h_undone, .inl (cI, 192, .inl f_undone))] H := hP
    have hD : va_D A [(h0, .inr (10, vL 67 F7)), (h_s, .inl (cI, 335, .inl w347)), (h_undone, .inl (cI, 192, .inl f_undone))] := hD
    have hl : lv_has ls 2 [(1, .int u346), (0, .ref h0)] := hl
    refine lv_iload_n hx hb dX10_undo_26 rfl (lv_at hl 0 rfl) ?_
    refine lv_bipush (v := 24) hx hb dX10_undo_27 (by decide) ?_
    refine lv_icmp_ge (tgt := 61) hx hb dX10_undo_29 (by decide) (fun c360 => ?_) (fun c360 => ?_)
    · have dc360 : 24 ≤ u346.toInt := le_i (a := 24) (b := u346.toInt) rfl rfl c360
      have k361 : 24 ≤ u346.toInt ∧ u346.toInt ≤ 24 := ⟨Int.le_trans (Int.le_refl _) dc360, i348.2⟩
      refine lv_aload_n hx hb dX10_undo_61 rfl (lv_at hl 1 rfl) ?_
      refine get_f (D := D) (ci := 10) (v := .int 7) (C := RX10) (T := TX10) (N := 67) hx hb hw inAX10 hown hK hP 0 rfl rfl 41 (by decide) (hw _ q_1302) (fun _ h9 => h9) n345 dX10_undo_62 ?_
      exact ret_i (v := 7) hx hb hr hlocks hS hP hD dX10_undo_65 rfl (Nat.le_of_ble_eq_true rfl) (Nat.le_of_ble_eq_true rfl) ⟨F7, v5, w347, (SAME.up eF7 (SAME.up eF1 SAME.rf (by decide)) (by decide)), (get_ne eF7 (by decide) (get_eq eF1)), (get_eq eF7), (ir_wk k342 (by decide) (by decide)), i355, i350, i357, i358, i359, i356, i349, i351, i352, i353, i354, (show (-1) ≤ (7 : Int32).toInt ∧ (7 : Int32).toInt ≤ 7 by decide), rfl⟩
    · have dc360 : u346.toInt < 24 := nle_i (a := 24) (b := u346.toInt) rfl rfl c360
      have k362 : 0 ≤ u346.toInt ∧ u346.toInt ≤ 23 := ⟨i348.1, up_lt dc360 (Int.le_refl _) (by decide)⟩
      refine lv_aload_n hx hb dX10_undo_32 rfl (lv_at hl 1 rfl) ?_
      have n363 : F1 6 = .ref h_s := (get_ne eF1 (by decide) e_s)
      have n364 : F7 6 = .ref h_s := (get_ne eF7 (by decide) n363)
      refine get_f (D := D) (ci := 10) (v := .ref h_s) (C := RX10) (T := TX10) (N := 67) hx hb hw inAX10 hown hK hP 0 rfl rfl 6 (by decide) (hw _ q_1267) (fun _ h9 => h9) n364 dX10_undo_33 ?_
      refine lv_bipush (v := 104) hx hb dX10_undo_36 (by decide) ?_
      refine lv_iload_n hx hb dX10_undo_38 rfl (lv_at hl 0 rfl) ?_
      refine lv_iadd hx hb dX10_undo_39 ?_
      refine lv_topi (fun v365 ev365 => ?_)
      have bv365 : v365.toInt = 104 + u346.toInt := by rw [ev365]; exact add_k rfl rfl ⟨Int.le_refl _, Int.le_refl _⟩ k362 (by decide)
      have k366 : 104 ≤ v365.toInt ∧ v365.toInt ≤ 127 := add_r bv365 ⟨Int.le_refl _, Int.le_refl _⟩ k362 (by decide)
      refine lv_aload_n hx hb dX10_undo_40 rfl (lv_at hl 1 rfl) ?_
      have n367 : F1 39 = .ref h_undone := (get_ne eF1 (by decide) e_undone)
      have n368 : F7 39 = .ref h_undone := (get_ne eF7 (by decide) n367)
      refine get_f (D := D) (ci := 10) (v := .ref h_undone) (C := RX10) (T := TX10) (N := 67) hx hb hw inAX10 hown hK hP 0 rfl rfl 39 (by decide) (hw _ q_1300) (fun _ h9 => h9) n368 dX10_undo_41 ?_
      refine lv_bipush (v := 24) hx hb dX10_undo_44 (by decide) ?_
      refine lv_aload_n hx hb dX10_undo_46 rfl (lv_at hl 1 rfl) ?_
      refine get_f (D := D) (ci := 10) (v := .int 7) (C := RX10) (T := TX10) (N := 67) hx hb hw inAX10 hown hK hP 0 rfl rfl 41 (by decide) (hw _ q_1302) (fun _ h9 => h9) n345 dX10_undo_47 ?_
      refine lv_imul hx hb dX10_undo_50 ?_
      refine lv_ci (y := 168) (by decide +kernel) ?_
      refine lv_iload_n hx hb dX10_undo_51 rfl (lv_at hl 0 rfl) ?_
      refine lv_iadd hx hb dX10_undo_52 ?_
      refine lv_topi (fun v369 ev369 => ?_)
      have bv369 : v369.toInt = 168 + u346.toInt := by rw [ev369]; exact add_k rfl rfl ⟨Int.le_refl _, Int.le_refl _⟩ k362 (by decide)
      have k370 : 168 ≤ v369.toInt ∧ v369.toInt ≤ 191 := add_r bv369 ⟨Int.le_refl _, Int.le_refl _⟩ k362 (by decide)
      refine va_iald hx hb hK hP 2 0 rfl rfl (ix_k k370 (by decide) (by decide)) dX10_undo_53 ?_
      refine lv_topi (fun v371 ev371 => ?_)
      have r372 : IMP (169 ≤ v369.toInt → v369.toInt ≤ 172 → 0 ≤ v371.toInt ∧ v371.toInt ≤ 11) := IMP.mk (fun q1 q2 => by rw [ev371]; exact s_undone_169.at _ q1 q2)
      have r373 : IMP (178 ≤ v369.toInt → v369.toInt ≤ 178 → 0 ≤ v371.toInt ∧ v371.toInt ≤ 5) := IMP.mk (fun q1 q2 => by rw [ev371]; exact s_undone_178.at _ q1 q2)
      obtain ⟨g374, eg374⟩ : ∃ z : Nat → Int32, upd w347 v365.toNatClampNeg v371 = z := ⟨_, rfl⟩
      have r375 : KW 0 g374 := by rw [← eg374]; exact i349.up (Int.le_trans (by decide) k366.1) (Or.inl (lt_dec k366.2 (by decide)))
      have r376 : SG 0 0 0 40 g374 := by rw [← eg374]; exact i350.up (Int.le_trans (by decide) k366.1) (Or.inr (Or.inl (dec_lt k366.1 (by decide))))
      have r377 : SG 105 108 0 11 g374 := by rw [← eg374]; exact i351.upI (Int.le_trans (by decide) k366.1) (fun q1 q2 => ⟨Int.le_trans (by decide) (r372.h (by omega) (by omega)).1, Int.le_trans (r372.h (by omega) (by omega)).2 (by decide)⟩)
      have r378 : SG 114 114 0 5 g374 := by rw [← eg374]; exact i352.upI (Int.le_trans (by decide) k366.1) (fun q1 q2 => ⟨Int.le_trans (by decide) (r373.h (by omega) (by omega)).1, Int.le_trans (r373.h (by omega) (by omega)).2 (by decide)⟩)
      have r379 : SG 130 133 0 11 g374 := by rw [← eg374]; exact i353.up (Int.le_trans (by decide) k366.1) (Or.inl (lt_dec k366.2 (by decide)))
      have r380 : SG 139 139 0 5 g374 := by rw [← eg374]; exact i354.up (Int.le_trans (by decide) k366.1) (Or.inl (lt_dec k366.2 (by decide)))
      have r381 : SG 153 153 0 44 g374 := by rw [← eg374]; exact i355.up (Int.le_trans (by decide) k366.1) (Or.inl (lt_dec k366.2 (by decide)))
      have r382 : SG 44 55 0 9 g374 := by rw [← eg374]; exact i356.up (Int.le_trans (by decide) k366.1) (Or.inr (Or.inl (dec_lt k366.1 (by decide))))
      have r383 : SG 5 5 0 12 g374 := by rw [← eg374]; exact i357.up (Int.le_trans (by decide) k366.1) (Or.inr (Or.inl (dec_lt k366.1 (by decide))))
      have r384 : SG 6 6 0 12 g374 := by rw [← eg374]; exact i358.up (Int.le_trans (by decide) k366.1) (Or.inr (Or.inl (dec_lt k366.1 (by decide))))
      have r385 : SG 7 7 0 6 g374 := by rw [← eg374]; exact i359.up (Int.le_trans (by decide) k366.1) (Or.inr (Or.inl (dec_lt k366.1 (by decide))))
      refine iast_g hx hb hK hP hD hS 1 0 rfl rfl (ix_k k366 (by decide) (by decide)) eg374 dX10_undo_54 (fun H locs hP hD hS => ?_)
      have hP : va_P D vwCl [(h0, .inr (10, vL 67 F7)), (h_s, .inl (cI, 335, .inl g374)), (h_undone, .inl (cI, 192, .inl f_undone))] H := hP
      have hD : va_D A [(h0, .inr (10, vL 67 F7)), (h_s, .inl (cI, 335, .inl g374)), (h_undone, .inl (cI, 192, .inl f_undone))] := hD
      obtain ⟨v386, ev386⟩ : ∃ z : Int32, z = u346 + 1 := ⟨_, rfl⟩
      have bv386 : v386.toInt = u346.toInt + 1 := by rw [ev386]; exact add_k rfl rfl k362 ⟨Int.le_refl _, Int.le_refl _⟩ (by decide)
      have k387 : 1 ≤ v386.toInt ∧ v386.toInt ≤ 24 := add_r bv386 k362 ⟨Int.le_refl _, Int.le_refl _⟩ (by decide)
      refine lv_iinc (v := v386) (lv' := [(1, .int v386), (0, .ref h0)]) hx hb dX10_undo_55 hl (k := 0) rfl (by rw [ev386]; rfl) (by decide) rfl (fun ls hl => ?_)
      refine lv_goto (tgt := 26) hx hb dX10_undo_58 (by decide) ?_
      exact ih (v386, g374) ⟨(ir_wk k387 (by decide) (by decide)), r375, r376, r377, r378, r379, r380, r381, r382, r383, r384, r385⟩ (by show (24 - v386.toInt).toNat < (24 - u346.toInt).toNat; omega) _ _ _ hP hD hS (lv_sub hl [0, 1] rfl)
  · have dc3 : x_undoMany.toInt = 0 := eq_i (a := x_undoMany.toInt) (b := 0) rfl rfl c3
    have k388 : 0 ≤ x_undoMany.toInt ∧ x_undoMany.toInt ≤ 0 := ⟨i_x_undoMany.1, Int.le_trans (Int.le_of_eq dc3) (Int.le_refl _)⟩
    refine lv_iconst (v := (-1)) hx hb dX10_undo_12 (by decide) ?_
    exact ret_i (v := (-1)) hx hb hr hlocks hS hP hD dX10_undo_13 rfl (Nat.le_of_ble_eq_true rfl) (Nat.le_of_ble_eq_true rfl) ⟨F1, x_undoMany, f_s, (SAME.up eF1 SAME.rf (by decide)), (get_eq eF1), n2, (ir_wk k388 (by decide) (by decide)), s_s_153, s_s_0, s_s_5, s_s_6, s_s_7, s_s_44, s_s_K0, s_s_105, s_s_114, s_s_130, s_s_139, (show (-1) ≤ ((-1) : Int32).toInt ∧ ((-1) : Int32).toInt ≤ 7 by decide), rfl⟩
