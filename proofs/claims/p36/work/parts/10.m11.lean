set_option maxHeartbeats 4000000 in
set_option maxRecDepth 100000 in
theorem m_X10_less (l : Launch) (D : va_G) (cI cJ cB cP cM cZ : ClassId) (p0 : Int32) (p1 : Int32) (sz : Nat)  : CI l yX10_less cX10_less 2 (some .int) { frames := 0, cells := 0, slots := 0, locals := 0 } (GG D cI cJ cB cP cM cZ) D [] sz [.int p0, .int p1] (fun (r : Int32) (u : va_W) => IR (-2147483647) 2147483647 r ∧ u = []) := by
  refine CI_mk (by decide) (Nat.le_of_ble_eq_true rfl) ?_
  intro p e s m below meth c A ls E hAe hG hsz hP hD hA hS hl
  obtain ⟨hx, hb, hr, hw, hown, hlocks, hml, hnm⟩ := E
  have hK := hG.1
  have hl : lv_has ls 2 [(0, .int p0), (1, .int p1)] := hl
  refine lv_iload_n hx hb dX10_less_0 rfl (lv_at hl 0 rfl) ?_
  refine lv_if_lt (tgt := 8) hx hb dX10_less_1 (by decide) (fun c1 => ?_) (fun c1 => ?_)
  · have dc1 : p0.toInt < 0 := lt_i (a := p0.toInt) (b := 0) rfl rfl c1
    have k2 : (-2147483648) ≤ p0.toInt ∧ p0.toInt ≤ (-1) := ⟨(ir_any _).1, up_lt dc1 (Int.le_refl _) (by decide)⟩
    refine lv_ldcw hx hb hown (hw _ q_1756) dX10_less_8 ?_
    refine lv_goto (tgt := 17) hx hb dX10_less_11 (by decide) ?_
    exact ret_i (v := (-100001)) hx hb hr hlocks hS hP hD dX10_less_17 rfl (Nat.le_of_ble_eq_true rfl) (Nat.le_of_ble_eq_true rfl) ⟨(show (-2147483647) ≤ ((-100001) : Int32).toInt ∧ ((-100001) : Int32).toInt ≤ 2147483647 by decide), rfl⟩
  · have dc1 : 0 ≤ p0.toInt := nlt_i (a := p0.toInt) (b := 0) rfl rfl c1
    have k3 : 0 ≤ p0.toInt ∧ p0.toInt ≤ 2147483647 := ⟨Int.le_trans (Int.le_refl _) dc1, (ir_any _).2⟩
    refine lv_iload_n hx hb dX10_less_4 rfl (lv_at hl 1 rfl) ?_
    refine lv_if_ge (tgt := 14) hx hb dX10_less_5 (by decide) (fun c4 => ?_) (fun c4 => ?_)
    · have dc4 : 0 ≤ p1.toInt := le_i (a := 0) (b := p1.toInt) rfl rfl c4
      have k5 : 0 ≤ p1.toInt ∧ p1.toInt ≤ 2147483647 := ⟨Int.le_trans (Int.le_refl _) dc4, (ir_any _).2⟩
      refine lv_iload_n hx hb dX10_less_14 rfl (lv_at hl 0 rfl) ?_
      refine lv_iload_n hx hb dX10_less_15 rfl (lv_at hl 1 rfl) ?_
      refine lv_isub hx hb dX10_less_16 ?_
      refine lv_topi (fun v6 ev6 => ?_)
      have bv6 : v6.toInt = p0.toInt - p1.toInt := by rw [ev6]; exact sub_k rfl rfl k3 k5 (by decide)
      have k7 : (-2147483647) ≤ v6.toInt ∧ v6.toInt ≤ 2147483647 := sub_r bv6 k3 k5 (by decide)
      exact ret_i (v := v6) hx hb hr hlocks hS hP hD dX10_less_17 rfl (Nat.le_of_ble_eq_true rfl) (Nat.le_of_ble_eq_true rfl) ⟨k7, rfl⟩
    · have dc4 : p1.toInt < 0 := nle_i (a := 0) (b := p1.toInt) rfl rfl c4
      have k8 : (-2147483648) ≤ p1.toInt ∧ p1.toInt ≤ (-1) := ⟨(ir_any _).1, up_lt dc4 (Int.le_refl _) (by decide)⟩
      refine lv_ldcw hx hb hown (hw _ q_1756) dX10_less_8 ?_
      refine lv_goto (tgt := 17) hx hb dX10_less_11 (by decide) ?_
      exact ret_i (v := (-100001)) hx hb hr hlocks hS hP hD dX10_less_17 rfl (Nat.le_of_ble_eq_true rfl) (Nat.le_of_ble_eq_true rfl) ⟨(show (-2147483647) ≤ ((-100001) : Int32).toInt ∧ ((-100001) : Int32).toInt ≤ 2147483647 by decide), rfl⟩
set_option maxHeartbeats 4000000 in
set_option maxRecDepth 100000 in
theorem m_X10_kilo (l : Launch) (D : va_G) (cI cJ cB cP cM cZ : ClassId) (h0 : Nat) (h_s : Nat) (h_paceAt : Nat) (h_kindOf : Nat) (h_behindAt : Nat) (Fh : Nat → Value) (x_lineTime : Int32) (x_linePace : Int32) (x_inside : Int32) (x_late : Int32) (x_seed : Int32) (x_kicks : Int32) (x_bendsGone : Int32) (x_overAt : Int32) (x_endPace : Int32) (x_touchBend : Int32) (x_touchBy : Int32) (f_s : Nat → Int32) (f_paceAt : Nat → Int32) (f_kindOf : Nat → Int32) (f_behindAt : Nat → Int32) (p0 : Int32) (bs : Nat → Int32) (sz : Nat) (e_s : Fh 6 = .ref h_s) (e_paceAt : Fh 25 = .ref h_paceAt) (e_kindOf : Fh 26 = .ref h_kindOf) (e_lineTime : Fh 27 = .int x_lineTime) (e_linePace : Fh 28 = .int x_linePace) (e_inside : Fh 29 = .int x_inside) (i_x_inside : IR 0 15 x_inside) (e_late : Fh 30 = .int x_late) (i_x_late : IR 0 15 x_late) (e_seed : Fh 31 = .int x_seed) (e_kicks : Fh 32 = .int x_kicks) (i_x_kicks : IR 0 1 x_kicks) (e_behindAt : Fh 33 = .ref h_behindAt) (e_bendsGone : Fh 34 = .int x_bendsGone) (i_x_bendsGone : IR 0 12 x_bendsGone) (e_overAt : Fh 35 = .int x_overAt) (e_endPace : Fh 36 = .int x_endPace) (e_touchBend : Fh 37 = .int x_touchBend) (e_touchBy : Fh 38 = .int x_touchBy) (i_x_touchBy : IR 0 99 x_touchBy) (s_s_K0 : KW 0 f_s) (s_s_US : US bs f_s) (s_s_0 : SG 0 0 0 40 f_s) (s_s_105 : SG 105 108 0 11 f_s) (s_s_114 : SG 114 114 0 5 f_s) (s_s_130 : SG 130 133 0 11 f_s) (s_s_139 : SG 139 139 0 5 f_s) (s_s_153 : SG 153 153 0 44 f_s) (s_s_44 : SG 44 55 0 9 f_s) (s_s_5 : SG 5 5 0 12 f_s) (s_s_6 : SG 6 6 0 12 f_s) (s_s_7 : SG 7 7 0 6 f_s) : CI l yX10_kilo cX10_kilo 2 (some .int) { frames := 6, cells := 0, slots := 0, locals := 139 } (GG D cI cJ cB cP cM cZ) D [(h0, .inr (10, vL 67 Fh)), (h_s, .inl (cI, 335, .inl f_s)), (h_paceAt, .inl (cI, 40, .inl f_paceAt)), (h_kindOf, .inl (cI, 4, .inl f_kindOf)), (h_behindAt, .inl (cI, 12, .inl f_behindAt))] sz [.ref h0, .int p0] (fun (r : Int32) (u : va_W) => ∃ (Gh : Nat → Value) (y_lineTime : Int32) (y_linePace : Int32) (y_inside : Int32) (y_late : Int32) (y_seed : Int32) (y_bendsGone : Int32) (y_overAt : Int32) (y_endPace : Int32) (g_s : Nat → Int32) (g_paceAt : Nat → Int32) (g_kindOf : Nat → Int32) (g_behindAt : Nat → Int32), SAME [0, 27, 28, 29, 30, 31, 34, 35, 36] Fh Gh ∧ Gh 0 = .int 0 ∧ Gh 27 = .int y_lineTime ∧ Gh 28 = .int y_linePace ∧ Gh 29 = .int y_inside ∧ IR 0 15 y_inside ∧ Gh 30 = .int y_late ∧ IR 0 15 y_late ∧ Gh 31 = .int y_seed ∧ Gh 34 = .int y_bendsGone ∧ IR 0 12 y_bendsGone ∧ Gh 35 = .int y_overAt ∧ Gh 36 = .int y_endPace ∧ SG 153 153 0 44 g_s ∧ SG 0 0 0 40 g_s ∧ SG 5 5 0 12 g_s ∧ SG 6 6 0 12 g_s ∧ SG 7 7 0 6 g_s ∧ SG 44 55 0 9 g_s ∧ KW 0 g_s ∧ SG 105 108 0 11 g_s ∧ SG 114 114 0 5 g_s ∧ SG 130 133 0 11 g_s ∧ SG 139 139 0 5 g_s ∧ US bs g_s ∧ IR (-2147483647) 2147483647 r ∧ u = [(h0, .inr (10, vL 67 Gh)), (h_s, .inl (cI, 335, .inl g_s)), (h_paceAt, .inl (cI, 40, .inl g_paceAt)), (h_kindOf, .inl (cI, 4, .inl g_kindOf)), (h_behindAt, .inl (cI, 12, .inl g_behindAt))]) := by
  refine CI_mk (by decide) (Nat.le_of_ble_eq_true rfl) ?_
  intro p e s m below meth c A ls E hAe hG hsz hP hD hA hS hl
  obtain ⟨hx, hb, hr, hw, hown, hlocks, hml, hnm⟩ := E
  have hK := hG.1
  have i_x_inside : 0 ≤ x_inside.toInt ∧ x_inside.toInt ≤ 15 := i_x_inside
  have i_x_late : 0 ≤ x_late.toInt ∧ x_late.toInt ≤ 15 := i_x_late
  have i_x_kicks : 0 ≤ x_kicks.toInt ∧ x_kicks.toInt ≤ 1 := i_x_kicks
  have i_x_bendsGone : 0 ≤ x_bendsGone.toInt ∧ x_bendsGone.toInt ≤ 12 := i_x_bendsGone
  have i_x_touchBy : 0 ≤ x_touchBy.toInt ∧ x_touchBy.toInt ≤ 99 := i_x_touchBy
  have hl : lv_has ls 2 [(0, .ref h0), (1, .int p0)] := hl
  refine lv_aload_n hx hb dX10_kilo_0 rfl (lv_at hl 0 rfl) ?_
  refine lv_iconst (v := 0) hx hb dX10_kilo_1 (by decide) ?_
  refine put_f (D := D) (ci := 10) (v := .int 0) (ty := .int) (C := RX10) (T := TX10) (N := 67) hx hb hw inAX10 tyX10 tyX10_ok nmX10 hown hK hP hD hS 0 rfl rfl 0 (by decide) (hw _ q_1261) (fun _ h9 => h9) rfl (by decide +kernel) rfl rfl dX10_kilo_2 (fun H locs F1 eF1 hP hD hS => ?_)
  have hP : va_P D vwCl [(h0, .inr (10, vL 67 F1)), (h_s, .inl (cI, 335, .inl f_s)), (h_paceAt, .inl (cI, 40, .inl f_paceAt)), (h_kindOf, .inl (cI, 4, .inl f_kindOf)), (h_behindAt, .inl (cI, 12, .inl f_behindAt))] H := hP
  have hD : va_D A [(h0, .inr (10, vL 67 F1)), (h_s, .inl (cI, 335, .inl f_s)), (h_paceAt, .inl (cI, 40, .inl f_paceAt)), (h_kindOf, .inl (cI, 4, .inl f_kindOf)), (h_behindAt, .inl (cI, 12, .inl f_behindAt))] := hD
  refine lv_aload_n hx hb dX10_kilo_5 rfl (lv_at hl 0 rfl) ?_
  have n2 : F1 6 = .ref h_s := (get_ne eF1 (by decide) e_s)
  refine call_Vi (wr := [(h_paceAt, .inl (cI, 40, .inl f_paceAt)), (h_kindOf, .inl (cI, 4, .inl f_kindOf)), (h_behindAt, .inl (cI, 12, .inl f_behindAt))]) (As := []) (rest := []) hx hb hml hown hw (m_X10_hasCrew l D cI cJ cB cP cM cZ h0 h_s F1 f_s bs _ n2 s_s_K0 s_s_US s_s_0 s_s_105 s_s_114 s_s_130 s_s_139 s_s_153 s_s_44 s_s_5 s_s_6 s_s_7) wV_X10_281_X10_hasCrew dX10_kilo_6 hK hP hD hS hA [0, 1] [2, 3, 4] rfl rfl (by decide) (by decide) (by decide) 0 10 rfl rfl GG.fb hG.at hl.1 rfl (Nat.le_of_ble_eq_true rfl) ⟨(Nat.le_of_ble_eq_true rfl), (Nat.le_of_ble_eq_true rfl)⟩ ⟨(Nat.le_of_ble_eq_true rfl), (Nat.le_of_ble_eq_true rfl)⟩ (fun r3 u H locs hp hP hD hS => ?_)
  rcases hp with ⟨rfl, rfl⟩ | ⟨rfl, rfl⟩
  · have hP : va_P D vwCl [(h_paceAt, .inl (cI, 40, .inl f_paceAt)), (h_kindOf, .inl (cI, 4, .inl f_kindOf)), (h_behindAt, .inl (cI, 12, .inl f_behindAt)), (h0, .inr (10, vL 67 F1)), (h_s, .inl (cI, 335, .inl f_s))] H := hP
    have hD : va_D A [(h_paceAt, .inl (cI, 40, .inl f_paceAt)), (h_kindOf, .inl (cI, 4, .inl f_kindOf)), (h_behindAt, .inl (cI, 12, .inl f_behindAt)), (h0, .inr (10, vL 67 F1)), (h_s, .inl (cI, 335, .inl f_s))] := hD
    refine W.widen (k := 0) (n := 0) (Nat.le_of_ble_eq_true rfl) (Nat.le_of_ble_eq_true rfl) ?_
    refine lv_if_eq (tgt := 36) hx hb dX10_kilo_9 (by decide) (fun _ => ?_) (fun g => absurd (by decide) g)
    refine lv_ldcw hx hb hown (hw _ q_1756) dX10_kilo_36 ?_
    exact ret_i (v := (-100001)) hx hb hr hlocks hS (hP.sub (ws' := [(h0, .inr (10, vL 67 F1)), (h_s, .inl (cI, 335, .inl f_s)), (h_paceAt, .inl (cI, 40, .inl f_paceAt)), (h_kindOf, .inl (cI, 4, .inl f_kindOf)), (h_behindAt, .inl (cI, 12, .inl f_behindAt))]) [3, 4, 0, 1, 2] rfl) (hD.sub (ws' := [(h0, .inr (10, vL 67 F1)), (h_s, .inl (cI, 335, .inl f_s)), (h_paceAt, .inl (cI, 40, .inl f_paceAt)), (h_kindOf, .inl (cI, 4, .inl f_kindOf)), (h_behindAt, .inl (cI, 12, .inl f_behindAt))]) [3, 4, 0, 1, 2] (by decide) rfl) dX10_kilo_39 rfl (Nat.le_of_ble_eq_true rfl) (Nat.le_of_ble_eq_true rfl) ⟨F1, x_lineTime, x_linePace, x_inside, x_late, x_seed, x_bendsGone, x_overAt, x_endPace, f_s, f_paceAt, f_kindOf, f_behindAt, (SAME.up eF1 SAME.rf (by decide)), (get_eq eF1), (get_ne eF1 (by decide) e_lineTime), (get_ne eF1 (by decide) e_linePace), (get_ne eF1 (by decide) e_inside), i_x_inside, (get_ne eF1 (by decide) e_late), i_x_late, (get_ne eF1 (by decide) e_seed), (get_ne eF1 (by decide) e_bendsGone), i_x_bendsGone, (get_ne eF1 (by decide) e_overAt), (get_ne eF1 (by decide) e_endPace), s_s_153, s_s_0, s_s_5, s_s_6, s_s_7, s_s_44, s_s_K0, s_s_105, s_s_114, s_s_130, s_s_139, s_s_US, (show (-2147483647) ≤ ((-100001) : Int32).toInt ∧ ((-100001) : Int32).toInt ≤ 2147483647 by decide), rfl⟩
  · have hP : va_P D vwCl [(h_paceAt, .inl (cI, 40, .inl f_paceAt)), (h_kindOf, .inl (cI, 4, .inl f_kindOf)), (h_behindAt, .inl (cI, 12, .inl f_behindAt)), (h0, .inr (10, vL 67 F1)), (h_s, .inl (cI, 335, .inl f_s))] H := hP
    have hD : va_D A [(h_paceAt, .inl (cI, 40, .inl f_paceAt)), (h_kindOf, .inl (cI, 4, .inl f_kindOf)), (h_behindAt, .inl (cI, 12, .inl f_behindAt)), (h0, .inr (10, vL 67 F1)), (h_s, .inl (cI, 335, .inl f_s))] := hD
    refine W.widen (k := 0) (n := 0) (Nat.le_of_ble_eq_true rfl) (Nat.le_of_ble_eq_true rfl) ?_
    refine lv_if_eq (tgt := 36) hx hb dX10_kilo_9 (by decide) (fun g => absurd g (by decide)) (fun _ => ?_)
    refine lv_iload_n hx hb dX10_kilo_12 rfl (lv_at hl 1 rfl) ?_
    refine lv_iconst (v := 1) hx hb dX10_kilo_13 (by decide) ?_
    refine lv_bipush (v := 99) hx hb dX10_kilo_14 (by decide) ?_
    refine call_Si (wr := [(h_paceAt, .inl (cI, 40, .inl f_paceAt)), (h_kindOf, .inl (cI, 4, .inl f_kindOf)), (h_behindAt, .inl (cI, 12, .inl f_behindAt)), (h0, .inr (10, vL 67 F1)), (h_s, .inl (cI, 335, .inl f_s))]) (As := [.int p0, .int 1, .int 99]) (rest := []) hx hb hml hown hw (m_X10_isIn l D cI cJ cB cP cM cZ p0 1 99 _ ) wS_X10_211_X10_isIn dX10_kilo_16 hP hD hS hA [] [0, 1, 2, 3, 4] rfl rfl (by decide) (by decide) (by decide) GG.fb hG.at hl.1 rfl (Nat.le_of_ble_eq_true rfl) ⟨(Nat.le_of_ble_eq_true rfl), (Nat.le_of_ble_eq_true rfl)⟩ ⟨(Nat.le_of_ble_eq_true rfl), (Nat.le_of_ble_eq_true rfl)⟩ (fun r5 u H locs hp hP hD hS => ?_)
    have zl1 : (1 : Int32).toInt = 1 := by decide
    have zl99 : (99 : Int32).toInt = 99 := by decide
    rcases hp with ⟨t6, rfl, rfl⟩ | ⟨t7, t8, rfl, rfl⟩ | ⟨t9, t10, rfl, rfl⟩
    · have hP : va_P D vwCl [(h_paceAt, .inl (cI, 40, .inl f_paceAt)), (h_kindOf, .inl (cI, 4, .inl f_kindOf)), (h_behindAt, .inl (cI, 12, .inl f_behindAt)), (h0, .inr (10, vL 67 F1)), (h_s, .inl (cI, 335, .inl f_s))] H := hP
      have hD : va_D A [(h_paceAt, .inl (cI, 40, .inl f_paceAt)), (h_kindOf, .inl (cI, 4, .inl f_kindOf)), (h_behindAt, .inl (cI, 12, .inl f_behindAt)), (h0, .inr (10, vL 67 F1)), (h_s, .inl (cI, 335, .inl f_s))] := hD
      refine W.widen (k := 0) (n := 0) (Nat.le_of_ble_eq_true rfl) (Nat.le_of_ble_eq_true rfl) ?_
      have k12 : (-2147483648) ≤ p0.toInt ∧ p0.toInt ≤ 0 := ⟨(ir_any _).1, up_lt t6 (Int.le_refl _) (by decide)⟩
      refine lv_if_eq (tgt := 36) hx hb dX10_kilo_19 (by decide) (fun _ => ?_) (fun g => absurd (by decide) g)
      refine lv_ldcw hx hb hown (hw _ q_1756) dX10_kilo_36 ?_
      exact ret_i (v := (-100001)) hx hb hr hlocks hS (hP.sub (ws' := [(h0, .inr (10, vL 67 F1)), (h_s, .inl (cI, 335, .inl f_s)), (h_paceAt, .inl (cI, 40, .inl f_paceAt)), (h_kindOf, .inl (cI, 4, .inl f_kindOf)), (h_behindAt, .inl (cI, 12, .inl f_behindAt))]) [3, 4, 0, 1, 2] rfl) (hD.sub (ws' := [(h0, .inr (10, vL 67 F1)), (h_s, .inl (cI, 335, .inl f_s)), (h_paceAt, .inl (cI, 40, .inl f_paceAt)), (h_kindOf, .inl (cI, 4, .inl f_kindOf)), (h_behindAt, .inl (cI, 12, .inl f_behindAt))]) [3, 4, 0, 1, 2] (by decide) rfl) dX10_kilo_39 rfl (Nat.le_of_ble_eq_true rfl) (Nat.le_of_ble_eq_true rfl) ⟨F1, x_lineTime, x_linePace, x_inside, x_late, x_seed, x_bendsGone, x_overAt, x_endPace, f_s, f_paceAt, f_kindOf, f_behindAt, (SAME.up eF1 SAME.rf (by decide)), (get_eq eF1), (get_ne eF1 (by decide) e_lineTime), (get_ne eF1 (by decide) e_linePace), (get_ne eF1 (by decide) e_inside), i_x_inside, (get_ne eF1 (by decide) e_late), i_x_late, (get_ne eF1 (by decide) e_seed), (get_ne eF1 (by decide) e_bendsGone), i_x_bendsGone, (get_ne eF1 (by decide) e_overAt), (get_ne eF1 (by decide) e_endPace), s_s_153, s_s_0, s_s_5, s_s_6, s_s_7, s_s_44, s_s_K0, s_s_105, s_s_114, s_s_130, s_s_139, s_s_US, (show (-2147483647) ≤ ((-100001) : Int32).toInt ∧ ((-100001) : Int32).toInt ≤ 2147483647 by decide), rfl⟩
    · have hP : va_P D vwCl [(h_paceAt, .inl (cI, 40, .inl f_paceAt)), (h_kindOf, .inl (cI, 4, .inl f_kindOf)), (h_behindAt, .inl (cI, 12, .inl f_behindAt)), (h0, .inr (10, vL 67 F1)), (h_s, .inl (cI, 335, .inl f_s))] H := hP
      have hD : va_D A [(h_paceAt, .inl (cI, 40, .inl f_paceAt)), (h_kindOf, .inl (cI, 4, .inl f_kindOf)), (h_behindAt, .inl (cI, 12, .inl f_behindAt)), (h0, .inr (10, vL 67 F1)), (h_s, .inl (cI, 335, .inl f_s))] := hD
      refine W.widen (k := 0) (n := 0) (Nat.le_of_ble_eq_true rfl) (Nat.le_of_ble_eq_true rfl) ?_
      have k13 : 1 ≤ p0.toInt ∧ p0.toInt ≤ 2147483647 := ⟨Int.le_trans (Int.le_refl _) t7, (ir_any _).2⟩
      have k14 : 100 ≤ p0.toInt ∧ p0.toInt ≤ 2147483647 := ⟨lo_lt t8 (Int.le_refl _) (by decide), k13.2⟩
      refine lv_if_eq (tgt := 36) hx hb dX10_kilo_19 (by decide) (fun _ => ?_) (fun g => absurd (by decide) g)
      refine lv_ldcw hx hb hown (hw _ q_1756) dX10_kilo_36 ?_
      exact ret_i (v := (-100001)) hx hb hr hlocks hS (hP.sub (ws' := [(h0, .inr (10, vL 67 F1)), (h_s, .inl (cI, 335, .inl f_s)), (h_paceAt, .inl (cI, 40, .inl f_paceAt)), (h_kindOf, .inl (cI, 4, .inl f_kindOf)), (h_behindAt, .inl (cI, 12, .inl f_behindAt))]) [3, 4, 0, 1, 2] rfl) (hD.sub (ws' := [(h0, .inr (10, vL 67 F1)), (h_s, .inl (cI, 335, .inl f_s)), (h_paceAt, .inl (cI, 40, .inl f_paceAt)), (h_kindOf, .inl (cI, 4, .inl f_kindOf)), (h_behindAt, .inl (cI, 12, .inl f_behindAt))]) [3, 4, 0, 1, 2] (by decide) rfl) dX10_kilo_39 rfl (Nat.le_of_ble_eq_true rfl) (Nat.le_of_ble_eq_true rfl) ⟨F1, x_lineTime, x_linePace, x_inside, x_late, x_seed, x_bendsGone, x_overAt, x_endPace, f_s, f_paceAt, f_kindOf, f_behindAt, (SAME.up eF1 SAME.rf (by decide)), (get_eq eF1), (get_ne eF1 (by decide) e_lineTime), (get_ne eF1 (by decide) e_linePace), (get_ne eF1 (by decide) e_inside), i_x_inside, (get_ne eF1 (by decide) e_late), i_x_late, (get_ne eF1 (by decide) e_seed), (get_ne eF1 (by decide) e_bendsGone), i_x_bendsGone, (get_ne eF1 (by decide) e_overAt), (get_ne eF1 (by decide) e_endPace), s_s_153, s_s_0, s_s_5, s_s_6, s_s_7, s_s_44, s_s_K0, s_s_105, s_s_114, s_s_130, s_s_139, s_s_US, (show (-2147483647) ≤ ((-100001) : Int32).toInt ∧ ((-100001) : Int32).toInt ≤ 2147483647 by decide), rfl⟩
    · have hP : va_P D vwCl [(h_paceAt, .inl (cI, 40, .inl f_paceAt)), (h_kindOf, .inl (cI, 4, .inl f_kindOf)), (h_behindAt, .inl (cI, 12, .inl f_behindAt)), (h0, .inr (10, vL 67 F1)), (h_s, .inl (cI, 335, .inl f_s))] H := hP
      have hD : va_D A [(h_paceAt, .inl (cI, 40, .inl f_paceAt)), (h_kindOf, .inl (cI, 4, .inl f_kindOf)), (h_behindAt, .inl (cI, 12, .inl f_behindAt)), (h0, .inr (10, vL 67 F1)), (h_s, .inl (cI, 335, .inl f_s))] := hD
      refine W.widen (k := 0) (n := 0) (Nat.le_of_ble_eq_true rfl) (Nat.le_of_ble_eq_true rfl) ?_
      have k15 : 1 ≤ p0.toInt ∧ p0.toInt ≤ 2147483647 := ⟨Int.le_trans (Int.le_refl _) t9, (ir_any _).2⟩
      have k16 : 1 ≤ p0.toInt ∧ p0.toInt ≤ 99 := ⟨k15.1, Int.le_trans t10 (Int.le_refl _)⟩
      refine lv_if_eq (tgt := 36) hx hb dX10_kilo_19 (by decide) (fun g => absurd g (by decide)) (fun _ => ?_)
      refine lv_aload_n hx hb dX10_kilo_22 rfl (lv_at hl 0 rfl) ?_
      refine get_f (D := D) (ci := 10) (v := .ref h_s) (C := RX10) (T := TX10) (N := 67) hx hb hw inAX10 hown hK hP 3 rfl rfl 6 (by decide) (hw _ q_1267) (fun _ h9 => h9) n2 dX10_kilo_23 ?_
      refine lv_bipush (v := 113) hx hb dX10_kilo_26 (by decide) ?_
      refine iald_n hx hb hK hP 4 0 rfl rfl 113 rfl (Nat.le_of_ble_eq_true rfl) (Nat.le_of_ble_eq_true rfl) rfl dX10_kilo_28 ?_
      refine lv_topi (fun v17 ev17 => ?_)
      refine lv_iload_n hx hb dX10_kilo_29 rfl (lv_at hl 1 rfl) ?_
      refine lv_iadd hx hb dX10_kilo_30 ?_
      refine lv_topi (fun v18 ev18 => ?_)
      refine lv_bipush (v := 99) hx hb dX10_kilo_31 (by decide) ?_
      refine lv_icmp_le (tgt := 40) hx hb dX10_kilo_33 (by decide) (fun c19 => ?_) (fun c19 => ?_)
      · have dc19 : v18.toInt ≤ 99 := le_i (a := v18.toInt) (b := 99) rfl rfl c19
        have k20 : (-2147483648) ≤ v18.toInt ∧ v18.toInt ≤ 99 := ⟨(ir_any _).1, Int.le_trans dc19 (Int.le_refl _)⟩
        refine lv_aload_n hx hb dX10_kilo_40 rfl (lv_at hl 0 rfl) ?_
        have n21 : F1 25 = .ref h_paceAt := (get_ne eF1 (by decide) e_paceAt)
        have n22 : F1 26 = .ref h_kindOf := (get_ne eF1 (by decide) e_kindOf)
        have n23 : F1 31 = .int x_seed := (get_ne eF1 (by decide) e_seed)
        have n24 : F1 32 = .int x_kicks := (get_ne eF1 (by decide) e_kicks)
        have n25 : F1 33 = .ref h_behindAt := (get_ne eF1 (by decide) e_behindAt)
        have n26 : F1 37 = .int x_touchBend := (get_ne eF1 (by decide) e_touchBend)
        have n27 : F1 38 = .int x_touchBy := (get_ne eF1 (by decide) e_touchBy)
        refine call_Vi (wr := []) (As := []) (rest := []) hx hb hml hown hw (m_X10_total l D cI cJ cB cP cM cZ h0 h_s h_paceAt h_kindOf h_behindAt F1 x_seed x_kicks x_touchBend x_touchBy f_s f_paceAt f_kindOf f_behindAt bs _ n2 n21 n22 n23 n24 i_x_kicks n25 n26 n27 i_x_touchBy s_s_K0 s_s_US s_s_0 s_s_105 s_s_114 s_s_130 s_s_139 s_s_153 s_s_44 s_s_5 s_s_6 s_s_7) wV_X10_368_X10_total dX10_kilo_41 hK hP hD hS hA [3, 4, 0, 1, 2] [] rfl rfl (by decide) (by decide) (by decide) 0 10 rfl rfl GG.fb hG.at hl.1 rfl (Nat.le_of_ble_eq_true rfl) ⟨(Nat.le_of_ble_eq_true rfl), (Nat.le_of_ble_eq_true rfl)⟩ ⟨(Nat.le_of_ble_eq_true rfl), (Nat.le_of_ble_eq_true rfl)⟩ (fun r28 u H locs hp hP hD hS => ?_)
        refine hp.elim (fun F29 h9z0 => h9z0.elim (fun y30 h9z1 => h9z1.elim (fun y31 h9z2 => h9z2.elim (fun y32 h9z3 => h9z3.elim (fun y33 h9z4 => h9z4.elim (fun y34 h9z5 => h9z5.elim (fun y35 h9z6 => h9z6.elim (fun y36 h9z7 => h9z7.elim (fun y37 h9z8 => h9z8.elim (fun g38 h9z9 => h9z9.elim (fun g39 h9z10 => h9z10.elim (fun g40 h9z11 => h9z11.elim (fun t41 h9z12 => h9z12.elim (fun t42 h9z13 => h9z13.elim (fun t43 h9z14 => h9z14.elim (fun t44 h9z15 => h9z15.elim (fun t45 h9z16 => h9z16.elim (fun t46 h9z17 => h9z17.elim (fun t47 h9z18 => h9z18.elim (fun t48 h9z19 => h9z19.elim (fun t49 h9z20 => h9z20.elim (fun t50 h9z21 => h9z21.elim (fun t51 h9z22 => h9z22.elim (fun t52 h9z23 => h9z23.elim (fun t53 h9z24 => h9z24.elim (fun t54 h9z25 => ?_))))))))))))))))))))))))))
        clear h9z0 h9z1 h9z2 h9z3 h9z4 h9z5 h9z6 h9z7 h9z8 h9z9 h9z10 h9z11 h9z12 h9z13 h9z14 h9z15 h9z16 h9z17 h9z18 h9z19 h9z20 h9z21 h9z22 h9z23 h9z24
        subst h9z25
        have hP : va_P D vwCl [(h0, .inr (10, vL 67 F29)), (h_s, .inl (cI, 335, .inl f_s)), (h_paceAt, .inl (cI, 40, .inl g38)), (h_kindOf, .inl (cI, 4, .inl g39)), (h_behindAt, .inl (cI, 12, .inl g40))] H := hP
        have hD : va_D A [(h0, .inr (10, vL 67 F29)), (h_s, .inl (cI, 335, .inl f_s)), (h_paceAt, .inl (cI, 40, .inl g38)), (h_kindOf, .inl (cI, 4, .inl g39)), (h_behindAt, .inl (cI, 12, .inl g40))] := hD
        refine W.widen (k := 0) (n := 0) (Nat.le_of_ble_eq_true rfl) (Nat.le_of_ble_eq_true rfl) ?_
        refine lv_aload_n hx hb dX10_kilo_44 rfl (lv_at hl 0 rfl) ?_
        refine lv_bipush (v := 113) hx hb dX10_kilo_45 (by decide) ?_
        refine lv_aload_n hx hb dX10_kilo_47 rfl (lv_at hl 0 rfl) ?_
        have n56 : F29 6 = .ref h_s := (SAME.at t41 (by decide) n2)
        refine get_f (D := D) (ci := 10) (v := .ref h_s) (C := RX10) (T := TX10) (N := 67) hx hb hw inAX10 hown hK hP 0 rfl rfl 6 (by decide) (hw _ q_1267) (fun _ h9 => h9) n56 dX10_kilo_48 ?_
        refine lv_bipush (v := 113) hx hb dX10_kilo_51 (by decide) ?_
        refine iald_n hx hb hK hP 1 0 rfl rfl 113 rfl (Nat.le_of_ble_eq_true rfl) (Nat.le_of_ble_eq_true rfl) rfl dX10_kilo_53 ?_
        refine lv_ci (y := v17) ev17.symm ?_
        refine lv_iload_n hx hb dX10_kilo_54 rfl (lv_at hl 1 rfl) ?_
        refine lv_iadd hx hb dX10_kilo_55 ?_
        refine lv_ci (y := v18) ev18.symm ?_
        have n57 : F29 25 = .ref h_paceAt := (SAME.at t41 (by decide) n21)
        have n58 : F29 26 = .ref h_kindOf := (SAME.at t41 (by decide) n22)
        have n59 : F29 32 = .int x_kicks := (SAME.at t41 (by decide) n24)
        have n60 : F29 33 = .ref h_behindAt := (SAME.at t41 (by decide) n25)
        have n61 : F29 37 = .int x_touchBend := (SAME.at t41 (by decide) n26)
        have n62 : F29 38 = .int x_touchBy := (SAME.at t41 (by decide) n27)
        refine call_Vi (wr := []) (As := [.int 113, .int v18]) (rest := [.int r28]) hx hb hml hown hw (m_X10_timeWith l D cI cJ cB cP cM cZ h0 h_s h_paceAt h_kindOf h_behindAt F29 y34 x_kicks x_touchBend x_touchBy f_s g38 g39 g40 113 v18 bs _ n56 n57 n58 t49 n59 i_x_kicks n60 n61 n62 i_x_touchBy s_s_K0 s_s_US s_s_0 s_s_105 s_s_114 s_s_130 s_s_139 s_s_153 s_s_44 s_s_5 s_s_6 s_s_7 (show 113 ≤ (113 : Int32).toInt ∧ (113 : Int32).toInt ≤ 115 by decide) (by have z0 : (113 : Int32).toInt = 113 := rfl; omega)) wV_X10_429_X10_timeWith dX10_kilo_56 hK hP hD hS hA [0, 1, 2, 3, 4] [] rfl rfl (by decide) (by decide) (by decide) 0 10 rfl rfl GG.fb hG.at hl.1 rfl (Nat.le_of_ble_eq_true rfl) ⟨(Nat.le_of_ble_eq_true rfl), (Nat.le_of_ble_eq_true rfl)⟩ ⟨(Nat.le_of_ble_eq_true rfl), (Nat.le_of_ble_eq_true rfl)⟩ (fun r63 u H locs hp hP hD hS => ?_)
        have zl113 : (113 : Int32).toInt = 113 := by decide
        refine hp.elim (fun F64 h9z0 => h9z0.elim (fun y65 h9z1 => h9z1.elim (fun y66 h9z2 => h9z2.elim (fun y67 h9z3 => h9z3.elim (fun y68 h9z4 => h9z4.elim (fun y69 h9z5 => h9z5.elim (fun y70 h9z6 => h9z6.elim (fun y71 h9z7 => h9z7.elim (fun y72 h9z8 => h9z8.elim (fun g73 h9z9 => h9z9.elim (fun g74 h9z10 => h9z10.elim (fun g75 h9z11 => h9z11.elim (fun g76 h9z12 => h9z12.elim (fun t77 h9z13 => h9z13.elim (fun t78 h9z14 => h9z14.elim (fun t79 h9z15 => h9z15.elim (fun t80 h9z16 => h9z16.elim (fun t81 h9z17 => h9z17.elim (fun t82 h9z18 => h9z18.elim (fun t83 h9z19 => h9z19.elim (fun t84 h9z20 => h9z20.elim (fun t85 h9z21 => h9z21.elim (fun t86 h9z22 => h9z22.elim (fun t87 h9z23 => h9z23.elim (fun t88 h9z24 => h9z24.elim (fun t89 h9z25 => h9z25.elim (fun t90 h9z26 => h9z26.elim (fun t91 h9z27 => h9z27.elim (fun t92 h9z28 => h9z28.elim (fun t93 h9z29 => h9z29.elim (fun t94 h9z30 => h9z30.elim (fun t95 h9z31 => h9z31.elim (fun t96 h9z32 => h9z32.elim (fun t97 h9z33 => h9z33.elim (fun t98 h9z34 => h9z34.elim (fun t99 h9z35 => h9z35.elim (fun t100 h9z36 => h9z36.elim (fun t101 h9z37 => h9z37.elim (fun t102 h9z38 => ?_)))))))))))))))))))))))))))))))))))))))
        clear h9z0 h9z1 h9z2 h9z3 h9z4 h9z5 h9z6 h9z7 h9z8 h9z9 h9z10 h9z11 h9z12 h9z13 h9z14 h9z15 h9z16 h9z17 h9z18 h9z19 h9z20 h9z21 h9z22 h9z23 h9z24 h9z25 h9z26 h9z27 h9z28 h9z29 h9z30 h9z31 h9z32 h9z33 h9z34 h9z35 h9z36 h9z37
        subst h9z38
        have hP : va_P D vwCl [(h0, .inr (10, vL 67 F64)), (h_s, .inl (cI, 335, .inl g73)), (h_paceAt, .inl (cI, 40, .inl g74)), (h_kindOf, .inl (cI, 4, .inl g75)), (h_behindAt, .inl (cI, 12, .inl g76))] H := hP
        have hD : va_D A [(h0, .inr (10, vL 67 F64)), (h_s, .inl (cI, 335, .inl g73)), (h_paceAt, .inl (cI, 40, .inl g74)), (h_kindOf, .inl (cI, 4, .inl g75)), (h_behindAt, .inl (cI, 12, .inl g76))] := hD
        refine W.widen (k := 0) (n := 0) (Nat.le_of_ble_eq_true rfl) (Nat.le_of_ble_eq_true rfl) ?_
        refine call_Si (wr := [(h0, .inr (10, vL 67 F64)), (h_s, .inl (cI, 335, .inl g73)), (h_paceAt, .inl (cI, 40, .inl g74)), (h_kindOf, .inl (cI, 4, .inl g75)), (h_behindAt, .inl (cI, 12, .inl g76))]) (As := [.int r28, .int r63]) (rest := []) hx hb hml hown hw (m_X10_less l D cI cJ cB cP cM cZ r28 r63 _ ) wS_X10_432_X10_less dX10_kilo_59 hP hD hS hA [] [0, 1, 2, 3, 4] rfl rfl (by decide) (by decide) (by decide) GG.fb hG.at hl.1 rfl (Nat.le_of_ble_eq_true rfl) ⟨(Nat.le_of_ble_eq_true rfl), (Nat.le_of_ble_eq_true rfl)⟩ ⟨(Nat.le_of_ble_eq_true rfl), (Nat.le_of_ble_eq_true rfl)⟩ (fun r104 u H locs hp hP hD hS => ?_)
        obtain ⟨t105, rfl⟩ := hp
        have hP : va_P D vwCl [(h0, .inr (10, vL 67 F64)), (h_s, .inl (cI, 335, .inl g73)), (h_paceAt, .inl (cI, 40, .inl g74)), (h_kindOf, .inl (cI, 4, .inl g75)), (h_behindAt, .inl (cI, 12, .inl g76))] H := hP
        have hD : va_D A [(h0, .inr (10, vL 67 F64)), (h_s, .inl (cI, 335, .inl g73)), (h_paceAt, .inl (cI, 40, .inl g74)), (h_kindOf, .inl (cI, 4, .inl g75)), (h_behindAt, .inl (cI, 12, .inl g76))] := hD
        refine W.widen (k := 0) (n := 0) (Nat.le_of_ble_eq_true rfl) (Nat.le_of_ble_eq_true rfl) ?_
        exact ret_i (v := r104) hx hb hr hlocks hS hP hD dX10_kilo_62 rfl (Nat.le_of_ble_eq_true rfl) (Nat.le_of_ble_eq_true rfl) ⟨F64, y65, y66, y67, y68, y69, y70, y71, y72, g73, g74, g75, g76, (SAME.tr (SAME.tr (SAME.up eF1 SAME.rf (by decide)) t41 (by decide)) t77 (by decide)), (SAME.at t77 (by decide) (SAME.at t41 (by decide) (get_eq eF1))), t78, t79, t81, t82, t83, t84, t85, t86, t87, t88, t90, t91, t92, t93, t94, t95, t96, t97, t98, t99, t100, t101, t102, t105, rfl⟩
      · have dc19 : 99 < v18.toInt := nle_i (a := v18.toInt) (b := 99) rfl rfl c19
        have k107 : 100 ≤ v18.toInt ∧ v18.toInt ≤ 2147483647 := ⟨lo_lt dc19 (Int.le_refl _) (by decide), (ir_any _).2⟩
        refine lv_ldcw hx hb hown (hw _ q_1756) dX10_kilo_36 ?_
        exact ret_i (v := (-100001)) hx hb hr hlocks hS (hP.sub (ws' := [(h0, .inr (10, vL 67 F1)), (h_s, .inl (cI, 335, .inl f_s)), (h_paceAt, .inl (cI, 40, .inl f_paceAt)), (h_kindOf, .inl (cI, 4, .inl f_kindOf)), (h_behindAt, .inl (cI, 12, .inl f_behindAt))]) [3, 4, 0, 1, 2] rfl) (hD.sub (ws' := [(h0, .inr (10, vL 67 F1)), (h_s, .inl (cI, 335, .inl f_s)), (h_paceAt, .inl (cI, 40, .inl f_paceAt)), (h_kindOf, .inl (cI, 4, .inl f_kindOf)), (h_behindAt, .inl (cI, 12, .inl f_behindAt))]) [3, 4, 0, 1, 2] (by decide) rfl) dX10_kilo_39 rfl (Nat.le_of_ble_eq_true rfl) (Nat.le_of_ble_eq_true rfl) ⟨F1, x_lineTime, x_linePace, x_inside, x_late, x_seed, x_bendsGone, x_overAt, x_endPace, f_s, f_paceAt, f_kindOf, f_behindAt, (SAME.up eF1 SAME.rf (by decide)), (get_eq eF1), (get_ne eF1 (by decide) e_lineTime), (get_ne eF1 (by decide) e_linePace), (get_ne eF1 (by decide) e_inside), i_x_inside, (get_ne eF1 (by decide) e_late), i_x_late, (get_ne eF1 (by decide) e_seed), (get_ne eF1 (by decide) e_bendsGone), i_x_bendsGone, (get_ne eF1 (by decide) e_overAt), (get_ne eF1 (by decide) e_endPace), s_s_153, s_s_0, s_s_5, s_s_6, s_s_7, s_s_44, s_s_K0, s_s_105, s_s_114, s_s_130, s_s_139, s_s_US, (show (-2147483647) ≤ ((-100001) : Int32).toInt ∧ ((-100001) : Int32).toInt ≤ 2147483647 by decide), rfl⟩
set_option maxHeartbeats 4000000 in
set_option maxRecDepth 100000 in
theorem m_X10_runners (l : Launch) (D : va_G) (cI cJ cB cP cM cZ : ClassId) (h0 : Nat) (h_s : Nat) (h_paceAt : Nat) (h_kindOf : Nat) (h_behindAt : Nat) (Fh : Nat → Value) (x_lineTime : Int32) (x_linePace : Int32) (x_inside : Int32) (x_late : Int32) (x_seed : Int32) (x_kicks : Int32) (x_bendsGone : Int32) (x_overAt : Int32) (x_endPace : Int32) (x_touchBend : Int32) (x_touchBy : Int32) (f_s : Nat → Int32) (f_paceAt : Nat → Int32) (f_kindOf : Nat → Int32) (f_behindAt : Nat → Int32) (bs : Nat → Int32) (sz : Nat) (e_s : Fh 6 = .ref h_s) (e_paceAt : Fh 25 = .ref h_paceAt) (e_kindOf : Fh 26 = .ref h_kindOf) (e_lineTime : Fh 27 = .int x_lineTime) (e_linePace : Fh 28 = .int x_linePace) (e_inside : Fh 29 = .int x_inside) (i_x_inside : IR 0 15 x_inside) (e_late : Fh 30 = .int x_late) (i_x_late : IR 0 15 x_late) (e_seed : Fh 31 = .int x_seed) (e_kicks : Fh 32 = .int x_kicks) (i_x_kicks : IR 0 1 x_kicks) (e_behindAt : Fh 33 = .ref h_behindAt) (e_bendsGone : Fh 34 = .int x_bendsGone) (i_x_bendsGone : IR 0 12 x_bendsGone) (e_overAt : Fh 35 = .int x_overAt) (e_endPace : Fh 36 = .int x_endPace) (e_touchBend : Fh 37 = .int x_touchBend) (e_touchBy : Fh 38 = .int x_touchBy) (i_x_touchBy : IR 0 99 x_touchBy) (s_s_K0 : KW 0 f_s) (s_s_US : US bs f_s) (s_s_0 : SG 0 0 0 40 f_s) (s_s_105 : SG 105 108 0 11 f_s) (s_s_114 : SG 114 114 0 5 f_s) (s_s_130 : SG 130 133 0 11 f_s) (s_s_139 : SG 139 139 0 5 f_s) (s_s_153 : SG 153 153 0 44 f_s) (s_s_44 : SG 44 55 0 9 f_s) (s_s_5 : SG 5 5 0 12 f_s) (s_s_6 : SG 6 6 0 12 f_s) (s_s_7 : SG 7 7 0 6 f_s) : CI l yX10_runners cX10_runners 5 (some .int) { frames := 6, cells := 0, slots := 0, locals := 139 } (GG D cI cJ cB cP cM cZ) D [(h0, .inr (10, vL 67 Fh)), (h_s, .inl (cI, 335, .inl f_s)), (h_paceAt, .inl (cI, 40, .inl f_paceAt)), (h_kindOf, .inl (cI, 4, .inl f_kindOf)), (h_behindAt, .inl (cI, 12, .inl f_behindAt))] sz [.ref h0] (fun (r : Int32) (u : va_W) => ∃ (Gh : Nat → Value) (y_lineTime : Int32) (y_linePace : Int32) (y_inside : Int32) (y_late : Int32) (y_seed : Int32) (y_bendsGone : Int32) (y_overAt : Int32) (y_endPace : Int32) (g_s : Nat → Int32) (g_paceAt : Nat → Int32) (g_kindOf : Nat → Int32) (g_behindAt : Nat → Int32), SAME [0, 27, 28, 29, 30, 31, 34, 35, 36] Fh Gh ∧ Gh 0 = .int 0 ∧ Gh 27 = .int y_lineTime ∧ Gh 28 = .int y_linePace ∧ Gh 29 = .int y_inside ∧ IR 0 15 y_inside ∧ Gh 30 = .int y_late ∧ IR 0 15 y_late ∧ Gh 31 = .int y_seed ∧ Gh 34 = .int y_bendsGone ∧ IR 0 12 y_bendsGone ∧ Gh 35 = .int y_overAt ∧ Gh 36 = .int y_endPace ∧ SG 153 153 0 44 g_s ∧ SG 0 0 0 40 g_s ∧ SG 5 5 0 12 g_s ∧ SG 6 6 0 12 g_s ∧ SG 7 7 0 6 g_s ∧ SG 44 55 0 9 g_s ∧ KW 0 g_s ∧ SG 105 108 0 11 g_s ∧ SG 114 114 0 5 g_s ∧ SG 130 133 0 11 g_s ∧ SG 139 139 0 5 g_s ∧ US bs g_s ∧ IR (-1) 6 r ∧ u = [(h0, .inr (10, vL 67 Gh)), (h_s, .inl (cI, 335, .inl g_s)), (h_paceAt, .inl (cI, 40, .inl g_paceAt)), (h_kindOf, .inl (cI, 4, .inl g_kindOf)), (h_behindAt, .inl (cI, 12, .inl g_behindAt))]) := by
  refine CI_mk (by decide) (Nat.le_of_ble_eq_true rfl) ?_
  intro p e s m below meth c A ls E hAe hG hsz hP hD hA hS hl
  obtain ⟨hx, hb, hr, hw, hown, hlocks, hml, hnm⟩ := E
  have hK := hG.1
  have i_x_inside : 0 ≤ x_inside.toInt ∧ x_inside.toInt ≤ 15 := i_x_inside
  have i_x_late : 0 ≤ x_late.toInt ∧ x_late.toInt ≤ 15 := i_x_late
  have i_x_kicks : 0 ≤ x_kicks.toInt ∧ x_kicks.toInt ≤ 1 := i_x_kicks
  have i_x_bendsGone : 0 ≤ x_bendsGone.toInt ∧ x_bendsGone.toInt ≤ 12 := i_x_bendsGone
  have i_x_touchBy : 0 ≤ x_touchBy.toInt ∧ x_touchBy.toInt ≤ 99 := i_x_touchBy
  have hl : lv_has ls 5 [(0, .ref h0)] := hl
  refine lv_aload_n hx hb dX10_runners_0 rfl (lv_at hl 0 rfl) ?_
  refine lv_iconst (v := 0) hx hb dX10_runners_1 (by decide) ?_
  refine put_f (D := D) (ci := 10) (v := .int 0) (ty := .int) (C := RX10) (T := TX10) (N := 67) hx hb hw inAX10 tyX10 tyX10_ok nmX10 hown hK hP hD hS 0 rfl rfl 0 (by decide) (hw _ q_1261) (fun _ h9 => h9) rfl (by decide +kernel) rfl rfl dX10_runners_2 (fun H locs F1 eF1 hP hD hS => ?_)
  have hP : va_P D vwCl [(h0, .inr (10, vL 67 F1)), (h_s, .inl (cI, 335, .inl f_s)), (h_paceAt, .inl (cI, 40, .inl f_paceAt)), (h_kindOf, .inl (cI, 4, .inl f_kindOf)), (h_behindAt, .inl (cI, 12, .inl f_behindAt))] H := hP
  have hD : va_D A [(h0, .inr (10, vL 67 F1)), (h_s, .inl (cI, 335, .inl f_s)), (h_paceAt, .inl (cI, 40, .inl f_paceAt)), (h_kindOf, .inl (cI, 4, .inl f_kindOf)), (h_behindAt, .inl (cI, 12, .inl f_behindAt))] := hD
  refine lv_aload_n hx hb dX10_runners_5 rfl (lv_at hl 0 rfl) ?_
  have n2 : F1 6 = .ref h_s := (get_ne eF1 (by decide) e_s)
  refine call_Vi (wr := [(h_paceAt, .inl (cI, 40, .inl f_paceAt)), (h_kindOf, .inl (cI, 4, .inl f_kindOf)), (h_behindAt, .inl (cI, 12, .inl f_behindAt))]) (As := []) (rest := []) hx hb hml hown hw (m_X10_hasCrew l D cI cJ cB cP cM cZ h0 h_s F1 f_s bs _ n2 s_s_K0 s_s_US s_s_0 s_s_105 s_s_114 s_s_130 s_s_139 s_s_153 s_s_44 s_s_5 s_s_6 s_s_7) wV_X10_281_X10_hasCrew dX10_runners_6 hK hP hD hS hA [0, 1] [2, 3, 4] rfl rfl (by decide) (by decide) (by decide) 0 10 rfl rfl GG.fb hG.at hl.1 rfl (Nat.le_of_ble_eq_true rfl) ⟨(Nat.le_of_ble_eq_true rfl), (Nat.le_of_ble_eq_true rfl)⟩ ⟨(Nat.le_of_ble_eq_true rfl), (Nat.le_of_ble_eq_true rfl)⟩ (fun r3 u H locs hp hP hD hS => ?_)
  rcases hp with ⟨rfl, rfl⟩ | ⟨rfl, rfl⟩
  · have hP : va_P D vwCl [(h_paceAt, .inl (cI, 40, .inl f_paceAt)), (h_kindOf, .inl (cI, 4, .inl f_kindOf)), (h_behindAt, .inl (cI, 12, .inl f_behindAt)), (h0, .inr (10, vL 67 F1)), (h_s, .inl (cI, 335, .inl f_s))] H := hP
    have hD : va_D A [(h_paceAt, .inl (cI, 40, .inl f_paceAt)), (h_kindOf, .inl (cI, 4, .inl f_kindOf)), (h_behindAt, .inl (cI, 12, .inl f_behindAt)), (h0, .inr (10, vL 67 F1)), (h_s, .inl (cI, 335, .inl f_s))] := hD
    refine W.widen (k := 0) (n := 0) (Nat.le_of_ble_eq_true rfl) (Nat.le_of_ble_eq_true rfl) ?_
    refine lv_if_ne (tgt := 14) hx hb dX10_runners_9 (by decide) (fun g => absurd (by decide) g) (fun _ => ?_)
    refine lv_iconst (v := (-1)) hx hb dX10_runners_12 (by decide) ?_
    exact ret_i (v := (-1)) hx hb hr hlocks hS (hP.sub (ws' := [(h0, .inr (10, vL 67 F1)), (h_s, .inl (cI, 335, .inl f_s)), (h_paceAt, .inl (cI, 40, .inl f_paceAt)), (h_kindOf, .inl (cI, 4, .inl f_kindOf)), (h_behindAt, .inl (cI, 12, .inl f_behindAt))]) [3, 4, 0, 1, 2] rfl) (hD.sub (ws' := [(h0, .inr (10, vL 67 F1)), (h_s, .inl (cI, 335, .inl f_s)), (h_paceAt, .inl (cI, 40, .inl f_paceAt)), (h_kindOf, .inl (cI, 4, .inl f_kindOf)), (h_behindAt, .inl (cI, 12, .inl f_behindAt))]) [3, 4, 0, 1, 2] (by decide) rfl) dX10_runners_13 rfl (Nat.le_of_ble_eq_true rfl) (Nat.le_of_ble_eq_true rfl) ⟨F1, x_lineTime, x_linePace, x_inside, x_late, x_seed, x_bendsGone, x_overAt, x_endPace, f_s, f_paceAt, f_kindOf, f_behindAt, (SAME.up eF1 SAME.rf (by decide)), (get_eq eF1), (get_ne eF1 (by decide) e_lineTime), (get_ne eF1 (by decide) e_linePace), (get_ne eF1 (by decide) e_inside), i_x_inside, (get_ne eF1 (by decide) e_late), i_x_late, (get_ne eF1 (by decide) e_seed), (get_ne eF1 (by decide) e_bendsGone), i_x_bendsGone, (get_ne eF1 (by decide) e_overAt), (get_ne eF1 (by decide) e_endPace), s_s_153, s_s_0, s_s_5, s_s_6, s_s_7, s_s_44, s_s_K0, s_s_105, s_s_114, s_s_130, s_s_139, s_s_US, (show (-1) ≤ ((-1) : Int32).toInt ∧ ((-1) : Int32).toInt ≤ 6 by decide), rfl⟩
  · have hP : va_P D vwCl [(h_paceAt, .inl (cI, 40, .inl f_paceAt)), (h_kindOf, .inl (cI, 4, .inl f_kindOf)), (h_behindAt, .inl (cI, 12, .inl f_behindAt)), (h0, .inr (10, vL 67 F1)), (h_s, .inl (cI, 335, .inl f_s))] H := hP
    have hD : va_D A [(h_paceAt, .inl (cI, 40, .inl f_paceAt)), (h_kindOf, .inl (cI, 4, .inl f_kindOf)), (h_behindAt, .inl (cI, 12, .inl f_behindAt)), (h0, .inr (10, vL 67 F1)), (h_s, .inl (cI, 335, .inl f_s))] := hD
    refine W.widen (k := 0) (n := 0) (Nat.le_of_ble_eq_true rfl) (Nat.le_of_ble_eq_true rfl) ?_
    refine lv_if_ne (tgt := 14) hx hb dX10_runners_9 (by decide) (fun _ => ?_) (fun g => absurd g (by decide))
    refine lv_iconst (v := (-1)) hx hb dX10_runners_14 (by decide) ?_
    refine lv_istore_n (lv' := [(1, .int (-1)), (0, .ref h0)]) hx hb dX10_runners_15 rfl hl (by decide) rfl (fun ls hl => ?_)
    refine lv_ldcw hx hb hown (hw _ q_1701) dX10_runners_16 ?_
    refine lv_istore_n (lv' := [(2, .int 100000000), (1, .int (-1)), (0, .ref h0)]) hx hb dX10_runners_19 rfl hl (by decide) rfl (fun ls hl => ?_)
    refine lv_iconst (v := 0) hx hb dX10_runners_20 (by decide) ?_
    refine lv_istore_n (lv' := [(3, .int 0), (2, .int 100000000), (1, .int (-1)), (0, .ref h0)]) hx hb dX10_runners_21 rfl hl (by decide) rfl (fun ls hl => ?_)
    have n21 : F1 27 = .int x_lineTime := (get_ne eF1 (by decide) e_lineTime)
    have n22 : F1 28 = .int x_linePace := (get_ne eF1 (by decide) e_linePace)
    have n23 : F1 29 = .int x_inside := (get_ne eF1 (by decide) e_inside)
    have n24 : F1 30 = .int x_late := (get_ne eF1 (by decide) e_late)
    have n25 : F1 31 = .int x_seed := (get_ne eF1 (by decide) e_seed)
    have n26 : F1 34 = .int x_bendsGone := (get_ne eF1 (by decide) e_bendsGone)
    have n27 : F1 35 = .int x_overAt := (get_ne eF1 (by decide) e_overAt)
    have n28 : F1 36 = .int x_endPace := (get_ne eF1 (by decide) e_endPace)
    refine mloop (α := (Int32) × (Int32) × (Int32) × (Nat → Int32) × (Nat → Int32) × (Nat → Int32) × (Nat → Value) × (Int32) × (Int32) × (Int32) × (Int32) × (Int32) × (Int32) × (Int32) × (Int32) × (Nat → Int32)) (nL := 5) (D := D) (A := A) (H0 := s.heap) (fun a => (6 - a.1.toInt).toNat) (fun a => IR 0 6 a.1 ∧ IR 0 100000000 a.2.1 ∧ IR (-1) 6 a.2.2.1 ∧ SAME [27, 28, 29, 30, 31, 34, 35, 36] F1 a.2.2.2.2.2.2.1 ∧ a.2.2.2.2.2.2.1 27 = .int a.2.2.2.2.2.2.2.1 ∧ a.2.2.2.2.2.2.1 28 = .int a.2.2.2.2.2.2.2.2.1 ∧ a.2.2.2.2.2.2.1 29 = .int a.2.2.2.2.2.2.2.2.2.1 ∧ a.2.2.2.2.2.2.1 30 = .int a.2.2.2.2.2.2.2.2.2.2.1 ∧ a.2.2.2.2.2.2.1 31 = .int a.2.2.2.2.2.2.2.2.2.2.2.1 ∧ a.2.2.2.2.2.2.1 34 = .int a.2.2.2.2.2.2.2.2.2.2.2.2.1 ∧ a.2.2.2.2.2.2.1 35 = .int a.2.2.2.2.2.2.2.2.2.2.2.2.2.1 ∧ a.2.2.2.2.2.2.1 36 = .int a.2.2.2.2.2.2.2.2.2.2.2.2.2.2.1 ∧ IR 0 15 a.2.2.2.2.2.2.2.2.2.1 ∧ IR 0 15 a.2.2.2.2.2.2.2.2.2.2.1 ∧ IR 0 12 a.2.2.2.2.2.2.2.2.2.2.2.2.1 ∧ KW 0 a.2.2.2.2.2.2.2.2.2.2.2.2.2.2.2 ∧ US bs a.2.2.2.2.2.2.2.2.2.2.2.2.2.2.2 ∧ SG 0 0 0 40 a.2.2.2.2.2.2.2.2.2.2.2.2.2.2.2 ∧ SG 105 108 0 11 a.2.2.2.2.2.2.2.2.2.2.2.2.2.2.2 ∧ SG 114 114 0 5 a.2.2.2.2.2.2.2.2.2.2.2.2.2.2.2 ∧ SG 130 133 0 11 a.2.2.2.2.2.2.2.2.2.2.2.2.2.2.2 ∧ SG 139 139 0 5 a.2.2.2.2.2.2.2.2.2.2.2.2.2.2.2 ∧ SG 153 153 0 44 a.2.2.2.2.2.2.2.2.2.2.2.2.2.2.2 ∧ SG 44 55 0 9 a.2.2.2.2.2.2.2.2.2.2.2.2.2.2.2 ∧ SG 5 5 0 12 a.2.2.2.2.2.2.2.2.2.2.2.2.2.2.2 ∧ SG 6 6 0 12 a.2.2.2.2.2.2.2.2.2.2.2.2.2.2.2 ∧ SG 7 7 0 6 a.2.2.2.2.2.2.2.2.2.2.2.2.2.2.2) (fun a => [(h_paceAt, .inl (cI, 40, .inl a.2.2.2.1)), (h_kindOf, .inl (cI, 4, .inl a.2.2.2.2.1)), (h_behindAt, .inl (cI, 12, .inl a.2.2.2.2.2.1)), (h0, .inr (10, vL 67 a.2.2.2.2.2.2.1)), (h_s, .inl (cI, 335, .inl a.2.2.2.2.2.2.2.2.2.2.2.2.2.2.2))]) (fun a => [(3, .int a.1), (2, .int a.2.1), (1, .int a.2.2.1), (0, .ref h0)]) (fun H locs ls => W p l e ({ frames := 6, cells := 0, slots := 0, locals := 139 } : Room) s m [.ref h0].toArray below meth c H locs 0 0 (MQ below (va_Qi (fun (r : Int32) (u : va_W) => ∃ (Gh : Nat → Value) (y_lineTime : Int32) (y_linePace : Int32) (y_inside : Int32) (y_late : Int32) (y_seed : Int32) (y_bendsGone : Int32) (y_overAt : Int32) (y_endPace : Int32) (g_s : Nat → Int32) (g_paceAt : Nat → Int32) (g_kindOf : Nat → Int32) (g_behindAt : Nat → Int32), SAME [0, 27, 28, 29, 30, 31, 34, 35, 36] Fh Gh ∧ Gh 0 = .int 0 ∧ Gh 27 = .int y_lineTime ∧ Gh 28 = .int y_linePace ∧ Gh 29 = .int y_inside ∧ IR 0 15 y_inside ∧ Gh 30 = .int y_late ∧ IR 0 15 y_late ∧ Gh 31 = .int y_seed ∧ Gh 34 = .int y_bendsGone ∧ IR 0 12 y_bendsGone ∧ Gh 35 = .int y_overAt ∧ Gh 36 = .int y_endPace ∧ SG 153 153 0 44 g_s ∧ SG 0 0 0 40 g_s ∧ SG 5 5 0 12 g_s ∧ SG 6 6 0 12 g_s ∧ SG 7 7 0 6 g_s ∧ SG 44 55 0 9 g_s ∧ KW 0 g_s ∧ SG 105 108 0 11 g_s ∧ SG 114 114 0 5 g_s ∧ SG 130 133 0 11 g_s ∧ SG 139 139 0 5 g_s ∧ US bs g_s ∧ IR (-1) 6 r ∧ u = [(h0, .inr (10, vL 67 Gh)), (h_s, .inl (cI, 335, .inl g_s)), (h_paceAt, .inl (cI, 40, .inl g_paceAt)), (h_kindOf, .inl (cI, 4, .inl g_kindOf)), (h_behindAt, .inl (cI, 12, .inl g_behindAt))]) (PO D A) A) [.ref h0].toArray s 0 0 A) (F0 m 22 ls [])) ?_ (0, 100000000, (-1), f_paceAt, f_kindOf, f_behindAt, F1, x_lineTime, x_linePace, x_inside, x_late, x_seed, x_bendsGone, x_overAt, x_endPace, f_s) ⟨(show 0 ≤ (0 : Int32).toInt ∧ (0 : Int32).toInt ≤ 6 by decide), (show 0 ≤ (100000000 : Int32).toInt ∧ (100000000 : Int32).toInt ≤ 100000000 by decide), (show (-1) ≤ ((-1) : Int32).toInt ∧ ((-1) : Int32).toInt ≤ 6 by decide), SAME.rf, n21, n22, n23, n24, n25, n26, n27, n28, i_x_inside, i_x_late, i_x_bendsGone, s_s_K0, s_s_US, s_s_0, s_s_105, s_s_114, s_s_130, s_s_139, s_s_153, s_s_44, s_s_5, s_s_6, s_s_7⟩ _ _ _ hP hD hS hl
    rintro ⟨u5, u6, u7, w8, w9, w10, G11, u12, u13, u14, u15, u16, u17, u18, u19, w20⟩ ⟨i29, i30, i31, i32, i33, i34, i35, i36, i37, i38, i39, i40, i41, i42, i43, i44, i45, i46, i47, i48, i49, i50, i51, i52, i53, i54, i55⟩ ih H locs ls hP hD hS hl
    have i29 : 0 ≤ u5.toInt ∧ u5.toInt ≤ 6 := i29
    have i30 : 0 ≤ u6.toInt ∧ u6.toInt ≤ 100000000 := i30
    have i31 : (-1) ≤ u7.toInt ∧ u7.toInt ≤ 6 := i31
    have i41 : 0 ≤ u14.toInt ∧ u14.toInt ≤ 15 := i41
    have i42 : 0 ≤ u15.toInt ∧ u15.toInt ≤ 15 := i42
    have i43 : 0 ≤ u17.toInt ∧ u17.toInt ≤ 12 := i43
    have hP : va_P D vwCl [(h_paceAt, .inl (cI, 40, .inl w8)), (h_kindOf, .inl (cI, 4, .inl w9)), (h_behindAt, .inl (cI, 12, .inl w10)), (h0, .inr (10, vL 67 G11)), (h_s, .inl (cI, 335, .inl w20))] H := hP
    have hD : va_D A [(h_paceAt, .inl (cI, 40, .inl w8)), (h_kindOf, .inl (cI, 4, .inl w9)), (h_behindAt, .inl (cI, 12, .inl w10)), (h0, .inr (10, vL 67 G11)), (h_s, .inl (cI, 335, .inl w20))] := hD
    have hl : lv_has ls 5 [(3, .int u5), (2, .int u6), (1, .int u7), (0, .ref h0)] := hl
    refine lv_iload_n hx hb dX10_runners_22 rfl (lv_at hl 0 rfl) ?_
    refine lv_aload_n hx hb dX10_runners_23 rfl (lv_at hl 3 rfl) ?_
    have n56 : G11 6 = .ref h_s := (SAME.at i32 (by decide) n2)
    refine get_f (D := D) (ci := 10) (v := .ref h_s) (C := RX10) (T := TX10) (N := 67) hx hb hw inAX10 hown hK hP 3 rfl rfl 6 (by decide) (hw _ q_1267) (fun _ h9 => h9) n56 dX10_runners_24 ?_
    refine lv_bipush (v := 7) hx hb dX10_runners_27 (by decide) ?_
    refine iald_n hx hb hK hP 4 0 rfl rfl 7 rfl (Nat.le_of_ble_eq_true rfl) (Nat.le_of_ble_eq_true rfl) rfl dX10_runners_29 ?_
    refine lv_topi (fun v57 ev57 => ?_)
    have k58 : 0 ≤ v57.toInt ∧ v57.toInt ≤ 6 := by rw [ev57]; exact i55.atN 7 (by decide) (by decide)
    refine lv_icmp_ge (tgt := 67) hx hb dX10_runners_30 (by decide) (fun c59 => ?_) (fun c59 => ?_)
    · have dc59 : v57.toInt ≤ u5.toInt := le_i (a := v57.toInt) (b := u5.toInt) rfl rfl c59
      refine lv_iload_n hx hb dX10_runners_67 rfl (lv_at hl 2 rfl) ?_
      exact ret_i (v := u7) hx hb hr hlocks hS (hP.sub (ws' := [(h0, .inr (10, vL 67 G11)), (h_s, .inl (cI, 335, .inl w20)), (h_paceAt, .inl (cI, 40, .inl w8)), (h_kindOf, .inl (cI, 4, .inl w9)), (h_behindAt, .inl (cI, 12, .inl w10))]) [3, 4, 0, 1, 2] rfl) (hD.sub (ws' := [(h0, .inr (10, vL 67 G11)), (h_s, .inl (cI, 335, .inl w20)), (h_paceAt, .inl (cI, 40, .inl w8)), (h_kindOf, .inl (cI, 4, .inl w9)), (h_behindAt, .inl (cI, 12, .inl w10))]) [3, 4, 0, 1, 2] (by decide) rfl) dX10_runners_68 rfl (Nat.le_of_ble_eq_true rfl) (Nat.le_of_ble_eq_true rfl) ⟨G11, u12, u13, u14, u15, u16, u17, u18, u19, w20, w8, w9, w10, (SAME.tr (SAME.up eF1 SAME.rf (by decide)) i32 (by decide)), (SAME.at i32 (by decide) (get_eq eF1)), i33, i34, i35, i41, i36, i42, i37, i38, i43, i39, i40, i51, i46, i53, i54, i55, i52, i44, i47, i48, i49, i50, i45, i31, rfl⟩
    · have dc59 : u5.toInt < v57.toInt := nle_i (a := v57.toInt) (b := u5.toInt) rfl rfl c59
      have k60 : 0 ≤ u5.toInt ∧ u5.toInt ≤ 5 := ⟨i29.1, up_lt dc59 k58.2 (by decide)⟩
      have k61 : 1 ≤ v57.toInt ∧ v57.toInt ≤ 6 := ⟨lo_lt dc59 i29.1 (by decide), k58.2⟩
      refine lv_aload_n hx hb dX10_runners_33 rfl (lv_at hl 3 rfl) ?_
      refine lv_bipush (v := 114) hx hb dX10_runners_34 (by decide) ?_
      refine lv_iload_n hx hb dX10_runners_36 rfl (lv_at hl 0 rfl) ?_
      have n62 : F1 25 = .ref h_paceAt := (get_ne eF1 (by decide) e_paceAt)
      have n63 : G11 25 = .ref h_paceAt := (SAME.at i32 (by decide) n62)
      have n64 : F1 26 = .ref h_kindOf := (get_ne eF1 (by decide) e_kindOf)
      have n65 : G11 26 = .ref h_kindOf := (SAME.at i32 (by decide) n64)
      have n66 : F1 32 = .int x_kicks := (get_ne eF1 (by decide) e_kicks)
      have n67 : G11 32 = .int x_kicks := (SAME.at i32 (by decide) n66)
      have n68 : F1 33 = .ref h_behindAt := (get_ne eF1 (by decide) e_behindAt)
      have n69 : G11 33 = .ref h_behindAt := (SAME.at i32 (by decide) n68)
      have n70 : F1 37 = .int x_touchBend := (get_ne eF1 (by decide) e_touchBend)
      have n71 : G11 37 = .int x_touchBend := (SAME.at i32 (by decide) n70)
      have n72 : F1 38 = .int x_touchBy := (get_ne eF1 (by decide) e_touchBy)
      have n73 : G11 38 = .int x_touchBy := (SAME.at i32 (by decide) n72)
      refine call_Vi (wr := []) (As := [.int 114, .int u5]) (rest := []) hx hb hml hown hw (m_X10_timeWith l D cI cJ cB cP cM cZ h0 h_s h_paceAt h_kindOf h_behindAt G11 u16 x_kicks x_touchBend x_touchBy w20 w8 w9 w10 114 u5 bs _ n56 n63 n65 i37 n67 i_x_kicks n69 n71 n73 i_x_touchBy i44 i45 i46 i47 i48 i49 i50 i51 i52 i53 i54 i55 (show 113 ≤ (114 : Int32).toInt ∧ (114 : Int32).toInt ≤ 115 by decide) (by have z0 : (114 : Int32).toInt = 114 := rfl; omega)) wV_X10_429_X10_timeWith dX10_runners_37 hK hP hD hS hA [3, 4, 0, 1, 2] [] rfl rfl (by decide) (by decide) (by decide) 0 10 rfl rfl GG.fb hG.at hl.1 rfl (Nat.le_of_ble_eq_true rfl) ⟨(Nat.le_of_ble_eq_true rfl), (Nat.le_of_ble_eq_true rfl)⟩ ⟨(Nat.le_of_ble_eq_true rfl), (Nat.le_of_ble_eq_true rfl)⟩ (fun r74 u H locs hp hP hD hS => ?_)
      have zl114 : (114 : Int32).toInt = 114 := by decide
      refine hp.elim (fun F75 h9z0 => h9z0.elim (fun y76 h9z1 => h9z1.elim (fun y77 h9z2 => h9z2.elim (fun y78 h9z3 => h9z3.elim (fun y79 h9z4 => h9z4.elim (fun y80 h9z5 => h9z5.elim (fun y81 h9z6 => h9z6.elim (fun y82 h9z7 => h9z7.elim (fun y83 h9z8 => h9z8.elim (fun g84 h9z9 => h9z9.elim (fun g85 h9z10 => h9z10.elim (fun g86 h9z11 => h9z11.elim (fun g87 h9z12 => h9z12.elim (fun t88 h9z13 => h9z13.elim (fun t89 h9z14 => h9z14.elim (fun t90 h9z15 => h9z15.elim (fun t91 h9z16 => h9z16.elim (fun t92 h9z17 => h9z17.elim (fun t93 h9z18 => h9z18.elim (fun t94 h9z19 => h9z19.elim (fun t95 h9z20 => h9z20.elim (fun t96 h9z21 => h9z21.elim (fun t97 h9z22 => h9z22.elim (fun t98 h9z23 => h9z23.elim (fun t99 h9z24 => h9z24.elim (fun t100 h9z25 => h9z25.elim (fun t101 h9z26 => h9z26.elim (fun t102 h9z27 => h9z27.elim (fun t103 h9z28 => h9z28.elim (fun t104 h9z29 => h9z29.elim (fun t105 h9z30 => h9z30.elim (fun t106 h9z31 => h9z31.elim (fun t107 h9z32 => h9z32.elim (fun t108 h9z33 => h9z33.elim (fun t109 h9z34 => h9z34.elim (fun t110 h9z35 => h9z35.elim (fun t111 h9z36 => h9z36.elim (fun t112 h9z37 => h9z37.elim (fun t113 h9z38 => ?_)))))))))))))))))))))))))))))))))))))))
      clear h9z0 h9z1 h9z2 h9z3 h9z4 h9z5 h9z6 h9z7 h9z8 h9z9 h9z10 h9z11 h9z12 h9z13 h9z14 h9z15 h9z16 h9z17 h9z18 h9z19 h9z20 h9z21 h9z22 h9z23 h9z24 h9z25 h9z26 h9z27 h9z28 h9z29 h9z30 h9z31 h9z32 h9z33 h9z34 h9z35 h9z36 h9z37
      subst h9z38
      have hP : va_P D vwCl [(h0, .inr (10, vL 67 F75)), (h_s, .inl (cI, 335, .inl g84)), (h_paceAt, .inl (cI, 40, .inl g85)), (h_kindOf, .inl (cI, 4, .inl g86)), (h_behindAt, .inl (cI, 12, .inl g87))] H := hP
      have hD : va_D A [(h0, .inr (10, vL 67 F75)), (h_s, .inl (cI, 335, .inl g84)), (h_paceAt, .inl (cI, 40, .inl g85)), (h_kindOf, .inl (cI, 4, .inl g86)), (h_behindAt, .inl (cI, 12, .inl g87))] := hD
      refine W.widen (k := 0) (n := 0) (Nat.le_of_ble_eq_true rfl) (Nat.le_of_ble_eq_true rfl) ?_
      refine lv_istore (lv' := [(4, .int r74), (3, .int u5), (2, .int u6), (1, .int u7), (0, .ref h0)]) hx hb dX10_runners_40 hl (by decide) rfl (fun ls hl => ?_)
      refine lv_iload hx hb dX10_runners_42 (lv_at hl 0 rfl) ?_
      refine lv_if_lt (tgt := 61) hx hb dX10_runners_44 (by decide) (fun c115 => ?_) (fun c115 => ?_)
      · have dc115 : r74.toInt < 0 := lt_i (a := r74.toInt) (b := 0) rfl rfl c115
        have k116 : (-2147483648) ≤ r74.toInt ∧ r74.toInt ≤ (-1) := ⟨(ir_any _).1, up_lt dc115 (Int.le_refl _) (by decide)⟩
        obtain ⟨v117, ev117⟩ : ∃ z : Int32, z = u5 + 1 := ⟨_, rfl⟩
        have bv117 : v117.toInt = u5.toInt + 1 := by rw [ev117]; exact add_k rfl rfl k60 ⟨Int.le_refl _, Int.le_refl _⟩ (by decide)
        have k118 : 1 ≤ v117.toInt ∧ v117.toInt ≤ 6 := add_r bv117 k60 ⟨Int.le_refl _, Int.le_refl _⟩ (by decide)
        refine lv_iinc (v := v117) (lv' := [(3, .int v117), (4, .int r74), (2, .int u6), (1, .int u7), (0, .ref h0)]) hx hb dX10_runners_61 hl (k := 1) rfl (by rw [ev117]; rfl) (by decide) rfl (fun ls hl => ?_)
        refine lv_goto (tgt := 22) hx hb dX10_runners_64 (by decide) ?_
        exact ih (v117, u6, u7, g85, g86, g87, F75, y76, y77, y78, y79, y80, y81, y82, y83, g84) ⟨(ir_wk k118 (by decide) (by decide)), i30, i31, (SAME.tr (SAME.tr SAME.rf i32 (by decide)) t88 (by decide)), t89, t90, t92, t94, t96, t97, t99, t101, t93, t95, t98, t108, t113, t103, t109, t110, t111, t112, t102, t107, t104, t105, t106⟩ (by show (6 - v117.toInt).toNat < (6 - u5.toInt).toNat; omega) _ _ _ (hP.sub [2, 3, 4, 0, 1] rfl) (hD.sub [2, 3, 4, 0, 1] (by decide) rfl) hS (lv_sub hl [0, 2, 3, 4] rfl)
      · have dc115 : 0 ≤ r74.toInt := nlt_i (a := r74.toInt) (b := 0) rfl rfl c115
        have k119 : 0 ≤ r74.toInt ∧ r74.toInt ≤ 2147483647 := ⟨Int.le_trans (Int.le_refl _) dc115, (ir_any _).2⟩
        refine lv_iload hx hb dX10_runners_47 (lv_at hl 0 rfl) ?_
        refine lv_iload_n hx hb dX10_runners_49 rfl (lv_at hl 2 rfl) ?_
        refine lv_icmp_lt (tgt := 56) hx hb dX10_runners_50 (by decide) (fun c120 => ?_) (fun c120 => ?_)
        · have dc120 : r74.toInt < u6.toInt := lt_i (a := r74.toInt) (b := u6.toInt) rfl rfl c120
          have k121 : 0 ≤ r74.toInt ∧ r74.toInt ≤ 99999999 := ⟨k119.1, up_lt dc120 i30.2 (by decide)⟩
          have k122 : 1 ≤ u6.toInt ∧ u6.toInt ≤ 100000000 := ⟨lo_lt dc120 k119.1 (by decide), i30.2⟩
          refine lv_iload hx hb dX10_runners_56 (lv_at hl 0 rfl) ?_
          refine lv_istore_n (lv' := [(2, .int r74), (4, .int r74), (3, .int u5), (1, .int u7), (0, .ref h0)]) hx hb dX10_runners_58 rfl hl (by decide) rfl (fun ls hl => ?_)
          refine lv_iload_n hx hb dX10_runners_59 rfl (lv_at hl 2 rfl) ?_
          refine lv_istore_n (lv' := [(1, .int u5), (2, .int r74), (4, .int r74), (3, .int u5), (0, .ref h0)]) hx hb dX10_runners_60 rfl hl (by decide) rfl (fun ls hl => ?_)
          obtain ⟨v123, ev123⟩ : ∃ z : Int32, z = u5 + 1 := ⟨_, rfl⟩
          have bv123 : v123.toInt = u5.toInt + 1 := by rw [ev123]; exact add_k rfl rfl k60 ⟨Int.le_refl _, Int.le_refl _⟩ (by decide)
          have k124 : 1 ≤ v123.toInt ∧ v123.toInt ≤ 6 := add_r bv123 k60 ⟨Int.le_refl _, Int.le_refl _⟩ (by decide)
          refine lv_iinc (v := v123) (lv' := [(3, .int v123), (1, .int u5), (2, .int r74), (4, .int r74), (0, .ref h0)]) hx hb dX10_runners_61 hl (k := 3) rfl (by rw [ev123]; rfl) (by decide) rfl (fun ls hl => ?_)
          refine lv_goto (tgt := 22) hx hb dX10_runners_64 (by decide) ?_
          exact ih (v123, r74, u5, g85, g86, g87, F75, y76, y77, y78, y79, y80, y81, y82, y83, g84) ⟨(ir_wk k124 (by decide) (by decide)), (ir_wk k121 (by decide) (by decide)), (ir_wk k60 (by decide) (by decide)), (SAME.tr (SAME.tr SAME.rf i32 (by decide)) t88 (by decide)), t89, t90, t92, t94, t96, t97, t99, t101, t93, t95, t98, t108, t113, t103, t109, t110, t111, t112, t102, t107, t104, t105, t106⟩ (by show (6 - v123.toInt).toNat < (6 - u5.toInt).toNat; omega) _ _ _ (hP.sub [2, 3, 4, 0, 1] rfl) (hD.sub [2, 3, 4, 0, 1] (by decide) rfl) hS (lv_sub hl [0, 2, 1, 4] rfl)
        · have dc120 : u6.toInt ≤ r74.toInt := nlt_i (a := r74.toInt) (b := u6.toInt) rfl rfl c120
          refine lv_goto (tgt := 61) hx hb dX10_runners_53 (by decide) ?_
          obtain ⟨v125, ev125⟩ : ∃ z : Int32, z = u5 + 1 := ⟨_, rfl⟩
          have bv125 : v125.toInt = u5.toInt + 1 := by rw [ev125]; exact add_k rfl rfl k60 ⟨Int.le_refl _, Int.le_refl _⟩ (by decide)
          have k126 : 1 ≤ v125.toInt ∧ v125.toInt ≤ 6 := add_r bv125 k60 ⟨Int.le_refl _, Int.le_refl _⟩ (by decide)
          refine lv_iinc (v := v125) (lv' := [(3, .int v125), (4, .int r74), (2, .int u6), (1, .int u7), (0, .ref h0)]) hx hb dX10_runners_61 hl (k := 1) rfl (by rw [ev125]; rfl) (by decide) rfl (fun ls hl => ?_)
          refine lv_goto (tgt := 22) hx hb dX10_runners_64 (by decide) ?_
          exact ih (v125, u6, u7, g85, g86, g87, F75, y76, y77, y78, y79, y80, y81, y82, y83, g84) ⟨(ir_wk k126 (by decide) (by decide)), i30, i31, (SAME.tr (SAME.tr SAME.rf i32 (by decide)) t88 (by decide)), t89, t90, t92, t94, t96, t97, t99, t101, t93, t95, t98, t108, t113, t103, t109, t110, t111, t112, t102, t107, t104, t105, t106⟩ (by show (6 - v125.toInt).toNat < (6 - u5.toInt).toNat; omega) _ _ _ (hP.sub [2, 3, 4, 0, 1] rfl) (hD.sub [2, 3, 4, 0, 1] (by decide) rfl) hS (lv_sub hl [0, 2, 3, 4] rfl)
set_option maxHeartbeats 4000000 in
set_option maxRecDepth 100000 in
theorem m_X10_runs (l : Launch) (D : va_G) (cI cJ cB cP cM cZ : ClassId) (h0 : Nat) (h_tape : Nat) (h_s : Nat) (h_paceAt : Nat) (h_kindOf : Nat) (h_behindAt : Nat) (Fh : Nat → Value) (x_length : Int32) (x_lineTime : Int32) (x_linePace : Int32) (x_inside : Int32) (x_late : Int32) (x_seed : Int32) (x_kicks : Int32) (x_bendsGone : Int32) (x_overAt : Int32) (x_endPace : Int32) (x_touchBend : Int32) (x_touchBy : Int32) (f_tape : Nat → Int32) (f_s : Nat → Int32) (f_paceAt : Nat → Int32) (f_kindOf : Nat → Int32) (f_behindAt : Nat → Int32) (bs : Nat → Int32) (sz : Nat) (e_tape : Fh 1 = .ref h_tape) (e_length : Fh 2 = .int x_length) (i_x_length : IR 0 940 x_length) (e_s : Fh 6 = .ref h_s) (e_paceAt : Fh 25 = .ref h_paceAt) (e_kindOf : Fh 26 = .ref h_kindOf) (e_lineTime : Fh 27 = .int x_lineTime) (e_linePace : Fh 28 = .int x_linePace) (e_inside : Fh 29 = .int x_inside) (i_x_inside : IR 0 15 x_inside) (e_late : Fh 30 = .int x_late) (i_x_late : IR 0 15 x_late) (e_seed : Fh 31 = .int x_seed) (e_kicks : Fh 32 = .int x_kicks) (i_x_kicks : IR 0 1 x_kicks) (e_behindAt : Fh 33 = .ref h_behindAt) (e_bendsGone : Fh 34 = .int x_bendsGone) (i_x_bendsGone : IR 0 12 x_bendsGone) (e_overAt : Fh 35 = .int x_overAt) (e_endPace : Fh 36 = .int x_endPace) (e_touchBend : Fh 37 = .int x_touchBend) (e_touchBy : Fh 38 = .int x_touchBy) (i_x_touchBy : IR 0 99 x_touchBy) (s_s_K0 : KW 0 f_s) (s_s_US : US bs f_s) (s_s_0 : SG 0 0 0 40 f_s) (s_s_105 : SG 105 108 0 11 f_s) (s_s_114 : SG 114 114 0 5 f_s) (s_s_130 : SG 130 133 0 11 f_s) (s_s_139 : SG 139 139 0 5 f_s) (s_s_153 : SG 153 153 0 44 f_s) (s_s_44 : SG 44 55 0 9 f_s) (s_s_5 : SG 5 5 0 12 f_s) (s_s_6 : SG 6 6 0 12 f_s) (s_s_7 : SG 7 7 0 6 f_s) : CI l yX10_runs cX10_runs 4 (some .int) { frames := 6, cells := 0, slots := 0, locals := 139 } (GG D cI cJ cB cP cM cZ) D [(h0, .inr (10, vL 67 Fh)), (h_tape, .inl (cB, 940, .inl f_tape)), (h_s, .inl (cI, 335, .inl f_s)), (h_paceAt, .inl (cI, 40, .inl f_paceAt)), (h_kindOf, .inl (cI, 4, .inl f_kindOf)), (h_behindAt, .inl (cI, 12, .inl f_behindAt))] sz [.ref h0] (fun (r : Int32) (u : va_W) => ∃ (Gh : Nat → Value) (y_lineTime : Int32) (y_linePace : Int32) (y_inside : Int32) (y_late : Int32) (y_seed : Int32) (y_bendsGone : Int32) (y_overAt : Int32) (y_endPace : Int32) (g_s : Nat → Int32) (g_paceAt : Nat → Int32) (g_kindOf : Nat → Int32) (g_behindAt : Nat → Int32), SAME [0, 2, 3, 4, 5, 27, 28, 29, 30, 31, 34, 35, 36] Fh Gh ∧ Gh 0 = .int 0 ∧ Gh 2 = .int 0 ∧ Gh 3 = .int x_length ∧ Gh 4 = .int 0 ∧ Gh 5 = .int 940 ∧ Gh 27 = .int y_lineTime ∧ Gh 28 = .int y_linePace ∧ Gh 29 = .int y_inside ∧ IR 0 15 y_inside ∧ Gh 30 = .int y_late ∧ IR 0 15 y_late ∧ Gh 31 = .int y_seed ∧ Gh 34 = .int y_bendsGone ∧ IR 0 12 y_bendsGone ∧ Gh 35 = .int y_overAt ∧ Gh 36 = .int y_endPace ∧ SG 153 153 0 44 g_s ∧ SG 0 0 0 40 g_s ∧ SG 5 5 0 12 g_s ∧ SG 6 6 0 12 g_s ∧ SG 7 7 0 6 g_s ∧ SG 44 55 0 9 g_s ∧ KW 0 g_s ∧ SG 105 108 0 11 g_s ∧ SG 114 114 0 5 g_s ∧ SG 130 133 0 11 g_s ∧ SG 139 139 0 5 g_s ∧ US bs g_s ∧ u = [(h0, .inr (10, vL 67 Gh)), (h_tape, .inl (cB, 940, .inl f_tape)), (h_s, .inl (cI, 335, .inl g_s)), (h_paceAt, .inl (cI, 40, .inl g_paceAt)), (h_kindOf, .inl (cI, 4, .inl g_kindOf)), (h_behindAt, .inl (cI, 12, .inl g_behindAt))]) := by
  refine CI_mk (by decide) (Nat.le_of_ble_eq_true rfl) ?_
  intro p e s m below meth c A ls E hAe hG hsz hP hD hA hS hl
  obtain ⟨hx, hb, hr, hw, hown, hlocks, hml, hnm⟩ := E
  have hK := hG.1
  have i_x_length : 0 ≤ x_length.toInt ∧ x_length.toInt ≤ 940 := i_x_length
  have i_x_inside : 0 ≤ x_inside.toInt ∧ x_inside.toInt ≤ 15 := i_x_inside
  have i_x_late : 0 ≤ x_late.toInt ∧ x_late.toInt ≤ 15 := i_x_late
  have i_x_kicks : 0 ≤ x_kicks.toInt ∧ x_kicks.toInt ≤ 1 := i_x_kicks
  have i_x_bendsGone : 0 ≤ x_bendsGone.toInt ∧ x_bendsGone.toInt ≤ 12 := i_x_bendsGone
  have i_x_touchBy : 0 ≤ x_touchBy.toInt ∧ x_touchBy.toInt ≤ 99 := i_x_touchBy
  have hl : lv_has ls 4 [(0, .ref h0)] := hl
  refine lv_aload_n hx hb dX10_runs_0 rfl (lv_at hl 0 rfl) ?_
  refine lv_iconst (v := 0) hx hb dX10_runs_1 (by decide) ?_
  refine put_f (D := D) (ci := 10) (v := .int 0) (ty := .int) (C := RX10) (T := TX10) (N := 67) hx hb hw inAX10 tyX10 tyX10_ok nmX10 hown hK hP hD hS 0 rfl rfl 0 (by decide) (hw _ q_1261) (fun _ h9 => h9) rfl (by decide +kernel) rfl rfl dX10_runs_2 (fun H locs F1 eF1 hP hD hS => ?_)
  have hP : va_P D vwCl [(h0, .inr (10, vL 67 F1)), (h_tape, .inl (cB, 940, .inl f_tape)), (h_s, .inl (cI, 335, .inl f_s)), (h_paceAt, .inl (cI, 40, .inl f_paceAt)), (h_kindOf, .inl (cI, 4, .inl f_kindOf)), (h_behindAt, .inl (cI, 12, .inl f_behindAt))] H := hP
  have hD : va_D A [(h0, .inr (10, vL 67 F1)), (h_tape, .inl (cB, 940, .inl f_tape)), (h_s, .inl (cI, 335, .inl f_s)), (h_paceAt, .inl (cI, 40, .inl f_paceAt)), (h_kindOf, .inl (cI, 4, .inl f_kindOf)), (h_behindAt, .inl (cI, 12, .inl f_behindAt))] := hD
  refine lv_aload_n hx hb dX10_runs_5 rfl (lv_at hl 0 rfl) ?_
  refine lv_sipush (v := 940) hx hb dX10_runs_6 (by decide) ?_
  have n2 : F1 2 = .int x_length := (get_ne eF1 (by decide) e_length)
  refine call_Vv (wr := [(h_tape, .inl (cB, 940, .inl f_tape)), (h_s, .inl (cI, 335, .inl f_s)), (h_paceAt, .inl (cI, 40, .inl f_paceAt)), (h_kindOf, .inl (cI, 4, .inl f_kindOf)), (h_behindAt, .inl (cI, 12, .inl f_behindAt))]) (As := [.int 940]) (rest := []) hx hb hml hown hw (m_X10_taken l D cI cJ cB cP cM cZ h0 F1 x_length 940 _ n2 i_x_length (show 200 ≤ (940 : Int32).toInt ∧ (940 : Int32).toInt ≤ 940 by decide)) wV_X10_248_X10_taken dX10_runs_9 hK hP hD hS hA [0] [1, 2, 3, 4, 5] rfl rfl (by decide) (by decide) (by decide) 0 10 rfl rfl GG.fb hG.at hl.1 rfl (Nat.le_of_ble_eq_true rfl) ⟨(Nat.le_of_ble_eq_true rfl), (Nat.le_of_ble_eq_true rfl)⟩ ⟨(Nat.le_of_ble_eq_true rfl), (Nat.le_of_ble_eq_true rfl)⟩ (fun u H locs hp hP hD hS => ?_)
  have zl940 : (940 : Int32).toInt = 940 := by decide
  obtain ⟨F4, t5, t6, t7, t8, t9, rfl⟩ := hp
  have hP : va_P D vwCl [(h_tape, .inl (cB, 940, .inl f_tape)), (h_s, .inl (cI, 335, .inl f_s)), (h_paceAt, .inl (cI, 40, .inl f_paceAt)), (h_kindOf, .inl (cI, 4, .inl f_kindOf)), (h_behindAt, .inl (cI, 12, .inl f_behindAt)), (h0, .inr (10, vL 67 F4))] H := hP
  have hD : va_D A [(h_tape, .inl (cB, 940, .inl f_tape)), (h_s, .inl (cI, 335, .inl f_s)), (h_paceAt, .inl (cI, 40, .inl f_paceAt)), (h_kindOf, .inl (cI, 4, .inl f_kindOf)), (h_behindAt, .inl (cI, 12, .inl f_behindAt)), (h0, .inr (10, vL 67 F4))] := hD
  refine W.widen (k := 0) (n := 0) (Nat.le_of_ble_eq_true rfl) (Nat.le_of_ble_eq_true rfl) ?_
  refine lv_aload_n hx hb dX10_runs_12 rfl (lv_at hl 0 rfl) ?_
  have n11 : F1 6 = .ref h_s := (get_ne eF1 (by decide) e_s)
  have n12 : F4 6 = .ref h_s := (SAME.at t5 (by decide) n11)
  refine call_Vi (wr := [(h_tape, .inl (cB, 940, .inl f_tape)), (h_paceAt, .inl (cI, 40, .inl f_paceAt)), (h_kindOf, .inl (cI, 4, .inl f_kindOf)), (h_behindAt, .inl (cI, 12, .inl f_behindAt))]) (As := []) (rest := []) hx hb hml hown hw (m_X10_hasCrew l D cI cJ cB cP cM cZ h0 h_s F4 f_s bs _ n12 s_s_K0 s_s_US s_s_0 s_s_105 s_s_114 s_s_130 s_s_139 s_s_153 s_s_44 s_s_5 s_s_6 s_s_7) wV_X10_281_X10_hasCrew dX10_runs_13 hK hP hD hS hA [5, 1] [0, 2, 3, 4] rfl rfl (by decide) (by decide) (by decide) 0 10 rfl rfl GG.fb hG.at hl.1 rfl (Nat.le_of_ble_eq_true rfl) ⟨(Nat.le_of_ble_eq_true rfl), (Nat.le_of_ble_eq_true rfl)⟩ ⟨(Nat.le_of_ble_eq_true rfl), (Nat.le_of_ble_eq_true rfl)⟩ (fun r13 u H locs hp hP hD hS => ?_)
  rcases hp with ⟨rfl, rfl⟩ | ⟨rfl, rfl⟩
  · have hP : va_P D vwCl [(h_tape, .inl (cB, 940, .inl f_tape)), (h_paceAt, .inl (cI, 40, .inl f_paceAt)), (h_kindOf, .inl (cI, 4, .inl f_kindOf)), (h_behindAt, .inl (cI, 12, .inl f_behindAt)), (h0, .inr (10, vL 67 F4)), (h_s, .inl (cI, 335, .inl f_s))] H := hP
    have hD : va_D A [(h_tape, .inl (cB, 940, .inl f_tape)), (h_paceAt, .inl (cI, 40, .inl f_paceAt)), (h_kindOf, .inl (cI, 4, .inl f_kindOf)), (h_behindAt, .inl (cI, 12, .inl f_behindAt)), (h0, .inr (10, vL 67 F4)), (h_s, .inl (cI, 335, .inl f_s))] := hD
    refine W.widen (k := 0) (n := 0) (Nat.le_of_ble_eq_true rfl) (Nat.le_of_ble_eq_true rfl) ?_
    refine lv_if_eq (tgt := 27) hx hb dX10_runs_16 (by decide) (fun _ => ?_) (fun g => absurd (by decide) g)
    refine lv_iconst (v := (-1)) hx hb dX10_runs_27 (by decide) ?_
    exact ret_i (v := (-1)) hx hb hr hlocks hS (hP.sub (ws' := [(h0, .inr (10, vL 67 F4)), (h_tape, .inl (cB, 940, .inl f_tape)), (h_s, .inl (cI, 335, .inl f_s)), (h_paceAt, .inl (cI, 40, .inl f_paceAt)), (h_kindOf, .inl (cI, 4, .inl f_kindOf)), (h_behindAt, .inl (cI, 12, .inl f_behindAt))]) [4, 0, 5, 1, 2, 3] rfl) (hD.sub (ws' := [(h0, .inr (10, vL 67 F4)), (h_tape, .inl (cB, 940, .inl f_tape)), (h_s, .inl (cI, 335, .inl f_s)), (h_paceAt, .inl (cI, 40, .inl f_paceAt)), (h_kindOf, .inl (cI, 4, .inl f_kindOf)), (h_behindAt, .inl (cI, 12, .inl f_behindAt))]) [4, 0, 5, 1, 2, 3] (by decide) rfl) dX10_runs_28 rfl (Nat.le_of_ble_eq_true rfl) (Nat.le_of_ble_eq_true rfl) ⟨F4, x_lineTime, x_linePace, x_inside, x_late, x_seed, x_bendsGone, x_overAt, x_endPace, f_s, f_paceAt, f_kindOf, f_behindAt, (SAME.tr (SAME.up eF1 SAME.rf (by decide)) t5 (by decide)), (SAME.at t5 (by decide) (get_eq eF1)), t6, t7, t8, t9, (SAME.at t5 (by decide) (get_ne eF1 (by decide) e_lineTime)), (SAME.at t5 (by decide) (get_ne eF1 (by decide) e_linePace)), (SAME.at t5 (by decide) (get_ne eF1 (by decide) e_inside)), i_x_inside, (SAME.at t5 (by decide) (get_ne eF1 (by decide) e_late)), i_x_late, (SAME.at t5 (by decide) (get_ne eF1 (by decide) e_seed)), (SAME.at t5 (by decide) (get_ne eF1 (by decide) e_bendsGone)), i_x_bendsGone, (SAME.at t5 (by decide) (get_ne eF1 (by decide) e_overAt)), (SAME.at t5 (by decide) (get_ne eF1 (by decide) e_endPace)), s_s_153, s_s_0, s_s_5, s_s_6, s_s_7, s_s_44, s_s_K0, s_s_105, s_s_114, s_s_130, s_s_139, s_s_US, rfl⟩
  · have hP : va_P D vwCl [(h_tape, .inl (cB, 940, .inl f_tape)), (h_paceAt, .inl (cI, 40, .inl f_paceAt)), (h_kindOf, .inl (cI, 4, .inl f_kindOf)), (h_behindAt, .inl (cI, 12, .inl f_behindAt)), (h0, .inr (10, vL 67 F4)), (h_s, .inl (cI, 335, .inl f_s))] H := hP
    have hD : va_D A [(h_tape, .inl (cB, 940, .inl f_tape)), (h_paceAt, .inl (cI, 40, .inl f_paceAt)), (h_kindOf, .inl (cI, 4, .inl f_kindOf)), (h_behindAt, .inl (cI, 12, .inl f_behindAt)), (h0, .inr (10, vL 67 F4)), (h_s, .inl (cI, 335, .inl f_s))] := hD
    refine W.widen (k := 0) (n := 0) (Nat.le_of_ble_eq_true rfl) (Nat.le_of_ble_eq_true rfl) ?_
    refine lv_if_eq (tgt := 27) hx hb dX10_runs_16 (by decide) (fun g => absurd g (by decide)) (fun _ => ?_)
    refine lv_aload_n hx hb dX10_runs_19 rfl (lv_at hl 0 rfl) ?_
    refine get_f (D := D) (ci := 10) (v := .int x_length) (C := RX10) (T := TX10) (N := 67) hx hb hw inAX10 hown hK hP 4 rfl rfl 3 (by decide) (hw _ q_1264) (fun _ h9 => h9) t7 dX10_runs_20 ?_
    refine lv_iconst (v := 4) hx hb dX10_runs_23 (by decide) ?_
    refine lv_icmp_eq (tgt := 29) hx hb dX10_runs_24 (by decide) (fun c15 => ?_) (fun c15 => ?_)
    · have dc15 : x_length.toInt = 4 := eq_i (a := x_length.toInt) (b := 4) rfl rfl c15
      have k16 : 4 ≤ x_length.toInt ∧ x_length.toInt ≤ 4 := ⟨Int.le_trans (Int.le_refl _) (Int.le_of_eq dc15.symm), Int.le_trans (Int.le_of_eq dc15) (Int.le_refl _)⟩
      refine lv_iconst (v := 0) hx hb dX10_runs_29 (by decide) ?_
      refine lv_istore_n (lv' := [(1, .int 0), (0, .ref h0)]) hx hb dX10_runs_30 rfl hl (by decide) rfl (fun ls hl => ?_)
      refine lv_iconst (v := 0) hx hb dX10_runs_31 (by decide) ?_
      refine lv_istore_n (lv' := [(2, .int 0), (1, .int 0), (0, .ref h0)]) hx hb dX10_runs_32 rfl hl (by decide) rfl (fun ls hl => ?_)
      have n32 : F1 27 = .int x_lineTime := (get_ne eF1 (by decide) e_lineTime)
      have n33 : F4 27 = .int x_lineTime := (SAME.at t5 (by decide) n32)
      have n34 : F1 28 = .int x_linePace := (get_ne eF1 (by decide) e_linePace)
      have n35 : F4 28 = .int x_linePace := (SAME.at t5 (by decide) n34)
      have n36 : F1 29 = .int x_inside := (get_ne eF1 (by decide) e_inside)
      have n37 : F4 29 = .int x_inside := (SAME.at t5 (by decide) n36)
      have n38 : F1 30 = .int x_late := (get_ne eF1 (by decide) e_late)
      have n39 : F4 30 = .int x_late := (SAME.at t5 (by decide) n38)
      have n40 : F1 31 = .int x_seed := (get_ne eF1 (by decide) e_seed)
      have n41 : F4 31 = .int x_seed := (SAME.at t5 (by decide) n40)
      have n42 : F1 34 = .int x_bendsGone := (get_ne eF1 (by decide) e_bendsGone)
      have n43 : F4 34 = .int x_bendsGone := (SAME.at t5 (by decide) n42)
      have n44 : F1 35 = .int x_overAt := (get_ne eF1 (by decide) e_overAt)
      have n45 : F4 35 = .int x_overAt := (SAME.at t5 (by decide) n44)
      have n46 : F1 36 = .int x_endPace := (get_ne eF1 (by decide) e_endPace)
      have n47 : F4 36 = .int x_endPace := (SAME.at t5 (by decide) n46)
      refine mloop (α := (Int32) × (Int32) × (Nat → Int32) × (Nat → Int32) × (Nat → Int32) × (Nat → Value) × (Int32) × (Int32) × (Int32) × (Int32) × (Int32) × (Int32) × (Int32) × (Int32) × (Nat → Int32)) (nL := 4) (D := D) (A := A) (H0 := s.heap) (fun a => (4 - a.1.toInt).toNat) (fun a => IR 0 4 a.1 ∧ SAME [27, 28, 29, 30, 31, 34, 35, 36] F4 a.2.2.2.2.2.1 ∧ a.2.2.2.2.2.1 27 = .int a.2.2.2.2.2.2.1 ∧ a.2.2.2.2.2.1 28 = .int a.2.2.2.2.2.2.2.1 ∧ a.2.2.2.2.2.1 29 = .int a.2.2.2.2.2.2.2.2.1 ∧ a.2.2.2.2.2.1 30 = .int a.2.2.2.2.2.2.2.2.2.1 ∧ a.2.2.2.2.2.1 31 = .int a.2.2.2.2.2.2.2.2.2.2.1 ∧ a.2.2.2.2.2.1 34 = .int a.2.2.2.2.2.2.2.2.2.2.2.1 ∧ a.2.2.2.2.2.1 35 = .int a.2.2.2.2.2.2.2.2.2.2.2.2.1 ∧ a.2.2.2.2.2.1 36 = .int a.2.2.2.2.2.2.2.2.2.2.2.2.2.1 ∧ IR 0 15 a.2.2.2.2.2.2.2.2.1 ∧ IR 0 15 a.2.2.2.2.2.2.2.2.2.1 ∧ IR 0 12 a.2.2.2.2.2.2.2.2.2.2.2.1 ∧ KW 0 a.2.2.2.2.2.2.2.2.2.2.2.2.2.2 ∧ US bs a.2.2.2.2.2.2.2.2.2.2.2.2.2.2 ∧ SG 0 0 0 40 a.2.2.2.2.2.2.2.2.2.2.2.2.2.2 ∧ SG 105 108 0 11 a.2.2.2.2.2.2.2.2.2.2.2.2.2.2 ∧ SG 114 114 0 5 a.2.2.2.2.2.2.2.2.2.2.2.2.2.2 ∧ SG 130 133 0 11 a.2.2.2.2.2.2.2.2.2.2.2.2.2.2 ∧ SG 139 139 0 5 a.2.2.2.2.2.2.2.2.2.2.2.2.2.2 ∧ SG 153 153 0 44 a.2.2.2.2.2.2.2.2.2.2.2.2.2.2 ∧ SG 44 55 0 9 a.2.2.2.2.2.2.2.2.2.2.2.2.2.2 ∧ SG 5 5 0 12 a.2.2.2.2.2.2.2.2.2.2.2.2.2.2 ∧ SG 6 6 0 12 a.2.2.2.2.2.2.2.2.2.2.2.2.2.2 ∧ SG 7 7 0 6 a.2.2.2.2.2.2.2.2.2.2.2.2.2.2) (fun a => [(h_tape, .inl (cB, 940, .inl f_tape)), (h_paceAt, .inl (cI, 40, .inl a.2.2.1)), (h_kindOf, .inl (cI, 4, .inl a.2.2.2.1)), (h_behindAt, .inl (cI, 12, .inl a.2.2.2.2.1)), (h0, .inr (10, vL 67 a.2.2.2.2.2.1)), (h_s, .inl (cI, 335, .inl a.2.2.2.2.2.2.2.2.2.2.2.2.2.2))]) (fun a => [(2, .int a.1), (1, .int a.2.1), (0, .ref h0)]) (fun H locs ls => W p l e ({ frames := 6, cells := 0, slots := 0, locals := 139 } : Room) s m [.ref h0].toArray below meth c H locs 0 0 (MQ below (va_Qi (fun (r : Int32) (u : va_W) => ∃ (Gh : Nat → Value) (y_lineTime : Int32) (y_linePace : Int32) (y_inside : Int32) (y_late : Int32) (y_seed : Int32) (y_bendsGone : Int32) (y_overAt : Int32) (y_endPace : Int32) (g_s : Nat → Int32) (g_paceAt : Nat → Int32) (g_kindOf : Nat → Int32) (g_behindAt : Nat → Int32), SAME [0, 2, 3, 4, 5, 27, 28, 29, 30, 31, 34, 35, 36] Fh Gh ∧ Gh 0 = .int 0 ∧ Gh 2 = .int 0 ∧ Gh 3 = .int x_length ∧ Gh 4 = .int 0 ∧ Gh 5 = .int 940 ∧ Gh 27 = .int y_lineTime ∧ Gh 28 = .int y_linePace ∧ Gh 29 = .int y_inside ∧ IR 0 15 y_inside ∧ Gh 30 = .int y_late ∧ IR 0 15 y_late ∧ Gh 31 = .int y_seed ∧ Gh 34 = .int y_bendsGone ∧ IR 0 12 y_bendsGone ∧ Gh 35 = .int y_overAt ∧ Gh 36 = .int y_endPace ∧ SG 153 153 0 44 g_s ∧ SG 0 0 0 40 g_s ∧ SG 5 5 0 12 g_s ∧ SG 6 6 0 12 g_s ∧ SG 7 7 0 6 g_s ∧ SG 44 55 0 9 g_s ∧ KW 0 g_s ∧ SG 105 108 0 11 g_s ∧ SG 114 114 0 5 g_s ∧ SG 130 133 0 11 g_s ∧ SG 139 139 0 5 g_s ∧ US bs g_s ∧ u = [(h0, .inr (10, vL 67 Gh)), (h_tape, .inl (cB, 940, .inl f_tape)), (h_s, .inl (cI, 335, .inl g_s)), (h_paceAt, .inl (cI, 40, .inl g_paceAt)), (h_kindOf, .inl (cI, 4, .inl g_kindOf)), (h_behindAt, .inl (cI, 12, .inl g_behindAt))]) (PO D A) A) [.ref h0].toArray s 0 0 A) (F0 m 33 ls [])) ?_ (0, 0, f_paceAt, f_kindOf, f_behindAt, F4, x_lineTime, x_linePace, x_inside, x_late, x_seed, x_bendsGone, x_overAt, x_endPace, f_s) ⟨(show 0 ≤ (0 : Int32).toInt ∧ (0 : Int32).toInt ≤ 4 by decide), SAME.rf, n33, n35, n37, n39, n41, n43, n45, n47, i_x_inside, i_x_late, i_x_bendsGone, s_s_K0, s_s_US, s_s_0, s_s_105, s_s_114, s_s_130, s_s_139, s_s_153, s_s_44, s_s_5, s_s_6, s_s_7⟩ _ _ _ hP hD hS hl
      rintro ⟨u17, u18, w19, w20, w21, G22, u23, u24, u25, u26, u27, u28, u29, u30, w31⟩ ⟨i48, i49, i50, i51, i52, i53, i54, i55, i56, i57, i58, i59, i60, i61, i62, i63, i64, i65, i66, i67, i68, i69, i70, i71, i72⟩ ih H locs ls hP hD hS hl
      have i48 : 0 ≤ u17.toInt ∧ u17.toInt ≤ 4 := i48
      have i58 : 0 ≤ u25.toInt ∧ u25.toInt ≤ 15 := i58
      have i59 : 0 ≤ u26.toInt ∧ u26.toInt ≤ 15 := i59
      have i60 : 0 ≤ u28.toInt ∧ u28.toInt ≤ 12 := i60
      have hP : va_P D vwCl [(h_tape, .inl (cB, 940, .inl f_tape)), (h_paceAt, .inl (cI, 40, .inl w19)), (h_kindOf, .inl (cI, 4, .inl w20)), (h_behindAt, .inl (cI, 12, .inl w21)), (h0, .inr (10, vL 67 G22)), (h_s, .inl (cI, 335, .inl w31))] H := hP
      have hD : va_D A [(h_tape, .inl (cB, 940, .inl f_tape)), (h_paceAt, .inl (cI, 40, .inl w19)), (h_kindOf, .inl (cI, 4, .inl w20)), (h_behindAt, .inl (cI, 12, .inl w21)), (h0, .inr (10, vL 67 G22)), (h_s, .inl (cI, 335, .inl w31))] := hD
      have hl : lv_has ls 4 [(2, .int u17), (1, .int u18), (0, .ref h0)] := hl
      refine lv_iload_n hx hb dX10_runs_33 rfl (lv_at hl 0 rfl) ?_
      refine lv_iconst (v := 4) hx hb dX10_runs_34 (by decide) ?_
      refine lv_icmp_ge (tgt := 84) hx hb dX10_runs_35 (by decide) (fun c73 => ?_) (fun c73 => ?_)
      · have dc73 : 4 ≤ u17.toInt := le_i (a := 4) (b := u17.toInt) rfl rfl c73
        have k74 : 4 ≤ u17.toInt ∧ u17.toInt ≤ 4 := ⟨Int.le_trans (Int.le_refl _) dc73, i48.2⟩
        refine lv_iload_n hx hb dX10_runs_84 rfl (lv_at hl 1 rfl) ?_
        exact ret_i (v := u18) hx hb hr hlocks hS (hP.sub (ws' := [(h0, .inr (10, vL 67 G22)), (h_tape, .inl (cB, 940, .inl f_tape)), (h_s, .inl (cI, 335, .inl w31)), (h_paceAt, .inl (cI, 40, .inl w19)), (h_kindOf, .inl (cI, 4, .inl w20)), (h_behindAt, .inl (cI, 12, .inl w21))]) [4, 0, 5, 1, 2, 3] rfl) (hD.sub (ws' := [(h0, .inr (10, vL 67 G22)), (h_tape, .inl (cB, 940, .inl f_tape)), (h_s, .inl (cI, 335, .inl w31)), (h_paceAt, .inl (cI, 40, .inl w19)), (h_kindOf, .inl (cI, 4, .inl w20)), (h_behindAt, .inl (cI, 12, .inl w21))]) [4, 0, 5, 1, 2, 3] (by decide) rfl) dX10_runs_85 rfl (Nat.le_of_ble_eq_true rfl) (Nat.le_of_ble_eq_true rfl) ⟨G22, u23, u24, u25, u26, u27, u28, u29, u30, w31, w19, w20, w21, (SAME.tr (SAME.tr (SAME.up eF1 SAME.rf (by decide)) t5 (by decide)) i49 (by decide)), (SAME.at i49 (by decide) (SAME.at t5 (by decide) (get_eq eF1))), (SAME.at i49 (by decide) t6), (SAME.at i49 (by decide) t7), (SAME.at i49 (by decide) t8), (SAME.at i49 (by decide) t9), i50, i51, i52, i58, i53, i59, i54, i55, i60, i56, i57, i68, i63, i70, i71, i72, i69, i61, i64, i65, i66, i67, i62, rfl⟩
      · have dc73 : u17.toInt < 4 := nle_i (a := 4) (b := u17.toInt) rfl rfl c73
        have k75 : 0 ≤ u17.toInt ∧ u17.toInt ≤ 3 := ⟨i48.1, up_lt dc73 (Int.le_refl _) (by decide)⟩
        refine lv_aload_n hx hb dX10_runs_38 rfl (lv_at hl 2 rfl) ?_
        refine lv_iload_n hx hb dX10_runs_39 rfl (lv_at hl 0 rfl) ?_
        have n76 : F1 1 = .ref h_tape := (get_ne eF1 (by decide) e_tape)
        have n77 : F4 1 = .ref h_tape := (SAME.at t5 (by decide) n76)
        have n78 : G22 1 = .ref h_tape := (SAME.at i49 (by decide) n77)
        refine call_Vi (wr := [(h_paceAt, .inl (cI, 40, .inl w19)), (h_kindOf, .inl (cI, 4, .inl w20)), (h_behindAt, .inl (cI, 12, .inl w21)), (h_s, .inl (cI, 335, .inl w31))]) (As := [.int u17]) (rest := []) hx hb hml hown hw (m_X10_octet l D cI cJ cB cP cM cZ h0 h_tape G22 f_tape u17 _ n78 (ir_wk k75 (by decide) (by decide))) wV_X10_435_X10_octet dX10_runs_40 hK hP hD hS hA [4, 0] [1, 2, 3, 5] rfl rfl (by decide) (by decide) (by decide) 0 10 rfl rfl GG.fb hG.at hl.1 rfl (Nat.le_of_ble_eq_true rfl) ⟨(Nat.le_of_ble_eq_true rfl), (Nat.le_of_ble_eq_true rfl)⟩ ⟨(Nat.le_of_ble_eq_true rfl), (Nat.le_of_ble_eq_true rfl)⟩ (fun r79 u H locs hp hP hD hS => ?_)
        obtain ⟨t80, rfl⟩ := hp
        have hP : va_P D vwCl [(h_paceAt, .inl (cI, 40, .inl w19)), (h_kindOf, .inl (cI, 4, .inl w20)), (h_behindAt, .inl (cI, 12, .inl w21)), (h_s, .inl (cI, 335, .inl w31)), (h0, .inr (10, vL 67 G22)), (h_tape, .inl (cB, 940, .inl f_tape))] H := hP
        have hD : va_D A [(h_paceAt, .inl (cI, 40, .inl w19)), (h_kindOf, .inl (cI, 4, .inl w20)), (h_behindAt, .inl (cI, 12, .inl w21)), (h_s, .inl (cI, 335, .inl w31)), (h0, .inr (10, vL 67 G22)), (h_tape, .inl (cB, 940, .inl f_tape))] := hD
        refine W.widen (k := 0) (n := 0) (Nat.le_of_ble_eq_true rfl) (Nat.le_of_ble_eq_true rfl) ?_
        refine lv_iconst (v := 1) hx hb dX10_runs_43 (by decide) ?_
        refine lv_bipush (v := 60) hx hb dX10_runs_44 (by decide) ?_
        refine call_Si (wr := [(h_paceAt, .inl (cI, 40, .inl w19)), (h_kindOf, .inl (cI, 4, .inl w20)), (h_behindAt, .inl (cI, 12, .inl w21)), (h_s, .inl (cI, 335, .inl w31)), (h0, .inr (10, vL 67 G22)), (h_tape, .inl (cB, 940, .inl f_tape))]) (As := [.int r79, .int 1, .int 60]) (rest := []) hx hb hml hown hw (m_X10_isIn l D cI cJ cB cP cM cZ r79 1 60 _ ) wS_X10_211_X10_isIn dX10_runs_46 hP hD hS hA [] [0, 1, 2, 3, 4, 5] rfl rfl (by decide) (by decide) (by decide) GG.fb hG.at hl.1 rfl (Nat.le_of_ble_eq_true rfl) ⟨(Nat.le_of_ble_eq_true rfl), (Nat.le_of_ble_eq_true rfl)⟩ ⟨(Nat.le_of_ble_eq_true rfl), (Nat.le_of_ble_eq_true rfl)⟩ (fun r82 u H locs hp hP hD hS => ?_)
        have zl1 : (1 : Int32).toInt = 1 := by decide
        have zl60 : (60 : Int32).toInt = 60 := by decide
        rcases hp with ⟨t83, rfl, rfl⟩ | ⟨t84, t85, rfl, rfl⟩ | ⟨t86, t87, rfl, rfl⟩
        · have hP : va_P D vwCl [(h_paceAt, .inl (cI, 40, .inl w19)), (h_kindOf, .inl (cI, 4, .inl w20)), (h_behindAt, .inl (cI, 12, .inl w21)), (h_s, .inl (cI, 335, .inl w31)), (h0, .inr (10, vL 67 G22)), (h_tape, .inl (cB, 940, .inl f_tape))] H := hP
          have hD : va_D A [(h_paceAt, .inl (cI, 40, .inl w19)), (h_kindOf, .inl (cI, 4, .inl w20)), (h_behindAt, .inl (cI, 12, .inl w21)), (h_s, .inl (cI, 335, .inl w31)), (h0, .inr (10, vL 67 G22)), (h_tape, .inl (cB, 940, .inl f_tape))] := hD
          refine W.widen (k := 0) (n := 0) (Nat.le_of_ble_eq_true rfl) (Nat.le_of_ble_eq_true rfl) ?_
          have k89 : 0 ≤ r79.toInt ∧ r79.toInt ≤ 0 := ⟨t80.1, up_lt t83 (Int.le_refl _) (by decide)⟩
          refine lv_if_eq (tgt := 66) hx hb dX10_runs_49 (by decide) (fun _ => ?_) (fun g => absurd (by decide) g)
          refine lv_iconst (v := (-1)) hx hb dX10_runs_66 (by decide) ?_
          refine lv_istore_n (lv' := [(3, .int (-1)), (2, .int u17), (1, .int u18), (0, .ref h0)]) hx hb dX10_runs_67 rfl hl (by decide) rfl (fun ls hl => ?_)
          refine lv_iload_n hx hb dX10_runs_68 rfl (lv_at hl 0 rfl) ?_
          refine lv_if_ge (tgt := 74) hx hb dX10_runs_69 (by decide) (fun g => absurd g (by decide)) (fun _ => ?_)
          refine lv_iconst (v := (-1)) hx hb dX10_runs_72 (by decide) ?_
          exact ret_i (v := (-1)) hx hb hr hlocks hS (hP.sub (ws' := [(h0, .inr (10, vL 67 G22)), (h_tape, .inl (cB, 940, .inl f_tape)), (h_s, .inl (cI, 335, .inl w31)), (h_paceAt, .inl (cI, 40, .inl w19)), (h_kindOf, .inl (cI, 4, .inl w20)), (h_behindAt, .inl (cI, 12, .inl w21))]) [4, 5, 3, 0, 1, 2] rfl) (hD.sub (ws' := [(h0, .inr (10, vL 67 G22)), (h_tape, .inl (cB, 940, .inl f_tape)), (h_s, .inl (cI, 335, .inl w31)), (h_paceAt, .inl (cI, 40, .inl w19)), (h_kindOf, .inl (cI, 4, .inl w20)), (h_behindAt, .inl (cI, 12, .inl w21))]) [4, 5, 3, 0, 1, 2] (by decide) rfl) dX10_runs_73 rfl (Nat.le_of_ble_eq_true rfl) (Nat.le_of_ble_eq_true rfl) ⟨G22, u23, u24, u25, u26, u27, u28, u29, u30, w31, w19, w20, w21, (SAME.tr (SAME.tr (SAME.up eF1 SAME.rf (by decide)) t5 (by decide)) i49 (by decide)), (SAME.at i49 (by decide) (SAME.at t5 (by decide) (get_eq eF1))), (SAME.at i49 (by decide) t6), (SAME.at i49 (by decide) t7), (SAME.at i49 (by decide) t8), (SAME.at i49 (by decide) t9), i50, i51, i52, i58, i53, i59, i54, i55, i60, i56, i57, i68, i63, i70, i71, i72, i69, i61, i64, i65, i66, i67, i62, rfl⟩
        · have hP : va_P D vwCl [(h_paceAt, .inl (cI, 40, .inl w19)), (h_kindOf, .inl (cI, 4, .inl w20)), (h_behindAt, .inl (cI, 12, .inl w21)), (h_s, .inl (cI, 335, .inl w31)), (h0, .inr (10, vL 67 G22)), (h_tape, .inl (cB, 940, .inl f_tape))] H := hP
          have hD : va_D A [(h_paceAt, .inl (cI, 40, .inl w19)), (h_kindOf, .inl (cI, 4, .inl w20)), (h_behindAt, .inl (cI, 12, .inl w21)), (h_s, .inl (cI, 335, .inl w31)), (h0, .inr (10, vL 67 G22)), (h_tape, .inl (cB, 940, .inl f_tape))] := hD
          refine W.widen (k := 0) (n := 0) (Nat.le_of_ble_eq_true rfl) (Nat.le_of_ble_eq_true rfl) ?_
          have k90 : 1 ≤ r79.toInt ∧ r79.toInt ≤ 255 := ⟨Int.le_trans (Int.le_refl _) t84, t80.2⟩
          have k91 : 61 ≤ r79.toInt ∧ r79.toInt ≤ 255 := ⟨lo_lt t85 (Int.le_refl _) (by decide), k90.2⟩
          refine lv_if_eq (tgt := 66) hx hb dX10_runs_49 (by decide) (fun _ => ?_) (fun g => absurd (by decide) g)
          refine lv_iconst (v := (-1)) hx hb dX10_runs_66 (by decide) ?_
          refine lv_istore_n (lv' := [(3, .int (-1)), (2, .int u17), (1, .int u18), (0, .ref h0)]) hx hb dX10_runs_67 rfl hl (by decide) rfl (fun ls hl => ?_)
          refine lv_iload_n hx hb dX10_runs_68 rfl (lv_at hl 0 rfl) ?_
          refine lv_if_ge (tgt := 74) hx hb dX10_runs_69 (by decide) (fun g => absurd g (by decide)) (fun _ => ?_)
          refine lv_iconst (v := (-1)) hx hb dX10_runs_72 (by decide) ?_
          exact ret_i (v := (-1)) hx hb hr hlocks hS (hP.sub (ws' := [(h0, .inr (10, vL 67 G22)), (h_tape, .inl (cB, 940, .inl f_tape)), (h_s, .inl (cI, 335, .inl w31)), (h_paceAt, .inl (cI, 40, .inl w19)), (h_kindOf, .inl (cI, 4, .inl w20)), (h_behindAt, .inl (cI, 12, .inl w21))]) [4, 5, 3, 0, 1, 2] rfl) (hD.sub (ws' := [(h0, .inr (10, vL 67 G22)), (h_tape, .inl (cB, 940, .inl f_tape)), (h_s, .inl (cI, 335, .inl w31)), (h_paceAt, .inl (cI, 40, .inl w19)), (h_kindOf, .inl (cI, 4, .inl w20)), (h_behindAt, .inl (cI, 12, .inl w21))]) [4, 5, 3, 0, 1, 2] (by decide) rfl) dX10_runs_73 rfl (Nat.le_of_ble_eq_true rfl) (Nat.le_of_ble_eq_true rfl) ⟨G22, u23, u24, u25, u26, u27, u28, u29, u30, w31, w19, w20, w21, (SAME.tr (SAME.tr (SAME.up eF1 SAME.rf (by decide)) t5 (by decide)) i49 (by decide)), (SAME.at i49 (by decide) (SAME.at t5 (by decide) (get_eq eF1))), (SAME.at i49 (by decide) t6), (SAME.at i49 (by decide) t7), (SAME.at i49 (by decide) t8), (SAME.at i49 (by decide) t9), i50, i51, i52, i58, i53, i59, i54, i55, i60, i56, i57, i68, i63, i70, i71, i72, i69, i61, i64, i65, i66, i67, i62, rfl⟩
        · have hP : va_P D vwCl [(h_paceAt, .inl (cI, 40, .inl w19)), (h_kindOf, .inl (cI, 4, .inl w20)), (h_behindAt, .inl (cI, 12, .inl w21)), (h_s, .inl (cI, 335, .inl w31)), (h0, .inr (10, vL 67 G22)), (h_tape, .inl (cB, 940, .inl f_tape))] H := hP
          have hD : va_D A [(h_paceAt, .inl (cI, 40, .inl w19)), (h_kindOf, .inl (cI, 4, .inl w20)), (h_behindAt, .inl (cI, 12, .inl w21)), (h_s, .inl (cI, 335, .inl w31)), (h0, .inr (10, vL 67 G22)), (h_tape, .inl (cB, 940, .inl f_tape))] := hD
          refine W.widen (k := 0) (n := 0) (Nat.le_of_ble_eq_true rfl) (Nat.le_of_ble_eq_true rfl) ?_
          have k92 : 1 ≤ r79.toInt ∧ r79.toInt ≤ 255 := ⟨Int.le_trans (Int.le_refl _) t86, t80.2⟩
          have k93 : 1 ≤ r79.toInt ∧ r79.toInt ≤ 60 := ⟨k92.1, Int.le_trans t87 (Int.le_refl _)⟩
          refine lv_if_eq (tgt := 66) hx hb dX10_runs_49 (by decide) (fun g => absurd g (by decide)) (fun _ => ?_)
          refine lv_aload_n hx hb dX10_runs_52 rfl (lv_at hl 2 rfl) ?_
          refine lv_bipush (v := 115) hx hb dX10_runs_53 (by decide) ?_
          refine lv_aload_n hx hb dX10_runs_55 rfl (lv_at hl 2 rfl) ?_
          refine lv_iload_n hx hb dX10_runs_56 rfl (lv_at hl 0 rfl) ?_
          refine call_Vi (wr := [(h_paceAt, .inl (cI, 40, .inl w19)), (h_kindOf, .inl (cI, 4, .inl w20)), (h_behindAt, .inl (cI, 12, .inl w21)), (h_s, .inl (cI, 335, .inl w31))]) (As := [.int u17]) (rest := [.int 115, .ref h0]) hx hb hml hown hw (m_X10_octet l D cI cJ cB cP cM cZ h0 h_tape G22 f_tape u17 _ n78 (ir_wk k75 (by decide) (by decide))) wV_X10_435_X10_octet dX10_runs_57 hK hP hD hS hA [4, 5] [0, 1, 2, 3] rfl rfl (by decide) (by decide) (by decide) 0 10 rfl rfl GG.fb hG.at hl.1 rfl (Nat.le_of_ble_eq_true rfl) ⟨(Nat.le_of_ble_eq_true rfl), (Nat.le_of_ble_eq_true rfl)⟩ ⟨(Nat.le_of_ble_eq_true rfl), (Nat.le_of_ble_eq_true rfl)⟩ (fun r94 u H locs hp hP hD hS => ?_)
          obtain ⟨t95, rfl⟩ := hp
          have hP : va_P D vwCl [(h_paceAt, .inl (cI, 40, .inl w19)), (h_kindOf, .inl (cI, 4, .inl w20)), (h_behindAt, .inl (cI, 12, .inl w21)), (h_s, .inl (cI, 335, .inl w31)), (h0, .inr (10, vL 67 G22)), (h_tape, .inl (cB, 940, .inl f_tape))] H := hP
          have hD : va_D A [(h_paceAt, .inl (cI, 40, .inl w19)), (h_kindOf, .inl (cI, 4, .inl w20)), (h_behindAt, .inl (cI, 12, .inl w21)), (h_s, .inl (cI, 335, .inl w31)), (h0, .inr (10, vL 67 G22)), (h_tape, .inl (cB, 940, .inl f_tape))] := hD
          refine W.widen (k := 0) (n := 0) (Nat.le_of_ble_eq_true rfl) (Nat.le_of_ble_eq_true rfl) ?_
          have n97 : G22 6 = .ref h_s := (SAME.at i49 (by decide) n12)
          have n98 : F1 25 = .ref h_paceAt := (get_ne eF1 (by decide) e_paceAt)
          have n99 : F4 25 = .ref h_paceAt := (SAME.at t5 (by decide) n98)
          have n100 : G22 25 = .ref h_paceAt := (SAME.at i49 (by decide) n99)
          have n101 : F1 26 = .ref h_kindOf := (get_ne eF1 (by decide) e_kindOf)
          have n102 : F4 26 = .ref h_kindOf := (SAME.at t5 (by decide) n101)
          have n103 : G22 26 = .ref h_kindOf := (SAME.at i49 (by decide) n102)
          have n104 : F1 32 = .int x_kicks := (get_ne eF1 (by decide) e_kicks)
          have n105 : F4 32 = .int x_kicks := (SAME.at t5 (by decide) n104)
          have n106 : G22 32 = .int x_kicks := (SAME.at i49 (by decide) n105)
          have n107 : F1 33 = .ref h_behindAt := (get_ne eF1 (by decide) e_behindAt)
          have n108 : F4 33 = .ref h_behindAt := (SAME.at t5 (by decide) n107)
          have n109 : G22 33 = .ref h_behindAt := (SAME.at i49 (by decide) n108)
          have n110 : F1 37 = .int x_touchBend := (get_ne eF1 (by decide) e_touchBend)
          have n111 : F4 37 = .int x_touchBend := (SAME.at t5 (by decide) n110)
          have n112 : G22 37 = .int x_touchBend := (SAME.at i49 (by decide) n111)
          have n113 : F1 38 = .int x_touchBy := (get_ne eF1 (by decide) e_touchBy)
          have n114 : F4 38 = .int x_touchBy := (SAME.at t5 (by decide) n113)
          have n115 : G22 38 = .int x_touchBy := (SAME.at i49 (by decide) n114)
          refine call_Vi (wr := [(h_tape, .inl (cB, 940, .inl f_tape))]) (As := [.int 115, .int r94]) (rest := []) hx hb hml hown hw (m_X10_timeWith l D cI cJ cB cP cM cZ h0 h_s h_paceAt h_kindOf h_behindAt G22 u27 x_kicks x_touchBend x_touchBy w31 w19 w20 w21 115 r94 bs _ n97 n100 n103 i54 n106 i_x_kicks n109 n112 n115 i_x_touchBy i61 i62 i63 i64 i65 i66 i67 i68 i69 i70 i71 i72 (show 113 ≤ (115 : Int32).toInt ∧ (115 : Int32).toInt ≤ 115 by decide) (by have z0 : (115 : Int32).toInt = 115 := rfl; omega)) wV_X10_429_X10_timeWith dX10_runs_60 hK hP hD hS hA [4, 3, 0, 1, 2] [5] rfl rfl (by decide) (by decide) (by decide) 0 10 rfl rfl GG.fb hG.at hl.1 rfl (Nat.le_of_ble_eq_true rfl) ⟨(Nat.le_of_ble_eq_true rfl), (Nat.le_of_ble_eq_true rfl)⟩ ⟨(Nat.le_of_ble_eq_true rfl), (Nat.le_of_ble_eq_true rfl)⟩ (fun r116 u H locs hp hP hD hS => ?_)
          have zl115 : (115 : Int32).toInt = 115 := by decide
          refine hp.elim (fun F117 h9z0 => h9z0.elim (fun y118 h9z1 => h9z1.elim (fun y119 h9z2 => h9z2.elim (fun y120 h9z3 => h9z3.elim (fun y121 h9z4 => h9z4.elim (fun y122 h9z5 => h9z5.elim (fun y123 h9z6 => h9z6.elim (fun y124 h9z7 => h9z7.elim (fun y125 h9z8 => h9z8.elim (fun g126 h9z9 => h9z9.elim (fun g127 h9z10 => h9z10.elim (fun g128 h9z11 => h9z11.elim (fun g129 h9z12 => h9z12.elim (fun t130 h9z13 => h9z13.elim (fun t131 h9z14 => h9z14.elim (fun t132 h9z15 => h9z15.elim (fun t133 h9z16 => h9z16.elim (fun t134 h9z17 => h9z17.elim (fun t135 h9z18 => h9z18.elim (fun t136 h9z19 => h9z19.elim (fun t137 h9z20 => h9z20.elim (fun t138 h9z21 => h9z21.elim (fun t139 h9z22 => h9z22.elim (fun t140 h9z23 => h9z23.elim (fun t141 h9z24 => h9z24.elim (fun t142 h9z25 => h9z25.elim (fun t143 h9z26 => h9z26.elim (fun t144 h9z27 => h9z27.elim (fun t145 h9z28 => h9z28.elim (fun t146 h9z29 => h9z29.elim (fun t147 h9z30 => h9z30.elim (fun t148 h9z31 => h9z31.elim (fun t149 h9z32 => h9z32.elim (fun t150 h9z33 => h9z33.elim (fun t151 h9z34 => h9z34.elim (fun t152 h9z35 => h9z35.elim (fun t153 h9z36 => h9z36.elim (fun t154 h9z37 => h9z37.elim (fun t155 h9z38 => ?_)))))))))))))))))))))))))))))))))))))))
          clear h9z0 h9z1 h9z2 h9z3 h9z4 h9z5 h9z6 h9z7 h9z8 h9z9 h9z10 h9z11 h9z12 h9z13 h9z14 h9z15 h9z16 h9z17 h9z18 h9z19 h9z20 h9z21 h9z22 h9z23 h9z24 h9z25 h9z26 h9z27 h9z28 h9z29 h9z30 h9z31 h9z32 h9z33 h9z34 h9z35 h9z36 h9z37
          subst h9z38
          have hP : va_P D vwCl [(h_tape, .inl (cB, 940, .inl f_tape)), (h0, .inr (10, vL 67 F117)), (h_s, .inl (cI, 335, .inl g126)), (h_paceAt, .inl (cI, 40, .inl g127)), (h_kindOf, .inl (cI, 4, .inl g128)), (h_behindAt, .inl (cI, 12, .inl g129))] H := hP
          have hD : va_D A [(h_tape, .inl (cB, 940, .inl f_tape)), (h0, .inr (10, vL 67 F117)), (h_s, .inl (cI, 335, .inl g126)), (h_paceAt, .inl (cI, 40, .inl g127)), (h_kindOf, .inl (cI, 4, .inl g128)), (h_behindAt, .inl (cI, 12, .inl g129))] := hD
          refine W.widen (k := 0) (n := 0) (Nat.le_of_ble_eq_true rfl) (Nat.le_of_ble_eq_true rfl) ?_
          refine lv_goto (tgt := 67) hx hb dX10_runs_63 (by decide) ?_
          refine lv_istore_n (lv' := [(3, .int r116), (2, .int u17), (1, .int u18), (0, .ref h0)]) hx hb dX10_runs_67 rfl hl (by decide) rfl (fun ls hl => ?_)
          refine lv_iload_n hx hb dX10_runs_68 rfl (lv_at hl 0 rfl) ?_
          refine lv_if_ge (tgt := 74) hx hb dX10_runs_69 (by decide) (fun c157 => ?_) (fun c157 => ?_)
          · have dc157 : 0 ≤ r116.toInt := le_i (a := 0) (b := r116.toInt) rfl rfl c157
            have k158 : 0 ≤ r116.toInt ∧ r116.toInt ≤ 2147483647 := ⟨Int.le_trans (Int.le_refl _) dc157, (ir_any _).2⟩
            refine lv_iload_n hx hb dX10_runs_74 rfl (lv_at hl 2 rfl) ?_
            refine lv_iload_n hx hb dX10_runs_75 rfl (lv_at hl 0 rfl) ?_
            refine lv_iadd hx hb dX10_runs_76 ?_
            refine lv_topi (fun v159 ev159 => ?_)
            refine lv_istore_n (lv' := [(1, .int v159), (3, .int r116), (2, .int u17), (0, .ref h0)]) hx hb dX10_runs_77 rfl hl (by decide) rfl (fun ls hl => ?_)
            obtain ⟨v160, ev160⟩ : ∃ z : Int32, z = u17 + 1 := ⟨_, rfl⟩
            have bv160 : v160.toInt = u17.toInt + 1 := by rw [ev160]; exact add_k rfl rfl k75 ⟨Int.le_refl _, Int.le_refl _⟩ (by decide)
            have k161 : 1 ≤ v160.toInt ∧ v160.toInt ≤ 4 := add_r bv160 k75 ⟨Int.le_refl _, Int.le_refl _⟩ (by decide)
            refine lv_iinc (v := v160) (lv' := [(2, .int v160), (1, .int v159), (3, .int r116), (0, .ref h0)]) hx hb dX10_runs_78 hl (k := 2) rfl (by rw [ev160]; rfl) (by decide) rfl (fun ls hl => ?_)
            refine lv_goto (tgt := 33) hx hb dX10_runs_81 (by decide) ?_
            exact ih (v160, v159, g127, g128, g129, F117, y118, y119, y120, y121, y122, y123, y124, y125, g126) ⟨(ir_wk k161 (by decide) (by decide)), (SAME.tr (SAME.tr SAME.rf i49 (by decide)) t130 (by decide)), t131, t132, t134, t136, t138, t139, t141, t143, t135, t137, t140, t150, t155, t145, t151, t152, t153, t154, t144, t149, t146, t147, t148⟩ (by show (4 - v160.toInt).toNat < (4 - u17.toInt).toNat; omega) _ _ _ (hP.sub [0, 3, 4, 5, 1, 2] rfl) (hD.sub [0, 3, 4, 5, 1, 2] (by decide) rfl) hS (lv_sub hl [0, 1, 3] rfl)
          · have dc157 : r116.toInt < 0 := nle_i (a := 0) (b := r116.toInt) rfl rfl c157
            have k162 : (-2147483648) ≤ r116.toInt ∧ r116.toInt ≤ (-1) := ⟨(ir_any _).1, up_lt dc157 (Int.le_refl _) (by decide)⟩
            refine lv_iconst (v := (-1)) hx hb dX10_runs_72 (by decide) ?_
            exact ret_i (v := (-1)) hx hb hr hlocks hS (hP.sub (ws' := [(h0, .inr (10, vL 67 F117)), (h_tape, .inl (cB, 940, .inl f_tape)), (h_s, .inl (cI, 335, .inl g126)), (h_paceAt, .inl (cI, 40, .inl g127)), (h_kindOf, .inl (cI, 4, .inl g128)), (h_behindAt, .inl (cI, 12, .inl g129))]) [1, 0, 2, 3, 4, 5] rfl) (hD.sub (ws' := [(h0, .inr (10, vL 67 F117)), (h_tape, .inl (cB, 940, .inl f_tape)), (h_s, .inl (cI, 335, .inl g126)), (h_paceAt, .inl (cI, 40, .inl g127)), (h_kindOf, .inl (cI, 4, .inl g128)), (h_behindAt, .inl (cI, 12, .inl g129))]) [1, 0, 2, 3, 4, 5] (by decide) rfl) dX10_runs_73 rfl (Nat.le_of_ble_eq_true rfl) (Nat.le_of_ble_eq_true rfl) ⟨F117, y118, y119, y120, y121, y122, y123, y124, y125, g126, g127, g128, g129, (SAME.tr (SAME.tr (SAME.tr (SAME.up eF1 SAME.rf (by decide)) t5 (by decide)) i49 (by decide)) t130 (by decide)), (SAME.at t130 (by decide) (SAME.at i49 (by decide) (SAME.at t5 (by decide) (get_eq eF1)))), (SAME.at t130 (by decide) (SAME.at i49 (by decide) t6)), (SAME.at t130 (by decide) (SAME.at i49 (by decide) t7)), (SAME.at t130 (by decide) (SAME.at i49 (by decide) t8)), (SAME.at t130 (by decide) (SAME.at i49 (by decide) t9)), t131, t132, t134, t135, t136, t137, t138, t139, t140, t141, t143, t144, t145, t146, t147, t148, t149, t150, t151, t152, t153, t154, t155, rfl⟩
    · have dc15 : x_length.toInt ≠ 4 := ne_i (a := x_length.toInt) (b := 4) rfl rfl c15
      refine lv_iconst (v := (-1)) hx hb dX10_runs_27 (by decide) ?_
      exact ret_i (v := (-1)) hx hb hr hlocks hS (hP.sub (ws' := [(h0, .inr (10, vL 67 F4)), (h_tape, .inl (cB, 940, .inl f_tape)), (h_s, .inl (cI, 335, .inl f_s)), (h_paceAt, .inl (cI, 40, .inl f_paceAt)), (h_kindOf, .inl (cI, 4, .inl f_kindOf)), (h_behindAt, .inl (cI, 12, .inl f_behindAt))]) [4, 0, 5, 1, 2, 3] rfl) (hD.sub (ws' := [(h0, .inr (10, vL 67 F4)), (h_tape, .inl (cB, 940, .inl f_tape)), (h_s, .inl (cI, 335, .inl f_s)), (h_paceAt, .inl (cI, 40, .inl f_paceAt)), (h_kindOf, .inl (cI, 4, .inl f_kindOf)), (h_behindAt, .inl (cI, 12, .inl f_behindAt))]) [4, 0, 5, 1, 2, 3] (by decide) rfl) dX10_runs_28 rfl (Nat.le_of_ble_eq_true rfl) (Nat.le_of_ble_eq_true rfl) ⟨F4, x_lineTime, x_linePace, x_inside, x_late, x_seed, x_bendsGone, x_overAt, x_endPace, f_s, f_paceAt, f_kindOf, f_behindAt, (SAME.tr (SAME.up eF1 SAME.rf (by decide)) t5 (by decide)), (SAME.at t5 (by decide) (get_eq eF1)), t6, t7, t8, t9, (SAME.at t5 (by decide) (get_ne eF1 (by decide) e_lineTime)), (SAME.at t5 (by decide) (get_ne eF1 (by decide) e_linePace)), (SAME.at t5 (by decide) (get_ne eF1 (by decide) e_inside)), i_x_inside, (SAME.at t5 (by decide) (get_ne eF1 (by decide) e_late)), i_x_late, (SAME.at t5 (by decide) (get_ne eF1 (by decide) e_seed)), (SAME.at t5 (by decide) (get_ne eF1 (by decide) e_bendsGone)), i_x_bendsGone, (SAME.at t5 (by decide) (get_ne eF1 (by decide) e_overAt)), (SAME.at t5 (by decide) (get_ne eF1 (by decide) e_endPace)), s_s_153, s_s_0, s_s_5, s_s_6, s_s_7, s_s_44, s_s_K0, s_s_105, s_s_114, s_s_130, s_s_139, s_s_US, rfl⟩
set_option maxHeartbeats 4000000 in
set_option maxRecDepth 100000 in
theorem m_X10_worth (l : Launch) (D : va_G) (cI cJ cB cP cM cZ : ClassId) (h0 : Nat) (h_s : Nat) (h_paceAt : Nat) (h_kindOf : Nat) (h_behindAt : Nat) (Fh : Nat → Value) (x_lineTime : Int32) (x_linePace : Int32) (x_inside : Int32) (x_late : Int32) (x_seed : Int32) (x_kicks : Int32) (x_bendsGone : Int32) (x_overAt : Int32) (x_endPace : Int32) (x_touchBend : Int32) (x_touchBy : Int32) (f_s : Nat → Int32) (f_paceAt : Nat → Int32) (f_kindOf : Nat → Int32) (f_behindAt : Nat → Int32) (p0 : Int32) (p1 : Int32) (bs : Nat → Int32) (sz : Nat) (e_s : Fh 6 = .ref h_s) (e_paceAt : Fh 25 = .ref h_paceAt) (e_kindOf : Fh 26 = .ref h_kindOf) (e_lineTime : Fh 27 = .int x_lineTime) (e_linePace : Fh 28 = .int x_linePace) (e_inside : Fh 29 = .int x_inside) (i_x_inside : IR 0 15 x_inside) (e_late : Fh 30 = .int x_late) (i_x_late : IR 0 15 x_late) (e_seed : Fh 31 = .int x_seed) (e_kicks : Fh 32 = .int x_kicks) (i_x_kicks : IR 0 1 x_kicks) (e_behindAt : Fh 33 = .ref h_behindAt) (e_bendsGone : Fh 34 = .int x_bendsGone) (i_x_bendsGone : IR 0 12 x_bendsGone) (e_overAt : Fh 35 = .int x_overAt) (e_endPace : Fh 36 = .int x_endPace) (e_touchBend : Fh 37 = .int x_touchBend) (e_touchBy : Fh 38 = .int x_touchBy) (i_x_touchBy : IR 0 99 x_touchBy) (s_s_K0 : KW 0 f_s) (s_s_US : US bs f_s) (s_s_0 : SG 0 0 0 40 f_s) (s_s_105 : SG 105 108 0 11 f_s) (s_s_114 : SG 114 114 0 5 f_s) (s_s_130 : SG 130 133 0 11 f_s) (s_s_139 : SG 139 139 0 5 f_s) (s_s_153 : SG 153 153 0 44 f_s) (s_s_44 : SG 44 55 0 9 f_s) (s_s_5 : SG 5 5 0 12 f_s) (s_s_6 : SG 6 6 0 12 f_s) (s_s_7 : SG 7 7 0 6 f_s) : CI l yX10_worth cX10_worth 3 (some .int) { frames := 6, cells := 0, slots := 0, locals := 139 } (GG D cI cJ cB cP cM cZ) D [(h0, .inr (10, vL 67 Fh)), (h_s, .inl (cI, 335, .inl f_s)), (h_paceAt, .inl (cI, 40, .inl f_paceAt)), (h_kindOf, .inl (cI, 4, .inl f_kindOf)), (h_behindAt, .inl (cI, 12, .inl f_behindAt))] sz [.ref h0, .int p0, .int p1] (fun (r : Int32) (u : va_W) => ∃ (Gh : Nat → Value) (y_lineTime : Int32) (y_linePace : Int32) (y_inside : Int32) (y_late : Int32) (y_seed : Int32) (y_bendsGone : Int32) (y_overAt : Int32) (y_endPace : Int32) (g_s : Nat → Int32) (g_paceAt : Nat → Int32) (g_kindOf : Nat → Int32) (g_behindAt : Nat → Int32), SAME [0, 27, 28, 29, 30, 31, 34, 35, 36] Fh Gh ∧ Gh 0 = .int 0 ∧ Gh 27 = .int y_lineTime ∧ Gh 28 = .int y_linePace ∧ Gh 29 = .int y_inside ∧ IR 0 15 y_inside ∧ Gh 30 = .int y_late ∧ IR 0 15 y_late ∧ Gh 31 = .int y_seed ∧ Gh 34 = .int y_bendsGone ∧ IR 0 12 y_bendsGone ∧ Gh 35 = .int y_overAt ∧ Gh 36 = .int y_endPace ∧ SG 153 153 0 44 g_s ∧ SG 0 0 0 40 g_s ∧ SG 5 5 0 12 g_s ∧ SG 6 6 0 12 g_s ∧ SG 7 7 0 6 g_s ∧ SG 44 55 0 9 g_s ∧ KW 0 g_s ∧ SG 105 108 0 11 g_s ∧ SG 114 114 0 5 g_s ∧ SG 130 133 0 11 g_s ∧ SG 139 139 0 5 g_s ∧ US bs g_s ∧ IR (-2147483647) 2147483647 r ∧ u = [(h0, .inr (10, vL 67 Gh)), (h_s, .inl (cI, 335, .inl g_s)), (h_paceAt, .inl (cI, 40, .inl g_paceAt)), (h_kindOf, .inl (cI, 4, .inl g_kindOf)), (h_behindAt, .inl (cI, 12, .inl g_behindAt))]) := by
  refine CI_mk (by decide) (Nat.le_of_ble_eq_true rfl) ?_
  intro p e s m below meth c A ls E hAe hG hsz hP hD hA hS hl
  obtain ⟨hx, hb, hr, hw, hown, hlocks, hml, hnm⟩ := E
  have hK := hG.1
  have i_x_inside : 0 ≤ x_inside.toInt ∧ x_inside.toInt ≤ 15 := i_x_inside
  have i_x_late : 0 ≤ x_late.toInt ∧ x_late.toInt ≤ 15 := i_x_late
  have i_x_kicks : 0 ≤ x_kicks.toInt ∧ x_kicks.toInt ≤ 1 := i_x_kicks
  have i_x_bendsGone : 0 ≤ x_bendsGone.toInt ∧ x_bendsGone.toInt ≤ 12 := i_x_bendsGone
  have i_x_touchBy : 0 ≤ x_touchBy.toInt ∧ x_touchBy.toInt ≤ 99 := i_x_touchBy
  have hl : lv_has ls 3 [(0, .ref h0), (1, .int p0), (2, .int p1)] := hl
  refine lv_aload_n hx hb dX10_worth_0 rfl (lv_at hl 0 rfl) ?_
  refine lv_iconst (v := 0) hx hb dX10_worth_1 (by decide) ?_
  refine put_f (D := D) (ci := 10) (v := .int 0) (ty := .int) (C := RX10) (T := TX10) (N := 67) hx hb hw inAX10 tyX10 tyX10_ok nmX10 hown hK hP hD hS 0 rfl rfl 0 (by decide) (hw _ q_1261) (fun _ h9 => h9) rfl (by decide +kernel) rfl rfl dX10_worth_2 (fun H locs F1 eF1 hP hD hS => ?_)
  have hP : va_P D vwCl [(h0, .inr (10, vL 67 F1)), (h_s, .inl (cI, 335, .inl f_s)), (h_paceAt, .inl (cI, 40, .inl f_paceAt)), (h_kindOf, .inl (cI, 4, .inl f_kindOf)), (h_behindAt, .inl (cI, 12, .inl f_behindAt))] H := hP
  have hD : va_D A [(h0, .inr (10, vL 67 F1)), (h_s, .inl (cI, 335, .inl f_s)), (h_paceAt, .inl (cI, 40, .inl f_paceAt)), (h_kindOf, .inl (cI, 4, .inl f_kindOf)), (h_behindAt, .inl (cI, 12, .inl f_behindAt))] := hD
  refine lv_aload_n hx hb dX10_worth_5 rfl (lv_at hl 0 rfl) ?_
  have n2 : F1 6 = .ref h_s := (get_ne eF1 (by decide) e_s)
  refine call_Vi (wr := [(h_paceAt, .inl (cI, 40, .inl f_paceAt)), (h_kindOf, .inl (cI, 4, .inl f_kindOf)), (h_behindAt, .inl (cI, 12, .inl f_behindAt))]) (As := []) (rest := []) hx hb hml hown hw (m_X10_hasCrew l D cI cJ cB cP cM cZ h0 h_s F1 f_s bs _ n2 s_s_K0 s_s_US s_s_0 s_s_105 s_s_114 s_s_130 s_s_139 s_s_153 s_s_44 s_s_5 s_s_6 s_s_7) wV_X10_281_X10_hasCrew dX10_worth_6 hK hP hD hS hA [0, 1] [2, 3, 4] rfl rfl (by decide) (by decide) (by decide) 0 10 rfl rfl GG.fb hG.at hl.1 rfl (Nat.le_of_ble_eq_true rfl) ⟨(Nat.le_of_ble_eq_true rfl), (Nat.le_of_ble_eq_true rfl)⟩ ⟨(Nat.le_of_ble_eq_true rfl), (Nat.le_of_ble_eq_true rfl)⟩ (fun r3 u H locs hp hP hD hS => ?_)
  rcases hp with ⟨rfl, rfl⟩ | ⟨rfl, rfl⟩
  · have hP : va_P D vwCl [(h_paceAt, .inl (cI, 40, .inl f_paceAt)), (h_kindOf, .inl (cI, 4, .inl f_kindOf)), (h_behindAt, .inl (cI, 12, .inl f_behindAt)), (h0, .inr (10, vL 67 F1)), (h_s, .inl (cI, 335, .inl f_s))] H := hP
    have hD : va_D A [(h_paceAt, .inl (cI, 40, .inl f_paceAt)), (h_kindOf, .inl (cI, 4, .inl f_kindOf)), (h_behindAt, .inl (cI, 12, .inl f_behindAt)), (h0, .inr (10, vL 67 F1)), (h_s, .inl (cI, 335, .inl f_s))] := hD
    refine W.widen (k := 0) (n := 0) (Nat.le_of_ble_eq_true rfl) (Nat.le_of_ble_eq_true rfl) ?_
    refine lv_if_eq (tgt := 32) hx hb dX10_worth_9 (by decide) (fun _ => ?_) (fun g => absurd (by decide) g)
    refine lv_ldcw hx hb hown (hw _ q_1756) dX10_worth_32 ?_
    exact ret_i (v := (-100001)) hx hb hr hlocks hS (hP.sub (ws' := [(h0, .inr (10, vL 67 F1)), (h_s, .inl (cI, 335, .inl f_s)), (h_paceAt, .inl (cI, 40, .inl f_paceAt)), (h_kindOf, .inl (cI, 4, .inl f_kindOf)), (h_behindAt, .inl (cI, 12, .inl f_behindAt))]) [3, 4, 0, 1, 2] rfl) (hD.sub (ws' := [(h0, .inr (10, vL 67 F1)), (h_s, .inl (cI, 335, .inl f_s)), (h_paceAt, .inl (cI, 40, .inl f_paceAt)), (h_kindOf, .inl (cI, 4, .inl f_kindOf)), (h_behindAt, .inl (cI, 12, .inl f_behindAt))]) [3, 4, 0, 1, 2] (by decide) rfl) dX10_worth_35 rfl (Nat.le_of_ble_eq_true rfl) (Nat.le_of_ble_eq_true rfl) ⟨F1, x_lineTime, x_linePace, x_inside, x_late, x_seed, x_bendsGone, x_overAt, x_endPace, f_s, f_paceAt, f_kindOf, f_behindAt, (SAME.up eF1 SAME.rf (by decide)), (get_eq eF1), (get_ne eF1 (by decide) e_lineTime), (get_ne eF1 (by decide) e_linePace), (get_ne eF1 (by decide) e_inside), i_x_inside, (get_ne eF1 (by decide) e_late), i_x_late, (get_ne eF1 (by decide) e_seed), (get_ne eF1 (by decide) e_bendsGone), i_x_bendsGone, (get_ne eF1 (by decide) e_overAt), (get_ne eF1 (by decide) e_endPace), s_s_153, s_s_0, s_s_5, s_s_6, s_s_7, s_s_44, s_s_K0, s_s_105, s_s_114, s_s_130, s_s_139, s_s_US, (show (-2147483647) ≤ ((-100001) : Int32).toInt ∧ ((-100001) : Int32).toInt ≤ 2147483647 by decide), rfl⟩
  · have hP : va_P D vwCl [(h_paceAt, .inl (cI, 40, .inl f_paceAt)), (h_kindOf, .inl (cI, 4, .inl f_kindOf)), (h_behindAt, .inl (cI, 12, .inl f_behindAt)), (h0, .inr (10, vL 67 F1)), (h_s, .inl (cI, 335, .inl f_s))] H := hP
    have hD : va_D A [(h_paceAt, .inl (cI, 40, .inl f_paceAt)), (h_kindOf, .inl (cI, 4, .inl f_kindOf)), (h_behindAt, .inl (cI, 12, .inl f_behindAt)), (h0, .inr (10, vL 67 F1)), (h_s, .inl (cI, 335, .inl f_s))] := hD
    refine W.widen (k := 0) (n := 0) (Nat.le_of_ble_eq_true rfl) (Nat.le_of_ble_eq_true rfl) ?_
    refine lv_if_eq (tgt := 32) hx hb dX10_worth_9 (by decide) (fun g => absurd g (by decide)) (fun _ => ?_)
    refine lv_iload_n hx hb dX10_worth_12 rfl (lv_at hl 1 rfl) ?_
    refine lv_iconst (v := 1) hx hb dX10_worth_13 (by decide) ?_
    refine lv_bipush (v := 60) hx hb dX10_worth_14 (by decide) ?_
    refine call_Si (wr := [(h_paceAt, .inl (cI, 40, .inl f_paceAt)), (h_kindOf, .inl (cI, 4, .inl f_kindOf)), (h_behindAt, .inl (cI, 12, .inl f_behindAt)), (h0, .inr (10, vL 67 F1)), (h_s, .inl (cI, 335, .inl f_s))]) (As := [.int p0, .int 1, .int 60]) (rest := []) hx hb hml hown hw (m_X10_isIn l D cI cJ cB cP cM cZ p0 1 60 _ ) wS_X10_211_X10_isIn dX10_worth_16 hP hD hS hA [] [0, 1, 2, 3, 4] rfl rfl (by decide) (by decide) (by decide) GG.fb hG.at hl.1 rfl (Nat.le_of_ble_eq_true rfl) ⟨(Nat.le_of_ble_eq_true rfl), (Nat.le_of_ble_eq_true rfl)⟩ ⟨(Nat.le_of_ble_eq_true rfl), (Nat.le_of_ble_eq_true rfl)⟩ (fun r5 u H locs hp hP hD hS => ?_)
    have zl1 : (1 : Int32).toInt = 1 := by decide
    have zl60 : (60 : Int32).toInt = 60 := by decide
    rcases hp with ⟨t6, rfl, rfl⟩ | ⟨t7, t8, rfl, rfl⟩ | ⟨t9, t10, rfl, rfl⟩
    · have hP : va_P D vwCl [(h_paceAt, .inl (cI, 40, .inl f_paceAt)), (h_kindOf, .inl (cI, 4, .inl f_kindOf)), (h_behindAt, .inl (cI, 12, .inl f_behindAt)), (h0, .inr (10, vL 67 F1)), (h_s, .inl (cI, 335, .inl f_s))] H := hP
      have hD : va_D A [(h_paceAt, .inl (cI, 40, .inl f_paceAt)), (h_kindOf, .inl (cI, 4, .inl f_kindOf)), (h_behindAt, .inl (cI, 12, .inl f_behindAt)), (h0, .inr (10, vL 67 F1)), (h_s, .inl (cI, 335, .inl f_s))] := hD
      refine W.widen (k := 0) (n := 0) (Nat.le_of_ble_eq_true rfl) (Nat.le_of_ble_eq_true rfl) ?_
      have k12 : (-2147483648) ≤ p0.toInt ∧ p0.toInt ≤ 0 := ⟨(ir_any _).1, up_lt t6 (Int.le_refl _) (by decide)⟩
      refine lv_if_eq (tgt := 32) hx hb dX10_worth_19 (by decide) (fun _ => ?_) (fun g => absurd (by decide) g)
      refine lv_ldcw hx hb hown (hw _ q_1756) dX10_worth_32 ?_
      exact ret_i (v := (-100001)) hx hb hr hlocks hS (hP.sub (ws' := [(h0, .inr (10, vL 67 F1)), (h_s, .inl (cI, 335, .inl f_s)), (h_paceAt, .inl (cI, 40, .inl f_paceAt)), (h_kindOf, .inl (cI, 4, .inl f_kindOf)), (h_behindAt, .inl (cI, 12, .inl f_behindAt))]) [3, 4, 0, 1, 2] rfl) (hD.sub (ws' := [(h0, .inr (10, vL 67 F1)), (h_s, .inl (cI, 335, .inl f_s)), (h_paceAt, .inl (cI, 40, .inl f_paceAt)), (h_kindOf, .inl (cI, 4, .inl f_kindOf)), (h_behindAt, .inl (cI, 12, .inl f_behindAt))]) [3, 4, 0, 1, 2] (by decide) rfl) dX10_worth_35 rfl (Nat.le_of_ble_eq_true rfl) (Nat.le_of_ble_eq_true rfl) ⟨F1, x_lineTime, x_linePace, x_inside, x_late, x_seed, x_bendsGone, x_overAt, x_endPace, f_s, f_paceAt, f_kindOf, f_behindAt, (SAME.up eF1 SAME.rf (by decide)), (get_eq eF1), (get_ne eF1 (by decide) e_lineTime), (get_ne eF1 (by decide) e_linePace), (get_ne eF1 (by decide) e_inside), i_x_inside, (get_ne eF1 (by decide) e_late), i_x_late, (get_ne eF1 (by decide) e_seed), (get_ne eF1 (by decide) e_bendsGone), i_x_bendsGone, (get_ne eF1 (by decide) e_overAt), (get_ne eF1 (by decide) e_endPace), s_s_153, s_s_0, s_s_5, s_s_6, s_s_7, s_s_44, s_s_K0, s_s_105, s_s_114, s_s_130, s_s_139, s_s_US, (show (-2147483647) ≤ ((-100001) : Int32).toInt ∧ ((-100001) : Int32).toInt ≤ 2147483647 by decide), rfl⟩
    · have hP : va_P D vwCl [(h_paceAt, .inl (cI, 40, .inl f_paceAt)), (h_kindOf, .inl (cI, 4, .inl f_kindOf)), (h_behindAt, .inl (cI, 12, .inl f_behindAt)), (h0, .inr (10, vL 67 F1)), (h_s, .inl (cI, 335, .inl f_s))] H := hP
      have hD : va_D A [(h_paceAt, .inl (cI, 40, .inl f_paceAt)), (h_kindOf, .inl (cI, 4, .inl f_kindOf)), (h_behindAt, .inl (cI, 12, .inl f_behindAt)), (h0, .inr (10, vL 67 F1)), (h_s, .inl (cI, 335, .inl f_s))] := hD
      refine W.widen (k := 0) (n := 0) (Nat.le_of_ble_eq_true rfl) (Nat.le_of_ble_eq_true rfl) ?_
      have k13 : 1 ≤ p0.toInt ∧ p0.toInt ≤ 2147483647 := ⟨Int.le_trans (Int.le_refl _) t7, (ir_any _).2⟩
      have k14 : 61 ≤ p0.toInt ∧ p0.toInt ≤ 2147483647 := ⟨lo_lt t8 (Int.le_refl _) (by decide), k13.2⟩
      refine lv_if_eq (tgt := 32) hx hb dX10_worth_19 (by decide) (fun _ => ?_) (fun g => absurd (by decide) g)
      refine lv_ldcw hx hb hown (hw _ q_1756) dX10_worth_32 ?_
      exact ret_i (v := (-100001)) hx hb hr hlocks hS (hP.sub (ws' := [(h0, .inr (10, vL 67 F1)), (h_s, .inl (cI, 335, .inl f_s)), (h_paceAt, .inl (cI, 40, .inl f_paceAt)), (h_kindOf, .inl (cI, 4, .inl f_kindOf)), (h_behindAt, .inl (cI, 12, .inl f_behindAt))]) [3, 4, 0, 1, 2] rfl) (hD.sub (ws' := [(h0, .inr (10, vL 67 F1)), (h_s, .inl (cI, 335, .inl f_s)), (h_paceAt, .inl (cI, 40, .inl f_paceAt)), (h_kindOf, .inl (cI, 4, .inl f_kindOf)), (h_behindAt, .inl (cI, 12, .inl f_behindAt))]) [3, 4, 0, 1, 2] (by decide) rfl) dX10_worth_35 rfl (Nat.le_of_ble_eq_true rfl) (Nat.le_of_ble_eq_true rfl) ⟨F1, x_lineTime, x_linePace, x_inside, x_late, x_seed, x_bendsGone, x_overAt, x_endPace, f_s, f_paceAt, f_kindOf, f_behindAt, (SAME.up eF1 SAME.rf (by decide)), (get_eq eF1), (get_ne eF1 (by decide) e_lineTime), (get_ne eF1 (by decide) e_linePace), (get_ne eF1 (by decide) e_inside), i_x_inside, (get_ne eF1 (by decide) e_late), i_x_late, (get_ne eF1 (by decide) e_seed), (get_ne eF1 (by decide) e_bendsGone), i_x_bendsGone, (get_ne eF1 (by decide) e_overAt), (get_ne eF1 (by decide) e_endPace), s_s_153, s_s_0, s_s_5, s_s_6, s_s_7, s_s_44, s_s_K0, s_s_105, s_s_114, s_s_130, s_s_139, s_s_US, (show (-2147483647) ≤ ((-100001) : Int32).toInt ∧ ((-100001) : Int32).toInt ≤ 2147483647 by decide), rfl⟩
    · have hP : va_P D vwCl [(h_paceAt, .inl (cI, 40, .inl f_paceAt)), (h_kindOf, .inl (cI, 4, .inl f_kindOf)), (h_behindAt, .inl (cI, 12, .inl f_behindAt)), (h0, .inr (10, vL 67 F1)), (h_s, .inl (cI, 335, .inl f_s))] H := hP
      have hD : va_D A [(h_paceAt, .inl (cI, 40, .inl f_paceAt)), (h_kindOf, .inl (cI, 4, .inl f_kindOf)), (h_behindAt, .inl (cI, 12, .inl f_behindAt)), (h0, .inr (10, vL 67 F1)), (h_s, .inl (cI, 335, .inl f_s))] := hD
      refine W.widen (k := 0) (n := 0) (Nat.le_of_ble_eq_true rfl) (Nat.le_of_ble_eq_true rfl) ?_
      have k15 : 1 ≤ p0.toInt ∧ p0.toInt ≤ 2147483647 := ⟨Int.le_trans (Int.le_refl _) t9, (ir_any _).2⟩
      have k16 : 1 ≤ p0.toInt ∧ p0.toInt ≤ 60 := ⟨k15.1, Int.le_trans t10 (Int.le_refl _)⟩
      refine lv_if_eq (tgt := 32) hx hb dX10_worth_19 (by decide) (fun g => absurd g (by decide)) (fun _ => ?_)
      refine lv_iload_n hx hb dX10_worth_22 rfl (lv_at hl 2 rfl) ?_
      refine lv_iconst (v := 1) hx hb dX10_worth_23 (by decide) ?_
      refine lv_bipush (v := 60) hx hb dX10_worth_24 (by decide) ?_
      refine call_Si (wr := [(h_paceAt, .inl (cI, 40, .inl f_paceAt)), (h_kindOf, .inl (cI, 4, .inl f_kindOf)), (h_behindAt, .inl (cI, 12, .inl f_behindAt)), (h0, .inr (10, vL 67 F1)), (h_s, .inl (cI, 335, .inl f_s))]) (As := [.int p1, .int 1, .int 60]) (rest := []) hx hb hml hown hw (m_X10_isIn l D cI cJ cB cP cM cZ p1 1 60 _ ) wS_X10_211_X10_isIn dX10_worth_26 hP hD hS hA [] [0, 1, 2, 3, 4] rfl rfl (by decide) (by decide) (by decide) GG.fb hG.at hl.1 rfl (Nat.le_of_ble_eq_true rfl) ⟨(Nat.le_of_ble_eq_true rfl), (Nat.le_of_ble_eq_true rfl)⟩ ⟨(Nat.le_of_ble_eq_true rfl), (Nat.le_of_ble_eq_true rfl)⟩ (fun r17 u H locs hp hP hD hS => ?_)
      rcases hp with ⟨t18, rfl, rfl⟩ | ⟨t19, t20, rfl, rfl⟩ | ⟨t21, t22, rfl, rfl⟩
      · have hP : va_P D vwCl [(h_paceAt, .inl (cI, 40, .inl f_paceAt)), (h_kindOf, .inl (cI, 4, .inl f_kindOf)), (h_behindAt, .inl (cI, 12, .inl f_behindAt)), (h0, .inr (10, vL 67 F1)), (h_s, .inl (cI, 335, .inl f_s))] H := hP
        have hD : va_D A [(h_paceAt, .inl (cI, 40, .inl f_paceAt)), (h_kindOf, .inl (cI, 4, .inl f_kindOf)), (h_behindAt, .inl (cI, 12, .inl f_behindAt)), (h0, .inr (10, vL 67 F1)), (h_s, .inl (cI, 335, .inl f_s))] := hD
        refine W.widen (k := 0) (n := 0) (Nat.le_of_ble_eq_true rfl) (Nat.le_of_ble_eq_true rfl) ?_
        have k24 : (-2147483648) ≤ p1.toInt ∧ p1.toInt ≤ 0 := ⟨(ir_any _).1, up_lt t18 (Int.le_refl _) (by decide)⟩
        refine lv_if_ne (tgt := 36) hx hb dX10_worth_29 (by decide) (fun g => absurd (by decide) g) (fun _ => ?_)
        refine lv_ldcw hx hb hown (hw _ q_1756) dX10_worth_32 ?_
        exact ret_i (v := (-100001)) hx hb hr hlocks hS (hP.sub (ws' := [(h0, .inr (10, vL 67 F1)), (h_s, .inl (cI, 335, .inl f_s)), (h_paceAt, .inl (cI, 40, .inl f_paceAt)), (h_kindOf, .inl (cI, 4, .inl f_kindOf)), (h_behindAt, .inl (cI, 12, .inl f_behindAt))]) [3, 4, 0, 1, 2] rfl) (hD.sub (ws' := [(h0, .inr (10, vL 67 F1)), (h_s, .inl (cI, 335, .inl f_s)), (h_paceAt, .inl (cI, 40, .inl f_paceAt)), (h_kindOf, .inl (cI, 4, .inl f_kindOf)), (h_behindAt, .inl (cI, 12, .inl f_behindAt))]) [3, 4, 0, 1, 2] (by decide) rfl) dX10_worth_35 rfl (Nat.le_of_ble_eq_true rfl) (Nat.le_of_ble_eq_true rfl) ⟨F1, x_lineTime, x_linePace, x_inside, x_late, x_seed, x_bendsGone, x_overAt, x_endPace, f_s, f_paceAt, f_kindOf, f_behindAt, (SAME.up eF1 SAME.rf (by decide)), (get_eq eF1), (get_ne eF1 (by decide) e_lineTime), (get_ne eF1 (by decide) e_linePace), (get_ne eF1 (by decide) e_inside), i_x_inside, (get_ne eF1 (by decide) e_late), i_x_late, (get_ne eF1 (by decide) e_seed), (get_ne eF1 (by decide) e_bendsGone), i_x_bendsGone, (get_ne eF1 (by decide) e_overAt), (get_ne eF1 (by decide) e_endPace), s_s_153, s_s_0, s_s_5, s_s_6, s_s_7, s_s_44, s_s_K0, s_s_105, s_s_114, s_s_130, s_s_139, s_s_US, (show (-2147483647) ≤ ((-100001) : Int32).toInt ∧ ((-100001) : Int32).toInt ≤ 2147483647 by decide), rfl⟩
      · have hP : va_P D vwCl [(h_paceAt, .inl (cI, 40, .inl f_paceAt)), (h_kindOf, .inl (cI, 4, .inl f_kindOf)), (h_behindAt, .inl (cI, 12, .inl f_behindAt)), (h0, .inr (10, vL 67 F1)), (h_s, .inl (cI, 335, .inl f_s))] H := hP
        have hD : va_D A [(h_paceAt, .inl (cI, 40, .inl f_paceAt)), (h_kindOf, .inl (cI, 4, .inl f_kindOf)), (h_behindAt, .inl (cI, 12, .inl f_behindAt)), (h0, .inr (10, vL 67 F1)), (h_s, .inl (cI, 335, .inl f_s))] := hD
        refine W.widen (k := 0) (n := 0) (Nat.le_of_ble_eq_true rfl) (Nat.le_of_ble_eq_true rfl) ?_
        have k25 : 1 ≤ p1.toInt ∧ p1.toInt ≤ 2147483647 := ⟨Int.le_trans (Int.le_refl _) t19, (ir_any _).2⟩
        have k26 : 61 ≤ p1.toInt ∧ p1.toInt ≤ 2147483647 := ⟨lo_lt t20 (Int.le_refl _) (by decide), k25.2⟩
        refine lv_if_ne (tgt := 36) hx hb dX10_worth_29 (by decide) (fun g => absurd (by decide) g) (fun _ => ?_)
        refine lv_ldcw hx hb hown (hw _ q_1756) dX10_worth_32 ?_
        exact ret_i (v := (-100001)) hx hb hr hlocks hS (hP.sub (ws' := [(h0, .inr (10, vL 67 F1)), (h_s, .inl (cI, 335, .inl f_s)), (h_paceAt, .inl (cI, 40, .inl f_paceAt)), (h_kindOf, .inl (cI, 4, .inl f_kindOf)), (h_behindAt, .inl (cI, 12, .inl f_behindAt))]) [3, 4, 0, 1, 2] rfl) (hD.sub (ws' := [(h0, .inr (10, vL 67 F1)), (h_s, .inl (cI, 335, .inl f_s)), (h_paceAt, .inl (cI, 40, .inl f_paceAt)), (h_kindOf, .inl (cI, 4, .inl f_kindOf)), (h_behindAt, .inl (cI, 12, .inl f_behindAt))]) [3, 4, 0, 1, 2] (by decide) rfl) dX10_worth_35 rfl (Nat.le_of_ble_eq_true rfl) (Nat.le_of_ble_eq_true rfl) ⟨F1, x_lineTime, x_linePace, x_inside, x_late, x_seed, x_bendsGone, x_overAt, x_endPace, f_s, f_paceAt, f_kindOf, f_behindAt, (SAME.up eF1 SAME.rf (by decide)), (get_eq eF1), (get_ne eF1 (by decide) e_lineTime), (get_ne eF1 (by decide) e_linePace), (get_ne eF1 (by decide) e_inside), i_x_inside, (get_ne eF1 (by decide) e_late), i_x_late, (get_ne eF1 (by decide) e_seed), (get_ne eF1 (by decide) e_bendsGone), i_x_bendsGone, (get_ne eF1 (by decide) e_overAt), (get_ne eF1 (by decide) e_endPace), s_s_153, s_s_0, s_s_5, s_s_6, s_s_7, s_s_44, s_s_K0, s_s_105, s_s_114, s_s_130, s_s_139, s_s_US, (show (-2147483647) ≤ ((-100001) : Int32).toInt ∧ ((-100001) : Int32).toInt ≤ 2147483647 by decide), rfl⟩
      · have hP : va_P D vwCl [(h_paceAt, .inl (cI, 40, .inl f_paceAt)), (h_kindOf, .inl (cI, 4, .inl f_kindOf)), (h_behindAt, .inl (cI, 12, .inl f_behindAt)), (h0, .inr (10, vL 67 F1)), (h_s, .inl (cI, 335, .inl f_s))] H := hP
        have hD : va_D A [(h_paceAt, .inl (cI, 40, .inl f_paceAt)), (h_kindOf, .inl (cI, 4, .inl f_kindOf)), (h_behindAt, .inl (cI, 12, .inl f_behindAt)), (h0, .inr (10, vL 67 F1)), (h_s, .inl (cI, 335, .inl f_s))] := hD
        refine W.widen (k := 0) (n := 0) (Nat.le_of_ble_eq_true rfl) (Nat.le_of_ble_eq_true rfl) ?_
        have k27 : 1 ≤ p1.toInt ∧ p1.toInt ≤ 2147483647 := ⟨Int.le_trans (Int.le_refl _) t21, (ir_any _).2⟩
        have k28 : 1 ≤ p1.toInt ∧ p1.toInt ≤ 60 := ⟨k27.1, Int.le_trans t22 (Int.le_refl _)⟩
        refine lv_if_ne (tgt := 36) hx hb dX10_worth_29 (by decide) (fun _ => ?_) (fun g => absurd g (by decide))
        refine lv_aload_n hx hb dX10_worth_36 rfl (lv_at hl 0 rfl) ?_
        refine lv_bipush (v := 115) hx hb dX10_worth_37 (by decide) ?_
        refine lv_iload_n hx hb dX10_worth_39 rfl (lv_at hl 2 rfl) ?_
        have n29 : F1 25 = .ref h_paceAt := (get_ne eF1 (by decide) e_paceAt)
        have n30 : F1 26 = .ref h_kindOf := (get_ne eF1 (by decide) e_kindOf)
        have n31 : F1 31 = .int x_seed := (get_ne eF1 (by decide) e_seed)
        have n32 : F1 32 = .int x_kicks := (get_ne eF1 (by decide) e_kicks)
        have n33 : F1 33 = .ref h_behindAt := (get_ne eF1 (by decide) e_behindAt)
        have n34 : F1 37 = .int x_touchBend := (get_ne eF1 (by decide) e_touchBend)
        have n35 : F1 38 = .int x_touchBy := (get_ne eF1 (by decide) e_touchBy)
        refine call_Vi (wr := []) (As := [.int 115, .int p1]) (rest := []) hx hb hml hown hw (m_X10_timeWith l D cI cJ cB cP cM cZ h0 h_s h_paceAt h_kindOf h_behindAt F1 x_seed x_kicks x_touchBend x_touchBy f_s f_paceAt f_kindOf f_behindAt 115 p1 bs _ n2 n29 n30 n31 n32 i_x_kicks n33 n34 n35 i_x_touchBy s_s_K0 s_s_US s_s_0 s_s_105 s_s_114 s_s_130 s_s_139 s_s_153 s_s_44 s_s_5 s_s_6 s_s_7 (show 113 ≤ (115 : Int32).toInt ∧ (115 : Int32).toInt ≤ 115 by decide) (by have z0 : (115 : Int32).toInt = 115 := rfl; omega)) wV_X10_429_X10_timeWith dX10_worth_40 hK hP hD hS hA [3, 4, 0, 1, 2] [] rfl rfl (by decide) (by decide) (by decide) 0 10 rfl rfl GG.fb hG.at hl.1 rfl (Nat.le_of_ble_eq_true rfl) ⟨(Nat.le_of_ble_eq_true rfl), (Nat.le_of_ble_eq_true rfl)⟩ ⟨(Nat.le_of_ble_eq_true rfl), (Nat.le_of_ble_eq_true rfl)⟩ (fun r36 u H locs hp hP hD hS => ?_)
        have zl115 : (115 : Int32).toInt = 115 := by decide
        refine hp.elim (fun F37 h9z0 => h9z0.elim (fun y38 h9z1 => h9z1.elim (fun y39 h9z2 => h9z2.elim (fun y40 h9z3 => h9z3.elim (fun y41 h9z4 => h9z4.elim (fun y42 h9z5 => h9z5.elim (fun y43 h9z6 => h9z6.elim (fun y44 h9z7 => h9z7.elim (fun y45 h9z8 => h9z8.elim (fun g46 h9z9 => h9z9.elim (fun g47 h9z10 => h9z10.elim (fun g48 h9z11 => h9z11.elim (fun g49 h9z12 => h9z12.elim (fun t50 h9z13 => h9z13.elim (fun t51 h9z14 => h9z14.elim (fun t52 h9z15 => h9z15.elim (fun t53 h9z16 => h9z16.elim (fun t54 h9z17 => h9z17.elim (fun t55 h9z18 => h9z18.elim (fun t56 h9z19 => h9z19.elim (fun t57 h9z20 => h9z20.elim (fun t58 h9z21 => h9z21.elim (fun t59 h9z22 => h9z22.elim (fun t60 h9z23 => h9z23.elim (fun t61 h9z24 => h9z24.elim (fun t62 h9z25 => h9z25.elim (fun t63 h9z26 => h9z26.elim (fun t64 h9z27 => h9z27.elim (fun t65 h9z28 => h9z28.elim (fun t66 h9z29 => h9z29.elim (fun t67 h9z30 => h9z30.elim (fun t68 h9z31 => h9z31.elim (fun t69 h9z32 => h9z32.elim (fun t70 h9z33 => h9z33.elim (fun t71 h9z34 => h9z34.elim (fun t72 h9z35 => h9z35.elim (fun t73 h9z36 => h9z36.elim (fun t74 h9z37 => h9z37.elim (fun t75 h9z38 => ?_)))))))))))))))))))))))))))))))))))))))
        clear h9z0 h9z1 h9z2 h9z3 h9z4 h9z5 h9z6 h9z7 h9z8 h9z9 h9z10 h9z11 h9z12 h9z13 h9z14 h9z15 h9z16 h9z17 h9z18 h9z19 h9z20 h9z21 h9z22 h9z23 h9z24 h9z25 h9z26 h9z27 h9z28 h9z29 h9z30 h9z31 h9z32 h9z33 h9z34 h9z35 h9z36 h9z37
        subst h9z38
        have hP : va_P D vwCl [(h0, .inr (10, vL 67 F37)), (h_s, .inl (cI, 335, .inl g46)), (h_paceAt, .inl (cI, 40, .inl g47)), (h_kindOf, .inl (cI, 4, .inl g48)), (h_behindAt, .inl (cI, 12, .inl g49))] H := hP
        have hD : va_D A [(h0, .inr (10, vL 67 F37)), (h_s, .inl (cI, 335, .inl g46)), (h_paceAt, .inl (cI, 40, .inl g47)), (h_kindOf, .inl (cI, 4, .inl g48)), (h_behindAt, .inl (cI, 12, .inl g49))] := hD
        refine W.widen (k := 0) (n := 0) (Nat.le_of_ble_eq_true rfl) (Nat.le_of_ble_eq_true rfl) ?_
        refine lv_aload_n hx hb dX10_worth_43 rfl (lv_at hl 0 rfl) ?_
        refine lv_bipush (v := 115) hx hb dX10_worth_44 (by decide) ?_
        refine lv_iload_n hx hb dX10_worth_46 rfl (lv_at hl 1 rfl) ?_
        have n77 : F37 6 = .ref h_s := (SAME.at t50 (by decide) n2)
        have n78 : F37 25 = .ref h_paceAt := (SAME.at t50 (by decide) n29)
        have n79 : F37 26 = .ref h_kindOf := (SAME.at t50 (by decide) n30)
        have n80 : F37 32 = .int x_kicks := (SAME.at t50 (by decide) n32)
        have n81 : F37 33 = .ref h_behindAt := (SAME.at t50 (by decide) n33)
        have n82 : F37 37 = .int x_touchBend := (SAME.at t50 (by decide) n34)
        have n83 : F37 38 = .int x_touchBy := (SAME.at t50 (by decide) n35)
        refine call_Vi (wr := []) (As := [.int 115, .int p0]) (rest := [.int r36]) hx hb hml hown hw (m_X10_timeWith l D cI cJ cB cP cM cZ h0 h_s h_paceAt h_kindOf h_behindAt F37 y42 x_kicks x_touchBend x_touchBy g46 g47 g48 g49 115 p0 bs _ n77 n78 n79 t58 n80 i_x_kicks n81 n82 n83 i_x_touchBy t70 t75 t65 t71 t72 t73 t74 t64 t69 t66 t67 t68 (show 113 ≤ (115 : Int32).toInt ∧ (115 : Int32).toInt ≤ 115 by decide) (by have z0 : (115 : Int32).toInt = 115 := rfl; omega)) wV_X10_429_X10_timeWith dX10_worth_47 hK hP hD hS hA [0, 1, 2, 3, 4] [] rfl rfl (by decide) (by decide) (by decide) 0 10 rfl rfl GG.fb hG.at hl.1 rfl (Nat.le_of_ble_eq_true rfl) ⟨(Nat.le_of_ble_eq_true rfl), (Nat.le_of_ble_eq_true rfl)⟩ ⟨(Nat.le_of_ble_eq_true rfl), (Nat.le_of_ble_eq_true rfl)⟩ (fun r84 u H locs hp hP hD hS => ?_)
        refine hp.elim (fun F85 h9z0 => h9z0.elim (fun y86 h9z1 => h9z1.elim (fun y87 h9z2 => h9z2.elim (fun y88 h9z3 => h9z3.elim (fun y89 h9z4 => h9z4.elim (fun y90 h9z5 => h9z5.elim (fun y91 h9z6 => h9z6.elim (fun y92 h9z7 => h9z7.elim (fun y93 h9z8 => h9z8.elim (fun g94 h9z9 => h9z9.elim (fun g95 h9z10 => h9z10.elim (fun g96 h9z11 => h9z11.elim (fun g97 h9z12 => h9z12.elim (fun t98 h9z13 => h9z13.elim (fun t99 h9z14 => h9z14.elim (fun t100 h9z15 => h9z15.elim (fun t101 h9z16 => h9z16.elim (fun t102 h9z17 => h9z17.elim (fun t103 h9z18 => h9z18.elim (fun t104 h9z19 => h9z19.elim (fun t105 h9z20 => h9z20.elim (fun t106 h9z21 => h9z21.elim (fun t107 h9z22 => h9z22.elim (fun t108 h9z23 => h9z23.elim (fun t109 h9z24 => h9z24.elim (fun t110 h9z25 => h9z25.elim (fun t111 h9z26 => h9z26.elim (fun t112 h9z27 => h9z27.elim (fun t113 h9z28 => h9z28.elim (fun t114 h9z29 => h9z29.elim (fun t115 h9z30 => h9z30.elim (fun t116 h9z31 => h9z31.elim (fun t117 h9z32 => h9z32.elim (fun t118 h9z33 => h9z33.elim (fun t119 h9z34 => h9z34.elim (fun t120 h9z35 => h9z35.elim (fun t121 h9z36 => h9z36.elim (fun t122 h9z37 => h9z37.elim (fun t123 h9z38 => ?_)))))))))))))))))))))))))))))))))))))))
        clear h9z0 h9z1 h9z2 h9z3 h9z4 h9z5 h9z6 h9z7 h9z8 h9z9 h9z10 h9z11 h9z12 h9z13 h9z14 h9z15 h9z16 h9z17 h9z18 h9z19 h9z20 h9z21 h9z22 h9z23 h9z24 h9z25 h9z26 h9z27 h9z28 h9z29 h9z30 h9z31 h9z32 h9z33 h9z34 h9z35 h9z36 h9z37
        subst h9z38
        have hP : va_P D vwCl [(h0, .inr (10, vL 67 F85)), (h_s, .inl (cI, 335, .inl g94)), (h_paceAt, .inl (cI, 40, .inl g95)), (h_kindOf, .inl (cI, 4, .inl g96)), (h_behindAt, .inl (cI, 12, .inl g97))] H := hP
        have hD : va_D A [(h0, .inr (10, vL 67 F85)), (h_s, .inl (cI, 335, .inl g94)), (h_paceAt, .inl (cI, 40, .inl g95)), (h_kindOf, .inl (cI, 4, .inl g96)), (h_behindAt, .inl (cI, 12, .inl g97))] := hD
        refine W.widen (k := 0) (n := 0) (Nat.le_of_ble_eq_true rfl) (Nat.le_of_ble_eq_true rfl) ?_
        refine call_Si (wr := [(h0, .inr (10, vL 67 F85)), (h_s, .inl (cI, 335, .inl g94)), (h_paceAt, .inl (cI, 40, .inl g95)), (h_kindOf, .inl (cI, 4, .inl g96)), (h_behindAt, .inl (cI, 12, .inl g97))]) (As := [.int r36, .int r84]) (rest := []) hx hb hml hown hw (m_X10_less l D cI cJ cB cP cM cZ r36 r84 _ ) wS_X10_432_X10_less dX10_worth_50 hP hD hS hA [] [0, 1, 2, 3, 4] rfl rfl (by decide) (by decide) (by decide) GG.fb hG.at hl.1 rfl (Nat.le_of_ble_eq_true rfl) ⟨(Nat.le_of_ble_eq_true rfl), (Nat.le_of_ble_eq_true rfl)⟩ ⟨(Nat.le_of_ble_eq_true rfl), (Nat.le_of_ble_eq_true rfl)⟩ (fun r125 u H locs hp hP hD hS => ?_)
        obtain ⟨t126, rfl⟩ := hp
        have hP : va_P D vwCl [(h0, .inr (10, vL 67 F85)), (h_s, .inl (cI, 335, .inl g94)), (h_paceAt, .inl (cI, 40, .inl g95)), (h_kindOf, .inl (cI, 4, .inl g96)), (h_behindAt, .inl (cI, 12, .inl g97))] H := hP
        have hD : va_D A [(h0, .inr (10, vL 67 F85)), (h_s, .inl (cI, 335, .inl g94)), (h_paceAt, .inl (cI, 40, .inl g95)), (h_kindOf, .inl (cI, 4, .inl g96)), (h_behindAt, .inl (cI, 12, .inl g97))] := hD
        refine W.widen (k := 0) (n := 0) (Nat.le_of_ble_eq_true rfl) (Nat.le_of_ble_eq_true rfl) ?_
        exact ret_i (v := r125) hx hb hr hlocks hS hP hD dX10_worth_53 rfl (Nat.le_of_ble_eq_true rfl) (Nat.le_of_ble_eq_true rfl) ⟨F85, y86, y87, y88, y89, y90, y91, y92, y93, g94, g95, g96, g97, (SAME.tr (SAME.tr (SAME.up eF1 SAME.rf (by decide)) t50 (by decide)) t98 (by decide)), (SAME.at t98 (by decide) (SAME.at t50 (by decide) (get_eq eF1))), t99, t100, t102, t103, t104, t105, t106, t107, t108, t109, t111, t112, t113, t114, t115, t116, t117, t118, t119, t120, t121, t122, t123, t126, rfl⟩
set_option maxHeartbeats 4000000 in
set_option maxRecDepth 100000 in
theorem m_X10_keep (l : Launch) (D : va_G) (cI cJ cB cP cM cZ : ClassId) (h0 : Nat) (h_s : Nat) (Fh : Nat → Value) (f_s : Nat → Int32) (bs : Nat → Int32) (sz : Nat) (e_s : Fh 6 = .ref h_s) (s_s_K0 : KW 0 f_s) (s_s_US : US bs f_s) (s_s_0 : SG 0 0 0 40 f_s) (s_s_105 : SG 105 108 0 11 f_s) (s_s_114 : SG 114 114 0 5 f_s) (s_s_130 : SG 130 133 0 11 f_s) (s_s_139 : SG 139 139 0 5 f_s) (s_s_153 : SG 153 153 0 44 f_s) (s_s_44 : SG 44 55 0 9 f_s) (s_s_5 : SG 5 5 0 12 f_s) (s_s_6 : SG 6 6 0 12 f_s) (s_s_7 : SG 7 7 0 6 f_s) : CI l yX10_keep cX10_keep 2 (some .boolean) { frames := 1, cells := 0, slots := 0, locals := 20 } (GG D cI cJ cB cP cM cZ) D [(h0, .inr (10, vL 67 Fh)), (h_s, .inl (cI, 335, .inl f_s))] sz [.ref h0] (fun (r : Int32) (u : va_W) => ∃ (Gh : Nat → Value) (g_s : Nat → Int32), SAME [0] Fh Gh ∧ Gh 0 = .int 0 ∧ SG 153 153 0 44 g_s ∧ SG 0 0 0 40 g_s ∧ SG 5 5 0 12 g_s ∧ SG 6 6 0 12 g_s ∧ SG 7 7 0 6 g_s ∧ SG 44 55 0 9 g_s ∧ KW 0 g_s ∧ SG 105 108 0 11 g_s ∧ SG 114 114 0 5 g_s ∧ SG 130 133 0 11 g_s ∧ SG 139 139 0 5 g_s ∧ US bs g_s ∧ IR 0 1 r ∧ u = [(h0, .inr (10, vL 67 Gh)), (h_s, .inl (cI, 335, .inl g_s))]) := by
  refine CI_mk (by decide) (Nat.le_of_ble_eq_true rfl) ?_
  intro p e s m below meth c A ls E hAe hG hsz hP hD hA hS hl
  obtain ⟨hx, hb, hr, hw, hown, hlocks, hml, hnm⟩ := E
  have hK := hG.1
  have hl : lv_has ls 2 [(0, .ref h0)] := hl
  refine lv_aload_n hx hb dX10_keep_0 rfl (lv_at hl 0 rfl) ?_
  refine lv_iconst (v := 0) hx hb dX10_keep_1 (by decide) ?_
  refine put_f (D := D) (ci := 10) (v := .int 0) (ty := .int) (C := RX10) (T := TX10) (N := 67) hx hb hw inAX10 tyX10 tyX10_ok nmX10 hown hK hP hD hS 0 rfl rfl 0 (by decide) (hw _ q_1261) (fun _ h9 => h9) rfl (by decide +kernel) rfl rfl dX10_keep_2 (fun H locs F1 eF1 hP hD hS => ?_)
  have hP : va_P D vwCl [(h0, .inr (10, vL 67 F1)), (h_s, .inl (cI, 335, .inl f_s))] H := hP
  have hD : va_D A [(h0, .inr (10, vL 67 F1)), (h_s, .inl (cI, 335, .inl f_s))] := hD
  refine lv_aload_n hx hb dX10_keep_5 rfl (lv_at hl 0 rfl) ?_
  have n2 : F1 6 = .ref h_s := (get_ne eF1 (by decide) e_s)
  refine call_Vi (wr := []) (As := []) (rest := []) hx hb hml hown hw (m_X10_hasCrew l D cI cJ cB cP cM cZ h0 h_s F1 f_s bs _ n2 s_s_K0 s_s_US s_s_0 s_s_105 s_s_114 s_s_130 s_s_139 s_s_153 s_s_44 s_s_5 s_s_6 s_s_7) wV_X10_281_X10_hasCrew dX10_keep_6 hK hP hD hS hA [0, 1] [] rfl rfl (by decide) (by decide) (by decide) 0 10 rfl rfl GG.fb hG.at hl.1 rfl (Nat.le_of_ble_eq_true rfl) ⟨(Nat.le_of_ble_eq_true rfl), (Nat.le_of_ble_eq_true rfl)⟩ ⟨(Nat.le_of_ble_eq_true rfl), (Nat.le_of_ble_eq_true rfl)⟩ (fun r3 u H locs hp hP hD hS => ?_)
  rcases hp with ⟨rfl, rfl⟩ | ⟨rfl, rfl⟩
  · have hP : va_P D vwCl [(h0, .inr (10, vL 67 F1)), (h_s, .inl (cI, 335, .inl f_s))] H := hP
    have hD : va_D A [(h0, .inr (10, vL 67 F1)), (h_s, .inl (cI, 335, .inl f_s))] := hD
    refine W.widen (k := 0) (n := 0) (Nat.le_of_ble_eq_true rfl) (Nat.le_of_ble_eq_true rfl) ?_
    refine lv_if_ne (tgt := 14) hx hb dX10_keep_9 (by decide) (fun g => absurd (by decide) g) (fun _ => ?_)
    refine lv_iconst (v := 0) hx hb dX10_keep_12 (by decide) ?_
    exact ret_i (v := 0) hx hb hr hlocks hS hP hD dX10_keep_13 rfl (Nat.le_of_ble_eq_true rfl) (Nat.le_of_ble_eq_true rfl) ⟨F1, f_s, (SAME.up eF1 SAME.rf (by decide)), (get_eq eF1), s_s_153, s_s_0, s_s_5, s_s_6, s_s_7, s_s_44, s_s_K0, s_s_105, s_s_114, s_s_130, s_s_139, s_s_US, (show 0 ≤ (0 : Int32).toInt ∧ (0 : Int32).toInt ≤ 1 by decide), rfl⟩
  · have hP : va_P D vwCl [(h0, .inr (10, vL 67 F1)), (h_s, .inl (cI, 335, .inl f_s))] H := hP
    have hD : va_D A [(h0, .inr (10, vL 67 F1)), (h_s, .inl (cI, 335, .inl f_s))] := hD
    refine W.widen (k := 0) (n := 0) (Nat.le_of_ble_eq_true rfl) (Nat.le_of_ble_eq_true rfl) ?_
    refine lv_if_ne (tgt := 14) hx hb dX10_keep_9 (by decide) (fun _ => ?_) (fun g => absurd g (by decide))
    refine lv_aload_n hx hb dX10_keep_14 rfl (lv_at hl 0 rfl) ?_
    refine get_f (D := D) (ci := 10) (v := .ref h_s) (C := RX10) (T := TX10) (N := 67) hx hb hw inAX10 hown hK hP 0 rfl rfl 6 (by decide) (hw _ q_1267) (fun _ h9 => h9) n2 dX10_keep_15 ?_
    refine lv_sipush (v := 128) hx hb dX10_keep_18 (by decide) ?_
    refine lv_iconst (v := 1) hx hb dX10_keep_21 (by decide) ?_
    obtain ⟨g5, eg5⟩ : ∃ z : Nat → Int32, upd f_s 128 1 = z := ⟨_, rfl⟩
    have r6 : KW 0 g5 := by rw [← eg5]; exact s_s_K0.upN (by decide)
    have r7 : US bs g5 := by rw [← eg5]; exact US.upN s_s_US (by decide)
    have r8 : SG 0 0 0 40 g5 := by rw [← eg5]; exact s_s_0.upN (Or.inr (Or.inl (by decide)))
    have r9 : SG 105 108 0 11 g5 := by rw [← eg5]; exact s_s_105.upN (Or.inr (Or.inl (by decide)))
    have r10 : SG 114 114 0 5 g5 := by rw [← eg5]; exact s_s_114.upN (Or.inr (Or.inl (by decide)))
    have r11 : SG 130 133 0 11 g5 := by rw [← eg5]; exact s_s_130.upN (Or.inl (by decide))
    have r12 : SG 139 139 0 5 g5 := by rw [← eg5]; exact s_s_139.upN (Or.inl (by decide))
    have r13 : SG 153 153 0 44 g5 := by rw [← eg5]; exact s_s_153.upN (Or.inl (by decide))
    have r14 : SG 44 55 0 9 g5 := by rw [← eg5]; exact s_s_44.upN (Or.inr (Or.inl (by decide)))
    have r15 : SG 5 5 0 12 g5 := by rw [← eg5]; exact s_s_5.upN (Or.inr (Or.inl (by decide)))
    have r16 : SG 6 6 0 12 g5 := by rw [← eg5]; exact s_s_6.upN (Or.inr (Or.inl (by decide)))
    have r17 : SG 7 7 0 6 g5 := by rw [← eg5]; exact s_s_7.upN (Or.inr (Or.inl (by decide)))
    refine iast_n hx hb hK hP hD hS 1 0 rfl rfl 128 rfl (Nat.le_of_ble_eq_true rfl) (Nat.le_of_ble_eq_true rfl) eg5 dX10_keep_22 (fun H locs hP hD hS => ?_)
    have hP : va_P D vwCl [(h0, .inr (10, vL 67 F1)), (h_s, .inl (cI, 335, .inl g5))] H := hP
    have hD : va_D A [(h0, .inr (10, vL 67 F1)), (h_s, .inl (cI, 335, .inl g5))] := hD
    refine lv_iconst (v := 0) hx hb dX10_keep_23 (by decide) ?_
    refine lv_istore_n (lv' := [(1, .int 0), (0, .ref h0)]) hx hb dX10_keep_24 rfl hl (by decide) rfl (fun ls hl => ?_)
    refine mloop (α := (Int32) × (Nat → Int32)) (nL := 2) (D := D) (A := A) (H0 := s.heap) (fun a => (24 - a.1.toInt).toNat) (fun a => IR 0 24 a.1 ∧ KW 0 a.2 ∧ US bs a.2 ∧ SG 0 0 0 40 a.2 ∧ SG 105 108 0 11 a.2 ∧ SG 114 114 0 5 a.2 ∧ SG 130 133 0 11 a.2 ∧ SG 139 139 0 5 a.2 ∧ SG 153 153 0 44 a.2 ∧ SG 44 55 0 9 a.2 ∧ SG 5 5 0 12 a.2 ∧ SG 6 6 0 12 a.2 ∧ SG 7 7 0 6 a.2) (fun a => [(h0, .inr (10, vL 67 F1)), (h_s, .inl (cI, 335, .inl a.2))]) (fun a => [(1, .int a.1), (0, .ref h0)]) (fun H locs ls => W p l e ({ frames := 1, cells := 0, slots := 0, locals := 20 } : Room) s m [.ref h0].toArray below meth c H locs 0 0 (MQ below (va_Qi (fun (r : Int32) (u : va_W) => ∃ (Gh : Nat → Value) (g_s : Nat → Int32), SAME [0] Fh Gh ∧ Gh 0 = .int 0 ∧ SG 153 153 0 44 g_s ∧ SG 0 0 0 40 g_s ∧ SG 5 5 0 12 g_s ∧ SG 6 6 0 12 g_s ∧ SG 7 7 0 6 g_s ∧ SG 44 55 0 9 g_s ∧ KW 0 g_s ∧ SG 105 108 0 11 g_s ∧ SG 114 114 0 5 g_s ∧ SG 130 133 0 11 g_s ∧ SG 139 139 0 5 g_s ∧ US bs g_s ∧ IR 0 1 r ∧ u = [(h0, .inr (10, vL 67 Gh)), (h_s, .inl (cI, 335, .inl g_s))]) (PO D A) A) [.ref h0].toArray s 0 0 A) (F0 m 25 ls [])) ?_ (0, g5) ⟨(show 0 ≤ (0 : Int32).toInt ∧ (0 : Int32).toInt ≤ 24 by decide), r6, r7, r8, r9, r10, r11, r12, r13, r14, r15, r16, r17⟩ _ _ _ hP hD hS hl
    rintro ⟨u18, w19⟩ ⟨i20, i21, i22, i23, i24, i25, i26, i27, i28, i29, i30, i31, i32⟩ ih H locs ls hP hD hS hl
    have i20 : 0 ≤ u18.toInt ∧ u18.toInt ≤ 24 := i20
    have hP : va_P D vwCl [(h0, .inr (10, vL 67 F1)), (h_s, .inl (cI, 335, .inl w19))] H := hP
    have hD : va_D A [(h0, .inr (10, vL 67 F1)), (h_s, .inl (cI, 335, .inl w19))] := hD
    have hl : lv_has ls 2 [(1, .int u18), (0, .ref h0)] := hl
    refine lv_iload_n hx hb dX10_keep_25 rfl (lv_at hl 0 rfl) ?_
    refine lv_bipush (v := 24) hx hb dX10_keep_26 (by decide) ?_
    refine lv_icmp_ge (tgt := 56) hx hb dX10_keep_28 (by decide) (fun c33 => ?_) (fun c33 => ?_)
    · have dc33 : 24 ≤ u18.toInt := le_i (a := 24) (b := u18.toInt) rfl rfl c33
      have k34 : 24 ≤ u18.toInt ∧ u18.toInt ≤ 24 := ⟨Int.le_trans (Int.le_refl _) dc33, i20.2⟩
      refine lv_iconst (v := 1) hx hb dX10_keep_56 (by decide) ?_
      exact ret_i (v := 1) hx hb hr hlocks hS hP hD dX10_keep_57 rfl (Nat.le_of_ble_eq_true rfl) (Nat.le_of_ble_eq_true rfl) ⟨F1, w19, (SAME.up eF1 SAME.rf (by decide)), (get_eq eF1), i28, i23, i30, i31, i32, i29, i21, i24, i25, i26, i27, i22, (show 0 ≤ (1 : Int32).toInt ∧ (1 : Int32).toInt ≤ 1 by decide), rfl⟩
    · have dc33 : u18.toInt < 24 := nle_i (a := 24) (b := u18.toInt) rfl rfl c33
      have k35 : 0 ≤ u18.toInt ∧ u18.toInt ≤ 23 := ⟨i20.1, up_lt dc33 (Int.le_refl _) (by decide)⟩
      refine lv_aload_n hx hb dX10_keep_31 rfl (lv_at hl 1 rfl) ?_
      refine get_f (D := D) (ci := 10) (v := .ref h_s) (C := RX10) (T := TX10) (N := 67) hx hb hw inAX10 hown hK hP 0 rfl rfl 6 (by decide) (hw _ q_1267) (fun _ h9 => h9) n2 dX10_keep_32 ?_
      refine lv_sipush (v := 129) hx hb dX10_keep_35 (by decide) ?_
      refine lv_iload_n hx hb dX10_keep_38 rfl (lv_at hl 0 rfl) ?_
      refine lv_iadd hx hb dX10_keep_39 ?_
      refine lv_topi (fun v36 ev36 => ?_)
      have bv36 : v36.toInt = 129 + u18.toInt := by rw [ev36]; exact add_k rfl rfl ⟨Int.le_refl _, Int.le_refl _⟩ k35 (by decide)
      have k37 : 129 ≤ v36.toInt ∧ v36.toInt ≤ 152 := add_r bv36 ⟨Int.le_refl _, Int.le_refl _⟩ k35 (by decide)
      refine lv_aload_n hx hb dX10_keep_40 rfl (lv_at hl 1 rfl) ?_
      refine get_f (D := D) (ci := 10) (v := .ref h_s) (C := RX10) (T := TX10) (N := 67) hx hb hw inAX10 hown hK hP 0 rfl rfl 6 (by decide) (hw _ q_1267) (fun _ h9 => h9) n2 dX10_keep_41 ?_
      refine lv_bipush (v := 104) hx hb dX10_keep_44 (by decide) ?_
      refine lv_iload_n hx hb dX10_keep_46 rfl (lv_at hl 0 rfl) ?_
      refine lv_iadd hx hb dX10_keep_47 ?_
      refine lv_topi (fun v38 ev38 => ?_)
      have bv38 : v38.toInt = 104 + u18.toInt := by rw [ev38]; exact add_k rfl rfl ⟨Int.le_refl _, Int.le_refl _⟩ k35 (by decide)
      have k39 : 104 ≤ v38.toInt ∧ v38.toInt ≤ 127 := add_r bv38 ⟨Int.le_refl _, Int.le_refl _⟩ k35 (by decide)
      refine va_iald hx hb hK hP 1 0 rfl rfl (ix_k k39 (by decide) (by decide)) dX10_keep_48 ?_
      refine lv_topi (fun v40 ev40 => ?_)
      have r41 : IMP (105 ≤ v38.toInt → v38.toInt ≤ 108 → 0 ≤ v40.toInt ∧ v40.toInt ≤ 11) := IMP.mk (fun q1 q2 => by rw [ev40]; exact i24.at _ q1 q2)
      have r42 : IMP (114 ≤ v38.toInt → v38.toInt ≤ 114 → 0 ≤ v40.toInt ∧ v40.toInt ≤ 5) := IMP.mk (fun q1 q2 => by rw [ev40]; exact i25.at _ q1 q2)
      obtain ⟨g43, eg43⟩ : ∃ z : Nat → Int32, upd w19 v36.toNatClampNeg v40 = z := ⟨_, rfl⟩
      have r44 : KW 0 g43 := by rw [← eg43]; exact i21.up (Int.le_trans (by decide) k37.1) (Or.inl (lt_dec k37.2 (by decide)))
      have r45 : US bs g43 := by rw [← eg43]; exact US.up i22 (Int.le_trans (by decide) k37.1)
      have r46 : SG 0 0 0 40 g43 := by rw [← eg43]; exact i23.up (Int.le_trans (by decide) k37.1) (Or.inr (Or.inl (dec_lt k37.1 (by decide))))
      have r47 : SG 105 108 0 11 g43 := by rw [← eg43]; exact i24.up (Int.le_trans (by decide) k37.1) (Or.inr (Or.inl (dec_lt k37.1 (by decide))))
      have r48 : SG 114 114 0 5 g43 := by rw [← eg43]; exact i25.up (Int.le_trans (by decide) k37.1) (Or.inr (Or.inl (dec_lt k37.1 (by decide))))
      have r49 : SG 130 133 0 11 g43 := by rw [← eg43]; exact i26.upI (Int.le_trans (by decide) k37.1) (fun q1 q2 => ⟨Int.le_trans (by decide) (r41.h (by omega) (by omega)).1, Int.le_trans (r41.h (by omega) (by omega)).2 (by decide)⟩)
      have r50 : SG 139 139 0 5 g43 := by rw [← eg43]; exact i27.upI (Int.le_trans (by decide) k37.1) (fun q1 q2 => ⟨Int.le_trans (by decide) (r42.h (by omega) (by omega)).1, Int.le_trans (r42.h (by omega) (by omega)).2 (by decide)⟩)
      have r51 : SG 153 153 0 44 g43 := by rw [← eg43]; exact i28.up (Int.le_trans (by decide) k37.1) (Or.inl (lt_dec k37.2 (by decide)))
      have r52 : SG 44 55 0 9 g43 := by rw [← eg43]; exact i29.up (Int.le_trans (by decide) k37.1) (Or.inr (Or.inl (dec_lt k37.1 (by decide))))
      have r53 : SG 5 5 0 12 g43 := by rw [← eg43]; exact i30.up (Int.le_trans (by decide) k37.1) (Or.inr (Or.inl (dec_lt k37.1 (by decide))))
      have r54 : SG 6 6 0 12 g43 := by rw [← eg43]; exact i31.up (Int.le_trans (by decide) k37.1) (Or.inr (Or.inl (dec_lt k37.1 (by decide))))
      have r55 : SG 7 7 0 6 g43 := by rw [← eg43]; exact i32.up (Int.le_trans (by decide) k37.1) (Or.inr (Or.inl (dec_lt k37.1 (by decide))))
      refine iast_g hx hb hK hP hD hS 1 0 rfl rfl (ix_k k37 (by decide) (by decide)) eg43 dX10_keep_49 (fun H locs hP hD hS => ?_)
      have hP : va_P D vwCl [(h0, .inr (10, vL 67 F1)), (h_s, .inl (cI, 335, .inl g43))] H := hP
      have hD : va_D A [(h0, .inr (10, vL 67 F1)), (h_s, .inl (cI, 335, .inl g43))] := hD
      obtain ⟨v56, ev56⟩ : ∃ z : Int32, z = u18 + 1 := ⟨_, rfl⟩
      have bv56 : v56.toInt = u18.toInt + 1 := by rw [ev56]; exact add_k rfl rfl k35 ⟨Int.le_refl _, Int.le_refl _⟩ (by decide)
      have k57 : 1 ≤ v56.toInt ∧ v56.toInt ≤ 24 := add_r bv56 k35 ⟨Int.le_refl _, Int.le_refl _⟩ (by decide)
      refine lv_iinc (v := v56) (lv' := [(1, .int v56), (0, .ref h0)]) hx hb dX10_keep_50 hl (k := 0) rfl (by rw [ev56]; rfl) (by decide) rfl (fun ls hl => ?_)
      refine lv_goto (tgt := 25) hx hb dX10_keep_53 (by decide) ?_
      exact ih (v56, g43) ⟨(ir_wk k57 (by decide) (by decide)), r44, r45, r46, r47, r48, r49, r50, r51, r52, r53, r54, r55⟩ (by show (24 - v56.toInt).toNat < (24 - u18.toInt).toNat; omega) _ _ _ hP hD hS (lv_sub hl [0, 1] rfl)
set_option maxHeartbeats 4000000 in
set_option maxRecDepth 100000 in
theorem m_X10_lost (l : Launch) (D : va_G) (cI cJ cB cP cM cZ : ClassId) (h0 : Nat) (h_s : Nat) (h_paceAt : Nat) (h_kindOf : Nat) (h_behindAt : Nat) (h_before : Nat) (Fh : Nat → Value) (x_lineTime : Int32) (x_linePace : Int32) (x_inside : Int32) (x_late : Int32) (x_seed : Int32) (x_kicks : Int32) (x_bendsGone : Int32) (x_overAt : Int32) (x_endPace : Int32) (x_touchBend : Int32) (x_touchBy : Int32) (f_s : Nat → Int32) (f_paceAt : Nat → Int32) (f_kindOf : Nat → Int32) (f_behindAt : Nat → Int32) (f_before : Nat → Int32) (p0 : Int32) (bs : Nat → Int32) (sz : Nat) (e_s : Fh 6 = .ref h_s) (e_paceAt : Fh 25 = .ref h_paceAt) (e_kindOf : Fh 26 = .ref h_kindOf) (e_lineTime : Fh 27 = .int x_lineTime) (e_linePace : Fh 28 = .int x_linePace) (e_inside : Fh 29 = .int x_inside) (i_x_inside : IR 0 15 x_inside) (e_late : Fh 30 = .int x_late) (i_x_late : IR 0 15 x_late) (e_seed : Fh 31 = .int x_seed) (e_kicks : Fh 32 = .int x_kicks) (i_x_kicks : IR 0 1 x_kicks) (e_behindAt : Fh 33 = .ref h_behindAt) (e_bendsGone : Fh 34 = .int x_bendsGone) (i_x_bendsGone : IR 0 12 x_bendsGone) (e_overAt : Fh 35 = .int x_overAt) (e_endPace : Fh 36 = .int x_endPace) (e_touchBend : Fh 37 = .int x_touchBend) (e_touchBy : Fh 38 = .int x_touchBy) (i_x_touchBy : IR 0 99 x_touchBy) (e_before : Fh 40 = .ref h_before) (s_s_K0 : KW 0 f_s) (s_s_US : US bs f_s) (s_s_0 : SG 0 0 0 40 f_s) (s_s_105 : SG 105 108 0 11 f_s) (s_s_114 : SG 114 114 0 5 f_s) (s_s_130 : SG 130 133 0 11 f_s) (s_s_139 : SG 139 139 0 5 f_s) (s_s_153 : SG 153 153 0 44 f_s) (s_s_44 : SG 44 55 0 9 f_s) (s_s_5 : SG 5 5 0 12 f_s) (s_s_6 : SG 6 6 0 12 f_s) (s_s_7 : SG 7 7 0 6 f_s) (s_before_1 : SG 1 4 0 11 f_before) (s_before_10 : SG 10 10 0 5 f_before) : CI l yX10_lost cX10_lost 11 (some .int) { frames := 5, cells := 0, slots := 0, locals := 115 } (GG D cI cJ cB cP cM cZ) D [(h0, .inr (10, vL 67 Fh)), (h_s, .inl (cI, 335, .inl f_s)), (h_paceAt, .inl (cI, 40, .inl f_paceAt)), (h_kindOf, .inl (cI, 4, .inl f_kindOf)), (h_behindAt, .inl (cI, 12, .inl f_behindAt)), (h_before, .inl (cI, 24, .inl f_before))] sz [.ref h0, .int p0] (fun (r : Int32) (u : va_W) => ∃ (Gh : Nat → Value) (y_lineTime : Int32) (y_linePace : Int32) (y_inside : Int32) (y_late : Int32) (y_seed : Int32) (y_bendsGone : Int32) (y_overAt : Int32) (y_endPace : Int32) (g_s : Nat → Int32) (g_paceAt : Nat → Int32) (g_kindOf : Nat → Int32) (g_behindAt : Nat → Int32) (g_before : Nat → Int32), SAME [0, 27, 28, 29, 30, 31, 34, 35, 36] Fh Gh ∧ Gh 0 = .int 0 ∧ Gh 27 = .int y_lineTime ∧ Gh 28 = .int y_linePace ∧ Gh 29 = .int y_inside ∧ IR 0 15 y_inside ∧ Gh 30 = .int y_late ∧ IR 0 15 y_late ∧ Gh 31 = .int y_seed ∧ Gh 34 = .int y_bendsGone ∧ IR 0 12 y_bendsGone ∧ Gh 35 = .int y_overAt ∧ Gh 36 = .int y_endPace ∧ SG 153 153 0 44 g_s ∧ SG 0 0 0 40 g_s ∧ SG 5 5 0 12 g_s ∧ SG 6 6 0 12 g_s ∧ SG 7 7 0 6 g_s ∧ SG 44 55 0 9 g_s ∧ KW 0 g_s ∧ SG 105 108 0 11 g_s ∧ SG 114 114 0 5 g_s ∧ SG 130 133 0 11 g_s ∧ SG 139 139 0 5 g_s ∧ US bs g_s ∧ SG 1 4 0 11 g_before ∧ SG 10 10 0 5 g_before ∧ u = [(h0, .inr (10, vL 67 Gh)), (h_s, .inl (cI, 335, .inl g_s)), (h_paceAt, .inl (cI, 40, .inl g_paceAt)), (h_kindOf, .inl (cI, 4, .inl g_kindOf)), (h_behindAt, .inl (cI, 12, .inl g_behindAt)), (h_before, .inl (cI, 24, .inl g_before))]) := by
  refine CI_mk (by decide) (Nat.le_of_ble_eq_true rfl) ?_
  intro p e s m below meth c A ls E hAe hG hsz hP hD hA hS hl
  obtain ⟨hx, hb, hr, hw, hown, hlocks, hml, hnm⟩ := E
  have hK := hG.1
  have i_x_inside : 0 ≤ x_inside.toInt ∧ x_inside.toInt ≤ 15 := i_x_inside
  have i_x_late : 0 ≤ x_late.toInt ∧ x_late.toInt ≤ 15 := i_x_late
  have i_x_kicks : 0 ≤ x_kicks.toInt ∧ x_kicks.toInt ≤ 1 := i_x_kicks
  have i_x_bendsGone : 0 ≤ x_bendsGone.toInt ∧ x_bendsGone.toInt ≤ 12 := i_x_bendsGone
  have i_x_touchBy : 0 ≤ x_touchBy.toInt ∧ x_touchBy.toInt ≤ 99 := i_x_touchBy
  have hl : lv_has ls 11 [(0, .ref h0), (1, .int p0)] := hl
  refine lv_aload_n hx hb dX10_lost_0 rfl (lv_at hl 0 rfl) ?_
  refine lv_iconst (v := 0) hx hb dX10_lost_1 (by decide) ?_
  refine put_f (D := D) (ci := 10) (v := .int 0) (ty := .int) (C := RX10) (T := TX10) (N := 67) hx hb hw inAX10 tyX10 tyX10_ok nmX10 hown hK hP hD hS 0 rfl rfl 0 (by decide) (hw _ q_1261) (fun _ h9 => h9) rfl (by decide +kernel) rfl rfl dX10_lost_2 (fun H locs F1 eF1 hP hD hS => ?_)
  have hP : va_P D vwCl [(h0, .inr (10, vL 67 F1)), (h_s, .inl (cI, 335, .inl f_s)), (h_paceAt, .inl (cI, 40, .inl f_paceAt)), (h_kindOf, .inl (cI, 4, .inl f_kindOf)), (h_behindAt, .inl (cI, 12, .inl f_behindAt)), (h_before, .inl (cI, 24, .inl f_before))] H := hP
  have hD : va_D A [(h0, .inr (10, vL 67 F1)), (h_s, .inl (cI, 335, .inl f_s)), (h_paceAt, .inl (cI, 40, .inl f_paceAt)), (h_kindOf, .inl (cI, 4, .inl f_kindOf)), (h_behindAt, .inl (cI, 12, .inl f_behindAt)), (h_before, .inl (cI, 24, .inl f_before))] := hD
  refine lv_aload_n hx hb dX10_lost_5 rfl (lv_at hl 0 rfl) ?_
  have n2 : F1 6 = .ref h_s := (get_ne eF1 (by decide) e_s)
  refine call_Vi (wr := [(h_paceAt, .inl (cI, 40, .inl f_paceAt)), (h_kindOf, .inl (cI, 4, .inl f_kindOf)), (h_behindAt, .inl (cI, 12, .inl f_behindAt)), (h_before, .inl (cI, 24, .inl f_before))]) (As := []) (rest := []) hx hb hml hown hw (m_X10_hasCrew l D cI cJ cB cP cM cZ h0 h_s F1 f_s bs _ n2 s_s_K0 s_s_US s_s_0 s_s_105 s_s_114 s_s_130 s_s_139 s_s_153 s_s_44 s_s_5 s_s_6 s_s_7) wV_X10_281_X10_hasCrew dX10_lost_6 hK hP hD hS hA [0, 1] [2, 3, 4, 5] rfl rfl (by decide) (by decide) (by decide) 0 10 rfl rfl GG.fb hG.at hl.1 rfl (Nat.le_of_ble_eq_true rfl) ⟨(Nat.le_of_ble_eq_true rfl), (Nat.le_of_ble_eq_true rfl)⟩ ⟨(Nat.le_of_ble_eq_true rfl), (Nat.le_of_ble_eq_true rfl)⟩ (fun r3 u H locs hp hP hD hS => ?_)
  rcases hp with ⟨rfl, rfl⟩ | ⟨rfl, rfl⟩
  · have hP : va_P D vwCl [(h_paceAt, .inl (cI, 40, .inl f_paceAt)), (h_kindOf, .inl (cI, 4, .inl f_kindOf)), (h_behindAt, .inl (cI, 12, .inl f_behindAt)), (h_before, .inl (cI, 24, .inl f_before)), (h0, .inr (10, vL 67 F1)), (h_s, .inl (cI, 335, .inl f_s))] H := hP
    have hD : va_D A [(h_paceAt, .inl (cI, 40, .inl f_paceAt)), (h_kindOf, .inl (cI, 4, .inl f_kindOf)), (h_behindAt, .inl (cI, 12, .inl f_behindAt)), (h_before, .inl (cI, 24, .inl f_before)), (h0, .inr (10, vL 67 F1)), (h_s, .inl (cI, 335, .inl f_s))] := hD
    refine W.widen (k := 0) (n := 0) (Nat.le_of_ble_eq_true rfl) (Nat.le_of_ble_eq_true rfl) ?_
    refine lv_if_eq (tgt := 32) hx hb dX10_lost_9 (by decide) (fun _ => ?_) (fun g => absurd (by decide) g)
    refine lv_ldcw hx hb hown (hw _ q_1756) dX10_lost_32 ?_
    exact ret_i (v := (-100001)) hx hb hr hlocks hS (hP.sub (ws' := [(h0, .inr (10, vL 67 F1)), (h_s, .inl (cI, 335, .inl f_s)), (h_paceAt, .inl (cI, 40, .inl f_paceAt)), (h_kindOf, .inl (cI, 4, .inl f_kindOf)), (h_behindAt, .inl (cI, 12, .inl f_behindAt)), (h_before, .inl (cI, 24, .inl f_before))]) [4, 5, 0, 1, 2, 3] rfl) (hD.sub (ws' := [(h0, .inr (10, vL 67 F1)), (h_s, .inl (cI, 335, .inl f_s)), (h_paceAt, .inl (cI, 40, .inl f_paceAt)), (h_kindOf, .inl (cI, 4, .inl f_kindOf)), (h_behindAt, .inl (cI, 12, .inl f_behindAt)), (h_before, .inl (cI, 24, .inl f_before))]) [4, 5, 0, 1, 2, 3] (by decide) rfl) dX10_lost_35 rfl (Nat.le_of_ble_eq_true rfl) (Nat.le_of_ble_eq_true rfl) ⟨F1, x_lineTime, x_linePace, x_inside, x_late, x_seed, x_bendsGone, x_overAt, x_endPace, f_s, f_paceAt, f_kindOf, f_behindAt, f_before, (SAME.up eF1 SAME.rf (by decide)), (get_eq eF1), (get_ne eF1 (by decide) e_lineTime), (get_ne eF1 (by decide) e_linePace), (get_ne eF1 (by decide) e_inside), i_x_inside, (get_ne eF1 (by decide) e_late), i_x_late, (get_ne eF1 (by decide) e_seed), (get_ne eF1 (by decide) e_bendsGone), i_x_bendsGone, (get_ne eF1 (by decide) e_overAt), (get_ne eF1 (by decide) e_endPace), s_s_153, s_s_0, s_s_5, s_s_6, s_s_7, s_s_44, s_s_K0, s_s_105, s_s_114, s_s_130, s_s_139, s_s_US, s_before_1, s_before_10, rfl⟩
  · have hP : va_P D vwCl [(h_paceAt, .inl (cI, 40, .inl f_paceAt)), (h_kindOf, .inl (cI, 4, .inl f_kindOf)), (h_behindAt, .inl (cI, 12, .inl f_behindAt)), (h_before, .inl (cI, 24, .inl f_before)), (h0, .inr (10, vL 67 F1)), (h_s, .inl (cI, 335, .inl f_s))] H := hP
    have hD : va_D A [(h_paceAt, .inl (cI, 40, .inl f_paceAt)), (h_kindOf, .inl (cI, 4, .inl f_kindOf)), (h_behindAt, .inl (cI, 12, .inl f_behindAt)), (h_before, .inl (cI, 24, .inl f_before)), (h0, .inr (10, vL 67 F1)), (h_s, .inl (cI, 335, .inl f_s))] := hD
    refine W.widen (k := 0) (n := 0) (Nat.le_of_ble_eq_true rfl) (Nat.le_of_ble_eq_true rfl) ?_
    refine lv_if_eq (tgt := 32) hx hb dX10_lost_9 (by decide) (fun g => absurd g (by decide)) (fun _ => ?_)
    refine lv_aload_n hx hb dX10_lost_12 rfl (lv_at hl 0 rfl) ?_
    refine get_f (D := D) (ci := 10) (v := .ref h_s) (C := RX10) (T := TX10) (N := 67) hx hb hw inAX10 hown hK hP 4 rfl rfl 6 (by decide) (hw _ q_1267) (fun _ h9 => h9) n2 dX10_lost_13 ?_
    refine lv_sipush (v := 128) hx hb dX10_lost_16 (by decide) ?_
    refine iald_n hx hb hK hP 5 0 rfl rfl 128 rfl (Nat.le_of_ble_eq_true rfl) (Nat.le_of_ble_eq_true rfl) rfl dX10_lost_19 ?_
    refine lv_topi (fun v5 ev5 => ?_)
    refine lv_if_eq (tgt := 32) hx hb dX10_lost_20 (by decide) (fun c6 => ?_) (fun c6 => ?_)
    · have dc6 : v5.toInt = 0 := eq_i (a := v5.toInt) (b := 0) rfl rfl c6
      have k7 : 0 ≤ v5.toInt ∧ v5.toInt ≤ 0 := ⟨Int.le_trans (Int.le_refl _) (Int.le_of_eq dc6.symm), Int.le_trans (Int.le_of_eq dc6) (Int.le_refl _)⟩
      refine lv_ldcw hx hb hown (hw _ q_1756) dX10_lost_32 ?_
      exact ret_i (v := (-100001)) hx hb hr hlocks hS (hP.sub (ws' := [(h0, .inr (10, vL 67 F1)), (h_s, .inl (cI, 335, .inl f_s)), (h_paceAt, .inl (cI, 40, .inl f_paceAt)), (h_kindOf, .inl (cI, 4, .inl f_kindOf)), (h_behindAt, .inl (cI, 12, .inl f_behindAt)), (h_before, .inl (cI, 24, .inl f_before))]) [4, 5, 0, 1, 2, 3] rfl) (hD.sub (ws' := [(h0, .inr (10, vL 67 F1)), (h_s, .inl (cI, 335, .inl f_s)), (h_paceAt, .inl (cI, 40, .inl f_paceAt)), (h_kindOf, .inl (cI, 4, .inl f_kindOf)), (h_behindAt, .inl (cI, 12, .inl f_behindAt)), (h_before, .inl (cI, 24, .inl f_before))]) [4, 5, 0, 1, 2, 3] (by decide) rfl) dX10_lost_35 rfl (Nat.le_of_ble_eq_true rfl) (Nat.le_of_ble_eq_true rfl) ⟨F1, x_lineTime, x_linePace, x_inside, x_late, x_seed, x_bendsGone, x_overAt, x_endPace, f_s, f_paceAt, f_kindOf, f_behindAt, f_before, (SAME.up eF1 SAME.rf (by decide)), (get_eq eF1), (get_ne eF1 (by decide) e_lineTime), (get_ne eF1 (by decide) e_linePace), (get_ne eF1 (by decide) e_inside), i_x_inside, (get_ne eF1 (by decide) e_late), i_x_late, (get_ne eF1 (by decide) e_seed), (get_ne eF1 (by decide) e_bendsGone), i_x_bendsGone, (get_ne eF1 (by decide) e_overAt), (get_ne eF1 (by decide) e_endPace), s_s_153, s_s_0, s_s_5, s_s_6, s_s_7, s_s_44, s_s_K0, s_s_105, s_s_114, s_s_130, s_s_139, s_s_US, s_before_1, s_before_10, rfl⟩
    · have dc6 : v5.toInt ≠ 0 := ne_i (a := v5.toInt) (b := 0) rfl rfl c6
      refine lv_iload_n hx hb dX10_lost_23 rfl (lv_at hl 1 rfl) ?_
      refine lv_iconst (v := 0) hx hb dX10_lost_24 (by decide) ?_
      refine lv_iconst (v := 3) hx hb dX10_lost_25 (by decide) ?_
      refine call_Si (wr := [(h_paceAt, .inl (cI, 40, .inl f_paceAt)), (h_kindOf, .inl (cI, 4, .inl f_kindOf)), (h_behindAt, .inl (cI, 12, .inl f_behindAt)), (h_before, .inl (cI, 24, .inl f_before)), (h0, .inr (10, vL 67 F1)), (h_s, .inl (cI, 335, .inl f_s))]) (As := [.int p0, .int 0, .int 3]) (rest := []) hx hb hml hown hw (m_X10_isIn l D cI cJ cB cP cM cZ p0 0 3 _ ) wS_X10_211_X10_isIn dX10_lost_26 hP hD hS hA [] [0, 1, 2, 3, 4, 5] rfl rfl (by decide) (by decide) (by decide) GG.fb hG.at hl.1 rfl (Nat.le_of_ble_eq_true rfl) ⟨(Nat.le_of_ble_eq_true rfl), (Nat.le_of_ble_eq_true rfl)⟩ ⟨(Nat.le_of_ble_eq_true rfl), (Nat.le_of_ble_eq_true rfl)⟩ (fun r8 u H locs hp hP hD hS => ?_)
      have zl0 : (0 : Int32).toInt = 0 := by decide
      have zl3 : (3 : Int32).toInt = 3 := by decide
      rcases hp with ⟨t9, rfl, rfl⟩ | ⟨t10, t11, rfl, rfl⟩ | ⟨t12, t13, rfl, rfl⟩
      · have hP : va_P D vwCl [(h_paceAt, .inl (cI, 40, .inl f_paceAt)), (h_kindOf, .inl (cI, 4, .inl f_kindOf)), (h_behindAt, .inl (cI, 12, .inl f_behindAt)), (h_before, .inl (cI, 24, .inl f_before)), (h0, .inr (10, vL 67 F1)), (h_s, .inl (cI, 335, .inl f_s))] H := hP
        have hD : va_D A [(h_paceAt, .inl (cI, 40, .inl f_paceAt)), (h_kindOf, .inl (cI, 4, .inl f_kindOf)), (h_behindAt, .inl (cI, 12, .inl f_behindAt)), (h_before, .inl (cI, 24, .inl f_before)), (h0, .inr (10, vL 67 F1)), (h_s, .inl (cI, 335, .inl f_s))] := hD
        refine W.widen (k := 0) (n := 0) (Nat.le_of_ble_eq_true rfl) (Nat.le_of_ble_eq_true rfl) ?_
        have k15 : (-2147483648) ≤ p0.toInt ∧ p0.toInt ≤ (-1) := ⟨(ir_any _).1, up_lt t9 (Int.le_refl _) (by decide)⟩
        refine lv_if_ne (tgt := 36) hx hb dX10_lost_29 (by decide) (fun g => absurd (by decide) g) (fun _ => ?_)
        refine lv_ldcw hx hb hown (hw _ q_1756) dX10_lost_32 ?_
        exact ret_i (v := (-100001)) hx hb hr hlocks hS (hP.sub (ws' := [(h0, .inr (10, vL 67 F1)), (h_s, .inl (cI, 335, .inl f_s)), (h_paceAt, .inl (cI, 40, .inl f_paceAt)), (h_kindOf, .inl (cI, 4, .inl f_kindOf)), (h_behindAt, .inl (cI, 12, .inl f_behindAt)), (h_before, .inl (cI, 24, .inl f_before))]) [4, 5, 0, 1, 2, 3] rfl) (hD.sub (ws' := [(h0, .inr (10, vL 67 F1)), (h_s, .inl (cI, 335, .inl f_s)), (h_paceAt, .inl (cI, 40, .inl f_paceAt)), (h_kindOf, .inl (cI, 4, .inl f_kindOf)), (h_behindAt, .inl (cI, 12, .inl f_behindAt)), (h_before, .inl (cI, 24, .inl f_before))]) [4, 5, 0, 1, 2, 3] (by decide) rfl) dX10_lost_35 rfl (Nat.le_of_ble_eq_true rfl) (Nat.le_of_ble_eq_true rfl) ⟨F1, x_lineTime, x_linePace, x_inside, x_late, x_seed, x_bendsGone, x_overAt, x_endPace, f_s, f_paceAt, f_kindOf, f_behindAt, f_before, (SAME.up eF1 SAME.rf (by decide)), (get_eq eF1), (get_ne eF1 (by decide) e_lineTime), (get_ne eF1 (by decide) e_linePace), (get_ne eF1 (by decide) e_inside), i_x_inside, (get_ne eF1 (by decide) e_late), i_x_late, (get_ne eF1 (by decide) e_seed), (get_ne eF1 (by decide) e_bendsGone), i_x_bendsGone, (get_ne eF1 (by decide) e_overAt), (get_ne eF1 (by decide) e_endPace), s_s_153, s_s_0, s_s_5, s_s_6, s_s_7, s_s_44, s_s_K0, s_s_105, s_s_114, s_s_130, s_s_139, s_s_US, s_before_1, s_before_10, rfl⟩
      · have hP : va_P D vwCl [(h_paceAt, .inl (cI, 40, .inl f_paceAt)), (h_kindOf, .inl (cI, 4, .inl f_kindOf)), (h_behindAt, .inl (cI, 12, .inl f_behindAt)), (h_before, .inl (cI, 24, .inl f_before)), (h0, .inr (10, vL 67 F1)), (h_s, .inl (cI, 335, .inl f_s))] H := hP
        have hD : va_D A [(h_paceAt, .inl (cI, 40, .inl f_paceAt)), (h_kindOf, .inl (cI, 4, .inl f_kindOf)), (h_behindAt, .inl (cI, 12, .inl f_behindAt)), (h_before, .inl (cI, 24, .inl f_before)), (h0, .inr (10, vL 67 F1)), (h_s, .inl (cI, 335, .inl f_s))] := hD
        refine W.widen (k := 0) (n := 0) (Nat.le_of_ble_eq_true rfl) (Nat.le_of_ble_eq_true rfl) ?_
        have k16 : 0 ≤ p0.toInt ∧ p0.toInt ≤ 2147483647 := ⟨Int.le_trans (Int.le_refl _) t10, (ir_any _).2⟩
        have k17 : 4 ≤ p0.toInt ∧ p0.toInt ≤ 2147483647 := ⟨lo_lt t11 (Int.le_refl _) (by decide), k16.2⟩
        refine lv_if_ne (tgt := 36) hx hb dX10_lost_29 (by decide) (fun g => absurd (by decide) g) (fun _ => ?_)
        refine lv_ldcw hx hb hown (hw _ q_1756) dX10_lost_32 ?_
        exact ret_i (v := (-100001)) hx hb hr hlocks hS (hP.sub (ws' := [(h0, .inr (10, vL 67 F1)), (h_s, .inl (cI, 335, .inl f_s)), (h_paceAt, .inl (cI, 40, .inl f_paceAt)), (h_kindOf, .inl (cI, 4, .inl f_kindOf)), (h_behindAt, .inl (cI, 12, .inl f_behindAt)), (h_before, .inl (cI, 24, .inl f_before))]) [4, 5, 0, 1, 2, 3] rfl) (hD.sub (ws' := [(h0, .inr (10, vL 67 F1)), (h_s, .inl (cI, 335, .inl f_s)), (h_paceAt, .inl (cI, 40, .inl f_paceAt)), (h_kindOf, .inl (cI, 4, .inl f_kindOf)), (h_behindAt, .inl (cI, 12, .inl f_behindAt)), (h_before, .inl (cI, 24, .inl f_before))]) [4, 5, 0, 1, 2, 3] (by decide) rfl) dX10_lost_35 rfl (Nat.le_of_ble_eq_true rfl) (Nat.le_of_ble_eq_true rfl) ⟨F1, x_lineTime, x_linePace, x_inside, x_late, x_seed, x_bendsGone, x_overAt, x_endPace, f_s, f_paceAt, f_kindOf, f_behindAt, f_before, (SAME.up eF1 SAME.rf (by decide)), (get_eq eF1), (get_ne eF1 (by decide) e_lineTime), (get_ne eF1 (by decide) e_linePace), (get_ne eF1 (by decide) e_inside), i_x_inside, (get_ne eF1 (by decide) e_late), i_x_late, (get_ne eF1 (by decide) e_seed), (get_ne eF1 (by decide) e_bendsGone), i_x_bendsGone, (get_ne eF1 (by decide) e_overAt), (get_ne eF1 (by decide) e_endPace), s_s_153, s_s_0, s_s_5, s_s_6, s_s_7, s_s_44, s_s_K0, s_s_105, s_s_114, s_s_130, s_s_139, s_s_US, s_before_1, s_before_10, rfl⟩
      · have hP : va_P D vwCl [(h_paceAt, .inl (cI, 40, .inl f_paceAt)), (h_kindOf, .inl (cI, 4, .inl f_kindOf)), (h_behindAt, .inl (cI, 12, .inl f_behindAt)), (h_before, .inl (cI, 24, .inl f_before)), (h0, .inr (10, vL 67 F1)), (h_s, .inl (cI, 335, .inl f_s))] H := hP
        have hD : va_D A [(h_paceAt, .inl (cI, 40, .inl f_paceAt)), (h_kindOf, .inl (cI, 4, .inl f_kindOf)), (h_behindAt, .inl (cI, 12, .inl f_behindAt)), (h_before, .inl (cI, 24, .inl f_before)), (h0, .inr (10, vL 67 F1)), (h_s, .inl (cI, 335, .inl f_s))] := hD
        refine W.widen (k := 0) (n := 0) (Nat.le_of_ble_eq_true rfl) (Nat.le_of_ble_eq_true rfl) ?_
        have k18 : 0 ≤ p0.toInt ∧ p0.toInt ≤ 2147483647 := ⟨Int.le_trans (Int.le_refl _) t12, (ir_any _).2⟩
        have k19 : 0 ≤ p0.toInt ∧ p0.toInt ≤ 3 := ⟨k18.1, Int.le_trans t13 (Int.le_refl _)⟩
        refine lv_if_ne (tgt := 36) hx hb dX10_lost_29 (by decide) (fun _ => ?_) (fun g => absurd g (by decide))
        refine lv_aload_n hx hb dX10_lost_36 rfl (lv_at hl 0 rfl) ?_
        have n20 : F1 25 = .ref h_paceAt := (get_ne eF1 (by decide) e_paceAt)
        have n21 : F1 26 = .ref h_kindOf := (get_ne eF1 (by decide) e_kindOf)
        have n22 : F1 31 = .int x_seed := (get_ne eF1 (by decide) e_seed)
        have n23 : F1 32 = .int x_kicks := (get_ne eF1 (by decide) e_kicks)
        have n24 : F1 33 = .ref h_behindAt := (get_ne eF1 (by decide) e_behindAt)
        have n25 : F1 37 = .int x_touchBend := (get_ne eF1 (by decide) e_touchBend)
        have n26 : F1 38 = .int x_touchBy := (get_ne eF1 (by decide) e_touchBy)
        refine call_Vi (wr := [(h_before, .inl (cI, 24, .inl f_before))]) (As := []) (rest := []) hx hb hml hown hw (m_X10_total l D cI cJ cB cP cM cZ h0 h_s h_paceAt h_kindOf h_behindAt F1 x_seed x_kicks x_touchBend x_touchBy f_s f_paceAt f_kindOf f_behindAt bs _ n2 n20 n21 n22 n23 i_x_kicks n24 n25 n26 i_x_touchBy s_s_K0 s_s_US s_s_0 s_s_105 s_s_114 s_s_130 s_s_139 s_s_153 s_s_44 s_s_5 s_s_6 s_s_7) wV_X10_368_X10_total dX10_lost_37 hK hP hD hS hA [4, 5, 0, 1, 2] [3] rfl rfl (by decide) (by decide) (by decide) 0 10 rfl rfl GG.fb hG.at hl.1 rfl (Nat.le_of_ble_eq_true rfl) ⟨(Nat.le_of_ble_eq_true rfl), (Nat.le_of_ble_eq_true rfl)⟩ ⟨(Nat.le_of_ble_eq_true rfl), (Nat.le_of_ble_eq_true rfl)⟩ (fun r27 u H locs hp hP hD hS => ?_)
        refine hp.elim (fun F28 h9z0 => h9z0.elim (fun y29 h9z1 => h9z1.elim (fun y30 h9z2 => h9z2.elim (fun y31 h9z3 => h9z3.elim (fun y32 h9z4 => h9z4.elim (fun y33 h9z5 => h9z5.elim (fun y34 h9z6 => h9z6.elim (fun y35 h9z7 => h9z7.elim (fun y36 h9z8 => h9z8.elim (fun g37 h9z9 => h9z9.elim (fun g38 h9z10 => h9z10.elim (fun g39 h9z11 => h9z11.elim (fun t40 h9z12 => h9z12.elim (fun t41 h9z13 => h9z13.elim (fun t42 h9z14 => h9z14.elim (fun t43 h9z15 => h9z15.elim (fun t44 h9z16 => h9z16.elim (fun t45 h9z17 => h9z17.elim (fun t46 h9z18 => h9z18.elim (fun t47 h9z19 => h9z19.elim (fun t48 h9z20 => h9z20.elim (fun t49 h9z21 => h9z21.elim (fun t50 h9z22 => h9z22.elim (fun t51 h9z23 => h9z23.elim (fun t52 h9z24 => h9z24.elim (fun t53 h9z25 => ?_))))))))))))))))))))))))))
        clear h9z0 h9z1 h9z2 h9z3 h9z4 h9z5 h9z6 h9z7 h9z8 h9z9 h9z10 h9z11 h9z12 h9z13 h9z14 h9z15 h9z16 h9z17 h9z18 h9z19 h9z20 h9z21 h9z22 h9z23 h9z24
        subst h9z25
        have hP : va_P D vwCl [(h_before, .inl (cI, 24, .inl f_before)), (h0, .inr (10, vL 67 F28)), (h_s, .inl (cI, 335, .inl f_s)), (h_paceAt, .inl (cI, 40, .inl g37)), (h_kindOf, .inl (cI, 4, .inl g38)), (h_behindAt, .inl (cI, 12, .inl g39))] H := hP
        have hD : va_D A [(h_before, .inl (cI, 24, .inl f_before)), (h0, .inr (10, vL 67 F28)), (h_s, .inl (cI, 335, .inl f_s)), (h_paceAt, .inl (cI, 40, .inl g37)), (h_kindOf, .inl (cI, 4, .inl g38)), (h_behindAt, .inl (cI, 12, .inl g39))] := hD
        refine W.widen (k := 0) (n := 0) (Nat.le_of_ble_eq_true rfl) (Nat.le_of_ble_eq_true rfl) ?_
        refine lv_istore_n (lv' := [(2, .int r27), (0, .ref h0), (1, .int p0)]) hx hb dX10_lost_40 rfl hl (by decide) rfl (fun ls hl => ?_)
        refine lv_aload_n hx hb dX10_lost_41 rfl (lv_at hl 1 rfl) ?_
        refine get_f (D := D) (ci := 10) (v := .int y29) (C := RX10) (T := TX10) (N := 67) hx hb hw inAX10 hown hK hP 1 rfl rfl 27 (by decide) (hw _ q_1288) (fun _ h9 => h9) t41 dX10_lost_42 ?_
        refine lv_istore_n (lv' := [(3, .int y29), (2, .int r27), (0, .ref h0), (1, .int p0)]) hx hb dX10_lost_45 rfl hl (by decide) rfl (fun ls hl => ?_)
        refine lv_aload_n hx hb dX10_lost_46 rfl (lv_at hl 2 rfl) ?_
        refine get_f (D := D) (ci := 10) (v := .int y30) (C := RX10) (T := TX10) (N := 67) hx hb hw inAX10 hown hK hP 1 rfl rfl 28 (by decide) (hw _ q_1289) (fun _ h9 => h9) t42 dX10_lost_47 ?_
        refine lv_istore (lv' := [(4, .int y30), (3, .int y29), (2, .int r27), (0, .ref h0), (1, .int p0)]) hx hb dX10_lost_50 hl (by decide) rfl (fun ls hl => ?_)
        refine lv_aload_n hx hb dX10_lost_52 rfl (lv_at hl 3 rfl) ?_
        have n55 : F28 6 = .ref h_s := (SAME.at t40 (by decide) n2)
        have n56 : F1 40 = .ref h_before := (get_ne eF1 (by decide) e_before)
        have n57 : F28 40 = .ref h_before := (SAME.at t40 (by decide) n56)
        refine call_Vv (wr := [(h_paceAt, .inl (cI, 40, .inl g37)), (h_kindOf, .inl (cI, 4, .inl g38)), (h_behindAt, .inl (cI, 12, .inl g39))]) (As := []) (rest := []) hx hb hml hown hw (m_X10_tries l D cI cJ cB cP cM cZ h0 h_s h_before F28 f_s f_before bs _ n55 n57 s_s_K0 s_s_US s_s_0 s_s_105 s_s_114 s_s_130 s_s_139 s_s_153 s_s_44 s_s_5 s_s_6 s_s_7 s_before_1 s_before_10) wV_X10_419_X10_tries dX10_lost_53 hK hP hD hS hA [1, 2, 0] [3, 4, 5] rfl rfl (by decide) (by decide) (by decide) 0 10 rfl rfl GG.fb hG.at hl.1 rfl (Nat.le_of_ble_eq_true rfl) ⟨(Nat.le_of_ble_eq_true rfl), (Nat.le_of_ble_eq_true rfl)⟩ ⟨(Nat.le_of_ble_eq_true rfl), (Nat.le_of_ble_eq_true rfl)⟩ (fun u H locs hp hP hD hS => ?_)
        obtain ⟨g59, t60, t61, rfl⟩ := hp
        have hP : va_P D vwCl [(h_paceAt, .inl (cI, 40, .inl g37)), (h_kindOf, .inl (cI, 4, .inl g38)), (h_behindAt, .inl (cI, 12, .inl g39)), (h0, .inr (10, vL 67 F28)), (h_s, .inl (cI, 335, .inl f_s)), (h_before, .inl (cI, 24, .inl g59))] H := hP
        have hD : va_D A [(h_paceAt, .inl (cI, 40, .inl g37)), (h_kindOf, .inl (cI, 4, .inl g38)), (h_behindAt, .inl (cI, 12, .inl g39)), (h0, .inr (10, vL 67 F28)), (h_s, .inl (cI, 335, .inl f_s)), (h_before, .inl (cI, 24, .inl g59))] := hD
        refine W.widen (k := 0) (n := 0) (Nat.le_of_ble_eq_true rfl) (Nat.le_of_ble_eq_true rfl) ?_
        refine lv_iconst (v := 0) hx hb dX10_lost_56 (by decide) ?_
        refine lv_istore (lv' := [(5, .int 0), (4, .int y30), (3, .int y29), (2, .int r27), (0, .ref h0), (1, .int p0)]) hx hb dX10_lost_57 hl (by decide) rfl (fun ls hl => ?_)
        refine mloop (α := (Int32) × (Nat → Int32)) (nL := 11) (D := D) (A := A) (H0 := s.heap) (fun a => (24 - a.1.toInt).toNat) (fun a => IR 0 24 a.1 ∧ KW 0 a.2 ∧ US bs a.2 ∧ SG 0 0 0 40 a.2 ∧ SG 105 108 0 11 a.2 ∧ SG 114 114 0 5 a.2 ∧ SG 130 133 0 11 a.2 ∧ SG 139 139 0 5 a.2 ∧ SG 153 153 0 44 a.2 ∧ SG 44 55 0 9 a.2 ∧ SG 5 5 0 12 a.2 ∧ SG 6 6 0 12 a.2 ∧ SG 7 7 0 6 a.2) (fun a => [(h_paceAt, .inl (cI, 40, .inl g37)), (h_kindOf, .inl (cI, 4, .inl g38)), (h_behindAt, .inl (cI, 12, .inl g39)), (h0, .inr (10, vL 67 F28)), (h_s, .inl (cI, 335, .inl a.2)), (h_before, .inl (cI, 24, .inl g59))]) (fun a => [(5, .int a.1), (4, .int y30), (3, .int y29), (2, .int r27), (0, .ref h0), (1, .int p0)]) (fun H locs ls => W p l e ({ frames := 5, cells := 0, slots := 0, locals := 115 } : Room) s m [.ref h0, .int p0].toArray below meth c H locs 0 0 (MQ below (va_Qi (fun (r : Int32) (u : va_W) => ∃ (Gh : Nat → Value) (y_lineTime : Int32) (y_linePace : Int32) (y_inside : Int32) (y_late : Int32) (y_seed : Int32) (y_bendsGone : Int32) (y_overAt : Int32) (y_endPace : Int32) (g_s : Nat → Int32) (g_paceAt : Nat → Int32) (g_kindOf : Nat → Int32) (g_behindAt : Nat → Int32) (g_before : Nat → Int32), SAME [0, 27, 28, 29, 30, 31, 34, 35, 36] Fh Gh ∧ Gh 0 = .int 0 ∧ Gh 27 = .int y_lineTime ∧ Gh 28 = .int y_linePace ∧ Gh 29 = .int y_inside ∧ IR 0 15 y_inside ∧ Gh 30 = .int y_late ∧ IR 0 15 y_late ∧ Gh 31 = .int y_seed ∧ Gh 34 = .int y_bendsGone ∧ IR 0 12 y_bendsGone ∧ Gh 35 = .int y_overAt ∧ Gh 36 = .int y_endPace ∧ SG 153 153 0 44 g_s ∧ SG 0 0 0 40 g_s ∧ SG 5 5 0 12 g_s ∧ SG 6 6 0 12 g_s ∧ SG 7 7 0 6 g_s ∧ SG 44 55 0 9 g_s ∧ KW 0 g_s ∧ SG 105 108 0 11 g_s ∧ SG 114 114 0 5 g_s ∧ SG 130 133 0 11 g_s ∧ SG 139 139 0 5 g_s ∧ US bs g_s ∧ SG 1 4 0 11 g_before ∧ SG 10 10 0 5 g_before ∧ u = [(h0, .inr (10, vL 67 Gh)), (h_s, .inl (cI, 335, .inl g_s)), (h_paceAt, .inl (cI, 40, .inl g_paceAt)), (h_kindOf, .inl (cI, 4, .inl g_kindOf)), (h_behindAt, .inl (cI, 12, .inl g_behindAt)), (h_before, .inl (cI, 24, .inl g_before))]) (PO D A) A) [.ref h0, .int p0].toArray s 0 0 A) (F0 m 59 ls [])) ?_ (0, f_s) ⟨(show 0 ≤ (0 : Int32).toInt ∧ (0 : Int32).toInt ≤ 24 by decide), s_s_K0, s_s_US, s_s_0, s_s_105, s_s_114, s_s_130, s_s_139, s_s_153, s_s_44, s_s_5, s_s_6, s_s_7⟩ _ _ _ hP hD hS hl
        rintro ⟨u63, w64⟩ ⟨i65, i66, i67, i68, i69, i70, i71, i72, i73, i74, i75, i76, i77⟩ ih H locs ls hP hD hS hl
        have i65 : 0 ≤ u63.toInt ∧ u63.toInt ≤ 24 := i65
        have hP : va_P D vwCl [(h_paceAt, .inl (cI, 40, .inl g37)), (h_kindOf, .inl (cI, 4, .inl g38)), (h_behindAt, .inl (cI, 12, .inl g39)), (h0, .inr (10, vL 67 F28)), (h_s, .inl (cI, 335, .inl w64)), (h_before, .inl (cI, 24, .inl g59))] H := hP
        have hD : va_D A [(h_paceAt, .inl (cI, 40, .inl g37)), (h_kindOf, .inl (cI, 4, .inl g38)), (h_behindAt, .inl (cI, 12, .inl g39)), (h0, .inr (10, vL 67 F28)), (h_s, .inl (cI, 335, .inl w64)), (h_before, .inl (cI, 24, .inl g59))] := hD
        have hl : lv_has ls 11 [(5, .int u63), (4, .int y30), (3, .int y29), (2, .int r27), (0, .ref h0), (1, .int p0)] := hl
        refine lv_iload hx hb dX10_lost_59 (lv_at hl 0 rfl) ?_
        refine lv_bipush (v := 24) hx hb dX10_lost_61 (by decide) ?_
        refine lv_icmp_ge (tgt := 93) hx hb dX10_lost_63 (by decide) (fun c78 => ?_) (fun c78 => ?_)
        · have dc78 : 24 ≤ u63.toInt := le_i (a := 24) (b := u63.toInt) rfl rfl c78
          have k79 : 24 ≤ u63.toInt ∧ u63.toInt ≤ 24 := ⟨Int.le_trans (Int.le_refl _) dc78, i65.2⟩
          refine lv_aload_n hx hb dX10_lost_93 rfl (lv_at hl 4 rfl) ?_
          have n80 : F28 25 = .ref h_paceAt := (SAME.at t40 (by decide) n20)
          have n81 : F28 26 = .ref h_kindOf := (SAME.at t40 (by decide) n21)
          have n82 : F28 32 = .int x_kicks := (SAME.at t40 (by decide) n23)
          have n83 : F28 33 = .ref h_behindAt := (SAME.at t40 (by decide) n24)
          have n84 : F28 37 = .int x_touchBend := (SAME.at t40 (by decide) n25)
          have n85 : F28 38 = .int x_touchBy := (SAME.at t40 (by decide) n26)
          refine call_Vi (wr := [(h_before, .inl (cI, 24, .inl g59))]) (As := []) (rest := []) hx hb hml hown hw (m_X10_total l D cI cJ cB cP cM cZ h0 h_s h_paceAt h_kindOf h_behindAt F28 y33 x_kicks x_touchBend x_touchBy w64 g37 g38 g39 bs _ n55 n80 n81 t48 n82 i_x_kicks n83 n84 n85 i_x_touchBy i66 i67 i68 i69 i70 i71 i72 i73 i74 i75 i76 i77) wV_X10_368_X10_total dX10_lost_94 hK hP hD hS hA [3, 4, 0, 1, 2] [5] rfl rfl (by decide) (by decide) (by decide) 0 10 rfl rfl GG.fb hG.at hl.1 rfl (Nat.le_of_ble_eq_true rfl) ⟨(Nat.le_of_ble_eq_true rfl), (Nat.le_of_ble_eq_true rfl)⟩ ⟨(Nat.le_of_ble_eq_true rfl), (Nat.le_of_ble_eq_true rfl)⟩ (fun r86 u H locs hp hP hD hS => ?_)
          refine hp.elim (fun F87 h9z0 => h9z0.elim (fun y88 h9z1 => h9z1.elim (fun y89 h9z2 => h9z2.elim (fun y90 h9z3 => h9z3.elim (fun y91 h9z4 => h9z4.elim (fun y92 h9z5 => h9z5.elim (fun y93 h9z6 => h9z6.elim (fun y94 h9z7 => h9z7.elim (fun y95 h9z8 => h9z8.elim (fun g96 h9z9 => h9z9.elim (fun g97 h9z10 => h9z10.elim (fun g98 h9z11 => h9z11.elim (fun t99 h9z12 => h9z12.elim (fun t100 h9z13 => h9z13.elim (fun t101 h9z14 => h9z14.elim (fun t102 h9z15 => h9z15.elim (fun t103 h9z16 => h9z16.elim (fun t104 h9z17 => h9z17.elim (fun t105 h9z18 => h9z18.elim (fun t106 h9z19 => h9z19.elim (fun t107 h9z20 => h9z20.elim (fun t108 h9z21 => h9z21.elim (fun t109 h9z22 => h9z22.elim (fun t110 h9z23 => h9z23.elim (fun t111 h9z24 => h9z24.elim (fun t112 h9z25 => ?_))))))))))))))))))))))))))
          clear h9z0 h9z1 h9z2 h9z3 h9z4 h9z5 h9z6 h9z7 h9z8 h9z9 h9z10 h9z11 h9z12 h9z13 h9z14 h9z15 h9z16 h9z17 h9z18 h9z19 h9z20 h9z21 h9z22 h9z23 h9z24
          subst h9z25
          have hP : va_P D vwCl [(h_before, .inl (cI, 24, .inl g59)), (h0, .inr (10, vL 67 F87)), (h_s, .inl (cI, 335, .inl w64)), (h_paceAt, .inl (cI, 40, .inl g96)), (h_kindOf, .inl (cI, 4, .inl g97)), (h_behindAt, .inl (cI, 12, .inl g98))] H := hP
          have hD : va_D A [(h_before, .inl (cI, 24, .inl g59)), (h0, .inr (10, vL 67 F87)), (h_s, .inl (cI, 335, .inl w64)), (h_paceAt, .inl (cI, 40, .inl g96)), (h_kindOf, .inl (cI, 4, .inl g97)), (h_behindAt, .inl (cI, 12, .inl g98))] := hD
          refine W.widen (k := 0) (n := 0) (Nat.le_of_ble_eq_true rfl) (Nat.le_of_ble_eq_true rfl) ?_
          refine lv_istore (lv' := [(5, .int r86), (4, .int y30), (3, .int y29), (2, .int r27), (0, .ref h0), (1, .int p0)]) hx hb dX10_lost_97 hl (by decide) rfl (fun ls hl => ?_)
          refine lv_aload_n hx hb dX10_lost_99 rfl (lv_at hl 4 rfl) ?_
          refine get_f (D := D) (ci := 10) (v := .int y88) (C := RX10) (T := TX10) (N := 67) hx hb hw inAX10 hown hK hP 1 rfl rfl 27 (by decide) (hw _ q_1288) (fun _ h9 => h9) t100 dX10_lost_100 ?_
          refine lv_istore (lv' := [(6, .int y88), (5, .int r86), (4, .int y30), (3, .int y29), (2, .int r27), (0, .ref h0), (1, .int p0)]) hx hb dX10_lost_103 hl (by decide) rfl (fun ls hl => ?_)
          refine lv_aload_n hx hb dX10_lost_105 rfl (lv_at hl 5 rfl) ?_
          refine lv_iload hx hb dX10_lost_106 (lv_at hl 2 rfl) ?_
          refine lv_aload_n hx hb dX10_lost_108 rfl (lv_at hl 5 rfl) ?_
          have n114 : F87 6 = .ref h_s := (SAME.at t99 (by decide) n55)
          refine call_Vi (wr := [(h_before, .inl (cI, 24, .inl g59)), (h_paceAt, .inl (cI, 40, .inl g96)), (h_kindOf, .inl (cI, 4, .inl g97)), (h_behindAt, .inl (cI, 12, .inl g98))]) (As := []) (rest := [.int y30, .ref h0]) hx hb hml hown hw (m_X10_weight l D cI cJ cB cP cM cZ h0 h_s F87 y90 w64 bs _ n114 t103 t104 i66 i67 i68 i69 i70 i71 i72 i73 i74 i75 i76 i77) wV_X10_343_X10_weight dX10_lost_109 hK hP hD hS hA [1, 2] [0, 3, 4, 5] rfl rfl (by decide) (by decide) (by decide) 0 10 rfl rfl GG.fb hG.at hl.1 rfl (Nat.le_of_ble_eq_true rfl) ⟨(Nat.le_of_ble_eq_true rfl), (Nat.le_of_ble_eq_true rfl)⟩ ⟨(Nat.le_of_ble_eq_true rfl), (Nat.le_of_ble_eq_true rfl)⟩ (fun r115 u H locs hp hP hD hS => ?_)
          obtain rfl := hp
          have hP : va_P D vwCl [(h_before, .inl (cI, 24, .inl g59)), (h_paceAt, .inl (cI, 40, .inl g96)), (h_kindOf, .inl (cI, 4, .inl g97)), (h_behindAt, .inl (cI, 12, .inl g98)), (h0, .inr (10, vL 67 F87)), (h_s, .inl (cI, 335, .inl w64))] H := hP
          have hD : va_D A [(h_before, .inl (cI, 24, .inl g59)), (h_paceAt, .inl (cI, 40, .inl g96)), (h_kindOf, .inl (cI, 4, .inl g97)), (h_behindAt, .inl (cI, 12, .inl g98)), (h0, .inr (10, vL 67 F87)), (h_s, .inl (cI, 335, .inl w64))] := hD
          refine W.widen (k := 0) (n := 0) (Nat.le_of_ble_eq_true rfl) (Nat.le_of_ble_eq_true rfl) ?_
          have n117 : F87 33 = .ref h_behindAt := (SAME.at t99 (by decide) n83)
          have n118 : F87 37 = .int x_touchBend := (SAME.at t99 (by decide) n84)
          have n119 : F87 38 = .int x_touchBy := (SAME.at t99 (by decide) n85)
          refine call_Vi (wr := [(h_before, .inl (cI, 24, .inl g59)), (h_paceAt, .inl (cI, 40, .inl g96)), (h_kindOf, .inl (cI, 4, .inl g97))]) (As := [.int y30, .int r115]) (rest := []) hx hb hml hown hw (m_X10_down l D cI cJ cB cP cM cZ h0 h_s h_behindAt F87 x_touchBend x_touchBy w64 g98 y30 r115 bs _ n114 n117 n118 n119 i_x_touchBy i66 i67 i68 i69 i70 i71 i72 i73 i74 i75 i76 i77) wV_X10_365_X10_down dX10_lost_112 hK hP hD hS hA [4, 5, 3] [0, 1, 2] rfl rfl (by decide) (by decide) (by decide) 0 10 rfl rfl GG.fb hG.at hl.1 rfl (Nat.le_of_ble_eq_true rfl) ⟨(Nat.le_of_ble_eq_true rfl), (Nat.le_of_ble_eq_true rfl)⟩ ⟨(Nat.le_of_ble_eq_true rfl), (Nat.le_of_ble_eq_true rfl)⟩ (fun r120 u H locs hp hP hD hS => ?_)
          obtain ⟨F121, y122, y123, y124, g125, t126, t127, t128, t129, t130, t131, t132, rfl⟩ := hp
          have hP : va_P D vwCl [(h_before, .inl (cI, 24, .inl g59)), (h_paceAt, .inl (cI, 40, .inl g96)), (h_kindOf, .inl (cI, 4, .inl g97)), (h0, .inr (10, vL 67 F121)), (h_s, .inl (cI, 335, .inl w64)), (h_behindAt, .inl (cI, 12, .inl g125))] H := hP
          have hD : va_D A [(h_before, .inl (cI, 24, .inl g59)), (h_paceAt, .inl (cI, 40, .inl g96)), (h_kindOf, .inl (cI, 4, .inl g97)), (h0, .inr (10, vL 67 F121)), (h_s, .inl (cI, 335, .inl w64)), (h_behindAt, .inl (cI, 12, .inl g125))] := hD
          refine W.widen (k := 0) (n := 0) (Nat.le_of_ble_eq_true rfl) (Nat.le_of_ble_eq_true rfl) ?_
          refine lv_istore (lv' := [(7, .int r120), (6, .int y88), (5, .int r86), (4, .int y30), (3, .int y29), (2, .int r27), (0, .ref h0), (1, .int p0)]) hx hb dX10_lost_115 hl (by decide) rfl (fun ls hl => ?_)
          refine lv_aload_n hx hb dX10_lost_117 rfl (lv_at hl 6 rfl) ?_
          have n134 : F121 6 = .ref h_s := (SAME.at t126 (by decide) n114)
          have n135 : F87 40 = .ref h_before := (SAME.at t99 (by decide) n57)
          have n136 : F121 40 = .ref h_before := (SAME.at t126 (by decide) n135)
          refine call_Vv (wr := [(h_paceAt, .inl (cI, 40, .inl g96)), (h_kindOf, .inl (cI, 4, .inl g97)), (h_behindAt, .inl (cI, 12, .inl g125))]) (As := []) (rest := []) hx hb hml hown hw (m_X10_back l D cI cJ cB cP cM cZ h0 h_s h_before F121 w64 g59 bs _ n134 n136 i66 i67 i68 i69 i70 i71 i72 i73 i74 i75 i76 i77 t60 t61) wV_X10_425_X10_back dX10_lost_118 hK hP hD hS hA [3, 4, 0] [1, 2, 5] rfl rfl (by decide) (by decide) (by decide) 0 10 rfl rfl GG.fb hG.at hl.1 rfl (Nat.le_of_ble_eq_true rfl) ⟨(Nat.le_of_ble_eq_true rfl), (Nat.le_of_ble_eq_true rfl)⟩ ⟨(Nat.le_of_ble_eq_true rfl), (Nat.le_of_ble_eq_true rfl)⟩ (fun u H locs hp hP hD hS => ?_)
          obtain ⟨g138, t139, t140, t141, t142, t143, t144, t145, t146, t147, t148, t149, t150, rfl⟩ := hp
          have hP : va_P D vwCl [(h_paceAt, .inl (cI, 40, .inl g96)), (h_kindOf, .inl (cI, 4, .inl g97)), (h_behindAt, .inl (cI, 12, .inl g125)), (h0, .inr (10, vL 67 F121)), (h_s, .inl (cI, 335, .inl g138)), (h_before, .inl (cI, 24, .inl g59))] H := hP
          have hD : va_D A [(h_paceAt, .inl (cI, 40, .inl g96)), (h_kindOf, .inl (cI, 4, .inl g97)), (h_behindAt, .inl (cI, 12, .inl g125)), (h0, .inr (10, vL 67 F121)), (h_s, .inl (cI, 335, .inl g138)), (h_before, .inl (cI, 24, .inl g59))] := hD
          refine W.widen (k := 0) (n := 0) (Nat.le_of_ble_eq_true rfl) (Nat.le_of_ble_eq_true rfl) ?_
          refine lv_iload_n hx hb dX10_lost_121 rfl (lv_at hl 5 rfl) ?_
          refine lv_if_lt (tgt := 135) hx hb dX10_lost_122 (by decide) (fun c152 => ?_) (fun c152 => ?_)
          · have dc152 : r27.toInt < 0 := lt_i (a := r27.toInt) (b := 0) rfl rfl c152
            have k153 : (-2147483648) ≤ r27.toInt ∧ r27.toInt ≤ (-1) := ⟨(ir_any _).1, up_lt dc152 (Int.le_refl _) (by decide)⟩
            refine lv_ldcw hx hb hown (hw _ q_1756) dX10_lost_135 ?_
            exact ret_i (v := (-100001)) hx hb hr hlocks hS (hP.sub (ws' := [(h0, .inr (10, vL 67 F121)), (h_s, .inl (cI, 335, .inl g138)), (h_paceAt, .inl (cI, 40, .inl g96)), (h_kindOf, .inl (cI, 4, .inl g97)), (h_behindAt, .inl (cI, 12, .inl g125)), (h_before, .inl (cI, 24, .inl g59))]) [3, 4, 0, 1, 2, 5] rfl) (hD.sub (ws' := [(h0, .inr (10, vL 67 F121)), (h_s, .inl (cI, 335, .inl g138)), (h_paceAt, .inl (cI, 40, .inl g96)), (h_kindOf, .inl (cI, 4, .inl g97)), (h_behindAt, .inl (cI, 12, .inl g125)), (h_before, .inl (cI, 24, .inl g59))]) [3, 4, 0, 1, 2, 5] (by decide) rfl) dX10_lost_138 rfl (Nat.le_of_ble_eq_true rfl) (Nat.le_of_ble_eq_true rfl) ⟨F121, y88, y89, y90, y91, y92, y122, y123, y124, g138, g96, g97, g125, g59, (SAME.tr (SAME.tr (SAME.tr (SAME.up eF1 SAME.rf (by decide)) t40 (by decide)) t99 (by decide)) t126 (by decide)), (SAME.at t126 (by decide) (SAME.at t99 (by decide) (SAME.at t40 (by decide) (get_eq eF1)))), (SAME.at t126 (by decide) t100), (SAME.at t126 (by decide) t101), (SAME.at t126 (by decide) t103), t104, (SAME.at t126 (by decide) t105), t106, (SAME.at t126 (by decide) t107), t127, t128, t129, t131, t139, t140, t141, t142, t143, t144, t145, t146, t147, t148, t149, t150, t60, t61, rfl⟩
          · have dc152 : 0 ≤ r27.toInt := nlt_i (a := r27.toInt) (b := 0) rfl rfl c152
            have k154 : 0 ≤ r27.toInt ∧ r27.toInt ≤ 2147483647 := ⟨Int.le_trans (Int.le_refl _) dc152, (ir_any _).2⟩
            refine lv_iload hx hb dX10_lost_125 (lv_at hl 2 rfl) ?_
            refine lv_if_lt (tgt := 135) hx hb dX10_lost_127 (by decide) (fun c155 => ?_) (fun c155 => ?_)
            · have dc155 : r86.toInt < 0 := lt_i (a := r86.toInt) (b := 0) rfl rfl c155
              have k156 : (-2147483648) ≤ r86.toInt ∧ r86.toInt ≤ (-1) := ⟨(ir_any _).1, up_lt dc155 (Int.le_refl _) (by decide)⟩
              refine lv_ldcw hx hb hown (hw _ q_1756) dX10_lost_135 ?_
              exact ret_i (v := (-100001)) hx hb hr hlocks hS (hP.sub (ws' := [(h0, .inr (10, vL 67 F121)), (h_s, .inl (cI, 335, .inl g138)), (h_paceAt, .inl (cI, 40, .inl g96)), (h_kindOf, .inl (cI, 4, .inl g97)), (h_behindAt, .inl (cI, 12, .inl g125)), (h_before, .inl (cI, 24, .inl g59))]) [3, 4, 0, 1, 2, 5] rfl) (hD.sub (ws' := [(h0, .inr (10, vL 67 F121)), (h_s, .inl (cI, 335, .inl g138)), (h_paceAt, .inl (cI, 40, .inl g96)), (h_kindOf, .inl (cI, 4, .inl g97)), (h_behindAt, .inl (cI, 12, .inl g125)), (h_before, .inl (cI, 24, .inl g59))]) [3, 4, 0, 1, 2, 5] (by decide) rfl) dX10_lost_138 rfl (Nat.le_of_ble_eq_true rfl) (Nat.le_of_ble_eq_true rfl) ⟨F121, y88, y89, y90, y91, y92, y122, y123, y124, g138, g96, g97, g125, g59, (SAME.tr (SAME.tr (SAME.tr (SAME.up eF1 SAME.rf (by decide)) t40 (by decide)) t99 (by decide)) t126 (by decide)), (SAME.at t126 (by decide) (SAME.at t99 (by decide) (SAME.at t40 (by decide) (get_eq eF1)))), (SAME.at t126 (by decide) t100), (SAME.at t126 (by decide) t101), (SAME.at t126 (by decide) t103), t104, (SAME.at t126 (by decide) t105), t106, (SAME.at t126 (by decide) t107), t127, t128, t129, t131, t139, t140, t141, t142, t143, t144, t145, t146, t147, t148, t149, t150, t60, t61, rfl⟩
            · have dc155 : 0 ≤ r86.toInt := nlt_i (a := r86.toInt) (b := 0) rfl rfl c155
              have k157 : 0 ≤ r86.toInt ∧ r86.toInt ≤ 2147483647 := ⟨Int.le_trans (Int.le_refl _) dc155, (ir_any _).2⟩
              refine lv_iload hx hb dX10_lost_130 (lv_at hl 0 rfl) ?_
              refine lv_if_ge (tgt := 139) hx hb dX10_lost_132 (by decide) (fun c158 => ?_) (fun c158 => ?_)
              · have dc158 : 0 ≤ r120.toInt := le_i (a := 0) (b := r120.toInt) rfl rfl c158
                have k159 : 0 ≤ r120.toInt ∧ r120.toInt ≤ 32400 := ⟨Int.le_trans (Int.le_refl _) dc158, t132.2⟩
                refine lv_iload_n hx hb dX10_lost_139 rfl (lv_at hl 5 rfl) ?_
                refine lv_iload hx hb dX10_lost_140 (lv_at hl 2 rfl) ?_
                refine lv_isub hx hb dX10_lost_142 ?_
                refine lv_topi (fun v160 ev160 => ?_)
                have bv160 : v160.toInt = r27.toInt - r86.toInt := by rw [ev160]; exact sub_k rfl rfl k154 k157 (by decide)
                have k161 : (-2147483647) ≤ v160.toInt ∧ v160.toInt ≤ 2147483647 := sub_r bv160 k154 k157 (by decide)
                refine lv_istore (lv' := [(8, .int v160), (7, .int r120), (6, .int y88), (5, .int r86), (4, .int y30), (3, .int y29), (2, .int r27), (0, .ref h0), (1, .int p0)]) hx hb dX10_lost_143 hl (by decide) rfl (fun ls hl => ?_)
                refine lv_iload_n hx hb dX10_lost_145 rfl (lv_at hl 5 rfl) ?_
                refine lv_iload hx hb dX10_lost_146 (lv_at hl 2 rfl) ?_
                refine lv_isub hx hb dX10_lost_148 ?_
                refine lv_topi (fun v162 ev162 => ?_)
                refine lv_istore (lv' := [(9, .int v162), (8, .int v160), (7, .int r120), (6, .int y88), (5, .int r86), (4, .int y30), (3, .int y29), (2, .int r27), (0, .ref h0), (1, .int p0)]) hx hb dX10_lost_149 hl (by decide) rfl (fun ls hl => ?_)
                refine lv_iload hx hb dX10_lost_151 (lv_at hl 2 rfl) ?_
                refine lv_iload hx hb dX10_lost_153 (lv_at hl 4 rfl) ?_
                refine lv_iload hx hb dX10_lost_155 (lv_at hl 3 rfl) ?_
                refine lv_isub hx hb dX10_lost_157 ?_
                refine lv_topi (fun v163 ev163 => ?_)
                refine lv_isub hx hb dX10_lost_158 ?_
                refine lv_topi (fun v164 ev164 => ?_)
                refine lv_istore (lv' := [(10, .int v164), (9, .int v162), (8, .int v160), (7, .int r120), (6, .int y88), (5, .int r86), (4, .int y30), (3, .int y29), (2, .int r27), (0, .ref h0), (1, .int p0)]) hx hb dX10_lost_159 hl (by decide) rfl (fun ls hl => ?_)
                refine lv_iload_n hx hb dX10_lost_161 rfl (lv_at hl 10 rfl) ?_
                refine lv_if_ne (tgt := 170) hx hb dX10_lost_162 (by decide) (fun c165 => ?_) (fun c165 => ?_)
                · have dc165 : p0.toInt ≠ 0 := ne_i (a := p0.toInt) (b := 0) rfl rfl c165
                  have k166 : 1 ≤ p0.toInt ∧ p0.toInt ≤ 3 := ⟨ne_lo dc165 k19.1 ⟨Int.le_refl _, Int.le_refl _⟩ (by decide), k19.2⟩
                  refine lv_iload_n hx hb dX10_lost_170 rfl (lv_at hl 10 rfl) ?_
                  refine lv_iconst (v := 1) hx hb dX10_lost_171 (by decide) ?_
                  refine lv_icmp_ne (tgt := 180) hx hb dX10_lost_172 (by decide) (fun c167 => ?_) (fun c167 => ?_)
                  · have dc167 : p0.toInt ≠ 1 := ne_i (a := p0.toInt) (b := 1) rfl rfl c167
                    have k168 : 2 ≤ p0.toInt ∧ p0.toInt ≤ 3 := ⟨ne_lo dc167 k166.1 ⟨Int.le_refl _, Int.le_refl _⟩ (by decide), k166.2⟩
                    refine lv_iload_n hx hb dX10_lost_180 rfl (lv_at hl 10 rfl) ?_
                    refine lv_iconst (v := 2) hx hb dX10_lost_181 (by decide) ?_
                    refine lv_icmp_ne (tgt := 196) hx hb dX10_lost_182 (by decide) (fun c169 => ?_) (fun c169 => ?_)
                    · have dc169 : p0.toInt ≠ 2 := ne_i (a := p0.toInt) (b := 2) rfl rfl c169
                      have k170 : 3 ≤ p0.toInt ∧ p0.toInt ≤ 3 := ⟨ne_lo dc169 k168.1 ⟨Int.le_refl _, Int.le_refl _⟩ (by decide), k168.2⟩
                      refine lv_iload hx hb dX10_lost_196 (lv_at hl 2 rfl) ?_
                      exact ret_i (v := v160) hx hb hr hlocks hS (hP.sub (ws' := [(h0, .inr (10, vL 67 F121)), (h_s, .inl (cI, 335, .inl g138)), (h_paceAt, .inl (cI, 40, .inl g96)), (h_kindOf, .inl (cI, 4, .inl g97)), (h_behindAt, .inl (cI, 12, .inl g125)), (h_before, .inl (cI, 24, .inl g59))]) [3, 4, 0, 1, 2, 5] rfl) (hD.sub (ws' := [(h0, .inr (10, vL 67 F121)), (h_s, .inl (cI, 335, .inl g138)), (h_paceAt, .inl (cI, 40, .inl g96)), (h_kindOf, .inl (cI, 4, .inl g97)), (h_behindAt, .inl (cI, 12, .inl g125)), (h_before, .inl (cI, 24, .inl g59))]) [3, 4, 0, 1, 2, 5] (by decide) rfl) dX10_lost_198 rfl (Nat.le_of_ble_eq_true rfl) (Nat.le_of_ble_eq_true rfl) ⟨F121, y88, y89, y90, y91, y92, y122, y123, y124, g138, g96, g97, g125, g59, (SAME.tr (SAME.tr (SAME.tr (SAME.up eF1 SAME.rf (by decide)) t40 (by decide)) t99 (by decide)) t126 (by decide)), (SAME.at t126 (by decide) (SAME.at t99 (by decide) (SAME.at t40 (by decide) (get_eq eF1)))), (SAME.at t126 (by decide) t100), (SAME.at t126 (by decide) t101), (SAME.at t126 (by decide) t103), t104, (SAME.at t126 (by decide) t105), t106, (SAME.at t126 (by decide) t107), t127, t128, t129, t131, t139, t140, t141, t142, t143, t144, t145, t146, t147, t148, t149, t150, t60, t61, rfl⟩
                    · have dc169 : p0.toInt = 2 := eq_i (a := p0.toInt) (b := 2) rfl rfl c169
                      have k171 : 2 ≤ p0.toInt ∧ p0.toInt ≤ 2 := ⟨k168.1, Int.le_trans (Int.le_of_eq dc169) (Int.le_refl _)⟩
                      refine lv_iload hx hb dX10_lost_185 (lv_at hl 2 rfl) ?_
                      refine lv_iload hx hb dX10_lost_187 (lv_at hl 1 rfl) ?_
                      refine lv_isub hx hb dX10_lost_189 ?_
                      refine lv_topi (fun v172 ev172 => ?_)
                      refine lv_iload hx hb dX10_lost_190 (lv_at hl 0 rfl) ?_
                      refine lv_isub hx hb dX10_lost_192 ?_
                      refine lv_topi (fun v173 ev173 => ?_)
                      refine lv_goto (tgt := 198) hx hb dX10_lost_193 (by decide) ?_
                      exact ret_i (v := v173) hx hb hr hlocks hS (hP.sub (ws' := [(h0, .inr (10, vL 67 F121)), (h_s, .inl (cI, 335, .inl g138)), (h_paceAt, .inl (cI, 40, .inl g96)), (h_kindOf, .inl (cI, 4, .inl g97)), (h_behindAt, .inl (cI, 12, .inl g125)), (h_before, .inl (cI, 24, .inl g59))]) [3, 4, 0, 1, 2, 5] rfl) (hD.sub (ws' := [(h0, .inr (10, vL 67 F121)), (h_s, .inl (cI, 335, .inl g138)), (h_paceAt, .inl (cI, 40, .inl g96)), (h_kindOf, .inl (cI, 4, .inl g97)), (h_behindAt, .inl (cI, 12, .inl g125)), (h_before, .inl (cI, 24, .inl g59))]) [3, 4, 0, 1, 2, 5] (by decide) rfl) dX10_lost_198 rfl (Nat.le_of_ble_eq_true rfl) (Nat.le_of_ble_eq_true rfl) ⟨F121, y88, y89, y90, y91, y92, y122, y123, y124, g138, g96, g97, g125, g59, (SAME.tr (SAME.tr (SAME.tr (SAME.up eF1 SAME.rf (by decide)) t40 (by decide)) t99 (by decide)) t126 (by decide)), (SAME.at t126 (by decide) (SAME.at t99 (by decide) (SAME.at t40 (by decide) (get_eq eF1)))), (SAME.at t126 (by decide) t100), (SAME.at t126 (by decide) t101), (SAME.at t126 (by decide) t103), t104, (SAME.at t126 (by decide) t105), t106, (SAME.at t126 (by decide) t107), t127, t128, t129, t131, t139, t140, t141, t142, t143, t144, t145, t146, t147, t148, t149, t150, t60, t61, rfl⟩
                  · have dc167 : p0.toInt = 1 := eq_i (a := p0.toInt) (b := 1) rfl rfl c167
                    have k174 : 1 ≤ p0.toInt ∧ p0.toInt ≤ 1 := ⟨k166.1, Int.le_trans (Int.le_of_eq dc167) (Int.le_refl _)⟩
                    refine lv_iload hx hb dX10_lost_175 (lv_at hl 0 rfl) ?_
                    refine lv_goto (tgt := 198) hx hb dX10_lost_177 (by decide) ?_
                    exact ret_i (v := v164) hx hb hr hlocks hS (hP.sub (ws' := [(h0, .inr (10, vL 67 F121)), (h_s, .inl (cI, 335, .inl g138)), (h_paceAt, .inl (cI, 40, .inl g96)), (h_kindOf, .inl (cI, 4, .inl g97)), (h_behindAt, .inl (cI, 12, .inl g125)), (h_before, .inl (cI, 24, .inl g59))]) [3, 4, 0, 1, 2, 5] rfl) (hD.sub (ws' := [(h0, .inr (10, vL 67 F121)), (h_s, .inl (cI, 335, .inl g138)), (h_paceAt, .inl (cI, 40, .inl g96)), (h_kindOf, .inl (cI, 4, .inl g97)), (h_behindAt, .inl (cI, 12, .inl g125)), (h_before, .inl (cI, 24, .inl g59))]) [3, 4, 0, 1, 2, 5] (by decide) rfl) dX10_lost_198 rfl (Nat.le_of_ble_eq_true rfl) (Nat.le_of_ble_eq_true rfl) ⟨F121, y88, y89, y90, y91, y92, y122, y123, y124, g138, g96, g97, g125, g59, (SAME.tr (SAME.tr (SAME.tr (SAME.up eF1 SAME.rf (by decide)) t40 (by decide)) t99 (by decide)) t126 (by decide)), (SAME.at t126 (by decide) (SAME.at t99 (by decide) (SAME.at t40 (by decide) (get_eq eF1)))), (SAME.at t126 (by decide) t100), (SAME.at t126 (by decide) t101), (SAME.at t126 (by decide) t103), t104, (SAME.at t126 (by decide) t105), t106, (SAME.at t126 (by decide) t107), t127, t128, t129, t131, t139, t140, t141, t142, t143, t144, t145, t146, t147, t148, t149, t150, t60, t61, rfl⟩
                · have dc165 : p0.toInt = 0 := eq_i (a := p0.toInt) (b := 0) rfl rfl c165
                  have k175 : 0 ≤ p0.toInt ∧ p0.toInt ≤ 0 := ⟨k19.1, Int.le_trans (Int.le_of_eq dc165) (Int.le_refl _)⟩
                  refine lv_iload hx hb dX10_lost_165 (lv_at hl 1 rfl) ?_
                  refine lv_goto (tgt := 198) hx hb dX10_lost_167 (by decide) ?_
                  exact ret_i (v := v162) hx hb hr hlocks hS (hP.sub (ws' := [(h0, .inr (10, vL 67 F121)), (h_s, .inl (cI, 335, .inl g138)), (h_paceAt, .inl (cI, 40, .inl g96)), (h_kindOf, .inl (cI, 4, .inl g97)), (h_behindAt, .inl (cI, 12, .inl g125)), (h_before, .inl (cI, 24, .inl g59))]) [3, 4, 0, 1, 2, 5] rfl) (hD.sub (ws' := [(h0, .inr (10, vL 67 F121)), (h_s, .inl (cI, 335, .inl g138)), (h_paceAt, .inl (cI, 40, .inl g96)), (h_kindOf, .inl (cI, 4, .inl g97)), (h_behindAt, .inl (cI, 12, .inl g125)), (h_before, .inl (cI, 24, .inl g59))]) [3, 4, 0, 1, 2, 5] (by decide) rfl) dX10_lost_198 rfl (Nat.le_of_ble_eq_true rfl) (Nat.le_of_ble_eq_true rfl) ⟨F121, y88, y89, y90, y91, y92, y122, y123, y124, g138, g96, g97, g125, g59, (SAME.tr (SAME.tr (SAME.tr (SAME.up eF1 SAME.rf (by decide)) t40 (by decide)) t99 (by decide)) t126 (by decide)), (SAME.at t126 (by decide) (SAME.at t99 (by decide) (SAME.at t40 (by decide) (get_eq eF1)))), (SAME.at t126 (by decide) t100), (SAME.at t126 (by decide) t101), (SAME.at t126 (by decide) t103), t104, (SAME.at t126 (by decide) t105), t106, (SAME.at t126 (by decide) t107), t127, t128, t129, t131, t139, t140, t141, t142, t143, t144, t145, t146, t147, t148, t149, t150, t60, t61, rfl⟩
              · have dc158 : r120.toInt < 0 := nle_i (a := 0) (b := r120.toInt) rfl rfl c158
                have k176 : (-1) ≤ r120.toInt ∧ r120.toInt ≤ (-1) := ⟨t132.1, up_lt dc158 (Int.le_refl _) (by decide)⟩
                refine lv_ldcw hx hb hown (hw _ q_1756) dX10_lost_135 ?_
                exact ret_i (v := (-100001)) hx hb hr hlocks hS (hP.sub (ws' := [(h0, .inr (10, vL 67 F121)), (h_s, .inl (cI, 335, .inl g138)), (h_paceAt, .inl (cI, 40, .inl g96)), (h_kindOf, .inl (cI, 4, .inl g97)), (h_behindAt, .inl (cI, 12, .inl g125)), (h_before, .inl (cI, 24, .inl g59))]) [3, 4, 0, 1, 2, 5] rfl) (hD.sub (ws' := [(h0, .inr (10, vL 67 F121)), (h_s, .inl (cI, 335, .inl g138)), (h_paceAt, .inl (cI, 40, .inl g96)), (h_kindOf, .inl (cI, 4, .inl g97)), (h_behindAt, .inl (cI, 12, .inl g125)), (h_before, .inl (cI, 24, .inl g59))]) [3, 4, 0, 1, 2, 5] (by decide) rfl) dX10_lost_138 rfl (Nat.le_of_ble_eq_true rfl) (Nat.le_of_ble_eq_true rfl) ⟨F121, y88, y89, y90, y91, y92, y122, y123, y124, g138, g96, g97, g125, g59, (SAME.tr (SAME.tr (SAME.tr (SAME.up eF1 SAME.rf (by decide)) t40 (by decide)) t99 (by decide)) t126 (by decide)), (SAME.at t126 (by decide) (SAME.at t99 (by decide) (SAME.at t40 (by decide) (get_eq eF1)))), (SAME.at t126 (by decide) t100), (SAME.at t126 (by decide) t101), (SAME.at t126 (by decide) t103), t104, (SAME.at t126 (by decide) t105), t106, (SAME.at t126 (by decide) t107), t127, t128, t129, t131, t139, t140, t141, t142, t143, t144, t145, t146, t147, t148, t149, t150, t60, t61, rfl⟩
        · have dc78 : u63.toInt < 24 := nle_i (a := 24) (b := u63.toInt) rfl rfl c78
          have k177 : 0 ≤ u63.toInt ∧ u63.toInt ≤ 23 := ⟨i65.1, up_lt dc78 (Int.le_refl _) (by decide)⟩
          refine lv_aload_n hx hb dX10_lost_66 rfl (lv_at hl 4 rfl) ?_
          refine get_f (D := D) (ci := 10) (v := .ref h_s) (C := RX10) (T := TX10) (N := 67) hx hb hw inAX10 hown hK hP 3 rfl rfl 6 (by decide) (hw _ q_1267) (fun _ h9 => h9) n55 dX10_lost_67 ?_
          refine lv_bipush (v := 104) hx hb dX10_lost_70 (by decide) ?_
          refine lv_iload hx hb dX10_lost_72 (lv_at hl 0 rfl) ?_
          refine lv_iadd hx hb dX10_lost_74 ?_
          refine lv_topi (fun v178 ev178 => ?_)
          have bv178 : v178.toInt = 104 + u63.toInt := by rw [ev178]; exact add_k rfl rfl ⟨Int.le_refl _, Int.le_refl _⟩ k177 (by decide)
          have k179 : 104 ≤ v178.toInt ∧ v178.toInt ≤ 127 := add_r bv178 ⟨Int.le_refl _, Int.le_refl _⟩ k177 (by decide)
          refine lv_aload_n hx hb dX10_lost_75 rfl (lv_at hl 4 rfl) ?_
          refine get_f (D := D) (ci := 10) (v := .ref h_s) (C := RX10) (T := TX10) (N := 67) hx hb hw inAX10 hown hK hP 3 rfl rfl 6 (by decide) (hw _ q_1267) (fun _ h9 => h9) n55 dX10_lost_76 ?_
          refine lv_sipush (v := 129) hx hb dX10_lost_79 (by decide) ?_
          refine lv_iload hx hb dX10_lost_82 (lv_at hl 0 rfl) ?_
          refine lv_iadd hx hb dX10_lost_84 ?_
          refine lv_topi (fun v180 ev180 => ?_)
          have bv180 : v180.toInt = 129 + u63.toInt := by rw [ev180]; exact add_k rfl rfl ⟨Int.le_refl _, Int.le_refl _⟩ k177 (by decide)
          have k181 : 129 ≤ v180.toInt ∧ v180.toInt ≤ 152 := add_r bv180 ⟨Int.le_refl _, Int.le_refl _⟩ k177 (by decide)
          refine va_iald hx hb hK hP 4 0 rfl rfl (ix_k k181 (by decide) (by decide)) dX10_lost_85 ?_
          refine lv_topi (fun v182 ev182 => ?_)
          have r183 : IMP (130 ≤ v180.toInt → v180.toInt ≤ 133 → 0 ≤ v182.toInt ∧ v182.toInt ≤ 11) := IMP.mk (fun q1 q2 => by rw [ev182]; exact i71.at _ q1 q2)
          have r184 : IMP (139 ≤ v180.toInt → v180.toInt ≤ 139 → 0 ≤ v182.toInt ∧ v182.toInt ≤ 5) := IMP.mk (fun q1 q2 => by rw [ev182]; exact i72.at _ q1 q2)
          obtain ⟨g185, eg185⟩ : ∃ z : Nat → Int32, upd w64 v178.toNatClampNeg v182 = z := ⟨_, rfl⟩
          have r186 : KW 0 g185 := by rw [← eg185]; exact i66.up (Int.le_trans (by decide) k179.1) (Or.inl (lt_dec k179.2 (by decide)))
          have r187 : US bs g185 := by rw [← eg185]; exact US.up i67 (Int.le_trans (by decide) k179.1)
          have r188 : SG 0 0 0 40 g185 := by rw [← eg185]; exact i68.up (Int.le_trans (by decide) k179.1) (Or.inr (Or.inl (dec_lt k179.1 (by decide))))
          have r189 : SG 105 108 0 11 g185 := by rw [← eg185]; exact i69.upI (Int.le_trans (by decide) k179.1) (fun q1 q2 => ⟨Int.le_trans (by decide) (r183.h (by omega) (by omega)).1, Int.le_trans (r183.h (by omega) (by omega)).2 (by decide)⟩)
          have r190 : SG 114 114 0 5 g185 := by rw [← eg185]; exact i70.upI (Int.le_trans (by decide) k179.1) (fun q1 q2 => ⟨Int.le_trans (by decide) (r184.h (by omega) (by omega)).1, Int.le_trans (r184.h (by omega) (by omega)).2 (by decide)⟩)
          have r191 : SG 130 133 0 11 g185 := by rw [← eg185]; exact i71.up (Int.le_trans (by decide) k179.1) (Or.inl (lt_dec k179.2 (by decide)))
          have r192 : SG 139 139 0 5 g185 := by rw [← eg185]; exact i72.up (Int.le_trans (by decide) k179.1) (Or.inl (lt_dec k179.2 (by decide)))
          have r193 : SG 153 153 0 44 g185 := by rw [← eg185]; exact i73.up (Int.le_trans (by decide) k179.1) (Or.inl (lt_dec k179.2 (by decide)))
          have r194 : SG 44 55 0 9 g185 := by rw [← eg185]; exact i74.up (Int.le_trans (by decide) k179.1) (Or.inr (Or.inl (dec_lt k179.1 (by decide))))
          have r195 : SG 5 5 0 12 g185 := by rw [← eg185]; exact i75.up (Int.le_trans (by decide) k179.1) (Or.inr (Or.inl (dec_lt k179.1 (by decide))))
          have r196 : SG 6 6 0 12 g185 := by rw [← eg185]; exact i76.up (Int.le_trans (by decide) k179.1) (Or.inr (Or.inl (dec_lt k179.1 (by decide))))
          have r197 : SG 7 7 0 6 g185 := by rw [← eg185]; exact i77.up (Int.le_trans (by decide) k179.1) (Or.inr (Or.inl (dec_lt k179.1 (by decide))))
          refine iast_g hx hb hK hP hD hS 4 0 rfl rfl (ix_k k179 (by decide) (by decide)) eg185 dX10_lost_86 (fun H locs hP hD hS => ?_)
          have hP : va_P D vwCl [(h_paceAt, .inl (cI, 40, .inl g37)), (h_kindOf, .inl (cI, 4, .inl g38)), (h_behindAt, .inl (cI, 12, .inl g39)), (h0, .inr (10, vL 67 F28)), (h_s, .inl (cI, 335, .inl g185)), (h_before, .inl (cI, 24, .inl g59))] H := hP
          have hD : va_D A [(h_paceAt, .inl (cI, 40, .inl g37)), (h_kindOf, .inl (cI, 4, .inl g38)), (h_behindAt, .inl (cI, 12, .inl g39)), (h0, .inr (10, vL 67 F28)), (h_s, .inl (cI, 335, .inl g185)), (h_before, .inl (cI, 24, .inl g59))] := hD
          obtain ⟨v198, ev198⟩ : ∃ z : Int32, z = u63 + 1 := ⟨_, rfl⟩
          have bv198 : v198.toInt = u63.toInt + 1 := by rw [ev198]; exact add_k rfl rfl k177 ⟨Int.le_refl _, Int.le_refl _⟩ (by decide)
          have k199 : 1 ≤ v198.toInt ∧ v198.toInt ≤ 24 := add_r bv198 k177 ⟨Int.le_refl _, Int.le_refl _⟩ (by decide)
          refine lv_iinc (v := v198) (lv' := [(5, .int v198), (4, .int y30), (3, .int y29), (2, .int r27), (0, .ref h0), (1, .int p0)]) hx hb dX10_lost_87 hl (k := 0) rfl (by rw [ev198]; rfl) (by decide) rfl (fun ls hl => ?_)
          refine lv_goto (tgt := 59) hx hb dX10_lost_90 (by decide) ?_
          exact ih (v198, g185) ⟨(ir_wk k199 (by decide) (by decide)), r186, r187, r188, r189, r190, r191, r192, r193, r194, r195, r196, r197⟩ (by show (24 - v198.toInt).toNat < (24 - u63.toInt).toNat; omega) _ _ _ hP hD hS (lv_sub hl [0, 1, 2, 3, 4, 5] rfl)
set_option maxHeartbeats 4000000 in
set_option maxRecDepth 100000 in
theorem m_X10_touch (l : Launch) (D : va_G) (cI cJ cB cP cM cZ : ClassId) (h0 : Nat) (h_s : Nat) (h_paceAt : Nat) (h_kindOf : Nat) (h_behindAt : Nat) (Fh : Nat → Value) (x_lineTime : Int32) (x_linePace : Int32) (x_inside : Int32) (x_late : Int32) (x_seed : Int32) (x_kicks : Int32) (x_bendsGone : Int32) (x_overAt : Int32) (x_endPace : Int32) (x_touchBend : Int32) (x_touchBy : Int32) (f_s : Nat → Int32) (f_paceAt : Nat → Int32) (f_kindOf : Nat → Int32) (f_behindAt : Nat → Int32) (p0 : Int32) (p1 : Int32) (bs : Nat → Int32) (sz : Nat) (e_s : Fh 6 = .ref h_s) (e_paceAt : Fh 25 = .ref h_paceAt) (e_kindOf : Fh 26 = .ref h_kindOf) (e_lineTime : Fh 27 = .int x_lineTime) (e_linePace : Fh 28 = .int x_linePace) (e_inside : Fh 29 = .int x_inside) (i_x_inside : IR 0 15 x_inside) (e_late : Fh 30 = .int x_late) (i_x_late : IR 0 15 x_late) (e_seed : Fh 31 = .int x_seed) (e_kicks : Fh 32 = .int x_kicks) (i_x_kicks : IR 0 1 x_kicks) (e_behindAt : Fh 33 = .ref h_behindAt) (e_bendsGone : Fh 34 = .int x_bendsGone) (i_x_bendsGone : IR 0 12 x_bendsGone) (e_overAt : Fh 35 = .int x_overAt) (e_endPace : Fh 36 = .int x_endPace) (e_touchBend : Fh 37 = .int x_touchBend) (e_touchBy : Fh 38 = .int x_touchBy) (i_x_touchBy : IR 0 99 x_touchBy) (s_s_K0 : KW 0 f_s) (s_s_US : US bs f_s) (s_s_0 : SG 0 0 0 40 f_s) (s_s_105 : SG 105 108 0 11 f_s) (s_s_114 : SG 114 114 0 5 f_s) (s_s_130 : SG 130 133 0 11 f_s) (s_s_139 : SG 139 139 0 5 f_s) (s_s_153 : SG 153 153 0 44 f_s) (s_s_44 : SG 44 55 0 9 f_s) (s_s_5 : SG 5 5 0 12 f_s) (s_s_6 : SG 6 6 0 12 f_s) (s_s_7 : SG 7 7 0 6 f_s) : CI l yX10_touch cX10_touch 5 (some .int) { frames := 5, cells := 0, slots := 0, locals := 115 } (GG D cI cJ cB cP cM cZ) D [(h0, .inr (10, vL 67 Fh)), (h_s, .inl (cI, 335, .inl f_s)), (h_paceAt, .inl (cI, 40, .inl f_paceAt)), (h_kindOf, .inl (cI, 4, .inl f_kindOf)), (h_behindAt, .inl (cI, 12, .inl f_behindAt))] sz [.ref h0, .int p0, .int p1] (fun (r : Int32) (u : va_W) => ∃ (Gh : Nat → Value) (y_lineTime : Int32) (y_linePace : Int32) (y_inside : Int32) (y_late : Int32) (y_seed : Int32) (y_bendsGone : Int32) (y_overAt : Int32) (y_endPace : Int32) (y_touchBend : Int32) (y_touchBy : Int32) (g_paceAt : Nat → Int32) (g_kindOf : Nat → Int32) (g_behindAt : Nat → Int32), SAME [0, 27, 28, 29, 30, 31, 34, 35, 36, 37, 38] Fh Gh ∧ Gh 0 = .int 0 ∧ Gh 27 = .int y_lineTime ∧ Gh 28 = .int y_linePace ∧ Gh 29 = .int y_inside ∧ IR 0 15 y_inside ∧ Gh 30 = .int y_late ∧ IR 0 15 y_late ∧ Gh 31 = .int y_seed ∧ Gh 34 = .int y_bendsGone ∧ IR 0 12 y_bendsGone ∧ Gh 35 = .int y_overAt ∧ Gh 36 = .int y_endPace ∧ Gh 37 = .int y_touchBend ∧ Gh 38 = .int y_touchBy ∧ IR 0 99 y_touchBy ∧ IR (-2147483647) 2147483647 r ∧ u = [(h0, .inr (10, vL 67 Gh)), (h_s, .inl (cI, 335, .inl f_s)), (h_paceAt, .inl (cI, 40, .inl g_paceAt)), (h_kindOf, .inl (cI, 4, .inl g_kindOf)), (h_behindAt, .inl (cI, 12, .inl g_behindAt))]) := by
  refine CI_mk (by decide) (Nat.le_of_ble_eq_true rfl) ?_
  intro p e s m below meth c A ls E hAe hG hsz hP hD hA hS hl
  obtain ⟨hx, hb, hr, hw, hown, hlocks, hml, hnm⟩ := E
  have hK := hG.1
  have i_x_inside : 0 ≤ x_inside.toInt ∧ x_inside.toInt ≤ 15 := i_x_inside
  have i_x_late : 0 ≤ x_late.toInt ∧ x_late.toInt ≤ 15 := i_x_late
  have i_x_kicks : 0 ≤ x_kicks.toInt ∧ x_kicks.toInt ≤ 1 := i_x_kicks
  have i_x_bendsGone : 0 ≤ x_bendsGone.toInt ∧ x_bendsGone.toInt ≤ 12 := i_x_bendsGone
  have i_x_touchBy : 0 ≤ x_touchBy.toInt ∧ x_touchBy.toInt ≤ 99 := i_x_touchBy
  have hl : lv_has ls 5 [(0, .ref h0), (1, .int p0), (2, .int p1)] := hl
  refine lv_aload_n hx hb dX10_touch_0 rfl (lv_at hl 0 rfl) ?_
  refine lv_iconst (v := 0) hx hb dX10_touch_1 (by decide) ?_
  refine put_f (D := D) (ci := 10) (v := .int 0) (ty := .int) (C := RX10) (T := TX10) (N := 67) hx hb hw inAX10 tyX10 tyX10_ok nmX10 hown hK hP hD hS 0 rfl rfl 0 (by decide) (hw _ q_1261) (fun _ h9 => h9) rfl (by decide +kernel) rfl rfl dX10_touch_2 (fun H locs F1 eF1 hP hD hS => ?_)
  have hP : va_P D vwCl [(h0, .inr (10, vL 67 F1)), (h_s, .inl (cI, 335, .inl f_s)), (h_paceAt, .inl (cI, 40, .inl f_paceAt)), (h_kindOf, .inl (cI, 4, .inl f_kindOf)), (h_behindAt, .inl (cI, 12, .inl f_behindAt))] H := hP
  have hD : va_D A [(h0, .inr (10, vL 67 F1)), (h_s, .inl (cI, 335, .inl f_s)), (h_paceAt, .inl (cI, 40, .inl f_paceAt)), (h_kindOf, .inl (cI, 4, .inl f_kindOf)), (h_behindAt, .inl (cI, 12, .inl f_behindAt))] := hD
  refine lv_aload_n hx hb dX10_touch_5 rfl (lv_at hl 0 rfl) ?_
  have n2 : F1 6 = .ref h_s := (get_ne eF1 (by decide) e_s)
  refine call_Vi (wr := [(h_paceAt, .inl (cI, 40, .inl f_paceAt)), (h_kindOf, .inl (cI, 4, .inl f_kindOf)), (h_behindAt, .inl (cI, 12, .inl f_behindAt))]) (As := []) (rest := []) hx hb hml hown hw (m_X10_hasCrew l D cI cJ cB cP cM cZ h0 h_s F1 f_s bs _ n2 s_s_K0 s_s_US s_s_0 s_s_105 s_s_114 s_s_130 s_s_139 s_s_153 s_s_44 s_s_5 s_s_6 s_s_7) wV_X10_281_X10_hasCrew dX10_touch_6 hK hP hD hS hA [0, 1] [2, 3, 4] rfl rfl (by decide) (by decide) (by decide) 0 10 rfl rfl GG.fb hG.at hl.1 rfl (Nat.le_of_ble_eq_true rfl) ⟨(Nat.le_of_ble_eq_true rfl), (Nat.le_of_ble_eq_true rfl)⟩ ⟨(Nat.le_of_ble_eq_true rfl), (Nat.le_of_ble_eq_true rfl)⟩ (fun r3 u H locs hp hP hD hS => ?_)
  rcases hp with ⟨rfl, rfl⟩ | ⟨rfl, rfl⟩
  · have hP : va_P D vwCl [(h_paceAt, .inl (cI, 40, .inl f_paceAt)), (h_kindOf, .inl (cI, 4, .inl f_kindOf)), (h_behindAt, .inl (cI, 12, .inl f_behindAt)), (h0, .inr (10, vL 67 F1)), (h_s, .inl (cI, 335, .inl f_s))] H := hP
    have hD : va_D A [(h_paceAt, .inl (cI, 40, .inl f_paceAt)), (h_kindOf, .inl (cI, 4, .inl f_kindOf)), (h_behindAt, .inl (cI, 12, .inl f_behindAt)), (h0, .inr (10, vL 67 F1)), (h_s, .inl (cI, 335, .inl f_s))] := hD
    refine W.widen (k := 0) (n := 0) (Nat.le_of_ble_eq_true rfl) (Nat.le_of_ble_eq_true rfl) ?_
    refine lv_if_eq (tgt := 30) hx hb dX10_touch_9 (by decide) (fun _ => ?_) (fun g => absurd (by decide) g)
    refine lv_ldcw hx hb hown (hw _ q_1756) dX10_touch_30 ?_
    exact ret_i (v := (-100001)) hx hb hr hlocks hS (hP.sub (ws' := [(h0, .inr (10, vL 67 F1)), (h_s, .inl (cI, 335, .inl f_s)), (h_paceAt, .inl (cI, 40, .inl f_paceAt)), (h_kindOf, .inl (cI, 4, .inl f_kindOf)), (h_behindAt, .inl (cI, 12, .inl f_behindAt))]) [3, 4, 0, 1, 2] rfl) (hD.sub (ws' := [(h0, .inr (10, vL 67 F1)), (h_s, .inl (cI, 335, .inl f_s)), (h_paceAt, .inl (cI, 40, .inl f_paceAt)), (h_kindOf, .inl (cI, 4, .inl f_kindOf)), (h_behindAt, .inl (cI, 12, .inl f_behindAt))]) [3, 4, 0, 1, 2] (by decide) rfl) dX10_touch_33 rfl (Nat.le_of_ble_eq_true rfl) (Nat.le_of_ble_eq_true rfl) ⟨F1, x_lineTime, x_linePace, x_inside, x_late, x_seed, x_bendsGone, x_overAt, x_endPace, x_touchBend, x_touchBy, f_paceAt, f_kindOf, f_behindAt, (SAME.up eF1 SAME.rf (by decide)), (get_eq eF1), (get_ne eF1 (by decide) e_lineTime), (get_ne eF1 (by decide) e_linePace), (get_ne eF1 (by decide) e_inside), i_x_inside, (get_ne eF1 (by decide) e_late), i_x_late, (get_ne eF1 (by decide) e_seed), (get_ne eF1 (by decide) e_bendsGone), i_x_bendsGone, (get_ne eF1 (by decide) e_overAt), (get_ne eF1 (by decide) e_endPace), (get_ne eF1 (by decide) e_touchBend), (get_ne eF1 (by decide) e_touchBy), i_x_touchBy, (show (-2147483647) ≤ ((-100001) : Int32).toInt ∧ ((-100001) : Int32).toInt ≤ 2147483647 by decide), rfl⟩
  · have hP : va_P D vwCl [(h_paceAt, .inl (cI, 40, .inl f_paceAt)), (h_kindOf, .inl (cI, 4, .inl f_kindOf)), (h_behindAt, .inl (cI, 12, .inl f_behindAt)), (h0, .inr (10, vL 67 F1)), (h_s, .inl (cI, 335, .inl f_s))] H := hP
    have hD : va_D A [(h_paceAt, .inl (cI, 40, .inl f_paceAt)), (h_kindOf, .inl (cI, 4, .inl f_kindOf)), (h_behindAt, .inl (cI, 12, .inl f_behindAt)), (h0, .inr (10, vL 67 F1)), (h_s, .inl (cI, 335, .inl f_s))] := hD
    refine W.widen (k := 0) (n := 0) (Nat.le_of_ble_eq_true rfl) (Nat.le_of_ble_eq_true rfl) ?_
    refine lv_if_eq (tgt := 30) hx hb dX10_touch_9 (by decide) (fun g => absurd g (by decide)) (fun _ => ?_)
    refine lv_aload_n hx hb dX10_touch_12 rfl (lv_at hl 0 rfl) ?_
    refine lv_iload_n hx hb dX10_touch_13 rfl (lv_at hl 1 rfl) ?_
    refine call_Vi (wr := [(h_paceAt, .inl (cI, 40, .inl f_paceAt)), (h_kindOf, .inl (cI, 4, .inl f_kindOf)), (h_behindAt, .inl (cI, 12, .inl f_behindAt))]) (As := [.int p0]) (rest := []) hx hb hml hown hw (m_X10_isBend l D cI cJ cB cP cM cZ h0 h_s F1 f_s p0 bs _ n2 s_s_K0 s_s_US s_s_0 s_s_105 s_s_114 s_s_130 s_s_139 s_s_153 s_s_44 s_s_5 s_s_6 s_s_7) wV_X10_292_X10_isBend dX10_touch_14 hK hP hD hS hA [3, 4] [0, 1, 2] rfl rfl (by decide) (by decide) (by decide) 0 10 rfl rfl GG.fb hG.at hl.1 rfl (Nat.le_of_ble_eq_true rfl) ⟨(Nat.le_of_ble_eq_true rfl), (Nat.le_of_ble_eq_true rfl)⟩ ⟨(Nat.le_of_ble_eq_true rfl), (Nat.le_of_ble_eq_true rfl)⟩ (fun r5 u H locs hp hP hD hS => ?_)
    rcases hp with ⟨t6, rfl, rfl⟩ | ⟨t7, t8, rfl, rfl⟩ | ⟨t9, t10, rfl, rfl⟩
    · have hP : va_P D vwCl [(h_paceAt, .inl (cI, 40, .inl f_paceAt)), (h_kindOf, .inl (cI, 4, .inl f_kindOf)), (h_behindAt, .inl (cI, 12, .inl f_behindAt)), (h0, .inr (10, vL 67 F1)), (h_s, .inl (cI, 335, .inl f_s))] H := hP
      have hD : va_D A [(h_paceAt, .inl (cI, 40, .inl f_paceAt)), (h_kindOf, .inl (cI, 4, .inl f_kindOf)), (h_behindAt, .inl (cI, 12, .inl f_behindAt)), (h0, .inr (10, vL 67 F1)), (h_s, .inl (cI, 335, .inl f_s))] := hD
      refine W.widen (k := 0) (n := 0) (Nat.le_of_ble_eq_true rfl) (Nat.le_of_ble_eq_true rfl) ?_
      have k12 : (-2147483648) ≤ p0.toInt ∧ p0.toInt ≤ (-1) := ⟨(ir_any _).1, up_lt t6 (Int.le_refl _) (by decide)⟩
      refine lv_if_eq (tgt := 30) hx hb dX10_touch_17 (by decide) (fun _ => ?_) (fun g => absurd (by decide) g)
      refine lv_ldcw hx hb hown (hw _ q_1756) dX10_touch_30 ?_
      exact ret_i (v := (-100001)) hx hb hr hlocks hS (hP.sub (ws' := [(h0, .inr (10, vL 67 F1)), (h_s, .inl (cI, 335, .inl f_s)), (h_paceAt, .inl (cI, 40, .inl f_paceAt)), (h_kindOf, .inl (cI, 4, .inl f_kindOf)), (h_behindAt, .inl (cI, 12, .inl f_behindAt))]) [3, 4, 0, 1, 2] rfl) (hD.sub (ws' := [(h0, .inr (10, vL 67 F1)), (h_s, .inl (cI, 335, .inl f_s)), (h_paceAt, .inl (cI, 40, .inl f_paceAt)), (h_kindOf, .inl (cI, 4, .inl f_kindOf)), (h_behindAt, .inl (cI, 12, .inl f_behindAt))]) [3, 4, 0, 1, 2] (by decide) rfl) dX10_touch_33 rfl (Nat.le_of_ble_eq_true rfl) (Nat.le_of_ble_eq_true rfl) ⟨F1, x_lineTime, x_linePace, x_inside, x_late, x_seed, x_bendsGone, x_overAt, x_endPace, x_touchBend, x_touchBy, f_paceAt, f_kindOf, f_behindAt, (SAME.up eF1 SAME.rf (by decide)), (get_eq eF1), (get_ne eF1 (by decide) e_lineTime), (get_ne eF1 (by decide) e_linePace), (get_ne eF1 (by decide) e_inside), i_x_inside, (get_ne eF1 (by decide) e_late), i_x_late, (get_ne eF1 (by decide) e_seed), (get_ne eF1 (by decide) e_bendsGone), i_x_bendsGone, (get_ne eF1 (by decide) e_overAt), (get_ne eF1 (by decide) e_endPace), (get_ne eF1 (by decide) e_touchBend), (get_ne eF1 (by decide) e_touchBy), i_x_touchBy, (show (-2147483647) ≤ ((-100001) : Int32).toInt ∧ ((-100001) : Int32).toInt ≤ 2147483647 by decide), rfl⟩
    · have hP : va_P D vwCl [(h_paceAt, .inl (cI, 40, .inl f_paceAt)), (h_kindOf, .inl (cI, 4, .inl f_kindOf)), (h_behindAt, .inl (cI, 12, .inl f_behindAt)), (h0, .inr (10, vL 67 F1)), (h_s, .inl (cI, 335, .inl f_s))] H := hP
      have hD : va_D A [(h_paceAt, .inl (cI, 40, .inl f_paceAt)), (h_kindOf, .inl (cI, 4, .inl f_kindOf)), (h_behindAt, .inl (cI, 12, .inl f_behindAt)), (h0, .inr (10, vL 67 F1)), (h_s, .inl (cI, 335, .inl f_s))] := hD
      refine W.widen (k := 0) (n := 0) (Nat.le_of_ble_eq_true rfl) (Nat.le_of_ble_eq_true rfl) ?_
      have k13 : 0 ≤ p0.toInt ∧ p0.toInt ≤ 2147483647 := ⟨Int.le_trans (Int.le_refl _) t7, (ir_any _).2⟩
      refine lv_if_eq (tgt := 30) hx hb dX10_touch_17 (by decide) (fun _ => ?_) (fun g => absurd (by decide) g)
      refine lv_ldcw hx hb hown (hw _ q_1756) dX10_touch_30 ?_
      exact ret_i (v := (-100001)) hx hb hr hlocks hS (hP.sub (ws' := [(h0, .inr (10, vL 67 F1)), (h_s, .inl (cI, 335, .inl f_s)), (h_paceAt, .inl (cI, 40, .inl f_paceAt)), (h_kindOf, .inl (cI, 4, .inl f_kindOf)), (h_behindAt, .inl (cI, 12, .inl f_behindAt))]) [3, 4, 0, 1, 2] rfl) (hD.sub (ws' := [(h0, .inr (10, vL 67 F1)), (h_s, .inl (cI, 335, .inl f_s)), (h_paceAt, .inl (cI, 40, .inl f_paceAt)), (h_kindOf, .inl (cI, 4, .inl f_kindOf)), (h_behindAt, .inl (cI, 12, .inl f_behindAt))]) [3, 4, 0, 1, 2] (by decide) rfl) dX10_touch_33 rfl (Nat.le_of_ble_eq_true rfl) (Nat.le_of_ble_eq_true rfl) ⟨F1, x_lineTime, x_linePace, x_inside, x_late, x_seed, x_bendsGone, x_overAt, x_endPace, x_touchBend, x_touchBy, f_paceAt, f_kindOf, f_behindAt, (SAME.up eF1 SAME.rf (by decide)), (get_eq eF1), (get_ne eF1 (by decide) e_lineTime), (get_ne eF1 (by decide) e_linePace), (get_ne eF1 (by decide) e_inside), i_x_inside, (get_ne eF1 (by decide) e_late), i_x_late, (get_ne eF1 (by decide) e_seed), (get_ne eF1 (by decide) e_bendsGone), i_x_bendsGone, (get_ne eF1 (by decide) e_overAt), (get_ne eF1 (by decide) e_endPace), (get_ne eF1 (by decide) e_touchBend), (get_ne eF1 (by decide) e_touchBy), i_x_touchBy, (show (-2147483647) ≤ ((-100001) : Int32).toInt ∧ ((-100001) : Int32).toInt ≤ 2147483647 by decide), rfl⟩
    · have hP : va_P D vwCl [(h_paceAt, .inl (cI, 40, .inl f_paceAt)), (h_kindOf, .inl (cI, 4, .inl f_kindOf)), (h_behindAt, .inl (cI, 12, .inl f_behindAt)), (h0, .inr (10, vL 67 F1)), (h_s, .inl (cI, 335, .inl f_s))] H := hP
      have hD : va_D A [(h_paceAt, .inl (cI, 40, .inl f_paceAt)), (h_kindOf, .inl (cI, 4, .inl f_kindOf)), (h_behindAt, .inl (cI, 12, .inl f_behindAt)), (h0, .inr (10, vL 67 F1)), (h_s, .inl (cI, 335, .inl f_s))] := hD
      refine W.widen (k := 0) (n := 0) (Nat.le_of_ble_eq_true rfl) (Nat.le_of_ble_eq_true rfl) ?_
      have k14 : 0 ≤ p0.toInt ∧ p0.toInt ≤ 2147483647 := ⟨Int.le_trans (Int.le_refl _) t9, (ir_any _).2⟩
      have k15 : 0 ≤ p0.toInt ∧ p0.toInt ≤ 11 := ⟨k14.1, Int.le_trans t10 (Int.le_refl _)⟩
      refine lv_if_eq (tgt := 30) hx hb dX10_touch_17 (by decide) (fun g => absurd g (by decide)) (fun _ => ?_)
      refine lv_iload_n hx hb dX10_touch_20 rfl (lv_at hl 2 rfl) ?_
      refine lv_iconst (v := 1) hx hb dX10_touch_21 (by decide) ?_
      refine lv_bipush (v := 99) hx hb dX10_touch_22 (by decide) ?_
      refine call_Si (wr := [(h_paceAt, .inl (cI, 40, .inl f_paceAt)), (h_kindOf, .inl (cI, 4, .inl f_kindOf)), (h_behindAt, .inl (cI, 12, .inl f_behindAt)), (h0, .inr (10, vL 67 F1)), (h_s, .inl (cI, 335, .inl f_s))]) (As := [.int p1, .int 1, .int 99]) (rest := []) hx hb hml hown hw (m_X10_isIn l D cI cJ cB cP cM cZ p1 1 99 _ ) wS_X10_211_X10_isIn dX10_touch_24 hP hD hS hA [] [0, 1, 2, 3, 4] rfl rfl (by decide) (by decide) (by decide) GG.fb hG.at hl.1 rfl (Nat.le_of_ble_eq_true rfl) ⟨(Nat.le_of_ble_eq_true rfl), (Nat.le_of_ble_eq_true rfl)⟩ ⟨(Nat.le_of_ble_eq_true rfl), (Nat.le_of_ble_eq_true rfl)⟩ (fun r16 u H locs hp hP hD hS => ?_)
      have zl1 : (1 : Int32).toInt = 1 := by decide
      have zl99 : (99 : Int32).toInt = 99 := by decide
      rcases hp with ⟨t17, rfl, rfl⟩ | ⟨t18, t19, rfl, rfl⟩ | ⟨t20, t21, rfl, rfl⟩
      · have hP : va_P D vwCl [(h_paceAt, .inl (cI, 40, .inl f_paceAt)), (h_kindOf, .inl (cI, 4, .inl f_kindOf)), (h_behindAt, .inl (cI, 12, .inl f_behindAt)), (h0, .inr (10, vL 67 F1)), (h_s, .inl (cI, 335, .inl f_s))] H := hP
        have hD : va_D A [(h_paceAt, .inl (cI, 40, .inl f_paceAt)), (h_kindOf, .inl (cI, 4, .inl f_kindOf)), (h_behindAt, .inl (cI, 12, .inl f_behindAt)), (h0, .inr (10, vL 67 F1)), (h_s, .inl (cI, 335, .inl f_s))] := hD
        refine W.widen (k := 0) (n := 0) (Nat.le_of_ble_eq_true rfl) (Nat.le_of_ble_eq_true rfl) ?_
        have k23 : (-2147483648) ≤ p1.toInt ∧ p1.toInt ≤ 0 := ⟨(ir_any _).1, up_lt t17 (Int.le_refl _) (by decide)⟩
        refine lv_if_ne (tgt := 34) hx hb dX10_touch_27 (by decide) (fun g => absurd (by decide) g) (fun _ => ?_)
        refine lv_ldcw hx hb hown (hw _ q_1756) dX10_touch_30 ?_
        exact ret_i (v := (-100001)) hx hb hr hlocks hS (hP.sub (ws' := [(h0, .inr (10, vL 67 F1)), (h_s, .inl (cI, 335, .inl f_s)), (h_paceAt, .inl (cI, 40, .inl f_paceAt)), (h_kindOf, .inl (cI, 4, .inl f_kindOf)), (h_behindAt, .inl (cI, 12, .inl f_behindAt))]) [3, 4, 0, 1, 2] rfl) (hD.sub (ws' := [(h0, .inr (10, vL 67 F1)), (h_s, .inl (cI, 335, .inl f_s)), (h_paceAt, .inl (cI, 40, .inl f_paceAt)), (h_kindOf, .inl (cI, 4, .inl f_kindOf)), (h_behindAt, .inl (cI, 12, .inl f_behindAt))]) [3, 4, 0, 1, 2] (by decide) rfl) dX10_touch_33 rfl (Nat.le_of_ble_eq_true rfl) (Nat.le_of_ble_eq_true rfl) ⟨F1, x_lineTime, x_linePace, x_inside, x_late, x_seed, x_bendsGone, x_overAt, x_endPace, x_touchBend, x_touchBy, f_paceAt, f_kindOf, f_behindAt, (SAME.up eF1 SAME.rf (by decide)), (get_eq eF1), (get_ne eF1 (by decide) e_lineTime), (get_ne eF1 (by decide) e_linePace), (get_ne eF1 (by decide) e_inside), i_x_inside, (get_ne eF1 (by decide) e_late), i_x_late, (get_ne eF1 (by decide) e_seed), (get_ne eF1 (by decide) e_bendsGone), i_x_bendsGone, (get_ne eF1 (by decide) e_overAt), (get_ne eF1 (by decide) e_endPace), (get_ne eF1 (by decide) e_touchBend), (get_ne eF1 (by decide) e_touchBy), i_x_touchBy, (show (-2147483647) ≤ ((-100001) : Int32).toInt ∧ ((-100001) : Int32).toInt ≤ 2147483647 by decide), rfl⟩
      · have hP : va_P D vwCl [(h_paceAt, .inl (cI, 40, .inl f_paceAt)), (h_kindOf, .inl (cI, 4, .inl f_kindOf)), (h_behindAt, .inl (cI, 12, .inl f_behindAt)), (h0, .inr (10, vL 67 F1)), (h_s, .inl (cI, 335, .inl f_s))] H := hP
        have hD : va_D A [(h_paceAt, .inl (cI, 40, .inl f_paceAt)), (h_kindOf, .inl (cI, 4, .inl f_kindOf)), (h_behindAt, .inl (cI, 12, .inl f_behindAt)), (h0, .inr (10, vL 67 F1)), (h_s, .inl (cI, 335, .inl f_s))] := hD
        refine W.widen (k := 0) (n := 0) (Nat.le_of_ble_eq_true rfl) (Nat.le_of_ble_eq_true rfl) ?_
        have k24 : 1 ≤ p1.toInt ∧ p1.toInt ≤ 2147483647 := ⟨Int.le_trans (Int.le_refl _) t18, (ir_any _).2⟩
        have k25 : 100 ≤ p1.toInt ∧ p1.toInt ≤ 2147483647 := ⟨lo_lt t19 (Int.le_refl _) (by decide), k24.2⟩
        refine lv_if_ne (tgt := 34) hx hb dX10_touch_27 (by decide) (fun g => absurd (by decide) g) (fun _ => ?_)
        refine lv_ldcw hx hb hown (hw _ q_1756) dX10_touch_30 ?_
        exact ret_i (v := (-100001)) hx hb hr hlocks hS (hP.sub (ws' := [(h0, .inr (10, vL 67 F1)), (h_s, .inl (cI, 335, .inl f_s)), (h_paceAt, .inl (cI, 40, .inl f_paceAt)), (h_kindOf, .inl (cI, 4, .inl f_kindOf)), (h_behindAt, .inl (cI, 12, .inl f_behindAt))]) [3, 4, 0, 1, 2] rfl) (hD.sub (ws' := [(h0, .inr (10, vL 67 F1)), (h_s, .inl (cI, 335, .inl f_s)), (h_paceAt, .inl (cI, 40, .inl f_paceAt)), (h_kindOf, .inl (cI, 4, .inl f_kindOf)), (h_behindAt, .inl (cI, 12, .inl f_behindAt))]) [3, 4, 0, 1, 2] (by decide) rfl) dX10_touch_33 rfl (Nat.le_of_ble_eq_true rfl) (Nat.le_of_ble_eq_true rfl) ⟨F1, x_lineTime, x_linePace, x_inside, x_late, x_seed, x_bendsGone, x_overAt, x_endPace, x_touchBend, x_touchBy, f_paceAt, f_kindOf, f_behindAt, (SAME.up eF1 SAME.rf (by decide)), (get_eq eF1), (get_ne eF1 (by decide) e_lineTime), (get_ne eF1 (by decide) e_linePace), (get_ne eF1 (by decide) e_inside), i_x_inside, (get_ne eF1 (by decide) e_late), i_x_late, (get_ne eF1 (by decide) e_seed), (get_ne eF1 (by decide) e_bendsGone), i_x_bendsGone, (get_ne eF1 (by decide) e_overAt), (get_ne eF1 (by decide) e_endPace), (get_ne eF1 (by decide) e_touchBend), (get_ne eF1 (by decide) e_touchBy), i_x_touchBy, (show (-2147483647) ≤ ((-100001) : Int32).toInt ∧ ((-100001) : Int32).toInt ≤ 2147483647 by decide), rfl⟩
      · have hP : va_P D vwCl [(h_paceAt, .inl (cI, 40, .inl f_paceAt)), (h_kindOf, .inl (cI, 4, .inl f_kindOf)), (h_behindAt, .inl (cI, 12, .inl f_behindAt)), (h0, .inr (10, vL 67 F1)), (h_s, .inl (cI, 335, .inl f_s))] H := hP
        have hD : va_D A [(h_paceAt, .inl (cI, 40, .inl f_paceAt)), (h_kindOf, .inl (cI, 4, .inl f_kindOf)), (h_behindAt, .inl (cI, 12, .inl f_behindAt)), (h0, .inr (10, vL 67 F1)), (h_s, .inl (cI, 335, .inl f_s))] := hD
        refine W.widen (k := 0) (n := 0) (Nat.le_of_ble_eq_true rfl) (Nat.le_of_ble_eq_true rfl) ?_
        have k26 : 1 ≤ p1.toInt ∧ p1.toInt ≤ 2147483647 := ⟨Int.le_trans (Int.le_refl _) t20, (ir_any _).2⟩
        have k27 : 1 ≤ p1.toInt ∧ p1.toInt ≤ 99 := ⟨k26.1, Int.le_trans t21 (Int.le_refl _)⟩
        refine lv_if_ne (tgt := 34) hx hb dX10_touch_27 (by decide) (fun _ => ?_) (fun g => absurd g (by decide))
        refine lv_aload_n hx hb dX10_touch_34 rfl (lv_at hl 0 rfl) ?_
        have n28 : F1 25 = .ref h_paceAt := (get_ne eF1 (by decide) e_paceAt)
        have n29 : F1 26 = .ref h_kindOf := (get_ne eF1 (by decide) e_kindOf)
        have n30 : F1 31 = .int x_seed := (get_ne eF1 (by decide) e_seed)
        have n31 : F1 32 = .int x_kicks := (get_ne eF1 (by decide) e_kicks)
        have n32 : F1 33 = .ref h_behindAt := (get_ne eF1 (by decide) e_behindAt)
        have n33 : F1 37 = .int x_touchBend := (get_ne eF1 (by decide) e_touchBend)
        have n34 : F1 38 = .int x_touchBy := (get_ne eF1 (by decide) e_touchBy)
        refine call_Vi (wr := []) (As := []) (rest := []) hx hb hml hown hw (m_X10_total l D cI cJ cB cP cM cZ h0 h_s h_paceAt h_kindOf h_behindAt F1 x_seed x_kicks x_touchBend x_touchBy f_s f_paceAt f_kindOf f_behindAt bs _ n2 n28 n29 n30 n31 i_x_kicks n32 n33 n34 i_x_touchBy s_s_K0 s_s_US s_s_0 s_s_105 s_s_114 s_s_130 s_s_139 s_s_153 s_s_44 s_s_5 s_s_6 s_s_7) wV_X10_368_X10_total dX10_touch_35 hK hP hD hS hA [3, 4, 0, 1, 2] [] rfl rfl (by decide) (by decide) (by decide) 0 10 rfl rfl GG.fb hG.at hl.1 rfl (Nat.le_of_ble_eq_true rfl) ⟨(Nat.le_of_ble_eq_true rfl), (Nat.le_of_ble_eq_true rfl)⟩ ⟨(Nat.le_of_ble_eq_true rfl), (Nat.le_of_ble_eq_true rfl)⟩ (fun r35 u H locs hp hP hD hS => ?_)
        refine hp.elim (fun F36 h9z0 => h9z0.elim (fun y37 h9z1 => h9z1.elim (fun y38 h9z2 => h9z2.elim (fun y39 h9z3 => h9z3.elim (fun y40 h9z4 => h9z4.elim (fun y41 h9z5 => h9z5.elim (fun y42 h9z6 => h9z6.elim (fun y43 h9z7 => h9z7.elim (fun y44 h9z8 => h9z8.elim (fun g45 h9z9 => h9z9.elim (fun g46 h9z10 => h9z10.elim (fun g47 h9z11 => h9z11.elim (fun t48 h9z12 => h9z12.elim (fun t49 h9z13 => h9z13.elim (fun t50 h9z14 => h9z14.elim (fun t51 h9z15 => h9z15.elim (fun t52 h9z16 => h9z16.elim (fun t53 h9z17 => h9z17.elim (fun t54 h9z18 => h9z18.elim (fun t55 h9z19 => h9z19.elim (fun t56 h9z20 => h9z20.elim (fun t57 h9z21 => h9z21.elim (fun t58 h9z22 => h9z22.elim (fun t59 h9z23 => h9z23.elim (fun t60 h9z24 => h9z24.elim (fun t61 h9z25 => ?_))))))))))))))))))))))))))
        clear h9z0 h9z1 h9z2 h9z3 h9z4 h9z5 h9z6 h9z7 h9z8 h9z9 h9z10 h9z11 h9z12 h9z13 h9z14 h9z15 h9z16 h9z17 h9z18 h9z19 h9z20 h9z21 h9z22 h9z23 h9z24
        subst h9z25
        have hP : va_P D vwCl [(h0, .inr (10, vL 67 F36)), (h_s, .inl (cI, 335, .inl f_s)), (h_paceAt, .inl (cI, 40, .inl g45)), (h_kindOf, .inl (cI, 4, .inl g46)), (h_behindAt, .inl (cI, 12, .inl g47))] H := hP
        have hD : va_D A [(h0, .inr (10, vL 67 F36)), (h_s, .inl (cI, 335, .inl f_s)), (h_paceAt, .inl (cI, 40, .inl g45)), (h_kindOf, .inl (cI, 4, .inl g46)), (h_behindAt, .inl (cI, 12, .inl g47))] := hD
        refine W.widen (k := 0) (n := 0) (Nat.le_of_ble_eq_true rfl) (Nat.le_of_ble_eq_true rfl) ?_
        refine lv_istore_n (lv' := [(3, .int r35), (0, .ref h0), (1, .int p0), (2, .int p1)]) hx hb dX10_touch_38 rfl hl (by decide) rfl (fun ls hl => ?_)
        refine lv_aload_n hx hb dX10_touch_39 rfl (lv_at hl 1 rfl) ?_
        refine lv_iload_n hx hb dX10_touch_40 rfl (lv_at hl 2 rfl) ?_
        refine put_f (D := D) (ci := 10) (v := .int p0) (ty := .int) (C := RX10) (T := TX10) (N := 67) hx hb hw inAX10 tyX10 tyX10_ok nmX10 hown hK hP hD hS 0 rfl rfl 37 (by decide) (hw _ q_1298) (fun _ h9 => h9) rfl (by decide +kernel) rfl rfl dX10_touch_41 (fun H locs F63 eF63 hP hD hS => ?_)
        have hP : va_P D vwCl [(h0, .inr (10, vL 67 F63)), (h_s, .inl (cI, 335, .inl f_s)), (h_paceAt, .inl (cI, 40, .inl g45)), (h_kindOf, .inl (cI, 4, .inl g46)), (h_behindAt, .inl (cI, 12, .inl g47))] H := hP
        have hD : va_D A [(h0, .inr (10, vL 67 F63)), (h_s, .inl (cI, 335, .inl f_s)), (h_paceAt, .inl (cI, 40, .inl g45)), (h_kindOf, .inl (cI, 4, .inl g46)), (h_behindAt, .inl (cI, 12, .inl g47))] := hD
        refine lv_aload_n hx hb dX10_touch_44 rfl (lv_at hl 1 rfl) ?_
        refine lv_iload_n hx hb dX10_touch_45 rfl (lv_at hl 3 rfl) ?_
        refine put_f (D := D) (ci := 10) (v := .int p1) (ty := .int) (C := RX10) (T := TX10) (N := 67) hx hb hw inAX10 tyX10 tyX10_ok nmX10 hown hK hP hD hS 0 rfl rfl 38 (by decide) (hw _ q_1299) (fun _ h9 => h9) rfl (by decide +kernel) rfl rfl dX10_touch_46 (fun H locs F64 eF64 hP hD hS => ?_)
        have hP : va_P D vwCl [(h0, .inr (10, vL 67 F64)), (h_s, .inl (cI, 335, .inl f_s)), (h_paceAt, .inl (cI, 40, .inl g45)), (h_kindOf, .inl (cI, 4, .inl g46)), (h_behindAt, .inl (cI, 12, .inl g47))] H := hP
        have hD : va_D A [(h0, .inr (10, vL 67 F64)), (h_s, .inl (cI, 335, .inl f_s)), (h_paceAt, .inl (cI, 40, .inl g45)), (h_kindOf, .inl (cI, 4, .inl g46)), (h_behindAt, .inl (cI, 12, .inl g47))] := hD
        refine lv_aload_n hx hb dX10_touch_49 rfl (lv_at hl 1 rfl) ?_
        have n65 : F36 6 = .ref h_s := (SAME.at t48 (by decide) n2)
        have n66 : F63 6 = .ref h_s := (get_ne eF63 (by decide) n65)
        have n67 : F64 6 = .ref h_s := (get_ne eF64 (by decide) n66)
        have n68 : F36 25 = .ref h_paceAt := (SAME.at t48 (by decide) n28)
        have n69 : F63 25 = .ref h_paceAt := (get_ne eF63 (by decide) n68)
        have n70 : F64 25 = .ref h_paceAt := (get_ne eF64 (by decide) n69)
        have n71 : F36 26 = .ref h_kindOf := (SAME.at t48 (by decide) n29)
        have n72 : F63 26 = .ref h_kindOf := (get_ne eF63 (by decide) n71)
        have n73 : F64 26 = .ref h_kindOf := (get_ne eF64 (by decide) n72)
        have n74 : F63 31 = .int y41 := (get_ne eF63 (by decide) t56)
        have n75 : F64 31 = .int y41 := (get_ne eF64 (by decide) n74)
        have n76 : F36 32 = .int x_kicks := (SAME.at t48 (by decide) n31)
        have n77 : F63 32 = .int x_kicks := (get_ne eF63 (by decide) n76)
        have n78 : F64 32 = .int x_kicks := (get_ne eF64 (by decide) n77)
        have n79 : F36 33 = .ref h_behindAt := (SAME.at t48 (by decide) n32)
        have n80 : F63 33 = .ref h_behindAt := (get_ne eF63 (by decide) n79)
        have n81 : F64 33 = .ref h_behindAt := (get_ne eF64 (by decide) n80)
        have n82 : F64 37 = .int p0 := (get_ne eF64 (by decide) (get_eq eF63))
        refine call_Vi (wr := []) (As := []) (rest := []) hx hb hml hown hw (m_X10_total l D cI cJ cB cP cM cZ h0 h_s h_paceAt h_kindOf h_behindAt F64 y41 x_kicks p0 p1 f_s g45 g46 g47 bs _ n67 n70 n73 n75 n78 i_x_kicks n81 n82 (get_eq eF64) (ir_wk k27 (by decide) (by decide)) s_s_K0 s_s_US s_s_0 s_s_105 s_s_114 s_s_130 s_s_139 s_s_153 s_s_44 s_s_5 s_s_6 s_s_7) wV_X10_368_X10_total dX10_touch_50 hK hP hD hS hA [0, 1, 2, 3, 4] [] rfl rfl (by decide) (by decide) (by decide) 0 10 rfl rfl GG.fb hG.at hl.1 rfl (Nat.le_of_ble_eq_true rfl) ⟨(Nat.le_of_ble_eq_true rfl), (Nat.le_of_ble_eq_true rfl)⟩ ⟨(Nat.le_of_ble_eq_true rfl), (Nat.le_of_ble_eq_true rfl)⟩ (fun r83 u H locs hp hP hD hS => ?_)
        refine hp.elim (fun F84 h9z0 => h9z0.elim (fun y85 h9z1 => h9z1.elim (fun y86 h9z2 => h9z2.elim (fun y87 h9z3 => h9z3.elim (fun y88 h9z4 => h9z4.elim (fun y89 h9z5 => h9z5.elim (fun y90 h9z6 => h9z6.elim (fun y91 h9z7 => h9z7.elim (fun y92 h9z8 => h9z8.elim (fun g93 h9z9 => h9z9.elim (fun g94 h9z10 => h9z10.elim (fun g95 h9z11 => h9z11.elim (fun t96 h9z12 => h9z12.elim (fun t97 h9z13 => h9z13.elim (fun t98 h9z14 => h9z14.elim (fun t99 h9z15 => h9z15.elim (fun t100 h9z16 => h9z16.elim (fun t101 h9z17 => h9z17.elim (fun t102 h9z18 => h9z18.elim (fun t103 h9z19 => h9z19.elim (fun t104 h9z20 => h9z20.elim (fun t105 h9z21 => h9z21.elim (fun t106 h9z22 => h9z22.elim (fun t107 h9z23 => h9z23.elim (fun t108 h9z24 => h9z24.elim (fun t109 h9z25 => ?_))))))))))))))))))))))))))
        clear h9z0 h9z1 h9z2 h9z3 h9z4 h9z5 h9z6 h9z7 h9z8 h9z9 h9z10 h9z11 h9z12 h9z13 h9z14 h9z15 h9z16 h9z17 h9z18 h9z19 h9z20 h9z21 h9z22 h9z23 h9z24
        subst h9z25
        have hP : va_P D vwCl [(h0, .inr (10, vL 67 F84)), (h_s, .inl (cI, 335, .inl f_s)), (h_paceAt, .inl (cI, 40, .inl g93)), (h_kindOf, .inl (cI, 4, .inl g94)), (h_behindAt, .inl (cI, 12, .inl g95))] H := hP
        have hD : va_D A [(h0, .inr (10, vL 67 F84)), (h_s, .inl (cI, 335, .inl f_s)), (h_paceAt, .inl (cI, 40, .inl g93)), (h_kindOf, .inl (cI, 4, .inl g94)), (h_behindAt, .inl (cI, 12, .inl g95))] := hD
        refine W.widen (k := 0) (n := 0) (Nat.le_of_ble_eq_true rfl) (Nat.le_of_ble_eq_true rfl) ?_
        refine lv_istore (lv' := [(4, .int r83), (3, .int r35), (0, .ref h0), (1, .int p0), (2, .int p1)]) hx hb dX10_touch_53 hl (by decide) rfl (fun ls hl => ?_)
        refine lv_aload_n hx hb dX10_touch_55 rfl (lv_at hl 2 rfl) ?_
        refine lv_iconst (v := (-1)) hx hb dX10_touch_56 (by decide) ?_
        refine put_f (D := D) (ci := 10) (v := .int (-1)) (ty := .int) (C := RX10) (T := TX10) (N := 67) hx hb hw inAX10 tyX10 tyX10_ok nmX10 hown hK hP hD hS 0 rfl rfl 37 (by decide) (hw _ q_1298) (fun _ h9 => h9) rfl (by decide +kernel) rfl rfl dX10_touch_57 (fun H locs F111 eF111 hP hD hS => ?_)
        have hP : va_P D vwCl [(h0, .inr (10, vL 67 F111)), (h_s, .inl (cI, 335, .inl f_s)), (h_paceAt, .inl (cI, 40, .inl g93)), (h_kindOf, .inl (cI, 4, .inl g94)), (h_behindAt, .inl (cI, 12, .inl g95))] H := hP
        have hD : va_D A [(h0, .inr (10, vL 67 F111)), (h_s, .inl (cI, 335, .inl f_s)), (h_paceAt, .inl (cI, 40, .inl g93)), (h_kindOf, .inl (cI, 4, .inl g94)), (h_behindAt, .inl (cI, 12, .inl g95))] := hD
        refine lv_iload hx hb dX10_touch_60 (lv_at hl 0 rfl) ?_
        refine lv_iload_n hx hb dX10_touch_62 rfl (lv_at hl 1 rfl) ?_
        refine call_Si (wr := [(h0, .inr (10, vL 67 F111)), (h_s, .inl (cI, 335, .inl f_s)), (h_paceAt, .inl (cI, 40, .inl g93)), (h_kindOf, .inl (cI, 4, .inl g94)), (h_behindAt, .inl (cI, 12, .inl g95))]) (As := [.int r83, .int r35]) (rest := []) hx hb hml hown hw (m_X10_less l D cI cJ cB cP cM cZ r83 r35 _ ) wS_X10_432_X10_less dX10_touch_63 hP hD hS hA [] [0, 1, 2, 3, 4] rfl rfl (by decide) (by decide) (by decide) GG.fb hG.at hl.1 rfl (Nat.le_of_ble_eq_true rfl) ⟨(Nat.le_of_ble_eq_true rfl), (Nat.le_of_ble_eq_true rfl)⟩ ⟨(Nat.le_of_ble_eq_true rfl), (Nat.le_of_ble_eq_true rfl)⟩ (fun r112 u H locs hp hP hD hS => ?_)
        obtain ⟨t113, rfl⟩ := hp
        have hP : va_P D vwCl [(h0, .inr (10, vL 67 F111)), (h_s, .inl (cI, 335, .inl f_s)), (h_paceAt, .inl (cI, 40, .inl g93)), (h_kindOf, .inl (cI, 4, .inl g94)), (h_behindAt, .inl (cI, 12, .inl g95))] H := hP
        have hD : va_D A [(h0, .inr (10, vL 67 F111)), (h_s, .inl (cI, 335, .inl f_s)), (h_paceAt, .inl (cI, 40, .inl g93)), (h_kindOf, .inl (cI, 4, .inl g94)), (h_behindAt, .inl (cI, 12, .inl g95))] := hD
        refine W.widen (k := 0) (n := 0) (Nat.le_of_ble_eq_true rfl) (Nat.le_of_ble_eq_true rfl) ?_
        exact ret_i (v := r112) hx hb hr hlocks hS hP hD dX10_touch_66 rfl (Nat.le_of_ble_eq_true rfl) (Nat.le_of_ble_eq_true rfl) ⟨F111, y85, y86, y87, y88, y89, y90, y91, y92, (-1), p1, g93, g94, g95, (SAME.up eF111 (SAME.tr (SAME.up eF64 (SAME.up eF63 (SAME.tr (SAME.up eF1 SAME.rf (by decide)) t48 (by decide)) (by decide)) (by decide)) t96 (by decide)) (by decide)), (get_ne eF111 (by decide) (SAME.at t96 (by decide) (get_ne eF64 (by decide) (get_ne eF63 (by decide) (SAME.at t48 (by decide) (get_eq eF1)))))), (get_ne eF111 (by decide) t97), (get_ne eF111 (by decide) t98), (get_ne eF111 (by decide) t100), t101, (get_ne eF111 (by decide) t102), t103, (get_ne eF111 (by decide) t104), (get_ne eF111 (by decide) t105), t106, (get_ne eF111 (by decide) t107), (get_ne eF111 (by decide) t109), (get_eq eF111), (get_ne eF111 (by decide) (SAME.at t96 (by decide) (get_eq eF64))), (ir_wk k27 (by decide) (by decide)), t113, rfl⟩
set_option maxHeartbeats 4000000 in
set_option maxRecDepth 100000 in
theorem m_X10_totalBy (l : Launch) (D : va_G) (cI cJ cB cP cM cZ : ClassId) (h0 : Nat) (h_s : Nat) (h_paceAt : Nat) (h_kindOf : Nat) (h_behindAt : Nat) (Fh : Nat → Value) (x_touchBend : Int32) (x_touchBy : Int32) (f_s : Nat → Int32) (f_paceAt : Nat → Int32) (f_kindOf : Nat → Int32) (f_behindAt : Nat → Int32) (p0 : Int32) (bs : Nat → Int32) (sz : Nat) (e_s : Fh 6 = .ref h_s) (e_paceAt : Fh 25 = .ref h_paceAt) (e_kindOf : Fh 26 = .ref h_kindOf) (e_behindAt : Fh 33 = .ref h_behindAt) (e_touchBend : Fh 37 = .int x_touchBend) (e_touchBy : Fh 38 = .int x_touchBy) (i_x_touchBy : IR 0 99 x_touchBy) (s_s_K0 : KW 0 f_s) (s_s_US : US bs f_s) (s_s_0 : SG 0 0 0 40 f_s) (s_s_105 : SG 105 108 0 11 f_s) (s_s_114 : SG 114 114 0 5 f_s) (s_s_130 : SG 130 133 0 11 f_s) (s_s_139 : SG 139 139 0 5 f_s) (s_s_153 : SG 153 153 0 44 f_s) (s_s_44 : SG 44 55 0 9 f_s) (s_s_5 : SG 5 5 0 12 f_s) (s_s_6 : SG 6 6 0 12 f_s) (s_s_7 : SG 7 7 0 6 f_s) : CI l yX10_totalBy cX10_totalBy 3 (some .int) { frames := 5, cells := 0, slots := 0, locals := 115 } (GG D cI cJ cB cP cM cZ) D [(h0, .inr (10, vL 67 Fh)), (h_s, .inl (cI, 335, .inl f_s)), (h_paceAt, .inl (cI, 40, .inl f_paceAt)), (h_kindOf, .inl (cI, 4, .inl f_kindOf)), (h_behindAt, .inl (cI, 12, .inl f_behindAt))] sz [.ref h0, .int p0] (fun (r : Int32) (u : va_W) => ∃ (Gh : Nat → Value) (y_lineTime : Int32) (y_linePace : Int32) (y_inside : Int32) (y_late : Int32) (y_seed : Int32) (y_bendsGone : Int32) (y_overAt : Int32) (y_endPace : Int32) (g_paceAt : Nat → Int32) (g_kindOf : Nat → Int32) (g_behindAt : Nat → Int32), SAME [27, 28, 29, 30, 31, 32, 34, 35, 36] Fh Gh ∧ Gh 27 = .int y_lineTime ∧ Gh 28 = .int y_linePace ∧ IR 10 250 y_linePace ∧ Gh 29 = .int y_inside ∧ IR 0 15 y_inside ∧ Gh 30 = .int y_late ∧ IR 0 15 y_late ∧ Gh 31 = .int y_seed ∧ Gh 32 = .int 0 ∧ Gh 34 = .int y_bendsGone ∧ IR 0 12 y_bendsGone ∧ Gh 35 = .int y_overAt ∧ IR (-1) 11 y_overAt ∧ Gh 36 = .int y_endPace ∧ u = [(h0, .inr (10, vL 67 Gh)), (h_s, .inl (cI, 335, .inl f_s)), (h_paceAt, .inl (cI, 40, .inl g_paceAt)), (h_kindOf, .inl (cI, 4, .inl g_kindOf)), (h_behindAt, .inl (cI, 12, .inl g_behindAt))]) := by
  refine CI_mk (by decide) (Nat.le_of_ble_eq_true rfl) ?_
  intro p e s m below meth c A ls E hAe hG hsz hP hD hA hS hl
  obtain ⟨hx, hb, hr, hw, hown, hlocks, hml, hnm⟩ := E
  have hK := hG.1
  have i_x_touchBy : 0 ≤ x_touchBy.toInt ∧ x_touchBy.toInt ≤ 99 := i_x_touchBy
  have hl : lv_has ls 3 [(0, .ref h0), (1, .int p0)] := hl
  refine lv_aload_n hx hb dX10_totalBy_0 rfl (lv_at hl 0 rfl) ?_
  refine lv_iload_n hx hb dX10_totalBy_1 rfl (lv_at hl 1 rfl) ?_
  refine put_f (D := D) (ci := 10) (v := .int p0) (ty := .int) (C := RX10) (T := TX10) (N := 67) hx hb hw inAX10 tyX10 tyX10_ok nmX10 hown hK hP hD hS 0 rfl rfl 31 (by decide) (hw _ q_1292) (fun _ h9 => h9) rfl (by decide +kernel) rfl rfl dX10_totalBy_2 (fun H locs F1 eF1 hP hD hS => ?_)
  have hP : va_P D vwCl [(h0, .inr (10, vL 67 F1)), (h_s, .inl (cI, 335, .inl f_s)), (h_paceAt, .inl (cI, 40, .inl f_paceAt)), (h_kindOf, .inl (cI, 4, .inl f_kindOf)), (h_behindAt, .inl (cI, 12, .inl f_behindAt))] H := hP
  have hD : va_D A [(h0, .inr (10, vL 67 F1)), (h_s, .inl (cI, 335, .inl f_s)), (h_paceAt, .inl (cI, 40, .inl f_paceAt)), (h_kindOf, .inl (cI, 4, .inl f_kindOf)), (h_behindAt, .inl (cI, 12, .inl f_behindAt))] := hD
  refine lv_aload_n hx hb dX10_totalBy_5 rfl (lv_at hl 0 rfl) ?_
  refine lv_iconst (v := 1) hx hb dX10_totalBy_6 (by decide) ?_
  refine put_f (D := D) (ci := 10) (v := .int 1) (ty := .boolean) (C := RX10) (T := TX10) (N := 67) hx hb hw inAX10 tyX10 tyX10_ok nmX10 hown hK hP hD hS 0 rfl rfl 32 (by decide) (hw _ q_1293) (fun _ h9 => h9) rfl (by decide +kernel) rfl rfl dX10_totalBy_7 (fun H locs F2 eF2 hP hD hS => ?_)
  have hP : va_P D vwCl [(h0, .inr (10, vL 67 F2)), (h_s, .inl (cI, 335, .inl f_s)), (h_paceAt, .inl (cI, 40, .inl f_paceAt)), (h_kindOf, .inl (cI, 4, .inl f_kindOf)), (h_behindAt, .inl (cI, 12, .inl f_behindAt))] H := hP
  have hD : va_D A [(h0, .inr (10, vL 67 F2)), (h_s, .inl (cI, 335, .inl f_s)), (h_paceAt, .inl (cI, 40, .inl f_paceAt)), (h_kindOf, .inl (cI, 4, .inl f_kindOf)), (h_behindAt, .inl (cI, 12, .inl f_behindAt))] := hD
  refine lv_aload_n hx hb dX10_totalBy_10 rfl (lv_at hl 0 rfl) ?_
  have n3 : F1 6 = .ref h_s := (get_ne eF1 (by decide) e_s)
  have n4 : F2 6 = .ref h_s := (get_ne eF2 (by decide) n3)
  have n5 : F1 25 = .ref h_paceAt := (get_ne eF1 (by decide) e_paceAt)
  have n6 : F2 25 = .ref h_paceAt := (get_ne eF2 (by decide) n5)
  have n7 : F1 26 = .ref h_kindOf := (get_ne eF1 (by decide) e_kindOf)
  have n8 : F2 26 = .ref h_kindOf := (get_ne eF2 (by decide) n7)
  have n9 : F2 31 = .int p0 := (get_ne eF2 (by decide) (get_eq eF1))
  have n10 : F1 33 = .ref h_behindAt := (get_ne eF1 (by decide) e_behindAt)
  have n11 : F2 33 = .ref h_behindAt := (get_ne eF2 (by decide) n10)
  have n12 : F1 37 = .int x_touchBend := (get_ne eF1 (by decide) e_touchBend)
  have n13 : F2 37 = .int x_touchBend := (get_ne eF2 (by decide) n12)
  have n14 : F1 38 = .int x_touchBy := (get_ne eF1 (by decide) e_touchBy)
  have n15 : F2 38 = .int x_touchBy := (get_ne eF2 (by decide) n14)
  refine call_Vi (wr := []) (As := []) (rest := []) hx hb hml hown hw (m_X10_total l D cI cJ cB cP cM cZ h0 h_s h_paceAt h_kindOf h_behindAt F2 p0 1 x_touchBend x_touchBy f_s f_paceAt f_kindOf f_behindAt bs _ n4 n6 n8 n9 (get_eq eF2) (show 0 ≤ (1 : Int32).toInt ∧ (1 : Int32).toInt ≤ 1 by decide) n11 n13 n15 i_x_touchBy s_s_K0 s_s_US s_s_0 s_s_105 s_s_114 s_s_130 s_s_139 s_s_153 s_s_44 s_s_5 s_s_6 s_s_7) wV_X10_368_X10_total dX10_totalBy_11 hK hP hD hS hA [0, 1, 2, 3, 4] [] rfl rfl (by decide) (by decide) (by decide) 0 10 rfl rfl GG.fb hG.at hl.1 rfl (Nat.le_of_ble_eq_true rfl) ⟨(Nat.le_of_ble_eq_true rfl), (Nat.le_of_ble_eq_true rfl)⟩ ⟨(Nat.le_of_ble_eq_true rfl), (Nat.le_of_ble_eq_true rfl)⟩ (fun r16 u H locs hp hP hD hS => ?_)
  have zl1 : (1 : Int32).toInt = 1 := by decide
  refine hp.elim (fun F17 h9z0 => h9z0.elim (fun y18 h9z1 => h9z1.elim (fun y19 h9z2 => h9z2.elim (fun y20 h9z3 => h9z3.elim (fun y21 h9z4 => h9z4.elim (fun y22 h9z5 => h9z5.elim (fun y23 h9z6 => h9z6.elim (fun y24 h9z7 => h9z7.elim (fun y25 h9z8 => h9z8.elim (fun g26 h9z9 => h9z9.elim (fun g27 h9z10 => h9z10.elim (fun g28 h9z11 => h9z11.elim (fun t29 h9z12 => h9z12.elim (fun t30 h9z13 => h9z13.elim (fun t31 h9z14 => h9z14.elim (fun t32 h9z15 => h9z15.elim (fun t33 h9z16 => h9z16.elim (fun t34 h9z17 => h9z17.elim (fun t35 h9z18 => h9z18.elim (fun t36 h9z19 => h9z19.elim (fun t37 h9z20 => h9z20.elim (fun t38 h9z21 => h9z21.elim (fun t39 h9z22 => h9z22.elim (fun t40 h9z23 => h9z23.elim (fun t41 h9z24 => h9z24.elim (fun t42 h9z25 => ?_))))))))))))))))))))))))))
  clear h9z0 h9z1 h9z2 h9z3 h9z4 h9z5 h9z6 h9z7 h9z8 h9z9 h9z10 h9z11 h9z12 h9z13 h9z14 h9z15 h9z16 h9z17 h9z18 h9z19 h9z20 h9z21 h9z22 h9z23 h9z24
  subst h9z25
  have hP : va_P D vwCl [(h0, .inr (10, vL 67 F17)), (h_s, .inl (cI, 335, .inl f_s)), (h_paceAt, .inl (cI, 40, .inl g26)), (h_kindOf, .inl (cI, 4, .inl g27)), (h_behindAt, .inl (cI, 12, .inl g28))] H := hP
  have hD : va_D A [(h0, .inr (10, vL 67 F17)), (h_s, .inl (cI, 335, .inl f_s)), (h_paceAt, .inl (cI, 40, .inl g26)), (h_kindOf, .inl (cI, 4, .inl g27)), (h_behindAt, .inl (cI, 12, .inl g28))] := hD
  refine W.widen (k := 0) (n := 0) (Nat.le_of_ble_eq_true rfl) (Nat.le_of_ble_eq_true rfl) ?_
  refine lv_istore_n (lv' := [(2, .int r16), (0, .ref h0), (1, .int p0)]) hx hb dX10_totalBy_14 rfl hl (by decide) rfl (fun ls hl => ?_)
  refine lv_aload_n hx hb dX10_totalBy_15 rfl (lv_at hl 1 rfl) ?_
  refine lv_iconst (v := 0) hx hb dX10_totalBy_16 (by decide) ?_
  refine put_f (D := D) (ci := 10) (v := .int 0) (ty := .boolean) (C := RX10) (T := TX10) (N := 67) hx hb hw inAX10 tyX10 tyX10_ok nmX10 hown hK hP hD hS 0 rfl rfl 32 (by decide) (hw _ q_1293) (fun _ h9 => h9) rfl (by decide +kernel) rfl rfl dX10_totalBy_17 (fun H locs F44 eF44 hP hD hS => ?_)
  have hP : va_P D vwCl [(h0, .inr (10, vL 67 F44)), (h_s, .inl (cI, 335, .inl f_s)), (h_paceAt, .inl (cI, 40, .inl g26)), (h_kindOf, .inl (cI, 4, .inl g27)), (h_behindAt, .inl (cI, 12, .inl g28))] H := hP
  have hD : va_D A [(h0, .inr (10, vL 67 F44)), (h_s, .inl (cI, 335, .inl f_s)), (h_paceAt, .inl (cI, 40, .inl g26)), (h_kindOf, .inl (cI, 4, .inl g27)), (h_behindAt, .inl (cI, 12, .inl g28))] := hD
  refine lv_iload_n hx hb dX10_totalBy_20 rfl (lv_at hl 0 rfl) ?_
  exact ret_i (v := r16) hx hb hr hlocks hS hP hD dX10_totalBy_21 rfl (Nat.le_of_ble_eq_true rfl) (Nat.le_of_ble_eq_true rfl) ⟨F44, y18, y19, y20, y21, y22, y23, y24, y25, g26, g27, g28, (SAME.up eF44 (SAME.tr (SAME.up eF2 (SAME.up eF1 SAME.rf (by decide)) (by decide)) t29 (by decide)) (by decide)), (get_ne eF44 (by decide) t30), (get_ne eF44 (by decide) t31), t32, (get_ne eF44 (by decide) t33), t34, (get_ne eF44 (by decide) t35), t36, (get_ne eF44 (by decide) t37), (get_eq eF44), (get_ne eF44 (by decide) t38), t39, (get_ne eF44 (by decide) t40), t41, (get_ne eF44 (by decide) t42), rfl⟩
set_option maxHeartbeats 4000000 in
set_option maxRecDepth 100000 in
theorem m_X10_drawn (l : Launch) (D : va_G) (cI cJ cB cP cM cZ : ClassId) (h0 : Nat) (h_s : Nat) (h_paceAt : Nat) (h_kindOf : Nat) (h_behindAt : Nat) (Fh : Nat → Value) (x_lineTime : Int32) (x_linePace : Int32) (x_inside : Int32) (x_late : Int32) (x_seed : Int32) (x_kicks : Int32) (x_bendsGone : Int32) (x_overAt : Int32) (x_endPace : Int32) (x_touchBend : Int32) (x_touchBy : Int32) (f_s : Nat → Int32) (f_paceAt : Nat → Int32) (f_kindOf : Nat → Int32) (f_behindAt : Nat → Int32) (p0 : Int32) (bs : Nat → Int32) (sz : Nat) (e_s : Fh 6 = .ref h_s) (e_paceAt : Fh 25 = .ref h_paceAt) (e_kindOf : Fh 26 = .ref h_kindOf) (e_lineTime : Fh 27 = .int x_lineTime) (e_linePace : Fh 28 = .int x_linePace) (e_inside : Fh 29 = .int x_inside) (i_x_inside : IR 0 15 x_inside) (e_late : Fh 30 = .int x_late) (i_x_late : IR 0 15 x_late) (e_seed : Fh 31 = .int x_seed) (e_kicks : Fh 32 = .int x_kicks) (i_x_kicks : IR 0 1 x_kicks) (e_behindAt : Fh 33 = .ref h_behindAt) (e_bendsGone : Fh 34 = .int x_bendsGone) (i_x_bendsGone : IR 0 12 x_bendsGone) (e_overAt : Fh 35 = .int x_overAt) (e_endPace : Fh 36 = .int x_endPace) (e_touchBend : Fh 37 = .int x_touchBend) (e_touchBy : Fh 38 = .int x_touchBy) (i_x_touchBy : IR 0 99 x_touchBy) (s_s_K0 : KW 0 f_s) (s_s_US : US bs f_s) (s_s_0 : SG 0 0 0 40 f_s) (s_s_105 : SG 105 108 0 11 f_s) (s_s_114 : SG 114 114 0 5 f_s) (s_s_130 : SG 130 133 0 11 f_s) (s_s_139 : SG 139 139 0 5 f_s) (s_s_153 : SG 153 153 0 44 f_s) (s_s_44 : SG 44 55 0 9 f_s) (s_s_5 : SG 5 5 0 12 f_s) (s_s_6 : SG 6 6 0 12 f_s) (s_s_7 : SG 7 7 0 6 f_s) : CI l yX10_drawn cX10_drawn 2 (some .int) { frames := 6, cells := 0, slots := 0, locals := 137 } (GG D cI cJ cB cP cM cZ) D [(h0, .inr (10, vL 67 Fh)), (h_s, .inl (cI, 335, .inl f_s)), (h_paceAt, .inl (cI, 40, .inl f_paceAt)), (h_kindOf, .inl (cI, 4, .inl f_kindOf)), (h_behindAt, .inl (cI, 12, .inl f_behindAt))] sz [.ref h0, .int p0] (fun (r : Int32) (u : va_W) => ∃ (Gh : Nat → Value) (y_lineTime : Int32) (y_linePace : Int32) (y_inside : Int32) (y_late : Int32) (y_seed : Int32) (y_kicks : Int32) (y_bendsGone : Int32) (y_overAt : Int32) (y_endPace : Int32) (g_paceAt : Nat → Int32) (g_kindOf : Nat → Int32) (g_behindAt : Nat → Int32), SAME [0, 27, 28, 29, 30, 31, 32, 34, 35, 36] Fh Gh ∧ Gh 0 = .int 0 ∧ Gh 27 = .int y_lineTime ∧ Gh 28 = .int y_linePace ∧ Gh 29 = .int y_inside ∧ IR 0 15 y_inside ∧ Gh 30 = .int y_late ∧ IR 0 15 y_late ∧ Gh 31 = .int y_seed ∧ Gh 32 = .int y_kicks ∧ IR 0 1 y_kicks ∧ Gh 34 = .int y_bendsGone ∧ IR 0 12 y_bendsGone ∧ Gh 35 = .int y_overAt ∧ Gh 36 = .int y_endPace ∧ u = [(h0, .inr (10, vL 67 Gh)), (h_s, .inl (cI, 335, .inl f_s)), (h_paceAt, .inl (cI, 40, .inl g_paceAt)), (h_kindOf, .inl (cI, 4, .inl g_kindOf)), (h_behindAt, .inl (cI, 12, .inl g_behindAt))]) := by
  refine CI_mk (by decide) (Nat.le_of_ble_eq_true rfl) ?_
  intro p e s m below meth c A ls E hAe hG hsz hP hD hA hS hl
  obtain ⟨hx, hb, hr, hw, hown, hlocks, hml, hnm⟩ := E
  have hK := hG.1
  have i_x_inside : 0 ≤ x_inside.toInt ∧ x_inside.toInt ≤ 15 := i_x_inside
  have i_x_late : 0 ≤ x_late.toInt ∧ x_late.toInt ≤ 15 := i_x_late
  have i_x_kicks : 0 ≤ x_kicks.toInt ∧ x_kicks.toInt ≤ 1 := i_x_kicks
  have i_x_bendsGone : 0 ≤ x_bendsGone.toInt ∧ x_bendsGone.toInt ≤ 12 := i_x_bendsGone
  have i_x_touchBy : 0 ≤ x_touchBy.toInt ∧ x_touchBy.toInt ≤ 99 := i_x_touchBy
  have hl : lv_has ls 2 [(0, .ref h0), (1, .int p0)] := hl
  refine lv_aload_n hx hb dX10_drawn_0 rfl (lv_at hl 0 rfl) ?_
  refine lv_iconst (v := 0) hx hb dX10_drawn_1 (by decide) ?_
  refine put_f (D := D) (ci := 10) (v := .int 0) (ty := .int) (C := RX10) (T := TX10) (N := 67) hx hb hw inAX10 tyX10 tyX10_ok nmX10 hown hK hP hD hS 0 rfl rfl 0 (by decide) (hw _ q_1261) (fun _ h9 => h9) rfl (by decide +kernel) rfl rfl dX10_drawn_2 (fun H locs F1 eF1 hP hD hS => ?_)
  have hP : va_P D vwCl [(h0, .inr (10, vL 67 F1)), (h_s, .inl (cI, 335, .inl f_s)), (h_paceAt, .inl (cI, 40, .inl f_paceAt)), (h_kindOf, .inl (cI, 4, .inl f_kindOf)), (h_behindAt, .inl (cI, 12, .inl f_behindAt))] H := hP
  have hD : va_D A [(h0, .inr (10, vL 67 F1)), (h_s, .inl (cI, 335, .inl f_s)), (h_paceAt, .inl (cI, 40, .inl f_paceAt)), (h_kindOf, .inl (cI, 4, .inl f_kindOf)), (h_behindAt, .inl (cI, 12, .inl f_behindAt))] := hD
  refine lv_aload_n hx hb dX10_drawn_5 rfl (lv_at hl 0 rfl) ?_
  have n2 : F1 6 = .ref h_s := (get_ne eF1 (by decide) e_s)
  refine call_Vi (wr := [(h_paceAt, .inl (cI, 40, .inl f_paceAt)), (h_kindOf, .inl (cI, 4, .inl f_kindOf)), (h_behindAt, .inl (cI, 12, .inl f_behindAt))]) (As := []) (rest := []) hx hb hml hown hw (m_X10_hasCrew l D cI cJ cB cP cM cZ h0 h_s F1 f_s bs _ n2 s_s_K0 s_s_US s_s_0 s_s_105 s_s_114 s_s_130 s_s_139 s_s_153 s_s_44 s_s_5 s_s_6 s_s_7) wV_X10_281_X10_hasCrew dX10_drawn_6 hK hP hD hS hA [0, 1] [2, 3, 4] rfl rfl (by decide) (by decide) (by decide) 0 10 rfl rfl GG.fb hG.at hl.1 rfl (Nat.le_of_ble_eq_true rfl) ⟨(Nat.le_of_ble_eq_true rfl), (Nat.le_of_ble_eq_true rfl)⟩ ⟨(Nat.le_of_ble_eq_true rfl), (Nat.le_of_ble_eq_true rfl)⟩ (fun r3 u H locs hp hP hD hS => ?_)
  rcases hp with ⟨rfl, rfl⟩ | ⟨rfl, rfl⟩
  · have hP : va_P D vwCl [(h_paceAt, .inl (cI, 40, .inl f_paceAt)), (h_kindOf, .inl (cI, 4, .inl f_kindOf)), (h_behindAt, .inl (cI, 12, .inl f_behindAt)), (h0, .inr (10, vL 67 F1)), (h_s, .inl (cI, 335, .inl f_s))] H := hP
    have hD : va_D A [(h_paceAt, .inl (cI, 40, .inl f_paceAt)), (h_kindOf, .inl (cI, 4, .inl f_kindOf)), (h_behindAt, .inl (cI, 12, .inl f_behindAt)), (h0, .inr (10, vL 67 F1)), (h_s, .inl (cI, 335, .inl f_s))] := hD
    refine W.widen (k := 0) (n := 0) (Nat.le_of_ble_eq_true rfl) (Nat.le_of_ble_eq_true rfl) ?_
    refine lv_if_eq (tgt := 20) hx hb dX10_drawn_9 (by decide) (fun _ => ?_) (fun g => absurd (by decide) g)
    refine lv_iconst (v := (-1)) hx hb dX10_drawn_20 (by decide) ?_
    exact ret_i (v := (-1)) hx hb hr hlocks hS (hP.sub (ws' := [(h0, .inr (10, vL 67 F1)), (h_s, .inl (cI, 335, .inl f_s)), (h_paceAt, .inl (cI, 40, .inl f_paceAt)), (h_kindOf, .inl (cI, 4, .inl f_kindOf)), (h_behindAt, .inl (cI, 12, .inl f_behindAt))]) [3, 4, 0, 1, 2] rfl) (hD.sub (ws' := [(h0, .inr (10, vL 67 F1)), (h_s, .inl (cI, 335, .inl f_s)), (h_paceAt, .inl (cI, 40, .inl f_paceAt)), (h_kindOf, .inl (cI, 4, .inl f_kindOf)), (h_behindAt, .inl (cI, 12, .inl f_behindAt))]) [3, 4, 0, 1, 2] (by decide) rfl) dX10_drawn_21 rfl (Nat.le_of_ble_eq_true rfl) (Nat.le_of_ble_eq_true rfl) ⟨F1, x_lineTime, x_linePace, x_inside, x_late, x_seed, x_kicks, x_bendsGone, x_overAt, x_endPace, f_paceAt, f_kindOf, f_behindAt, (SAME.up eF1 SAME.rf (by decide)), (get_eq eF1), (get_ne eF1 (by decide) e_lineTime), (get_ne eF1 (by decide) e_linePace), (get_ne eF1 (by decide) e_inside), i_x_inside, (get_ne eF1 (by decide) e_late), i_x_late, (get_ne eF1 (by decide) e_seed), (get_ne eF1 (by decide) e_kicks), i_x_kicks, (get_ne eF1 (by decide) e_bendsGone), i_x_bendsGone, (get_ne eF1 (by decide) e_overAt), (get_ne eF1 (by decide) e_endPace), rfl⟩
  · have hP : va_P D vwCl [(h_paceAt, .inl (cI, 40, .inl f_paceAt)), (h_kindOf, .inl (cI, 4, .inl f_kindOf)), (h_behindAt, .inl (cI, 12, .inl f_behindAt)), (h0, .inr (10, vL 67 F1)), (h_s, .inl (cI, 335, .inl f_s))] H := hP
    have hD : va_D A [(h_paceAt, .inl (cI, 40, .inl f_paceAt)), (h_kindOf, .inl (cI, 4, .inl f_kindOf)), (h_behindAt, .inl (cI, 12, .inl f_behindAt)), (h0, .inr (10, vL 67 F1)), (h_s, .inl (cI, 335, .inl f_s))] := hD
    refine W.widen (k := 0) (n := 0) (Nat.le_of_ble_eq_true rfl) (Nat.le_of_ble_eq_true rfl) ?_
    refine lv_if_eq (tgt := 20) hx hb dX10_drawn_9 (by decide) (fun g => absurd g (by decide)) (fun _ => ?_)
    refine lv_aload_n hx hb dX10_drawn_12 rfl (lv_at hl 0 rfl) ?_
    refine lv_iload_n hx hb dX10_drawn_13 rfl (lv_at hl 1 rfl) ?_
    have n5 : F1 25 = .ref h_paceAt := (get_ne eF1 (by decide) e_paceAt)
    have n6 : F1 26 = .ref h_kindOf := (get_ne eF1 (by decide) e_kindOf)
    have n7 : F1 33 = .ref h_behindAt := (get_ne eF1 (by decide) e_behindAt)
    have n8 : F1 37 = .int x_touchBend := (get_ne eF1 (by decide) e_touchBend)
    have n9 : F1 38 = .int x_touchBy := (get_ne eF1 (by decide) e_touchBy)
    refine call_Vi (wr := []) (As := [.int p0]) (rest := []) hx hb hml hown hw (m_X10_totalBy l D cI cJ cB cP cM cZ h0 h_s h_paceAt h_kindOf h_behindAt F1 x_touchBend x_touchBy f_s f_paceAt f_kindOf f_behindAt p0 bs _ n2 n5 n6 n7 n8 n9 i_x_touchBy s_s_K0 s_s_US s_s_0 s_s_105 s_s_114 s_s_130 s_s_139 s_s_153 s_s_44 s_s_5 s_s_6 s_s_7) wV_X10_438_X10_totalBy dX10_drawn_14 hK hP hD hS hA [3, 4, 0, 1, 2] [] rfl rfl (by decide) (by decide) (by decide) 0 10 rfl rfl GG.fb hG.at hl.1 rfl (Nat.le_of_ble_eq_true rfl) ⟨(Nat.le_of_ble_eq_true rfl), (Nat.le_of_ble_eq_true rfl)⟩ ⟨(Nat.le_of_ble_eq_true rfl), (Nat.le_of_ble_eq_true rfl)⟩ (fun r10 u H locs hp hP hD hS => ?_)
    refine hp.elim (fun F11 h9z0 => h9z0.elim (fun y12 h9z1 => h9z1.elim (fun y13 h9z2 => h9z2.elim (fun y14 h9z3 => h9z3.elim (fun y15 h9z4 => h9z4.elim (fun y16 h9z5 => h9z5.elim (fun y17 h9z6 => h9z6.elim (fun y18 h9z7 => h9z7.elim (fun y19 h9z8 => h9z8.elim (fun g20 h9z9 => h9z9.elim (fun g21 h9z10 => h9z10.elim (fun g22 h9z11 => h9z11.elim (fun t23 h9z12 => h9z12.elim (fun t24 h9z13 => h9z13.elim (fun t25 h9z14 => h9z14.elim (fun t26 h9z15 => h9z15.elim (fun t27 h9z16 => h9z16.elim (fun t28 h9z17 => h9z17.elim (fun t29 h9z18 => h9z18.elim (fun t30 h9z19 => h9z19.elim (fun t31 h9z20 => h9z20.elim (fun t32 h9z21 => h9z21.elim (fun t33 h9z22 => h9z22.elim (fun t34 h9z23 => h9z23.elim (fun t35 h9z24 => h9z24.elim (fun t36 h9z25 => h9z25.elim (fun t37 h9z26 => ?_)))))))))))))))))))))))))))
    clear h9z0 h9z1 h9z2 h9z3 h9z4 h9z5 h9z6 h9z7 h9z8 h9z9 h9z10 h9z11 h9z12 h9z13 h9z14 h9z15 h9z16 h9z17 h9z18 h9z19 h9z20 h9z21 h9z22 h9z23 h9z24 h9z25
    subst h9z26
    have hP : va_P D vwCl [(h0, .inr (10, vL 67 F11)), (h_s, .inl (cI, 335, .inl f_s)), (h_paceAt, .inl (cI, 40, .inl g20)), (h_kindOf, .inl (cI, 4, .inl g21)), (h_behindAt, .inl (cI, 12, .inl g22))] H := hP
    have hD : va_D A [(h0, .inr (10, vL 67 F11)), (h_s, .inl (cI, 335, .inl f_s)), (h_paceAt, .inl (cI, 40, .inl g20)), (h_kindOf, .inl (cI, 4, .inl g21)), (h_behindAt, .inl (cI, 12, .inl g22))] := hD
    refine W.widen (k := 0) (n := 0) (Nat.le_of_ble_eq_true rfl) (Nat.le_of_ble_eq_true rfl) ?_
    refine lv_goto (tgt := 21) hx hb dX10_drawn_17 (by decide) ?_
    exact ret_i (v := r10) hx hb hr hlocks hS hP hD dX10_drawn_21 rfl (Nat.le_of_ble_eq_true rfl) (Nat.le_of_ble_eq_true rfl) ⟨F11, y12, y13, y14, y15, y16, 0, y17, y18, y19, g20, g21, g22, (SAME.tr (SAME.up eF1 SAME.rf (by decide)) t23 (by decide)), (SAME.at t23 (by decide) (get_eq eF1)), t24, t25, t27, t28, t29, t30, t31, t32, (show 0 ≤ (0 : Int32).toInt ∧ (0 : Int32).toInt ≤ 1 by decide), t33, t34, t35, t37, rfl⟩
set_option maxHeartbeats 4000000 in
set_option maxRecDepth 100000 in
theorem m_X10_odds (l : Launch) (D : va_G) (cI cJ cB cP cM cZ : ClassId) (h0 : Nat) (h_s : Nat) (h_paceAt : Nat) (h_kindOf : Nat) (h_behindAt : Nat) (Fh : Nat → Value) (x_lineTime : Int32) (x_linePace : Int32) (x_inside : Int32) (x_late : Int32) (x_seed : Int32) (x_kicks : Int32) (x_bendsGone : Int32) (x_overAt : Int32) (x_endPace : Int32) (x_touchBend : Int32) (x_touchBy : Int32) (f_s : Nat → Int32) (f_paceAt : Nat → Int32) (f_kindOf : Nat → Int32) (f_behindAt : Nat → Int32) (p0 : Int32) (p1 : Int32) (p2 : Int32) (bs : Nat → Int32) (sz : Nat) (e_s : Fh 6 = .ref h_s) (e_paceAt : Fh 25 = .ref h_paceAt) (e_kindOf : Fh 26 = .ref h_kindOf) (e_lineTime : Fh 27 = .int x_lineTime) (e_linePace : Fh 28 = .int x_linePace) (e_inside : Fh 29 = .int x_inside) (i_x_inside : IR 0 15 x_inside) (e_late : Fh 30 = .int x_late) (i_x_late : IR 0 15 x_late) (e_seed : Fh 31 = .int x_seed) (e_kicks : Fh 32 = .int x_kicks) (i_x_kicks : IR 0 1 x_kicks) (e_behindAt : Fh 33 = .ref h_behindAt) (e_bendsGone : Fh 34 = .int x_bendsGone) (i_x_bendsGone : IR 0 12 x_bendsGone) (e_overAt : Fh 35 = .int x_overAt) (e_endPace : Fh 36 = .int x_endPace) (e_touchBend : Fh 37 = .int x_touchBend) (e_touchBy : Fh 38 = .int x_touchBy) (i_x_touchBy : IR 0 99 x_touchBy) (s_s_K0 : KW 0 f_s) (s_s_US : US bs f_s) (s_s_0 : SG 0 0 0 40 f_s) (s_s_105 : SG 105 108 0 11 f_s) (s_s_114 : SG 114 114 0 5 f_s) (s_s_130 : SG 130 133 0 11 f_s) (s_s_139 : SG 139 139 0 5 f_s) (s_s_153 : SG 153 153 0 44 f_s) (s_s_44 : SG 44 55 0 9 f_s) (s_s_5 : SG 5 5 0 12 f_s) (s_s_6 : SG 6 6 0 12 f_s) (s_s_7 : SG 7 7 0 6 f_s) : CI l yX10_odds cX10_odds 7 (some .int) { frames := 6, cells := 0, slots := 0, locals := 137 } (GG D cI cJ cB cP cM cZ) D [(h0, .inr (10, vL 67 Fh)), (h_s, .inl (cI, 335, .inl f_s)), (h_paceAt, .inl (cI, 40, .inl f_paceAt)), (h_kindOf, .inl (cI, 4, .inl f_kindOf)), (h_behindAt, .inl (cI, 12, .inl f_behindAt))] sz [.ref h0, .int p0, .int p1, .int p2] (fun (r : Int32) (u : va_W) => ∃ (Gh : Nat → Value) (y_lineTime : Int32) (y_linePace : Int32) (y_inside : Int32) (y_late : Int32) (y_seed : Int32) (y_kicks : Int32) (y_bendsGone : Int32) (y_overAt : Int32) (y_endPace : Int32) (g_paceAt : Nat → Int32) (g_kindOf : Nat → Int32) (g_behindAt : Nat → Int32), SAME [0, 27, 28, 29, 30, 31, 32, 34, 35, 36] Fh Gh ∧ Gh 0 = .int 0 ∧ Gh 27 = .int y_lineTime ∧ Gh 28 = .int y_linePace ∧ Gh 29 = .int y_inside ∧ IR 0 15 y_inside ∧ Gh 30 = .int y_late ∧ IR 0 15 y_late ∧ Gh 31 = .int y_seed ∧ Gh 32 = .int y_kicks ∧ IR 0 1 y_kicks ∧ Gh 34 = .int y_bendsGone ∧ IR 0 12 y_bendsGone ∧ Gh 35 = .int y_overAt ∧ Gh 36 = .int y_endPace ∧ u = [(h0, .inr (10, vL 67 Gh)), (h_s, .inl (cI, 335, .inl f_s)), (h_paceAt, .inl (cI, 40, .inl g_paceAt)), (h_kindOf, .inl (cI, 4, .inl g_kindOf)), (h_behindAt, .inl (cI, 12, .inl g_behindAt))]) := by
  refine CI_mk (by decide) (Nat.le_of_ble_eq_true rfl) ?_
  intro p e s m below meth c A ls E hAe hG hsz hP hD hA hS hl
  obtain ⟨hx, hb, hr, hw, hown, hlocks, hml, hnm⟩ := E
  have hK := hG.1
  have i_x_inside : 0 ≤ x_inside.toInt ∧ x_inside.toInt ≤ 15 := i_x_inside
  have i_x_late : 0 ≤ x_late.toInt ∧ x_late.toInt ≤ 15 := i_x_late
  have i_x_kicks : 0 ≤ x_kicks.toInt ∧ x_kicks.toInt ≤ 1 := i_x_kicks
  have i_x_bendsGone : 0 ≤ x_bendsGone.toInt ∧ x_bendsGone.toInt ≤ 12 := i_x_bendsGone
  have i_x_touchBy : 0 ≤ x_touchBy.toInt ∧ x_touchBy.toInt ≤ 99 := i_x_touchBy
  have hl : lv_has ls 7 [(0, .ref h0), (1, .int p0), (2, .int p1), (3, .int p2)] := hl
  refine lv_aload_n hx hb dX10_odds_0 rfl (lv_at hl 0 rfl) ?_
  refine lv_iconst (v := 0) hx hb dX10_odds_1 (by decide) ?_
  refine put_f (D := D) (ci := 10) (v := .int 0) (ty := .int) (C := RX10) (T := TX10) (N := 67) hx hb hw inAX10 tyX10 tyX10_ok nmX10 hown hK hP hD hS 0 rfl rfl 0 (by decide) (hw _ q_1261) (fun _ h9 => h9) rfl (by decide +kernel) rfl rfl dX10_odds_2 (fun H locs F1 eF1 hP hD hS => ?_)
  have hP : va_P D vwCl [(h0, .inr (10, vL 67 F1)), (h_s, .inl (cI, 335, .inl f_s)), (h_paceAt, .inl (cI, 40, .inl f_paceAt)), (h_kindOf, .inl (cI, 4, .inl f_kindOf)), (h_behindAt, .inl (cI, 12, .inl f_behindAt))] H := hP
  have hD : va_D A [(h0, .inr (10, vL 67 F1)), (h_s, .inl (cI, 335, .inl f_s)), (h_paceAt, .inl (cI, 40, .inl f_paceAt)), (h_kindOf, .inl (cI, 4, .inl f_kindOf)), (h_behindAt, .inl (cI, 12, .inl f_behindAt))] := hD
  refine lv_aload_n hx hb dX10_odds_5 rfl (lv_at hl 0 rfl) ?_
  have n2 : F1 6 = .ref h_s := (get_ne eF1 (by decide) e_s)
  refine call_Vi (wr := [(h_paceAt, .inl (cI, 40, .inl f_paceAt)), (h_kindOf, .inl (cI, 4, .inl f_kindOf)), (h_behindAt, .inl (cI, 12, .inl f_behindAt))]) (As := []) (rest := []) hx hb hml hown hw (m_X10_hasCrew l D cI cJ cB cP cM cZ h0 h_s F1 f_s bs _ n2 s_s_K0 s_s_US s_s_0 s_s_105 s_s_114 s_s_130 s_s_139 s_s_153 s_s_44 s_s_5 s_s_6 s_s_7) wV_X10_281_X10_hasCrew dX10_odds_6 hK hP hD hS hA [0, 1] [2, 3, 4] rfl rfl (by decide) (by decide) (by decide) 0 10 rfl rfl GG.fb hG.at hl.1 rfl (Nat.le_of_ble_eq_true rfl) ⟨(Nat.le_of_ble_eq_true rfl), (Nat.le_of_ble_eq_true rfl)⟩ ⟨(Nat.le_of_ble_eq_true rfl), (Nat.le_of_ble_eq_true rfl)⟩ (fun r3 u H locs hp hP hD hS => ?_)
  rcases hp with ⟨rfl, rfl⟩ | ⟨rfl, rfl⟩
  · have hP : va_P D vwCl [(h_paceAt, .inl (cI, 40, .inl f_paceAt)), (h_kindOf, .inl (cI, 4, .inl f_kindOf)), (h_behindAt, .inl (cI, 12, .inl f_behindAt)), (h0, .inr (10, vL 67 F1)), (h_s, .inl (cI, 335, .inl f_s))] H := hP
    have hD : va_D A [(h_paceAt, .inl (cI, 40, .inl f_paceAt)), (h_kindOf, .inl (cI, 4, .inl f_kindOf)), (h_behindAt, .inl (cI, 12, .inl f_behindAt)), (h0, .inr (10, vL 67 F1)), (h_s, .inl (cI, 335, .inl f_s))] := hD
    refine W.widen (k := 0) (n := 0) (Nat.le_of_ble_eq_true rfl) (Nat.le_of_ble_eq_true rfl) ?_
    refine lv_if_eq (tgt := 22) hx hb dX10_odds_9 (by decide) (fun _ => ?_) (fun g => absurd (by decide) g)
    refine lv_iconst (v := (-1)) hx hb dX10_odds_22 (by decide) ?_
    exact ret_i (v := (-1)) hx hb hr hlocks hS (hP.sub (ws' := [(h0, .inr (10, vL 67 F1)), (h_s, .inl (cI, 335, .inl f_s)), (h_paceAt, .inl (cI, 40, .inl f_paceAt)), (h_kindOf, .inl (cI, 4, .inl f_kindOf)), (h_behindAt, .inl (cI, 12, .inl f_behindAt))]) [3, 4, 0, 1, 2] rfl) (hD.sub (ws' := [(h0, .inr (10, vL 67 F1)), (h_s, .inl (cI, 335, .inl f_s)), (h_paceAt, .inl (cI, 40, .inl f_paceAt)), (h_kindOf, .inl (cI, 4, .inl f_kindOf)), (h_behindAt, .inl (cI, 12, .inl f_behindAt))]) [3, 4, 0, 1, 2] (by decide) rfl) dX10_odds_23 rfl (Nat.le_of_ble_eq_true rfl) (Nat.le_of_ble_eq_true rfl) ⟨F1, x_lineTime, x_linePace, x_inside, x_late, x_seed, x_kicks, x_bendsGone, x_overAt, x_endPace, f_paceAt, f_kindOf, f_behindAt, (SAME.up eF1 SAME.rf (by decide)), (get_eq eF1), (get_ne eF1 (by decide) e_lineTime), (get_ne eF1 (by decide) e_linePace), (get_ne eF1 (by decide) e_inside), i_x_inside, (get_ne eF1 (by decide) e_late), i_x_late, (get_ne eF1 (by decide) e_seed), (get_ne eF1 (by decide) e_kicks), i_x_kicks, (get_ne eF1 (by decide) e_bendsGone), i_x_bendsGone, (get_ne eF1 (by decide) e_overAt), (get_ne eF1 (by decide) e_endPace), rfl⟩
  · have hP : va_P D vwCl [(h_paceAt, .inl (cI, 40, .inl f_paceAt)), (h_kindOf, .inl (cI, 4, .inl f_kindOf)), (h_behindAt, .inl (cI, 12, .inl f_behindAt)), (h0, .inr (10, vL 67 F1)), (h_s, .inl (cI, 335, .inl f_s))] H := hP
    have hD : va_D A [(h_paceAt, .inl (cI, 40, .inl f_paceAt)), (h_kindOf, .inl (cI, 4, .inl f_kindOf)), (h_behindAt, .inl (cI, 12, .inl f_behindAt)), (h0, .inr (10, vL 67 F1)), (h_s, .inl (cI, 335, .inl f_s))] := hD
    refine W.widen (k := 0) (n := 0) (Nat.le_of_ble_eq_true rfl) (Nat.le_of_ble_eq_true rfl) ?_
    refine lv_if_eq (tgt := 22) hx hb dX10_odds_9 (by decide) (fun g => absurd g (by decide)) (fun _ => ?_)
    refine lv_iload_n hx hb dX10_odds_12 rfl (lv_at hl 1 rfl) ?_
    refine lv_iconst (v := 1) hx hb dX10_odds_13 (by decide) ?_
    refine lv_bipush (v := 60) hx hb dX10_odds_14 (by decide) ?_
    refine call_Si (wr := [(h_paceAt, .inl (cI, 40, .inl f_paceAt)), (h_kindOf, .inl (cI, 4, .inl f_kindOf)), (h_behindAt, .inl (cI, 12, .inl f_behindAt)), (h0, .inr (10, vL 67 F1)), (h_s, .inl (cI, 335, .inl f_s))]) (As := [.int p0, .int 1, .int 60]) (rest := []) hx hb hml hown hw (m_X10_isIn l D cI cJ cB cP cM cZ p0 1 60 _ ) wS_X10_211_X10_isIn dX10_odds_16 hP hD hS hA [] [0, 1, 2, 3, 4] rfl rfl (by decide) (by decide) (by decide) GG.fb hG.at hl.1 rfl (Nat.le_of_ble_eq_true rfl) ⟨(Nat.le_of_ble_eq_true rfl), (Nat.le_of_ble_eq_true rfl)⟩ ⟨(Nat.le_of_ble_eq_true rfl), (Nat.le_of_ble_eq_true rfl)⟩ (fun r5 u H locs hp hP hD hS => ?_)
    have zl1 : (1 : Int32).toInt = 1 := by decide
    have zl60 : (60 : Int32).toInt = 60 := by decide
    rcases hp with ⟨t6, rfl, rfl⟩ | ⟨t7, t8, rfl, rfl⟩ | ⟨t9, t10, rfl, rfl⟩
    · have hP : va_P D vwCl [(h_paceAt, .inl (cI, 40, .inl f_paceAt)), (h_kindOf, .inl (cI, 4, .inl f_kindOf)), (h_behindAt, .inl (cI, 12, .inl f_behindAt)), (h0, .inr (10, vL 67 F1)), (h_s, .inl (cI, 335, .inl f_s))] H := hP
      have hD : va_D A [(h_paceAt, .inl (cI, 40, .inl f_paceAt)), (h_kindOf, .inl (cI, 4, .inl f_kindOf)), (h_behindAt, .inl (cI, 12, .inl f_behindAt)), (h0, .inr (10, vL 67 F1)), (h_s, .inl (cI, 335, .inl f_s))] := hD
      refine W.widen (k := 0) (n := 0) (Nat.le_of_ble_eq_true rfl) (Nat.le_of_ble_eq_true rfl) ?_
      have k12 : (-2147483648) ≤ p0.toInt ∧ p0.toInt ≤ 0 := ⟨(ir_any _).1, up_lt t6 (Int.le_refl _) (by decide)⟩
      refine lv_if_ne (tgt := 24) hx hb dX10_odds_19 (by decide) (fun g => absurd (by decide) g) (fun _ => ?_)
      refine lv_iconst (v := (-1)) hx hb dX10_odds_22 (by decide) ?_
      exact ret_i (v := (-1)) hx hb hr hlocks hS (hP.sub (ws' := [(h0, .inr (10, vL 67 F1)), (h_s, .inl (cI, 335, .inl f_s)), (h_paceAt, .inl (cI, 40, .inl f_paceAt)), (h_kindOf, .inl (cI, 4, .inl f_kindOf)), (h_behindAt, .inl (cI, 12, .inl f_behindAt))]) [3, 4, 0, 1, 2] rfl) (hD.sub (ws' := [(h0, .inr (10, vL 67 F1)), (h_s, .inl (cI, 335, .inl f_s)), (h_paceAt, .inl (cI, 40, .inl f_paceAt)), (h_kindOf, .inl (cI, 4, .inl f_kindOf)), (h_behindAt, .inl (cI, 12, .inl f_behindAt))]) [3, 4, 0, 1, 2] (by decide) rfl) dX10_odds_23 rfl (Nat.le_of_ble_eq_true rfl) (Nat.le_of_ble_eq_true rfl) ⟨F1, x_lineTime, x_linePace, x_inside, x_late, x_seed, x_kicks, x_bendsGone, x_overAt, x_endPace, f_paceAt, f_kindOf, f_behindAt, (SAME.up eF1 SAME.rf (by decide)), (get_eq eF1), (get_ne eF1 (by decide) e_lineTime), (get_ne eF1 (by decide) e_linePace), (get_ne eF1 (by decide) e_inside), i_x_inside, (get_ne eF1 (by decide) e_late), i_x_late, (get_ne eF1 (by decide) e_seed), (get_ne eF1 (by decide) e_kicks), i_x_kicks, (get_ne eF1 (by decide) e_bendsGone), i_x_bendsGone, (get_ne eF1 (by decide) e_overAt), (get_ne eF1 (by decide) e_endPace), rfl⟩
    · have hP : va_P D vwCl [(h_paceAt, .inl (cI, 40, .inl f_paceAt)), (h_kindOf, .inl (cI, 4, .inl f_kindOf)), (h_behindAt, .inl (cI, 12, .inl f_behindAt)), (h0, .inr (10, vL 67 F1)), (h_s, .inl (cI, 335, .inl f_s))] H := hP
      have hD : va_D A [(h_paceAt, .inl (cI, 40, .inl f_paceAt)), (h_kindOf, .inl (cI, 4, .inl f_kindOf)), (h_behindAt, .inl (cI, 12, .inl f_behindAt)), (h0, .inr (10, vL 67 F1)), (h_s, .inl (cI, 335, .inl f_s))] := hD
      refine W.widen (k := 0) (n := 0) (Nat.le_of_ble_eq_true rfl) (Nat.le_of_ble_eq_true rfl) ?_
      have k13 : 1 ≤ p0.toInt ∧ p0.toInt ≤ 2147483647 := ⟨Int.le_trans (Int.le_refl _) t7, (ir_any _).2⟩
      have k14 : 61 ≤ p0.toInt ∧ p0.toInt ≤ 2147483647 := ⟨lo_lt t8 (Int.le_refl _) (by decide), k13.2⟩
      refine lv_if_ne (tgt := 24) hx hb dX10_odds_19 (by decide) (fun g => absurd (by decide) g) (fun _ => ?_)
      refine lv_iconst (v := (-1)) hx hb dX10_odds_22 (by decide) ?_
      exact ret_i (v := (-1)) hx hb hr hlocks hS (hP.sub (ws' := [(h0, .inr (10, vL 67 F1)), (h_s, .inl (cI, 335, .inl f_s)), (h_paceAt, .inl (cI, 40, .inl f_paceAt)), (h_kindOf, .inl (cI, 4, .inl f_kindOf)), (h_behindAt, .inl (cI, 12, .inl f_behindAt))]) [3, 4, 0, 1, 2] rfl) (hD.sub (ws' := [(h0, .inr (10, vL 67 F1)), (h_s, .inl (cI, 335, .inl f_s)), (h_paceAt, .inl (cI, 40, .inl f_paceAt)), (h_kindOf, .inl (cI, 4, .inl f_kindOf)), (h_behindAt, .inl (cI, 12, .inl f_behindAt))]) [3, 4, 0, 1, 2] (by decide) rfl) dX10_odds_23 rfl (Nat.le_of_ble_eq_true rfl) (Nat.le_of_ble_eq_true rfl) ⟨F1, x_lineTime, x_linePace, x_inside, x_late, x_seed, x_kicks, x_bendsGone, x_overAt, x_endPace, f_paceAt, f_kindOf, f_behindAt, (SAME.up eF1 SAME.rf (by decide)), (get_eq eF1), (get_ne eF1 (by decide) e_lineTime), (get_ne eF1 (by decide) e_linePace), (get_ne eF1 (by decide) e_inside), i_x_inside, (get_ne eF1 (by decide) e_late), i_x_late, (get_ne eF1 (by decide) e_seed), (get_ne eF1 (by decide) e_kicks), i_x_kicks, (get_ne eF1 (by decide) e_bendsGone), i_x_bendsGone, (get_ne eF1 (by decide) e_overAt), (get_ne eF1 (by decide) e_endPace), rfl⟩
    · have hP : va_P D vwCl [(h_paceAt, .inl (cI, 40, .inl f_paceAt)), (h_kindOf, .inl (cI, 4, .inl f_kindOf)), (h_behindAt, .inl (cI, 12, .inl f_behindAt)), (h0, .inr (10, vL 67 F1)), (h_s, .inl (cI, 335, .inl f_s))] H := hP
      have hD : va_D A [(h_paceAt, .inl (cI, 40, .inl f_paceAt)), (h_kindOf, .inl (cI, 4, .inl f_kindOf)), (h_behindAt, .inl (cI, 12, .inl f_behindAt)), (h0, .inr (10, vL 67 F1)), (h_s, .inl (cI, 335, .inl f_s))] := hD
      refine W.widen (k := 0) (n := 0) (Nat.le_of_ble_eq_true rfl) (Nat.le_of_ble_eq_true rfl) ?_
      have k15 : 1 ≤ p0.toInt ∧ p0.toInt ≤ 2147483647 := ⟨Int.le_trans (Int.le_refl _) t9, (ir_any _).2⟩
      have k16 : 1 ≤ p0.toInt ∧ p0.toInt ≤ 60 := ⟨k15.1, Int.le_trans t10 (Int.le_refl _)⟩
      refine lv_if_ne (tgt := 24) hx hb dX10_odds_19 (by decide) (fun _ => ?_) (fun g => absurd g (by decide))
      refine lv_iconst (v := 0) hx hb dX10_odds_24 (by decide) ?_
      refine lv_istore (lv' := [(4, .int 0), (0, .ref h0), (1, .int p0), (2, .int p1), (3, .int p2)]) hx hb dX10_odds_25 hl (by decide) rfl (fun ls hl => ?_)
      refine lv_iconst (v := 0) hx hb dX10_odds_27 (by decide) ?_
      refine lv_istore (lv' := [(5, .int 0), (4, .int 0), (0, .ref h0), (1, .int p0), (2, .int p1), (3, .int p2)]) hx hb dX10_odds_28 hl (by decide) rfl (fun ls hl => ?_)
      have n32 : F1 27 = .int x_lineTime := (get_ne eF1 (by decide) e_lineTime)
      have n33 : F1 28 = .int x_linePace := (get_ne eF1 (by decide) e_linePace)
      have n34 : F1 29 = .int x_inside := (get_ne eF1 (by decide) e_inside)
      have n35 : F1 30 = .int x_late := (get_ne eF1 (by decide) e_late)
      have n36 : F1 31 = .int x_seed := (get_ne eF1 (by decide) e_seed)
      have n37 : F1 32 = .int x_kicks := (get_ne eF1 (by decide) e_kicks)
      have n38 : F1 34 = .int x_bendsGone := (get_ne eF1 (by decide) e_bendsGone)
      have n39 : F1 35 = .int x_overAt := (get_ne eF1 (by decide) e_overAt)
      have n40 : F1 36 = .int x_endPace := (get_ne eF1 (by decide) e_endPace)
      refine mloop (α := (Int32) × (Int32) × (Nat → Int32) × (Nat → Int32) × (Nat → Int32) × (Nat → Value) × (Int32) × (Int32) × (Int32) × (Int32) × (Int32) × (Int32) × (Int32) × (Int32) × (Int32)) (nL := 7) (D := D) (A := A) (H0 := s.heap) (fun a => (60 - a.1.toInt).toNat) (fun a => IR 0 60 a.1 ∧ SAME [27, 28, 29, 30, 31, 32, 34, 35, 36] F1 a.2.2.2.2.2.1 ∧ a.2.2.2.2.2.1 27 = .int a.2.2.2.2.2.2.1 ∧ a.2.2.2.2.2.1 28 = .int a.2.2.2.2.2.2.2.1 ∧ a.2.2.2.2.2.1 29 = .int a.2.2.2.2.2.2.2.2.1 ∧ a.2.2.2.2.2.1 30 = .int a.2.2.2.2.2.2.2.2.2.1 ∧ a.2.2.2.2.2.1 31 = .int a.2.2.2.2.2.2.2.2.2.2.1 ∧ a.2.2.2.2.2.1 32 = .int a.2.2.2.2.2.2.2.2.2.2.2.1 ∧ a.2.2.2.2.2.1 34 = .int a.2.2.2.2.2.2.2.2.2.2.2.2.1 ∧ a.2.2.2.2.2.1 35 = .int a.2.2.2.2.2.2.2.2.2.2.2.2.2.1 ∧ a.2.2.2.2.2.1 36 = .int a.2.2.2.2.2.2.2.2.2.2.2.2.2.2 ∧ IR 0 15 a.2.2.2.2.2.2.2.2.1 ∧ IR 0 15 a.2.2.2.2.2.2.2.2.2.1 ∧ IR 0 1 a.2.2.2.2.2.2.2.2.2.2.2.1 ∧ IR 0 12 a.2.2.2.2.2.2.2.2.2.2.2.2.1) (fun a => [(h_paceAt, .inl (cI, 40, .inl a.2.2.1)), (h_kindOf, .inl (cI, 4, .inl a.2.2.2.1)), (h_behindAt, .inl (cI, 12, .inl a.2.2.2.2.1)), (h0, .inr (10, vL 67 a.2.2.2.2.2.1)), (h_s, .inl (cI, 335, .inl f_s))]) (fun a => [(5, .int a.1), (4, .int a.2.1), (0, .ref h0), (1, .int p0), (2, .int p1), (3, .int p2)]) (fun H locs ls => W p l e ({ frames := 6, cells := 0, slots := 0, locals := 137 } : Room) s m [.ref h0, .int p0, .int p1, .int p2].toArray below meth c H locs 0 0 (MQ below (va_Qi (fun (r : Int32) (u : va_W) => ∃ (Gh : Nat → Value) (y_lineTime : Int32) (y_linePace : Int32) (y_inside : Int32) (y_late : Int32) (y_seed : Int32) (y_kicks : Int32) (y_bendsGone : Int32) (y_overAt : Int32) (y_endPace : Int32) (g_paceAt : Nat → Int32) (g_kindOf : Nat → Int32) (g_behindAt : Nat → Int32), SAME [0, 27, 28, 29, 30, 31, 32, 34, 35, 36] Fh Gh ∧ Gh 0 = .int 0 ∧ Gh 27 = .int y_lineTime ∧ Gh 28 = .int y_linePace ∧ Gh 29 = .int y_inside ∧ IR 0 15 y_inside ∧ Gh 30 = .int y_late ∧ IR 0 15 y_late ∧ Gh 31 = .int y_seed ∧ Gh 32 = .int y_kicks ∧ IR 0 1 y_kicks ∧ Gh 34 = .int y_bendsGone ∧ IR 0 12 y_bendsGone ∧ Gh 35 = .int y_overAt ∧ Gh 36 = .int y_endPace ∧ u = [(h0, .inr (10, vL 67 Gh)), (h_s, .inl (cI, 335, .inl f_s)), (h_paceAt, .inl (cI, 40, .inl g_paceAt)), (h_kindOf, .inl (cI, 4, .inl g_kindOf)), (h_behindAt, .inl (cI, 12, .inl g_behindAt))]) (PO D A) A) [.ref h0, .int p0, .int p1, .int p2].toArray s 0 0 A) (F0 m 30 ls [])) ?_ (0, 0, f_paceAt, f_kindOf, f_behindAt, F1, x_lineTime, x_linePace, x_inside, x_late, x_seed, x_kicks, x_bendsGone, x_overAt, x_endPace) ⟨(show 0 ≤ (0 : Int32).toInt ∧ (0 : Int32).toInt ≤ 60 by decide), SAME.rf, n32, n33, n34, n35, n36, n37, n38, n39, n40, i_x_inside, i_x_late, i_x_kicks, i_x_bendsGone⟩ _ _ _ hP hD hS hl
      rintro ⟨u17, u18, w19, w20, w21, G22, u23, u24, u25, u26, u27, u28, u29, u30, u31⟩ ⟨i41, i42, i43, i44, i45, i46, i47, i48, i49, i50, i51, i52, i53, i54, i55⟩ ih H locs ls hP hD hS hl
      have i41 : 0 ≤ u17.toInt ∧ u17.toInt ≤ 60 := i41
      have i52 : 0 ≤ u25.toInt ∧ u25.toInt ≤ 15 := i52
      have i53 : 0 ≤ u26.toInt ∧ u26.toInt ≤ 15 := i53
      have i54 : 0 ≤ u28.toInt ∧ u28.toInt ≤ 1 := i54
      have i55 : 0 ≤ u29.toInt ∧ u29.toInt ≤ 12 := i55
      have hP : va_P D vwCl [(h_paceAt, .inl (cI, 40, .inl w19)), (h_kindOf, .inl (cI, 4, .inl w20)), (h_behindAt, .inl (cI, 12, .inl w21)), (h0, .inr (10, vL 67 G22)), (h_s, .inl (cI, 335, .inl f_s))] H := hP
      have hD : va_D A [(h_paceAt, .inl (cI, 40, .inl w19)), (h_kindOf, .inl (cI, 4, .inl w20)), (h_behindAt, .inl (cI, 12, .inl w21)), (h0, .inr (10, vL 67 G22)), (h_s, .inl (cI, 335, .inl f_s))] := hD
      have hl : lv_has ls 7 [(5, .int u17), (4, .int u18), (0, .ref h0), (1, .int p0), (2, .int p1), (3, .int p2)] := hl
      refine lv_iload hx hb dX10_odds_30 (lv_at hl 0 rfl) ?_
      refine lv_iload_n hx hb dX10_odds_32 rfl (lv_at hl 3 rfl) ?_
      refine lv_icmp_ge (tgt := 73) hx hb dX10_odds_33 (by decide) (fun c56 => ?_) (fun c56 => ?_)
      · have dc56 : p0.toInt ≤ u17.toInt := le_i (a := p0.toInt) (b := u17.toInt) rfl rfl c56
        have k57 : 1 ≤ u17.toInt ∧ u17.toInt ≤ 60 := ⟨Int.le_trans k16.1 dc56, i41.2⟩
        refine lv_iload hx hb dX10_odds_73 (lv_at hl 1 rfl) ?_
        exact ret_i (v := u18) hx hb hr hlocks hS (hP.sub (ws' := [(h0, .inr (10, vL 67 G22)), (h_s, .inl (cI, 335, .inl f_s)), (h_paceAt, .inl (cI, 40, .inl w19)), (h_kindOf, .inl (cI, 4, .inl w20)), (h_behindAt, .inl (cI, 12, .inl w21))]) [3, 4, 0, 1, 2] rfl) (hD.sub (ws' := [(h0, .inr (10, vL 67 G22)), (h_s, .inl (cI, 335, .inl f_s)), (h_paceAt, .inl (cI, 40, .inl w19)), (h_kindOf, .inl (cI, 4, .inl w20)), (h_behindAt, .inl (cI, 12, .inl w21))]) [3, 4, 0, 1, 2] (by decide) rfl) dX10_odds_75 rfl (Nat.le_of_ble_eq_true rfl) (Nat.le_of_ble_eq_true rfl) ⟨G22, u23, u24, u25, u26, u27, u28, u29, u30, u31, w19, w20, w21, (SAME.tr (SAME.up eF1 SAME.rf (by decide)) i42 (by decide)), (SAME.at i42 (by decide) (get_eq eF1)), i43, i44, i45, i52, i46, i53, i47, i48, i54, i49, i55, i50, i51, rfl⟩
      · have dc56 : u17.toInt < p0.toInt := nle_i (a := p0.toInt) (b := u17.toInt) rfl rfl c56
        have k58 : 0 ≤ u17.toInt ∧ u17.toInt ≤ 59 := ⟨i41.1, up_lt dc56 k16.2 (by decide)⟩
        refine lv_aload_n hx hb dX10_odds_36 rfl (lv_at hl 2 rfl) ?_
        refine lv_iload_n hx hb dX10_odds_37 rfl (lv_at hl 4 rfl) ?_
        refine lv_iload hx hb dX10_odds_38 (lv_at hl 0 rfl) ?_
        refine lv_iadd hx hb dX10_odds_40 ?_
        refine lv_topi (fun v59 ev59 => ?_)
        have n60 : G22 6 = .ref h_s := (SAME.at i42 (by decide) n2)
        have n61 : F1 25 = .ref h_paceAt := (get_ne eF1 (by decide) e_paceAt)
        have n62 : G22 25 = .ref h_paceAt := (SAME.at i42 (by decide) n61)
        have n63 : F1 26 = .ref h_kindOf := (get_ne eF1 (by decide) e_kindOf)
        have n64 : G22 26 = .ref h_kindOf := (SAME.at i42 (by decide) n63)
        have n65 : F1 33 = .ref h_behindAt := (get_ne eF1 (by decide) e_behindAt)
        have n66 : G22 33 = .ref h_behindAt := (SAME.at i42 (by decide) n65)
        have n67 : F1 37 = .int x_touchBend := (get_ne eF1 (by decide) e_touchBend)
        have n68 : G22 37 = .int x_touchBend := (SAME.at i42 (by decide) n67)
        have n69 : F1 38 = .int x_touchBy := (get_ne eF1 (by decide) e_touchBy)
        have n70 : G22 38 = .int x_touchBy := (SAME.at i42 (by decide) n69)
        refine call_Vi (wr := []) (As := [.int v59]) (rest := []) hx hb hml hown hw (m_X10_totalBy l D cI cJ cB cP cM cZ h0 h_s h_paceAt h_kindOf h_behindAt G22 x_touchBend x_touchBy f_s w19 w20 w21 v59 bs _ n60 n62 n64 n66 n68 n70 i_x_touchBy s_s_K0 s_s_US s_s_0 s_s_105 s_s_114 s_s_130 s_s_139 s_s_153 s_s_44 s_s_5 s_s_6 s_s_7) wV_X10_438_X10_totalBy dX10_odds_41 hK hP hD hS hA [3, 4, 0, 1, 2] [] rfl rfl (by decide) (by decide) (by decide) 0 10 rfl rfl GG.fb hG.at hl.1 rfl (Nat.le_of_ble_eq_true rfl) ⟨(Nat.le_of_ble_eq_true rfl), (Nat.le_of_ble_eq_true rfl)⟩ ⟨(Nat.le_of_ble_eq_true rfl), (Nat.le_of_ble_eq_true rfl)⟩ (fun r71 u H locs hp hP hD hS => ?_)
        refine hp.elim (fun F72 h9z0 => h9z0.elim (fun y73 h9z1 => h9z1.elim (fun y74 h9z2 => h9z2.elim (fun y75 h9z3 => h9z3.elim (fun y76 h9z4 => h9z4.elim (fun y77 h9z5 => h9z5.elim (fun y78 h9z6 => h9z6.elim (fun y79 h9z7 => h9z7.elim (fun y80 h9z8 => h9z8.elim (fun g81 h9z9 => h9z9.elim (fun g82 h9z10 => h9z10.elim (fun g83 h9z11 => h9z11.elim (fun t84 h9z12 => h9z12.elim (fun t85 h9z13 => h9z13.elim (fun t86 h9z14 => h9z14.elim (fun t87 h9z15 => h9z15.elim (fun t88 h9z16 => h9z16.elim (fun t89 h9z17 => h9z17.elim (fun t90 h9z18 => h9z18.elim (fun t91 h9z19 => h9z19.elim (fun t92 h9z20 => h9z20.elim (fun t93 h9z21 => h9z21.elim (fun t94 h9z22 => h9z22.elim (fun t95 h9z23 => h9z23.elim (fun t96 h9z24 => h9z24.elim (fun t97 h9z25 => h9z25.elim (fun t98 h9z26 => ?_)))))))))))))))))))))))))))
        clear h9z0 h9z1 h9z2 h9z3 h9z4 h9z5 h9z6 h9z7 h9z8 h9z9 h9z10 h9z11 h9z12 h9z13 h9z14 h9z15 h9z16 h9z17 h9z18 h9z19 h9z20 h9z21 h9z22 h9z23 h9z24 h9z25
        subst h9z26
        have hP : va_P D vwCl [(h0, .inr (10, vL 67 F72)), (h_s, .inl (cI, 335, .inl f_s)), (h_paceAt, .inl (cI, 40, .inl g81)), (h_kindOf, .inl (cI, 4, .inl g82)), (h_behindAt, .inl (cI, 12, .inl g83))] H := hP
        have hD : va_D A [(h0, .inr (10, vL 67 F72)), (h_s, .inl (cI, 335, .inl f_s)), (h_paceAt, .inl (cI, 40, .inl g81)), (h_kindOf, .inl (cI, 4, .inl g82)), (h_behindAt, .inl (cI, 12, .inl g83))] := hD
        refine W.widen (k := 0) (n := 0) (Nat.le_of_ble_eq_true rfl) (Nat.le_of_ble_eq_true rfl) ?_
        refine lv_istore (lv' := [(6, .int r71), (5, .int u17), (4, .int u18), (0, .ref h0), (1, .int p0), (2, .int p1), (3, .int p2)]) hx hb dX10_odds_44 hl (by decide) rfl (fun ls hl => ?_)
        refine lv_iload hx hb dX10_odds_46 (lv_at hl 2 rfl) ?_
        refine lv_iload hx hb dX10_odds_48 (lv_at hl 0 rfl) ?_
        refine lv_if_lt (tgt := 63) hx hb dX10_odds_50 (by decide) (fun c100 => ?_) (fun c100 => ?_)
        · have dc100 : r71.toInt < 0 := lt_i (a := r71.toInt) (b := 0) rfl rfl c100
          have k101 : (-2147483648) ≤ r71.toInt ∧ r71.toInt ≤ (-1) := ⟨(ir_any _).1, up_lt dc100 (Int.le_refl _) (by decide)⟩
          refine lv_iconst (v := 0) hx hb dX10_odds_63 (by decide) ?_
          refine lv_iadd hx hb dX10_odds_64 ?_
          refine lv_topi (fun v102 ev102 => ?_)
          have bv102 : v102.toInt = u18.toInt + 0 := by rw [ev102]; exact add_k rfl rfl (ir_any _) ⟨Int.le_refl _, Int.le_refl _⟩ (by decide)
          have k103 : (-2147483648) ≤ v102.toInt ∧ v102.toInt ≤ 2147483647 := add_r bv102 (ir_any _) ⟨Int.le_refl _, Int.le_refl _⟩ (by decide)
          refine lv_istore (lv' := [(4, .int v102), (6, .int r71), (5, .int u17), (0, .ref h0), (1, .int p0), (2, .int p1), (3, .int p2)]) hx hb dX10_odds_65 hl (by decide) rfl (fun ls hl => ?_)
          obtain ⟨v104, ev104⟩ : ∃ z : Int32, z = u17 + 1 := ⟨_, rfl⟩
          have bv104 : v104.toInt = u17.toInt + 1 := by rw [ev104]; exact add_k rfl rfl k58 ⟨Int.le_refl _, Int.le_refl _⟩ (by decide)
          have k105 : 1 ≤ v104.toInt ∧ v104.toInt ≤ 60 := add_r bv104 k58 ⟨Int.le_refl _, Int.le_refl _⟩ (by decide)
          refine lv_iinc (v := v104) (lv' := [(5, .int v104), (4, .int v102), (6, .int r71), (0, .ref h0), (1, .int p0), (2, .int p1), (3, .int p2)]) hx hb dX10_odds_67 hl (k := 2) rfl (by rw [ev104]; rfl) (by decide) rfl (fun ls hl => ?_)
          refine lv_goto (tgt := 30) hx hb dX10_odds_70 (by decide) ?_
          exact ih (v104, v102, g81, g82, g83, F72, y73, y74, y75, y76, y77, 0, y78, y79, y80) ⟨(ir_wk k105 (by decide) (by decide)), (SAME.tr (SAME.tr SAME.rf i42 (by decide)) t84 (by decide)), t85, t86, t88, t90, t92, t93, t94, t96, t98, t89, t91, (show 0 ≤ (0 : Int32).toInt ∧ (0 : Int32).toInt ≤ 1 by decide), t95⟩ (by show (60 - v104.toInt).toNat < (60 - u17.toInt).toNat; omega) _ _ _ (hP.sub [2, 3, 4, 0, 1] rfl) (hD.sub [2, 3, 4, 0, 1] (by decide) rfl) hS (lv_sub hl [0, 1, 3, 4, 5, 6] rfl)
        · have dc100 : 0 ≤ r71.toInt := nlt_i (a := r71.toInt) (b := 0) rfl rfl c100
          have k106 : 0 ≤ r71.toInt ∧ r71.toInt ≤ 2147483647 := ⟨Int.le_trans (Int.le_refl _) dc100, (ir_any _).2⟩
          refine lv_iload hx hb dX10_odds_53 (lv_at hl 0 rfl) ?_
          refine lv_iload_n hx hb dX10_odds_55 rfl (lv_at hl 6 rfl) ?_
          refine lv_icmp_ge (tgt := 63) hx hb dX10_odds_56 (by decide) (fun c107 => ?_) (fun c107 => ?_)
          · have dc107 : p2.toInt ≤ r71.toInt := le_i (a := p2.toInt) (b := r71.toInt) rfl rfl c107
            refine lv_iconst (v := 0) hx hb dX10_odds_63 (by decide) ?_
            refine lv_iadd hx hb dX10_odds_64 ?_
            refine lv_topi (fun v108 ev108 => ?_)
            have bv108 : v108.toInt = u18.toInt + 0 := by rw [ev108]; exact add_k rfl rfl (ir_any _) ⟨Int.le_refl _, Int.le_refl _⟩ (by decide)
            have k109 : (-2147483648) ≤ v108.toInt ∧ v108.toInt ≤ 2147483647 := add_r bv108 (ir_any _) ⟨Int.le_refl _, Int.le_refl _⟩ (by decide)
            refine lv_istore (lv' := [(4, .int v108), (6, .int r71), (5, .int u17), (0, .ref h0), (1, .int p0), (2, .int p1), (3, .int p2)]) hx hb dX10_odds_65 hl (by decide) rfl (fun ls hl => ?_)
            obtain ⟨v110, ev110⟩ : ∃ z : Int32, z = u17 + 1 := ⟨_, rfl⟩
            have bv110 : v110.toInt = u17.toInt + 1 := by rw [ev110]; exact add_k rfl rfl k58 ⟨Int.le_refl _, Int.le_refl _⟩ (by decide)
            have k111 : 1 ≤ v110.toInt ∧ v110.toInt ≤ 60 := add_r bv110 k58 ⟨Int.le_refl _, Int.le_refl _⟩ (by decide)
            refine lv_iinc (v := v110) (lv' := [(5, .int v110), (4, .int v108), (6, .int r71), (0, .ref h0), (1, .int p0), (2, .int p1), (3, .int p2)]) hx hb dX10_odds_67 hl (k := 2) rfl (by rw [ev110]; rfl) (by decide) rfl (fun ls hl => ?_)
            refine lv_goto (tgt := 30) hx hb dX10_odds_70 (by decide) ?_
            exact ih (v110, v108, g81, g82, g83, F72, y73, y74, y75, y76, y77, 0, y78, y79, y80) ⟨(ir_wk k111 (by decide) (by decide)), (SAME.tr (SAME.tr SAME.rf i42 (by decide)) t84 (by decide)), t85, t86, t88, t90, t92, t93, t94, t96, t98, t89, t91, (show 0 ≤ (0 : Int32).toInt ∧ (0 : Int32).toInt ≤ 1 by decide), t95⟩ (by show (60 - v110.toInt).toNat < (60 - u17.toInt).toNat; omega) _ _ _ (hP.sub [2, 3, 4, 0, 1] rfl) (hD.sub [2, 3, 4, 0, 1] (by decide) rfl) hS (lv_sub hl [0, 1, 3, 4, 5, 6] rfl)
          · have dc107 : r71.toInt < p2.toInt := nle_i (a := p2.toInt) (b := r71.toInt) rfl rfl c107
            have k112 : 0 ≤ r71.toInt ∧ r71.toInt ≤ 2147483646 := ⟨k106.1, up_lt dc107 (ir_any _).2 (by decide)⟩
            have k113 : 1 ≤ p2.toInt ∧ p2.toInt ≤ 2147483647 := ⟨lo_lt dc107 k106.1 (by decide), (ir_any _).2⟩
            refine lv_iconst (v := 1) hx hb dX10_odds_59 (by decide) ?_
            refine lv_goto (tgt := 64) hx hb dX10_odds_60 (by decide) ?_
            refine lv_iadd hx hb dX10_odds_64 ?_
            refine lv_topi (fun v114 ev114 => ?_)
            refine lv_istore (lv' := [(4, .int v114), (6, .int r71), (5, .int u17), (0, .ref h0), (1, .int p0), (2, .int p1), (3, .int p2)]) hx hb dX10_odds_65 hl (by decide) rfl (fun ls hl => ?_)
            obtain ⟨v115, ev115⟩ : ∃ z : Int32, z = u17 + 1 := ⟨_, rfl⟩
            have bv115 : v115.toInt = u17.toInt + 1 := by rw [ev115]; exact add_k rfl rfl k58 ⟨Int.le_refl _, Int.le_refl _⟩ (by decide)
            have k116 : 1 ≤ v115.toInt ∧ v115.toInt ≤ 60 := add_r bv115 k58 ⟨Int.le_refl _, Int.le_refl _⟩ (by decide)
            refine lv_iinc (v := v115) (lv' := [(5, .int v115), (4, .int v114), (6, .int r71), (0, .ref h0), (1, .int p0), (2, .int p1), (3, .int p2)]) hx hb dX10_odds_67 hl (k := 2) rfl (by rw [ev115]; rfl) (by decide) rfl (fun ls hl => ?_)
            refine lv_goto (tgt := 30) hx hb dX10_odds_70 (by decide) ?_
            exact ih (v115, v114, g81, g82, g83, F72, y73, y74, y75, y76, y77, 0, y78, y79, y80) ⟨(ir_wk k116 (by decide) (by decide)), (SAME.tr (SAME.tr SAME.rf i42 (by decide)) t84 (by decide)), t85, t86, t88, t90, t92, t93, t94, t96, t98, t89, t91, (show 0 ≤ (0 : Int32).toInt ∧ (0 : Int32).toInt ≤ 1 by decide), t95⟩ (by show (60 - v115.toInt).toNat < (60 - u17.toInt).toNat; omega) _ _ _ (hP.sub [2, 3, 4, 0, 1] rfl) (hD.sub [2, 3, 4, 0, 1] (by decide) rfl) hS (lv_sub hl [0, 1, 3, 4, 5, 6] rfl)
