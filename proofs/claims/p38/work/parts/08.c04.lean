set_option maxHeartbeats 4000000 in
set_option maxRecDepth 100000 in
theorem m_X7_timeKicked (l : Launch) (D : va_G) (cI cJ cB cP cM cZ : ClassId) (h0 : Nat) (h_paces : Nat) (h_manner : Nat) (h_paceBehind : Nat) (p0 : Nat) (h_p0_settings : Nat) (h_p0_push : Nat) (h_p0_feet : Nat) (h_p0_weight : Nat) (h_p0_length : Nat) (h_p0_drop : Nat) (h_p0_ideal : Nat) (h_p0_over : Nat) (h_p0_bestAt : Nat) (h_p0_bad : Nat) (p1 : Nat) (h_p1_crew : Nat) (h_p1_yard : Nat) (h_p1_high : Nat) (Fh : Nat → Value) (x_touchedBend : Int32) (x_touchedBy : Int32) (f_paces : Nat → Int32) (f_manner : Nat → Int32) (f_paceBehind : Nat → Int32) (F_p0_ : Nat → Value) (x_p0_bends : Int32) (x_p0_runners : Int32) (f_p0_settings : Nat → Int32) (f_p0_push : Nat → Int32) (f_p0_feet : Nat → Int32) (f_p0_weight : Nat → Int32) (f_p0_length : Nat → Int32) (f_p0_drop : Nat → Int32) (f_p0_ideal : Nat → Int32) (f_p0_over : Nat → Int32) (f_p0_bestAt : Nat → Int32) (f_p0_bad : Nat → Int32) (F_p1_ : Nat → Value) (x_p1_lead : Int32) (x_p1_runner : Int32) (x_p1_number : Int32) (f_p1_crew : Nat → Int32) (f_p1_yard : Nat → Int32) (f_p1_high : Nat → Int32) (p2 : Int32) (sz : Nat) (e_paces : Fh 0 = .ref h_paces) (e_manner : Fh 1 = .ref h_manner) (e_paceBehind : Fh 2 = .ref h_paceBehind) (e_touchedBend : Fh 16 = .int x_touchedBend) (e_touchedBy : Fh 17 = .int x_touchedBy) (e_p0_settings : F_p0_ 1 = .ref h_p0_settings) (e_p0_push : F_p0_ 3 = .ref h_p0_push) (e_p0_feet : F_p0_ 4 = .ref h_p0_feet) (e_p0_weight : F_p0_ 5 = .ref h_p0_weight) (e_p0_length : F_p0_ 6 = .ref h_p0_length) (e_p0_drop : F_p0_ 7 = .ref h_p0_drop) (e_p0_ideal : F_p0_ 8 = .ref h_p0_ideal) (e_p0_over : F_p0_ 9 = .ref h_p0_over) (e_p0_bestAt : F_p0_ 11 = .ref h_p0_bestAt) (e_p0_bad : F_p0_ 12 = .ref h_p0_bad) (e_p0_bends : F_p0_ 14 = .int x_p0_bends) (i_x_p0_bends : IR 0 12 x_p0_bends) (e_p0_runners : F_p0_ 15 = .int x_p0_runners) (i_x_p0_runners : IR 0 6 x_p0_runners) (e_p1_crew : F_p1_ 0 = .ref h_p1_crew) (e_p1_yard : F_p1_ 1 = .ref h_p1_yard) (e_p1_high : F_p1_ 2 = .ref h_p1_high) (e_p1_lead : F_p1_ 4 = .int x_p1_lead) (e_p1_runner : F_p1_ 5 = .int x_p1_runner) (e_p1_number : F_p1_ 6 = .int x_p1_number) (s_p1_crew_0 : SG 0 3 0 11 f_p1_crew) : CI l yX7_timeKicked cX7_timeKicked 5 (some .int) { frames := 5, cells := 0, slots := 0, locals := 138 } (GG D cI cJ cB cP cM cZ) D [(h0, .inr (7, vL 18 Fh)), (h_paces, .inl (cI, 40, .inl f_paces)), (h_manner, .inl (cI, 4, .inl f_manner)), (h_paceBehind, .inl (cI, 12, .inl f_paceBehind)), (p0, .inr (1, vL 18 F_p0_)), (h_p0_settings, .inl (cI, 5, .inl f_p0_settings)), (h_p0_push, .inl (cI, 12, .inl f_p0_push)), (h_p0_feet, .inl (cI, 12, .inl f_p0_feet)), (h_p0_weight, .inl (cI, 12, .inl f_p0_weight)), (h_p0_length, .inl (cI, 12, .inl f_p0_length)), (h_p0_drop, .inl (cI, 12, .inl f_p0_drop)), (h_p0_ideal, .inl (cI, 12, .inl f_p0_ideal)), (h_p0_over, .inl (cI, 12, .inl f_p0_over)), (h_p0_bestAt, .inl (cI, 6, .inl f_p0_bestAt)), (h_p0_bad, .inl (cI, 6, .inl f_p0_bad)), (p1, .inr (5, vL 11 F_p1_)), (h_p1_crew, .inl (cI, 4, .inl f_p1_crew)), (h_p1_yard, .inl (cI, 4, .inl f_p1_yard)), (h_p1_high, .inl (cI, 12, .inl f_p1_high))] sz [.ref h0, .ref p0, .ref p1, .int p2] (fun (r : Int32) (u : va_W) => ∃ (Gh : Nat → Value) (y_startTime : Int32) (y_startPace : Int32) (y_in : Int32) (y_late : Int32) (y_weight : Int32) (y_total : Int32) (y_lastPace : Int32) (y_gone : Int32) (y_overAt : Int32) (y_weightIn : Int32) (y_latestYardIn : Int32) (y_seed : Int32) (g_paces : Nat → Int32) (g_manner : Nat → Int32) (g_paceBehind : Nat → Int32), SAME [3, 4, 5, 6, 7, 8, 9, 10, 11, 12, 13, 14, 15] Fh Gh ∧ Gh 3 = .int y_startTime ∧ Gh 4 = .int y_startPace ∧ IR 10 250 y_startPace ∧ Gh 5 = .int y_in ∧ Gh 6 = .int y_late ∧ Gh 7 = .int y_weight ∧ Gh 8 = .int y_total ∧ Gh 9 = .int y_lastPace ∧ Gh 10 = .int y_gone ∧ Gh 11 = .int y_overAt ∧ IR (-1) 11 y_overAt ∧ Gh 12 = .int y_weightIn ∧ Gh 13 = .int y_latestYardIn ∧ Gh 14 = .int 0 ∧ Gh 15 = .int y_seed ∧ u = [(h0, .inr (7, vL 18 Gh)), (h_paces, .inl (cI, 40, .inl g_paces)), (h_manner, .inl (cI, 4, .inl g_manner)), (h_paceBehind, .inl (cI, 12, .inl g_paceBehind)), (p0, .inr (1, vL 18 F_p0_)), (h_p0_settings, .inl (cI, 5, .inl f_p0_settings)), (h_p0_push, .inl (cI, 12, .inl f_p0_push)), (h_p0_feet, .inl (cI, 12, .inl f_p0_feet)), (h_p0_weight, .inl (cI, 12, .inl f_p0_weight)), (h_p0_length, .inl (cI, 12, .inl f_p0_length)), (h_p0_drop, .inl (cI, 12, .inl f_p0_drop)), (h_p0_ideal, .inl (cI, 12, .inl f_p0_ideal)), (h_p0_over, .inl (cI, 12, .inl f_p0_over)), (h_p0_bestAt, .inl (cI, 6, .inl f_p0_bestAt)), (h_p0_bad, .inl (cI, 6, .inl f_p0_bad)), (p1, .inr (5, vL 11 F_p1_)), (h_p1_crew, .inl (cI, 4, .inl f_p1_crew)), (h_p1_yard, .inl (cI, 4, .inl f_p1_yard)), (h_p1_high, .inl (cI, 12, .inl f_p1_high))]) := by
  refine CI_mk (by decide) (Nat.le_of_ble_eq_true rfl) ?_
  intro p e s m below meth c A ls E hAe hG hsz hP hD hA hS hl
  obtain ⟨hx, hb, hr, hw, hown, hlocks, hml, hnm⟩ := E
  have hK := hG.1
  have i_x_p0_bends : 0 ≤ x_p0_bends.toInt ∧ x_p0_bends.toInt ≤ 12 := i_x_p0_bends
  have i_x_p0_runners : 0 ≤ x_p0_runners.toInt ∧ x_p0_runners.toInt ≤ 6 := i_x_p0_runners
  have hl : lv_has ls 5 [(0, .ref h0), (1, .ref p0), (2, .ref p1), (3, .int p2)] := hl
  refine lv_aload_n hx hb dX7_timeKicked_0 rfl (lv_at hl 0 rfl) ?_
  refine lv_iconst (v := 1) hx hb dX7_timeKicked_1 (by decide) ?_
  refine put_f (D := D) (ci := 7) (v := .int 1) (ty := .boolean) (C := RX7) (T := TX7) (N := 18) hx hb hw inAX7 tyX7 tyX7_ok nmX7 hown hK hP hD hS 0 rfl rfl 14 (by decide) (hw _ q_231) (fun _ h9 => h9) rfl (by decide +kernel) rfl rfl dX7_timeKicked_2 (fun H locs F1 eF1 hP hD hS => ?_)
  have hP : va_P D vwCl [(h0, .inr (7, vL 18 F1)), (h_paces, .inl (cI, 40, .inl f_paces)), (h_manner, .inl (cI, 4, .inl f_manner)), (h_paceBehind, .inl (cI, 12, .inl f_paceBehind)), (p0, .inr (1, vL 18 F_p0_)), (h_p0_settings, .inl (cI, 5, .inl f_p0_settings)), (h_p0_push, .inl (cI, 12, .inl f_p0_push)), (h_p0_feet, .inl (cI, 12, .inl f_p0_feet)), (h_p0_weight, .inl (cI, 12, .inl f_p0_weight)), (h_p0_length, .inl (cI, 12, .inl f_p0_length)), (h_p0_drop, .inl (cI, 12, .inl f_p0_drop)), (h_p0_ideal, .inl (cI, 12, .inl f_p0_ideal)), (h_p0_over, .inl (cI, 12, .inl f_p0_over)), (h_p0_bestAt, .inl (cI, 6, .inl f_p0_bestAt)), (h_p0_bad, .inl (cI, 6, .inl f_p0_bad)), (p1, .inr (5, vL 11 F_p1_)), (h_p1_crew, .inl (cI, 4, .inl f_p1_crew)), (h_p1_yard, .inl (cI, 4, .inl f_p1_yard)), (h_p1_high, .inl (cI, 12, .inl f_p1_high))] H := hP
  have hD : va_D A [(h0, .inr (7, vL 18 F1)), (h_paces, .inl (cI, 40, .inl f_paces)), (h_manner, .inl (cI, 4, .inl f_manner)), (h_paceBehind, .inl (cI, 12, .inl f_paceBehind)), (p0, .inr (1, vL 18 F_p0_)), (h_p0_settings, .inl (cI, 5, .inl f_p0_settings)), (h_p0_push, .inl (cI, 12, .inl f_p0_push)), (h_p0_feet, .inl (cI, 12, .inl f_p0_feet)), (h_p0_weight, .inl (cI, 12, .inl f_p0_weight)), (h_p0_length, .inl (cI, 12, .inl f_p0_length)), (h_p0_drop, .inl (cI, 12, .inl f_p0_drop)), (h_p0_ideal, .inl (cI, 12, .inl f_p0_ideal)), (h_p0_over, .inl (cI, 12, .inl f_p0_over)), (h_p0_bestAt, .inl (cI, 6, .inl f_p0_bestAt)), (h_p0_bad, .inl (cI, 6, .inl f_p0_bad)), (p1, .inr (5, vL 11 F_p1_)), (h_p1_crew, .inl (cI, 4, .inl f_p1_crew)), (h_p1_yard, .inl (cI, 4, .inl f_p1_yard)), (h_p1_high, .inl (cI, 12, .inl f_p1_high))] := hD
  refine lv_aload_n hx hb dX7_timeKicked_5 rfl (lv_at hl 0 rfl) ?_
  refine lv_iload_n hx hb dX7_timeKicked_6 rfl (lv_at hl 3 rfl) ?_
  refine put_f (D := D) (ci := 7) (v := .int p2) (ty := .int) (C := RX7) (T := TX7) (N := 18) hx hb hw inAX7 tyX7 tyX7_ok nmX7 hown hK hP hD hS 0 rfl rfl 15 (by decide) (hw _ q_232) (fun _ h9 => h9) rfl (by decide +kernel) rfl rfl dX7_timeKicked_7 (fun H locs F2 eF2 hP hD hS => ?_)
  have hP : va_P D vwCl [(h0, .inr (7, vL 18 F2)), (h_paces, .inl (cI, 40, .inl f_paces)), (h_manner, .inl (cI, 4, .inl f_manner)), (h_paceBehind, .inl (cI, 12, .inl f_paceBehind)), (p0, .inr (1, vL 18 F_p0_)), (h_p0_settings, .inl (cI, 5, .inl f_p0_settings)), (h_p0_push, .inl (cI, 12, .inl f_p0_push)), (h_p0_feet, .inl (cI, 12, .inl f_p0_feet)), (h_p0_weight, .inl (cI, 12, .inl f_p0_weight)), (h_p0_length, .inl (cI, 12, .inl f_p0_length)), (h_p0_drop, .inl (cI, 12, .inl f_p0_drop)), (h_p0_ideal, .inl (cI, 12, .inl f_p0_ideal)), (h_p0_over, .inl (cI, 12, .inl f_p0_over)), (h_p0_bestAt, .inl (cI, 6, .inl f_p0_bestAt)), (h_p0_bad, .inl (cI, 6, .inl f_p0_bad)), (p1, .inr (5, vL 11 F_p1_)), (h_p1_crew, .inl (cI, 4, .inl f_p1_crew)), (h_p1_yard, .inl (cI, 4, .inl f_p1_yard)), (h_p1_high, .inl (cI, 12, .inl f_p1_high))] H := hP
  have hD : va_D A [(h0, .inr (7, vL 18 F2)), (h_paces, .inl (cI, 40, .inl f_paces)), (h_manner, .inl (cI, 4, .inl f_manner)), (h_paceBehind, .inl (cI, 12, .inl f_paceBehind)), (p0, .inr (1, vL 18 F_p0_)), (h_p0_settings, .inl (cI, 5, .inl f_p0_settings)), (h_p0_push, .inl (cI, 12, .inl f_p0_push)), (h_p0_feet, .inl (cI, 12, .inl f_p0_feet)), (h_p0_weight, .inl (cI, 12, .inl f_p0_weight)), (h_p0_length, .inl (cI, 12, .inl f_p0_length)), (h_p0_drop, .inl (cI, 12, .inl f_p0_drop)), (h_p0_ideal, .inl (cI, 12, .inl f_p0_ideal)), (h_p0_over, .inl (cI, 12, .inl f_p0_over)), (h_p0_bestAt, .inl (cI, 6, .inl f_p0_bestAt)), (h_p0_bad, .inl (cI, 6, .inl f_p0_bad)), (p1, .inr (5, vL 11 F_p1_)), (h_p1_crew, .inl (cI, 4, .inl f_p1_crew)), (h_p1_yard, .inl (cI, 4, .inl f_p1_yard)), (h_p1_high, .inl (cI, 12, .inl f_p1_high))] := hD
  refine lv_aload_n hx hb dX7_timeKicked_10 rfl (lv_at hl 0 rfl) ?_
  refine lv_aload_n hx hb dX7_timeKicked_11 rfl (lv_at hl 1 rfl) ?_
  refine lv_aload_n hx hb dX7_timeKicked_12 rfl (lv_at hl 2 rfl) ?_
  have n3 : F1 0 = .ref h_paces := (get_ne eF1 (by decide) e_paces)
  have n4 : F2 0 = .ref h_paces := (get_ne eF2 (by decide) n3)
  have n5 : F1 1 = .ref h_manner := (get_ne eF1 (by decide) e_manner)
  have n6 : F2 1 = .ref h_manner := (get_ne eF2 (by decide) n5)
  have n7 : F1 2 = .ref h_paceBehind := (get_ne eF1 (by decide) e_paceBehind)
  have n8 : F2 2 = .ref h_paceBehind := (get_ne eF2 (by decide) n7)
  have n9 : F2 14 = .int 1 := (get_ne eF2 (by decide) (get_eq eF1))
  have n10 : F1 16 = .int x_touchedBend := (get_ne eF1 (by decide) e_touchedBend)
  have n11 : F2 16 = .int x_touchedBend := (get_ne eF2 (by decide) n10)
  have n12 : F1 17 = .int x_touchedBy := (get_ne eF1 (by decide) e_touchedBy)
  have n13 : F2 17 = .int x_touchedBy := (get_ne eF2 (by decide) n12)
  refine call_Vi (wr := []) (As := [.ref p0, .ref p1]) (rest := []) hx hb hml hown hw (m_X7_timeInAll l D cI cJ cB cP cM cZ h0 h_paces h_manner h_paceBehind p0 h_p0_settings h_p0_push h_p0_feet h_p0_weight h_p0_length h_p0_drop h_p0_ideal h_p0_over h_p0_bestAt h_p0_bad p1 h_p1_crew h_p1_yard h_p1_high F2 1 p2 x_touchedBend x_touchedBy f_paces f_manner f_paceBehind F_p0_ x_p0_bends x_p0_runners f_p0_settings f_p0_push f_p0_feet f_p0_weight f_p0_length f_p0_drop f_p0_ideal f_p0_over f_p0_bestAt f_p0_bad F_p1_ x_p1_lead x_p1_runner x_p1_number f_p1_crew f_p1_yard f_p1_high _ n4 n6 n8 n9 ⟨by decide, by decide⟩ (get_eq eF2) n11 n13 e_p0_settings e_p0_push e_p0_feet e_p0_weight e_p0_length e_p0_drop e_p0_ideal e_p0_over e_p0_bestAt e_p0_bad e_p0_bends i_x_p0_bends e_p0_runners i_x_p0_runners e_p1_crew e_p1_yard e_p1_high e_p1_lead e_p1_runner e_p1_number s_p1_crew_0) wV_X7_85_X7_timeInAll dX7_timeKicked_13 hK hP hD hS hA [0, 1, 2, 3, 4, 5, 6, 7, 8, 9, 10, 11, 12, 13, 14, 15, 16, 17, 18] [] rfl rfl (by decide) (by decide) (by decide) 0 7 rfl rfl GG.fb hG.at hl.1 rfl (Nat.le_of_ble_eq_true rfl) ⟨(Nat.le_of_ble_eq_true rfl), (Nat.le_of_ble_eq_true rfl)⟩ ⟨(Nat.le_of_ble_eq_true rfl), (Nat.le_of_ble_eq_true rfl)⟩ (fun r14 u H locs hp hP hD hS => ?_)
  obtain ⟨F15, y16, y17, y18, y19, y20, y21, y22, y23, y24, y25, y26, y27, g28, g29, g30, t31, t32, t33, t34, t35, t36, t37, t38, t39, t40, t41, t42, t43, t44, t45, rfl⟩ := hp
  have hP : va_P D vwCl [(h0, .inr (7, vL 18 F15)), (h_paces, .inl (cI, 40, .inl g28)), (h_manner, .inl (cI, 4, .inl g29)), (h_paceBehind, .inl (cI, 12, .inl g30)), (p0, .inr (1, vL 18 F_p0_)), (h_p0_settings, .inl (cI, 5, .inl f_p0_settings)), (h_p0_push, .inl (cI, 12, .inl f_p0_push)), (h_p0_feet, .inl (cI, 12, .inl f_p0_feet)), (h_p0_weight, .inl (cI, 12, .inl f_p0_weight)), (h_p0_length, .inl (cI, 12, .inl f_p0_length)), (h_p0_drop, .inl (cI, 12, .inl f_p0_drop)), (h_p0_ideal, .inl (cI, 12, .inl f_p0_ideal)), (h_p0_over, .inl (cI, 12, .inl f_p0_over)), (h_p0_bestAt, .inl (cI, 6, .inl f_p0_bestAt)), (h_p0_bad, .inl (cI, 6, .inl f_p0_bad)), (p1, .inr (5, vL 11 F_p1_)), (h_p1_crew, .inl (cI, 4, .inl f_p1_crew)), (h_p1_yard, .inl (cI, 4, .inl f_p1_yard)), (h_p1_high, .inl (cI, 12, .inl f_p1_high))] H := hP
  have hD : va_D A [(h0, .inr (7, vL 18 F15)), (h_paces, .inl (cI, 40, .inl g28)), (h_manner, .inl (cI, 4, .inl g29)), (h_paceBehind, .inl (cI, 12, .inl g30)), (p0, .inr (1, vL 18 F_p0_)), (h_p0_settings, .inl (cI, 5, .inl f_p0_settings)), (h_p0_push, .inl (cI, 12, .inl f_p0_push)), (h_p0_feet, .inl (cI, 12, .inl f_p0_feet)), (h_p0_weight, .inl (cI, 12, .inl f_p0_weight)), (h_p0_length, .inl (cI, 12, .inl f_p0_length)), (h_p0_drop, .inl (cI, 12, .inl f_p0_drop)), (h_p0_ideal, .inl (cI, 12, .inl f_p0_ideal)), (h_p0_over, .inl (cI, 12, .inl f_p0_over)), (h_p0_bestAt, .inl (cI, 6, .inl f_p0_bestAt)), (h_p0_bad, .inl (cI, 6, .inl f_p0_bad)), (p1, .inr (5, vL 11 F_p1_)), (h_p1_crew, .inl (cI, 4, .inl f_p1_crew)), (h_p1_yard, .inl (cI, 4, .inl f_p1_yard)), (h_p1_high, .inl (cI, 12, .inl f_p1_high))] := hD
  refine W.widen (k := 0) (n := 0) (Nat.le_of_ble_eq_true rfl) (Nat.le_of_ble_eq_true rfl) ?_
  refine lv_istore (lv' := [(4, .int r14), (0, .ref h0), (1, .ref p0), (2, .ref p1), (3, .int p2)]) hx hb dX7_timeKicked_16 hl (by decide) rfl (fun ls hl => ?_)
  refine lv_aload_n hx hb dX7_timeKicked_18 rfl (lv_at hl 1 rfl) ?_
  refine lv_iconst (v := 0) hx hb dX7_timeKicked_19 (by decide) ?_
  refine put_f (D := D) (ci := 7) (v := .int 0) (ty := .boolean) (C := RX7) (T := TX7) (N := 18) hx hb hw inAX7 tyX7 tyX7_ok nmX7 hown hK hP hD hS 0 rfl rfl 14 (by decide) (hw _ q_231) (fun _ h9 => h9) rfl (by decide +kernel) rfl rfl dX7_timeKicked_20 (fun H locs F46 eF46 hP hD hS => ?_)
  have hP : va_P D vwCl [(h0, .inr (7, vL 18 F46)), (h_paces, .inl (cI, 40, .inl g28)), (h_manner, .inl (cI, 4, .inl g29)), (h_paceBehind, .inl (cI, 12, .inl g30)), (p0, .inr (1, vL 18 F_p0_)), (h_p0_settings, .inl (cI, 5, .inl f_p0_settings)), (h_p0_push, .inl (cI, 12, .inl f_p0_push)), (h_p0_feet, .inl (cI, 12, .inl f_p0_feet)), (h_p0_weight, .inl (cI, 12, .inl f_p0_weight)), (h_p0_length, .inl (cI, 12, .inl f_p0_length)), (h_p0_drop, .inl (cI, 12, .inl f_p0_drop)), (h_p0_ideal, .inl (cI, 12, .inl f_p0_ideal)), (h_p0_over, .inl (cI, 12, .inl f_p0_over)), (h_p0_bestAt, .inl (cI, 6, .inl f_p0_bestAt)), (h_p0_bad, .inl (cI, 6, .inl f_p0_bad)), (p1, .inr (5, vL 11 F_p1_)), (h_p1_crew, .inl (cI, 4, .inl f_p1_crew)), (h_p1_yard, .inl (cI, 4, .inl f_p1_yard)), (h_p1_high, .inl (cI, 12, .inl f_p1_high))] H := hP
  have hD : va_D A [(h0, .inr (7, vL 18 F46)), (h_paces, .inl (cI, 40, .inl g28)), (h_manner, .inl (cI, 4, .inl g29)), (h_paceBehind, .inl (cI, 12, .inl g30)), (p0, .inr (1, vL 18 F_p0_)), (h_p0_settings, .inl (cI, 5, .inl f_p0_settings)), (h_p0_push, .inl (cI, 12, .inl f_p0_push)), (h_p0_feet, .inl (cI, 12, .inl f_p0_feet)), (h_p0_weight, .inl (cI, 12, .inl f_p0_weight)), (h_p0_length, .inl (cI, 12, .inl f_p0_length)), (h_p0_drop, .inl (cI, 12, .inl f_p0_drop)), (h_p0_ideal, .inl (cI, 12, .inl f_p0_ideal)), (h_p0_over, .inl (cI, 12, .inl f_p0_over)), (h_p0_bestAt, .inl (cI, 6, .inl f_p0_bestAt)), (h_p0_bad, .inl (cI, 6, .inl f_p0_bad)), (p1, .inr (5, vL 11 F_p1_)), (h_p1_crew, .inl (cI, 4, .inl f_p1_crew)), (h_p1_yard, .inl (cI, 4, .inl f_p1_yard)), (h_p1_high, .inl (cI, 12, .inl f_p1_high))] := hD
  refine lv_iload hx hb dX7_timeKicked_23 (lv_at hl 0 rfl) ?_
  exact ret_i (v := r14) hx hb hr hlocks hS hP hD dX7_timeKicked_25 rfl (Nat.le_of_ble_eq_true rfl) (Nat.le_of_ble_eq_true rfl) ⟨F46, y16, y17, y18, y19, y20, y21, y22, y23, y24, y25, y26, y27, g28, g29, g30, (SAME.up eF46 (SAME.tr (SAME.up eF2 (SAME.up eF1 SAME.rf (by decide)) (by decide)) t31 (by decide)) (by decide)), (get_ne eF46 (by decide) t32), (get_ne eF46 (by decide) t33), t34, (get_ne eF46 (by decide) t35), (get_ne eF46 (by decide) t36), (get_ne eF46 (by decide) t37), (get_ne eF46 (by decide) t38), (get_ne eF46 (by decide) t39), (get_ne eF46 (by decide) t40), (get_ne eF46 (by decide) t41), t42, (get_ne eF46 (by decide) t43), (get_ne eF46 (by decide) t44), (get_eq eF46), (get_ne eF46 (by decide) t45), rfl⟩
set_option maxHeartbeats 4000000 in
set_option maxRecDepth 100000 in
theorem m_X7_timeTouched (l : Launch) (D : va_G) (cI cJ cB cP cM cZ : ClassId) (h0 : Nat) (h_paces : Nat) (h_manner : Nat) (h_paceBehind : Nat) (p0 : Nat) (h_p0_settings : Nat) (h_p0_push : Nat) (h_p0_feet : Nat) (h_p0_weight : Nat) (h_p0_length : Nat) (h_p0_drop : Nat) (h_p0_ideal : Nat) (h_p0_over : Nat) (h_p0_bestAt : Nat) (h_p0_bad : Nat) (p1 : Nat) (h_p1_crew : Nat) (h_p1_yard : Nat) (h_p1_high : Nat) (Fh : Nat → Value) (x_kicks : Int32) (x_seed : Int32) (f_paces : Nat → Int32) (f_manner : Nat → Int32) (f_paceBehind : Nat → Int32) (F_p0_ : Nat → Value) (x_p0_bends : Int32) (x_p0_runners : Int32) (f_p0_settings : Nat → Int32) (f_p0_push : Nat → Int32) (f_p0_feet : Nat → Int32) (f_p0_weight : Nat → Int32) (f_p0_length : Nat → Int32) (f_p0_drop : Nat → Int32) (f_p0_ideal : Nat → Int32) (f_p0_over : Nat → Int32) (f_p0_bestAt : Nat → Int32) (f_p0_bad : Nat → Int32) (F_p1_ : Nat → Value) (x_p1_lead : Int32) (x_p1_runner : Int32) (x_p1_number : Int32) (f_p1_crew : Nat → Int32) (f_p1_yard : Nat → Int32) (f_p1_high : Nat → Int32) (p2 : Int32) (p3 : Int32) (sz : Nat) (e_paces : Fh 0 = .ref h_paces) (e_manner : Fh 1 = .ref h_manner) (e_paceBehind : Fh 2 = .ref h_paceBehind) (e_kicks : Fh 14 = .int x_kicks) (i_x_kicks : IR 0 1 x_kicks) (e_seed : Fh 15 = .int x_seed) (e_p0_settings : F_p0_ 1 = .ref h_p0_settings) (e_p0_push : F_p0_ 3 = .ref h_p0_push) (e_p0_feet : F_p0_ 4 = .ref h_p0_feet) (e_p0_weight : F_p0_ 5 = .ref h_p0_weight) (e_p0_length : F_p0_ 6 = .ref h_p0_length) (e_p0_drop : F_p0_ 7 = .ref h_p0_drop) (e_p0_ideal : F_p0_ 8 = .ref h_p0_ideal) (e_p0_over : F_p0_ 9 = .ref h_p0_over) (e_p0_bestAt : F_p0_ 11 = .ref h_p0_bestAt) (e_p0_bad : F_p0_ 12 = .ref h_p0_bad) (e_p0_bends : F_p0_ 14 = .int x_p0_bends) (i_x_p0_bends : IR 0 12 x_p0_bends) (e_p0_runners : F_p0_ 15 = .int x_p0_runners) (i_x_p0_runners : IR 0 6 x_p0_runners) (e_p1_crew : F_p1_ 0 = .ref h_p1_crew) (e_p1_yard : F_p1_ 1 = .ref h_p1_yard) (e_p1_high : F_p1_ 2 = .ref h_p1_high) (e_p1_lead : F_p1_ 4 = .int x_p1_lead) (e_p1_runner : F_p1_ 5 = .int x_p1_runner) (e_p1_number : F_p1_ 6 = .int x_p1_number) (s_p1_crew_0 : SG 0 3 0 11 f_p1_crew) : CI l yX7_timeTouched cX7_timeTouched 6 (some .int) { frames := 5, cells := 0, slots := 0, locals := 138 } (GG D cI cJ cB cP cM cZ) D [(h0, .inr (7, vL 18 Fh)), (h_paces, .inl (cI, 40, .inl f_paces)), (h_manner, .inl (cI, 4, .inl f_manner)), (h_paceBehind, .inl (cI, 12, .inl f_paceBehind)), (p0, .inr (1, vL 18 F_p0_)), (h_p0_settings, .inl (cI, 5, .inl f_p0_settings)), (h_p0_push, .inl (cI, 12, .inl f_p0_push)), (h_p0_feet, .inl (cI, 12, .inl f_p0_feet)), (h_p0_weight, .inl (cI, 12, .inl f_p0_weight)), (h_p0_length, .inl (cI, 12, .inl f_p0_length)), (h_p0_drop, .inl (cI, 12, .inl f_p0_drop)), (h_p0_ideal, .inl (cI, 12, .inl f_p0_ideal)), (h_p0_over, .inl (cI, 12, .inl f_p0_over)), (h_p0_bestAt, .inl (cI, 6, .inl f_p0_bestAt)), (h_p0_bad, .inl (cI, 6, .inl f_p0_bad)), (p1, .inr (5, vL 11 F_p1_)), (h_p1_crew, .inl (cI, 4, .inl f_p1_crew)), (h_p1_yard, .inl (cI, 4, .inl f_p1_yard)), (h_p1_high, .inl (cI, 12, .inl f_p1_high))] sz [.ref h0, .ref p0, .ref p1, .int p2, .int p3] (fun (r : Int32) (u : va_W) => ∃ (Gh : Nat → Value) (y_startTime : Int32) (y_startPace : Int32) (y_in : Int32) (y_late : Int32) (y_weight : Int32) (y_total : Int32) (y_lastPace : Int32) (y_gone : Int32) (y_overAt : Int32) (y_weightIn : Int32) (y_latestYardIn : Int32) (y_seed : Int32) (g_paces : Nat → Int32) (g_manner : Nat → Int32) (g_paceBehind : Nat → Int32), SAME [3, 4, 5, 6, 7, 8, 9, 10, 11, 12, 13, 15, 16, 17] Fh Gh ∧ Gh 3 = .int y_startTime ∧ Gh 4 = .int y_startPace ∧ IR 10 250 y_startPace ∧ Gh 5 = .int y_in ∧ Gh 6 = .int y_late ∧ Gh 7 = .int y_weight ∧ Gh 8 = .int y_total ∧ Gh 9 = .int y_lastPace ∧ Gh 10 = .int y_gone ∧ Gh 11 = .int y_overAt ∧ IR (-1) 11 y_overAt ∧ Gh 12 = .int y_weightIn ∧ Gh 13 = .int y_latestYardIn ∧ Gh 15 = .int y_seed ∧ Gh 16 = .int (-1) ∧ Gh 17 = .int p3 ∧ u = [(h0, .inr (7, vL 18 Gh)), (h_paces, .inl (cI, 40, .inl g_paces)), (h_manner, .inl (cI, 4, .inl g_manner)), (h_paceBehind, .inl (cI, 12, .inl g_paceBehind)), (p0, .inr (1, vL 18 F_p0_)), (h_p0_settings, .inl (cI, 5, .inl f_p0_settings)), (h_p0_push, .inl (cI, 12, .inl f_p0_push)), (h_p0_feet, .inl (cI, 12, .inl f_p0_feet)), (h_p0_weight, .inl (cI, 12, .inl f_p0_weight)), (h_p0_length, .inl (cI, 12, .inl f_p0_length)), (h_p0_drop, .inl (cI, 12, .inl f_p0_drop)), (h_p0_ideal, .inl (cI, 12, .inl f_p0_ideal)), (h_p0_over, .inl (cI, 12, .inl f_p0_over)), (h_p0_bestAt, .inl (cI, 6, .inl f_p0_bestAt)), (h_p0_bad, .inl (cI, 6, .inl f_p0_bad)), (p1, .inr (5, vL 11 F_p1_)), (h_p1_crew, .inl (cI, 4, .inl f_p1_crew)), (h_p1_yard, .inl (cI, 4, .inl f_p1_yard)), (h_p1_high, .inl (cI, 12, .inl f_p1_high))]) := by
  refine CI_mk (by decide) (Nat.le_of_ble_eq_true rfl) ?_
  intro p e s m below meth c A ls E hAe hG hsz hP hD hA hS hl
  obtain ⟨hx, hb, hr, hw, hown, hlocks, hml, hnm⟩ := E
  have hK := hG.1
  have i_x_kicks : 0 ≤ x_kicks.toInt ∧ x_kicks.toInt ≤ 1 := i_x_kicks
  have i_x_p0_bends : 0 ≤ x_p0_bends.toInt ∧ x_p0_bends.toInt ≤ 12 := i_x_p0_bends
  have i_x_p0_runners : 0 ≤ x_p0_runners.toInt ∧ x_p0_runners.toInt ≤ 6 := i_x_p0_runners
  have hl : lv_has ls 6 [(0, .ref h0), (1, .ref p0), (2, .ref p1), (3, .int p2), (4, .int p3)] := hl
  refine lv_aload_n hx hb dX7_timeTouched_0 rfl (lv_at hl 0 rfl) ?_
  refine lv_iload_n hx hb dX7_timeTouched_1 rfl (lv_at hl 3 rfl) ?_
  refine put_f (D := D) (ci := 7) (v := .int p2) (ty := .int) (C := RX7) (T := TX7) (N := 18) hx hb hw inAX7 tyX7 tyX7_ok nmX7 hown hK hP hD hS 0 rfl rfl 16 (by decide) (hw _ q_233) (fun _ h9 => h9) rfl (by decide +kernel) rfl rfl dX7_timeTouched_2 (fun H locs F1 eF1 hP hD hS => ?_)
  have hP : va_P D vwCl [(h0, .inr (7, vL 18 F1)), (h_paces, .inl (cI, 40, .inl f_paces)), (h_manner, .inl (cI, 4, .inl f_manner)), (h_paceBehind, .inl (cI, 12, .inl f_paceBehind)), (p0, .inr (1, vL 18 F_p0_)), (h_p0_settings, .inl (cI, 5, .inl f_p0_settings)), (h_p0_push, .inl (cI, 12, .inl f_p0_push)), (h_p0_feet, .inl (cI, 12, .inl f_p0_feet)), (h_p0_weight, .inl (cI, 12, .inl f_p0_weight)), (h_p0_length, .inl (cI, 12, .inl f_p0_length)), (h_p0_drop, .inl (cI, 12, .inl f_p0_drop)), (h_p0_ideal, .inl (cI, 12, .inl f_p0_ideal)), (h_p0_over, .inl (cI, 12, .inl f_p0_over)), (h_p0_bestAt, .inl (cI, 6, .inl f_p0_bestAt)), (h_p0_bad, .inl (cI, 6, .inl f_p0_bad)), (p1, .inr (5, vL 11 F_p1_)), (h_p1_crew, .inl (cI, 4, .inl f_p1_crew)), (h_p1_yard, .inl (cI, 4, .inl f_p1_yard)), (h_p1_high, .inl (cI, 12, .inl f_p1_high))] H := hP
  have hD : va_D A [(h0, .inr (7, vL 18 F1)), (h_paces, .inl (cI, 40, .inl f_paces)), (h_manner, .inl (cI, 4, .inl f_manner)), (h_paceBehind, .inl (cI, 12, .inl f_paceBehind)), (p0, .inr (1, vL 18 F_p0_)), (h_p0_settings, .inl (cI, 5, .inl f_p0_settings)), (h_p0_push, .inl (cI, 12, .inl f_p0_push)), (h_p0_feet, .inl (cI, 12, .inl f_p0_feet)), (h_p0_weight, .inl (cI, 12, .inl f_p0_weight)), (h_p0_length, .inl (cI, 12, .inl f_p0_length)), (h_p0_drop, .inl (cI, 12, .inl f_p0_drop)), (h_p0_ideal, .inl (cI, 12, .inl f_p0_ideal)), (h_p0_over, .inl (cI, 12, .inl f_p0_over)), (h_p0_bestAt, .inl (cI, 6, .inl f_p0_bestAt)), (h_p0_bad, .inl (cI, 6, .inl f_p0_bad)), (p1, .inr (5, vL 11 F_p1_)), (h_p1_crew, .inl (cI, 4, .inl f_p1_crew)), (h_p1_yard, .inl (cI, 4, .inl f_p1_yard)), (h_p1_high, .inl (cI, 12, .inl f_p1_high))] := hD
  refine lv_aload_n hx hb dX7_timeTouched_5 rfl (lv_at hl 0 rfl) ?_
  refine lv_iload hx hb dX7_timeTouched_6 (lv_at hl 4 rfl) ?_
  refine put_f (D := D) (ci := 7) (v := .int p3) (ty := .int) (C := RX7) (T := TX7) (N := 18) hx hb hw inAX7 tyX7 tyX7_ok nmX7 hown hK hP hD hS 0 rfl rfl 17 (by decide) (hw _ q_234) (fun _ h9 => h9) rfl (by decide +kernel) rfl rfl dX7_timeTouched_8 (fun H locs F2 eF2 hP hD hS => ?_)
  have hP : va_P D vwCl [(h0, .inr (7, vL 18 F2)), (h_paces, .inl (cI, 40, .inl f_paces)), (h_manner, .inl (cI, 4, .inl f_manner)), (h_paceBehind, .inl (cI, 12, .inl f_paceBehind)), (p0, .inr (1, vL 18 F_p0_)), (h_p0_settings, .inl (cI, 5, .inl f_p0_settings)), (h_p0_push, .inl (cI, 12, .inl f_p0_push)), (h_p0_feet, .inl (cI, 12, .inl f_p0_feet)), (h_p0_weight, .inl (cI, 12, .inl f_p0_weight)), (h_p0_length, .inl (cI, 12, .inl f_p0_length)), (h_p0_drop, .inl (cI, 12, .inl f_p0_drop)), (h_p0_ideal, .inl (cI, 12, .inl f_p0_ideal)), (h_p0_over, .inl (cI, 12, .inl f_p0_over)), (h_p0_bestAt, .inl (cI, 6, .inl f_p0_bestAt)), (h_p0_bad, .inl (cI, 6, .inl f_p0_bad)), (p1, .inr (5, vL 11 F_p1_)), (h_p1_crew, .inl (cI, 4, .inl f_p1_crew)), (h_p1_yard, .inl (cI, 4, .inl f_p1_yard)), (h_p1_high, .inl (cI, 12, .inl f_p1_high))] H := hP
  have hD : va_D A [(h0, .inr (7, vL 18 F2)), (h_paces, .inl (cI, 40, .inl f_paces)), (h_manner, .inl (cI, 4, .inl f_manner)), (h_paceBehind, .inl (cI, 12, .inl f_paceBehind)), (p0, .inr (1, vL 18 F_p0_)), (h_p0_settings, .inl (cI, 5, .inl f_p0_settings)), (h_p0_push, .inl (cI, 12, .inl f_p0_push)), (h_p0_feet, .inl (cI, 12, .inl f_p0_feet)), (h_p0_weight, .inl (cI, 12, .inl f_p0_weight)), (h_p0_length, .inl (cI, 12, .inl f_p0_length)), (h_p0_drop, .inl (cI, 12, .inl f_p0_drop)), (h_p0_ideal, .inl (cI, 12, .inl f_p0_ideal)), (h_p0_over, .inl (cI, 12, .inl f_p0_over)), (h_p0_bestAt, .inl (cI, 6, .inl f_p0_bestAt)), (h_p0_bad, .inl (cI, 6, .inl f_p0_bad)), (p1, .inr (5, vL 11 F_p1_)), (h_p1_crew, .inl (cI, 4, .inl f_p1_crew)), (h_p1_yard, .inl (cI, 4, .inl f_p1_yard)), (h_p1_high, .inl (cI, 12, .inl f_p1_high))] := hD
  refine lv_aload_n hx hb dX7_timeTouched_11 rfl (lv_at hl 0 rfl) ?_
  refine lv_aload_n hx hb dX7_timeTouched_12 rfl (lv_at hl 1 rfl) ?_
  refine lv_aload_n hx hb dX7_timeTouched_13 rfl (lv_at hl 2 rfl) ?_
  have n3 : F1 0 = .ref h_paces := (get_ne eF1 (by decide) e_paces)
  have n4 : F2 0 = .ref h_paces := (get_ne eF2 (by decide) n3)
  have n5 : F1 1 = .ref h_manner := (get_ne eF1 (by decide) e_manner)
  have n6 : F2 1 = .ref h_manner := (get_ne eF2 (by decide) n5)
  have n7 : F1 2 = .ref h_paceBehind := (get_ne eF1 (by decide) e_paceBehind)
  have n8 : F2 2 = .ref h_paceBehind := (get_ne eF2 (by decide) n7)
  have n9 : F1 14 = .int x_kicks := (get_ne eF1 (by decide) e_kicks)
  have n10 : F2 14 = .int x_kicks := (get_ne eF2 (by decide) n9)
  have n11 : F1 15 = .int x_seed := (get_ne eF1 (by decide) e_seed)
  have n12 : F2 15 = .int x_seed := (get_ne eF2 (by decide) n11)
  have n13 : F2 16 = .int p2 := (get_ne eF2 (by decide) (get_eq eF1))
  refine call_Vi (wr := []) (As := [.ref p0, .ref p1]) (rest := []) hx hb hml hown hw (m_X7_timeInAll l D cI cJ cB cP cM cZ h0 h_paces h_manner h_paceBehind p0 h_p0_settings h_p0_push h_p0_feet h_p0_weight h_p0_length h_p0_drop h_p0_ideal h_p0_over h_p0_bestAt h_p0_bad p1 h_p1_crew h_p1_yard h_p1_high F2 x_kicks x_seed p2 p3 f_paces f_manner f_paceBehind F_p0_ x_p0_bends x_p0_runners f_p0_settings f_p0_push f_p0_feet f_p0_weight f_p0_length f_p0_drop f_p0_ideal f_p0_over f_p0_bestAt f_p0_bad F_p1_ x_p1_lead x_p1_runner x_p1_number f_p1_crew f_p1_yard f_p1_high _ n4 n6 n8 n10 i_x_kicks n12 n13 (get_eq eF2) e_p0_settings e_p0_push e_p0_feet e_p0_weight e_p0_length e_p0_drop e_p0_ideal e_p0_over e_p0_bestAt e_p0_bad e_p0_bends i_x_p0_bends e_p0_runners i_x_p0_runners e_p1_crew e_p1_yard e_p1_high e_p1_lead e_p1_runner e_p1_number s_p1_crew_0) wV_X7_85_X7_timeInAll dX7_timeTouched_14 hK hP hD hS hA [0, 1, 2, 3, 4, 5, 6, 7, 8, 9, 10, 11, 12, 13, 14, 15, 16, 17, 18] [] rfl rfl (by decide) (by decide) (by decide) 0 7 rfl rfl GG.fb hG.at hl.1 rfl (Nat.le_of_ble_eq_true rfl) ⟨(Nat.le_of_ble_eq_true rfl), (Nat.le_of_ble_eq_true rfl)⟩ ⟨(Nat.le_of_ble_eq_true rfl), (Nat.le_of_ble_eq_true rfl)⟩ (fun r14 u H locs hp hP hD hS => ?_)
  obtain ⟨F15, y16, y17, y18, y19, y20, y21, y22, y23, y24, y25, y26, y27, g28, g29, g30, t31, t32, t33, t34, t35, t36, t37, t38, t39, t40, t41, t42, t43, t44, t45, rfl⟩ := hp
  have hP : va_P D vwCl [(h0, .inr (7, vL 18 F15)), (h_paces, .inl (cI, 40, .inl g28)), (h_manner, .inl (cI, 4, .inl g29)), (h_paceBehind, .inl (cI, 12, .inl g30)), (p0, .inr (1, vL 18 F_p0_)), (h_p0_settings, .inl (cI, 5, .inl f_p0_settings)), (h_p0_push, .inl (cI, 12, .inl f_p0_push)), (h_p0_feet, .inl (cI, 12, .inl f_p0_feet)), (h_p0_weight, .inl (cI, 12, .inl f_p0_weight)), (h_p0_length, .inl (cI, 12, .inl f_p0_length)), (h_p0_drop, .inl (cI, 12, .inl f_p0_drop)), (h_p0_ideal, .inl (cI, 12, .inl f_p0_ideal)), (h_p0_over, .inl (cI, 12, .inl f_p0_over)), (h_p0_bestAt, .inl (cI, 6, .inl f_p0_bestAt)), (h_p0_bad, .inl (cI, 6, .inl f_p0_bad)), (p1, .inr (5, vL 11 F_p1_)), (h_p1_crew, .inl (cI, 4, .inl f_p1_crew)), (h_p1_yard, .inl (cI, 4, .inl f_p1_yard)), (h_p1_high, .inl (cI, 12, .inl f_p1_high))] H := hP
  have hD : va_D A [(h0, .inr (7, vL 18 F15)), (h_paces, .inl (cI, 40, .inl g28)), (h_manner, .inl (cI, 4, .inl g29)), (h_paceBehind, .inl (cI, 12, .inl g30)), (p0, .inr (1, vL 18 F_p0_)), (h_p0_settings, .inl (cI, 5, .inl f_p0_settings)), (h_p0_push, .inl (cI, 12, .inl f_p0_push)), (h_p0_feet, .inl (cI, 12, .inl f_p0_feet)), (h_p0_weight, .inl (cI, 12, .inl f_p0_weight)), (h_p0_length, .inl (cI, 12, .inl f_p0_length)), (h_p0_drop, .inl (cI, 12, .inl f_p0_drop)), (h_p0_ideal, .inl (cI, 12, .inl f_p0_ideal)), (h_p0_over, .inl (cI, 12, .inl f_p0_over)), (h_p0_bestAt, .inl (cI, 6, .inl f_p0_bestAt)), (h_p0_bad, .inl (cI, 6, .inl f_p0_bad)), (p1, .inr (5, vL 11 F_p1_)), (h_p1_crew, .inl (cI, 4, .inl f_p1_crew)), (h_p1_yard, .inl (cI, 4, .inl f_p1_yard)), (h_p1_high, .inl (cI, 12, .inl f_p1_high))] := hD
  refine W.widen (k := 0) (n := 0) (Nat.le_of_ble_eq_true rfl) (Nat.le_of_ble_eq_true rfl) ?_
  refine lv_istore (lv' := [(5, .int r14), (0, .ref h0), (1, .ref p0), (2, .ref p1), (3, .int p2), (4, .int p3)]) hx hb dX7_timeTouched_17 hl (by decide) rfl (fun ls hl => ?_)
  refine lv_aload_n hx hb dX7_timeTouched_19 rfl (lv_at hl 1 rfl) ?_
  refine lv_iconst (v := (-1)) hx hb dX7_timeTouched_20 (by decide) ?_
  refine put_f (D := D) (ci := 7) (v := .int (-1)) (ty := .int) (C := RX7) (T := TX7) (N := 18) hx hb hw inAX7 tyX7 tyX7_ok nmX7 hown hK hP hD hS 0 rfl rfl 16 (by decide) (hw _ q_233) (fun _ h9 => h9) rfl (by decide +kernel) rfl rfl dX7_timeTouched_21 (fun H locs F46 eF46 hP hD hS => ?_)
  have hP : va_P D vwCl [(h0, .inr (7, vL 18 F46)), (h_paces, .inl (cI, 40, .inl g28)), (h_manner, .inl (cI, 4, .inl g29)), (h_paceBehind, .inl (cI, 12, .inl g30)), (p0, .inr (1, vL 18 F_p0_)), (h_p0_settings, .inl (cI, 5, .inl f_p0_settings)), (h_p0_push, .inl (cI, 12, .inl f_p0_push)), (h_p0_feet, .inl (cI, 12, .inl f_p0_feet)), (h_p0_weight, .inl (cI, 12, .inl f_p0_weight)), (h_p0_length, .inl (cI, 12, .inl f_p0_length)), (h_p0_drop, .inl (cI, 12, .inl f_p0_drop)), (h_p0_ideal, .inl (cI, 12, .inl f_p0_ideal)), (h_p0_over, .inl (cI, 12, .inl f_p0_over)), (h_p0_bestAt, .inl (cI, 6, .inl f_p0_bestAt)), (h_p0_bad, .inl (cI, 6, .inl f_p0_bad)), (p1, .inr (5, vL 11 F_p1_)), (h_p1_crew, .inl (cI, 4, .inl f_p1_crew)), (h_p1_yard, .inl (cI, 4, .inl f_p1_yard)), (h_p1_high, .inl (cI, 12, .inl f_p1_high))] H := hP
  have hD : va_D A [(h0, .inr (7, vL 18 F46)), (h_paces, .inl (cI, 40, .inl g28)), (h_manner, .inl (cI, 4, .inl g29)), (h_paceBehind, .inl (cI, 12, .inl g30)), (p0, .inr (1, vL 18 F_p0_)), (h_p0_settings, .inl (cI, 5, .inl f_p0_settings)), (h_p0_push, .inl (cI, 12, .inl f_p0_push)), (h_p0_feet, .inl (cI, 12, .inl f_p0_feet)), (h_p0_weight, .inl (cI, 12, .inl f_p0_weight)), (h_p0_length, .inl (cI, 12, .inl f_p0_length)), (h_p0_drop, .inl (cI, 12, .inl f_p0_drop)), (h_p0_ideal, .inl (cI, 12, .inl f_p0_ideal)), (h_p0_over, .inl (cI, 12, .inl f_p0_over)), (h_p0_bestAt, .inl (cI, 6, .inl f_p0_bestAt)), (h_p0_bad, .inl (cI, 6, .inl f_p0_bad)), (p1, .inr (5, vL 11 F_p1_)), (h_p1_crew, .inl (cI, 4, .inl f_p1_crew)), (h_p1_yard, .inl (cI, 4, .inl f_p1_yard)), (h_p1_high, .inl (cI, 12, .inl f_p1_high))] := hD
  refine lv_iload hx hb dX7_timeTouched_24 (lv_at hl 0 rfl) ?_
  exact ret_i (v := r14) hx hb hr hlocks hS hP hD dX7_timeTouched_26 rfl (Nat.le_of_ble_eq_true rfl) (Nat.le_of_ble_eq_true rfl) ⟨F46, y16, y17, y18, y19, y20, y21, y22, y23, y24, y25, y26, y27, g28, g29, g30, (SAME.up eF46 (SAME.tr (SAME.up eF2 (SAME.up eF1 SAME.rf (by decide)) (by decide)) t31 (by decide)) (by decide)), (get_ne eF46 (by decide) t32), (get_ne eF46 (by decide) t33), t34, (get_ne eF46 (by decide) t35), (get_ne eF46 (by decide) t36), (get_ne eF46 (by decide) t37), (get_ne eF46 (by decide) t38), (get_ne eF46 (by decide) t39), (get_ne eF46 (by decide) t40), (get_ne eF46 (by decide) t41), t42, (get_ne eF46 (by decide) t43), (get_ne eF46 (by decide) t44), (get_ne eF46 (by decide) t45), (get_eq eF46), (get_ne eF46 (by decide) (SAME.at t31 (by decide) (get_eq eF2))), rfl⟩
set_option maxHeartbeats 4000000 in
set_option maxRecDepth 100000 in
theorem m_X8_beginsOne (l : Launch) (D : va_G) (cI cJ cB cP cM cZ : ClassId) (p0 : Int32) (sz : Nat)  : CI l yX8_beginsOne cX8_beginsOne 1 (some .boolean) { frames := 0, cells := 0, slots := 0, locals := 0 } (GG D cI cJ cB cP cM cZ) D [] sz [.int p0] (fun (r : Int32) (u : va_W) => IR 0 1 r ∧ u = []) := by
  refine CI_mk (by decide) (Nat.le_of_ble_eq_true rfl) ?_
  intro p e s m below meth c A ls E hAe hG hsz hP hD hA hS hl
  obtain ⟨hx, hb, hr, hw, hown, hlocks, hml, hnm⟩ := E
  have hK := hG.1
  have hl : lv_has ls 1 [(0, .int p0)] := hl
  refine lv_iload_n hx hb dX8_beginsOne_0 rfl (lv_at hl 0 rfl) ?_
  refine lv_bipush (v := 8) hx hb dX8_beginsOne_1 (by decide) ?_
  refine lv_icmp_eq (tgt := 12) hx hb dX8_beginsOne_3 (by decide) (fun c1 => ?_) (fun c1 => ?_)
  · have dc1 : p0.toInt = 8 := eq_i (a := p0.toInt) (b := 8) rfl rfl c1
    have k2 : 8 ≤ p0.toInt ∧ p0.toInt ≤ 8 := ⟨Int.le_trans (Int.le_refl _) (Int.le_of_eq dc1.symm), Int.le_trans (Int.le_of_eq dc1) (Int.le_refl _)⟩
    refine lv_iconst (v := 1) hx hb dX8_beginsOne_12 (by decide) ?_
    refine lv_goto (tgt := 17) hx hb dX8_beginsOne_13 (by decide) ?_
    exact ret_i (v := 1) hx hb hr hlocks hS hP hD dX8_beginsOne_17 rfl (Nat.le_of_ble_eq_true rfl) (Nat.le_of_ble_eq_true rfl) ⟨⟨by decide, by decide⟩, rfl⟩
  · have dc1 : p0.toInt ≠ 8 := ne_i (a := p0.toInt) (b := 8) rfl rfl c1
    refine lv_iload_n hx hb dX8_beginsOne_6 rfl (lv_at hl 0 rfl) ?_
    refine lv_bipush (v := 16) hx hb dX8_beginsOne_7 (by decide) ?_
    refine lv_icmp_lt (tgt := 16) hx hb dX8_beginsOne_9 (by decide) (fun c3 => ?_) (fun c3 => ?_)
    · have dc3 : p0.toInt < 16 := lt_i (a := p0.toInt) (b := 16) rfl rfl c3
      have k4 : (-2147483648) ≤ p0.toInt ∧ p0.toInt ≤ 15 := ⟨(ir_any _).1, up_lt dc3 (Int.le_refl _) (by decide)⟩
      refine lv_iconst (v := 0) hx hb dX8_beginsOne_16 (by decide) ?_
      exact ret_i (v := 0) hx hb hr hlocks hS hP hD dX8_beginsOne_17 rfl (Nat.le_of_ble_eq_true rfl) (Nat.le_of_ble_eq_true rfl) ⟨⟨by decide, by decide⟩, rfl⟩
    · have dc3 : 16 ≤ p0.toInt := nlt_i (a := p0.toInt) (b := 16) rfl rfl c3
      have k5 : 16 ≤ p0.toInt ∧ p0.toInt ≤ 2147483647 := ⟨Int.le_trans (Int.le_refl _) dc3, (ir_any _).2⟩
      refine lv_iconst (v := 1) hx hb dX8_beginsOne_12 (by decide) ?_
      refine lv_goto (tgt := 17) hx hb dX8_beginsOne_13 (by decide) ?_
      exact ret_i (v := 1) hx hb hr hlocks hS hP hD dX8_beginsOne_17 rfl (Nat.le_of_ble_eq_true rfl) (Nat.le_of_ble_eq_true rfl) ⟨⟨by decide, by decide⟩, rfl⟩
set_option maxHeartbeats 4000000 in
set_option maxRecDepth 100000 in
theorem m_X8_addStep (l : Launch) (D : va_G) (cI cJ cB cP cM cZ : ClassId) (h0 : Nat) (h_step : Nat) (h_sign : Nat) (h_value : Nat) (Fh : Nat → Value) (x_steps : Int32) (f_step : Nat → Int32) (f_sign : Nat → Int32) (f_value : Nat → Int32) (p0 : Int32) (p1 : Int32) (p2 : Int32) (sz : Nat) (e_step : Fh 0 = .ref h_step) (e_sign : Fh 1 = .ref h_sign) (e_value : Fh 2 = .ref h_value) (e_steps : Fh 3 = .int x_steps) (i_x_steps : IR 0 40 x_steps) : CI l yX8_addStep cX8_addStep 4 (some .boolean) { frames := 0, cells := 0, slots := 0, locals := 0 } (GG D cI cJ cB cP cM cZ) D [(h0, .inr (8, vL 5 Fh)), (h_step, .inl (cI, 40, .inl f_step)), (h_sign, .inl (cI, 40, .inl f_sign)), (h_value, .inl (cI, 40, .inl f_value))] sz [.ref h0, .int p0, .int p1, .int p2] (fun (r : Int32) (u : va_W) => ∃ (Gh : Nat → Value) (y_steps : Int32) (g_step : Nat → Int32) (g_sign : Nat → Int32) (g_value : Nat → Int32), SAME [3] Fh Gh ∧ Gh 3 = .int y_steps ∧ IR 1 40 y_steps ∧ r = 1 ∧ u = [(h0, .inr (8, vL 5 Gh)), (h_step, .inl (cI, 40, .inl g_step)), (h_sign, .inl (cI, 40, .inl g_sign)), (h_value, .inl (cI, 40, .inl g_value))]) := by
  refine CI_mk (by decide) (Nat.le_of_ble_eq_true rfl) ?_
  intro p e s m below meth c A ls E hAe hG hsz hP hD hA hS hl
  obtain ⟨hx, hb, hr, hw, hown, hlocks, hml, hnm⟩ := E
  have hK := hG.1
  have i_x_steps : 0 ≤ x_steps.toInt ∧ x_steps.toInt ≤ 40 := i_x_steps
  have hl : lv_has ls 4 [(0, .ref h0), (1, .int p0), (2, .int p1), (3, .int p2)] := hl
  refine lv_aload_n hx hb dX8_addStep_0 rfl (lv_at hl 0 rfl) ?_
  refine get_f (D := D) (ci := 8) (v := .int x_steps) (C := RX8) (T := TX8) (N := 5) hx hb hw inAX8 hown hK hP 0 rfl rfl 3 (by decide) (hw _ q_695) (fun _ h9 => h9) e_steps dX8_addStep_1 ?_
  refine lv_bipush (v := 40) hx hb dX8_addStep_4 (by decide) ?_
  refine lv_icmp_ge (tgt := 49) hx hb dX8_addStep_6 (by decide) (fun c1 => ?_) (fun c1 => ?_)
  · have dc1 : 40 ≤ x_steps.toInt := le_i (a := 40) (b := x_steps.toInt) rfl rfl c1
    have k2 : 40 ≤ x_steps.toInt ∧ x_steps.toInt ≤ 40 := ⟨Int.le_trans (Int.le_refl _) dc1, i_x_steps.2⟩
    refine lv_iconst (v := 1) hx hb dX8_addStep_49 (by decide) ?_
    exact ret_i (v := 1) hx hb hr hlocks hS hP hD dX8_addStep_50 rfl (Nat.le_of_ble_eq_true rfl) (Nat.le_of_ble_eq_true rfl) ⟨Fh, x_steps, f_step, f_sign, f_value, SAME.rf, e_steps, (ir_wk k2 (by decide) (by decide)), rfl, rfl⟩
  · have dc1 : x_steps.toInt < 40 := nle_i (a := 40) (b := x_steps.toInt) rfl rfl c1
    have k3 : 0 ≤ x_steps.toInt ∧ x_steps.toInt ≤ 39 := ⟨i_x_steps.1, up_lt dc1 (Int.le_refl _) (by decide)⟩
    refine lv_aload_n hx hb dX8_addStep_9 rfl (lv_at hl 0 rfl) ?_
    refine get_f (D := D) (ci := 8) (v := .ref h_step) (C := RX8) (T := TX8) (N := 5) hx hb hw inAX8 hown hK hP 0 rfl rfl 0 (by decide) (hw _ q_692) (fun _ h9 => h9) e_step dX8_addStep_10 ?_
    refine lv_aload_n hx hb dX8_addStep_13 rfl (lv_at hl 0 rfl) ?_
    refine get_f (D := D) (ci := 8) (v := .int x_steps) (C := RX8) (T := TX8) (N := 5) hx hb hw inAX8 hown hK hP 0 rfl rfl 3 (by decide) (hw _ q_695) (fun _ h9 => h9) e_steps dX8_addStep_14 ?_
    refine lv_iload_n hx hb dX8_addStep_17 rfl (lv_at hl 1 rfl) ?_
    obtain ⟨g4, eg4⟩ : ∃ z : Nat → Int32, upd f_step x_steps.toNatClampNeg p0 = z := ⟨_, rfl⟩
    refine iast_g hx hb hK hP hD hS 1 0 rfl rfl (ix_k k3 (by decide) (by decide)) eg4 dX8_addStep_18 (fun H locs hP hD hS => ?_)
    have hP : va_P D vwCl [(h0, .inr (8, vL 5 Fh)), (h_step, .inl (cI, 40, .inl g4)), (h_sign, .inl (cI, 40, .inl f_sign)), (h_value, .inl (cI, 40, .inl f_value))] H := hP
    have hD : va_D A [(h0, .inr (8, vL 5 Fh)), (h_step, .inl (cI, 40, .inl g4)), (h_sign, .inl (cI, 40, .inl f_sign)), (h_value, .inl (cI, 40, .inl f_value))] := hD
    refine lv_aload_n hx hb dX8_addStep_19 rfl (lv_at hl 0 rfl) ?_
    refine get_f (D := D) (ci := 8) (v := .ref h_sign) (C := RX8) (T := TX8) (N := 5) hx hb hw inAX8 hown hK hP 0 rfl rfl 1 (by decide) (hw _ q_693) (fun _ h9 => h9) e_sign dX8_addStep_20 ?_
    refine lv_aload_n hx hb dX8_addStep_23 rfl (lv_at hl 0 rfl) ?_
    refine get_f (D := D) (ci := 8) (v := .int x_steps) (C := RX8) (T := TX8) (N := 5) hx hb hw inAX8 hown hK hP 0 rfl rfl 3 (by decide) (hw _ q_695) (fun _ h9 => h9) e_steps dX8_addStep_24 ?_
    refine lv_iload_n hx hb dX8_addStep_27 rfl (lv_at hl 2 rfl) ?_
    obtain ⟨g5, eg5⟩ : ∃ z : Nat → Int32, upd f_sign x_steps.toNatClampNeg p1 = z := ⟨_, rfl⟩
    refine iast_g hx hb hK hP hD hS 2 0 rfl rfl (ix_k k3 (by decide) (by decide)) eg5 dX8_addStep_28 (fun H locs hP hD hS => ?_)
    have hP : va_P D vwCl [(h0, .inr (8, vL 5 Fh)), (h_step, .inl (cI, 40, .inl g4)), (h_sign, .inl (cI, 40, .inl g5)), (h_value, .inl (cI, 40, .inl f_value))] H := hP
    have hD : va_D A [(h0, .inr (8, vL 5 Fh)), (h_step, .inl (cI, 40, .inl g4)), (h_sign, .inl (cI, 40, .inl g5)), (h_value, .inl (cI, 40, .inl f_value))] := hD
    refine lv_aload_n hx hb dX8_addStep_29 rfl (lv_at hl 0 rfl) ?_
    refine get_f (D := D) (ci := 8) (v := .ref h_value) (C := RX8) (T := TX8) (N := 5) hx hb hw inAX8 hown hK hP 0 rfl rfl 2 (by decide) (hw _ q_694) (fun _ h9 => h9) e_value dX8_addStep_30 ?_
    refine lv_aload_n hx hb dX8_addStep_33 rfl (lv_at hl 0 rfl) ?_
    refine get_f (D := D) (ci := 8) (v := .int x_steps) (C := RX8) (T := TX8) (N := 5) hx hb hw inAX8 hown hK hP 0 rfl rfl 3 (by decide) (hw _ q_695) (fun _ h9 => h9) e_steps dX8_addStep_34 ?_
    refine lv_iload_n hx hb dX8_addStep_37 rfl (lv_at hl 3 rfl) ?_
    obtain ⟨g6, eg6⟩ : ∃ z : Nat → Int32, upd f_value x_steps.toNatClampNeg p2 = z := ⟨_, rfl⟩
    refine iast_g hx hb hK hP hD hS 3 0 rfl rfl (ix_k k3 (by decide) (by decide)) eg6 dX8_addStep_38 (fun H locs hP hD hS => ?_)
    have hP : va_P D vwCl [(h0, .inr (8, vL 5 Fh)), (h_step, .inl (cI, 40, .inl g4)), (h_sign, .inl (cI, 40, .inl g5)), (h_value, .inl (cI, 40, .inl g6))] H := hP
    have hD : va_D A [(h0, .inr (8, vL 5 Fh)), (h_step, .inl (cI, 40, .inl g4)), (h_sign, .inl (cI, 40, .inl g5)), (h_value, .inl (cI, 40, .inl g6))] := hD
    refine lv_aload_n hx hb dX8_addStep_39 rfl (lv_at hl 0 rfl) ?_
    refine lv_dup hx hb dX8_addStep_40 rfl ?_
    refine get_f (D := D) (ci := 8) (v := .int x_steps) (C := RX8) (T := TX8) (N := 5) hx hb hw inAX8 hown hK hP 0 rfl rfl 3 (by decide) (hw _ q_695) (fun _ h9 => h9) e_steps dX8_addStep_41 ?_
    refine lv_iconst (v := 1) hx hb dX8_addStep_44 (by decide) ?_
    refine lv_iadd hx hb dX8_addStep_45 ?_
    refine lv_topi (fun v7 ev7 => ?_)
    have bv7 : v7.toInt = x_steps.toInt + 1 := by rw [ev7]; exact add_k rfl rfl k3 ⟨Int.le_refl _, Int.le_refl _⟩ (by decide)
    have k8 : 1 ≤ v7.toInt ∧ v7.toInt ≤ 40 := add_r bv7 k3 ⟨Int.le_refl _, Int.le_refl _⟩ (by decide)
    refine put_f (D := D) (ci := 8) (v := .int v7) (ty := .int) (C := RX8) (T := TX8) (N := 5) hx hb hw inAX8 tyX8 tyX8_ok nmX8 hown hK hP hD hS 0 rfl rfl 3 (by decide) (hw _ q_695) (fun _ h9 => h9) rfl (by decide +kernel) rfl rfl dX8_addStep_46 (fun H locs F9 eF9 hP hD hS => ?_)
    have hP : va_P D vwCl [(h0, .inr (8, vL 5 F9)), (h_step, .inl (cI, 40, .inl g4)), (h_sign, .inl (cI, 40, .inl g5)), (h_value, .inl (cI, 40, .inl g6))] H := hP
    have hD : va_D A [(h0, .inr (8, vL 5 F9)), (h_step, .inl (cI, 40, .inl g4)), (h_sign, .inl (cI, 40, .inl g5)), (h_value, .inl (cI, 40, .inl g6))] := hD
    refine lv_iconst (v := 1) hx hb dX8_addStep_49 (by decide) ?_
    exact ret_i (v := 1) hx hb hr hlocks hS hP hD dX8_addStep_50 rfl (Nat.le_of_ble_eq_true rfl) (Nat.le_of_ble_eq_true rfl) ⟨F9, v7, g4, g5, g6, (SAME.up eF9 SAME.rf (by decide)), (get_eq eF9), k8, rfl, rfl⟩
set_option maxHeartbeats 4000000 in
set_option maxRecDepth 100000 in
theorem m_X8_readCompared (l : Launch) (D : va_G) (cI cJ cB cP cM cZ : ClassId) (h0 : Nat) (h_step : Nat) (h_sign : Nat) (h_value : Nat) (p0 : Nat) (h_p0_bytes : Nat) (h_p0_wordNames : Nat) (Fh : Nat → Value) (x_steps : Int32) (f_step : Nat → Int32) (f_sign : Nat → Int32) (f_value : Nat → Int32) (F_p0_ : Nat → Value) (x_p0_length : Int32) (x_p0_kind : Int32) (x_p0_place : Int32) (x_p0_value : Int32) (x_p0_name : Int64) (x_p0_number : Int32) (x_p0_faultKind : Int32) (x_p0_faultPlace : Int32) (x_p0_at : Int32) (x_p0_mostBytes : Int32) (f_p0_bytes : Nat → Int32) (f_p0_wordNames : Nat → Int64) (p1 : Int32) (sz : Nat) (e_step : Fh 0 = .ref h_step) (e_sign : Fh 1 = .ref h_sign) (e_value : Fh 2 = .ref h_value) (e_steps : Fh 3 = .int x_steps) (i_x_steps : IR 0 40 x_steps) (e_p0_bytes : F_p0_ 0 = .ref h_p0_bytes) (e_p0_length : F_p0_ 1 = .int x_p0_length) (i_x_p0_length : IR 0 940 x_p0_length) (e_p0_kind : F_p0_ 2 = .int x_p0_kind) (e_p0_place : F_p0_ 3 = .int x_p0_place) (e_p0_value : F_p0_ 4 = .int x_p0_value) (e_p0_name : F_p0_ 5 = .long x_p0_name) (e_p0_number : F_p0_ 6 = .int x_p0_number) (e_p0_faultKind : F_p0_ 7 = .int x_p0_faultKind) (e_p0_faultPlace : F_p0_ 8 = .int x_p0_faultPlace) (e_p0_wordNames : F_p0_ 9 = .ref h_p0_wordNames) (e_p0_at : F_p0_ 10 = .int x_p0_at) (i_x_p0_at : IR 0 940 x_p0_at) (e_p0_mostBytes : F_p0_ 11 = .int x_p0_mostBytes) : CI l yX8_readCompared cX8_readCompared 4 (some .boolean) { frames := 3, cells := 0, slots := 0, locals := 65 } (GG D cI cJ cB cP cM cZ) D [(h0, .inr (8, vL 5 Fh)), (h_step, .inl (cI, 40, .inl f_step)), (h_sign, .inl (cI, 40, .inl f_sign)), (h_value, .inl (cI, 40, .inl f_value)), (p0, .inr (6, vL 12 F_p0_)), (h_p0_bytes, .inl (cB, 940, .inl f_p0_bytes)), (h_p0_wordNames, .inl (cJ, 23, .inr (.inl f_p0_wordNames)))] sz [.ref h0, .ref p0, .int p1] (fun (r : Int32) (u : va_W) => ∃ (Gh : Nat → Value) (y_steps : Int32) (G_p0_ : Nat → Value) (y_p0_kind : Int32) (y_p0_place : Int32) (y_p0_value : Int32) (y_p0_name : Int64) (y_p0_number : Int32) (y_p0_faultKind : Int32) (y_p0_faultPlace : Int32) (y_p0_at : Int32) (g_step : Nat → Int32) (g_sign : Nat → Int32) (g_value : Nat → Int32), SAME [3] Fh Gh ∧ Gh 3 = .int y_steps ∧ IR 0 40 y_steps ∧ SAME [2, 3, 4, 5, 6, 7, 8, 10] F_p0_ G_p0_ ∧ G_p0_ 2 = .int y_p0_kind ∧ G_p0_ 3 = .int y_p0_place ∧ G_p0_ 4 = .int y_p0_value ∧ G_p0_ 5 = .long y_p0_name ∧ G_p0_ 6 = .int y_p0_number ∧ G_p0_ 7 = .int y_p0_faultKind ∧ G_p0_ 8 = .int y_p0_faultPlace ∧ G_p0_ 10 = .int y_p0_at ∧ IR 0 940 y_p0_at ∧ IR 0 1 r ∧ u = [(h0, .inr (8, vL 5 Gh)), (h_step, .inl (cI, 40, .inl g_step)), (h_sign, .inl (cI, 40, .inl g_sign)), (h_value, .inl (cI, 40, .inl g_value)), (p0, .inr (6, vL 12 G_p0_)), (h_p0_bytes, .inl (cB, 940, .inl f_p0_bytes)), (h_p0_wordNames, .inl (cJ, 23, .inr (.inl f_p0_wordNames)))]) := by
  refine CI_mk (by decide) (Nat.le_of_ble_eq_true rfl) ?_
  intro p e s m below meth c A ls E hAe hG hsz hP hD hA hS hl
  obtain ⟨hx, hb, hr, hw, hown, hlocks, hml, hnm⟩ := E
  have hK := hG.1
  have i_x_steps : 0 ≤ x_steps.toInt ∧ x_steps.toInt ≤ 40 := i_x_steps
  have i_x_p0_length : 0 ≤ x_p0_length.toInt ∧ x_p0_length.toInt ≤ 940 := i_x_p0_length
  have i_x_p0_at : 0 ≤ x_p0_at.toInt ∧ x_p0_at.toInt ≤ 940 := i_x_p0_at
  have hl : lv_has ls 4 [(0, .ref h0), (1, .ref p0), (2, .int p1)] := hl
  refine lv_aload_n hx hb dX8_readCompared_0 rfl (lv_at hl 1 rfl) ?_
  refine get_f (D := D) (ci := 6) (v := .int x_p0_kind) (C := RX6) (T := TX6) (N := 12) hx hb hw inAX6 hown hK hP 4 rfl rfl 2 (by decide) (hw _ q_93) (fun _ h9 => h9) e_p0_kind dX8_readCompared_1 ?_
  refine lv_istore_n (lv' := [(3, .int x_p0_kind), (0, .ref h0), (1, .ref p0), (2, .int p1)]) hx hb dX8_readCompared_4 rfl hl (by decide) rfl (fun ls hl => ?_)
  refine lv_iload_n hx hb dX8_readCompared_5 rfl (lv_at hl 0 rfl) ?_
  refine lv_bipush (v := 60) hx hb dX8_readCompared_6 (by decide) ?_
  refine lv_icmp_eq (tgt := 29) hx hb dX8_readCompared_8 (by decide) (fun c1 => ?_) (fun c1 => ?_)
  · have dc1 : x_p0_kind.toInt = 60 := eq_i (a := x_p0_kind.toInt) (b := 60) rfl rfl c1
    have k2 : 60 ≤ x_p0_kind.toInt ∧ x_p0_kind.toInt ≤ 60 := ⟨Int.le_trans (Int.le_refl _) (Int.le_of_eq dc1.symm), Int.le_trans (Int.le_of_eq dc1) (Int.le_refl _)⟩
    refine lv_aload_n hx hb dX8_readCompared_29 rfl (lv_at hl 2 rfl) ?_
    refine call_Vv (wr := [(h0, .inr (8, vL 5 Fh)), (h_step, .inl (cI, 40, .inl f_step)), (h_sign, .inl (cI, 40, .inl f_sign)), (h_value, .inl (cI, 40, .inl f_value))]) (As := []) (rest := []) hx hb hml hown hw (m_X6_advance l D cI cJ cB cP cM cZ p0 h_p0_bytes h_p0_wordNames F_p0_ x_p0_length x_p0_value x_p0_name x_p0_at x_p0_mostBytes f_p0_bytes f_p0_wordNames _ e_p0_bytes e_p0_length i_x_p0_length e_p0_value e_p0_name e_p0_wordNames e_p0_at i_x_p0_at e_p0_mostBytes) wV_X8_38_X6_advance dX8_readCompared_30 hK hP hD hS hA [4, 5, 6] [0, 1, 2, 3] rfl rfl (by decide) (by decide) (by decide) 0 6 rfl rfl GG.fb hG.at hl.1 rfl (Nat.le_of_ble_eq_true rfl) ⟨(Nat.le_of_ble_eq_true rfl), (Nat.le_of_ble_eq_true rfl)⟩ ⟨(Nat.le_of_ble_eq_true rfl), (Nat.le_of_ble_eq_true rfl)⟩ (fun u H locs hp hP hD hS => ?_)
    obtain ⟨F4, y5, y6, y7, y8, y9, t10, t11, t12, t13, t14, t15, t16, t17, rfl⟩ := hp
    have hP : va_P D vwCl [(h0, .inr (8, vL 5 Fh)), (h_step, .inl (cI, 40, .inl f_step)), (h_sign, .inl (cI, 40, .inl f_sign)), (h_value, .inl (cI, 40, .inl f_value)), (p0, .inr (6, vL 12 F4)), (h_p0_bytes, .inl (cB, 940, .inl f_p0_bytes)), (h_p0_wordNames, .inl (cJ, 23, .inr (.inl f_p0_wordNames)))] H := hP
    have hD : va_D A [(h0, .inr (8, vL 5 Fh)), (h_step, .inl (cI, 40, .inl f_step)), (h_sign, .inl (cI, 40, .inl f_sign)), (h_value, .inl (cI, 40, .inl f_value)), (p0, .inr (6, vL 12 F4)), (h_p0_bytes, .inl (cB, 940, .inl f_p0_bytes)), (h_p0_wordNames, .inl (cJ, 23, .inr (.inl f_p0_wordNames)))] := hD
    refine W.widen (k := 0) (n := 0) (Nat.le_of_ble_eq_true rfl) (Nat.le_of_ble_eq_true rfl) ?_
    refine lv_aload_n hx hb dX8_readCompared_33 rfl (lv_at hl 2 rfl) ?_
    refine lv_iconst (v := 0) hx hb dX8_readCompared_34 (by decide) ?_
    refine lv_sipush (v := 999) hx hb dX8_readCompared_35 (by decide) ?_
    have n18 : F4 0 = .ref h_p0_bytes := (SAME.at t10 (by decide) e_p0_bytes)
    have n19 : F4 1 = .int x_p0_length := (SAME.at t10 (by decide) e_p0_length)
    have n20 : F4 9 = .ref h_p0_wordNames := (SAME.at t10 (by decide) e_p0_wordNames)
    have n21 : F4 11 = .int x_p0_mostBytes := (SAME.at t10 (by decide) e_p0_mostBytes)
    refine call_Vi (wr := [(h0, .inr (8, vL 5 Fh)), (h_step, .inl (cI, 40, .inl f_step)), (h_sign, .inl (cI, 40, .inl f_sign)), (h_value, .inl (cI, 40, .inl f_value))]) (As := [.int 0, .int 999]) (rest := []) hx hb hml hown hw (m_X6_takeNumber l D cI cJ cB cP cM cZ p0 h_p0_bytes h_p0_wordNames F4 x_p0_length y5 y6 y7 y8 y9 x_p0_mostBytes f_p0_bytes f_p0_wordNames 0 999 _ n18 n19 i_x_p0_length t11 t12 t14 t15 n20 t16 t17 n21) wV_X8_86_X6_takeNumber dX8_readCompared_38 hK hP hD hS hA [4, 5, 6] [0, 1, 2, 3] rfl rfl (by decide) (by decide) (by decide) 0 6 rfl rfl GG.fb hG.at hl.1 rfl (Nat.le_of_ble_eq_true rfl) ⟨(Nat.le_of_ble_eq_true rfl), (Nat.le_of_ble_eq_true rfl)⟩ ⟨(Nat.le_of_ble_eq_true rfl), (Nat.le_of_ble_eq_true rfl)⟩ (fun r22 u H locs hp hP hD hS => ?_)
    rcases hp with ⟨F23, y24, t25, t26, t27, t28, rfl, rfl⟩ | ⟨F29, y30, y31, y32, y33, y34, t35, t36, t37, t38, t39, t40, t41, t42, t43, t44, t45, t46, rfl, rfl⟩
    · have hP : va_P D vwCl [(h0, .inr (8, vL 5 Fh)), (h_step, .inl (cI, 40, .inl f_step)), (h_sign, .inl (cI, 40, .inl f_sign)), (h_value, .inl (cI, 40, .inl f_value)), (p0, .inr (6, vL 12 F23)), (h_p0_bytes, .inl (cB, 940, .inl f_p0_bytes)), (h_p0_wordNames, .inl (cJ, 23, .inr (.inl f_p0_wordNames)))] H := hP
      have hD : va_D A [(h0, .inr (8, vL 5 Fh)), (h_step, .inl (cI, 40, .inl f_step)), (h_sign, .inl (cI, 40, .inl f_sign)), (h_value, .inl (cI, 40, .inl f_value)), (p0, .inr (6, vL 12 F23)), (h_p0_bytes, .inl (cB, 940, .inl f_p0_bytes)), (h_p0_wordNames, .inl (cJ, 23, .inr (.inl f_p0_wordNames)))] := hD
      refine W.widen (k := 0) (n := 0) (Nat.le_of_ble_eq_true rfl) (Nat.le_of_ble_eq_true rfl) ?_
      refine lv_if_eq (tgt := 61) hx hb dX8_readCompared_41 (by decide) (fun _ => ?_) (fun g => absurd (by decide) g)
      refine lv_iconst (v := 0) hx hb dX8_readCompared_61 (by decide) ?_
      exact ret_i (v := 0) hx hb hr hlocks hS hP hD dX8_readCompared_62 rfl (Nat.le_of_ble_eq_true rfl) (Nat.le_of_ble_eq_true rfl) ⟨Fh, x_steps, F23, y5, y6, y7, y8, x_p0_number, y24, y6, y9, f_step, f_sign, f_value, SAME.rf, e_steps, i_x_steps, (SAME.tr (SAME.tr SAME.rf t10 (by decide)) t25 (by decide)), (SAME.at t25 (by decide) t11), (SAME.at t25 (by decide) t12), (SAME.at t25 (by decide) t14), (SAME.at t25 (by decide) t15), (SAME.at t25 (by decide) (SAME.at t10 (by decide) e_p0_number)), t26, t28, (SAME.at t25 (by decide) t16), t17, ⟨by decide, by decide⟩, rfl⟩
    · have hP : va_P D vwCl [(h0, .inr (8, vL 5 Fh)), (h_step, .inl (cI, 40, .inl f_step)), (h_sign, .inl (cI, 40, .inl f_sign)), (h_value, .inl (cI, 40, .inl f_value)), (p0, .inr (6, vL 12 F29)), (h_p0_bytes, .inl (cB, 940, .inl f_p0_bytes)), (h_p0_wordNames, .inl (cJ, 23, .inr (.inl f_p0_wordNames)))] H := hP
      have hD : va_D A [(h0, .inr (8, vL 5 Fh)), (h_step, .inl (cI, 40, .inl f_step)), (h_sign, .inl (cI, 40, .inl f_sign)), (h_value, .inl (cI, 40, .inl f_value)), (p0, .inr (6, vL 12 F29)), (h_p0_bytes, .inl (cB, 940, .inl f_p0_bytes)), (h_p0_wordNames, .inl (cJ, 23, .inr (.inl f_p0_wordNames)))] := hD
      refine W.widen (k := 0) (n := 0) (Nat.le_of_ble_eq_true rfl) (Nat.le_of_ble_eq_true rfl) ?_
      have k47 : 3 ≤ y5.toInt ∧ y5.toInt ≤ 3 := ⟨Int.le_trans (Int.le_refl _) (Int.le_of_eq t44.symm), Int.le_trans (Int.le_of_eq t44) (Int.le_refl _)⟩
      have k48 : 0 ≤ y7.toInt ∧ y7.toInt ≤ 2147483647 := ⟨Int.le_trans (Int.le_refl _) t45, (ir_any _).2⟩
      have k49 : 0 ≤ y7.toInt ∧ y7.toInt ≤ 999 := ⟨k48.1, Int.le_trans t46 (Int.le_refl _)⟩
      refine lv_if_eq (tgt := 61) hx hb dX8_readCompared_41 (by decide) (fun g => absurd g (by decide)) (fun _ => ?_)
      refine lv_aload_n hx hb dX8_readCompared_44 rfl (lv_at hl 1 rfl) ?_
      refine lv_iload_n hx hb dX8_readCompared_45 rfl (lv_at hl 3 rfl) ?_
      refine lv_iload_n hx hb dX8_readCompared_46 rfl (lv_at hl 0 rfl) ?_
      refine lv_aload_n hx hb dX8_readCompared_47 rfl (lv_at hl 2 rfl) ?_
      refine get_f (D := D) (ci := 6) (v := .int y7) (C := RX6) (T := TX6) (N := 12) hx hb hw inAX6 hown hK hP 4 rfl rfl 6 (by decide) (hw _ q_103) (fun _ h9 => h9) t41 dX8_readCompared_48 ?_
      refine call_Vi (wr := [(p0, .inr (6, vL 12 F29)), (h_p0_bytes, .inl (cB, 940, .inl f_p0_bytes)), (h_p0_wordNames, .inl (cJ, 23, .inr (.inl f_p0_wordNames)))]) (As := [.int p1, .int x_p0_kind, .int y7]) (rest := []) hx hb hml hown hw (m_X8_addStep l D cI cJ cB cP cM cZ h0 h_step h_sign h_value Fh x_steps f_step f_sign f_value p1 x_p0_kind y7 _ e_step e_sign e_value e_steps i_x_steps) wV_X8_41_X8_addStep dX8_readCompared_51 hK hP hD hS hA [0, 1, 2, 3] [4, 5, 6] rfl rfl (by decide) (by decide) (by decide) 0 8 rfl rfl GG.fb hG.at hl.1 rfl (Nat.le_of_ble_eq_true rfl) ⟨(Nat.le_of_ble_eq_true rfl), (Nat.le_of_ble_eq_true rfl)⟩ ⟨(Nat.le_of_ble_eq_true rfl), (Nat.le_of_ble_eq_true rfl)⟩ (fun r50 u H locs hp hP hD hS => ?_)
      obtain ⟨F51, y52, g53, g54, g55, t56, t57, t58, rfl, rfl⟩ := hp
      have hP : va_P D vwCl [(p0, .inr (6, vL 12 F29)), (h_p0_bytes, .inl (cB, 940, .inl f_p0_bytes)), (h_p0_wordNames, .inl (cJ, 23, .inr (.inl f_p0_wordNames))), (h0, .inr (8, vL 5 F51)), (h_step, .inl (cI, 40, .inl g53)), (h_sign, .inl (cI, 40, .inl g54)), (h_value, .inl (cI, 40, .inl g55))] H := hP
      have hD : va_D A [(p0, .inr (6, vL 12 F29)), (h_p0_bytes, .inl (cB, 940, .inl f_p0_bytes)), (h_p0_wordNames, .inl (cJ, 23, .inr (.inl f_p0_wordNames))), (h0, .inr (8, vL 5 F51)), (h_step, .inl (cI, 40, .inl g53)), (h_sign, .inl (cI, 40, .inl g54)), (h_value, .inl (cI, 40, .inl g55))] := hD
      refine W.widen (k := 0) (n := 0) (Nat.le_of_ble_eq_true rfl) (Nat.le_of_ble_eq_true rfl) ?_
      refine lv_if_eq (tgt := 61) hx hb dX8_readCompared_54 (by decide) (fun g => absurd g (by decide)) (fun _ => ?_)
      refine lv_iconst (v := 1) hx hb dX8_readCompared_57 (by decide) ?_
      refine lv_goto (tgt := 62) hx hb dX8_readCompared_58 (by decide) ?_
      exact ret_i (v := 1) hx hb hr hlocks hS (hP.sub (ws' := [(h0, .inr (8, vL 5 F51)), (h_step, .inl (cI, 40, .inl g53)), (h_sign, .inl (cI, 40, .inl g54)), (h_value, .inl (cI, 40, .inl g55)), (p0, .inr (6, vL 12 F29)), (h_p0_bytes, .inl (cB, 940, .inl f_p0_bytes)), (h_p0_wordNames, .inl (cJ, 23, .inr (.inl f_p0_wordNames)))]) [3, 4, 5, 6, 0, 1, 2] rfl) (hD.sub (ws' := [(h0, .inr (8, vL 5 F51)), (h_step, .inl (cI, 40, .inl g53)), (h_sign, .inl (cI, 40, .inl g54)), (h_value, .inl (cI, 40, .inl g55)), (p0, .inr (6, vL 12 F29)), (h_p0_bytes, .inl (cB, 940, .inl f_p0_bytes)), (h_p0_wordNames, .inl (cJ, 23, .inr (.inl f_p0_wordNames)))]) [3, 4, 5, 6, 0, 1, 2] (by decide) rfl) dX8_readCompared_62 rfl (Nat.le_of_ble_eq_true rfl) (Nat.le_of_ble_eq_true rfl) ⟨F51, y52, F29, y30, y31, y32, y33, y7, x_p0_faultKind, x_p0_faultPlace, y34, g53, g54, g55, (SAME.tr SAME.rf t56 (by decide)), t57, (ir_wk t58 (by decide) (by decide)), (SAME.tr (SAME.tr SAME.rf t10 (by decide)) t35 (by decide)), t36, t37, t39, t40, t41, (SAME.at t35 (by decide) (SAME.at t10 (by decide) e_p0_faultKind)), (SAME.at t35 (by decide) (SAME.at t10 (by decide) e_p0_faultPlace)), t42, t43, ⟨by decide, by decide⟩, rfl⟩
  · have dc1 : x_p0_kind.toInt ≠ 60 := ne_i (a := x_p0_kind.toInt) (b := 60) rfl rfl c1
    refine lv_iload_n hx hb dX8_readCompared_11 rfl (lv_at hl 0 rfl) ?_
    refine lv_bipush (v := 61) hx hb dX8_readCompared_12 (by decide) ?_
    refine lv_icmp_eq (tgt := 29) hx hb dX8_readCompared_14 (by decide) (fun c59 => ?_) (fun c59 => ?_)
    · have dc59 : x_p0_kind.toInt = 61 := eq_i (a := x_p0_kind.toInt) (b := 61) rfl rfl c59
      have k60 : 61 ≤ x_p0_kind.toInt ∧ x_p0_kind.toInt ≤ 61 := ⟨Int.le_trans (Int.le_refl _) (Int.le_of_eq dc59.symm), Int.le_trans (Int.le_of_eq dc59) (Int.le_refl _)⟩
      refine lv_aload_n hx hb dX8_readCompared_29 rfl (lv_at hl 2 rfl) ?_
      refine call_Vv (wr := [(h0, .inr (8, vL 5 Fh)), (h_step, .inl (cI, 40, .inl f_step)), (h_sign, .inl (cI, 40, .inl f_sign)), (h_value, .inl (cI, 40, .inl f_value))]) (As := []) (rest := []) hx hb hml hown hw (m_X6_advance l D cI cJ cB cP cM cZ p0 h_p0_bytes h_p0_wordNames F_p0_ x_p0_length x_p0_value x_p0_name x_p0_at x_p0_mostBytes f_p0_bytes f_p0_wordNames _ e_p0_bytes e_p0_length i_x_p0_length e_p0_value e_p0_name e_p0_wordNames e_p0_at i_x_p0_at e_p0_mostBytes) wV_X8_38_X6_advance dX8_readCompared_30 hK hP hD hS hA [4, 5, 6] [0, 1, 2, 3] rfl rfl (by decide) (by decide) (by decide) 0 6 rfl rfl GG.fb hG.at hl.1 rfl (Nat.le_of_ble_eq_true rfl) ⟨(Nat.le_of_ble_eq_true rfl), (Nat.le_of_ble_eq_true rfl)⟩ ⟨(Nat.le_of_ble_eq_true rfl), (Nat.le_of_ble_eq_true rfl)⟩ (fun u H locs hp hP hD hS => ?_)
      obtain ⟨F62, y63, y64, y65, y66, y67, t68, t69, t70, t71, t72, t73, t74, t75, rfl⟩ := hp
      have hP : va_P D vwCl [(h0, .inr (8, vL 5 Fh)), (h_step, .inl (cI, 40, .inl f_step)), (h_sign, .inl (cI, 40, .inl f_sign)), (h_value, .inl (cI, 40, .inl f_value)), (p0, .inr (6, vL 12 F62)), (h_p0_bytes, .inl (cB, 940, .inl f_p0_bytes)), (h_p0_wordNames, .inl (cJ, 23, .inr (.inl f_p0_wordNames)))] H := hP
      have hD : va_D A [(h0, .inr (8, vL 5 Fh)), (h_step, .inl (cI, 40, .inl f_step)), (h_sign, .inl (cI, 40, .inl f_sign)), (h_value, .inl (cI, 40, .inl f_value)), (p0, .inr (6, vL 12 F62)), (h_p0_bytes, .inl (cB, 940, .inl f_p0_bytes)), (h_p0_wordNames, .inl (cJ, 23, .inr (.inl f_p0_wordNames)))] := hD
      refine W.widen (k := 0) (n := 0) (Nat.le_of_ble_eq_true rfl) (Nat.le_of_ble_eq_true rfl) ?_
      refine lv_aload_n hx hb dX8_readCompared_33 rfl (lv_at hl 2 rfl) ?_
      refine lv_iconst (v := 0) hx hb dX8_readCompared_34 (by decide) ?_
      refine lv_sipush (v := 999) hx hb dX8_readCompared_35 (by decide) ?_
      have n76 : F62 0 = .ref h_p0_bytes := (SAME.at t68 (by decide) e_p0_bytes)
      have n77 : F62 1 = .int x_p0_length := (SAME.at t68 (by decide) e_p0_length)
      have n78 : F62 9 = .ref h_p0_wordNames := (SAME.at t68 (by decide) e_p0_wordNames)
      have n79 : F62 11 = .int x_p0_mostBytes := (SAME.at t68 (by decide) e_p0_mostBytes)
      refine call_Vi (wr := [(h0, .inr (8, vL 5 Fh)), (h_step, .inl (cI, 40, .inl f_step)), (h_sign, .inl (cI, 40, .inl f_sign)), (h_value, .inl (cI, 40, .inl f_value))]) (As := [.int 0, .int 999]) (rest := []) hx hb hml hown hw (m_X6_takeNumber l D cI cJ cB cP cM cZ p0 h_p0_bytes h_p0_wordNames F62 x_p0_length y63 y64 y65 y66 y67 x_p0_mostBytes f_p0_bytes f_p0_wordNames 0 999 _ n76 n77 i_x_p0_length t69 t70 t72 t73 n78 t74 t75 n79) wV_X8_86_X6_takeNumber dX8_readCompared_38 hK hP hD hS hA [4, 5, 6] [0, 1, 2, 3] rfl rfl (by decide) (by decide) (by decide) 0 6 rfl rfl GG.fb hG.at hl.1 rfl (Nat.le_of_ble_eq_true rfl) ⟨(Nat.le_of_ble_eq_true rfl), (Nat.le_of_ble_eq_true rfl)⟩ ⟨(Nat.le_of_ble_eq_true rfl), (Nat.le_of_ble_eq_true rfl)⟩ (fun r80 u H locs hp hP hD hS => ?_)
      rcases hp with ⟨F81, y82, t83, t84, t85, t86, rfl, rfl⟩ | ⟨F87, y88, y89, y90, y91, y92, t93, t94, t95, t96, t97, t98, t99, t100, t101, t102, t103, t104, rfl, rfl⟩
      · have hP : va_P D vwCl [(h0, .inr (8, vL 5 Fh)), (h_step, .inl (cI, 40, .inl f_step)), (h_sign, .inl (cI, 40, .inl f_sign)), (h_value, .inl (cI, 40, .inl f_value)), (p0, .inr (6, vL 12 F81)), (h_p0_bytes, .inl (cB, 940, .inl f_p0_bytes)), (h_p0_wordNames, .inl (cJ, 23, .inr (.inl f_p0_wordNames)))] H := hP
        have hD : va_D A [(h0, .inr (8, vL 5 Fh)), (h_step, .inl (cI, 40, .inl f_step)), (h_sign, .inl (cI, 40, .inl f_sign)), (h_value, .inl (cI, 40, .inl f_value)), (p0, .inr (6, vL 12 F81)), (h_p0_bytes, .inl (cB, 940, .inl f_p0_bytes)), (h_p0_wordNames, .inl (cJ, 23, .inr (.inl f_p0_wordNames)))] := hD
        refine W.widen (k := 0) (n := 0) (Nat.le_of_ble_eq_true rfl) (Nat.le_of_ble_eq_true rfl) ?_
        refine lv_if_eq (tgt := 61) hx hb dX8_readCompared_41 (by decide) (fun _ => ?_) (fun g => absurd (by decide) g)
        refine lv_iconst (v := 0) hx hb dX8_readCompared_61 (by decide) ?_
        exact ret_i (v := 0) hx hb hr hlocks hS hP hD dX8_readCompared_62 rfl (Nat.le_of_ble_eq_true rfl) (Nat.le_of_ble_eq_true rfl) ⟨Fh, x_steps, F81, y63, y64, y65, y66, x_p0_number, y82, y64, y67, f_step, f_sign, f_value, SAME.rf, e_steps, i_x_steps, (SAME.tr (SAME.tr SAME.rf t68 (by decide)) t83 (by decide)), (SAME.at t83 (by decide) t69), (SAME.at t83 (by decide) t70), (SAME.at t83 (by decide) t72), (SAME.at t83 (by decide) t73), (SAME.at t83 (by decide) (SAME.at t68 (by decide) e_p0_number)), t84, t86, (SAME.at t83 (by decide) t74), t75, ⟨by decide, by decide⟩, rfl⟩
      · have hP : va_P D vwCl [(h0, .inr (8, vL 5 Fh)), (h_step, .inl (cI, 40, .inl f_step)), (h_sign, .inl (cI, 40, .inl f_sign)), (h_value, .inl (cI, 40, .inl f_value)), (p0, .inr (6, vL 12 F87)), (h_p0_bytes, .inl (cB, 940, .inl f_p0_bytes)), (h_p0_wordNames, .inl (cJ, 23, .inr (.inl f_p0_wordNames)))] H := hP
        have hD : va_D A [(h0, .inr (8, vL 5 Fh)), (h_step, .inl (cI, 40, .inl f_step)), (h_sign, .inl (cI, 40, .inl f_sign)), (h_value, .inl (cI, 40, .inl f_value)), (p0, .inr (6, vL 12 F87)), (h_p0_bytes, .inl (cB, 940, .inl f_p0_bytes)), (h_p0_wordNames, .inl (cJ, 23, .inr (.inl f_p0_wordNames)))] := hD
        refine W.widen (k := 0) (n := 0) (Nat.le_of_ble_eq_true rfl) (Nat.le_of_ble_eq_true rfl) ?_
        have k105 : 3 ≤ y63.toInt ∧ y63.toInt ≤ 3 := ⟨Int.le_trans (Int.le_refl _) (Int.le_of_eq t102.symm), Int.le_trans (Int.le_of_eq t102) (Int.le_refl _)⟩
        have k106 : 0 ≤ y65.toInt ∧ y65.toInt ≤ 2147483647 := ⟨Int.le_trans (Int.le_refl _) t103, (ir_any _).2⟩
        have k107 : 0 ≤ y65.toInt ∧ y65.toInt ≤ 999 := ⟨k106.1, Int.le_trans t104 (Int.le_refl _)⟩
        refine lv_if_eq (tgt := 61) hx hb dX8_readCompared_41 (by decide) (fun g => absurd g (by decide)) (fun _ => ?_)
        refine lv_aload_n hx hb dX8_readCompared_44 rfl (lv_at hl 1 rfl) ?_
        refine lv_iload_n hx hb dX8_readCompared_45 rfl (lv_at hl 3 rfl) ?_
        refine lv_iload_n hx hb dX8_readCompared_46 rfl (lv_at hl 0 rfl) ?_
        refine lv_aload_n hx hb dX8_readCompared_47 rfl (lv_at hl 2 rfl) ?_
        refine get_f (D := D) (ci := 6) (v := .int y65) (C := RX6) (T := TX6) (N := 12) hx hb hw inAX6 hown hK hP 4 rfl rfl 6 (by decide) (hw _ q_103) (fun _ h9 => h9) t99 dX8_readCompared_48 ?_
        refine call_Vi (wr := [(p0, .inr (6, vL 12 F87)), (h_p0_bytes, .inl (cB, 940, .inl f_p0_bytes)), (h_p0_wordNames, .inl (cJ, 23, .inr (.inl f_p0_wordNames)))]) (As := [.int p1, .int x_p0_kind, .int y65]) (rest := []) hx hb hml hown hw (m_X8_addStep l D cI cJ cB cP cM cZ h0 h_step h_sign h_value Fh x_steps f_step f_sign f_value p1 x_p0_kind y65 _ e_step e_sign e_value e_steps i_x_steps) wV_X8_41_X8_addStep dX8_readCompared_51 hK hP hD hS hA [0, 1, 2, 3] [4, 5, 6] rfl rfl (by decide) (by decide) (by decide) 0 8 rfl rfl GG.fb hG.at hl.1 rfl (Nat.le_of_ble_eq_true rfl) ⟨(Nat.le_of_ble_eq_true rfl), (Nat.le_of_ble_eq_true rfl)⟩ ⟨(Nat.le_of_ble_eq_true rfl), (Nat.le_of_ble_eq_true rfl)⟩ (fun r108 u H locs hp hP hD hS => ?_)
        obtain ⟨F109, y110, g111, g112, g113, t114, t115, t116, rfl, rfl⟩ := hp
        have hP : va_P D vwCl [(p0, .inr (6, vL 12 F87)), (h_p0_bytes, .inl (cB, 940, .inl f_p0_bytes)), (h_p0_wordNames, .inl (cJ, 23, .inr (.inl f_p0_wordNames))), (h0, .inr (8, vL 5 F109)), (h_step, .inl (cI, 40, .inl g111)), (h_sign, .inl (cI, 40, .inl g112)), (h_value, .inl (cI, 40, .inl g113))] H := hP
        have hD : va_D A [(p0, .inr (6, vL 12 F87)), (h_p0_bytes, .inl (cB, 940, .inl f_p0_bytes)), (h_p0_wordNames, .inl (cJ, 23, .inr (.inl f_p0_wordNames))), (h0, .inr (8, vL 5 F109)), (h_step, .inl (cI, 40, .inl g111)), (h_sign, .inl (cI, 40, .inl g112)), (h_value, .inl (cI, 40, .inl g113))] := hD
        refine W.widen (k := 0) (n := 0) (Nat.le_of_ble_eq_true rfl) (Nat.le_of_ble_eq_true rfl) ?_
        refine lv_if_eq (tgt := 61) hx hb dX8_readCompared_54 (by decide) (fun g => absurd g (by decide)) (fun _ => ?_)
        refine lv_iconst (v := 1) hx hb dX8_readCompared_57 (by decide) ?_
        refine lv_goto (tgt := 62) hx hb dX8_readCompared_58 (by decide) ?_
        exact ret_i (v := 1) hx hb hr hlocks hS (hP.sub (ws' := [(h0, .inr (8, vL 5 F109)), (h_step, .inl (cI, 40, .inl g111)), (h_sign, .inl (cI, 40, .inl g112)), (h_value, .inl (cI, 40, .inl g113)), (p0, .inr (6, vL 12 F87)), (h_p0_bytes, .inl (cB, 940, .inl f_p0_bytes)), (h_p0_wordNames, .inl (cJ, 23, .inr (.inl f_p0_wordNames)))]) [3, 4, 5, 6, 0, 1, 2] rfl) (hD.sub (ws' := [(h0, .inr (8, vL 5 F109)), (h_step, .inl (cI, 40, .inl g111)), (h_sign, .inl (cI, 40, .inl g112)), (h_value, .inl (cI, 40, .inl g113)), (p0, .inr (6, vL 12 F87)), (h_p0_bytes, .inl (cB, 940, .inl f_p0_bytes)), (h_p0_wordNames, .inl (cJ, 23, .inr (.inl f_p0_wordNames)))]) [3, 4, 5, 6, 0, 1, 2] (by decide) rfl) dX8_readCompared_62 rfl (Nat.le_of_ble_eq_true rfl) (Nat.le_of_ble_eq_true rfl) ⟨F109, y110, F87, y88, y89, y90, y91, y65, x_p0_faultKind, x_p0_faultPlace, y92, g111, g112, g113, (SAME.tr SAME.rf t114 (by decide)), t115, (ir_wk t116 (by decide) (by decide)), (SAME.tr (SAME.tr SAME.rf t68 (by decide)) t93 (by decide)), t94, t95, t97, t98, t99, (SAME.at t93 (by decide) (SAME.at t68 (by decide) e_p0_faultKind)), (SAME.at t93 (by decide) (SAME.at t68 (by decide) e_p0_faultPlace)), t100, t101, ⟨by decide, by decide⟩, rfl⟩
    · have dc59 : x_p0_kind.toInt ≠ 61 := ne_i (a := x_p0_kind.toInt) (b := 61) rfl rfl c59
      refine lv_iload_n hx hb dX8_readCompared_17 rfl (lv_at hl 0 rfl) ?_
      refine lv_bipush (v := 62) hx hb dX8_readCompared_18 (by decide) ?_
      refine lv_icmp_eq (tgt := 29) hx hb dX8_readCompared_20 (by decide) (fun c117 => ?_) (fun c117 => ?_)
      · have dc117 : x_p0_kind.toInt = 62 := eq_i (a := x_p0_kind.toInt) (b := 62) rfl rfl c117
        have k118 : 62 ≤ x_p0_kind.toInt ∧ x_p0_kind.toInt ≤ 62 := ⟨Int.le_trans (Int.le_refl _) (Int.le_of_eq dc117.symm), Int.le_trans (Int.le_of_eq dc117) (Int.le_refl _)⟩
        refine lv_aload_n hx hb dX8_readCompared_29 rfl (lv_at hl 2 rfl) ?_
        refine call_Vv (wr := [(h0, .inr (8, vL 5 Fh)), (h_step, .inl (cI, 40, .inl f_step)), (h_sign, .inl (cI, 40, .inl f_sign)), (h_value, .inl (cI, 40, .inl f_value))]) (As := []) (rest := []) hx hb hml hown hw (m_X6_advance l D cI cJ cB cP cM cZ p0 h_p0_bytes h_p0_wordNames F_p0_ x_p0_length x_p0_value x_p0_name x_p0_at x_p0_mostBytes f_p0_bytes f_p0_wordNames _ e_p0_bytes e_p0_length i_x_p0_length e_p0_value e_p0_name e_p0_wordNames e_p0_at i_x_p0_at e_p0_mostBytes) wV_X8_38_X6_advance dX8_readCompared_30 hK hP hD hS hA [4, 5, 6] [0, 1, 2, 3] rfl rfl (by decide) (by decide) (by decide) 0 6 rfl rfl GG.fb hG.at hl.1 rfl (Nat.le_of_ble_eq_true rfl) ⟨(Nat.le_of_ble_eq_true rfl), (Nat.le_of_ble_eq_true rfl)⟩ ⟨(Nat.le_of_ble_eq_true rfl), (Nat.le_of_ble_eq_true rfl)⟩ (fun u H locs hp hP hD hS => ?_)
        obtain ⟨F120, y121, y122, y123, y124, y125, t126, t127, t128, t129, t130, t131, t132, t133, rfl⟩ := hp
        have hP : va_P D vwCl [(h0, .inr (8, vL 5 Fh)), (h_step, .inl (cI, 40, .inl f_step)), (h_sign, .inl (cI, 40, .inl f_sign)), (h_value, .inl (cI, 40, .inl f_value)), (p0, .inr (6, vL 12 F120)), (h_p0_bytes, .inl (cB, 940, .inl f_p0_bytes)), (h_p0_wordNames, .inl (cJ, 23, .inr (.inl f_p0_wordNames)))] H := hP
        have hD : va_D A [(h0, .inr (8, vL 5 Fh)), (h_step, .inl (cI, 40, .inl f_step)), (h_sign, .inl (cI, 40, .inl f_sign)), (h_value, .inl (cI, 40, .inl f_value)), (p0, .inr (6, vL 12 F120)), (h_p0_bytes, .inl (cB, 940, .inl f_p0_bytes)), (h_p0_wordNames, .inl (cJ, 23, .inr (.inl f_p0_wordNames)))] := hD
        refine W.widen (k := 0) (n := 0) (Nat.le_of_ble_eq_true rfl) (Nat.le_of_ble_eq_true rfl) ?_
        refine lv_aload_n hx hb dX8_readCompared_33 rfl (lv_at hl 2 rfl) ?_
        refine lv_iconst (v := 0) hx hb dX8_readCompared_34 (by decide) ?_
        refine lv_sipush (v := 999) hx hb dX8_readCompared_35 (by decide) ?_
        have n134 : F120 0 = .ref h_p0_bytes := (SAME.at t126 (by decide) e_p0_bytes)
        have n135 : F120 1 = .int x_p0_length := (SAME.at t126 (by decide) e_p0_length)
        have n136 : F120 9 = .ref h_p0_wordNames := (SAME.at t126 (by decide) e_p0_wordNames)
        have n137 : F120 11 = .int x_p0_mostBytes := (SAME.at t126 (by decide) e_p0_mostBytes)
        refine call_Vi (wr := [(h0, .inr (8, vL 5 Fh)), (h_step, .inl (cI, 40, .inl f_step)), (h_sign, .inl (cI, 40, .inl f_sign)), (h_value, .inl (cI, 40, .inl f_value))]) (As := [.int 0, .int 999]) (rest := []) hx hb hml hown hw (m_X6_takeNumber l D cI cJ cB cP cM cZ p0 h_p0_bytes h_p0_wordNames F120 x_p0_length y121 y122 y123 y124 y125 x_p0_mostBytes f_p0_bytes f_p0_wordNames 0 999 _ n134 n135 i_x_p0_length t127 t128 t130 t131 n136 t132 t133 n137) wV_X8_86_X6_takeNumber dX8_readCompared_38 hK hP hD hS hA [4, 5, 6] [0, 1, 2, 3] rfl rfl (by decide) (by decide) (by decide) 0 6 rfl rfl GG.fb hG.at hl.1 rfl (Nat.le_of_ble_eq_true rfl) ⟨(Nat.le_of_ble_eq_true rfl), (Nat.le_of_ble_eq_true rfl)⟩ ⟨(Nat.le_of_ble_eq_true rfl), (Nat.le_of_ble_eq_true rfl)⟩ (fun r138 u H locs hp hP hD hS => ?_)
        rcases hp with ⟨F139, y140, t141, t142, t143, t144, rfl, rfl⟩ | ⟨F145, y146, y147, y148, y149, y150, t151, t152, t153, t154, t155, t156, t157, t158, t159, t160, t161, t162, rfl, rfl⟩
        · have hP : va_P D vwCl [(h0, .inr (8, vL 5 Fh)), (h_step, .inl (cI, 40, .inl f_step)), (h_sign, .inl (cI, 40, .inl f_sign)), (h_value, .inl (cI, 40, .inl f_value)), (p0, .inr (6, vL 12 F139)), (h_p0_bytes, .inl (cB, 940, .inl f_p0_bytes)), (h_p0_wordNames, .inl (cJ, 23, .inr (.inl f_p0_wordNames)))] H := hP
          have hD : va_D A [(h0, .inr (8, vL 5 Fh)), (h_step, .inl (cI, 40, .inl f_step)), (h_sign, .inl (cI, 40, .inl f_sign)), (h_value, .inl (cI, 40, .inl f_value)), (p0, .inr (6, vL 12 F139)), (h_p0_bytes, .inl (cB, 940, .inl f_p0_bytes)), (h_p0_wordNames, .inl (cJ, 23, .inr (.inl f_p0_wordNames)))] := hD
          refine W.widen (k := 0) (n := 0) (Nat.le_of_ble_eq_true rfl) (Nat.le_of_ble_eq_true rfl) ?_
          refine lv_if_eq (tgt := 61) hx hb dX8_readCompared_41 (by decide) (fun _ => ?_) (fun g => absurd (by decide) g)
          refine lv_iconst (v := 0) hx hb dX8_readCompared_61 (by decide) ?_
          exact ret_i (v := 0) hx hb hr hlocks hS hP hD dX8_readCompared_62 rfl (Nat.le_of_ble_eq_true rfl) (Nat.le_of_ble_eq_true rfl) ⟨Fh, x_steps, F139, y121, y122, y123, y124, x_p0_number, y140, y122, y125, f_step, f_sign, f_value, SAME.rf, e_steps, i_x_steps, (SAME.tr (SAME.tr SAME.rf t126 (by decide)) t141 (by decide)), (SAME.at t141 (by decide) t127), (SAME.at t141 (by decide) t128), (SAME.at t141 (by decide) t130), (SAME.at t141 (by decide) t131), (SAME.at t141 (by decide) (SAME.at t126 (by decide) e_p0_number)), t142, t144, (SAME.at t141 (by decide) t132), t133, ⟨by decide, by decide⟩, rfl⟩
        · have hP : va_P D vwCl [(h0, .inr (8, vL 5 Fh)), (h_step, .inl (cI, 40, .inl f_step)), (h_sign, .inl (cI, 40, .inl f_sign)), (h_value, .inl (cI, 40, .inl f_value)), (p0, .inr (6, vL 12 F145)), (h_p0_bytes, .inl (cB, 940, .inl f_p0_bytes)), (h_p0_wordNames, .inl (cJ, 23, .inr (.inl f_p0_wordNames)))] H := hP
          have hD : va_D A [(h0, .inr (8, vL 5 Fh)), (h_step, .inl (cI, 40, .inl f_step)), (h_sign, .inl (cI, 40, .inl f_sign)), (h_value, .inl (cI, 40, .inl f_value)), (p0, .inr (6, vL 12 F145)), (h_p0_bytes, .inl (cB, 940, .inl f_p0_bytes)), (h_p0_wordNames, .inl (cJ, 23, .inr (.inl f_p0_wordNames)))] := hD
          refine W.widen (k := 0) (n := 0) (Nat.le_of_ble_eq_true rfl) (Nat.le_of_ble_eq_true rfl) ?_
          have k163 : 3 ≤ y121.toInt ∧ y121.toInt ≤ 3 := ⟨Int.le_trans (Int.le_refl _) (Int.le_of_eq t160.symm), Int.le_trans (Int.le_of_eq t160) (Int.le_refl _)⟩
          have k164 : 0 ≤ y123.toInt ∧ y123.toInt ≤ 2147483647 := ⟨Int.le_trans (Int.le_refl _) t161, (ir_any _).2⟩
          have k165 : 0 ≤ y123.toInt ∧ y123.toInt ≤ 999 := ⟨k164.1, Int.le_trans t162 (Int.le_refl _)⟩
          refine lv_if_eq (tgt := 61) hx hb dX8_readCompared_41 (by decide) (fun g => absurd g (by decide)) (fun _ => ?_)
          refine lv_aload_n hx hb dX8_readCompared_44 rfl (lv_at hl 1 rfl) ?_
          refine lv_iload_n hx hb dX8_readCompared_45 rfl (lv_at hl 3 rfl) ?_
          refine lv_iload_n hx hb dX8_readCompared_46 rfl (lv_at hl 0 rfl) ?_
          refine lv_aload_n hx hb dX8_readCompared_47 rfl (lv_at hl 2 rfl) ?_
          refine get_f (D := D) (ci := 6) (v := .int y123) (C := RX6) (T := TX6) (N := 12) hx hb hw inAX6 hown hK hP 4 rfl rfl 6 (by decide) (hw _ q_103) (fun _ h9 => h9) t157 dX8_readCompared_48 ?_
          refine call_Vi (wr := [(p0, .inr (6, vL 12 F145)), (h_p0_bytes, .inl (cB, 940, .inl f_p0_bytes)), (h_p0_wordNames, .inl (cJ, 23, .inr (.inl f_p0_wordNames)))]) (As := [.int p1, .int x_p0_kind, .int y123]) (rest := []) hx hb hml hown hw (m_X8_addStep l D cI cJ cB cP cM cZ h0 h_step h_sign h_value Fh x_steps f_step f_sign f_value p1 x_p0_kind y123 _ e_step e_sign e_value e_steps i_x_steps) wV_X8_41_X8_addStep dX8_readCompared_51 hK hP hD hS hA [0, 1, 2, 3] [4, 5, 6] rfl rfl (by decide) (by decide) (by decide) 0 8 rfl rfl GG.fb hG.at hl.1 rfl (Nat.le_of_ble_eq_true rfl) ⟨(Nat.le_of_ble_eq_true rfl), (Nat.le_of_ble_eq_true rfl)⟩ ⟨(Nat.le_of_ble_eq_true rfl), (Nat.le_of_ble_eq_true rfl)⟩ (fun r166 u H locs hp hP hD hS => ?_)
          obtain ⟨F167, y168, g169, g170, g171, t172, t173, t174, rfl, rfl⟩ := hp
          have hP : va_P D vwCl [(p0, .inr (6, vL 12 F145)), (h_p0_bytes, .inl (cB, 940, .inl f_p0_bytes)), (h_p0_wordNames, .inl (cJ, 23, .inr (.inl f_p0_wordNames))), (h0, .inr (8, vL 5 F167)), (h_step, .inl (cI, 40, .inl g169)), (h_sign, .inl (cI, 40, .inl g170)), (h_value, .inl (cI, 40, .inl g171))] H := hP
          have hD : va_D A [(p0, .inr (6, vL 12 F145)), (h_p0_bytes, .inl (cB, 940, .inl f_p0_bytes)), (h_p0_wordNames, .inl (cJ, 23, .inr (.inl f_p0_wordNames))), (h0, .inr (8, vL 5 F167)), (h_step, .inl (cI, 40, .inl g169)), (h_sign, .inl (cI, 40, .inl g170)), (h_value, .inl (cI, 40, .inl g171))] := hD
          refine W.widen (k := 0) (n := 0) (Nat.le_of_ble_eq_true rfl) (Nat.le_of_ble_eq_true rfl) ?_
          refine lv_if_eq (tgt := 61) hx hb dX8_readCompared_54 (by decide) (fun g => absurd g (by decide)) (fun _ => ?_)
          refine lv_iconst (v := 1) hx hb dX8_readCompared_57 (by decide) ?_
          refine lv_goto (tgt := 62) hx hb dX8_readCompared_58 (by decide) ?_
          exact ret_i (v := 1) hx hb hr hlocks hS (hP.sub (ws' := [(h0, .inr (8, vL 5 F167)), (h_step, .inl (cI, 40, .inl g169)), (h_sign, .inl (cI, 40, .inl g170)), (h_value, .inl (cI, 40, .inl g171)), (p0, .inr (6, vL 12 F145)), (h_p0_bytes, .inl (cB, 940, .inl f_p0_bytes)), (h_p0_wordNames, .inl (cJ, 23, .inr (.inl f_p0_wordNames)))]) [3, 4, 5, 6, 0, 1, 2] rfl) (hD.sub (ws' := [(h0, .inr (8, vL 5 F167)), (h_step, .inl (cI, 40, .inl g169)), (h_sign, .inl (cI, 40, .inl g170)), (h_value, .inl (cI, 40, .inl g171)), (p0, .inr (6, vL 12 F145)), (h_p0_bytes, .inl (cB, 940, .inl f_p0_bytes)), (h_p0_wordNames, .inl (cJ, 23, .inr (.inl f_p0_wordNames)))]) [3, 4, 5, 6, 0, 1, 2] (by decide) rfl) dX8_readCompared_62 rfl (Nat.le_of_ble_eq_true rfl) (Nat.le_of_ble_eq_true rfl) ⟨F167, y168, F145, y146, y147, y148, y149, y123, x_p0_faultKind, x_p0_faultPlace, y150, g169, g170, g171, (SAME.tr SAME.rf t172 (by decide)), t173, (ir_wk t174 (by decide) (by decide)), (SAME.tr (SAME.tr SAME.rf t126 (by decide)) t151 (by decide)), t152, t153, t155, t156, t157, (SAME.at t151 (by decide) (SAME.at t126 (by decide) e_p0_faultKind)), (SAME.at t151 (by decide) (SAME.at t126 (by decide) e_p0_faultPlace)), t158, t159, ⟨by decide, by decide⟩, rfl⟩
      · have dc117 : x_p0_kind.toInt ≠ 62 := ne_i (a := x_p0_kind.toInt) (b := 62) rfl rfl c117
        refine lv_aload_n hx hb dX8_readCompared_23 rfl (lv_at hl 2 rfl) ?_
        refine lv_iconst (v := 1) hx hb dX8_readCompared_24 (by decide) ?_
        refine call_Vi (wr := [(h0, .inr (8, vL 5 Fh)), (h_step, .inl (cI, 40, .inl f_step)), (h_sign, .inl (cI, 40, .inl f_sign)), (h_value, .inl (cI, 40, .inl f_value)), (h_p0_bytes, .inl (cB, 940, .inl f_p0_bytes)), (h_p0_wordNames, .inl (cJ, 23, .inr (.inl f_p0_wordNames)))]) (As := [.int 1]) (rest := []) hx hb hml hown hw (m_X6_fail l D cI cJ cB cP cM cZ p0 F_p0_ x_p0_place 1 _ e_p0_place) wV_X8_48_X6_fail dX8_readCompared_25 hK hP hD hS hA [4] [0, 1, 2, 3, 5, 6] rfl rfl (by decide) (by decide) (by decide) 0 6 rfl rfl GG.fb hG.at hl.1 rfl (Nat.le_of_ble_eq_true rfl) ⟨(Nat.le_of_ble_eq_true rfl), (Nat.le_of_ble_eq_true rfl)⟩ ⟨(Nat.le_of_ble_eq_true rfl), (Nat.le_of_ble_eq_true rfl)⟩ (fun r175 u H locs hp hP hD hS => ?_)
        obtain ⟨F176, t177, t178, t179, rfl, rfl⟩ := hp
        have hP : va_P D vwCl [(h0, .inr (8, vL 5 Fh)), (h_step, .inl (cI, 40, .inl f_step)), (h_sign, .inl (cI, 40, .inl f_sign)), (h_value, .inl (cI, 40, .inl f_value)), (h_p0_bytes, .inl (cB, 940, .inl f_p0_bytes)), (h_p0_wordNames, .inl (cJ, 23, .inr (.inl f_p0_wordNames))), (p0, .inr (6, vL 12 F176))] H := hP
        have hD : va_D A [(h0, .inr (8, vL 5 Fh)), (h_step, .inl (cI, 40, .inl f_step)), (h_sign, .inl (cI, 40, .inl f_sign)), (h_value, .inl (cI, 40, .inl f_value)), (h_p0_bytes, .inl (cB, 940, .inl f_p0_bytes)), (h_p0_wordNames, .inl (cJ, 23, .inr (.inl f_p0_wordNames))), (p0, .inr (6, vL 12 F176))] := hD
        refine W.widen (k := 0) (n := 0) (Nat.le_of_ble_eq_true rfl) (Nat.le_of_ble_eq_true rfl) ?_
        exact ret_i (v := 0) hx hb hr hlocks hS (hP.sub (ws' := [(h0, .inr (8, vL 5 Fh)), (h_step, .inl (cI, 40, .inl f_step)), (h_sign, .inl (cI, 40, .inl f_sign)), (h_value, .inl (cI, 40, .inl f_value)), (p0, .inr (6, vL 12 F176)), (h_p0_bytes, .inl (cB, 940, .inl f_p0_bytes)), (h_p0_wordNames, .inl (cJ, 23, .inr (.inl f_p0_wordNames)))]) [0, 1, 2, 3, 6, 4, 5] rfl) (hD.sub (ws' := [(h0, .inr (8, vL 5 Fh)), (h_step, .inl (cI, 40, .inl f_step)), (h_sign, .inl (cI, 40, .inl f_sign)), (h_value, .inl (cI, 40, .inl f_value)), (p0, .inr (6, vL 12 F176)), (h_p0_bytes, .inl (cB, 940, .inl f_p0_bytes)), (h_p0_wordNames, .inl (cJ, 23, .inr (.inl f_p0_wordNames)))]) [0, 1, 2, 3, 6, 4, 5] (by decide) rfl) dX8_readCompared_28 rfl (Nat.le_of_ble_eq_true rfl) (Nat.le_of_ble_eq_true rfl) ⟨Fh, x_steps, F176, x_p0_kind, x_p0_place, x_p0_value, x_p0_name, x_p0_number, 1, x_p0_place, x_p0_at, f_step, f_sign, f_value, SAME.rf, e_steps, i_x_steps, (SAME.tr SAME.rf t177 (by decide)), (SAME.at t177 (by decide) e_p0_kind), (SAME.at t177 (by decide) e_p0_place), (SAME.at t177 (by decide) e_p0_value), (SAME.at t177 (by decide) e_p0_name), (SAME.at t177 (by decide) e_p0_number), t178, t179, (SAME.at t177 (by decide) e_p0_at), i_x_p0_at, ⟨by decide, by decide⟩, rfl⟩
set_option maxHeartbeats 4000000 in
set_option maxRecDepth 100000 in
theorem m_X8_readAhead (l : Launch) (D : va_G) (cI cJ cB cP cM cZ : ClassId) (h0 : Nat) (h_step : Nat) (h_sign : Nat) (h_value : Nat) (p0 : Nat) (h_p0_bytes : Nat) (h_p0_wordNames : Nat) (p1 : Nat) (h_p1_manName : Nat) (Fh : Nat → Value) (x_steps : Int32) (f_step : Nat → Int32) (f_sign : Nat → Int32) (f_value : Nat → Int32) (F_p0_ : Nat → Value) (x_p0_length : Int32) (x_p0_kind : Int32) (x_p0_place : Int32) (x_p0_value : Int32) (x_p0_name : Int64) (x_p0_faultKind : Int32) (x_p0_faultPlace : Int32) (x_p0_at : Int32) (x_p0_mostBytes : Int32) (f_p0_bytes : Nat → Int32) (f_p0_wordNames : Nat → Int64) (F_p1_ : Nat → Value) (x_p1_men : Int32) (f_p1_manName : Nat → Int64) (sz : Nat) (e_step : Fh 0 = .ref h_step) (e_sign : Fh 1 = .ref h_sign) (e_value : Fh 2 = .ref h_value) (e_steps : Fh 3 = .int x_steps) (i_x_steps : IR 0 40 x_steps) (e_p0_bytes : F_p0_ 0 = .ref h_p0_bytes) (e_p0_length : F_p0_ 1 = .int x_p0_length) (i_x_p0_length : IR 0 940 x_p0_length) (e_p0_kind : F_p0_ 2 = .int x_p0_kind) (e_p0_place : F_p0_ 3 = .int x_p0_place) (e_p0_value : F_p0_ 4 = .int x_p0_value) (e_p0_name : F_p0_ 5 = .long x_p0_name) (e_p0_faultKind : F_p0_ 7 = .int x_p0_faultKind) (e_p0_faultPlace : F_p0_ 8 = .int x_p0_faultPlace) (e_p0_wordNames : F_p0_ 9 = .ref h_p0_wordNames) (e_p0_at : F_p0_ 10 = .int x_p0_at) (i_x_p0_at : IR 0 940 x_p0_at) (e_p0_mostBytes : F_p0_ 11 = .int x_p0_mostBytes) (e_p1_manName : F_p1_ 2 = .ref h_p1_manName) (e_p1_men : F_p1_ 13 = .int x_p1_men) (i_x_p1_men : IR 0 12 x_p1_men) : CI l yX8_readAhead cX8_readAhead 4 (some .boolean) { frames := 2, cells := 0, slots := 0, locals := 46 } (GG D cI cJ cB cP cM cZ) D [(h0, .inr (8, vL 5 Fh)), (h_step, .inl (cI, 40, .inl f_step)), (h_sign, .inl (cI, 40, .inl f_sign)), (h_value, .inl (cI, 40, .inl f_value)), (p0, .inr (6, vL 12 F_p0_)), (h_p0_bytes, .inl (cB, 940, .inl f_p0_bytes)), (h_p0_wordNames, .inl (cJ, 23, .inr (.inl f_p0_wordNames))), (p1, .inr (1, vL 18 F_p1_)), (h_p1_manName, .inl (cJ, 12, .inr (.inl f_p1_manName)))] sz [.ref h0, .ref p0, .ref p1] (fun (r : Int32) (u : va_W) => ∃ (Gh : Nat → Value) (y_steps : Int32) (G_p0_ : Nat → Value) (y_p0_kind : Int32) (y_p0_place : Int32) (y_p0_value : Int32) (y_p0_name : Int64) (y_p0_faultKind : Int32) (y_p0_faultPlace : Int32) (y_p0_at : Int32) (g_step : Nat → Int32) (g_sign : Nat → Int32) (g_value : Nat → Int32), SAME [3] Fh Gh ∧ Gh 3 = .int y_steps ∧ IR 0 40 y_steps ∧ SAME [2, 3, 4, 5, 7, 8, 10] F_p0_ G_p0_ ∧ G_p0_ 2 = .int y_p0_kind ∧ G_p0_ 3 = .int y_p0_place ∧ G_p0_ 4 = .int y_p0_value ∧ G_p0_ 5 = .long y_p0_name ∧ G_p0_ 7 = .int y_p0_faultKind ∧ G_p0_ 8 = .int y_p0_faultPlace ∧ G_p0_ 10 = .int y_p0_at ∧ IR 0 940 y_p0_at ∧ IR 0 1 r ∧ u = [(h0, .inr (8, vL 5 Gh)), (h_step, .inl (cI, 40, .inl g_step)), (h_sign, .inl (cI, 40, .inl g_sign)), (h_value, .inl (cI, 40, .inl g_value)), (p0, .inr (6, vL 12 G_p0_)), (h_p0_bytes, .inl (cB, 940, .inl f_p0_bytes)), (h_p0_wordNames, .inl (cJ, 23, .inr (.inl f_p0_wordNames))), (p1, .inr (1, vL 18 F_p1_)), (h_p1_manName, .inl (cJ, 12, .inr (.inl f_p1_manName)))]) := by
  refine CI_mk (by decide) (Nat.le_of_ble_eq_true rfl) ?_
  intro p e s m below meth c A ls E hAe hG hsz hP hD hA hS hl
  obtain ⟨hx, hb, hr, hw, hown, hlocks, hml, hnm⟩ := E
  have hK := hG.1
  have i_x_steps : 0 ≤ x_steps.toInt ∧ x_steps.toInt ≤ 40 := i_x_steps
  have i_x_p0_length : 0 ≤ x_p0_length.toInt ∧ x_p0_length.toInt ≤ 940 := i_x_p0_length
  have i_x_p0_at : 0 ≤ x_p0_at.toInt ∧ x_p0_at.toInt ≤ 940 := i_x_p0_at
  have i_x_p1_men : 0 ≤ x_p1_men.toInt ∧ x_p1_men.toInt ≤ 12 := i_x_p1_men
  have hl : lv_has ls 4 [(0, .ref h0), (1, .ref p0), (2, .ref p1)] := hl
  refine lv_aload_n hx hb dX8_readAhead_0 rfl (lv_at hl 1 rfl) ?_
  refine call_Vi (wr := [(h0, .inr (8, vL 5 Fh)), (h_step, .inl (cI, 40, .inl f_step)), (h_sign, .inl (cI, 40, .inl f_sign)), (h_value, .inl (cI, 40, .inl f_value)), (h_p0_bytes, .inl (cB, 940, .inl f_p0_bytes)), (h_p0_wordNames, .inl (cJ, 23, .inr (.inl f_p0_wordNames))), (p1, .inr (1, vL 18 F_p1_)), (h_p1_manName, .inl (cJ, 12, .inr (.inl f_p1_manName)))]) (As := []) (rest := []) hx hb hml hown hw (m_X6_isName l D cI cJ cB cP cM cZ p0 F_p0_ x_p0_kind x_p0_value _ e_p0_kind e_p0_value) wV_X8_72_X6_isName dX8_readAhead_1 hK hP hD hS hA [4] [0, 1, 2, 3, 5, 6, 7, 8] rfl rfl (by decide) (by decide) (by decide) 0 6 rfl rfl GG.fb hG.at hl.1 rfl (Nat.le_of_ble_eq_true rfl) ⟨(Nat.le_of_ble_eq_true rfl), (Nat.le_of_ble_eq_true rfl)⟩ ⟨(Nat.le_of_ble_eq_true rfl), (Nat.le_of_ble_eq_true rfl)⟩ (fun r1 u H locs hp hP hD hS => ?_)
  obtain ⟨t2, rfl⟩ := hp
  have hP : va_P D vwCl [(h0, .inr (8, vL 5 Fh)), (h_step, .inl (cI, 40, .inl f_step)), (h_sign, .inl (cI, 40, .inl f_sign)), (h_value, .inl (cI, 40, .inl f_value)), (h_p0_bytes, .inl (cB, 940, .inl f_p0_bytes)), (h_p0_wordNames, .inl (cJ, 23, .inr (.inl f_p0_wordNames))), (p1, .inr (1, vL 18 F_p1_)), (h_p1_manName, .inl (cJ, 12, .inr (.inl f_p1_manName))), (p0, .inr (6, vL 12 F_p0_))] H := hP
  have hD : va_D A [(h0, .inr (8, vL 5 Fh)), (h_step, .inl (cI, 40, .inl f_step)), (h_sign, .inl (cI, 40, .inl f_sign)), (h_value, .inl (cI, 40, .inl f_value)), (h_p0_bytes, .inl (cB, 940, .inl f_p0_bytes)), (h_p0_wordNames, .inl (cJ, 23, .inr (.inl f_p0_wordNames))), (p1, .inr (1, vL 18 F_p1_)), (h_p1_manName, .inl (cJ, 12, .inr (.inl f_p1_manName))), (p0, .inr (6, vL 12 F_p0_))] := hD
  refine W.widen (k := 0) (n := 0) (Nat.le_of_ble_eq_true rfl) (Nat.le_of_ble_eq_true rfl) ?_
  refine lv_if_ne (tgt := 13) hx hb dX8_readAhead_4 (by decide) (fun c3 => ?_) (fun c3 => ?_)
  · have dc3 : r1.toInt ≠ 0 := ne_i (a := r1.toInt) (b := 0) rfl rfl c3
    have k4 : 1 ≤ r1.toInt ∧ r1.toInt ≤ 1 := ⟨ne_lo dc3 t2.1 ⟨Int.le_refl _, Int.le_refl _⟩ (by decide), t2.2⟩
    refine lv_aload_n hx hb dX8_readAhead_13 rfl (lv_at hl 2 rfl) ?_
    refine lv_aload_n hx hb dX8_readAhead_14 rfl (lv_at hl 1 rfl) ?_
    refine get_f (D := D) (ci := 6) (v := .long x_p0_name) (C := RX6) (T := TX6) (N := 12) hx hb hw inAX6 hown hK hP 8 rfl rfl 5 (by decide) (hw _ q_99) (fun _ h9 => h9) e_p0_name dX8_readAhead_15 ?_
    refine call_Vi (wr := [(h0, .inr (8, vL 5 Fh)), (h_step, .inl (cI, 40, .inl f_step)), (h_sign, .inl (cI, 40, .inl f_sign)), (h_value, .inl (cI, 40, .inl f_value)), (h_p0_bytes, .inl (cB, 940, .inl f_p0_bytes)), (h_p0_wordNames, .inl (cJ, 23, .inr (.inl f_p0_wordNames))), (p0, .inr (6, vL 12 F_p0_))]) (As := [.long x_p0_name]) (rest := []) hx hb hml hown hw (m_X1_manNamed l D cI cJ cB cP cM cZ p1 h_p1_manName F_p1_ x_p1_men f_p1_manName x_p0_name _ e_p1_manName e_p1_men i_x_p1_men) wV_X8_80_X1_manNamed dX8_readAhead_18 hK hP hD hS hA [6, 7] [0, 1, 2, 3, 4, 5, 8] rfl rfl (by decide) (by decide) (by decide) 0 1 rfl rfl GG.fb hG.at hl.1 rfl (Nat.le_of_ble_eq_true rfl) ⟨(Nat.le_of_ble_eq_true rfl), (Nat.le_of_ble_eq_true rfl)⟩ ⟨(Nat.le_of_ble_eq_true rfl), (Nat.le_of_ble_eq_true rfl)⟩ (fun r5 u H locs hp hP hD hS => ?_)
    obtain ⟨t6, rfl⟩ := hp
    have hP : va_P D vwCl [(h0, .inr (8, vL 5 Fh)), (h_step, .inl (cI, 40, .inl f_step)), (h_sign, .inl (cI, 40, .inl f_sign)), (h_value, .inl (cI, 40, .inl f_value)), (h_p0_bytes, .inl (cB, 940, .inl f_p0_bytes)), (h_p0_wordNames, .inl (cJ, 23, .inr (.inl f_p0_wordNames))), (p0, .inr (6, vL 12 F_p0_)), (p1, .inr (1, vL 18 F_p1_)), (h_p1_manName, .inl (cJ, 12, .inr (.inl f_p1_manName)))] H := hP
    have hD : va_D A [(h0, .inr (8, vL 5 Fh)), (h_step, .inl (cI, 40, .inl f_step)), (h_sign, .inl (cI, 40, .inl f_sign)), (h_value, .inl (cI, 40, .inl f_value)), (h_p0_bytes, .inl (cB, 940, .inl f_p0_bytes)), (h_p0_wordNames, .inl (cJ, 23, .inr (.inl f_p0_wordNames))), (p0, .inr (6, vL 12 F_p0_)), (p1, .inr (1, vL 18 F_p1_)), (h_p1_manName, .inl (cJ, 12, .inr (.inl f_p1_manName)))] := hD
    refine W.widen (k := 0) (n := 0) (Nat.le_of_ble_eq_true rfl) (Nat.le_of_ble_eq_true rfl) ?_
    refine lv_istore_n (lv' := [(3, .int r5), (0, .ref h0), (1, .ref p0), (2, .ref p1)]) hx hb dX8_readAhead_21 rfl hl (by decide) rfl (fun ls hl => ?_)
    refine lv_iload_n hx hb dX8_readAhead_22 rfl (lv_at hl 0 rfl) ?_
    refine lv_iconst (v := (-1)) hx hb dX8_readAhead_23 (by decide) ?_
    refine lv_icmp_ne (tgt := 33) hx hb dX8_readAhead_24 (by decide) (fun c7 => ?_) (fun c7 => ?_)
    · have dc7 : r5.toInt ≠ (-1) := ne_i (a := r5.toInt) (b := (-1)) rfl rfl c7
      have k8 : 0 ≤ r5.toInt ∧ r5.toInt ≤ 11 := ⟨ne_lo dc7 t6.1 ⟨Int.le_refl _, Int.le_refl _⟩ (by decide), t6.2⟩
      refine lv_aload_n hx hb dX8_readAhead_33 rfl (lv_at hl 2 rfl) ?_
      refine call_Vv (wr := [(h0, .inr (8, vL 5 Fh)), (h_step, .inl (cI, 40, .inl f_step)), (h_sign, .inl (cI, 40, .inl f_sign)), (h_value, .inl (cI, 40, .inl f_value)), (p1, .inr (1, vL 18 F_p1_)), (h_p1_manName, .inl (cJ, 12, .inr (.inl f_p1_manName)))]) (As := []) (rest := []) hx hb hml hown hw (m_X6_advance l D cI cJ cB cP cM cZ p0 h_p0_bytes h_p0_wordNames F_p0_ x_p0_length x_p0_value x_p0_name x_p0_at x_p0_mostBytes f_p0_bytes f_p0_wordNames _ e_p0_bytes e_p0_length i_x_p0_length e_p0_value e_p0_name e_p0_wordNames e_p0_at i_x_p0_at e_p0_mostBytes) wV_X8_38_X6_advance dX8_readAhead_34 hK hP hD hS hA [6, 4, 5] [0, 1, 2, 3, 7, 8] rfl rfl (by decide) (by decide) (by decide) 0 6 rfl rfl GG.fb hG.at hl.1 rfl (Nat.le_of_ble_eq_true rfl) ⟨(Nat.le_of_ble_eq_true rfl), (Nat.le_of_ble_eq_true rfl)⟩ ⟨(Nat.le_of_ble_eq_true rfl), (Nat.le_of_ble_eq_true rfl)⟩ (fun u H locs hp hP hD hS => ?_)
      obtain ⟨F10, y11, y12, y13, y14, y15, t16, t17, t18, t19, t20, t21, t22, t23, rfl⟩ := hp
      have hP : va_P D vwCl [(h0, .inr (8, vL 5 Fh)), (h_step, .inl (cI, 40, .inl f_step)), (h_sign, .inl (cI, 40, .inl f_sign)), (h_value, .inl (cI, 40, .inl f_value)), (p1, .inr (1, vL 18 F_p1_)), (h_p1_manName, .inl (cJ, 12, .inr (.inl f_p1_manName))), (p0, .inr (6, vL 12 F10)), (h_p0_bytes, .inl (cB, 940, .inl f_p0_bytes)), (h_p0_wordNames, .inl (cJ, 23, .inr (.inl f_p0_wordNames)))] H := hP
      have hD : va_D A [(h0, .inr (8, vL 5 Fh)), (h_step, .inl (cI, 40, .inl f_step)), (h_sign, .inl (cI, 40, .inl f_sign)), (h_value, .inl (cI, 40, .inl f_value)), (p1, .inr (1, vL 18 F_p1_)), (h_p1_manName, .inl (cJ, 12, .inr (.inl f_p1_manName))), (p0, .inr (6, vL 12 F10)), (h_p0_bytes, .inl (cB, 940, .inl f_p0_bytes)), (h_p0_wordNames, .inl (cJ, 23, .inr (.inl f_p0_wordNames)))] := hD
      refine W.widen (k := 0) (n := 0) (Nat.le_of_ble_eq_true rfl) (Nat.le_of_ble_eq_true rfl) ?_
      refine lv_aload_n hx hb dX8_readAhead_37 rfl (lv_at hl 1 rfl) ?_
      refine lv_bipush (v := 18) hx hb dX8_readAhead_38 (by decide) ?_
      refine lv_iconst (v := 0) hx hb dX8_readAhead_40 (by decide) ?_
      refine lv_iload_n hx hb dX8_readAhead_41 rfl (lv_at hl 0 rfl) ?_
      refine call_Vi (wr := [(p1, .inr (1, vL 18 F_p1_)), (h_p1_manName, .inl (cJ, 12, .inr (.inl f_p1_manName))), (p0, .inr (6, vL 12 F10)), (h_p0_bytes, .inl (cB, 940, .inl f_p0_bytes)), (h_p0_wordNames, .inl (cJ, 23, .inr (.inl f_p0_wordNames)))]) (As := [.int 18, .int 0, .int r5]) (rest := []) hx hb hml hown hw (m_X8_addStep l D cI cJ cB cP cM cZ h0 h_step h_sign h_value Fh x_steps f_step f_sign f_value 18 0 r5 _ e_step e_sign e_value e_steps i_x_steps) wV_X8_41_X8_addStep dX8_readAhead_42 hK hP hD hS hA [0, 1, 2, 3] [4, 5, 6, 7, 8] rfl rfl (by decide) (by decide) (by decide) 0 8 rfl rfl GG.fb hG.at hl.1 rfl (Nat.le_of_ble_eq_true rfl) ⟨(Nat.le_of_ble_eq_true rfl), (Nat.le_of_ble_eq_true rfl)⟩ ⟨(Nat.le_of_ble_eq_true rfl), (Nat.le_of_ble_eq_true rfl)⟩ (fun r24 u H locs hp hP hD hS => ?_)
      obtain ⟨F25, y26, g27, g28, g29, t30, t31, t32, rfl, rfl⟩ := hp
      have hP : va_P D vwCl [(p1, .inr (1, vL 18 F_p1_)), (h_p1_manName, .inl (cJ, 12, .inr (.inl f_p1_manName))), (p0, .inr (6, vL 12 F10)), (h_p0_bytes, .inl (cB, 940, .inl f_p0_bytes)), (h_p0_wordNames, .inl (cJ, 23, .inr (.inl f_p0_wordNames))), (h0, .inr (8, vL 5 F25)), (h_step, .inl (cI, 40, .inl g27)), (h_sign, .inl (cI, 40, .inl g28)), (h_value, .inl (cI, 40, .inl g29))] H := hP
      have hD : va_D A [(p1, .inr (1, vL 18 F_p1_)), (h_p1_manName, .inl (cJ, 12, .inr (.inl f_p1_manName))), (p0, .inr (6, vL 12 F10)), (h_p0_bytes, .inl (cB, 940, .inl f_p0_bytes)), (h_p0_wordNames, .inl (cJ, 23, .inr (.inl f_p0_wordNames))), (h0, .inr (8, vL 5 F25)), (h_step, .inl (cI, 40, .inl g27)), (h_sign, .inl (cI, 40, .inl g28)), (h_value, .inl (cI, 40, .inl g29))] := hD
      refine W.widen (k := 0) (n := 0) (Nat.le_of_ble_eq_true rfl) (Nat.le_of_ble_eq_true rfl) ?_
      exact ret_i (v := 1) hx hb hr hlocks hS (hP.sub (ws' := [(h0, .inr (8, vL 5 F25)), (h_step, .inl (cI, 40, .inl g27)), (h_sign, .inl (cI, 40, .inl g28)), (h_value, .inl (cI, 40, .inl g29)), (p0, .inr (6, vL 12 F10)), (h_p0_bytes, .inl (cB, 940, .inl f_p0_bytes)), (h_p0_wordNames, .inl (cJ, 23, .inr (.inl f_p0_wordNames))), (p1, .inr (1, vL 18 F_p1_)), (h_p1_manName, .inl (cJ, 12, .inr (.inl f_p1_manName)))]) [5, 6, 7, 8, 2, 3, 4, 0, 1] rfl) (hD.sub (ws' := [(h0, .inr (8, vL 5 F25)), (h_step, .inl (cI, 40, .inl g27)), (h_sign, .inl (cI, 40, .inl g28)), (h_value, .inl (cI, 40, .inl g29)), (p0, .inr (6, vL 12 F10)), (h_p0_bytes, .inl (cB, 940, .inl f_p0_bytes)), (h_p0_wordNames, .inl (cJ, 23, .inr (.inl f_p0_wordNames))), (p1, .inr (1, vL 18 F_p1_)), (h_p1_manName, .inl (cJ, 12, .inr (.inl f_p1_manName)))]) [5, 6, 7, 8, 2, 3, 4, 0, 1] (by decide) rfl) dX8_readAhead_45 rfl (Nat.le_of_ble_eq_true rfl) (Nat.le_of_ble_eq_true rfl) ⟨F25, y26, F10, y11, y12, y13, y14, x_p0_faultKind, x_p0_faultPlace, y15, g27, g28, g29, (SAME.tr SAME.rf t30 (by decide)), t31, (ir_wk t32 (by decide) (by decide)), (SAME.tr SAME.rf t16 (by decide)), t17, t18, t20, t21, (SAME.at t16 (by decide) e_p0_faultKind), (SAME.at t16 (by decide) e_p0_faultPlace), t22, t23, ⟨by decide, by decide⟩, rfl⟩
    · have dc7 : r5.toInt = (-1) := eq_i (a := r5.toInt) (b := (-1)) rfl rfl c7
      have k33 : (-1) ≤ r5.toInt ∧ r5.toInt ≤ (-1) := ⟨t6.1, Int.le_trans (Int.le_of_eq dc7) (Int.le_refl _)⟩
      refine lv_aload_n hx hb dX8_readAhead_27 rfl (lv_at hl 2 rfl) ?_
      refine lv_iconst (v := 3) hx hb dX8_readAhead_28 (by decide) ?_
      refine call_Vi (wr := [(h0, .inr (8, vL 5 Fh)), (h_step, .inl (cI, 40, .inl f_step)), (h_sign, .inl (cI, 40, .inl f_sign)), (h_value, .inl (cI, 40, .inl f_value)), (h_p0_bytes, .inl (cB, 940, .inl f_p0_bytes)), (h_p0_wordNames, .inl (cJ, 23, .inr (.inl f_p0_wordNames))), (p1, .inr (1, vL 18 F_p1_)), (h_p1_manName, .inl (cJ, 12, .inr (.inl f_p1_manName)))]) (As := [.int 3]) (rest := []) hx hb hml hown hw (m_X6_fail l D cI cJ cB cP cM cZ p0 F_p0_ x_p0_place 3 _ e_p0_place) wV_X8_48_X6_fail dX8_readAhead_29 hK hP hD hS hA [6] [0, 1, 2, 3, 4, 5, 7, 8] rfl rfl (by decide) (by decide) (by decide) 0 6 rfl rfl GG.fb hG.at hl.1 rfl (Nat.le_of_ble_eq_true rfl) ⟨(Nat.le_of_ble_eq_true rfl), (Nat.le_of_ble_eq_true rfl)⟩ ⟨(Nat.le_of_ble_eq_true rfl), (Nat.le_of_ble_eq_true rfl)⟩ (fun r34 u H locs hp hP hD hS => ?_)
      obtain ⟨F35, t36, t37, t38, rfl, rfl⟩ := hp
      have hP : va_P D vwCl [(h0, .inr (8, vL 5 Fh)), (h_step, .inl (cI, 40, .inl f_step)), (h_sign, .inl (cI, 40, .inl f_sign)), (h_value, .inl (cI, 40, .inl f_value)), (h_p0_bytes, .inl (cB, 940, .inl f_p0_bytes)), (h_p0_wordNames, .inl (cJ, 23, .inr (.inl f_p0_wordNames))), (p1, .inr (1, vL 18 F_p1_)), (h_p1_manName, .inl (cJ, 12, .inr (.inl f_p1_manName))), (p0, .inr (6, vL 12 F35))] H := hP
      have hD : va_D A [(h0, .inr (8, vL 5 Fh)), (h_step, .inl (cI, 40, .inl f_step)), (h_sign, .inl (cI, 40, .inl f_sign)), (h_value, .inl (cI, 40, .inl f_value)), (h_p0_bytes, .inl (cB, 940, .inl f_p0_bytes)), (h_p0_wordNames, .inl (cJ, 23, .inr (.inl f_p0_wordNames))), (p1, .inr (1, vL 18 F_p1_)), (h_p1_manName, .inl (cJ, 12, .inr (.inl f_p1_manName))), (p0, .inr (6, vL 12 F35))] := hD
      refine W.widen (k := 0) (n := 0) (Nat.le_of_ble_eq_true rfl) (Nat.le_of_ble_eq_true rfl) ?_
      exact ret_i (v := 0) hx hb hr hlocks hS (hP.sub (ws' := [(h0, .inr (8, vL 5 Fh)), (h_step, .inl (cI, 40, .inl f_step)), (h_sign, .inl (cI, 40, .inl f_sign)), (h_value, .inl (cI, 40, .inl f_value)), (p0, .inr (6, vL 12 F35)), (h_p0_bytes, .inl (cB, 940, .inl f_p0_bytes)), (h_p0_wordNames, .inl (cJ, 23, .inr (.inl f_p0_wordNames))), (p1, .inr (1, vL 18 F_p1_)), (h_p1_manName, .inl (cJ, 12, .inr (.inl f_p1_manName)))]) [0, 1, 2, 3, 8, 4, 5, 6, 7] rfl) (hD.sub (ws' := [(h0, .inr (8, vL 5 Fh)), (h_step, .inl (cI, 40, .inl f_step)), (h_sign, .inl (cI, 40, .inl f_sign)), (h_value, .inl (cI, 40, .inl f_value)), (p0, .inr (6, vL 12 F35)), (h_p0_bytes, .inl (cB, 940, .inl f_p0_bytes)), (h_p0_wordNames, .inl (cJ, 23, .inr (.inl f_p0_wordNames))), (p1, .inr (1, vL 18 F_p1_)), (h_p1_manName, .inl (cJ, 12, .inr (.inl f_p1_manName)))]) [0, 1, 2, 3, 8, 4, 5, 6, 7] (by decide) rfl) dX8_readAhead_32 rfl (Nat.le_of_ble_eq_true rfl) (Nat.le_of_ble_eq_true rfl) ⟨Fh, x_steps, F35, x_p0_kind, x_p0_place, x_p0_value, x_p0_name, 3, x_p0_place, x_p0_at, f_step, f_sign, f_value, SAME.rf, e_steps, i_x_steps, (SAME.tr SAME.rf t36 (by decide)), (SAME.at t36 (by decide) e_p0_kind), (SAME.at t36 (by decide) e_p0_place), (SAME.at t36 (by decide) e_p0_value), (SAME.at t36 (by decide) e_p0_name), t37, t38, (SAME.at t36 (by decide) e_p0_at), i_x_p0_at, ⟨by decide, by decide⟩, rfl⟩
  · have dc3 : r1.toInt = 0 := eq_i (a := r1.toInt) (b := 0) rfl rfl c3
    have k39 : 0 ≤ r1.toInt ∧ r1.toInt ≤ 0 := ⟨t2.1, Int.le_trans (Int.le_of_eq dc3) (Int.le_refl _)⟩
    refine lv_aload_n hx hb dX8_readAhead_7 rfl (lv_at hl 1 rfl) ?_
    refine lv_iconst (v := 1) hx hb dX8_readAhead_8 (by decide) ?_
    refine call_Vi (wr := [(h0, .inr (8, vL 5 Fh)), (h_step, .inl (cI, 40, .inl f_step)), (h_sign, .inl (cI, 40, .inl f_sign)), (h_value, .inl (cI, 40, .inl f_value)), (h_p0_bytes, .inl (cB, 940, .inl f_p0_bytes)), (h_p0_wordNames, .inl (cJ, 23, .inr (.inl f_p0_wordNames))), (p1, .inr (1, vL 18 F_p1_)), (h_p1_manName, .inl (cJ, 12, .inr (.inl f_p1_manName)))]) (As := [.int 1]) (rest := []) hx hb hml hown hw (m_X6_fail l D cI cJ cB cP cM cZ p0 F_p0_ x_p0_place 1 _ e_p0_place) wV_X8_48_X6_fail dX8_readAhead_9 hK hP hD hS hA [8] [0, 1, 2, 3, 4, 5, 6, 7] rfl rfl (by decide) (by decide) (by decide) 0 6 rfl rfl GG.fb hG.at hl.1 rfl (Nat.le_of_ble_eq_true rfl) ⟨(Nat.le_of_ble_eq_true rfl), (Nat.le_of_ble_eq_true rfl)⟩ ⟨(Nat.le_of_ble_eq_true rfl), (Nat.le_of_ble_eq_true rfl)⟩ (fun r40 u H locs hp hP hD hS => ?_)
    obtain ⟨F41, t42, t43, t44, rfl, rfl⟩ := hp
    have hP : va_P D vwCl [(h0, .inr (8, vL 5 Fh)), (h_step, .inl (cI, 40, .inl f_step)), (h_sign, .inl (cI, 40, .inl f_sign)), (h_value, .inl (cI, 40, .inl f_value)), (h_p0_bytes, .inl (cB, 940, .inl f_p0_bytes)), (h_p0_wordNames, .inl (cJ, 23, .inr (.inl f_p0_wordNames))), (p1, .inr (1, vL 18 F_p1_)), (h_p1_manName, .inl (cJ, 12, .inr (.inl f_p1_manName))), (p0, .inr (6, vL 12 F41))] H := hP
    have hD : va_D A [(h0, .inr (8, vL 5 Fh)), (h_step, .inl (cI, 40, .inl f_step)), (h_sign, .inl (cI, 40, .inl f_sign)), (h_value, .inl (cI, 40, .inl f_value)), (h_p0_bytes, .inl (cB, 940, .inl f_p0_bytes)), (h_p0_wordNames, .inl (cJ, 23, .inr (.inl f_p0_wordNames))), (p1, .inr (1, vL 18 F_p1_)), (h_p1_manName, .inl (cJ, 12, .inr (.inl f_p1_manName))), (p0, .inr (6, vL 12 F41))] := hD
    refine W.widen (k := 0) (n := 0) (Nat.le_of_ble_eq_true rfl) (Nat.le_of_ble_eq_true rfl) ?_
    exact ret_i (v := 0) hx hb hr hlocks hS (hP.sub (ws' := [(h0, .inr (8, vL 5 Fh)), (h_step, .inl (cI, 40, .inl f_step)), (h_sign, .inl (cI, 40, .inl f_sign)), (h_value, .inl (cI, 40, .inl f_value)), (p0, .inr (6, vL 12 F41)), (h_p0_bytes, .inl (cB, 940, .inl f_p0_bytes)), (h_p0_wordNames, .inl (cJ, 23, .inr (.inl f_p0_wordNames))), (p1, .inr (1, vL 18 F_p1_)), (h_p1_manName, .inl (cJ, 12, .inr (.inl f_p1_manName)))]) [0, 1, 2, 3, 8, 4, 5, 6, 7] rfl) (hD.sub (ws' := [(h0, .inr (8, vL 5 Fh)), (h_step, .inl (cI, 40, .inl f_step)), (h_sign, .inl (cI, 40, .inl f_sign)), (h_value, .inl (cI, 40, .inl f_value)), (p0, .inr (6, vL 12 F41)), (h_p0_bytes, .inl (cB, 940, .inl f_p0_bytes)), (h_p0_wordNames, .inl (cJ, 23, .inr (.inl f_p0_wordNames))), (p1, .inr (1, vL 18 F_p1_)), (h_p1_manName, .inl (cJ, 12, .inr (.inl f_p1_manName)))]) [0, 1, 2, 3, 8, 4, 5, 6, 7] (by decide) rfl) dX8_readAhead_12 rfl (Nat.le_of_ble_eq_true rfl) (Nat.le_of_ble_eq_true rfl) ⟨Fh, x_steps, F41, x_p0_kind, x_p0_place, x_p0_value, x_p0_name, 1, x_p0_place, x_p0_at, f_step, f_sign, f_value, SAME.rf, e_steps, i_x_steps, (SAME.tr SAME.rf t42 (by decide)), (SAME.at t42 (by decide) e_p0_kind), (SAME.at t42 (by decide) e_p0_place), (SAME.at t42 (by decide) e_p0_value), (SAME.at t42 (by decide) e_p0_name), t43, t44, (SAME.at t42 (by decide) e_p0_at), i_x_p0_at, ⟨by decide, by decide⟩, rfl⟩
set_option maxHeartbeats 4000000 in
set_option maxRecDepth 100000 in
theorem m_X8_compares (l : Launch) (D : va_G) (cI cJ cB cP cM cZ : ClassId) (h0 : Nat) (h_sign : Nat) (h_value : Nat) (Fh : Nat → Value) (f_sign : Nat → Int32) (f_value : Nat → Int32) (p0 : Int32) (p1 : Int32) (sz : Nat) (e_sign : Fh 1 = .ref h_sign) (e_value : Fh 2 = .ref h_value) (i_p1 : IR 0 39 p1) : CI l yX8_compares cX8_compares 3 (some .boolean) { frames := 0, cells := 0, slots := 0, locals := 0 } (GG D cI cJ cB cP cM cZ) D [(h0, .inr (8, vL 5 Fh)), (h_sign, .inl (cI, 40, .inl f_sign)), (h_value, .inl (cI, 40, .inl f_value))] sz [.ref h0, .int p0, .int p1] (fun (r : Int32) (u : va_W) => IR 0 1 r ∧ u = [(h0, .inr (8, vL 5 Fh)), (h_sign, .inl (cI, 40, .inl f_sign)), (h_value, .inl (cI, 40, .inl f_value))]) := by
  refine CI_mk (by decide) (Nat.le_of_ble_eq_true rfl) ?_
  intro p e s m below meth c A ls E hAe hG hsz hP hD hA hS hl
  obtain ⟨hx, hb, hr, hw, hown, hlocks, hml, hnm⟩ := E
  have hK := hG.1
  have i_p1 : 0 ≤ p1.toInt ∧ p1.toInt ≤ 39 := i_p1
  have hl : lv_has ls 3 [(0, .ref h0), (1, .int p0), (2, .int p1)] := hl
  refine lv_aload_n hx hb dX8_compares_0 rfl (lv_at hl 0 rfl) ?_
  refine get_f (D := D) (ci := 8) (v := .ref h_sign) (C := RX8) (T := TX8) (N := 5) hx hb hw inAX8 hown hK hP 0 rfl rfl 1 (by decide) (hw _ q_693) (fun _ h9 => h9) e_sign dX8_compares_1 ?_
  refine lv_iload_n hx hb dX8_compares_4 rfl (lv_at hl 2 rfl) ?_
  refine va_iald hx hb hK hP 1 0 rfl rfl (ix_k i_p1 (by decide) (by decide)) dX8_compares_5 ?_
  refine lv_topi (fun v1 ev1 => ?_)
  refine lv_bipush (v := 60) hx hb dX8_compares_6 (by decide) ?_
  refine lv_icmp_ne (tgt := 27) hx hb dX8_compares_8 (by decide) (fun c2 => ?_) (fun c2 => ?_)
  · have dc2 : v1.toInt ≠ 60 := ne_i (a := v1.toInt) (b := 60) rfl rfl c2
    refine lv_aload_n hx hb dX8_compares_27 rfl (lv_at hl 0 rfl) ?_
    refine get_f (D := D) (ci := 8) (v := .ref h_sign) (C := RX8) (T := TX8) (N := 5) hx hb hw inAX8 hown hK hP 0 rfl rfl 1 (by decide) (hw _ q_693) (fun _ h9 => h9) e_sign dX8_compares_28 ?_
    refine lv_iload_n hx hb dX8_compares_31 rfl (lv_at hl 2 rfl) ?_
    refine va_iald hx hb hK hP 1 0 rfl rfl (ix_k i_p1 (by decide) (by decide)) dX8_compares_32 ?_
    refine lv_ci (y := v1) ev1.symm ?_
    refine lv_bipush (v := 62) hx hb dX8_compares_33 (by decide) ?_
    refine lv_icmp_ne (tgt := 56) hx hb dX8_compares_35 (by decide) (fun c3 => ?_) (fun c3 => ?_)
    · have dc3 : v1.toInt ≠ 62 := ne_i (a := v1.toInt) (b := 62) rfl rfl c3
      refine lv_iload_n hx hb dX8_compares_56 rfl (lv_at hl 1 rfl) ?_
      refine lv_aload_n hx hb dX8_compares_57 rfl (lv_at hl 0 rfl) ?_
      refine get_f (D := D) (ci := 8) (v := .ref h_value) (C := RX8) (T := TX8) (N := 5) hx hb hw inAX8 hown hK hP 0 rfl rfl 2 (by decide) (hw _ q_694) (fun _ h9 => h9) e_value dX8_compares_58 ?_
      refine lv_iload_n hx hb dX8_compares_61 rfl (lv_at hl 2 rfl) ?_
      refine va_iald hx hb hK hP 2 0 rfl rfl (ix_k i_p1 (by decide) (by decide)) dX8_compares_62 ?_
      refine lv_topi (fun v4 ev4 => ?_)
      refine lv_icmp_ne (tgt := 70) hx hb dX8_compares_63 (by decide) (fun c5 => ?_) (fun c5 => ?_)
      · have dc5 : p0.toInt ≠ v4.toInt := ne_i (a := p0.toInt) (b := v4.toInt) rfl rfl c5
        refine lv_iconst (v := 0) hx hb dX8_compares_70 (by decide) ?_
        exact ret_i (v := 0) hx hb hr hlocks hS hP hD dX8_compares_71 rfl (Nat.le_of_ble_eq_true rfl) (Nat.le_of_ble_eq_true rfl) ⟨⟨by decide, by decide⟩, rfl⟩
      · have dc5 : p0.toInt = v4.toInt := eq_i (a := p0.toInt) (b := v4.toInt) rfl rfl c5
        refine lv_iconst (v := 1) hx hb dX8_compares_66 (by decide) ?_
        refine lv_goto (tgt := 71) hx hb dX8_compares_67 (by decide) ?_
        exact ret_i (v := 1) hx hb hr hlocks hS hP hD dX8_compares_71 rfl (Nat.le_of_ble_eq_true rfl) (Nat.le_of_ble_eq_true rfl) ⟨⟨by decide, by decide⟩, rfl⟩
    · have dc3 : v1.toInt = 62 := eq_i (a := v1.toInt) (b := 62) rfl rfl c3
      have k6 : 62 ≤ v1.toInt ∧ v1.toInt ≤ 62 := ⟨Int.le_trans (Int.le_refl _) (Int.le_of_eq dc3.symm), Int.le_trans (Int.le_of_eq dc3) (Int.le_refl _)⟩
      refine lv_iload_n hx hb dX8_compares_38 rfl (lv_at hl 1 rfl) ?_
      refine lv_aload_n hx hb dX8_compares_39 rfl (lv_at hl 0 rfl) ?_
      refine get_f (D := D) (ci := 8) (v := .ref h_value) (C := RX8) (T := TX8) (N := 5) hx hb hw inAX8 hown hK hP 0 rfl rfl 2 (by decide) (hw _ q_694) (fun _ h9 => h9) e_value dX8_compares_40 ?_
      refine lv_iload_n hx hb dX8_compares_43 rfl (lv_at hl 2 rfl) ?_
      refine va_iald hx hb hK hP 2 0 rfl rfl (ix_k i_p1 (by decide) (by decide)) dX8_compares_44 ?_
      refine lv_topi (fun v7 ev7 => ?_)
      refine lv_icmp_le (tgt := 52) hx hb dX8_compares_45 (by decide) (fun c8 => ?_) (fun c8 => ?_)
      · have dc8 : p0.toInt ≤ v7.toInt := le_i (a := p0.toInt) (b := v7.toInt) rfl rfl c8
        refine lv_iconst (v := 0) hx hb dX8_compares_52 (by decide) ?_
        refine lv_goto (tgt := 71) hx hb dX8_compares_53 (by decide) ?_
        exact ret_i (v := 0) hx hb hr hlocks hS hP hD dX8_compares_71 rfl (Nat.le_of_ble_eq_true rfl) (Nat.le_of_ble_eq_true rfl) ⟨⟨by decide, by decide⟩, rfl⟩
      · have dc8 : v7.toInt < p0.toInt := nle_i (a := p0.toInt) (b := v7.toInt) rfl rfl c8
        have k9 : (-2147483648) ≤ v7.toInt ∧ v7.toInt ≤ 2147483646 := ⟨(ir_any _).1, up_lt dc8 (ir_any _).2 (by decide)⟩
        have k10 : (-2147483647) ≤ p0.toInt ∧ p0.toInt ≤ 2147483647 := ⟨lo_lt dc8 (ir_any _).1 (by decide), (ir_any _).2⟩
        refine lv_iconst (v := 1) hx hb dX8_compares_48 (by decide) ?_
        refine lv_goto (tgt := 71) hx hb dX8_compares_49 (by decide) ?_
        exact ret_i (v := 1) hx hb hr hlocks hS hP hD dX8_compares_71 rfl (Nat.le_of_ble_eq_true rfl) (Nat.le_of_ble_eq_true rfl) ⟨⟨by decide, by decide⟩, rfl⟩
  · have dc2 : v1.toInt = 60 := eq_i (a := v1.toInt) (b := 60) rfl rfl c2
    have k11 : 60 ≤ v1.toInt ∧ v1.toInt ≤ 60 := ⟨Int.le_trans (Int.le_refl _) (Int.le_of_eq dc2.symm), Int.le_trans (Int.le_of_eq dc2) (Int.le_refl _)⟩
    refine lv_iload_n hx hb dX8_compares_11 rfl (lv_at hl 1 rfl) ?_
    refine lv_aload_n hx hb dX8_compares_12 rfl (lv_at hl 0 rfl) ?_
    refine get_f (D := D) (ci := 8) (v := .ref h_value) (C := RX8) (T := TX8) (N := 5) hx hb hw inAX8 hown hK hP 0 rfl rfl 2 (by decide) (hw _ q_694) (fun _ h9 => h9) e_value dX8_compares_13 ?_
    refine lv_iload_n hx hb dX8_compares_16 rfl (lv_at hl 2 rfl) ?_
    refine va_iald hx hb hK hP 2 0 rfl rfl (ix_k i_p1 (by decide) (by decide)) dX8_compares_17 ?_
    refine lv_topi (fun v12 ev12 => ?_)
    refine lv_icmp_ge (tgt := 25) hx hb dX8_compares_18 (by decide) (fun c13 => ?_) (fun c13 => ?_)
    · have dc13 : v12.toInt ≤ p0.toInt := le_i (a := v12.toInt) (b := p0.toInt) rfl rfl c13
      refine lv_iconst (v := 0) hx hb dX8_compares_25 (by decide) ?_
      exact ret_i (v := 0) hx hb hr hlocks hS hP hD dX8_compares_26 rfl (Nat.le_of_ble_eq_true rfl) (Nat.le_of_ble_eq_true rfl) ⟨⟨by decide, by decide⟩, rfl⟩
    · have dc13 : p0.toInt < v12.toInt := nle_i (a := v12.toInt) (b := p0.toInt) rfl rfl c13
      have k14 : (-2147483648) ≤ p0.toInt ∧ p0.toInt ≤ 2147483646 := ⟨(ir_any _).1, up_lt dc13 (ir_any _).2 (by decide)⟩
      have k15 : (-2147483647) ≤ v12.toInt ∧ v12.toInt ≤ 2147483647 := ⟨lo_lt dc13 (ir_any _).1 (by decide), (ir_any _).2⟩
      refine lv_iconst (v := 1) hx hb dX8_compares_21 (by decide) ?_
      refine lv_goto (tgt := 26) hx hb dX8_compares_22 (by decide) ?_
      exact ret_i (v := 1) hx hb hr hlocks hS hP hD dX8_compares_26 rfl (Nat.le_of_ble_eq_true rfl) (Nat.le_of_ble_eq_true rfl) ⟨⟨by decide, by decide⟩, rfl⟩
set_option maxHeartbeats 4000000 in
set_option maxRecDepth 100000 in
theorem m_X8_isTrue (l : Launch) (D : va_G) (cI cJ cB cP cM cZ : ClassId) (h0 : Nat) (h_step : Nat) (h_sign : Nat) (h_value : Nat) (p2 : Nat) (h_p2_push : Nat) (h_p2_feet : Nat) (h_p2_weight : Nat) (p3 : Nat) (h_p3_crew : Nat) (h_p3_yard : Nat) (Fh : Nat → Value) (f_step : Nat → Int32) (f_sign : Nat → Int32) (f_value : Nat → Int32) (F_p2_ : Nat → Value) (f_p2_push : Nat → Int32) (f_p2_feet : Nat → Int32) (f_p2_weight : Nat → Int32) (F_p3_ : Nat → Value) (x_p3_crewed : Int32) (f_p3_crew : Nat → Int32) (f_p3_yard : Nat → Int32) (p0 : Int32) (p1 : Int32) (p4 : Int32) (sz : Nat) (e_step : Fh 0 = .ref h_step) (e_sign : Fh 1 = .ref h_sign) (e_value : Fh 2 = .ref h_value) (e_p2_push : F_p2_ 3 = .ref h_p2_push) (e_p2_feet : F_p2_ 4 = .ref h_p2_feet) (e_p2_weight : F_p2_ 5 = .ref h_p2_weight) (e_p3_crew : F_p3_ 0 = .ref h_p3_crew) (e_p3_yard : F_p3_ 1 = .ref h_p3_yard) (e_p3_crewed : F_p3_ 3 = .int x_p3_crewed) (i_x_p3_crewed : IR 0 1 x_p3_crewed) (s_p3_crew_0 : SG 0 3 0 11 f_p3_crew) (i_p0 : IR 0 39 p0) (i_p1 : IR 0 11 p1) : CI l yX8_isTrue cX8_isTrue 8 (some .boolean) { frames := 2, cells := 0, slots := 0, locals := 44 } (GG D cI cJ cB cP cM cZ) D [(h0, .inr (8, vL 5 Fh)), (h_step, .inl (cI, 40, .inl f_step)), (h_sign, .inl (cI, 40, .inl f_sign)), (h_value, .inl (cI, 40, .inl f_value)), (p2, .inr (1, vL 18 F_p2_)), (h_p2_push, .inl (cI, 12, .inl f_p2_push)), (h_p2_feet, .inl (cI, 12, .inl f_p2_feet)), (h_p2_weight, .inl (cI, 12, .inl f_p2_weight)), (p3, .inr (5, vL 11 F_p3_)), (h_p3_crew, .inl (cI, 4, .inl f_p3_crew)), (h_p3_yard, .inl (cI, 4, .inl f_p3_yard))] sz [.ref h0, .int p0, .int p1, .ref p2, .ref p3, .int p4] (fun (r : Int32) (u : va_W) => IR 0 1 r ∧ u = [(h0, .inr (8, vL 5 Fh)), (h_step, .inl (cI, 40, .inl f_step)), (h_sign, .inl (cI, 40, .inl f_sign)), (h_value, .inl (cI, 40, .inl f_value)), (p2, .inr (1, vL 18 F_p2_)), (h_p2_push, .inl (cI, 12, .inl f_p2_push)), (h_p2_feet, .inl (cI, 12, .inl f_p2_feet)), (h_p2_weight, .inl (cI, 12, .inl f_p2_weight)), (p3, .inr (5, vL 11 F_p3_)), (h_p3_crew, .inl (cI, 4, .inl f_p3_crew)), (h_p3_yard, .inl (cI, 4, .inl f_p3_yard))]) := by
  refine CI_mk (by decide) (Nat.le_of_ble_eq_true rfl) ?_
  intro p e s m below meth c A ls E hAe hG hsz hP hD hA hS hl
  obtain ⟨hx, hb, hr, hw, hown, hlocks, hml, hnm⟩ := E
  have hK := hG.1
  have i_x_p3_crewed : 0 ≤ x_p3_crewed.toInt ∧ x_p3_crewed.toInt ≤ 1 := i_x_p3_crewed
  have i_p0 : 0 ≤ p0.toInt ∧ p0.toInt ≤ 39 := i_p0
  have i_p1 : 0 ≤ p1.toInt ∧ p1.toInt ≤ 11 := i_p1
  have hl : lv_has ls 8 [(0, .ref h0), (1, .int p0), (2, .int p1), (3, .ref p2), (4, .ref p3), (5, .int p4)] := hl
  refine lv_aload hx hb dX8_isTrue_0 (lv_at hl 4 rfl) ?_
  refine lv_iload_n hx hb dX8_isTrue_2 rfl (lv_at hl 2 rfl) ?_
  refine call_Vi (wr := [(h0, .inr (8, vL 5 Fh)), (h_step, .inl (cI, 40, .inl f_step)), (h_sign, .inl (cI, 40, .inl f_sign)), (h_value, .inl (cI, 40, .inl f_value)), (p2, .inr (1, vL 18 F_p2_)), (h_p2_push, .inl (cI, 12, .inl f_p2_push)), (h_p2_feet, .inl (cI, 12, .inl f_p2_feet)), (h_p2_weight, .inl (cI, 12, .inl f_p2_weight)), (h_p3_yard, .inl (cI, 4, .inl f_p3_yard))]) (As := [.int p1]) (rest := []) hx hb hml hown hw (m_X5_placeOf l D cI cJ cB cP cM cZ p3 h_p3_crew F_p3_ x_p3_crewed f_p3_crew p1 _ e_p3_crew e_p3_crewed i_x_p3_crewed s_p3_crew_0) wV_X8_97_X5_placeOf dX8_isTrue_3 hK hP hD hS hA [8, 9] [0, 1, 2, 3, 4, 5, 6, 7, 10] rfl rfl (by decide) (by decide) (by decide) 0 5 rfl rfl GG.fb hG.at hl.1 rfl (Nat.le_of_ble_eq_true rfl) ⟨(Nat.le_of_ble_eq_true rfl), (Nat.le_of_ble_eq_true rfl)⟩ ⟨(Nat.le_of_ble_eq_true rfl), (Nat.le_of_ble_eq_true rfl)⟩ (fun r1 u H locs hp hP hD hS => ?_)
  obtain ⟨t2, rfl⟩ := hp
  have hP : va_P D vwCl [(h0, .inr (8, vL 5 Fh)), (h_step, .inl (cI, 40, .inl f_step)), (h_sign, .inl (cI, 40, .inl f_sign)), (h_value, .inl (cI, 40, .inl f_value)), (p2, .inr (1, vL 18 F_p2_)), (h_p2_push, .inl (cI, 12, .inl f_p2_push)), (h_p2_feet, .inl (cI, 12, .inl f_p2_feet)), (h_p2_weight, .inl (cI, 12, .inl f_p2_weight)), (h_p3_yard, .inl (cI, 4, .inl f_p3_yard)), (p3, .inr (5, vL 11 F_p3_)), (h_p3_crew, .inl (cI, 4, .inl f_p3_crew))] H := hP
  have hD : va_D A [(h0, .inr (8, vL 5 Fh)), (h_step, .inl (cI, 40, .inl f_step)), (h_sign, .inl (cI, 40, .inl f_sign)), (h_value, .inl (cI, 40, .inl f_value)), (p2, .inr (1, vL 18 F_p2_)), (h_p2_push, .inl (cI, 12, .inl f_p2_push)), (h_p2_feet, .inl (cI, 12, .inl f_p2_feet)), (h_p2_weight, .inl (cI, 12, .inl f_p2_weight)), (h_p3_yard, .inl (cI, 4, .inl f_p3_yard)), (p3, .inr (5, vL 11 F_p3_)), (h_p3_crew, .inl (cI, 4, .inl f_p3_crew))] := hD
  refine W.widen (k := 0) (n := 0) (Nat.le_of_ble_eq_true rfl) (Nat.le_of_ble_eq_true rfl) ?_
  refine lv_istore (lv' := [(6, .int r1), (0, .ref h0), (1, .int p0), (2, .int p1), (3, .ref p2), (4, .ref p3), (5, .int p4)]) hx hb dX8_isTrue_6 hl (by decide) rfl (fun ls hl => ?_)
  refine lv_aload_n hx hb dX8_isTrue_8 rfl (lv_at hl 1 rfl) ?_
  refine get_f (D := D) (ci := 8) (v := .ref h_step) (C := RX8) (T := TX8) (N := 5) hx hb hw inAX8 hown hK hP 0 rfl rfl 0 (by decide) (hw _ q_692) (fun _ h9 => h9) e_step dX8_isTrue_9 ?_
  refine lv_iload_n hx hb dX8_isTrue_12 rfl (lv_at hl 2 rfl) ?_
  refine va_iald hx hb hK hP 1 0 rfl rfl (ix_k i_p0 (by decide) (by decide)) dX8_isTrue_13 ?_
  refine lv_topi (fun v3 ev3 => ?_)
  by_cases k4 : v3 = 8
  · have dk4 : v3.toInt = 8 := eq_i rfl rfl k4
    have k5 : 8 ≤ v3.toInt ∧ v3.toInt ≤ 8 := ⟨Int.le_trans (Int.le_refl _) (Int.le_of_eq dk4.symm), Int.le_trans (Int.le_of_eq dk4) (Int.le_refl _)⟩
    refine lv_ci (y := 8) k4 ?_
    refine lv_tableIn (tgt := 88) (off := 74) hx hb dX8_isTrue_14 (by decide) (by decide) (by decide) (by decide) ?_
    refine lv_iload hx hb dX8_isTrue_88 (lv_at hl 0 rfl) ?_
    refine lv_iconst (v := (-1)) hx hb dX8_isTrue_90 (by decide) ?_
    refine lv_icmp_eq (tgt := 98) hx hb dX8_isTrue_91 (by decide) (fun c6 => ?_) (fun c6 => ?_)
    · have dc6 : r1.toInt = (-1) := eq_i (a := r1.toInt) (b := (-1)) rfl rfl c6
      have k7 : (-1) ≤ r1.toInt ∧ r1.toInt ≤ (-1) := ⟨t2.1, Int.le_trans (Int.le_of_eq dc6) (Int.le_refl _)⟩
      refine lv_iconst (v := 0) hx hb dX8_isTrue_98 (by decide) ?_
      exact ret_i (v := 0) hx hb hr hlocks hS (hP.sub (ws' := [(h0, .inr (8, vL 5 Fh)), (h_step, .inl (cI, 40, .inl f_step)), (h_sign, .inl (cI, 40, .inl f_sign)), (h_value, .inl (cI, 40, .inl f_value)), (p2, .inr (1, vL 18 F_p2_)), (h_p2_push, .inl (cI, 12, .inl f_p2_push)), (h_p2_feet, .inl (cI, 12, .inl f_p2_feet)), (h_p2_weight, .inl (cI, 12, .inl f_p2_weight)), (p3, .inr (5, vL 11 F_p3_)), (h_p3_crew, .inl (cI, 4, .inl f_p3_crew)), (h_p3_yard, .inl (cI, 4, .inl f_p3_yard))]) [0, 1, 2, 3, 4, 5, 6, 7, 9, 10, 8] rfl) (hD.sub (ws' := [(h0, .inr (8, vL 5 Fh)), (h_step, .inl (cI, 40, .inl f_step)), (h_sign, .inl (cI, 40, .inl f_sign)), (h_value, .inl (cI, 40, .inl f_value)), (p2, .inr (1, vL 18 F_p2_)), (h_p2_push, .inl (cI, 12, .inl f_p2_push)), (h_p2_feet, .inl (cI, 12, .inl f_p2_feet)), (h_p2_weight, .inl (cI, 12, .inl f_p2_weight)), (p3, .inr (5, vL 11 F_p3_)), (h_p3_crew, .inl (cI, 4, .inl f_p3_crew)), (h_p3_yard, .inl (cI, 4, .inl f_p3_yard))]) [0, 1, 2, 3, 4, 5, 6, 7, 9, 10, 8] (by decide) rfl) dX8_isTrue_99 rfl (Nat.le_of_ble_eq_true rfl) (Nat.le_of_ble_eq_true rfl) ⟨⟨by decide, by decide⟩, rfl⟩
    · have dc6 : r1.toInt ≠ (-1) := ne_i (a := r1.toInt) (b := (-1)) rfl rfl c6
      have k8 : 0 ≤ r1.toInt ∧ r1.toInt ≤ 3 := ⟨ne_lo dc6 t2.1 ⟨Int.le_refl _, Int.le_refl _⟩ (by decide), t2.2⟩
      refine lv_iconst (v := 1) hx hb dX8_isTrue_94 (by decide) ?_
      refine lv_goto (tgt := 99) hx hb dX8_isTrue_95 (by decide) ?_
      exact ret_i (v := 1) hx hb hr hlocks hS (hP.sub (ws' := [(h0, .inr (8, vL 5 Fh)), (h_step, .inl (cI, 40, .inl f_step)), (h_sign, .inl (cI, 40, .inl f_sign)), (h_value, .inl (cI, 40, .inl f_value)), (p2, .inr (1, vL 18 F_p2_)), (h_p2_push, .inl (cI, 12, .inl f_p2_push)), (h_p2_feet, .inl (cI, 12, .inl f_p2_feet)), (h_p2_weight, .inl (cI, 12, .inl f_p2_weight)), (p3, .inr (5, vL 11 F_p3_)), (h_p3_crew, .inl (cI, 4, .inl f_p3_crew)), (h_p3_yard, .inl (cI, 4, .inl f_p3_yard))]) [0, 1, 2, 3, 4, 5, 6, 7, 9, 10, 8] rfl) (hD.sub (ws' := [(h0, .inr (8, vL 5 Fh)), (h_step, .inl (cI, 40, .inl f_step)), (h_sign, .inl (cI, 40, .inl f_sign)), (h_value, .inl (cI, 40, .inl f_value)), (p2, .inr (1, vL 18 F_p2_)), (h_p2_push, .inl (cI, 12, .inl f_p2_push)), (h_p2_feet, .inl (cI, 12, .inl f_p2_feet)), (h_p2_weight, .inl (cI, 12, .inl f_p2_weight)), (p3, .inr (5, vL 11 F_p3_)), (h_p3_crew, .inl (cI, 4, .inl f_p3_crew)), (h_p3_yard, .inl (cI, 4, .inl f_p3_yard))]) [0, 1, 2, 3, 4, 5, 6, 7, 9, 10, 8] (by decide) rfl) dX8_isTrue_99 rfl (Nat.le_of_ble_eq_true rfl) (Nat.le_of_ble_eq_true rfl) ⟨⟨by decide, by decide⟩, rfl⟩
  by_cases k9 : v3 = 9
  · have dk9 : v3.toInt = 9 := eq_i rfl rfl k9
    have k10 : 9 ≤ v3.toInt ∧ v3.toInt ≤ 9 := ⟨Int.le_trans (Int.le_refl _) (Int.le_of_eq dk9.symm), Int.le_trans (Int.le_of_eq dk9) (Int.le_refl _)⟩
    refine lv_ci (y := 9) k9 ?_
    refine lv_tableIn (tgt := 216) (off := 202) hx hb dX8_isTrue_14 (by decide) (by decide) (by decide) (by decide) ?_
    refine lv_iconst (v := 0) hx hb dX8_isTrue_216 (by decide) ?_
    exact ret_i (v := 0) hx hb hr hlocks hS (hP.sub (ws' := [(h0, .inr (8, vL 5 Fh)), (h_step, .inl (cI, 40, .inl f_step)), (h_sign, .inl (cI, 40, .inl f_sign)), (h_value, .inl (cI, 40, .inl f_value)), (p2, .inr (1, vL 18 F_p2_)), (h_p2_push, .inl (cI, 12, .inl f_p2_push)), (h_p2_feet, .inl (cI, 12, .inl f_p2_feet)), (h_p2_weight, .inl (cI, 12, .inl f_p2_weight)), (p3, .inr (5, vL 11 F_p3_)), (h_p3_crew, .inl (cI, 4, .inl f_p3_crew)), (h_p3_yard, .inl (cI, 4, .inl f_p3_yard))]) [0, 1, 2, 3, 4, 5, 6, 7, 9, 10, 8] rfl) (hD.sub (ws' := [(h0, .inr (8, vL 5 Fh)), (h_step, .inl (cI, 40, .inl f_step)), (h_sign, .inl (cI, 40, .inl f_sign)), (h_value, .inl (cI, 40, .inl f_value)), (p2, .inr (1, vL 18 F_p2_)), (h_p2_push, .inl (cI, 12, .inl f_p2_push)), (h_p2_feet, .inl (cI, 12, .inl f_p2_feet)), (h_p2_weight, .inl (cI, 12, .inl f_p2_weight)), (p3, .inr (5, vL 11 F_p3_)), (h_p3_crew, .inl (cI, 4, .inl f_p3_crew)), (h_p3_yard, .inl (cI, 4, .inl f_p3_yard))]) [0, 1, 2, 3, 4, 5, 6, 7, 9, 10, 8] (by decide) rfl) dX8_isTrue_217 rfl (Nat.le_of_ble_eq_true rfl) (Nat.le_of_ble_eq_true rfl) ⟨⟨by decide, by decide⟩, rfl⟩
  by_cases k11 : v3 = 10
  · have dk11 : v3.toInt = 10 := eq_i rfl rfl k11
    have k12 : 10 ≤ v3.toInt ∧ v3.toInt ≤ 10 := ⟨Int.le_trans (Int.le_refl _) (Int.le_of_eq dk11.symm), Int.le_trans (Int.le_of_eq dk11) (Int.le_refl _)⟩
    refine lv_ci (y := 10) k11 ?_
    refine lv_tableIn (tgt := 216) (off := 202) hx hb dX8_isTrue_14 (by decide) (by decide) (by decide) (by decide) ?_
    refine lv_iconst (v := 0) hx hb dX8_isTrue_216 (by decide) ?_
    exact ret_i (v := 0) hx hb hr hlocks hS (hP.sub (ws' := [(h0, .inr (8, vL 5 Fh)), (h_step, .inl (cI, 40, .inl f_step)), (h_sign, .inl (cI, 40, .inl f_sign)), (h_value, .inl (cI, 40, .inl f_value)), (p2, .inr (1, vL 18 F_p2_)), (h_p2_push, .inl (cI, 12, .inl f_p2_push)), (h_p2_feet, .inl (cI, 12, .inl f_p2_feet)), (h_p2_weight, .inl (cI, 12, .inl f_p2_weight)), (p3, .inr (5, vL 11 F_p3_)), (h_p3_crew, .inl (cI, 4, .inl f_p3_crew)), (h_p3_yard, .inl (cI, 4, .inl f_p3_yard))]) [0, 1, 2, 3, 4, 5, 6, 7, 9, 10, 8] rfl) (hD.sub (ws' := [(h0, .inr (8, vL 5 Fh)), (h_step, .inl (cI, 40, .inl f_step)), (h_sign, .inl (cI, 40, .inl f_sign)), (h_value, .inl (cI, 40, .inl f_value)), (p2, .inr (1, vL 18 F_p2_)), (h_p2_push, .inl (cI, 12, .inl f_p2_push)), (h_p2_feet, .inl (cI, 12, .inl f_p2_feet)), (h_p2_weight, .inl (cI, 12, .inl f_p2_weight)), (p3, .inr (5, vL 11 F_p3_)), (h_p3_crew, .inl (cI, 4, .inl f_p3_crew)), (h_p3_yard, .inl (cI, 4, .inl f_p3_yard))]) [0, 1, 2, 3, 4, 5, 6, 7, 9, 10, 8] (by decide) rfl) dX8_isTrue_217 rfl (Nat.le_of_ble_eq_true rfl) (Nat.le_of_ble_eq_true rfl) ⟨⟨by decide, by decide⟩, rfl⟩
  by_cases k13 : v3 = 11
  · have dk13 : v3.toInt = 11 := eq_i rfl rfl k13
    have k14 : 11 ≤ v3.toInt ∧ v3.toInt ≤ 11 := ⟨Int.le_trans (Int.le_refl _) (Int.le_of_eq dk13.symm), Int.le_trans (Int.le_of_eq dk13) (Int.le_refl _)⟩
    refine lv_ci (y := 11) k13 ?_
    refine lv_tableIn (tgt := 216) (off := 202) hx hb dX8_isTrue_14 (by decide) (by decide) (by decide) (by decide) ?_
    refine lv_iconst (v := 0) hx hb dX8_isTrue_216 (by decide) ?_
    exact ret_i (v := 0) hx hb hr hlocks hS (hP.sub (ws' := [(h0, .inr (8, vL 5 Fh)), (h_step, .inl (cI, 40, .inl f_step)), (h_sign, .inl (cI, 40, .inl f_sign)), (h_value, .inl (cI, 40, .inl f_value)), (p2, .inr (1, vL 18 F_p2_)), (h_p2_push, .inl (cI, 12, .inl f_p2_push)), (h_p2_feet, .inl (cI, 12, .inl f_p2_feet)), (h_p2_weight, .inl (cI, 12, .inl f_p2_weight)), (p3, .inr (5, vL 11 F_p3_)), (h_p3_crew, .inl (cI, 4, .inl f_p3_crew)), (h_p3_yard, .inl (cI, 4, .inl f_p3_yard))]) [0, 1, 2, 3, 4, 5, 6, 7, 9, 10, 8] rfl) (hD.sub (ws' := [(h0, .inr (8, vL 5 Fh)), (h_step, .inl (cI, 40, .inl f_step)), (h_sign, .inl (cI, 40, .inl f_sign)), (h_value, .inl (cI, 40, .inl f_value)), (p2, .inr (1, vL 18 F_p2_)), (h_p2_push, .inl (cI, 12, .inl f_p2_push)), (h_p2_feet, .inl (cI, 12, .inl f_p2_feet)), (h_p2_weight, .inl (cI, 12, .inl f_p2_weight)), (p3, .inr (5, vL 11 F_p3_)), (h_p3_crew, .inl (cI, 4, .inl f_p3_crew)), (h_p3_yard, .inl (cI, 4, .inl f_p3_yard))]) [0, 1, 2, 3, 4, 5, 6, 7, 9, 10, 8] (by decide) rfl) dX8_isTrue_217 rfl (Nat.le_of_ble_eq_true rfl) (Nat.le_of_ble_eq_true rfl) ⟨⟨by decide, by decide⟩, rfl⟩
  by_cases k15 : v3 = 12
  · have dk15 : v3.toInt = 12 := eq_i rfl rfl k15
    have k16 : 12 ≤ v3.toInt ∧ v3.toInt ≤ 12 := ⟨Int.le_trans (Int.le_refl _) (Int.le_of_eq dk15.symm), Int.le_trans (Int.le_of_eq dk15) (Int.le_refl _)⟩
    refine lv_ci (y := 12) k15 ?_
    refine lv_tableIn (tgt := 216) (off := 202) hx hb dX8_isTrue_14 (by decide) (by decide) (by decide) (by decide) ?_
    refine lv_iconst (v := 0) hx hb dX8_isTrue_216 (by decide) ?_
    exact ret_i (v := 0) hx hb hr hlocks hS (hP.sub (ws' := [(h0, .inr (8, vL 5 Fh)), (h_step, .inl (cI, 40, .inl f_step)), (h_sign, .inl (cI, 40, .inl f_sign)), (h_value, .inl (cI, 40, .inl f_value)), (p2, .inr (1, vL 18 F_p2_)), (h_p2_push, .inl (cI, 12, .inl f_p2_push)), (h_p2_feet, .inl (cI, 12, .inl f_p2_feet)), (h_p2_weight, .inl (cI, 12, .inl f_p2_weight)), (p3, .inr (5, vL 11 F_p3_)), (h_p3_crew, .inl (cI, 4, .inl f_p3_crew)), (h_p3_yard, .inl (cI, 4, .inl f_p3_yard))]) [0, 1, 2, 3, 4, 5, 6, 7, 9, 10, 8] rfl) (hD.sub (ws' := [(h0, .inr (8, vL 5 Fh)), (h_step, .inl (cI, 40, .inl f_step)), (h_sign, .inl (cI, 40, .inl f_sign)), (h_value, .inl (cI, 40, .inl f_value)), (p2, .inr (1, vL 18 F_p2_)), (h_p2_push, .inl (cI, 12, .inl f_p2_push)), (h_p2_feet, .inl (cI, 12, .inl f_p2_feet)), (h_p2_weight, .inl (cI, 12, .inl f_p2_weight)), (p3, .inr (5, vL 11 F_p3_)), (h_p3_crew, .inl (cI, 4, .inl f_p3_crew)), (h_p3_yard, .inl (cI, 4, .inl f_p3_yard))]) [0, 1, 2, 3, 4, 5, 6, 7, 9, 10, 8] (by decide) rfl) dX8_isTrue_217 rfl (Nat.le_of_ble_eq_true rfl) (Nat.le_of_ble_eq_true rfl) ⟨⟨by decide, by decide⟩, rfl⟩
  by_cases k17 : v3 = 13
  · have dk17 : v3.toInt = 13 := eq_i rfl rfl k17
    have k18 : 13 ≤ v3.toInt ∧ v3.toInt ≤ 13 := ⟨Int.le_trans (Int.le_refl _) (Int.le_of_eq dk17.symm), Int.le_trans (Int.le_of_eq dk17) (Int.le_refl _)⟩
    refine lv_ci (y := 13) k17 ?_
    refine lv_tableIn (tgt := 216) (off := 202) hx hb dX8_isTrue_14 (by decide) (by decide) (by decide) (by decide) ?_
    refine lv_iconst (v := 0) hx hb dX8_isTrue_216 (by decide) ?_
    exact ret_i (v := 0) hx hb hr hlocks hS (hP.sub (ws' := [(h0, .inr (8, vL 5 Fh)), (h_step, .inl (cI, 40, .inl f_step)), (h_sign, .inl (cI, 40, .inl f_sign)), (h_value, .inl (cI, 40, .inl f_value)), (p2, .inr (1, vL 18 F_p2_)), (h_p2_push, .inl (cI, 12, .inl f_p2_push)), (h_p2_feet, .inl (cI, 12, .inl f_p2_feet)), (h_p2_weight, .inl (cI, 12, .inl f_p2_weight)), (p3, .inr (5, vL 11 F_p3_)), (h_p3_crew, .inl (cI, 4, .inl f_p3_crew)), (h_p3_yard, .inl (cI, 4, .inl f_p3_yard))]) [0, 1, 2, 3, 4, 5, 6, 7, 9, 10, 8] rfl) (hD.sub (ws' := [(h0, .inr (8, vL 5 Fh)), (h_step, .inl (cI, 40, .inl f_step)), (h_sign, .inl (cI, 40, .inl f_sign)), (h_value, .inl (cI, 40, .inl f_value)), (p2, .inr (1, vL 18 F_p2_)), (h_p2_push, .inl (cI, 12, .inl f_p2_push)), (h_p2_feet, .inl (cI, 12, .inl f_p2_feet)), (h_p2_weight, .inl (cI, 12, .inl f_p2_weight)), (p3, .inr (5, vL 11 F_p3_)), (h_p3_crew, .inl (cI, 4, .inl f_p3_crew)), (h_p3_yard, .inl (cI, 4, .inl f_p3_yard))]) [0, 1, 2, 3, 4, 5, 6, 7, 9, 10, 8] (by decide) rfl) dX8_isTrue_217 rfl (Nat.le_of_ble_eq_true rfl) (Nat.le_of_ble_eq_true rfl) ⟨⟨by decide, by decide⟩, rfl⟩
  by_cases k19 : v3 = 14
  · have dk19 : v3.toInt = 14 := eq_i rfl rfl k19
    have k20 : 14 ≤ v3.toInt ∧ v3.toInt ≤ 14 := ⟨Int.le_trans (Int.le_refl _) (Int.le_of_eq dk19.symm), Int.le_trans (Int.le_of_eq dk19) (Int.le_refl _)⟩
    refine lv_ci (y := 14) k19 ?_
    refine lv_tableIn (tgt := 216) (off := 202) hx hb dX8_isTrue_14 (by decide) (by decide) (by decide) (by decide) ?_
    refine lv_iconst (v := 0) hx hb dX8_isTrue_216 (by decide) ?_
    exact ret_i (v := 0) hx hb hr hlocks hS (hP.sub (ws' := [(h0, .inr (8, vL 5 Fh)), (h_step, .inl (cI, 40, .inl f_step)), (h_sign, .inl (cI, 40, .inl f_sign)), (h_value, .inl (cI, 40, .inl f_value)), (p2, .inr (1, vL 18 F_p2_)), (h_p2_push, .inl (cI, 12, .inl f_p2_push)), (h_p2_feet, .inl (cI, 12, .inl f_p2_feet)), (h_p2_weight, .inl (cI, 12, .inl f_p2_weight)), (p3, .inr (5, vL 11 F_p3_)), (h_p3_crew, .inl (cI, 4, .inl f_p3_crew)), (h_p3_yard, .inl (cI, 4, .inl f_p3_yard))]) [0, 1, 2, 3, 4, 5, 6, 7, 9, 10, 8] rfl) (hD.sub (ws' := [(h0, .inr (8, vL 5 Fh)), (h_step, .inl (cI, 40, .inl f_step)), (h_sign, .inl (cI, 40, .inl f_sign)), (h_value, .inl (cI, 40, .inl f_value)), (p2, .inr (1, vL 18 F_p2_)), (h_p2_push, .inl (cI, 12, .inl f_p2_push)), (h_p2_feet, .inl (cI, 12, .inl f_p2_feet)), (h_p2_weight, .inl (cI, 12, .inl f_p2_weight)), (p3, .inr (5, vL 11 F_p3_)), (h_p3_crew, .inl (cI, 4, .inl f_p3_crew)), (h_p3_yard, .inl (cI, 4, .inl f_p3_yard))]) [0, 1, 2, 3, 4, 5, 6, 7, 9, 10, 8] (by decide) rfl) dX8_isTrue_217 rfl (Nat.le_of_ble_eq_true rfl) (Nat.le_of_ble_eq_true rfl) ⟨⟨by decide, by decide⟩, rfl⟩
  by_cases k21 : v3 = 15
  · have dk21 : v3.toInt = 15 := eq_i rfl rfl k21
    have k22 : 15 ≤ v3.toInt ∧ v3.toInt ≤ 15 := ⟨Int.le_trans (Int.le_refl _) (Int.le_of_eq dk21.symm), Int.le_trans (Int.le_of_eq dk21) (Int.le_refl _)⟩
    refine lv_ci (y := 15) k21 ?_
    refine lv_tableIn (tgt := 216) (off := 202) hx hb dX8_isTrue_14 (by decide) (by decide) (by decide) (by decide) ?_
    refine lv_iconst (v := 0) hx hb dX8_isTrue_216 (by decide) ?_
    exact ret_i (v := 0) hx hb hr hlocks hS (hP.sub (ws' := [(h0, .inr (8, vL 5 Fh)), (h_step, .inl (cI, 40, .inl f_step)), (h_sign, .inl (cI, 40, .inl f_sign)), (h_value, .inl (cI, 40, .inl f_value)), (p2, .inr (1, vL 18 F_p2_)), (h_p2_push, .inl (cI, 12, .inl f_p2_push)), (h_p2_feet, .inl (cI, 12, .inl f_p2_feet)), (h_p2_weight, .inl (cI, 12, .inl f_p2_weight)), (p3, .inr (5, vL 11 F_p3_)), (h_p3_crew, .inl (cI, 4, .inl f_p3_crew)), (h_p3_yard, .inl (cI, 4, .inl f_p3_yard))]) [0, 1, 2, 3, 4, 5, 6, 7, 9, 10, 8] rfl) (hD.sub (ws' := [(h0, .inr (8, vL 5 Fh)), (h_step, .inl (cI, 40, .inl f_step)), (h_sign, .inl (cI, 40, .inl f_sign)), (h_value, .inl (cI, 40, .inl f_value)), (p2, .inr (1, vL 18 F_p2_)), (h_p2_push, .inl (cI, 12, .inl f_p2_push)), (h_p2_feet, .inl (cI, 12, .inl f_p2_feet)), (h_p2_weight, .inl (cI, 12, .inl f_p2_weight)), (p3, .inr (5, vL 11 F_p3_)), (h_p3_crew, .inl (cI, 4, .inl f_p3_crew)), (h_p3_yard, .inl (cI, 4, .inl f_p3_yard))]) [0, 1, 2, 3, 4, 5, 6, 7, 9, 10, 8] (by decide) rfl) dX8_isTrue_217 rfl (Nat.le_of_ble_eq_true rfl) (Nat.le_of_ble_eq_true rfl) ⟨⟨by decide, by decide⟩, rfl⟩
  by_cases k23 : v3 = 16
  · have dk23 : v3.toInt = 16 := eq_i rfl rfl k23
    have k24 : 16 ≤ v3.toInt ∧ v3.toInt ≤ 16 := ⟨Int.le_trans (Int.le_refl _) (Int.le_of_eq dk23.symm), Int.le_trans (Int.le_of_eq dk23) (Int.le_refl _)⟩
    refine lv_ci (y := 16) k23 ?_
    refine lv_tableIn (tgt := 216) (off := 202) hx hb dX8_isTrue_14 (by decide) (by decide) (by decide) (by decide) ?_
    refine lv_iconst (v := 0) hx hb dX8_isTrue_216 (by decide) ?_
    exact ret_i (v := 0) hx hb hr hlocks hS (hP.sub (ws' := [(h0, .inr (8, vL 5 Fh)), (h_step, .inl (cI, 40, .inl f_step)), (h_sign, .inl (cI, 40, .inl f_sign)), (h_value, .inl (cI, 40, .inl f_value)), (p2, .inr (1, vL 18 F_p2_)), (h_p2_push, .inl (cI, 12, .inl f_p2_push)), (h_p2_feet, .inl (cI, 12, .inl f_p2_feet)), (h_p2_weight, .inl (cI, 12, .inl f_p2_weight)), (p3, .inr (5, vL 11 F_p3_)), (h_p3_crew, .inl (cI, 4, .inl f_p3_crew)), (h_p3_yard, .inl (cI, 4, .inl f_p3_yard))]) [0, 1, 2, 3, 4, 5, 6, 7, 9, 10, 8] rfl) (hD.sub (ws' := [(h0, .inr (8, vL 5 Fh)), (h_step, .inl (cI, 40, .inl f_step)), (h_sign, .inl (cI, 40, .inl f_sign)), (h_value, .inl (cI, 40, .inl f_value)), (p2, .inr (1, vL 18 F_p2_)), (h_p2_push, .inl (cI, 12, .inl f_p2_push)), (h_p2_feet, .inl (cI, 12, .inl f_p2_feet)), (h_p2_weight, .inl (cI, 12, .inl f_p2_weight)), (p3, .inr (5, vL 11 F_p3_)), (h_p3_crew, .inl (cI, 4, .inl f_p3_crew)), (h_p3_yard, .inl (cI, 4, .inl f_p3_yard))]) [0, 1, 2, 3, 4, 5, 6, 7, 9, 10, 8] (by decide) rfl) dX8_isTrue_217 rfl (Nat.le_of_ble_eq_true rfl) (Nat.le_of_ble_eq_true rfl) ⟨⟨by decide, by decide⟩, rfl⟩
  by_cases k25 : v3 = 17
  · have dk25 : v3.toInt = 17 := eq_i rfl rfl k25
    have k26 : 17 ≤ v3.toInt ∧ v3.toInt ≤ 17 := ⟨Int.le_trans (Int.le_refl _) (Int.le_of_eq dk25.symm), Int.le_trans (Int.le_of_eq dk25) (Int.le_refl _)⟩
    refine lv_ci (y := 17) k25 ?_
    refine lv_tableIn (tgt := 100) (off := 86) hx hb dX8_isTrue_14 (by decide) (by decide) (by decide) (by decide) ?_
    refine lv_iload hx hb dX8_isTrue_100 (lv_at hl 0 rfl) ?_
    refine lv_iconst (v := (-1)) hx hb dX8_isTrue_102 (by decide) ?_
    refine lv_icmp_eq (tgt := 121) hx hb dX8_isTrue_103 (by decide) (fun c27 => ?_) (fun c27 => ?_)
    · have dc27 : r1.toInt = (-1) := eq_i (a := r1.toInt) (b := (-1)) rfl rfl c27
      have k28 : (-1) ≤ r1.toInt ∧ r1.toInt ≤ (-1) := ⟨t2.1, Int.le_trans (Int.le_of_eq dc27) (Int.le_refl _)⟩
      refine lv_iconst (v := 0) hx hb dX8_isTrue_121 (by decide) ?_
      exact ret_i (v := 0) hx hb hr hlocks hS (hP.sub (ws' := [(h0, .inr (8, vL 5 Fh)), (h_step, .inl (cI, 40, .inl f_step)), (h_sign, .inl (cI, 40, .inl f_sign)), (h_value, .inl (cI, 40, .inl f_value)), (p2, .inr (1, vL 18 F_p2_)), (h_p2_push, .inl (cI, 12, .inl f_p2_push)), (h_p2_feet, .inl (cI, 12, .inl f_p2_feet)), (h_p2_weight, .inl (cI, 12, .inl f_p2_weight)), (p3, .inr (5, vL 11 F_p3_)), (h_p3_crew, .inl (cI, 4, .inl f_p3_crew)), (h_p3_yard, .inl (cI, 4, .inl f_p3_yard))]) [0, 1, 2, 3, 4, 5, 6, 7, 9, 10, 8] rfl) (hD.sub (ws' := [(h0, .inr (8, vL 5 Fh)), (h_step, .inl (cI, 40, .inl f_step)), (h_sign, .inl (cI, 40, .inl f_sign)), (h_value, .inl (cI, 40, .inl f_value)), (p2, .inr (1, vL 18 F_p2_)), (h_p2_push, .inl (cI, 12, .inl f_p2_push)), (h_p2_feet, .inl (cI, 12, .inl f_p2_feet)), (h_p2_weight, .inl (cI, 12, .inl f_p2_weight)), (p3, .inr (5, vL 11 F_p3_)), (h_p3_crew, .inl (cI, 4, .inl f_p3_crew)), (h_p3_yard, .inl (cI, 4, .inl f_p3_yard))]) [0, 1, 2, 3, 4, 5, 6, 7, 9, 10, 8] (by decide) rfl) dX8_isTrue_122 rfl (Nat.le_of_ble_eq_true rfl) (Nat.le_of_ble_eq_true rfl) ⟨⟨by decide, by decide⟩, rfl⟩
    · have dc27 : r1.toInt ≠ (-1) := ne_i (a := r1.toInt) (b := (-1)) rfl rfl c27
      have k29 : 0 ≤ r1.toInt ∧ r1.toInt ≤ 3 := ⟨ne_lo dc27 t2.1 ⟨Int.le_refl _, Int.le_refl _⟩ (by decide), t2.2⟩
      refine lv_iload hx hb dX8_isTrue_106 (lv_at hl 6 rfl) ?_
      refine lv_iload hx hb dX8_isTrue_108 (lv_at hl 0 rfl) ?_
      refine lv_ishr hx hb dX8_isTrue_110 ?_
      refine lv_topi (fun v30 ev30 => ?_)
      refine lv_iconst (v := 1) hx hb dX8_isTrue_111 (by decide) ?_
      refine lv_iand hx hb dX8_isTrue_112 ?_
      refine lv_topi (fun v31 ev31 => ?_)
      have k32 : 0 ≤ v31.toInt ∧ v31.toInt ≤ 1 := by rw [ev31]; exact and_i v30 1 (by decide)
      refine lv_iconst (v := 1) hx hb dX8_isTrue_113 (by decide) ?_
      refine lv_icmp_ne (tgt := 121) hx hb dX8_isTrue_114 (by decide) (fun c33 => ?_) (fun c33 => ?_)
      · have dc33 : v31.toInt ≠ 1 := ne_i (a := v31.toInt) (b := 1) rfl rfl c33
        have k34 : 0 ≤ v31.toInt ∧ v31.toInt ≤ 0 := ⟨k32.1, ne_hi dc33 k32.2 ⟨Int.le_refl _, Int.le_refl _⟩ (by decide)⟩
        refine lv_iconst (v := 0) hx hb dX8_isTrue_121 (by decide) ?_
        exact ret_i (v := 0) hx hb hr hlocks hS (hP.sub (ws' := [(h0, .inr (8, vL 5 Fh)), (h_step, .inl (cI, 40, .inl f_step)), (h_sign, .inl (cI, 40, .inl f_sign)), (h_value, .inl (cI, 40, .inl f_value)), (p2, .inr (1, vL 18 F_p2_)), (h_p2_push, .inl (cI, 12, .inl f_p2_push)), (h_p2_feet, .inl (cI, 12, .inl f_p2_feet)), (h_p2_weight, .inl (cI, 12, .inl f_p2_weight)), (p3, .inr (5, vL 11 F_p3_)), (h_p3_crew, .inl (cI, 4, .inl f_p3_crew)), (h_p3_yard, .inl (cI, 4, .inl f_p3_yard))]) [0, 1, 2, 3, 4, 5, 6, 7, 9, 10, 8] rfl) (hD.sub (ws' := [(h0, .inr (8, vL 5 Fh)), (h_step, .inl (cI, 40, .inl f_step)), (h_sign, .inl (cI, 40, .inl f_sign)), (h_value, .inl (cI, 40, .inl f_value)), (p2, .inr (1, vL 18 F_p2_)), (h_p2_push, .inl (cI, 12, .inl f_p2_push)), (h_p2_feet, .inl (cI, 12, .inl f_p2_feet)), (h_p2_weight, .inl (cI, 12, .inl f_p2_weight)), (p3, .inr (5, vL 11 F_p3_)), (h_p3_crew, .inl (cI, 4, .inl f_p3_crew)), (h_p3_yard, .inl (cI, 4, .inl f_p3_yard))]) [0, 1, 2, 3, 4, 5, 6, 7, 9, 10, 8] (by decide) rfl) dX8_isTrue_122 rfl (Nat.le_of_ble_eq_true rfl) (Nat.le_of_ble_eq_true rfl) ⟨⟨by decide, by decide⟩, rfl⟩
      · have dc33 : v31.toInt = 1 := eq_i (a := v31.toInt) (b := 1) rfl rfl c33
        have k35 : 1 ≤ v31.toInt ∧ v31.toInt ≤ 1 := ⟨Int.le_trans (Int.le_refl _) (Int.le_of_eq dc33.symm), k32.2⟩
        refine lv_iconst (v := 1) hx hb dX8_isTrue_117 (by decide) ?_
        refine lv_goto (tgt := 122) hx hb dX8_isTrue_118 (by decide) ?_
        exact ret_i (v := 1) hx hb hr hlocks hS (hP.sub (ws' := [(h0, .inr (8, vL 5 Fh)), (h_step, .inl (cI, 40, .inl f_step)), (h_sign, .inl (cI, 40, .inl f_sign)), (h_value, .inl (cI, 40, .inl f_value)), (p2, .inr (1, vL 18 F_p2_)), (h_p2_push, .inl (cI, 12, .inl f_p2_push)), (h_p2_feet, .inl (cI, 12, .inl f_p2_feet)), (h_p2_weight, .inl (cI, 12, .inl f_p2_weight)), (p3, .inr (5, vL 11 F_p3_)), (h_p3_crew, .inl (cI, 4, .inl f_p3_crew)), (h_p3_yard, .inl (cI, 4, .inl f_p3_yard))]) [0, 1, 2, 3, 4, 5, 6, 7, 9, 10, 8] rfl) (hD.sub (ws' := [(h0, .inr (8, vL 5 Fh)), (h_step, .inl (cI, 40, .inl f_step)), (h_sign, .inl (cI, 40, .inl f_sign)), (h_value, .inl (cI, 40, .inl f_value)), (p2, .inr (1, vL 18 F_p2_)), (h_p2_push, .inl (cI, 12, .inl f_p2_push)), (h_p2_feet, .inl (cI, 12, .inl f_p2_feet)), (h_p2_weight, .inl (cI, 12, .inl f_p2_weight)), (p3, .inr (5, vL 11 F_p3_)), (h_p3_crew, .inl (cI, 4, .inl f_p3_crew)), (h_p3_yard, .inl (cI, 4, .inl f_p3_yard))]) [0, 1, 2, 3, 4, 5, 6, 7, 9, 10, 8] (by decide) rfl) dX8_isTrue_122 rfl (Nat.le_of_ble_eq_true rfl) (Nat.le_of_ble_eq_true rfl) ⟨⟨by decide, by decide⟩, rfl⟩
  by_cases k36 : v3 = 18
  · have dk36 : v3.toInt = 18 := eq_i rfl rfl k36
    have k37 : 18 ≤ v3.toInt ∧ v3.toInt ≤ 18 := ⟨Int.le_trans (Int.le_refl _) (Int.le_of_eq dk36.symm), Int.le_trans (Int.le_of_eq dk36) (Int.le_refl _)⟩
    refine lv_ci (y := 18) k36 ?_
    refine lv_tableIn (tgt := 123) (off := 109) hx hb dX8_isTrue_14 (by decide) (by decide) (by decide) (by decide) ?_
    refine lv_aload hx hb dX8_isTrue_123 (lv_at hl 5 rfl) ?_
    refine lv_aload_n hx hb dX8_isTrue_125 rfl (lv_at hl 1 rfl) ?_
    refine get_f (D := D) (ci := 8) (v := .ref h_value) (C := RX8) (T := TX8) (N := 5) hx hb hw inAX8 hown hK hP 0 rfl rfl 2 (by decide) (hw _ q_694) (fun _ h9 => h9) e_value dX8_isTrue_126 ?_
    refine lv_iload_n hx hb dX8_isTrue_129 rfl (lv_at hl 2 rfl) ?_
    refine va_iald hx hb hK hP 3 0 rfl rfl (ix_k i_p0 (by decide) (by decide)) dX8_isTrue_130 ?_
    refine lv_topi (fun v38 ev38 => ?_)
    refine call_Vi (wr := [(h0, .inr (8, vL 5 Fh)), (h_step, .inl (cI, 40, .inl f_step)), (h_sign, .inl (cI, 40, .inl f_sign)), (h_value, .inl (cI, 40, .inl f_value)), (p2, .inr (1, vL 18 F_p2_)), (h_p2_push, .inl (cI, 12, .inl f_p2_push)), (h_p2_feet, .inl (cI, 12, .inl f_p2_feet)), (h_p2_weight, .inl (cI, 12, .inl f_p2_weight)), (h_p3_yard, .inl (cI, 4, .inl f_p3_yard))]) (As := [.int v38]) (rest := []) hx hb hml hown hw (m_X5_placeOf l D cI cJ cB cP cM cZ p3 h_p3_crew F_p3_ x_p3_crewed f_p3_crew v38 _ e_p3_crew e_p3_crewed i_x_p3_crewed s_p3_crew_0) wV_X8_97_X5_placeOf dX8_isTrue_131 hK hP hD hS hA [9, 10] [0, 1, 2, 3, 4, 5, 6, 7, 8] rfl rfl (by decide) (by decide) (by decide) 0 5 rfl rfl GG.fb hG.at hl.1 rfl (Nat.le_of_ble_eq_true rfl) ⟨(Nat.le_of_ble_eq_true rfl), (Nat.le_of_ble_eq_true rfl)⟩ ⟨(Nat.le_of_ble_eq_true rfl), (Nat.le_of_ble_eq_true rfl)⟩ (fun r39 u H locs hp hP hD hS => ?_)
    obtain ⟨t40, rfl⟩ := hp
    have hP : va_P D vwCl [(h0, .inr (8, vL 5 Fh)), (h_step, .inl (cI, 40, .inl f_step)), (h_sign, .inl (cI, 40, .inl f_sign)), (h_value, .inl (cI, 40, .inl f_value)), (p2, .inr (1, vL 18 F_p2_)), (h_p2_push, .inl (cI, 12, .inl f_p2_push)), (h_p2_feet, .inl (cI, 12, .inl f_p2_feet)), (h_p2_weight, .inl (cI, 12, .inl f_p2_weight)), (h_p3_yard, .inl (cI, 4, .inl f_p3_yard)), (p3, .inr (5, vL 11 F_p3_)), (h_p3_crew, .inl (cI, 4, .inl f_p3_crew))] H := hP
    have hD : va_D A [(h0, .inr (8, vL 5 Fh)), (h_step, .inl (cI, 40, .inl f_step)), (h_sign, .inl (cI, 40, .inl f_sign)), (h_value, .inl (cI, 40, .inl f_value)), (p2, .inr (1, vL 18 F_p2_)), (h_p2_push, .inl (cI, 12, .inl f_p2_push)), (h_p2_feet, .inl (cI, 12, .inl f_p2_feet)), (h_p2_weight, .inl (cI, 12, .inl f_p2_weight)), (h_p3_yard, .inl (cI, 4, .inl f_p3_yard)), (p3, .inr (5, vL 11 F_p3_)), (h_p3_crew, .inl (cI, 4, .inl f_p3_crew))] := hD
    refine W.widen (k := 0) (n := 0) (Nat.le_of_ble_eq_true rfl) (Nat.le_of_ble_eq_true rfl) ?_
    refine lv_istore (lv' := [(7, .int r39), (6, .int r1), (0, .ref h0), (1, .int p0), (2, .int p1), (3, .ref p2), (4, .ref p3), (5, .int p4)]) hx hb dX8_isTrue_134 hl (by decide) rfl (fun ls hl => ?_)
    refine lv_iload hx hb dX8_isTrue_136 (lv_at hl 1 rfl) ?_
    refine lv_iconst (v := (-1)) hx hb dX8_isTrue_138 (by decide) ?_
    refine lv_icmp_eq (tgt := 171) hx hb dX8_isTrue_139 (by decide) (fun c41 => ?_) (fun c41 => ?_)
    · have dc41 : r1.toInt = (-1) := eq_i (a := r1.toInt) (b := (-1)) rfl rfl c41
      have k42 : (-1) ≤ r1.toInt ∧ r1.toInt ≤ (-1) := ⟨t2.1, Int.le_trans (Int.le_of_eq dc41) (Int.le_refl _)⟩
      refine lv_iconst (v := 0) hx hb dX8_isTrue_171 (by decide) ?_
      exact ret_i (v := 0) hx hb hr hlocks hS (hP.sub (ws' := [(h0, .inr (8, vL 5 Fh)), (h_step, .inl (cI, 40, .inl f_step)), (h_sign, .inl (cI, 40, .inl f_sign)), (h_value, .inl (cI, 40, .inl f_value)), (p2, .inr (1, vL 18 F_p2_)), (h_p2_push, .inl (cI, 12, .inl f_p2_push)), (h_p2_feet, .inl (cI, 12, .inl f_p2_feet)), (h_p2_weight, .inl (cI, 12, .inl f_p2_weight)), (p3, .inr (5, vL 11 F_p3_)), (h_p3_crew, .inl (cI, 4, .inl f_p3_crew)), (h_p3_yard, .inl (cI, 4, .inl f_p3_yard))]) [0, 1, 2, 3, 4, 5, 6, 7, 9, 10, 8] rfl) (hD.sub (ws' := [(h0, .inr (8, vL 5 Fh)), (h_step, .inl (cI, 40, .inl f_step)), (h_sign, .inl (cI, 40, .inl f_sign)), (h_value, .inl (cI, 40, .inl f_value)), (p2, .inr (1, vL 18 F_p2_)), (h_p2_push, .inl (cI, 12, .inl f_p2_push)), (h_p2_feet, .inl (cI, 12, .inl f_p2_feet)), (h_p2_weight, .inl (cI, 12, .inl f_p2_weight)), (p3, .inr (5, vL 11 F_p3_)), (h_p3_crew, .inl (cI, 4, .inl f_p3_crew)), (h_p3_yard, .inl (cI, 4, .inl f_p3_yard))]) [0, 1, 2, 3, 4, 5, 6, 7, 9, 10, 8] (by decide) rfl) dX8_isTrue_172 rfl (Nat.le_of_ble_eq_true rfl) (Nat.le_of_ble_eq_true rfl) ⟨⟨by decide, by decide⟩, rfl⟩
    · have dc41 : r1.toInt ≠ (-1) := ne_i (a := r1.toInt) (b := (-1)) rfl rfl c41
      have k43 : 0 ≤ r1.toInt ∧ r1.toInt ≤ 3 := ⟨ne_lo dc41 t2.1 ⟨Int.le_refl _, Int.le_refl _⟩ (by decide), t2.2⟩
      refine lv_iload hx hb dX8_isTrue_142 (lv_at hl 0 rfl) ?_
      refine lv_iconst (v := (-1)) hx hb dX8_isTrue_144 (by decide) ?_
      refine lv_icmp_eq (tgt := 171) hx hb dX8_isTrue_145 (by decide) (fun c44 => ?_) (fun c44 => ?_)
      · have dc44 : r39.toInt = (-1) := eq_i (a := r39.toInt) (b := (-1)) rfl rfl c44
        have k45 : (-1) ≤ r39.toInt ∧ r39.toInt ≤ (-1) := ⟨t40.1, Int.le_trans (Int.le_of_eq dc44) (Int.le_refl _)⟩
        refine lv_iconst (v := 0) hx hb dX8_isTrue_171 (by decide) ?_
        exact ret_i (v := 0) hx hb hr hlocks hS (hP.sub (ws' := [(h0, .inr (8, vL 5 Fh)), (h_step, .inl (cI, 40, .inl f_step)), (h_sign, .inl (cI, 40, .inl f_sign)), (h_value, .inl (cI, 40, .inl f_value)), (p2, .inr (1, vL 18 F_p2_)), (h_p2_push, .inl (cI, 12, .inl f_p2_push)), (h_p2_feet, .inl (cI, 12, .inl f_p2_feet)), (h_p2_weight, .inl (cI, 12, .inl f_p2_weight)), (p3, .inr (5, vL 11 F_p3_)), (h_p3_crew, .inl (cI, 4, .inl f_p3_crew)), (h_p3_yard, .inl (cI, 4, .inl f_p3_yard))]) [0, 1, 2, 3, 4, 5, 6, 7, 9, 10, 8] rfl) (hD.sub (ws' := [(h0, .inr (8, vL 5 Fh)), (h_step, .inl (cI, 40, .inl f_step)), (h_sign, .inl (cI, 40, .inl f_sign)), (h_value, .inl (cI, 40, .inl f_value)), (p2, .inr (1, vL 18 F_p2_)), (h_p2_push, .inl (cI, 12, .inl f_p2_push)), (h_p2_feet, .inl (cI, 12, .inl f_p2_feet)), (h_p2_weight, .inl (cI, 12, .inl f_p2_weight)), (p3, .inr (5, vL 11 F_p3_)), (h_p3_crew, .inl (cI, 4, .inl f_p3_crew)), (h_p3_yard, .inl (cI, 4, .inl f_p3_yard))]) [0, 1, 2, 3, 4, 5, 6, 7, 9, 10, 8] (by decide) rfl) dX8_isTrue_172 rfl (Nat.le_of_ble_eq_true rfl) (Nat.le_of_ble_eq_true rfl) ⟨⟨by decide, by decide⟩, rfl⟩
      · have dc44 : r39.toInt ≠ (-1) := ne_i (a := r39.toInt) (b := (-1)) rfl rfl c44
        have k46 : 0 ≤ r39.toInt ∧ r39.toInt ≤ 3 := ⟨ne_lo dc44 t40.1 ⟨Int.le_refl _, Int.le_refl _⟩ (by decide), t40.2⟩
        refine lv_aload hx hb dX8_isTrue_148 (lv_at hl 6 rfl) ?_
        refine get_f (D := D) (ci := 5) (v := .ref h_p3_yard) (C := RX5) (T := TX5) (N := 11) hx hb hw inAX5 hown hK hP 9 rfl rfl 1 (by decide) (hw _ q_153) (fun _ h9 => h9) e_p3_yard dX8_isTrue_150 ?_
        refine lv_iload hx hb dX8_isTrue_153 (lv_at hl 1 rfl) ?_
        refine va_iald hx hb hK hP 8 0 rfl rfl (ix_k k43 (by decide) (by decide)) dX8_isTrue_155 ?_
        refine lv_topi (fun v47 ev47 => ?_)
        refine lv_aload hx hb dX8_isTrue_156 (lv_at hl 6 rfl) ?_
        refine get_f (D := D) (ci := 5) (v := .ref h_p3_yard) (C := RX5) (T := TX5) (N := 11) hx hb hw inAX5 hown hK hP 9 rfl rfl 1 (by decide) (hw _ q_153) (fun _ h9 => h9) e_p3_yard dX8_isTrue_158 ?_
        refine lv_iload hx hb dX8_isTrue_161 (lv_at hl 0 rfl) ?_
        refine va_iald hx hb hK hP 8 0 rfl rfl (ix_k k46 (by decide) (by decide)) dX8_isTrue_163 ?_
        refine lv_topi (fun v48 ev48 => ?_)
        refine lv_icmp_ge (tgt := 171) hx hb dX8_isTrue_164 (by decide) (fun c49 => ?_) (fun c49 => ?_)
        · have dc49 : v48.toInt ≤ v47.toInt := le_i (a := v48.toInt) (b := v47.toInt) rfl rfl c49
          refine lv_iconst (v := 0) hx hb dX8_isTrue_171 (by decide) ?_
          exact ret_i (v := 0) hx hb hr hlocks hS (hP.sub (ws' := [(h0, .inr (8, vL 5 Fh)), (h_step, .inl (cI, 40, .inl f_step)), (h_sign, .inl (cI, 40, .inl f_sign)), (h_value, .inl (cI, 40, .inl f_value)), (p2, .inr (1, vL 18 F_p2_)), (h_p2_push, .inl (cI, 12, .inl f_p2_push)), (h_p2_feet, .inl (cI, 12, .inl f_p2_feet)), (h_p2_weight, .inl (cI, 12, .inl f_p2_weight)), (p3, .inr (5, vL 11 F_p3_)), (h_p3_crew, .inl (cI, 4, .inl f_p3_crew)), (h_p3_yard, .inl (cI, 4, .inl f_p3_yard))]) [0, 1, 2, 3, 4, 5, 6, 7, 9, 10, 8] rfl) (hD.sub (ws' := [(h0, .inr (8, vL 5 Fh)), (h_step, .inl (cI, 40, .inl f_step)), (h_sign, .inl (cI, 40, .inl f_sign)), (h_value, .inl (cI, 40, .inl f_value)), (p2, .inr (1, vL 18 F_p2_)), (h_p2_push, .inl (cI, 12, .inl f_p2_push)), (h_p2_feet, .inl (cI, 12, .inl f_p2_feet)), (h_p2_weight, .inl (cI, 12, .inl f_p2_weight)), (p3, .inr (5, vL 11 F_p3_)), (h_p3_crew, .inl (cI, 4, .inl f_p3_crew)), (h_p3_yard, .inl (cI, 4, .inl f_p3_yard))]) [0, 1, 2, 3, 4, 5, 6, 7, 9, 10, 8] (by decide) rfl) dX8_isTrue_172 rfl (Nat.le_of_ble_eq_true rfl) (Nat.le_of_ble_eq_true rfl) ⟨⟨by decide, by decide⟩, rfl⟩
        · have dc49 : v47.toInt < v48.toInt := nle_i (a := v48.toInt) (b := v47.toInt) rfl rfl c49
          have k50 : (-2147483648) ≤ v47.toInt ∧ v47.toInt ≤ 2147483646 := ⟨(ir_any _).1, up_lt dc49 (ir_any _).2 (by decide)⟩
          have k51 : (-2147483647) ≤ v48.toInt ∧ v48.toInt ≤ 2147483647 := ⟨lo_lt dc49 (ir_any _).1 (by decide), (ir_any _).2⟩
          refine lv_iconst (v := 1) hx hb dX8_isTrue_167 (by decide) ?_
          refine lv_goto (tgt := 172) hx hb dX8_isTrue_168 (by decide) ?_
          exact ret_i (v := 1) hx hb hr hlocks hS (hP.sub (ws' := [(h0, .inr (8, vL 5 Fh)), (h_step, .inl (cI, 40, .inl f_step)), (h_sign, .inl (cI, 40, .inl f_sign)), (h_value, .inl (cI, 40, .inl f_value)), (p2, .inr (1, vL 18 F_p2_)), (h_p2_push, .inl (cI, 12, .inl f_p2_push)), (h_p2_feet, .inl (cI, 12, .inl f_p2_feet)), (h_p2_weight, .inl (cI, 12, .inl f_p2_weight)), (p3, .inr (5, vL 11 F_p3_)), (h_p3_crew, .inl (cI, 4, .inl f_p3_crew)), (h_p3_yard, .inl (cI, 4, .inl f_p3_yard))]) [0, 1, 2, 3, 4, 5, 6, 7, 9, 10, 8] rfl) (hD.sub (ws' := [(h0, .inr (8, vL 5 Fh)), (h_step, .inl (cI, 40, .inl f_step)), (h_sign, .inl (cI, 40, .inl f_sign)), (h_value, .inl (cI, 40, .inl f_value)), (p2, .inr (1, vL 18 F_p2_)), (h_p2_push, .inl (cI, 12, .inl f_p2_push)), (h_p2_feet, .inl (cI, 12, .inl f_p2_feet)), (h_p2_weight, .inl (cI, 12, .inl f_p2_weight)), (p3, .inr (5, vL 11 F_p3_)), (h_p3_crew, .inl (cI, 4, .inl f_p3_crew)), (h_p3_yard, .inl (cI, 4, .inl f_p3_yard))]) [0, 1, 2, 3, 4, 5, 6, 7, 9, 10, 8] (by decide) rfl) dX8_isTrue_172 rfl (Nat.le_of_ble_eq_true rfl) (Nat.le_of_ble_eq_true rfl) ⟨⟨by decide, by decide⟩, rfl⟩
  by_cases k52 : v3 = 19
  · have dk52 : v3.toInt = 19 := eq_i rfl rfl k52
    have k53 : 19 ≤ v3.toInt ∧ v3.toInt ≤ 19 := ⟨Int.le_trans (Int.le_refl _) (Int.le_of_eq dk52.symm), Int.le_trans (Int.le_of_eq dk52) (Int.le_refl _)⟩
    refine lv_ci (y := 19) k52 ?_
    refine lv_tableIn (tgt := 173) (off := 159) hx hb dX8_isTrue_14 (by decide) (by decide) (by decide) (by decide) ?_
    refine lv_aload_n hx hb dX8_isTrue_173 rfl (lv_at hl 1 rfl) ?_
    refine lv_aload_n hx hb dX8_isTrue_174 rfl (lv_at hl 4 rfl) ?_
    refine get_f (D := D) (ci := 1) (v := .ref h_p2_push) (C := RX1) (T := TX1) (N := 18) hx hb hw inAX1 hown hK hP 4 rfl rfl 3 (by decide) (hw _ q_325) (fun _ h9 => h9) e_p2_push dX8_isTrue_175 ?_
    refine lv_iload_n hx hb dX8_isTrue_178 rfl (lv_at hl 3 rfl) ?_
    refine va_iald hx hb hK hP 5 0 rfl rfl (ix_k i_p1 (by decide) (by decide)) dX8_isTrue_179 ?_
    refine lv_topi (fun v54 ev54 => ?_)
    refine lv_iload_n hx hb dX8_isTrue_180 rfl (lv_at hl 2 rfl) ?_
    refine call_Vi (wr := [(h_step, .inl (cI, 40, .inl f_step)), (p2, .inr (1, vL 18 F_p2_)), (h_p2_push, .inl (cI, 12, .inl f_p2_push)), (h_p2_feet, .inl (cI, 12, .inl f_p2_feet)), (h_p2_weight, .inl (cI, 12, .inl f_p2_weight)), (h_p3_yard, .inl (cI, 4, .inl f_p3_yard)), (p3, .inr (5, vL 11 F_p3_)), (h_p3_crew, .inl (cI, 4, .inl f_p3_crew))]) (As := [.int v54, .int p0]) (rest := []) hx hb hml hown hw (m_X8_compares l D cI cJ cB cP cM cZ h0 h_sign h_value Fh f_sign f_value v54 p0 _ e_sign e_value i_p0) wV_X8_109_X8_compares dX8_isTrue_181 hK hP hD hS hA [0, 2, 3] [1, 4, 5, 6, 7, 8, 9, 10] rfl rfl (by decide) (by decide) (by decide) 0 8 rfl rfl GG.fb hG.at hl.1 rfl (Nat.le_of_ble_eq_true rfl) ⟨(Nat.le_of_ble_eq_true rfl), (Nat.le_of_ble_eq_true rfl)⟩ ⟨(Nat.le_of_ble_eq_true rfl), (Nat.le_of_ble_eq_true rfl)⟩ (fun r55 u H locs hp hP hD hS => ?_)
    obtain ⟨t56, rfl⟩ := hp
    have hP : va_P D vwCl [(h_step, .inl (cI, 40, .inl f_step)), (p2, .inr (1, vL 18 F_p2_)), (h_p2_push, .inl (cI, 12, .inl f_p2_push)), (h_p2_feet, .inl (cI, 12, .inl f_p2_feet)), (h_p2_weight, .inl (cI, 12, .inl f_p2_weight)), (h_p3_yard, .inl (cI, 4, .inl f_p3_yard)), (p3, .inr (5, vL 11 F_p3_)), (h_p3_crew, .inl (cI, 4, .inl f_p3_crew)), (h0, .inr (8, vL 5 Fh)), (h_sign, .inl (cI, 40, .inl f_sign)), (h_value, .inl (cI, 40, .inl f_value))] H := hP
    have hD : va_D A [(h_step, .inl (cI, 40, .inl f_step)), (p2, .inr (1, vL 18 F_p2_)), (h_p2_push, .inl (cI, 12, .inl f_p2_push)), (h_p2_feet, .inl (cI, 12, .inl f_p2_feet)), (h_p2_weight, .inl (cI, 12, .inl f_p2_weight)), (h_p3_yard, .inl (cI, 4, .inl f_p3_yard)), (p3, .inr (5, vL 11 F_p3_)), (h_p3_crew, .inl (cI, 4, .inl f_p3_crew)), (h0, .inr (8, vL 5 Fh)), (h_sign, .inl (cI, 40, .inl f_sign)), (h_value, .inl (cI, 40, .inl f_value))] := hD
    refine W.widen (k := 0) (n := 0) (Nat.le_of_ble_eq_true rfl) (Nat.le_of_ble_eq_true rfl) ?_
    exact ret_i (v := r55) hx hb hr hlocks hS (hP.sub (ws' := [(h0, .inr (8, vL 5 Fh)), (h_step, .inl (cI, 40, .inl f_step)), (h_sign, .inl (cI, 40, .inl f_sign)), (h_value, .inl (cI, 40, .inl f_value)), (p2, .inr (1, vL 18 F_p2_)), (h_p2_push, .inl (cI, 12, .inl f_p2_push)), (h_p2_feet, .inl (cI, 12, .inl f_p2_feet)), (h_p2_weight, .inl (cI, 12, .inl f_p2_weight)), (p3, .inr (5, vL 11 F_p3_)), (h_p3_crew, .inl (cI, 4, .inl f_p3_crew)), (h_p3_yard, .inl (cI, 4, .inl f_p3_yard))]) [8, 0, 9, 10, 1, 2, 3, 4, 6, 7, 5] rfl) (hD.sub (ws' := [(h0, .inr (8, vL 5 Fh)), (h_step, .inl (cI, 40, .inl f_step)), (h_sign, .inl (cI, 40, .inl f_sign)), (h_value, .inl (cI, 40, .inl f_value)), (p2, .inr (1, vL 18 F_p2_)), (h_p2_push, .inl (cI, 12, .inl f_p2_push)), (h_p2_feet, .inl (cI, 12, .inl f_p2_feet)), (h_p2_weight, .inl (cI, 12, .inl f_p2_weight)), (p3, .inr (5, vL 11 F_p3_)), (h_p3_crew, .inl (cI, 4, .inl f_p3_crew)), (h_p3_yard, .inl (cI, 4, .inl f_p3_yard))]) [8, 0, 9, 10, 1, 2, 3, 4, 6, 7, 5] (by decide) rfl) dX8_isTrue_184 (nz_i t56.1 t56.2) (Nat.le_of_ble_eq_true rfl) (Nat.le_of_ble_eq_true rfl) ⟨t56, rfl⟩
  by_cases k57 : v3 = 20
  · have dk57 : v3.toInt = 20 := eq_i rfl rfl k57
    have k58 : 20 ≤ v3.toInt ∧ v3.toInt ≤ 20 := ⟨Int.le_trans (Int.le_refl _) (Int.le_of_eq dk57.symm), Int.le_trans (Int.le_of_eq dk57) (Int.le_refl _)⟩
    refine lv_ci (y := 20) k57 ?_
    refine lv_tableIn (tgt := 185) (off := 171) hx hb dX8_isTrue_14 (by decide) (by decide) (by decide) (by decide) ?_
    refine lv_aload_n hx hb dX8_isTrue_185 rfl (lv_at hl 1 rfl) ?_
    refine lv_aload_n hx hb dX8_isTrue_186 rfl (lv_at hl 4 rfl) ?_
    refine get_f (D := D) (ci := 1) (v := .ref h_p2_feet) (C := RX1) (T := TX1) (N := 18) hx hb hw inAX1 hown hK hP 4 rfl rfl 4 (by decide) (hw _ q_330) (fun _ h9 => h9) e_p2_feet dX8_isTrue_187 ?_
    refine lv_iload_n hx hb dX8_isTrue_190 rfl (lv_at hl 3 rfl) ?_
    refine va_iald hx hb hK hP 6 0 rfl rfl (ix_k i_p1 (by decide) (by decide)) dX8_isTrue_191 ?_
    refine lv_topi (fun v59 ev59 => ?_)
    refine lv_iload_n hx hb dX8_isTrue_192 rfl (lv_at hl 2 rfl) ?_
    refine call_Vi (wr := [(h_step, .inl (cI, 40, .inl f_step)), (p2, .inr (1, vL 18 F_p2_)), (h_p2_push, .inl (cI, 12, .inl f_p2_push)), (h_p2_feet, .inl (cI, 12, .inl f_p2_feet)), (h_p2_weight, .inl (cI, 12, .inl f_p2_weight)), (h_p3_yard, .inl (cI, 4, .inl f_p3_yard)), (p3, .inr (5, vL 11 F_p3_)), (h_p3_crew, .inl (cI, 4, .inl f_p3_crew))]) (As := [.int v59, .int p0]) (rest := []) hx hb hml hown hw (m_X8_compares l D cI cJ cB cP cM cZ h0 h_sign h_value Fh f_sign f_value v59 p0 _ e_sign e_value i_p0) wV_X8_109_X8_compares dX8_isTrue_193 hK hP hD hS hA [0, 2, 3] [1, 4, 5, 6, 7, 8, 9, 10] rfl rfl (by decide) (by decide) (by decide) 0 8 rfl rfl GG.fb hG.at hl.1 rfl (Nat.le_of_ble_eq_true rfl) ⟨(Nat.le_of_ble_eq_true rfl), (Nat.le_of_ble_eq_true rfl)⟩ ⟨(Nat.le_of_ble_eq_true rfl), (Nat.le_of_ble_eq_true rfl)⟩ (fun r60 u H locs hp hP hD hS => ?_)
    obtain ⟨t61, rfl⟩ := hp
    have hP : va_P D vwCl [(h_step, .inl (cI, 40, .inl f_step)), (p2, .inr (1, vL 18 F_p2_)), (h_p2_push, .inl (cI, 12, .inl f_p2_push)), (h_p2_feet, .inl (cI, 12, .inl f_p2_feet)), (h_p2_weight, .inl (cI, 12, .inl f_p2_weight)), (h_p3_yard, .inl (cI, 4, .inl f_p3_yard)), (p3, .inr (5, vL 11 F_p3_)), (h_p3_crew, .inl (cI, 4, .inl f_p3_crew)), (h0, .inr (8, vL 5 Fh)), (h_sign, .inl (cI, 40, .inl f_sign)), (h_value, .inl (cI, 40, .inl f_value))] H := hP
    have hD : va_D A [(h_step, .inl (cI, 40, .inl f_step)), (p2, .inr (1, vL 18 F_p2_)), (h_p2_push, .inl (cI, 12, .inl f_p2_push)), (h_p2_feet, .inl (cI, 12, .inl f_p2_feet)), (h_p2_weight, .inl (cI, 12, .inl f_p2_weight)), (h_p3_yard, .inl (cI, 4, .inl f_p3_yard)), (p3, .inr (5, vL 11 F_p3_)), (h_p3_crew, .inl (cI, 4, .inl f_p3_crew)), (h0, .inr (8, vL 5 Fh)), (h_sign, .inl (cI, 40, .inl f_sign)), (h_value, .inl (cI, 40, .inl f_value))] := hD
    refine W.widen (k := 0) (n := 0) (Nat.le_of_ble_eq_true rfl) (Nat.le_of_ble_eq_true rfl) ?_
    exact ret_i (v := r60) hx hb hr hlocks hS (hP.sub (ws' := [(h0, .inr (8, vL 5 Fh)), (h_step, .inl (cI, 40, .inl f_step)), (h_sign, .inl (cI, 40, .inl f_sign)), (h_value, .inl (cI, 40, .inl f_value)), (p2, .inr (1, vL 18 F_p2_)), (h_p2_push, .inl (cI, 12, .inl f_p2_push)), (h_p2_feet, .inl (cI, 12, .inl f_p2_feet)), (h_p2_weight, .inl (cI, 12, .inl f_p2_weight)), (p3, .inr (5, vL 11 F_p3_)), (h_p3_crew, .inl (cI, 4, .inl f_p3_crew)), (h_p3_yard, .inl (cI, 4, .inl f_p3_yard))]) [8, 0, 9, 10, 1, 2, 3, 4, 6, 7, 5] rfl) (hD.sub (ws' := [(h0, .inr (8, vL 5 Fh)), (h_step, .inl (cI, 40, .inl f_step)), (h_sign, .inl (cI, 40, .inl f_sign)), (h_value, .inl (cI, 40, .inl f_value)), (p2, .inr (1, vL 18 F_p2_)), (h_p2_push, .inl (cI, 12, .inl f_p2_push)), (h_p2_feet, .inl (cI, 12, .inl f_p2_feet)), (h_p2_weight, .inl (cI, 12, .inl f_p2_weight)), (p3, .inr (5, vL 11 F_p3_)), (h_p3_crew, .inl (cI, 4, .inl f_p3_crew)), (h_p3_yard, .inl (cI, 4, .inl f_p3_yard))]) [8, 0, 9, 10, 1, 2, 3, 4, 6, 7, 5] (by decide) rfl) dX8_isTrue_196 (nz_i t61.1 t61.2) (Nat.le_of_ble_eq_true rfl) (Nat.le_of_ble_eq_true rfl) ⟨t61, rfl⟩
  by_cases k62 : v3 = 21
  · have dk62 : v3.toInt = 21 := eq_i rfl rfl k62
    have k63 : 21 ≤ v3.toInt ∧ v3.toInt ≤ 21 := ⟨Int.le_trans (Int.le_refl _) (Int.le_of_eq dk62.symm), Int.le_trans (Int.le_of_eq dk62) (Int.le_refl _)⟩
    refine lv_ci (y := 21) k62 ?_
    refine lv_tableIn (tgt := 197) (off := 183) hx hb dX8_isTrue_14 (by decide) (by decide) (by decide) (by decide) ?_
    refine lv_aload_n hx hb dX8_isTrue_197 rfl (lv_at hl 1 rfl) ?_
    refine lv_aload_n hx hb dX8_isTrue_198 rfl (lv_at hl 4 rfl) ?_
    refine get_f (D := D) (ci := 1) (v := .ref h_p2_weight) (C := RX1) (T := TX1) (N := 18) hx hb hw inAX1 hown hK hP 4 rfl rfl 5 (by decide) (hw _ q_335) (fun _ h9 => h9) e_p2_weight dX8_isTrue_199 ?_
    refine lv_iload_n hx hb dX8_isTrue_202 rfl (lv_at hl 3 rfl) ?_
    refine va_iald hx hb hK hP 7 0 rfl rfl (ix_k i_p1 (by decide) (by decide)) dX8_isTrue_203 ?_
    refine lv_topi (fun v64 ev64 => ?_)
    refine lv_iload_n hx hb dX8_isTrue_204 rfl (lv_at hl 2 rfl) ?_
    refine call_Vi (wr := [(h_step, .inl (cI, 40, .inl f_step)), (p2, .inr (1, vL 18 F_p2_)), (h_p2_push, .inl (cI, 12, .inl f_p2_push)), (h_p2_feet, .inl (cI, 12, .inl f_p2_feet)), (h_p2_weight, .inl (cI, 12, .inl f_p2_weight)), (h_p3_yard, .inl (cI, 4, .inl f_p3_yard)), (p3, .inr (5, vL 11 F_p3_)), (h_p3_crew, .inl (cI, 4, .inl f_p3_crew))]) (As := [.int v64, .int p0]) (rest := []) hx hb hml hown hw (m_X8_compares l D cI cJ cB cP cM cZ h0 h_sign h_value Fh f_sign f_value v64 p0 _ e_sign e_value i_p0) wV_X8_109_X8_compares dX8_isTrue_205 hK hP hD hS hA [0, 2, 3] [1, 4, 5, 6, 7, 8, 9, 10] rfl rfl (by decide) (by decide) (by decide) 0 8 rfl rfl GG.fb hG.at hl.1 rfl (Nat.le_of_ble_eq_true rfl) ⟨(Nat.le_of_ble_eq_true rfl), (Nat.le_of_ble_eq_true rfl)⟩ ⟨(Nat.le_of_ble_eq_true rfl), (Nat.le_of_ble_eq_true rfl)⟩ (fun r65 u H locs hp hP hD hS => ?_)
    obtain ⟨t66, rfl⟩ := hp
    have hP : va_P D vwCl [(h_step, .inl (cI, 40, .inl f_step)), (p2, .inr (1, vL 18 F_p2_)), (h_p2_push, .inl (cI, 12, .inl f_p2_push)), (h_p2_feet, .inl (cI, 12, .inl f_p2_feet)), (h_p2_weight, .inl (cI, 12, .inl f_p2_weight)), (h_p3_yard, .inl (cI, 4, .inl f_p3_yard)), (p3, .inr (5, vL 11 F_p3_)), (h_p3_crew, .inl (cI, 4, .inl f_p3_crew)), (h0, .inr (8, vL 5 Fh)), (h_sign, .inl (cI, 40, .inl f_sign)), (h_value, .inl (cI, 40, .inl f_value))] H := hP
    have hD : va_D A [(h_step, .inl (cI, 40, .inl f_step)), (p2, .inr (1, vL 18 F_p2_)), (h_p2_push, .inl (cI, 12, .inl f_p2_push)), (h_p2_feet, .inl (cI, 12, .inl f_p2_feet)), (h_p2_weight, .inl (cI, 12, .inl f_p2_weight)), (h_p3_yard, .inl (cI, 4, .inl f_p3_yard)), (p3, .inr (5, vL 11 F_p3_)), (h_p3_crew, .inl (cI, 4, .inl f_p3_crew)), (h0, .inr (8, vL 5 Fh)), (h_sign, .inl (cI, 40, .inl f_sign)), (h_value, .inl (cI, 40, .inl f_value))] := hD
    refine W.widen (k := 0) (n := 0) (Nat.le_of_ble_eq_true rfl) (Nat.le_of_ble_eq_true rfl) ?_
    exact ret_i (v := r65) hx hb hr hlocks hS (hP.sub (ws' := [(h0, .inr (8, vL 5 Fh)), (h_step, .inl (cI, 40, .inl f_step)), (h_sign, .inl (cI, 40, .inl f_sign)), (h_value, .inl (cI, 40, .inl f_value)), (p2, .inr (1, vL 18 F_p2_)), (h_p2_push, .inl (cI, 12, .inl f_p2_push)), (h_p2_feet, .inl (cI, 12, .inl f_p2_feet)), (h_p2_weight, .inl (cI, 12, .inl f_p2_weight)), (p3, .inr (5, vL 11 F_p3_)), (h_p3_crew, .inl (cI, 4, .inl f_p3_crew)), (h_p3_yard, .inl (cI, 4, .inl f_p3_yard))]) [8, 0, 9, 10, 1, 2, 3, 4, 6, 7, 5] rfl) (hD.sub (ws' := [(h0, .inr (8, vL 5 Fh)), (h_step, .inl (cI, 40, .inl f_step)), (h_sign, .inl (cI, 40, .inl f_sign)), (h_value, .inl (cI, 40, .inl f_value)), (p2, .inr (1, vL 18 F_p2_)), (h_p2_push, .inl (cI, 12, .inl f_p2_push)), (h_p2_feet, .inl (cI, 12, .inl f_p2_feet)), (h_p2_weight, .inl (cI, 12, .inl f_p2_weight)), (p3, .inr (5, vL 11 F_p3_)), (h_p3_crew, .inl (cI, 4, .inl f_p3_crew)), (h_p3_yard, .inl (cI, 4, .inl f_p3_yard))]) [8, 0, 9, 10, 1, 2, 3, 4, 6, 7, 5] (by decide) rfl) dX8_isTrue_208 (nz_i t66.1 t66.2) (Nat.le_of_ble_eq_true rfl) (Nat.le_of_ble_eq_true rfl) ⟨t66, rfl⟩
  by_cases k67 : v3 = 22
  · have dk67 : v3.toInt = 22 := eq_i rfl rfl k67
    have k68 : 22 ≤ v3.toInt ∧ v3.toInt ≤ 22 := ⟨Int.le_trans (Int.le_refl _) (Int.le_of_eq dk67.symm), Int.le_trans (Int.le_of_eq dk67) (Int.le_refl _)⟩
    refine lv_ci (y := 22) k67 ?_
    refine lv_tableIn (tgt := 209) (off := 195) hx hb dX8_isTrue_14 (by decide) (by decide) (by decide) (by decide) ?_
    refine lv_aload_n hx hb dX8_isTrue_209 rfl (lv_at hl 1 rfl) ?_
    refine lv_iload_n hx hb dX8_isTrue_210 rfl (lv_at hl 3 rfl) ?_
    refine lv_iload_n hx hb dX8_isTrue_211 rfl (lv_at hl 2 rfl) ?_
    refine call_Vi (wr := [(h_step, .inl (cI, 40, .inl f_step)), (p2, .inr (1, vL 18 F_p2_)), (h_p2_push, .inl (cI, 12, .inl f_p2_push)), (h_p2_feet, .inl (cI, 12, .inl f_p2_feet)), (h_p2_weight, .inl (cI, 12, .inl f_p2_weight)), (h_p3_yard, .inl (cI, 4, .inl f_p3_yard)), (p3, .inr (5, vL 11 F_p3_)), (h_p3_crew, .inl (cI, 4, .inl f_p3_crew))]) (As := [.int p1, .int p0]) (rest := []) hx hb hml hown hw (m_X8_compares l D cI cJ cB cP cM cZ h0 h_sign h_value Fh f_sign f_value p1 p0 _ e_sign e_value i_p0) wV_X8_109_X8_compares dX8_isTrue_212 hK hP hD hS hA [0, 2, 3] [1, 4, 5, 6, 7, 8, 9, 10] rfl rfl (by decide) (by decide) (by decide) 0 8 rfl rfl GG.fb hG.at hl.1 rfl (Nat.le_of_ble_eq_true rfl) ⟨(Nat.le_of_ble_eq_true rfl), (Nat.le_of_ble_eq_true rfl)⟩ ⟨(Nat.le_of_ble_eq_true rfl), (Nat.le_of_ble_eq_true rfl)⟩ (fun r69 u H locs hp hP hD hS => ?_)
    obtain ⟨t70, rfl⟩ := hp
    have hP : va_P D vwCl [(h_step, .inl (cI, 40, .inl f_step)), (p2, .inr (1, vL 18 F_p2_)), (h_p2_push, .inl (cI, 12, .inl f_p2_push)), (h_p2_feet, .inl (cI, 12, .inl f_p2_feet)), (h_p2_weight, .inl (cI, 12, .inl f_p2_weight)), (h_p3_yard, .inl (cI, 4, .inl f_p3_yard)), (p3, .inr (5, vL 11 F_p3_)), (h_p3_crew, .inl (cI, 4, .inl f_p3_crew)), (h0, .inr (8, vL 5 Fh)), (h_sign, .inl (cI, 40, .inl f_sign)), (h_value, .inl (cI, 40, .inl f_value))] H := hP
    have hD : va_D A [(h_step, .inl (cI, 40, .inl f_step)), (p2, .inr (1, vL 18 F_p2_)), (h_p2_push, .inl (cI, 12, .inl f_p2_push)), (h_p2_feet, .inl (cI, 12, .inl f_p2_feet)), (h_p2_weight, .inl (cI, 12, .inl f_p2_weight)), (h_p3_yard, .inl (cI, 4, .inl f_p3_yard)), (p3, .inr (5, vL 11 F_p3_)), (h_p3_crew, .inl (cI, 4, .inl f_p3_crew)), (h0, .inr (8, vL 5 Fh)), (h_sign, .inl (cI, 40, .inl f_sign)), (h_value, .inl (cI, 40, .inl f_value))] := hD
    refine W.widen (k := 0) (n := 0) (Nat.le_of_ble_eq_true rfl) (Nat.le_of_ble_eq_true rfl) ?_
    exact ret_i (v := r69) hx hb hr hlocks hS (hP.sub (ws' := [(h0, .inr (8, vL 5 Fh)), (h_step, .inl (cI, 40, .inl f_step)), (h_sign, .inl (cI, 40, .inl f_sign)), (h_value, .inl (cI, 40, .inl f_value)), (p2, .inr (1, vL 18 F_p2_)), (h_p2_push, .inl (cI, 12, .inl f_p2_push)), (h_p2_feet, .inl (cI, 12, .inl f_p2_feet)), (h_p2_weight, .inl (cI, 12, .inl f_p2_weight)), (p3, .inr (5, vL 11 F_p3_)), (h_p3_crew, .inl (cI, 4, .inl f_p3_crew)), (h_p3_yard, .inl (cI, 4, .inl f_p3_yard))]) [8, 0, 9, 10, 1, 2, 3, 4, 6, 7, 5] rfl) (hD.sub (ws' := [(h0, .inr (8, vL 5 Fh)), (h_step, .inl (cI, 40, .inl f_step)), (h_sign, .inl (cI, 40, .inl f_sign)), (h_value, .inl (cI, 40, .inl f_value)), (p2, .inr (1, vL 18 F_p2_)), (h_p2_push, .inl (cI, 12, .inl f_p2_push)), (h_p2_feet, .inl (cI, 12, .inl f_p2_feet)), (h_p2_weight, .inl (cI, 12, .inl f_p2_weight)), (p3, .inr (5, vL 11 F_p3_)), (h_p3_crew, .inl (cI, 4, .inl f_p3_crew)), (h_p3_yard, .inl (cI, 4, .inl f_p3_yard))]) [8, 0, 9, 10, 1, 2, 3, 4, 6, 7, 5] (by decide) rfl) dX8_isTrue_215 (nz_i t70.1 t70.2) (Nat.le_of_ble_eq_true rfl) (Nat.le_of_ble_eq_true rfl) ⟨t70, rfl⟩
  have dk4 : v3.toInt ≠ 8 := ne_i rfl rfl k4
  have dk9 : v3.toInt ≠ 9 := ne_i rfl rfl k9
  have dk11 : v3.toInt ≠ 10 := ne_i rfl rfl k11
  have dk13 : v3.toInt ≠ 11 := ne_i rfl rfl k13
  have dk15 : v3.toInt ≠ 12 := ne_i rfl rfl k15
  have dk17 : v3.toInt ≠ 13 := ne_i rfl rfl k17
  have dk19 : v3.toInt ≠ 14 := ne_i rfl rfl k19
  have dk21 : v3.toInt ≠ 15 := ne_i rfl rfl k21
  have dk23 : v3.toInt ≠ 16 := ne_i rfl rfl k23
  have dk25 : v3.toInt ≠ 17 := ne_i rfl rfl k25
  have dk36 : v3.toInt ≠ 18 := ne_i rfl rfl k36
  have dk52 : v3.toInt ≠ 19 := ne_i rfl rfl k52
  have dk57 : v3.toInt ≠ 20 := ne_i rfl rfl k57
  have dk62 : v3.toInt ≠ 21 := ne_i rfl rfl k62
  have dk67 : v3.toInt ≠ 22 := ne_i rfl rfl k67
  refine lv_tableOut (tgt := 216) hx hb dX8_isTrue_14 (by omega) (by decide) ?_
  refine lv_iconst (v := 0) hx hb dX8_isTrue_216 (by decide) ?_
  exact ret_i (v := 0) hx hb hr hlocks hS (hP.sub (ws' := [(h0, .inr (8, vL 5 Fh)), (h_step, .inl (cI, 40, .inl f_step)), (h_sign, .inl (cI, 40, .inl f_sign)), (h_value, .inl (cI, 40, .inl f_value)), (p2, .inr (1, vL 18 F_p2_)), (h_p2_push, .inl (cI, 12, .inl f_p2_push)), (h_p2_feet, .inl (cI, 12, .inl f_p2_feet)), (h_p2_weight, .inl (cI, 12, .inl f_p2_weight)), (p3, .inr (5, vL 11 F_p3_)), (h_p3_crew, .inl (cI, 4, .inl f_p3_crew)), (h_p3_yard, .inl (cI, 4, .inl f_p3_yard))]) [0, 1, 2, 3, 4, 5, 6, 7, 9, 10, 8] rfl) (hD.sub (ws' := [(h0, .inr (8, vL 5 Fh)), (h_step, .inl (cI, 40, .inl f_step)), (h_sign, .inl (cI, 40, .inl f_sign)), (h_value, .inl (cI, 40, .inl f_value)), (p2, .inr (1, vL 18 F_p2_)), (h_p2_push, .inl (cI, 12, .inl f_p2_push)), (h_p2_feet, .inl (cI, 12, .inl f_p2_feet)), (h_p2_weight, .inl (cI, 12, .inl f_p2_weight)), (p3, .inr (5, vL 11 F_p3_)), (h_p3_crew, .inl (cI, 4, .inl f_p3_crew)), (h_p3_yard, .inl (cI, 4, .inl f_p3_yard))]) [0, 1, 2, 3, 4, 5, 6, 7, 9, 10, 8] (by decide) rfl) dX8_isTrue_217 rfl (Nat.le_of_ble_eq_true rfl) (Nat.le_of_ble_eq_true rfl) ⟨⟨by decide, by decide⟩, rfl⟩
set_option maxHeartbeats 4000000 in
set_option maxRecDepth 100000 in
theorem m_X8_holdsOf (l : Launch) (D : va_G) (cI cJ cB cP cM cZ : ClassId) (h0 : Nat) (h_step : Nat) (h_sign : Nat) (h_value : Nat) (p1 : Nat) (h_p1_push : Nat) (h_p1_feet : Nat) (h_p1_weight : Nat) (p2 : Nat) (h_p2_crew : Nat) (h_p2_yard : Nat) (Fh : Nat → Value) (x_steps : Int32) (f_step : Nat → Int32) (f_sign : Nat → Int32) (f_value : Nat → Int32) (F_p1_ : Nat → Value) (f_p1_push : Nat → Int32) (f_p1_feet : Nat → Int32) (f_p1_weight : Nat → Int32) (F_p2_ : Nat → Value) (x_p2_crewed : Int32) (f_p2_crew : Nat → Int32) (f_p2_yard : Nat → Int32) (p0 : Int32) (p3 : Int32) (sz : Nat) (e_step : Fh 0 = .ref h_step) (e_sign : Fh 1 = .ref h_sign) (e_value : Fh 2 = .ref h_value) (e_steps : Fh 3 = .int x_steps) (i_x_steps : IR 0 40 x_steps) (e_p1_push : F_p1_ 3 = .ref h_p1_push) (e_p1_feet : F_p1_ 4 = .ref h_p1_feet) (e_p1_weight : F_p1_ 5 = .ref h_p1_weight) (e_p2_crew : F_p2_ 0 = .ref h_p2_crew) (e_p2_yard : F_p2_ 1 = .ref h_p2_yard) (e_p2_crewed : F_p2_ 3 = .int x_p2_crewed) (i_x_p2_crewed : IR 0 1 x_p2_crewed) (s_p2_crew_0 : SG 0 3 0 11 f_p2_crew) (i_p0 : IR 0 11 p0) : CI l yX8_holdsOf cX8_holdsOf 9 (some .boolean) { frames := 3, cells := 0, slots := 0, locals := 71 } (GG D cI cJ cB cP cM cZ) D [(h0, .inr (8, vL 5 Fh)), (h_step, .inl (cI, 40, .inl f_step)), (h_sign, .inl (cI, 40, .inl f_sign)), (h_value, .inl (cI, 40, .inl f_value)), (p1, .inr (1, vL 18 F_p1_)), (h_p1_push, .inl (cI, 12, .inl f_p1_push)), (h_p1_feet, .inl (cI, 12, .inl f_p1_feet)), (h_p1_weight, .inl (cI, 12, .inl f_p1_weight)), (p2, .inr (5, vL 11 F_p2_)), (h_p2_crew, .inl (cI, 4, .inl f_p2_crew)), (h_p2_yard, .inl (cI, 4, .inl f_p2_yard))] sz [.ref h0, .int p0, .ref p1, .ref p2, .int p3] (fun (r : Int32) (u : va_W) => IR 0 1 r ∧ u = [(h0, .inr (8, vL 5 Fh)), (h_step, .inl (cI, 40, .inl f_step)), (h_sign, .inl (cI, 40, .inl f_sign)), (h_value, .inl (cI, 40, .inl f_value)), (p1, .inr (1, vL 18 F_p1_)), (h_p1_push, .inl (cI, 12, .inl f_p1_push)), (h_p1_feet, .inl (cI, 12, .inl f_p1_feet)), (h_p1_weight, .inl (cI, 12, .inl f_p1_weight)), (p2, .inr (5, vL 11 F_p2_)), (h_p2_crew, .inl (cI, 4, .inl f_p2_crew)), (h_p2_yard, .inl (cI, 4, .inl f_p2_yard))]) := by
  refine CI_mk (by decide) (Nat.le_of_ble_eq_true rfl) ?_
  intro p e s m below meth c A ls E hAe hG hsz hP hD hA hS hl
  obtain ⟨hx, hb, hr, hw, hown, hlocks, hml, hnm⟩ := E
  have hK := hG.1
  have i_x_steps : 0 ≤ x_steps.toInt ∧ x_steps.toInt ≤ 40 := i_x_steps
  have i_x_p2_crewed : 0 ≤ x_p2_crewed.toInt ∧ x_p2_crewed.toInt ≤ 1 := i_x_p2_crewed
  have i_p0 : 0 ≤ p0.toInt ∧ p0.toInt ≤ 11 := i_p0
  have hl : lv_has ls 9 [(0, .ref h0), (1, .int p0), (2, .ref p1), (3, .ref p2), (4, .int p3)] := hl
  refine lv_iconst (v := 0) hx hb dX8_holdsOf_0 (by decide) ?_
  refine lv_istore (lv' := [(5, .int 0), (0, .ref h0), (1, .int p0), (2, .ref p1), (3, .ref p2), (4, .int p3)]) hx hb dX8_holdsOf_1 hl (by decide) rfl (fun ls hl => ?_)
  refine lv_iconst (v := 0) hx hb dX8_holdsOf_3 (by decide) ?_
  refine lv_istore (lv' := [(6, .int 0), (5, .int 0), (0, .ref h0), (1, .int p0), (2, .ref p1), (3, .ref p2), (4, .int p3)]) hx hb dX8_holdsOf_4 hl (by decide) rfl (fun ls hl => ?_)
  refine mloop (α := (Int32) × (Int32)) (nL := 9) (D := D) (A := A) (H0 := s.heap) (fun a => (40 - a.1.toInt).toNat) (fun a => IR 0 40 a.1) (fun a => [(h0, .inr (8, vL 5 Fh)), (h_step, .inl (cI, 40, .inl f_step)), (h_sign, .inl (cI, 40, .inl f_sign)), (h_value, .inl (cI, 40, .inl f_value)), (p1, .inr (1, vL 18 F_p1_)), (h_p1_push, .inl (cI, 12, .inl f_p1_push)), (h_p1_feet, .inl (cI, 12, .inl f_p1_feet)), (h_p1_weight, .inl (cI, 12, .inl f_p1_weight)), (p2, .inr (5, vL 11 F_p2_)), (h_p2_crew, .inl (cI, 4, .inl f_p2_crew)), (h_p2_yard, .inl (cI, 4, .inl f_p2_yard))]) (fun a => [(6, .int a.1), (5, .int a.2), (0, .ref h0), (1, .int p0), (2, .ref p1), (3, .ref p2), (4, .int p3)]) (fun H locs ls => W p l e ({ frames := 3, cells := 0, slots := 0, locals := 71 } : Room) s m [.ref h0, .int p0, .ref p1, .ref p2, .int p3].toArray below meth c H locs 0 0 (MQ below (va_Qi (fun (r : Int32) (u : va_W) => IR 0 1 r ∧ u = [(h0, .inr (8, vL 5 Fh)), (h_step, .inl (cI, 40, .inl f_step)), (h_sign, .inl (cI, 40, .inl f_sign)), (h_value, .inl (cI, 40, .inl f_value)), (p1, .inr (1, vL 18 F_p1_)), (h_p1_push, .inl (cI, 12, .inl f_p1_push)), (h_p1_feet, .inl (cI, 12, .inl f_p1_feet)), (h_p1_weight, .inl (cI, 12, .inl f_p1_weight)), (p2, .inr (5, vL 11 F_p2_)), (h_p2_crew, .inl (cI, 4, .inl f_p2_crew)), (h_p2_yard, .inl (cI, 4, .inl f_p2_yard))]) (PO D A) A) [.ref h0, .int p0, .ref p1, .ref p2, .int p3].toArray s 0 0 A) (F0 m 6 ls [])) ?_ (0, 0) ⟨by decide, by decide⟩ _ _ _ hP hD hS hl
  rintro ⟨u1, u2⟩ i3 ih H locs ls hP hD hS hl
  have i3 : 0 ≤ u1.toInt ∧ u1.toInt ≤ 40 := i3
  have hP : va_P D vwCl [(h0, .inr (8, vL 5 Fh)), (h_step, .inl (cI, 40, .inl f_step)), (h_sign, .inl (cI, 40, .inl f_sign)), (h_value, .inl (cI, 40, .inl f_value)), (p1, .inr (1, vL 18 F_p1_)), (h_p1_push, .inl (cI, 12, .inl f_p1_push)), (h_p1_feet, .inl (cI, 12, .inl f_p1_feet)), (h_p1_weight, .inl (cI, 12, .inl f_p1_weight)), (p2, .inr (5, vL 11 F_p2_)), (h_p2_crew, .inl (cI, 4, .inl f_p2_crew)), (h_p2_yard, .inl (cI, 4, .inl f_p2_yard))] H := hP
  have hD : va_D A [(h0, .inr (8, vL 5 Fh)), (h_step, .inl (cI, 40, .inl f_step)), (h_sign, .inl (cI, 40, .inl f_sign)), (h_value, .inl (cI, 40, .inl f_value)), (p1, .inr (1, vL 18 F_p1_)), (h_p1_push, .inl (cI, 12, .inl f_p1_push)), (h_p1_feet, .inl (cI, 12, .inl f_p1_feet)), (h_p1_weight, .inl (cI, 12, .inl f_p1_weight)), (p2, .inr (5, vL 11 F_p2_)), (h_p2_crew, .inl (cI, 4, .inl f_p2_crew)), (h_p2_yard, .inl (cI, 4, .inl f_p2_yard))] := hD
  have hl : lv_has ls 9 [(6, .int u1), (5, .int u2), (0, .ref h0), (1, .int p0), (2, .ref p1), (3, .ref p2), (4, .int p3)] := hl
  refine lv_iload hx hb dX8_holdsOf_6 (lv_at hl 0 rfl) ?_
  refine lv_aload_n hx hb dX8_holdsOf_8 rfl (lv_at hl 2 rfl) ?_
  refine get_f (D := D) (ci := 8) (v := .int x_steps) (C := RX8) (T := TX8) (N := 5) hx hb hw inAX8 hown hK hP 0 rfl rfl 3 (by decide) (hw _ q_695) (fun _ h9 => h9) e_steps dX8_holdsOf_9 ?_
  refine lv_icmp_ge (tgt := 135) hx hb dX8_holdsOf_12 (by decide) (fun c4 => ?_) (fun c4 => ?_)
  · have dc4 : x_steps.toInt ≤ u1.toInt := le_i (a := x_steps.toInt) (b := u1.toInt) rfl rfl c4
    refine lv_iload hx hb dX8_holdsOf_135 (lv_at hl 1 rfl) ?_
    refine lv_iconst (v := 1) hx hb dX8_holdsOf_137 (by decide) ?_
    refine lv_iand hx hb dX8_holdsOf_138 ?_
    refine lv_topi (fun v5 ev5 => ?_)
    have k6 : 0 ≤ v5.toInt ∧ v5.toInt ≤ 1 := by rw [ev5]; exact and_i u2 1 (by decide)
    refine lv_iconst (v := 1) hx hb dX8_holdsOf_139 (by decide) ?_
    refine lv_icmp_ne (tgt := 147) hx hb dX8_holdsOf_140 (by decide) (fun c7 => ?_) (fun c7 => ?_)
    · have dc7 : v5.toInt ≠ 1 := ne_i (a := v5.toInt) (b := 1) rfl rfl c7
      have k8 : 0 ≤ v5.toInt ∧ v5.toInt ≤ 0 := ⟨k6.1, ne_hi dc7 k6.2 ⟨Int.le_refl _, Int.le_refl _⟩ (by decide)⟩
      refine lv_iconst (v := 0) hx hb dX8_holdsOf_147 (by decide) ?_
      exact ret_i (v := 0) hx hb hr hlocks hS hP hD dX8_holdsOf_148 rfl (Nat.le_of_ble_eq_true rfl) (Nat.le_of_ble_eq_true rfl) ⟨⟨by decide, by decide⟩, rfl⟩
    · have dc7 : v5.toInt = 1 := eq_i (a := v5.toInt) (b := 1) rfl rfl c7
      have k9 : 1 ≤ v5.toInt ∧ v5.toInt ≤ 1 := ⟨Int.le_trans (Int.le_refl _) (Int.le_of_eq dc7.symm), k6.2⟩
      refine lv_iconst (v := 1) hx hb dX8_holdsOf_143 (by decide) ?_
      refine lv_goto (tgt := 148) hx hb dX8_holdsOf_144 (by decide) ?_
      exact ret_i (v := 1) hx hb hr hlocks hS hP hD dX8_holdsOf_148 rfl (Nat.le_of_ble_eq_true rfl) (Nat.le_of_ble_eq_true rfl) ⟨⟨by decide, by decide⟩, rfl⟩
  · have dc4 : u1.toInt < x_steps.toInt := nle_i (a := x_steps.toInt) (b := u1.toInt) rfl rfl c4
    have k10 : 0 ≤ u1.toInt ∧ u1.toInt ≤ 39 := ⟨i3.1, up_lt dc4 i_x_steps.2 (by decide)⟩
    have k11 : 1 ≤ x_steps.toInt ∧ x_steps.toInt ≤ 40 := ⟨lo_lt dc4 i3.1 (by decide), i_x_steps.2⟩
    refine lv_iload hx hb dX8_holdsOf_15 (lv_at hl 1 rfl) ?_
    refine lv_iconst (v := 1) hx hb dX8_holdsOf_17 (by decide) ?_
    refine lv_iand hx hb dX8_holdsOf_18 ?_
    refine lv_topi (fun v12 ev12 => ?_)
    have k13 : 0 ≤ v12.toInt ∧ v12.toInt ≤ 1 := by rw [ev12]; exact and_i u2 1 (by decide)
    refine lv_istore (lv' := [(7, .int v12), (6, .int u1), (5, .int u2), (0, .ref h0), (1, .int p0), (2, .ref p1), (3, .ref p2), (4, .int p3)]) hx hb dX8_holdsOf_19 hl (by decide) rfl (fun ls hl => ?_)
    refine lv_iload hx hb dX8_holdsOf_21 (lv_at hl 2 rfl) ?_
    refine lv_iconst (v := 1) hx hb dX8_holdsOf_23 (by decide) ?_
    refine lv_ishr hx hb dX8_holdsOf_24 ?_
    refine lv_topi (fun v14 ev14 => ?_)
    refine lv_istore (lv' := [(8, .int v14), (7, .int v12), (6, .int u1), (5, .int u2), (0, .ref h0), (1, .int p0), (2, .ref p1), (3, .ref p2), (4, .int p3)]) hx hb dX8_holdsOf_25 hl (by decide) rfl (fun ls hl => ?_)
    refine lv_aload_n hx hb dX8_holdsOf_27 rfl (lv_at hl 4 rfl) ?_
    refine get_f (D := D) (ci := 8) (v := .ref h_step) (C := RX8) (T := TX8) (N := 5) hx hb hw inAX8 hown hK hP 0 rfl rfl 0 (by decide) (hw _ q_692) (fun _ h9 => h9) e_step dX8_holdsOf_28 ?_
    refine lv_iload hx hb dX8_holdsOf_31 (lv_at hl 2 rfl) ?_
    refine va_iald hx hb hK hP 1 0 rfl rfl (ix_k k10 (by decide) (by decide)) dX8_holdsOf_33 ?_
    refine lv_topi (fun v15 ev15 => ?_)
    refine lv_bipush (v := 16) hx hb dX8_holdsOf_34 (by decide) ?_
    refine lv_icmp_ne (tgt := 48) hx hb dX8_holdsOf_36 (by decide) (fun c16 => ?_) (fun c16 => ?_)
    · have dc16 : v15.toInt ≠ 16 := ne_i (a := v15.toInt) (b := 16) rfl rfl c16
      refine lv_aload_n hx hb dX8_holdsOf_48 rfl (lv_at hl 4 rfl) ?_
      refine get_f (D := D) (ci := 8) (v := .ref h_step) (C := RX8) (T := TX8) (N := 5) hx hb hw inAX8 hown hK hP 0 rfl rfl 0 (by decide) (hw _ q_692) (fun _ h9 => h9) e_step dX8_holdsOf_49 ?_
      refine lv_iload hx hb dX8_holdsOf_52 (lv_at hl 2 rfl) ?_
      refine va_iald hx hb hK hP 1 0 rfl rfl (ix_k k10 (by decide) (by decide)) dX8_holdsOf_54 ?_
      refine lv_ci (y := v15) ev15.symm ?_
      refine lv_bipush (v := 15) hx hb dX8_holdsOf_55 (by decide) ?_
      refine lv_icmp_ne (tgt := 81) hx hb dX8_holdsOf_57 (by decide) (fun c17 => ?_) (fun c17 => ?_)
      · have dc17 : v15.toInt ≠ 15 := ne_i (a := v15.toInt) (b := 15) rfl rfl c17
        refine lv_aload_n hx hb dX8_holdsOf_81 rfl (lv_at hl 4 rfl) ?_
        refine get_f (D := D) (ci := 8) (v := .ref h_step) (C := RX8) (T := TX8) (N := 5) hx hb hw inAX8 hown hK hP 0 rfl rfl 0 (by decide) (hw _ q_692) (fun _ h9 => h9) e_step dX8_holdsOf_82 ?_
        refine lv_iload hx hb dX8_holdsOf_85 (lv_at hl 2 rfl) ?_
        refine va_iald hx hb hK hP 1 0 rfl rfl (ix_k k10 (by decide) (by decide)) dX8_holdsOf_87 ?_
        refine lv_ci (y := v15) ev15.symm ?_
        refine lv_bipush (v := 14) hx hb dX8_holdsOf_88 (by decide) ?_
        refine lv_icmp_ne (tgt := 103) hx hb dX8_holdsOf_90 (by decide) (fun c18 => ?_) (fun c18 => ?_)
        · have dc18 : v15.toInt ≠ 14 := ne_i (a := v15.toInt) (b := 14) rfl rfl c18
          refine lv_iload hx hb dX8_holdsOf_103 (lv_at hl 3 rfl) ?_
          refine lv_iconst (v := 1) hx hb dX8_holdsOf_105 (by decide) ?_
          refine lv_ishl hx hb dX8_holdsOf_106 ?_
          refine lv_topi (fun v19 ev19 => ?_)
          refine lv_aload_n hx hb dX8_holdsOf_107 rfl (lv_at hl 4 rfl) ?_
          refine lv_iload hx hb dX8_holdsOf_108 (lv_at hl 2 rfl) ?_
          refine lv_iload_n hx hb dX8_holdsOf_110 rfl (lv_at hl 5 rfl) ?_
          refine lv_aload_n hx hb dX8_holdsOf_111 rfl (lv_at hl 6 rfl) ?_
          refine lv_aload_n hx hb dX8_holdsOf_112 rfl (lv_at hl 7 rfl) ?_
          refine lv_iload hx hb dX8_holdsOf_113 (lv_at hl 8 rfl) ?_
          refine call_Vi (wr := []) (As := [.int u1, .int p0, .ref p1, .ref p2, .int p3]) (rest := [.int v19]) hx hb hml hown hw (m_X8_isTrue l D cI cJ cB cP cM cZ h0 h_step h_sign h_value p1 h_p1_push h_p1_feet h_p1_weight p2 h_p2_crew h_p2_yard Fh f_step f_sign f_value F_p1_ f_p1_push f_p1_feet f_p1_weight F_p2_ x_p2_crewed f_p2_crew f_p2_yard u1 p0 p3 _ e_step e_sign e_value e_p1_push e_p1_feet e_p1_weight e_p2_crew e_p2_yard e_p2_crewed i_x_p2_crewed s_p2_crew_0 k10 i_p0) wV_X8_93_X8_isTrue dX8_holdsOf_115 hK hP hD hS hA [0, 1, 2, 3, 4, 5, 6, 7, 8, 9, 10] [] rfl rfl (by decide) (by decide) (by decide) 0 8 rfl rfl GG.fb hG.at hl.1 rfl (Nat.le_of_ble_eq_true rfl) ⟨(Nat.le_of_ble_eq_true rfl), (Nat.le_of_ble_eq_true rfl)⟩ ⟨(Nat.le_of_ble_eq_true rfl), (Nat.le_of_ble_eq_true rfl)⟩ (fun r20 u H locs hp hP hD hS => ?_)
          obtain ⟨t21, rfl⟩ := hp
          have hP : va_P D vwCl [(h0, .inr (8, vL 5 Fh)), (h_step, .inl (cI, 40, .inl f_step)), (h_sign, .inl (cI, 40, .inl f_sign)), (h_value, .inl (cI, 40, .inl f_value)), (p1, .inr (1, vL 18 F_p1_)), (h_p1_push, .inl (cI, 12, .inl f_p1_push)), (h_p1_feet, .inl (cI, 12, .inl f_p1_feet)), (h_p1_weight, .inl (cI, 12, .inl f_p1_weight)), (p2, .inr (5, vL 11 F_p2_)), (h_p2_crew, .inl (cI, 4, .inl f_p2_crew)), (h_p2_yard, .inl (cI, 4, .inl f_p2_yard))] H := hP
          have hD : va_D A [(h0, .inr (8, vL 5 Fh)), (h_step, .inl (cI, 40, .inl f_step)), (h_sign, .inl (cI, 40, .inl f_sign)), (h_value, .inl (cI, 40, .inl f_value)), (p1, .inr (1, vL 18 F_p1_)), (h_p1_push, .inl (cI, 12, .inl f_p1_push)), (h_p1_feet, .inl (cI, 12, .inl f_p1_feet)), (h_p1_weight, .inl (cI, 12, .inl f_p1_weight)), (p2, .inr (5, vL 11 F_p2_)), (h_p2_crew, .inl (cI, 4, .inl f_p2_crew)), (h_p2_yard, .inl (cI, 4, .inl f_p2_yard))] := hD
          refine W.widen (k := 0) (n := 0) (Nat.le_of_ble_eq_true rfl) (Nat.le_of_ble_eq_true rfl) ?_
          refine lv_if_eq (tgt := 125) hx hb dX8_holdsOf_118 (by decide) (fun c22 => ?_) (fun c22 => ?_)
          · have dc22 : r20.toInt = 0 := eq_i (a := r20.toInt) (b := 0) rfl rfl c22
            have k23 : 0 ≤ r20.toInt ∧ r20.toInt ≤ 0 := ⟨t21.1, Int.le_trans (Int.le_of_eq dc22) (Int.le_refl _)⟩
            refine lv_iconst (v := 0) hx hb dX8_holdsOf_125 (by decide) ?_
            refine lv_ior hx hb dX8_holdsOf_126 ?_
            refine lv_topi (fun v24 ev24 => ?_)
            refine lv_istore (lv' := [(5, .int v24), (8, .int v14), (7, .int v12), (6, .int u1), (0, .ref h0), (1, .int p0), (2, .ref p1), (3, .ref p2), (4, .int p3)]) hx hb dX8_holdsOf_127 hl (by decide) rfl (fun ls hl => ?_)
            obtain ⟨v25, ev25⟩ : ∃ z : Int32, z = u1 + 1 := ⟨_, rfl⟩
            have bv25 : v25.toInt = u1.toInt + 1 := by rw [ev25]; exact add_k rfl rfl k10 ⟨Int.le_refl _, Int.le_refl _⟩ (by decide)
            have k26 : 1 ≤ v25.toInt ∧ v25.toInt ≤ 40 := add_r bv25 k10 ⟨Int.le_refl _, Int.le_refl _⟩ (by decide)
            refine lv_iinc (v := v25) (lv' := [(6, .int v25), (5, .int v24), (8, .int v14), (7, .int v12), (0, .ref h0), (1, .int p0), (2, .ref p1), (3, .ref p2), (4, .int p3)]) hx hb dX8_holdsOf_129 hl (k := 3) rfl (by rw [ev25]; rfl) (by decide) rfl (fun ls hl => ?_)
            refine lv_goto (tgt := 6) hx hb dX8_holdsOf_132 (by decide) ?_
            exact ih (v25, v24) (ir_wk k26 (by decide) (by decide)) (by show (40 - v25.toInt).toNat < (40 - u1.toInt).toNat; omega) _ _ _ hP hD hS (lv_sub hl [0, 1, 4, 5, 6, 7, 8] rfl)
          · have dc22 : r20.toInt ≠ 0 := ne_i (a := r20.toInt) (b := 0) rfl rfl c22
            have k27 : 1 ≤ r20.toInt ∧ r20.toInt ≤ 1 := ⟨ne_lo dc22 t21.1 ⟨Int.le_refl _, Int.le_refl _⟩ (by decide), t21.2⟩
            refine lv_iconst (v := 1) hx hb dX8_holdsOf_121 (by decide) ?_
            refine lv_goto (tgt := 126) hx hb dX8_holdsOf_122 (by decide) ?_
            refine lv_ior hx hb dX8_holdsOf_126 ?_
            refine lv_topi (fun v28 ev28 => ?_)
            refine lv_istore (lv' := [(5, .int v28), (8, .int v14), (7, .int v12), (6, .int u1), (0, .ref h0), (1, .int p0), (2, .ref p1), (3, .ref p2), (4, .int p3)]) hx hb dX8_holdsOf_127 hl (by decide) rfl (fun ls hl => ?_)
            obtain ⟨v29, ev29⟩ : ∃ z : Int32, z = u1 + 1 := ⟨_, rfl⟩
            have bv29 : v29.toInt = u1.toInt + 1 := by rw [ev29]; exact add_k rfl rfl k10 ⟨Int.le_refl _, Int.le_refl _⟩ (by decide)
            have k30 : 1 ≤ v29.toInt ∧ v29.toInt ≤ 40 := add_r bv29 k10 ⟨Int.le_refl _, Int.le_refl _⟩ (by decide)
            refine lv_iinc (v := v29) (lv' := [(6, .int v29), (5, .int v28), (8, .int v14), (7, .int v12), (0, .ref h0), (1, .int p0), (2, .ref p1), (3, .ref p2), (4, .int p3)]) hx hb dX8_holdsOf_129 hl (k := 3) rfl (by rw [ev29]; rfl) (by decide) rfl (fun ls hl => ?_)
            refine lv_goto (tgt := 6) hx hb dX8_holdsOf_132 (by decide) ?_
            exact ih (v29, v28) (ir_wk k30 (by decide) (by decide)) (by show (40 - v29.toInt).toNat < (40 - u1.toInt).toNat; omega) _ _ _ hP hD hS (lv_sub hl [0, 1, 4, 5, 6, 7, 8] rfl)
        · have dc18 : v15.toInt = 14 := eq_i (a := v15.toInt) (b := 14) rfl rfl c18
          have k31 : 14 ≤ v15.toInt ∧ v15.toInt ≤ 14 := ⟨Int.le_trans (Int.le_refl _) (Int.le_of_eq dc18.symm), Int.le_trans (Int.le_of_eq dc18) (Int.le_refl _)⟩
          refine lv_iload hx hb dX8_holdsOf_93 (lv_at hl 0 rfl) ?_
          refine lv_iload hx hb dX8_holdsOf_95 (lv_at hl 1 rfl) ?_
          refine lv_ior hx hb dX8_holdsOf_97 ?_
          refine lv_topi (fun v32 ev32 => ?_)
          refine lv_istore (lv' := [(5, .int v32), (8, .int v14), (7, .int v12), (6, .int u1), (0, .ref h0), (1, .int p0), (2, .ref p1), (3, .ref p2), (4, .int p3)]) hx hb dX8_holdsOf_98 hl (by decide) rfl (fun ls hl => ?_)
          refine lv_goto (tgt := 129) hx hb dX8_holdsOf_100 (by decide) ?_
          obtain ⟨v33, ev33⟩ : ∃ z : Int32, z = u1 + 1 := ⟨_, rfl⟩
          have bv33 : v33.toInt = u1.toInt + 1 := by rw [ev33]; exact add_k rfl rfl k10 ⟨Int.le_refl _, Int.le_refl _⟩ (by decide)
          have k34 : 1 ≤ v33.toInt ∧ v33.toInt ≤ 40 := add_r bv33 k10 ⟨Int.le_refl _, Int.le_refl _⟩ (by decide)
          refine lv_iinc (v := v33) (lv' := [(6, .int v33), (5, .int v32), (8, .int v14), (7, .int v12), (0, .ref h0), (1, .int p0), (2, .ref p1), (3, .ref p2), (4, .int p3)]) hx hb dX8_holdsOf_129 hl (k := 3) rfl (by rw [ev33]; rfl) (by decide) rfl (fun ls hl => ?_)
          refine lv_goto (tgt := 6) hx hb dX8_holdsOf_132 (by decide) ?_
          exact ih (v33, v32) (ir_wk k34 (by decide) (by decide)) (by show (40 - v33.toInt).toNat < (40 - u1.toInt).toNat; omega) _ _ _ hP hD hS (lv_sub hl [0, 1, 4, 5, 6, 7, 8] rfl)
      · have dc17 : v15.toInt = 15 := eq_i (a := v15.toInt) (b := 15) rfl rfl c17
        have k35 : 15 ≤ v15.toInt ∧ v15.toInt ≤ 15 := ⟨Int.le_trans (Int.le_refl _) (Int.le_of_eq dc17.symm), Int.le_trans (Int.le_of_eq dc17) (Int.le_refl _)⟩
        refine lv_iload hx hb dX8_holdsOf_60 (lv_at hl 1 rfl) ?_
        refine lv_iconst (v := 1) hx hb dX8_holdsOf_62 (by decide) ?_
        refine lv_icmp_ne (tgt := 71) hx hb dX8_holdsOf_63 (by decide) (fun c36 => ?_) (fun c36 => ?_)
        · have dc36 : v12.toInt ≠ 1 := ne_i (a := v12.toInt) (b := 1) rfl rfl c36
          have k37 : 0 ≤ v12.toInt ∧ v12.toInt ≤ 0 := ⟨k13.1, ne_hi dc36 k13.2 ⟨Int.le_refl _, Int.le_refl _⟩ (by decide)⟩
          refine lv_iload hx hb dX8_holdsOf_71 (lv_at hl 0 rfl) ?_
          refine lv_bipush (v := (-2)) hx hb dX8_holdsOf_73 (by decide) ?_
          refine lv_iand hx hb dX8_holdsOf_75 ?_
          refine lv_topi (fun v38 ev38 => ?_)
          refine lv_istore (lv' := [(5, .int v38), (8, .int v14), (7, .int v12), (6, .int u1), (0, .ref h0), (1, .int p0), (2, .ref p1), (3, .ref p2), (4, .int p3)]) hx hb dX8_holdsOf_76 hl (by decide) rfl (fun ls hl => ?_)
          refine lv_goto (tgt := 129) hx hb dX8_holdsOf_78 (by decide) ?_
          obtain ⟨v39, ev39⟩ : ∃ z : Int32, z = u1 + 1 := ⟨_, rfl⟩
          have bv39 : v39.toInt = u1.toInt + 1 := by rw [ev39]; exact add_k rfl rfl k10 ⟨Int.le_refl _, Int.le_refl _⟩ (by decide)
          have k40 : 1 ≤ v39.toInt ∧ v39.toInt ≤ 40 := add_r bv39 k10 ⟨Int.le_refl _, Int.le_refl _⟩ (by decide)
          refine lv_iinc (v := v39) (lv' := [(6, .int v39), (5, .int v38), (8, .int v14), (7, .int v12), (0, .ref h0), (1, .int p0), (2, .ref p1), (3, .ref p2), (4, .int p3)]) hx hb dX8_holdsOf_129 hl (k := 3) rfl (by rw [ev39]; rfl) (by decide) rfl (fun ls hl => ?_)
          refine lv_goto (tgt := 6) hx hb dX8_holdsOf_132 (by decide) ?_
          exact ih (v39, v38) (ir_wk k40 (by decide) (by decide)) (by show (40 - v39.toInt).toNat < (40 - u1.toInt).toNat; omega) _ _ _ hP hD hS (lv_sub hl [0, 1, 4, 5, 6, 7, 8] rfl)
        · have dc36 : v12.toInt = 1 := eq_i (a := v12.toInt) (b := 1) rfl rfl c36
          have k41 : 1 ≤ v12.toInt ∧ v12.toInt ≤ 1 := ⟨Int.le_trans (Int.le_refl _) (Int.le_of_eq dc36.symm), k13.2⟩
          refine lv_iload hx hb dX8_holdsOf_66 (lv_at hl 0 rfl) ?_
          refine lv_goto (tgt := 76) hx hb dX8_holdsOf_68 (by decide) ?_
          refine lv_istore (lv' := [(5, .int v14), (8, .int v14), (7, .int v12), (6, .int u1), (0, .ref h0), (1, .int p0), (2, .ref p1), (3, .ref p2), (4, .int p3)]) hx hb dX8_holdsOf_76 hl (by decide) rfl (fun ls hl => ?_)
          refine lv_goto (tgt := 129) hx hb dX8_holdsOf_78 (by decide) ?_
          obtain ⟨v42, ev42⟩ : ∃ z : Int32, z = u1 + 1 := ⟨_, rfl⟩
          have bv42 : v42.toInt = u1.toInt + 1 := by rw [ev42]; exact add_k rfl rfl k10 ⟨Int.le_refl _, Int.le_refl _⟩ (by decide)
          have k43 : 1 ≤ v42.toInt ∧ v42.toInt ≤ 40 := add_r bv42 k10 ⟨Int.le_refl _, Int.le_refl _⟩ (by decide)
          refine lv_iinc (v := v42) (lv' := [(6, .int v42), (5, .int v14), (8, .int v14), (7, .int v12), (0, .ref h0), (1, .int p0), (2, .ref p1), (3, .ref p2), (4, .int p3)]) hx hb dX8_holdsOf_129 hl (k := 3) rfl (by rw [ev42]; rfl) (by decide) rfl (fun ls hl => ?_)
          refine lv_goto (tgt := 6) hx hb dX8_holdsOf_132 (by decide) ?_
          exact ih (v42, v14) (ir_wk k43 (by decide) (by decide)) (by show (40 - v42.toInt).toNat < (40 - u1.toInt).toNat; omega) _ _ _ hP hD hS (lv_sub hl [0, 1, 4, 5, 6, 7, 8] rfl)
    · have dc16 : v15.toInt = 16 := eq_i (a := v15.toInt) (b := 16) rfl rfl c16
      have k44 : 16 ≤ v15.toInt ∧ v15.toInt ≤ 16 := ⟨Int.le_trans (Int.le_refl _) (Int.le_of_eq dc16.symm), Int.le_trans (Int.le_of_eq dc16) (Int.le_refl _)⟩
      refine lv_iload hx hb dX8_holdsOf_39 (lv_at hl 3 rfl) ?_
      refine lv_iconst (v := 1) hx hb dX8_holdsOf_41 (by decide) ?_
      refine lv_ixor hx hb dX8_holdsOf_42 ?_
      refine lv_topi (fun v45 ev45 => ?_)
      refine lv_istore (lv' := [(5, .int v45), (8, .int v14), (7, .int v12), (6, .int u1), (0, .ref h0), (1, .int p0), (2, .ref p1), (3, .ref p2), (4, .int p3)]) hx hb dX8_holdsOf_43 hl (by decide) rfl (fun ls hl => ?_)
      refine lv_goto (tgt := 129) hx hb dX8_holdsOf_45 (by decide) ?_
      obtain ⟨v46, ev46⟩ : ∃ z : Int32, z = u1 + 1 := ⟨_, rfl⟩
      have bv46 : v46.toInt = u1.toInt + 1 := by rw [ev46]; exact add_k rfl rfl k10 ⟨Int.le_refl _, Int.le_refl _⟩ (by decide)
      have k47 : 1 ≤ v46.toInt ∧ v46.toInt ≤ 40 := add_r bv46 k10 ⟨Int.le_refl _, Int.le_refl _⟩ (by decide)
      refine lv_iinc (v := v46) (lv' := [(6, .int v46), (5, .int v45), (8, .int v14), (7, .int v12), (0, .ref h0), (1, .int p0), (2, .ref p1), (3, .ref p2), (4, .int p3)]) hx hb dX8_holdsOf_129 hl (k := 3) rfl (by rw [ev46]; rfl) (by decide) rfl (fun ls hl => ?_)
      refine lv_goto (tgt := 6) hx hb dX8_holdsOf_132 (by decide) ?_
      exact ih (v46, v45) (ir_wk k47 (by decide) (by decide)) (by show (40 - v46.toInt).toNat < (40 - u1.toInt).toNat; omega) _ _ _ hP hD hS (lv_sub hl [0, 1, 4, 5, 6, 7, 8] rfl)
