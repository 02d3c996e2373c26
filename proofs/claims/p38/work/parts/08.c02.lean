set_option maxHeartbeats 4000000 in
set_option maxRecDepth 100000 in
theorem m_X6_takeSign (l : Launch) (D : va_G) (cI cJ cB cP cM cZ : ClassId) (h0 : Nat) (h_bytes : Nat) (h_wordNames : Nat) (Fh : Nat → Value) (x_length : Int32) (x_kind : Int32) (x_place : Int32) (x_value : Int32) (x_name : Int64) (x_faultKind : Int32) (x_faultPlace : Int32) (x_at : Int32) (x_mostBytes : Int32) (f_bytes : Nat → Int32) (f_wordNames : Nat → Int64) (p0 : Int32) (sz : Nat) (e_bytes : Fh 0 = .ref h_bytes) (e_length : Fh 1 = .int x_length) (i_x_length : IR 0 940 x_length) (e_kind : Fh 2 = .int x_kind) (e_place : Fh 3 = .int x_place) (e_value : Fh 4 = .int x_value) (e_name : Fh 5 = .long x_name) (e_faultKind : Fh 7 = .int x_faultKind) (e_faultPlace : Fh 8 = .int x_faultPlace) (e_wordNames : Fh 9 = .ref h_wordNames) (e_at : Fh 10 = .int x_at) (i_x_at : IR 0 940 x_at) (e_mostBytes : Fh 11 = .int x_mostBytes) : CI l yX6_takeSign cX6_takeSign 2 (some .boolean) { frames := 2, cells := 0, slots := 0, locals := 43 } (GG D cI cJ cB cP cM cZ) D [(h0, .inr (6, vL 12 Fh)), (h_bytes, .inl (cB, 940, .inl f_bytes)), (h_wordNames, .inl (cJ, 23, .inr (.inl f_wordNames)))] sz [.ref h0, .int p0] (fun (r : Int32) (u : va_W) => ∃ (Gh : Nat → Value) (y_kind : Int32) (y_place : Int32) (y_value : Int32) (y_name : Int64) (y_faultKind : Int32) (y_faultPlace : Int32) (y_at : Int32), SAME [2, 3, 4, 5, 7, 8, 10] Fh Gh ∧ Gh 2 = .int y_kind ∧ Gh 3 = .int y_place ∧ Gh 4 = .int y_value ∧ Gh 5 = .long y_name ∧ Gh 7 = .int y_faultKind ∧ Gh 8 = .int y_faultPlace ∧ Gh 10 = .int y_at ∧ IR 0 940 y_at ∧ IR 0 1 r ∧ u = [(h0, .inr (6, vL 12 Gh)), (h_bytes, .inl (cB, 940, .inl f_bytes)), (h_wordNames, .inl (cJ, 23, .inr (.inl f_wordNames)))]) := by
  refine CI_mk (by decide) (Nat.le_of_ble_eq_true rfl) ?_
  intro p e s m below meth c A ls E hAe hG hsz hP hD hA hS hl
  obtain ⟨hx, hb, hr, hw, hown, hlocks, hml, hnm⟩ := E
  have hK := hG.1
  have i_x_length : 0 ≤ x_length.toInt ∧ x_length.toInt ≤ 940 := i_x_length
  have i_x_at : 0 ≤ x_at.toInt ∧ x_at.toInt ≤ 940 := i_x_at
  have hl : lv_has ls 2 [(0, .ref h0), (1, .int p0)] := hl
  refine lv_aload_n hx hb dX6_takeSign_0 rfl (lv_at hl 0 rfl) ?_
  refine get_f (D := D) (ci := 6) (v := .int x_kind) (C := RX6) (T := TX6) (N := 12) hx hb hw inAX6 hown hK hP 0 rfl rfl 2 (by decide) (hw _ q_92) (fun _ h9 => h9) e_kind dX6_takeSign_1 ?_
  refine lv_iload_n hx hb dX6_takeSign_4 rfl (lv_at hl 1 rfl) ?_
  refine lv_icmp_eq (tgt := 14) hx hb dX6_takeSign_5 (by decide) (fun c1 => ?_) (fun c1 => ?_)
  · have dc1 : x_kind.toInt = p0.toInt := eq_i (a := x_kind.toInt) (b := p0.toInt) rfl rfl c1
    refine lv_aload_n hx hb dX6_takeSign_14 rfl (lv_at hl 0 rfl) ?_
    refine call_Vv (wr := []) (As := []) (rest := []) hx hb hml hown hw (m_X6_advance l D cI cJ cB cP cM cZ h0 h_bytes h_wordNames Fh x_length x_value x_name x_at x_mostBytes f_bytes f_wordNames _ e_bytes e_length i_x_length e_value e_name e_wordNames e_at i_x_at e_mostBytes) wV_X6_66_X6_advance dX6_takeSign_15 hK hP hD hS hA [0, 1, 2] [] rfl rfl (by decide) (by decide) (by decide) 0 6 rfl rfl GG.fb hG.at hl.1 rfl (Nat.le_of_ble_eq_true rfl) ⟨(Nat.le_of_ble_eq_true rfl), (Nat.le_of_ble_eq_true rfl)⟩ ⟨(Nat.le_of_ble_eq_true rfl), (Nat.le_of_ble_eq_true rfl)⟩ (fun u H locs hp hP hD hS => ?_)
    obtain ⟨F3, y4, y5, y6, y7, y8, t9, t10, t11, t12, t13, t14, t15, t16, rfl⟩ := hp
    have hP : va_P D vwCl [(h0, .inr (6, vL 12 F3)), (h_bytes, .inl (cB, 940, .inl f_bytes)), (h_wordNames, .inl (cJ, 23, .inr (.inl f_wordNames)))] H := hP
    have hD : va_D A [(h0, .inr (6, vL 12 F3)), (h_bytes, .inl (cB, 940, .inl f_bytes)), (h_wordNames, .inl (cJ, 23, .inr (.inl f_wordNames)))] := hD
    refine W.widen (k := 0) (n := 0) (Nat.le_of_ble_eq_true rfl) (Nat.le_of_ble_eq_true rfl) ?_
    refine lv_iconst (v := 1) hx hb dX6_takeSign_18 (by decide) ?_
    exact ret_i (v := 1) hx hb hr hlocks hS hP hD dX6_takeSign_19 rfl (Nat.le_of_ble_eq_true rfl) (Nat.le_of_ble_eq_true rfl) ⟨F3, y4, y5, y6, y7, x_faultKind, x_faultPlace, y8, (SAME.tr SAME.rf t9 (by decide)), t10, t11, t13, t14, (SAME.at t9 (by decide) e_faultKind), (SAME.at t9 (by decide) e_faultPlace), t15, t16, ⟨by decide, by decide⟩, rfl⟩
  · have dc1 : x_kind.toInt ≠ p0.toInt := ne_i (a := x_kind.toInt) (b := p0.toInt) rfl rfl c1
    refine lv_aload_n hx hb dX6_takeSign_8 rfl (lv_at hl 0 rfl) ?_
    refine lv_iconst (v := 1) hx hb dX6_takeSign_9 (by decide) ?_
    refine call_Vi (wr := [(h_bytes, .inl (cB, 940, .inl f_bytes)), (h_wordNames, .inl (cJ, 23, .inr (.inl f_wordNames)))]) (As := [.int 1]) (rest := []) hx hb hml hown hw (m_X6_fail l D cI cJ cB cP cM cZ h0 Fh x_place 1 _ e_place) wV_X6_80_X6_fail dX6_takeSign_10 hK hP hD hS hA [0] [1, 2] rfl rfl (by decide) (by decide) (by decide) 0 6 rfl rfl GG.fb hG.at hl.1 rfl (Nat.le_of_ble_eq_true rfl) ⟨(Nat.le_of_ble_eq_true rfl), (Nat.le_of_ble_eq_true rfl)⟩ ⟨(Nat.le_of_ble_eq_true rfl), (Nat.le_of_ble_eq_true rfl)⟩ (fun r17 u H locs hp hP hD hS => ?_)
    obtain ⟨F18, t19, t20, t21, rfl, rfl⟩ := hp
    have hP : va_P D vwCl [(h_bytes, .inl (cB, 940, .inl f_bytes)), (h_wordNames, .inl (cJ, 23, .inr (.inl f_wordNames))), (h0, .inr (6, vL 12 F18))] H := hP
    have hD : va_D A [(h_bytes, .inl (cB, 940, .inl f_bytes)), (h_wordNames, .inl (cJ, 23, .inr (.inl f_wordNames))), (h0, .inr (6, vL 12 F18))] := hD
    refine W.widen (k := 0) (n := 0) (Nat.le_of_ble_eq_true rfl) (Nat.le_of_ble_eq_true rfl) ?_
    exact ret_i (v := 0) hx hb hr hlocks hS (hP.sub (ws' := [(h0, .inr (6, vL 12 F18)), (h_bytes, .inl (cB, 940, .inl f_bytes)), (h_wordNames, .inl (cJ, 23, .inr (.inl f_wordNames)))]) [2, 0, 1] rfl) (hD.sub (ws' := [(h0, .inr (6, vL 12 F18)), (h_bytes, .inl (cB, 940, .inl f_bytes)), (h_wordNames, .inl (cJ, 23, .inr (.inl f_wordNames)))]) [2, 0, 1] (by decide) rfl) dX6_takeSign_13 rfl (Nat.le_of_ble_eq_true rfl) (Nat.le_of_ble_eq_true rfl) ⟨F18, x_kind, x_place, x_value, x_name, 1, x_place, x_at, (SAME.tr SAME.rf t19 (by decide)), (SAME.at t19 (by decide) e_kind), (SAME.at t19 (by decide) e_place), (SAME.at t19 (by decide) e_value), (SAME.at t19 (by decide) e_name), t20, t21, (SAME.at t19 (by decide) e_at), i_x_at, ⟨by decide, by decide⟩, rfl⟩
set_option maxHeartbeats 4000000 in
set_option maxRecDepth 100000 in
theorem m_X1_readFrom (l : Launch) (D : va_G) (cI cJ cB cP cM cZ : ClassId) (z0 tU tL tM : Nat) (h0 : Nat) (h_settings : Nat) (h_manName : Nat) (h_push : Nat) (h_feet : Nat) (h_weight : Nat) (h_length : Nat) (h_drop : Nat) (h_ideal : Nat) (h_over : Nat) (h_runnerName : Nat) (h_bestAt : Nat) (h_bad : Nat) (p0 : Nat) (h_p0_bytes : Nat) (h_p0_wordNames : Nat) (Fh : Nat → Value) (x_men : Int32) (x_bends : Int32) (x_runners : Int32) (x_settingsTold : Int32) (f_settings : Nat → Int32) (f_manName : Nat → Int64) (f_push : Nat → Int32) (f_feet : Nat → Int32) (f_weight : Nat → Int32) (f_length : Nat → Int32) (f_drop : Nat → Int32) (f_ideal : Nat → Int32) (f_over : Nat → Int32) (f_runnerName : Nat → Int64) (f_bestAt : Nat → Int32) (f_bad : Nat → Int32) (F_p0_ : Nat → Value) (x_p0_length : Int32) (x_p0_kind : Int32) (x_p0_place : Int32) (x_p0_value : Int32) (x_p0_name : Int64) (x_p0_faultKind : Int32) (x_p0_faultPlace : Int32) (x_p0_at : Int32) (x_p0_mostBytes : Int32) (f_p0_bytes : Nat → Int32) (f_p0_wordNames : Nat → Int64) (sz : Nat) (e_settings : Fh 1 = .ref h_settings) (e_manName : Fh 2 = .ref h_manName) (e_push : Fh 3 = .ref h_push) (e_feet : Fh 4 = .ref h_feet) (e_weight : Fh 5 = .ref h_weight) (e_length : Fh 6 = .ref h_length) (e_drop : Fh 7 = .ref h_drop) (e_ideal : Fh 8 = .ref h_ideal) (e_over : Fh 9 = .ref h_over) (e_runnerName : Fh 10 = .ref h_runnerName) (e_bestAt : Fh 11 = .ref h_bestAt) (e_bad : Fh 12 = .ref h_bad) (e_men : Fh 13 = .int x_men) (i_x_men : IR 0 12 x_men) (e_bends : Fh 14 = .int x_bends) (i_x_bends : IR 0 12 x_bends) (e_runners : Fh 15 = .int x_runners) (i_x_runners : IR 0 6 x_runners) (e_settingsTold : Fh 17 = .int x_settingsTold) (e_p0_bytes : F_p0_ 0 = .ref h_p0_bytes) (e_p0_length : F_p0_ 1 = .int x_p0_length) (i_x_p0_length : IR 0 940 x_p0_length) (e_p0_kind : F_p0_ 2 = .int x_p0_kind) (e_p0_place : F_p0_ 3 = .int x_p0_place) (e_p0_value : F_p0_ 4 = .int x_p0_value) (e_p0_name : F_p0_ 5 = .long x_p0_name) (e_p0_faultKind : F_p0_ 7 = .int x_p0_faultKind) (e_p0_faultPlace : F_p0_ 8 = .int x_p0_faultPlace) (e_p0_wordNames : F_p0_ 9 = .ref h_p0_wordNames) (e_p0_at : F_p0_ 10 = .int x_p0_at) (i_x_p0_at : IR 0 940 x_p0_at) (e_p0_mostBytes : F_p0_ 11 = .int x_p0_mostBytes) : CI l yX1_readFrom cX1_readFrom 2 (some .boolean) { frames := 5, cells := 0, slots := 0, locals := 112 } (GY D cI cJ cB cP cM cZ z0 tU tL tM [(h0, .inr (1, vL 18 Fh)), (h_settings, .inl (cI, 5, .inl f_settings)), (h_manName, .inl (cJ, 12, .inr (.inl f_manName))), (h_push, .inl (cI, 12, .inl f_push)), (h_feet, .inl (cI, 12, .inl f_feet)), (h_weight, .inl (cI, 12, .inl f_weight)), (h_length, .inl (cI, 12, .inl f_length)), (h_drop, .inl (cI, 12, .inl f_drop)), (h_ideal, .inl (cI, 12, .inl f_ideal)), (h_over, .inl (cI, 12, .inl f_over)), (h_runnerName, .inl (cJ, 6, .inr (.inl f_runnerName))), (h_bestAt, .inl (cI, 6, .inl f_bestAt)), (h_bad, .inl (cI, 6, .inl f_bad)), (p0, .inr (6, vL 12 F_p0_)), (h_p0_bytes, .inl (cB, 940, .inl f_p0_bytes)), (h_p0_wordNames, .inl (cJ, 23, .inr (.inl f_p0_wordNames)))]) D [(h0, .inr (1, vL 18 Fh)), (h_settings, .inl (cI, 5, .inl f_settings)), (h_manName, .inl (cJ, 12, .inr (.inl f_manName))), (h_push, .inl (cI, 12, .inl f_push)), (h_feet, .inl (cI, 12, .inl f_feet)), (h_weight, .inl (cI, 12, .inl f_weight)), (h_length, .inl (cI, 12, .inl f_length)), (h_drop, .inl (cI, 12, .inl f_drop)), (h_ideal, .inl (cI, 12, .inl f_ideal)), (h_over, .inl (cI, 12, .inl f_over)), (h_runnerName, .inl (cJ, 6, .inr (.inl f_runnerName))), (h_bestAt, .inl (cI, 6, .inl f_bestAt)), (h_bad, .inl (cI, 6, .inl f_bad)), (p0, .inr (6, vL 12 F_p0_)), (h_p0_bytes, .inl (cB, 940, .inl f_p0_bytes)), (h_p0_wordNames, .inl (cJ, 23, .inr (.inl f_p0_wordNames)))] sz [.ref h0, .ref p0] (fun (r : Int32) (u : va_W) => ∃ (Gh : Nat → Value) (y_men : Int32) (y_bends : Int32) (y_runners : Int32) (y_lines : Int32) (y_settingsTold : Int32) (G_p0_ : Nat → Value) (y_p0_kind : Int32) (y_p0_place : Int32) (y_p0_value : Int32) (y_p0_name : Int64) (y_p0_faultKind : Int32) (y_p0_faultPlace : Int32) (y_p0_at : Int32) (g_settings : Nat → Int32) (g_manName : Nat → Int64) (g_push : Nat → Int32) (g_feet : Nat → Int32) (g_weight : Nat → Int32) (g_length : Nat → Int32) (g_drop : Nat → Int32) (g_ideal : Nat → Int32) (g_over : Nat → Int32) (g_runnerName : Nat → Int64) (g_bestAt : Nat → Int32) (g_bad : Nat → Int32), SAME [13, 14, 15, 16, 17] Fh Gh ∧ Gh 13 = .int y_men ∧ IR 0 12 y_men ∧ Gh 14 = .int y_bends ∧ IR 0 12 y_bends ∧ Gh 15 = .int y_runners ∧ IR 0 6 y_runners ∧ Gh 16 = .int y_lines ∧ IR 0 900 y_lines ∧ Gh 17 = .int y_settingsTold ∧ SAME [2, 3, 4, 5, 7, 8, 10] F_p0_ G_p0_ ∧ G_p0_ 2 = .int y_p0_kind ∧ G_p0_ 3 = .int y_p0_place ∧ G_p0_ 4 = .int y_p0_value ∧ G_p0_ 5 = .long y_p0_name ∧ G_p0_ 7 = .int y_p0_faultKind ∧ G_p0_ 8 = .int y_p0_faultPlace ∧ G_p0_ 10 = .int y_p0_at ∧ IR 0 940 y_p0_at ∧ IR 0 1 r ∧ u = [(h0, .inr (1, vL 18 Gh)), (h_settings, .inl (cI, 5, .inl g_settings)), (h_manName, .inl (cJ, 12, .inr (.inl g_manName))), (h_push, .inl (cI, 12, .inl g_push)), (h_feet, .inl (cI, 12, .inl g_feet)), (h_weight, .inl (cI, 12, .inl g_weight)), (h_length, .inl (cI, 12, .inl g_length)), (h_drop, .inl (cI, 12, .inl g_drop)), (h_ideal, .inl (cI, 12, .inl g_ideal)), (h_over, .inl (cI, 12, .inl g_over)), (h_runnerName, .inl (cJ, 6, .inr (.inl g_runnerName))), (h_bestAt, .inl (cI, 6, .inl g_bestAt)), (h_bad, .inl (cI, 6, .inl g_bad)), (p0, .inr (6, vL 12 G_p0_)), (h_p0_bytes, .inl (cB, 940, .inl f_p0_bytes)), (h_p0_wordNames, .inl (cJ, 23, .inr (.inl f_p0_wordNames)))]) := by
  refine CI_mk (by decide) (Nat.le_of_ble_eq_true rfl) ?_
  intro p e s m below meth c A ls E hAe hG hsz hP hD hA hS hl
  obtain ⟨hx, hb, hr, hw, hown, hlocks, hml, hnm⟩ := E
  have hK := hG.1.1
  have hAz := hG.hAz hAe hsz
  have hST := hG.st hAz
  have i_x_men : 0 ≤ x_men.toInt ∧ x_men.toInt ≤ 12 := i_x_men
  have i_x_bends : 0 ≤ x_bends.toInt ∧ x_bends.toInt ≤ 12 := i_x_bends
  have i_x_runners : 0 ≤ x_runners.toInt ∧ x_runners.toInt ≤ 6 := i_x_runners
  have i_x_p0_length : 0 ≤ x_p0_length.toInt ∧ x_p0_length.toInt ≤ 940 := i_x_p0_length
  have i_x_p0_at : 0 ≤ x_p0_at.toInt ∧ x_p0_at.toInt ≤ 940 := i_x_p0_at
  have hl : lv_has ls 2 [(0, .ref h0), (1, .ref p0)] := hl
  refine lv_aload_n hx hb dX1_readFrom_0 rfl (lv_at hl 0 rfl) ?_
  refine lv_iconst (v := 0) hx hb dX1_readFrom_1 (by decide) ?_
  refine put_f (D := D) (ci := 1) (v := .int 0) (ty := .int) (C := RX1) (T := TX1) (N := 18) hx hb hw inAX1 tyX1 tyX1_ok nmX1 hown hK hP hD hS 0 rfl rfl 16 (by decide) (hw _ q_362) (fun _ h9 => h9) rfl (by decide +kernel) rfl rfl dX1_readFrom_2 (fun H locs F1 eF1 hP hD hS => ?_)
  have hP : va_P D vwCl [(h0, .inr (1, vL 18 F1)), (h_settings, .inl (cI, 5, .inl f_settings)), (h_manName, .inl (cJ, 12, .inr (.inl f_manName))), (h_push, .inl (cI, 12, .inl f_push)), (h_feet, .inl (cI, 12, .inl f_feet)), (h_weight, .inl (cI, 12, .inl f_weight)), (h_length, .inl (cI, 12, .inl f_length)), (h_drop, .inl (cI, 12, .inl f_drop)), (h_ideal, .inl (cI, 12, .inl f_ideal)), (h_over, .inl (cI, 12, .inl f_over)), (h_runnerName, .inl (cJ, 6, .inr (.inl f_runnerName))), (h_bestAt, .inl (cI, 6, .inl f_bestAt)), (h_bad, .inl (cI, 6, .inl f_bad)), (p0, .inr (6, vL 12 F_p0_)), (h_p0_bytes, .inl (cB, 940, .inl f_p0_bytes)), (h_p0_wordNames, .inl (cJ, 23, .inr (.inl f_p0_wordNames)))] H := hP
  have hD : va_D A [(h0, .inr (1, vL 18 F1)), (h_settings, .inl (cI, 5, .inl f_settings)), (h_manName, .inl (cJ, 12, .inr (.inl f_manName))), (h_push, .inl (cI, 12, .inl f_push)), (h_feet, .inl (cI, 12, .inl f_feet)), (h_weight, .inl (cI, 12, .inl f_weight)), (h_length, .inl (cI, 12, .inl f_length)), (h_drop, .inl (cI, 12, .inl f_drop)), (h_ideal, .inl (cI, 12, .inl f_ideal)), (h_over, .inl (cI, 12, .inl f_over)), (h_runnerName, .inl (cJ, 6, .inr (.inl f_runnerName))), (h_bestAt, .inl (cI, 6, .inl f_bestAt)), (h_bad, .inl (cI, 6, .inl f_bad)), (p0, .inr (6, vL 12 F_p0_)), (h_p0_bytes, .inl (cB, 940, .inl f_p0_bytes)), (h_p0_wordNames, .inl (cJ, 23, .inr (.inl f_p0_wordNames)))] := hD
  have n28 : F1 13 = .int x_men := (get_ne eF1 (by decide) e_men)
  have n29 : F1 14 = .int x_bends := (get_ne eF1 (by decide) e_bends)
  have n30 : F1 15 = .int x_runners := (get_ne eF1 (by decide) e_runners)
  have n31 : F1 17 = .int x_settingsTold := (get_ne eF1 (by decide) e_settingsTold)
  refine mloop (α := (Nat → Value) × (Int32) × (Int32) × (Int32) × (Int32) × (Int32) × (Nat → Int32) × (Nat → Int64) × (Nat → Int32) × (Nat → Int32) × (Nat → Int32) × (Nat → Int32) × (Nat → Int32) × (Nat → Int32) × (Nat → Int32) × (Nat → Int64) × (Nat → Int32) × (Nat → Int32) × (Nat → Value) × (Int32) × (Int32) × (Int32) × (Int64) × (Int32) × (Int32) × (Int32)) (nL := 2) (D := D) (A := A) (H0 := s.heap) (fun a => (900 - a.2.2.2.2.1.toInt).toNat) (fun a => SAME [13, 14, 15, 16, 17] F1 a.1 ∧ a.1 13 = .int a.2.1 ∧ a.1 14 = .int a.2.2.1 ∧ a.1 15 = .int a.2.2.2.1 ∧ a.1 16 = .int a.2.2.2.2.1 ∧ a.1 17 = .int a.2.2.2.2.2.1 ∧ IR 0 12 a.2.1 ∧ IR 0 12 a.2.2.1 ∧ IR 0 6 a.2.2.2.1 ∧ IR 0 900 a.2.2.2.2.1 ∧ SAME [2, 3, 4, 5, 7, 8, 10] F_p0_ a.2.2.2.2.2.2.2.2.2.2.2.2.2.2.2.2.2.2.1 ∧ a.2.2.2.2.2.2.2.2.2.2.2.2.2.2.2.2.2.2.1 2 = .int a.2.2.2.2.2.2.2.2.2.2.2.2.2.2.2.2.2.2.2.1 ∧ a.2.2.2.2.2.2.2.2.2.2.2.2.2.2.2.2.2.2.1 3 = .int a.2.2.2.2.2.2.2.2.2.2.2.2.2.2.2.2.2.2.2.2.1 ∧ a.2.2.2.2.2.2.2.2.2.2.2.2.2.2.2.2.2.2.1 4 = .int a.2.2.2.2.2.2.2.2.2.2.2.2.2.2.2.2.2.2.2.2.2.1 ∧ a.2.2.2.2.2.2.2.2.2.2.2.2.2.2.2.2.2.2.1 5 = .long a.2.2.2.2.2.2.2.2.2.2.2.2.2.2.2.2.2.2.2.2.2.2.1 ∧ a.2.2.2.2.2.2.2.2.2.2.2.2.2.2.2.2.2.2.1 7 = .int a.2.2.2.2.2.2.2.2.2.2.2.2.2.2.2.2.2.2.2.2.2.2.2.1 ∧ a.2.2.2.2.2.2.2.2.2.2.2.2.2.2.2.2.2.2.1 8 = .int a.2.2.2.2.2.2.2.2.2.2.2.2.2.2.2.2.2.2.2.2.2.2.2.2.1 ∧ a.2.2.2.2.2.2.2.2.2.2.2.2.2.2.2.2.2.2.1 10 = .int a.2.2.2.2.2.2.2.2.2.2.2.2.2.2.2.2.2.2.2.2.2.2.2.2.2 ∧ IR 0 940 a.2.2.2.2.2.2.2.2.2.2.2.2.2.2.2.2.2.2.2.2.2.2.2.2.2) (fun a => [(h0, .inr (1, vL 18 a.1)), (h_settings, .inl (cI, 5, .inl a.2.2.2.2.2.2.1)), (h_manName, .inl (cJ, 12, .inr (.inl a.2.2.2.2.2.2.2.1))), (h_push, .inl (cI, 12, .inl a.2.2.2.2.2.2.2.2.1)), (h_feet, .inl (cI, 12, .inl a.2.2.2.2.2.2.2.2.2.1)), (h_weight, .inl (cI, 12, .inl a.2.2.2.2.2.2.2.2.2.2.1)), (h_length, .inl (cI, 12, .inl a.2.2.2.2.2.2.2.2.2.2.2.1)), (h_drop, .inl (cI, 12, .inl a.2.2.2.2.2.2.2.2.2.2.2.2.1)), (h_ideal, .inl (cI, 12, .inl a.2.2.2.2.2.2.2.2.2.2.2.2.2.1)), (h_over, .inl (cI, 12, .inl a.2.2.2.2.2.2.2.2.2.2.2.2.2.2.1)), (h_runnerName, .inl (cJ, 6, .inr (.inl a.2.2.2.2.2.2.2.2.2.2.2.2.2.2.2.1))), (h_bestAt, .inl (cI, 6, .inl a.2.2.2.2.2.2.2.2.2.2.2.2.2.2.2.2.1)), (h_bad, .inl (cI, 6, .inl a.2.2.2.2.2.2.2.2.2.2.2.2.2.2.2.2.2.1)), (p0, .inr (6, vL 12 a.2.2.2.2.2.2.2.2.2.2.2.2.2.2.2.2.2.2.1)), (h_p0_bytes, .inl (cB, 940, .inl f_p0_bytes)), (h_p0_wordNames, .inl (cJ, 23, .inr (.inl f_p0_wordNames)))]) (fun a => [(0, .ref h0), (1, .ref p0)]) (fun H locs ls => W p l e ({ frames := 5, cells := 0, slots := 0, locals := 112 } : Room) s m [.ref h0, .ref p0].toArray below meth c H locs 0 0 (MQ below (va_Qi (fun (r : Int32) (u : va_W) => ∃ (Gh : Nat → Value) (y_men : Int32) (y_bends : Int32) (y_runners : Int32) (y_lines : Int32) (y_settingsTold : Int32) (G_p0_ : Nat → Value) (y_p0_kind : Int32) (y_p0_place : Int32) (y_p0_value : Int32) (y_p0_name : Int64) (y_p0_faultKind : Int32) (y_p0_faultPlace : Int32) (y_p0_at : Int32) (g_settings : Nat → Int32) (g_manName : Nat → Int64) (g_push : Nat → Int32) (g_feet : Nat → Int32) (g_weight : Nat → Int32) (g_length : Nat → Int32) (g_drop : Nat → Int32) (g_ideal : Nat → Int32) (g_over : Nat → Int32) (g_runnerName : Nat → Int64) (g_bestAt : Nat → Int32) (g_bad : Nat → Int32), SAME [13, 14, 15, 16, 17] Fh Gh ∧ Gh 13 = .int y_men ∧ IR 0 12 y_men ∧ Gh 14 = .int y_bends ∧ IR 0 12 y_bends ∧ Gh 15 = .int y_runners ∧ IR 0 6 y_runners ∧ Gh 16 = .int y_lines ∧ IR 0 900 y_lines ∧ Gh 17 = .int y_settingsTold ∧ SAME [2, 3, 4, 5, 7, 8, 10] F_p0_ G_p0_ ∧ G_p0_ 2 = .int y_p0_kind ∧ G_p0_ 3 = .int y_p0_place ∧ G_p0_ 4 = .int y_p0_value ∧ G_p0_ 5 = .long y_p0_name ∧ G_p0_ 7 = .int y_p0_faultKind ∧ G_p0_ 8 = .int y_p0_faultPlace ∧ G_p0_ 10 = .int y_p0_at ∧ IR 0 940 y_p0_at ∧ IR 0 1 r ∧ u = [(h0, .inr (1, vL 18 Gh)), (h_settings, .inl (cI, 5, .inl g_settings)), (h_manName, .inl (cJ, 12, .inr (.inl g_manName))), (h_push, .inl (cI, 12, .inl g_push)), (h_feet, .inl (cI, 12, .inl g_feet)), (h_weight, .inl (cI, 12, .inl g_weight)), (h_length, .inl (cI, 12, .inl g_length)), (h_drop, .inl (cI, 12, .inl g_drop)), (h_ideal, .inl (cI, 12, .inl g_ideal)), (h_over, .inl (cI, 12, .inl g_over)), (h_runnerName, .inl (cJ, 6, .inr (.inl g_runnerName))), (h_bestAt, .inl (cI, 6, .inl g_bestAt)), (h_bad, .inl (cI, 6, .inl g_bad)), (p0, .inr (6, vL 12 G_p0_)), (h_p0_bytes, .inl (cB, 940, .inl f_p0_bytes)), (h_p0_wordNames, .inl (cJ, 23, .inr (.inl f_p0_wordNames)))]) (PO D A) A) [.ref h0, .ref p0].toArray s 0 0 A) (F0 m 5 ls [])) ?_ (F1, x_men, x_bends, x_runners, 0, x_settingsTold, f_settings, f_manName, f_push, f_feet, f_weight, f_length, f_drop, f_ideal, f_over, f_runnerName, f_bestAt, f_bad, F_p0_, x_p0_kind, x_p0_place, x_p0_value, x_p0_name, x_p0_faultKind, x_p0_faultPlace, x_p0_at) ⟨SAME.rf, n28, n29, n30, (get_eq eF1), n31, i_x_men, i_x_bends, i_x_runners, ⟨by decide, by decide⟩, SAME.rf, e_p0_kind, e_p0_place, e_p0_value, e_p0_name, e_p0_faultKind, e_p0_faultPlace, e_p0_at, i_x_p0_at⟩ _ _ _ hP hD hS hl
  rintro ⟨G2, u3, u4, u5, u6, u7, w8, w9, w10, w11, w12, w13, w14, w15, w16, w17, w18, w19, G20, u21, u22, u23, u24, u25, u26, u27⟩ ⟨i32, i33, i34, i35, i36, i37, i38, i39, i40, i41, i42, i43, i44, i45, i46, i47, i48, i49, i50⟩ ih H locs ls hP hD hS hl
  have i38 : 0 ≤ u3.toInt ∧ u3.toInt ≤ 12 := i38
  have i39 : 0 ≤ u4.toInt ∧ u4.toInt ≤ 12 := i39
  have i40 : 0 ≤ u5.toInt ∧ u5.toInt ≤ 6 := i40
  have i41 : 0 ≤ u6.toInt ∧ u6.toInt ≤ 900 := i41
  have i50 : 0 ≤ u27.toInt ∧ u27.toInt ≤ 940 := i50
  have hP : va_P D vwCl [(h0, .inr (1, vL 18 G2)), (h_settings, .inl (cI, 5, .inl w8)), (h_manName, .inl (cJ, 12, .inr (.inl w9))), (h_push, .inl (cI, 12, .inl w10)), (h_feet, .inl (cI, 12, .inl w11)), (h_weight, .inl (cI, 12, .inl w12)), (h_length, .inl (cI, 12, .inl w13)), (h_drop, .inl (cI, 12, .inl w14)), (h_ideal, .inl (cI, 12, .inl w15)), (h_over, .inl (cI, 12, .inl w16)), (h_runnerName, .inl (cJ, 6, .inr (.inl w17))), (h_bestAt, .inl (cI, 6, .inl w18)), (h_bad, .inl (cI, 6, .inl w19)), (p0, .inr (6, vL 12 G20)), (h_p0_bytes, .inl (cB, 940, .inl f_p0_bytes)), (h_p0_wordNames, .inl (cJ, 23, .inr (.inl f_p0_wordNames)))] H := hP
  have hD : va_D A [(h0, .inr (1, vL 18 G2)), (h_settings, .inl (cI, 5, .inl w8)), (h_manName, .inl (cJ, 12, .inr (.inl w9))), (h_push, .inl (cI, 12, .inl w10)), (h_feet, .inl (cI, 12, .inl w11)), (h_weight, .inl (cI, 12, .inl w12)), (h_length, .inl (cI, 12, .inl w13)), (h_drop, .inl (cI, 12, .inl w14)), (h_ideal, .inl (cI, 12, .inl w15)), (h_over, .inl (cI, 12, .inl w16)), (h_runnerName, .inl (cJ, 6, .inr (.inl w17))), (h_bestAt, .inl (cI, 6, .inl w18)), (h_bad, .inl (cI, 6, .inl w19)), (p0, .inr (6, vL 12 G20)), (h_p0_bytes, .inl (cB, 940, .inl f_p0_bytes)), (h_p0_wordNames, .inl (cJ, 23, .inr (.inl f_p0_wordNames)))] := hD
  have hl : lv_has ls 2 [(0, .ref h0), (1, .ref p0)] := hl
  refine lv_aload_n hx hb dX1_readFrom_5 rfl (lv_at hl 0 rfl) ?_
  refine get_f (D := D) (ci := 1) (v := .int u6) (C := RX1) (T := TX1) (N := 18) hx hb hw inAX1 hown hK hP 0 rfl rfl 16 (by decide) (hw _ q_362) (fun _ h9 => h9) i36 dX1_readFrom_6 ?_
  refine lv_sipush (v := 900) hx hb dX1_readFrom_9 (by decide) ?_
  refine lv_icmp_ge (tgt := 54) hx hb dX1_readFrom_12 (by decide) (fun c51 => ?_) (fun c51 => ?_)
  · have dc51 : 900 ≤ u6.toInt := le_i (a := 900) (b := u6.toInt) rfl rfl c51
    have k52 : 900 ≤ u6.toInt ∧ u6.toInt ≤ 900 := ⟨Int.le_trans (Int.le_refl _) dc51, i41.2⟩
    refine lv_iconst (v := 1) hx hb dX1_readFrom_54 (by decide) ?_
    exact ret_i (v := 1) hx hb hr hlocks hS hP hD dX1_readFrom_55 rfl (Nat.le_of_ble_eq_true rfl) (Nat.le_of_ble_eq_true rfl) ⟨G2, u3, u4, u5, u6, u7, G20, u21, u22, u23, u24, u25, u26, u27, w8, w9, w10, w11, w12, w13, w14, w15, w16, w17, w18, w19, (SAME.tr (SAME.up eF1 SAME.rf (by decide)) i32 (by decide)), i33, i38, i34, i39, i35, i40, i36, (ir_wk k52 (by decide) (by decide)), i37, (SAME.tr SAME.rf i42 (by decide)), i43, i44, i45, i46, i47, i48, i49, i50, ⟨by decide, by decide⟩, rfl⟩
  · have dc51 : u6.toInt < 900 := nle_i (a := 900) (b := u6.toInt) rfl rfl c51
    have k53 : 0 ≤ u6.toInt ∧ u6.toInt ≤ 899 := ⟨i41.1, up_lt dc51 (Int.le_refl _) (by decide)⟩
    refine lv_aload_n hx hb dX1_readFrom_15 rfl (lv_at hl 1 rfl) ?_
    refine get_f (D := D) (ci := 6) (v := .int u21) (C := RX6) (T := TX6) (N := 12) hx hb hw inAX6 hown hK hP 13 rfl rfl 2 (by decide) (hw _ q_95) (fun _ h9 => h9) i43 dX1_readFrom_16 ?_
    refine lv_if_eq (tgt := 54) hx hb dX1_readFrom_19 (by decide) (fun c54 => ?_) (fun c54 => ?_)
    · have dc54 : u21.toInt = 0 := eq_i (a := u21.toInt) (b := 0) rfl rfl c54
      have k55 : 0 ≤ u21.toInt ∧ u21.toInt ≤ 0 := ⟨Int.le_trans (Int.le_refl _) (Int.le_of_eq dc54.symm), Int.le_trans (Int.le_of_eq dc54) (Int.le_refl _)⟩
      refine lv_iconst (v := 1) hx hb dX1_readFrom_54 (by decide) ?_
      exact ret_i (v := 1) hx hb hr hlocks hS hP hD dX1_readFrom_55 rfl (Nat.le_of_ble_eq_true rfl) (Nat.le_of_ble_eq_true rfl) ⟨G2, u3, u4, u5, u6, u7, G20, u21, u22, u23, u24, u25, u26, u27, w8, w9, w10, w11, w12, w13, w14, w15, w16, w17, w18, w19, (SAME.tr (SAME.up eF1 SAME.rf (by decide)) i32 (by decide)), i33, i38, i34, i39, i35, i40, i36, (ir_wk k53 (by decide) (by decide)), i37, (SAME.tr SAME.rf i42 (by decide)), i43, i44, i45, i46, i47, i48, i49, i50, ⟨by decide, by decide⟩, rfl⟩
    · have dc54 : u21.toInt ≠ 0 := ne_i (a := u21.toInt) (b := 0) rfl rfl c54
      refine lv_aload_n hx hb dX1_readFrom_22 rfl (lv_at hl 0 rfl) ?_
      refine lv_aload_n hx hb dX1_readFrom_23 rfl (lv_at hl 1 rfl) ?_
      have n56 : F1 1 = .ref h_settings := (get_ne eF1 (by decide) e_settings)
      have n57 : G2 1 = .ref h_settings := (SAME.at i32 (by decide) n56)
      have n58 : F1 2 = .ref h_manName := (get_ne eF1 (by decide) e_manName)
      have n59 : G2 2 = .ref h_manName := (SAME.at i32 (by decide) n58)
      have n60 : F1 3 = .ref h_push := (get_ne eF1 (by decide) e_push)
      have n61 : G2 3 = .ref h_push := (SAME.at i32 (by decide) n60)
      have n62 : F1 4 = .ref h_feet := (get_ne eF1 (by decide) e_feet)
      have n63 : G2 4 = .ref h_feet := (SAME.at i32 (by decide) n62)
      have n64 : F1 5 = .ref h_weight := (get_ne eF1 (by decide) e_weight)
      have n65 : G2 5 = .ref h_weight := (SAME.at i32 (by decide) n64)
      have n66 : F1 6 = .ref h_length := (get_ne eF1 (by decide) e_length)
      have n67 : G2 6 = .ref h_length := (SAME.at i32 (by decide) n66)
      have n68 : F1 7 = .ref h_drop := (get_ne eF1 (by decide) e_drop)
      have n69 : G2 7 = .ref h_drop := (SAME.at i32 (by decide) n68)
      have n70 : F1 8 = .ref h_ideal := (get_ne eF1 (by decide) e_ideal)
      have n71 : G2 8 = .ref h_ideal := (SAME.at i32 (by decide) n70)
      have n72 : F1 9 = .ref h_over := (get_ne eF1 (by decide) e_over)
      have n73 : G2 9 = .ref h_over := (SAME.at i32 (by decide) n72)
      have n74 : F1 10 = .ref h_runnerName := (get_ne eF1 (by decide) e_runnerName)
      have n75 : G2 10 = .ref h_runnerName := (SAME.at i32 (by decide) n74)
      have n76 : F1 11 = .ref h_bestAt := (get_ne eF1 (by decide) e_bestAt)
      have n77 : G2 11 = .ref h_bestAt := (SAME.at i32 (by decide) n76)
      have n78 : F1 12 = .ref h_bad := (get_ne eF1 (by decide) e_bad)
      have n79 : G2 12 = .ref h_bad := (SAME.at i32 (by decide) n78)
      have n80 : G20 0 = .ref h_p0_bytes := (SAME.at i42 (by decide) e_p0_bytes)
      have n81 : G20 1 = .int x_p0_length := (SAME.at i42 (by decide) e_p0_length)
      have n82 : G20 9 = .ref h_p0_wordNames := (SAME.at i42 (by decide) e_p0_wordNames)
      have n83 : G20 11 = .int x_p0_mostBytes := (SAME.at i42 (by decide) e_p0_mostBytes)
      refine call_Vi (wr := []) (As := [.ref p0]) (rest := []) hx hb hml hown hw (m_X1_readLine l D cI cJ cB cP cM cZ z0 tU tL tM h0 h_settings h_manName h_push h_feet h_weight h_length h_drop h_ideal h_over h_runnerName h_bestAt h_bad p0 h_p0_bytes h_p0_wordNames G2 u3 u4 u5 u7 w8 w9 w10 w11 w12 w13 w14 w15 w16 w17 w18 w19 G20 x_p0_length u21 u22 u23 u24 u25 u26 u27 x_p0_mostBytes f_p0_bytes f_p0_wordNames _ n57 n59 n61 n63 n65 n67 n69 n71 n73 n75 n77 n79 i33 i38 i34 i39 i35 i40 i37 n80 n81 i_x_p0_length i43 i44 i45 i46 i47 i48 n82 i49 i50 n83) wV_X1_103_X1_readLine dX1_readFrom_24 hK hP hD hS hA [0, 1, 2, 3, 4, 5, 6, 7, 8, 9, 10, 11, 12, 13, 14, 15] [] rfl rfl (by decide) (by decide) (by decide) 0 1 rfl rfl GY.fb (hG.at hAz hS (hD.sub [0, 1, 2, 3, 4, 5, 6, 7, 8, 9, 10, 11, 12, 13, 14, 15] (by decide) rfl)) hl.1 rfl (Nat.le_of_ble_eq_true rfl) ⟨(Nat.le_of_ble_eq_true rfl), (Nat.le_of_ble_eq_true rfl)⟩ ⟨(Nat.le_of_ble_eq_true rfl), (Nat.le_of_ble_eq_true rfl)⟩ (fun r84 u H locs hp hP hD hS => ?_)
      obtain ⟨F85, y86, y87, y88, y89, F90, y91, y92, y93, y94, y95, y96, y97, g98, g99, g100, g101, g102, g103, g104, g105, g106, g107, g108, g109, t110, t111, t112, t113, t114, t115, t116, t117, t118, t119, t120, t121, t122, t123, t124, t125, t126, t127, rfl⟩ := hp
      have hP : va_P D vwCl [(h0, .inr (1, vL 18 F85)), (h_settings, .inl (cI, 5, .inl g98)), (h_manName, .inl (cJ, 12, .inr (.inl g99))), (h_push, .inl (cI, 12, .inl g100)), (h_feet, .inl (cI, 12, .inl g101)), (h_weight, .inl (cI, 12, .inl g102)), (h_length, .inl (cI, 12, .inl g103)), (h_drop, .inl (cI, 12, .inl g104)), (h_ideal, .inl (cI, 12, .inl g105)), (h_over, .inl (cI, 12, .inl g106)), (h_runnerName, .inl (cJ, 6, .inr (.inl g107))), (h_bestAt, .inl (cI, 6, .inl g108)), (h_bad, .inl (cI, 6, .inl g109)), (p0, .inr (6, vL 12 F90)), (h_p0_bytes, .inl (cB, 940, .inl f_p0_bytes)), (h_p0_wordNames, .inl (cJ, 23, .inr (.inl f_p0_wordNames)))] H := hP
      have hD : va_D A [(h0, .inr (1, vL 18 F85)), (h_settings, .inl (cI, 5, .inl g98)), (h_manName, .inl (cJ, 12, .inr (.inl g99))), (h_push, .inl (cI, 12, .inl g100)), (h_feet, .inl (cI, 12, .inl g101)), (h_weight, .inl (cI, 12, .inl g102)), (h_length, .inl (cI, 12, .inl g103)), (h_drop, .inl (cI, 12, .inl g104)), (h_ideal, .inl (cI, 12, .inl g105)), (h_over, .inl (cI, 12, .inl g106)), (h_runnerName, .inl (cJ, 6, .inr (.inl g107))), (h_bestAt, .inl (cI, 6, .inl g108)), (h_bad, .inl (cI, 6, .inl g109)), (p0, .inr (6, vL 12 F90)), (h_p0_bytes, .inl (cB, 940, .inl f_p0_bytes)), (h_p0_wordNames, .inl (cJ, 23, .inr (.inl f_p0_wordNames)))] := hD
      refine W.widen (k := 0) (n := 0) (Nat.le_of_ble_eq_true rfl) (Nat.le_of_ble_eq_true rfl) ?_
      refine lv_if_eq (tgt := 39) hx hb dX1_readFrom_27 (by decide) (fun c128 => ?_) (fun c128 => ?_)
      · have dc128 : r84.toInt = 0 := eq_i (a := r84.toInt) (b := 0) rfl rfl c128
        have k129 : 0 ≤ r84.toInt ∧ r84.toInt ≤ 0 := ⟨t127.1, Int.le_trans (Int.le_of_eq dc128) (Int.le_refl _)⟩
        refine lv_iconst (v := 0) hx hb dX1_readFrom_39 (by decide) ?_
        exact ret_i (v := 0) hx hb hr hlocks hS hP hD dX1_readFrom_40 rfl (Nat.le_of_ble_eq_true rfl) (Nat.le_of_ble_eq_true rfl) ⟨F85, y86, y87, y88, u6, y89, F90, y91, y92, y93, y94, y95, y96, y97, g98, g99, g100, g101, g102, g103, g104, g105, g106, g107, g108, g109, (SAME.tr (SAME.tr (SAME.up eF1 SAME.rf (by decide)) i32 (by decide)) t110 (by decide)), t111, t112, t113, t114, t115, t116, (SAME.at t110 (by decide) i36), (ir_wk k53 (by decide) (by decide)), t117, (SAME.tr (SAME.tr SAME.rf i42 (by decide)) t118 (by decide)), t119, t120, t121, t122, t123, t124, t125, t126, ⟨by decide, by decide⟩, rfl⟩
      · have dc128 : r84.toInt ≠ 0 := ne_i (a := r84.toInt) (b := 0) rfl rfl c128
        have k130 : 1 ≤ r84.toInt ∧ r84.toInt ≤ 1 := ⟨ne_lo dc128 t127.1 ⟨Int.le_refl _, Int.le_refl _⟩ (by decide), t127.2⟩
        refine lv_aload_n hx hb dX1_readFrom_30 rfl (lv_at hl 1 rfl) ?_
        refine lv_bipush (v := 59) hx hb dX1_readFrom_31 (by decide) ?_
        have n131 : F90 0 = .ref h_p0_bytes := (SAME.at t118 (by decide) n80)
        have n132 : F90 1 = .int x_p0_length := (SAME.at t118 (by decide) n81)
        have n133 : F90 9 = .ref h_p0_wordNames := (SAME.at t118 (by decide) n82)
        have n134 : F90 11 = .int x_p0_mostBytes := (SAME.at t118 (by decide) n83)
        refine call_Vi (wr := [(h0, .inr (1, vL 18 F85)), (h_settings, .inl (cI, 5, .inl g98)), (h_manName, .inl (cJ, 12, .inr (.inl g99))), (h_push, .inl (cI, 12, .inl g100)), (h_feet, .inl (cI, 12, .inl g101)), (h_weight, .inl (cI, 12, .inl g102)), (h_length, .inl (cI, 12, .inl g103)), (h_drop, .inl (cI, 12, .inl g104)), (h_ideal, .inl (cI, 12, .inl g105)), (h_over, .inl (cI, 12, .inl g106)), (h_runnerName, .inl (cJ, 6, .inr (.inl g107))), (h_bestAt, .inl (cI, 6, .inl g108)), (h_bad, .inl (cI, 6, .inl g109))]) (As := [.int 59]) (rest := []) hx hb hml hown hw (m_X6_takeSign l D cI cJ cB cP cM cZ p0 h_p0_bytes h_p0_wordNames F90 x_p0_length y91 y92 y93 y94 y95 y96 y97 x_p0_mostBytes f_p0_bytes f_p0_wordNames 59 _ n131 n132 i_x_p0_length t119 t120 t121 t122 t123 t124 n133 t125 t126 n134) wV_X1_107_X6_takeSign dX1_readFrom_33 hK hP hD hS hA [13, 14, 15] [0, 1, 2, 3, 4, 5, 6, 7, 8, 9, 10, 11, 12] rfl rfl (by decide) (by decide) (by decide) 0 6 rfl rfl GG.fb hG.1.at hl.1 rfl (Nat.le_of_ble_eq_true rfl) ⟨(Nat.le_of_ble_eq_true rfl), (Nat.le_of_ble_eq_true rfl)⟩ ⟨(Nat.le_of_ble_eq_true rfl), (Nat.le_of_ble_eq_true rfl)⟩ (fun r135 u H locs hp hP hD hS => ?_)
        obtain ⟨F136, y137, y138, y139, y140, y141, y142, y143, t144, t145, t146, t147, t148, t149, t150, t151, t152, t153, rfl⟩ := hp
        have hP : va_P D vwCl [(h0, .inr (1, vL 18 F85)), (h_settings, .inl (cI, 5, .inl g98)), (h_manName, .inl (cJ, 12, .inr (.inl g99))), (h_push, .inl (cI, 12, .inl g100)), (h_feet, .inl (cI, 12, .inl g101)), (h_weight, .inl (cI, 12, .inl g102)), (h_length, .inl (cI, 12, .inl g103)), (h_drop, .inl (cI, 12, .inl g104)), (h_ideal, .inl (cI, 12, .inl g105)), (h_over, .inl (cI, 12, .inl g106)), (h_runnerName, .inl (cJ, 6, .inr (.inl g107))), (h_bestAt, .inl (cI, 6, .inl g108)), (h_bad, .inl (cI, 6, .inl g109)), (p0, .inr (6, vL 12 F136)), (h_p0_bytes, .inl (cB, 940, .inl f_p0_bytes)), (h_p0_wordNames, .inl (cJ, 23, .inr (.inl f_p0_wordNames)))] H := hP
        have hD : va_D A [(h0, .inr (1, vL 18 F85)), (h_settings, .inl (cI, 5, .inl g98)), (h_manName, .inl (cJ, 12, .inr (.inl g99))), (h_push, .inl (cI, 12, .inl g100)), (h_feet, .inl (cI, 12, .inl g101)), (h_weight, .inl (cI, 12, .inl g102)), (h_length, .inl (cI, 12, .inl g103)), (h_drop, .inl (cI, 12, .inl g104)), (h_ideal, .inl (cI, 12, .inl g105)), (h_over, .inl (cI, 12, .inl g106)), (h_runnerName, .inl (cJ, 6, .inr (.inl g107))), (h_bestAt, .inl (cI, 6, .inl g108)), (h_bad, .inl (cI, 6, .inl g109)), (p0, .inr (6, vL 12 F136)), (h_p0_bytes, .inl (cB, 940, .inl f_p0_bytes)), (h_p0_wordNames, .inl (cJ, 23, .inr (.inl f_p0_wordNames)))] := hD
        refine W.widen (k := 0) (n := 0) (Nat.le_of_ble_eq_true rfl) (Nat.le_of_ble_eq_true rfl) ?_
        refine lv_if_ne (tgt := 41) hx hb dX1_readFrom_36 (by decide) (fun c154 => ?_) (fun c154 => ?_)
        · have dc154 : r135.toInt ≠ 0 := ne_i (a := r135.toInt) (b := 0) rfl rfl c154
          have k155 : 1 ≤ r135.toInt ∧ r135.toInt ≤ 1 := ⟨ne_lo dc154 t153.1 ⟨Int.le_refl _, Int.le_refl _⟩ (by decide), t153.2⟩
          refine lv_aload_n hx hb dX1_readFrom_41 rfl (lv_at hl 0 rfl) ?_
          refine lv_dup hx hb dX1_readFrom_42 rfl ?_
          have n156 : F85 16 = .int u6 := (SAME.at t110 (by decide) i36)
          refine get_f (D := D) (ci := 1) (v := .int u6) (C := RX1) (T := TX1) (N := 18) hx hb hw inAX1 hown hK hP 0 rfl rfl 16 (by decide) (hw _ q_362) (fun _ h9 => h9) n156 dX1_readFrom_43 ?_
          refine lv_iconst (v := 1) hx hb dX1_readFrom_46 (by decide) ?_
          refine lv_iadd hx hb dX1_readFrom_47 ?_
          refine lv_topi (fun v157 ev157 => ?_)
          have bv157 : v157.toInt = u6.toInt + 1 := by rw [ev157]; exact add_k rfl rfl k53 ⟨Int.le_refl _, Int.le_refl _⟩ (by decide)
          have k158 : 1 ≤ v157.toInt ∧ v157.toInt ≤ 900 := add_r bv157 k53 ⟨Int.le_refl _, Int.le_refl _⟩ (by decide)
          refine put_f (D := D) (ci := 1) (v := .int v157) (ty := .int) (C := RX1) (T := TX1) (N := 18) hx hb hw inAX1 tyX1 tyX1_ok nmX1 hown hK hP hD hS 0 rfl rfl 16 (by decide) (hw _ q_362) (fun _ h9 => h9) rfl (by decide +kernel) rfl rfl dX1_readFrom_48 (fun H locs F159 eF159 hP hD hS => ?_)
          have hP : va_P D vwCl [(h0, .inr (1, vL 18 F159)), (h_settings, .inl (cI, 5, .inl g98)), (h_manName, .inl (cJ, 12, .inr (.inl g99))), (h_push, .inl (cI, 12, .inl g100)), (h_feet, .inl (cI, 12, .inl g101)), (h_weight, .inl (cI, 12, .inl g102)), (h_length, .inl (cI, 12, .inl g103)), (h_drop, .inl (cI, 12, .inl g104)), (h_ideal, .inl (cI, 12, .inl g105)), (h_over, .inl (cI, 12, .inl g106)), (h_runnerName, .inl (cJ, 6, .inr (.inl g107))), (h_bestAt, .inl (cI, 6, .inl g108)), (h_bad, .inl (cI, 6, .inl g109)), (p0, .inr (6, vL 12 F136)), (h_p0_bytes, .inl (cB, 940, .inl f_p0_bytes)), (h_p0_wordNames, .inl (cJ, 23, .inr (.inl f_p0_wordNames)))] H := hP
          have hD : va_D A [(h0, .inr (1, vL 18 F159)), (h_settings, .inl (cI, 5, .inl g98)), (h_manName, .inl (cJ, 12, .inr (.inl g99))), (h_push, .inl (cI, 12, .inl g100)), (h_feet, .inl (cI, 12, .inl g101)), (h_weight, .inl (cI, 12, .inl g102)), (h_length, .inl (cI, 12, .inl g103)), (h_drop, .inl (cI, 12, .inl g104)), (h_ideal, .inl (cI, 12, .inl g105)), (h_over, .inl (cI, 12, .inl g106)), (h_runnerName, .inl (cJ, 6, .inr (.inl g107))), (h_bestAt, .inl (cI, 6, .inl g108)), (h_bad, .inl (cI, 6, .inl g109)), (p0, .inr (6, vL 12 F136)), (h_p0_bytes, .inl (cB, 940, .inl f_p0_bytes)), (h_p0_wordNames, .inl (cJ, 23, .inr (.inl f_p0_wordNames)))] := hD
          refine lv_goto (tgt := 5) hx hb dX1_readFrom_51 (by decide) ?_
          have n160 : F159 13 = .int y86 := (get_ne eF159 (by decide) t111)
          have n161 : F159 14 = .int y87 := (get_ne eF159 (by decide) t113)
          have n162 : F159 15 = .int y88 := (get_ne eF159 (by decide) t115)
          have n163 : F159 17 = .int y89 := (get_ne eF159 (by decide) t117)
          exact ih (F159, y86, y87, y88, v157, y89, g98, g99, g100, g101, g102, g103, g104, g105, g106, g107, g108, g109, F136, y137, y138, y139, y140, y141, y142, y143) ⟨(SAME.up eF159 (SAME.tr (SAME.tr SAME.rf i32 (by decide)) t110 (by decide)) (by decide)), n160, n161, n162, (get_eq eF159), n163, t112, t114, t116, (ir_wk k158 (by decide) (by decide)), (SAME.tr (SAME.tr (SAME.tr SAME.rf i42 (by decide)) t118 (by decide)) t144 (by decide)), t145, t146, t147, t148, t149, t150, t151, t152⟩ (by show (900 - v157.toInt).toNat < (900 - u6.toInt).toNat; omega) _ _ _ hP hD hS (lv_sub hl [0, 1] rfl)
        · have dc154 : r135.toInt = 0 := eq_i (a := r135.toInt) (b := 0) rfl rfl c154
          have k164 : 0 ≤ r135.toInt ∧ r135.toInt ≤ 0 := ⟨t153.1, Int.le_trans (Int.le_of_eq dc154) (Int.le_refl _)⟩
          refine lv_iconst (v := 0) hx hb dX1_readFrom_39 (by decide) ?_
          exact ret_i (v := 0) hx hb hr hlocks hS hP hD dX1_readFrom_40 rfl (Nat.le_of_ble_eq_true rfl) (Nat.le_of_ble_eq_true rfl) ⟨F85, y86, y87, y88, u6, y89, F136, y137, y138, y139, y140, y141, y142, y143, g98, g99, g100, g101, g102, g103, g104, g105, g106, g107, g108, g109, (SAME.tr (SAME.tr (SAME.up eF1 SAME.rf (by decide)) i32 (by decide)) t110 (by decide)), t111, t112, t113, t114, t115, t116, (SAME.at t110 (by decide) i36), (ir_wk k53 (by decide) (by decide)), t117, (SAME.tr (SAME.tr (SAME.tr SAME.rf i42 (by decide)) t118 (by decide)) t144 (by decide)), t145, t146, t147, t148, t149, t150, t151, t152, ⟨by decide, by decide⟩, rfl⟩
set_option maxHeartbeats 4000000 in
set_option maxRecDepth 100000 in
theorem m_X3_prepare (l : Launch) (D : va_G) (cI cJ cB cP cM cZ : ClassId) (h0 : Nat) (h_push : Nat) (h_reach : Nat) (h_drag : Nat) (p0 : Nat) (h_p0_push : Nat) (h_p0_feet : Nat) (h_p0_weight : Nat) (p1 : Nat) (h_p1_crew : Nat) (Fh : Nat → Value) (f_push : Nat → Int32) (f_reach : Nat → Int32) (f_drag : Nat → Int32) (F_p0_ : Nat → Value) (f_p0_push : Nat → Int32) (f_p0_feet : Nat → Int32) (f_p0_weight : Nat → Int32) (F_p1_ : Nat → Value) (f_p1_crew : Nat → Int32) (sz : Nat) (e_push : Fh 1 = .ref h_push) (e_reach : Fh 2 = .ref h_reach) (e_drag : Fh 3 = .ref h_drag) (e_p0_push : F_p0_ 3 = .ref h_p0_push) (e_p0_feet : F_p0_ 4 = .ref h_p0_feet) (e_p0_weight : F_p0_ 5 = .ref h_p0_weight) (e_p1_crew : F_p1_ 0 = .ref h_p1_crew) (s_p1_crew_0 : SG 0 3 0 11 f_p1_crew) : CI l yX3_prepare cX3_prepare 6 (some .int) { frames := 0, cells := 0, slots := 0, locals := 0 } (GG D cI cJ cB cP cM cZ) D [(h0, .inr (3, vL 10 Fh)), (h_push, .inl (cI, 4, .inl f_push)), (h_reach, .inl (cI, 4, .inl f_reach)), (h_drag, .inl (cI, 16, .inl f_drag)), (p0, .inr (1, vL 18 F_p0_)), (h_p0_push, .inl (cI, 12, .inl f_p0_push)), (h_p0_feet, .inl (cI, 12, .inl f_p0_feet)), (h_p0_weight, .inl (cI, 12, .inl f_p0_weight)), (p1, .inr (5, vL 11 F_p1_)), (h_p1_crew, .inl (cI, 4, .inl f_p1_crew))] sz [.ref h0, .ref p0, .ref p1] (fun (r : Int32) (u : va_W) => ∃ (g_push : Nat → Int32) (g_reach : Nat → Int32) (g_drag : Nat → Int32), u = [(h0, .inr (3, vL 10 Fh)), (h_push, .inl (cI, 4, .inl g_push)), (h_reach, .inl (cI, 4, .inl g_reach)), (h_drag, .inl (cI, 16, .inl g_drag)), (p0, .inr (1, vL 18 F_p0_)), (h_p0_push, .inl (cI, 12, .inl f_p0_push)), (h_p0_feet, .inl (cI, 12, .inl f_p0_feet)), (h_p0_weight, .inl (cI, 12, .inl f_p0_weight)), (p1, .inr (5, vL 11 F_p1_)), (h_p1_crew, .inl (cI, 4, .inl f_p1_crew))]) := by
  refine CI_mk (by decide) (Nat.le_of_ble_eq_true rfl) ?_
  intro p e s m below meth c A ls E hAe hG hsz hP hD hA hS hl
  obtain ⟨hx, hb, hr, hw, hown, hlocks, hml, hnm⟩ := E
  have hK := hG.1
  have hl : lv_has ls 6 [(0, .ref h0), (1, .ref p0), (2, .ref p1)] := hl
  refine lv_iconst (v := 0) hx hb dX3_prepare_0 (by decide) ?_
  refine lv_istore_n (lv' := [(3, .int 0), (0, .ref h0), (1, .ref p0), (2, .ref p1)]) hx hb dX3_prepare_1 rfl hl (by decide) rfl (fun ls hl => ?_)
  refine mloop (α := (Int32) × (Nat → Int32) × (Nat → Int32)) (nL := 6) (D := D) (A := A) (H0 := s.heap) (fun a => (4 - a.1.toInt).toNat) (fun a => IR 0 4 a.1) (fun a => [(h0, .inr (3, vL 10 Fh)), (h_push, .inl (cI, 4, .inl a.2.1)), (h_reach, .inl (cI, 4, .inl a.2.2)), (h_drag, .inl (cI, 16, .inl f_drag)), (p0, .inr (1, vL 18 F_p0_)), (h_p0_push, .inl (cI, 12, .inl f_p0_push)), (h_p0_feet, .inl (cI, 12, .inl f_p0_feet)), (h_p0_weight, .inl (cI, 12, .inl f_p0_weight)), (p1, .inr (5, vL 11 F_p1_)), (h_p1_crew, .inl (cI, 4, .inl f_p1_crew))]) (fun a => [(3, .int a.1), (0, .ref h0), (1, .ref p0), (2, .ref p1)]) (fun H locs ls => W p l e ({ frames := 0, cells := 0, slots := 0, locals := 0 } : Room) s m [.ref h0, .ref p0, .ref p1].toArray below meth c H locs 0 0 (MQ below (va_Qi (fun (r : Int32) (u : va_W) => ∃ (g_push : Nat → Int32) (g_reach : Nat → Int32) (g_drag : Nat → Int32), u = [(h0, .inr (3, vL 10 Fh)), (h_push, .inl (cI, 4, .inl g_push)), (h_reach, .inl (cI, 4, .inl g_reach)), (h_drag, .inl (cI, 16, .inl g_drag)), (p0, .inr (1, vL 18 F_p0_)), (h_p0_push, .inl (cI, 12, .inl f_p0_push)), (h_p0_feet, .inl (cI, 12, .inl f_p0_feet)), (h_p0_weight, .inl (cI, 12, .inl f_p0_weight)), (p1, .inr (5, vL 11 F_p1_)), (h_p1_crew, .inl (cI, 4, .inl f_p1_crew))]) (PO D A) A) [.ref h0, .ref p0, .ref p1].toArray s 0 0 A) (F0 m 2 ls [])) ?_ (0, f_push, f_reach) ⟨by decide, by decide⟩ _ _ _ hP hD hS hl
  rintro ⟨u1, w2, w3⟩ i4 ih H locs ls hP hD hS hl
  have i4 : 0 ≤ u1.toInt ∧ u1.toInt ≤ 4 := i4
  have hP : va_P D vwCl [(h0, .inr (3, vL 10 Fh)), (h_push, .inl (cI, 4, .inl w2)), (h_reach, .inl (cI, 4, .inl w3)), (h_drag, .inl (cI, 16, .inl f_drag)), (p0, .inr (1, vL 18 F_p0_)), (h_p0_push, .inl (cI, 12, .inl f_p0_push)), (h_p0_feet, .inl (cI, 12, .inl f_p0_feet)), (h_p0_weight, .inl (cI, 12, .inl f_p0_weight)), (p1, .inr (5, vL 11 F_p1_)), (h_p1_crew, .inl (cI, 4, .inl f_p1_crew))] H := hP
  have hD : va_D A [(h0, .inr (3, vL 10 Fh)), (h_push, .inl (cI, 4, .inl w2)), (h_reach, .inl (cI, 4, .inl w3)), (h_drag, .inl (cI, 16, .inl f_drag)), (p0, .inr (1, vL 18 F_p0_)), (h_p0_push, .inl (cI, 12, .inl f_p0_push)), (h_p0_feet, .inl (cI, 12, .inl f_p0_feet)), (h_p0_weight, .inl (cI, 12, .inl f_p0_weight)), (p1, .inr (5, vL 11 F_p1_)), (h_p1_crew, .inl (cI, 4, .inl f_p1_crew))] := hD
  have hl : lv_has ls 6 [(3, .int u1), (0, .ref h0), (1, .ref p0), (2, .ref p1)] := hl
  refine lv_iload_n hx hb dX3_prepare_2 rfl (lv_at hl 0 rfl) ?_
  refine lv_iconst (v := 4) hx hb dX3_prepare_3 (by decide) ?_
  refine lv_icmp_ge (tgt := 50) hx hb dX3_prepare_4 (by decide) (fun c5 => ?_) (fun c5 => ?_)
  · have dc5 : 4 ≤ u1.toInt := le_i (a := 4) (b := u1.toInt) rfl rfl c5
    have k6 : 4 ≤ u1.toInt ∧ u1.toInt ≤ 4 := ⟨Int.le_trans (Int.le_refl _) dc5, i4.2⟩
    refine lv_iconst (v := 0) hx hb dX3_prepare_50 (by decide) ?_
    refine lv_istore_n (lv' := [(3, .int 0), (0, .ref h0), (1, .ref p0), (2, .ref p1)]) hx hb dX3_prepare_51 rfl hl (by decide) rfl (fun ls hl => ?_)
    refine lv_iconst (v := 0) hx hb dX3_prepare_52 (by decide) ?_
    refine lv_istore (lv' := [(4, .int 0), (3, .int 0), (0, .ref h0), (1, .ref p0), (2, .ref p1)]) hx hb dX3_prepare_53 hl (by decide) rfl (fun ls hl => ?_)
    refine mloop (α := (Int32) × (Int32) × (Nat → Int32)) (nL := 6) (D := D) (A := A) (H0 := s.heap) (fun a => (16 - a.1.toInt).toNat) (fun a => IR 0 16 a.1) (fun a => [(h0, .inr (3, vL 10 Fh)), (h_push, .inl (cI, 4, .inl w2)), (h_reach, .inl (cI, 4, .inl w3)), (h_drag, .inl (cI, 16, .inl a.2.2)), (p0, .inr (1, vL 18 F_p0_)), (h_p0_push, .inl (cI, 12, .inl f_p0_push)), (h_p0_feet, .inl (cI, 12, .inl f_p0_feet)), (h_p0_weight, .inl (cI, 12, .inl f_p0_weight)), (p1, .inr (5, vL 11 F_p1_)), (h_p1_crew, .inl (cI, 4, .inl f_p1_crew))]) (fun a => [(4, .int a.1), (3, .int a.2.1), (0, .ref h0), (1, .ref p0), (2, .ref p1)]) (fun H locs ls => W p l e ({ frames := 0, cells := 0, slots := 0, locals := 0 } : Room) s m [.ref h0, .ref p0, .ref p1].toArray below meth c H locs 0 0 (MQ below (va_Qi (fun (r : Int32) (u : va_W) => ∃ (g_push : Nat → Int32) (g_reach : Nat → Int32) (g_drag : Nat → Int32), u = [(h0, .inr (3, vL 10 Fh)), (h_push, .inl (cI, 4, .inl g_push)), (h_reach, .inl (cI, 4, .inl g_reach)), (h_drag, .inl (cI, 16, .inl g_drag)), (p0, .inr (1, vL 18 F_p0_)), (h_p0_push, .inl (cI, 12, .inl f_p0_push)), (h_p0_feet, .inl (cI, 12, .inl f_p0_feet)), (h_p0_weight, .inl (cI, 12, .inl f_p0_weight)), (p1, .inr (5, vL 11 F_p1_)), (h_p1_crew, .inl (cI, 4, .inl f_p1_crew))]) (PO D A) A) [.ref h0, .ref p0, .ref p1].toArray s 0 0 A) (F0 m 55 ls [])) ?_ (0, 0, f_drag) ⟨by decide, by decide⟩ _ _ _ hP hD hS hl
    rintro ⟨u7, u8, w9⟩ i10 ih H locs ls hP hD hS hl
    have i10 : 0 ≤ u7.toInt ∧ u7.toInt ≤ 16 := i10
    have hP : va_P D vwCl [(h0, .inr (3, vL 10 Fh)), (h_push, .inl (cI, 4, .inl w2)), (h_reach, .inl (cI, 4, .inl w3)), (h_drag, .inl (cI, 16, .inl w9)), (p0, .inr (1, vL 18 F_p0_)), (h_p0_push, .inl (cI, 12, .inl f_p0_push)), (h_p0_feet, .inl (cI, 12, .inl f_p0_feet)), (h_p0_weight, .inl (cI, 12, .inl f_p0_weight)), (p1, .inr (5, vL 11 F_p1_)), (h_p1_crew, .inl (cI, 4, .inl f_p1_crew))] H := hP
    have hD : va_D A [(h0, .inr (3, vL 10 Fh)), (h_push, .inl (cI, 4, .inl w2)), (h_reach, .inl (cI, 4, .inl w3)), (h_drag, .inl (cI, 16, .inl w9)), (p0, .inr (1, vL 18 F_p0_)), (h_p0_push, .inl (cI, 12, .inl f_p0_push)), (h_p0_feet, .inl (cI, 12, .inl f_p0_feet)), (h_p0_weight, .inl (cI, 12, .inl f_p0_weight)), (p1, .inr (5, vL 11 F_p1_)), (h_p1_crew, .inl (cI, 4, .inl f_p1_crew))] := hD
    have hl : lv_has ls 6 [(4, .int u7), (3, .int u8), (0, .ref h0), (1, .ref p0), (2, .ref p1)] := hl
    refine lv_iload hx hb dX3_prepare_55 (lv_at hl 0 rfl) ?_
    refine lv_bipush (v := 15) hx hb dX3_prepare_57 (by decide) ?_
    refine lv_icmp_gt (tgt := 121) hx hb dX3_prepare_59 (by decide) (fun c11 => ?_) (fun c11 => ?_)
    · have dc11 : 15 < u7.toInt := lt_i (a := 15) (b := u7.toInt) rfl rfl c11
      have k12 : 16 ≤ u7.toInt ∧ u7.toInt ≤ 16 := ⟨lo_lt dc11 (Int.le_refl _) (by decide), i10.2⟩
      refine lv_iload_n hx hb dX3_prepare_121 rfl (lv_at hl 1 rfl) ?_
      exact ret_i (v := u8) hx hb hr hlocks hS hP hD dX3_prepare_122 rfl (Nat.le_of_ble_eq_true rfl) (Nat.le_of_ble_eq_true rfl) ⟨w2, w3, w9, rfl⟩
    · have dc11 : u7.toInt ≤ 15 := nlt_i (a := 15) (b := u7.toInt) rfl rfl c11
      have k13 : 0 ≤ u7.toInt ∧ u7.toInt ≤ 15 := ⟨i10.1, Int.le_trans dc11 (Int.le_refl _)⟩
      refine lv_iconst (v := 0) hx hb dX3_prepare_62 (by decide) ?_
      refine lv_istore_n (lv' := [(3, .int 0), (4, .int u7), (0, .ref h0), (1, .ref p0), (2, .ref p1)]) hx hb dX3_prepare_63 rfl hl (by decide) rfl (fun ls hl => ?_)
      refine lv_iconst (v := 0) hx hb dX3_prepare_64 (by decide) ?_
      refine lv_istore (lv' := [(5, .int 0), (3, .int 0), (4, .int u7), (0, .ref h0), (1, .ref p0), (2, .ref p1)]) hx hb dX3_prepare_65 hl (by decide) rfl (fun ls hl => ?_)
      refine mloop (α := (Int32) × (Int32)) (nL := 6) (D := D) (A := A) (H0 := s.heap) (fun a => (4 - a.1.toInt).toNat) (fun a => IR 0 4 a.1) (fun a => [(h0, .inr (3, vL 10 Fh)), (h_push, .inl (cI, 4, .inl w2)), (h_reach, .inl (cI, 4, .inl w3)), (h_drag, .inl (cI, 16, .inl w9)), (p0, .inr (1, vL 18 F_p0_)), (h_p0_push, .inl (cI, 12, .inl f_p0_push)), (h_p0_feet, .inl (cI, 12, .inl f_p0_feet)), (h_p0_weight, .inl (cI, 12, .inl f_p0_weight)), (p1, .inr (5, vL 11 F_p1_)), (h_p1_crew, .inl (cI, 4, .inl f_p1_crew))]) (fun a => [(5, .int a.1), (3, .int a.2), (4, .int u7), (0, .ref h0), (1, .ref p0), (2, .ref p1)]) (fun H locs ls => W p l e ({ frames := 0, cells := 0, slots := 0, locals := 0 } : Room) s m [.ref h0, .ref p0, .ref p1].toArray below meth c H locs 0 0 (MQ below (va_Qi (fun (r : Int32) (u : va_W) => ∃ (g_push : Nat → Int32) (g_reach : Nat → Int32) (g_drag : Nat → Int32), u = [(h0, .inr (3, vL 10 Fh)), (h_push, .inl (cI, 4, .inl g_push)), (h_reach, .inl (cI, 4, .inl g_reach)), (h_drag, .inl (cI, 16, .inl g_drag)), (p0, .inr (1, vL 18 F_p0_)), (h_p0_push, .inl (cI, 12, .inl f_p0_push)), (h_p0_feet, .inl (cI, 12, .inl f_p0_feet)), (h_p0_weight, .inl (cI, 12, .inl f_p0_weight)), (p1, .inr (5, vL 11 F_p1_)), (h_p1_crew, .inl (cI, 4, .inl f_p1_crew))]) (PO D A) A) [.ref h0, .ref p0, .ref p1].toArray s 0 0 A) (F0 m 67 ls [])) ?_ (0, 0) ⟨by decide, by decide⟩ _ _ _ hP hD hS hl
      rintro ⟨u14, u15⟩ i16 ih H locs ls hP hD hS hl
      have i16 : 0 ≤ u14.toInt ∧ u14.toInt ≤ 4 := i16
      have hP : va_P D vwCl [(h0, .inr (3, vL 10 Fh)), (h_push, .inl (cI, 4, .inl w2)), (h_reach, .inl (cI, 4, .inl w3)), (h_drag, .inl (cI, 16, .inl w9)), (p0, .inr (1, vL 18 F_p0_)), (h_p0_push, .inl (cI, 12, .inl f_p0_push)), (h_p0_feet, .inl (cI, 12, .inl f_p0_feet)), (h_p0_weight, .inl (cI, 12, .inl f_p0_weight)), (p1, .inr (5, vL 11 F_p1_)), (h_p1_crew, .inl (cI, 4, .inl f_p1_crew))] H := hP
      have hD : va_D A [(h0, .inr (3, vL 10 Fh)), (h_push, .inl (cI, 4, .inl w2)), (h_reach, .inl (cI, 4, .inl w3)), (h_drag, .inl (cI, 16, .inl w9)), (p0, .inr (1, vL 18 F_p0_)), (h_p0_push, .inl (cI, 12, .inl f_p0_push)), (h_p0_feet, .inl (cI, 12, .inl f_p0_feet)), (h_p0_weight, .inl (cI, 12, .inl f_p0_weight)), (p1, .inr (5, vL 11 F_p1_)), (h_p1_crew, .inl (cI, 4, .inl f_p1_crew))] := hD
      have hl : lv_has ls 6 [(5, .int u14), (3, .int u15), (4, .int u7), (0, .ref h0), (1, .ref p0), (2, .ref p1)] := hl
      refine lv_iload hx hb dX3_prepare_67 (lv_at hl 0 rfl) ?_
      refine lv_iconst (v := 4) hx hb dX3_prepare_69 (by decide) ?_
      refine lv_icmp_ge (tgt := 102) hx hb dX3_prepare_70 (by decide) (fun c17 => ?_) (fun c17 => ?_)
      · have dc17 : 4 ≤ u14.toInt := le_i (a := 4) (b := u14.toInt) rfl rfl c17
        have k18 : 4 ≤ u14.toInt ∧ u14.toInt ≤ 4 := ⟨Int.le_trans (Int.le_refl _) dc17, i16.2⟩
        refine lv_aload_n hx hb dX3_prepare_102 rfl (lv_at hl 3 rfl) ?_
        refine get_f (D := D) (ci := 3) (v := .ref h_drag) (C := RX3) (T := TX3) (N := 10) hx hb hw inAX3 hown hK hP 0 rfl rfl 3 (by decide) (hw _ q_912) (fun _ h9 => h9) e_drag dX3_prepare_103 ?_
        refine lv_iload hx hb dX3_prepare_106 (lv_at hl 2 rfl) ?_
        refine lv_iconst (v := 4) hx hb dX3_prepare_108 (by decide) ?_
        refine lv_iload_n hx hb dX3_prepare_109 rfl (lv_at hl 1 rfl) ?_
        refine lv_bipush (v := 100) hx hb dX3_prepare_110 (by decide) ?_
        refine lv_idiv hx hb dX3_prepare_112 (by decide) ?_
        refine lv_topi (fun v19 ev19 => ?_)
        refine lv_iadd hx hb dX3_prepare_113 ?_
        refine lv_topi (fun v20 ev20 => ?_)
        obtain ⟨g21, eg21⟩ : ∃ z : Nat → Int32, upd w9 u7.toNatClampNeg v20 = z := ⟨_, rfl⟩
        refine iast_g hx hb hK hP hD hS 3 0 rfl rfl (ix_k k13 (by decide) (by decide)) eg21 dX3_prepare_114 (fun H locs hP hD hS => ?_)
        have hP : va_P D vwCl [(h0, .inr (3, vL 10 Fh)), (h_push, .inl (cI, 4, .inl w2)), (h_reach, .inl (cI, 4, .inl w3)), (h_drag, .inl (cI, 16, .inl g21)), (p0, .inr (1, vL 18 F_p0_)), (h_p0_push, .inl (cI, 12, .inl f_p0_push)), (h_p0_feet, .inl (cI, 12, .inl f_p0_feet)), (h_p0_weight, .inl (cI, 12, .inl f_p0_weight)), (p1, .inr (5, vL 11 F_p1_)), (h_p1_crew, .inl (cI, 4, .inl f_p1_crew))] H := hP
        have hD : va_D A [(h0, .inr (3, vL 10 Fh)), (h_push, .inl (cI, 4, .inl w2)), (h_reach, .inl (cI, 4, .inl w3)), (h_drag, .inl (cI, 16, .inl g21)), (p0, .inr (1, vL 18 F_p0_)), (h_p0_push, .inl (cI, 12, .inl f_p0_push)), (h_p0_feet, .inl (cI, 12, .inl f_p0_feet)), (h_p0_weight, .inl (cI, 12, .inl f_p0_weight)), (p1, .inr (5, vL 11 F_p1_)), (h_p1_crew, .inl (cI, 4, .inl f_p1_crew))] := hD
        obtain ⟨v22, ev22⟩ : ∃ z : Int32, z = u7 + 1 := ⟨_, rfl⟩
        have bv22 : v22.toInt = u7.toInt + 1 := by rw [ev22]; exact add_k rfl rfl k13 ⟨Int.le_refl _, Int.le_refl _⟩ (by decide)
        have k23 : 1 ≤ v22.toInt ∧ v22.toInt ≤ 16 := add_r bv22 k13 ⟨Int.le_refl _, Int.le_refl _⟩ (by decide)
        refine lv_iinc (v := v22) (lv' := [(4, .int v22), (5, .int u14), (3, .int u15), (0, .ref h0), (1, .ref p0), (2, .ref p1)]) hx hb dX3_prepare_115 hl (k := 2) rfl (by rw [ev22]; rfl) (by decide) rfl (fun ls hl => ?_)
        refine lv_goto (tgt := 55) hx hb dX3_prepare_118 (by decide) ?_
        exact ih (v22, u15, g21) (ir_wk k23 (by decide) (by decide)) (by show (16 - v22.toInt).toNat < (16 - u7.toInt).toNat; omega) _ _ _ hP hD hS (lv_sub hl [0, 2, 3, 4, 5] rfl)
      · have dc17 : u14.toInt < 4 := nle_i (a := 4) (b := u14.toInt) rfl rfl c17
        have k24 : 0 ≤ u14.toInt ∧ u14.toInt ≤ 3 := ⟨i16.1, up_lt dc17 (Int.le_refl _) (by decide)⟩
        refine lv_iload_n hx hb dX3_prepare_73 rfl (lv_at hl 1 rfl) ?_
        refine lv_iload hx hb dX3_prepare_74 (lv_at hl 2 rfl) ?_
        refine lv_iload hx hb dX3_prepare_76 (lv_at hl 0 rfl) ?_
        refine lv_ishr hx hb dX3_prepare_78 ?_
        refine lv_topi (fun v25 ev25 => ?_)
        refine lv_iconst (v := 1) hx hb dX3_prepare_79 (by decide) ?_
        refine lv_iand hx hb dX3_prepare_80 ?_
        refine lv_topi (fun v26 ev26 => ?_)
        have k27 : 0 ≤ v26.toInt ∧ v26.toInt ≤ 1 := by rw [ev26]; exact and_i v25 1 (by decide)
        refine lv_aload_n hx hb dX3_prepare_81 rfl (lv_at hl 4 rfl) ?_
        refine get_f (D := D) (ci := 1) (v := .ref h_p0_weight) (C := RX1) (T := TX1) (N := 18) hx hb hw inAX1 hown hK hP 4 rfl rfl 5 (by decide) (hw _ q_332) (fun _ h9 => h9) e_p0_weight dX3_prepare_82 ?_
        refine lv_aload_n hx hb dX3_prepare_85 rfl (lv_at hl 5 rfl) ?_
        refine get_f (D := D) (ci := 5) (v := .ref h_p1_crew) (C := RX5) (T := TX5) (N := 11) hx hb hw inAX5 hown hK hP 8 rfl rfl 0 (by decide) (hw _ q_147) (fun _ h9 => h9) e_p1_crew dX3_prepare_86 ?_
        refine lv_iload hx hb dX3_prepare_89 (lv_at hl 0 rfl) ?_
        refine va_iald hx hb hK hP 9 0 rfl rfl (ix_k k24 (by decide) (by decide)) dX3_prepare_91 ?_
        refine lv_topi (fun v28 ev28 => ?_)
        have k29 : 0 ≤ v28.toInt ∧ v28.toInt ≤ 11 := by rw [ev28]; exact s_p1_crew_0.at _ (Int.le_trans (by decide) k24.1) (Int.le_trans k24.2 (by decide))
        refine va_iald hx hb hK hP 7 0 rfl rfl (ix_k k29 (by decide) (by decide)) dX3_prepare_92 ?_
        refine lv_topi (fun v30 ev30 => ?_)
        refine lv_imul hx hb dX3_prepare_93 ?_
        refine lv_topi (fun v31 ev31 => ?_)
        refine lv_iadd hx hb dX3_prepare_94 ?_
        refine lv_topi (fun v32 ev32 => ?_)
        refine lv_istore_n (lv' := [(3, .int v32), (5, .int u14), (4, .int u7), (0, .ref h0), (1, .ref p0), (2, .ref p1)]) hx hb dX3_prepare_95 rfl hl (by decide) rfl (fun ls hl => ?_)
        obtain ⟨v33, ev33⟩ : ∃ z : Int32, z = u14 + 1 := ⟨_, rfl⟩
        have bv33 : v33.toInt = u14.toInt + 1 := by rw [ev33]; exact add_k rfl rfl k24 ⟨Int.le_refl _, Int.le_refl _⟩ (by decide)
        have k34 : 1 ≤ v33.toInt ∧ v33.toInt ≤ 4 := add_r bv33 k24 ⟨Int.le_refl _, Int.le_refl _⟩ (by decide)
        refine lv_iinc (v := v33) (lv' := [(5, .int v33), (3, .int v32), (4, .int u7), (0, .ref h0), (1, .ref p0), (2, .ref p1)]) hx hb dX3_prepare_96 hl (k := 1) rfl (by rw [ev33]; rfl) (by decide) rfl (fun ls hl => ?_)
        refine lv_goto (tgt := 67) hx hb dX3_prepare_99 (by decide) ?_
        exact ih (v33, v32) (ir_wk k34 (by decide) (by decide)) (by show (4 - v33.toInt).toNat < (4 - u14.toInt).toNat; omega) _ _ _ hP hD hS (lv_sub hl [0, 1, 2, 3, 4, 5] rfl)
  · have dc5 : u1.toInt < 4 := nle_i (a := 4) (b := u1.toInt) rfl rfl c5
    have k35 : 0 ≤ u1.toInt ∧ u1.toInt ≤ 3 := ⟨i4.1, up_lt dc5 (Int.le_refl _) (by decide)⟩
    refine lv_aload_n hx hb dX3_prepare_7 rfl (lv_at hl 1 rfl) ?_
    refine get_f (D := D) (ci := 3) (v := .ref h_push) (C := RX3) (T := TX3) (N := 10) hx hb hw inAX3 hown hK hP 0 rfl rfl 1 (by decide) (hw _ q_910) (fun _ h9 => h9) e_push dX3_prepare_8 ?_
    refine lv_iload_n hx hb dX3_prepare_11 rfl (lv_at hl 0 rfl) ?_
    refine lv_aload_n hx hb dX3_prepare_12 rfl (lv_at hl 2 rfl) ?_
    refine get_f (D := D) (ci := 1) (v := .ref h_p0_push) (C := RX1) (T := TX1) (N := 18) hx hb hw inAX1 hown hK hP 4 rfl rfl 3 (by decide) (hw _ q_322) (fun _ h9 => h9) e_p0_push dX3_prepare_13 ?_
    refine lv_aload_n hx hb dX3_prepare_16 rfl (lv_at hl 3 rfl) ?_
    refine get_f (D := D) (ci := 5) (v := .ref h_p1_crew) (C := RX5) (T := TX5) (N := 11) hx hb hw inAX5 hown hK hP 8 rfl rfl 0 (by decide) (hw _ q_147) (fun _ h9 => h9) e_p1_crew dX3_prepare_17 ?_
    refine lv_iload_n hx hb dX3_prepare_20 rfl (lv_at hl 0 rfl) ?_
    refine va_iald hx hb hK hP 9 0 rfl rfl (ix_k k35 (by decide) (by decide)) dX3_prepare_21 ?_
    refine lv_topi (fun v36 ev36 => ?_)
    have k37 : 0 ≤ v36.toInt ∧ v36.toInt ≤ 11 := by rw [ev36]; exact s_p1_crew_0.at _ (Int.le_trans (by decide) k35.1) (Int.le_trans k35.2 (by decide))
    refine va_iald hx hb hK hP 5 0 rfl rfl (ix_k k37 (by decide) (by decide)) dX3_prepare_22 ?_
    refine lv_topi (fun v38 ev38 => ?_)
    obtain ⟨g39, eg39⟩ : ∃ z : Nat → Int32, upd w2 u1.toNatClampNeg v38 = z := ⟨_, rfl⟩
    refine iast_g hx hb hK hP hD hS 1 0 rfl rfl (ix_k k35 (by decide) (by decide)) eg39 dX3_prepare_23 (fun H locs hP hD hS => ?_)
    have hP : va_P D vwCl [(h0, .inr (3, vL 10 Fh)), (h_push, .inl (cI, 4, .inl g39)), (h_reach, .inl (cI, 4, .inl w3)), (h_drag, .inl (cI, 16, .inl f_drag)), (p0, .inr (1, vL 18 F_p0_)), (h_p0_push, .inl (cI, 12, .inl f_p0_push)), (h_p0_feet, .inl (cI, 12, .inl f_p0_feet)), (h_p0_weight, .inl (cI, 12, .inl f_p0_weight)), (p1, .inr (5, vL 11 F_p1_)), (h_p1_crew, .inl (cI, 4, .inl f_p1_crew))] H := hP
    have hD : va_D A [(h0, .inr (3, vL 10 Fh)), (h_push, .inl (cI, 4, .inl g39)), (h_reach, .inl (cI, 4, .inl w3)), (h_drag, .inl (cI, 16, .inl f_drag)), (p0, .inr (1, vL 18 F_p0_)), (h_p0_push, .inl (cI, 12, .inl f_p0_push)), (h_p0_feet, .inl (cI, 12, .inl f_p0_feet)), (h_p0_weight, .inl (cI, 12, .inl f_p0_weight)), (p1, .inr (5, vL 11 F_p1_)), (h_p1_crew, .inl (cI, 4, .inl f_p1_crew))] := hD
    refine lv_aload_n hx hb dX3_prepare_24 rfl (lv_at hl 1 rfl) ?_
    refine get_f (D := D) (ci := 3) (v := .ref h_reach) (C := RX3) (T := TX3) (N := 10) hx hb hw inAX3 hown hK hP 0 rfl rfl 2 (by decide) (hw _ q_911) (fun _ h9 => h9) e_reach dX3_prepare_25 ?_
    refine lv_iload_n hx hb dX3_prepare_28 rfl (lv_at hl 0 rfl) ?_
    refine lv_bipush (v := 12) hx hb dX3_prepare_29 (by decide) ?_
    refine lv_aload_n hx hb dX3_prepare_31 rfl (lv_at hl 2 rfl) ?_
    refine get_f (D := D) (ci := 1) (v := .ref h_p0_feet) (C := RX1) (T := TX1) (N := 18) hx hb hw inAX1 hown hK hP 4 rfl rfl 4 (by decide) (hw _ q_327) (fun _ h9 => h9) e_p0_feet dX3_prepare_32 ?_
    refine lv_aload_n hx hb dX3_prepare_35 rfl (lv_at hl 3 rfl) ?_
    refine get_f (D := D) (ci := 5) (v := .ref h_p1_crew) (C := RX5) (T := TX5) (N := 11) hx hb hw inAX5 hown hK hP 8 rfl rfl 0 (by decide) (hw _ q_147) (fun _ h9 => h9) e_p1_crew dX3_prepare_36 ?_
    refine lv_iload_n hx hb dX3_prepare_39 rfl (lv_at hl 0 rfl) ?_
    refine va_iald hx hb hK hP 9 0 rfl rfl (ix_k k35 (by decide) (by decide)) dX3_prepare_40 ?_
    refine lv_ci (y := v36) ev36.symm ?_
    refine va_iald hx hb hK hP 6 0 rfl rfl (ix_k k37 (by decide) (by decide)) dX3_prepare_41 ?_
    refine lv_topi (fun v40 ev40 => ?_)
    refine lv_imul hx hb dX3_prepare_42 ?_
    refine lv_topi (fun v41 ev41 => ?_)
    obtain ⟨g42, eg42⟩ : ∃ z : Nat → Int32, upd w3 u1.toNatClampNeg v41 = z := ⟨_, rfl⟩
    refine iast_g hx hb hK hP hD hS 2 0 rfl rfl (ix_k k35 (by decide) (by decide)) eg42 dX3_prepare_43 (fun H locs hP hD hS => ?_)
    have hP : va_P D vwCl [(h0, .inr (3, vL 10 Fh)), (h_push, .inl (cI, 4, .inl g39)), (h_reach, .inl (cI, 4, .inl g42)), (h_drag, .inl (cI, 16, .inl f_drag)), (p0, .inr (1, vL 18 F_p0_)), (h_p0_push, .inl (cI, 12, .inl f_p0_push)), (h_p0_feet, .inl (cI, 12, .inl f_p0_feet)), (h_p0_weight, .inl (cI, 12, .inl f_p0_weight)), (p1, .inr (5, vL 11 F_p1_)), (h_p1_crew, .inl (cI, 4, .inl f_p1_crew))] H := hP
    have hD : va_D A [(h0, .inr (3, vL 10 Fh)), (h_push, .inl (cI, 4, .inl g39)), (h_reach, .inl (cI, 4, .inl g42)), (h_drag, .inl (cI, 16, .inl f_drag)), (p0, .inr (1, vL 18 F_p0_)), (h_p0_push, .inl (cI, 12, .inl f_p0_push)), (h_p0_feet, .inl (cI, 12, .inl f_p0_feet)), (h_p0_weight, .inl (cI, 12, .inl f_p0_weight)), (p1, .inr (5, vL 11 F_p1_)), (h_p1_crew, .inl (cI, 4, .inl f_p1_crew))] := hD
    obtain ⟨v43, ev43⟩ : ∃ z : Int32, z = u1 + 1 := ⟨_, rfl⟩
    have bv43 : v43.toInt = u1.toInt + 1 := by rw [ev43]; exact add_k rfl rfl k35 ⟨Int.le_refl _, Int.le_refl _⟩ (by decide)
    have k44 : 1 ≤ v43.toInt ∧ v43.toInt ≤ 4 := add_r bv43 k35 ⟨Int.le_refl _, Int.le_refl _⟩ (by decide)
    refine lv_iinc (v := v43) (lv' := [(3, .int v43), (0, .ref h0), (1, .ref p0), (2, .ref p1)]) hx hb dX3_prepare_44 hl (k := 0) rfl (by rw [ev43]; rfl) (by decide) rfl (fun ls hl => ?_)
    refine lv_goto (tgt := 2) hx hb dX3_prepare_47 (by decide) ?_
    exact ih (v43, g39, g42) (ir_wk k44 (by decide) (by decide)) (by show (4 - v43.toInt).toNat < (4 - u1.toInt).toNat; omega) _ _ _ hP hD hS (lv_sub hl [0, 1, 2, 3] rfl)
set_option maxHeartbeats 4000000 in
set_option maxRecDepth 100000 in
theorem m_X3_reachState (l : Launch) (D : va_G) (cI cJ cB cP cM cZ : ClassId) (h0 : Nat) (h_nextWays : Nat) (h_nextStates : Nat) (Fh : Nat → Value) (x_nextCount : Int32) (f_nextWays : Nat → Int64) (f_nextStates : Nat → Int32) (p0 : Int32) (p1 : Int32) (p2 : Int32) (p3 : Int64) (sz : Nat) (e_nextWays : Fh 5 = .ref h_nextWays) (e_nextStates : Fh 7 = .ref h_nextStates) (e_nextCount : Fh 9 = .int x_nextCount) (i_x_nextCount : IR 0 7712 x_nextCount) (s_nextStates_0 : SG 0 7711 0 7711 f_nextStates) (i_p0 : IR 0 15 p0) (i_p1 : IR 0 1 p1) (i_p2 : IR 10 250 p2) : CV l yX3_reachState cX3_reachState 7 none { frames := 1, cells := 0, slots := 0, locals := 40 } (GG D cI cJ cB cP cM cZ) D [(h0, .inr (3, vL 10 Fh)), (h_nextWays, .inl (cJ, 7712, .inr (.inl f_nextWays))), (h_nextStates, .inl (cI, 7712, .inl f_nextStates))] sz [.ref h0, .int p0, .int p1, .int p2, .long p3] (fun (u : va_W) => ∃ (Gh : Nat → Value) (y_nextCount : Int32) (g_nextWays : Nat → Int64) (g_nextStates : Nat → Int32), SAME [9] Fh Gh ∧ Gh 9 = .int y_nextCount ∧ IR 0 7712 y_nextCount ∧ SG 0 7711 0 7711 g_nextStates ∧ u = [(h0, .inr (3, vL 10 Gh)), (h_nextWays, .inl (cJ, 7712, .inr (.inl g_nextWays))), (h_nextStates, .inl (cI, 7712, .inl g_nextStates))]) := by
  refine CV_mk (by decide) (Nat.le_of_ble_eq_true rfl) ?_
  intro p e s m below meth c A ls E hAe hG hsz hP hD hA hS hl
  obtain ⟨hx, hb, hr, hw, hown, hlocks, hml, hnm⟩ := E
  have hK := hG.1
  have i_x_nextCount : 0 ≤ x_nextCount.toInt ∧ x_nextCount.toInt ≤ 7712 := i_x_nextCount
  have i_p0 : 0 ≤ p0.toInt ∧ p0.toInt ≤ 15 := i_p0
  have i_p1 : 0 ≤ p1.toInt ∧ p1.toInt ≤ 1 := i_p1
  have i_p2 : 10 ≤ p2.toInt ∧ p2.toInt ≤ 250 := i_p2
  have hl : lv_has ls 7 [(0, .ref h0), (1, .int p0), (2, .int p1), (3, .int p2), (4, .long p3)] := hl
  refine lv_iload_n hx hb dX3_reachState_0 rfl (lv_at hl 1 rfl) ?_
  refine lv_iconst (v := 1) hx hb dX3_reachState_1 (by decide) ?_
  refine lv_ishl hx hb dX3_reachState_2 ?_
  refine lv_topi (fun v1 ev1 => ?_)
  have k2 : 0 ≤ v1.toInt ∧ v1.toInt ≤ 30 := by rw [ev1]; exact shx_i (Int.le_trans (by decide) i_p0.1) (Int.le_trans i_p0.2 (by decide))
  refine lv_iload_n hx hb dX3_reachState_3 rfl (lv_at hl 2 rfl) ?_
  refine lv_ior hx hb dX3_reachState_4 ?_
  refine lv_topi (fun v3 ev3 => ?_)
  have k4 : 0 ≤ v3.toInt ∧ v3.toInt ≤ 31 := by rw [ev3]; exact or32_ik (ir_wk k2 (by decide) (by decide)) (ir_wk i_p1 (by decide) (by decide))
  refine lv_sipush (v := 241) hx hb dX3_reachState_5 (by decide) ?_
  refine lv_imul hx hb dX3_reachState_8 ?_
  refine lv_topi (fun v5 ev5 => ?_)
  have bv5 : v5.toInt = v3.toInt * 241 := by rw [ev5]; exact mulk_k rfl rfl (by decide) k4 (by decide)
  have k6 : 0 ≤ v5.toInt ∧ v5.toInt ≤ 7471 := mulk_r bv5 (by decide) k4 (by decide)
  refine lv_iload_n hx hb dX3_reachState_9 rfl (lv_at hl 3 rfl) ?_
  refine lv_iadd hx hb dX3_reachState_10 ?_
  refine lv_topi (fun v7 ev7 => ?_)
  have bv7 : v7.toInt = v5.toInt + p2.toInt := by rw [ev7]; exact add_k rfl rfl k6 i_p2 (by decide)
  have k8 : 10 ≤ v7.toInt ∧ v7.toInt ≤ 7721 := add_r bv7 k6 i_p2 (by decide)
  refine lv_bipush (v := 10) hx hb dX3_reachState_11 (by decide) ?_
  refine lv_isub hx hb dX3_reachState_13 ?_
  refine lv_topi (fun v9 ev9 => ?_)
  have bv9 : v9.toInt = v7.toInt - 10 := by rw [ev9]; exact sub_k rfl rfl k8 ⟨Int.le_refl _, Int.le_refl _⟩ (by decide)
  have k10 : 0 ≤ v9.toInt ∧ v9.toInt ≤ 7711 := sub_r bv9 k8 ⟨Int.le_refl _, Int.le_refl _⟩ (by decide)
  refine lv_istore (lv' := [(6, .int v9), (0, .ref h0), (1, .int p0), (2, .int p1), (3, .int p2), (4, .long p3)]) hx hb dX3_reachState_14 hl (by decide) rfl (fun ls hl => ?_)
  refine lv_aload_n hx hb dX3_reachState_16 rfl (lv_at hl 1 rfl) ?_
  refine get_f (D := D) (ci := 3) (v := .ref h_nextWays) (C := RX3) (T := TX3) (N := 10) hx hb hw inAX3 hown hK hP 0 rfl rfl 5 (by decide) (hw _ q_914) (fun _ h9 => h9) e_nextWays dX3_reachState_17 ?_
  refine lv_iload hx hb dX3_reachState_20 (lv_at hl 0 rfl) ?_
  refine va_lald hx hb hK hP 1 1 rfl rfl (ix_k k10 (by decide) (by decide)) dX3_reachState_22 ?_
  refine lv_topl (fun v11 ev11 => ?_)
  refine lv_ldc2 hx hb hown (hw _ q_904) dX3_reachState_23 ?_
  refine W.lcmp hx hb dX3_reachState_26 ?_
  refine lv_topi (fun v12 ev12 => ?_)
  refine lv_if_ne (tgt := 61) hx hb dX3_reachState_27 (by decide) (fun c13 => ?_) (fun c13 => ?_)
  · have dc13 : v12.toInt ≠ 0 := ne_i (a := v12.toInt) (b := 0) rfl rfl c13
    refine lv_aload_n hx hb dX3_reachState_61 rfl (lv_at hl 1 rfl) ?_
    refine get_f (D := D) (ci := 3) (v := .ref h_nextWays) (C := RX3) (T := TX3) (N := 10) hx hb hw inAX3 hown hK hP 0 rfl rfl 5 (by decide) (hw _ q_914) (fun _ h9 => h9) e_nextWays dX3_reachState_62 ?_
    refine lv_iload hx hb dX3_reachState_65 (lv_at hl 0 rfl) ?_
    refine lv_aload_n hx hb dX3_reachState_67 rfl (lv_at hl 1 rfl) ?_
    refine get_f (D := D) (ci := 3) (v := .ref h_nextWays) (C := RX3) (T := TX3) (N := 10) hx hb hw inAX3 hown hK hP 0 rfl rfl 5 (by decide) (hw _ q_914) (fun _ h9 => h9) e_nextWays dX3_reachState_68 ?_
    refine lv_iload hx hb dX3_reachState_71 (lv_at hl 0 rfl) ?_
    refine va_lald hx hb hK hP 1 1 rfl rfl (ix_k k10 (by decide) (by decide)) dX3_reachState_73 ?_
    refine lv_topl (fun v14 ev14 => ?_)
    refine lv_lload hx hb dX3_reachState_74 (lv_at hl 5 rfl) ?_
    refine va_mmin_long hx hb (hml.trans hl.1.symm) hown (hw _ q_952) (hw _ q_953) (hw _ q_19) (hw _ q_954) (Nat.le_of_ble_eq_true rfl) (Nat.le_of_ble_eq_true rfl) (Nat.le_of_ble_eq_true rfl) (Nat.le_of_ble_eq_true rfl) dX3_reachState_76 ?_
    refine lv_topl (fun v15 ev15 => ?_)
    obtain ⟨g16, eg16⟩ : ∃ z : Nat → Int64, vp_updL f_nextWays v9.toNatClampNeg v15 = z := ⟨_, rfl⟩
    refine last_g hx hb hK hP hD hS 1 1 rfl rfl (ix_k k10 (by decide) (by decide)) eg16 dX3_reachState_79 (fun H locs hP hD hS => ?_)
    have hP : va_P D vwCl [(h0, .inr (3, vL 10 Fh)), (h_nextWays, .inl (cJ, 7712, .inr (.inl g16))), (h_nextStates, .inl (cI, 7712, .inl f_nextStates))] H := hP
    have hD : va_D A [(h0, .inr (3, vL 10 Fh)), (h_nextWays, .inl (cJ, 7712, .inr (.inl g16))), (h_nextStates, .inl (cI, 7712, .inl f_nextStates))] := hD
    exact ret_v hx hb hr hlocks hS hP hD dX3_reachState_80 (Nat.le_of_ble_eq_true rfl) (Nat.le_of_ble_eq_true rfl) ⟨Fh, x_nextCount, g16, f_nextStates, SAME.rf, e_nextCount, i_x_nextCount, s_nextStates_0, rfl⟩
  · have dc13 : v12.toInt = 0 := eq_i (a := v12.toInt) (b := 0) rfl rfl c13
    have k17 : 0 ≤ v12.toInt ∧ v12.toInt ≤ 0 := ⟨Int.le_trans (Int.le_refl _) (Int.le_of_eq dc13.symm), Int.le_trans (Int.le_of_eq dc13) (Int.le_refl _)⟩
    refine lv_aload_n hx hb dX3_reachState_30 rfl (lv_at hl 1 rfl) ?_
    refine get_f (D := D) (ci := 3) (v := .int x_nextCount) (C := RX3) (T := TX3) (N := 10) hx hb hw inAX3 hown hK hP 0 rfl rfl 9 (by decide) (hw _ q_918) (fun _ h9 => h9) e_nextCount dX3_reachState_31 ?_
    refine lv_sipush (v := 7712) hx hb dX3_reachState_34 (by decide) ?_
    refine lv_icmp_ge (tgt := 61) hx hb dX3_reachState_37 (by decide) (fun c18 => ?_) (fun c18 => ?_)
    · have dc18 : 7712 ≤ x_nextCount.toInt := le_i (a := 7712) (b := x_nextCount.toInt) rfl rfl c18
      have k19 : 7712 ≤ x_nextCount.toInt ∧ x_nextCount.toInt ≤ 7712 := ⟨Int.le_trans (Int.le_refl _) dc18, i_x_nextCount.2⟩
      refine lv_aload_n hx hb dX3_reachState_61 rfl (lv_at hl 1 rfl) ?_
      refine get_f (D := D) (ci := 3) (v := .ref h_nextWays) (C := RX3) (T := TX3) (N := 10) hx hb hw inAX3 hown hK hP 0 rfl rfl 5 (by decide) (hw _ q_914) (fun _ h9 => h9) e_nextWays dX3_reachState_62 ?_
      refine lv_iload hx hb dX3_reachState_65 (lv_at hl 0 rfl) ?_
      refine lv_aload_n hx hb dX3_reachState_67 rfl (lv_at hl 1 rfl) ?_
      refine get_f (D := D) (ci := 3) (v := .ref h_nextWays) (C := RX3) (T := TX3) (N := 10) hx hb hw inAX3 hown hK hP 0 rfl rfl 5 (by decide) (hw _ q_914) (fun _ h9 => h9) e_nextWays dX3_reachState_68 ?_
      refine lv_iload hx hb dX3_reachState_71 (lv_at hl 0 rfl) ?_
      refine va_lald hx hb hK hP 1 1 rfl rfl (ix_k k10 (by decide) (by decide)) dX3_reachState_73 ?_
      refine lv_topl (fun v20 ev20 => ?_)
      refine lv_lload hx hb dX3_reachState_74 (lv_at hl 5 rfl) ?_
      refine va_mmin_long hx hb (hml.trans hl.1.symm) hown (hw _ q_952) (hw _ q_953) (hw _ q_19) (hw _ q_954) (Nat.le_of_ble_eq_true rfl) (Nat.le_of_ble_eq_true rfl) (Nat.le_of_ble_eq_true rfl) (Nat.le_of_ble_eq_true rfl) dX3_reachState_76 ?_
      refine lv_topl (fun v21 ev21 => ?_)
      obtain ⟨g22, eg22⟩ : ∃ z : Nat → Int64, vp_updL f_nextWays v9.toNatClampNeg v21 = z := ⟨_, rfl⟩
      refine last_g hx hb hK hP hD hS 1 1 rfl rfl (ix_k k10 (by decide) (by decide)) eg22 dX3_reachState_79 (fun H locs hP hD hS => ?_)
      have hP : va_P D vwCl [(h0, .inr (3, vL 10 Fh)), (h_nextWays, .inl (cJ, 7712, .inr (.inl g22))), (h_nextStates, .inl (cI, 7712, .inl f_nextStates))] H := hP
      have hD : va_D A [(h0, .inr (3, vL 10 Fh)), (h_nextWays, .inl (cJ, 7712, .inr (.inl g22))), (h_nextStates, .inl (cI, 7712, .inl f_nextStates))] := hD
      exact ret_v hx hb hr hlocks hS hP hD dX3_reachState_80 (Nat.le_of_ble_eq_true rfl) (Nat.le_of_ble_eq_true rfl) ⟨Fh, x_nextCount, g22, f_nextStates, SAME.rf, e_nextCount, (ir_wk k19 (by decide) (by decide)), s_nextStates_0, rfl⟩
    · have dc18 : x_nextCount.toInt < 7712 := nle_i (a := 7712) (b := x_nextCount.toInt) rfl rfl c18
      have k23 : 0 ≤ x_nextCount.toInt ∧ x_nextCount.toInt ≤ 7711 := ⟨i_x_nextCount.1, up_lt dc18 (Int.le_refl _) (by decide)⟩
      refine lv_aload_n hx hb dX3_reachState_40 rfl (lv_at hl 1 rfl) ?_
      refine get_f (D := D) (ci := 3) (v := .ref h_nextStates) (C := RX3) (T := TX3) (N := 10) hx hb hw inAX3 hown hK hP 0 rfl rfl 7 (by decide) (hw _ q_916) (fun _ h9 => h9) e_nextStates dX3_reachState_41 ?_
      refine lv_aload_n hx hb dX3_reachState_44 rfl (lv_at hl 1 rfl) ?_
      refine get_f (D := D) (ci := 3) (v := .int x_nextCount) (C := RX3) (T := TX3) (N := 10) hx hb hw inAX3 hown hK hP 0 rfl rfl 9 (by decide) (hw _ q_918) (fun _ h9 => h9) e_nextCount dX3_reachState_45 ?_
      refine lv_iload hx hb dX3_reachState_48 (lv_at hl 0 rfl) ?_
      obtain ⟨g24, eg24⟩ : ∃ z : Nat → Int32, upd f_nextStates x_nextCount.toNatClampNeg v9 = z := ⟨_, rfl⟩
      have r25 : SG 0 7711 0 7711 g24 := by rw [← eg24]; exact s_nextStates_0.up (Int.le_trans (by decide) k23.1) (Or.inr (Or.inr (ir_wk k10 (by decide) (by decide))))
      refine iast_g hx hb hK hP hD hS 2 0 rfl rfl (ix_k k23 (by decide) (by decide)) eg24 dX3_reachState_50 (fun H locs hP hD hS => ?_)
      have hP : va_P D vwCl [(h0, .inr (3, vL 10 Fh)), (h_nextWays, .inl (cJ, 7712, .inr (.inl f_nextWays))), (h_nextStates, .inl (cI, 7712, .inl g24))] H := hP
      have hD : va_D A [(h0, .inr (3, vL 10 Fh)), (h_nextWays, .inl (cJ, 7712, .inr (.inl f_nextWays))), (h_nextStates, .inl (cI, 7712, .inl g24))] := hD
      refine lv_aload_n hx hb dX3_reachState_51 rfl (lv_at hl 1 rfl) ?_
      refine lv_dup hx hb dX3_reachState_52 rfl ?_
      refine get_f (D := D) (ci := 3) (v := .int x_nextCount) (C := RX3) (T := TX3) (N := 10) hx hb hw inAX3 hown hK hP 0 rfl rfl 9 (by decide) (hw _ q_918) (fun _ h9 => h9) e_nextCount dX3_reachState_53 ?_
      refine lv_iconst (v := 1) hx hb dX3_reachState_56 (by decide) ?_
      refine lv_iadd hx hb dX3_reachState_57 ?_
      refine lv_topi (fun v26 ev26 => ?_)
      have bv26 : v26.toInt = x_nextCount.toInt + 1 := by rw [ev26]; exact add_k rfl rfl k23 ⟨Int.le_refl _, Int.le_refl _⟩ (by decide)
      have k27 : 1 ≤ v26.toInt ∧ v26.toInt ≤ 7712 := add_r bv26 k23 ⟨Int.le_refl _, Int.le_refl _⟩ (by decide)
      refine put_f (D := D) (ci := 3) (v := .int v26) (ty := .int) (C := RX3) (T := TX3) (N := 10) hx hb hw inAX3 tyX3 tyX3_ok nmX3 hown hK hP hD hS 0 rfl rfl 9 (by decide) (hw _ q_918) (fun _ h9 => h9) rfl (by decide +kernel) rfl rfl dX3_reachState_58 (fun H locs F28 eF28 hP hD hS => ?_)
      have hP : va_P D vwCl [(h0, .inr (3, vL 10 F28)), (h_nextWays, .inl (cJ, 7712, .inr (.inl f_nextWays))), (h_nextStates, .inl (cI, 7712, .inl g24))] H := hP
      have hD : va_D A [(h0, .inr (3, vL 10 F28)), (h_nextWays, .inl (cJ, 7712, .inr (.inl f_nextWays))), (h_nextStates, .inl (cI, 7712, .inl g24))] := hD
      refine lv_aload_n hx hb dX3_reachState_61 rfl (lv_at hl 1 rfl) ?_
      have n29 : F28 5 = .ref h_nextWays := (get_ne eF28 (by decide) e_nextWays)
      refine get_f (D := D) (ci := 3) (v := .ref h_nextWays) (C := RX3) (T := TX3) (N := 10) hx hb hw inAX3 hown hK hP 0 rfl rfl 5 (by decide) (hw _ q_914) (fun _ h9 => h9) n29 dX3_reachState_62 ?_
      refine lv_iload hx hb dX3_reachState_65 (lv_at hl 0 rfl) ?_
      refine lv_aload_n hx hb dX3_reachState_67 rfl (lv_at hl 1 rfl) ?_
      refine get_f (D := D) (ci := 3) (v := .ref h_nextWays) (C := RX3) (T := TX3) (N := 10) hx hb hw inAX3 hown hK hP 0 rfl rfl 5 (by decide) (hw _ q_914) (fun _ h9 => h9) n29 dX3_reachState_68 ?_
      refine lv_iload hx hb dX3_reachState_71 (lv_at hl 0 rfl) ?_
      refine va_lald hx hb hK hP 1 1 rfl rfl (ix_k k10 (by decide) (by decide)) dX3_reachState_73 ?_
      refine lv_topl (fun v30 ev30 => ?_)
      refine lv_lload hx hb dX3_reachState_74 (lv_at hl 5 rfl) ?_
      refine va_mmin_long hx hb (hml.trans hl.1.symm) hown (hw _ q_952) (hw _ q_953) (hw _ q_19) (hw _ q_954) (Nat.le_of_ble_eq_true rfl) (Nat.le_of_ble_eq_true rfl) (Nat.le_of_ble_eq_true rfl) (Nat.le_of_ble_eq_true rfl) dX3_reachState_76 ?_
      refine lv_topl (fun v31 ev31 => ?_)
      obtain ⟨g32, eg32⟩ : ∃ z : Nat → Int64, vp_updL f_nextWays v9.toNatClampNeg v31 = z := ⟨_, rfl⟩
      refine last_g hx hb hK hP hD hS 1 1 rfl rfl (ix_k k10 (by decide) (by decide)) eg32 dX3_reachState_79 (fun H locs hP hD hS => ?_)
      have hP : va_P D vwCl [(h0, .inr (3, vL 10 F28)), (h_nextWays, .inl (cJ, 7712, .inr (.inl g32))), (h_nextStates, .inl (cI, 7712, .inl g24))] H := hP
      have hD : va_D A [(h0, .inr (3, vL 10 F28)), (h_nextWays, .inl (cJ, 7712, .inr (.inl g32))), (h_nextStates, .inl (cI, 7712, .inl g24))] := hD
      exact ret_v hx hb hr hlocks hS hP hD dX3_reachState_80 (Nat.le_of_ble_eq_true rfl) (Nat.le_of_ble_eq_true rfl) ⟨F28, v26, g32, g24, (SAME.up eF28 SAME.rf (by decide)), (get_eq eF28), (ir_wk k27 (by decide) (by decide)), r25, rfl⟩
set_option maxHeartbeats 4000000 in
set_option maxRecDepth 100000 in
theorem m_X3_turnOverRows (l : Launch) (D : va_G) (cI cJ cB cP cM cZ : ClassId) (h0 : Nat) (h_ways : Nat) (h_nextWays : Nat) (h_states : Nat) (h_nextStates : Nat) (Fh : Nat → Value) (x_stateCount : Int32) (x_nextCount : Int32) (f_ways : Nat → Int64) (f_nextWays : Nat → Int64) (f_states : Nat → Int32) (f_nextStates : Nat → Int32) (sz : Nat) (e_ways : Fh 4 = .ref h_ways) (e_nextWays : Fh 5 = .ref h_nextWays) (e_states : Fh 6 = .ref h_states) (e_nextStates : Fh 7 = .ref h_nextStates) (e_stateCount : Fh 8 = .int x_stateCount) (i_x_stateCount : IR 0 7712 x_stateCount) (e_nextCount : Fh 9 = .int x_nextCount) (i_x_nextCount : IR 0 7712 x_nextCount) (s_states_0 : SG 0 7711 0 7711 f_states) (s_nextStates_0 : SG 0 7711 0 7711 f_nextStates) : CV l yX3_turnOverRows cX3_turnOverRows 3 none { frames := 0, cells := 0, slots := 0, locals := 0 } (GG D cI cJ cB cP cM cZ) D [(h0, .inr (3, vL 10 Fh)), (h_ways, .inl (cJ, 7712, .inr (.inl f_ways))), (h_nextWays, .inl (cJ, 7712, .inr (.inl f_nextWays))), (h_states, .inl (cI, 7712, .inl f_states)), (h_nextStates, .inl (cI, 7712, .inl f_nextStates))] sz [.ref h0] (fun (u : va_W) => ∃ (Gh : Nat → Value) (g_ways : Nat → Int64) (g_nextWays : Nat → Int64) (g_states : Nat → Int32) (g_nextStates : Nat → Int32), SAME [4, 5, 6, 7, 8, 9] Fh Gh ∧ Gh 4 = .ref h_nextWays ∧ Gh 5 = .ref h_ways ∧ Gh 6 = .ref h_nextStates ∧ Gh 7 = .ref h_states ∧ Gh 8 = .int x_nextCount ∧ Gh 9 = .int 0 ∧ SG 0 7711 0 7711 g_states ∧ SG 0 7711 0 7711 g_nextStates ∧ u = [(h0, .inr (3, vL 10 Gh)), (h_nextWays, .inl (cJ, 7712, .inr (.inl g_ways))), (h_ways, .inl (cJ, 7712, .inr (.inl g_nextWays))), (h_nextStates, .inl (cI, 7712, .inl g_states)), (h_states, .inl (cI, 7712, .inl g_nextStates))]) := by
  refine CV_mk (by decide) (Nat.le_of_ble_eq_true rfl) ?_
  intro p e s m below meth c A ls E hAe hG hsz hP hD hA hS hl
  obtain ⟨hx, hb, hr, hw, hown, hlocks, hml, hnm⟩ := E
  have hK := hG.1
  have i_x_stateCount : 0 ≤ x_stateCount.toInt ∧ x_stateCount.toInt ≤ 7712 := i_x_stateCount
  have i_x_nextCount : 0 ≤ x_nextCount.toInt ∧ x_nextCount.toInt ≤ 7712 := i_x_nextCount
  have hl : lv_has ls 3 [(0, .ref h0)] := hl
  refine lv_iconst (v := 0) hx hb dX3_turnOverRows_0 (by decide) ?_
  refine lv_istore_n (lv' := [(1, .int 0), (0, .ref h0)]) hx hb dX3_turnOverRows_1 rfl hl (by decide) rfl (fun ls hl => ?_)
  refine mloop (α := (Int32) × (Nat → Int64)) (nL := 3) (D := D) (A := A) (H0 := s.heap) (fun a => (7712 - a.1.toInt).toNat) (fun a => IR 0 7712 a.1) (fun a => [(h0, .inr (3, vL 10 Fh)), (h_ways, .inl (cJ, 7712, .inr (.inl a.2))), (h_nextWays, .inl (cJ, 7712, .inr (.inl f_nextWays))), (h_states, .inl (cI, 7712, .inl f_states)), (h_nextStates, .inl (cI, 7712, .inl f_nextStates))]) (fun a => [(1, .int a.1), (0, .ref h0)]) (fun H locs ls => W p l e ({ frames := 0, cells := 0, slots := 0, locals := 0 } : Room) s m [.ref h0].toArray below meth c H locs 0 0 (MQ below (va_Qv (fun (u : va_W) => ∃ (Gh : Nat → Value) (g_ways : Nat → Int64) (g_nextWays : Nat → Int64) (g_states : Nat → Int32) (g_nextStates : Nat → Int32), SAME [4, 5, 6, 7, 8, 9] Fh Gh ∧ Gh 4 = .ref h_nextWays ∧ Gh 5 = .ref h_ways ∧ Gh 6 = .ref h_nextStates ∧ Gh 7 = .ref h_states ∧ Gh 8 = .int x_nextCount ∧ Gh 9 = .int 0 ∧ SG 0 7711 0 7711 g_states ∧ SG 0 7711 0 7711 g_nextStates ∧ u = [(h0, .inr (3, vL 10 Gh)), (h_nextWays, .inl (cJ, 7712, .inr (.inl g_ways))), (h_ways, .inl (cJ, 7712, .inr (.inl g_nextWays))), (h_nextStates, .inl (cI, 7712, .inl g_states)), (h_states, .inl (cI, 7712, .inl g_nextStates))]) (PO D A) A) [.ref h0].toArray s 0 0 A) (F0 m 2 ls [])) ?_ (0, f_ways) ⟨by decide, by decide⟩ _ _ _ hP hD hS hl
  rintro ⟨u1, w2⟩ i3 ih H locs ls hP hD hS hl
  have i3 : 0 ≤ u1.toInt ∧ u1.toInt ≤ 7712 := i3
  have hP : va_P D vwCl [(h0, .inr (3, vL 10 Fh)), (h_ways, .inl (cJ, 7712, .inr (.inl w2))), (h_nextWays, .inl (cJ, 7712, .inr (.inl f_nextWays))), (h_states, .inl (cI, 7712, .inl f_states)), (h_nextStates, .inl (cI, 7712, .inl f_nextStates))] H := hP
  have hD : va_D A [(h0, .inr (3, vL 10 Fh)), (h_ways, .inl (cJ, 7712, .inr (.inl w2))), (h_nextWays, .inl (cJ, 7712, .inr (.inl f_nextWays))), (h_states, .inl (cI, 7712, .inl f_states)), (h_nextStates, .inl (cI, 7712, .inl f_nextStates))] := hD
  have hl : lv_has ls 3 [(1, .int u1), (0, .ref h0)] := hl
  refine lv_iload_n hx hb dX3_turnOverRows_2 rfl (lv_at hl 0 rfl) ?_
  refine lv_aload_n hx hb dX3_turnOverRows_3 rfl (lv_at hl 1 rfl) ?_
  refine get_f (D := D) (ci := 3) (v := .int x_stateCount) (C := RX3) (T := TX3) (N := 10) hx hb hw inAX3 hown hK hP 0 rfl rfl 8 (by decide) (hw _ q_917) (fun _ h9 => h9) e_stateCount dX3_turnOverRows_4 ?_
  refine lv_icmp_ge (tgt := 30) hx hb dX3_turnOverRows_7 (by decide) (fun c4 => ?_) (fun c4 => ?_)
  · have dc4 : x_stateCount.toInt ≤ u1.toInt := le_i (a := x_stateCount.toInt) (b := u1.toInt) rfl rfl c4
    refine lv_aload_n hx hb dX3_turnOverRows_30 rfl (lv_at hl 1 rfl) ?_
    refine get_f (D := D) (ci := 3) (v := .ref h_ways) (C := RX3) (T := TX3) (N := 10) hx hb hw inAX3 hown hK hP 0 rfl rfl 4 (by decide) (hw _ q_913) (fun _ h9 => h9) e_ways dX3_turnOverRows_31 ?_
    refine lv_astore_n (lv' := [(1, .ref h_ways), (0, .ref h0)]) hx hb dX3_turnOverRows_34 rfl hl (by decide) rfl (fun ls hl => ?_)
    refine lv_aload_n hx hb dX3_turnOverRows_35 rfl (lv_at hl 1 rfl) ?_
    refine get_f (D := D) (ci := 3) (v := .ref h_states) (C := RX3) (T := TX3) (N := 10) hx hb hw inAX3 hown hK hP 0 rfl rfl 6 (by decide) (hw _ q_915) (fun _ h9 => h9) e_states dX3_turnOverRows_36 ?_
    refine lv_astore_n (lv' := [(2, .ref h_states), (1, .ref h_ways), (0, .ref h0)]) hx hb dX3_turnOverRows_39 rfl hl (by decide) rfl (fun ls hl => ?_)
    refine lv_aload_n hx hb dX3_turnOverRows_40 rfl (lv_at hl 2 rfl) ?_
    refine lv_aload_n hx hb dX3_turnOverRows_41 rfl (lv_at hl 2 rfl) ?_
    refine get_f (D := D) (ci := 3) (v := .ref h_nextWays) (C := RX3) (T := TX3) (N := 10) hx hb hw inAX3 hown hK hP 0 rfl rfl 5 (by decide) (hw _ q_914) (fun _ h9 => h9) e_nextWays dX3_turnOverRows_42 ?_
    refine put_f (D := D) (ci := 3) (v := .ref h_nextWays) (ty := (.array .long)) (C := RX3) (T := TX3) (N := 10) hx hb hw inAX3 tyX3 tyX3_ok nmX3 hown hK hP hD hS 0 rfl rfl 4 (by decide) (hw _ q_913) (fun _ h9 => h9) rfl (by decide +kernel) rfl rfl dX3_turnOverRows_45 (fun H locs F5 eF5 hP hD hS => ?_)
    have hP : va_P D vwCl [(h0, .inr (3, vL 10 F5)), (h_ways, .inl (cJ, 7712, .inr (.inl w2))), (h_nextWays, .inl (cJ, 7712, .inr (.inl f_nextWays))), (h_states, .inl (cI, 7712, .inl f_states)), (h_nextStates, .inl (cI, 7712, .inl f_nextStates))] H := hP
    have hD : va_D A [(h0, .inr (3, vL 10 F5)), (h_ways, .inl (cJ, 7712, .inr (.inl w2))), (h_nextWays, .inl (cJ, 7712, .inr (.inl f_nextWays))), (h_states, .inl (cI, 7712, .inl f_states)), (h_nextStates, .inl (cI, 7712, .inl f_nextStates))] := hD
    refine lv_aload_n hx hb dX3_turnOverRows_48 rfl (lv_at hl 2 rfl) ?_
    refine lv_aload_n hx hb dX3_turnOverRows_49 rfl (lv_at hl 2 rfl) ?_
    have n6 : F5 7 = .ref h_nextStates := (get_ne eF5 (by decide) e_nextStates)
    refine get_f (D := D) (ci := 3) (v := .ref h_nextStates) (C := RX3) (T := TX3) (N := 10) hx hb hw inAX3 hown hK hP 0 rfl rfl 7 (by decide) (hw _ q_916) (fun _ h9 => h9) n6 dX3_turnOverRows_50 ?_
    refine put_f (D := D) (ci := 3) (v := .ref h_nextStates) (ty := (.array .int)) (C := RX3) (T := TX3) (N := 10) hx hb hw inAX3 tyX3 tyX3_ok nmX3 hown hK hP hD hS 0 rfl rfl 6 (by decide) (hw _ q_915) (fun _ h9 => h9) rfl (by decide +kernel) rfl rfl dX3_turnOverRows_53 (fun H locs F7 eF7 hP hD hS => ?_)
    have hP : va_P D vwCl [(h0, .inr (3, vL 10 F7)), (h_ways, .inl (cJ, 7712, .inr (.inl w2))), (h_nextWays, .inl (cJ, 7712, .inr (.inl f_nextWays))), (h_states, .inl (cI, 7712, .inl f_states)), (h_nextStates, .inl (cI, 7712, .inl f_nextStates))] H := hP
    have hD : va_D A [(h0, .inr (3, vL 10 F7)), (h_ways, .inl (cJ, 7712, .inr (.inl w2))), (h_nextWays, .inl (cJ, 7712, .inr (.inl f_nextWays))), (h_states, .inl (cI, 7712, .inl f_states)), (h_nextStates, .inl (cI, 7712, .inl f_nextStates))] := hD
    refine lv_aload_n hx hb dX3_turnOverRows_56 rfl (lv_at hl 2 rfl) ?_
    refine lv_aload_n hx hb dX3_turnOverRows_57 rfl (lv_at hl 2 rfl) ?_
    have n8 : F5 9 = .int x_nextCount := (get_ne eF5 (by decide) e_nextCount)
    have n9 : F7 9 = .int x_nextCount := (get_ne eF7 (by decide) n8)
    refine get_f (D := D) (ci := 3) (v := .int x_nextCount) (C := RX3) (T := TX3) (N := 10) hx hb hw inAX3 hown hK hP 0 rfl rfl 9 (by decide) (hw _ q_918) (fun _ h9 => h9) n9 dX3_turnOverRows_58 ?_
    refine put_f (D := D) (ci := 3) (v := .int x_nextCount) (ty := .int) (C := RX3) (T := TX3) (N := 10) hx hb hw inAX3 tyX3 tyX3_ok nmX3 hown hK hP hD hS 0 rfl rfl 8 (by decide) (hw _ q_917) (fun _ h9 => h9) rfl (by decide +kernel) rfl rfl dX3_turnOverRows_61 (fun H locs F10 eF10 hP hD hS => ?_)
    have hP : va_P D vwCl [(h0, .inr (3, vL 10 F10)), (h_ways, .inl (cJ, 7712, .inr (.inl w2))), (h_nextWays, .inl (cJ, 7712, .inr (.inl f_nextWays))), (h_states, .inl (cI, 7712, .inl f_states)), (h_nextStates, .inl (cI, 7712, .inl f_nextStates))] H := hP
    have hD : va_D A [(h0, .inr (3, vL 10 F10)), (h_ways, .inl (cJ, 7712, .inr (.inl w2))), (h_nextWays, .inl (cJ, 7712, .inr (.inl f_nextWays))), (h_states, .inl (cI, 7712, .inl f_states)), (h_nextStates, .inl (cI, 7712, .inl f_nextStates))] := hD
    refine lv_aload_n hx hb dX3_turnOverRows_64 rfl (lv_at hl 2 rfl) ?_
    refine lv_aload_n hx hb dX3_turnOverRows_65 rfl (lv_at hl 1 rfl) ?_
    refine put_f (D := D) (ci := 3) (v := .ref h_ways) (ty := (.array .long)) (C := RX3) (T := TX3) (N := 10) hx hb hw inAX3 tyX3 tyX3_ok nmX3 hown hK hP hD hS 0 rfl rfl 5 (by decide) (hw _ q_914) (fun _ h9 => h9) rfl (by decide +kernel) rfl rfl dX3_turnOverRows_66 (fun H locs F11 eF11 hP hD hS => ?_)
    have hP : va_P D vwCl [(h0, .inr (3, vL 10 F11)), (h_ways, .inl (cJ, 7712, .inr (.inl w2))), (h_nextWays, .inl (cJ, 7712, .inr (.inl f_nextWays))), (h_states, .inl (cI, 7712, .inl f_states)), (h_nextStates, .inl (cI, 7712, .inl f_nextStates))] H := hP
    have hD : va_D A [(h0, .inr (3, vL 10 F11)), (h_ways, .inl (cJ, 7712, .inr (.inl w2))), (h_nextWays, .inl (cJ, 7712, .inr (.inl f_nextWays))), (h_states, .inl (cI, 7712, .inl f_states)), (h_nextStates, .inl (cI, 7712, .inl f_nextStates))] := hD
    refine lv_aload_n hx hb dX3_turnOverRows_69 rfl (lv_at hl 2 rfl) ?_
    refine lv_aload_n hx hb dX3_turnOverRows_70 rfl (lv_at hl 0 rfl) ?_
    refine put_f (D := D) (ci := 3) (v := .ref h_states) (ty := (.array .int)) (C := RX3) (T := TX3) (N := 10) hx hb hw inAX3 tyX3 tyX3_ok nmX3 hown hK hP hD hS 0 rfl rfl 7 (by decide) (hw _ q_916) (fun _ h9 => h9) rfl (by decide +kernel) rfl rfl dX3_turnOverRows_71 (fun H locs F12 eF12 hP hD hS => ?_)
    have hP : va_P D vwCl [(h0, .inr (3, vL 10 F12)), (h_ways, .inl (cJ, 7712, .inr (.inl w2))), (h_nextWays, .inl (cJ, 7712, .inr (.inl f_nextWays))), (h_states, .inl (cI, 7712, .inl f_states)), (h_nextStates, .inl (cI, 7712, .inl f_nextStates))] H := hP
    have hD : va_D A [(h0, .inr (3, vL 10 F12)), (h_ways, .inl (cJ, 7712, .inr (.inl w2))), (h_nextWays, .inl (cJ, 7712, .inr (.inl f_nextWays))), (h_states, .inl (cI, 7712, .inl f_states)), (h_nextStates, .inl (cI, 7712, .inl f_nextStates))] := hD
    refine lv_aload_n hx hb dX3_turnOverRows_74 rfl (lv_at hl 2 rfl) ?_
    refine lv_iconst (v := 0) hx hb dX3_turnOverRows_75 (by decide) ?_
    refine put_f (D := D) (ci := 3) (v := .int 0) (ty := .int) (C := RX3) (T := TX3) (N := 10) hx hb hw inAX3 tyX3 tyX3_ok nmX3 hown hK hP hD hS 0 rfl rfl 9 (by decide) (hw _ q_918) (fun _ h9 => h9) rfl (by decide +kernel) rfl rfl dX3_turnOverRows_76 (fun H locs F13 eF13 hP hD hS => ?_)
    have hP : va_P D vwCl [(h0, .inr (3, vL 10 F13)), (h_ways, .inl (cJ, 7712, .inr (.inl w2))), (h_nextWays, .inl (cJ, 7712, .inr (.inl f_nextWays))), (h_states, .inl (cI, 7712, .inl f_states)), (h_nextStates, .inl (cI, 7712, .inl f_nextStates))] H := hP
    have hD : va_D A [(h0, .inr (3, vL 10 F13)), (h_ways, .inl (cJ, 7712, .inr (.inl w2))), (h_nextWays, .inl (cJ, 7712, .inr (.inl f_nextWays))), (h_states, .inl (cI, 7712, .inl f_states)), (h_nextStates, .inl (cI, 7712, .inl f_nextStates))] := hD
    exact ret_v hx hb hr hlocks hS (hP.sub (ws' := [(h0, .inr (3, vL 10 F13)), (h_nextWays, .inl (cJ, 7712, .inr (.inl f_nextWays))), (h_ways, .inl (cJ, 7712, .inr (.inl w2))), (h_nextStates, .inl (cI, 7712, .inl f_nextStates)), (h_states, .inl (cI, 7712, .inl f_states))]) [0, 2, 1, 4, 3] rfl) (hD.sub (ws' := [(h0, .inr (3, vL 10 F13)), (h_nextWays, .inl (cJ, 7712, .inr (.inl f_nextWays))), (h_ways, .inl (cJ, 7712, .inr (.inl w2))), (h_nextStates, .inl (cI, 7712, .inl f_nextStates)), (h_states, .inl (cI, 7712, .inl f_states))]) [0, 2, 1, 4, 3] (by decide) rfl) dX3_turnOverRows_79 (Nat.le_of_ble_eq_true rfl) (Nat.le_of_ble_eq_true rfl) ⟨F13, f_nextWays, w2, f_nextStates, f_states, (SAME.up eF13 (SAME.up eF12 (SAME.up eF11 (SAME.up eF10 (SAME.up eF7 (SAME.up eF5 SAME.rf (by decide)) (by decide)) (by decide)) (by decide)) (by decide)) (by decide)), (get_ne eF13 (by decide) (get_ne eF12 (by decide) (get_ne eF11 (by decide) (get_ne eF10 (by decide) (get_ne eF7 (by decide) (get_eq eF5)))))), (get_ne eF13 (by decide) (get_ne eF12 (by decide) (get_eq eF11))), (get_ne eF13 (by decide) (get_ne eF12 (by decide) (get_ne eF11 (by decide) (get_ne eF10 (by decide) (get_eq eF7))))), (get_ne eF13 (by decide) (get_eq eF12)), (get_ne eF13 (by decide) (get_ne eF12 (by decide) (get_ne eF11 (by decide) (get_eq eF10)))), (get_eq eF13), s_nextStates_0, s_states_0, rfl⟩
  · have dc4 : u1.toInt < x_stateCount.toInt := nle_i (a := x_stateCount.toInt) (b := u1.toInt) rfl rfl c4
    have k14 : 0 ≤ u1.toInt ∧ u1.toInt ≤ 7711 := ⟨i3.1, up_lt dc4 i_x_stateCount.2 (by decide)⟩
    have k15 : 1 ≤ x_stateCount.toInt ∧ x_stateCount.toInt ≤ 7712 := ⟨lo_lt dc4 i3.1 (by decide), i_x_stateCount.2⟩
    refine lv_aload_n hx hb dX3_turnOverRows_10 rfl (lv_at hl 1 rfl) ?_
    refine get_f (D := D) (ci := 3) (v := .ref h_ways) (C := RX3) (T := TX3) (N := 10) hx hb hw inAX3 hown hK hP 0 rfl rfl 4 (by decide) (hw _ q_913) (fun _ h9 => h9) e_ways dX3_turnOverRows_11 ?_
    refine lv_aload_n hx hb dX3_turnOverRows_14 rfl (lv_at hl 1 rfl) ?_
    refine get_f (D := D) (ci := 3) (v := .ref h_states) (C := RX3) (T := TX3) (N := 10) hx hb hw inAX3 hown hK hP 0 rfl rfl 6 (by decide) (hw _ q_915) (fun _ h9 => h9) e_states dX3_turnOverRows_15 ?_
    refine lv_iload_n hx hb dX3_turnOverRows_18 rfl (lv_at hl 0 rfl) ?_
    refine va_iald hx hb hK hP 3 0 rfl rfl (ix_k k14 (by decide) (by decide)) dX3_turnOverRows_19 ?_
    refine lv_topi (fun v16 ev16 => ?_)
    have k17 : 0 ≤ v16.toInt ∧ v16.toInt ≤ 7711 := by rw [ev16]; exact s_states_0.at _ (Int.le_trans (by decide) k14.1) (Int.le_trans k14.2 (by decide))
    refine lv_ldc2 hx hb hown (hw _ q_904) dX3_turnOverRows_20 ?_
    obtain ⟨g18, eg18⟩ : ∃ z : Nat → Int64, vp_updL w2 v16.toNatClampNeg 4611686018427387904 = z := ⟨_, rfl⟩
    refine last_g hx hb hK hP hD hS 1 1 rfl rfl (ix_k k17 (by decide) (by decide)) eg18 dX3_turnOverRows_23 (fun H locs hP hD hS => ?_)
    have hP : va_P D vwCl [(h0, .inr (3, vL 10 Fh)), (h_ways, .inl (cJ, 7712, .inr (.inl g18))), (h_nextWays, .inl (cJ, 7712, .inr (.inl f_nextWays))), (h_states, .inl (cI, 7712, .inl f_states)), (h_nextStates, .inl (cI, 7712, .inl f_nextStates))] H := hP
    have hD : va_D A [(h0, .inr (3, vL 10 Fh)), (h_ways, .inl (cJ, 7712, .inr (.inl g18))), (h_nextWays, .inl (cJ, 7712, .inr (.inl f_nextWays))), (h_states, .inl (cI, 7712, .inl f_states)), (h_nextStates, .inl (cI, 7712, .inl f_nextStates))] := hD
    obtain ⟨v19, ev19⟩ : ∃ z : Int32, z = u1 + 1 := ⟨_, rfl⟩
    have bv19 : v19.toInt = u1.toInt + 1 := by rw [ev19]; exact add_k rfl rfl k14 ⟨Int.le_refl _, Int.le_refl _⟩ (by decide)
    have k20 : 1 ≤ v19.toInt ∧ v19.toInt ≤ 7712 := add_r bv19 k14 ⟨Int.le_refl _, Int.le_refl _⟩ (by decide)
    refine lv_iinc (v := v19) (lv' := [(1, .int v19), (0, .ref h0)]) hx hb dX3_turnOverRows_24 hl (k := 0) rfl (by rw [ev19]; rfl) (by decide) rfl (fun ls hl => ?_)
    refine lv_goto (tgt := 2) hx hb dX3_turnOverRows_27 (by decide) ?_
    exact ih (v19, g18) (ir_wk k20 (by decide) (by decide)) (by show (7712 - v19.toInt).toNat < (7712 - u1.toInt).toNat; omega) _ _ _ hP hD hS (lv_sub hl [0, 1] rfl)
set_option maxHeartbeats 4000000 in
set_option maxRecDepth 100000 in
theorem m_X3_pushed (l : Launch) (D : va_G) (cI cJ cB cP cM cZ : ClassId) (h0 : Nat) (h_push : Nat) (h_reach : Nat) (Fh : Nat → Value) (f_push : Nat → Int32) (f_reach : Nat → Int32) (p0 : Int32) (p1 : Int32) (sz : Nat) (e_push : Fh 1 = .ref h_push) (e_reach : Fh 2 = .ref h_reach) : CI l yX3_pushed cX3_pushed 5 (some .int) { frames := 0, cells := 0, slots := 0, locals := 0 } (GG D cI cJ cB cP cM cZ) D [(h0, .inr (3, vL 10 Fh)), (h_push, .inl (cI, 4, .inl f_push)), (h_reach, .inl (cI, 4, .inl f_reach))] sz [.ref h0, .int p0, .int p1] (fun (r : Int32) (u : va_W) => u = [(h0, .inr (3, vL 10 Fh)), (h_push, .inl (cI, 4, .inl f_push)), (h_reach, .inl (cI, 4, .inl f_reach))]) := by
  refine CI_mk (by decide) (Nat.le_of_ble_eq_true rfl) ?_
  intro p e s m below meth c A ls E hAe hG hsz hP hD hA hS hl
  obtain ⟨hx, hb, hr, hw, hown, hlocks, hml, hnm⟩ := E
  have hK := hG.1
  have hl : lv_has ls 5 [(0, .ref h0), (1, .int p0), (2, .int p1)] := hl
  refine lv_iconst (v := 0) hx hb dX3_pushed_0 (by decide) ?_
  refine lv_istore_n (lv' := [(3, .int 0), (0, .ref h0), (1, .int p0), (2, .int p1)]) hx hb dX3_pushed_1 rfl hl (by decide) rfl (fun ls hl => ?_)
  refine lv_iconst (v := 0) hx hb dX3_pushed_2 (by decide) ?_
  refine lv_istore (lv' := [(4, .int 0), (3, .int 0), (0, .ref h0), (1, .int p0), (2, .int p1)]) hx hb dX3_pushed_3 hl (by decide) rfl (fun ls hl => ?_)
  refine mloop (α := (Int32) × (Int32)) (nL := 5) (D := D) (A := A) (H0 := s.heap) (fun a => (4 - a.1.toInt).toNat) (fun a => IR 0 4 a.1) (fun a => [(h0, .inr (3, vL 10 Fh)), (h_push, .inl (cI, 4, .inl f_push)), (h_reach, .inl (cI, 4, .inl f_reach))]) (fun a => [(4, .int a.1), (3, .int a.2), (0, .ref h0), (1, .int p0), (2, .int p1)]) (fun H locs ls => W p l e ({ frames := 0, cells := 0, slots := 0, locals := 0 } : Room) s m [.ref h0, .int p0, .int p1].toArray below meth c H locs 0 0 (MQ below (va_Qi (fun (r : Int32) (u : va_W) => u = [(h0, .inr (3, vL 10 Fh)), (h_push, .inl (cI, 4, .inl f_push)), (h_reach, .inl (cI, 4, .inl f_reach))]) (PO D A) A) [.ref h0, .int p0, .int p1].toArray s 0 0 A) (F0 m 5 ls [])) ?_ (0, 0) ⟨by decide, by decide⟩ _ _ _ hP hD hS hl
  rintro ⟨u1, u2⟩ i3 ih H locs ls hP hD hS hl
  have i3 : 0 ≤ u1.toInt ∧ u1.toInt ≤ 4 := i3
  have hP : va_P D vwCl [(h0, .inr (3, vL 10 Fh)), (h_push, .inl (cI, 4, .inl f_push)), (h_reach, .inl (cI, 4, .inl f_reach))] H := hP
  have hD : va_D A [(h0, .inr (3, vL 10 Fh)), (h_push, .inl (cI, 4, .inl f_push)), (h_reach, .inl (cI, 4, .inl f_reach))] := hD
  have hl : lv_has ls 5 [(4, .int u1), (3, .int u2), (0, .ref h0), (1, .int p0), (2, .int p1)] := hl
  refine lv_iload hx hb dX3_pushed_5 (lv_at hl 0 rfl) ?_
  refine lv_iconst (v := 4) hx hb dX3_pushed_7 (by decide) ?_
  refine lv_icmp_ge (tgt := 47) hx hb dX3_pushed_8 (by decide) (fun c4 => ?_) (fun c4 => ?_)
  · have dc4 : 4 ≤ u1.toInt := le_i (a := 4) (b := u1.toInt) rfl rfl c4
    have k5 : 4 ≤ u1.toInt ∧ u1.toInt ≤ 4 := ⟨Int.le_trans (Int.le_refl _) dc4, i3.2⟩
    refine lv_iload_n hx hb dX3_pushed_47 rfl (lv_at hl 1 rfl) ?_
    exact ret_i (v := u2) hx hb hr hlocks hS hP hD dX3_pushed_48 rfl (Nat.le_of_ble_eq_true rfl) (Nat.le_of_ble_eq_true rfl) rfl
  · have dc4 : u1.toInt < 4 := nle_i (a := 4) (b := u1.toInt) rfl rfl c4
    have k6 : 0 ≤ u1.toInt ∧ u1.toInt ≤ 3 := ⟨i3.1, up_lt dc4 (Int.le_refl _) (by decide)⟩
    refine lv_iload_n hx hb dX3_pushed_11 rfl (lv_at hl 3 rfl) ?_
    refine lv_iload hx hb dX3_pushed_12 (lv_at hl 0 rfl) ?_
    refine lv_ishr hx hb dX3_pushed_14 ?_
    refine lv_topi (fun v7 ev7 => ?_)
    refine lv_iconst (v := 1) hx hb dX3_pushed_15 (by decide) ?_
    refine lv_iand hx hb dX3_pushed_16 ?_
    refine lv_topi (fun v8 ev8 => ?_)
    have k9 : 0 ≤ v8.toInt ∧ v8.toInt ≤ 1 := by rw [ev8]; exact and_i v7 1 (by decide)
    refine lv_if_ne (tgt := 41) hx hb dX3_pushed_17 (by decide) (fun c10 => ?_) (fun c10 => ?_)
    · have dc10 : v8.toInt ≠ 0 := ne_i (a := v8.toInt) (b := 0) rfl rfl c10
      have k11 : 1 ≤ v8.toInt ∧ v8.toInt ≤ 1 := ⟨ne_lo dc10 k9.1 ⟨Int.le_refl _, Int.le_refl _⟩ (by decide), k9.2⟩
      obtain ⟨v12, ev12⟩ : ∃ z : Int32, z = u1 + 1 := ⟨_, rfl⟩
      have bv12 : v12.toInt = u1.toInt + 1 := by rw [ev12]; exact add_k rfl rfl k6 ⟨Int.le_refl _, Int.le_refl _⟩ (by decide)
      have k13 : 1 ≤ v12.toInt ∧ v12.toInt ≤ 4 := add_r bv12 k6 ⟨Int.le_refl _, Int.le_refl _⟩ (by decide)
      refine lv_iinc (v := v12) (lv' := [(4, .int v12), (3, .int u2), (0, .ref h0), (1, .int p0), (2, .int p1)]) hx hb dX3_pushed_41 hl (k := 0) rfl (by rw [ev12]; rfl) (by decide) rfl (fun ls hl => ?_)
      refine lv_goto (tgt := 5) hx hb dX3_pushed_44 (by decide) ?_
      exact ih (v12, u2) (ir_wk k13 (by decide) (by decide)) (by show (4 - v12.toInt).toNat < (4 - u1.toInt).toNat; omega) _ _ _ hP hD hS (lv_sub hl [0, 1, 2, 3, 4] rfl)
    · have dc10 : v8.toInt = 0 := eq_i (a := v8.toInt) (b := 0) rfl rfl c10
      have k14 : 0 ≤ v8.toInt ∧ v8.toInt ≤ 0 := ⟨k9.1, Int.le_trans (Int.le_of_eq dc10) (Int.le_refl _)⟩
      refine lv_iload_n hx hb dX3_pushed_20 rfl (lv_at hl 4 rfl) ?_
      refine lv_aload_n hx hb dX3_pushed_21 rfl (lv_at hl 2 rfl) ?_
      refine get_f (D := D) (ci := 3) (v := .ref h_reach) (C := RX3) (T := TX3) (N := 10) hx hb hw inAX3 hown hK hP 0 rfl rfl 2 (by decide) (hw _ q_911) (fun _ h9 => h9) e_reach dX3_pushed_22 ?_
      refine lv_iload hx hb dX3_pushed_25 (lv_at hl 0 rfl) ?_
      refine va_iald hx hb hK hP 2 0 rfl rfl (ix_k k6 (by decide) (by decide)) dX3_pushed_27 ?_
      refine lv_topi (fun v15 ev15 => ?_)
      refine lv_icmp_ge (tgt := 41) hx hb dX3_pushed_28 (by decide) (fun c16 => ?_) (fun c16 => ?_)
      · have dc16 : v15.toInt ≤ p1.toInt := le_i (a := v15.toInt) (b := p1.toInt) rfl rfl c16
        obtain ⟨v17, ev17⟩ : ∃ z : Int32, z = u1 + 1 := ⟨_, rfl⟩
        have bv17 : v17.toInt = u1.toInt + 1 := by rw [ev17]; exact add_k rfl rfl k6 ⟨Int.le_refl _, Int.le_refl _⟩ (by decide)
        have k18 : 1 ≤ v17.toInt ∧ v17.toInt ≤ 4 := add_r bv17 k6 ⟨Int.le_refl _, Int.le_refl _⟩ (by decide)
        refine lv_iinc (v := v17) (lv' := [(4, .int v17), (3, .int u2), (0, .ref h0), (1, .int p0), (2, .int p1)]) hx hb dX3_pushed_41 hl (k := 0) rfl (by rw [ev17]; rfl) (by decide) rfl (fun ls hl => ?_)
        refine lv_goto (tgt := 5) hx hb dX3_pushed_44 (by decide) ?_
        exact ih (v17, u2) (ir_wk k18 (by decide) (by decide)) (by show (4 - v17.toInt).toNat < (4 - u1.toInt).toNat; omega) _ _ _ hP hD hS (lv_sub hl [0, 1, 2, 3, 4] rfl)
      · have dc16 : p1.toInt < v15.toInt := nle_i (a := v15.toInt) (b := p1.toInt) rfl rfl c16
        have k19 : (-2147483648) ≤ p1.toInt ∧ p1.toInt ≤ 2147483646 := ⟨(ir_any _).1, up_lt dc16 (ir_any _).2 (by decide)⟩
        have k20 : (-2147483647) ≤ v15.toInt ∧ v15.toInt ≤ 2147483647 := ⟨lo_lt dc16 (ir_any _).1 (by decide), (ir_any _).2⟩
        refine lv_iload_n hx hb dX3_pushed_31 rfl (lv_at hl 1 rfl) ?_
        refine lv_aload_n hx hb dX3_pushed_32 rfl (lv_at hl 2 rfl) ?_
        refine get_f (D := D) (ci := 3) (v := .ref h_push) (C := RX3) (T := TX3) (N := 10) hx hb hw inAX3 hown hK hP 0 rfl rfl 1 (by decide) (hw _ q_910) (fun _ h9 => h9) e_push dX3_pushed_33 ?_
        refine lv_iload hx hb dX3_pushed_36 (lv_at hl 0 rfl) ?_
        refine va_iald hx hb hK hP 1 0 rfl rfl (ix_k k6 (by decide) (by decide)) dX3_pushed_38 ?_
        refine lv_topi (fun v21 ev21 => ?_)
        refine lv_iadd hx hb dX3_pushed_39 ?_
        refine lv_topi (fun v22 ev22 => ?_)
        refine lv_istore_n (lv' := [(3, .int v22), (4, .int u1), (0, .ref h0), (1, .int p0), (2, .int p1)]) hx hb dX3_pushed_40 rfl hl (by decide) rfl (fun ls hl => ?_)
        obtain ⟨v23, ev23⟩ : ∃ z : Int32, z = u1 + 1 := ⟨_, rfl⟩
        have bv23 : v23.toInt = u1.toInt + 1 := by rw [ev23]; exact add_k rfl rfl k6 ⟨Int.le_refl _, Int.le_refl _⟩ (by decide)
        have k24 : 1 ≤ v23.toInt ∧ v23.toInt ≤ 4 := add_r bv23 k6 ⟨Int.le_refl _, Int.le_refl _⟩ (by decide)
        refine lv_iinc (v := v23) (lv' := [(4, .int v23), (3, .int v22), (0, .ref h0), (1, .int p0), (2, .int p1)]) hx hb dX3_pushed_41 hl (k := 1) rfl (by rw [ev23]; rfl) (by decide) rfl (fun ls hl => ?_)
        refine lv_goto (tgt := 5) hx hb dX3_pushed_44 (by decide) ?_
        exact ih (v23, v22) (ir_wk k24 (by decide) (by decide)) (by show (4 - v23.toInt).toNat < (4 - u1.toInt).toNat; omega) _ _ _ hP hD hS (lv_sub hl [0, 1, 2, 3, 4] rfl)
set_option maxHeartbeats 4000000 in
set_option maxRecDepth 100000 in
theorem m_X9_bounded (l : Launch) (D : va_G) (cI cJ cB cP cM cZ : ClassId) (p0 : Int32) (sz : Nat)  : CI l yX9_bounded cX9_bounded 1 (some .int) { frames := 1, cells := 0, slots := 0, locals := 40 } (GG D cI cJ cB cP cM cZ) D [] sz [.int p0] (fun (r : Int32) (u : va_W) => IR 10 250 r ∧ u = []) := by
  refine CI_mk (by decide) (Nat.le_of_ble_eq_true rfl) ?_
  intro p e s m below meth c A ls E hAe hG hsz hP hD hA hS hl
  obtain ⟨hx, hb, hr, hw, hown, hlocks, hml, hnm⟩ := E
  have hK := hG.1
  have hl : lv_has ls 1 [(0, .int p0)] := hl
  refine lv_bipush (v := 10) hx hb dX9_bounded_0 (by decide) ?_
  refine lv_sipush (v := 250) hx hb dX9_bounded_2 (by decide) ?_
  refine lv_iload_n hx hb dX9_bounded_5 rfl (lv_at hl 0 rfl) ?_
  refine va_mmin hx hb (hml.trans hl.1.symm) hown (hw _ q_782) (hw _ q_783) (hw _ q_19) (hw _ q_784) (Nat.le_of_ble_eq_true rfl) (Nat.le_of_ble_eq_true rfl) (Nat.le_of_ble_eq_true rfl) (Nat.le_of_ble_eq_true rfl) dX9_bounded_6 ?_
  refine lv_topi (fun v1 ev1 => ?_)
  have k2 : (-2147483648) ≤ v1.toInt ∧ v1.toInt ≤ 250 := by rw [ev1]; exact mmin_k rfl rfl ⟨Int.le_refl _, Int.le_refl _⟩ (ir_any _) (by decide)
  refine va_mmax hx hb (hml.trans hl.1.symm) hown (hw _ q_785) (hw _ q_786) (hw _ q_19) (hw _ q_787) (Nat.le_of_ble_eq_true rfl) (Nat.le_of_ble_eq_true rfl) (Nat.le_of_ble_eq_true rfl) (Nat.le_of_ble_eq_true rfl) dX9_bounded_9 ?_
  refine lv_topi (fun v3 ev3 => ?_)
  have k4 : 10 ≤ v3.toInt ∧ v3.toInt ≤ 250 := by rw [ev3]; exact mmax_k rfl rfl ⟨Int.le_refl _, Int.le_refl _⟩ k2 (by decide)
  exact ret_i (v := v3) hx hb hr hlocks hS hP hD dX9_bounded_12 rfl (Nat.le_of_ble_eq_true rfl) (Nat.le_of_ble_eq_true rfl) ⟨k4, rfl⟩
set_option maxHeartbeats 4000000 in
set_option maxRecDepth 100000 in
theorem m_J6_bitCount_0f7a4 (l : Launch) (D : va_G) (cI cJ cB cP cM cZ : ClassId) (p0 : Int32) (sz : Nat)  : CI l yJ6_bitCount_0f7a4 cJ6_bitCount_0f7a4 1 (some .int) { frames := 0, cells := 0, slots := 0, locals := 0 } (GG D cI cJ cB cP cM cZ) D [] sz [.int p0] (fun (r : Int32) (u : va_W) => IR 0 63 r ∧ u = []) := by
  refine CI_mk (by decide) (Nat.le_of_ble_eq_true rfl) ?_
  intro p e s m below meth c A ls E hAe hG hsz hP hD hA hS hl
  obtain ⟨hx, hb, hr, hw, hown, hlocks, hml, hnm⟩ := E
  have hK := hG.1
  have hl : lv_has ls 1 [(0, .int p0)] := hl
  refine lv_iload_n hx hb dJ6_bitCount_0f7a4_0 rfl (lv_at hl 0 rfl) ?_
  refine lv_iload_n hx hb dJ6_bitCount_0f7a4_1 rfl (lv_at hl 0 rfl) ?_
  refine lv_iconst (v := 1) hx hb dJ6_bitCount_0f7a4_2 (by decide) ?_
  obtain ⟨v1, ev1⟩ : ∃ z : Int32, ((p0 : Int32).toUInt32 >>> ((1 : Int32).toUInt32 &&& Int32.toUInt32 31)).toInt32 = z := ⟨_, rfl⟩
  refine lv_iushr (v := v1) hx hb dJ6_bitCount_0f7a4_3 ev1 ?_
  refine lv_ldcw hx hb hown (hw _ q_971) dJ6_bitCount_0f7a4_4 ?_
  refine lv_iand hx hb dJ6_bitCount_0f7a4_7 ?_
  refine lv_topi (fun v2 ev2 => ?_)
  refine lv_isub hx hb dJ6_bitCount_0f7a4_8 ?_
  refine lv_topi (fun v3 ev3 => ?_)
  refine lv_istore_n (lv' := [(0, .int v3)]) hx hb dJ6_bitCount_0f7a4_9 rfl hl (by decide) rfl (fun ls hl => ?_)
  refine lv_iload_n hx hb dJ6_bitCount_0f7a4_10 rfl (lv_at hl 0 rfl) ?_
  refine lv_ldcw hx hb hown (hw _ q_972) dJ6_bitCount_0f7a4_11 ?_
  refine lv_iand hx hb dJ6_bitCount_0f7a4_14 ?_
  refine lv_topi (fun v4 ev4 => ?_)
  refine lv_iload_n hx hb dJ6_bitCount_0f7a4_15 rfl (lv_at hl 0 rfl) ?_
  refine lv_iconst (v := 2) hx hb dJ6_bitCount_0f7a4_16 (by decide) ?_
  obtain ⟨v5, ev5⟩ : ∃ z : Int32, ((v3 : Int32).toUInt32 >>> ((2 : Int32).toUInt32 &&& Int32.toUInt32 31)).toInt32 = z := ⟨_, rfl⟩
  refine lv_iushr (v := v5) hx hb dJ6_bitCount_0f7a4_17 ev5 ?_
  refine lv_ldcw hx hb hown (hw _ q_972) dJ6_bitCount_0f7a4_18 ?_
  refine lv_iand hx hb dJ6_bitCount_0f7a4_21 ?_
  refine lv_topi (fun v6 ev6 => ?_)
  refine lv_iadd hx hb dJ6_bitCount_0f7a4_22 ?_
  refine lv_topi (fun v7 ev7 => ?_)
  refine lv_istore_n (lv' := [(0, .int v7)]) hx hb dJ6_bitCount_0f7a4_23 rfl hl (by decide) rfl (fun ls hl => ?_)
  refine lv_iload_n hx hb dJ6_bitCount_0f7a4_24 rfl (lv_at hl 0 rfl) ?_
  refine lv_iload_n hx hb dJ6_bitCount_0f7a4_25 rfl (lv_at hl 0 rfl) ?_
  refine lv_iconst (v := 4) hx hb dJ6_bitCount_0f7a4_26 (by decide) ?_
  obtain ⟨v8, ev8⟩ : ∃ z : Int32, ((v7 : Int32).toUInt32 >>> ((4 : Int32).toUInt32 &&& Int32.toUInt32 31)).toInt32 = z := ⟨_, rfl⟩
  refine lv_iushr (v := v8) hx hb dJ6_bitCount_0f7a4_27 ev8 ?_
  refine lv_iadd hx hb dJ6_bitCount_0f7a4_28 ?_
  refine lv_topi (fun v9 ev9 => ?_)
  refine lv_ldcw hx hb hown (hw _ q_973) dJ6_bitCount_0f7a4_29 ?_
  refine lv_iand hx hb dJ6_bitCount_0f7a4_32 ?_
  refine lv_topi (fun v10 ev10 => ?_)
  refine lv_istore_n (lv' := [(0, .int v10)]) hx hb dJ6_bitCount_0f7a4_33 rfl hl (by decide) rfl (fun ls hl => ?_)
  refine lv_iload_n hx hb dJ6_bitCount_0f7a4_34 rfl (lv_at hl 0 rfl) ?_
  refine lv_iload_n hx hb dJ6_bitCount_0f7a4_35 rfl (lv_at hl 0 rfl) ?_
  refine lv_bipush (v := 8) hx hb dJ6_bitCount_0f7a4_36 (by decide) ?_
  obtain ⟨v11, ev11⟩ : ∃ z : Int32, ((v10 : Int32).toUInt32 >>> ((8 : Int32).toUInt32 &&& Int32.toUInt32 31)).toInt32 = z := ⟨_, rfl⟩
  refine lv_iushr (v := v11) hx hb dJ6_bitCount_0f7a4_38 ev11 ?_
  have k12 : 0 ≤ v11.toInt ∧ v11.toInt ≤ 16777215 := by rw [← ev11]; exact ushr8_i _
  refine lv_iadd hx hb dJ6_bitCount_0f7a4_39 ?_
  refine lv_topi (fun v13 ev13 => ?_)
  refine lv_istore_n (lv' := [(0, .int v13)]) hx hb dJ6_bitCount_0f7a4_40 rfl hl (by decide) rfl (fun ls hl => ?_)
  refine lv_iload_n hx hb dJ6_bitCount_0f7a4_41 rfl (lv_at hl 0 rfl) ?_
  refine lv_iload_n hx hb dJ6_bitCount_0f7a4_42 rfl (lv_at hl 0 rfl) ?_
  refine lv_bipush (v := 16) hx hb dJ6_bitCount_0f7a4_43 (by decide) ?_
  obtain ⟨v14, ev14⟩ : ∃ z : Int32, ((v13 : Int32).toUInt32 >>> ((16 : Int32).toUInt32 &&& Int32.toUInt32 31)).toInt32 = z := ⟨_, rfl⟩
  refine lv_iushr (v := v14) hx hb dJ6_bitCount_0f7a4_45 ev14 ?_
  refine lv_iadd hx hb dJ6_bitCount_0f7a4_46 ?_
  refine lv_topi (fun v15 ev15 => ?_)
  refine lv_istore_n (lv' := [(0, .int v15)]) hx hb dJ6_bitCount_0f7a4_47 rfl hl (by decide) rfl (fun ls hl => ?_)
  refine lv_iload_n hx hb dJ6_bitCount_0f7a4_48 rfl (lv_at hl 0 rfl) ?_
  refine lv_bipush (v := 63) hx hb dJ6_bitCount_0f7a4_49 (by decide) ?_
  refine lv_iand hx hb dJ6_bitCount_0f7a4_51 ?_
  refine lv_topi (fun v16 ev16 => ?_)
  have k17 : 0 ≤ v16.toInt ∧ v16.toInt ≤ 63 := by rw [ev16]; exact and_i v15 6 (by decide)
  exact ret_i (v := v16) hx hb hr hlocks hS hP hD dJ6_bitCount_0f7a4_52 rfl (Nat.le_of_ble_eq_true rfl) (Nat.le_of_ble_eq_true rfl) ⟨k17, rfl⟩
set_option maxHeartbeats 4000000 in
set_option maxRecDepth 100000 in
theorem m_X9_timeFor (l : Launch) (D : va_G) (cI cJ cB cP cM cZ : ClassId) (p0 : Int32) (p1 : Int32) (sz : Nat)  : CI l yX9_timeFor cX9_timeFor 2 (some .int) { frames := 0, cells := 0, slots := 0, locals := 0 } (GG D cI cJ cB cP cM cZ) D [] sz [.int p0, .int p1] (fun (r : Int32) (u : va_W) => u = []) := by
  refine CI_mk (by decide) (Nat.le_of_ble_eq_true rfl) ?_
  intro p e s m below meth c A ls E hAe hG hsz hP hD hA hS hl
  obtain ⟨hx, hb, hr, hw, hown, hlocks, hml, hnm⟩ := E
  have hK := hG.1
  have hl : lv_has ls 2 [(0, .int p0), (1, .int p1)] := hl
  refine lv_iload_n hx hb dX9_timeFor_0 rfl (lv_at hl 1 rfl) ?_
  refine lv_bipush (v := 10) hx hb dX9_timeFor_1 (by decide) ?_
  refine lv_icmp_ge (tgt := 10) hx hb dX9_timeFor_3 (by decide) (fun c1 => ?_) (fun c1 => ?_)
  · have dc1 : 10 ≤ p1.toInt := le_i (a := 10) (b := p1.toInt) rfl rfl c1
    have k2 : 10 ≤ p1.toInt ∧ p1.toInt ≤ 2147483647 := ⟨Int.le_trans (Int.le_refl _) dc1, (ir_any _).2⟩
    refine lv_iload_n hx hb dX9_timeFor_10 rfl (lv_at hl 0 rfl) ?_
    refine lv_sipush (v := 3000) hx hb dX9_timeFor_11 (by decide) ?_
    refine lv_imul hx hb dX9_timeFor_14 ?_
    refine lv_topi (fun v3 ev3 => ?_)
    refine lv_iload_n hx hb dX9_timeFor_15 rfl (lv_at hl 1 rfl) ?_
    refine lv_idiv hx hb dX9_timeFor_16 (nz_k k2 (by decide)) ?_
    refine lv_topi (fun v4 ev4 => ?_)
    exact ret_i (v := v4) hx hb hr hlocks hS hP hD dX9_timeFor_17 rfl (Nat.le_of_ble_eq_true rfl) (Nat.le_of_ble_eq_true rfl) rfl
  · have dc1 : p1.toInt < 10 := nle_i (a := 10) (b := p1.toInt) rfl rfl c1
    have k5 : (-2147483648) ≤ p1.toInt ∧ p1.toInt ≤ 9 := ⟨(ir_any _).1, up_lt dc1 (Int.le_refl _) (by decide)⟩
    refine lv_iconst (v := 0) hx hb dX9_timeFor_6 (by decide) ?_
    refine lv_goto (tgt := 17) hx hb dX9_timeFor_7 (by decide) ?_
    exact ret_i (v := 0) hx hb hr hlocks hS hP hD dX9_timeFor_17 rfl (Nat.le_of_ble_eq_true rfl) (Nat.le_of_ble_eq_true rfl) rfl
set_option maxHeartbeats 4000000 in
set_option maxRecDepth 100000 in
theorem m_X3_goOn (l : Launch) (D : va_G) (cI cJ cB cP cM cZ : ClassId) (h0 : Nat) (h_push : Nat) (h_reach : Nat) (h_drag : Nat) (h_ways : Nat) (h_nextWays : Nat) (h_nextStates : Nat) (Fh : Nat → Value) (x_nextCount : Int32) (f_push : Nat → Int32) (f_reach : Nat → Int32) (f_drag : Nat → Int32) (f_ways : Nat → Int64) (f_nextWays : Nat → Int64) (f_nextStates : Nat → Int32) (p0 : Int32) (p1 : Int32) (p2 : Int32) (sz : Nat) (e_push : Fh 1 = .ref h_push) (e_reach : Fh 2 = .ref h_reach) (e_drag : Fh 3 = .ref h_drag) (e_ways : Fh 4 = .ref h_ways) (e_nextWays : Fh 5 = .ref h_nextWays) (e_nextStates : Fh 7 = .ref h_nextStates) (e_nextCount : Fh 9 = .int x_nextCount) (i_x_nextCount : IR 0 7712 x_nextCount) (s_nextStates_0 : SG 0 7711 0 7711 f_nextStates) (i_p0 : IR 0 7711 p0) : CV l yX3_goOn cX3_goOn 15 none { frames := 2, cells := 0, slots := 0, locals := 66 } (GG D cI cJ cB cP cM cZ) D [(h0, .inr (3, vL 10 Fh)), (h_push, .inl (cI, 4, .inl f_push)), (h_reach, .inl (cI, 4, .inl f_reach)), (h_drag, .inl (cI, 16, .inl f_drag)), (h_ways, .inl (cJ, 7712, .inr (.inl f_ways))), (h_nextWays, .inl (cJ, 7712, .inr (.inl f_nextWays))), (h_nextStates, .inl (cI, 7712, .inl f_nextStates))] sz [.ref h0, .int p0, .int p1, .int p2] (fun (u : va_W) => ∃ (Gh : Nat → Value) (y_nextCount : Int32) (g_nextWays : Nat → Int64) (g_nextStates : Nat → Int32), SAME [9] Fh Gh ∧ Gh 9 = .int y_nextCount ∧ IR 0 7712 y_nextCount ∧ SG 0 7711 0 7711 g_nextStates ∧ u = [(h0, .inr (3, vL 10 Gh)), (h_push, .inl (cI, 4, .inl f_push)), (h_reach, .inl (cI, 4, .inl f_reach)), (h_drag, .inl (cI, 16, .inl f_drag)), (h_ways, .inl (cJ, 7712, .inr (.inl f_ways))), (h_nextWays, .inl (cJ, 7712, .inr (.inl g_nextWays))), (h_nextStates, .inl (cI, 7712, .inl g_nextStates))]) := by
  refine CV_mk (by decide) (Nat.le_of_ble_eq_true rfl) ?_
  intro p e s m below meth c A ls E hAe hG hsz hP hD hA hS hl
  obtain ⟨hx, hb, hr, hw, hown, hlocks, hml, hnm⟩ := E
  have hK := hG.1
  have i_x_nextCount : 0 ≤ x_nextCount.toInt ∧ x_nextCount.toInt ≤ 7712 := i_x_nextCount
  have i_p0 : 0 ≤ p0.toInt ∧ p0.toInt ≤ 7711 := i_p0
  have hl : lv_has ls 15 [(0, .ref h0), (1, .int p0), (2, .int p1), (3, .int p2)] := hl
  refine lv_aload_n hx hb dX3_goOn_0 rfl (lv_at hl 0 rfl) ?_
  refine get_f (D := D) (ci := 3) (v := .ref h_ways) (C := RX3) (T := TX3) (N := 10) hx hb hw inAX3 hown hK hP 0 rfl rfl 4 (by decide) (hw _ q_913) (fun _ h9 => h9) e_ways dX3_goOn_1 ?_
  refine lv_iload_n hx hb dX3_goOn_4 rfl (lv_at hl 1 rfl) ?_
  refine va_lald hx hb hK hP 4 1 rfl rfl (ix_k i_p0 (by decide) (by decide)) dX3_goOn_5 ?_
  refine lv_topl (fun v1 ev1 => ?_)
  refine lv_lstore (lv' := [(4, .long v1), (0, .ref h0), (1, .int p0), (2, .int p1), (3, .int p2)]) hx hb dX3_goOn_6 hl (by decide) rfl (fun ls hl => ?_)
  refine lv_iload_n hx hb dX3_goOn_8 rfl (lv_at hl 2 rfl) ?_
  refine lv_sipush (v := 241) hx hb dX3_goOn_9 (by decide) ?_
  refine lv_idiv hx hb dX3_goOn_12 (by decide) ?_
  refine lv_topi (fun v2 ev2 => ?_)
  have bv2 : v2.toInt = p0.toInt / 241 := by rw [ev2]; exact div_i rfl rfl (Int.le_trans (by decide) i_p0.1) (by decide)
  have k3 : 0 ≤ v2.toInt ∧ v2.toInt ≤ 31 := div_r bv2 i_p0 (by decide)
  refine lv_iconst (v := 1) hx hb dX3_goOn_13 (by decide) ?_
  refine lv_ishr hx hb dX3_goOn_14 ?_
  refine lv_topi (fun v4 ev4 => ?_)
  have k5 : 0 ≤ v4.toInt ∧ v4.toInt ≤ 15 := by rw [ev4]; exact shr_i (Int.le_trans (by decide) k3.1) (Int.le_trans k3.2 (by decide))
  refine lv_istore (lv' := [(6, .int v4), (4, .long v1), (0, .ref h0), (1, .int p0), (2, .int p1), (3, .int p2)]) hx hb dX3_goOn_15 hl (by decide) rfl (fun ls hl => ?_)
  refine lv_iload_n hx hb dX3_goOn_17 rfl (lv_at hl 3 rfl) ?_
  refine lv_sipush (v := 241) hx hb dX3_goOn_18 (by decide) ?_
  refine lv_idiv hx hb dX3_goOn_21 (by decide) ?_
  refine lv_topi (fun v6 ev6 => ?_)
  have bv6 : v6.toInt = p0.toInt / 241 := by rw [ev6]; exact div_i rfl rfl (Int.le_trans (by decide) i_p0.1) (by decide)
  have k7 : 0 ≤ v6.toInt ∧ v6.toInt ≤ 31 := div_r bv6 i_p0 (by decide)
  refine lv_iconst (v := 1) hx hb dX3_goOn_22 (by decide) ?_
  refine lv_iand hx hb dX3_goOn_23 ?_
  refine lv_topi (fun v8 ev8 => ?_)
  have k9 : 0 ≤ v8.toInt ∧ v8.toInt ≤ 1 := by rw [ev8]; exact and_i v6 1 (by decide)
  refine lv_iconst (v := 1) hx hb dX3_goOn_24 (by decide) ?_
  refine lv_icmp_ne (tgt := 32) hx hb dX3_goOn_25 (by decide) (fun c10 => ?_) (fun c10 => ?_)
  · have dc10 : v8.toInt ≠ 1 := ne_i (a := v8.toInt) (b := 1) rfl rfl c10
    have k11 : 0 ≤ v8.toInt ∧ v8.toInt ≤ 0 := ⟨k9.1, ne_hi dc10 k9.2 ⟨Int.le_refl _, Int.le_refl _⟩ (by decide)⟩
    refine lv_iconst (v := 0) hx hb dX3_goOn_32 (by decide) ?_
    refine lv_istore (lv' := [(7, .int 0), (6, .int v4), (4, .long v1), (0, .ref h0), (1, .int p0), (2, .int p1), (3, .int p2)]) hx hb dX3_goOn_33 hl (by decide) rfl (fun ls hl => ?_)
    refine lv_iload_n hx hb dX3_goOn_35 rfl (lv_at hl 4 rfl) ?_
    refine lv_sipush (v := 241) hx hb dX3_goOn_36 (by decide) ?_
    refine lv_irem hx hb dX3_goOn_39 (by decide) ?_
    refine lv_topi (fun v12 ev12 => ?_)
    have bv12 : v12.toInt = p0.toInt % 241 := by rw [ev12]; exact rem_i rfl rfl (Int.le_trans (by decide) i_p0.1) (by decide)
    have k13 : 0 ≤ v12.toInt ∧ v12.toInt ≤ 240 := rem_r bv12 (by decide)
    refine lv_bipush (v := 10) hx hb dX3_goOn_40 (by decide) ?_
    refine lv_iadd hx hb dX3_goOn_42 ?_
    refine lv_topi (fun v14 ev14 => ?_)
    have bv14 : v14.toInt = v12.toInt + 10 := by rw [ev14]; exact add_k rfl rfl k13 ⟨Int.le_refl _, Int.le_refl _⟩ (by decide)
    have k15 : 10 ≤ v14.toInt ∧ v14.toInt ≤ 250 := add_r bv14 k13 ⟨Int.le_refl _, Int.le_refl _⟩ (by decide)
    refine lv_istore (lv' := [(8, .int v14), (7, .int 0), (6, .int v4), (4, .long v1), (0, .ref h0), (1, .int p0), (2, .int p1), (3, .int p2)]) hx hb dX3_goOn_43 hl (by decide) rfl (fun ls hl => ?_)
    refine lv_iload hx hb dX3_goOn_45 (lv_at hl 0 rfl) ?_
    refine lv_aload_n hx hb dX3_goOn_47 rfl (lv_at hl 4 rfl) ?_
    refine lv_iload hx hb dX3_goOn_48 (lv_at hl 2 rfl) ?_
    refine lv_iload hx hb dX3_goOn_50 (lv_at hl 0 rfl) ?_
    refine call_Vi (wr := [(h_drag, .inl (cI, 16, .inl f_drag)), (h_ways, .inl (cJ, 7712, .inr (.inl f_ways))), (h_nextWays, .inl (cJ, 7712, .inr (.inl f_nextWays))), (h_nextStates, .inl (cI, 7712, .inl f_nextStates))]) (As := [.int v4, .int v14]) (rest := [.int v14]) hx hb hml hown hw (m_X3_pushed l D cI cJ cB cP cM cZ h0 h_push h_reach Fh f_push f_reach v4 v14 _ e_push e_reach) wV_X3_95_X3_pushed dX3_goOn_52 hK hP hD hS hA [0, 1, 2] [3, 4, 5, 6] rfl rfl (by decide) (by decide) (by decide) 0 3 rfl rfl GG.fb hG.at hl.1 rfl (Nat.le_of_ble_eq_true rfl) ⟨(Nat.le_of_ble_eq_true rfl), (Nat.le_of_ble_eq_true rfl)⟩ ⟨(Nat.le_of_ble_eq_true rfl), (Nat.le_of_ble_eq_true rfl)⟩ (fun r16 u H locs hp hP hD hS => ?_)
    obtain rfl := hp
    have hP : va_P D vwCl [(h_drag, .inl (cI, 16, .inl f_drag)), (h_ways, .inl (cJ, 7712, .inr (.inl f_ways))), (h_nextWays, .inl (cJ, 7712, .inr (.inl f_nextWays))), (h_nextStates, .inl (cI, 7712, .inl f_nextStates)), (h0, .inr (3, vL 10 Fh)), (h_push, .inl (cI, 4, .inl f_push)), (h_reach, .inl (cI, 4, .inl f_reach))] H := hP
    have hD : va_D A [(h_drag, .inl (cI, 16, .inl f_drag)), (h_ways, .inl (cJ, 7712, .inr (.inl f_ways))), (h_nextWays, .inl (cJ, 7712, .inr (.inl f_nextWays))), (h_nextStates, .inl (cI, 7712, .inl f_nextStates)), (h0, .inr (3, vL 10 Fh)), (h_push, .inl (cI, 4, .inl f_push)), (h_reach, .inl (cI, 4, .inl f_reach))] := hD
    refine W.widen (k := 0) (n := 0) (Nat.le_of_ble_eq_true rfl) (Nat.le_of_ble_eq_true rfl) ?_
    refine lv_iadd hx hb dX3_goOn_55 ?_
    refine lv_topi (fun v17 ev17 => ?_)
    refine lv_aload_n hx hb dX3_goOn_56 rfl (lv_at hl 4 rfl) ?_
    refine get_f (D := D) (ci := 3) (v := .ref h_drag) (C := RX3) (T := TX3) (N := 10) hx hb hw inAX3 hown hK hP 4 rfl rfl 3 (by decide) (hw _ q_912) (fun _ h9 => h9) e_drag dX3_goOn_57 ?_
    refine lv_iload hx hb dX3_goOn_60 (lv_at hl 2 rfl) ?_
    refine va_iald hx hb hK hP 0 0 rfl rfl (ix_k k5 (by decide) (by decide)) dX3_goOn_62 ?_
    refine lv_topi (fun v18 ev18 => ?_)
    refine lv_isub hx hb dX3_goOn_63 ?_
    refine lv_topi (fun v19 ev19 => ?_)
    refine call_Ti (wr := [(h_drag, .inl (cI, 16, .inl f_drag)), (h_ways, .inl (cJ, 7712, .inr (.inl f_ways))), (h_nextWays, .inl (cJ, 7712, .inr (.inl f_nextWays))), (h_nextStates, .inl (cI, 7712, .inl f_nextStates)), (h0, .inr (3, vL 10 Fh)), (h_push, .inl (cI, 4, .inl f_push)), (h_reach, .inl (cI, 4, .inl f_reach))]) (As := [.int v19]) (rest := []) hx hb hml hown hw (m_X9_bounded l D cI cJ cB cP cM cZ v19 _ ) wT_X9_bounded (hG.2.1 (.methodLinkNest "FourSledge$JumpSearch" 99 ⟨"FourSledge", "bounded", "(I)I"⟩ "FourSledge") (by decide +kernel)) dX3_goOn_64 hP hD hS hA [] [0, 1, 2, 3, 4, 5, 6] rfl rfl (by decide) (by decide) (by decide) GG.fb hG.at hl.1 rfl (Nat.le_of_ble_eq_true rfl) ⟨(Nat.le_of_ble_eq_true rfl), (Nat.le_of_ble_eq_true rfl)⟩ ⟨(Nat.le_of_ble_eq_true rfl), (Nat.le_of_ble_eq_true rfl)⟩ (fun r20 u H locs hp hP hD hS => ?_)
    obtain ⟨t21, rfl⟩ := hp
    have hP : va_P D vwCl [(h_drag, .inl (cI, 16, .inl f_drag)), (h_ways, .inl (cJ, 7712, .inr (.inl f_ways))), (h_nextWays, .inl (cJ, 7712, .inr (.inl f_nextWays))), (h_nextStates, .inl (cI, 7712, .inl f_nextStates)), (h0, .inr (3, vL 10 Fh)), (h_push, .inl (cI, 4, .inl f_push)), (h_reach, .inl (cI, 4, .inl f_reach))] H := hP
    have hD : va_D A [(h_drag, .inl (cI, 16, .inl f_drag)), (h_ways, .inl (cJ, 7712, .inr (.inl f_ways))), (h_nextWays, .inl (cJ, 7712, .inr (.inl f_nextWays))), (h_nextStates, .inl (cI, 7712, .inl f_nextStates)), (h0, .inr (3, vL 10 Fh)), (h_push, .inl (cI, 4, .inl f_push)), (h_reach, .inl (cI, 4, .inl f_reach))] := hD
    refine W.widen (k := 0) (n := 0) (Nat.le_of_ble_eq_true rfl) (Nat.le_of_ble_eq_true rfl) ?_
    refine lv_istore (lv' := [(9, .int r20), (8, .int v14), (7, .int 0), (6, .int v4), (4, .long v1), (0, .ref h0), (1, .int p0), (2, .int p1), (3, .int p2)]) hx hb dX3_goOn_67 hl (by decide) rfl (fun ls hl => ?_)
    refine lv_iconst (v := 4) hx hb dX3_goOn_69 (by decide) ?_
    refine lv_iload hx hb dX3_goOn_70 (lv_at hl 3 rfl) ?_
    refine call_Si (wr := [(h_drag, .inl (cI, 16, .inl f_drag)), (h_ways, .inl (cJ, 7712, .inr (.inl f_ways))), (h_nextWays, .inl (cJ, 7712, .inr (.inl f_nextWays))), (h_nextStates, .inl (cI, 7712, .inl f_nextStates)), (h0, .inr (3, vL 10 Fh)), (h_push, .inl (cI, 4, .inl f_push)), (h_reach, .inl (cI, 4, .inl f_reach))]) (As := [.int v4]) (rest := [.int 4]) hx hb hml hown hw (m_J6_bitCount_0f7a4 l D cI cJ cB cP cM cZ v4 _ ) wS_X3_103_J6_bitCount_0f7a4 dX3_goOn_72 hP hD hS hA [] [0, 1, 2, 3, 4, 5, 6] rfl rfl (by decide) (by decide) (by decide) GG.fb hG.at hl.1 rfl (Nat.le_of_ble_eq_true rfl) ⟨(Nat.le_of_ble_eq_true rfl), (Nat.le_of_ble_eq_true rfl)⟩ ⟨(Nat.le_of_ble_eq_true rfl), (Nat.le_of_ble_eq_true rfl)⟩ (fun r22 u H locs hp hP hD hS => ?_)
    obtain ⟨t23, rfl⟩ := hp
    have hP : va_P D vwCl [(h_drag, .inl (cI, 16, .inl f_drag)), (h_ways, .inl (cJ, 7712, .inr (.inl f_ways))), (h_nextWays, .inl (cJ, 7712, .inr (.inl f_nextWays))), (h_nextStates, .inl (cI, 7712, .inl f_nextStates)), (h0, .inr (3, vL 10 Fh)), (h_push, .inl (cI, 4, .inl f_push)), (h_reach, .inl (cI, 4, .inl f_reach))] H := hP
    have hD : va_D A [(h_drag, .inl (cI, 16, .inl f_drag)), (h_ways, .inl (cJ, 7712, .inr (.inl f_ways))), (h_nextWays, .inl (cJ, 7712, .inr (.inl f_nextWays))), (h_nextStates, .inl (cI, 7712, .inl f_nextStates)), (h0, .inr (3, vL 10 Fh)), (h_push, .inl (cI, 4, .inl f_push)), (h_reach, .inl (cI, 4, .inl f_reach))] := hD
    refine W.widen (k := 0) (n := 0) (Nat.le_of_ble_eq_true rfl) (Nat.le_of_ble_eq_true rfl) ?_
    refine lv_isub hx hb dX3_goOn_75 ?_
    refine lv_topi (fun v24 ev24 => ?_)
    have bv24 : v24.toInt = 4 - r22.toInt := by rw [ev24]; exact sub_k rfl rfl ⟨Int.le_refl _, Int.le_refl _⟩ t23 (by decide)
    have k25 : (-59) ≤ v24.toInt ∧ v24.toInt ≤ 4 := sub_r bv24 ⟨Int.le_refl _, Int.le_refl _⟩ t23 (by decide)
    refine lv_istore (lv' := [(10, .int v24), (9, .int r20), (8, .int v14), (7, .int 0), (6, .int v4), (4, .long v1), (0, .ref h0), (1, .int p0), (2, .int p1), (3, .int p2)]) hx hb dX3_goOn_76 hl (by decide) rfl (fun ls hl => ?_)
    refine lv_iload hx hb dX3_goOn_78 (lv_at hl 0 rfl) ?_
    refine lv_iload_n hx hb dX3_goOn_80 rfl (lv_at hl 9 rfl) ?_
    refine lv_icmp_gt (tgt := 106) hx hb dX3_goOn_81 (by decide) (fun c26 => ?_) (fun c26 => ?_)
    · have dc26 : p2.toInt < v24.toInt := lt_i (a := p2.toInt) (b := v24.toInt) rfl rfl c26
      have k27 : (-2147483648) ≤ p2.toInt ∧ p2.toInt ≤ 3 := ⟨(ir_any _).1, up_lt dc26 k25.2 (by decide)⟩
      refine lv_iconst (v := 0) hx hb dX3_goOn_106 (by decide) ?_
      refine lv_istore (lv' := [(11, .int 0), (10, .int v24), (9, .int r20), (8, .int v14), (7, .int 0), (6, .int v4), (4, .long v1), (0, .ref h0), (1, .int p0), (2, .int p1), (3, .int p2)]) hx hb dX3_goOn_107 hl (by decide) rfl (fun ls hl => ?_)
      refine mloop (α := (Int32) × (Nat → Int64) × (Nat → Int32) × (Nat → Value) × (Int32)) (nL := 15) (D := D) (A := A) (H0 := s.heap) (fun a => (4 - a.1.toInt).toNat) (fun a => IR 0 4 a.1 ∧ SG 0 7711 0 7711 a.2.2.1 ∧ SAME [9] Fh a.2.2.2.1 ∧ a.2.2.2.1 9 = .int a.2.2.2.2 ∧ IR 0 7712 a.2.2.2.2) (fun a => [(h_drag, .inl (cI, 16, .inl f_drag)), (h_ways, .inl (cJ, 7712, .inr (.inl f_ways))), (h_nextWays, .inl (cJ, 7712, .inr (.inl a.2.1))), (h_nextStates, .inl (cI, 7712, .inl a.2.2.1)), (h0, .inr (3, vL 10 a.2.2.2.1)), (h_push, .inl (cI, 4, .inl f_push)), (h_reach, .inl (cI, 4, .inl f_reach))]) (fun a => [(11, .int a.1), (10, .int v24), (9, .int r20), (8, .int v14), (7, .int 0), (6, .int v4), (4, .long v1), (0, .ref h0), (1, .int p0), (2, .int p1), (3, .int p2)]) (fun H locs ls => W p l e ({ frames := 2, cells := 0, slots := 0, locals := 66 } : Room) s m [.ref h0, .int p0, .int p1, .int p2].toArray below meth c H locs 0 0 (MQ below (va_Qv (fun (u : va_W) => ∃ (Gh : Nat → Value) (y_nextCount : Int32) (g_nextWays : Nat → Int64) (g_nextStates : Nat → Int32), SAME [9] Fh Gh ∧ Gh 9 = .int y_nextCount ∧ IR 0 7712 y_nextCount ∧ SG 0 7711 0 7711 g_nextStates ∧ u = [(h0, .inr (3, vL 10 Gh)), (h_push, .inl (cI, 4, .inl f_push)), (h_reach, .inl (cI, 4, .inl f_reach)), (h_drag, .inl (cI, 16, .inl f_drag)), (h_ways, .inl (cJ, 7712, .inr (.inl f_ways))), (h_nextWays, .inl (cJ, 7712, .inr (.inl g_nextWays))), (h_nextStates, .inl (cI, 7712, .inl g_nextStates))]) (PO D A) A) [.ref h0, .int p0, .int p1, .int p2].toArray s 0 0 A) (F0 m 109 ls [])) ?_ (0, f_nextWays, f_nextStates, Fh, x_nextCount) ⟨⟨by decide, by decide⟩, s_nextStates_0, SAME.rf, e_nextCount, i_x_nextCount⟩ _ _ _ hP hD hS hl
      rintro ⟨u28, w29, w30, G31, u32⟩ ⟨i33, i34, i35, i36, i37⟩ ih H locs ls hP hD hS hl
      have i33 : 0 ≤ u28.toInt ∧ u28.toInt ≤ 4 := i33
      have i37 : 0 ≤ u32.toInt ∧ u32.toInt ≤ 7712 := i37
      have hP : va_P D vwCl [(h_drag, .inl (cI, 16, .inl f_drag)), (h_ways, .inl (cJ, 7712, .inr (.inl f_ways))), (h_nextWays, .inl (cJ, 7712, .inr (.inl w29))), (h_nextStates, .inl (cI, 7712, .inl w30)), (h0, .inr (3, vL 10 G31)), (h_push, .inl (cI, 4, .inl f_push)), (h_reach, .inl (cI, 4, .inl f_reach))] H := hP
      have hD : va_D A [(h_drag, .inl (cI, 16, .inl f_drag)), (h_ways, .inl (cJ, 7712, .inr (.inl f_ways))), (h_nextWays, .inl (cJ, 7712, .inr (.inl w29))), (h_nextStates, .inl (cI, 7712, .inl w30)), (h0, .inr (3, vL 10 G31)), (h_push, .inl (cI, 4, .inl f_push)), (h_reach, .inl (cI, 4, .inl f_reach))] := hD
      have hl : lv_has ls 15 [(11, .int u28), (10, .int v24), (9, .int r20), (8, .int v14), (7, .int 0), (6, .int v4), (4, .long v1), (0, .ref h0), (1, .int p0), (2, .int p1), (3, .int p2)] := hl
      refine lv_iload hx hb dX3_goOn_109 (lv_at hl 0 rfl) ?_
      refine lv_iconst (v := 4) hx hb dX3_goOn_111 (by decide) ?_
      refine lv_icmp_ge (tgt := 215) hx hb dX3_goOn_112 (by decide) (fun c38 => ?_) (fun c38 => ?_)
      · have dc38 : 4 ≤ u28.toInt := le_i (a := 4) (b := u28.toInt) rfl rfl c38
        have k39 : 4 ≤ u28.toInt ∧ u28.toInt ≤ 4 := ⟨Int.le_trans (Int.le_refl _) dc38, i33.2⟩
        exact ret_v hx hb hr hlocks hS (hP.sub (ws' := [(h0, .inr (3, vL 10 G31)), (h_push, .inl (cI, 4, .inl f_push)), (h_reach, .inl (cI, 4, .inl f_reach)), (h_drag, .inl (cI, 16, .inl f_drag)), (h_ways, .inl (cJ, 7712, .inr (.inl f_ways))), (h_nextWays, .inl (cJ, 7712, .inr (.inl w29))), (h_nextStates, .inl (cI, 7712, .inl w30))]) [4, 5, 6, 0, 1, 2, 3] rfl) (hD.sub (ws' := [(h0, .inr (3, vL 10 G31)), (h_push, .inl (cI, 4, .inl f_push)), (h_reach, .inl (cI, 4, .inl f_reach)), (h_drag, .inl (cI, 16, .inl f_drag)), (h_ways, .inl (cJ, 7712, .inr (.inl f_ways))), (h_nextWays, .inl (cJ, 7712, .inr (.inl w29))), (h_nextStates, .inl (cI, 7712, .inl w30))]) [4, 5, 6, 0, 1, 2, 3] (by decide) rfl) dX3_goOn_215 (Nat.le_of_ble_eq_true rfl) (Nat.le_of_ble_eq_true rfl) ⟨G31, u32, w29, w30, (SAME.tr SAME.rf i35 (by decide)), i36, i37, i34, rfl⟩
      · have dc38 : u28.toInt < 4 := nle_i (a := 4) (b := u28.toInt) rfl rfl c38
        have k40 : 0 ≤ u28.toInt ∧ u28.toInt ≤ 3 := ⟨i33.1, up_lt dc38 (Int.le_refl _) (by decide)⟩
        refine lv_iload hx hb dX3_goOn_115 (lv_at hl 5 rfl) ?_
        refine lv_iload hx hb dX3_goOn_117 (lv_at hl 0 rfl) ?_
        refine lv_ishr hx hb dX3_goOn_119 ?_
        refine lv_topi (fun v41 ev41 => ?_)
        refine lv_iconst (v := 1) hx hb dX3_goOn_120 (by decide) ?_
        refine lv_iand hx hb dX3_goOn_121 ?_
        refine lv_topi (fun v42 ev42 => ?_)
        have k43 : 0 ≤ v42.toInt ∧ v42.toInt ≤ 1 := by rw [ev42]; exact and_i v41 1 (by decide)
        refine lv_if_ne (tgt := 209) hx hb dX3_goOn_122 (by decide) (fun c44 => ?_) (fun c44 => ?_)
        · have dc44 : v42.toInt ≠ 0 := ne_i (a := v42.toInt) (b := 0) rfl rfl c44
          have k45 : 1 ≤ v42.toInt ∧ v42.toInt ≤ 1 := ⟨ne_lo dc44 k43.1 ⟨Int.le_refl _, Int.le_refl _⟩ (by decide), k43.2⟩
          obtain ⟨v46, ev46⟩ : ∃ z : Int32, z = u28 + 1 := ⟨_, rfl⟩
          have bv46 : v46.toInt = u28.toInt + 1 := by rw [ev46]; exact add_k rfl rfl k40 ⟨Int.le_refl _, Int.le_refl _⟩ (by decide)
          have k47 : 1 ≤ v46.toInt ∧ v46.toInt ≤ 4 := add_r bv46 k40 ⟨Int.le_refl _, Int.le_refl _⟩ (by decide)
          refine lv_iinc (v := v46) (lv' := [(11, .int v46), (10, .int v24), (9, .int r20), (8, .int v14), (7, .int 0), (6, .int v4), (4, .long v1), (0, .ref h0), (1, .int p0), (2, .int p1), (3, .int p2)]) hx hb dX3_goOn_209 hl (k := 0) rfl (by rw [ev46]; rfl) (by decide) rfl (fun ls hl => ?_)
          refine lv_goto (tgt := 109) hx hb dX3_goOn_212 (by decide) ?_
          exact ih (v46, w29, w30, G31, u32) ⟨(ir_wk k47 (by decide) (by decide)), i34, (SAME.tr SAME.rf i35 (by decide)), i36, i37⟩ (by show (4 - v46.toInt).toNat < (4 - u28.toInt).toNat; omega) _ _ _ hP hD hS (lv_sub hl [0, 1, 2, 3, 4, 5, 6, 7, 8, 9, 10] rfl)
        · have dc44 : v42.toInt = 0 := eq_i (a := v42.toInt) (b := 0) rfl rfl c44
          have k48 : 0 ≤ v42.toInt ∧ v42.toInt ≤ 0 := ⟨k43.1, Int.le_trans (Int.le_of_eq dc44) (Int.le_refl _)⟩
          refine lv_iload hx hb dX3_goOn_125 (lv_at hl 2 rfl) ?_
          refine lv_aload_n hx hb dX3_goOn_127 rfl (lv_at hl 7 rfl) ?_
          have n49 : G31 2 = .ref h_reach := (SAME.at i35 (by decide) e_reach)
          refine get_f (D := D) (ci := 3) (v := .ref h_reach) (C := RX3) (T := TX3) (N := 10) hx hb hw inAX3 hown hK hP 4 rfl rfl 2 (by decide) (hw _ q_911) (fun _ h9 => h9) n49 dX3_goOn_128 ?_
          refine lv_iload hx hb dX3_goOn_131 (lv_at hl 0 rfl) ?_
          refine va_iald hx hb hK hP 6 0 rfl rfl (ix_k k40 (by decide) (by decide)) dX3_goOn_133 ?_
          refine lv_topi (fun v50 ev50 => ?_)
          refine lv_bipush (v := 20) hx hb dX3_goOn_134 (by decide) ?_
          refine lv_iadd hx hb dX3_goOn_136 ?_
          refine lv_topi (fun v51 ev51 => ?_)
          refine lv_icmp_gt (tgt := 209) hx hb dX3_goOn_137 (by decide) (fun c52 => ?_) (fun c52 => ?_)
          · have dc52 : v51.toInt < r20.toInt := lt_i (a := v51.toInt) (b := r20.toInt) rfl rfl c52
            have k53 : (-2147483648) ≤ v51.toInt ∧ v51.toInt ≤ 249 := ⟨(ir_any _).1, up_lt dc52 t21.2 (by decide)⟩
            obtain ⟨v54, ev54⟩ : ∃ z : Int32, z = u28 + 1 := ⟨_, rfl⟩
            have bv54 : v54.toInt = u28.toInt + 1 := by rw [ev54]; exact add_k rfl rfl k40 ⟨Int.le_refl _, Int.le_refl _⟩ (by decide)
            have k55 : 1 ≤ v54.toInt ∧ v54.toInt ≤ 4 := add_r bv54 k40 ⟨Int.le_refl _, Int.le_refl _⟩ (by decide)
            refine lv_iinc (v := v54) (lv' := [(11, .int v54), (10, .int v24), (9, .int r20), (8, .int v14), (7, .int 0), (6, .int v4), (4, .long v1), (0, .ref h0), (1, .int p0), (2, .int p1), (3, .int p2)]) hx hb dX3_goOn_209 hl (k := 0) rfl (by rw [ev54]; rfl) (by decide) rfl (fun ls hl => ?_)
            refine lv_goto (tgt := 109) hx hb dX3_goOn_212 (by decide) ?_
            exact ih (v54, w29, w30, G31, u32) ⟨(ir_wk k55 (by decide) (by decide)), i34, (SAME.tr SAME.rf i35 (by decide)), i36, i37⟩ (by show (4 - v54.toInt).toNat < (4 - u28.toInt).toNat; omega) _ _ _ hP hD hS (lv_sub hl [0, 1, 2, 3, 4, 5, 6, 7, 8, 9, 10] rfl)
          · have dc52 : r20.toInt ≤ v51.toInt := nlt_i (a := v51.toInt) (b := r20.toInt) rfl rfl c52
            have k56 : 10 ≤ v51.toInt ∧ v51.toInt ≤ 2147483647 := ⟨Int.le_trans t21.1 dc52, (ir_any _).2⟩
            refine lv_iload hx hb dX3_goOn_140 (lv_at hl 2 rfl) ?_
            refine lv_iload hx hb dX3_goOn_142 (lv_at hl 4 rfl) ?_
            refine lv_if_eq (tgt := 152) hx hb dX3_goOn_144 (by decide) (fun _ => ?_) (fun g => absurd (by decide) g)
            refine lv_iconst (v := 2) hx hb dX3_goOn_152 (by decide) ?_
            refine lv_isub hx hb dX3_goOn_153 ?_
            refine lv_topi (fun v57 ev57 => ?_)
            have bv57 : v57.toInt = r20.toInt - 2 := by rw [ev57]; exact sub_k rfl rfl t21 ⟨Int.le_refl _, Int.le_refl _⟩ (by decide)
            have k58 : 8 ≤ v57.toInt ∧ v57.toInt ≤ 248 := sub_r bv57 t21 ⟨Int.le_refl _, Int.le_refl _⟩ (by decide)
            refine call_Ti (wr := [(h_drag, .inl (cI, 16, .inl f_drag)), (h_ways, .inl (cJ, 7712, .inr (.inl f_ways))), (h_nextWays, .inl (cJ, 7712, .inr (.inl w29))), (h_nextStates, .inl (cI, 7712, .inl w30)), (h0, .inr (3, vL 10 G31)), (h_push, .inl (cI, 4, .inl f_push)), (h_reach, .inl (cI, 4, .inl f_reach))]) (As := [.int v57]) (rest := []) hx hb hml hown hw (m_X9_bounded l D cI cJ cB cP cM cZ v57 _ ) wT_X9_bounded (hG.2.1 (.methodLinkNest "FourSledge$JumpSearch" 99 ⟨"FourSledge", "bounded", "(I)I"⟩ "FourSledge") (by decide +kernel)) dX3_goOn_154 hP hD hS hA [] [0, 1, 2, 3, 4, 5, 6] rfl rfl (by decide) (by decide) (by decide) GG.fb hG.at hl.1 rfl (Nat.le_of_ble_eq_true rfl) ⟨(Nat.le_of_ble_eq_true rfl), (Nat.le_of_ble_eq_true rfl)⟩ ⟨(Nat.le_of_ble_eq_true rfl), (Nat.le_of_ble_eq_true rfl)⟩ (fun r59 u H locs hp hP hD hS => ?_)
            obtain ⟨t60, rfl⟩ := hp
            have hP : va_P D vwCl [(h_drag, .inl (cI, 16, .inl f_drag)), (h_ways, .inl (cJ, 7712, .inr (.inl f_ways))), (h_nextWays, .inl (cJ, 7712, .inr (.inl w29))), (h_nextStates, .inl (cI, 7712, .inl w30)), (h0, .inr (3, vL 10 G31)), (h_push, .inl (cI, 4, .inl f_push)), (h_reach, .inl (cI, 4, .inl f_reach))] H := hP
            have hD : va_D A [(h_drag, .inl (cI, 16, .inl f_drag)), (h_ways, .inl (cJ, 7712, .inr (.inl f_ways))), (h_nextWays, .inl (cJ, 7712, .inr (.inl w29))), (h_nextStates, .inl (cI, 7712, .inl w30)), (h0, .inr (3, vL 10 G31)), (h_push, .inl (cI, 4, .inl f_push)), (h_reach, .inl (cI, 4, .inl f_reach))] := hD
            refine W.widen (k := 0) (n := 0) (Nat.le_of_ble_eq_true rfl) (Nat.le_of_ble_eq_true rfl) ?_
            refine lv_istore (lv' := [(12, .int r59), (11, .int u28), (10, .int v24), (9, .int r20), (8, .int v14), (7, .int 0), (6, .int v4), (4, .long v1), (0, .ref h0), (1, .int p0), (2, .int p1), (3, .int p2)]) hx hb dX3_goOn_157 hl (by decide) rfl (fun ls hl => ?_)
            refine lv_bipush (v := 39) hx hb dX3_goOn_159 (by decide) ?_
            refine lv_iload_n hx hb dX3_goOn_161 rfl (lv_at hl 10 rfl) ?_
            refine lv_isub hx hb dX3_goOn_162 ?_
            refine lv_topi (fun v61 ev61 => ?_)
            refine lv_iconst (v := 4) hx hb dX3_goOn_163 (by decide) ?_
            refine lv_imul hx hb dX3_goOn_164 ?_
            refine lv_topi (fun v62 ev62 => ?_)
            refine lv_iload hx hb dX3_goOn_165 (lv_at hl 1 rfl) ?_
            refine lv_iadd hx hb dX3_goOn_167 ?_
            refine lv_topi (fun v63 ev63 => ?_)
            obtain ⟨v64, ev64⟩ : ∃ z : Int64, (v63 : Int32).toInt64 = z := ⟨_, rfl⟩
            refine lv_i2l (v := v64) hx hb dX3_goOn_168 ev64 ?_
            refine lv_bipush (v := 8) hx hb dX3_goOn_169 (by decide) ?_
            refine lv_iload hx hb dX3_goOn_171 (lv_at hl 2 rfl) ?_
            refine lv_iconst (v := 1) hx hb dX3_goOn_173 (by decide) ?_
            refine lv_isub hx hb dX3_goOn_174 ?_
            refine lv_topi (fun v65 ev65 => ?_)
            have bv65 : v65.toInt = v24.toInt - 1 := by rw [ev65]; exact sub_k rfl rfl k25 ⟨Int.le_refl _, Int.le_refl _⟩ (by decide)
            have k66 : (-60) ≤ v65.toInt ∧ v65.toInt ≤ 3 := sub_r bv65 k25 ⟨Int.le_refl _, Int.le_refl _⟩ (by decide)
            refine lv_imul hx hb dX3_goOn_175 ?_
            refine lv_topi (fun v67 ev67 => ?_)
            have bv67 : v67.toInt = 8 * v65.toInt := by rw [ev67]; exact kmul_k rfl rfl (by decide) k66 (by decide)
            have k68 : (-480) ≤ v67.toInt ∧ v67.toInt ≤ 24 := kmul_r bv67 (by decide) k66 (by decide)
            obtain ⟨v69, ev69⟩ : ∃ z : Int64, (v64 : Int64) <<< ((v67 : Int32).toInt64 &&& 63) = z := ⟨_, rfl⟩
            refine lv_lshl (v := v69) hx hb dX3_goOn_176 ev69 ?_
            refine lv_lstore (lv' := [(13, .long v69), (12, .int r59), (11, .int u28), (10, .int v24), (9, .int r20), (8, .int v14), (7, .int 0), (6, .int v4), (4, .long v1), (0, .ref h0), (1, .int p0), (2, .int p1), (3, .int p2)]) hx hb dX3_goOn_177 hl (by decide) rfl (fun ls hl => ?_)
            refine lv_aload_n hx hb dX3_goOn_179 rfl (lv_at hl 9 rfl) ?_
            refine lv_iload hx hb dX3_goOn_180 (lv_at hl 7 rfl) ?_
            refine lv_iconst (v := 1) hx hb dX3_goOn_182 (by decide) ?_
            refine lv_iload hx hb dX3_goOn_183 (lv_at hl 2 rfl) ?_
            refine lv_ishl hx hb dX3_goOn_185 ?_
            refine lv_topi (fun v70 ev70 => ?_)
            have k71 : 1 ≤ v70.toInt ∧ v70.toInt ≤ 8 := by rw [ev70]; exact shl1_i (Int.le_trans (by decide) k40.1) (Int.le_trans k40.2 (by decide))
            refine lv_ior hx hb dX3_goOn_186 ?_
            refine lv_topi (fun v72 ev72 => ?_)
            have k73 : 0 ≤ v72.toInt ∧ v72.toInt ≤ 15 := by rw [ev72]; exact or_ik (ir_wk k5 (by decide) (by decide)) (ir_wk k71 (by decide) (by decide))
            refine lv_iconst (v := 1) hx hb dX3_goOn_187 (by decide) ?_
            refine lv_iload hx hb dX3_goOn_188 (lv_at hl 1 rfl) ?_
            refine lv_lload hx hb dX3_goOn_190 (lv_at hl 8 rfl) ?_
            refine lv_iconst (v := 1) hx hb dX3_goOn_192 (by decide) ?_
            refine lv_iload hx hb dX3_goOn_193 (lv_at hl 1 rfl) ?_
            refine call_Ti (wr := [(h_drag, .inl (cI, 16, .inl f_drag)), (h_ways, .inl (cJ, 7712, .inr (.inl f_ways))), (h_nextWays, .inl (cJ, 7712, .inr (.inl w29))), (h_nextStates, .inl (cI, 7712, .inl w30)), (h0, .inr (3, vL 10 G31)), (h_push, .inl (cI, 4, .inl f_push)), (h_reach, .inl (cI, 4, .inl f_reach))]) (As := [.int 1, .int r59]) (rest := [.long v1, .int r59, .int 1, .int v72, .ref h0]) hx hb hml hown hw (m_X9_timeFor l D cI cJ cB cP cM cZ 1 r59 _ ) wT_X9_timeFor (hG.2.1 (.methodLinkNest "FourSledge$JumpSearch" 108 ⟨"FourSledge", "timeFor", "(II)I"⟩ "FourSledge") (by decide +kernel)) dX3_goOn_195 hP hD hS hA [] [0, 1, 2, 3, 4, 5, 6] rfl rfl (by decide) (by decide) (by decide) GG.fb hG.at hl.1 rfl (Nat.le_of_ble_eq_true rfl) ⟨(Nat.le_of_ble_eq_true rfl), (Nat.le_of_ble_eq_true rfl)⟩ ⟨(Nat.le_of_ble_eq_true rfl), (Nat.le_of_ble_eq_true rfl)⟩ (fun r74 u H locs hp hP hD hS => ?_)
            obtain rfl := hp
            have hP : va_P D vwCl [(h_drag, .inl (cI, 16, .inl f_drag)), (h_ways, .inl (cJ, 7712, .inr (.inl f_ways))), (h_nextWays, .inl (cJ, 7712, .inr (.inl w29))), (h_nextStates, .inl (cI, 7712, .inl w30)), (h0, .inr (3, vL 10 G31)), (h_push, .inl (cI, 4, .inl f_push)), (h_reach, .inl (cI, 4, .inl f_reach))] H := hP
            have hD : va_D A [(h_drag, .inl (cI, 16, .inl f_drag)), (h_ways, .inl (cJ, 7712, .inr (.inl f_ways))), (h_nextWays, .inl (cJ, 7712, .inr (.inl w29))), (h_nextStates, .inl (cI, 7712, .inl w30)), (h0, .inr (3, vL 10 G31)), (h_push, .inl (cI, 4, .inl f_push)), (h_reach, .inl (cI, 4, .inl f_reach))] := hD
            refine W.widen (k := 0) (n := 0) (Nat.le_of_ble_eq_true rfl) (Nat.le_of_ble_eq_true rfl) ?_
            obtain ⟨v75, ev75⟩ : ∃ z : Int64, (r74 : Int32).toInt64 = z := ⟨_, rfl⟩
            refine lv_i2l (v := v75) hx hb dX3_goOn_198 ev75 ?_
            refine lv_bipush (v := 32) hx hb dX3_goOn_199 (by decide) ?_
            obtain ⟨v76, ev76⟩ : ∃ z : Int64, (v75 : Int64) <<< ((32 : Int32).toInt64 &&& 63) = z := ⟨_, rfl⟩
            refine lv_lshl (v := v76) hx hb dX3_goOn_201 ev76 ?_
            refine lv_ladd hx hb dX3_goOn_202 ?_
            refine lv_topl (fun v77 ev77 => ?_)
            refine lv_lload hx hb dX3_goOn_203 (lv_at hl 0 rfl) ?_
            refine lv_ladd hx hb dX3_goOn_205 ?_
            refine lv_topl (fun v78 ev78 => ?_)
            have n79 : G31 5 = .ref h_nextWays := (SAME.at i35 (by decide) e_nextWays)
            have n80 : G31 7 = .ref h_nextStates := (SAME.at i35 (by decide) e_nextStates)
            refine call_Vv (wr := [(h_drag, .inl (cI, 16, .inl f_drag)), (h_ways, .inl (cJ, 7712, .inr (.inl f_ways))), (h_push, .inl (cI, 4, .inl f_push)), (h_reach, .inl (cI, 4, .inl f_reach))]) (As := [.int v72, .int 1, .int r59, .long v78]) (rest := []) hx hb hml hown hw (m_X3_reachState l D cI cJ cB cP cM cZ h0 h_nextWays h_nextStates G31 u32 w29 w30 v72 1 r59 v78 _ n79 n80 i36 i37 i34 k73 ⟨by decide, by decide⟩ t60) wV_X3_66_X3_reachState dX3_goOn_206 hK hP hD hS hA [4, 2, 3] [0, 1, 5, 6] rfl rfl (by decide) (by decide) (by decide) 0 3 rfl rfl GG.fb hG.at hl.1 rfl (Nat.le_of_ble_eq_true rfl) ⟨(Nat.le_of_ble_eq_true rfl), (Nat.le_of_ble_eq_true rfl)⟩ ⟨(Nat.le_of_ble_eq_true rfl), (Nat.le_of_ble_eq_true rfl)⟩ (fun u H locs hp hP hD hS => ?_)
            obtain ⟨F82, y83, g84, g85, t86, t87, t88, t89, rfl⟩ := hp
            have hP : va_P D vwCl [(h_drag, .inl (cI, 16, .inl f_drag)), (h_ways, .inl (cJ, 7712, .inr (.inl f_ways))), (h_push, .inl (cI, 4, .inl f_push)), (h_reach, .inl (cI, 4, .inl f_reach)), (h0, .inr (3, vL 10 F82)), (h_nextWays, .inl (cJ, 7712, .inr (.inl g84))), (h_nextStates, .inl (cI, 7712, .inl g85))] H := hP
            have hD : va_D A [(h_drag, .inl (cI, 16, .inl f_drag)), (h_ways, .inl (cJ, 7712, .inr (.inl f_ways))), (h_push, .inl (cI, 4, .inl f_push)), (h_reach, .inl (cI, 4, .inl f_reach)), (h0, .inr (3, vL 10 F82)), (h_nextWays, .inl (cJ, 7712, .inr (.inl g84))), (h_nextStates, .inl (cI, 7712, .inl g85))] := hD
            refine W.widen (k := 0) (n := 0) (Nat.le_of_ble_eq_true rfl) (Nat.le_of_ble_eq_true rfl) ?_
            obtain ⟨v90, ev90⟩ : ∃ z : Int32, z = u28 + 1 := ⟨_, rfl⟩
            have bv90 : v90.toInt = u28.toInt + 1 := by rw [ev90]; exact add_k rfl rfl k40 ⟨Int.le_refl _, Int.le_refl _⟩ (by decide)
            have k91 : 1 ≤ v90.toInt ∧ v90.toInt ≤ 4 := add_r bv90 k40 ⟨Int.le_refl _, Int.le_refl _⟩ (by decide)
            refine lv_iinc (v := v90) (lv' := [(11, .int v90), (13, .long v69), (12, .int r59), (10, .int v24), (9, .int r20), (8, .int v14), (7, .int 0), (6, .int v4), (4, .long v1), (0, .ref h0), (1, .int p0), (2, .int p1), (3, .int p2)]) hx hb dX3_goOn_209 hl (k := 2) rfl (by rw [ev90]; rfl) (by decide) rfl (fun ls hl => ?_)
            refine lv_goto (tgt := 109) hx hb dX3_goOn_212 (by decide) ?_
            exact ih (v90, g84, g85, F82, y83) ⟨(ir_wk k91 (by decide) (by decide)), t89, (SAME.tr (SAME.tr SAME.rf i35 (by decide)) t86 (by decide)), t87, t88⟩ (by show (4 - v90.toInt).toNat < (4 - u28.toInt).toNat; omega) _ _ _ (hP.sub [0, 1, 5, 6, 4, 2, 3] rfl) (hD.sub [0, 1, 5, 6, 4, 2, 3] (by decide) rfl) hS (lv_sub hl [0, 3, 4, 5, 6, 7, 8, 9, 10, 11, 12] rfl)
    · have dc26 : v24.toInt ≤ p2.toInt := nlt_i (a := p2.toInt) (b := v24.toInt) rfl rfl c26
      have k92 : (-59) ≤ p2.toInt ∧ p2.toInt ≤ 2147483647 := ⟨Int.le_trans k25.1 dc26, (ir_any _).2⟩
      refine lv_aload_n hx hb dX3_goOn_84 rfl (lv_at hl 6 rfl) ?_
      refine lv_iload hx hb dX3_goOn_85 (lv_at hl 4 rfl) ?_
      refine lv_iconst (v := 0) hx hb dX3_goOn_87 (by decide) ?_
      refine lv_iload hx hb dX3_goOn_88 (lv_at hl 1 rfl) ?_
      refine lv_lload hx hb dX3_goOn_90 (lv_at hl 5 rfl) ?_
      refine lv_iconst (v := 1) hx hb dX3_goOn_92 (by decide) ?_
      refine lv_iload hx hb dX3_goOn_93 (lv_at hl 1 rfl) ?_
      refine call_Ti (wr := [(h_drag, .inl (cI, 16, .inl f_drag)), (h_ways, .inl (cJ, 7712, .inr (.inl f_ways))), (h_nextWays, .inl (cJ, 7712, .inr (.inl f_nextWays))), (h_nextStates, .inl (cI, 7712, .inl f_nextStates)), (h0, .inr (3, vL 10 Fh)), (h_push, .inl (cI, 4, .inl f_push)), (h_reach, .inl (cI, 4, .inl f_reach))]) (As := [.int 1, .int r20]) (rest := [.long v1, .int r20, .int 0, .int v4, .ref h0]) hx hb hml hown hw (m_X9_timeFor l D cI cJ cB cP cM cZ 1 r20 _ ) wT_X9_timeFor (hG.2.1 (.methodLinkNest "FourSledge$JumpSearch" 108 ⟨"FourSledge", "timeFor", "(II)I"⟩ "FourSledge") (by decide +kernel)) dX3_goOn_95 hP hD hS hA [] [0, 1, 2, 3, 4, 5, 6] rfl rfl (by decide) (by decide) (by decide) GG.fb hG.at hl.1 rfl (Nat.le_of_ble_eq_true rfl) ⟨(Nat.le_of_ble_eq_true rfl), (Nat.le_of_ble_eq_true rfl)⟩ ⟨(Nat.le_of_ble_eq_true rfl), (Nat.le_of_ble_eq_true rfl)⟩ (fun r93 u H locs hp hP hD hS => ?_)
      obtain rfl := hp
      have hP : va_P D vwCl [(h_drag, .inl (cI, 16, .inl f_drag)), (h_ways, .inl (cJ, 7712, .inr (.inl f_ways))), (h_nextWays, .inl (cJ, 7712, .inr (.inl f_nextWays))), (h_nextStates, .inl (cI, 7712, .inl f_nextStates)), (h0, .inr (3, vL 10 Fh)), (h_push, .inl (cI, 4, .inl f_push)), (h_reach, .inl (cI, 4, .inl f_reach))] H := hP
      have hD : va_D A [(h_drag, .inl (cI, 16, .inl f_drag)), (h_ways, .inl (cJ, 7712, .inr (.inl f_ways))), (h_nextWays, .inl (cJ, 7712, .inr (.inl f_nextWays))), (h_nextStates, .inl (cI, 7712, .inl f_nextStates)), (h0, .inr (3, vL 10 Fh)), (h_push, .inl (cI, 4, .inl f_push)), (h_reach, .inl (cI, 4, .inl f_reach))] := hD
      refine W.widen (k := 0) (n := 0) (Nat.le_of_ble_eq_true rfl) (Nat.le_of_ble_eq_true rfl) ?_
      obtain ⟨v94, ev94⟩ : ∃ z : Int64, (r93 : Int32).toInt64 = z := ⟨_, rfl⟩
      refine lv_i2l (v := v94) hx hb dX3_goOn_98 ev94 ?_
      refine lv_bipush (v := 32) hx hb dX3_goOn_99 (by decide) ?_
      obtain ⟨v95, ev95⟩ : ∃ z : Int64, (v94 : Int64) <<< ((32 : Int32).toInt64 &&& 63) = z := ⟨_, rfl⟩
      refine lv_lshl (v := v95) hx hb dX3_goOn_101 ev95 ?_
      refine lv_ladd hx hb dX3_goOn_102 ?_
      refine lv_topl (fun v96 ev96 => ?_)
      refine call_Vv (wr := [(h_drag, .inl (cI, 16, .inl f_drag)), (h_ways, .inl (cJ, 7712, .inr (.inl f_ways))), (h_push, .inl (cI, 4, .inl f_push)), (h_reach, .inl (cI, 4, .inl f_reach))]) (As := [.int v4, .int 0, .int r20, .long v96]) (rest := []) hx hb hml hown hw (m_X3_reachState l D cI cJ cB cP cM cZ h0 h_nextWays h_nextStates Fh x_nextCount f_nextWays f_nextStates v4 0 r20 v96 _ e_nextWays e_nextStates e_nextCount i_x_nextCount s_nextStates_0 k5 ⟨by decide, by decide⟩ t21) wV_X3_66_X3_reachState dX3_goOn_103 hK hP hD hS hA [4, 2, 3] [0, 1, 5, 6] rfl rfl (by decide) (by decide) (by decide) 0 3 rfl rfl GG.fb hG.at hl.1 rfl (Nat.le_of_ble_eq_true rfl) ⟨(Nat.le_of_ble_eq_true rfl), (Nat.le_of_ble_eq_true rfl)⟩ ⟨(Nat.le_of_ble_eq_true rfl), (Nat.le_of_ble_eq_true rfl)⟩ (fun u H locs hp hP hD hS => ?_)
      obtain ⟨F98, y99, g100, g101, t102, t103, t104, t105, rfl⟩ := hp
      have hP : va_P D vwCl [(h_drag, .inl (cI, 16, .inl f_drag)), (h_ways, .inl (cJ, 7712, .inr (.inl f_ways))), (h_push, .inl (cI, 4, .inl f_push)), (h_reach, .inl (cI, 4, .inl f_reach)), (h0, .inr (3, vL 10 F98)), (h_nextWays, .inl (cJ, 7712, .inr (.inl g100))), (h_nextStates, .inl (cI, 7712, .inl g101))] H := hP
      have hD : va_D A [(h_drag, .inl (cI, 16, .inl f_drag)), (h_ways, .inl (cJ, 7712, .inr (.inl f_ways))), (h_push, .inl (cI, 4, .inl f_push)), (h_reach, .inl (cI, 4, .inl f_reach)), (h0, .inr (3, vL 10 F98)), (h_nextWays, .inl (cJ, 7712, .inr (.inl g100))), (h_nextStates, .inl (cI, 7712, .inl g101))] := hD
      refine W.widen (k := 0) (n := 0) (Nat.le_of_ble_eq_true rfl) (Nat.le_of_ble_eq_true rfl) ?_
      refine lv_iconst (v := 0) hx hb dX3_goOn_106 (by decide) ?_
      refine lv_istore (lv' := [(11, .int 0), (10, .int v24), (9, .int r20), (8, .int v14), (7, .int 0), (6, .int v4), (4, .long v1), (0, .ref h0), (1, .int p0), (2, .int p1), (3, .int p2)]) hx hb dX3_goOn_107 hl (by decide) rfl (fun ls hl => ?_)
      refine mloop (α := (Int32) × (Nat → Value) × (Int32) × (Nat → Int64) × (Nat → Int32)) (nL := 15) (D := D) (A := A) (H0 := s.heap) (fun a => (4 - a.1.toInt).toNat) (fun a => IR 0 4 a.1 ∧ SAME [9] F98 a.2.1 ∧ a.2.1 9 = .int a.2.2.1 ∧ IR 0 7712 a.2.2.1 ∧ SG 0 7711 0 7711 a.2.2.2.2) (fun a => [(h_drag, .inl (cI, 16, .inl f_drag)), (h_ways, .inl (cJ, 7712, .inr (.inl f_ways))), (h_push, .inl (cI, 4, .inl f_push)), (h_reach, .inl (cI, 4, .inl f_reach)), (h0, .inr (3, vL 10 a.2.1)), (h_nextWays, .inl (cJ, 7712, .inr (.inl a.2.2.2.1))), (h_nextStates, .inl (cI, 7712, .inl a.2.2.2.2))]) (fun a => [(11, .int a.1), (10, .int v24), (9, .int r20), (8, .int v14), (7, .int 0), (6, .int v4), (4, .long v1), (0, .ref h0), (1, .int p0), (2, .int p1), (3, .int p2)]) (fun H locs ls => W p l e ({ frames := 2, cells := 0, slots := 0, locals := 66 } : Room) s m [.ref h0, .int p0, .int p1, .int p2].toArray below meth c H locs 0 0 (MQ below (va_Qv (fun (u : va_W) => ∃ (Gh : Nat → Value) (y_nextCount : Int32) (g_nextWays : Nat → Int64) (g_nextStates : Nat → Int32), SAME [9] Fh Gh ∧ Gh 9 = .int y_nextCount ∧ IR 0 7712 y_nextCount ∧ SG 0 7711 0 7711 g_nextStates ∧ u = [(h0, .inr (3, vL 10 Gh)), (h_push, .inl (cI, 4, .inl f_push)), (h_reach, .inl (cI, 4, .inl f_reach)), (h_drag, .inl (cI, 16, .inl f_drag)), (h_ways, .inl (cJ, 7712, .inr (.inl f_ways))), (h_nextWays, .inl (cJ, 7712, .inr (.inl g_nextWays))), (h_nextStates, .inl (cI, 7712, .inl g_nextStates))]) (PO D A) A) [.ref h0, .int p0, .int p1, .int p2].toArray s 0 0 A) (F0 m 109 ls [])) ?_ (0, F98, y99, g100, g101) ⟨⟨by decide, by decide⟩, SAME.rf, t103, t104, t105⟩ _ _ _ hP hD hS hl
      rintro ⟨u106, G107, u108, w109, w110⟩ ⟨i111, i112, i113, i114, i115⟩ ih H locs ls hP hD hS hl
      have i111 : 0 ≤ u106.toInt ∧ u106.toInt ≤ 4 := i111
      have i114 : 0 ≤ u108.toInt ∧ u108.toInt ≤ 7712 := i114
      have hP : va_P D vwCl [(h_drag, .inl (cI, 16, .inl f_drag)), (h_ways, .inl (cJ, 7712, .inr (.inl f_ways))), (h_push, .inl (cI, 4, .inl f_push)), (h_reach, .inl (cI, 4, .inl f_reach)), (h0, .inr (3, vL 10 G107)), (h_nextWays, .inl (cJ, 7712, .inr (.inl w109))), (h_nextStates, .inl (cI, 7712, .inl w110))] H := hP
      have hD : va_D A [(h_drag, .inl (cI, 16, .inl f_drag)), (h_ways, .inl (cJ, 7712, .inr (.inl f_ways))), (h_push, .inl (cI, 4, .inl f_push)), (h_reach, .inl (cI, 4, .inl f_reach)), (h0, .inr (3, vL 10 G107)), (h_nextWays, .inl (cJ, 7712, .inr (.inl w109))), (h_nextStates, .inl (cI, 7712, .inl w110))] := hD
      have hl : lv_has ls 15 [(11, .int u106), (10, .int v24), (9, .int r20), (8, .int v14), (7, .int 0), (6, .int v4), (4, .long v1), (0, .ref h0), (1, .int p0), (2, .int p1), (3, .int p2)] := hl
      refine lv_iload hx hb dX3_goOn_109 (lv_at hl 0 rfl) ?_
      refine lv_iconst (v := 4) hx hb dX3_goOn_111 (by decide) ?_
      refine lv_icmp_ge (tgt := 215) hx hb dX3_goOn_112 (by decide) (fun c116 => ?_) (fun c116 => ?_)
      · have dc116 : 4 ≤ u106.toInt := le_i (a := 4) (b := u106.toInt) rfl rfl c116
        have k117 : 4 ≤ u106.toInt ∧ u106.toInt ≤ 4 := ⟨Int.le_trans (Int.le_refl _) dc116, i111.2⟩
        exact ret_v hx hb hr hlocks hS (hP.sub (ws' := [(h0, .inr (3, vL 10 G107)), (h_push, .inl (cI, 4, .inl f_push)), (h_reach, .inl (cI, 4, .inl f_reach)), (h_drag, .inl (cI, 16, .inl f_drag)), (h_ways, .inl (cJ, 7712, .inr (.inl f_ways))), (h_nextWays, .inl (cJ, 7712, .inr (.inl w109))), (h_nextStates, .inl (cI, 7712, .inl w110))]) [4, 2, 3, 0, 1, 5, 6] rfl) (hD.sub (ws' := [(h0, .inr (3, vL 10 G107)), (h_push, .inl (cI, 4, .inl f_push)), (h_reach, .inl (cI, 4, .inl f_reach)), (h_drag, .inl (cI, 16, .inl f_drag)), (h_ways, .inl (cJ, 7712, .inr (.inl f_ways))), (h_nextWays, .inl (cJ, 7712, .inr (.inl w109))), (h_nextStates, .inl (cI, 7712, .inl w110))]) [4, 2, 3, 0, 1, 5, 6] (by decide) rfl) dX3_goOn_215 (Nat.le_of_ble_eq_true rfl) (Nat.le_of_ble_eq_true rfl) ⟨G107, u108, w109, w110, (SAME.tr (SAME.tr SAME.rf t102 (by decide)) i112 (by decide)), i113, i114, i115, rfl⟩
      · have dc116 : u106.toInt < 4 := nle_i (a := 4) (b := u106.toInt) rfl rfl c116
        have k118 : 0 ≤ u106.toInt ∧ u106.toInt ≤ 3 := ⟨i111.1, up_lt dc116 (Int.le_refl _) (by decide)⟩
        refine lv_iload hx hb dX3_goOn_115 (lv_at hl 5 rfl) ?_
        refine lv_iload hx hb dX3_goOn_117 (lv_at hl 0 rfl) ?_
        refine lv_ishr hx hb dX3_goOn_119 ?_
        refine lv_topi (fun v119 ev119 => ?_)
        refine lv_iconst (v := 1) hx hb dX3_goOn_120 (by decide) ?_
        refine lv_iand hx hb dX3_goOn_121 ?_
        refine lv_topi (fun v120 ev120 => ?_)
        have k121 : 0 ≤ v120.toInt ∧ v120.toInt ≤ 1 := by rw [ev120]; exact and_i v119 1 (by decide)
        refine lv_if_ne (tgt := 209) hx hb dX3_goOn_122 (by decide) (fun c122 => ?_) (fun c122 => ?_)
        · have dc122 : v120.toInt ≠ 0 := ne_i (a := v120.toInt) (b := 0) rfl rfl c122
          have k123 : 1 ≤ v120.toInt ∧ v120.toInt ≤ 1 := ⟨ne_lo dc122 k121.1 ⟨Int.le_refl _, Int.le_refl _⟩ (by decide), k121.2⟩
          obtain ⟨v124, ev124⟩ : ∃ z : Int32, z = u106 + 1 := ⟨_, rfl⟩
          have bv124 : v124.toInt = u106.toInt + 1 := by rw [ev124]; exact add_k rfl rfl k118 ⟨Int.le_refl _, Int.le_refl _⟩ (by decide)
          have k125 : 1 ≤ v124.toInt ∧ v124.toInt ≤ 4 := add_r bv124 k118 ⟨Int.le_refl _, Int.le_refl _⟩ (by decide)
          refine lv_iinc (v := v124) (lv' := [(11, .int v124), (10, .int v24), (9, .int r20), (8, .int v14), (7, .int 0), (6, .int v4), (4, .long v1), (0, .ref h0), (1, .int p0), (2, .int p1), (3, .int p2)]) hx hb dX3_goOn_209 hl (k := 0) rfl (by rw [ev124]; rfl) (by decide) rfl (fun ls hl => ?_)
          refine lv_goto (tgt := 109) hx hb dX3_goOn_212 (by decide) ?_
          exact ih (v124, G107, u108, w109, w110) ⟨(ir_wk k125 (by decide) (by decide)), (SAME.tr SAME.rf i112 (by decide)), i113, i114, i115⟩ (by show (4 - v124.toInt).toNat < (4 - u106.toInt).toNat; omega) _ _ _ hP hD hS (lv_sub hl [0, 1, 2, 3, 4, 5, 6, 7, 8, 9, 10] rfl)
        · have dc122 : v120.toInt = 0 := eq_i (a := v120.toInt) (b := 0) rfl rfl c122
          have k126 : 0 ≤ v120.toInt ∧ v120.toInt ≤ 0 := ⟨k121.1, Int.le_trans (Int.le_of_eq dc122) (Int.le_refl _)⟩
          refine lv_iload hx hb dX3_goOn_125 (lv_at hl 2 rfl) ?_
          refine lv_aload_n hx hb dX3_goOn_127 rfl (lv_at hl 7 rfl) ?_
          have n127 : F98 2 = .ref h_reach := (SAME.at t102 (by decide) e_reach)
          have n128 : G107 2 = .ref h_reach := (SAME.at i112 (by decide) n127)
          refine get_f (D := D) (ci := 3) (v := .ref h_reach) (C := RX3) (T := TX3) (N := 10) hx hb hw inAX3 hown hK hP 4 rfl rfl 2 (by decide) (hw _ q_911) (fun _ h9 => h9) n128 dX3_goOn_128 ?_
          refine lv_iload hx hb dX3_goOn_131 (lv_at hl 0 rfl) ?_
          refine va_iald hx hb hK hP 3 0 rfl rfl (ix_k k118 (by decide) (by decide)) dX3_goOn_133 ?_
          refine lv_topi (fun v129 ev129 => ?_)
          refine lv_bipush (v := 20) hx hb dX3_goOn_134 (by decide) ?_
          refine lv_iadd hx hb dX3_goOn_136 ?_
          refine lv_topi (fun v130 ev130 => ?_)
          refine lv_icmp_gt (tgt := 209) hx hb dX3_goOn_137 (by decide) (fun c131 => ?_) (fun c131 => ?_)
          · have dc131 : v130.toInt < r20.toInt := lt_i (a := v130.toInt) (b := r20.toInt) rfl rfl c131
            have k132 : (-2147483648) ≤ v130.toInt ∧ v130.toInt ≤ 249 := ⟨(ir_any _).1, up_lt dc131 t21.2 (by decide)⟩
            obtain ⟨v133, ev133⟩ : ∃ z : Int32, z = u106 + 1 := ⟨_, rfl⟩
            have bv133 : v133.toInt = u106.toInt + 1 := by rw [ev133]; exact add_k rfl rfl k118 ⟨Int.le_refl _, Int.le_refl _⟩ (by decide)
            have k134 : 1 ≤ v133.toInt ∧ v133.toInt ≤ 4 := add_r bv133 k118 ⟨Int.le_refl _, Int.le_refl _⟩ (by decide)
            refine lv_iinc (v := v133) (lv' := [(11, .int v133), (10, .int v24), (9, .int r20), (8, .int v14), (7, .int 0), (6, .int v4), (4, .long v1), (0, .ref h0), (1, .int p0), (2, .int p1), (3, .int p2)]) hx hb dX3_goOn_209 hl (k := 0) rfl (by rw [ev133]; rfl) (by decide) rfl (fun ls hl => ?_)
            refine lv_goto (tgt := 109) hx hb dX3_goOn_212 (by decide) ?_
            exact ih (v133, G107, u108, w109, w110) ⟨(ir_wk k134 (by decide) (by decide)), (SAME.tr SAME.rf i112 (by decide)), i113, i114, i115⟩ (by show (4 - v133.toInt).toNat < (4 - u106.toInt).toNat; omega) _ _ _ hP hD hS (lv_sub hl [0, 1, 2, 3, 4, 5, 6, 7, 8, 9, 10] rfl)
          · have dc131 : r20.toInt ≤ v130.toInt := nlt_i (a := v130.toInt) (b := r20.toInt) rfl rfl c131
            have k135 : 10 ≤ v130.toInt ∧ v130.toInt ≤ 2147483647 := ⟨Int.le_trans t21.1 dc131, (ir_any _).2⟩
            refine lv_iload hx hb dX3_goOn_140 (lv_at hl 2 rfl) ?_
            refine lv_iload hx hb dX3_goOn_142 (lv_at hl 4 rfl) ?_
            refine lv_if_eq (tgt := 152) hx hb dX3_goOn_144 (by decide) (fun _ => ?_) (fun g => absurd (by decide) g)
            refine lv_iconst (v := 2) hx hb dX3_goOn_152 (by decide) ?_
            refine lv_isub hx hb dX3_goOn_153 ?_
            refine lv_topi (fun v136 ev136 => ?_)
            have bv136 : v136.toInt = r20.toInt - 2 := by rw [ev136]; exact sub_k rfl rfl t21 ⟨Int.le_refl _, Int.le_refl _⟩ (by decide)
            have k137 : 8 ≤ v136.toInt ∧ v136.toInt ≤ 248 := sub_r bv136 t21 ⟨Int.le_refl _, Int.le_refl _⟩ (by decide)
            refine call_Ti (wr := [(h_drag, .inl (cI, 16, .inl f_drag)), (h_ways, .inl (cJ, 7712, .inr (.inl f_ways))), (h_push, .inl (cI, 4, .inl f_push)), (h_reach, .inl (cI, 4, .inl f_reach)), (h0, .inr (3, vL 10 G107)), (h_nextWays, .inl (cJ, 7712, .inr (.inl w109))), (h_nextStates, .inl (cI, 7712, .inl w110))]) (As := [.int v136]) (rest := []) hx hb hml hown hw (m_X9_bounded l D cI cJ cB cP cM cZ v136 _ ) wT_X9_bounded (hG.2.1 (.methodLinkNest "FourSledge$JumpSearch" 99 ⟨"FourSledge", "bounded", "(I)I"⟩ "FourSledge") (by decide +kernel)) dX3_goOn_154 hP hD hS hA [] [0, 1, 2, 3, 4, 5, 6] rfl rfl (by decide) (by decide) (by decide) GG.fb hG.at hl.1 rfl (Nat.le_of_ble_eq_true rfl) ⟨(Nat.le_of_ble_eq_true rfl), (Nat.le_of_ble_eq_true rfl)⟩ ⟨(Nat.le_of_ble_eq_true rfl), (Nat.le_of_ble_eq_true rfl)⟩ (fun r138 u H locs hp hP hD hS => ?_)
            obtain ⟨t139, rfl⟩ := hp
            have hP : va_P D vwCl [(h_drag, .inl (cI, 16, .inl f_drag)), (h_ways, .inl (cJ, 7712, .inr (.inl f_ways))), (h_push, .inl (cI, 4, .inl f_push)), (h_reach, .inl (cI, 4, .inl f_reach)), (h0, .inr (3, vL 10 G107)), (h_nextWays, .inl (cJ, 7712, .inr (.inl w109))), (h_nextStates, .inl (cI, 7712, .inl w110))] H := hP
            have hD : va_D A [(h_drag, .inl (cI, 16, .inl f_drag)), (h_ways, .inl (cJ, 7712, .inr (.inl f_ways))), (h_push, .inl (cI, 4, .inl f_push)), (h_reach, .inl (cI, 4, .inl f_reach)), (h0, .inr (3, vL 10 G107)), (h_nextWays, .inl (cJ, 7712, .inr (.inl w109))), (h_nextStates, .inl (cI, 7712, .inl w110))] := hD
            refine W.widen (k := 0) (n := 0) (Nat.le_of_ble_eq_true rfl) (Nat.le_of_ble_eq_true rfl) ?_
            refine lv_istore (lv' := [(12, .int r138), (11, .int u106), (10, .int v24), (9, .int r20), (8, .int v14), (7, .int 0), (6, .int v4), (4, .long v1), (0, .ref h0), (1, .int p0), (2, .int p1), (3, .int p2)]) hx hb dX3_goOn_157 hl (by decide) rfl (fun ls hl => ?_)
            refine lv_bipush (v := 39) hx hb dX3_goOn_159 (by decide) ?_
            refine lv_iload_n hx hb dX3_goOn_161 rfl (lv_at hl 10 rfl) ?_
            refine lv_isub hx hb dX3_goOn_162 ?_
            refine lv_topi (fun v140 ev140 => ?_)
            refine lv_iconst (v := 4) hx hb dX3_goOn_163 (by decide) ?_
            refine lv_imul hx hb dX3_goOn_164 ?_
            refine lv_topi (fun v141 ev141 => ?_)
            refine lv_iload hx hb dX3_goOn_165 (lv_at hl 1 rfl) ?_
            refine lv_iadd hx hb dX3_goOn_167 ?_
            refine lv_topi (fun v142 ev142 => ?_)
            obtain ⟨v143, ev143⟩ : ∃ z : Int64, (v142 : Int32).toInt64 = z := ⟨_, rfl⟩
            refine lv_i2l (v := v143) hx hb dX3_goOn_168 ev143 ?_
            refine lv_bipush (v := 8) hx hb dX3_goOn_169 (by decide) ?_
            refine lv_iload hx hb dX3_goOn_171 (lv_at hl 2 rfl) ?_
            refine lv_iconst (v := 1) hx hb dX3_goOn_173 (by decide) ?_
            refine lv_isub hx hb dX3_goOn_174 ?_
            refine lv_topi (fun v144 ev144 => ?_)
            have bv144 : v144.toInt = v24.toInt - 1 := by rw [ev144]; exact sub_k rfl rfl k25 ⟨Int.le_refl _, Int.le_refl _⟩ (by decide)
            have k145 : (-60) ≤ v144.toInt ∧ v144.toInt ≤ 3 := sub_r bv144 k25 ⟨Int.le_refl _, Int.le_refl _⟩ (by decide)
            refine lv_imul hx hb dX3_goOn_175 ?_
            refine lv_topi (fun v146 ev146 => ?_)
            have bv146 : v146.toInt = 8 * v144.toInt := by rw [ev146]; exact kmul_k rfl rfl (by decide) k145 (by decide)
            have k147 : (-480) ≤ v146.toInt ∧ v146.toInt ≤ 24 := kmul_r bv146 (by decide) k145 (by decide)
            obtain ⟨v148, ev148⟩ : ∃ z : Int64, (v143 : Int64) <<< ((v146 : Int32).toInt64 &&& 63) = z := ⟨_, rfl⟩
            refine lv_lshl (v := v148) hx hb dX3_goOn_176 ev148 ?_
            refine lv_lstore (lv' := [(13, .long v148), (12, .int r138), (11, .int u106), (10, .int v24), (9, .int r20), (8, .int v14), (7, .int 0), (6, .int v4), (4, .long v1), (0, .ref h0), (1, .int p0), (2, .int p1), (3, .int p2)]) hx hb dX3_goOn_177 hl (by decide) rfl (fun ls hl => ?_)
            refine lv_aload_n hx hb dX3_goOn_179 rfl (lv_at hl 9 rfl) ?_
            refine lv_iload hx hb dX3_goOn_180 (lv_at hl 7 rfl) ?_
            refine lv_iconst (v := 1) hx hb dX3_goOn_182 (by decide) ?_
            refine lv_iload hx hb dX3_goOn_183 (lv_at hl 2 rfl) ?_
            refine lv_ishl hx hb dX3_goOn_185 ?_
            refine lv_topi (fun v149 ev149 => ?_)
            have k150 : 1 ≤ v149.toInt ∧ v149.toInt ≤ 8 := by rw [ev149]; exact shl1_i (Int.le_trans (by decide) k118.1) (Int.le_trans k118.2 (by decide))
            refine lv_ior hx hb dX3_goOn_186 ?_
            refine lv_topi (fun v151 ev151 => ?_)
            have k152 : 0 ≤ v151.toInt ∧ v151.toInt ≤ 15 := by rw [ev151]; exact or_ik (ir_wk k5 (by decide) (by decide)) (ir_wk k150 (by decide) (by decide))
            refine lv_iconst (v := 1) hx hb dX3_goOn_187 (by decide) ?_
            refine lv_iload hx hb dX3_goOn_188 (lv_at hl 1 rfl) ?_
            refine lv_lload hx hb dX3_goOn_190 (lv_at hl 8 rfl) ?_
            refine lv_iconst (v := 1) hx hb dX3_goOn_192 (by decide) ?_
            refine lv_iload hx hb dX3_goOn_193 (lv_at hl 1 rfl) ?_
            refine call_Ti (wr := [(h_drag, .inl (cI, 16, .inl f_drag)), (h_ways, .inl (cJ, 7712, .inr (.inl f_ways))), (h_push, .inl (cI, 4, .inl f_push)), (h_reach, .inl (cI, 4, .inl f_reach)), (h0, .inr (3, vL 10 G107)), (h_nextWays, .inl (cJ, 7712, .inr (.inl w109))), (h_nextStates, .inl (cI, 7712, .inl w110))]) (As := [.int 1, .int r138]) (rest := [.long v1, .int r138, .int 1, .int v151, .ref h0]) hx hb hml hown hw (m_X9_timeFor l D cI cJ cB cP cM cZ 1 r138 _ ) wT_X9_timeFor (hG.2.1 (.methodLinkNest "FourSledge$JumpSearch" 108 ⟨"FourSledge", "timeFor", "(II)I"⟩ "FourSledge") (by decide +kernel)) dX3_goOn_195 hP hD hS hA [] [0, 1, 2, 3, 4, 5, 6] rfl rfl (by decide) (by decide) (by decide) GG.fb hG.at hl.1 rfl (Nat.le_of_ble_eq_true rfl) ⟨(Nat.le_of_ble_eq_true rfl), (Nat.le_of_ble_eq_true rfl)⟩ ⟨(Nat.le_of_ble_eq_true rfl), (Nat.le_of_ble_eq_true rfl)⟩ (fun r153 u H locs hp hP hD hS => ?_)
            obtain rfl := hp
            have hP : va_P D vwCl [(h_drag, .inl (cI, 16, .inl f_drag)), (h_ways, .inl (cJ, 7712, .inr (.inl f_ways))), (h_push, .inl (cI, 4, .inl f_push)), (h_reach, .inl (cI, 4, .inl f_reach)), (h0, .inr (3, vL 10 G107)), (h_nextWays, .inl (cJ, 7712, .inr (.inl w109))), (h_nextStates, .inl (cI, 7712, .inl w110))] H := hP
            have hD : va_D A [(h_drag, .inl (cI, 16, .inl f_drag)), (h_ways, .inl (cJ, 7712, .inr (.inl f_ways))), (h_push, .inl (cI, 4, .inl f_push)), (h_reach, .inl (cI, 4, .inl f_reach)), (h0, .inr (3, vL 10 G107)), (h_nextWays, .inl (cJ, 7712, .inr (.inl w109))), (h_nextStates, .inl (cI, 7712, .inl w110))] := hD
            refine W.widen (k := 0) (n := 0) (Nat.le_of_ble_eq_true rfl) (Nat.le_of_ble_eq_true rfl) ?_
            obtain ⟨v154, ev154⟩ : ∃ z : Int64, (r153 : Int32).toInt64 = z := ⟨_, rfl⟩
            refine lv_i2l (v := v154) hx hb dX3_goOn_198 ev154 ?_
            refine lv_bipush (v := 32) hx hb dX3_goOn_199 (by decide) ?_
            obtain ⟨v155, ev155⟩ : ∃ z : Int64, (v154 : Int64) <<< ((32 : Int32).toInt64 &&& 63) = z := ⟨_, rfl⟩
            refine lv_lshl (v := v155) hx hb dX3_goOn_201 ev155 ?_
            refine lv_ladd hx hb dX3_goOn_202 ?_
            refine lv_topl (fun v156 ev156 => ?_)
            refine lv_lload hx hb dX3_goOn_203 (lv_at hl 0 rfl) ?_
            refine lv_ladd hx hb dX3_goOn_205 ?_
            refine lv_topl (fun v157 ev157 => ?_)
            have n158 : F98 5 = .ref h_nextWays := (SAME.at t102 (by decide) e_nextWays)
            have n159 : G107 5 = .ref h_nextWays := (SAME.at i112 (by decide) n158)
            have n160 : F98 7 = .ref h_nextStates := (SAME.at t102 (by decide) e_nextStates)
            have n161 : G107 7 = .ref h_nextStates := (SAME.at i112 (by decide) n160)
            refine call_Vv (wr := [(h_drag, .inl (cI, 16, .inl f_drag)), (h_ways, .inl (cJ, 7712, .inr (.inl f_ways))), (h_push, .inl (cI, 4, .inl f_push)), (h_reach, .inl (cI, 4, .inl f_reach))]) (As := [.int v151, .int 1, .int r138, .long v157]) (rest := []) hx hb hml hown hw (m_X3_reachState l D cI cJ cB cP cM cZ h0 h_nextWays h_nextStates G107 u108 w109 w110 v151 1 r138 v157 _ n159 n161 i113 i114 i115 k152 ⟨by decide, by decide⟩ t139) wV_X3_66_X3_reachState dX3_goOn_206 hK hP hD hS hA [4, 5, 6] [0, 1, 2, 3] rfl rfl (by decide) (by decide) (by decide) 0 3 rfl rfl GG.fb hG.at hl.1 rfl (Nat.le_of_ble_eq_true rfl) ⟨(Nat.le_of_ble_eq_true rfl), (Nat.le_of_ble_eq_true rfl)⟩ ⟨(Nat.le_of_ble_eq_true rfl), (Nat.le_of_ble_eq_true rfl)⟩ (fun u H locs hp hP hD hS => ?_)
            obtain ⟨F163, y164, g165, g166, t167, t168, t169, t170, rfl⟩ := hp
            have hP : va_P D vwCl [(h_drag, .inl (cI, 16, .inl f_drag)), (h_ways, .inl (cJ, 7712, .inr (.inl f_ways))), (h_push, .inl (cI, 4, .inl f_push)), (h_reach, .inl (cI, 4, .inl f_reach)), (h0, .inr (3, vL 10 F163)), (h_nextWays, .inl (cJ, 7712, .inr (.inl g165))), (h_nextStates, .inl (cI, 7712, .inl g166))] H := hP
            have hD : va_D A [(h_drag, .inl (cI, 16, .inl f_drag)), (h_ways, .inl (cJ, 7712, .inr (.inl f_ways))), (h_push, .inl (cI, 4, .inl f_push)), (h_reach, .inl (cI, 4, .inl f_reach)), (h0, .inr (3, vL 10 F163)), (h_nextWays, .inl (cJ, 7712, .inr (.inl g165))), (h_nextStates, .inl (cI, 7712, .inl g166))] := hD
            refine W.widen (k := 0) (n := 0) (Nat.le_of_ble_eq_true rfl) (Nat.le_of_ble_eq_true rfl) ?_
            obtain ⟨v171, ev171⟩ : ∃ z : Int32, z = u106 + 1 := ⟨_, rfl⟩
            have bv171 : v171.toInt = u106.toInt + 1 := by rw [ev171]; exact add_k rfl rfl k118 ⟨Int.le_refl _, Int.le_refl _⟩ (by decide)
            have k172 : 1 ≤ v171.toInt ∧ v171.toInt ≤ 4 := add_r bv171 k118 ⟨Int.le_refl _, Int.le_refl _⟩ (by decide)
            refine lv_iinc (v := v171) (lv' := [(11, .int v171), (13, .long v148), (12, .int r138), (10, .int v24), (9, .int r20), (8, .int v14), (7, .int 0), (6, .int v4), (4, .long v1), (0, .ref h0), (1, .int p0), (2, .int p1), (3, .int p2)]) hx hb dX3_goOn_209 hl (k := 2) rfl (by rw [ev171]; rfl) (by decide) rfl (fun ls hl => ?_)
            refine lv_goto (tgt := 109) hx hb dX3_goOn_212 (by decide) ?_
            exact ih (v171, F163, y164, g165, g166) ⟨(ir_wk k172 (by decide) (by decide)), (SAME.tr (SAME.tr SAME.rf i112 (by decide)) t167 (by decide)), t168, t169, t170⟩ (by show (4 - v171.toInt).toNat < (4 - u106.toInt).toNat; omega) _ _ _ hP hD hS (lv_sub hl [0, 3, 4, 5, 6, 7, 8, 9, 10, 11, 12] rfl)
  · have dc10 : v8.toInt = 1 := eq_i (a := v8.toInt) (b := 1) rfl rfl c10
    have k173 : 1 ≤ v8.toInt ∧ v8.toInt ≤ 1 := ⟨Int.le_trans (Int.le_refl _) (Int.le_of_eq dc10.symm), k9.2⟩
    refine lv_iconst (v := 1) hx hb dX3_goOn_28 (by decide) ?_
    refine lv_goto (tgt := 33) hx hb dX3_goOn_29 (by decide) ?_
    refine lv_istore (lv' := [(7, .int 1), (6, .int v4), (4, .long v1), (0, .ref h0), (1, .int p0), (2, .int p1), (3, .int p2)]) hx hb dX3_goOn_33 hl (by decide) rfl (fun ls hl => ?_)
    refine lv_iload_n hx hb dX3_goOn_35 rfl (lv_at hl 4 rfl) ?_
    refine lv_sipush (v := 241) hx hb dX3_goOn_36 (by decide) ?_
    refine lv_irem hx hb dX3_goOn_39 (by decide) ?_
    refine lv_topi (fun v174 ev174 => ?_)
    have bv174 : v174.toInt = p0.toInt % 241 := by rw [ev174]; exact rem_i rfl rfl (Int.le_trans (by decide) i_p0.1) (by decide)
    have k175 : 0 ≤ v174.toInt ∧ v174.toInt ≤ 240 := rem_r bv174 (by decide)
    refine lv_bipush (v := 10) hx hb dX3_goOn_40 (by decide) ?_
    refine lv_iadd hx hb dX3_goOn_42 ?_
    refine lv_topi (fun v176 ev176 => ?_)
    have bv176 : v176.toInt = v174.toInt + 10 := by rw [ev176]; exact add_k rfl rfl k175 ⟨Int.le_refl _, Int.le_refl _⟩ (by decide)
    have k177 : 10 ≤ v176.toInt ∧ v176.toInt ≤ 250 := add_r bv176 k175 ⟨Int.le_refl _, Int.le_refl _⟩ (by decide)
    refine lv_istore (lv' := [(8, .int v176), (7, .int 1), (6, .int v4), (4, .long v1), (0, .ref h0), (1, .int p0), (2, .int p1), (3, .int p2)]) hx hb dX3_goOn_43 hl (by decide) rfl (fun ls hl => ?_)
    refine lv_iload hx hb dX3_goOn_45 (lv_at hl 0 rfl) ?_
    refine lv_aload_n hx hb dX3_goOn_47 rfl (lv_at hl 4 rfl) ?_
    refine lv_iload hx hb dX3_goOn_48 (lv_at hl 2 rfl) ?_
    refine lv_iload hx hb dX3_goOn_50 (lv_at hl 0 rfl) ?_
    refine call_Vi (wr := [(h_drag, .inl (cI, 16, .inl f_drag)), (h_ways, .inl (cJ, 7712, .inr (.inl f_ways))), (h_nextWays, .inl (cJ, 7712, .inr (.inl f_nextWays))), (h_nextStates, .inl (cI, 7712, .inl f_nextStates))]) (As := [.int v4, .int v176]) (rest := [.int v176]) hx hb hml hown hw (m_X3_pushed l D cI cJ cB cP cM cZ h0 h_push h_reach Fh f_push f_reach v4 v176 _ e_push e_reach) wV_X3_95_X3_pushed dX3_goOn_52 hK hP hD hS hA [0, 1, 2] [3, 4, 5, 6] rfl rfl (by decide) (by decide) (by decide) 0 3 rfl rfl GG.fb hG.at hl.1 rfl (Nat.le_of_ble_eq_true rfl) ⟨(Nat.le_of_ble_eq_true rfl), (Nat.le_of_ble_eq_true rfl)⟩ ⟨(Nat.le_of_ble_eq_true rfl), (Nat.le_of_ble_eq_true rfl)⟩ (fun r178 u H locs hp hP hD hS => ?_)
    obtain rfl := hp
    have hP : va_P D vwCl [(h_drag, .inl (cI, 16, .inl f_drag)), (h_ways, .inl (cJ, 7712, .inr (.inl f_ways))), (h_nextWays, .inl (cJ, 7712, .inr (.inl f_nextWays))), (h_nextStates, .inl (cI, 7712, .inl f_nextStates)), (h0, .inr (3, vL 10 Fh)), (h_push, .inl (cI, 4, .inl f_push)), (h_reach, .inl (cI, 4, .inl f_reach))] H := hP
    have hD : va_D A [(h_drag, .inl (cI, 16, .inl f_drag)), (h_ways, .inl (cJ, 7712, .inr (.inl f_ways))), (h_nextWays, .inl (cJ, 7712, .inr (.inl f_nextWays))), (h_nextStates, .inl (cI, 7712, .inl f_nextStates)), (h0, .inr (3, vL 10 Fh)), (h_push, .inl (cI, 4, .inl f_push)), (h_reach, .inl (cI, 4, .inl f_reach))] := hD
    refine W.widen (k := 0) (n := 0) (Nat.le_of_ble_eq_true rfl) (Nat.le_of_ble_eq_true rfl) ?_
    refine lv_iadd hx hb dX3_goOn_55 ?_
    refine lv_topi (fun v179 ev179 => ?_)
    refine lv_aload_n hx hb dX3_goOn_56 rfl (lv_at hl 4 rfl) ?_
    refine get_f (D := D) (ci := 3) (v := .ref h_drag) (C := RX3) (T := TX3) (N := 10) hx hb hw inAX3 hown hK hP 4 rfl rfl 3 (by decide) (hw _ q_912) (fun _ h9 => h9) e_drag dX3_goOn_57 ?_
    refine lv_iload hx hb dX3_goOn_60 (lv_at hl 2 rfl) ?_
    refine va_iald hx hb hK hP 0 0 rfl rfl (ix_k k5 (by decide) (by decide)) dX3_goOn_62 ?_
    refine lv_topi (fun v180 ev180 => ?_)
    refine lv_isub hx hb dX3_goOn_63 ?_
    refine lv_topi (fun v181 ev181 => ?_)
    refine call_Ti (wr := [(h_drag, .inl (cI, 16, .inl f_drag)), (h_ways, .inl (cJ, 7712, .inr (.inl f_ways))), (h_nextWays, .inl (cJ, 7712, .inr (.inl f_nextWays))), (h_nextStates, .inl (cI, 7712, .inl f_nextStates)), (h0, .inr (3, vL 10 Fh)), (h_push, .inl (cI, 4, .inl f_push)), (h_reach, .inl (cI, 4, .inl f_reach))]) (As := [.int v181]) (rest := []) hx hb hml hown hw (m_X9_bounded l D cI cJ cB cP cM cZ v181 _ ) wT_X9_bounded (hG.2.1 (.methodLinkNest "FourSledge$JumpSearch" 99 ⟨"FourSledge", "bounded", "(I)I"⟩ "FourSledge") (by decide +kernel)) dX3_goOn_64 hP hD hS hA [] [0, 1, 2, 3, 4, 5, 6] rfl rfl (by decide) (by decide) (by decide) GG.fb hG.at hl.1 rfl (Nat.le_of_ble_eq_true rfl) ⟨(Nat.le_of_ble_eq_true rfl), (Nat.le_of_ble_eq_true rfl)⟩ ⟨(Nat.le_of_ble_eq_true rfl), (Nat.le_of_ble_eq_true rfl)⟩ (fun r182 u H locs hp hP hD hS => ?_)
    obtain ⟨t183, rfl⟩ := hp
    have hP : va_P D vwCl [(h_drag, .inl (cI, 16, .inl f_drag)), (h_ways, .inl (cJ, 7712, .inr (.inl f_ways))), (h_nextWays, .inl (cJ, 7712, .inr (.inl f_nextWays))), (h_nextStates, .inl (cI, 7712, .inl f_nextStates)), (h0, .inr (3, vL 10 Fh)), (h_push, .inl (cI, 4, .inl f_push)), (h_reach, .inl (cI, 4, .inl f_reach))] H := hP
    have hD : va_D A [(h_drag, .inl (cI, 16, .inl f_drag)), (h_ways, .inl (cJ, 7712, .inr (.inl f_ways))), (h_nextWays, .inl (cJ, 7712, .inr (.inl f_nextWays))), (h_nextStates, .inl (cI, 7712, .inl f_nextStates)), (h0, .inr (3, vL 10 Fh)), (h_push, .inl (cI, 4, .inl f_push)), (h_reach, .inl (cI, 4, .inl f_reach))] := hD
    refine W.widen (k := 0) (n := 0) (Nat.le_of_ble_eq_true rfl) (Nat.le_of_ble_eq_true rfl) ?_
    refine lv_istore (lv' := [(9, .int r182), (8, .int v176), (7, .int 1), (6, .int v4), (4, .long v1), (0, .ref h0), (1, .int p0), (2, .int p1), (3, .int p2)]) hx hb dX3_goOn_67 hl (by decide) rfl (fun ls hl => ?_)
    refine lv_iconst (v := 4) hx hb dX3_goOn_69 (by decide) ?_
    refine lv_iload hx hb dX3_goOn_70 (lv_at hl 3 rfl) ?_
    refine call_Si (wr := [(h_drag, .inl (cI, 16, .inl f_drag)), (h_ways, .inl (cJ, 7712, .inr (.inl f_ways))), (h_nextWays, .inl (cJ, 7712, .inr (.inl f_nextWays))), (h_nextStates, .inl (cI, 7712, .inl f_nextStates)), (h0, .inr (3, vL 10 Fh)), (h_push, .inl (cI, 4, .inl f_push)), (h_reach, .inl (cI, 4, .inl f_reach))]) (As := [.int v4]) (rest := [.int 4]) hx hb hml hown hw (m_J6_bitCount_0f7a4 l D cI cJ cB cP cM cZ v4 _ ) wS_X3_103_J6_bitCount_0f7a4 dX3_goOn_72 hP hD hS hA [] [0, 1, 2, 3, 4, 5, 6] rfl rfl (by decide) (by decide) (by decide) GG.fb hG.at hl.1 rfl (Nat.le_of_ble_eq_true rfl) ⟨(Nat.le_of_ble_eq_true rfl), (Nat.le_of_ble_eq_true rfl)⟩ ⟨(Nat.le_of_ble_eq_true rfl), (Nat.le_of_ble_eq_true rfl)⟩ (fun r184 u H locs hp hP hD hS => ?_)
    obtain ⟨t185, rfl⟩ := hp
    have hP : va_P D vwCl [(h_drag, .inl (cI, 16, .inl f_drag)), (h_ways, .inl (cJ, 7712, .inr (.inl f_ways))), (h_nextWays, .inl (cJ, 7712, .inr (.inl f_nextWays))), (h_nextStates, .inl (cI, 7712, .inl f_nextStates)), (h0, .inr (3, vL 10 Fh)), (h_push, .inl (cI, 4, .inl f_push)), (h_reach, .inl (cI, 4, .inl f_reach))] H := hP
    have hD : va_D A [(h_drag, .inl (cI, 16, .inl f_drag)), (h_ways, .inl (cJ, 7712, .inr (.inl f_ways))), (h_nextWays, .inl (cJ, 7712, .inr (.inl f_nextWays))), (h_nextStates, .inl (cI, 7712, .inl f_nextStates)), (h0, .inr (3, vL 10 Fh)), (h_push, .inl (cI, 4, .inl f_push)), (h_reach, .inl (cI, 4, .inl f_reach))] := hD
    refine W.widen (k := 0) (n := 0) (Nat.le_of_ble_eq_true rfl) (Nat.le_of_ble_eq_true rfl) ?_
    refine lv_isub hx hb dX3_goOn_75 ?_
    refine lv_topi (fun v186 ev186 => ?_)
    have bv186 : v186.toInt = 4 - r184.toInt := by rw [ev186]; exact sub_k rfl rfl ⟨Int.le_refl _, Int.le_refl _⟩ t185 (by decide)
    have k187 : (-59) ≤ v186.toInt ∧ v186.toInt ≤ 4 := sub_r bv186 ⟨Int.le_refl _, Int.le_refl _⟩ t185 (by decide)
    refine lv_istore (lv' := [(10, .int v186), (9, .int r182), (8, .int v176), (7, .int 1), (6, .int v4), (4, .long v1), (0, .ref h0), (1, .int p0), (2, .int p1), (3, .int p2)]) hx hb dX3_goOn_76 hl (by decide) rfl (fun ls hl => ?_)
    refine lv_iload hx hb dX3_goOn_78 (lv_at hl 0 rfl) ?_
    refine lv_iload_n hx hb dX3_goOn_80 rfl (lv_at hl 9 rfl) ?_
    refine lv_icmp_gt (tgt := 106) hx hb dX3_goOn_81 (by decide) (fun c188 => ?_) (fun c188 => ?_)
    · have dc188 : p2.toInt < v186.toInt := lt_i (a := p2.toInt) (b := v186.toInt) rfl rfl c188
      have k189 : (-2147483648) ≤ p2.toInt ∧ p2.toInt ≤ 3 := ⟨(ir_any _).1, up_lt dc188 k187.2 (by decide)⟩
      refine lv_iconst (v := 0) hx hb dX3_goOn_106 (by decide) ?_
      refine lv_istore (lv' := [(11, .int 0), (10, .int v186), (9, .int r182), (8, .int v176), (7, .int 1), (6, .int v4), (4, .long v1), (0, .ref h0), (1, .int p0), (2, .int p1), (3, .int p2)]) hx hb dX3_goOn_107 hl (by decide) rfl (fun ls hl => ?_)
      refine mloop (α := (Int32) × (Nat → Int64) × (Nat → Int32) × (Nat → Value) × (Int32)) (nL := 15) (D := D) (A := A) (H0 := s.heap) (fun a => (4 - a.1.toInt).toNat) (fun a => IR 0 4 a.1 ∧ SG 0 7711 0 7711 a.2.2.1 ∧ SAME [9] Fh a.2.2.2.1 ∧ a.2.2.2.1 9 = .int a.2.2.2.2 ∧ IR 0 7712 a.2.2.2.2) (fun a => [(h_drag, .inl (cI, 16, .inl f_drag)), (h_ways, .inl (cJ, 7712, .inr (.inl f_ways))), (h_nextWays, .inl (cJ, 7712, .inr (.inl a.2.1))), (h_nextStates, .inl (cI, 7712, .inl a.2.2.1)), (h0, .inr (3, vL 10 a.2.2.2.1)), (h_push, .inl (cI, 4, .inl f_push)), (h_reach, .inl (cI, 4, .inl f_reach))]) (fun a => [(11, .int a.1), (10, .int v186), (9, .int r182), (8, .int v176), (7, .int 1), (6, .int v4), (4, .long v1), (0, .ref h0), (1, .int p0), (2, .int p1), (3, .int p2)]) (fun H locs ls => W p l e ({ frames := 2, cells := 0, slots := 0, locals := 66 } : Room) s m [.ref h0, .int p0, .int p1, .int p2].toArray below meth c H locs 0 0 (MQ below (va_Qv (fun (u : va_W) => ∃ (Gh : Nat → Value) (y_nextCount : Int32) (g_nextWays : Nat → Int64) (g_nextStates : Nat → Int32), SAME [9] Fh Gh ∧ Gh 9 = .int y_nextCount ∧ IR 0 7712 y_nextCount ∧ SG 0 7711 0 7711 g_nextStates ∧ u = [(h0, .inr (3, vL 10 Gh)), (h_push, .inl (cI, 4, .inl f_push)), (h_reach, .inl (cI, 4, .inl f_reach)), (h_drag, .inl (cI, 16, .inl f_drag)), (h_ways, .inl (cJ, 7712, .inr (.inl f_ways))), (h_nextWays, .inl (cJ, 7712, .inr (.inl g_nextWays))), (h_nextStates, .inl (cI, 7712, .inl g_nextStates))]) (PO D A) A) [.ref h0, .int p0, .int p1, .int p2].toArray s 0 0 A) (F0 m 109 ls [])) ?_ (0, f_nextWays, f_nextStates, Fh, x_nextCount) ⟨⟨by decide, by decide⟩, s_nextStates_0, SAME.rf, e_nextCount, i_x_nextCount⟩ _ _ _ hP hD hS hl
      rintro ⟨u190, w191, w192, G193, u194⟩ ⟨i195, i196, i197, i198, i199⟩ ih H locs ls hP hD hS hl
      have i195 : 0 ≤ u190.toInt ∧ u190.toInt ≤ 4 := i195
      have i199 : 0 ≤ u194.toInt ∧ u194.toInt ≤ 7712 := i199
      have hP : va_P D vwCl [(h_drag, .inl (cI, 16, .inl f_drag)), (h_ways, .inl (cJ, 7712, .inr (.inl f_ways))), (h_nextWays, .inl (cJ, 7712, .inr (.inl w191))), (h_nextStates, .inl (cI, 7712, .inl w192)), (h0, .inr (3, vL 10 G193)), (h_push, .inl (cI, 4, .inl f_push)), (h_reach, .inl (cI, 4, .inl f_reach))] H := hP
      have hD : va_D A [(h_drag, .inl (cI, 16, .inl f_drag)), (h_ways, .inl (cJ, 7712, .inr (.inl f_ways))), (h_nextWays, .inl (cJ, 7712, .inr (.inl w191))), (h_nextStates, .inl (cI, 7712, .inl w192)), (h0, .inr (3, vL 10 G193)), (h_push, .inl (cI, 4, .inl f_push)), (h_reach, .inl (cI, 4, .inl f_reach))] := hD
      have hl : lv_has ls 15 [(11, .int u190), (10, .int v186), (9, .int r182), (8, .int v176), (7, .int 1), (6, .int v4), (4, .long v1), (0, .ref h0), (1, .int p0), (2, .int p1), (3, .int p2)] := hl
      refine lv_iload hx hb dX3_goOn_109 (lv_at hl 0 rfl) ?_
      refine lv_iconst (v := 4) hx hb dX3_goOn_111 (by decide) ?_
      refine lv_icmp_ge (tgt := 215) hx hb dX3_goOn_112 (by decide) (fun c200 => ?_) (fun c200 => ?_)
      · have dc200 : 4 ≤ u190.toInt := le_i (a := 4) (b := u190.toInt) rfl rfl c200
        have k201 : 4 ≤ u190.toInt ∧ u190.toInt ≤ 4 := ⟨Int.le_trans (Int.le_refl _) dc200, i195.2⟩
        exact ret_v hx hb hr hlocks hS (hP.sub (ws' := [(h0, .inr (3, vL 10 G193)), (h_push, .inl (cI, 4, .inl f_push)), (h_reach, .inl (cI, 4, .inl f_reach)), (h_drag, .inl (cI, 16, .inl f_drag)), (h_ways, .inl (cJ, 7712, .inr (.inl f_ways))), (h_nextWays, .inl (cJ, 7712, .inr (.inl w191))), (h_nextStates, .inl (cI, 7712, .inl w192))]) [4, 5, 6, 0, 1, 2, 3] rfl) (hD.sub (ws' := [(h0, .inr (3, vL 10 G193)), (h_push, .inl (cI, 4, .inl f_push)), (h_reach, .inl (cI, 4, .inl f_reach)), (h_drag, .inl (cI, 16, .inl f_drag)), (h_ways, .inl (cJ, 7712, .inr (.inl f_ways))), (h_nextWays, .inl (cJ, 7712, .inr (.inl w191))), (h_nextStates, .inl (cI, 7712, .inl w192))]) [4, 5, 6, 0, 1, 2, 3] (by decide) rfl) dX3_goOn_215 (Nat.le_of_ble_eq_true rfl) (Nat.le_of_ble_eq_true rfl) ⟨G193, u194, w191, w192, (SAME.tr SAME.rf i197 (by decide)), i198, i199, i196, rfl⟩
      · have dc200 : u190.toInt < 4 := nle_i (a := 4) (b := u190.toInt) rfl rfl c200
        have k202 : 0 ≤ u190.toInt ∧ u190.toInt ≤ 3 := ⟨i195.1, up_lt dc200 (Int.le_refl _) (by decide)⟩
        refine lv_iload hx hb dX3_goOn_115 (lv_at hl 5 rfl) ?_
        refine lv_iload hx hb dX3_goOn_117 (lv_at hl 0 rfl) ?_
        refine lv_ishr hx hb dX3_goOn_119 ?_
        refine lv_topi (fun v203 ev203 => ?_)
        refine lv_iconst (v := 1) hx hb dX3_goOn_120 (by decide) ?_
        refine lv_iand hx hb dX3_goOn_121 ?_
        refine lv_topi (fun v204 ev204 => ?_)
        have k205 : 0 ≤ v204.toInt ∧ v204.toInt ≤ 1 := by rw [ev204]; exact and_i v203 1 (by decide)
        refine lv_if_ne (tgt := 209) hx hb dX3_goOn_122 (by decide) (fun c206 => ?_) (fun c206 => ?_)
        · have dc206 : v204.toInt ≠ 0 := ne_i (a := v204.toInt) (b := 0) rfl rfl c206
          have k207 : 1 ≤ v204.toInt ∧ v204.toInt ≤ 1 := ⟨ne_lo dc206 k205.1 ⟨Int.le_refl _, Int.le_refl _⟩ (by decide), k205.2⟩
          obtain ⟨v208, ev208⟩ : ∃ z : Int32, z = u190 + 1 := ⟨_, rfl⟩
          have bv208 : v208.toInt = u190.toInt + 1 := by rw [ev208]; exact add_k rfl rfl k202 ⟨Int.le_refl _, Int.le_refl _⟩ (by decide)
          have k209 : 1 ≤ v208.toInt ∧ v208.toInt ≤ 4 := add_r bv208 k202 ⟨Int.le_refl _, Int.le_refl _⟩ (by decide)
          refine lv_iinc (v := v208) (lv' := [(11, .int v208), (10, .int v186), (9, .int r182), (8, .int v176), (7, .int 1), (6, .int v4), (4, .long v1), (0, .ref h0), (1, .int p0), (2, .int p1), (3, .int p2)]) hx hb dX3_goOn_209 hl (k := 0) rfl (by rw [ev208]; rfl) (by decide) rfl (fun ls hl => ?_)
          refine lv_goto (tgt := 109) hx hb dX3_goOn_212 (by decide) ?_
          exact ih (v208, w191, w192, G193, u194) ⟨(ir_wk k209 (by decide) (by decide)), i196, (SAME.tr SAME.rf i197 (by decide)), i198, i199⟩ (by show (4 - v208.toInt).toNat < (4 - u190.toInt).toNat; omega) _ _ _ hP hD hS (lv_sub hl [0, 1, 2, 3, 4, 5, 6, 7, 8, 9, 10] rfl)
        · have dc206 : v204.toInt = 0 := eq_i (a := v204.toInt) (b := 0) rfl rfl c206
          have k210 : 0 ≤ v204.toInt ∧ v204.toInt ≤ 0 := ⟨k205.1, Int.le_trans (Int.le_of_eq dc206) (Int.le_refl _)⟩
          refine lv_iload hx hb dX3_goOn_125 (lv_at hl 2 rfl) ?_
          refine lv_aload_n hx hb dX3_goOn_127 rfl (lv_at hl 7 rfl) ?_
          have n211 : G193 2 = .ref h_reach := (SAME.at i197 (by decide) e_reach)
          refine get_f (D := D) (ci := 3) (v := .ref h_reach) (C := RX3) (T := TX3) (N := 10) hx hb hw inAX3 hown hK hP 4 rfl rfl 2 (by decide) (hw _ q_911) (fun _ h9 => h9) n211 dX3_goOn_128 ?_
          refine lv_iload hx hb dX3_goOn_131 (lv_at hl 0 rfl) ?_
          refine va_iald hx hb hK hP 6 0 rfl rfl (ix_k k202 (by decide) (by decide)) dX3_goOn_133 ?_
          refine lv_topi (fun v212 ev212 => ?_)
          refine lv_bipush (v := 20) hx hb dX3_goOn_134 (by decide) ?_
          refine lv_iadd hx hb dX3_goOn_136 ?_
          refine lv_topi (fun v213 ev213 => ?_)
          refine lv_icmp_gt (tgt := 209) hx hb dX3_goOn_137 (by decide) (fun c214 => ?_) (fun c214 => ?_)
          · have dc214 : v213.toInt < r182.toInt := lt_i (a := v213.toInt) (b := r182.toInt) rfl rfl c214
            have k215 : (-2147483648) ≤ v213.toInt ∧ v213.toInt ≤ 249 := ⟨(ir_any _).1, up_lt dc214 t183.2 (by decide)⟩
            obtain ⟨v216, ev216⟩ : ∃ z : Int32, z = u190 + 1 := ⟨_, rfl⟩
            have bv216 : v216.toInt = u190.toInt + 1 := by rw [ev216]; exact add_k rfl rfl k202 ⟨Int.le_refl _, Int.le_refl _⟩ (by decide)
            have k217 : 1 ≤ v216.toInt ∧ v216.toInt ≤ 4 := add_r bv216 k202 ⟨Int.le_refl _, Int.le_refl _⟩ (by decide)
            refine lv_iinc (v := v216) (lv' := [(11, .int v216), (10, .int v186), (9, .int r182), (8, .int v176), (7, .int 1), (6, .int v4), (4, .long v1), (0, .ref h0), (1, .int p0), (2, .int p1), (3, .int p2)]) hx hb dX3_goOn_209 hl (k := 0) rfl (by rw [ev216]; rfl) (by decide) rfl (fun ls hl => ?_)
            refine lv_goto (tgt := 109) hx hb dX3_goOn_212 (by decide) ?_
            exact ih (v216, w191, w192, G193, u194) ⟨(ir_wk k217 (by decide) (by decide)), i196, (SAME.tr SAME.rf i197 (by decide)), i198, i199⟩ (by show (4 - v216.toInt).toNat < (4 - u190.toInt).toNat; omega) _ _ _ hP hD hS (lv_sub hl [0, 1, 2, 3, 4, 5, 6, 7, 8, 9, 10] rfl)
          · have dc214 : r182.toInt ≤ v213.toInt := nlt_i (a := v213.toInt) (b := r182.toInt) rfl rfl c214
            have k218 : 10 ≤ v213.toInt ∧ v213.toInt ≤ 2147483647 := ⟨Int.le_trans t183.1 dc214, (ir_any _).2⟩
            refine lv_iload hx hb dX3_goOn_140 (lv_at hl 2 rfl) ?_
            refine lv_iload hx hb dX3_goOn_142 (lv_at hl 4 rfl) ?_
            refine lv_if_eq (tgt := 152) hx hb dX3_goOn_144 (by decide) (fun g => absurd g (by decide)) (fun _ => ?_)
            refine lv_bipush (v := 6) hx hb dX3_goOn_147 (by decide) ?_
            refine lv_goto (tgt := 153) hx hb dX3_goOn_149 (by decide) ?_
            refine lv_isub hx hb dX3_goOn_153 ?_
            refine lv_topi (fun v219 ev219 => ?_)
            have bv219 : v219.toInt = r182.toInt - 6 := by rw [ev219]; exact sub_k rfl rfl t183 ⟨Int.le_refl _, Int.le_refl _⟩ (by decide)
            have k220 : 4 ≤ v219.toInt ∧ v219.toInt ≤ 244 := sub_r bv219 t183 ⟨Int.le_refl _, Int.le_refl _⟩ (by decide)
            refine call_Ti (wr := [(h_drag, .inl (cI, 16, .inl f_drag)), (h_ways, .inl (cJ, 7712, .inr (.inl f_ways))), (h_nextWays, .inl (cJ, 7712, .inr (.inl w191))), (h_nextStates, .inl (cI, 7712, .inl w192)), (h0, .inr (3, vL 10 G193)), (h_push, .inl (cI, 4, .inl f_push)), (h_reach, .inl (cI, 4, .inl f_reach))]) (As := [.int v219]) (rest := []) hx hb hml hown hw (m_X9_bounded l D cI cJ cB cP cM cZ v219 _ ) wT_X9_bounded (hG.2.1 (.methodLinkNest "FourSledge$JumpSearch" 99 ⟨"FourSledge", "bounded", "(I)I"⟩ "FourSledge") (by decide +kernel)) dX3_goOn_154 hP hD hS hA [] [0, 1, 2, 3, 4, 5, 6] rfl rfl (by decide) (by decide) (by decide) GG.fb hG.at hl.1 rfl (Nat.le_of_ble_eq_true rfl) ⟨(Nat.le_of_ble_eq_true rfl), (Nat.le_of_ble_eq_true rfl)⟩ ⟨(Nat.le_of_ble_eq_true rfl), (Nat.le_of_ble_eq_true rfl)⟩ (fun r221 u H locs hp hP hD hS => ?_)
            obtain ⟨t222, rfl⟩ := hp
            have hP : va_P D vwCl [(h_drag, .inl (cI, 16, .inl f_drag)), (h_ways, .inl (cJ, 7712, .inr (.inl f_ways))), (h_nextWays, .inl (cJ, 7712, .inr (.inl w191))), (h_nextStates, .inl (cI, 7712, .inl w192)), (h0, .inr (3, vL 10 G193)), (h_push, .inl (cI, 4, .inl f_push)), (h_reach, .inl (cI, 4, .inl f_reach))] H := hP
            have hD : va_D A [(h_drag, .inl (cI, 16, .inl f_drag)), (h_ways, .inl (cJ, 7712, .inr (.inl f_ways))), (h_nextWays, .inl (cJ, 7712, .inr (.inl w191))), (h_nextStates, .inl (cI, 7712, .inl w192)), (h0, .inr (3, vL 10 G193)), (h_push, .inl (cI, 4, .inl f_push)), (h_reach, .inl (cI, 4, .inl f_reach))] := hD
            refine W.widen (k := 0) (n := 0) (Nat.le_of_ble_eq_true rfl) (Nat.le_of_ble_eq_true rfl) ?_
            refine lv_istore (lv' := [(12, .int r221), (11, .int u190), (10, .int v186), (9, .int r182), (8, .int v176), (7, .int 1), (6, .int v4), (4, .long v1), (0, .ref h0), (1, .int p0), (2, .int p1), (3, .int p2)]) hx hb dX3_goOn_157 hl (by decide) rfl (fun ls hl => ?_)
            refine lv_bipush (v := 39) hx hb dX3_goOn_159 (by decide) ?_
            refine lv_iload_n hx hb dX3_goOn_161 rfl (lv_at hl 10 rfl) ?_
            refine lv_isub hx hb dX3_goOn_162 ?_
            refine lv_topi (fun v223 ev223 => ?_)
            refine lv_iconst (v := 4) hx hb dX3_goOn_163 (by decide) ?_
            refine lv_imul hx hb dX3_goOn_164 ?_
            refine lv_topi (fun v224 ev224 => ?_)
            refine lv_iload hx hb dX3_goOn_165 (lv_at hl 1 rfl) ?_
            refine lv_iadd hx hb dX3_goOn_167 ?_
            refine lv_topi (fun v225 ev225 => ?_)
            obtain ⟨v226, ev226⟩ : ∃ z : Int64, (v225 : Int32).toInt64 = z := ⟨_, rfl⟩
            refine lv_i2l (v := v226) hx hb dX3_goOn_168 ev226 ?_
            refine lv_bipush (v := 8) hx hb dX3_goOn_169 (by decide) ?_
            refine lv_iload hx hb dX3_goOn_171 (lv_at hl 2 rfl) ?_
            refine lv_iconst (v := 1) hx hb dX3_goOn_173 (by decide) ?_
            refine lv_isub hx hb dX3_goOn_174 ?_
            refine lv_topi (fun v227 ev227 => ?_)
            have bv227 : v227.toInt = v186.toInt - 1 := by rw [ev227]; exact sub_k rfl rfl k187 ⟨Int.le_refl _, Int.le_refl _⟩ (by decide)
            have k228 : (-60) ≤ v227.toInt ∧ v227.toInt ≤ 3 := sub_r bv227 k187 ⟨Int.le_refl _, Int.le_refl _⟩ (by decide)
            refine lv_imul hx hb dX3_goOn_175 ?_
            refine lv_topi (fun v229 ev229 => ?_)
            have bv229 : v229.toInt = 8 * v227.toInt := by rw [ev229]; exact kmul_k rfl rfl (by decide) k228 (by decide)
            have k230 : (-480) ≤ v229.toInt ∧ v229.toInt ≤ 24 := kmul_r bv229 (by decide) k228 (by decide)
            obtain ⟨v231, ev231⟩ : ∃ z : Int64, (v226 : Int64) <<< ((v229 : Int32).toInt64 &&& 63) = z := ⟨_, rfl⟩
            refine lv_lshl (v := v231) hx hb dX3_goOn_176 ev231 ?_
            refine lv_lstore (lv' := [(13, .long v231), (12, .int r221), (11, .int u190), (10, .int v186), (9, .int r182), (8, .int v176), (7, .int 1), (6, .int v4), (4, .long v1), (0, .ref h0), (1, .int p0), (2, .int p1), (3, .int p2)]) hx hb dX3_goOn_177 hl (by decide) rfl (fun ls hl => ?_)
            refine lv_aload_n hx hb dX3_goOn_179 rfl (lv_at hl 9 rfl) ?_
            refine lv_iload hx hb dX3_goOn_180 (lv_at hl 7 rfl) ?_
            refine lv_iconst (v := 1) hx hb dX3_goOn_182 (by decide) ?_
            refine lv_iload hx hb dX3_goOn_183 (lv_at hl 2 rfl) ?_
            refine lv_ishl hx hb dX3_goOn_185 ?_
            refine lv_topi (fun v232 ev232 => ?_)
            have k233 : 1 ≤ v232.toInt ∧ v232.toInt ≤ 8 := by rw [ev232]; exact shl1_i (Int.le_trans (by decide) k202.1) (Int.le_trans k202.2 (by decide))
            refine lv_ior hx hb dX3_goOn_186 ?_
            refine lv_topi (fun v234 ev234 => ?_)
            have k235 : 0 ≤ v234.toInt ∧ v234.toInt ≤ 15 := by rw [ev234]; exact or_ik (ir_wk k5 (by decide) (by decide)) (ir_wk k233 (by decide) (by decide))
            refine lv_iconst (v := 1) hx hb dX3_goOn_187 (by decide) ?_
            refine lv_iload hx hb dX3_goOn_188 (lv_at hl 1 rfl) ?_
            refine lv_lload hx hb dX3_goOn_190 (lv_at hl 8 rfl) ?_
            refine lv_iconst (v := 1) hx hb dX3_goOn_192 (by decide) ?_
            refine lv_iload hx hb dX3_goOn_193 (lv_at hl 1 rfl) ?_
            refine call_Ti (wr := [(h_drag, .inl (cI, 16, .inl f_drag)), (h_ways, .inl (cJ, 7712, .inr (.inl f_ways))), (h_nextWays, .inl (cJ, 7712, .inr (.inl w191))), (h_nextStates, .inl (cI, 7712, .inl w192)), (h0, .inr (3, vL 10 G193)), (h_push, .inl (cI, 4, .inl f_push)), (h_reach, .inl (cI, 4, .inl f_reach))]) (As := [.int 1, .int r221]) (rest := [.long v1, .int r221, .int 1, .int v234, .ref h0]) hx hb hml hown hw (m_X9_timeFor l D cI cJ cB cP cM cZ 1 r221 _ ) wT_X9_timeFor (hG.2.1 (.methodLinkNest "FourSledge$JumpSearch" 108 ⟨"FourSledge", "timeFor", "(II)I"⟩ "FourSledge") (by decide +kernel)) dX3_goOn_195 hP hD hS hA [] [0, 1, 2, 3, 4, 5, 6] rfl rfl (by decide) (by decide) (by decide) GG.fb hG.at hl.1 rfl (Nat.le_of_ble_eq_true rfl) ⟨(Nat.le_of_ble_eq_true rfl), (Nat.le_of_ble_eq_true rfl)⟩ ⟨(Nat.le_of_ble_eq_true rfl), (Nat.le_of_ble_eq_true rfl)⟩ (fun r236 u H locs hp hP hD hS => ?_)
            obtain rfl := hp
            have hP : va_P D vwCl [(h_drag, .inl (cI, 16, .inl f_drag)), (h_ways, .inl (cJ, 7712, .inr (.inl f_ways))), (h_nextWays, .inl (cJ, 7712, .inr (.inl w191))), (h_nextStates, .inl (cI, 7712, .inl w192)), (h0, .inr (3, vL 10 G193)), (h_push, .inl (cI, 4, .inl f_push)), (h_reach, .inl (cI, 4, .inl f_reach))] H := hP
            have hD : va_D A [(h_drag, .inl (cI, 16, .inl f_drag)), (h_ways, .inl (cJ, 7712, .inr (.inl f_ways))), (h_nextWays, .inl (cJ, 7712, .inr (.inl w191))), (h_nextStates, .inl (cI, 7712, .inl w192)), (h0, .inr (3, vL 10 G193)), (h_push, .inl (cI, 4, .inl f_push)), (h_reach, .inl (cI, 4, .inl f_reach))] := hD
            refine W.widen (k := 0) (n := 0) (Nat.le_of_ble_eq_true rfl) (Nat.le_of_ble_eq_true rfl) ?_
            obtain ⟨v237, ev237⟩ : ∃ z : Int64, (r236 : Int32).toInt64 = z := ⟨_, rfl⟩
            refine lv_i2l (v := v237) hx hb dX3_goOn_198 ev237 ?_
            refine lv_bipush (v := 32) hx hb dX3_goOn_199 (by decide) ?_
            obtain ⟨v238, ev238⟩ : ∃ z : Int64, (v237 : Int64) <<< ((32 : Int32).toInt64 &&& 63) = z := ⟨_, rfl⟩
            refine lv_lshl (v := v238) hx hb dX3_goOn_201 ev238 ?_
            refine lv_ladd hx hb dX3_goOn_202 ?_
            refine lv_topl (fun v239 ev239 => ?_)
            refine lv_lload hx hb dX3_goOn_203 (lv_at hl 0 rfl) ?_
            refine lv_ladd hx hb dX3_goOn_205 ?_
            refine lv_topl (fun v240 ev240 => ?_)
            have n241 : G193 5 = .ref h_nextWays := (SAME.at i197 (by decide) e_nextWays)
            have n242 : G193 7 = .ref h_nextStates := (SAME.at i197 (by decide) e_nextStates)
            refine call_Vv (wr := [(h_drag, .inl (cI, 16, .inl f_drag)), (h_ways, .inl (cJ, 7712, .inr (.inl f_ways))), (h_push, .inl (cI, 4, .inl f_push)), (h_reach, .inl (cI, 4, .inl f_reach))]) (As := [.int v234, .int 1, .int r221, .long v240]) (rest := []) hx hb hml hown hw (m_X3_reachState l D cI cJ cB cP cM cZ h0 h_nextWays h_nextStates G193 u194 w191 w192 v234 1 r221 v240 _ n241 n242 i198 i199 i196 k235 ⟨by decide, by decide⟩ t222) wV_X3_66_X3_reachState dX3_goOn_206 hK hP hD hS hA [4, 2, 3] [0, 1, 5, 6] rfl rfl (by decide) (by decide) (by decide) 0 3 rfl rfl GG.fb hG.at hl.1 rfl (Nat.le_of_ble_eq_true rfl) ⟨(Nat.le_of_ble_eq_true rfl), (Nat.le_of_ble_eq_true rfl)⟩ ⟨(Nat.le_of_ble_eq_true rfl), (Nat.le_of_ble_eq_true rfl)⟩ (fun u H locs hp hP hD hS => ?_)
            obtain ⟨F244, y245, g246, g247, t248, t249, t250, t251, rfl⟩ := hp
            have hP : va_P D vwCl [(h_drag, .inl (cI, 16, .inl f_drag)), (h_ways, .inl (cJ, 7712, .inr (.inl f_ways))), (h_push, .inl (cI, 4, .inl f_push)), (h_reach, .inl (cI, 4, .inl f_reach)), (h0, .inr (3, vL 10 F244)), (h_nextWays, .inl (cJ, 7712, .inr (.inl g246))), (h_nextStates, .inl (cI, 7712, .inl g247))] H := hP
            have hD : va_D A [(h_drag, .inl (cI, 16, .inl f_drag)), (h_ways, .inl (cJ, 7712, .inr (.inl f_ways))), (h_push, .inl (cI, 4, .inl f_push)), (h_reach, .inl (cI, 4, .inl f_reach)), (h0, .inr (3, vL 10 F244)), (h_nextWays, .inl (cJ, 7712, .inr (.inl g246))), (h_nextStates, .inl (cI, 7712, .inl g247))] := hD
            refine W.widen (k := 0) (n := 0) (Nat.le_of_ble_eq_true rfl) (Nat.le_of_ble_eq_true rfl) ?_
            obtain ⟨v252, ev252⟩ : ∃ z : Int32, z = u190 + 1 := ⟨_, rfl⟩
            have bv252 : v252.toInt = u190.toInt + 1 := by rw [ev252]; exact add_k rfl rfl k202 ⟨Int.le_refl _, Int.le_refl _⟩ (by decide)
            have k253 : 1 ≤ v252.toInt ∧ v252.toInt ≤ 4 := add_r bv252 k202 ⟨Int.le_refl _, Int.le_refl _⟩ (by decide)
            refine lv_iinc (v := v252) (lv' := [(11, .int v252), (13, .long v231), (12, .int r221), (10, .int v186), (9, .int r182), (8, .int v176), (7, .int 1), (6, .int v4), (4, .long v1), (0, .ref h0), (1, .int p0), (2, .int p1), (3, .int p2)]) hx hb dX3_goOn_209 hl (k := 2) rfl (by rw [ev252]; rfl) (by decide) rfl (fun ls hl => ?_)
            refine lv_goto (tgt := 109) hx hb dX3_goOn_212 (by decide) ?_
            exact ih (v252, g246, g247, F244, y245) ⟨(ir_wk k253 (by decide) (by decide)), t251, (SAME.tr (SAME.tr SAME.rf i197 (by decide)) t248 (by decide)), t249, t250⟩ (by show (4 - v252.toInt).toNat < (4 - u190.toInt).toNat; omega) _ _ _ (hP.sub [0, 1, 5, 6, 4, 2, 3] rfl) (hD.sub [0, 1, 5, 6, 4, 2, 3] (by decide) rfl) hS (lv_sub hl [0, 3, 4, 5, 6, 7, 8, 9, 10, 11, 12] rfl)
    · have dc188 : v186.toInt ≤ p2.toInt := nlt_i (a := p2.toInt) (b := v186.toInt) rfl rfl c188
      have k254 : (-59) ≤ p2.toInt ∧ p2.toInt ≤ 2147483647 := ⟨Int.le_trans k187.1 dc188, (ir_any _).2⟩
      refine lv_aload_n hx hb dX3_goOn_84 rfl (lv_at hl 6 rfl) ?_
      refine lv_iload hx hb dX3_goOn_85 (lv_at hl 4 rfl) ?_
      refine lv_iconst (v := 0) hx hb dX3_goOn_87 (by decide) ?_
      refine lv_iload hx hb dX3_goOn_88 (lv_at hl 1 rfl) ?_
      refine lv_lload hx hb dX3_goOn_90 (lv_at hl 5 rfl) ?_
      refine lv_iconst (v := 1) hx hb dX3_goOn_92 (by decide) ?_
      refine lv_iload hx hb dX3_goOn_93 (lv_at hl 1 rfl) ?_
      refine call_Ti (wr := [(h_drag, .inl (cI, 16, .inl f_drag)), (h_ways, .inl (cJ, 7712, .inr (.inl f_ways))), (h_nextWays, .inl (cJ, 7712, .inr (.inl f_nextWays))), (h_nextStates, .inl (cI, 7712, .inl f_nextStates)), (h0, .inr (3, vL 10 Fh)), (h_push, .inl (cI, 4, .inl f_push)), (h_reach, .inl (cI, 4, .inl f_reach))]) (As := [.int 1, .int r182]) (rest := [.long v1, .int r182, .int 0, .int v4, .ref h0]) hx hb hml hown hw (m_X9_timeFor l D cI cJ cB cP cM cZ 1 r182 _ ) wT_X9_timeFor (hG.2.1 (.methodLinkNest "FourSledge$JumpSearch" 108 ⟨"FourSledge", "timeFor", "(II)I"⟩ "FourSledge") (by decide +kernel)) dX3_goOn_95 hP hD hS hA [] [0, 1, 2, 3, 4, 5, 6] rfl rfl (by decide) (by decide) (by decide) GG.fb hG.at hl.1 rfl (Nat.le_of_ble_eq_true rfl) ⟨(Nat.le_of_ble_eq_true rfl), (Nat.le_of_ble_eq_true rfl)⟩ ⟨(Nat.le_of_ble_eq_true rfl), (Nat.le_of_ble_eq_true rfl)⟩ (fun r255 u H locs hp hP hD hS => ?_)
      obtain rfl := hp
      have hP : va_P D vwCl [(h_drag, .inl (cI, 16, .inl f_drag)), (h_ways, .inl (cJ, 7712, .inr (.inl f_ways))), (h_nextWays, .inl (cJ, 7712, .inr (.inl f_nextWays))), (h_nextStates, .inl (cI, 7712, .inl f_nextStates)), (h0, .inr (3, vL 10 Fh)), (h_push, .inl (cI, 4, .inl f_push)), (h_reach, .inl (cI, 4, .inl f_reach))] H := hP
      have hD : va_D A [(h_drag, .inl (cI, 16, .inl f_drag)), (h_ways, .inl (cJ, 7712, .inr (.inl f_ways))), (h_nextWays, .inl (cJ, 7712, .inr (.inl f_nextWays))), (h_nextStates, .inl (cI, 7712, .inl f_nextStates)), (h0, .inr (3, vL 10 Fh)), (h_push, .inl (cI, 4, .inl f_push)), (h_reach, .inl (cI, 4, .inl f_reach))] := hD
      refine W.widen (k := 0) (n := 0) (Nat.le_of_ble_eq_true rfl) (Nat.le_of_ble_eq_true rfl) ?_
      obtain ⟨v256, ev256⟩ : ∃ z : Int64, (r255 : Int32).toInt64 = z := ⟨_, rfl⟩
      refine lv_i2l (v := v256) hx hb dX3_goOn_98 ev256 ?_
      refine lv_bipush (v := 32) hx hb dX3_goOn_99 (by decide) ?_
      obtain ⟨v257, ev257⟩ : ∃ z : Int64, (v256 : Int64) <<< ((32 : Int32).toInt64 &&& 63) = z := ⟨_, rfl⟩
      refine lv_lshl (v := v257) hx hb dX3_goOn_101 ev257 ?_
      refine lv_ladd hx hb dX3_goOn_102 ?_
      refine lv_topl (fun v258 ev258 => ?_)
      refine call_Vv (wr := [(h_drag, .inl (cI, 16, .inl f_drag)), (h_ways, .inl (cJ, 7712, .inr (.inl f_ways))), (h_push, .inl (cI, 4, .inl f_push)), (h_reach, .inl (cI, 4, .inl f_reach))]) (As := [.int v4, .int 0, .int r182, .long v258]) (rest := []) hx hb hml hown hw (m_X3_reachState l D cI cJ cB cP cM cZ h0 h_nextWays h_nextStates Fh x_nextCount f_nextWays f_nextStates v4 0 r182 v258 _ e_nextWays e_nextStates e_nextCount i_x_nextCount s_nextStates_0 k5 ⟨by decide, by decide⟩ t183) wV_X3_66_X3_reachState dX3_goOn_103 hK hP hD hS hA [4, 2, 3] [0, 1, 5, 6] rfl rfl (by decide) (by decide) (by decide) 0 3 rfl rfl GG.fb hG.at hl.1 rfl (Nat.le_of_ble_eq_true rfl) ⟨(Nat.le_of_ble_eq_true rfl), (Nat.le_of_ble_eq_true rfl)⟩ ⟨(Nat.le_of_ble_eq_true rfl), (Nat.le_of_ble_eq_true rfl)⟩ (fun u H locs hp hP hD hS => ?_)
      obtain ⟨F260, y261, g262, g263, t264, t265, t266, t267, rfl⟩ := hp
      have hP : va_P D vwCl [(h_drag, .inl (cI, 16, .inl f_drag)), (h_ways, .inl (cJ, 7712, .inr (.inl f_ways))), (h_push, .inl (cI, 4, .inl f_push)), (h_reach, .inl (cI, 4, .inl f_reach)), (h0, .inr (3, vL 10 F260)), (h_nextWays, .inl (cJ, 7712, .inr (.inl g262))), (h_nextStates, .inl (cI, 7712, .inl g263))] H := hP
      have hD : va_D A [(h_drag, .inl (cI, 16, .inl f_drag)), (h_ways, .inl (cJ, 7712, .inr (.inl f_ways))), (h_push, .inl (cI, 4, .inl f_push)), (h_reach, .inl (cI, 4, .inl f_reach)), (h0, .inr (3, vL 10 F260)), (h_nextWays, .inl (cJ, 7712, .inr (.inl g262))), (h_nextStates, .inl (cI, 7712, .inl g263))] := hD
      refine W.widen (k := 0) (n := 0) (Nat.le_of_ble_eq_true rfl) (Nat.le_of_ble_eq_true rfl) ?_
      refine lv_iconst (v := 0) hx hb dX3_goOn_106 (by decide) ?_
      refine lv_istore (lv' := [(11, .int 0), (10, .int v186), (9, .int r182), (8, .int v176), (7, .int 1), (6, .int v4), (4, .long v1), (0, .ref h0), (1, .int p0), (2, .int p1), (3, .int p2)]) hx hb dX3_goOn_107 hl (by decide) rfl (fun ls hl => ?_)
      refine mloop (α := (Int32) × (Nat → Value) × (Int32) × (Nat → Int64) × (Nat → Int32)) (nL := 15) (D := D) (A := A) (H0 := s.heap) (fun a => (4 - a.1.toInt).toNat) (fun a => IR 0 4 a.1 ∧ SAME [9] F260 a.2.1 ∧ a.2.1 9 = .int a.2.2.1 ∧ IR 0 7712 a.2.2.1 ∧ SG 0 7711 0 7711 a.2.2.2.2) (fun a => [(h_drag, .inl (cI, 16, .inl f_drag)), (h_ways, .inl (cJ, 7712, .inr (.inl f_ways))), (h_push, .inl (cI, 4, .inl f_push)), (h_reach, .inl (cI, 4, .inl f_reach)), (h0, .inr (3, vL 10 a.2.1)), (h_nextWays, .inl (cJ, 7712, .inr (.inl a.2.2.2.1))), (h_nextStates, .inl (cI, 7712, .inl a.2.2.2.2))]) (fun a => [(11, .int a.1), (10, .int v186), (9, .int r182), (8, .int v176), (7, .int 1), (6, .int v4), (4, .long v1), (0, .ref h0), (1, .int p0), (2, .int p1), (3, .int p2)]) (fun H locs ls => W p l e ({ frames := 2, cells := 0, slots := 0, locals := 66 } : Room) s m [.ref h0, .int p0, .int p1, .int p2].toArray below meth c H locs 0 0 (MQ below (va_Qv (fun (u : va_W) => ∃ (Gh : Nat → Value) (y_nextCount : Int32) (g_nextWays : Nat → Int64) (g_nextStates : Nat → Int32), SAME [9] Fh Gh ∧ Gh 9 = .int y_nextCount ∧ IR 0 7712 y_nextCount ∧ SG 0 7711 0 7711 g_nextStates ∧ u = [(h0, .inr (3, vL 10 Gh)), (h_push, .inl (cI, 4, .inl f_push)), (h_reach, .inl (cI, 4, .inl f_reach)), (h_drag, .inl (cI, 16, .inl f_drag)), (h_ways, .inl (cJ, 7712, .inr (.inl f_ways))), (h_nextWays, .inl (cJ, 7712, .inr (.inl g_nextWays))), (h_nextStates, .inl (cI, 7712, .inl g_nextStates))]) (PO D A) A) [.ref h0, .int p0, .int p1, .int p2].toArray s 0 0 A) (F0 m 109 ls [])) ?_ (0, F260, y261, g262, g263) ⟨⟨by decide, by decide⟩, SAME.rf, t265, t266, t267⟩ _ _ _ hP hD hS hl
      rintro ⟨u268, G269, u270, w271, w272⟩ ⟨i273, i274, i275, i276, i277⟩ ih H locs ls hP hD hS hl
      have i273 : 0 ≤ u268.toInt ∧ u268.toInt ≤ 4 := i273
      have i276 : 0 ≤ u270.toInt ∧ u270.toInt ≤ 7712 := i276
      have hP : va_P D vwCl [(h_drag, .inl (cI, 16, .inl f_drag)), (h_ways, .inl (cJ, 7712, .inr (.inl f_ways))), (h_push, .inl (cI, 4, .inl f_push)), (h_reach, .inl (cI, 4, .inl f_reach)), (h0, .inr (3, vL 10 G269)), (h_nextWays, .inl (cJ, 7712, .inr (.inl w271))), (h_nextStates, .inl (cI, 7712, .inl w272))] H := hP
      have hD : va_D A [(h_drag, .inl (cI, 16, .inl f_drag)), (h_ways, .inl (cJ, 7712, .inr (.inl f_ways))), (h_push, .inl (cI, 4, .inl f_push)), (h_reach, .inl (cI, 4, .inl f_reach)), (h0, .inr (3, vL 10 G269)), (h_nextWays, .inl (cJ, 7712, .inr (.inl w271))), (h_nextStates, .inl (cI, 7712, .inl w272))] := hD
      have hl : lv_has ls 15 [(11, .int u268), (10, .int v186), (9, .int r182), (8, .int v176), (7, .int 1), (6, .int v4), (4, .long v1), (0, .ref h0), (1, .int p0), (2, .int p1), (3, .int p2)] := hl
      refine lv_iload hx hb dX3_goOn_109 (lv_at hl 0 rfl) ?_
      refine lv_iconst (v := 4) hx hb dX3_goOn_111 (by decide) ?_
      refine lv_icmp_ge (tgt := 215) hx hb dX3_goOn_112 (by decide) (fun c278 => ?_) (fun c278 => ?_)
      · have dc278 : 4 ≤ u268.toInt := le_i (a := 4) (b := u268.toInt) rfl rfl c278
        have k279 : 4 ≤ u268.toInt ∧ u268.toInt ≤ 4 := ⟨Int.le_trans (Int.le_refl _) dc278, i273.2⟩
        exact ret_v hx hb hr hlocks hS (hP.sub (ws' := [(h0, .inr (3, vL 10 G269)), (h_push, .inl (cI, 4, .inl f_push)), (h_reach, .inl (cI, 4, .inl f_reach)), (h_drag, .inl (cI, 16, .inl f_drag)), (h_ways, .inl (cJ, 7712, .inr (.inl f_ways))), (h_nextWays, .inl (cJ, 7712, .inr (.inl w271))), (h_nextStates, .inl (cI, 7712, .inl w272))]) [4, 2, 3, 0, 1, 5, 6] rfl) (hD.sub (ws' := [(h0, .inr (3, vL 10 G269)), (h_push, .inl (cI, 4, .inl f_push)), (h_reach, .inl (cI, 4, .inl f_reach)), (h_drag, .inl (cI, 16, .inl f_drag)), (h_ways, .inl (cJ, 7712, .inr (.inl f_ways))), (h_nextWays, .inl (cJ, 7712, .inr (.inl w271))), (h_nextStates, .inl (cI, 7712, .inl w272))]) [4, 2, 3, 0, 1, 5, 6] (by decide) rfl) dX3_goOn_215 (Nat.le_of_ble_eq_true rfl) (Nat.le_of_ble_eq_true rfl) ⟨G269, u270, w271, w272, (SAME.tr (SAME.tr SAME.rf t264 (by decide)) i274 (by decide)), i275, i276, i277, rfl⟩
      · have dc278 : u268.toInt < 4 := nle_i (a := 4) (b := u268.toInt) rfl rfl c278
        have k280 : 0 ≤ u268.toInt ∧ u268.toInt ≤ 3 := ⟨i273.1, up_lt dc278 (Int.le_refl _) (by decide)⟩
        refine lv_iload hx hb dX3_goOn_115 (lv_at hl 5 rfl) ?_
        refine lv_iload hx hb dX3_goOn_117 (lv_at hl 0 rfl) ?_
        refine lv_ishr hx hb dX3_goOn_119 ?_
        refine lv_topi (fun v281 ev281 => ?_)
        refine lv_iconst (v := 1) hx hb dX3_goOn_120 (by decide) ?_
        refine lv_iand hx hb dX3_goOn_121 ?_
        refine lv_topi (fun v282 ev282 => ?_)
        have k283 : 0 ≤ v282.toInt ∧ v282.toInt ≤ 1 := by rw [ev282]; exact and_i v281 1 (by decide)
        refine lv_if_ne (tgt := 209) hx hb dX3_goOn_122 (by decide) (fun c284 => ?_) (fun c284 => ?_)
        · have dc284 : v282.toInt ≠ 0 := ne_i (a := v282.toInt) (b := 0) rfl rfl c284
          have k285 : 1 ≤ v282.toInt ∧ v282.toInt ≤ 1 := ⟨ne_lo dc284 k283.1 ⟨Int.le_refl _, Int.le_refl _⟩ (by decide), k283.2⟩
          obtain ⟨v286, ev286⟩ : ∃ z : Int32, z = u268 + 1 := ⟨_, rfl⟩
          have bv286 : v286.toInt = u268.toInt + 1 := by rw [ev286]; exact add_k rfl rfl k280 ⟨Int.le_refl _, Int.le_refl _⟩ (by decide)
          have k287 : 1 ≤ v286.toInt ∧ v286.toInt ≤ 4 := add_r bv286 k280 ⟨Int.le_refl _, Int.le_refl _⟩ (by decide)
          refine lv_iinc (v := v286) (lv' := [(11, .int v286), (10, .int v186), (9, .int r182), (8, .int v176), (7, .int 1), (6, .int v4), (4, .long v1), (0, .ref h0), (1, .int p0), (2, .int p1), (3, .int p2)]) hx hb dX3_goOn_209 hl (k := 0) rfl (by rw [ev286]; rfl) (by decide) rfl (fun ls hl => ?_)
          refine lv_goto (tgt := 109) hx hb dX3_goOn_212 (by decide) ?_
          exact ih (v286, G269, u270, w271, w272) ⟨(ir_wk k287 (by decide) (by decide)), (SAME.tr SAME.rf i274 (by decide)), i275, i276, i277⟩ (by show (4 - v286.toInt).toNat < (4 - u268.toInt).toNat; omega) _ _ _ hP hD hS (lv_sub hl [0, 1, 2, 3, 4, 5, 6, 7, 8, 9, 10] rfl)
        · have dc284 : v282.toInt = 0 := eq_i (a := v282.toInt) (b := 0) rfl rfl c284
          have k288 : 0 ≤ v282.toInt ∧ v282.toInt ≤ 0 := ⟨k283.1, Int.le_trans (Int.le_of_eq dc284) (Int.le_refl _)⟩
          refine lv_iload hx hb dX3_goOn_125 (lv_at hl 2 rfl) ?_
          refine lv_aload_n hx hb dX3_goOn_127 rfl (lv_at hl 7 rfl) ?_
          have n289 : F260 2 = .ref h_reach := (SAME.at t264 (by decide) e_reach)
          have n290 : G269 2 = .ref h_reach := (SAME.at i274 (by decide) n289)
          refine get_f (D := D) (ci := 3) (v := .ref h_reach) (C := RX3) (T := TX3) (N := 10) hx hb hw inAX3 hown hK hP 4 rfl rfl 2 (by decide) (hw _ q_911) (fun _ h9 => h9) n290 dX3_goOn_128 ?_
          refine lv_iload hx hb dX3_goOn_131 (lv_at hl 0 rfl) ?_
          refine va_iald hx hb hK hP 3 0 rfl rfl (ix_k k280 (by decide) (by decide)) dX3_goOn_133 ?_
          refine lv_topi (fun v291 ev291 => ?_)
          refine lv_bipush (v := 20) hx hb dX3_goOn_134 (by decide) ?_
          refine lv_iadd hx hb dX3_goOn_136 ?_
          refine lv_topi (fun v292 ev292 => ?_)
          refine lv_icmp_gt (tgt := 209) hx hb dX3_goOn_137 (by decide) (fun c293 => ?_) (fun c293 => ?_)
          · have dc293 : v292.toInt < r182.toInt := lt_i (a := v292.toInt) (b := r182.toInt) rfl rfl c293
            have k294 : (-2147483648) ≤ v292.toInt ∧ v292.toInt ≤ 249 := ⟨(ir_any _).1, up_lt dc293 t183.2 (by decide)⟩
            obtain ⟨v295, ev295⟩ : ∃ z : Int32, z = u268 + 1 := ⟨_, rfl⟩
            have bv295 : v295.toInt = u268.toInt + 1 := by rw [ev295]; exact add_k rfl rfl k280 ⟨Int.le_refl _, Int.le_refl _⟩ (by decide)
            have k296 : 1 ≤ v295.toInt ∧ v295.toInt ≤ 4 := add_r bv295 k280 ⟨Int.le_refl _, Int.le_refl _⟩ (by decide)
            refine lv_iinc (v := v295) (lv' := [(11, .int v295), (10, .int v186), (9, .int r182), (8, .int v176), (7, .int 1), (6, .int v4), (4, .long v1), (0, .ref h0), (1, .int p0), (2, .int p1), (3, .int p2)]) hx hb dX3_goOn_209 hl (k := 0) rfl (by rw [ev295]; rfl) (by decide) rfl (fun ls hl => ?_)
            refine lv_goto (tgt := 109) hx hb dX3_goOn_212 (by decide) ?_
            exact ih (v295, G269, u270, w271, w272) ⟨(ir_wk k296 (by decide) (by decide)), (SAME.tr SAME.rf i274 (by decide)), i275, i276, i277⟩ (by show (4 - v295.toInt).toNat < (4 - u268.toInt).toNat; omega) _ _ _ hP hD hS (lv_sub hl [0, 1, 2, 3, 4, 5, 6, 7, 8, 9, 10] rfl)
          · have dc293 : r182.toInt ≤ v292.toInt := nlt_i (a := v292.toInt) (b := r182.toInt) rfl rfl c293
            have k297 : 10 ≤ v292.toInt ∧ v292.toInt ≤ 2147483647 := ⟨Int.le_trans t183.1 dc293, (ir_any _).2⟩
            refine lv_iload hx hb dX3_goOn_140 (lv_at hl 2 rfl) ?_
            refine lv_iload hx hb dX3_goOn_142 (lv_at hl 4 rfl) ?_
            refine lv_if_eq (tgt := 152) hx hb dX3_goOn_144 (by decide) (fun g => absurd g (by decide)) (fun _ => ?_)
            refine lv_bipush (v := 6) hx hb dX3_goOn_147 (by decide) ?_
            refine lv_goto (tgt := 153) hx hb dX3_goOn_149 (by decide) ?_
            refine lv_isub hx hb dX3_goOn_153 ?_
            refine lv_topi (fun v298 ev298 => ?_)
            have bv298 : v298.toInt = r182.toInt - 6 := by rw [ev298]; exact sub_k rfl rfl t183 ⟨Int.le_refl _, Int.le_refl _⟩ (by decide)
            have k299 : 4 ≤ v298.toInt ∧ v298.toInt ≤ 244 := sub_r bv298 t183 ⟨Int.le_refl _, Int.le_refl _⟩ (by decide)
            refine call_Ti (wr := [(h_drag, .inl (cI, 16, .inl f_drag)), (h_ways, .inl (cJ, 7712, .inr (.inl f_ways))), (h_push, .inl (cI, 4, .inl f_push)), (h_reach, .inl (cI, 4, .inl f_reach)), (h0, .inr (3, vL 10 G269)), (h_nextWays, .inl (cJ, 7712, .inr (.inl w271))), (h_nextStates, .inl (cI, 7712, .inl w272))]) (As := [.int v298]) (rest := []) hx hb hml hown hw (m_X9_bounded l D cI cJ cB cP cM cZ v298 _ ) wT_X9_bounded (hG.2.1 (.methodLinkNest "FourSledge$JumpSearch" 99 ⟨"FourSledge", "bounded", "(I)I"⟩ "FourSledge") (by decide +kernel)) dX3_goOn_154 hP hD hS hA [] [0, 1, 2, 3, 4, 5, 6] rfl rfl (by decide) (by decide) (by decide) GG.fb hG.at hl.1 rfl (Nat.le_of_ble_eq_true rfl) ⟨(Nat.le_of_ble_eq_true rfl), (Nat.le_of_ble_eq_true rfl)⟩ ⟨(Nat.le_of_ble_eq_true rfl), (Nat.le_of_ble_eq_true rfl)⟩ (fun r300 u H locs hp hP hD hS => ?_)
            obtain ⟨t301, rfl⟩ := hp
            have hP : va_P D vwCl [(h_drag, .inl (cI, 16, .inl f_drag)), (h_ways, .inl (cJ, 7712, .inr (.inl f_ways))), (h_push, .inl (cI, 4, .inl f_push)), (h_reach, .inl (cI, 4, .inl f_reach)), (h0, .inr (3, vL 10 G269)), (h_nextWays, .inl (cJ, 7712, .inr (.inl w271))), (h_nextStates, .inl (cI, 7712, .inl w272))] H := hP
            have hD : va_D A [(h_drag, .inl (cI, 16, .inl f_drag)), (h_ways, .inl (cJ, 7712, .inr (.inl f_ways))), (h_push, .inl (cI, 4, .inl f_push)), (h_reach, .inl (cI, 4, .inl f_reach)), (h0, .inr (3, vL 10 G269)), (h_nextWays, .inl (cJ, 7712, .inr (.inl w271))), (h_nextStates, .inl (cI, 7712, .inl w272))] := hD
            refine W.widen (k := 0) (n := 0) (Nat.le_of_ble_eq_true rfl) (Nat.le_of_ble_eq_true rfl) ?_
            refine lv_istore (lv' := [(12, .int r300), (11, .int u268), (10, .int v186), (9, .int r182), (8, .int v176), (7, .int 1), (6, .int v4), (4, .long v1), (0, .ref h0), (1, .int p0), (2, .int p1), (3, .int p2)]) hx hb dX3_goOn_157 hl (by decide) rfl (fun ls hl => ?_)
            refine lv_bipush (v := 39) hx hb dX3_goOn_159 (by decide) ?_
            refine lv_iload_n hx hb dX3_goOn_161 rfl (lv_at hl 10 rfl) ?_
            refine lv_isub hx hb dX3_goOn_162 ?_
            refine lv_topi (fun v302 ev302 => ?_)
            refine lv_iconst (v := 4) hx hb dX3_goOn_163 (by decide) ?_
            refine lv_imul hx hb dX3_goOn_164 ?_
            refine lv_topi (fun v303 ev303 => ?_)
            refine lv_iload hx hb dX3_goOn_165 (lv_at hl 1 rfl) ?_
            refine lv_iadd hx hb dX3_goOn_167 ?_
            refine lv_topi (fun v304 ev304 => ?_)
            obtain ⟨v305, ev305⟩ : ∃ z : Int64, (v304 : Int32).toInt64 = z := ⟨_, rfl⟩
            refine lv_i2l (v := v305) hx hb dX3_goOn_168 ev305 ?_
            refine lv_bipush (v := 8) hx hb dX3_goOn_169 (by decide) ?_
            refine lv_iload hx hb dX3_goOn_171 (lv_at hl 2 rfl) ?_
            refine lv_iconst (v := 1) hx hb dX3_goOn_173 (by decide) ?_
            refine lv_isub hx hb dX3_goOn_174 ?_
            refine lv_topi (fun v306 ev306 => ?_)
            have bv306 : v306.toInt = v186.toInt - 1 := by rw [ev306]; exact sub_k rfl rfl k187 ⟨Int.le_refl _, Int.le_refl _⟩ (by decide)
            have k307 : (-60) ≤ v306.toInt ∧ v306.toInt ≤ 3 := sub_r bv306 k187 ⟨Int.le_refl _, Int.le_refl _⟩ (by decide)
            refine lv_imul hx hb dX3_goOn_175 ?_
            refine lv_topi (fun v308 ev308 => ?_)
            have bv308 : v308.toInt = 8 * v306.toInt := by rw [ev308]; exact kmul_k rfl rfl (by decide) k307 (by decide)
            have k309 : (-480) ≤ v308.toInt ∧ v308.toInt ≤ 24 := kmul_r bv308 (by decide) k307 (by decide)
            obtain ⟨v310, ev310⟩ : ∃ z : Int64, (v305 : Int64) <<< ((v308 : Int32).toInt64 &&& 63) = z := ⟨_, rfl⟩
            refine lv_lshl (v := v310) hx hb dX3_goOn_176 ev310 ?_
            refine lv_lstore (lv' := [(13, .long v310), (12, .int r300), (11, .int u268), (10, .int v186), (9, .int r182), (8, .int v176), (7, .int 1), (6, .int v4), (4, .long v1), (0, .ref h0), (1, .int p0), (2, .int p1), (3, .int p2)]) hx hb dX3_goOn_177 hl (by decide) rfl (fun ls hl => ?_)
            refine lv_aload_n hx hb dX3_goOn_179 rfl (lv_at hl 9 rfl) ?_
            refine lv_iload hx hb dX3_goOn_180 (lv_at hl 7 rfl) ?_
            refine lv_iconst (v := 1) hx hb dX3_goOn_182 (by decide) ?_
            refine lv_iload hx hb dX3_goOn_183 (lv_at hl 2 rfl) ?_
            refine lv_ishl hx hb dX3_goOn_185 ?_
            refine lv_topi (fun v311 ev311 => ?_)
            have k312 : 1 ≤ v311.toInt ∧ v311.toInt ≤ 8 := by rw [ev311]; exact shl1_i (Int.le_trans (by decide) k280.1) (Int.le_trans k280.2 (by decide))
            refine lv_ior hx hb dX3_goOn_186 ?_
            refine lv_topi (fun v313 ev313 => ?_)
            have k314 : 0 ≤ v313.toInt ∧ v313.toInt ≤ 15 := by rw [ev313]; exact or_ik (ir_wk k5 (by decide) (by decide)) (ir_wk k312 (by decide) (by decide))
            refine lv_iconst (v := 1) hx hb dX3_goOn_187 (by decide) ?_
            refine lv_iload hx hb dX3_goOn_188 (lv_at hl 1 rfl) ?_
            refine lv_lload hx hb dX3_goOn_190 (lv_at hl 8 rfl) ?_
            refine lv_iconst (v := 1) hx hb dX3_goOn_192 (by decide) ?_
            refine lv_iload hx hb dX3_goOn_193 (lv_at hl 1 rfl) ?_
            refine call_Ti (wr := [(h_drag, .inl (cI, 16, .inl f_drag)), (h_ways, .inl (cJ, 7712, .inr (.inl f_ways))), (h_push, .inl (cI, 4, .inl f_push)), (h_reach, .inl (cI, 4, .inl f_reach)), (h0, .inr (3, vL 10 G269)), (h_nextWays, .inl (cJ, 7712, .inr (.inl w271))), (h_nextStates, .inl (cI, 7712, .inl w272))]) (As := [.int 1, .int r300]) (rest := [.long v1, .int r300, .int 1, .int v313, .ref h0]) hx hb hml hown hw (m_X9_timeFor l D cI cJ cB cP cM cZ 1 r300 _ ) wT_X9_timeFor (hG.2.1 (.methodLinkNest "FourSledge$JumpSearch" 108 ⟨"FourSledge", "timeFor", "(II)I"⟩ "FourSledge") (by decide +kernel)) dX3_goOn_195 hP hD hS hA [] [0, 1, 2, 3, 4, 5, 6] rfl rfl (by decide) (by decide) (by decide) GG.fb hG.at hl.1 rfl (Nat.le_of_ble_eq_true rfl) ⟨(Nat.le_of_ble_eq_true rfl), (Nat.le_of_ble_eq_true rfl)⟩ ⟨(Nat.le_of_ble_eq_true rfl), (Nat.le_of_ble_eq_true rfl)⟩ (fun r315 u H locs hp hP hD hS => ?_)
            obtain rfl := hp
            have hP : va_P D vwCl [(h_drag, .inl (cI, 16, .inl f_drag)), (h_ways, .inl (cJ, 7712, .inr (.inl f_ways))), (h_push, .inl (cI, 4, .inl f_push)), (h_reach, .inl (cI, 4, .inl f_reach)), (h0, .inr (3, vL 10 G269)), (h_nextWays, .inl (cJ, 7712, .inr (.inl w271))), (h_nextStates, .inl (cI, 7712, .inl w272))] H := hP
            have hD : va_D A [(h_drag, .inl (cI, 16, .inl f_drag)), (h_ways, .inl (cJ, 7712, .inr (.inl f_ways))), (h_push, .inl (cI, 4, .inl f_push)), (h_reach, .inl (cI, 4, .inl f_reach)), (h0, .inr (3, vL 10 G269)), (h_nextWays, .inl (cJ, 7712, .inr (.inl w271))), (h_nextStates, .inl (cI, 7712, .inl w272))] := hD
            refine W.widen (k := 0) (n := 0) (Nat.le_of_ble_eq_true rfl) (Nat.le_of_ble_eq_true rfl) ?_
            obtain ⟨v316, ev316⟩ : ∃ z : Int64, (r315 : Int32).toInt64 = z := ⟨_, rfl⟩
            refine lv_i2l (v := v316) hx hb dX3_goOn_198 ev316 ?_
            refine lv_bipush (v := 32) hx hb dX3_goOn_199 (by decide) ?_
            obtain ⟨v317, ev317⟩ : ∃ z : Int64, (v316 : Int64) <<< ((32 : Int32).toInt64 &&& 63) = z := ⟨_, rfl⟩
            refine lv_lshl (v := v317) hx hb dX3_goOn_201 ev317 ?_
            refine lv_ladd hx hb dX3_goOn_202 ?_
            refine lv_topl (fun v318 ev318 => ?_)
            refine lv_lload hx hb dX3_goOn_203 (lv_at hl 0 rfl) ?_
            refine lv_ladd hx hb dX3_goOn_205 ?_
            refine lv_topl (fun v319 ev319 => ?_)
            have n320 : F260 5 = .ref h_nextWays := (SAME.at t264 (by decide) e_nextWays)
            have n321 : G269 5 = .ref h_nextWays := (SAME.at i274 (by decide) n320)
            have n322 : F260 7 = .ref h_nextStates := (SAME.at t264 (by decide) e_nextStates)
            have n323 : G269 7 = .ref h_nextStates := (SAME.at i274 (by decide) n322)
            refine call_Vv (wr := [(h_drag, .inl (cI, 16, .inl f_drag)), (h_ways, .inl (cJ, 7712, .inr (.inl f_ways))), (h_push, .inl (cI, 4, .inl f_push)), (h_reach, .inl (cI, 4, .inl f_reach))]) (As := [.int v313, .int 1, .int r300, .long v319]) (rest := []) hx hb hml hown hw (m_X3_reachState l D cI cJ cB cP cM cZ h0 h_nextWays h_nextStates G269 u270 w271 w272 v313 1 r300 v319 _ n321 n323 i275 i276 i277 k314 ⟨by decide, by decide⟩ t301) wV_X3_66_X3_reachState dX3_goOn_206 hK hP hD hS hA [4, 5, 6] [0, 1, 2, 3] rfl rfl (by decide) (by decide) (by decide) 0 3 rfl rfl GG.fb hG.at hl.1 rfl (Nat.le_of_ble_eq_true rfl) ⟨(Nat.le_of_ble_eq_true rfl), (Nat.le_of_ble_eq_true rfl)⟩ ⟨(Nat.le_of_ble_eq_true rfl), (Nat.le_of_ble_eq_true rfl)⟩ (fun u H locs hp hP hD hS => ?_)
            obtain ⟨F325, y326, g327, g328, t329, t330, t331, t332, rfl⟩ := hp
            have hP : va_P D vwCl [(h_drag, .inl (cI, 16, .inl f_drag)), (h_ways, .inl (cJ, 7712, .inr (.inl f_ways))), (h_push, .inl (cI, 4, .inl f_push)), (h_reach, .inl (cI, 4, .inl f_reach)), (h0, .inr (3, vL 10 F325)), (h_nextWays, .inl (cJ, 7712, .inr (.inl g327))), (h_nextStates, .inl (cI, 7712, .inl g328))] H := hP
            have hD : va_D A [(h_drag, .inl (cI, 16, .inl f_drag)), (h_ways, .inl (cJ, 7712, .inr (.inl f_ways))), (h_push, .inl (cI, 4, .inl f_push)), (h_reach, .inl (cI, 4, .inl f_reach)), (h0, .inr (3, vL 10 F325)), (h_nextWays, .inl (cJ, 7712, .inr (.inl g327))), (h_nextStates, .inl (cI, 7712, .inl g328))] := hD
            refine W.widen (k := 0) (n := 0) (Nat.le_of_ble_eq_true rfl) (Nat.le_of_ble_eq_true rfl) ?_
            obtain ⟨v333, ev333⟩ : ∃ z : Int32, z = u268 + 1 := ⟨_, rfl⟩
            have bv333 : v333.toInt = u268.toInt + 1 := by rw [ev333]; exact add_k rfl rfl k280 ⟨Int.le_refl _, Int.le_refl _⟩ (by decide)
            have k334 : 1 ≤ v333.toInt ∧ v333.toInt ≤ 4 := add_r bv333 k280 ⟨Int.le_refl _, Int.le_refl _⟩ (by decide)
            refine lv_iinc (v := v333) (lv' := [(11, .int v333), (13, .long v310), (12, .int r300), (10, .int v186), (9, .int r182), (8, .int v176), (7, .int 1), (6, .int v4), (4, .long v1), (0, .ref h0), (1, .int p0), (2, .int p1), (3, .int p2)]) hx hb dX3_goOn_209 hl (k := 2) rfl (by rw [ev333]; rfl) (by decide) rfl (fun ls hl => ?_)
            refine lv_goto (tgt := 109) hx hb dX3_goOn_212 (by decide) ?_
            exact ih (v333, F325, y326, g327, g328) ⟨(ir_wk k334 (by decide) (by decide)), (SAME.tr (SAME.tr SAME.rf i274 (by decide)) t329 (by decide)), t330, t331, t332⟩ (by show (4 - v333.toInt).toNat < (4 - u268.toInt).toNat; omega) _ _ _ hP hD hS (lv_sub hl [0, 3, 4, 5, 6, 7, 8, 9, 10, 11, 12] rfl)
set_option maxHeartbeats 4000000 in
set_option maxRecDepth 100000 in
theorem m_X7_standAtLine (l : Launch) (D : va_G) (cI cJ cB cP cM cZ : ClassId) (h0 : Nat) (Fh : Nat → Value) (p0 : Int32) (sz : Nat)  : CV l yX7_standAtLine cX7_standAtLine 2 none { frames := 0, cells := 0, slots := 0, locals := 0 } (GG D cI cJ cB cP cM cZ) D [(h0, .inr (7, vL 18 Fh))] sz [.ref h0, .int p0] (fun (u : va_W) => ∃ (Gh : Nat → Value), SAME [9, 10, 11] Fh Gh ∧ Gh 9 = .int p0 ∧ Gh 10 = .int 0 ∧ Gh 11 = .int (-1) ∧ u = [(h0, .inr (7, vL 18 Gh))]) := by
  refine CV_mk (by decide) (Nat.le_of_ble_eq_true rfl) ?_
  intro p e s m below meth c A ls E hAe hG hsz hP hD hA hS hl
  obtain ⟨hx, hb, hr, hw, hown, hlocks, hml, hnm⟩ := E
  have hK := hG.1
  have hl : lv_has ls 2 [(0, .ref h0), (1, .int p0)] := hl
  refine lv_aload_n hx hb dX7_standAtLine_0 rfl (lv_at hl 0 rfl) ?_
  refine lv_iload_n hx hb dX7_standAtLine_1 rfl (lv_at hl 1 rfl) ?_
  refine put_f (D := D) (ci := 7) (v := .int p0) (ty := .int) (C := RX7) (T := TX7) (N := 18) hx hb hw inAX7 tyX7 tyX7_ok nmX7 hown hK hP hD hS 0 rfl rfl 9 (by decide) (hw _ q_223) (fun _ h9 => h9) rfl (by decide +kernel) rfl rfl dX7_standAtLine_2 (fun H locs F1 eF1 hP hD hS => ?_)
  have hP : va_P D vwCl [(h0, .inr (7, vL 18 F1))] H := hP
  have hD : va_D A [(h0, .inr (7, vL 18 F1))] := hD
  refine lv_aload_n hx hb dX7_standAtLine_5 rfl (lv_at hl 0 rfl) ?_
  refine lv_iconst (v := 0) hx hb dX7_standAtLine_6 (by decide) ?_
  refine put_f (D := D) (ci := 7) (v := .int 0) (ty := .int) (C := RX7) (T := TX7) (N := 18) hx hb hw inAX7 tyX7 tyX7_ok nmX7 hown hK hP hD hS 0 rfl rfl 10 (by decide) (hw _ q_225) (fun _ h9 => h9) rfl (by decide +kernel) rfl rfl dX7_standAtLine_7 (fun H locs F2 eF2 hP hD hS => ?_)
  have hP : va_P D vwCl [(h0, .inr (7, vL 18 F2))] H := hP
  have hD : va_D A [(h0, .inr (7, vL 18 F2))] := hD
  refine lv_aload_n hx hb dX7_standAtLine_10 rfl (lv_at hl 0 rfl) ?_
  refine lv_iconst (v := (-1)) hx hb dX7_standAtLine_11 (by decide) ?_
  refine put_f (D := D) (ci := 7) (v := .int (-1)) (ty := .int) (C := RX7) (T := TX7) (N := 18) hx hb hw inAX7 tyX7 tyX7_ok nmX7 hown hK hP hD hS 0 rfl rfl 11 (by decide) (hw _ q_227) (fun _ h9 => h9) rfl (by decide +kernel) rfl rfl dX7_standAtLine_12 (fun H locs F3 eF3 hP hD hS => ?_)
  have hP : va_P D vwCl [(h0, .inr (7, vL 18 F3))] H := hP
  have hD : va_D A [(h0, .inr (7, vL 18 F3))] := hD
  exact ret_v hx hb hr hlocks hS hP hD dX7_standAtLine_15 (Nat.le_of_ble_eq_true rfl) (Nat.le_of_ble_eq_true rfl) ⟨F3, (SAME.up eF3 (SAME.up eF2 (SAME.up eF1 SAME.rf (by decide)) (by decide)) (by decide)), (get_ne eF3 (by decide) (get_ne eF2 (by decide) (get_eq eF1))), (get_ne eF3 (by decide) (get_eq eF2)), (get_eq eF3), rfl⟩
set_option maxHeartbeats 4000000 in
set_option maxRecDepth 100000 in
theorem m_X7_wayDown (l : Launch) (D : va_G) (cI cJ cB cP cM cZ : ClassId) (h0 : Nat) (h_paceBehind : Nat) (p0 : Nat) (h_p0_settings : Nat) (h_p0_length : Nat) (h_p0_drop : Nat) (h_p0_ideal : Nat) (h_p0_over : Nat) (h_p0_bestAt : Nat) (h_p0_bad : Nat) (p1 : Nat) (h_p1_high : Nat) (Fh : Nat → Value) (x_touchedBend : Int32) (x_touchedBy : Int32) (f_paceBehind : Nat → Int32) (F_p0_ : Nat → Value) (x_p0_bends : Int32) (x_p0_runners : Int32) (f_p0_settings : Nat → Int32) (f_p0_length : Nat → Int32) (f_p0_drop : Nat → Int32) (f_p0_ideal : Nat → Int32) (f_p0_over : Nat → Int32) (f_p0_bestAt : Nat → Int32) (f_p0_bad : Nat → Int32) (F_p1_ : Nat → Value) (x_p1_runner : Int32) (x_p1_number : Int32) (f_p1_high : Nat → Int32) (p2 : Int32) (p3 : Int32) (sz : Nat) (e_paceBehind : Fh 2 = .ref h_paceBehind) (e_touchedBend : Fh 16 = .int x_touchedBend) (e_touchedBy : Fh 17 = .int x_touchedBy) (e_p0_settings : F_p0_ 1 = .ref h_p0_settings) (e_p0_length : F_p0_ 6 = .ref h_p0_length) (e_p0_drop : F_p0_ 7 = .ref h_p0_drop) (e_p0_ideal : F_p0_ 8 = .ref h_p0_ideal) (e_p0_over : F_p0_ 9 = .ref h_p0_over) (e_p0_bestAt : F_p0_ 11 = .ref h_p0_bestAt) (e_p0_bad : F_p0_ 12 = .ref h_p0_bad) (e_p0_bends : F_p0_ 14 = .int x_p0_bends) (i_x_p0_bends : IR 0 12 x_p0_bends) (e_p0_runners : F_p0_ 15 = .int x_p0_runners) (i_x_p0_runners : IR 0 6 x_p0_runners) (e_p1_high : F_p1_ 2 = .ref h_p1_high) (e_p1_runner : F_p1_ 5 = .int x_p1_runner) (e_p1_number : F_p1_ 6 = .int x_p1_number) : CI l yX7_wayDown cX7_wayDown 10 (some .int) { frames := 3, cells := 0, slots := 0, locals := 86 } (GG D cI cJ cB cP cM cZ) D [(h0, .inr (7, vL 18 Fh)), (h_paceBehind, .inl (cI, 12, .inl f_paceBehind)), (p0, .inr (1, vL 18 F_p0_)), (h_p0_settings, .inl (cI, 5, .inl f_p0_settings)), (h_p0_length, .inl (cI, 12, .inl f_p0_length)), (h_p0_drop, .inl (cI, 12, .inl f_p0_drop)), (h_p0_ideal, .inl (cI, 12, .inl f_p0_ideal)), (h_p0_over, .inl (cI, 12, .inl f_p0_over)), (h_p0_bestAt, .inl (cI, 6, .inl f_p0_bestAt)), (h_p0_bad, .inl (cI, 6, .inl f_p0_bad)), (p1, .inr (5, vL 11 F_p1_)), (h_p1_high, .inl (cI, 12, .inl f_p1_high))] sz [.ref h0, .ref p0, .ref p1, .int p2, .int p3] (fun (r : Int32) (u : va_W) => ∃ (Gh : Nat → Value) (y_lastPace : Int32) (y_gone : Int32) (y_overAt : Int32) (g_paceBehind : Nat → Int32), SAME [9, 10, 11] Fh Gh ∧ Gh 9 = .int y_lastPace ∧ Gh 10 = .int y_gone ∧ Gh 11 = .int y_overAt ∧ IR (-1) 11 y_overAt ∧ u = [(h0, .inr (7, vL 18 Gh)), (h_paceBehind, .inl (cI, 12, .inl g_paceBehind)), (p0, .inr (1, vL 18 F_p0_)), (h_p0_settings, .inl (cI, 5, .inl f_p0_settings)), (h_p0_length, .inl (cI, 12, .inl f_p0_length)), (h_p0_drop, .inl (cI, 12, .inl f_p0_drop)), (h_p0_ideal, .inl (cI, 12, .inl f_p0_ideal)), (h_p0_over, .inl (cI, 12, .inl f_p0_over)), (h_p0_bestAt, .inl (cI, 6, .inl f_p0_bestAt)), (h_p0_bad, .inl (cI, 6, .inl f_p0_bad)), (p1, .inr (5, vL 11 F_p1_)), (h_p1_high, .inl (cI, 12, .inl f_p1_high))]) := by
  refine CI_mk (by decide) (Nat.le_of_ble_eq_true rfl) ?_
  intro p e s m below meth c A ls E hAe hG hsz hP hD hA hS hl
  obtain ⟨hx, hb, hr, hw, hown, hlocks, hml, hnm⟩ := E
  have hK := hG.1
  have i_x_p0_bends : 0 ≤ x_p0_bends.toInt ∧ x_p0_bends.toInt ≤ 12 := i_x_p0_bends
  have i_x_p0_runners : 0 ≤ x_p0_runners.toInt ∧ x_p0_runners.toInt ≤ 6 := i_x_p0_runners
  have hl : lv_has ls 10 [(0, .ref h0), (1, .ref p0), (2, .ref p1), (3, .int p2), (4, .int p3)] := hl
  refine lv_iload_n hx hb dX7_wayDown_0 rfl (lv_at hl 3 rfl) ?_
  refine lv_istore (lv' := [(5, .int p2), (0, .ref h0), (1, .ref p0), (2, .ref p1), (3, .int p2), (4, .int p3)]) hx hb dX7_wayDown_1 hl (by decide) rfl (fun ls hl => ?_)
  refine lv_iconst (v := 0) hx hb dX7_wayDown_3 (by decide) ?_
  refine lv_istore (lv' := [(6, .int 0), (5, .int p2), (0, .ref h0), (1, .ref p0), (2, .ref p1), (3, .int p2), (4, .int p3)]) hx hb dX7_wayDown_4 hl (by decide) rfl (fun ls hl => ?_)
  refine lv_iconst (v := 0) hx hb dX7_wayDown_6 (by decide) ?_
  refine lv_istore (lv' := [(7, .int 0), (6, .int 0), (5, .int p2), (0, .ref h0), (1, .ref p0), (2, .ref p1), (3, .int p2), (4, .int p3)]) hx hb dX7_wayDown_7 hl (by decide) rfl (fun ls hl => ?_)
  refine lv_aload_n hx hb dX7_wayDown_9 rfl (lv_at hl 3 rfl) ?_
  refine lv_iload_n hx hb dX7_wayDown_10 rfl (lv_at hl 6 rfl) ?_
  refine call_Vv (wr := [(h_paceBehind, .inl (cI, 12, .inl f_paceBehind)), (p0, .inr (1, vL 18 F_p0_)), (h_p0_settings, .inl (cI, 5, .inl f_p0_settings)), (h_p0_length, .inl (cI, 12, .inl f_p0_length)), (h_p0_drop, .inl (cI, 12, .inl f_p0_drop)), (h_p0_ideal, .inl (cI, 12, .inl f_p0_ideal)), (h_p0_over, .inl (cI, 12, .inl f_p0_over)), (h_p0_bestAt, .inl (cI, 6, .inl f_p0_bestAt)), (h_p0_bad, .inl (cI, 6, .inl f_p0_bad)), (p1, .inr (5, vL 11 F_p1_)), (h_p1_high, .inl (cI, 12, .inl f_p1_high))]) (As := [.int p2]) (rest := []) hx hb hml hown hw (m_X7_standAtLine l D cI cJ cB cP cM cZ h0 Fh p2 _ ) wV_X7_81_X7_standAtLine dX7_wayDown_11 hK hP hD hS hA [0] [1, 2, 3, 4, 5, 6, 7, 8, 9, 10, 11] rfl rfl (by decide) (by decide) (by decide) 0 7 rfl rfl GG.fb hG.at hl.1 rfl (Nat.le_of_ble_eq_true rfl) ⟨(Nat.le_of_ble_eq_true rfl), (Nat.le_of_ble_eq_true rfl)⟩ ⟨(Nat.le_of_ble_eq_true rfl), (Nat.le_of_ble_eq_true rfl)⟩ (fun u H locs hp hP hD hS => ?_)
  obtain ⟨F2, t3, t4, t5, t6, rfl⟩ := hp
  have hP : va_P D vwCl [(h_paceBehind, .inl (cI, 12, .inl f_paceBehind)), (p0, .inr (1, vL 18 F_p0_)), (h_p0_settings, .inl (cI, 5, .inl f_p0_settings)), (h_p0_length, .inl (cI, 12, .inl f_p0_length)), (h_p0_drop, .inl (cI, 12, .inl f_p0_drop)), (h_p0_ideal, .inl (cI, 12, .inl f_p0_ideal)), (h_p0_over, .inl (cI, 12, .inl f_p0_over)), (h_p0_bestAt, .inl (cI, 6, .inl f_p0_bestAt)), (h_p0_bad, .inl (cI, 6, .inl f_p0_bad)), (p1, .inr (5, vL 11 F_p1_)), (h_p1_high, .inl (cI, 12, .inl f_p1_high)), (h0, .inr (7, vL 18 F2))] H := hP
  have hD : va_D A [(h_paceBehind, .inl (cI, 12, .inl f_paceBehind)), (p0, .inr (1, vL 18 F_p0_)), (h_p0_settings, .inl (cI, 5, .inl f_p0_settings)), (h_p0_length, .inl (cI, 12, .inl f_p0_length)), (h_p0_drop, .inl (cI, 12, .inl f_p0_drop)), (h_p0_ideal, .inl (cI, 12, .inl f_p0_ideal)), (h_p0_over, .inl (cI, 12, .inl f_p0_over)), (h_p0_bestAt, .inl (cI, 6, .inl f_p0_bestAt)), (h_p0_bad, .inl (cI, 6, .inl f_p0_bad)), (p1, .inr (5, vL 11 F_p1_)), (h_p1_high, .inl (cI, 12, .inl f_p1_high)), (h0, .inr (7, vL 18 F2))] := hD
  refine W.widen (k := 0) (n := 0) (Nat.le_of_ble_eq_true rfl) (Nat.le_of_ble_eq_true rfl) ?_
  refine lv_iconst (v := 0) hx hb dX7_wayDown_14 (by decide) ?_
  refine lv_istore (lv' := [(8, .int 0), (7, .int 0), (6, .int 0), (5, .int p2), (0, .ref h0), (1, .ref p0), (2, .ref p1), (3, .int p2), (4, .int p3)]) hx hb dX7_wayDown_15 hl (by decide) rfl (fun ls hl => ?_)
  refine mloop (α := (Int32) × (Int32) × (Int32) × (Int32) × (Nat → Int32) × (Nat → Value) × (Int32) × (Int32) × (Int32)) (nL := 10) (D := D) (A := A) (H0 := s.heap) (fun a => (12 - a.1.toInt).toNat) (fun a => IR 0 12 a.1 ∧ SAME [9, 10, 11] F2 a.2.2.2.2.2.1 ∧ a.2.2.2.2.2.1 9 = .int a.2.2.2.2.2.2.1 ∧ a.2.2.2.2.2.1 10 = .int a.2.2.2.2.2.2.2.1 ∧ a.2.2.2.2.2.1 11 = .int a.2.2.2.2.2.2.2.2 ∧ IR (-1) (-1) a.2.2.2.2.2.2.2.2) (fun a => [(h_paceBehind, .inl (cI, 12, .inl a.2.2.2.2.1)), (p0, .inr (1, vL 18 F_p0_)), (h_p0_settings, .inl (cI, 5, .inl f_p0_settings)), (h_p0_length, .inl (cI, 12, .inl f_p0_length)), (h_p0_drop, .inl (cI, 12, .inl f_p0_drop)), (h_p0_ideal, .inl (cI, 12, .inl f_p0_ideal)), (h_p0_over, .inl (cI, 12, .inl f_p0_over)), (h_p0_bestAt, .inl (cI, 6, .inl f_p0_bestAt)), (h_p0_bad, .inl (cI, 6, .inl f_p0_bad)), (p1, .inr (5, vL 11 F_p1_)), (h_p1_high, .inl (cI, 12, .inl f_p1_high)), (h0, .inr (7, vL 18 a.2.2.2.2.2.1))]) (fun a => [(8, .int a.1), (7, .int a.2.1), (6, .int a.2.2.1), (5, .int a.2.2.2.1), (0, .ref h0), (1, .ref p0), (2, .ref p1), (3, .int p2), (4, .int p3)]) (fun H locs ls => W p l e ({ frames := 3, cells := 0, slots := 0, locals := 86 } : Room) s m [.ref h0, .ref p0, .ref p1, .int p2, .int p3].toArray below meth c H locs 0 0 (MQ below (va_Qi (fun (r : Int32) (u : va_W) => ∃ (Gh : Nat → Value) (y_lastPace : Int32) (y_gone : Int32) (y_overAt : Int32) (g_paceBehind : Nat → Int32), SAME [9, 10, 11] Fh Gh ∧ Gh 9 = .int y_lastPace ∧ Gh 10 = .int y_gone ∧ Gh 11 = .int y_overAt ∧ IR (-1) 11 y_overAt ∧ u = [(h0, .inr (7, vL 18 Gh)), (h_paceBehind, .inl (cI, 12, .inl g_paceBehind)), (p0, .inr (1, vL 18 F_p0_)), (h_p0_settings, .inl (cI, 5, .inl f_p0_settings)), (h_p0_length, .inl (cI, 12, .inl f_p0_length)), (h_p0_drop, .inl (cI, 12, .inl f_p0_drop)), (h_p0_ideal, .inl (cI, 12, .inl f_p0_ideal)), (h_p0_over, .inl (cI, 12, .inl f_p0_over)), (h_p0_bestAt, .inl (cI, 6, .inl f_p0_bestAt)), (h_p0_bad, .inl (cI, 6, .inl f_p0_bad)), (p1, .inr (5, vL 11 F_p1_)), (h_p1_high, .inl (cI, 12, .inl f_p1_high))]) (PO D A) A) [.ref h0, .ref p0, .ref p1, .int p2, .int p3].toArray s 0 0 A) (F0 m 17 ls [])) ?_ (0, 0, 0, p2, f_paceBehind, F2, p2, 0, (-1)) ⟨⟨by decide, by decide⟩, SAME.rf, t4, t5, t6, ⟨by decide, by decide⟩⟩ _ _ _ hP hD hS hl
  rintro ⟨u7, u8, u9, u10, w11, G12, u13, u14, u15⟩ ⟨i16, i17, i18, i19, i20, i21⟩ ih H locs ls hP hD hS hl
  have i16 : 0 ≤ u7.toInt ∧ u7.toInt ≤ 12 := i16
  have i21 : (-1) ≤ u15.toInt ∧ u15.toInt ≤ (-1) := i21
  have hP : va_P D vwCl [(h_paceBehind, .inl (cI, 12, .inl w11)), (p0, .inr (1, vL 18 F_p0_)), (h_p0_settings, .inl (cI, 5, .inl f_p0_settings)), (h_p0_length, .inl (cI, 12, .inl f_p0_length)), (h_p0_drop, .inl (cI, 12, .inl f_p0_drop)), (h_p0_ideal, .inl (cI, 12, .inl f_p0_ideal)), (h_p0_over, .inl (cI, 12, .inl f_p0_over)), (h_p0_bestAt, .inl (cI, 6, .inl f_p0_bestAt)), (h_p0_bad, .inl (cI, 6, .inl f_p0_bad)), (p1, .inr (5, vL 11 F_p1_)), (h_p1_high, .inl (cI, 12, .inl f_p1_high)), (h0, .inr (7, vL 18 G12))] H := hP
  have hD : va_D A [(h_paceBehind, .inl (cI, 12, .inl w11)), (p0, .inr (1, vL 18 F_p0_)), (h_p0_settings, .inl (cI, 5, .inl f_p0_settings)), (h_p0_length, .inl (cI, 12, .inl f_p0_length)), (h_p0_drop, .inl (cI, 12, .inl f_p0_drop)), (h_p0_ideal, .inl (cI, 12, .inl f_p0_ideal)), (h_p0_over, .inl (cI, 12, .inl f_p0_over)), (h_p0_bestAt, .inl (cI, 6, .inl f_p0_bestAt)), (h_p0_bad, .inl (cI, 6, .inl f_p0_bad)), (p1, .inr (5, vL 11 F_p1_)), (h_p1_high, .inl (cI, 12, .inl f_p1_high)), (h0, .inr (7, vL 18 G12))] := hD
  have hl : lv_has ls 10 [(8, .int u7), (7, .int u8), (6, .int u9), (5, .int u10), (0, .ref h0), (1, .ref p0), (2, .ref p1), (3, .int p2), (4, .int p3)] := hl
  refine lv_iload hx hb dX7_wayDown_17 (lv_at hl 0 rfl) ?_
  refine lv_aload_n hx hb dX7_wayDown_19 rfl (lv_at hl 5 rfl) ?_
  refine get_f (D := D) (ci := 1) (v := .int x_p0_bends) (C := RX1) (T := TX1) (N := 18) hx hb hw inAX1 hown hK hP 1 rfl rfl 14 (by decide) (hw _ q_357) (fun _ h9 => h9) e_p0_bends dX7_wayDown_20 ?_
  refine lv_icmp_ge (tgt := 159) hx hb dX7_wayDown_23 (by decide) (fun c22 => ?_) (fun c22 => ?_)
  · have dc22 : x_p0_bends.toInt ≤ u7.toInt := le_i (a := x_p0_bends.toInt) (b := u7.toInt) rfl rfl c22
    refine lv_iload hx hb dX7_wayDown_159 (lv_at hl 2 rfl) ?_
    exact ret_i (v := u9) hx hb hr hlocks hS (hP.sub (ws' := [(h0, .inr (7, vL 18 G12)), (h_paceBehind, .inl (cI, 12, .inl w11)), (p0, .inr (1, vL 18 F_p0_)), (h_p0_settings, .inl (cI, 5, .inl f_p0_settings)), (h_p0_length, .inl (cI, 12, .inl f_p0_length)), (h_p0_drop, .inl (cI, 12, .inl f_p0_drop)), (h_p0_ideal, .inl (cI, 12, .inl f_p0_ideal)), (h_p0_over, .inl (cI, 12, .inl f_p0_over)), (h_p0_bestAt, .inl (cI, 6, .inl f_p0_bestAt)), (h_p0_bad, .inl (cI, 6, .inl f_p0_bad)), (p1, .inr (5, vL 11 F_p1_)), (h_p1_high, .inl (cI, 12, .inl f_p1_high))]) [11, 0, 1, 2, 3, 4, 5, 6, 7, 8, 9, 10] rfl) (hD.sub (ws' := [(h0, .inr (7, vL 18 G12)), (h_paceBehind, .inl (cI, 12, .inl w11)), (p0, .inr (1, vL 18 F_p0_)), (h_p0_settings, .inl (cI, 5, .inl f_p0_settings)), (h_p0_length, .inl (cI, 12, .inl f_p0_length)), (h_p0_drop, .inl (cI, 12, .inl f_p0_drop)), (h_p0_ideal, .inl (cI, 12, .inl f_p0_ideal)), (h_p0_over, .inl (cI, 12, .inl f_p0_over)), (h_p0_bestAt, .inl (cI, 6, .inl f_p0_bestAt)), (h_p0_bad, .inl (cI, 6, .inl f_p0_bad)), (p1, .inr (5, vL 11 F_p1_)), (h_p1_high, .inl (cI, 12, .inl f_p1_high))]) [11, 0, 1, 2, 3, 4, 5, 6, 7, 8, 9, 10] (by decide) rfl) dX7_wayDown_161 rfl (Nat.le_of_ble_eq_true rfl) (Nat.le_of_ble_eq_true rfl) ⟨G12, u13, u14, u15, w11, (SAME.tr (SAME.tr SAME.rf t3 (by decide)) i17 (by decide)), i18, i19, i20, (ir_wk i21 (by decide) (by decide)), rfl⟩
  · have dc22 : u7.toInt < x_p0_bends.toInt := nle_i (a := x_p0_bends.toInt) (b := u7.toInt) rfl rfl c22
    have k23 : 0 ≤ u7.toInt ∧ u7.toInt ≤ 11 := ⟨i16.1, up_lt dc22 i_x_p0_bends.2 (by decide)⟩
    have k24 : 1 ≤ x_p0_bends.toInt ∧ x_p0_bends.toInt ≤ 12 := ⟨lo_lt dc22 i16.1 (by decide), i_x_p0_bends.2⟩
    refine lv_aload_n hx hb dX7_wayDown_26 rfl (lv_at hl 6 rfl) ?_
    refine get_f (D := D) (ci := 5) (v := .ref h_p1_high) (C := RX5) (T := TX5) (N := 11) hx hb hw inAX5 hown hK hP 9 rfl rfl 2 (by decide) (hw _ q_155) (fun _ h9 => h9) e_p1_high dX7_wayDown_27 ?_
    refine lv_iload hx hb dX7_wayDown_30 (lv_at hl 0 rfl) ?_
    refine va_iald hx hb hK hP 10 0 rfl rfl (ix_k k23 (by decide) (by decide)) dX7_wayDown_32 ?_
    refine lv_topi (fun v25 ev25 => ?_)
    refine lv_istore (lv' := [(9, .int v25), (8, .int u7), (7, .int u8), (6, .int u9), (5, .int u10), (0, .ref h0), (1, .ref p0), (2, .ref p1), (3, .int p2), (4, .int p3)]) hx hb dX7_wayDown_33 hl (by decide) rfl (fun ls hl => ?_)
    refine lv_iload hx hb dX7_wayDown_35 (lv_at hl 4 rfl) ?_
    refine lv_aload_n hx hb dX7_wayDown_37 rfl (lv_at hl 6 rfl) ?_
    refine lv_iload hx hb dX7_wayDown_38 (lv_at hl 1 rfl) ?_
    refine lv_aload_n hx hb dX7_wayDown_40 rfl (lv_at hl 7 rfl) ?_
    refine lv_iload hx hb dX7_wayDown_41 (lv_at hl 9 rfl) ?_
    refine call_Vi (wr := [(h_paceBehind, .inl (cI, 12, .inl w11)), (h_p0_length, .inl (cI, 12, .inl f_p0_length)), (h_p0_ideal, .inl (cI, 12, .inl f_p0_ideal)), (h_p0_over, .inl (cI, 12, .inl f_p0_over)), (h_p1_high, .inl (cI, 12, .inl f_p1_high)), (h0, .inr (7, vL 18 G12))]) (As := [.int u7, .ref p1, .int p3]) (rest := [.int u10]) hx hb hml hown hw (m_X1_steadyChange l D cI cJ cB cP cM cZ p0 h_p0_settings h_p0_drop h_p0_bestAt h_p0_bad p1 F_p0_ x_p0_runners f_p0_settings f_p0_drop f_p0_bestAt f_p0_bad F_p1_ x_p1_runner x_p1_number u7 p3 _ e_p0_settings e_p0_drop e_p0_bestAt e_p0_bad e_p0_runners i_x_p0_runners e_p1_runner e_p1_number k23) wV_X7_134_X1_steadyChange dX7_wayDown_43 hK hP hD hS hA [1, 2, 4, 7, 8, 9] [0, 3, 5, 6, 10, 11] rfl rfl (by decide) (by decide) (by decide) 0 1 rfl rfl GG.fb hG.at hl.1 rfl (Nat.le_of_ble_eq_true rfl) ⟨(Nat.le_of_ble_eq_true rfl), (Nat.le_of_ble_eq_true rfl)⟩ ⟨(Nat.le_of_ble_eq_true rfl), (Nat.le_of_ble_eq_true rfl)⟩ (fun r26 u H locs hp hP hD hS => ?_)
    obtain rfl := hp
    have hP : va_P D vwCl [(h_paceBehind, .inl (cI, 12, .inl w11)), (h_p0_length, .inl (cI, 12, .inl f_p0_length)), (h_p0_ideal, .inl (cI, 12, .inl f_p0_ideal)), (h_p0_over, .inl (cI, 12, .inl f_p0_over)), (h_p1_high, .inl (cI, 12, .inl f_p1_high)), (h0, .inr (7, vL 18 G12)), (p0, .inr (1, vL 18 F_p0_)), (h_p0_settings, .inl (cI, 5, .inl f_p0_settings)), (h_p0_drop, .inl (cI, 12, .inl f_p0_drop)), (h_p0_bestAt, .inl (cI, 6, .inl f_p0_bestAt)), (h_p0_bad, .inl (cI, 6, .inl f_p0_bad)), (p1, .inr (5, vL 11 F_p1_))] H := hP
    have hD : va_D A [(h_paceBehind, .inl (cI, 12, .inl w11)), (h_p0_length, .inl (cI, 12, .inl f_p0_length)), (h_p0_ideal, .inl (cI, 12, .inl f_p0_ideal)), (h_p0_over, .inl (cI, 12, .inl f_p0_over)), (h_p1_high, .inl (cI, 12, .inl f_p1_high)), (h0, .inr (7, vL 18 G12)), (p0, .inr (1, vL 18 F_p0_)), (h_p0_settings, .inl (cI, 5, .inl f_p0_settings)), (h_p0_drop, .inl (cI, 12, .inl f_p0_drop)), (h_p0_bestAt, .inl (cI, 6, .inl f_p0_bestAt)), (h_p0_bad, .inl (cI, 6, .inl f_p0_bad)), (p1, .inr (5, vL 11 F_p1_))] := hD
    refine W.widen (k := 0) (n := 0) (Nat.le_of_ble_eq_true rfl) (Nat.le_of_ble_eq_true rfl) ?_
    refine lv_iadd hx hb dX7_wayDown_46 ?_
    refine lv_topi (fun v27 ev27 => ?_)
    refine lv_aload_n hx hb dX7_wayDown_47 rfl (lv_at hl 6 rfl) ?_
    refine lv_iload hx hb dX7_wayDown_48 (lv_at hl 1 rfl) ?_
    refine lv_iload hx hb dX7_wayDown_50 (lv_at hl 0 rfl) ?_
    refine lv_iload hx hb dX7_wayDown_52 (lv_at hl 2 rfl) ?_
    refine call_Vi (wr := [(h_paceBehind, .inl (cI, 12, .inl w11)), (h_p0_length, .inl (cI, 12, .inl f_p0_length)), (h_p0_over, .inl (cI, 12, .inl f_p0_over)), (h_p1_high, .inl (cI, 12, .inl f_p1_high)), (h0, .inr (7, vL 18 G12)), (h_p0_settings, .inl (cI, 5, .inl f_p0_settings)), (h_p0_drop, .inl (cI, 12, .inl f_p0_drop)), (h_p0_bestAt, .inl (cI, 6, .inl f_p0_bestAt)), (h_p0_bad, .inl (cI, 6, .inl f_p0_bad)), (p1, .inr (5, vL 11 F_p1_))]) (As := [.int u7, .int v25, .int u8]) (rest := [.int v27]) hx hb hml hown hw (m_X1_heightCost l D cI cJ cB cP cM cZ p0 h_p0_ideal F_p0_ f_p0_ideal u7 v25 u8 _ e_p0_ideal k23) wV_X7_138_X1_heightCost dX7_wayDown_54 hK hP hD hS hA [6, 2] [0, 1, 3, 4, 5, 7, 8, 9, 10, 11] rfl rfl (by decide) (by decide) (by decide) 0 1 rfl rfl GG.fb hG.at hl.1 rfl (Nat.le_of_ble_eq_true rfl) ⟨(Nat.le_of_ble_eq_true rfl), (Nat.le_of_ble_eq_true rfl)⟩ ⟨(Nat.le_of_ble_eq_true rfl), (Nat.le_of_ble_eq_true rfl)⟩ (fun r28 u H locs hp hP hD hS => ?_)
    obtain rfl := hp
    have hP : va_P D vwCl [(h_paceBehind, .inl (cI, 12, .inl w11)), (h_p0_length, .inl (cI, 12, .inl f_p0_length)), (h_p0_over, .inl (cI, 12, .inl f_p0_over)), (h_p1_high, .inl (cI, 12, .inl f_p1_high)), (h0, .inr (7, vL 18 G12)), (h_p0_settings, .inl (cI, 5, .inl f_p0_settings)), (h_p0_drop, .inl (cI, 12, .inl f_p0_drop)), (h_p0_bestAt, .inl (cI, 6, .inl f_p0_bestAt)), (h_p0_bad, .inl (cI, 6, .inl f_p0_bad)), (p1, .inr (5, vL 11 F_p1_)), (p0, .inr (1, vL 18 F_p0_)), (h_p0_ideal, .inl (cI, 12, .inl f_p0_ideal))] H := hP
    have hD : va_D A [(h_paceBehind, .inl (cI, 12, .inl w11)), (h_p0_length, .inl (cI, 12, .inl f_p0_length)), (h_p0_over, .inl (cI, 12, .inl f_p0_over)), (h_p1_high, .inl (cI, 12, .inl f_p1_high)), (h0, .inr (7, vL 18 G12)), (h_p0_settings, .inl (cI, 5, .inl f_p0_settings)), (h_p0_drop, .inl (cI, 12, .inl f_p0_drop)), (h_p0_bestAt, .inl (cI, 6, .inl f_p0_bestAt)), (h_p0_bad, .inl (cI, 6, .inl f_p0_bad)), (p1, .inr (5, vL 11 F_p1_)), (p0, .inr (1, vL 18 F_p0_)), (h_p0_ideal, .inl (cI, 12, .inl f_p0_ideal))] := hD
    refine W.widen (k := 0) (n := 0) (Nat.le_of_ble_eq_true rfl) (Nat.le_of_ble_eq_true rfl) ?_
    refine lv_isub hx hb dX7_wayDown_57 ?_
    refine lv_topi (fun v29 ev29 => ?_)
    refine call_Ti (wr := [(h_paceBehind, .inl (cI, 12, .inl w11)), (h_p0_length, .inl (cI, 12, .inl f_p0_length)), (h_p0_over, .inl (cI, 12, .inl f_p0_over)), (h_p1_high, .inl (cI, 12, .inl f_p1_high)), (h0, .inr (7, vL 18 G12)), (h_p0_settings, .inl (cI, 5, .inl f_p0_settings)), (h_p0_drop, .inl (cI, 12, .inl f_p0_drop)), (h_p0_bestAt, .inl (cI, 6, .inl f_p0_bestAt)), (h_p0_bad, .inl (cI, 6, .inl f_p0_bad)), (p1, .inr (5, vL 11 F_p1_)), (p0, .inr (1, vL 18 F_p0_)), (h_p0_ideal, .inl (cI, 12, .inl f_p0_ideal))]) (As := [.int v29]) (rest := []) hx hb hml hown hw (m_X9_bounded l D cI cJ cB cP cM cZ v29 _ ) wT_X9_bounded (hG.2.1 (.methodLinkNest "FourSledge$Ride" 93 ⟨"FourSledge", "bounded", "(I)I"⟩ "FourSledge") (by decide +kernel)) dX7_wayDown_58 hP hD hS hA [] [0, 1, 2, 3, 4, 5, 6, 7, 8, 9, 10, 11] rfl rfl (by decide) (by decide) (by decide) GG.fb hG.at hl.1 rfl (Nat.le_of_ble_eq_true rfl) ⟨(Nat.le_of_ble_eq_true rfl), (Nat.le_of_ble_eq_true rfl)⟩ ⟨(Nat.le_of_ble_eq_true rfl), (Nat.le_of_ble_eq_true rfl)⟩ (fun r30 u H locs hp hP hD hS => ?_)
    obtain ⟨t31, rfl⟩ := hp
    have hP : va_P D vwCl [(h_paceBehind, .inl (cI, 12, .inl w11)), (h_p0_length, .inl (cI, 12, .inl f_p0_length)), (h_p0_over, .inl (cI, 12, .inl f_p0_over)), (h_p1_high, .inl (cI, 12, .inl f_p1_high)), (h0, .inr (7, vL 18 G12)), (h_p0_settings, .inl (cI, 5, .inl f_p0_settings)), (h_p0_drop, .inl (cI, 12, .inl f_p0_drop)), (h_p0_bestAt, .inl (cI, 6, .inl f_p0_bestAt)), (h_p0_bad, .inl (cI, 6, .inl f_p0_bad)), (p1, .inr (5, vL 11 F_p1_)), (p0, .inr (1, vL 18 F_p0_)), (h_p0_ideal, .inl (cI, 12, .inl f_p0_ideal))] H := hP
    have hD : va_D A [(h_paceBehind, .inl (cI, 12, .inl w11)), (h_p0_length, .inl (cI, 12, .inl f_p0_length)), (h_p0_over, .inl (cI, 12, .inl f_p0_over)), (h_p1_high, .inl (cI, 12, .inl f_p1_high)), (h0, .inr (7, vL 18 G12)), (h_p0_settings, .inl (cI, 5, .inl f_p0_settings)), (h_p0_drop, .inl (cI, 12, .inl f_p0_drop)), (h_p0_bestAt, .inl (cI, 6, .inl f_p0_bestAt)), (h_p0_bad, .inl (cI, 6, .inl f_p0_bad)), (p1, .inr (5, vL 11 F_p1_)), (p0, .inr (1, vL 18 F_p0_)), (h_p0_ideal, .inl (cI, 12, .inl f_p0_ideal))] := hD
    refine W.widen (k := 0) (n := 0) (Nat.le_of_ble_eq_true rfl) (Nat.le_of_ble_eq_true rfl) ?_
    refine lv_istore (lv' := [(5, .int r30), (9, .int v25), (8, .int u7), (7, .int u8), (6, .int u9), (0, .ref h0), (1, .ref p0), (2, .ref p1), (3, .int p2), (4, .int p3)]) hx hb dX7_wayDown_61 hl (by decide) rfl (fun ls hl => ?_)
    refine lv_aload_n hx hb dX7_wayDown_63 rfl (lv_at hl 5 rfl) ?_
    refine lv_iload hx hb dX7_wayDown_64 (lv_at hl 0 rfl) ?_
    refine put_f (D := D) (ci := 7) (v := .int r30) (ty := .int) (C := RX7) (T := TX7) (N := 18) hx hb hw inAX7 tyX7 tyX7_ok nmX7 hown hK hP hD hS 4 rfl rfl 9 (by decide) (hw _ q_223) (fun _ h9 => h9) rfl (by decide +kernel) rfl rfl dX7_wayDown_66 (fun H locs F32 eF32 hP hD hS => ?_)
    have hP : va_P D vwCl [(h_paceBehind, .inl (cI, 12, .inl w11)), (h_p0_length, .inl (cI, 12, .inl f_p0_length)), (h_p0_over, .inl (cI, 12, .inl f_p0_over)), (h_p1_high, .inl (cI, 12, .inl f_p1_high)), (h0, .inr (7, vL 18 F32)), (h_p0_settings, .inl (cI, 5, .inl f_p0_settings)), (h_p0_drop, .inl (cI, 12, .inl f_p0_drop)), (h_p0_bestAt, .inl (cI, 6, .inl f_p0_bestAt)), (h_p0_bad, .inl (cI, 6, .inl f_p0_bad)), (p1, .inr (5, vL 11 F_p1_)), (p0, .inr (1, vL 18 F_p0_)), (h_p0_ideal, .inl (cI, 12, .inl f_p0_ideal))] H := hP
    have hD : va_D A [(h_paceBehind, .inl (cI, 12, .inl w11)), (h_p0_length, .inl (cI, 12, .inl f_p0_length)), (h_p0_over, .inl (cI, 12, .inl f_p0_over)), (h_p1_high, .inl (cI, 12, .inl f_p1_high)), (h0, .inr (7, vL 18 F32)), (h_p0_settings, .inl (cI, 5, .inl f_p0_settings)), (h_p0_drop, .inl (cI, 12, .inl f_p0_drop)), (h_p0_bestAt, .inl (cI, 6, .inl f_p0_bestAt)), (h_p0_bad, .inl (cI, 6, .inl f_p0_bad)), (p1, .inr (5, vL 11 F_p1_)), (p0, .inr (1, vL 18 F_p0_)), (h_p0_ideal, .inl (cI, 12, .inl f_p0_ideal))] := hD
    refine lv_aload_n hx hb dX7_wayDown_69 rfl (lv_at hl 6 rfl) ?_
    refine lv_iload hx hb dX7_wayDown_70 (lv_at hl 2 rfl) ?_
    refine lv_iload hx hb dX7_wayDown_72 (lv_at hl 0 rfl) ?_
    refine lv_iload hx hb dX7_wayDown_74 (lv_at hl 1 rfl) ?_
    refine call_Vi (wr := [(h_paceBehind, .inl (cI, 12, .inl w11)), (h_p0_length, .inl (cI, 12, .inl f_p0_length)), (h_p1_high, .inl (cI, 12, .inl f_p1_high)), (h0, .inr (7, vL 18 F32)), (h_p0_settings, .inl (cI, 5, .inl f_p0_settings)), (h_p0_drop, .inl (cI, 12, .inl f_p0_drop)), (h_p0_bestAt, .inl (cI, 6, .inl f_p0_bestAt)), (h_p0_bad, .inl (cI, 6, .inl f_p0_bad)), (p1, .inr (5, vL 11 F_p1_)), (h_p0_ideal, .inl (cI, 12, .inl f_p0_ideal))]) (As := [.int u7, .int r30, .int v25]) (rest := []) hx hb hml hown hw (m_X1_turnsOver l D cI cJ cB cP cM cZ p0 h_p0_over F_p0_ f_p0_over u7 r30 v25 _ e_p0_over k23) wV_X7_142_X1_turnsOver dX7_wayDown_76 hK hP hD hS hA [10, 2] [0, 1, 3, 4, 5, 6, 7, 8, 9, 11] rfl rfl (by decide) (by decide) (by decide) 0 1 rfl rfl GG.fb hG.at hl.1 rfl (Nat.le_of_ble_eq_true rfl) ⟨(Nat.le_of_ble_eq_true rfl), (Nat.le_of_ble_eq_true rfl)⟩ ⟨(Nat.le_of_ble_eq_true rfl), (Nat.le_of_ble_eq_true rfl)⟩ (fun r33 u H locs hp hP hD hS => ?_)
    obtain ⟨t34, rfl⟩ := hp
    have hP : va_P D vwCl [(h_paceBehind, .inl (cI, 12, .inl w11)), (h_p0_length, .inl (cI, 12, .inl f_p0_length)), (h_p1_high, .inl (cI, 12, .inl f_p1_high)), (h0, .inr (7, vL 18 F32)), (h_p0_settings, .inl (cI, 5, .inl f_p0_settings)), (h_p0_drop, .inl (cI, 12, .inl f_p0_drop)), (h_p0_bestAt, .inl (cI, 6, .inl f_p0_bestAt)), (h_p0_bad, .inl (cI, 6, .inl f_p0_bad)), (p1, .inr (5, vL 11 F_p1_)), (h_p0_ideal, .inl (cI, 12, .inl f_p0_ideal)), (p0, .inr (1, vL 18 F_p0_)), (h_p0_over, .inl (cI, 12, .inl f_p0_over))] H := hP
    have hD : va_D A [(h_paceBehind, .inl (cI, 12, .inl w11)), (h_p0_length, .inl (cI, 12, .inl f_p0_length)), (h_p1_high, .inl (cI, 12, .inl f_p1_high)), (h0, .inr (7, vL 18 F32)), (h_p0_settings, .inl (cI, 5, .inl f_p0_settings)), (h_p0_drop, .inl (cI, 12, .inl f_p0_drop)), (h_p0_bestAt, .inl (cI, 6, .inl f_p0_bestAt)), (h_p0_bad, .inl (cI, 6, .inl f_p0_bad)), (p1, .inr (5, vL 11 F_p1_)), (h_p0_ideal, .inl (cI, 12, .inl f_p0_ideal)), (p0, .inr (1, vL 18 F_p0_)), (h_p0_over, .inl (cI, 12, .inl f_p0_over))] := hD
    refine W.widen (k := 0) (n := 0) (Nat.le_of_ble_eq_true rfl) (Nat.le_of_ble_eq_true rfl) ?_
    refine lv_if_eq (tgt := 90) hx hb dX7_wayDown_79 (by decide) (fun c35 => ?_) (fun c35 => ?_)
    · have dc35 : r33.toInt = 0 := eq_i (a := r33.toInt) (b := 0) rfl rfl c35
      have k36 : 0 ≤ r33.toInt ∧ r33.toInt ≤ 0 := ⟨t34.1, Int.le_trans (Int.le_of_eq dc35) (Int.le_refl _)⟩
      refine lv_iload hx hb dX7_wayDown_90 (lv_at hl 2 rfl) ?_
      refine lv_aload_n hx hb dX7_wayDown_92 rfl (lv_at hl 5 rfl) ?_
      have n37 : F2 16 = .int x_touchedBend := (SAME.at t3 (by decide) e_touchedBend)
      have n38 : G12 16 = .int x_touchedBend := (SAME.at i17 (by decide) n37)
      have n39 : F32 16 = .int x_touchedBend := (get_ne eF32 (by decide) n38)
      refine get_f (D := D) (ci := 7) (v := .int x_touchedBend) (C := RX7) (T := TX7) (N := 18) hx hb hw inAX7 hown hK hP 3 rfl rfl 16 (by decide) (hw _ q_233) (fun _ h9 => h9) n39 dX7_wayDown_93 ?_
      refine lv_icmp_ne (tgt := 113) hx hb dX7_wayDown_96 (by decide) (fun c40 => ?_) (fun c40 => ?_)
      · have dc40 : u7.toInt ≠ x_touchedBend.toInt := ne_i (a := u7.toInt) (b := x_touchedBend.toInt) rfl rfl c40
        refine lv_iload hx hb dX7_wayDown_113 (lv_at hl 4 rfl) ?_
        refine lv_aload_n hx hb dX7_wayDown_115 rfl (lv_at hl 6 rfl) ?_
        refine get_f (D := D) (ci := 1) (v := .ref h_p0_length) (C := RX1) (T := TX1) (N := 18) hx hb hw inAX1 hown hK hP 10 rfl rfl 6 (by decide) (hw _ q_339) (fun _ h9 => h9) e_p0_length dX7_wayDown_116 ?_
        refine lv_iload hx hb dX7_wayDown_119 (lv_at hl 2 rfl) ?_
        refine va_iald hx hb hK hP 1 0 rfl rfl (ix_k k23 (by decide) (by decide)) dX7_wayDown_121 ?_
        refine lv_topi (fun v41 ev41 => ?_)
        refine lv_iload hx hb dX7_wayDown_122 (lv_at hl 0 rfl) ?_
        refine call_Ti (wr := [(h_paceBehind, .inl (cI, 12, .inl w11)), (h_p0_length, .inl (cI, 12, .inl f_p0_length)), (h_p1_high, .inl (cI, 12, .inl f_p1_high)), (h0, .inr (7, vL 18 F32)), (h_p0_settings, .inl (cI, 5, .inl f_p0_settings)), (h_p0_drop, .inl (cI, 12, .inl f_p0_drop)), (h_p0_bestAt, .inl (cI, 6, .inl f_p0_bestAt)), (h_p0_bad, .inl (cI, 6, .inl f_p0_bad)), (p1, .inr (5, vL 11 F_p1_)), (h_p0_ideal, .inl (cI, 12, .inl f_p0_ideal)), (p0, .inr (1, vL 18 F_p0_)), (h_p0_over, .inl (cI, 12, .inl f_p0_over))]) (As := [.int v41, .int r30]) (rest := [.int u9]) hx hb hml hown hw (m_X9_timeFor l D cI cJ cB cP cM cZ v41 r30 _ ) wT_X9_timeFor (hG.2.1 (.methodLinkNest "FourSledge$Ride" 100 ⟨"FourSledge", "timeFor", "(II)I"⟩ "FourSledge") (by decide +kernel)) dX7_wayDown_124 hP hD hS hA [] [0, 1, 2, 3, 4, 5, 6, 7, 8, 9, 10, 11] rfl rfl (by decide) (by decide) (by decide) GG.fb hG.at hl.1 rfl (Nat.le_of_ble_eq_true rfl) ⟨(Nat.le_of_ble_eq_true rfl), (Nat.le_of_ble_eq_true rfl)⟩ ⟨(Nat.le_of_ble_eq_true rfl), (Nat.le_of_ble_eq_true rfl)⟩ (fun r42 u H locs hp hP hD hS => ?_)
        obtain rfl := hp
        have hP : va_P D vwCl [(h_paceBehind, .inl (cI, 12, .inl w11)), (h_p0_length, .inl (cI, 12, .inl f_p0_length)), (h_p1_high, .inl (cI, 12, .inl f_p1_high)), (h0, .inr (7, vL 18 F32)), (h_p0_settings, .inl (cI, 5, .inl f_p0_settings)), (h_p0_drop, .inl (cI, 12, .inl f_p0_drop)), (h_p0_bestAt, .inl (cI, 6, .inl f_p0_bestAt)), (h_p0_bad, .inl (cI, 6, .inl f_p0_bad)), (p1, .inr (5, vL 11 F_p1_)), (h_p0_ideal, .inl (cI, 12, .inl f_p0_ideal)), (p0, .inr (1, vL 18 F_p0_)), (h_p0_over, .inl (cI, 12, .inl f_p0_over))] H := hP
        have hD : va_D A [(h_paceBehind, .inl (cI, 12, .inl w11)), (h_p0_length, .inl (cI, 12, .inl f_p0_length)), (h_p1_high, .inl (cI, 12, .inl f_p1_high)), (h0, .inr (7, vL 18 F32)), (h_p0_settings, .inl (cI, 5, .inl f_p0_settings)), (h_p0_drop, .inl (cI, 12, .inl f_p0_drop)), (h_p0_bestAt, .inl (cI, 6, .inl f_p0_bestAt)), (h_p0_bad, .inl (cI, 6, .inl f_p0_bad)), (p1, .inr (5, vL 11 F_p1_)), (h_p0_ideal, .inl (cI, 12, .inl f_p0_ideal)), (p0, .inr (1, vL 18 F_p0_)), (h_p0_over, .inl (cI, 12, .inl f_p0_over))] := hD
        refine W.widen (k := 0) (n := 0) (Nat.le_of_ble_eq_true rfl) (Nat.le_of_ble_eq_true rfl) ?_
        refine lv_iadd hx hb dX7_wayDown_127 ?_
        refine lv_topi (fun v43 ev43 => ?_)
        refine lv_istore (lv' := [(6, .int v43), (5, .int r30), (9, .int v25), (8, .int u7), (7, .int u8), (0, .ref h0), (1, .ref p0), (2, .ref p1), (3, .int p2), (4, .int p3)]) hx hb dX7_wayDown_128 hl (by decide) rfl (fun ls hl => ?_)
        refine lv_aload_n hx hb dX7_wayDown_130 rfl (lv_at hl 5 rfl) ?_
        have n44 : F2 2 = .ref h_paceBehind := (SAME.at t3 (by decide) e_paceBehind)
        have n45 : G12 2 = .ref h_paceBehind := (SAME.at i17 (by decide) n44)
        have n46 : F32 2 = .ref h_paceBehind := (get_ne eF32 (by decide) n45)
        refine get_f (D := D) (ci := 7) (v := .ref h_paceBehind) (C := RX7) (T := TX7) (N := 18) hx hb hw inAX7 hown hK hP 3 rfl rfl 2 (by decide) (hw _ q_209) (fun _ h9 => h9) n46 dX7_wayDown_131 ?_
        refine lv_iload hx hb dX7_wayDown_134 (lv_at hl 3 rfl) ?_
        refine lv_iload hx hb dX7_wayDown_136 (lv_at hl 1 rfl) ?_
        obtain ⟨g47, eg47⟩ : ∃ z : Nat → Int32, upd w11 u7.toNatClampNeg r30 = z := ⟨_, rfl⟩
        refine iast_g hx hb hK hP hD hS 0 0 rfl rfl (ix_k k23 (by decide) (by decide)) eg47 dX7_wayDown_138 (fun H locs hP hD hS => ?_)
        have hP : va_P D vwCl [(h_paceBehind, .inl (cI, 12, .inl g47)), (h_p0_length, .inl (cI, 12, .inl f_p0_length)), (h_p1_high, .inl (cI, 12, .inl f_p1_high)), (h0, .inr (7, vL 18 F32)), (h_p0_settings, .inl (cI, 5, .inl f_p0_settings)), (h_p0_drop, .inl (cI, 12, .inl f_p0_drop)), (h_p0_bestAt, .inl (cI, 6, .inl f_p0_bestAt)), (h_p0_bad, .inl (cI, 6, .inl f_p0_bad)), (p1, .inr (5, vL 11 F_p1_)), (h_p0_ideal, .inl (cI, 12, .inl f_p0_ideal)), (p0, .inr (1, vL 18 F_p0_)), (h_p0_over, .inl (cI, 12, .inl f_p0_over))] H := hP
        have hD : va_D A [(h_paceBehind, .inl (cI, 12, .inl g47)), (h_p0_length, .inl (cI, 12, .inl f_p0_length)), (h_p1_high, .inl (cI, 12, .inl f_p1_high)), (h0, .inr (7, vL 18 F32)), (h_p0_settings, .inl (cI, 5, .inl f_p0_settings)), (h_p0_drop, .inl (cI, 12, .inl f_p0_drop)), (h_p0_bestAt, .inl (cI, 6, .inl f_p0_bestAt)), (h_p0_bad, .inl (cI, 6, .inl f_p0_bad)), (p1, .inr (5, vL 11 F_p1_)), (h_p0_ideal, .inl (cI, 12, .inl f_p0_ideal)), (p0, .inr (1, vL 18 F_p0_)), (h_p0_over, .inl (cI, 12, .inl f_p0_over))] := hD
        refine lv_iload hx hb dX7_wayDown_139 (lv_at hl 2 rfl) ?_
        refine lv_istore (lv' := [(7, .int v25), (6, .int v43), (5, .int r30), (9, .int v25), (8, .int u7), (0, .ref h0), (1, .ref p0), (2, .ref p1), (3, .int p2), (4, .int p3)]) hx hb dX7_wayDown_141 hl (by decide) rfl (fun ls hl => ?_)
        refine lv_aload_n hx hb dX7_wayDown_143 rfl (lv_at hl 5 rfl) ?_
        refine lv_dup hx hb dX7_wayDown_144 rfl ?_
        have n48 : F32 10 = .int u14 := (get_ne eF32 (by decide) i19)
        refine get_f (D := D) (ci := 7) (v := .int u14) (C := RX7) (T := TX7) (N := 18) hx hb hw inAX7 hown hK hP 3 rfl rfl 10 (by decide) (hw _ q_225) (fun _ h9 => h9) n48 dX7_wayDown_145 ?_
        refine lv_iconst (v := 1) hx hb dX7_wayDown_148 (by decide) ?_
        refine lv_iadd hx hb dX7_wayDown_149 ?_
        refine lv_topi (fun v49 ev49 => ?_)
        refine put_f (D := D) (ci := 7) (v := .int v49) (ty := .int) (C := RX7) (T := TX7) (N := 18) hx hb hw inAX7 tyX7 tyX7_ok nmX7 hown hK hP hD hS 3 rfl rfl 10 (by decide) (hw _ q_225) (fun _ h9 => h9) rfl (by decide +kernel) rfl rfl dX7_wayDown_150 (fun H locs F50 eF50 hP hD hS => ?_)
        have hP : va_P D vwCl [(h_paceBehind, .inl (cI, 12, .inl g47)), (h_p0_length, .inl (cI, 12, .inl f_p0_length)), (h_p1_high, .inl (cI, 12, .inl f_p1_high)), (h0, .inr (7, vL 18 F50)), (h_p0_settings, .inl (cI, 5, .inl f_p0_settings)), (h_p0_drop, .inl (cI, 12, .inl f_p0_drop)), (h_p0_bestAt, .inl (cI, 6, .inl f_p0_bestAt)), (h_p0_bad, .inl (cI, 6, .inl f_p0_bad)), (p1, .inr (5, vL 11 F_p1_)), (h_p0_ideal, .inl (cI, 12, .inl f_p0_ideal)), (p0, .inr (1, vL 18 F_p0_)), (h_p0_over, .inl (cI, 12, .inl f_p0_over))] H := hP
        have hD : va_D A [(h_paceBehind, .inl (cI, 12, .inl g47)), (h_p0_length, .inl (cI, 12, .inl f_p0_length)), (h_p1_high, .inl (cI, 12, .inl f_p1_high)), (h0, .inr (7, vL 18 F50)), (h_p0_settings, .inl (cI, 5, .inl f_p0_settings)), (h_p0_drop, .inl (cI, 12, .inl f_p0_drop)), (h_p0_bestAt, .inl (cI, 6, .inl f_p0_bestAt)), (h_p0_bad, .inl (cI, 6, .inl f_p0_bad)), (p1, .inr (5, vL 11 F_p1_)), (h_p0_ideal, .inl (cI, 12, .inl f_p0_ideal)), (p0, .inr (1, vL 18 F_p0_)), (h_p0_over, .inl (cI, 12, .inl f_p0_over))] := hD
        obtain ⟨v51, ev51⟩ : ∃ z : Int32, z = u7 + 1 := ⟨_, rfl⟩
        have bv51 : v51.toInt = u7.toInt + 1 := by rw [ev51]; exact add_k rfl rfl k23 ⟨Int.le_refl _, Int.le_refl _⟩ (by decide)
        have k52 : 1 ≤ v51.toInt ∧ v51.toInt ≤ 12 := add_r bv51 k23 ⟨Int.le_refl _, Int.le_refl _⟩ (by decide)
        refine lv_iinc (v := v51) (lv' := [(8, .int v51), (7, .int v25), (6, .int v43), (5, .int r30), (9, .int v25), (0, .ref h0), (1, .ref p0), (2, .ref p1), (3, .int p2), (4, .int p3)]) hx hb dX7_wayDown_153 hl (k := 4) rfl (by rw [ev51]; rfl) (by decide) rfl (fun ls hl => ?_)
        refine lv_goto (tgt := 17) hx hb dX7_wayDown_156 (by decide) ?_
        have n53 : F50 9 = .int r30 := (get_ne eF50 (by decide) (get_eq eF32))
        have n54 : F32 11 = .int u15 := (get_ne eF32 (by decide) i20)
        have n55 : F50 11 = .int u15 := (get_ne eF50 (by decide) n54)
        exact ih (v51, v25, v43, r30, g47, F50, r30, v49, u15) ⟨(ir_wk k52 (by decide) (by decide)), (SAME.up eF50 (SAME.up eF32 (SAME.tr SAME.rf i17 (by decide)) (by decide)) (by decide)), n53, (get_eq eF50), n55, i21⟩ (by show (12 - v51.toInt).toNat < (12 - u7.toInt).toNat; omega) _ _ _ (hP.sub [0, 10, 4, 1, 5, 9, 11, 6, 7, 8, 2, 3] rfl) (hD.sub [0, 10, 4, 1, 5, 9, 11, 6, 7, 8, 2, 3] (by decide) rfl) hS (lv_sub hl [0, 1, 2, 3, 5, 6, 7, 8, 9] rfl)
      · have dc40 : u7.toInt = x_touchedBend.toInt := eq_i (a := u7.toInt) (b := x_touchedBend.toInt) rfl rfl c40
        have k56 : 0 ≤ x_touchedBend.toInt ∧ x_touchedBend.toInt ≤ 11 := ⟨Int.le_trans k23.1 (Int.le_of_eq dc40), Int.le_trans (Int.le_of_eq dc40.symm) k23.2⟩
        refine lv_bipush (v := 10) hx hb dX7_wayDown_99 (by decide) ?_
        refine lv_iload hx hb dX7_wayDown_101 (lv_at hl 0 rfl) ?_
        refine lv_aload_n hx hb dX7_wayDown_103 rfl (lv_at hl 5 rfl) ?_
        have n57 : F2 17 = .int x_touchedBy := (SAME.at t3 (by decide) e_touchedBy)
        have n58 : G12 17 = .int x_touchedBy := (SAME.at i17 (by decide) n57)
        have n59 : F32 17 = .int x_touchedBy := (get_ne eF32 (by decide) n58)
        refine get_f (D := D) (ci := 7) (v := .int x_touchedBy) (C := RX7) (T := TX7) (N := 18) hx hb hw inAX7 hown hK hP 3 rfl rfl 17 (by decide) (hw _ q_234) (fun _ h9 => h9) n59 dX7_wayDown_104 ?_
        refine lv_isub hx hb dX7_wayDown_107 ?_
        refine lv_topi (fun v60 ev60 => ?_)
        refine va_mmax hx hb (hml.trans hl.1.symm) hown (hw _ q_821) (hw _ q_786) (hw _ q_19) (hw _ q_787) (Nat.le_of_ble_eq_true rfl) (Nat.le_of_ble_eq_true rfl) (Nat.le_of_ble_eq_true rfl) (Nat.le_of_ble_eq_true rfl) dX7_wayDown_108 ?_
        refine lv_topi (fun v61 ev61 => ?_)
        have k62 : 10 ≤ v61.toInt ∧ v61.toInt ≤ 2147483647 := by rw [ev61]; exact mmax_k rfl rfl ⟨Int.le_refl _, Int.le_refl _⟩ (ir_any _) (by decide)
        refine lv_istore (lv' := [(5, .int v61), (9, .int v25), (8, .int u7), (7, .int u8), (6, .int u9), (0, .ref h0), (1, .ref p0), (2, .ref p1), (3, .int p2), (4, .int p3)]) hx hb dX7_wayDown_111 hl (by decide) rfl (fun ls hl => ?_)
        refine lv_iload hx hb dX7_wayDown_113 (lv_at hl 4 rfl) ?_
        refine lv_aload_n hx hb dX7_wayDown_115 rfl (lv_at hl 6 rfl) ?_
        refine get_f (D := D) (ci := 1) (v := .ref h_p0_length) (C := RX1) (T := TX1) (N := 18) hx hb hw inAX1 hown hK hP 10 rfl rfl 6 (by decide) (hw _ q_339) (fun _ h9 => h9) e_p0_length dX7_wayDown_116 ?_
        refine lv_iload hx hb dX7_wayDown_119 (lv_at hl 2 rfl) ?_
        refine va_iald hx hb hK hP 1 0 rfl rfl (ix_k k23 (by decide) (by decide)) dX7_wayDown_121 ?_
        refine lv_topi (fun v63 ev63 => ?_)
        refine lv_iload hx hb dX7_wayDown_122 (lv_at hl 0 rfl) ?_
        refine call_Ti (wr := [(h_paceBehind, .inl (cI, 12, .inl w11)), (h_p0_length, .inl (cI, 12, .inl f_p0_length)), (h_p1_high, .inl (cI, 12, .inl f_p1_high)), (h0, .inr (7, vL 18 F32)), (h_p0_settings, .inl (cI, 5, .inl f_p0_settings)), (h_p0_drop, .inl (cI, 12, .inl f_p0_drop)), (h_p0_bestAt, .inl (cI, 6, .inl f_p0_bestAt)), (h_p0_bad, .inl (cI, 6, .inl f_p0_bad)), (p1, .inr (5, vL 11 F_p1_)), (h_p0_ideal, .inl (cI, 12, .inl f_p0_ideal)), (p0, .inr (1, vL 18 F_p0_)), (h_p0_over, .inl (cI, 12, .inl f_p0_over))]) (As := [.int v63, .int v61]) (rest := [.int u9]) hx hb hml hown hw (m_X9_timeFor l D cI cJ cB cP cM cZ v63 v61 _ ) wT_X9_timeFor (hG.2.1 (.methodLinkNest "FourSledge$Ride" 100 ⟨"FourSledge", "timeFor", "(II)I"⟩ "FourSledge") (by decide +kernel)) dX7_wayDown_124 hP hD hS hA [] [0, 1, 2, 3, 4, 5, 6, 7, 8, 9, 10, 11] rfl rfl (by decide) (by decide) (by decide) GG.fb hG.at hl.1 rfl (Nat.le_of_ble_eq_true rfl) ⟨(Nat.le_of_ble_eq_true rfl), (Nat.le_of_ble_eq_true rfl)⟩ ⟨(Nat.le_of_ble_eq_true rfl), (Nat.le_of_ble_eq_true rfl)⟩ (fun r64 u H locs hp hP hD hS => ?_)
        obtain rfl := hp
        have hP : va_P D vwCl [(h_paceBehind, .inl (cI, 12, .inl w11)), (h_p0_length, .inl (cI, 12, .inl f_p0_length)), (h_p1_high, .inl (cI, 12, .inl f_p1_high)), (h0, .inr (7, vL 18 F32)), (h_p0_settings, .inl (cI, 5, .inl f_p0_settings)), (h_p0_drop, .inl (cI, 12, .inl f_p0_drop)), (h_p0_bestAt, .inl (cI, 6, .inl f_p0_bestAt)), (h_p0_bad, .inl (cI, 6, .inl f_p0_bad)), (p1, .inr (5, vL 11 F_p1_)), (h_p0_ideal, .inl (cI, 12, .inl f_p0_ideal)), (p0, .inr (1, vL 18 F_p0_)), (h_p0_over, .inl (cI, 12, .inl f_p0_over))] H := hP
        have hD : va_D A [(h_paceBehind, .inl (cI, 12, .inl w11)), (h_p0_length, .inl (cI, 12, .inl f_p0_length)), (h_p1_high, .inl (cI, 12, .inl f_p1_high)), (h0, .inr (7, vL 18 F32)), (h_p0_settings, .inl (cI, 5, .inl f_p0_settings)), (h_p0_drop, .inl (cI, 12, .inl f_p0_drop)), (h_p0_bestAt, .inl (cI, 6, .inl f_p0_bestAt)), (h_p0_bad, .inl (cI, 6, .inl f_p0_bad)), (p1, .inr (5, vL 11 F_p1_)), (h_p0_ideal, .inl (cI, 12, .inl f_p0_ideal)), (p0, .inr (1, vL 18 F_p0_)), (h_p0_over, .inl (cI, 12, .inl f_p0_over))] := hD
        refine W.widen (k := 0) (n := 0) (Nat.le_of_ble_eq_true rfl) (Nat.le_of_ble_eq_true rfl) ?_
        refine lv_iadd hx hb dX7_wayDown_127 ?_
        refine lv_topi (fun v65 ev65 => ?_)
        refine lv_istore (lv' := [(6, .int v65), (5, .int v61), (9, .int v25), (8, .int u7), (7, .int u8), (0, .ref h0), (1, .ref p0), (2, .ref p1), (3, .int p2), (4, .int p3)]) hx hb dX7_wayDown_128 hl (by decide) rfl (fun ls hl => ?_)
        refine lv_aload_n hx hb dX7_wayDown_130 rfl (lv_at hl 5 rfl) ?_
        have n66 : F2 2 = .ref h_paceBehind := (SAME.at t3 (by decide) e_paceBehind)
        have n67 : G12 2 = .ref h_paceBehind := (SAME.at i17 (by decide) n66)
        have n68 : F32 2 = .ref h_paceBehind := (get_ne eF32 (by decide) n67)
        refine get_f (D := D) (ci := 7) (v := .ref h_paceBehind) (C := RX7) (T := TX7) (N := 18) hx hb hw inAX7 hown hK hP 3 rfl rfl 2 (by decide) (hw _ q_209) (fun _ h9 => h9) n68 dX7_wayDown_131 ?_
        refine lv_iload hx hb dX7_wayDown_134 (lv_at hl 3 rfl) ?_
        refine lv_iload hx hb dX7_wayDown_136 (lv_at hl 1 rfl) ?_
        obtain ⟨g69, eg69⟩ : ∃ z : Nat → Int32, upd w11 u7.toNatClampNeg v61 = z := ⟨_, rfl⟩
        refine iast_g hx hb hK hP hD hS 0 0 rfl rfl (ix_k k23 (by decide) (by decide)) eg69 dX7_wayDown_138 (fun H locs hP hD hS => ?_)
        have hP : va_P D vwCl [(h_paceBehind, .inl (cI, 12, .inl g69)), (h_p0_length, .inl (cI, 12, .inl f_p0_length)), (h_p1_high, .inl (cI, 12, .inl f_p1_high)), (h0, .inr (7, vL 18 F32)), (h_p0_settings, .inl (cI, 5, .inl f_p0_settings)), (h_p0_drop, .inl (cI, 12, .inl f_p0_drop)), (h_p0_bestAt, .inl (cI, 6, .inl f_p0_bestAt)), (h_p0_bad, .inl (cI, 6, .inl f_p0_bad)), (p1, .inr (5, vL 11 F_p1_)), (h_p0_ideal, .inl (cI, 12, .inl f_p0_ideal)), (p0, .inr (1, vL 18 F_p0_)), (h_p0_over, .inl (cI, 12, .inl f_p0_over))] H := hP
        have hD : va_D A [(h_paceBehind, .inl (cI, 12, .inl g69)), (h_p0_length, .inl (cI, 12, .inl f_p0_length)), (h_p1_high, .inl (cI, 12, .inl f_p1_high)), (h0, .inr (7, vL 18 F32)), (h_p0_settings, .inl (cI, 5, .inl f_p0_settings)), (h_p0_drop, .inl (cI, 12, .inl f_p0_drop)), (h_p0_bestAt, .inl (cI, 6, .inl f_p0_bestAt)), (h_p0_bad, .inl (cI, 6, .inl f_p0_bad)), (p1, .inr (5, vL 11 F_p1_)), (h_p0_ideal, .inl (cI, 12, .inl f_p0_ideal)), (p0, .inr (1, vL 18 F_p0_)), (h_p0_over, .inl (cI, 12, .inl f_p0_over))] := hD
        refine lv_iload hx hb dX7_wayDown_139 (lv_at hl 2 rfl) ?_
        refine lv_istore (lv' := [(7, .int v25), (6, .int v65), (5, .int v61), (9, .int v25), (8, .int u7), (0, .ref h0), (1, .ref p0), (2, .ref p1), (3, .int p2), (4, .int p3)]) hx hb dX7_wayDown_141 hl (by decide) rfl (fun ls hl => ?_)
        refine lv_aload_n hx hb dX7_wayDown_143 rfl (lv_at hl 5 rfl) ?_
        refine lv_dup hx hb dX7_wayDown_144 rfl ?_
        have n70 : F32 10 = .int u14 := (get_ne eF32 (by decide) i19)
        refine get_f (D := D) (ci := 7) (v := .int u14) (C := RX7) (T := TX7) (N := 18) hx hb hw inAX7 hown hK hP 3 rfl rfl 10 (by decide) (hw _ q_225) (fun _ h9 => h9) n70 dX7_wayDown_145 ?_
        refine lv_iconst (v := 1) hx hb dX7_wayDown_148 (by decide) ?_
        refine lv_iadd hx hb dX7_wayDown_149 ?_
        refine lv_topi (fun v71 ev71 => ?_)
        refine put_f (D := D) (ci := 7) (v := .int v71) (ty := .int) (C := RX7) (T := TX7) (N := 18) hx hb hw inAX7 tyX7 tyX7_ok nmX7 hown hK hP hD hS 3 rfl rfl 10 (by decide) (hw _ q_225) (fun _ h9 => h9) rfl (by decide +kernel) rfl rfl dX7_wayDown_150 (fun H locs F72 eF72 hP hD hS => ?_)
        have hP : va_P D vwCl [(h_paceBehind, .inl (cI, 12, .inl g69)), (h_p0_length, .inl (cI, 12, .inl f_p0_length)), (h_p1_high, .inl (cI, 12, .inl f_p1_high)), (h0, .inr (7, vL 18 F72)), (h_p0_settings, .inl (cI, 5, .inl f_p0_settings)), (h_p0_drop, .inl (cI, 12, .inl f_p0_drop)), (h_p0_bestAt, .inl (cI, 6, .inl f_p0_bestAt)), (h_p0_bad, .inl (cI, 6, .inl f_p0_bad)), (p1, .inr (5, vL 11 F_p1_)), (h_p0_ideal, .inl (cI, 12, .inl f_p0_ideal)), (p0, .inr (1, vL 18 F_p0_)), (h_p0_over, .inl (cI, 12, .inl f_p0_over))] H := hP
        have hD : va_D A [(h_paceBehind, .inl (cI, 12, .inl g69)), (h_p0_length, .inl (cI, 12, .inl f_p0_length)), (h_p1_high, .inl (cI, 12, .inl f_p1_high)), (h0, .inr (7, vL 18 F72)), (h_p0_settings, .inl (cI, 5, .inl f_p0_settings)), (h_p0_drop, .inl (cI, 12, .inl f_p0_drop)), (h_p0_bestAt, .inl (cI, 6, .inl f_p0_bestAt)), (h_p0_bad, .inl (cI, 6, .inl f_p0_bad)), (p1, .inr (5, vL 11 F_p1_)), (h_p0_ideal, .inl (cI, 12, .inl f_p0_ideal)), (p0, .inr (1, vL 18 F_p0_)), (h_p0_over, .inl (cI, 12, .inl f_p0_over))] := hD
        obtain ⟨v73, ev73⟩ : ∃ z : Int32, z = u7 + 1 := ⟨_, rfl⟩
        have bv73 : v73.toInt = u7.toInt + 1 := by rw [ev73]; exact add_k rfl rfl k23 ⟨Int.le_refl _, Int.le_refl _⟩ (by decide)
        have k74 : 1 ≤ v73.toInt ∧ v73.toInt ≤ 12 := add_r bv73 k23 ⟨Int.le_refl _, Int.le_refl _⟩ (by decide)
        refine lv_iinc (v := v73) (lv' := [(8, .int v73), (7, .int v25), (6, .int v65), (5, .int v61), (9, .int v25), (0, .ref h0), (1, .ref p0), (2, .ref p1), (3, .int p2), (4, .int p3)]) hx hb dX7_wayDown_153 hl (k := 4) rfl (by rw [ev73]; rfl) (by decide) rfl (fun ls hl => ?_)
        refine lv_goto (tgt := 17) hx hb dX7_wayDown_156 (by decide) ?_
        have n75 : F72 9 = .int r30 := (get_ne eF72 (by decide) (get_eq eF32))
        have n76 : F32 11 = .int u15 := (get_ne eF32 (by decide) i20)
        have n77 : F72 11 = .int u15 := (get_ne eF72 (by decide) n76)
        exact ih (v73, v25, v65, v61, g69, F72, r30, v71, u15) ⟨(ir_wk k74 (by decide) (by decide)), (SAME.up eF72 (SAME.up eF32 (SAME.tr SAME.rf i17 (by decide)) (by decide)) (by decide)), n75, (get_eq eF72), n77, i21⟩ (by show (12 - v73.toInt).toNat < (12 - u7.toInt).toNat; omega) _ _ _ (hP.sub [0, 10, 4, 1, 5, 9, 11, 6, 7, 8, 2, 3] rfl) (hD.sub [0, 10, 4, 1, 5, 9, 11, 6, 7, 8, 2, 3] (by decide) rfl) hS (lv_sub hl [0, 1, 2, 3, 5, 6, 7, 8, 9] rfl)
    · have dc35 : r33.toInt ≠ 0 := ne_i (a := r33.toInt) (b := 0) rfl rfl c35
      have k78 : 1 ≤ r33.toInt ∧ r33.toInt ≤ 1 := ⟨ne_lo dc35 t34.1 ⟨Int.le_refl _, Int.le_refl _⟩ (by decide), t34.2⟩
      refine lv_aload_n hx hb dX7_wayDown_82 rfl (lv_at hl 5 rfl) ?_
      refine lv_iload hx hb dX7_wayDown_83 (lv_at hl 2 rfl) ?_
      refine put_f (D := D) (ci := 7) (v := .int u7) (ty := .int) (C := RX7) (T := TX7) (N := 18) hx hb hw inAX7 tyX7 tyX7_ok nmX7 hown hK hP hD hS 3 rfl rfl 11 (by decide) (hw _ q_227) (fun _ h9 => h9) rfl (by decide +kernel) rfl rfl dX7_wayDown_85 (fun H locs F79 eF79 hP hD hS => ?_)
      have hP : va_P D vwCl [(h_paceBehind, .inl (cI, 12, .inl w11)), (h_p0_length, .inl (cI, 12, .inl f_p0_length)), (h_p1_high, .inl (cI, 12, .inl f_p1_high)), (h0, .inr (7, vL 18 F79)), (h_p0_settings, .inl (cI, 5, .inl f_p0_settings)), (h_p0_drop, .inl (cI, 12, .inl f_p0_drop)), (h_p0_bestAt, .inl (cI, 6, .inl f_p0_bestAt)), (h_p0_bad, .inl (cI, 6, .inl f_p0_bad)), (p1, .inr (5, vL 11 F_p1_)), (h_p0_ideal, .inl (cI, 12, .inl f_p0_ideal)), (p0, .inr (1, vL 18 F_p0_)), (h_p0_over, .inl (cI, 12, .inl f_p0_over))] H := hP
      have hD : va_D A [(h_paceBehind, .inl (cI, 12, .inl w11)), (h_p0_length, .inl (cI, 12, .inl f_p0_length)), (h_p1_high, .inl (cI, 12, .inl f_p1_high)), (h0, .inr (7, vL 18 F79)), (h_p0_settings, .inl (cI, 5, .inl f_p0_settings)), (h_p0_drop, .inl (cI, 12, .inl f_p0_drop)), (h_p0_bestAt, .inl (cI, 6, .inl f_p0_bestAt)), (h_p0_bad, .inl (cI, 6, .inl f_p0_bad)), (p1, .inr (5, vL 11 F_p1_)), (h_p0_ideal, .inl (cI, 12, .inl f_p0_ideal)), (p0, .inr (1, vL 18 F_p0_)), (h_p0_over, .inl (cI, 12, .inl f_p0_over))] := hD
      refine lv_iconst (v := (-1)) hx hb dX7_wayDown_88 (by decide) ?_
      exact ret_i (v := (-1)) hx hb hr hlocks hS (hP.sub (ws' := [(h0, .inr (7, vL 18 F79)), (h_paceBehind, .inl (cI, 12, .inl w11)), (p0, .inr (1, vL 18 F_p0_)), (h_p0_settings, .inl (cI, 5, .inl f_p0_settings)), (h_p0_length, .inl (cI, 12, .inl f_p0_length)), (h_p0_drop, .inl (cI, 12, .inl f_p0_drop)), (h_p0_ideal, .inl (cI, 12, .inl f_p0_ideal)), (h_p0_over, .inl (cI, 12, .inl f_p0_over)), (h_p0_bestAt, .inl (cI, 6, .inl f_p0_bestAt)), (h_p0_bad, .inl (cI, 6, .inl f_p0_bad)), (p1, .inr (5, vL 11 F_p1_)), (h_p1_high, .inl (cI, 12, .inl f_p1_high))]) [3, 0, 10, 4, 1, 5, 9, 11, 6, 7, 8, 2] rfl) (hD.sub (ws' := [(h0, .inr (7, vL 18 F79)), (h_paceBehind, .inl (cI, 12, .inl w11)), (p0, .inr (1, vL 18 F_p0_)), (h_p0_settings, .inl (cI, 5, .inl f_p0_settings)), (h_p0_length, .inl (cI, 12, .inl f_p0_length)), (h_p0_drop, .inl (cI, 12, .inl f_p0_drop)), (h_p0_ideal, .inl (cI, 12, .inl f_p0_ideal)), (h_p0_over, .inl (cI, 12, .inl f_p0_over)), (h_p0_bestAt, .inl (cI, 6, .inl f_p0_bestAt)), (h_p0_bad, .inl (cI, 6, .inl f_p0_bad)), (p1, .inr (5, vL 11 F_p1_)), (h_p1_high, .inl (cI, 12, .inl f_p1_high))]) [3, 0, 10, 4, 1, 5, 9, 11, 6, 7, 8, 2] (by decide) rfl) dX7_wayDown_89 rfl (Nat.le_of_ble_eq_true rfl) (Nat.le_of_ble_eq_true rfl) ⟨F79, r30, u14, u7, w11, (SAME.up eF79 (SAME.up eF32 (SAME.tr (SAME.tr SAME.rf t3 (by decide)) i17 (by decide)) (by decide)) (by decide)), (get_ne eF79 (by decide) (get_eq eF32)), (get_ne eF79 (by decide) (get_ne eF32 (by decide) i19)), (get_eq eF79), (ir_wk k23 (by decide) (by decide)), rfl⟩
set_option maxHeartbeats 4000000 in
set_option maxRecDepth 100000 in
theorem m_X3_leastWayDown (l : Launch) (D : va_G) (cI cJ cB cP cM cZ : ClassId) (h0 : Nat) (h_ways : Nat) (h_states : Nat) (p0 : Nat) (h_p0_settings : Nat) (h_p0_length : Nat) (h_p0_drop : Nat) (h_p0_ideal : Nat) (h_p0_over : Nat) (h_p0_bestAt : Nat) (h_p0_bad : Nat) (p1 : Nat) (h_p1_high : Nat) (p2 : Nat) (h_p2_paceBehind : Nat) (Fh : Nat → Value) (x_stateCount : Int32) (f_ways : Nat → Int64) (f_states : Nat → Int32) (F_p0_ : Nat → Value) (x_p0_bends : Int32) (x_p0_runners : Int32) (f_p0_settings : Nat → Int32) (f_p0_length : Nat → Int32) (f_p0_drop : Nat → Int32) (f_p0_ideal : Nat → Int32) (f_p0_over : Nat → Int32) (f_p0_bestAt : Nat → Int32) (f_p0_bad : Nat → Int32) (F_p1_ : Nat → Value) (x_p1_runner : Int32) (x_p1_number : Int32) (f_p1_high : Nat → Int32) (F_p2_ : Nat → Value) (x_p2_lastPace : Int32) (x_p2_gone : Int32) (x_p2_overAt : Int32) (x_p2_touchedBend : Int32) (x_p2_touchedBy : Int32) (f_p2_paceBehind : Nat → Int32) (p3 : Int32) (sz : Nat) (e_ways : Fh 4 = .ref h_ways) (e_states : Fh 6 = .ref h_states) (e_stateCount : Fh 8 = .int x_stateCount) (i_x_stateCount : IR 0 7712 x_stateCount) (s_states_0 : SG 0 7711 0 7711 f_states) (e_p0_settings : F_p0_ 1 = .ref h_p0_settings) (e_p0_length : F_p0_ 6 = .ref h_p0_length) (e_p0_drop : F_p0_ 7 = .ref h_p0_drop) (e_p0_ideal : F_p0_ 8 = .ref h_p0_ideal) (e_p0_over : F_p0_ 9 = .ref h_p0_over) (e_p0_bestAt : F_p0_ 11 = .ref h_p0_bestAt) (e_p0_bad : F_p0_ 12 = .ref h_p0_bad) (e_p0_bends : F_p0_ 14 = .int x_p0_bends) (i_x_p0_bends : IR 0 12 x_p0_bends) (e_p0_runners : F_p0_ 15 = .int x_p0_runners) (i_x_p0_runners : IR 0 6 x_p0_runners) (e_p1_high : F_p1_ 2 = .ref h_p1_high) (e_p1_runner : F_p1_ 5 = .int x_p1_runner) (e_p1_number : F_p1_ 6 = .int x_p1_number) (e_p2_paceBehind : F_p2_ 2 = .ref h_p2_paceBehind) (e_p2_lastPace : F_p2_ 9 = .int x_p2_lastPace) (e_p2_gone : F_p2_ 10 = .int x_p2_gone) (e_p2_overAt : F_p2_ 11 = .int x_p2_overAt) (e_p2_touchedBend : F_p2_ 16 = .int x_p2_touchedBend) (e_p2_touchedBy : F_p2_ 17 = .int x_p2_touchedBy) : CL l yX3_leastWayDown cX3_leastWayDown 9 (some .long) { frames := 4, cells := 0, slots := 0, locals := 115 } (GG D cI cJ cB cP cM cZ) D [(h0, .inr (3, vL 10 Fh)), (h_ways, .inl (cJ, 7712, .inr (.inl f_ways))), (h_states, .inl (cI, 7712, .inl f_states)), (p0, .inr (1, vL 18 F_p0_)), (h_p0_settings, .inl (cI, 5, .inl f_p0_settings)), (h_p0_length, .inl (cI, 12, .inl f_p0_length)), (h_p0_drop, .inl (cI, 12, .inl f_p0_drop)), (h_p0_ideal, .inl (cI, 12, .inl f_p0_ideal)), (h_p0_over, .inl (cI, 12, .inl f_p0_over)), (h_p0_bestAt, .inl (cI, 6, .inl f_p0_bestAt)), (h_p0_bad, .inl (cI, 6, .inl f_p0_bad)), (p1, .inr (5, vL 11 F_p1_)), (h_p1_high, .inl (cI, 12, .inl f_p1_high)), (p2, .inr (7, vL 18 F_p2_)), (h_p2_paceBehind, .inl (cI, 12, .inl f_p2_paceBehind))] sz [.ref h0, .ref p0, .ref p1, .ref p2, .int p3] (fun (r : Int64) (u : va_W) => ∃ (G_p2_ : Nat → Value) (y_p2_lastPace : Int32) (y_p2_gone : Int32) (y_p2_overAt : Int32) (g_p2_paceBehind : Nat → Int32), SAME [9, 10, 11] F_p2_ G_p2_ ∧ G_p2_ 9 = .int y_p2_lastPace ∧ G_p2_ 10 = .int y_p2_gone ∧ G_p2_ 11 = .int y_p2_overAt ∧ u = [(h0, .inr (3, vL 10 Fh)), (h_ways, .inl (cJ, 7712, .inr (.inl f_ways))), (h_states, .inl (cI, 7712, .inl f_states)), (p0, .inr (1, vL 18 F_p0_)), (h_p0_settings, .inl (cI, 5, .inl f_p0_settings)), (h_p0_length, .inl (cI, 12, .inl f_p0_length)), (h_p0_drop, .inl (cI, 12, .inl f_p0_drop)), (h_p0_ideal, .inl (cI, 12, .inl f_p0_ideal)), (h_p0_over, .inl (cI, 12, .inl f_p0_over)), (h_p0_bestAt, .inl (cI, 6, .inl f_p0_bestAt)), (h_p0_bad, .inl (cI, 6, .inl f_p0_bad)), (p1, .inr (5, vL 11 F_p1_)), (h_p1_high, .inl (cI, 12, .inl f_p1_high)), (p2, .inr (7, vL 18 G_p2_)), (h_p2_paceBehind, .inl (cI, 12, .inl g_p2_paceBehind))]) := by
  refine CL_mk (by decide) (Nat.le_of_ble_eq_true rfl) ?_
  intro p e s m below meth c A ls E hAe hG hsz hP hD hA hS hl
  obtain ⟨hx, hb, hr, hw, hown, hlocks, hml, hnm⟩ := E
  have hK := hG.1
  have i_x_stateCount : 0 ≤ x_stateCount.toInt ∧ x_stateCount.toInt ≤ 7712 := i_x_stateCount
  have i_x_p0_bends : 0 ≤ x_p0_bends.toInt ∧ x_p0_bends.toInt ≤ 12 := i_x_p0_bends
  have i_x_p0_runners : 0 ≤ x_p0_runners.toInt ∧ x_p0_runners.toInt ≤ 6 := i_x_p0_runners
  have hl : lv_has ls 9 [(0, .ref h0), (1, .ref p0), (2, .ref p1), (3, .ref p2), (4, .int p3)] := hl
  refine lv_ldc2 hx hb hown (hw _ q_904) dX3_leastWayDown_0 ?_
  refine lv_lstore (lv' := [(5, .long 4611686018427387904), (0, .ref h0), (1, .ref p0), (2, .ref p1), (3, .ref p2), (4, .int p3)]) hx hb dX3_leastWayDown_3 hl (by decide) rfl (fun ls hl => ?_)
  refine lv_iconst (v := 0) hx hb dX3_leastWayDown_5 (by decide) ?_
  refine lv_istore (lv' := [(7, .int 0), (5, .long 4611686018427387904), (0, .ref h0), (1, .ref p0), (2, .ref p1), (3, .ref p2), (4, .int p3)]) hx hb dX3_leastWayDown_6 hl (by decide) rfl (fun ls hl => ?_)
  refine mloop (α := (Int32) × (Int64) × (Nat → Value) × (Int32) × (Int32) × (Int32) × (Nat → Int32)) (nL := 9) (D := D) (A := A) (H0 := s.heap) (fun a => (7712 - a.1.toInt).toNat) (fun a => IR 0 7712 a.1 ∧ SAME [9, 10, 11] F_p2_ a.2.2.1 ∧ a.2.2.1 9 = .int a.2.2.2.1 ∧ a.2.2.1 10 = .int a.2.2.2.2.1 ∧ a.2.2.1 11 = .int a.2.2.2.2.2.1) (fun a => [(h0, .inr (3, vL 10 Fh)), (h_ways, .inl (cJ, 7712, .inr (.inl f_ways))), (h_states, .inl (cI, 7712, .inl f_states)), (p0, .inr (1, vL 18 F_p0_)), (h_p0_settings, .inl (cI, 5, .inl f_p0_settings)), (h_p0_length, .inl (cI, 12, .inl f_p0_length)), (h_p0_drop, .inl (cI, 12, .inl f_p0_drop)), (h_p0_ideal, .inl (cI, 12, .inl f_p0_ideal)), (h_p0_over, .inl (cI, 12, .inl f_p0_over)), (h_p0_bestAt, .inl (cI, 6, .inl f_p0_bestAt)), (h_p0_bad, .inl (cI, 6, .inl f_p0_bad)), (p1, .inr (5, vL 11 F_p1_)), (h_p1_high, .inl (cI, 12, .inl f_p1_high)), (p2, .inr (7, vL 18 a.2.2.1)), (h_p2_paceBehind, .inl (cI, 12, .inl a.2.2.2.2.2.2))]) (fun a => [(7, .int a.1), (5, .long a.2.1), (0, .ref h0), (1, .ref p0), (2, .ref p1), (3, .ref p2), (4, .int p3)]) (fun H locs ls => W p l e ({ frames := 4, cells := 0, slots := 0, locals := 115 } : Room) s m [.ref h0, .ref p0, .ref p1, .ref p2, .int p3].toArray below meth c H locs 0 0 (MQ below (va_Ql (fun (r : Int64) (u : va_W) => ∃ (G_p2_ : Nat → Value) (y_p2_lastPace : Int32) (y_p2_gone : Int32) (y_p2_overAt : Int32) (g_p2_paceBehind : Nat → Int32), SAME [9, 10, 11] F_p2_ G_p2_ ∧ G_p2_ 9 = .int y_p2_lastPace ∧ G_p2_ 10 = .int y_p2_gone ∧ G_p2_ 11 = .int y_p2_overAt ∧ u = [(h0, .inr (3, vL 10 Fh)), (h_ways, .inl (cJ, 7712, .inr (.inl f_ways))), (h_states, .inl (cI, 7712, .inl f_states)), (p0, .inr (1, vL 18 F_p0_)), (h_p0_settings, .inl (cI, 5, .inl f_p0_settings)), (h_p0_length, .inl (cI, 12, .inl f_p0_length)), (h_p0_drop, .inl (cI, 12, .inl f_p0_drop)), (h_p0_ideal, .inl (cI, 12, .inl f_p0_ideal)), (h_p0_over, .inl (cI, 12, .inl f_p0_over)), (h_p0_bestAt, .inl (cI, 6, .inl f_p0_bestAt)), (h_p0_bad, .inl (cI, 6, .inl f_p0_bad)), (p1, .inr (5, vL 11 F_p1_)), (h_p1_high, .inl (cI, 12, .inl f_p1_high)), (p2, .inr (7, vL 18 G_p2_)), (h_p2_paceBehind, .inl (cI, 12, .inl g_p2_paceBehind))]) (PO D A) A) [.ref h0, .ref p0, .ref p1, .ref p2, .int p3].toArray s 0 0 A) (F0 m 8 ls [])) ?_ (0, 4611686018427387904, F_p2_, x_p2_lastPace, x_p2_gone, x_p2_overAt, f_p2_paceBehind) ⟨⟨by decide, by decide⟩, SAME.rf, e_p2_lastPace, e_p2_gone, e_p2_overAt⟩ _ _ _ hP hD hS hl
  rintro ⟨u1, u2, G3, u4, u5, u6, w7⟩ ⟨i8, i9, i10, i11, i12⟩ ih H locs ls hP hD hS hl
  have i8 : 0 ≤ u1.toInt ∧ u1.toInt ≤ 7712 := i8
  have hP : va_P D vwCl [(h0, .inr (3, vL 10 Fh)), (h_ways, .inl (cJ, 7712, .inr (.inl f_ways))), (h_states, .inl (cI, 7712, .inl f_states)), (p0, .inr (1, vL 18 F_p0_)), (h_p0_settings, .inl (cI, 5, .inl f_p0_settings)), (h_p0_length, .inl (cI, 12, .inl f_p0_length)), (h_p0_drop, .inl (cI, 12, .inl f_p0_drop)), (h_p0_ideal, .inl (cI, 12, .inl f_p0_ideal)), (h_p0_over, .inl (cI, 12, .inl f_p0_over)), (h_p0_bestAt, .inl (cI, 6, .inl f_p0_bestAt)), (h_p0_bad, .inl (cI, 6, .inl f_p0_bad)), (p1, .inr (5, vL 11 F_p1_)), (h_p1_high, .inl (cI, 12, .inl f_p1_high)), (p2, .inr (7, vL 18 G3)), (h_p2_paceBehind, .inl (cI, 12, .inl w7))] H := hP
  have hD : va_D A [(h0, .inr (3, vL 10 Fh)), (h_ways, .inl (cJ, 7712, .inr (.inl f_ways))), (h_states, .inl (cI, 7712, .inl f_states)), (p0, .inr (1, vL 18 F_p0_)), (h_p0_settings, .inl (cI, 5, .inl f_p0_settings)), (h_p0_length, .inl (cI, 12, .inl f_p0_length)), (h_p0_drop, .inl (cI, 12, .inl f_p0_drop)), (h_p0_ideal, .inl (cI, 12, .inl f_p0_ideal)), (h_p0_over, .inl (cI, 12, .inl f_p0_over)), (h_p0_bestAt, .inl (cI, 6, .inl f_p0_bestAt)), (h_p0_bad, .inl (cI, 6, .inl f_p0_bad)), (p1, .inr (5, vL 11 F_p1_)), (h_p1_high, .inl (cI, 12, .inl f_p1_high)), (p2, .inr (7, vL 18 G3)), (h_p2_paceBehind, .inl (cI, 12, .inl w7))] := hD
  have hl : lv_has ls 9 [(7, .int u1), (5, .long u2), (0, .ref h0), (1, .ref p0), (2, .ref p1), (3, .ref p2), (4, .int p3)] := hl
  refine lv_iload hx hb dX3_leastWayDown_8 (lv_at hl 0 rfl) ?_
  refine lv_aload_n hx hb dX3_leastWayDown_10 rfl (lv_at hl 2 rfl) ?_
  refine get_f (D := D) (ci := 3) (v := .int x_stateCount) (C := RX3) (T := TX3) (N := 10) hx hb hw inAX3 hown hK hP 0 rfl rfl 8 (by decide) (hw _ q_917) (fun _ h9 => h9) e_stateCount dX3_leastWayDown_11 ?_
  refine lv_icmp_ge (tgt := 97) hx hb dX3_leastWayDown_14 (by decide) (fun c13 => ?_) (fun c13 => ?_)
  · have dc13 : x_stateCount.toInt ≤ u1.toInt := le_i (a := x_stateCount.toInt) (b := u1.toInt) rfl rfl c13
    refine lv_lload hx hb dX3_leastWayDown_97 (lv_at hl 1 rfl) ?_
    exact ret_l (v := u2) hx hb hr hlocks hS hP hD dX3_leastWayDown_99 (Nat.le_of_ble_eq_true rfl) (Nat.le_of_ble_eq_true rfl) ⟨G3, u4, u5, u6, w7, (SAME.tr SAME.rf i9 (by decide)), i10, i11, i12, rfl⟩
  · have dc13 : u1.toInt < x_stateCount.toInt := nle_i (a := x_stateCount.toInt) (b := u1.toInt) rfl rfl c13
    have k14 : 0 ≤ u1.toInt ∧ u1.toInt ≤ 7711 := ⟨i8.1, up_lt dc13 i_x_stateCount.2 (by decide)⟩
    have k15 : 1 ≤ x_stateCount.toInt ∧ x_stateCount.toInt ≤ 7712 := ⟨lo_lt dc13 i8.1 (by decide), i_x_stateCount.2⟩
    refine lv_aload_n hx hb dX3_leastWayDown_17 rfl (lv_at hl 2 rfl) ?_
    refine get_f (D := D) (ci := 3) (v := .ref h_states) (C := RX3) (T := TX3) (N := 10) hx hb hw inAX3 hown hK hP 0 rfl rfl 6 (by decide) (hw _ q_915) (fun _ h9 => h9) e_states dX3_leastWayDown_18 ?_
    refine lv_iload hx hb dX3_leastWayDown_21 (lv_at hl 0 rfl) ?_
    refine va_iald hx hb hK hP 2 0 rfl rfl (ix_k k14 (by decide) (by decide)) dX3_leastWayDown_23 ?_
    refine lv_topi (fun v16 ev16 => ?_)
    have k17 : 0 ≤ v16.toInt ∧ v16.toInt ≤ 7711 := by rw [ev16]; exact s_states_0.at _ (Int.le_trans (by decide) k14.1) (Int.le_trans k14.2 (by decide))
    refine lv_sipush (v := 241) hx hb dX3_leastWayDown_24 (by decide) ?_
    refine lv_idiv hx hb dX3_leastWayDown_27 (by decide) ?_
    refine lv_topi (fun v18 ev18 => ?_)
    have bv18 : v18.toInt = v16.toInt / 241 := by rw [ev18]; exact div_i rfl rfl (Int.le_trans (by decide) k17.1) (by decide)
    have k19 : 0 ≤ v18.toInt ∧ v18.toInt ≤ 31 := div_r bv18 k17 (by decide)
    refine lv_iconst (v := 1) hx hb dX3_leastWayDown_28 (by decide) ?_
    refine lv_ishr hx hb dX3_leastWayDown_29 ?_
    refine lv_topi (fun v20 ev20 => ?_)
    have k21 : 0 ≤ v20.toInt ∧ v20.toInt ≤ 15 := by rw [ev20]; exact shr_i (Int.le_trans (by decide) k19.1) (Int.le_trans k19.2 (by decide))
    refine lv_bipush (v := 15) hx hb dX3_leastWayDown_30 (by decide) ?_
    refine lv_icmp_ne (tgt := 91) hx hb dX3_leastWayDown_32 (by decide) (fun c22 => ?_) (fun c22 => ?_)
    · have dc22 : v20.toInt ≠ 15 := ne_i (a := v20.toInt) (b := 15) rfl rfl c22
      have k23 : 0 ≤ v20.toInt ∧ v20.toInt ≤ 14 := ⟨k21.1, ne_hi dc22 k21.2 ⟨Int.le_refl _, Int.le_refl _⟩ (by decide)⟩
      obtain ⟨v24, ev24⟩ : ∃ z : Int32, z = u1 + 1 := ⟨_, rfl⟩
      have bv24 : v24.toInt = u1.toInt + 1 := by rw [ev24]; exact add_k rfl rfl k14 ⟨Int.le_refl _, Int.le_refl _⟩ (by decide)
      have k25 : 1 ≤ v24.toInt ∧ v24.toInt ≤ 7712 := add_r bv24 k14 ⟨Int.le_refl _, Int.le_refl _⟩ (by decide)
      refine lv_iinc (v := v24) (lv' := [(7, .int v24), (5, .long u2), (0, .ref h0), (1, .ref p0), (2, .ref p1), (3, .ref p2), (4, .int p3)]) hx hb dX3_leastWayDown_91 hl (k := 0) rfl (by rw [ev24]; rfl) (by decide) rfl (fun ls hl => ?_)
      refine lv_goto (tgt := 8) hx hb dX3_leastWayDown_94 (by decide) ?_
      exact ih (v24, u2, G3, u4, u5, u6, w7) ⟨(ir_wk k25 (by decide) (by decide)), (SAME.tr SAME.rf i9 (by decide)), i10, i11, i12⟩ (by show (7712 - v24.toInt).toNat < (7712 - u1.toInt).toNat; omega) _ _ _ hP hD hS (lv_sub hl [0, 1, 2, 3, 4, 5, 6] rfl)
    · have dc22 : v20.toInt = 15 := eq_i (a := v20.toInt) (b := 15) rfl rfl c22
      have k26 : 15 ≤ v20.toInt ∧ v20.toInt ≤ 15 := ⟨Int.le_trans (Int.le_refl _) (Int.le_of_eq dc22.symm), k21.2⟩
      refine lv_aload_n hx hb dX3_leastWayDown_35 rfl (lv_at hl 5 rfl) ?_
      refine lv_aload_n hx hb dX3_leastWayDown_36 rfl (lv_at hl 3 rfl) ?_
      refine lv_aload_n hx hb dX3_leastWayDown_37 rfl (lv_at hl 4 rfl) ?_
      refine lv_aload_n hx hb dX3_leastWayDown_38 rfl (lv_at hl 2 rfl) ?_
      refine get_f (D := D) (ci := 3) (v := .ref h_states) (C := RX3) (T := TX3) (N := 10) hx hb hw inAX3 hown hK hP 0 rfl rfl 6 (by decide) (hw _ q_915) (fun _ h9 => h9) e_states dX3_leastWayDown_39 ?_
      refine lv_iload hx hb dX3_leastWayDown_42 (lv_at hl 0 rfl) ?_
      refine va_iald hx hb hK hP 2 0 rfl rfl (ix_k k14 (by decide) (by decide)) dX3_leastWayDown_44 ?_
      refine lv_ci (y := v16) ev16.symm ?_
      refine lv_sipush (v := 241) hx hb dX3_leastWayDown_45 (by decide) ?_
      refine lv_irem hx hb dX3_leastWayDown_48 (by decide) ?_
      refine lv_topi (fun v27 ev27 => ?_)
      have bv27 : v27.toInt = v16.toInt % 241 := by rw [ev27]; exact rem_i rfl rfl (Int.le_trans (by decide) k17.1) (by decide)
      have k28 : 0 ≤ v27.toInt ∧ v27.toInt ≤ 240 := rem_r bv27 (by decide)
      refine lv_bipush (v := 10) hx hb dX3_leastWayDown_49 (by decide) ?_
      refine lv_iadd hx hb dX3_leastWayDown_51 ?_
      refine lv_topi (fun v29 ev29 => ?_)
      have bv29 : v29.toInt = v27.toInt + 10 := by rw [ev29]; exact add_k rfl rfl k28 ⟨Int.le_refl _, Int.le_refl _⟩ (by decide)
      have k30 : 10 ≤ v29.toInt ∧ v29.toInt ≤ 250 := add_r bv29 k28 ⟨Int.le_refl _, Int.le_refl _⟩ (by decide)
      refine lv_iload hx hb dX3_leastWayDown_52 (lv_at hl 6 rfl) ?_
      have n31 : G3 2 = .ref h_p2_paceBehind := (SAME.at i9 (by decide) e_p2_paceBehind)
      have n32 : G3 16 = .int x_p2_touchedBend := (SAME.at i9 (by decide) e_p2_touchedBend)
      have n33 : G3 17 = .int x_p2_touchedBy := (SAME.at i9 (by decide) e_p2_touchedBy)
      refine call_Vi (wr := [(h0, .inr (3, vL 10 Fh)), (h_ways, .inl (cJ, 7712, .inr (.inl f_ways))), (h_states, .inl (cI, 7712, .inl f_states))]) (As := [.ref p0, .ref p1, .int v29, .int p3]) (rest := []) hx hb hml hown hw (m_X7_wayDown l D cI cJ cB cP cM cZ p2 h_p2_paceBehind p0 h_p0_settings h_p0_length h_p0_drop h_p0_ideal h_p0_over h_p0_bestAt h_p0_bad p1 h_p1_high G3 x_p2_touchedBend x_p2_touchedBy w7 F_p0_ x_p0_bends x_p0_runners f_p0_settings f_p0_length f_p0_drop f_p0_ideal f_p0_over f_p0_bestAt f_p0_bad F_p1_ x_p1_runner x_p1_number f_p1_high v29 p3 _ n31 n32 n33 e_p0_settings e_p0_length e_p0_drop e_p0_ideal e_p0_over e_p0_bestAt e_p0_bad e_p0_bends i_x_p0_bends e_p0_runners i_x_p0_runners e_p1_high e_p1_runner e_p1_number) wV_X3_117_X7_wayDown dX3_leastWayDown_54 hK hP hD hS hA [13, 14, 3, 4, 5, 6, 7, 8, 9, 10, 11, 12] [0, 1, 2] rfl rfl (by decide) (by decide) (by decide) 0 7 rfl rfl GG.fb hG.at hl.1 rfl (Nat.le_of_ble_eq_true rfl) ⟨(Nat.le_of_ble_eq_true rfl), (Nat.le_of_ble_eq_true rfl)⟩ ⟨(Nat.le_of_ble_eq_true rfl), (Nat.le_of_ble_eq_true rfl)⟩ (fun r34 u H locs hp hP hD hS => ?_)
      obtain ⟨F35, y36, y37, y38, g39, t40, t41, t42, t43, t44, rfl⟩ := hp
      have hP : va_P D vwCl [(h0, .inr (3, vL 10 Fh)), (h_ways, .inl (cJ, 7712, .inr (.inl f_ways))), (h_states, .inl (cI, 7712, .inl f_states)), (p2, .inr (7, vL 18 F35)), (h_p2_paceBehind, .inl (cI, 12, .inl g39)), (p0, .inr (1, vL 18 F_p0_)), (h_p0_settings, .inl (cI, 5, .inl f_p0_settings)), (h_p0_length, .inl (cI, 12, .inl f_p0_length)), (h_p0_drop, .inl (cI, 12, .inl f_p0_drop)), (h_p0_ideal, .inl (cI, 12, .inl f_p0_ideal)), (h_p0_over, .inl (cI, 12, .inl f_p0_over)), (h_p0_bestAt, .inl (cI, 6, .inl f_p0_bestAt)), (h_p0_bad, .inl (cI, 6, .inl f_p0_bad)), (p1, .inr (5, vL 11 F_p1_)), (h_p1_high, .inl (cI, 12, .inl f_p1_high))] H := hP
      have hD : va_D A [(h0, .inr (3, vL 10 Fh)), (h_ways, .inl (cJ, 7712, .inr (.inl f_ways))), (h_states, .inl (cI, 7712, .inl f_states)), (p2, .inr (7, vL 18 F35)), (h_p2_paceBehind, .inl (cI, 12, .inl g39)), (p0, .inr (1, vL 18 F_p0_)), (h_p0_settings, .inl (cI, 5, .inl f_p0_settings)), (h_p0_length, .inl (cI, 12, .inl f_p0_length)), (h_p0_drop, .inl (cI, 12, .inl f_p0_drop)), (h_p0_ideal, .inl (cI, 12, .inl f_p0_ideal)), (h_p0_over, .inl (cI, 12, .inl f_p0_over)), (h_p0_bestAt, .inl (cI, 6, .inl f_p0_bestAt)), (h_p0_bad, .inl (cI, 6, .inl f_p0_bad)), (p1, .inr (5, vL 11 F_p1_)), (h_p1_high, .inl (cI, 12, .inl f_p1_high))] := hD
      refine W.widen (k := 0) (n := 0) (Nat.le_of_ble_eq_true rfl) (Nat.le_of_ble_eq_true rfl) ?_
      refine lv_istore (lv' := [(8, .int r34), (7, .int u1), (5, .long u2), (0, .ref h0), (1, .ref p0), (2, .ref p1), (3, .ref p2), (4, .int p3)]) hx hb dX3_leastWayDown_57 hl (by decide) rfl (fun ls hl => ?_)
      refine lv_iload hx hb dX3_leastWayDown_59 (lv_at hl 0 rfl) ?_
      refine lv_iconst (v := (-1)) hx hb dX3_leastWayDown_61 (by decide) ?_
      refine lv_icmp_eq (tgt := 91) hx hb dX3_leastWayDown_62 (by decide) (fun c45 => ?_) (fun c45 => ?_)
      · have dc45 : r34.toInt = (-1) := eq_i (a := r34.toInt) (b := (-1)) rfl rfl c45
        have k46 : (-1) ≤ r34.toInt ∧ r34.toInt ≤ (-1) := ⟨Int.le_trans (Int.le_refl _) (Int.le_of_eq dc45.symm), Int.le_trans (Int.le_of_eq dc45) (Int.le_refl _)⟩
        obtain ⟨v47, ev47⟩ : ∃ z : Int32, z = u1 + 1 := ⟨_, rfl⟩
        have bv47 : v47.toInt = u1.toInt + 1 := by rw [ev47]; exact add_k rfl rfl k14 ⟨Int.le_refl _, Int.le_refl _⟩ (by decide)
        have k48 : 1 ≤ v47.toInt ∧ v47.toInt ≤ 7712 := add_r bv47 k14 ⟨Int.le_refl _, Int.le_refl _⟩ (by decide)
        refine lv_iinc (v := v47) (lv' := [(7, .int v47), (8, .int r34), (5, .long u2), (0, .ref h0), (1, .ref p0), (2, .ref p1), (3, .ref p2), (4, .int p3)]) hx hb dX3_leastWayDown_91 hl (k := 1) rfl (by rw [ev47]; rfl) (by decide) rfl (fun ls hl => ?_)
        refine lv_goto (tgt := 8) hx hb dX3_leastWayDown_94 (by decide) ?_
        exact ih (v47, u2, F35, y36, y37, y38, g39) ⟨(ir_wk k48 (by decide) (by decide)), (SAME.tr (SAME.tr SAME.rf i9 (by decide)) t40 (by decide)), t41, t42, t43⟩ (by show (7712 - v47.toInt).toNat < (7712 - u1.toInt).toNat; omega) _ _ _ (hP.sub [0, 1, 2, 5, 6, 7, 8, 9, 10, 11, 12, 13, 14, 3, 4] rfl) (hD.sub [0, 1, 2, 5, 6, 7, 8, 9, 10, 11, 12, 13, 14, 3, 4] (by decide) rfl) hS (lv_sub hl [0, 2, 3, 4, 5, 6, 7] rfl)
      · have dc45 : r34.toInt ≠ (-1) := ne_i (a := r34.toInt) (b := (-1)) rfl rfl c45
        refine lv_lload hx hb dX3_leastWayDown_65 (lv_at hl 2 rfl) ?_
        refine lv_aload_n hx hb dX3_leastWayDown_67 rfl (lv_at hl 3 rfl) ?_
        refine get_f (D := D) (ci := 3) (v := .ref h_ways) (C := RX3) (T := TX3) (N := 10) hx hb hw inAX3 hown hK hP 0 rfl rfl 4 (by decide) (hw _ q_913) (fun _ h9 => h9) e_ways dX3_leastWayDown_68 ?_
        refine lv_aload_n hx hb dX3_leastWayDown_71 rfl (lv_at hl 3 rfl) ?_
        refine get_f (D := D) (ci := 3) (v := .ref h_states) (C := RX3) (T := TX3) (N := 10) hx hb hw inAX3 hown hK hP 0 rfl rfl 6 (by decide) (hw _ q_915) (fun _ h9 => h9) e_states dX3_leastWayDown_72 ?_
        refine lv_iload hx hb dX3_leastWayDown_75 (lv_at hl 1 rfl) ?_
        refine va_iald hx hb hK hP 2 0 rfl rfl (ix_k k14 (by decide) (by decide)) dX3_leastWayDown_77 ?_
        refine lv_ci (y := v16) ev16.symm ?_
        refine va_lald hx hb hK hP 1 1 rfl rfl (ix_k k17 (by decide) (by decide)) dX3_leastWayDown_78 ?_
        refine lv_topl (fun v49 ev49 => ?_)
        refine lv_iload hx hb dX3_leastWayDown_79 (lv_at hl 0 rfl) ?_
        obtain ⟨v50, ev50⟩ : ∃ z : Int64, (r34 : Int32).toInt64 = z := ⟨_, rfl⟩
        refine lv_i2l (v := v50) hx hb dX3_leastWayDown_81 ev50 ?_
        refine lv_bipush (v := 32) hx hb dX3_leastWayDown_82 (by decide) ?_
        obtain ⟨v51, ev51⟩ : ∃ z : Int64, (v50 : Int64) <<< ((32 : Int32).toInt64 &&& 63) = z := ⟨_, rfl⟩
        refine lv_lshl (v := v51) hx hb dX3_leastWayDown_84 ev51 ?_
        refine lv_ladd hx hb dX3_leastWayDown_85 ?_
        refine lv_topl (fun v52 ev52 => ?_)
        refine va_mmin_long hx hb (hml.trans hl.1.symm) hown (hw _ q_952) (hw _ q_953) (hw _ q_19) (hw _ q_954) (Nat.le_of_ble_eq_true rfl) (Nat.le_of_ble_eq_true rfl) (Nat.le_of_ble_eq_true rfl) (Nat.le_of_ble_eq_true rfl) dX3_leastWayDown_86 ?_
        refine lv_topl (fun v53 ev53 => ?_)
        refine lv_lstore (lv' := [(5, .long v53), (8, .int r34), (7, .int u1), (0, .ref h0), (1, .ref p0), (2, .ref p1), (3, .ref p2), (4, .int p3)]) hx hb dX3_leastWayDown_89 hl (by decide) rfl (fun ls hl => ?_)
        obtain ⟨v54, ev54⟩ : ∃ z : Int32, z = u1 + 1 := ⟨_, rfl⟩
        have bv54 : v54.toInt = u1.toInt + 1 := by rw [ev54]; exact add_k rfl rfl k14 ⟨Int.le_refl _, Int.le_refl _⟩ (by decide)
        have k55 : 1 ≤ v54.toInt ∧ v54.toInt ≤ 7712 := add_r bv54 k14 ⟨Int.le_refl _, Int.le_refl _⟩ (by decide)
        refine lv_iinc (v := v54) (lv' := [(7, .int v54), (5, .long v53), (8, .int r34), (0, .ref h0), (1, .ref p0), (2, .ref p1), (3, .ref p2), (4, .int p3)]) hx hb dX3_leastWayDown_91 hl (k := 2) rfl (by rw [ev54]; rfl) (by decide) rfl (fun ls hl => ?_)
        refine lv_goto (tgt := 8) hx hb dX3_leastWayDown_94 (by decide) ?_
        exact ih (v54, v53, F35, y36, y37, y38, g39) ⟨(ir_wk k55 (by decide) (by decide)), (SAME.tr (SAME.tr SAME.rf i9 (by decide)) t40 (by decide)), t41, t42, t43⟩ (by show (7712 - v54.toInt).toNat < (7712 - u1.toInt).toNat; omega) _ _ _ (hP.sub [0, 1, 2, 5, 6, 7, 8, 9, 10, 11, 12, 13, 14, 3, 4] rfl) (hD.sub [0, 1, 2, 5, 6, 7, 8, 9, 10, 11, 12, 13, 14, 3, 4] (by decide) rfl) hS (lv_sub hl [0, 1, 3, 4, 5, 6, 7] rfl)
set_option maxHeartbeats 4000000 in
set_option maxRecDepth 100000 in
theorem m_X3_tellYards (l : Launch) (D : va_G) (cI cJ cB cP cM cZ : ClassId) (h0 : Nat) (h_yards : Nat) (Fh : Nat → Value) (f_yards : Nat → Int32) (p0 : Int64) (sz : Nat) (e_yards : Fh 0 = .ref h_yards) : CV l yX3_tellYards cX3_tellYards 5 none { frames := 0, cells := 0, slots := 0, locals := 0 } (GG D cI cJ cB cP cM cZ) D [(h0, .inr (3, vL 10 Fh)), (h_yards, .inl (cI, 4, .inl f_yards))] sz [.ref h0, .long p0] (fun (u : va_W) => ∃ (g_yards : Nat → Int32), u = [(h0, .inr (3, vL 10 Fh)), (h_yards, .inl (cI, 4, .inl g_yards))]) := by
  refine CV_mk (by decide) (Nat.le_of_ble_eq_true rfl) ?_
  intro p e s m below meth c A ls E hAe hG hsz hP hD hA hS hl
  obtain ⟨hx, hb, hr, hw, hown, hlocks, hml, hnm⟩ := E
  have hK := hG.1
  have hl : lv_has ls 5 [(0, .ref h0), (1, .long p0)] := hl
  refine lv_iconst (v := 0) hx hb dX3_tellYards_0 (by decide) ?_
  refine lv_istore_n (lv' := [(3, .int 0), (0, .ref h0), (1, .long p0)]) hx hb dX3_tellYards_1 rfl hl (by decide) rfl (fun ls hl => ?_)
  refine mloop (α := (Int32) × (Nat → Int32)) (nL := 5) (D := D) (A := A) (H0 := s.heap) (fun a => (4 - a.1.toInt).toNat) (fun a => IR 0 4 a.1) (fun a => [(h0, .inr (3, vL 10 Fh)), (h_yards, .inl (cI, 4, .inl a.2))]) (fun a => [(3, .int a.1), (0, .ref h0), (1, .long p0)]) (fun H locs ls => W p l e ({ frames := 0, cells := 0, slots := 0, locals := 0 } : Room) s m [.ref h0, .long p0].toArray below meth c H locs 0 0 (MQ below (va_Qv (fun (u : va_W) => ∃ (g_yards : Nat → Int32), u = [(h0, .inr (3, vL 10 Fh)), (h_yards, .inl (cI, 4, .inl g_yards))]) (PO D A) A) [.ref h0, .long p0].toArray s 0 0 A) (F0 m 2 ls [])) ?_ (0, f_yards) ⟨by decide, by decide⟩ _ _ _ hP hD hS hl
  rintro ⟨u1, w2⟩ i3 ih H locs ls hP hD hS hl
  have i3 : 0 ≤ u1.toInt ∧ u1.toInt ≤ 4 := i3
  have hP : va_P D vwCl [(h0, .inr (3, vL 10 Fh)), (h_yards, .inl (cI, 4, .inl w2))] H := hP
  have hD : va_D A [(h0, .inr (3, vL 10 Fh)), (h_yards, .inl (cI, 4, .inl w2))] := hD
  have hl : lv_has ls 5 [(3, .int u1), (0, .ref h0), (1, .long p0)] := hl
  refine lv_iload_n hx hb dX3_tellYards_2 rfl (lv_at hl 0 rfl) ?_
  refine lv_iconst (v := 4) hx hb dX3_tellYards_3 (by decide) ?_
  refine lv_icmp_ge (tgt := 42) hx hb dX3_tellYards_4 (by decide) (fun c4 => ?_) (fun c4 => ?_)
  · have dc4 : 4 ≤ u1.toInt := le_i (a := 4) (b := u1.toInt) rfl rfl c4
    have k5 : 4 ≤ u1.toInt ∧ u1.toInt ≤ 4 := ⟨Int.le_trans (Int.le_refl _) dc4, i3.2⟩
    exact ret_v hx hb hr hlocks hS hP hD dX3_tellYards_42 (Nat.le_of_ble_eq_true rfl) (Nat.le_of_ble_eq_true rfl) ⟨w2, rfl⟩
  · have dc4 : u1.toInt < 4 := nle_i (a := 4) (b := u1.toInt) rfl rfl c4
    have k6 : 0 ≤ u1.toInt ∧ u1.toInt ≤ 3 := ⟨i3.1, up_lt dc4 (Int.le_refl _) (by decide)⟩
    refine lv_lload_n hx hb dX3_tellYards_7 rfl (lv_at hl 2 rfl) ?_
    refine lv_bipush (v := 8) hx hb dX3_tellYards_8 (by decide) ?_
    refine lv_iload_n hx hb dX3_tellYards_10 rfl (lv_at hl 0 rfl) ?_
    refine lv_imul hx hb dX3_tellYards_11 ?_
    refine lv_topi (fun v7 ev7 => ?_)
    have bv7 : v7.toInt = 8 * u1.toInt := by rw [ev7]; exact kmul_k rfl rfl (by decide) k6 (by decide)
    have k8 : 0 ≤ v7.toInt ∧ v7.toInt ≤ 24 := kmul_r bv7 (by decide) k6 (by decide)
    obtain ⟨v9, ev9⟩ : ∃ z : Int64, (p0 : Int64) >>> ((v7 : Int32).toInt64 &&& 63) = z := ⟨_, rfl⟩
    refine lv_lshr (v := v9) hx hb dX3_tellYards_12 ev9 ?_
    obtain ⟨v10, ev10⟩ : ∃ z : Int32, (v9 : Int64).toInt32 = z := ⟨_, rfl⟩
    refine lv_l2i (v := v10) hx hb dX3_tellYards_13 ev10 ?_
    refine lv_sipush (v := 255) hx hb dX3_tellYards_14 (by decide) ?_
    refine lv_iand hx hb dX3_tellYards_17 ?_
    refine lv_topi (fun v11 ev11 => ?_)
    have k12 : 0 ≤ v11.toInt ∧ v11.toInt ≤ 255 := by rw [ev11]; exact and_i v10 8 (by decide)
    refine lv_istore (lv' := [(4, .int v11), (3, .int u1), (0, .ref h0), (1, .long p0)]) hx hb dX3_tellYards_18 hl (by decide) rfl (fun ls hl => ?_)
    refine lv_aload_n hx hb dX3_tellYards_20 rfl (lv_at hl 2 rfl) ?_
    refine get_f (D := D) (ci := 3) (v := .ref h_yards) (C := RX3) (T := TX3) (N := 10) hx hb hw inAX3 hown hK hP 0 rfl rfl 0 (by decide) (hw _ q_908) (fun _ h9 => h9) e_yards dX3_tellYards_21 ?_
    refine lv_iload hx hb dX3_tellYards_24 (lv_at hl 0 rfl) ?_
    refine lv_iconst (v := 4) hx hb dX3_tellYards_26 (by decide) ?_
    refine lv_irem hx hb dX3_tellYards_27 (by decide) ?_
    refine lv_topi (fun v13 ev13 => ?_)
    have bv13 : v13.toInt = v11.toInt % 4 := by rw [ev13]; exact rem_i rfl rfl (Int.le_trans (by decide) k12.1) (by decide)
    have k14 : 0 ≤ v13.toInt ∧ v13.toInt ≤ 3 := rem_r bv13 (by decide)
    refine lv_bipush (v := 39) hx hb dX3_tellYards_28 (by decide) ?_
    refine lv_iload hx hb dX3_tellYards_30 (lv_at hl 0 rfl) ?_
    refine lv_iconst (v := 4) hx hb dX3_tellYards_32 (by decide) ?_
    refine lv_idiv hx hb dX3_tellYards_33 (by decide) ?_
    refine lv_topi (fun v15 ev15 => ?_)
    have bv15 : v15.toInt = v11.toInt / 4 := by rw [ev15]; exact div_i rfl rfl (Int.le_trans (by decide) k12.1) (by decide)
    have k16 : 0 ≤ v15.toInt ∧ v15.toInt ≤ 63 := div_r bv15 k12 (by decide)
    refine lv_isub hx hb dX3_tellYards_34 ?_
    refine lv_topi (fun v17 ev17 => ?_)
    have bv17 : v17.toInt = 39 - v15.toInt := by rw [ev17]; exact sub_k rfl rfl ⟨Int.le_refl _, Int.le_refl _⟩ k16 (by decide)
    have k18 : (-24) ≤ v17.toInt ∧ v17.toInt ≤ 39 := sub_r bv17 ⟨Int.le_refl _, Int.le_refl _⟩ k16 (by decide)
    obtain ⟨g19, eg19⟩ : ∃ z : Nat → Int32, upd w2 v13.toNatClampNeg v17 = z := ⟨_, rfl⟩
    refine iast_g hx hb hK hP hD hS 1 0 rfl rfl (ix_k k14 (by decide) (by decide)) eg19 dX3_tellYards_35 (fun H locs hP hD hS => ?_)
    have hP : va_P D vwCl [(h0, .inr (3, vL 10 Fh)), (h_yards, .inl (cI, 4, .inl g19))] H := hP
    have hD : va_D A [(h0, .inr (3, vL 10 Fh)), (h_yards, .inl (cI, 4, .inl g19))] := hD
    obtain ⟨v20, ev20⟩ : ∃ z : Int32, z = u1 + 1 := ⟨_, rfl⟩
    have bv20 : v20.toInt = u1.toInt + 1 := by rw [ev20]; exact add_k rfl rfl k6 ⟨Int.le_refl _, Int.le_refl _⟩ (by decide)
    have k21 : 1 ≤ v20.toInt ∧ v20.toInt ≤ 4 := add_r bv20 k6 ⟨Int.le_refl _, Int.le_refl _⟩ (by decide)
    refine lv_iinc (v := v20) (lv' := [(3, .int v20), (4, .int v11), (0, .ref h0), (1, .long p0)]) hx hb dX3_tellYards_36 hl (k := 1) rfl (by rw [ev20]; rfl) (by decide) rfl (fun ls hl => ?_)
    refine lv_goto (tgt := 2) hx hb dX3_tellYards_39 (by decide) ?_
    exact ih (v20, g19) (ir_wk k21 (by decide) (by decide)) (by show (4 - v20.toInt).toNat < (4 - u1.toInt).toNat; omega) _ _ _ hP hD hS (lv_sub hl [0, 2, 3] rfl)
set_option maxHeartbeats 4000000 in
set_option maxRecDepth 100000 in
theorem m_X3_leastTime (l : Launch) (D : va_G) (cI cJ cB cP cM cZ : ClassId) (h0 : Nat) (h_yards : Nat) (h_push : Nat) (h_reach : Nat) (h_drag : Nat) (h_ways : Nat) (h_nextWays : Nat) (h_states : Nat) (h_nextStates : Nat) (p0 : Nat) (h_p0_settings : Nat) (h_p0_push : Nat) (h_p0_feet : Nat) (h_p0_weight : Nat) (h_p0_length : Nat) (h_p0_drop : Nat) (h_p0_ideal : Nat) (h_p0_over : Nat) (h_p0_bestAt : Nat) (h_p0_bad : Nat) (p1 : Nat) (h_p1_crew : Nat) (h_p1_high : Nat) (p2 : Nat) (h_p2_paceBehind : Nat) (Fh : Nat → Value) (x_stateCount : Int32) (x_nextCount : Int32) (f_yards : Nat → Int32) (f_push : Nat → Int32) (f_reach : Nat → Int32) (f_drag : Nat → Int32) (f_ways : Nat → Int64) (f_nextWays : Nat → Int64) (f_states : Nat → Int32) (f_nextStates : Nat → Int32) (F_p0_ : Nat → Value) (x_p0_bends : Int32) (x_p0_runners : Int32) (f_p0_settings : Nat → Int32) (f_p0_push : Nat → Int32) (f_p0_feet : Nat → Int32) (f_p0_weight : Nat → Int32) (f_p0_length : Nat → Int32) (f_p0_drop : Nat → Int32) (f_p0_ideal : Nat → Int32) (f_p0_over : Nat → Int32) (f_p0_bestAt : Nat → Int32) (f_p0_bad : Nat → Int32) (F_p1_ : Nat → Value) (x_p1_lead : Int32) (x_p1_runner : Int32) (x_p1_number : Int32) (f_p1_crew : Nat → Int32) (f_p1_high : Nat → Int32) (F_p2_ : Nat → Value) (x_p2_lastPace : Int32) (x_p2_gone : Int32) (x_p2_overAt : Int32) (x_p2_touchedBend : Int32) (x_p2_touchedBy : Int32) (f_p2_paceBehind : Nat → Int32) (sz : Nat) (e_yards : Fh 0 = .ref h_yards) (e_push : Fh 1 = .ref h_push) (e_reach : Fh 2 = .ref h_reach) (e_drag : Fh 3 = .ref h_drag) (e_ways : Fh 4 = .ref h_ways) (e_nextWays : Fh 5 = .ref h_nextWays) (e_states : Fh 6 = .ref h_states) (e_nextStates : Fh 7 = .ref h_nextStates) (e_stateCount : Fh 8 = .int x_stateCount) (i_x_stateCount : IR 0 7712 x_stateCount) (e_nextCount : Fh 9 = .int x_nextCount) (i_x_nextCount : IR 0 7712 x_nextCount) (s_states_0 : SG 0 7711 0 7711 f_states) (s_nextStates_0 : SG 0 7711 0 7711 f_nextStates) (e_p0_settings : F_p0_ 1 = .ref h_p0_settings) (e_p0_push : F_p0_ 3 = .ref h_p0_push) (e_p0_feet : F_p0_ 4 = .ref h_p0_feet) (e_p0_weight : F_p0_ 5 = .ref h_p0_weight) (e_p0_length : F_p0_ 6 = .ref h_p0_length) (e_p0_drop : F_p0_ 7 = .ref h_p0_drop) (e_p0_ideal : F_p0_ 8 = .ref h_p0_ideal) (e_p0_over : F_p0_ 9 = .ref h_p0_over) (e_p0_bestAt : F_p0_ 11 = .ref h_p0_bestAt) (e_p0_bad : F_p0_ 12 = .ref h_p0_bad) (e_p0_bends : F_p0_ 14 = .int x_p0_bends) (i_x_p0_bends : IR 0 12 x_p0_bends) (e_p0_runners : F_p0_ 15 = .int x_p0_runners) (i_x_p0_runners : IR 0 6 x_p0_runners) (e_p1_crew : F_p1_ 0 = .ref h_p1_crew) (e_p1_high : F_p1_ 2 = .ref h_p1_high) (e_p1_lead : F_p1_ 4 = .int x_p1_lead) (e_p1_runner : F_p1_ 5 = .int x_p1_runner) (e_p1_number : F_p1_ 6 = .int x_p1_number) (s_p1_crew_0 : SG 0 3 0 11 f_p1_crew) (e_p2_paceBehind : F_p2_ 2 = .ref h_p2_paceBehind) (e_p2_lastPace : F_p2_ 9 = .int x_p2_lastPace) (e_p2_gone : F_p2_ 10 = .int x_p2_gone) (e_p2_overAt : F_p2_ 11 = .int x_p2_overAt) (e_p2_touchedBend : F_p2_ 16 = .int x_p2_touchedBend) (e_p2_touchedBy : F_p2_ 17 = .int x_p2_touchedBy) : CI l yX3_leastTime cX3_leastTime 8 (some .int) { frames := 5, cells := 0, slots := 0, locals := 143 } (GG D cI cJ cB cP cM cZ) D [(h0, .inr (3, vL 10 Fh)), (h_yards, .inl (cI, 4, .inl f_yards)), (h_push, .inl (cI, 4, .inl f_push)), (h_reach, .inl (cI, 4, .inl f_reach)), (h_drag, .inl (cI, 16, .inl f_drag)), (h_ways, .inl (cJ, 7712, .inr (.inl f_ways))), (h_nextWays, .inl (cJ, 7712, .inr (.inl f_nextWays))), (h_states, .inl (cI, 7712, .inl f_states)), (h_nextStates, .inl (cI, 7712, .inl f_nextStates)), (p0, .inr (1, vL 18 F_p0_)), (h_p0_settings, .inl (cI, 5, .inl f_p0_settings)), (h_p0_push, .inl (cI, 12, .inl f_p0_push)), (h_p0_feet, .inl (cI, 12, .inl f_p0_feet)), (h_p0_weight, .inl (cI, 12, .inl f_p0_weight)), (h_p0_length, .inl (cI, 12, .inl f_p0_length)), (h_p0_drop, .inl (cI, 12, .inl f_p0_drop)), (h_p0_ideal, .inl (cI, 12, .inl f_p0_ideal)), (h_p0_over, .inl (cI, 12, .inl f_p0_over)), (h_p0_bestAt, .inl (cI, 6, .inl f_p0_bestAt)), (h_p0_bad, .inl (cI, 6, .inl f_p0_bad)), (p1, .inr (5, vL 11 F_p1_)), (h_p1_crew, .inl (cI, 4, .inl f_p1_crew)), (h_p1_high, .inl (cI, 12, .inl f_p1_high)), (p2, .inr (7, vL 18 F_p2_)), (h_p2_paceBehind, .inl (cI, 12, .inl f_p2_paceBehind))] sz [.ref h0, .ref p0, .ref p1, .ref p2] (fun (r : Int32) (u : va_W) => ∃ (Gh : Nat → Value) (y_ways : Nat) (y_nextWays : Nat) (y_states : Nat) (y_nextStates : Nat) (y_stateCount : Int32) (y_nextCount : Int32) (G_p2_ : Nat → Value) (y_p2_lastPace : Int32) (y_p2_gone : Int32) (y_p2_overAt : Int32) (g_yards : Nat → Int32) (g_push : Nat → Int32) (g_reach : Nat → Int32) (g_drag : Nat → Int32) (g_ways : Nat → Int64) (g_nextWays : Nat → Int64) (g_states : Nat → Int32) (g_nextStates : Nat → Int32) (g_p2_paceBehind : Nat → Int32), SAME [4, 5, 6, 7, 8, 9] Fh Gh ∧ Gh 4 = .ref y_ways ∧ Gh 5 = .ref y_nextWays ∧ Gh 6 = .ref y_states ∧ Gh 7 = .ref y_nextStates ∧ Gh 8 = .int y_stateCount ∧ IR 0 7712 y_stateCount ∧ Gh 9 = .int y_nextCount ∧ IR 0 7712 y_nextCount ∧ SAME [9, 10, 11] F_p2_ G_p2_ ∧ G_p2_ 9 = .int y_p2_lastPace ∧ G_p2_ 10 = .int y_p2_gone ∧ G_p2_ 11 = .int y_p2_overAt ∧ SG 0 7711 0 7711 g_states ∧ SG 0 7711 0 7711 g_nextStates ∧ u = [(h0, .inr (3, vL 10 Gh)), (h_yards, .inl (cI, 4, .inl g_yards)), (h_push, .inl (cI, 4, .inl g_push)), (h_reach, .inl (cI, 4, .inl g_reach)), (h_drag, .inl (cI, 16, .inl g_drag)), (y_ways, .inl (cJ, 7712, .inr (.inl g_ways))), (y_nextWays, .inl (cJ, 7712, .inr (.inl g_nextWays))), (y_states, .inl (cI, 7712, .inl g_states)), (y_nextStates, .inl (cI, 7712, .inl g_nextStates)), (p0, .inr (1, vL 18 F_p0_)), (h_p0_settings, .inl (cI, 5, .inl f_p0_settings)), (h_p0_push, .inl (cI, 12, .inl f_p0_push)), (h_p0_feet, .inl (cI, 12, .inl f_p0_feet)), (h_p0_weight, .inl (cI, 12, .inl f_p0_weight)), (h_p0_length, .inl (cI, 12, .inl f_p0_length)), (h_p0_drop, .inl (cI, 12, .inl f_p0_drop)), (h_p0_ideal, .inl (cI, 12, .inl f_p0_ideal)), (h_p0_over, .inl (cI, 12, .inl f_p0_over)), (h_p0_bestAt, .inl (cI, 6, .inl f_p0_bestAt)), (h_p0_bad, .inl (cI, 6, .inl f_p0_bad)), (p1, .inr (5, vL 11 F_p1_)), (h_p1_crew, .inl (cI, 4, .inl f_p1_crew)), (h_p1_high, .inl (cI, 12, .inl f_p1_high)), (p2, .inr (7, vL 18 G_p2_)), (h_p2_paceBehind, .inl (cI, 12, .inl g_p2_paceBehind))]) := by
  refine CI_mk (by decide) (Nat.le_of_ble_eq_true rfl) ?_
  intro p e s m below meth c A ls E hAe hG hsz hP hD hA hS hl
  obtain ⟨hx, hb, hr, hw, hown, hlocks, hml, hnm⟩ := E
  have hK := hG.1
  have i_x_stateCount : 0 ≤ x_stateCount.toInt ∧ x_stateCount.toInt ≤ 7712 := i_x_stateCount
  have i_x_nextCount : 0 ≤ x_nextCount.toInt ∧ x_nextCount.toInt ≤ 7712 := i_x_nextCount
  have i_x_p0_bends : 0 ≤ x_p0_bends.toInt ∧ x_p0_bends.toInt ≤ 12 := i_x_p0_bends
  have i_x_p0_runners : 0 ≤ x_p0_runners.toInt ∧ x_p0_runners.toInt ≤ 6 := i_x_p0_runners
  have hl : lv_has ls 8 [(0, .ref h0), (1, .ref p0), (2, .ref p1), (3, .ref p2)] := hl
  refine lv_aload_n hx hb dX3_leastTime_0 rfl (lv_at hl 1 rfl) ?_
  refine get_f (D := D) (ci := 1) (v := .ref h_p0_settings) (C := RX1) (T := TX1) (N := 18) hx hb hw inAX1 hown hK hP 9 rfl rfl 1 (by decide) (hw _ q_316) (fun _ h9 => h9) e_p0_settings dX3_leastTime_1 ?_
  refine lv_iconst (v := 1) hx hb dX3_leastTime_4 (by decide) ?_
  refine iald_n hx hb hK hP 10 0 rfl rfl 1 rfl (Nat.le_of_ble_eq_true rfl) (Nat.le_of_ble_eq_true rfl) rfl dX3_leastTime_5 ?_
  refine lv_topi (fun v1 ev1 => ?_)
  refine lv_aload_n hx hb dX3_leastTime_6 rfl (lv_at hl 2 rfl) ?_
  refine get_f (D := D) (ci := 5) (v := .int x_p1_lead) (C := RX5) (T := TX5) (N := 11) hx hb hw inAX5 hown hK hP 20 rfl rfl 4 (by decide) (hw _ q_161) (fun _ h9 => h9) e_p1_lead dX3_leastTime_7 ?_
  refine lv_iadd hx hb dX3_leastTime_10 ?_
  refine lv_topi (fun v2 ev2 => ?_)
  refine lv_aload_n hx hb dX3_leastTime_11 rfl (lv_at hl 0 rfl) ?_
  refine lv_aload_n hx hb dX3_leastTime_12 rfl (lv_at hl 1 rfl) ?_
  refine lv_aload_n hx hb dX3_leastTime_13 rfl (lv_at hl 2 rfl) ?_
  refine call_Vi (wr := [(h_yards, .inl (cI, 4, .inl f_yards)), (h_ways, .inl (cJ, 7712, .inr (.inl f_ways))), (h_nextWays, .inl (cJ, 7712, .inr (.inl f_nextWays))), (h_states, .inl (cI, 7712, .inl f_states)), (h_nextStates, .inl (cI, 7712, .inl f_nextStates)), (h_p0_settings, .inl (cI, 5, .inl f_p0_settings)), (h_p0_length, .inl (cI, 12, .inl f_p0_length)), (h_p0_drop, .inl (cI, 12, .inl f_p0_drop)), (h_p0_ideal, .inl (cI, 12, .inl f_p0_ideal)), (h_p0_over, .inl (cI, 12, .inl f_p0_over)), (h_p0_bestAt, .inl (cI, 6, .inl f_p0_bestAt)), (h_p0_bad, .inl (cI, 6, .inl f_p0_bad)), (h_p1_high, .inl (cI, 12, .inl f_p1_high)), (p2, .inr (7, vL 18 F_p2_)), (h_p2_paceBehind, .inl (cI, 12, .inl f_p2_paceBehind))]) (As := [.ref p0, .ref p1]) (rest := [.int v2]) hx hb hml hown hw (m_X3_prepare l D cI cJ cB cP cM cZ h0 h_push h_reach h_drag p0 h_p0_push h_p0_feet h_p0_weight p1 h_p1_crew Fh f_push f_reach f_drag F_p0_ f_p0_push f_p0_feet f_p0_weight F_p1_ f_p1_crew _ e_push e_reach e_drag e_p0_push e_p0_feet e_p0_weight e_p1_crew s_p1_crew_0) wV_X3_62_X3_prepare dX3_leastTime_14 hK hP hD hS hA [0, 2, 3, 4, 9, 11, 12, 13, 20, 21] [1, 5, 6, 7, 8, 10, 14, 15, 16, 17, 18, 19, 22, 23, 24] rfl rfl (by decide) (by decide) (by decide) 0 3 rfl rfl GG.fb hG.at hl.1 rfl (Nat.le_of_ble_eq_true rfl) ⟨(Nat.le_of_ble_eq_true rfl), (Nat.le_of_ble_eq_true rfl)⟩ ⟨(Nat.le_of_ble_eq_true rfl), (Nat.le_of_ble_eq_true rfl)⟩ (fun r3 u H locs hp hP hD hS => ?_)
  obtain ⟨g4, g5, g6, rfl⟩ := hp
  have hP : va_P D vwCl [(h_yards, .inl (cI, 4, .inl f_yards)), (h_ways, .inl (cJ, 7712, .inr (.inl f_ways))), (h_nextWays, .inl (cJ, 7712, .inr (.inl f_nextWays))), (h_states, .inl (cI, 7712, .inl f_states)), (h_nextStates, .inl (cI, 7712, .inl f_nextStates)), (h_p0_settings, .inl (cI, 5, .inl f_p0_settings)), (h_p0_length, .inl (cI, 12, .inl f_p0_length)), (h_p0_drop, .inl (cI, 12, .inl f_p0_drop)), (h_p0_ideal, .inl (cI, 12, .inl f_p0_ideal)), (h_p0_over, .inl (cI, 12, .inl f_p0_over)), (h_p0_bestAt, .inl (cI, 6, .inl f_p0_bestAt)), (h_p0_bad, .inl (cI, 6, .inl f_p0_bad)), (h_p1_high, .inl (cI, 12, .inl f_p1_high)), (p2, .inr (7, vL 18 F_p2_)), (h_p2_paceBehind, .inl (cI, 12, .inl f_p2_paceBehind)), (h0, .inr (3, vL 10 Fh)), (h_push, .inl (cI, 4, .inl g4)), (h_reach, .inl (cI, 4, .inl g5)), (h_drag, .inl (cI, 16, .inl g6)), (p0, .inr (1, vL 18 F_p0_)), (h_p0_push, .inl (cI, 12, .inl f_p0_push)), (h_p0_feet, .inl (cI, 12, .inl f_p0_feet)), (h_p0_weight, .inl (cI, 12, .inl f_p0_weight)), (p1, .inr (5, vL 11 F_p1_)), (h_p1_crew, .inl (cI, 4, .inl f_p1_crew))] H := hP
  have hD : va_D A [(h_yards, .inl (cI, 4, .inl f_yards)), (h_ways, .inl (cJ, 7712, .inr (.inl f_ways))), (h_nextWays, .inl (cJ, 7712, .inr (.inl f_nextWays))), (h_states, .inl (cI, 7712, .inl f_states)), (h_nextStates, .inl (cI, 7712, .inl f_nextStates)), (h_p0_settings, .inl (cI, 5, .inl f_p0_settings)), (h_p0_length, .inl (cI, 12, .inl f_p0_length)), (h_p0_drop, .inl (cI, 12, .inl f_p0_drop)), (h_p0_ideal, .inl (cI, 12, .inl f_p0_ideal)), (h_p0_over, .inl (cI, 12, .inl f_p0_over)), (h_p0_bestAt, .inl (cI, 6, .inl f_p0_bestAt)), (h_p0_bad, .inl (cI, 6, .inl f_p0_bad)), (h_p1_high, .inl (cI, 12, .inl f_p1_high)), (p2, .inr (7, vL 18 F_p2_)), (h_p2_paceBehind, .inl (cI, 12, .inl f_p2_paceBehind)), (h0, .inr (3, vL 10 Fh)), (h_push, .inl (cI, 4, .inl g4)), (h_reach, .inl (cI, 4, .inl g5)), (h_drag, .inl (cI, 16, .inl g6)), (p0, .inr (1, vL 18 F_p0_)), (h_p0_push, .inl (cI, 12, .inl f_p0_push)), (h_p0_feet, .inl (cI, 12, .inl f_p0_feet)), (h_p0_weight, .inl (cI, 12, .inl f_p0_weight)), (p1, .inr (5, vL 11 F_p1_)), (h_p1_crew, .inl (cI, 4, .inl f_p1_crew))] := hD
  refine W.widen (k := 0) (n := 0) (Nat.le_of_ble_eq_true rfl) (Nat.le_of_ble_eq_true rfl) ?_
  refine lv_iadd hx hb dX3_leastTime_17 ?_
  refine lv_topi (fun v7 ev7 => ?_)
  refine lv_istore (lv' := [(4, .int v7), (0, .ref h0), (1, .ref p0), (2, .ref p1), (3, .ref p2)]) hx hb dX3_leastTime_18 hl (by decide) rfl (fun ls hl => ?_)
  refine lv_iload hx hb dX3_leastTime_20 (lv_at hl 0 rfl) ?_
  refine lv_aload_n hx hb dX3_leastTime_22 rfl (lv_at hl 2 rfl) ?_
  refine get_f (D := D) (ci := 1) (v := .ref h_p0_settings) (C := RX1) (T := TX1) (N := 18) hx hb hw inAX1 hown hK hP 19 rfl rfl 1 (by decide) (hw _ q_316) (fun _ h9 => h9) e_p0_settings dX3_leastTime_23 ?_
  refine lv_iconst (v := 2) hx hb dX3_leastTime_26 (by decide) ?_
  refine iald_n hx hb hK hP 5 0 rfl rfl 2 rfl (Nat.le_of_ble_eq_true rfl) (Nat.le_of_ble_eq_true rfl) rfl dX3_leastTime_27 ?_
  refine lv_topi (fun v8 ev8 => ?_)
  refine lv_icmp_le (tgt := 33) hx hb dX3_leastTime_28 (by decide) (fun c9 => ?_) (fun c9 => ?_)
  · have dc9 : v7.toInt ≤ v8.toInt := le_i (a := v7.toInt) (b := v8.toInt) rfl rfl c9
    refine lv_aload_n hx hb dX3_leastTime_33 rfl (lv_at hl 2 rfl) ?_
    refine get_f (D := D) (ci := 1) (v := .ref h_p0_settings) (C := RX1) (T := TX1) (N := 18) hx hb hw inAX1 hown hK hP 19 rfl rfl 1 (by decide) (hw _ q_316) (fun _ h9 => h9) e_p0_settings dX3_leastTime_34 ?_
    refine lv_iconst (v := 0) hx hb dX3_leastTime_37 (by decide) ?_
    refine iald_n hx hb hK hP 5 0 rfl rfl 0 rfl (Nat.le_of_ble_eq_true rfl) (Nat.le_of_ble_eq_true rfl) rfl dX3_leastTime_38 ?_
    refine lv_topi (fun v10 ev10 => ?_)
    refine lv_istore (lv' := [(5, .int v10), (4, .int v7), (0, .ref h0), (1, .ref p0), (2, .ref p1), (3, .ref p2)]) hx hb dX3_leastTime_39 hl (by decide) rfl (fun ls hl => ?_)
    refine lv_aload_n hx hb dX3_leastTime_41 rfl (lv_at hl 2 rfl) ?_
    refine lv_iconst (v := 0) hx hb dX3_leastTime_42 (by decide) ?_
    refine lv_iconst (v := 0) hx hb dX3_leastTime_43 (by decide) ?_
    refine lv_bipush (v := 30) hx hb dX3_leastTime_44 (by decide) ?_
    refine lv_lconst (v := 0) hx hb dX3_leastTime_46 (by decide) ?_
    refine call_Vv (wr := [(h_yards, .inl (cI, 4, .inl f_yards)), (h_ways, .inl (cJ, 7712, .inr (.inl f_ways))), (h_states, .inl (cI, 7712, .inl f_states)), (h_p0_settings, .inl (cI, 5, .inl f_p0_settings)), (h_p0_length, .inl (cI, 12, .inl f_p0_length)), (h_p0_drop, .inl (cI, 12, .inl f_p0_drop)), (h_p0_ideal, .inl (cI, 12, .inl f_p0_ideal)), (h_p0_over, .inl (cI, 12, .inl f_p0_over)), (h_p0_bestAt, .inl (cI, 6, .inl f_p0_bestAt)), (h_p0_bad, .inl (cI, 6, .inl f_p0_bad)), (h_p1_high, .inl (cI, 12, .inl f_p1_high)), (p2, .inr (7, vL 18 F_p2_)), (h_p2_paceBehind, .inl (cI, 12, .inl f_p2_paceBehind)), (h_push, .inl (cI, 4, .inl g4)), (h_reach, .inl (cI, 4, .inl g5)), (h_drag, .inl (cI, 16, .inl g6)), (p0, .inr (1, vL 18 F_p0_)), (h_p0_push, .inl (cI, 12, .inl f_p0_push)), (h_p0_feet, .inl (cI, 12, .inl f_p0_feet)), (h_p0_weight, .inl (cI, 12, .inl f_p0_weight)), (p1, .inr (5, vL 11 F_p1_)), (h_p1_crew, .inl (cI, 4, .inl f_p1_crew))]) (As := [.int 0, .int 0, .int 30, .long 0]) (rest := []) hx hb hml hown hw (m_X3_reachState l D cI cJ cB cP cM cZ h0 h_nextWays h_nextStates Fh x_nextCount f_nextWays f_nextStates 0 0 30 0 _ e_nextWays e_nextStates e_nextCount i_x_nextCount s_nextStates_0 ⟨by decide, by decide⟩ ⟨by decide, by decide⟩ ⟨by decide, by decide⟩) wV_X3_66_X3_reachState dX3_leastTime_47 hK hP hD hS hA [15, 2, 4] [0, 1, 3, 5, 6, 7, 8, 9, 10, 11, 12, 13, 14, 16, 17, 18, 19, 20, 21, 22, 23, 24] rfl rfl (by decide) (by decide) (by decide) 0 3 rfl rfl GG.fb hG.at hl.1 rfl (Nat.le_of_ble_eq_true rfl) ⟨(Nat.le_of_ble_eq_true rfl), (Nat.le_of_ble_eq_true rfl)⟩ ⟨(Nat.le_of_ble_eq_true rfl), (Nat.le_of_ble_eq_true rfl)⟩ (fun u H locs hp hP hD hS => ?_)
    obtain ⟨F12, y13, g14, g15, t16, t17, t18, t19, rfl⟩ := hp
    have hP : va_P D vwCl [(h_yards, .inl (cI, 4, .inl f_yards)), (h_ways, .inl (cJ, 7712, .inr (.inl f_ways))), (h_states, .inl (cI, 7712, .inl f_states)), (h_p0_settings, .inl (cI, 5, .inl f_p0_settings)), (h_p0_length, .inl (cI, 12, .inl f_p0_length)), (h_p0_drop, .inl (cI, 12, .inl f_p0_drop)), (h_p0_ideal, .inl (cI, 12, .inl f_p0_ideal)), (h_p0_over, .inl (cI, 12, .inl f_p0_over)), (h_p0_bestAt, .inl (cI, 6, .inl f_p0_bestAt)), (h_p0_bad, .inl (cI, 6, .inl f_p0_bad)), (h_p1_high, .inl (cI, 12, .inl f_p1_high)), (p2, .inr (7, vL 18 F_p2_)), (h_p2_paceBehind, .inl (cI, 12, .inl f_p2_paceBehind)), (h_push, .inl (cI, 4, .inl g4)), (h_reach, .inl (cI, 4, .inl g5)), (h_drag, .inl (cI, 16, .inl g6)), (p0, .inr (1, vL 18 F_p0_)), (h_p0_push, .inl (cI, 12, .inl f_p0_push)), (h_p0_feet, .inl (cI, 12, .inl f_p0_feet)), (h_p0_weight, .inl (cI, 12, .inl f_p0_weight)), (p1, .inr (5, vL 11 F_p1_)), (h_p1_crew, .inl (cI, 4, .inl f_p1_crew)), (h0, .inr (3, vL 10 F12)), (h_nextWays, .inl (cJ, 7712, .inr (.inl g14))), (h_nextStates, .inl (cI, 7712, .inl g15))] H := hP
    have hD : va_D A [(h_yards, .inl (cI, 4, .inl f_yards)), (h_ways, .inl (cJ, 7712, .inr (.inl f_ways))), (h_states, .inl (cI, 7712, .inl f_states)), (h_p0_settings, .inl (cI, 5, .inl f_p0_settings)), (h_p0_length, .inl (cI, 12, .inl f_p0_length)), (h_p0_drop, .inl (cI, 12, .inl f_p0_drop)), (h_p0_ideal, .inl (cI, 12, .inl f_p0_ideal)), (h_p0_over, .inl (cI, 12, .inl f_p0_over)), (h_p0_bestAt, .inl (cI, 6, .inl f_p0_bestAt)), (h_p0_bad, .inl (cI, 6, .inl f_p0_bad)), (h_p1_high, .inl (cI, 12, .inl f_p1_high)), (p2, .inr (7, vL 18 F_p2_)), (h_p2_paceBehind, .inl (cI, 12, .inl f_p2_paceBehind)), (h_push, .inl (cI, 4, .inl g4)), (h_reach, .inl (cI, 4, .inl g5)), (h_drag, .inl (cI, 16, .inl g6)), (p0, .inr (1, vL 18 F_p0_)), (h_p0_push, .inl (cI, 12, .inl f_p0_push)), (h_p0_feet, .inl (cI, 12, .inl f_p0_feet)), (h_p0_weight, .inl (cI, 12, .inl f_p0_weight)), (p1, .inr (5, vL 11 F_p1_)), (h_p1_crew, .inl (cI, 4, .inl f_p1_crew)), (h0, .inr (3, vL 10 F12)), (h_nextWays, .inl (cJ, 7712, .inr (.inl g14))), (h_nextStates, .inl (cI, 7712, .inl g15))] := hD
    refine W.widen (k := 0) (n := 0) (Nat.le_of_ble_eq_true rfl) (Nat.le_of_ble_eq_true rfl) ?_
    refine lv_aload_n hx hb dX3_leastTime_50 rfl (lv_at hl 2 rfl) ?_
    have n20 : F12 4 = .ref h_ways := (SAME.at t16 (by decide) e_ways)
    have n21 : F12 5 = .ref h_nextWays := (SAME.at t16 (by decide) e_nextWays)
    have n22 : F12 6 = .ref h_states := (SAME.at t16 (by decide) e_states)
    have n23 : F12 7 = .ref h_nextStates := (SAME.at t16 (by decide) e_nextStates)
    have n24 : F12 8 = .int x_stateCount := (SAME.at t16 (by decide) e_stateCount)
    refine call_Vv (wr := [(h_yards, .inl (cI, 4, .inl f_yards)), (h_p0_settings, .inl (cI, 5, .inl f_p0_settings)), (h_p0_length, .inl (cI, 12, .inl f_p0_length)), (h_p0_drop, .inl (cI, 12, .inl f_p0_drop)), (h_p0_ideal, .inl (cI, 12, .inl f_p0_ideal)), (h_p0_over, .inl (cI, 12, .inl f_p0_over)), (h_p0_bestAt, .inl (cI, 6, .inl f_p0_bestAt)), (h_p0_bad, .inl (cI, 6, .inl f_p0_bad)), (h_p1_high, .inl (cI, 12, .inl f_p1_high)), (p2, .inr (7, vL 18 F_p2_)), (h_p2_paceBehind, .inl (cI, 12, .inl f_p2_paceBehind)), (h_push, .inl (cI, 4, .inl g4)), (h_reach, .inl (cI, 4, .inl g5)), (h_drag, .inl (cI, 16, .inl g6)), (p0, .inr (1, vL 18 F_p0_)), (h_p0_push, .inl (cI, 12, .inl f_p0_push)), (h_p0_feet, .inl (cI, 12, .inl f_p0_feet)), (h_p0_weight, .inl (cI, 12, .inl f_p0_weight)), (p1, .inr (5, vL 11 F_p1_)), (h_p1_crew, .inl (cI, 4, .inl f_p1_crew))]) (As := []) (rest := []) hx hb hml hown hw (m_X3_turnOverRows l D cI cJ cB cP cM cZ h0 h_ways h_nextWays h_states h_nextStates F12 x_stateCount y13 f_ways g14 f_states g15 _ n20 n21 n22 n23 n24 i_x_stateCount t17 t18 s_states_0 t19) wV_X3_70_X3_turnOverRows dX3_leastTime_51 hK hP hD hS hA [22, 1, 23, 2, 24] [0, 3, 4, 5, 6, 7, 8, 9, 10, 11, 12, 13, 14, 15, 16, 17, 18, 19, 20, 21] rfl rfl (by decide) (by decide) (by decide) 0 3 rfl rfl GG.fb hG.at hl.1 rfl (Nat.le_of_ble_eq_true rfl) ⟨(Nat.le_of_ble_eq_true rfl), (Nat.le_of_ble_eq_true rfl)⟩ ⟨(Nat.le_of_ble_eq_true rfl), (Nat.le_of_ble_eq_true rfl)⟩ (fun u H locs hp hP hD hS => ?_)
    obtain ⟨F26, g27, g28, g29, g30, t31, t32, t33, t34, t35, t36, t37, t38, t39, rfl⟩ := hp
    have hP : va_P D vwCl [(h_yards, .inl (cI, 4, .inl f_yards)), (h_p0_settings, .inl (cI, 5, .inl f_p0_settings)), (h_p0_length, .inl (cI, 12, .inl f_p0_length)), (h_p0_drop, .inl (cI, 12, .inl f_p0_drop)), (h_p0_ideal, .inl (cI, 12, .inl f_p0_ideal)), (h_p0_over, .inl (cI, 12, .inl f_p0_over)), (h_p0_bestAt, .inl (cI, 6, .inl f_p0_bestAt)), (h_p0_bad, .inl (cI, 6, .inl f_p0_bad)), (h_p1_high, .inl (cI, 12, .inl f_p1_high)), (p2, .inr (7, vL 18 F_p2_)), (h_p2_paceBehind, .inl (cI, 12, .inl f_p2_paceBehind)), (h_push, .inl (cI, 4, .inl g4)), (h_reach, .inl (cI, 4, .inl g5)), (h_drag, .inl (cI, 16, .inl g6)), (p0, .inr (1, vL 18 F_p0_)), (h_p0_push, .inl (cI, 12, .inl f_p0_push)), (h_p0_feet, .inl (cI, 12, .inl f_p0_feet)), (h_p0_weight, .inl (cI, 12, .inl f_p0_weight)), (p1, .inr (5, vL 11 F_p1_)), (h_p1_crew, .inl (cI, 4, .inl f_p1_crew)), (h0, .inr (3, vL 10 F26)), (h_nextWays, .inl (cJ, 7712, .inr (.inl g27))), (h_ways, .inl (cJ, 7712, .inr (.inl g28))), (h_nextStates, .inl (cI, 7712, .inl g29)), (h_states, .inl (cI, 7712, .inl g30))] H := hP
    have hD : va_D A [(h_yards, .inl (cI, 4, .inl f_yards)), (h_p0_settings, .inl (cI, 5, .inl f_p0_settings)), (h_p0_length, .inl (cI, 12, .inl f_p0_length)), (h_p0_drop, .inl (cI, 12, .inl f_p0_drop)), (h_p0_ideal, .inl (cI, 12, .inl f_p0_ideal)), (h_p0_over, .inl (cI, 12, .inl f_p0_over)), (h_p0_bestAt, .inl (cI, 6, .inl f_p0_bestAt)), (h_p0_bad, .inl (cI, 6, .inl f_p0_bad)), (h_p1_high, .inl (cI, 12, .inl f_p1_high)), (p2, .inr (7, vL 18 F_p2_)), (h_p2_paceBehind, .inl (cI, 12, .inl f_p2_paceBehind)), (h_push, .inl (cI, 4, .inl g4)), (h_reach, .inl (cI, 4, .inl g5)), (h_drag, .inl (cI, 16, .inl g6)), (p0, .inr (1, vL 18 F_p0_)), (h_p0_push, .inl (cI, 12, .inl f_p0_push)), (h_p0_feet, .inl (cI, 12, .inl f_p0_feet)), (h_p0_weight, .inl (cI, 12, .inl f_p0_weight)), (p1, .inr (5, vL 11 F_p1_)), (h_p1_crew, .inl (cI, 4, .inl f_p1_crew)), (h0, .inr (3, vL 10 F26)), (h_nextWays, .inl (cJ, 7712, .inr (.inl g27))), (h_ways, .inl (cJ, 7712, .inr (.inl g28))), (h_nextStates, .inl (cI, 7712, .inl g29)), (h_states, .inl (cI, 7712, .inl g30))] := hD
    refine W.widen (k := 0) (n := 0) (Nat.le_of_ble_eq_true rfl) (Nat.le_of_ble_eq_true rfl) ?_
    refine lv_iconst (v := 0) hx hb dX3_leastTime_54 (by decide) ?_
    refine lv_istore (lv' := [(6, .int 0), (5, .int v10), (4, .int v7), (0, .ref h0), (1, .ref p0), (2, .ref p1), (3, .ref p2)]) hx hb dX3_leastTime_55 hl (by decide) rfl (fun ls hl => ?_)
    refine mloop (α := (Int32) × (Nat → Value) × (Nat) × (Nat) × (Nat) × (Nat) × (Int32) × (Int32) × (Nat → Int64) × (Nat → Int64) × (Nat → Int32) × (Nat → Int32)) (nL := 8) (D := D) (A := A) (H0 := s.heap) (fun a => (40 - a.1.toInt).toNat) (fun a => IR 0 40 a.1 ∧ SAME [4, 5, 6, 7, 8, 9] F26 a.2.1 ∧ a.2.1 4 = .ref a.2.2.1 ∧ a.2.1 5 = .ref a.2.2.2.1 ∧ a.2.1 6 = .ref a.2.2.2.2.1 ∧ a.2.1 7 = .ref a.2.2.2.2.2.1 ∧ a.2.1 8 = .int a.2.2.2.2.2.2.1 ∧ a.2.1 9 = .int a.2.2.2.2.2.2.2.1 ∧ IR 0 7712 a.2.2.2.2.2.2.1 ∧ IR 0 7712 a.2.2.2.2.2.2.2.1 ∧ SG 0 7711 0 7711 a.2.2.2.2.2.2.2.2.2.2.1 ∧ SG 0 7711 0 7711 a.2.2.2.2.2.2.2.2.2.2.2) (fun a => [(h_yards, .inl (cI, 4, .inl f_yards)), (h_p0_settings, .inl (cI, 5, .inl f_p0_settings)), (h_p0_length, .inl (cI, 12, .inl f_p0_length)), (h_p0_drop, .inl (cI, 12, .inl f_p0_drop)), (h_p0_ideal, .inl (cI, 12, .inl f_p0_ideal)), (h_p0_over, .inl (cI, 12, .inl f_p0_over)), (h_p0_bestAt, .inl (cI, 6, .inl f_p0_bestAt)), (h_p0_bad, .inl (cI, 6, .inl f_p0_bad)), (h_p1_high, .inl (cI, 12, .inl f_p1_high)), (p2, .inr (7, vL 18 F_p2_)), (h_p2_paceBehind, .inl (cI, 12, .inl f_p2_paceBehind)), (h_push, .inl (cI, 4, .inl g4)), (h_reach, .inl (cI, 4, .inl g5)), (h_drag, .inl (cI, 16, .inl g6)), (p0, .inr (1, vL 18 F_p0_)), (h_p0_push, .inl (cI, 12, .inl f_p0_push)), (h_p0_feet, .inl (cI, 12, .inl f_p0_feet)), (h_p0_weight, .inl (cI, 12, .inl f_p0_weight)), (p1, .inr (5, vL 11 F_p1_)), (h_p1_crew, .inl (cI, 4, .inl f_p1_crew)), (h0, .inr (3, vL 10 a.2.1)), (a.2.2.1, .inl (cJ, 7712, .inr (.inl a.2.2.2.2.2.2.2.2.1))), (a.2.2.2.1, .inl (cJ, 7712, .inr (.inl a.2.2.2.2.2.2.2.2.2.1))), (a.2.2.2.2.1, .inl (cI, 7712, .inl a.2.2.2.2.2.2.2.2.2.2.1)), (a.2.2.2.2.2.1, .inl (cI, 7712, .inl a.2.2.2.2.2.2.2.2.2.2.2))]) (fun a => [(6, .int a.1), (5, .int v10), (4, .int v7), (0, .ref h0), (1, .ref p0), (2, .ref p1), (3, .ref p2)]) (fun H locs ls => W p l e ({ frames := 5, cells := 0, slots := 0, locals := 143 } : Room) s m [.ref h0, .ref p0, .ref p1, .ref p2].toArray below meth c H locs 0 0 (MQ below (va_Qi (fun (r : Int32) (u : va_W) => ∃ (Gh : Nat → Value) (y_ways : Nat) (y_nextWays : Nat) (y_states : Nat) (y_nextStates : Nat) (y_stateCount : Int32) (y_nextCount : Int32) (G_p2_ : Nat → Value) (y_p2_lastPace : Int32) (y_p2_gone : Int32) (y_p2_overAt : Int32) (g_yards : Nat → Int32) (g_push : Nat → Int32) (g_reach : Nat → Int32) (g_drag : Nat → Int32) (g_ways : Nat → Int64) (g_nextWays : Nat → Int64) (g_states : Nat → Int32) (g_nextStates : Nat → Int32) (g_p2_paceBehind : Nat → Int32), SAME [4, 5, 6, 7, 8, 9] Fh Gh ∧ Gh 4 = .ref y_ways ∧ Gh 5 = .ref y_nextWays ∧ Gh 6 = .ref y_states ∧ Gh 7 = .ref y_nextStates ∧ Gh 8 = .int y_stateCount ∧ IR 0 7712 y_stateCount ∧ Gh 9 = .int y_nextCount ∧ IR 0 7712 y_nextCount ∧ SAME [9, 10, 11] F_p2_ G_p2_ ∧ G_p2_ 9 = .int y_p2_lastPace ∧ G_p2_ 10 = .int y_p2_gone ∧ G_p2_ 11 = .int y_p2_overAt ∧ SG 0 7711 0 7711 g_states ∧ SG 0 7711 0 7711 g_nextStates ∧ u = [(h0, .inr (3, vL 10 Gh)), (h_yards, .inl (cI, 4, .inl g_yards)), (h_push, .inl (cI, 4, .inl g_push)), (h_reach, .inl (cI, 4, .inl g_reach)), (h_drag, .inl (cI, 16, .inl g_drag)), (y_ways, .inl (cJ, 7712, .inr (.inl g_ways))), (y_nextWays, .inl (cJ, 7712, .inr (.inl g_nextWays))), (y_states, .inl (cI, 7712, .inl g_states)), (y_nextStates, .inl (cI, 7712, .inl g_nextStates)), (p0, .inr (1, vL 18 F_p0_)), (h_p0_settings, .inl (cI, 5, .inl f_p0_settings)), (h_p0_push, .inl (cI, 12, .inl f_p0_push)), (h_p0_feet, .inl (cI, 12, .inl f_p0_feet)), (h_p0_weight, .inl (cI, 12, .inl f_p0_weight)), (h_p0_length, .inl (cI, 12, .inl f_p0_length)), (h_p0_drop, .inl (cI, 12, .inl f_p0_drop)), (h_p0_ideal, .inl (cI, 12, .inl f_p0_ideal)), (h_p0_over, .inl (cI, 12, .inl f_p0_over)), (h_p0_bestAt, .inl (cI, 6, .inl f_p0_bestAt)), (h_p0_bad, .inl (cI, 6, .inl f_p0_bad)), (p1, .inr (5, vL 11 F_p1_)), (h_p1_crew, .inl (cI, 4, .inl f_p1_crew)), (h_p1_high, .inl (cI, 12, .inl f_p1_high)), (p2, .inr (7, vL 18 G_p2_)), (h_p2_paceBehind, .inl (cI, 12, .inl g_p2_paceBehind))]) (PO D A) A) [.ref h0, .ref p0, .ref p1, .ref p2].toArray s 0 0 A) (F0 m 57 ls [])) ?_ (0, F26, h_nextWays, h_ways, h_nextStates, h_states, y13, 0, g27, g28, g29, g30) ⟨⟨by decide, by decide⟩, SAME.rf, t32, t33, t34, t35, t36, t37, t18, ⟨by decide, by decide⟩, t38, t39⟩ _ _ _ hP hD hS hl
    rintro ⟨u40, G41, u42, u43, u44, u45, u46, u47, w48, w49, w50, w51⟩ ⟨i52, i53, i54, i55, i56, i57, i58, i59, i60, i61, i62, i63⟩ ih H locs ls hP hD hS hl
    have i52 : 0 ≤ u40.toInt ∧ u40.toInt ≤ 40 := i52
    have i60 : 0 ≤ u46.toInt ∧ u46.toInt ≤ 7712 := i60
    have i61 : 0 ≤ u47.toInt ∧ u47.toInt ≤ 7712 := i61
    have hP : va_P D vwCl [(h_yards, .inl (cI, 4, .inl f_yards)), (h_p0_settings, .inl (cI, 5, .inl f_p0_settings)), (h_p0_length, .inl (cI, 12, .inl f_p0_length)), (h_p0_drop, .inl (cI, 12, .inl f_p0_drop)), (h_p0_ideal, .inl (cI, 12, .inl f_p0_ideal)), (h_p0_over, .inl (cI, 12, .inl f_p0_over)), (h_p0_bestAt, .inl (cI, 6, .inl f_p0_bestAt)), (h_p0_bad, .inl (cI, 6, .inl f_p0_bad)), (h_p1_high, .inl (cI, 12, .inl f_p1_high)), (p2, .inr (7, vL 18 F_p2_)), (h_p2_paceBehind, .inl (cI, 12, .inl f_p2_paceBehind)), (h_push, .inl (cI, 4, .inl g4)), (h_reach, .inl (cI, 4, .inl g5)), (h_drag, .inl (cI, 16, .inl g6)), (p0, .inr (1, vL 18 F_p0_)), (h_p0_push, .inl (cI, 12, .inl f_p0_push)), (h_p0_feet, .inl (cI, 12, .inl f_p0_feet)), (h_p0_weight, .inl (cI, 12, .inl f_p0_weight)), (p1, .inr (5, vL 11 F_p1_)), (h_p1_crew, .inl (cI, 4, .inl f_p1_crew)), (h0, .inr (3, vL 10 G41)), (u42, .inl (cJ, 7712, .inr (.inl w48))), (u43, .inl (cJ, 7712, .inr (.inl w49))), (u44, .inl (cI, 7712, .inl w50)), (u45, .inl (cI, 7712, .inl w51))] H := hP
    have hD : va_D A [(h_yards, .inl (cI, 4, .inl f_yards)), (h_p0_settings, .inl (cI, 5, .inl f_p0_settings)), (h_p0_length, .inl (cI, 12, .inl f_p0_length)), (h_p0_drop, .inl (cI, 12, .inl f_p0_drop)), (h_p0_ideal, .inl (cI, 12, .inl f_p0_ideal)), (h_p0_over, .inl (cI, 12, .inl f_p0_over)), (h_p0_bestAt, .inl (cI, 6, .inl f_p0_bestAt)), (h_p0_bad, .inl (cI, 6, .inl f_p0_bad)), (h_p1_high, .inl (cI, 12, .inl f_p1_high)), (p2, .inr (7, vL 18 F_p2_)), (h_p2_paceBehind, .inl (cI, 12, .inl f_p2_paceBehind)), (h_push, .inl (cI, 4, .inl g4)), (h_reach, .inl (cI, 4, .inl g5)), (h_drag, .inl (cI, 16, .inl g6)), (p0, .inr (1, vL 18 F_p0_)), (h_p0_push, .inl (cI, 12, .inl f_p0_push)), (h_p0_feet, .inl (cI, 12, .inl f_p0_feet)), (h_p0_weight, .inl (cI, 12, .inl f_p0_weight)), (p1, .inr (5, vL 11 F_p1_)), (h_p1_crew, .inl (cI, 4, .inl f_p1_crew)), (h0, .inr (3, vL 10 G41)), (u42, .inl (cJ, 7712, .inr (.inl w48))), (u43, .inl (cJ, 7712, .inr (.inl w49))), (u44, .inl (cI, 7712, .inl w50)), (u45, .inl (cI, 7712, .inl w51))] := hD
    have hl : lv_has ls 8 [(6, .int u40), (5, .int v10), (4, .int v7), (0, .ref h0), (1, .ref p0), (2, .ref p1), (3, .ref p2)] := hl
    refine lv_iload hx hb dX3_leastTime_57 (lv_at hl 0 rfl) ?_
    refine lv_iload hx hb dX3_leastTime_59 (lv_at hl 1 rfl) ?_
    refine lv_icmp_ge (tgt := 119) hx hb dX3_leastTime_61 (by decide) (fun c64 => ?_) (fun c64 => ?_)
    · have dc64 : v10.toInt ≤ u40.toInt := le_i (a := v10.toInt) (b := u40.toInt) rfl rfl c64
      have k65 : (-2147483648) ≤ v10.toInt ∧ v10.toInt ≤ 40 := ⟨(ir_any _).1, Int.le_trans dc64 i52.2⟩
      refine lv_aload_n hx hb dX3_leastTime_119 rfl (lv_at hl 3 rfl) ?_
      refine lv_aload_n hx hb dX3_leastTime_120 rfl (lv_at hl 4 rfl) ?_
      refine lv_aload_n hx hb dX3_leastTime_121 rfl (lv_at hl 5 rfl) ?_
      refine lv_aload_n hx hb dX3_leastTime_122 rfl (lv_at hl 6 rfl) ?_
      refine lv_iload hx hb dX3_leastTime_123 (lv_at hl 2 rfl) ?_
      refine call_Vl (wr := [(h_yards, .inl (cI, 4, .inl f_yards)), (h_push, .inl (cI, 4, .inl g4)), (h_reach, .inl (cI, 4, .inl g5)), (h_drag, .inl (cI, 16, .inl g6)), (h_p0_push, .inl (cI, 12, .inl f_p0_push)), (h_p0_feet, .inl (cI, 12, .inl f_p0_feet)), (h_p0_weight, .inl (cI, 12, .inl f_p0_weight)), (h_p1_crew, .inl (cI, 4, .inl f_p1_crew)), (u43, .inl (cJ, 7712, .inr (.inl w49))), (u45, .inl (cI, 7712, .inl w51))]) (As := [.ref p0, .ref p1, .ref p2, .int v7]) (rest := []) hx hb hml hown hw (m_X3_leastWayDown l D cI cJ cB cP cM cZ h0 u42 u44 p0 h_p0_settings h_p0_length h_p0_drop h_p0_ideal h_p0_over h_p0_bestAt h_p0_bad p1 h_p1_high p2 h_p2_paceBehind G41 u46 w48 w50 F_p0_ x_p0_bends x_p0_runners f_p0_settings f_p0_length f_p0_drop f_p0_ideal f_p0_over f_p0_bestAt f_p0_bad F_p1_ x_p1_runner x_p1_number f_p1_high F_p2_ x_p2_lastPace x_p2_gone x_p2_overAt x_p2_touchedBend x_p2_touchedBy f_p2_paceBehind v7 _ i54 i56 i58 i60 i62 e_p0_settings e_p0_length e_p0_drop e_p0_ideal e_p0_over e_p0_bestAt e_p0_bad e_p0_bends i_x_p0_bends e_p0_runners i_x_p0_runners e_p1_high e_p1_runner e_p1_number e_p2_paceBehind e_p2_lastPace e_p2_gone e_p2_overAt e_p2_touchedBend e_p2_touchedBy) wV_X3_77_X3_leastWayDown dX3_leastTime_125 hK hP hD hS hA [20, 21, 23, 14, 1, 2, 3, 4, 5, 6, 7, 18, 8, 9, 10] [0, 11, 12, 13, 15, 16, 17, 19, 22, 24] rfl rfl (by decide) (by decide) (by decide) 0 3 rfl rfl GG.fb hG.at hl.1 rfl (Nat.le_of_ble_eq_true rfl) ⟨(Nat.le_of_ble_eq_true rfl), (Nat.le_of_ble_eq_true rfl)⟩ ⟨(Nat.le_of_ble_eq_true rfl), (Nat.le_of_ble_eq_true rfl)⟩ (fun r66 u H locs hp hP hD hS => ?_)
      obtain ⟨F67, y68, y69, y70, g71, t72, t73, t74, t75, rfl⟩ := hp
      have hP : va_P D vwCl [(h_yards, .inl (cI, 4, .inl f_yards)), (h_push, .inl (cI, 4, .inl g4)), (h_reach, .inl (cI, 4, .inl g5)), (h_drag, .inl (cI, 16, .inl g6)), (h_p0_push, .inl (cI, 12, .inl f_p0_push)), (h_p0_feet, .inl (cI, 12, .inl f_p0_feet)), (h_p0_weight, .inl (cI, 12, .inl f_p0_weight)), (h_p1_crew, .inl (cI, 4, .inl f_p1_crew)), (u43, .inl (cJ, 7712, .inr (.inl w49))), (u45, .inl (cI, 7712, .inl w51)), (h0, .inr (3, vL 10 G41)), (u42, .inl (cJ, 7712, .inr (.inl w48))), (u44, .inl (cI, 7712, .inl w50)), (p0, .inr (1, vL 18 F_p0_)), (h_p0_settings, .inl (cI, 5, .inl f_p0_settings)), (h_p0_length, .inl (cI, 12, .inl f_p0_length)), (h_p0_drop, .inl (cI, 12, .inl f_p0_drop)), (h_p0_ideal, .inl (cI, 12, .inl f_p0_ideal)), (h_p0_over, .inl (cI, 12, .inl f_p0_over)), (h_p0_bestAt, .inl (cI, 6, .inl f_p0_bestAt)), (h_p0_bad, .inl (cI, 6, .inl f_p0_bad)), (p1, .inr (5, vL 11 F_p1_)), (h_p1_high, .inl (cI, 12, .inl f_p1_high)), (p2, .inr (7, vL 18 F67)), (h_p2_paceBehind, .inl (cI, 12, .inl g71))] H := hP
      have hD : va_D A [(h_yards, .inl (cI, 4, .inl f_yards)), (h_push, .inl (cI, 4, .inl g4)), (h_reach, .inl (cI, 4, .inl g5)), (h_drag, .inl (cI, 16, .inl g6)), (h_p0_push, .inl (cI, 12, .inl f_p0_push)), (h_p0_feet, .inl (cI, 12, .inl f_p0_feet)), (h_p0_weight, .inl (cI, 12, .inl f_p0_weight)), (h_p1_crew, .inl (cI, 4, .inl f_p1_crew)), (u43, .inl (cJ, 7712, .inr (.inl w49))), (u45, .inl (cI, 7712, .inl w51)), (h0, .inr (3, vL 10 G41)), (u42, .inl (cJ, 7712, .inr (.inl w48))), (u44, .inl (cI, 7712, .inl w50)), (p0, .inr (1, vL 18 F_p0_)), (h_p0_settings, .inl (cI, 5, .inl f_p0_settings)), (h_p0_length, .inl (cI, 12, .inl f_p0_length)), (h_p0_drop, .inl (cI, 12, .inl f_p0_drop)), (h_p0_ideal, .inl (cI, 12, .inl f_p0_ideal)), (h_p0_over, .inl (cI, 12, .inl f_p0_over)), (h_p0_bestAt, .inl (cI, 6, .inl f_p0_bestAt)), (h_p0_bad, .inl (cI, 6, .inl f_p0_bad)), (p1, .inr (5, vL 11 F_p1_)), (h_p1_high, .inl (cI, 12, .inl f_p1_high)), (p2, .inr (7, vL 18 F67)), (h_p2_paceBehind, .inl (cI, 12, .inl g71))] := hD
      refine W.widen (k := 0) (n := 0) (Nat.le_of_ble_eq_true rfl) (Nat.le_of_ble_eq_true rfl) ?_
      refine lv_lstore (lv' := [(6, .long r66), (5, .int v10), (4, .int v7), (0, .ref h0), (1, .ref p0), (2, .ref p1), (3, .ref p2)]) hx hb dX3_leastTime_128 hl (by decide) rfl (fun ls hl => ?_)
      refine lv_lload hx hb dX3_leastTime_130 (lv_at hl 0 rfl) ?_
      refine lv_ldc2 hx hb hown (hw _ q_904) dX3_leastTime_132 ?_
      refine W.lcmp hx hb dX3_leastTime_135 ?_
      refine lv_topi (fun v76 ev76 => ?_)
      refine lv_if_ne (tgt := 141) hx hb dX3_leastTime_136 (by decide) (fun c77 => ?_) (fun c77 => ?_)
      · have dc77 : v76.toInt ≠ 0 := ne_i (a := v76.toInt) (b := 0) rfl rfl c77
        refine lv_aload_n hx hb dX3_leastTime_141 rfl (lv_at hl 3 rfl) ?_
        refine lv_lload hx hb dX3_leastTime_142 (lv_at hl 0 rfl) ?_
        have n78 : F12 0 = .ref h_yards := (SAME.at t16 (by decide) e_yards)
        have n79 : F26 0 = .ref h_yards := (SAME.at t31 (by decide) n78)
        have n80 : G41 0 = .ref h_yards := (SAME.at i53 (by decide) n79)
        refine call_Vv (wr := [(h_push, .inl (cI, 4, .inl g4)), (h_reach, .inl (cI, 4, .inl g5)), (h_drag, .inl (cI, 16, .inl g6)), (h_p0_push, .inl (cI, 12, .inl f_p0_push)), (h_p0_feet, .inl (cI, 12, .inl f_p0_feet)), (h_p0_weight, .inl (cI, 12, .inl f_p0_weight)), (h_p1_crew, .inl (cI, 4, .inl f_p1_crew)), (u43, .inl (cJ, 7712, .inr (.inl w49))), (u45, .inl (cI, 7712, .inl w51)), (u42, .inl (cJ, 7712, .inr (.inl w48))), (u44, .inl (cI, 7712, .inl w50)), (p0, .inr (1, vL 18 F_p0_)), (h_p0_settings, .inl (cI, 5, .inl f_p0_settings)), (h_p0_length, .inl (cI, 12, .inl f_p0_length)), (h_p0_drop, .inl (cI, 12, .inl f_p0_drop)), (h_p0_ideal, .inl (cI, 12, .inl f_p0_ideal)), (h_p0_over, .inl (cI, 12, .inl f_p0_over)), (h_p0_bestAt, .inl (cI, 6, .inl f_p0_bestAt)), (h_p0_bad, .inl (cI, 6, .inl f_p0_bad)), (p1, .inr (5, vL 11 F_p1_)), (h_p1_high, .inl (cI, 12, .inl f_p1_high)), (p2, .inr (7, vL 18 F67)), (h_p2_paceBehind, .inl (cI, 12, .inl g71))]) (As := [.long r66]) (rest := []) hx hb hml hown hw (m_X3_tellYards l D cI cJ cB cP cM cZ h0 h_yards G41 f_yards r66 _ n80) wV_X3_81_X3_tellYards dX3_leastTime_144 hK hP hD hS hA [10, 0] [1, 2, 3, 4, 5, 6, 7, 8, 9, 11, 12, 13, 14, 15, 16, 17, 18, 19, 20, 21, 22, 23, 24] rfl rfl (by decide) (by decide) (by decide) 0 3 rfl rfl GG.fb hG.at hl.1 rfl (Nat.le_of_ble_eq_true rfl) ⟨(Nat.le_of_ble_eq_true rfl), (Nat.le_of_ble_eq_true rfl)⟩ ⟨(Nat.le_of_ble_eq_true rfl), (Nat.le_of_ble_eq_true rfl)⟩ (fun u H locs hp hP hD hS => ?_)
        obtain ⟨g82, rfl⟩ := hp
        have hP : va_P D vwCl [(h_push, .inl (cI, 4, .inl g4)), (h_reach, .inl (cI, 4, .inl g5)), (h_drag, .inl (cI, 16, .inl g6)), (h_p0_push, .inl (cI, 12, .inl f_p0_push)), (h_p0_feet, .inl (cI, 12, .inl f_p0_feet)), (h_p0_weight, .inl (cI, 12, .inl f_p0_weight)), (h_p1_crew, .inl (cI, 4, .inl f_p1_crew)), (u43, .inl (cJ, 7712, .inr (.inl w49))), (u45, .inl (cI, 7712, .inl w51)), (u42, .inl (cJ, 7712, .inr (.inl w48))), (u44, .inl (cI, 7712, .inl w50)), (p0, .inr (1, vL 18 F_p0_)), (h_p0_settings, .inl (cI, 5, .inl f_p0_settings)), (h_p0_length, .inl (cI, 12, .inl f_p0_length)), (h_p0_drop, .inl (cI, 12, .inl f_p0_drop)), (h_p0_ideal, .inl (cI, 12, .inl f_p0_ideal)), (h_p0_over, .inl (cI, 12, .inl f_p0_over)), (h_p0_bestAt, .inl (cI, 6, .inl f_p0_bestAt)), (h_p0_bad, .inl (cI, 6, .inl f_p0_bad)), (p1, .inr (5, vL 11 F_p1_)), (h_p1_high, .inl (cI, 12, .inl f_p1_high)), (p2, .inr (7, vL 18 F67)), (h_p2_paceBehind, .inl (cI, 12, .inl g71)), (h0, .inr (3, vL 10 G41)), (h_yards, .inl (cI, 4, .inl g82))] H := hP
        have hD : va_D A [(h_push, .inl (cI, 4, .inl g4)), (h_reach, .inl (cI, 4, .inl g5)), (h_drag, .inl (cI, 16, .inl g6)), (h_p0_push, .inl (cI, 12, .inl f_p0_push)), (h_p0_feet, .inl (cI, 12, .inl f_p0_feet)), (h_p0_weight, .inl (cI, 12, .inl f_p0_weight)), (h_p1_crew, .inl (cI, 4, .inl f_p1_crew)), (u43, .inl (cJ, 7712, .inr (.inl w49))), (u45, .inl (cI, 7712, .inl w51)), (u42, .inl (cJ, 7712, .inr (.inl w48))), (u44, .inl (cI, 7712, .inl w50)), (p0, .inr (1, vL 18 F_p0_)), (h_p0_settings, .inl (cI, 5, .inl f_p0_settings)), (h_p0_length, .inl (cI, 12, .inl f_p0_length)), (h_p0_drop, .inl (cI, 12, .inl f_p0_drop)), (h_p0_ideal, .inl (cI, 12, .inl f_p0_ideal)), (h_p0_over, .inl (cI, 12, .inl f_p0_over)), (h_p0_bestAt, .inl (cI, 6, .inl f_p0_bestAt)), (h_p0_bad, .inl (cI, 6, .inl f_p0_bad)), (p1, .inr (5, vL 11 F_p1_)), (h_p1_high, .inl (cI, 12, .inl f_p1_high)), (p2, .inr (7, vL 18 F67)), (h_p2_paceBehind, .inl (cI, 12, .inl g71)), (h0, .inr (3, vL 10 G41)), (h_yards, .inl (cI, 4, .inl g82))] := hD
        refine W.widen (k := 0) (n := 0) (Nat.le_of_ble_eq_true rfl) (Nat.le_of_ble_eq_true rfl) ?_
        refine lv_lload hx hb dX3_leastTime_147 (lv_at hl 0 rfl) ?_
        refine lv_bipush (v := 32) hx hb dX3_leastTime_149 (by decide) ?_
        obtain ⟨v83, ev83⟩ : ∃ z : Int64, (r66 : Int64) >>> ((32 : Int32).toInt64 &&& 63) = z := ⟨_, rfl⟩
        refine lv_lshr (v := v83) hx hb dX3_leastTime_151 ev83 ?_
        obtain ⟨v84, ev84⟩ : ∃ z : Int32, (v83 : Int64).toInt32 = z := ⟨_, rfl⟩
        refine lv_l2i (v := v84) hx hb dX3_leastTime_152 ev84 ?_
        exact ret_i (v := v84) hx hb hr hlocks hS (hP.sub (ws' := [(h0, .inr (3, vL 10 G41)), (h_yards, .inl (cI, 4, .inl g82)), (h_push, .inl (cI, 4, .inl g4)), (h_reach, .inl (cI, 4, .inl g5)), (h_drag, .inl (cI, 16, .inl g6)), (u42, .inl (cJ, 7712, .inr (.inl w48))), (u43, .inl (cJ, 7712, .inr (.inl w49))), (u44, .inl (cI, 7712, .inl w50)), (u45, .inl (cI, 7712, .inl w51)), (p0, .inr (1, vL 18 F_p0_)), (h_p0_settings, .inl (cI, 5, .inl f_p0_settings)), (h_p0_push, .inl (cI, 12, .inl f_p0_push)), (h_p0_feet, .inl (cI, 12, .inl f_p0_feet)), (h_p0_weight, .inl (cI, 12, .inl f_p0_weight)), (h_p0_length, .inl (cI, 12, .inl f_p0_length)), (h_p0_drop, .inl (cI, 12, .inl f_p0_drop)), (h_p0_ideal, .inl (cI, 12, .inl f_p0_ideal)), (h_p0_over, .inl (cI, 12, .inl f_p0_over)), (h_p0_bestAt, .inl (cI, 6, .inl f_p0_bestAt)), (h_p0_bad, .inl (cI, 6, .inl f_p0_bad)), (p1, .inr (5, vL 11 F_p1_)), (h_p1_crew, .inl (cI, 4, .inl f_p1_crew)), (h_p1_high, .inl (cI, 12, .inl f_p1_high)), (p2, .inr (7, vL 18 F67)), (h_p2_paceBehind, .inl (cI, 12, .inl g71))]) [23, 24, 0, 1, 2, 9, 7, 10, 8, 11, 12, 3, 4, 5, 13, 14, 15, 16, 17, 18, 19, 6, 20, 21, 22] rfl) (hD.sub (ws' := [(h0, .inr (3, vL 10 G41)), (h_yards, .inl (cI, 4, .inl g82)), (h_push, .inl (cI, 4, .inl g4)), (h_reach, .inl (cI, 4, .inl g5)), (h_drag, .inl (cI, 16, .inl g6)), (u42, .inl (cJ, 7712, .inr (.inl w48))), (u43, .inl (cJ, 7712, .inr (.inl w49))), (u44, .inl (cI, 7712, .inl w50)), (u45, .inl (cI, 7712, .inl w51)), (p0, .inr (1, vL 18 F_p0_)), (h_p0_settings, .inl (cI, 5, .inl f_p0_settings)), (h_p0_push, .inl (cI, 12, .inl f_p0_push)), (h_p0_feet, .inl (cI, 12, .inl f_p0_feet)), (h_p0_weight, .inl (cI, 12, .inl f_p0_weight)), (h_p0_length, .inl (cI, 12, .inl f_p0_length)), (h_p0_drop, .inl (cI, 12, .inl f_p0_drop)), (h_p0_ideal, .inl (cI, 12, .inl f_p0_ideal)), (h_p0_over, .inl (cI, 12, .inl f_p0_over)), (h_p0_bestAt, .inl (cI, 6, .inl f_p0_bestAt)), (h_p0_bad, .inl (cI, 6, .inl f_p0_bad)), (p1, .inr (5, vL 11 F_p1_)), (h_p1_crew, .inl (cI, 4, .inl f_p1_crew)), (h_p1_high, .inl (cI, 12, .inl f_p1_high)), (p2, .inr (7, vL 18 F67)), (h_p2_paceBehind, .inl (cI, 12, .inl g71))]) [23, 24, 0, 1, 2, 9, 7, 10, 8, 11, 12, 3, 4, 5, 13, 14, 15, 16, 17, 18, 19, 6, 20, 21, 22] (by decide) rfl) dX3_leastTime_153 rfl (Nat.le_of_ble_eq_true rfl) (Nat.le_of_ble_eq_true rfl) ⟨G41, u42, u43, u44, u45, u46, u47, F67, y68, y69, y70, g82, g4, g5, g6, w48, w49, w50, w51, g71, (SAME.tr (SAME.tr (SAME.tr SAME.rf t16 (by decide)) t31 (by decide)) i53 (by decide)), i54, i55, i56, i57, i58, i60, i59, i61, (SAME.tr SAME.rf t72 (by decide)), t73, t74, t75, i62, i63, rfl⟩
      · have dc77 : v76.toInt = 0 := eq_i (a := v76.toInt) (b := 0) rfl rfl c77
        have k85 : 0 ≤ v76.toInt ∧ v76.toInt ≤ 0 := ⟨Int.le_trans (Int.le_refl _) (Int.le_of_eq dc77.symm), Int.le_trans (Int.le_of_eq dc77) (Int.le_refl _)⟩
        refine lv_iconst (v := (-1)) hx hb dX3_leastTime_139 (by decide) ?_
        exact ret_i (v := (-1)) hx hb hr hlocks hS (hP.sub (ws' := [(h0, .inr (3, vL 10 G41)), (h_yards, .inl (cI, 4, .inl f_yards)), (h_push, .inl (cI, 4, .inl g4)), (h_reach, .inl (cI, 4, .inl g5)), (h_drag, .inl (cI, 16, .inl g6)), (u42, .inl (cJ, 7712, .inr (.inl w48))), (u43, .inl (cJ, 7712, .inr (.inl w49))), (u44, .inl (cI, 7712, .inl w50)), (u45, .inl (cI, 7712, .inl w51)), (p0, .inr (1, vL 18 F_p0_)), (h_p0_settings, .inl (cI, 5, .inl f_p0_settings)), (h_p0_push, .inl (cI, 12, .inl f_p0_push)), (h_p0_feet, .inl (cI, 12, .inl f_p0_feet)), (h_p0_weight, .inl (cI, 12, .inl f_p0_weight)), (h_p0_length, .inl (cI, 12, .inl f_p0_length)), (h_p0_drop, .inl (cI, 12, .inl f_p0_drop)), (h_p0_ideal, .inl (cI, 12, .inl f_p0_ideal)), (h_p0_over, .inl (cI, 12, .inl f_p0_over)), (h_p0_bestAt, .inl (cI, 6, .inl f_p0_bestAt)), (h_p0_bad, .inl (cI, 6, .inl f_p0_bad)), (p1, .inr (5, vL 11 F_p1_)), (h_p1_crew, .inl (cI, 4, .inl f_p1_crew)), (h_p1_high, .inl (cI, 12, .inl f_p1_high)), (p2, .inr (7, vL 18 F67)), (h_p2_paceBehind, .inl (cI, 12, .inl g71))]) [10, 0, 1, 2, 3, 11, 8, 12, 9, 13, 14, 4, 5, 6, 15, 16, 17, 18, 19, 20, 21, 7, 22, 23, 24] rfl) (hD.sub (ws' := [(h0, .inr (3, vL 10 G41)), (h_yards, .inl (cI, 4, .inl f_yards)), (h_push, .inl (cI, 4, .inl g4)), (h_reach, .inl (cI, 4, .inl g5)), (h_drag, .inl (cI, 16, .inl g6)), (u42, .inl (cJ, 7712, .inr (.inl w48))), (u43, .inl (cJ, 7712, .inr (.inl w49))), (u44, .inl (cI, 7712, .inl w50)), (u45, .inl (cI, 7712, .inl w51)), (p0, .inr (1, vL 18 F_p0_)), (h_p0_settings, .inl (cI, 5, .inl f_p0_settings)), (h_p0_push, .inl (cI, 12, .inl f_p0_push)), (h_p0_feet, .inl (cI, 12, .inl f_p0_feet)), (h_p0_weight, .inl (cI, 12, .inl f_p0_weight)), (h_p0_length, .inl (cI, 12, .inl f_p0_length)), (h_p0_drop, .inl (cI, 12, .inl f_p0_drop)), (h_p0_ideal, .inl (cI, 12, .inl f_p0_ideal)), (h_p0_over, .inl (cI, 12, .inl f_p0_over)), (h_p0_bestAt, .inl (cI, 6, .inl f_p0_bestAt)), (h_p0_bad, .inl (cI, 6, .inl f_p0_bad)), (p1, .inr (5, vL 11 F_p1_)), (h_p1_crew, .inl (cI, 4, .inl f_p1_crew)), (h_p1_high, .inl (cI, 12, .inl f_p1_high)), (p2, .inr (7, vL 18 F67)), (h_p2_paceBehind, .inl (cI, 12, .inl g71))]) [10, 0, 1, 2, 3, 11, 8, 12, 9, 13, 14, 4, 5, 6, 15, 16, 17, 18, 19, 20, 21, 7, 22, 23, 24] (by decide) rfl) dX3_leastTime_140 rfl (Nat.le_of_ble_eq_true rfl) (Nat.le_of_ble_eq_true rfl) ⟨G41, u42, u43, u44, u45, u46, u47, F67, y68, y69, y70, f_yards, g4, g5, g6, w48, w49, w50, w51, g71, (SAME.tr (SAME.tr (SAME.tr SAME.rf t16 (by decide)) t31 (by decide)) i53 (by decide)), i54, i55, i56, i57, i58, i60, i59, i61, (SAME.tr SAME.rf t72 (by decide)), t73, t74, t75, i62, i63, rfl⟩
    · have dc64 : u40.toInt < v10.toInt := nle_i (a := v10.toInt) (b := u40.toInt) rfl rfl c64
      have k86 : 1 ≤ v10.toInt ∧ v10.toInt ≤ 2147483647 := ⟨lo_lt dc64 i52.1 (by decide), (ir_any _).2⟩
      refine lv_iload hx hb dX3_leastTime_64 (lv_at hl 0 rfl) ?_
      refine lv_bipush (v := 40) hx hb dX3_leastTime_66 (by decide) ?_
      refine lv_icmp_ge (tgt := 119) hx hb dX3_leastTime_68 (by decide) (fun c87 => ?_) (fun c87 => ?_)
      · have dc87 : 40 ≤ u40.toInt := le_i (a := 40) (b := u40.toInt) rfl rfl c87
        have k88 : 40 ≤ u40.toInt ∧ u40.toInt ≤ 40 := ⟨Int.le_trans (Int.le_refl _) dc87, i52.2⟩
        refine lv_aload_n hx hb dX3_leastTime_119 rfl (lv_at hl 3 rfl) ?_
        refine lv_aload_n hx hb dX3_leastTime_120 rfl (lv_at hl 4 rfl) ?_
        refine lv_aload_n hx hb dX3_leastTime_121 rfl (lv_at hl 5 rfl) ?_
        refine lv_aload_n hx hb dX3_leastTime_122 rfl (lv_at hl 6 rfl) ?_
        refine lv_iload hx hb dX3_leastTime_123 (lv_at hl 2 rfl) ?_
        refine call_Vl (wr := [(h_yards, .inl (cI, 4, .inl f_yards)), (h_push, .inl (cI, 4, .inl g4)), (h_reach, .inl (cI, 4, .inl g5)), (h_drag, .inl (cI, 16, .inl g6)), (h_p0_push, .inl (cI, 12, .inl f_p0_push)), (h_p0_feet, .inl (cI, 12, .inl f_p0_feet)), (h_p0_weight, .inl (cI, 12, .inl f_p0_weight)), (h_p1_crew, .inl (cI, 4, .inl f_p1_crew)), (u43, .inl (cJ, 7712, .inr (.inl w49))), (u45, .inl (cI, 7712, .inl w51))]) (As := [.ref p0, .ref p1, .ref p2, .int v7]) (rest := []) hx hb hml hown hw (m_X3_leastWayDown l D cI cJ cB cP cM cZ h0 u42 u44 p0 h_p0_settings h_p0_length h_p0_drop h_p0_ideal h_p0_over h_p0_bestAt h_p0_bad p1 h_p1_high p2 h_p2_paceBehind G41 u46 w48 w50 F_p0_ x_p0_bends x_p0_runners f_p0_settings f_p0_length f_p0_drop f_p0_ideal f_p0_over f_p0_bestAt f_p0_bad F_p1_ x_p1_runner x_p1_number f_p1_high F_p2_ x_p2_lastPace x_p2_gone x_p2_overAt x_p2_touchedBend x_p2_touchedBy f_p2_paceBehind v7 _ i54 i56 i58 i60 i62 e_p0_settings e_p0_length e_p0_drop e_p0_ideal e_p0_over e_p0_bestAt e_p0_bad e_p0_bends i_x_p0_bends e_p0_runners i_x_p0_runners e_p1_high e_p1_runner e_p1_number e_p2_paceBehind e_p2_lastPace e_p2_gone e_p2_overAt e_p2_touchedBend e_p2_touchedBy) wV_X3_77_X3_leastWayDown dX3_leastTime_125 hK hP hD hS hA [20, 21, 23, 14, 1, 2, 3, 4, 5, 6, 7, 18, 8, 9, 10] [0, 11, 12, 13, 15, 16, 17, 19, 22, 24] rfl rfl (by decide) (by decide) (by decide) 0 3 rfl rfl GG.fb hG.at hl.1 rfl (Nat.le_of_ble_eq_true rfl) ⟨(Nat.le_of_ble_eq_true rfl), (Nat.le_of_ble_eq_true rfl)⟩ ⟨(Nat.le_of_ble_eq_true rfl), (Nat.le_of_ble_eq_true rfl)⟩ (fun r89 u H locs hp hP hD hS => ?_)
        obtain ⟨F90, y91, y92, y93, g94, t95, t96, t97, t98, rfl⟩ := hp
        have hP : va_P D vwCl [(h_yards, .inl (cI, 4, .inl f_yards)), (h_push, .inl (cI, 4, .inl g4)), (h_reach, .inl (cI, 4, .inl g5)), (h_drag, .inl (cI, 16, .inl g6)), (h_p0_push, .inl (cI, 12, .inl f_p0_push)), (h_p0_feet, .inl (cI, 12, .inl f_p0_feet)), (h_p0_weight, .inl (cI, 12, .inl f_p0_weight)), (h_p1_crew, .inl (cI, 4, .inl f_p1_crew)), (u43, .inl (cJ, 7712, .inr (.inl w49))), (u45, .inl (cI, 7712, .inl w51)), (h0, .inr (3, vL 10 G41)), (u42, .inl (cJ, 7712, .inr (.inl w48))), (u44, .inl (cI, 7712, .inl w50)), (p0, .inr (1, vL 18 F_p0_)), (h_p0_settings, .inl (cI, 5, .inl f_p0_settings)), (h_p0_length, .inl (cI, 12, .inl f_p0_length)), (h_p0_drop, .inl (cI, 12, .inl f_p0_drop)), (h_p0_ideal, .inl (cI, 12, .inl f_p0_ideal)), (h_p0_over, .inl (cI, 12, .inl f_p0_over)), (h_p0_bestAt, .inl (cI, 6, .inl f_p0_bestAt)), (h_p0_bad, .inl (cI, 6, .inl f_p0_bad)), (p1, .inr (5, vL 11 F_p1_)), (h_p1_high, .inl (cI, 12, .inl f_p1_high)), (p2, .inr (7, vL 18 F90)), (h_p2_paceBehind, .inl (cI, 12, .inl g94))] H := hP
        have hD : va_D A [(h_yards, .inl (cI, 4, .inl f_yards)), (h_push, .inl (cI, 4, .inl g4)), (h_reach, .inl (cI, 4, .inl g5)), (h_drag, .inl (cI, 16, .inl g6)), (h_p0_push, .inl (cI, 12, .inl f_p0_push)), (h_p0_feet, .inl (cI, 12, .inl f_p0_feet)), (h_p0_weight, .inl (cI, 12, .inl f_p0_weight)), (h_p1_crew, .inl (cI, 4, .inl f_p1_crew)), (u43, .inl (cJ, 7712, .inr (.inl w49))), (u45, .inl (cI, 7712, .inl w51)), (h0, .inr (3, vL 10 G41)), (u42, .inl (cJ, 7712, .inr (.inl w48))), (u44, .inl (cI, 7712, .inl w50)), (p0, .inr (1, vL 18 F_p0_)), (h_p0_settings, .inl (cI, 5, .inl f_p0_settings)), (h_p0_length, .inl (cI, 12, .inl f_p0_length)), (h_p0_drop, .inl (cI, 12, .inl f_p0_drop)), (h_p0_ideal, .inl (cI, 12, .inl f_p0_ideal)), (h_p0_over, .inl (cI, 12, .inl f_p0_over)), (h_p0_bestAt, .inl (cI, 6, .inl f_p0_bestAt)), (h_p0_bad, .inl (cI, 6, .inl f_p0_bad)), (p1, .inr (5, vL 11 F_p1_)), (h_p1_high, .inl (cI, 12, .inl f_p1_high)), (p2, .inr (7, vL 18 F90)), (h_p2_paceBehind, .inl (cI, 12, .inl g94))] := hD
        refine W.widen (k := 0) (n := 0) (Nat.le_of_ble_eq_true rfl) (Nat.le_of_ble_eq_true rfl) ?_
        refine lv_lstore (lv' := [(6, .long r89), (5, .int v10), (4, .int v7), (0, .ref h0), (1, .ref p0), (2, .ref p1), (3, .ref p2)]) hx hb dX3_leastTime_128 hl (by decide) rfl (fun ls hl => ?_)
        refine lv_lload hx hb dX3_leastTime_130 (lv_at hl 0 rfl) ?_
        refine lv_ldc2 hx hb hown (hw _ q_904) dX3_leastTime_132 ?_
        refine W.lcmp hx hb dX3_leastTime_135 ?_
        refine lv_topi (fun v99 ev99 => ?_)
        refine lv_if_ne (tgt := 141) hx hb dX3_leastTime_136 (by decide) (fun c100 => ?_) (fun c100 => ?_)
        · have dc100 : v99.toInt ≠ 0 := ne_i (a := v99.toInt) (b := 0) rfl rfl c100
          refine lv_aload_n hx hb dX3_leastTime_141 rfl (lv_at hl 3 rfl) ?_
          refine lv_lload hx hb dX3_leastTime_142 (lv_at hl 0 rfl) ?_
          have n101 : F12 0 = .ref h_yards := (SAME.at t16 (by decide) e_yards)
          have n102 : F26 0 = .ref h_yards := (SAME.at t31 (by decide) n101)
          have n103 : G41 0 = .ref h_yards := (SAME.at i53 (by decide) n102)
          refine call_Vv (wr := [(h_push, .inl (cI, 4, .inl g4)), (h_reach, .inl (cI, 4, .inl g5)), (h_drag, .inl (cI, 16, .inl g6)), (h_p0_push, .inl (cI, 12, .inl f_p0_push)), (h_p0_feet, .inl (cI, 12, .inl f_p0_feet)), (h_p0_weight, .inl (cI, 12, .inl f_p0_weight)), (h_p1_crew, .inl (cI, 4, .inl f_p1_crew)), (u43, .inl (cJ, 7712, .inr (.inl w49))), (u45, .inl (cI, 7712, .inl w51)), (u42, .inl (cJ, 7712, .inr (.inl w48))), (u44, .inl (cI, 7712, .inl w50)), (p0, .inr (1, vL 18 F_p0_)), (h_p0_settings, .inl (cI, 5, .inl f_p0_settings)), (h_p0_length, .inl (cI, 12, .inl f_p0_length)), (h_p0_drop, .inl (cI, 12, .inl f_p0_drop)), (h_p0_ideal, .inl (cI, 12, .inl f_p0_ideal)), (h_p0_over, .inl (cI, 12, .inl f_p0_over)), (h_p0_bestAt, .inl (cI, 6, .inl f_p0_bestAt)), (h_p0_bad, .inl (cI, 6, .inl f_p0_bad)), (p1, .inr (5, vL 11 F_p1_)), (h_p1_high, .inl (cI, 12, .inl f_p1_high)), (p2, .inr (7, vL 18 F90)), (h_p2_paceBehind, .inl (cI, 12, .inl g94))]) (As := [.long r89]) (rest := []) hx hb hml hown hw (m_X3_tellYards l D cI cJ cB cP cM cZ h0 h_yards G41 f_yards r89 _ n103) wV_X3_81_X3_tellYards dX3_leastTime_144 hK hP hD hS hA [10, 0] [1, 2, 3, 4, 5, 6, 7, 8, 9, 11, 12, 13, 14, 15, 16, 17, 18, 19, 20, 21, 22, 23, 24] rfl rfl (by decide) (by decide) (by decide) 0 3 rfl rfl GG.fb hG.at hl.1 rfl (Nat.le_of_ble_eq_true rfl) ⟨(Nat.le_of_ble_eq_true rfl), (Nat.le_of_ble_eq_true rfl)⟩ ⟨(Nat.le_of_ble_eq_true rfl), (Nat.le_of_ble_eq_true rfl)⟩ (fun u H locs hp hP hD hS => ?_)
          obtain ⟨g105, rfl⟩ := hp
          have hP : va_P D vwCl [(h_push, .inl (cI, 4, .inl g4)), (h_reach, .inl (cI, 4, .inl g5)), (h_drag, .inl (cI, 16, .inl g6)), (h_p0_push, .inl (cI, 12, .inl f_p0_push)), (h_p0_feet, .inl (cI, 12, .inl f_p0_feet)), (h_p0_weight, .inl (cI, 12, .inl f_p0_weight)), (h_p1_crew, .inl (cI, 4, .inl f_p1_crew)), (u43, .inl (cJ, 7712, .inr (.inl w49))), (u45, .inl (cI, 7712, .inl w51)), (u42, .inl (cJ, 7712, .inr (.inl w48))), (u44, .inl (cI, 7712, .inl w50)), (p0, .inr (1, vL 18 F_p0_)), (h_p0_settings, .inl (cI, 5, .inl f_p0_settings)), (h_p0_length, .inl (cI, 12, .inl f_p0_length)), (h_p0_drop, .inl (cI, 12, .inl f_p0_drop)), (h_p0_ideal, .inl (cI, 12, .inl f_p0_ideal)), (h_p0_over, .inl (cI, 12, .inl f_p0_over)), (h_p0_bestAt, .inl (cI, 6, .inl f_p0_bestAt)), (h_p0_bad, .inl (cI, 6, .inl f_p0_bad)), (p1, .inr (5, vL 11 F_p1_)), (h_p1_high, .inl (cI, 12, .inl f_p1_high)), (p2, .inr (7, vL 18 F90)), (h_p2_paceBehind, .inl (cI, 12, .inl g94)), (h0, .inr (3, vL 10 G41)), (h_yards, .inl (cI, 4, .inl g105))] H := hP
          have hD : va_D A [(h_push, .inl (cI, 4, .inl g4)), (h_reach, .inl (cI, 4, .inl g5)), (h_drag, .inl (cI, 16, .inl g6)), (h_p0_push, .inl (cI, 12, .inl f_p0_push)), (h_p0_feet, .inl (cI, 12, .inl f_p0_feet)), (h_p0_weight, .inl (cI, 12, .inl f_p0_weight)), (h_p1_crew, .inl (cI, 4, .inl f_p1_crew)), (u43, .inl (cJ, 7712, .inr (.inl w49))), (u45, .inl (cI, 7712, .inl w51)), (u42, .inl (cJ, 7712, .inr (.inl w48))), (u44, .inl (cI, 7712, .inl w50)), (p0, .inr (1, vL 18 F_p0_)), (h_p0_settings, .inl (cI, 5, .inl f_p0_settings)), (h_p0_length, .inl (cI, 12, .inl f_p0_length)), (h_p0_drop, .inl (cI, 12, .inl f_p0_drop)), (h_p0_ideal, .inl (cI, 12, .inl f_p0_ideal)), (h_p0_over, .inl (cI, 12, .inl f_p0_over)), (h_p0_bestAt, .inl (cI, 6, .inl f_p0_bestAt)), (h_p0_bad, .inl (cI, 6, .inl f_p0_bad)), (p1, .inr (5, vL 11 F_p1_)), (h_p1_high, .inl (cI, 12, .inl f_p1_high)), (p2, .inr (7, vL 18 F90)), (h_p2_paceBehind, .inl (cI, 12, .inl g94)), (h0, .inr (3, vL 10 G41)), (h_yards, .inl (cI, 4, .inl g105))] := hD
          refine W.widen (k := 0) (n := 0) (Nat.le_of_ble_eq_true rfl) (Nat.le_of_ble_eq_true rfl) ?_
          refine lv_lload hx hb dX3_leastTime_147 (lv_at hl 0 rfl) ?_
          refine lv_bipush (v := 32) hx hb dX3_leastTime_149 (by decide) ?_
          obtain ⟨v106, ev106⟩ : ∃ z : Int64, (r89 : Int64) >>> ((32 : Int32).toInt64 &&& 63) = z := ⟨_, rfl⟩
          refine lv_lshr (v := v106) hx hb dX3_leastTime_151 ev106 ?_
          obtain ⟨v107, ev107⟩ : ∃ z : Int32, (v106 : Int64).toInt32 = z := ⟨_, rfl⟩
          refine lv_l2i (v := v107) hx hb dX3_leastTime_152 ev107 ?_
          exact ret_i (v := v107) hx hb hr hlocks hS (hP.sub (ws' := [(h0, .inr (3, vL 10 G41)), (h_yards, .inl (cI, 4, .inl g105)), (h_push, .inl (cI, 4, .inl g4)), (h_reach, .inl (cI, 4, .inl g5)), (h_drag, .inl (cI, 16, .inl g6)), (u42, .inl (cJ, 7712, .inr (.inl w48))), (u43, .inl (cJ, 7712, .inr (.inl w49))), (u44, .inl (cI, 7712, .inl w50)), (u45, .inl (cI, 7712, .inl w51)), (p0, .inr (1, vL 18 F_p0_)), (h_p0_settings, .inl (cI, 5, .inl f_p0_settings)), (h_p0_push, .inl (cI, 12, .inl f_p0_push)), (h_p0_feet, .inl (cI, 12, .inl f_p0_feet)), (h_p0_weight, .inl (cI, 12, .inl f_p0_weight)), (h_p0_length, .inl (cI, 12, .inl f_p0_length)), (h_p0_drop, .inl (cI, 12, .inl f_p0_drop)), (h_p0_ideal, .inl (cI, 12, .inl f_p0_ideal)), (h_p0_over, .inl (cI, 12, .inl f_p0_over)), (h_p0_bestAt, .inl (cI, 6, .inl f_p0_bestAt)), (h_p0_bad, .inl (cI, 6, .inl f_p0_bad)), (p1, .inr (5, vL 11 F_p1_)), (h_p1_crew, .inl (cI, 4, .inl f_p1_crew)), (h_p1_high, .inl (cI, 12, .inl f_p1_high)), (p2, .inr (7, vL 18 F90)), (h_p2_paceBehind, .inl (cI, 12, .inl g94))]) [23, 24, 0, 1, 2, 9, 7, 10, 8, 11, 12, 3, 4, 5, 13, 14, 15, 16, 17, 18, 19, 6, 20, 21, 22] rfl) (hD.sub (ws' := [(h0, .inr (3, vL 10 G41)), (h_yards, .inl (cI, 4, .inl g105)), (h_push, .inl (cI, 4, .inl g4)), (h_reach, .inl (cI, 4, .inl g5)), (h_drag, .inl (cI, 16, .inl g6)), (u42, .inl (cJ, 7712, .inr (.inl w48))), (u43, .inl (cJ, 7712, .inr (.inl w49))), (u44, .inl (cI, 7712, .inl w50)), (u45, .inl (cI, 7712, .inl w51)), (p0, .inr (1, vL 18 F_p0_)), (h_p0_settings, .inl (cI, 5, .inl f_p0_settings)), (h_p0_push, .inl (cI, 12, .inl f_p0_push)), (h_p0_feet, .inl (cI, 12, .inl f_p0_feet)), (h_p0_weight, .inl (cI, 12, .inl f_p0_weight)), (h_p0_length, .inl (cI, 12, .inl f_p0_length)), (h_p0_drop, .inl (cI, 12, .inl f_p0_drop)), (h_p0_ideal, .inl (cI, 12, .inl f_p0_ideal)), (h_p0_over, .inl (cI, 12, .inl f_p0_over)), (h_p0_bestAt, .inl (cI, 6, .inl f_p0_bestAt)), (h_p0_bad, .inl (cI, 6, .inl f_p0_bad)), (p1, .inr (5, vL 11 F_p1_)), (h_p1_crew, .inl (cI, 4, .inl f_p1_crew)), (h_p1_high, .inl (cI, 12, .inl f_p1_high)), (p2, .inr (7, vL 18 F90)), (h_p2_paceBehind, .inl (cI, 12, .inl g94))]) [23, 24, 0, 1, 2, 9, 7, 10, 8, 11, 12, 3, 4, 5, 13, 14, 15, 16, 17, 18, 19, 6, 20, 21, 22] (by decide) rfl) dX3_leastTime_153 rfl (Nat.le_of_ble_eq_true rfl) (Nat.le_of_ble_eq_true rfl) ⟨G41, u42, u43, u44, u45, u46, u47, F90, y91, y92, y93, g105, g4, g5, g6, w48, w49, w50, w51, g94, (SAME.tr (SAME.tr (SAME.tr SAME.rf t16 (by decide)) t31 (by decide)) i53 (by decide)), i54, i55, i56, i57, i58, i60, i59, i61, (SAME.tr SAME.rf t95 (by decide)), t96, t97, t98, i62, i63, rfl⟩
        · have dc100 : v99.toInt = 0 := eq_i (a := v99.toInt) (b := 0) rfl rfl c100
          have k108 : 0 ≤ v99.toInt ∧ v99.toInt ≤ 0 := ⟨Int.le_trans (Int.le_refl _) (Int.le_of_eq dc100.symm), Int.le_trans (Int.le_of_eq dc100) (Int.le_refl _)⟩
          refine lv_iconst (v := (-1)) hx hb dX3_leastTime_139 (by decide) ?_
          exact ret_i (v := (-1)) hx hb hr hlocks hS (hP.sub (ws' := [(h0, .inr (3, vL 10 G41)), (h_yards, .inl (cI, 4, .inl f_yards)), (h_push, .inl (cI, 4, .inl g4)), (h_reach, .inl (cI, 4, .inl g5)), (h_drag, .inl (cI, 16, .inl g6)), (u42, .inl (cJ, 7712, .inr (.inl w48))), (u43, .inl (cJ, 7712, .inr (.inl w49))), (u44, .inl (cI, 7712, .inl w50)), (u45, .inl (cI, 7712, .inl w51)), (p0, .inr (1, vL 18 F_p0_)), (h_p0_settings, .inl (cI, 5, .inl f_p0_settings)), (h_p0_push, .inl (cI, 12, .inl f_p0_push)), (h_p0_feet, .inl (cI, 12, .inl f_p0_feet)), (h_p0_weight, .inl (cI, 12, .inl f_p0_weight)), (h_p0_length, .inl (cI, 12, .inl f_p0_length)), (h_p0_drop, .inl (cI, 12, .inl f_p0_drop)), (h_p0_ideal, .inl (cI, 12, .inl f_p0_ideal)), (h_p0_over, .inl (cI, 12, .inl f_p0_over)), (h_p0_bestAt, .inl (cI, 6, .inl f_p0_bestAt)), (h_p0_bad, .inl (cI, 6, .inl f_p0_bad)), (p1, .inr (5, vL 11 F_p1_)), (h_p1_crew, .inl (cI, 4, .inl f_p1_crew)), (h_p1_high, .inl (cI, 12, .inl f_p1_high)), (p2, .inr (7, vL 18 F90)), (h_p2_paceBehind, .inl (cI, 12, .inl g94))]) [10, 0, 1, 2, 3, 11, 8, 12, 9, 13, 14, 4, 5, 6, 15, 16, 17, 18, 19, 20, 21, 7, 22, 23, 24] rfl) (hD.sub (ws' := [(h0, .inr (3, vL 10 G41)), (h_yards, .inl (cI, 4, .inl f_yards)), (h_push, .inl (cI, 4, .inl g4)), (h_reach, .inl (cI, 4, .inl g5)), (h_drag, .inl (cI, 16, .inl g6)), (u42, .inl (cJ, 7712, .inr (.inl w48))), (u43, .inl (cJ, 7712, .inr (.inl w49))), (u44, .inl (cI, 7712, .inl w50)), (u45, .inl (cI, 7712, .inl w51)), (p0, .inr (1, vL 18 F_p0_)), (h_p0_settings, .inl (cI, 5, .inl f_p0_settings)), (h_p0_push, .inl (cI, 12, .inl f_p0_push)), (h_p0_feet, .inl (cI, 12, .inl f_p0_feet)), (h_p0_weight, .inl (cI, 12, .inl f_p0_weight)), (h_p0_length, .inl (cI, 12, .inl f_p0_length)), (h_p0_drop, .inl (cI, 12, .inl f_p0_drop)), (h_p0_ideal, .inl (cI, 12, .inl f_p0_ideal)), (h_p0_over, .inl (cI, 12, .inl f_p0_over)), (h_p0_bestAt, .inl (cI, 6, .inl f_p0_bestAt)), (h_p0_bad, .inl (cI, 6, .inl f_p0_bad)), (p1, .inr (5, vL 11 F_p1_)), (h_p1_crew, .inl (cI, 4, .inl f_p1_crew)), (h_p1_high, .inl (cI, 12, .inl f_p1_high)), (p2, .inr (7, vL 18 F90)), (h_p2_paceBehind, .inl (cI, 12, .inl g94))]) [10, 0, 1, 2, 3, 11, 8, 12, 9, 13, 14, 4, 5, 6, 15, 16, 17, 18, 19, 20, 21, 7, 22, 23, 24] (by decide) rfl) dX3_leastTime_140 rfl (Nat.le_of_ble_eq_true rfl) (Nat.le_of_ble_eq_true rfl) ⟨G41, u42, u43, u44, u45, u46, u47, F90, y91, y92, y93, f_yards, g4, g5, g6, w48, w49, w50, w51, g94, (SAME.tr (SAME.tr (SAME.tr SAME.rf t16 (by decide)) t31 (by decide)) i53 (by decide)), i54, i55, i56, i57, i58, i60, i59, i61, (SAME.tr SAME.rf t95 (by decide)), t96, t97, t98, i62, i63, rfl⟩
      · have dc87 : u40.toInt < 40 := nle_i (a := 40) (b := u40.toInt) rfl rfl c87
        have k109 : 0 ≤ u40.toInt ∧ u40.toInt ≤ 39 := ⟨i52.1, up_lt dc87 (Int.le_refl _) (by decide)⟩
        refine lv_iconst (v := 0) hx hb dX3_leastTime_71 (by decide) ?_
        refine lv_istore (lv' := [(7, .int 0), (6, .int u40), (5, .int v10), (4, .int v7), (0, .ref h0), (1, .ref p0), (2, .ref p1), (3, .ref p2)]) hx hb dX3_leastTime_72 hl (by decide) rfl (fun ls hl => ?_)
        refine mloop (α := (Int32) × (Nat → Value) × (Int32) × (Nat → Int64) × (Nat → Int32)) (nL := 8) (D := D) (A := A) (H0 := s.heap) (fun a => (7712 - a.1.toInt).toNat) (fun a => IR 0 7712 a.1 ∧ SAME [9] G41 a.2.1 ∧ a.2.1 9 = .int a.2.2.1 ∧ IR 0 7712 a.2.2.1 ∧ SG 0 7711 0 7711 a.2.2.2.2) (fun a => [(h_yards, .inl (cI, 4, .inl f_yards)), (h_p0_settings, .inl (cI, 5, .inl f_p0_settings)), (h_p0_length, .inl (cI, 12, .inl f_p0_length)), (h_p0_drop, .inl (cI, 12, .inl f_p0_drop)), (h_p0_ideal, .inl (cI, 12, .inl f_p0_ideal)), (h_p0_over, .inl (cI, 12, .inl f_p0_over)), (h_p0_bestAt, .inl (cI, 6, .inl f_p0_bestAt)), (h_p0_bad, .inl (cI, 6, .inl f_p0_bad)), (h_p1_high, .inl (cI, 12, .inl f_p1_high)), (p2, .inr (7, vL 18 F_p2_)), (h_p2_paceBehind, .inl (cI, 12, .inl f_p2_paceBehind)), (h_push, .inl (cI, 4, .inl g4)), (h_reach, .inl (cI, 4, .inl g5)), (h_drag, .inl (cI, 16, .inl g6)), (p0, .inr (1, vL 18 F_p0_)), (h_p0_push, .inl (cI, 12, .inl f_p0_push)), (h_p0_feet, .inl (cI, 12, .inl f_p0_feet)), (h_p0_weight, .inl (cI, 12, .inl f_p0_weight)), (p1, .inr (5, vL 11 F_p1_)), (h_p1_crew, .inl (cI, 4, .inl f_p1_crew)), (h0, .inr (3, vL 10 a.2.1)), (u42, .inl (cJ, 7712, .inr (.inl w48))), (u43, .inl (cJ, 7712, .inr (.inl a.2.2.2.1))), (u44, .inl (cI, 7712, .inl w50)), (u45, .inl (cI, 7712, .inl a.2.2.2.2))]) (fun a => [(7, .int a.1), (6, .int u40), (5, .int v10), (4, .int v7), (0, .ref h0), (1, .ref p0), (2, .ref p1), (3, .ref p2)]) (fun H locs ls => W p l e ({ frames := 5, cells := 0, slots := 0, locals := 143 } : Room) s m [.ref h0, .ref p0, .ref p1, .ref p2].toArray below meth c H locs 0 0 (MQ below (va_Qi (fun (r : Int32) (u : va_W) => ∃ (Gh : Nat → Value) (y_ways : Nat) (y_nextWays : Nat) (y_states : Nat) (y_nextStates : Nat) (y_stateCount : Int32) (y_nextCount : Int32) (G_p2_ : Nat → Value) (y_p2_lastPace : Int32) (y_p2_gone : Int32) (y_p2_overAt : Int32) (g_yards : Nat → Int32) (g_push : Nat → Int32) (g_reach : Nat → Int32) (g_drag : Nat → Int32) (g_ways : Nat → Int64) (g_nextWays : Nat → Int64) (g_states : Nat → Int32) (g_nextStates : Nat → Int32) (g_p2_paceBehind : Nat → Int32), SAME [4, 5, 6, 7, 8, 9] Fh Gh ∧ Gh 4 = .ref y_ways ∧ Gh 5 = .ref y_nextWays ∧ Gh 6 = .ref y_states ∧ Gh 7 = .ref y_nextStates ∧ Gh 8 = .int y_stateCount ∧ IR 0 7712 y_stateCount ∧ Gh 9 = .int y_nextCount ∧ IR 0 7712 y_nextCount ∧ SAME [9, 10, 11] F_p2_ G_p2_ ∧ G_p2_ 9 = .int y_p2_lastPace ∧ G_p2_ 10 = .int y_p2_gone ∧ G_p2_ 11 = .int y_p2_overAt ∧ SG 0 7711 0 7711 g_states ∧ SG 0 7711 0 7711 g_nextStates ∧ u = [(h0, .inr (3, vL 10 Gh)), (h_yards, .inl (cI, 4, .inl g_yards)), (h_push, .inl (cI, 4, .inl g_push)), (h_reach, .inl (cI, 4, .inl g_reach)), (h_drag, .inl (cI, 16, .inl g_drag)), (y_ways, .inl (cJ, 7712, .inr (.inl g_ways))), (y_nextWays, .inl (cJ, 7712, .inr (.inl g_nextWays))), (y_states, .inl (cI, 7712, .inl g_states)), (y_nextStates, .inl (cI, 7712, .inl g_nextStates)), (p0, .inr (1, vL 18 F_p0_)), (h_p0_settings, .inl (cI, 5, .inl f_p0_settings)), (h_p0_push, .inl (cI, 12, .inl f_p0_push)), (h_p0_feet, .inl (cI, 12, .inl f_p0_feet)), (h_p0_weight, .inl (cI, 12, .inl f_p0_weight)), (h_p0_length, .inl (cI, 12, .inl f_p0_length)), (h_p0_drop, .inl (cI, 12, .inl f_p0_drop)), (h_p0_ideal, .inl (cI, 12, .inl f_p0_ideal)), (h_p0_over, .inl (cI, 12, .inl f_p0_over)), (h_p0_bestAt, .inl (cI, 6, .inl f_p0_bestAt)), (h_p0_bad, .inl (cI, 6, .inl f_p0_bad)), (p1, .inr (5, vL 11 F_p1_)), (h_p1_crew, .inl (cI, 4, .inl f_p1_crew)), (h_p1_high, .inl (cI, 12, .inl f_p1_high)), (p2, .inr (7, vL 18 G_p2_)), (h_p2_paceBehind, .inl (cI, 12, .inl g_p2_paceBehind))]) (PO D A) A) [.ref h0, .ref p0, .ref p1, .ref p2].toArray s 0 0 A) (F0 m 74 ls [])) ?_ (0, G41, u47, w49, w51) ⟨⟨by decide, by decide⟩, SAME.rf, i59, i61, i63⟩ _ _ _ hP hD hS hl
        rintro ⟨u110, G111, u112, w113, w114⟩ ⟨i115, i116, i117, i118, i119⟩ ih H locs ls hP hD hS hl
        have i115 : 0 ≤ u110.toInt ∧ u110.toInt ≤ 7712 := i115
        have i118 : 0 ≤ u112.toInt ∧ u112.toInt ≤ 7712 := i118
        have hP : va_P D vwCl [(h_yards, .inl (cI, 4, .inl f_yards)), (h_p0_settings, .inl (cI, 5, .inl f_p0_settings)), (h_p0_length, .inl (cI, 12, .inl f_p0_length)), (h_p0_drop, .inl (cI, 12, .inl f_p0_drop)), (h_p0_ideal, .inl (cI, 12, .inl f_p0_ideal)), (h_p0_over, .inl (cI, 12, .inl f_p0_over)), (h_p0_bestAt, .inl (cI, 6, .inl f_p0_bestAt)), (h_p0_bad, .inl (cI, 6, .inl f_p0_bad)), (h_p1_high, .inl (cI, 12, .inl f_p1_high)), (p2, .inr (7, vL 18 F_p2_)), (h_p2_paceBehind, .inl (cI, 12, .inl f_p2_paceBehind)), (h_push, .inl (cI, 4, .inl g4)), (h_reach, .inl (cI, 4, .inl g5)), (h_drag, .inl (cI, 16, .inl g6)), (p0, .inr (1, vL 18 F_p0_)), (h_p0_push, .inl (cI, 12, .inl f_p0_push)), (h_p0_feet, .inl (cI, 12, .inl f_p0_feet)), (h_p0_weight, .inl (cI, 12, .inl f_p0_weight)), (p1, .inr (5, vL 11 F_p1_)), (h_p1_crew, .inl (cI, 4, .inl f_p1_crew)), (h0, .inr (3, vL 10 G111)), (u42, .inl (cJ, 7712, .inr (.inl w48))), (u43, .inl (cJ, 7712, .inr (.inl w113))), (u44, .inl (cI, 7712, .inl w50)), (u45, .inl (cI, 7712, .inl w114))] H := hP
        have hD : va_D A [(h_yards, .inl (cI, 4, .inl f_yards)), (h_p0_settings, .inl (cI, 5, .inl f_p0_settings)), (h_p0_length, .inl (cI, 12, .inl f_p0_length)), (h_p0_drop, .inl (cI, 12, .inl f_p0_drop)), (h_p0_ideal, .inl (cI, 12, .inl f_p0_ideal)), (h_p0_over, .inl (cI, 12, .inl f_p0_over)), (h_p0_bestAt, .inl (cI, 6, .inl f_p0_bestAt)), (h_p0_bad, .inl (cI, 6, .inl f_p0_bad)), (h_p1_high, .inl (cI, 12, .inl f_p1_high)), (p2, .inr (7, vL 18 F_p2_)), (h_p2_paceBehind, .inl (cI, 12, .inl f_p2_paceBehind)), (h_push, .inl (cI, 4, .inl g4)), (h_reach, .inl (cI, 4, .inl g5)), (h_drag, .inl (cI, 16, .inl g6)), (p0, .inr (1, vL 18 F_p0_)), (h_p0_push, .inl (cI, 12, .inl f_p0_push)), (h_p0_feet, .inl (cI, 12, .inl f_p0_feet)), (h_p0_weight, .inl (cI, 12, .inl f_p0_weight)), (p1, .inr (5, vL 11 F_p1_)), (h_p1_crew, .inl (cI, 4, .inl f_p1_crew)), (h0, .inr (3, vL 10 G111)), (u42, .inl (cJ, 7712, .inr (.inl w48))), (u43, .inl (cJ, 7712, .inr (.inl w113))), (u44, .inl (cI, 7712, .inl w50)), (u45, .inl (cI, 7712, .inl w114))] := hD
        have hl : lv_has ls 8 [(7, .int u110), (6, .int u40), (5, .int v10), (4, .int v7), (0, .ref h0), (1, .ref p0), (2, .ref p1), (3, .ref p2)] := hl
        refine lv_iload hx hb dX3_leastTime_74 (lv_at hl 0 rfl) ?_
        refine lv_aload_n hx hb dX3_leastTime_76 rfl (lv_at hl 4 rfl) ?_
        have n120 : G111 8 = .int u46 := (SAME.at i116 (by decide) i58)
        refine get_f (D := D) (ci := 3) (v := .int u46) (C := RX3) (T := TX3) (N := 10) hx hb hw inAX3 hown hK hP 20 rfl rfl 8 (by decide) (hw _ q_917) (fun _ h9 => h9) n120 dX3_leastTime_77 ?_
        refine lv_icmp_ge (tgt := 109) hx hb dX3_leastTime_80 (by decide) (fun c121 => ?_) (fun c121 => ?_)
        · have dc121 : u46.toInt ≤ u110.toInt := le_i (a := u46.toInt) (b := u110.toInt) rfl rfl c121
          refine lv_aload_n hx hb dX3_leastTime_109 rfl (lv_at hl 4 rfl) ?_
          have n122 : G111 4 = .ref u42 := (SAME.at i116 (by decide) i54)
          have n123 : G111 5 = .ref u43 := (SAME.at i116 (by decide) i55)
          have n124 : G111 6 = .ref u44 := (SAME.at i116 (by decide) i56)
          have n125 : G111 7 = .ref u45 := (SAME.at i116 (by decide) i57)
          refine call_Vv (wr := [(h_yards, .inl (cI, 4, .inl f_yards)), (h_p0_settings, .inl (cI, 5, .inl f_p0_settings)), (h_p0_length, .inl (cI, 12, .inl f_p0_length)), (h_p0_drop, .inl (cI, 12, .inl f_p0_drop)), (h_p0_ideal, .inl (cI, 12, .inl f_p0_ideal)), (h_p0_over, .inl (cI, 12, .inl f_p0_over)), (h_p0_bestAt, .inl (cI, 6, .inl f_p0_bestAt)), (h_p0_bad, .inl (cI, 6, .inl f_p0_bad)), (h_p1_high, .inl (cI, 12, .inl f_p1_high)), (p2, .inr (7, vL 18 F_p2_)), (h_p2_paceBehind, .inl (cI, 12, .inl f_p2_paceBehind)), (h_push, .inl (cI, 4, .inl g4)), (h_reach, .inl (cI, 4, .inl g5)), (h_drag, .inl (cI, 16, .inl g6)), (p0, .inr (1, vL 18 F_p0_)), (h_p0_push, .inl (cI, 12, .inl f_p0_push)), (h_p0_feet, .inl (cI, 12, .inl f_p0_feet)), (h_p0_weight, .inl (cI, 12, .inl f_p0_weight)), (p1, .inr (5, vL 11 F_p1_)), (h_p1_crew, .inl (cI, 4, .inl f_p1_crew))]) (As := []) (rest := []) hx hb hml hown hw (m_X3_turnOverRows l D cI cJ cB cP cM cZ h0 u42 u43 u44 u45 G111 u46 u112 w48 w113 w50 w114 _ n122 n123 n124 n125 n120 i60 i117 i118 i62 i119) wV_X3_70_X3_turnOverRows dX3_leastTime_110 hK hP hD hS hA [20, 21, 22, 23, 24] [0, 1, 2, 3, 4, 5, 6, 7, 8, 9, 10, 11, 12, 13, 14, 15, 16, 17, 18, 19] rfl rfl (by decide) (by decide) (by decide) 0 3 rfl rfl GG.fb hG.at hl.1 rfl (Nat.le_of_ble_eq_true rfl) ⟨(Nat.le_of_ble_eq_true rfl), (Nat.le_of_ble_eq_true rfl)⟩ ⟨(Nat.le_of_ble_eq_true rfl), (Nat.le_of_ble_eq_true rfl)⟩ (fun u H locs hp hP hD hS => ?_)
          obtain ⟨F127, g128, g129, g130, g131, t132, t133, t134, t135, t136, t137, t138, t139, t140, rfl⟩ := hp
          have hP : va_P D vwCl [(h_yards, .inl (cI, 4, .inl f_yards)), (h_p0_settings, .inl (cI, 5, .inl f_p0_settings)), (h_p0_length, .inl (cI, 12, .inl f_p0_length)), (h_p0_drop, .inl (cI, 12, .inl f_p0_drop)), (h_p0_ideal, .inl (cI, 12, .inl f_p0_ideal)), (h_p0_over, .inl (cI, 12, .inl f_p0_over)), (h_p0_bestAt, .inl (cI, 6, .inl f_p0_bestAt)), (h_p0_bad, .inl (cI, 6, .inl f_p0_bad)), (h_p1_high, .inl (cI, 12, .inl f_p1_high)), (p2, .inr (7, vL 18 F_p2_)), (h_p2_paceBehind, .inl (cI, 12, .inl f_p2_paceBehind)), (h_push, .inl (cI, 4, .inl g4)), (h_reach, .inl (cI, 4, .inl g5)), (h_drag, .inl (cI, 16, .inl g6)), (p0, .inr (1, vL 18 F_p0_)), (h_p0_push, .inl (cI, 12, .inl f_p0_push)), (h_p0_feet, .inl (cI, 12, .inl f_p0_feet)), (h_p0_weight, .inl (cI, 12, .inl f_p0_weight)), (p1, .inr (5, vL 11 F_p1_)), (h_p1_crew, .inl (cI, 4, .inl f_p1_crew)), (h0, .inr (3, vL 10 F127)), (u43, .inl (cJ, 7712, .inr (.inl g128))), (u42, .inl (cJ, 7712, .inr (.inl g129))), (u45, .inl (cI, 7712, .inl g130)), (u44, .inl (cI, 7712, .inl g131))] H := hP
          have hD : va_D A [(h_yards, .inl (cI, 4, .inl f_yards)), (h_p0_settings, .inl (cI, 5, .inl f_p0_settings)), (h_p0_length, .inl (cI, 12, .inl f_p0_length)), (h_p0_drop, .inl (cI, 12, .inl f_p0_drop)), (h_p0_ideal, .inl (cI, 12, .inl f_p0_ideal)), (h_p0_over, .inl (cI, 12, .inl f_p0_over)), (h_p0_bestAt, .inl (cI, 6, .inl f_p0_bestAt)), (h_p0_bad, .inl (cI, 6, .inl f_p0_bad)), (h_p1_high, .inl (cI, 12, .inl f_p1_high)), (p2, .inr (7, vL 18 F_p2_)), (h_p2_paceBehind, .inl (cI, 12, .inl f_p2_paceBehind)), (h_push, .inl (cI, 4, .inl g4)), (h_reach, .inl (cI, 4, .inl g5)), (h_drag, .inl (cI, 16, .inl g6)), (p0, .inr (1, vL 18 F_p0_)), (h_p0_push, .inl (cI, 12, .inl f_p0_push)), (h_p0_feet, .inl (cI, 12, .inl f_p0_feet)), (h_p0_weight, .inl (cI, 12, .inl f_p0_weight)), (p1, .inr (5, vL 11 F_p1_)), (h_p1_crew, .inl (cI, 4, .inl f_p1_crew)), (h0, .inr (3, vL 10 F127)), (u43, .inl (cJ, 7712, .inr (.inl g128))), (u42, .inl (cJ, 7712, .inr (.inl g129))), (u45, .inl (cI, 7712, .inl g130)), (u44, .inl (cI, 7712, .inl g131))] := hD
          refine W.widen (k := 0) (n := 0) (Nat.le_of_ble_eq_true rfl) (Nat.le_of_ble_eq_true rfl) ?_
          obtain ⟨v141, ev141⟩ : ∃ z : Int32, z = u40 + 1 := ⟨_, rfl⟩
          have bv141 : v141.toInt = u40.toInt + 1 := by rw [ev141]; exact add_k rfl rfl k109 ⟨Int.le_refl _, Int.le_refl _⟩ (by decide)
          have k142 : 1 ≤ v141.toInt ∧ v141.toInt ≤ 40 := add_r bv141 k109 ⟨Int.le_refl _, Int.le_refl _⟩ (by decide)
          refine lv_iinc (v := v141) (lv' := [(6, .int v141), (7, .int u110), (5, .int v10), (4, .int v7), (0, .ref h0), (1, .ref p0), (2, .ref p1), (3, .ref p2)]) hx hb dX3_leastTime_113 hl (k := 1) rfl (by rw [ev141]; rfl) (by decide) rfl (fun ls hl => ?_)
          refine lv_goto (tgt := 57) hx hb dX3_leastTime_116 (by decide) ?_
          exact ih (v141, F127, u43, u42, u45, u44, u112, 0, g128, g129, g130, g131) ⟨(ir_wk k142 (by decide) (by decide)), (SAME.tr (SAME.tr (SAME.tr SAME.rf i53 (by decide)) i116 (by decide)) t132 (by decide)), t133, t134, t135, t136, t137, t138, i118, ⟨by decide, by decide⟩, t139, t140⟩ (by show (40 - v141.toInt).toNat < (40 - u40.toInt).toNat; omega) _ _ _ hP hD hS (lv_sub hl [0, 2, 3, 4, 5, 6, 7] rfl)
        · have dc121 : u110.toInt < u46.toInt := nle_i (a := u46.toInt) (b := u110.toInt) rfl rfl c121
          have k143 : 0 ≤ u110.toInt ∧ u110.toInt ≤ 7711 := ⟨i115.1, up_lt dc121 i60.2 (by decide)⟩
          have k144 : 1 ≤ u46.toInt ∧ u46.toInt ≤ 7712 := ⟨lo_lt dc121 i115.1 (by decide), i60.2⟩
          refine lv_aload_n hx hb dX3_leastTime_83 rfl (lv_at hl 4 rfl) ?_
          refine lv_aload_n hx hb dX3_leastTime_84 rfl (lv_at hl 4 rfl) ?_
          have n145 : G111 6 = .ref u44 := (SAME.at i116 (by decide) i56)
          refine get_f (D := D) (ci := 3) (v := .ref u44) (C := RX3) (T := TX3) (N := 10) hx hb hw inAX3 hown hK hP 20 rfl rfl 6 (by decide) (hw _ q_915) (fun _ h9 => h9) n145 dX3_leastTime_85 ?_
          refine lv_iload hx hb dX3_leastTime_88 (lv_at hl 0 rfl) ?_
          refine va_iald hx hb hK hP 23 0 rfl rfl (ix_k k143 (by decide) (by decide)) dX3_leastTime_90 ?_
          refine lv_topi (fun v146 ev146 => ?_)
          have k147 : 0 ≤ v146.toInt ∧ v146.toInt ≤ 7711 := by rw [ev146]; exact i62.at _ (Int.le_trans (by decide) k143.1) (Int.le_trans k143.2 (by decide))
          refine lv_iload hx hb dX3_leastTime_91 (lv_at hl 1 rfl) ?_
          refine lv_iload hx hb dX3_leastTime_93 (lv_at hl 2 rfl) ?_
          refine lv_iconst (v := 1) hx hb dX3_leastTime_95 (by decide) ?_
          refine lv_isub hx hb dX3_leastTime_96 ?_
          refine lv_topi (fun v148 ev148 => ?_)
          have bv148 : v148.toInt = v10.toInt - 1 := by rw [ev148]; exact sub_k rfl rfl k86 ⟨Int.le_refl _, Int.le_refl _⟩ (by decide)
          have k149 : 0 ≤ v148.toInt ∧ v148.toInt ≤ 2147483646 := sub_r bv148 k86 ⟨Int.le_refl _, Int.le_refl _⟩ (by decide)
          refine lv_iload hx hb dX3_leastTime_97 (lv_at hl 1 rfl) ?_
          refine lv_isub hx hb dX3_leastTime_99 ?_
          refine lv_topi (fun v150 ev150 => ?_)
          have bv150 : v150.toInt = v148.toInt - u40.toInt := by rw [ev150]; exact sub_k rfl rfl k149 k109 (by decide)
          have k151 : (-39) ≤ v150.toInt ∧ v150.toInt ≤ 2147483646 := sub_r bv150 k149 k109 (by decide)
          have n152 : F12 1 = .ref h_push := (SAME.at t16 (by decide) e_push)
          have n153 : F26 1 = .ref h_push := (SAME.at t31 (by decide) n152)
          have n154 : G41 1 = .ref h_push := (SAME.at i53 (by decide) n153)
          have n155 : G111 1 = .ref h_push := (SAME.at i116 (by decide) n154)
          have n156 : F12 2 = .ref h_reach := (SAME.at t16 (by decide) e_reach)
          have n157 : F26 2 = .ref h_reach := (SAME.at t31 (by decide) n156)
          have n158 : G41 2 = .ref h_reach := (SAME.at i53 (by decide) n157)
          have n159 : G111 2 = .ref h_reach := (SAME.at i116 (by decide) n158)
          have n160 : F12 3 = .ref h_drag := (SAME.at t16 (by decide) e_drag)
          have n161 : F26 3 = .ref h_drag := (SAME.at t31 (by decide) n160)
          have n162 : G41 3 = .ref h_drag := (SAME.at i53 (by decide) n161)
          have n163 : G111 3 = .ref h_drag := (SAME.at i116 (by decide) n162)
          have n164 : G111 4 = .ref u42 := (SAME.at i116 (by decide) i54)
          have n165 : G111 5 = .ref u43 := (SAME.at i116 (by decide) i55)
          have n166 : G111 7 = .ref u45 := (SAME.at i116 (by decide) i57)
          refine call_Vv (wr := [(h_yards, .inl (cI, 4, .inl f_yards)), (h_p0_settings, .inl (cI, 5, .inl f_p0_settings)), (h_p0_length, .inl (cI, 12, .inl f_p0_length)), (h_p0_drop, .inl (cI, 12, .inl f_p0_drop)), (h_p0_ideal, .inl (cI, 12, .inl f_p0_ideal)), (h_p0_over, .inl (cI, 12, .inl f_p0_over)), (h_p0_bestAt, .inl (cI, 6, .inl f_p0_bestAt)), (h_p0_bad, .inl (cI, 6, .inl f_p0_bad)), (h_p1_high, .inl (cI, 12, .inl f_p1_high)), (p2, .inr (7, vL 18 F_p2_)), (h_p2_paceBehind, .inl (cI, 12, .inl f_p2_paceBehind)), (p0, .inr (1, vL 18 F_p0_)), (h_p0_push, .inl (cI, 12, .inl f_p0_push)), (h_p0_feet, .inl (cI, 12, .inl f_p0_feet)), (h_p0_weight, .inl (cI, 12, .inl f_p0_weight)), (p1, .inr (5, vL 11 F_p1_)), (h_p1_crew, .inl (cI, 4, .inl f_p1_crew)), (u44, .inl (cI, 7712, .inl w50))]) (As := [.int v146, .int u40, .int v150]) (rest := []) hx hb hml hown hw (m_X3_goOn l D cI cJ cB cP cM cZ h0 h_push h_reach h_drag u42 u43 u45 G111 u112 g4 g5 g6 w48 w113 w114 v146 u40 v150 _ n155 n159 n163 n164 n165 n166 i117 i118 i119 k147) wV_X3_73_X3_goOn dX3_leastTime_100 hK hP hD hS hA [20, 11, 12, 13, 21, 22, 24] [0, 1, 2, 3, 4, 5, 6, 7, 8, 9, 10, 14, 15, 16, 17, 18, 19, 23] rfl rfl (by decide) (by decide) (by decide) 0 3 rfl rfl GG.fb hG.at hl.1 rfl (Nat.le_of_ble_eq_true rfl) ⟨(Nat.le_of_ble_eq_true rfl), (Nat.le_of_ble_eq_true rfl)⟩ ⟨(Nat.le_of_ble_eq_true rfl), (Nat.le_of_ble_eq_true rfl)⟩ (fun u H locs hp hP hD hS => ?_)
          obtain ⟨F168, y169, g170, g171, t172, t173, t174, t175, rfl⟩ := hp
          have hP : va_P D vwCl [(h_yards, .inl (cI, 4, .inl f_yards)), (h_p0_settings, .inl (cI, 5, .inl f_p0_settings)), (h_p0_length, .inl (cI, 12, .inl f_p0_length)), (h_p0_drop, .inl (cI, 12, .inl f_p0_drop)), (h_p0_ideal, .inl (cI, 12, .inl f_p0_ideal)), (h_p0_over, .inl (cI, 12, .inl f_p0_over)), (h_p0_bestAt, .inl (cI, 6, .inl f_p0_bestAt)), (h_p0_bad, .inl (cI, 6, .inl f_p0_bad)), (h_p1_high, .inl (cI, 12, .inl f_p1_high)), (p2, .inr (7, vL 18 F_p2_)), (h_p2_paceBehind, .inl (cI, 12, .inl f_p2_paceBehind)), (p0, .inr (1, vL 18 F_p0_)), (h_p0_push, .inl (cI, 12, .inl f_p0_push)), (h_p0_feet, .inl (cI, 12, .inl f_p0_feet)), (h_p0_weight, .inl (cI, 12, .inl f_p0_weight)), (p1, .inr (5, vL 11 F_p1_)), (h_p1_crew, .inl (cI, 4, .inl f_p1_crew)), (u44, .inl (cI, 7712, .inl w50)), (h0, .inr (3, vL 10 F168)), (h_push, .inl (cI, 4, .inl g4)), (h_reach, .inl (cI, 4, .inl g5)), (h_drag, .inl (cI, 16, .inl g6)), (u42, .inl (cJ, 7712, .inr (.inl w48))), (u43, .inl (cJ, 7712, .inr (.inl g170))), (u45, .inl (cI, 7712, .inl g171))] H := hP
          have hD : va_D A [(h_yards, .inl (cI, 4, .inl f_yards)), (h_p0_settings, .inl (cI, 5, .inl f_p0_settings)), (h_p0_length, .inl (cI, 12, .inl f_p0_length)), (h_p0_drop, .inl (cI, 12, .inl f_p0_drop)), (h_p0_ideal, .inl (cI, 12, .inl f_p0_ideal)), (h_p0_over, .inl (cI, 12, .inl f_p0_over)), (h_p0_bestAt, .inl (cI, 6, .inl f_p0_bestAt)), (h_p0_bad, .inl (cI, 6, .inl f_p0_bad)), (h_p1_high, .inl (cI, 12, .inl f_p1_high)), (p2, .inr (7, vL 18 F_p2_)), (h_p2_paceBehind, .inl (cI, 12, .inl f_p2_paceBehind)), (p0, .inr (1, vL 18 F_p0_)), (h_p0_push, .inl (cI, 12, .inl f_p0_push)), (h_p0_feet, .inl (cI, 12, .inl f_p0_feet)), (h_p0_weight, .inl (cI, 12, .inl f_p0_weight)), (p1, .inr (5, vL 11 F_p1_)), (h_p1_crew, .inl (cI, 4, .inl f_p1_crew)), (u44, .inl (cI, 7712, .inl w50)), (h0, .inr (3, vL 10 F168)), (h_push, .inl (cI, 4, .inl g4)), (h_reach, .inl (cI, 4, .inl g5)), (h_drag, .inl (cI, 16, .inl g6)), (u42, .inl (cJ, 7712, .inr (.inl w48))), (u43, .inl (cJ, 7712, .inr (.inl g170))), (u45, .inl (cI, 7712, .inl g171))] := hD
          refine W.widen (k := 0) (n := 0) (Nat.le_of_ble_eq_true rfl) (Nat.le_of_ble_eq_true rfl) ?_
          obtain ⟨v176, ev176⟩ : ∃ z : Int32, z = u110 + 1 := ⟨_, rfl⟩
          have bv176 : v176.toInt = u110.toInt + 1 := by rw [ev176]; exact add_k rfl rfl k143 ⟨Int.le_refl _, Int.le_refl _⟩ (by decide)
          have k177 : 1 ≤ v176.toInt ∧ v176.toInt ≤ 7712 := add_r bv176 k143 ⟨Int.le_refl _, Int.le_refl _⟩ (by decide)
          refine lv_iinc (v := v176) (lv' := [(7, .int v176), (6, .int u40), (5, .int v10), (4, .int v7), (0, .ref h0), (1, .ref p0), (2, .ref p1), (3, .ref p2)]) hx hb dX3_leastTime_103 hl (k := 0) rfl (by rw [ev176]; rfl) (by decide) rfl (fun ls hl => ?_)
          refine lv_goto (tgt := 74) hx hb dX3_leastTime_106 (by decide) ?_
          exact ih (v176, F168, y169, g170, g171) ⟨(ir_wk k177 (by decide) (by decide)), (SAME.tr (SAME.tr SAME.rf i116 (by decide)) t172 (by decide)), t173, t174, t175⟩ (by show (7712 - v176.toInt).toNat < (7712 - u110.toInt).toNat; omega) _ _ _ (hP.sub [0, 1, 2, 3, 4, 5, 6, 7, 8, 9, 10, 19, 20, 21, 11, 12, 13, 14, 15, 16, 18, 22, 23, 17, 24] rfl) (hD.sub [0, 1, 2, 3, 4, 5, 6, 7, 8, 9, 10, 19, 20, 21, 11, 12, 13, 14, 15, 16, 18, 22, 23, 17, 24] (by decide) rfl) hS (lv_sub hl [0, 1, 2, 3, 4, 5, 6, 7] rfl)
  · have dc9 : v8.toInt < v7.toInt := nle_i (a := v7.toInt) (b := v8.toInt) rfl rfl c9
    have k178 : (-2147483648) ≤ v8.toInt ∧ v8.toInt ≤ 2147483646 := ⟨(ir_any _).1, up_lt dc9 (ir_any _).2 (by decide)⟩
    have k179 : (-2147483647) ≤ v7.toInt ∧ v7.toInt ≤ 2147483647 := ⟨lo_lt dc9 (ir_any _).1 (by decide), (ir_any _).2⟩
    refine lv_iconst (v := (-1)) hx hb dX3_leastTime_31 (by decide) ?_
    exact ret_i (v := (-1)) hx hb hr hlocks hS (hP.sub (ws' := [(h0, .inr (3, vL 10 Fh)), (h_yards, .inl (cI, 4, .inl f_yards)), (h_push, .inl (cI, 4, .inl g4)), (h_reach, .inl (cI, 4, .inl g5)), (h_drag, .inl (cI, 16, .inl g6)), (h_ways, .inl (cJ, 7712, .inr (.inl f_ways))), (h_nextWays, .inl (cJ, 7712, .inr (.inl f_nextWays))), (h_states, .inl (cI, 7712, .inl f_states)), (h_nextStates, .inl (cI, 7712, .inl f_nextStates)), (p0, .inr (1, vL 18 F_p0_)), (h_p0_settings, .inl (cI, 5, .inl f_p0_settings)), (h_p0_push, .inl (cI, 12, .inl f_p0_push)), (h_p0_feet, .inl (cI, 12, .inl f_p0_feet)), (h_p0_weight, .inl (cI, 12, .inl f_p0_weight)), (h_p0_length, .inl (cI, 12, .inl f_p0_length)), (h_p0_drop, .inl (cI, 12, .inl f_p0_drop)), (h_p0_ideal, .inl (cI, 12, .inl f_p0_ideal)), (h_p0_over, .inl (cI, 12, .inl f_p0_over)), (h_p0_bestAt, .inl (cI, 6, .inl f_p0_bestAt)), (h_p0_bad, .inl (cI, 6, .inl f_p0_bad)), (p1, .inr (5, vL 11 F_p1_)), (h_p1_crew, .inl (cI, 4, .inl f_p1_crew)), (h_p1_high, .inl (cI, 12, .inl f_p1_high)), (p2, .inr (7, vL 18 F_p2_)), (h_p2_paceBehind, .inl (cI, 12, .inl f_p2_paceBehind))]) [15, 0, 16, 17, 18, 1, 2, 3, 4, 19, 5, 20, 21, 22, 6, 7, 8, 9, 10, 11, 23, 24, 12, 13, 14] rfl) (hD.sub (ws' := [(h0, .inr (3, vL 10 Fh)), (h_yards, .inl (cI, 4, .inl f_yards)), (h_push, .inl (cI, 4, .inl g4)), (h_reach, .inl (cI, 4, .inl g5)), (h_drag, .inl (cI, 16, .inl g6)), (h_ways, .inl (cJ, 7712, .inr (.inl f_ways))), (h_nextWays, .inl (cJ, 7712, .inr (.inl f_nextWays))), (h_states, .inl (cI, 7712, .inl f_states)), (h_nextStates, .inl (cI, 7712, .inl f_nextStates)), (p0, .inr (1, vL 18 F_p0_)), (h_p0_settings, .inl (cI, 5, .inl f_p0_settings)), (h_p0_push, .inl (cI, 12, .inl f_p0_push)), (h_p0_feet, .inl (cI, 12, .inl f_p0_feet)), (h_p0_weight, .inl (cI, 12, .inl f_p0_weight)), (h_p0_length, .inl (cI, 12, .inl f_p0_length)), (h_p0_drop, .inl (cI, 12, .inl f_p0_drop)), (h_p0_ideal, .inl (cI, 12, .inl f_p0_ideal)), (h_p0_over, .inl (cI, 12, .inl f_p0_over)), (h_p0_bestAt, .inl (cI, 6, .inl f_p0_bestAt)), (h_p0_bad, .inl (cI, 6, .inl f_p0_bad)), (p1, .inr (5, vL 11 F_p1_)), (h_p1_crew, .inl (cI, 4, .inl f_p1_crew)), (h_p1_high, .inl (cI, 12, .inl f_p1_high)), (p2, .inr (7, vL 18 F_p2_)), (h_p2_paceBehind, .inl (cI, 12, .inl f_p2_paceBehind))]) [15, 0, 16, 17, 18, 1, 2, 3, 4, 19, 5, 20, 21, 22, 6, 7, 8, 9, 10, 11, 23, 24, 12, 13, 14] (by decide) rfl) dX3_leastTime_32 rfl (Nat.le_of_ble_eq_true rfl) (Nat.le_of_ble_eq_true rfl) ⟨Fh, h_ways, h_nextWays, h_states, h_nextStates, x_stateCount, x_nextCount, F_p2_, x_p2_lastPace, x_p2_gone, x_p2_overAt, f_yards, g4, g5, g6, f_ways, f_nextWays, f_states, f_nextStates, f_p2_paceBehind, SAME.rf, e_ways, e_nextWays, e_states, e_nextStates, e_stateCount, i_x_stateCount, e_nextCount, i_x_nextCount, SAME.rf, e_p2_lastPace, e_p2_gone, e_p2_overAt, s_states_0, s_nextStates_0, rfl⟩
set_option maxHeartbeats 4000000 in
set_option maxRecDepth 100000 in
theorem m_J7_fill_d0a16_2410 (l : Launch) (D : va_G) (cI cJ cB cP cM cZ : ClassId) (p0 : Nat) (f_p0 : Nat → Int64) (p1 : Int64) (sz : Nat)  : CV l yJ7_fill_d0a16 cJ7_fill_d0a16 5 none { frames := 0, cells := 0, slots := 0, locals := 0 } (GG D cI cJ cB cP cM cZ) D [(p0, .inl (cJ, 2410, .inr (.inl f_p0)))] sz [.ref p0, .long p1] (fun (u : va_W) => ∃ (g_p0 : Nat → Int64), u = [(p0, .inl (cJ, 2410, .inr (.inl g_p0)))]) := by
  refine CV_mk (by decide) (Nat.le_of_ble_eq_true rfl) ?_
  intro p e s m below meth c A ls E hAe hG hsz hP hD hA hS hl
  obtain ⟨hx, hb, hr, hw, hown, hlocks, hml, hnm⟩ := E
  have hK := hG.1
  have hl : lv_has ls 5 [(0, .ref p0), (1, .long p1)] := hl
  refine lv_iconst (v := 0) hx hb dJ7_fill_d0a16_0 (by decide) ?_
  refine lv_istore_n (lv' := [(3, .int 0), (0, .ref p0), (1, .long p1)]) hx hb dJ7_fill_d0a16_1 rfl hl (by decide) rfl (fun ls hl => ?_)
  refine lv_aload_n hx hb dJ7_fill_d0a16_2 rfl (lv_at hl 1 rfl) ?_
  refine va_alen (v := 2410) hx hb hK hP 0 1 rfl rfl rfl dJ7_fill_d0a16_3 ?_
  refine lv_istore (lv' := [(4, .int 2410), (3, .int 0), (0, .ref p0), (1, .long p1)]) hx hb dJ7_fill_d0a16_4 hl (by decide) rfl (fun ls hl => ?_)
  refine mloop (α := (Int32) × (Nat → Int64)) (nL := 5) (D := D) (A := A) (H0 := s.heap) (fun a => (7712 - a.1.toInt).toNat) (fun a => IR 0 7712 a.1) (fun a => [(p0, .inl (cJ, 2410, .inr (.inl a.2)))]) (fun a => [(4, .int 2410), (3, .int a.1), (0, .ref p0), (1, .long p1)]) (fun H locs ls => W p l e ({ frames := 0, cells := 0, slots := 0, locals := 0 } : Room) s m [.ref p0, .long p1].toArray below meth c H locs 0 0 (MQ below (va_Qv (fun (u : va_W) => ∃ (g_p0 : Nat → Int64), u = [(p0, .inl (cJ, 2410, .inr (.inl g_p0)))]) (PO D A) A) [.ref p0, .long p1].toArray s 0 0 A) (F0 m 6 ls [])) ?_ (0, f_p0) ⟨by decide, by decide⟩ _ _ _ hP hD hS hl
  rintro ⟨u1, w2⟩ i3 ih H locs ls hP hD hS hl
  have i3 : 0 ≤ u1.toInt ∧ u1.toInt ≤ 7712 := i3
  have hP : va_P D vwCl [(p0, .inl (cJ, 2410, .inr (.inl w2)))] H := hP
  have hD : va_D A [(p0, .inl (cJ, 2410, .inr (.inl w2)))] := hD
  have hl : lv_has ls 5 [(4, .int 2410), (3, .int u1), (0, .ref p0), (1, .long p1)] := hl
  refine lv_iload_n hx hb dJ7_fill_d0a16_6 rfl (lv_at hl 1 rfl) ?_
  refine lv_iload hx hb dJ7_fill_d0a16_7 (lv_at hl 0 rfl) ?_
  refine lv_icmp_ge (tgt := 22) hx hb dJ7_fill_d0a16_9 (by decide) (fun c4 => ?_) (fun c4 => ?_)
  · have dc4 : 2410 ≤ u1.toInt := le_i (a := 2410) (b := u1.toInt) rfl rfl c4
    have k5 : 2410 ≤ u1.toInt ∧ u1.toInt ≤ 7712 := ⟨Int.le_trans (Int.le_refl _) dc4, i3.2⟩
    exact ret_v hx hb hr hlocks hS hP hD dJ7_fill_d0a16_22 (Nat.le_of_ble_eq_true rfl) (Nat.le_of_ble_eq_true rfl) ⟨w2, rfl⟩
  · have dc4 : u1.toInt < 2410 := nle_i (a := 2410) (b := u1.toInt) rfl rfl c4
    have k6 : 0 ≤ u1.toInt ∧ u1.toInt ≤ 2409 := ⟨i3.1, up_lt dc4 (Int.le_refl _) (by decide)⟩
    refine lv_aload_n hx hb dJ7_fill_d0a16_12 rfl (lv_at hl 2 rfl) ?_
    refine lv_iload_n hx hb dJ7_fill_d0a16_13 rfl (lv_at hl 1 rfl) ?_
    refine lv_lload_n hx hb dJ7_fill_d0a16_14 rfl (lv_at hl 3 rfl) ?_
    obtain ⟨g7, eg7⟩ : ∃ z : Nat → Int64, vp_updL w2 u1.toNatClampNeg p1 = z := ⟨_, rfl⟩
    refine last_g hx hb hK hP hD hS 0 1 rfl rfl (ix_k k6 (by decide) (by decide)) eg7 dJ7_fill_d0a16_15 (fun H locs hP hD hS => ?_)
    have hP : va_P D vwCl [(p0, .inl (cJ, 2410, .inr (.inl g7)))] H := hP
    have hD : va_D A [(p0, .inl (cJ, 2410, .inr (.inl g7)))] := hD
    obtain ⟨v8, ev8⟩ : ∃ z : Int32, z = u1 + 1 := ⟨_, rfl⟩
    have bv8 : v8.toInt = u1.toInt + 1 := by rw [ev8]; exact add_k rfl rfl k6 ⟨Int.le_refl _, Int.le_refl _⟩ (by decide)
    have k9 : 1 ≤ v8.toInt ∧ v8.toInt ≤ 2410 := add_r bv8 k6 ⟨Int.le_refl _, Int.le_refl _⟩ (by decide)
    refine lv_iinc (v := v8) (lv' := [(3, .int v8), (4, .int 2410), (0, .ref p0), (1, .long p1)]) hx hb dJ7_fill_d0a16_16 hl (k := 1) rfl (by rw [ev8]; rfl) (by decide) rfl (fun ls hl => ?_)
    refine lv_goto (tgt := 6) hx hb dJ7_fill_d0a16_19 (by decide) ?_
    exact ih (v8, g7) (ir_wk k9 (by decide) (by decide)) (by show (7712 - v8.toInt).toNat < (7712 - u1.toInt).toNat; omega) _ _ _ hP hD hS (lv_sub hl [1, 0, 2, 3] rfl)
set_option maxHeartbeats 4000000 in
set_option maxRecDepth 100000 in
theorem m_X4_goOn (l : Launch) (D : va_G) (cI cJ cB cP cM cZ : ClassId) (h0 : Nat) (h_ways : Nat) (h_nextWays : Nat) (p0 : Nat) (h_p0_length : Nat) (h_p0_ideal : Nat) (h_p0_over : Nat) (Fh : Nat → Value) (f_ways : Nat → Int64) (f_nextWays : Nat → Int64) (F_p0_ : Nat → Value) (f_p0_length : Nat → Int32) (f_p0_ideal : Nat → Int32) (f_p0_over : Nat → Int32) (p1 : Int32) (p2 : Int32) (p3 : Int32) (p4 : Int64) (sz : Nat) (e_ways : Fh 1 = .ref h_ways) (e_nextWays : Fh 2 = .ref h_nextWays) (e_p0_length : F_p0_ 6 = .ref h_p0_length) (e_p0_ideal : F_p0_ 8 = .ref h_p0_ideal) (e_p0_over : F_p0_ 9 = .ref h_p0_over) (i_p1 : IR 0 11 p1) (i_p2 : IR 0 2409 p2) : CV l yX4_goOn cX4_goOn 14 none { frames := 2, cells := 0, slots := 0, locals := 63 } (GG D cI cJ cB cP cM cZ) D [(h0, .inr (4, vL 3 Fh)), (h_ways, .inl (cJ, 2410, .inr (.inl f_ways))), (h_nextWays, .inl (cJ, 2410, .inr (.inl f_nextWays))), (p0, .inr (1, vL 18 F_p0_)), (h_p0_length, .inl (cI, 12, .inl f_p0_length)), (h_p0_ideal, .inl (cI, 12, .inl f_p0_ideal)), (h_p0_over, .inl (cI, 12, .inl f_p0_over))] sz [.ref h0, .ref p0, .int p1, .int p2, .int p3, .long p4] (fun (u : va_W) => ∃ (g_nextWays : Nat → Int64), u = [(h0, .inr (4, vL 3 Fh)), (h_ways, .inl (cJ, 2410, .inr (.inl f_ways))), (h_nextWays, .inl (cJ, 2410, .inr (.inl g_nextWays))), (p0, .inr (1, vL 18 F_p0_)), (h_p0_length, .inl (cI, 12, .inl f_p0_length)), (h_p0_ideal, .inl (cI, 12, .inl f_p0_ideal)), (h_p0_over, .inl (cI, 12, .inl f_p0_over))]) := by
  refine CV_mk (by decide) (Nat.le_of_ble_eq_true rfl) ?_
  intro p e s m below meth c A ls E hAe hG hsz hP hD hA hS hl
  obtain ⟨hx, hb, hr, hw, hown, hlocks, hml, hnm⟩ := E
  have hK := hG.1
  have i_p1 : 0 ≤ p1.toInt ∧ p1.toInt ≤ 11 := i_p1
  have i_p2 : 0 ≤ p2.toInt ∧ p2.toInt ≤ 2409 := i_p2
  have hl : lv_has ls 14 [(0, .ref h0), (1, .ref p0), (2, .int p1), (3, .int p2), (4, .int p3), (5, .long p4)] := hl
  refine lv_iload_n hx hb dX4_goOn_0 rfl (lv_at hl 3 rfl) ?_
  refine lv_bipush (v := 10) hx hb dX4_goOn_1 (by decide) ?_
  refine lv_idiv hx hb dX4_goOn_3 (by decide) ?_
  refine lv_topi (fun v1 ev1 => ?_)
  have bv1 : v1.toInt = p2.toInt / 10 := by rw [ev1]; exact div_i rfl rfl (Int.le_trans (by decide) i_p2.1) (by decide)
  have k2 : 0 ≤ v1.toInt ∧ v1.toInt ≤ 240 := div_r bv1 i_p2 (by decide)
  refine lv_bipush (v := 10) hx hb dX4_goOn_4 (by decide) ?_
  refine lv_iadd hx hb dX4_goOn_6 ?_
  refine lv_topi (fun v3 ev3 => ?_)
  have bv3 : v3.toInt = v1.toInt + 10 := by rw [ev3]; exact add_k rfl rfl k2 ⟨Int.le_refl _, Int.le_refl _⟩ (by decide)
  have k4 : 10 ≤ v3.toInt ∧ v3.toInt ≤ 250 := add_r bv3 k2 ⟨Int.le_refl _, Int.le_refl _⟩ (by decide)
  refine lv_iload hx hb dX4_goOn_7 (lv_at hl 4 rfl) ?_
  refine lv_iadd hx hb dX4_goOn_9 ?_
  refine lv_topi (fun v5 ev5 => ?_)
  refine lv_istore (lv' := [(7, .int v5), (0, .ref h0), (1, .ref p0), (2, .int p1), (3, .int p2), (4, .int p3), (5, .long p4)]) hx hb dX4_goOn_10 hl (by decide) rfl (fun ls hl => ?_)
  refine lv_iload_n hx hb dX4_goOn_12 rfl (lv_at hl 4 rfl) ?_
  refine lv_bipush (v := 10) hx hb dX4_goOn_13 (by decide) ?_
  refine lv_irem hx hb dX4_goOn_15 (by decide) ?_
  refine lv_topi (fun v6 ev6 => ?_)
  have bv6 : v6.toInt = p2.toInt % 10 := by rw [ev6]; exact rem_i rfl rfl (Int.le_trans (by decide) i_p2.1) (by decide)
  have k7 : 0 ≤ v6.toInt ∧ v6.toInt ≤ 9 := rem_r bv6 (by decide)
  refine lv_istore (lv' := [(8, .int v6), (7, .int v5), (0, .ref h0), (1, .ref p0), (2, .int p1), (3, .int p2), (4, .int p3), (5, .long p4)]) hx hb dX4_goOn_16 hl (by decide) rfl (fun ls hl => ?_)
  refine lv_iconst (v := 0) hx hb dX4_goOn_18 (by decide) ?_
  refine lv_istore (lv' := [(9, .int 0), (8, .int v6), (7, .int v5), (0, .ref h0), (1, .ref p0), (2, .int p1), (3, .int p2), (4, .int p3), (5, .long p4)]) hx hb dX4_goOn_19 hl (by decide) rfl (fun ls hl => ?_)
  refine mloop (α := (Int32) × (Nat → Int64)) (nL := 14) (D := D) (A := A) (H0 := s.heap) (fun a => (10 - a.1.toInt).toNat) (fun a => IR 0 10 a.1) (fun a => [(h0, .inr (4, vL 3 Fh)), (h_ways, .inl (cJ, 2410, .inr (.inl f_ways))), (h_nextWays, .inl (cJ, 2410, .inr (.inl a.2))), (p0, .inr (1, vL 18 F_p0_)), (h_p0_length, .inl (cI, 12, .inl f_p0_length)), (h_p0_ideal, .inl (cI, 12, .inl f_p0_ideal)), (h_p0_over, .inl (cI, 12, .inl f_p0_over))]) (fun a => [(9, .int a.1), (8, .int v6), (7, .int v5), (0, .ref h0), (1, .ref p0), (2, .int p1), (3, .int p2), (4, .int p3), (5, .long p4)]) (fun H locs ls => W p l e ({ frames := 2, cells := 0, slots := 0, locals := 63 } : Room) s m [.ref h0, .ref p0, .int p1, .int p2, .int p3, .long p4].toArray below meth c H locs 0 0 (MQ below (va_Qv (fun (u : va_W) => ∃ (g_nextWays : Nat → Int64), u = [(h0, .inr (4, vL 3 Fh)), (h_ways, .inl (cJ, 2410, .inr (.inl f_ways))), (h_nextWays, .inl (cJ, 2410, .inr (.inl g_nextWays))), (p0, .inr (1, vL 18 F_p0_)), (h_p0_length, .inl (cI, 12, .inl f_p0_length)), (h_p0_ideal, .inl (cI, 12, .inl f_p0_ideal)), (h_p0_over, .inl (cI, 12, .inl f_p0_over))]) (PO D A) A) [.ref h0, .ref p0, .int p1, .int p2, .int p3, .long p4].toArray s 0 0 A) (F0 m 21 ls [])) ?_ (0, f_nextWays) ⟨by decide, by decide⟩ _ _ _ hP hD hS hl
  rintro ⟨u8, w9⟩ i10 ih H locs ls hP hD hS hl
  have i10 : 0 ≤ u8.toInt ∧ u8.toInt ≤ 10 := i10
  have hP : va_P D vwCl [(h0, .inr (4, vL 3 Fh)), (h_ways, .inl (cJ, 2410, .inr (.inl f_ways))), (h_nextWays, .inl (cJ, 2410, .inr (.inl w9))), (p0, .inr (1, vL 18 F_p0_)), (h_p0_length, .inl (cI, 12, .inl f_p0_length)), (h_p0_ideal, .inl (cI, 12, .inl f_p0_ideal)), (h_p0_over, .inl (cI, 12, .inl f_p0_over))] H := hP
  have hD : va_D A [(h0, .inr (4, vL 3 Fh)), (h_ways, .inl (cJ, 2410, .inr (.inl f_ways))), (h_nextWays, .inl (cJ, 2410, .inr (.inl w9))), (p0, .inr (1, vL 18 F_p0_)), (h_p0_length, .inl (cI, 12, .inl f_p0_length)), (h_p0_ideal, .inl (cI, 12, .inl f_p0_ideal)), (h_p0_over, .inl (cI, 12, .inl f_p0_over))] := hD
  have hl : lv_has ls 14 [(9, .int u8), (8, .int v6), (7, .int v5), (0, .ref h0), (1, .ref p0), (2, .int p1), (3, .int p2), (4, .int p3), (5, .long p4)] := hl
  refine lv_iload hx hb dX4_goOn_21 (lv_at hl 0 rfl) ?_
  refine lv_bipush (v := 10) hx hb dX4_goOn_23 (by decide) ?_
  refine lv_icmp_ge (tgt := 127) hx hb dX4_goOn_25 (by decide) (fun c11 => ?_) (fun c11 => ?_)
  · have dc11 : 10 ≤ u8.toInt := le_i (a := 10) (b := u8.toInt) rfl rfl c11
    have k12 : 10 ≤ u8.toInt ∧ u8.toInt ≤ 10 := ⟨Int.le_trans (Int.le_refl _) dc11, i10.2⟩
    exact ret_v hx hb hr hlocks hS hP hD dX4_goOn_127 (Nat.le_of_ble_eq_true rfl) (Nat.le_of_ble_eq_true rfl) ⟨w9, rfl⟩
  · have dc11 : u8.toInt < 10 := nle_i (a := 10) (b := u8.toInt) rfl rfl c11
    have k13 : 0 ≤ u8.toInt ∧ u8.toInt ≤ 9 := ⟨i10.1, up_lt dc11 (Int.le_refl _) (by decide)⟩
    refine lv_iload hx hb dX4_goOn_28 (lv_at hl 2 rfl) ?_
    refine lv_aload_n hx hb dX4_goOn_30 rfl (lv_at hl 4 rfl) ?_
    refine lv_iload_n hx hb dX4_goOn_31 rfl (lv_at hl 5 rfl) ?_
    refine lv_iload hx hb dX4_goOn_32 (lv_at hl 0 rfl) ?_
    refine lv_iload hx hb dX4_goOn_34 (lv_at hl 1 rfl) ?_
    refine call_Vi (wr := [(h0, .inr (4, vL 3 Fh)), (h_ways, .inl (cJ, 2410, .inr (.inl f_ways))), (h_nextWays, .inl (cJ, 2410, .inr (.inl w9))), (h_p0_length, .inl (cI, 12, .inl f_p0_length)), (h_p0_over, .inl (cI, 12, .inl f_p0_over))]) (As := [.int p1, .int u8, .int v6]) (rest := [.int v5]) hx hb hml hown hw (m_X1_heightCost l D cI cJ cB cP cM cZ p0 h_p0_ideal F_p0_ f_p0_ideal p1 u8 v6 _ e_p0_ideal i_p1) wV_X4_60_X1_heightCost dX4_goOn_36 hK hP hD hS hA [3, 5] [0, 1, 2, 4, 6] rfl rfl (by decide) (by decide) (by decide) 0 1 rfl rfl GG.fb hG.at hl.1 rfl (Nat.le_of_ble_eq_true rfl) ⟨(Nat.le_of_ble_eq_true rfl), (Nat.le_of_ble_eq_true rfl)⟩ ⟨(Nat.le_of_ble_eq_true rfl), (Nat.le_of_ble_eq_true rfl)⟩ (fun r14 u H locs hp hP hD hS => ?_)
    obtain rfl := hp
    have hP : va_P D vwCl [(h0, .inr (4, vL 3 Fh)), (h_ways, .inl (cJ, 2410, .inr (.inl f_ways))), (h_nextWays, .inl (cJ, 2410, .inr (.inl w9))), (h_p0_length, .inl (cI, 12, .inl f_p0_length)), (h_p0_over, .inl (cI, 12, .inl f_p0_over)), (p0, .inr (1, vL 18 F_p0_)), (h_p0_ideal, .inl (cI, 12, .inl f_p0_ideal))] H := hP
    have hD : va_D A [(h0, .inr (4, vL 3 Fh)), (h_ways, .inl (cJ, 2410, .inr (.inl f_ways))), (h_nextWays, .inl (cJ, 2410, .inr (.inl w9))), (h_p0_length, .inl (cI, 12, .inl f_p0_length)), (h_p0_over, .inl (cI, 12, .inl f_p0_over)), (p0, .inr (1, vL 18 F_p0_)), (h_p0_ideal, .inl (cI, 12, .inl f_p0_ideal))] := hD
    refine W.widen (k := 0) (n := 0) (Nat.le_of_ble_eq_true rfl) (Nat.le_of_ble_eq_true rfl) ?_
    refine lv_isub hx hb dX4_goOn_39 ?_
    refine lv_topi (fun v15 ev15 => ?_)
    refine call_Ti (wr := [(h0, .inr (4, vL 3 Fh)), (h_ways, .inl (cJ, 2410, .inr (.inl f_ways))), (h_nextWays, .inl (cJ, 2410, .inr (.inl w9))), (h_p0_length, .inl (cI, 12, .inl f_p0_length)), (h_p0_over, .inl (cI, 12, .inl f_p0_over)), (p0, .inr (1, vL 18 F_p0_)), (h_p0_ideal, .inl (cI, 12, .inl f_p0_ideal))]) (As := [.int v15]) (rest := []) hx hb hml hown hw (m_X9_bounded l D cI cJ cB cP cM cZ v15 _ ) wT_X9_bounded (hG.2.1 (.methodLinkNest "FourSledge$LineSearch" 64 ⟨"FourSledge", "bounded", "(I)I"⟩ "FourSledge") (by decide +kernel)) dX4_goOn_40 hP hD hS hA [] [0, 1, 2, 3, 4, 5, 6] rfl rfl (by decide) (by decide) (by decide) GG.fb hG.at hl.1 rfl (Nat.le_of_ble_eq_true rfl) ⟨(Nat.le_of_ble_eq_true rfl), (Nat.le_of_ble_eq_true rfl)⟩ ⟨(Nat.le_of_ble_eq_true rfl), (Nat.le_of_ble_eq_true rfl)⟩ (fun r16 u H locs hp hP hD hS => ?_)
    obtain ⟨t17, rfl⟩ := hp
    have hP : va_P D vwCl [(h0, .inr (4, vL 3 Fh)), (h_ways, .inl (cJ, 2410, .inr (.inl f_ways))), (h_nextWays, .inl (cJ, 2410, .inr (.inl w9))), (h_p0_length, .inl (cI, 12, .inl f_p0_length)), (h_p0_over, .inl (cI, 12, .inl f_p0_over)), (p0, .inr (1, vL 18 F_p0_)), (h_p0_ideal, .inl (cI, 12, .inl f_p0_ideal))] H := hP
    have hD : va_D A [(h0, .inr (4, vL 3 Fh)), (h_ways, .inl (cJ, 2410, .inr (.inl f_ways))), (h_nextWays, .inl (cJ, 2410, .inr (.inl w9))), (h_p0_length, .inl (cI, 12, .inl f_p0_length)), (h_p0_over, .inl (cI, 12, .inl f_p0_over)), (p0, .inr (1, vL 18 F_p0_)), (h_p0_ideal, .inl (cI, 12, .inl f_p0_ideal))] := hD
    refine W.widen (k := 0) (n := 0) (Nat.le_of_ble_eq_true rfl) (Nat.le_of_ble_eq_true rfl) ?_
    refine lv_istore (lv' := [(10, .int r16), (9, .int u8), (8, .int v6), (7, .int v5), (0, .ref h0), (1, .ref p0), (2, .int p1), (3, .int p2), (4, .int p3), (5, .long p4)]) hx hb dX4_goOn_43 hl (by decide) rfl (fun ls hl => ?_)
    refine lv_aload_n hx hb dX4_goOn_45 rfl (lv_at hl 5 rfl) ?_
    refine lv_iload_n hx hb dX4_goOn_46 rfl (lv_at hl 6 rfl) ?_
    refine lv_iload hx hb dX4_goOn_47 (lv_at hl 0 rfl) ?_
    refine lv_iload hx hb dX4_goOn_49 (lv_at hl 1 rfl) ?_
    refine call_Vi (wr := [(h0, .inr (4, vL 3 Fh)), (h_ways, .inl (cJ, 2410, .inr (.inl f_ways))), (h_nextWays, .inl (cJ, 2410, .inr (.inl w9))), (h_p0_length, .inl (cI, 12, .inl f_p0_length)), (h_p0_ideal, .inl (cI, 12, .inl f_p0_ideal))]) (As := [.int p1, .int r16, .int u8]) (rest := []) hx hb hml hown hw (m_X1_turnsOver l D cI cJ cB cP cM cZ p0 h_p0_over F_p0_ f_p0_over p1 r16 u8 _ e_p0_over i_p1) wV_X4_68_X1_turnsOver dX4_goOn_51 hK hP hD hS hA [5, 4] [0, 1, 2, 3, 6] rfl rfl (by decide) (by decide) (by decide) 0 1 rfl rfl GG.fb hG.at hl.1 rfl (Nat.le_of_ble_eq_true rfl) ⟨(Nat.le_of_ble_eq_true rfl), (Nat.le_of_ble_eq_true rfl)⟩ ⟨(Nat.le_of_ble_eq_true rfl), (Nat.le_of_ble_eq_true rfl)⟩ (fun r18 u H locs hp hP hD hS => ?_)
    obtain ⟨t19, rfl⟩ := hp
    have hP : va_P D vwCl [(h0, .inr (4, vL 3 Fh)), (h_ways, .inl (cJ, 2410, .inr (.inl f_ways))), (h_nextWays, .inl (cJ, 2410, .inr (.inl w9))), (h_p0_length, .inl (cI, 12, .inl f_p0_length)), (h_p0_ideal, .inl (cI, 12, .inl f_p0_ideal)), (p0, .inr (1, vL 18 F_p0_)), (h_p0_over, .inl (cI, 12, .inl f_p0_over))] H := hP
    have hD : va_D A [(h0, .inr (4, vL 3 Fh)), (h_ways, .inl (cJ, 2410, .inr (.inl f_ways))), (h_nextWays, .inl (cJ, 2410, .inr (.inl w9))), (h_p0_length, .inl (cI, 12, .inl f_p0_length)), (h_p0_ideal, .inl (cI, 12, .inl f_p0_ideal)), (p0, .inr (1, vL 18 F_p0_)), (h_p0_over, .inl (cI, 12, .inl f_p0_over))] := hD
    refine W.widen (k := 0) (n := 0) (Nat.le_of_ble_eq_true rfl) (Nat.le_of_ble_eq_true rfl) ?_
    refine lv_if_ne (tgt := 121) hx hb dX4_goOn_54 (by decide) (fun c20 => ?_) (fun c20 => ?_)
    · have dc20 : r18.toInt ≠ 0 := ne_i (a := r18.toInt) (b := 0) rfl rfl c20
      have k21 : 1 ≤ r18.toInt ∧ r18.toInt ≤ 1 := ⟨ne_lo dc20 t19.1 ⟨Int.le_refl _, Int.le_refl _⟩ (by decide), t19.2⟩
      obtain ⟨v22, ev22⟩ : ∃ z : Int32, z = u8 + 1 := ⟨_, rfl⟩
      have bv22 : v22.toInt = u8.toInt + 1 := by rw [ev22]; exact add_k rfl rfl k13 ⟨Int.le_refl _, Int.le_refl _⟩ (by decide)
      have k23 : 1 ≤ v22.toInt ∧ v22.toInt ≤ 10 := add_r bv22 k13 ⟨Int.le_refl _, Int.le_refl _⟩ (by decide)
      refine lv_iinc (v := v22) (lv' := [(9, .int v22), (10, .int r16), (8, .int v6), (7, .int v5), (0, .ref h0), (1, .ref p0), (2, .int p1), (3, .int p2), (4, .int p3), (5, .long p4)]) hx hb dX4_goOn_121 hl (k := 1) rfl (by rw [ev22]; rfl) (by decide) rfl (fun ls hl => ?_)
      refine lv_goto (tgt := 21) hx hb dX4_goOn_124 (by decide) ?_
      exact ih (v22, w9) (ir_wk k23 (by decide) (by decide)) (by show (10 - v22.toInt).toNat < (10 - u8.toInt).toNat; omega) _ _ _ (hP.sub [0, 1, 2, 5, 3, 4, 6] rfl) (hD.sub [0, 1, 2, 5, 3, 4, 6] (by decide) rfl) hS (lv_sub hl [0, 2, 3, 4, 5, 6, 7, 8, 9] rfl)
    · have dc20 : r18.toInt = 0 := eq_i (a := r18.toInt) (b := 0) rfl rfl c20
      have k24 : 0 ≤ r18.toInt ∧ r18.toInt ≤ 0 := ⟨t19.1, Int.le_trans (Int.le_of_eq dc20) (Int.le_refl _)⟩
      refine lv_iload hx hb dX4_goOn_57 (lv_at hl 0 rfl) ?_
      refine lv_bipush (v := 10) hx hb dX4_goOn_59 (by decide) ?_
      refine lv_isub hx hb dX4_goOn_61 ?_
      refine lv_topi (fun v25 ev25 => ?_)
      have bv25 : v25.toInt = r16.toInt - 10 := by rw [ev25]; exact sub_k rfl rfl t17 ⟨Int.le_refl _, Int.le_refl _⟩ (by decide)
      have k26 : 0 ≤ v25.toInt ∧ v25.toInt ≤ 240 := sub_r bv25 t17 ⟨Int.le_refl _, Int.le_refl _⟩ (by decide)
      refine lv_bipush (v := 10) hx hb dX4_goOn_62 (by decide) ?_
      refine lv_imul hx hb dX4_goOn_64 ?_
      refine lv_topi (fun v27 ev27 => ?_)
      have bv27 : v27.toInt = v25.toInt * 10 := by rw [ev27]; exact mulk_k rfl rfl (by decide) k26 (by decide)
      have k28 : 0 ≤ v27.toInt ∧ v27.toInt ≤ 2400 := mulk_r bv27 (by decide) k26 (by decide)
      refine lv_iload hx hb dX4_goOn_65 (lv_at hl 1 rfl) ?_
      refine lv_iadd hx hb dX4_goOn_67 ?_
      refine lv_topi (fun v29 ev29 => ?_)
      have bv29 : v29.toInt = v27.toInt + u8.toInt := by rw [ev29]; exact add_k rfl rfl k28 k13 (by decide)
      have k30 : 0 ≤ v29.toInt ∧ v29.toInt ≤ 2409 := add_r bv29 k28 k13 (by decide)
      refine lv_istore (lv' := [(11, .int v29), (10, .int r16), (9, .int u8), (8, .int v6), (7, .int v5), (0, .ref h0), (1, .ref p0), (2, .int p1), (3, .int p2), (4, .int p3), (5, .long p4)]) hx hb dX4_goOn_68 hl (by decide) rfl (fun ls hl => ?_)
      refine lv_aload_n hx hb dX4_goOn_70 rfl (lv_at hl 5 rfl) ?_
      refine get_f (D := D) (ci := 4) (v := .ref h_ways) (C := RX4) (T := TX4) (N := 3) hx hb hw inAX4 hown hK hP 0 rfl rfl 1 (by decide) (hw _ q_1009) (fun _ h9 => h9) e_ways dX4_goOn_71 ?_
      refine lv_iload_n hx hb dX4_goOn_74 rfl (lv_at hl 8 rfl) ?_
      refine va_lald hx hb hK hP 1 1 rfl rfl (ix_k i_p2 (by decide) (by decide)) dX4_goOn_75 ?_
      refine lv_topl (fun v31 ev31 => ?_)
      refine lv_aload_n hx hb dX4_goOn_76 rfl (lv_at hl 6 rfl) ?_
      refine get_f (D := D) (ci := 1) (v := .ref h_p0_length) (C := RX1) (T := TX1) (N := 18) hx hb hw inAX1 hown hK hP 5 rfl rfl 6 (by decide) (hw _ q_337) (fun _ h9 => h9) e_p0_length dX4_goOn_77 ?_
      refine lv_iload_n hx hb dX4_goOn_80 rfl (lv_at hl 7 rfl) ?_
      refine va_iald hx hb hK hP 3 0 rfl rfl (ix_k i_p1 (by decide) (by decide)) dX4_goOn_81 ?_
      refine lv_topi (fun v32 ev32 => ?_)
      refine lv_iload hx hb dX4_goOn_82 (lv_at hl 1 rfl) ?_
      refine call_Ti (wr := [(h0, .inr (4, vL 3 Fh)), (h_ways, .inl (cJ, 2410, .inr (.inl f_ways))), (h_nextWays, .inl (cJ, 2410, .inr (.inl w9))), (h_p0_length, .inl (cI, 12, .inl f_p0_length)), (h_p0_ideal, .inl (cI, 12, .inl f_p0_ideal)), (p0, .inr (1, vL 18 F_p0_)), (h_p0_over, .inl (cI, 12, .inl f_p0_over))]) (As := [.int v32, .int r16]) (rest := [.long v31]) hx hb hml hown hw (m_X9_timeFor l D cI cJ cB cP cM cZ v32 r16 _ ) wT_X9_timeFor (hG.2.1 (.methodLinkNest "FourSledge$LineSearch" 75 ⟨"FourSledge", "timeFor", "(II)I"⟩ "FourSledge") (by decide +kernel)) dX4_goOn_84 hP hD hS hA [] [0, 1, 2, 3, 4, 5, 6] rfl rfl (by decide) (by decide) (by decide) GG.fb hG.at hl.1 rfl (Nat.le_of_ble_eq_true rfl) ⟨(Nat.le_of_ble_eq_true rfl), (Nat.le_of_ble_eq_true rfl)⟩ ⟨(Nat.le_of_ble_eq_true rfl), (Nat.le_of_ble_eq_true rfl)⟩ (fun r33 u H locs hp hP hD hS => ?_)
      obtain rfl := hp
      have hP : va_P D vwCl [(h0, .inr (4, vL 3 Fh)), (h_ways, .inl (cJ, 2410, .inr (.inl f_ways))), (h_nextWays, .inl (cJ, 2410, .inr (.inl w9))), (h_p0_length, .inl (cI, 12, .inl f_p0_length)), (h_p0_ideal, .inl (cI, 12, .inl f_p0_ideal)), (p0, .inr (1, vL 18 F_p0_)), (h_p0_over, .inl (cI, 12, .inl f_p0_over))] H := hP
      have hD : va_D A [(h0, .inr (4, vL 3 Fh)), (h_ways, .inl (cJ, 2410, .inr (.inl f_ways))), (h_nextWays, .inl (cJ, 2410, .inr (.inl w9))), (h_p0_length, .inl (cI, 12, .inl f_p0_length)), (h_p0_ideal, .inl (cI, 12, .inl f_p0_ideal)), (p0, .inr (1, vL 18 F_p0_)), (h_p0_over, .inl (cI, 12, .inl f_p0_over))] := hD
      refine W.widen (k := 0) (n := 0) (Nat.le_of_ble_eq_true rfl) (Nat.le_of_ble_eq_true rfl) ?_
      obtain ⟨v34, ev34⟩ : ∃ z : Int64, (r33 : Int32).toInt64 = z := ⟨_, rfl⟩
      refine lv_i2l (v := v34) hx hb dX4_goOn_87 ev34 ?_
      refine lv_ldc2 hx hb hown (hw _ q_1034) dX4_goOn_88 ?_
      refine lv_lmul hx hb dX4_goOn_91 ?_
      refine lv_topl (fun v35 ev35 => ?_)
      refine lv_ladd hx hb dX4_goOn_92 ?_
      refine lv_topl (fun v36 ev36 => ?_)
      refine lv_iload hx hb dX4_goOn_93 (lv_at hl 2 rfl) ?_
      obtain ⟨v37, ev37⟩ : ∃ z : Int64, (u8 : Int32).toInt64 = z := ⟨_, rfl⟩
      refine lv_i2l (v := v37) hx hb dX4_goOn_95 ev37 ?_
      refine lv_lload hx hb dX4_goOn_96 (lv_at hl 10 rfl) ?_
      refine lv_lmul hx hb dX4_goOn_98 ?_
      refine lv_topl (fun v38 ev38 => ?_)
      refine lv_ladd hx hb dX4_goOn_99 ?_
      refine lv_topl (fun v39 ev39 => ?_)
      refine lv_lstore (lv' := [(12, .long v39), (11, .int v29), (10, .int r16), (9, .int u8), (8, .int v6), (7, .int v5), (0, .ref h0), (1, .ref p0), (2, .int p1), (3, .int p2), (4, .int p3), (5, .long p4)]) hx hb dX4_goOn_100 hl (by decide) rfl (fun ls hl => ?_)
      refine lv_aload_n hx hb dX4_goOn_102 rfl (lv_at hl 6 rfl) ?_
      refine get_f (D := D) (ci := 4) (v := .ref h_nextWays) (C := RX4) (T := TX4) (N := 3) hx hb hw inAX4 hown hK hP 0 rfl rfl 2 (by decide) (hw _ q_1010) (fun _ h9 => h9) e_nextWays dX4_goOn_103 ?_
      refine lv_iload hx hb dX4_goOn_106 (lv_at hl 1 rfl) ?_
      refine lv_aload_n hx hb dX4_goOn_108 rfl (lv_at hl 6 rfl) ?_
      refine get_f (D := D) (ci := 4) (v := .ref h_nextWays) (C := RX4) (T := TX4) (N := 3) hx hb hw inAX4 hown hK hP 0 rfl rfl 2 (by decide) (hw _ q_1010) (fun _ h9 => h9) e_nextWays dX4_goOn_109 ?_
      refine lv_iload hx hb dX4_goOn_112 (lv_at hl 1 rfl) ?_
      refine va_lald hx hb hK hP 2 1 rfl rfl (ix_k k30 (by decide) (by decide)) dX4_goOn_114 ?_
      refine lv_topl (fun v40 ev40 => ?_)
      refine lv_lload hx hb dX4_goOn_115 (lv_at hl 0 rfl) ?_
      refine va_mmin_long hx hb (hml.trans hl.1.symm) hown (hw _ q_1035) (hw _ q_953) (hw _ q_19) (hw _ q_954) (Nat.le_of_ble_eq_true rfl) (Nat.le_of_ble_eq_true rfl) (Nat.le_of_ble_eq_true rfl) (Nat.le_of_ble_eq_true rfl) dX4_goOn_117 ?_
      refine lv_topl (fun v41 ev41 => ?_)
      obtain ⟨g42, eg42⟩ : ∃ z : Nat → Int64, vp_updL w9 v29.toNatClampNeg v41 = z := ⟨_, rfl⟩
      refine last_g hx hb hK hP hD hS 2 1 rfl rfl (ix_k k30 (by decide) (by decide)) eg42 dX4_goOn_120 (fun H locs hP hD hS => ?_)
      have hP : va_P D vwCl [(h0, .inr (4, vL 3 Fh)), (h_ways, .inl (cJ, 2410, .inr (.inl f_ways))), (h_nextWays, .inl (cJ, 2410, .inr (.inl g42))), (h_p0_length, .inl (cI, 12, .inl f_p0_length)), (h_p0_ideal, .inl (cI, 12, .inl f_p0_ideal)), (p0, .inr (1, vL 18 F_p0_)), (h_p0_over, .inl (cI, 12, .inl f_p0_over))] H := hP
      have hD : va_D A [(h0, .inr (4, vL 3 Fh)), (h_ways, .inl (cJ, 2410, .inr (.inl f_ways))), (h_nextWays, .inl (cJ, 2410, .inr (.inl g42))), (h_p0_length, .inl (cI, 12, .inl f_p0_length)), (h_p0_ideal, .inl (cI, 12, .inl f_p0_ideal)), (p0, .inr (1, vL 18 F_p0_)), (h_p0_over, .inl (cI, 12, .inl f_p0_over))] := hD
      obtain ⟨v43, ev43⟩ : ∃ z : Int32, z = u8 + 1 := ⟨_, rfl⟩
      have bv43 : v43.toInt = u8.toInt + 1 := by rw [ev43]; exact add_k rfl rfl k13 ⟨Int.le_refl _, Int.le_refl _⟩ (by decide)
      have k44 : 1 ≤ v43.toInt ∧ v43.toInt ≤ 10 := add_r bv43 k13 ⟨Int.le_refl _, Int.le_refl _⟩ (by decide)
      refine lv_iinc (v := v43) (lv' := [(9, .int v43), (12, .long v39), (11, .int v29), (10, .int r16), (8, .int v6), (7, .int v5), (0, .ref h0), (1, .ref p0), (2, .int p1), (3, .int p2), (4, .int p3), (5, .long p4)]) hx hb dX4_goOn_121 hl (k := 3) rfl (by rw [ev43]; rfl) (by decide) rfl (fun ls hl => ?_)
      refine lv_goto (tgt := 21) hx hb dX4_goOn_124 (by decide) ?_
      exact ih (v43, g42) (ir_wk k44 (by decide) (by decide)) (by show (10 - v43.toInt).toNat < (10 - u8.toInt).toNat; omega) _ _ _ (hP.sub [0, 1, 2, 5, 3, 4, 6] rfl) (hD.sub [0, 1, 2, 5, 3, 4, 6] (by decide) rfl) hS (lv_sub hl [0, 4, 5, 6, 7, 8, 9, 10, 11] rfl)
set_option maxHeartbeats 4000000 in
set_option maxRecDepth 100000 in
theorem m_X4_tellHeights (l : Launch) (D : va_G) (cI cJ cB cP cM cZ : ClassId) (h0 : Nat) (h_heights : Nat) (Fh : Nat → Value) (f_heights : Nat → Int32) (p0 : Int64) (sz : Nat) (e_heights : Fh 0 = .ref h_heights) : CV l yX4_tellHeights cX4_tellHeights 6 none { frames := 0, cells := 0, slots := 0, locals := 0 } (GG D cI cJ cB cP cM cZ) D [(h0, .inr (4, vL 3 Fh)), (h_heights, .inl (cI, 12, .inl f_heights))] sz [.ref h0, .long p0] (fun (u : va_W) => ∃ (g_heights : Nat → Int32), u = [(h0, .inr (4, vL 3 Fh)), (h_heights, .inl (cI, 12, .inl g_heights))]) := by
  refine CV_mk (by decide) (Nat.le_of_ble_eq_true rfl) ?_
  intro p e s m below meth c A ls E hAe hG hsz hP hD hA hS hl
  obtain ⟨hx, hb, hr, hw, hown, hlocks, hml, hnm⟩ := E
  have hK := hG.1
  have hl : lv_has ls 6 [(0, .ref h0), (1, .long p0)] := hl
  refine lv_lload_n hx hb dX4_tellHeights_0 rfl (lv_at hl 1 rfl) ?_
  refine lv_lstore_n (lv' := [(3, .long p0), (0, .ref h0), (1, .long p0)]) hx hb dX4_tellHeights_1 rfl hl (by decide) rfl (fun ls hl => ?_)
  refine lv_bipush (v := 11) hx hb dX4_tellHeights_2 (by decide) ?_
  refine lv_istore (lv' := [(5, .int 11), (3, .long p0), (0, .ref h0), (1, .long p0)]) hx hb dX4_tellHeights_4 hl (by decide) rfl (fun ls hl => ?_)
  refine mloop (α := (Int32) × (Int64) × (Nat → Int32)) (nL := 6) (D := D) (A := A) (H0 := s.heap) (fun a => (a.1.toInt - (-1)).toNat) (fun a => IR (-1) 11 a.1) (fun a => [(h0, .inr (4, vL 3 Fh)), (h_heights, .inl (cI, 12, .inl a.2.2))]) (fun a => [(5, .int a.1), (3, .long a.2.1), (0, .ref h0), (1, .long p0)]) (fun H locs ls => W p l e ({ frames := 0, cells := 0, slots := 0, locals := 0 } : Room) s m [.ref h0, .long p0].toArray below meth c H locs 0 0 (MQ below (va_Qv (fun (u : va_W) => ∃ (g_heights : Nat → Int32), u = [(h0, .inr (4, vL 3 Fh)), (h_heights, .inl (cI, 12, .inl g_heights))]) (PO D A) A) [.ref h0, .long p0].toArray s 0 0 A) (F0 m 6 ls [])) ?_ (11, p0, f_heights) ⟨by decide, by decide⟩ _ _ _ hP hD hS hl
  rintro ⟨u1, u2, w3⟩ i4 ih H locs ls hP hD hS hl
  have i4 : (-1) ≤ u1.toInt ∧ u1.toInt ≤ 11 := i4
  have hP : va_P D vwCl [(h0, .inr (4, vL 3 Fh)), (h_heights, .inl (cI, 12, .inl w3))] H := hP
  have hD : va_D A [(h0, .inr (4, vL 3 Fh)), (h_heights, .inl (cI, 12, .inl w3))] := hD
  have hl : lv_has ls 6 [(5, .int u1), (3, .long u2), (0, .ref h0), (1, .long p0)] := hl
  refine lv_iload hx hb dX4_tellHeights_6 (lv_at hl 0 rfl) ?_
  refine lv_if_lt (tgt := 36) hx hb dX4_tellHeights_8 (by decide) (fun c5 => ?_) (fun c5 => ?_)
  · have dc5 : u1.toInt < 0 := lt_i (a := u1.toInt) (b := 0) rfl rfl c5
    have k6 : (-1) ≤ u1.toInt ∧ u1.toInt ≤ (-1) := ⟨i4.1, up_lt dc5 (Int.le_refl _) (by decide)⟩
    exact ret_v hx hb hr hlocks hS hP hD dX4_tellHeights_36 (Nat.le_of_ble_eq_true rfl) (Nat.le_of_ble_eq_true rfl) ⟨w3, rfl⟩
  · have dc5 : 0 ≤ u1.toInt := nlt_i (a := u1.toInt) (b := 0) rfl rfl c5
    have k7 : 0 ≤ u1.toInt ∧ u1.toInt ≤ 11 := ⟨Int.le_trans (Int.le_refl _) dc5, i4.2⟩
    refine lv_aload_n hx hb dX4_tellHeights_11 rfl (lv_at hl 2 rfl) ?_
    refine get_f (D := D) (ci := 4) (v := .ref h_heights) (C := RX4) (T := TX4) (N := 3) hx hb hw inAX4 hown hK hP 0 rfl rfl 0 (by decide) (hw _ q_1007) (fun _ h9 => h9) e_heights dX4_tellHeights_12 ?_
    refine lv_iload hx hb dX4_tellHeights_15 (lv_at hl 0 rfl) ?_
    refine lv_lload_n hx hb dX4_tellHeights_17 rfl (lv_at hl 1 rfl) ?_
    refine lv_ldc2 hx hb hown (hw _ q_1036) dX4_tellHeights_18 ?_
    refine lv_lrem hx hb dX4_tellHeights_21 (by decide) ?_
    refine lv_topl (fun v8 ev8 => ?_)
    obtain ⟨v9, ev9⟩ : ∃ z : Int32, (v8 : Int64).toInt32 = z := ⟨_, rfl⟩
    refine lv_l2i (v := v9) hx hb dX4_tellHeights_22 ev9 ?_
    obtain ⟨g10, eg10⟩ : ∃ z : Nat → Int32, upd w3 u1.toNatClampNeg v9 = z := ⟨_, rfl⟩
    refine iast_g hx hb hK hP hD hS 1 0 rfl rfl (ix_k k7 (by decide) (by decide)) eg10 dX4_tellHeights_23 (fun H locs hP hD hS => ?_)
    have hP : va_P D vwCl [(h0, .inr (4, vL 3 Fh)), (h_heights, .inl (cI, 12, .inl g10))] H := hP
    have hD : va_D A [(h0, .inr (4, vL 3 Fh)), (h_heights, .inl (cI, 12, .inl g10))] := hD
    refine lv_lload_n hx hb dX4_tellHeights_24 rfl (lv_at hl 1 rfl) ?_
    refine lv_ldc2 hx hb hown (hw _ q_1036) dX4_tellHeights_25 ?_
    refine lv_ldiv hx hb dX4_tellHeights_28 (by decide) ?_
    refine lv_topl (fun v11 ev11 => ?_)
    refine lv_lstore_n (lv' := [(3, .long v11), (5, .int u1), (0, .ref h0), (1, .long p0)]) hx hb dX4_tellHeights_29 rfl hl (by decide) rfl (fun ls hl => ?_)
    obtain ⟨v12, ev12⟩ : ∃ z : Int32, z = u1 + (-1) := ⟨_, rfl⟩
    have bv12 : v12.toInt = u1.toInt + (-1) := by rw [ev12]; exact add_k rfl rfl k7 ⟨Int.le_refl _, Int.le_refl _⟩ (by decide)
    have k13 : (-1) ≤ v12.toInt ∧ v12.toInt ≤ 10 := add_r bv12 k7 ⟨Int.le_refl _, Int.le_refl _⟩ (by decide)
    refine lv_iinc (v := v12) (lv' := [(5, .int v12), (3, .long v11), (0, .ref h0), (1, .long p0)]) hx hb dX4_tellHeights_30 hl (k := 1) rfl (by rw [ev12]; rfl) (by decide) rfl (fun ls hl => ?_)
    refine lv_goto (tgt := 6) hx hb dX4_tellHeights_33 (by decide) ?_
    exact ih (v12, v11, g10) (ir_wk k13 (by decide) (by decide)) (by show (v12.toInt - (-1)).toNat < (u1.toInt - (-1)).toNat; omega) _ _ _ hP hD hS (lv_sub hl [0, 1, 2, 3] rfl)
set_option maxHeartbeats 4000000 in
set_option maxRecDepth 100000 in
theorem m_X4_leastTime (l : Launch) (D : va_G) (cI cJ cB cP cM cZ : ClassId) (h0 : Nat) (h_heights : Nat) (h_ways : Nat) (h_nextWays : Nat) (p0 : Nat) (h_p0_settings : Nat) (h_p0_length : Nat) (h_p0_drop : Nat) (h_p0_ideal : Nat) (h_p0_over : Nat) (h_p0_bestAt : Nat) (h_p0_bad : Nat) (p1 : Nat) (Fh : Nat → Value) (f_heights : Nat → Int32) (f_ways : Nat → Int64) (f_nextWays : Nat → Int64) (F_p0_ : Nat → Value) (x_p0_bends : Int32) (x_p0_runners : Int32) (f_p0_settings : Nat → Int32) (f_p0_length : Nat → Int32) (f_p0_drop : Nat → Int32) (f_p0_ideal : Nat → Int32) (f_p0_over : Nat → Int32) (f_p0_bestAt : Nat → Int32) (f_p0_bad : Nat → Int32) (F_p1_ : Nat → Value) (x_p1_runner : Int32) (x_p1_number : Int32) (p2 : Int32) (p3 : Int32) (sz : Nat) (e_heights : Fh 0 = .ref h_heights) (e_ways : Fh 1 = .ref h_ways) (e_nextWays : Fh 2 = .ref h_nextWays) (e_p0_settings : F_p0_ 1 = .ref h_p0_settings) (e_p0_length : F_p0_ 6 = .ref h_p0_length) (e_p0_drop : F_p0_ 7 = .ref h_p0_drop) (e_p0_ideal : F_p0_ 8 = .ref h_p0_ideal) (e_p0_over : F_p0_ 9 = .ref h_p0_over) (e_p0_bestAt : F_p0_ 11 = .ref h_p0_bestAt) (e_p0_bad : F_p0_ 12 = .ref h_p0_bad) (e_p0_bends : F_p0_ 14 = .int x_p0_bends) (i_x_p0_bends : IR 0 12 x_p0_bends) (e_p0_runners : F_p0_ 15 = .int x_p0_runners) (i_x_p0_runners : IR 0 6 x_p0_runners) (e_p1_runner : F_p1_ 5 = .int x_p1_runner) (e_p1_number : F_p1_ 6 = .int x_p1_number) (i_p2 : IR 10 250 p2) : CI l yX4_leastTime cX4_leastTime 10 (some .int) { frames := 3, cells := 0, slots := 0, locals := 96 } (GG D cI cJ cB cP cM cZ) D [(h0, .inr (4, vL 3 Fh)), (h_heights, .inl (cI, 12, .inl f_heights)), (h_ways, .inl (cJ, 2410, .inr (.inl f_ways))), (h_nextWays, .inl (cJ, 2410, .inr (.inl f_nextWays))), (p0, .inr (1, vL 18 F_p0_)), (h_p0_settings, .inl (cI, 5, .inl f_p0_settings)), (h_p0_length, .inl (cI, 12, .inl f_p0_length)), (h_p0_drop, .inl (cI, 12, .inl f_p0_drop)), (h_p0_ideal, .inl (cI, 12, .inl f_p0_ideal)), (h_p0_over, .inl (cI, 12, .inl f_p0_over)), (h_p0_bestAt, .inl (cI, 6, .inl f_p0_bestAt)), (h_p0_bad, .inl (cI, 6, .inl f_p0_bad)), (p1, .inr (5, vL 11 F_p1_))] sz [.ref h0, .ref p0, .ref p1, .int p2, .int p3] (fun (r : Int32) (u : va_W) => ∃ (Gh : Nat → Value) (y_ways : Nat) (y_nextWays : Nat) (g_heights : Nat → Int32) (g_ways : Nat → Int64) (g_nextWays : Nat → Int64), SAME [1, 2] Fh Gh ∧ Gh 1 = .ref y_ways ∧ Gh 2 = .ref y_nextWays ∧ u = [(h0, .inr (4, vL 3 Gh)), (h_heights, .inl (cI, 12, .inl g_heights)), (y_ways, .inl (cJ, 2410, .inr (.inl g_ways))), (y_nextWays, .inl (cJ, 2410, .inr (.inl g_nextWays))), (p0, .inr (1, vL 18 F_p0_)), (h_p0_settings, .inl (cI, 5, .inl f_p0_settings)), (h_p0_length, .inl (cI, 12, .inl f_p0_length)), (h_p0_drop, .inl (cI, 12, .inl f_p0_drop)), (h_p0_ideal, .inl (cI, 12, .inl f_p0_ideal)), (h_p0_over, .inl (cI, 12, .inl f_p0_over)), (h_p0_bestAt, .inl (cI, 6, .inl f_p0_bestAt)), (h_p0_bad, .inl (cI, 6, .inl f_p0_bad)), (p1, .inr (5, vL 11 F_p1_))]) := by
  refine CI_mk (by decide) (Nat.le_of_ble_eq_true rfl) ?_
  intro p e s m below meth c A ls E hAe hG hsz hP hD hA hS hl
  obtain ⟨hx, hb, hr, hw, hown, hlocks, hml, hnm⟩ := E
  have hK := hG.1
  have i_x_p0_bends : 0 ≤ x_p0_bends.toInt ∧ x_p0_bends.toInt ≤ 12 := i_x_p0_bends
  have i_x_p0_runners : 0 ≤ x_p0_runners.toInt ∧ x_p0_runners.toInt ≤ 6 := i_x_p0_runners
  have i_p2 : 10 ≤ p2.toInt ∧ p2.toInt ≤ 250 := i_p2
  have hl : lv_has ls 10 [(0, .ref h0), (1, .ref p0), (2, .ref p1), (3, .int p2), (4, .int p3)] := hl
  refine lv_aload_n hx hb dX4_leastTime_0 rfl (lv_at hl 0 rfl) ?_
  refine get_f (D := D) (ci := 4) (v := .ref h_ways) (C := RX4) (T := TX4) (N := 3) hx hb hw inAX4 hown hK hP 0 rfl rfl 1 (by decide) (hw _ q_1009) (fun _ h9 => h9) e_ways dX4_leastTime_1 ?_
  refine lv_ldc2 hx hb hown (hw _ q_1022) dX4_leastTime_4 ?_
  refine call_Sv (wr := [(h0, .inr (4, vL 3 Fh)), (h_heights, .inl (cI, 12, .inl f_heights)), (h_nextWays, .inl (cJ, 2410, .inr (.inl f_nextWays))), (p0, .inr (1, vL 18 F_p0_)), (h_p0_settings, .inl (cI, 5, .inl f_p0_settings)), (h_p0_length, .inl (cI, 12, .inl f_p0_length)), (h_p0_drop, .inl (cI, 12, .inl f_p0_drop)), (h_p0_ideal, .inl (cI, 12, .inl f_p0_ideal)), (h_p0_over, .inl (cI, 12, .inl f_p0_over)), (h_p0_bestAt, .inl (cI, 6, .inl f_p0_bestAt)), (h_p0_bad, .inl (cI, 6, .inl f_p0_bad)), (p1, .inr (5, vL 11 F_p1_))]) (As := [.ref h_ways, .long 4611686018427387904]) (rest := []) hx hb hml hown hw (m_J7_fill_d0a16_2410 l D cI cJ cB cP cM cZ h_ways f_ways 4611686018427387904 _ ) wS_X4_24_J7_fill_d0a16 dX4_leastTime_7 hP hD hS hA [2] [0, 1, 3, 4, 5, 6, 7, 8, 9, 10, 11, 12] rfl rfl (by decide) (by decide) (by decide) GG.fb hG.at hl.1 rfl (Nat.le_of_ble_eq_true rfl) ⟨(Nat.le_of_ble_eq_true rfl), (Nat.le_of_ble_eq_true rfl)⟩ ⟨(Nat.le_of_ble_eq_true rfl), (Nat.le_of_ble_eq_true rfl)⟩ (fun u H locs hp hP hD hS => ?_)
  obtain ⟨g2, rfl⟩ := hp
  have hP : va_P D vwCl [(h0, .inr (4, vL 3 Fh)), (h_heights, .inl (cI, 12, .inl f_heights)), (h_nextWays, .inl (cJ, 2410, .inr (.inl f_nextWays))), (p0, .inr (1, vL 18 F_p0_)), (h_p0_settings, .inl (cI, 5, .inl f_p0_settings)), (h_p0_length, .inl (cI, 12, .inl f_p0_length)), (h_p0_drop, .inl (cI, 12, .inl f_p0_drop)), (h_p0_ideal, .inl (cI, 12, .inl f_p0_ideal)), (h_p0_over, .inl (cI, 12, .inl f_p0_over)), (h_p0_bestAt, .inl (cI, 6, .inl f_p0_bestAt)), (h_p0_bad, .inl (cI, 6, .inl f_p0_bad)), (p1, .inr (5, vL 11 F_p1_)), (h_ways, .inl (cJ, 2410, .inr (.inl g2)))] H := hP
  have hD : va_D A [(h0, .inr (4, vL 3 Fh)), (h_heights, .inl (cI, 12, .inl f_heights)), (h_nextWays, .inl (cJ, 2410, .inr (.inl f_nextWays))), (p0, .inr (1, vL 18 F_p0_)), (h_p0_settings, .inl (cI, 5, .inl f_p0_settings)), (h_p0_length, .inl (cI, 12, .inl f_p0_length)), (h_p0_drop, .inl (cI, 12, .inl f_p0_drop)), (h_p0_ideal, .inl (cI, 12, .inl f_p0_ideal)), (h_p0_over, .inl (cI, 12, .inl f_p0_over)), (h_p0_bestAt, .inl (cI, 6, .inl f_p0_bestAt)), (h_p0_bad, .inl (cI, 6, .inl f_p0_bad)), (p1, .inr (5, vL 11 F_p1_)), (h_ways, .inl (cJ, 2410, .inr (.inl g2)))] := hD
  refine W.widen (k := 0) (n := 0) (Nat.le_of_ble_eq_true rfl) (Nat.le_of_ble_eq_true rfl) ?_
  refine lv_aload_n hx hb dX4_leastTime_10 rfl (lv_at hl 0 rfl) ?_
  refine get_f (D := D) (ci := 4) (v := .ref h_ways) (C := RX4) (T := TX4) (N := 3) hx hb hw inAX4 hown hK hP 0 rfl rfl 1 (by decide) (hw _ q_1009) (fun _ h9 => h9) e_ways dX4_leastTime_11 ?_
  refine lv_iload_n hx hb dX4_leastTime_14 rfl (lv_at hl 3 rfl) ?_
  refine lv_bipush (v := 10) hx hb dX4_leastTime_15 (by decide) ?_
  refine lv_isub hx hb dX4_leastTime_17 ?_
  refine lv_topi (fun v3 ev3 => ?_)
  have bv3 : v3.toInt = p2.toInt - 10 := by rw [ev3]; exact sub_k rfl rfl i_p2 ⟨Int.le_refl _, Int.le_refl _⟩ (by decide)
  have k4 : 0 ≤ v3.toInt ∧ v3.toInt ≤ 240 := sub_r bv3 i_p2 ⟨Int.le_refl _, Int.le_refl _⟩ (by decide)
  refine lv_bipush (v := 10) hx hb dX4_leastTime_18 (by decide) ?_
  refine lv_imul hx hb dX4_leastTime_20 ?_
  refine lv_topi (fun v5 ev5 => ?_)
  have bv5 : v5.toInt = v3.toInt * 10 := by rw [ev5]; exact mulk_k rfl rfl (by decide) k4 (by decide)
  have k6 : 0 ≤ v5.toInt ∧ v5.toInt ≤ 2400 := mulk_r bv5 (by decide) k4 (by decide)
  refine lv_lconst (v := 0) hx hb dX4_leastTime_21 (by decide) ?_
  obtain ⟨g7, eg7⟩ : ∃ z : Nat → Int64, vp_updL g2 v5.toNatClampNeg 0 = z := ⟨_, rfl⟩
  refine last_g hx hb hK hP hD hS 12 1 rfl rfl (ix_k k6 (by decide) (by decide)) eg7 dX4_leastTime_22 (fun H locs hP hD hS => ?_)
  have hP : va_P D vwCl [(h0, .inr (4, vL 3 Fh)), (h_heights, .inl (cI, 12, .inl f_heights)), (h_nextWays, .inl (cJ, 2410, .inr (.inl f_nextWays))), (p0, .inr (1, vL 18 F_p0_)), (h_p0_settings, .inl (cI, 5, .inl f_p0_settings)), (h_p0_length, .inl (cI, 12, .inl f_p0_length)), (h_p0_drop, .inl (cI, 12, .inl f_p0_drop)), (h_p0_ideal, .inl (cI, 12, .inl f_p0_ideal)), (h_p0_over, .inl (cI, 12, .inl f_p0_over)), (h_p0_bestAt, .inl (cI, 6, .inl f_p0_bestAt)), (h_p0_bad, .inl (cI, 6, .inl f_p0_bad)), (p1, .inr (5, vL 11 F_p1_)), (h_ways, .inl (cJ, 2410, .inr (.inl g7)))] H := hP
  have hD : va_D A [(h0, .inr (4, vL 3 Fh)), (h_heights, .inl (cI, 12, .inl f_heights)), (h_nextWays, .inl (cJ, 2410, .inr (.inl f_nextWays))), (p0, .inr (1, vL 18 F_p0_)), (h_p0_settings, .inl (cI, 5, .inl f_p0_settings)), (h_p0_length, .inl (cI, 12, .inl f_p0_length)), (h_p0_drop, .inl (cI, 12, .inl f_p0_drop)), (h_p0_ideal, .inl (cI, 12, .inl f_p0_ideal)), (h_p0_over, .inl (cI, 12, .inl f_p0_over)), (h_p0_bestAt, .inl (cI, 6, .inl f_p0_bestAt)), (h_p0_bad, .inl (cI, 6, .inl f_p0_bad)), (p1, .inr (5, vL 11 F_p1_)), (h_ways, .inl (cJ, 2410, .inr (.inl g7)))] := hD
  refine lv_ldc2 hx hb hown (hw _ q_1024) dX4_leastTime_23 ?_
  refine lv_lstore (lv' := [(5, .long 100000000000), (0, .ref h0), (1, .ref p0), (2, .ref p1), (3, .int p2), (4, .int p3)]) hx hb dX4_leastTime_26 hl (by decide) rfl (fun ls hl => ?_)
  refine lv_iconst (v := 0) hx hb dX4_leastTime_28 (by decide) ?_
  refine lv_istore (lv' := [(7, .int 0), (5, .long 100000000000), (0, .ref h0), (1, .ref p0), (2, .ref p1), (3, .int p2), (4, .int p3)]) hx hb dX4_leastTime_29 hl (by decide) rfl (fun ls hl => ?_)
  refine mloop (α := (Int32) × (Int64) × (Nat → Value) × (Nat) × (Nat) × (Nat → Int64)) (nL := 10) (D := D) (A := A) (H0 := s.heap) (fun a => (12 - a.1.toInt).toNat) (fun a => IR 0 12 a.1 ∧ SAME [1, 2] Fh a.2.2.1 ∧ a.2.2.1 1 = .ref a.2.2.2.1 ∧ a.2.2.1 2 = .ref a.2.2.2.2.1) (fun a => [(h0, .inr (4, vL 3 a.2.2.1)), (h_heights, .inl (cI, 12, .inl f_heights)), (a.2.2.2.2.1, .inl (cJ, 2410, .inr (.inl a.2.2.2.2.2))), (p0, .inr (1, vL 18 F_p0_)), (h_p0_settings, .inl (cI, 5, .inl f_p0_settings)), (h_p0_length, .inl (cI, 12, .inl f_p0_length)), (h_p0_drop, .inl (cI, 12, .inl f_p0_drop)), (h_p0_ideal, .inl (cI, 12, .inl f_p0_ideal)), (h_p0_over, .inl (cI, 12, .inl f_p0_over)), (h_p0_bestAt, .inl (cI, 6, .inl f_p0_bestAt)), (h_p0_bad, .inl (cI, 6, .inl f_p0_bad)), (p1, .inr (5, vL 11 F_p1_)), (a.2.2.2.1, .inl (cJ, 2410, .inr (.inl g7)))]) (fun a => [(7, .int a.1), (5, .long a.2.1), (0, .ref h0), (1, .ref p0), (2, .ref p1), (3, .int p2), (4, .int p3)]) (fun H locs ls => W p l e ({ frames := 3, cells := 0, slots := 0, locals := 96 } : Room) s m [.ref h0, .ref p0, .ref p1, .int p2, .int p3].toArray below meth c H locs 0 0 (MQ below (va_Qi (fun (r : Int32) (u : va_W) => ∃ (Gh : Nat → Value) (y_ways : Nat) (y_nextWays : Nat) (g_heights : Nat → Int32) (g_ways : Nat → Int64) (g_nextWays : Nat → Int64), SAME [1, 2] Fh Gh ∧ Gh 1 = .ref y_ways ∧ Gh 2 = .ref y_nextWays ∧ u = [(h0, .inr (4, vL 3 Gh)), (h_heights, .inl (cI, 12, .inl g_heights)), (y_ways, .inl (cJ, 2410, .inr (.inl g_ways))), (y_nextWays, .inl (cJ, 2410, .inr (.inl g_nextWays))), (p0, .inr (1, vL 18 F_p0_)), (h_p0_settings, .inl (cI, 5, .inl f_p0_settings)), (h_p0_length, .inl (cI, 12, .inl f_p0_length)), (h_p0_drop, .inl (cI, 12, .inl f_p0_drop)), (h_p0_ideal, .inl (cI, 12, .inl f_p0_ideal)), (h_p0_over, .inl (cI, 12, .inl f_p0_over)), (h_p0_bestAt, .inl (cI, 6, .inl f_p0_bestAt)), (h_p0_bad, .inl (cI, 6, .inl f_p0_bad)), (p1, .inr (5, vL 11 F_p1_))]) (PO D A) A) [.ref h0, .ref p0, .ref p1, .int p2, .int p3].toArray s 0 0 A) (F0 m 31 ls [])) ?_ (0, 100000000000, Fh, h_ways, h_nextWays, f_nextWays) ⟨⟨by decide, by decide⟩, SAME.rf, e_ways, e_nextWays⟩ _ _ _ hP hD hS hl
  rintro ⟨u8, u9, G10, u11, u12, w13⟩ ⟨i14, i15, i16, i17⟩ ih H locs ls hP hD hS hl
  have i14 : 0 ≤ u8.toInt ∧ u8.toInt ≤ 12 := i14
  have hP : va_P D vwCl [(h0, .inr (4, vL 3 G10)), (h_heights, .inl (cI, 12, .inl f_heights)), (u12, .inl (cJ, 2410, .inr (.inl w13))), (p0, .inr (1, vL 18 F_p0_)), (h_p0_settings, .inl (cI, 5, .inl f_p0_settings)), (h_p0_length, .inl (cI, 12, .inl f_p0_length)), (h_p0_drop, .inl (cI, 12, .inl f_p0_drop)), (h_p0_ideal, .inl (cI, 12, .inl f_p0_ideal)), (h_p0_over, .inl (cI, 12, .inl f_p0_over)), (h_p0_bestAt, .inl (cI, 6, .inl f_p0_bestAt)), (h_p0_bad, .inl (cI, 6, .inl f_p0_bad)), (p1, .inr (5, vL 11 F_p1_)), (u11, .inl (cJ, 2410, .inr (.inl g7)))] H := hP
  have hD : va_D A [(h0, .inr (4, vL 3 G10)), (h_heights, .inl (cI, 12, .inl f_heights)), (u12, .inl (cJ, 2410, .inr (.inl w13))), (p0, .inr (1, vL 18 F_p0_)), (h_p0_settings, .inl (cI, 5, .inl f_p0_settings)), (h_p0_length, .inl (cI, 12, .inl f_p0_length)), (h_p0_drop, .inl (cI, 12, .inl f_p0_drop)), (h_p0_ideal, .inl (cI, 12, .inl f_p0_ideal)), (h_p0_over, .inl (cI, 12, .inl f_p0_over)), (h_p0_bestAt, .inl (cI, 6, .inl f_p0_bestAt)), (h_p0_bad, .inl (cI, 6, .inl f_p0_bad)), (p1, .inr (5, vL 11 F_p1_)), (u11, .inl (cJ, 2410, .inr (.inl g7)))] := hD
  have hl : lv_has ls 10 [(7, .int u8), (5, .long u9), (0, .ref h0), (1, .ref p0), (2, .ref p1), (3, .int p2), (4, .int p3)] := hl
  refine lv_iload hx hb dX4_leastTime_31 (lv_at hl 0 rfl) ?_
  refine lv_aload_n hx hb dX4_leastTime_33 rfl (lv_at hl 3 rfl) ?_
  refine get_f (D := D) (ci := 1) (v := .int x_p0_bends) (C := RX1) (T := TX1) (N := 18) hx hb hw inAX1 hown hK hP 3 rfl rfl 14 (by decide) (hw _ q_355) (fun _ h9 => h9) e_p0_bends dX4_leastTime_34 ?_
  refine lv_icmp_ge (tgt := 139) hx hb dX4_leastTime_37 (by decide) (fun c18 => ?_) (fun c18 => ?_)
  · have dc18 : x_p0_bends.toInt ≤ u8.toInt := le_i (a := x_p0_bends.toInt) (b := u8.toInt) rfl rfl c18
    refine lv_ldc2 hx hb hown (hw _ q_1022) dX4_leastTime_139 ?_
    refine lv_lstore (lv' := [(7, .long 4611686018427387904), (5, .long u9), (0, .ref h0), (1, .ref p0), (2, .ref p1), (3, .int p2), (4, .int p3)]) hx hb dX4_leastTime_142 hl (by decide) rfl (fun ls hl => ?_)
    refine lv_iconst (v := 0) hx hb dX4_leastTime_144 (by decide) ?_
    refine lv_istore (lv' := [(9, .int 0), (7, .long 4611686018427387904), (5, .long u9), (0, .ref h0), (1, .ref p0), (2, .ref p1), (3, .int p2), (4, .int p3)]) hx hb dX4_leastTime_145 hl (by decide) rfl (fun ls hl => ?_)
    refine mloop (α := (Int32) × (Int64)) (nL := 10) (D := D) (A := A) (H0 := s.heap) (fun a => (2410 - a.1.toInt).toNat) (fun a => IR 0 2410 a.1) (fun a => [(h0, .inr (4, vL 3 G10)), (h_heights, .inl (cI, 12, .inl f_heights)), (u12, .inl (cJ, 2410, .inr (.inl w13))), (p0, .inr (1, vL 18 F_p0_)), (h_p0_settings, .inl (cI, 5, .inl f_p0_settings)), (h_p0_length, .inl (cI, 12, .inl f_p0_length)), (h_p0_drop, .inl (cI, 12, .inl f_p0_drop)), (h_p0_ideal, .inl (cI, 12, .inl f_p0_ideal)), (h_p0_over, .inl (cI, 12, .inl f_p0_over)), (h_p0_bestAt, .inl (cI, 6, .inl f_p0_bestAt)), (h_p0_bad, .inl (cI, 6, .inl f_p0_bad)), (p1, .inr (5, vL 11 F_p1_)), (u11, .inl (cJ, 2410, .inr (.inl g7)))]) (fun a => [(9, .int a.1), (7, .long a.2), (5, .long u9), (0, .ref h0), (1, .ref p0), (2, .ref p1), (3, .int p2), (4, .int p3)]) (fun H locs ls => W p l e ({ frames := 3, cells := 0, slots := 0, locals := 96 } : Room) s m [.ref h0, .ref p0, .ref p1, .int p2, .int p3].toArray below meth c H locs 0 0 (MQ below (va_Qi (fun (r : Int32) (u : va_W) => ∃ (Gh : Nat → Value) (y_ways : Nat) (y_nextWays : Nat) (g_heights : Nat → Int32) (g_ways : Nat → Int64) (g_nextWays : Nat → Int64), SAME [1, 2] Fh Gh ∧ Gh 1 = .ref y_ways ∧ Gh 2 = .ref y_nextWays ∧ u = [(h0, .inr (4, vL 3 Gh)), (h_heights, .inl (cI, 12, .inl g_heights)), (y_ways, .inl (cJ, 2410, .inr (.inl g_ways))), (y_nextWays, .inl (cJ, 2410, .inr (.inl g_nextWays))), (p0, .inr (1, vL 18 F_p0_)), (h_p0_settings, .inl (cI, 5, .inl f_p0_settings)), (h_p0_length, .inl (cI, 12, .inl f_p0_length)), (h_p0_drop, .inl (cI, 12, .inl f_p0_drop)), (h_p0_ideal, .inl (cI, 12, .inl f_p0_ideal)), (h_p0_over, .inl (cI, 12, .inl f_p0_over)), (h_p0_bestAt, .inl (cI, 6, .inl f_p0_bestAt)), (h_p0_bad, .inl (cI, 6, .inl f_p0_bad)), (p1, .inr (5, vL 11 F_p1_))]) (PO D A) A) [.ref h0, .ref p0, .ref p1, .int p2, .int p3].toArray s 0 0 A) (F0 m 147 ls [])) ?_ (0, 4611686018427387904) ⟨by decide, by decide⟩ _ _ _ hP hD hS hl
    rintro ⟨u19, u20⟩ i21 ih H locs ls hP hD hS hl
    have i21 : 0 ≤ u19.toInt ∧ u19.toInt ≤ 2410 := i21
    have hP : va_P D vwCl [(h0, .inr (4, vL 3 G10)), (h_heights, .inl (cI, 12, .inl f_heights)), (u12, .inl (cJ, 2410, .inr (.inl w13))), (p0, .inr (1, vL 18 F_p0_)), (h_p0_settings, .inl (cI, 5, .inl f_p0_settings)), (h_p0_length, .inl (cI, 12, .inl f_p0_length)), (h_p0_drop, .inl (cI, 12, .inl f_p0_drop)), (h_p0_ideal, .inl (cI, 12, .inl f_p0_ideal)), (h_p0_over, .inl (cI, 12, .inl f_p0_over)), (h_p0_bestAt, .inl (cI, 6, .inl f_p0_bestAt)), (h_p0_bad, .inl (cI, 6, .inl f_p0_bad)), (p1, .inr (5, vL 11 F_p1_)), (u11, .inl (cJ, 2410, .inr (.inl g7)))] H := hP
    have hD : va_D A [(h0, .inr (4, vL 3 G10)), (h_heights, .inl (cI, 12, .inl f_heights)), (u12, .inl (cJ, 2410, .inr (.inl w13))), (p0, .inr (1, vL 18 F_p0_)), (h_p0_settings, .inl (cI, 5, .inl f_p0_settings)), (h_p0_length, .inl (cI, 12, .inl f_p0_length)), (h_p0_drop, .inl (cI, 12, .inl f_p0_drop)), (h_p0_ideal, .inl (cI, 12, .inl f_p0_ideal)), (h_p0_over, .inl (cI, 12, .inl f_p0_over)), (h_p0_bestAt, .inl (cI, 6, .inl f_p0_bestAt)), (h_p0_bad, .inl (cI, 6, .inl f_p0_bad)), (p1, .inr (5, vL 11 F_p1_)), (u11, .inl (cJ, 2410, .inr (.inl g7)))] := hD
    have hl : lv_has ls 10 [(9, .int u19), (7, .long u20), (5, .long u9), (0, .ref h0), (1, .ref p0), (2, .ref p1), (3, .int p2), (4, .int p3)] := hl
    refine lv_iload hx hb dX4_leastTime_147 (lv_at hl 0 rfl) ?_
    refine lv_sipush (v := 2410) hx hb dX4_leastTime_149 (by decide) ?_
    refine lv_icmp_ge (tgt := 175) hx hb dX4_leastTime_152 (by decide) (fun c22 => ?_) (fun c22 => ?_)
    · have dc22 : 2410 ≤ u19.toInt := le_i (a := 2410) (b := u19.toInt) rfl rfl c22
      have k23 : 2410 ≤ u19.toInt ∧ u19.toInt ≤ 2410 := ⟨Int.le_trans (Int.le_refl _) dc22, i21.2⟩
      refine lv_lload hx hb dX4_leastTime_175 (lv_at hl 1 rfl) ?_
      refine lv_ldc2 hx hb hown (hw _ q_1022) dX4_leastTime_177 ?_
      refine W.lcmp hx hb dX4_leastTime_180 ?_
      refine lv_topi (fun v24 ev24 => ?_)
      refine lv_if_ne (tgt := 186) hx hb dX4_leastTime_181 (by decide) (fun c25 => ?_) (fun c25 => ?_)
      · have dc25 : v24.toInt ≠ 0 := ne_i (a := v24.toInt) (b := 0) rfl rfl c25
        refine lv_aload_n hx hb dX4_leastTime_186 rfl (lv_at hl 3 rfl) ?_
        refine lv_lload hx hb dX4_leastTime_187 (lv_at hl 1 rfl) ?_
        refine lv_ldc2 hx hb hown (hw _ q_1034) dX4_leastTime_189 ?_
        refine lv_lrem hx hb dX4_leastTime_192 (by decide) ?_
        refine lv_topl (fun v26 ev26 => ?_)
        have n27 : G10 0 = .ref h_heights := (SAME.at i15 (by decide) e_heights)
        refine call_Vv (wr := [(u12, .inl (cJ, 2410, .inr (.inl w13))), (p0, .inr (1, vL 18 F_p0_)), (h_p0_settings, .inl (cI, 5, .inl f_p0_settings)), (h_p0_length, .inl (cI, 12, .inl f_p0_length)), (h_p0_drop, .inl (cI, 12, .inl f_p0_drop)), (h_p0_ideal, .inl (cI, 12, .inl f_p0_ideal)), (h_p0_over, .inl (cI, 12, .inl f_p0_over)), (h_p0_bestAt, .inl (cI, 6, .inl f_p0_bestAt)), (h_p0_bad, .inl (cI, 6, .inl f_p0_bad)), (p1, .inr (5, vL 11 F_p1_)), (u11, .inl (cJ, 2410, .inr (.inl g7)))]) (As := [.long v26]) (rest := []) hx hb hml hown hw (m_X4_tellHeights l D cI cJ cB cP cM cZ h0 h_heights G10 f_heights v26 _ n27) wV_X4_56_X4_tellHeights dX4_leastTime_193 hK hP hD hS hA [0, 1] [2, 3, 4, 5, 6, 7, 8, 9, 10, 11, 12] rfl rfl (by decide) (by decide) (by decide) 0 4 rfl rfl GG.fb hG.at hl.1 rfl (Nat.le_of_ble_eq_true rfl) ⟨(Nat.le_of_ble_eq_true rfl), (Nat.le_of_ble_eq_true rfl)⟩ ⟨(Nat.le_of_ble_eq_true rfl), (Nat.le_of_ble_eq_true rfl)⟩ (fun u H locs hp hP hD hS => ?_)
        obtain ⟨g29, rfl⟩ := hp
        have hP : va_P D vwCl [(u12, .inl (cJ, 2410, .inr (.inl w13))), (p0, .inr (1, vL 18 F_p0_)), (h_p0_settings, .inl (cI, 5, .inl f_p0_settings)), (h_p0_length, .inl (cI, 12, .inl f_p0_length)), (h_p0_drop, .inl (cI, 12, .inl f_p0_drop)), (h_p0_ideal, .inl (cI, 12, .inl f_p0_ideal)), (h_p0_over, .inl (cI, 12, .inl f_p0_over)), (h_p0_bestAt, .inl (cI, 6, .inl f_p0_bestAt)), (h_p0_bad, .inl (cI, 6, .inl f_p0_bad)), (p1, .inr (5, vL 11 F_p1_)), (u11, .inl (cJ, 2410, .inr (.inl g7))), (h0, .inr (4, vL 3 G10)), (h_heights, .inl (cI, 12, .inl g29))] H := hP
        have hD : va_D A [(u12, .inl (cJ, 2410, .inr (.inl w13))), (p0, .inr (1, vL 18 F_p0_)), (h_p0_settings, .inl (cI, 5, .inl f_p0_settings)), (h_p0_length, .inl (cI, 12, .inl f_p0_length)), (h_p0_drop, .inl (cI, 12, .inl f_p0_drop)), (h_p0_ideal, .inl (cI, 12, .inl f_p0_ideal)), (h_p0_over, .inl (cI, 12, .inl f_p0_over)), (h_p0_bestAt, .inl (cI, 6, .inl f_p0_bestAt)), (h_p0_bad, .inl (cI, 6, .inl f_p0_bad)), (p1, .inr (5, vL 11 F_p1_)), (u11, .inl (cJ, 2410, .inr (.inl g7))), (h0, .inr (4, vL 3 G10)), (h_heights, .inl (cI, 12, .inl g29))] := hD
        refine W.widen (k := 0) (n := 0) (Nat.le_of_ble_eq_true rfl) (Nat.le_of_ble_eq_true rfl) ?_
        refine lv_lload hx hb dX4_leastTime_196 (lv_at hl 1 rfl) ?_
        refine lv_ldc2 hx hb hown (hw _ q_1034) dX4_leastTime_198 ?_
        refine lv_ldiv hx hb dX4_leastTime_201 (by decide) ?_
        refine lv_topl (fun v30 ev30 => ?_)
        obtain ⟨v31, ev31⟩ : ∃ z : Int32, (v30 : Int64).toInt32 = z := ⟨_, rfl⟩
        refine lv_l2i (v := v31) hx hb dX4_leastTime_202 ev31 ?_
        exact ret_i (v := v31) hx hb hr hlocks hS (hP.sub (ws' := [(h0, .inr (4, vL 3 G10)), (h_heights, .inl (cI, 12, .inl g29)), (u11, .inl (cJ, 2410, .inr (.inl g7))), (u12, .inl (cJ, 2410, .inr (.inl w13))), (p0, .inr (1, vL 18 F_p0_)), (h_p0_settings, .inl (cI, 5, .inl f_p0_settings)), (h_p0_length, .inl (cI, 12, .inl f_p0_length)), (h_p0_drop, .inl (cI, 12, .inl f_p0_drop)), (h_p0_ideal, .inl (cI, 12, .inl f_p0_ideal)), (h_p0_over, .inl (cI, 12, .inl f_p0_over)), (h_p0_bestAt, .inl (cI, 6, .inl f_p0_bestAt)), (h_p0_bad, .inl (cI, 6, .inl f_p0_bad)), (p1, .inr (5, vL 11 F_p1_))]) [11, 12, 10, 0, 1, 2, 3, 4, 5, 6, 7, 8, 9] rfl) (hD.sub (ws' := [(h0, .inr (4, vL 3 G10)), (h_heights, .inl (cI, 12, .inl g29)), (u11, .inl (cJ, 2410, .inr (.inl g7))), (u12, .inl (cJ, 2410, .inr (.inl w13))), (p0, .inr (1, vL 18 F_p0_)), (h_p0_settings, .inl (cI, 5, .inl f_p0_settings)), (h_p0_length, .inl (cI, 12, .inl f_p0_length)), (h_p0_drop, .inl (cI, 12, .inl f_p0_drop)), (h_p0_ideal, .inl (cI, 12, .inl f_p0_ideal)), (h_p0_over, .inl (cI, 12, .inl f_p0_over)), (h_p0_bestAt, .inl (cI, 6, .inl f_p0_bestAt)), (h_p0_bad, .inl (cI, 6, .inl f_p0_bad)), (p1, .inr (5, vL 11 F_p1_))]) [11, 12, 10, 0, 1, 2, 3, 4, 5, 6, 7, 8, 9] (by decide) rfl) dX4_leastTime_203 rfl (Nat.le_of_ble_eq_true rfl) (Nat.le_of_ble_eq_true rfl) ⟨G10, u11, u12, g29, g7, w13, (SAME.tr SAME.rf i15 (by decide)), i16, i17, rfl⟩
      · have dc25 : v24.toInt = 0 := eq_i (a := v24.toInt) (b := 0) rfl rfl c25
        have k32 : 0 ≤ v24.toInt ∧ v24.toInt ≤ 0 := ⟨Int.le_trans (Int.le_refl _) (Int.le_of_eq dc25.symm), Int.le_trans (Int.le_of_eq dc25) (Int.le_refl _)⟩
        refine lv_iconst (v := (-1)) hx hb dX4_leastTime_184 (by decide) ?_
        exact ret_i (v := (-1)) hx hb hr hlocks hS (hP.sub (ws' := [(h0, .inr (4, vL 3 G10)), (h_heights, .inl (cI, 12, .inl f_heights)), (u11, .inl (cJ, 2410, .inr (.inl g7))), (u12, .inl (cJ, 2410, .inr (.inl w13))), (p0, .inr (1, vL 18 F_p0_)), (h_p0_settings, .inl (cI, 5, .inl f_p0_settings)), (h_p0_length, .inl (cI, 12, .inl f_p0_length)), (h_p0_drop, .inl (cI, 12, .inl f_p0_drop)), (h_p0_ideal, .inl (cI, 12, .inl f_p0_ideal)), (h_p0_over, .inl (cI, 12, .inl f_p0_over)), (h_p0_bestAt, .inl (cI, 6, .inl f_p0_bestAt)), (h_p0_bad, .inl (cI, 6, .inl f_p0_bad)), (p1, .inr (5, vL 11 F_p1_))]) [0, 1, 12, 2, 3, 4, 5, 6, 7, 8, 9, 10, 11] rfl) (hD.sub (ws' := [(h0, .inr (4, vL 3 G10)), (h_heights, .inl (cI, 12, .inl f_heights)), (u11, .inl (cJ, 2410, .inr (.inl g7))), (u12, .inl (cJ, 2410, .inr (.inl w13))), (p0, .inr (1, vL 18 F_p0_)), (h_p0_settings, .inl (cI, 5, .inl f_p0_settings)), (h_p0_length, .inl (cI, 12, .inl f_p0_length)), (h_p0_drop, .inl (cI, 12, .inl f_p0_drop)), (h_p0_ideal, .inl (cI, 12, .inl f_p0_ideal)), (h_p0_over, .inl (cI, 12, .inl f_p0_over)), (h_p0_bestAt, .inl (cI, 6, .inl f_p0_bestAt)), (h_p0_bad, .inl (cI, 6, .inl f_p0_bad)), (p1, .inr (5, vL 11 F_p1_))]) [0, 1, 12, 2, 3, 4, 5, 6, 7, 8, 9, 10, 11] (by decide) rfl) dX4_leastTime_185 rfl (Nat.le_of_ble_eq_true rfl) (Nat.le_of_ble_eq_true rfl) ⟨G10, u11, u12, f_heights, g7, w13, (SAME.tr SAME.rf i15 (by decide)), i16, i17, rfl⟩
    · have dc22 : u19.toInt < 2410 := nle_i (a := 2410) (b := u19.toInt) rfl rfl c22
      have k33 : 0 ≤ u19.toInt ∧ u19.toInt ≤ 2409 := ⟨i21.1, up_lt dc22 (Int.le_refl _) (by decide)⟩
      refine lv_lload hx hb dX4_leastTime_155 (lv_at hl 1 rfl) ?_
      refine lv_aload_n hx hb dX4_leastTime_157 rfl (lv_at hl 3 rfl) ?_
      refine get_f (D := D) (ci := 4) (v := .ref u11) (C := RX4) (T := TX4) (N := 3) hx hb hw inAX4 hown hK hP 0 rfl rfl 1 (by decide) (hw _ q_1009) (fun _ h9 => h9) i16 dX4_leastTime_158 ?_
      refine lv_iload hx hb dX4_leastTime_161 (lv_at hl 0 rfl) ?_
      refine va_lald hx hb hK hP 12 1 rfl rfl (ix_k k33 (by decide) (by decide)) dX4_leastTime_163 ?_
      refine lv_topl (fun v34 ev34 => ?_)
      refine va_mmin_long hx hb (hml.trans hl.1.symm) hown (hw _ q_1035) (hw _ q_953) (hw _ q_19) (hw _ q_954) (Nat.le_of_ble_eq_true rfl) (Nat.le_of_ble_eq_true rfl) (Nat.le_of_ble_eq_true rfl) (Nat.le_of_ble_eq_true rfl) dX4_leastTime_164 ?_
      refine lv_topl (fun v35 ev35 => ?_)
      refine lv_lstore (lv' := [(7, .long v35), (9, .int u19), (5, .long u9), (0, .ref h0), (1, .ref p0), (2, .ref p1), (3, .int p2), (4, .int p3)]) hx hb dX4_leastTime_167 hl (by decide) rfl (fun ls hl => ?_)
      obtain ⟨v36, ev36⟩ : ∃ z : Int32, z = u19 + 1 := ⟨_, rfl⟩
      have bv36 : v36.toInt = u19.toInt + 1 := by rw [ev36]; exact add_k rfl rfl k33 ⟨Int.le_refl _, Int.le_refl _⟩ (by decide)
      have k37 : 1 ≤ v36.toInt ∧ v36.toInt ≤ 2410 := add_r bv36 k33 ⟨Int.le_refl _, Int.le_refl _⟩ (by decide)
      refine lv_iinc (v := v36) (lv' := [(9, .int v36), (7, .long v35), (5, .long u9), (0, .ref h0), (1, .ref p0), (2, .ref p1), (3, .int p2), (4, .int p3)]) hx hb dX4_leastTime_169 hl (k := 1) rfl (by rw [ev36]; rfl) (by decide) rfl (fun ls hl => ?_)
      refine lv_goto (tgt := 147) hx hb dX4_leastTime_172 (by decide) ?_
      exact ih (v36, v35) (ir_wk k37 (by decide) (by decide)) (by show (2410 - v36.toInt).toNat < (2410 - u19.toInt).toNat; omega) _ _ _ hP hD hS (lv_sub hl [0, 1, 2, 3, 4, 5, 6, 7] rfl)
  · have dc18 : u8.toInt < x_p0_bends.toInt := nle_i (a := x_p0_bends.toInt) (b := u8.toInt) rfl rfl c18
    have k38 : 0 ≤ u8.toInt ∧ u8.toInt ≤ 11 := ⟨i14.1, up_lt dc18 i_x_p0_bends.2 (by decide)⟩
    have k39 : 1 ≤ x_p0_bends.toInt ∧ x_p0_bends.toInt ≤ 12 := ⟨lo_lt dc18 i14.1 (by decide), i_x_p0_bends.2⟩
    refine lv_aload_n hx hb dX4_leastTime_40 rfl (lv_at hl 2 rfl) ?_
    refine get_f (D := D) (ci := 4) (v := .ref u12) (C := RX4) (T := TX4) (N := 3) hx hb hw inAX4 hown hK hP 0 rfl rfl 2 (by decide) (hw _ q_1010) (fun _ h9 => h9) i17 dX4_leastTime_41 ?_
    refine lv_ldc2 hx hb hown (hw _ q_1022) dX4_leastTime_44 ?_
    refine call_Sv (wr := [(h0, .inr (4, vL 3 G10)), (h_heights, .inl (cI, 12, .inl f_heights)), (p0, .inr (1, vL 18 F_p0_)), (h_p0_settings, .inl (cI, 5, .inl f_p0_settings)), (h_p0_length, .inl (cI, 12, .inl f_p0_length)), (h_p0_drop, .inl (cI, 12, .inl f_p0_drop)), (h_p0_ideal, .inl (cI, 12, .inl f_p0_ideal)), (h_p0_over, .inl (cI, 12, .inl f_p0_over)), (h_p0_bestAt, .inl (cI, 6, .inl f_p0_bestAt)), (h_p0_bad, .inl (cI, 6, .inl f_p0_bad)), (p1, .inr (5, vL 11 F_p1_)), (u11, .inl (cJ, 2410, .inr (.inl g7)))]) (As := [.ref u12, .long 4611686018427387904]) (rest := []) hx hb hml hown hw (m_J7_fill_d0a16_2410 l D cI cJ cB cP cM cZ u12 w13 4611686018427387904 _ ) wS_X4_24_J7_fill_d0a16 dX4_leastTime_47 hP hD hS hA [2] [0, 1, 3, 4, 5, 6, 7, 8, 9, 10, 11, 12] rfl rfl (by decide) (by decide) (by decide) GG.fb hG.at hl.1 rfl (Nat.le_of_ble_eq_true rfl) ⟨(Nat.le_of_ble_eq_true rfl), (Nat.le_of_ble_eq_true rfl)⟩ ⟨(Nat.le_of_ble_eq_true rfl), (Nat.le_of_ble_eq_true rfl)⟩ (fun u H locs hp hP hD hS => ?_)
    obtain ⟨g41, rfl⟩ := hp
    have hP : va_P D vwCl [(h0, .inr (4, vL 3 G10)), (h_heights, .inl (cI, 12, .inl f_heights)), (p0, .inr (1, vL 18 F_p0_)), (h_p0_settings, .inl (cI, 5, .inl f_p0_settings)), (h_p0_length, .inl (cI, 12, .inl f_p0_length)), (h_p0_drop, .inl (cI, 12, .inl f_p0_drop)), (h_p0_ideal, .inl (cI, 12, .inl f_p0_ideal)), (h_p0_over, .inl (cI, 12, .inl f_p0_over)), (h_p0_bestAt, .inl (cI, 6, .inl f_p0_bestAt)), (h_p0_bad, .inl (cI, 6, .inl f_p0_bad)), (p1, .inr (5, vL 11 F_p1_)), (u11, .inl (cJ, 2410, .inr (.inl g7))), (u12, .inl (cJ, 2410, .inr (.inl g41)))] H := hP
    have hD : va_D A [(h0, .inr (4, vL 3 G10)), (h_heights, .inl (cI, 12, .inl f_heights)), (p0, .inr (1, vL 18 F_p0_)), (h_p0_settings, .inl (cI, 5, .inl f_p0_settings)), (h_p0_length, .inl (cI, 12, .inl f_p0_length)), (h_p0_drop, .inl (cI, 12, .inl f_p0_drop)), (h_p0_ideal, .inl (cI, 12, .inl f_p0_ideal)), (h_p0_over, .inl (cI, 12, .inl f_p0_over)), (h_p0_bestAt, .inl (cI, 6, .inl f_p0_bestAt)), (h_p0_bad, .inl (cI, 6, .inl f_p0_bad)), (p1, .inr (5, vL 11 F_p1_)), (u11, .inl (cJ, 2410, .inr (.inl g7))), (u12, .inl (cJ, 2410, .inr (.inl g41)))] := hD
    refine W.widen (k := 0) (n := 0) (Nat.le_of_ble_eq_true rfl) (Nat.le_of_ble_eq_true rfl) ?_
    refine lv_aload_n hx hb dX4_leastTime_50 rfl (lv_at hl 3 rfl) ?_
    refine lv_iload hx hb dX4_leastTime_51 (lv_at hl 0 rfl) ?_
    refine lv_aload_n hx hb dX4_leastTime_53 rfl (lv_at hl 4 rfl) ?_
    refine lv_iload hx hb dX4_leastTime_54 (lv_at hl 6 rfl) ?_
    refine call_Vi (wr := [(h0, .inr (4, vL 3 G10)), (h_heights, .inl (cI, 12, .inl f_heights)), (h_p0_length, .inl (cI, 12, .inl f_p0_length)), (h_p0_ideal, .inl (cI, 12, .inl f_p0_ideal)), (h_p0_over, .inl (cI, 12, .inl f_p0_over)), (u11, .inl (cJ, 2410, .inr (.inl g7))), (u12, .inl (cJ, 2410, .inr (.inl g41)))]) (As := [.int u8, .ref p1, .int p3]) (rest := []) hx hb hml hown hw (m_X1_steadyChange l D cI cJ cB cP cM cZ p0 h_p0_settings h_p0_drop h_p0_bestAt h_p0_bad p1 F_p0_ x_p0_runners f_p0_settings f_p0_drop f_p0_bestAt f_p0_bad F_p1_ x_p1_runner x_p1_number u8 p3 _ e_p0_settings e_p0_drop e_p0_bestAt e_p0_bad e_p0_runners i_x_p0_runners e_p1_runner e_p1_number k38) wV_X4_38_X1_steadyChange dX4_leastTime_56 hK hP hD hS hA [2, 3, 5, 8, 9, 10] [0, 1, 4, 6, 7, 11, 12] rfl rfl (by decide) (by decide) (by decide) 0 1 rfl rfl GG.fb hG.at hl.1 rfl (Nat.le_of_ble_eq_true rfl) ⟨(Nat.le_of_ble_eq_true rfl), (Nat.le_of_ble_eq_true rfl)⟩ ⟨(Nat.le_of_ble_eq_true rfl), (Nat.le_of_ble_eq_true rfl)⟩ (fun r42 u H locs hp hP hD hS => ?_)
    obtain rfl := hp
    have hP : va_P D vwCl [(h0, .inr (4, vL 3 G10)), (h_heights, .inl (cI, 12, .inl f_heights)), (h_p0_length, .inl (cI, 12, .inl f_p0_length)), (h_p0_ideal, .inl (cI, 12, .inl f_p0_ideal)), (h_p0_over, .inl (cI, 12, .inl f_p0_over)), (u11, .inl (cJ, 2410, .inr (.inl g7))), (u12, .inl (cJ, 2410, .inr (.inl g41))), (p0, .inr (1, vL 18 F_p0_)), (h_p0_settings, .inl (cI, 5, .inl f_p0_settings)), (h_p0_drop, .inl (cI, 12, .inl f_p0_drop)), (h_p0_bestAt, .inl (cI, 6, .inl f_p0_bestAt)), (h_p0_bad, .inl (cI, 6, .inl f_p0_bad)), (p1, .inr (5, vL 11 F_p1_))] H := hP
    have hD : va_D A [(h0, .inr (4, vL 3 G10)), (h_heights, .inl (cI, 12, .inl f_heights)), (h_p0_length, .inl (cI, 12, .inl f_p0_length)), (h_p0_ideal, .inl (cI, 12, .inl f_p0_ideal)), (h_p0_over, .inl (cI, 12, .inl f_p0_over)), (u11, .inl (cJ, 2410, .inr (.inl g7))), (u12, .inl (cJ, 2410, .inr (.inl g41))), (p0, .inr (1, vL 18 F_p0_)), (h_p0_settings, .inl (cI, 5, .inl f_p0_settings)), (h_p0_drop, .inl (cI, 12, .inl f_p0_drop)), (h_p0_bestAt, .inl (cI, 6, .inl f_p0_bestAt)), (h_p0_bad, .inl (cI, 6, .inl f_p0_bad)), (p1, .inr (5, vL 11 F_p1_))] := hD
    refine W.widen (k := 0) (n := 0) (Nat.le_of_ble_eq_true rfl) (Nat.le_of_ble_eq_true rfl) ?_
    refine lv_istore (lv' := [(8, .int r42), (7, .int u8), (5, .long u9), (0, .ref h0), (1, .ref p0), (2, .ref p1), (3, .int p2), (4, .int p3)]) hx hb dX4_leastTime_59 hl (by decide) rfl (fun ls hl => ?_)
    refine lv_iconst (v := 0) hx hb dX4_leastTime_61 (by decide) ?_
    refine lv_istore (lv' := [(9, .int 0), (8, .int r42), (7, .int u8), (5, .long u9), (0, .ref h0), (1, .ref p0), (2, .ref p1), (3, .int p2), (4, .int p3)]) hx hb dX4_leastTime_62 hl (by decide) rfl (fun ls hl => ?_)
    refine mloop (α := (Int32) × (Nat → Int64)) (nL := 10) (D := D) (A := A) (H0 := s.heap) (fun a => (2410 - a.1.toInt).toNat) (fun a => IR 0 2410 a.1) (fun a => [(h0, .inr (4, vL 3 G10)), (h_heights, .inl (cI, 12, .inl f_heights)), (h_p0_length, .inl (cI, 12, .inl f_p0_length)), (h_p0_ideal, .inl (cI, 12, .inl f_p0_ideal)), (h_p0_over, .inl (cI, 12, .inl f_p0_over)), (u11, .inl (cJ, 2410, .inr (.inl g7))), (u12, .inl (cJ, 2410, .inr (.inl a.2))), (p0, .inr (1, vL 18 F_p0_)), (h_p0_settings, .inl (cI, 5, .inl f_p0_settings)), (h_p0_drop, .inl (cI, 12, .inl f_p0_drop)), (h_p0_bestAt, .inl (cI, 6, .inl f_p0_bestAt)), (h_p0_bad, .inl (cI, 6, .inl f_p0_bad)), (p1, .inr (5, vL 11 F_p1_))]) (fun a => [(9, .int a.1), (8, .int r42), (7, .int u8), (5, .long u9), (0, .ref h0), (1, .ref p0), (2, .ref p1), (3, .int p2), (4, .int p3)]) (fun H locs ls => W p l e ({ frames := 3, cells := 0, slots := 0, locals := 96 } : Room) s m [.ref h0, .ref p0, .ref p1, .int p2, .int p3].toArray below meth c H locs 0 0 (MQ below (va_Qi (fun (r : Int32) (u : va_W) => ∃ (Gh : Nat → Value) (y_ways : Nat) (y_nextWays : Nat) (g_heights : Nat → Int32) (g_ways : Nat → Int64) (g_nextWays : Nat → Int64), SAME [1, 2] Fh Gh ∧ Gh 1 = .ref y_ways ∧ Gh 2 = .ref y_nextWays ∧ u = [(h0, .inr (4, vL 3 Gh)), (h_heights, .inl (cI, 12, .inl g_heights)), (y_ways, .inl (cJ, 2410, .inr (.inl g_ways))), (y_nextWays, .inl (cJ, 2410, .inr (.inl g_nextWays))), (p0, .inr (1, vL 18 F_p0_)), (h_p0_settings, .inl (cI, 5, .inl f_p0_settings)), (h_p0_length, .inl (cI, 12, .inl f_p0_length)), (h_p0_drop, .inl (cI, 12, .inl f_p0_drop)), (h_p0_ideal, .inl (cI, 12, .inl f_p0_ideal)), (h_p0_over, .inl (cI, 12, .inl f_p0_over)), (h_p0_bestAt, .inl (cI, 6, .inl f_p0_bestAt)), (h_p0_bad, .inl (cI, 6, .inl f_p0_bad)), (p1, .inr (5, vL 11 F_p1_))]) (PO D A) A) [.ref h0, .ref p0, .ref p1, .int p2, .int p3].toArray s 0 0 A) (F0 m 64 ls [])) ?_ (0, g41) ⟨by decide, by decide⟩ _ _ _ hP hD hS hl
    rintro ⟨u43, w44⟩ i45 ih H locs ls hP hD hS hl
    have i45 : 0 ≤ u43.toInt ∧ u43.toInt ≤ 2410 := i45
    have hP : va_P D vwCl [(h0, .inr (4, vL 3 G10)), (h_heights, .inl (cI, 12, .inl f_heights)), (h_p0_length, .inl (cI, 12, .inl f_p0_length)), (h_p0_ideal, .inl (cI, 12, .inl f_p0_ideal)), (h_p0_over, .inl (cI, 12, .inl f_p0_over)), (u11, .inl (cJ, 2410, .inr (.inl g7))), (u12, .inl (cJ, 2410, .inr (.inl w44))), (p0, .inr (1, vL 18 F_p0_)), (h_p0_settings, .inl (cI, 5, .inl f_p0_settings)), (h_p0_drop, .inl (cI, 12, .inl f_p0_drop)), (h_p0_bestAt, .inl (cI, 6, .inl f_p0_bestAt)), (h_p0_bad, .inl (cI, 6, .inl f_p0_bad)), (p1, .inr (5, vL 11 F_p1_))] H := hP
    have hD : va_D A [(h0, .inr (4, vL 3 G10)), (h_heights, .inl (cI, 12, .inl f_heights)), (h_p0_length, .inl (cI, 12, .inl f_p0_length)), (h_p0_ideal, .inl (cI, 12, .inl f_p0_ideal)), (h_p0_over, .inl (cI, 12, .inl f_p0_over)), (u11, .inl (cJ, 2410, .inr (.inl g7))), (u12, .inl (cJ, 2410, .inr (.inl w44))), (p0, .inr (1, vL 18 F_p0_)), (h_p0_settings, .inl (cI, 5, .inl f_p0_settings)), (h_p0_drop, .inl (cI, 12, .inl f_p0_drop)), (h_p0_bestAt, .inl (cI, 6, .inl f_p0_bestAt)), (h_p0_bad, .inl (cI, 6, .inl f_p0_bad)), (p1, .inr (5, vL 11 F_p1_))] := hD
    have hl : lv_has ls 10 [(9, .int u43), (8, .int r42), (7, .int u8), (5, .long u9), (0, .ref h0), (1, .ref p0), (2, .ref p1), (3, .int p2), (4, .int p3)] := hl
    refine lv_iload hx hb dX4_leastTime_64 (lv_at hl 0 rfl) ?_
    refine lv_sipush (v := 2410) hx hb dX4_leastTime_66 (by decide) ?_
    refine lv_icmp_ge (tgt := 105) hx hb dX4_leastTime_69 (by decide) (fun c46 => ?_) (fun c46 => ?_)
    · have dc46 : 2410 ≤ u43.toInt := le_i (a := 2410) (b := u43.toInt) rfl rfl c46
      have k47 : 2410 ≤ u43.toInt ∧ u43.toInt ≤ 2410 := ⟨Int.le_trans (Int.le_refl _) dc46, i45.2⟩
      refine lv_aload_n hx hb dX4_leastTime_105 rfl (lv_at hl 4 rfl) ?_
      refine get_f (D := D) (ci := 4) (v := .ref u11) (C := RX4) (T := TX4) (N := 3) hx hb hw inAX4 hown hK hP 0 rfl rfl 1 (by decide) (hw _ q_1009) (fun _ h9 => h9) i16 dX4_leastTime_106 ?_
      refine lv_astore (lv' := [(9, .ref u11), (8, .int r42), (7, .int u8), (5, .long u9), (0, .ref h0), (1, .ref p0), (2, .ref p1), (3, .int p2), (4, .int p3)]) hx hb dX4_leastTime_109 hl (by decide) rfl (fun ls hl => ?_)
      refine lv_aload_n hx hb dX4_leastTime_111 rfl (lv_at hl 4 rfl) ?_
      refine lv_aload_n hx hb dX4_leastTime_112 rfl (lv_at hl 4 rfl) ?_
      refine get_f (D := D) (ci := 4) (v := .ref u12) (C := RX4) (T := TX4) (N := 3) hx hb hw inAX4 hown hK hP 0 rfl rfl 2 (by decide) (hw _ q_1010) (fun _ h9 => h9) i17 dX4_leastTime_113 ?_
      refine put_f (D := D) (ci := 4) (v := .ref u12) (ty := (.array .long)) (C := RX4) (T := TX4) (N := 3) hx hb hw inAX4 tyX4 tyX4_ok nmX4 hown hK hP hD hS 0 rfl rfl 1 (by decide) (hw _ q_1009) (fun _ h9 => h9) rfl (by decide +kernel) rfl rfl dX4_leastTime_116 (fun H locs F48 eF48 hP hD hS => ?_)
      have hP : va_P D vwCl [(h0, .inr (4, vL 3 F48)), (h_heights, .inl (cI, 12, .inl f_heights)), (h_p0_length, .inl (cI, 12, .inl f_p0_length)), (h_p0_ideal, .inl (cI, 12, .inl f_p0_ideal)), (h_p0_over, .inl (cI, 12, .inl f_p0_over)), (u11, .inl (cJ, 2410, .inr (.inl g7))), (u12, .inl (cJ, 2410, .inr (.inl w44))), (p0, .inr (1, vL 18 F_p0_)), (h_p0_settings, .inl (cI, 5, .inl f_p0_settings)), (h_p0_drop, .inl (cI, 12, .inl f_p0_drop)), (h_p0_bestAt, .inl (cI, 6, .inl f_p0_bestAt)), (h_p0_bad, .inl (cI, 6, .inl f_p0_bad)), (p1, .inr (5, vL 11 F_p1_))] H := hP
      have hD : va_D A [(h0, .inr (4, vL 3 F48)), (h_heights, .inl (cI, 12, .inl f_heights)), (h_p0_length, .inl (cI, 12, .inl f_p0_length)), (h_p0_ideal, .inl (cI, 12, .inl f_p0_ideal)), (h_p0_over, .inl (cI, 12, .inl f_p0_over)), (u11, .inl (cJ, 2410, .inr (.inl g7))), (u12, .inl (cJ, 2410, .inr (.inl w44))), (p0, .inr (1, vL 18 F_p0_)), (h_p0_settings, .inl (cI, 5, .inl f_p0_settings)), (h_p0_drop, .inl (cI, 12, .inl f_p0_drop)), (h_p0_bestAt, .inl (cI, 6, .inl f_p0_bestAt)), (h_p0_bad, .inl (cI, 6, .inl f_p0_bad)), (p1, .inr (5, vL 11 F_p1_))] := hD
      refine lv_aload_n hx hb dX4_leastTime_119 rfl (lv_at hl 4 rfl) ?_
      refine lv_aload hx hb dX4_leastTime_120 (lv_at hl 0 rfl) ?_
      refine put_f (D := D) (ci := 4) (v := .ref u11) (ty := (.array .long)) (C := RX4) (T := TX4) (N := 3) hx hb hw inAX4 tyX4 tyX4_ok nmX4 hown hK hP hD hS 0 rfl rfl 2 (by decide) (hw _ q_1010) (fun _ h9 => h9) rfl (by decide +kernel) rfl rfl dX4_leastTime_122 (fun H locs F49 eF49 hP hD hS => ?_)
      have hP : va_P D vwCl [(h0, .inr (4, vL 3 F49)), (h_heights, .inl (cI, 12, .inl f_heights)), (h_p0_length, .inl (cI, 12, .inl f_p0_length)), (h_p0_ideal, .inl (cI, 12, .inl f_p0_ideal)), (h_p0_over, .inl (cI, 12, .inl f_p0_over)), (u11, .inl (cJ, 2410, .inr (.inl g7))), (u12, .inl (cJ, 2410, .inr (.inl w44))), (p0, .inr (1, vL 18 F_p0_)), (h_p0_settings, .inl (cI, 5, .inl f_p0_settings)), (h_p0_drop, .inl (cI, 12, .inl f_p0_drop)), (h_p0_bestAt, .inl (cI, 6, .inl f_p0_bestAt)), (h_p0_bad, .inl (cI, 6, .inl f_p0_bad)), (p1, .inr (5, vL 11 F_p1_))] H := hP
      have hD : va_D A [(h0, .inr (4, vL 3 F49)), (h_heights, .inl (cI, 12, .inl f_heights)), (h_p0_length, .inl (cI, 12, .inl f_p0_length)), (h_p0_ideal, .inl (cI, 12, .inl f_p0_ideal)), (h_p0_over, .inl (cI, 12, .inl f_p0_over)), (u11, .inl (cJ, 2410, .inr (.inl g7))), (u12, .inl (cJ, 2410, .inr (.inl w44))), (p0, .inr (1, vL 18 F_p0_)), (h_p0_settings, .inl (cI, 5, .inl f_p0_settings)), (h_p0_drop, .inl (cI, 12, .inl f_p0_drop)), (h_p0_bestAt, .inl (cI, 6, .inl f_p0_bestAt)), (h_p0_bad, .inl (cI, 6, .inl f_p0_bad)), (p1, .inr (5, vL 11 F_p1_))] := hD
      refine lv_lload hx hb dX4_leastTime_125 (lv_at hl 3 rfl) ?_
      refine lv_ldc2 hx hb hown (hw _ q_1036) dX4_leastTime_127 ?_
      refine lv_ldiv hx hb dX4_leastTime_130 (by decide) ?_
      refine lv_topl (fun v50 ev50 => ?_)
      refine lv_lstore (lv' := [(5, .long v50), (9, .ref u11), (8, .int r42), (7, .int u8), (0, .ref h0), (1, .ref p0), (2, .ref p1), (3, .int p2), (4, .int p3)]) hx hb dX4_leastTime_131 hl (by decide) rfl (fun ls hl => ?_)
      obtain ⟨v51, ev51⟩ : ∃ z : Int32, z = u8 + 1 := ⟨_, rfl⟩
      have bv51 : v51.toInt = u8.toInt + 1 := by rw [ev51]; exact add_k rfl rfl k38 ⟨Int.le_refl _, Int.le_refl _⟩ (by decide)
      have k52 : 1 ≤ v51.toInt ∧ v51.toInt ≤ 12 := add_r bv51 k38 ⟨Int.le_refl _, Int.le_refl _⟩ (by decide)
      refine lv_iinc (v := v51) (lv' := [(7, .int v51), (5, .long v50), (9, .ref u11), (8, .int r42), (0, .ref h0), (1, .ref p0), (2, .ref p1), (3, .int p2), (4, .int p3)]) hx hb dX4_leastTime_133 hl (k := 3) rfl (by rw [ev51]; rfl) (by decide) rfl (fun ls hl => ?_)
      refine lv_goto (tgt := 31) hx hb dX4_leastTime_136 (by decide) ?_
      have n53 : F49 1 = .ref u12 := (get_ne eF49 (by decide) (get_eq eF48))
      exact ih (v51, v50, F49, u12, u11, g7) ⟨(ir_wk k52 (by decide) (by decide)), (SAME.up eF49 (SAME.up eF48 (SAME.tr SAME.rf i15 (by decide)) (by decide)) (by decide)), n53, (get_eq eF49)⟩ (by show (12 - v51.toInt).toNat < (12 - u8.toInt).toNat; omega) _ _ _ (hP.sub [0, 1, 5, 7, 8, 2, 9, 3, 4, 10, 11, 12, 6] rfl) (hD.sub [0, 1, 5, 7, 8, 2, 9, 3, 4, 10, 11, 12, 6] (by decide) rfl) hS (lv_sub hl [0, 1, 4, 5, 6, 7, 8] rfl)
    · have dc46 : u43.toInt < 2410 := nle_i (a := 2410) (b := u43.toInt) rfl rfl c46
      have k54 : 0 ≤ u43.toInt ∧ u43.toInt ≤ 2409 := ⟨i45.1, up_lt dc46 (Int.le_refl _) (by decide)⟩
      refine lv_aload_n hx hb dX4_leastTime_72 rfl (lv_at hl 4 rfl) ?_
      refine get_f (D := D) (ci := 4) (v := .ref u11) (C := RX4) (T := TX4) (N := 3) hx hb hw inAX4 hown hK hP 0 rfl rfl 1 (by decide) (hw _ q_1009) (fun _ h9 => h9) i16 dX4_leastTime_73 ?_
      refine lv_iload hx hb dX4_leastTime_76 (lv_at hl 0 rfl) ?_
      refine va_lald hx hb hK hP 5 1 rfl rfl (ix_k k54 (by decide) (by decide)) dX4_leastTime_78 ?_
      refine lv_topl (fun v55 ev55 => ?_)
      refine lv_ldc2 hx hb hown (hw _ q_1022) dX4_leastTime_79 ?_
      refine W.lcmp hx hb dX4_leastTime_82 ?_
      refine lv_topi (fun v56 ev56 => ?_)
      refine lv_if_eq (tgt := 99) hx hb dX4_leastTime_83 (by decide) (fun c57 => ?_) (fun c57 => ?_)
      · have dc57 : v56.toInt = 0 := eq_i (a := v56.toInt) (b := 0) rfl rfl c57
        have k58 : 0 ≤ v56.toInt ∧ v56.toInt ≤ 0 := ⟨Int.le_trans (Int.le_refl _) (Int.le_of_eq dc57.symm), Int.le_trans (Int.le_of_eq dc57) (Int.le_refl _)⟩
        obtain ⟨v59, ev59⟩ : ∃ z : Int32, z = u43 + 1 := ⟨_, rfl⟩
        have bv59 : v59.toInt = u43.toInt + 1 := by rw [ev59]; exact add_k rfl rfl k54 ⟨Int.le_refl _, Int.le_refl _⟩ (by decide)
        have k60 : 1 ≤ v59.toInt ∧ v59.toInt ≤ 2410 := add_r bv59 k54 ⟨Int.le_refl _, Int.le_refl _⟩ (by decide)
        refine lv_iinc (v := v59) (lv' := [(9, .int v59), (8, .int r42), (7, .int u8), (5, .long u9), (0, .ref h0), (1, .ref p0), (2, .ref p1), (3, .int p2), (4, .int p3)]) hx hb dX4_leastTime_99 hl (k := 0) rfl (by rw [ev59]; rfl) (by decide) rfl (fun ls hl => ?_)
        refine lv_goto (tgt := 64) hx hb dX4_leastTime_102 (by decide) ?_
        exact ih (v59, w44) (ir_wk k60 (by decide) (by decide)) (by show (2410 - v59.toInt).toNat < (2410 - u43.toInt).toNat; omega) _ _ _ hP hD hS (lv_sub hl [0, 1, 2, 3, 4, 5, 6, 7, 8] rfl)
      · have dc57 : v56.toInt ≠ 0 := ne_i (a := v56.toInt) (b := 0) rfl rfl c57
        refine lv_aload_n hx hb dX4_leastTime_86 rfl (lv_at hl 4 rfl) ?_
        refine lv_aload_n hx hb dX4_leastTime_87 rfl (lv_at hl 5 rfl) ?_
        refine lv_iload hx hb dX4_leastTime_88 (lv_at hl 2 rfl) ?_
        refine lv_iload hx hb dX4_leastTime_90 (lv_at hl 0 rfl) ?_
        refine lv_iload hx hb dX4_leastTime_92 (lv_at hl 1 rfl) ?_
        refine lv_lload hx hb dX4_leastTime_94 (lv_at hl 3 rfl) ?_
        refine call_Vv (wr := [(h_heights, .inl (cI, 12, .inl f_heights)), (h_p0_settings, .inl (cI, 5, .inl f_p0_settings)), (h_p0_drop, .inl (cI, 12, .inl f_p0_drop)), (h_p0_bestAt, .inl (cI, 6, .inl f_p0_bestAt)), (h_p0_bad, .inl (cI, 6, .inl f_p0_bad)), (p1, .inr (5, vL 11 F_p1_))]) (As := [.ref p0, .int u8, .int u43, .int r42, .long u9]) (rest := []) hx hb hml hown hw (m_X4_goOn l D cI cJ cB cP cM cZ h0 u11 u12 p0 h_p0_length h_p0_ideal h_p0_over G10 g7 w44 F_p0_ f_p0_length f_p0_ideal f_p0_over u8 u43 r42 u9 _ i16 i17 e_p0_length e_p0_ideal e_p0_over k38 k54) wV_X4_42_X4_goOn dX4_leastTime_96 hK hP hD hS hA [0, 5, 6, 7, 2, 3, 4] [1, 8, 9, 10, 11, 12] rfl rfl (by decide) (by decide) (by decide) 0 4 rfl rfl GG.fb hG.at hl.1 rfl (Nat.le_of_ble_eq_true rfl) ⟨(Nat.le_of_ble_eq_true rfl), (Nat.le_of_ble_eq_true rfl)⟩ ⟨(Nat.le_of_ble_eq_true rfl), (Nat.le_of_ble_eq_true rfl)⟩ (fun u H locs hp hP hD hS => ?_)
        obtain ⟨g62, rfl⟩ := hp
        have hP : va_P D vwCl [(h_heights, .inl (cI, 12, .inl f_heights)), (h_p0_settings, .inl (cI, 5, .inl f_p0_settings)), (h_p0_drop, .inl (cI, 12, .inl f_p0_drop)), (h_p0_bestAt, .inl (cI, 6, .inl f_p0_bestAt)), (h_p0_bad, .inl (cI, 6, .inl f_p0_bad)), (p1, .inr (5, vL 11 F_p1_)), (h0, .inr (4, vL 3 G10)), (u11, .inl (cJ, 2410, .inr (.inl g7))), (u12, .inl (cJ, 2410, .inr (.inl g62))), (p0, .inr (1, vL 18 F_p0_)), (h_p0_length, .inl (cI, 12, .inl f_p0_length)), (h_p0_ideal, .inl (cI, 12, .inl f_p0_ideal)), (h_p0_over, .inl (cI, 12, .inl f_p0_over))] H := hP
        have hD : va_D A [(h_heights, .inl (cI, 12, .inl f_heights)), (h_p0_settings, .inl (cI, 5, .inl f_p0_settings)), (h_p0_drop, .inl (cI, 12, .inl f_p0_drop)), (h_p0_bestAt, .inl (cI, 6, .inl f_p0_bestAt)), (h_p0_bad, .inl (cI, 6, .inl f_p0_bad)), (p1, .inr (5, vL 11 F_p1_)), (h0, .inr (4, vL 3 G10)), (u11, .inl (cJ, 2410, .inr (.inl g7))), (u12, .inl (cJ, 2410, .inr (.inl g62))), (p0, .inr (1, vL 18 F_p0_)), (h_p0_length, .inl (cI, 12, .inl f_p0_length)), (h_p0_ideal, .inl (cI, 12, .inl f_p0_ideal)), (h_p0_over, .inl (cI, 12, .inl f_p0_over))] := hD
        refine W.widen (k := 0) (n := 0) (Nat.le_of_ble_eq_true rfl) (Nat.le_of_ble_eq_true rfl) ?_
        obtain ⟨v63, ev63⟩ : ∃ z : Int32, z = u43 + 1 := ⟨_, rfl⟩
        have bv63 : v63.toInt = u43.toInt + 1 := by rw [ev63]; exact add_k rfl rfl k54 ⟨Int.le_refl _, Int.le_refl _⟩ (by decide)
        have k64 : 1 ≤ v63.toInt ∧ v63.toInt ≤ 2410 := add_r bv63 k54 ⟨Int.le_refl _, Int.le_refl _⟩ (by decide)
        refine lv_iinc (v := v63) (lv' := [(9, .int v63), (8, .int r42), (7, .int u8), (5, .long u9), (0, .ref h0), (1, .ref p0), (2, .ref p1), (3, .int p2), (4, .int p3)]) hx hb dX4_leastTime_99 hl (k := 0) rfl (by rw [ev63]; rfl) (by decide) rfl (fun ls hl => ?_)
        refine lv_goto (tgt := 64) hx hb dX4_leastTime_102 (by decide) ?_
        exact ih (v63, g62) (ir_wk k64 (by decide) (by decide)) (by show (2410 - v63.toInt).toNat < (2410 - u43.toInt).toNat; omega) _ _ _ (hP.sub [6, 0, 10, 11, 12, 7, 8, 9, 1, 2, 3, 4, 5] rfl) (hD.sub [6, 0, 10, 11, 12, 7, 8, 9, 1, 2, 3, 4, 5] (by decide) rfl) hS (lv_sub hl [0, 1, 2, 3, 4, 5, 6, 7, 8] rfl)
