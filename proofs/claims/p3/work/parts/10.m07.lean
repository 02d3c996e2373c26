set_option maxHeartbeats 4000000 in
set_option maxRecDepth 100000 in
theorem m_X10_starts (l : Launch) (D : va_G) (cI cJ cB cP cM cZ : ClassId) (h0 : Nat) (h_s : Nat) (h_paceAt : Nat) (h_kindOf : Nat) (Fh : Nat → Value) (x_seed : Int32) (x_kicks : Int32) (f_s : Nat → Int32) (f_paceAt : Nat → Int32) (f_kindOf : Nat → Int32) (sz : Nat) (e_s : Fh 6 = .ref h_s) (e_paceAt : Fh 25 = .ref h_paceAt) (e_kindOf : Fh 26 = .ref h_kindOf) (e_seed : Fh 31 = .int x_seed) (e_kicks : Fh 32 = .int x_kicks) (i_x_kicks : IR 0 1 x_kicks) (s_s_K0 : KW 0 f_s) (s_s_0 : SG 0 0 0 40 f_s) (s_s_105 : SG 105 108 0 11 f_s) (s_s_114 : SG 114 114 0 5 f_s) (s_s_130 : SG 130 133 0 11 f_s) (s_s_139 : SG 139 139 0 5 f_s) (s_s_153 : SG 153 153 0 44 f_s) (s_s_44 : SG 44 55 0 9 f_s) (s_s_5 : SG 5 5 0 12 f_s) (s_s_6 : SG 6 6 0 12 f_s) (s_s_7 : SG 7 7 0 6 f_s) : CV l yX10_starts cX10_starts 6 none { frames := 3, cells := 0, slots := 0, locals := 69 } (GG D cI cJ cB cP cM cZ) D [(h0, .inr (10, vL 67 Fh)), (h_s, .inl (cI, 335, .inl f_s)), (h_paceAt, .inl (cI, 40, .inl f_paceAt)), (h_kindOf, .inl (cI, 4, .inl f_kindOf))] sz [.ref h0] (fun (u : va_W) => ∃ (Gh : Nat → Value) (y_lineTime : Int32) (y_linePace : Int32) (y_inside : Int32) (y_late : Int32) (y_seed : Int32) (g_paceAt : Nat → Int32) (g_kindOf : Nat → Int32), SAME [27, 28, 29, 30, 31] Fh Gh ∧ Gh 27 = .int y_lineTime ∧ Gh 28 = .int y_linePace ∧ IR 10 250 y_linePace ∧ Gh 29 = .int y_inside ∧ IR 0 15 y_inside ∧ Gh 30 = .int y_late ∧ IR 0 15 y_late ∧ Gh 31 = .int y_seed ∧ u = [(h0, .inr (10, vL 67 Gh)), (h_s, .inl (cI, 335, .inl f_s)), (h_paceAt, .inl (cI, 40, .inl g_paceAt)), (h_kindOf, .inl (cI, 4, .inl g_kindOf))]) := by
  refine CV_mk (by decide) (Nat.le_of_ble_eq_true rfl) ?_
  intro p e s m below meth c A ls E hAe hG hsz hP hD hA hS hl
  obtain ⟨hx, hb, hr, hw, hown, hlocks, hml, hnm⟩ := E
  have hK := hG.1
  have i_x_kicks : 0 ≤ x_kicks.toInt ∧ x_kicks.toInt ≤ 1 := i_x_kicks
  have hl : lv_has ls 6 [(0, .ref h0)] := hl
  refine lv_bipush (v := 30) hx hb dX10_starts_0 (by decide) ?_
  refine lv_istore_n (lv' := [(1, .int 30), (0, .ref h0)]) hx hb dX10_starts_2 rfl hl (by decide) rfl (fun ls hl => ?_)
  refine lv_iconst (v := 0) hx hb dX10_starts_3 (by decide) ?_
  refine lv_istore_n (lv' := [(2, .int 0), (1, .int 30), (0, .ref h0)]) hx hb dX10_starts_4 rfl hl (by decide) rfl (fun ls hl => ?_)
  refine lv_aload_n hx hb dX10_starts_5 rfl (lv_at hl 2 rfl) ?_
  refine lv_iconst (v := 0) hx hb dX10_starts_6 (by decide) ?_
  refine put_f (D := D) (ci := 10) (v := .int 0) (ty := .int) (C := RX10) (T := TX10) (N := 67) hx hb hw inAX10 tyX10 tyX10_ok nmX10 hown hK hP hD hS 0 rfl rfl 27 (by decide) (hw _ q_1288) (fun _ h9 => h9) rfl (by decide +kernel) rfl rfl dX10_starts_7 (fun H locs F1 eF1 hP hD hS => ?_)
  have hP : va_P D vwCl [(h0, .inr (10, vL 67 F1)), (h_s, .inl (cI, 335, .inl f_s)), (h_paceAt, .inl (cI, 40, .inl f_paceAt)), (h_kindOf, .inl (cI, 4, .inl f_kindOf))] H := hP
  have hD : va_D A [(h0, .inr (10, vL 67 F1)), (h_s, .inl (cI, 335, .inl f_s)), (h_paceAt, .inl (cI, 40, .inl f_paceAt)), (h_kindOf, .inl (cI, 4, .inl f_kindOf))] := hD
  refine lv_aload_n hx hb dX10_starts_10 rfl (lv_at hl 2 rfl) ?_
  refine lv_iconst (v := 0) hx hb dX10_starts_11 (by decide) ?_
  refine put_f (D := D) (ci := 10) (v := .int 0) (ty := .int) (C := RX10) (T := TX10) (N := 67) hx hb hw inAX10 tyX10 tyX10_ok nmX10 hown hK hP hD hS 0 rfl rfl 29 (by decide) (hw _ q_1290) (fun _ h9 => h9) rfl (by decide +kernel) rfl rfl dX10_starts_12 (fun H locs F2 eF2 hP hD hS => ?_)
  have hP : va_P D vwCl [(h0, .inr (10, vL 67 F2)), (h_s, .inl (cI, 335, .inl f_s)), (h_paceAt, .inl (cI, 40, .inl f_paceAt)), (h_kindOf, .inl (cI, 4, .inl f_kindOf))] H := hP
  have hD : va_D A [(h0, .inr (10, vL 67 F2)), (h_s, .inl (cI, 335, .inl f_s)), (h_paceAt, .inl (cI, 40, .inl f_paceAt)), (h_kindOf, .inl (cI, 4, .inl f_kindOf))] := hD
  refine lv_aload_n hx hb dX10_starts_15 rfl (lv_at hl 2 rfl) ?_
  refine lv_iconst (v := 0) hx hb dX10_starts_16 (by decide) ?_
  refine put_f (D := D) (ci := 10) (v := .int 0) (ty := .int) (C := RX10) (T := TX10) (N := 67) hx hb hw inAX10 tyX10 tyX10_ok nmX10 hown hK hP hD hS 0 rfl rfl 30 (by decide) (hw _ q_1291) (fun _ h9 => h9) rfl (by decide +kernel) rfl rfl dX10_starts_17 (fun H locs F3 eF3 hP hD hS => ?_)
  have hP : va_P D vwCl [(h0, .inr (10, vL 67 F3)), (h_s, .inl (cI, 335, .inl f_s)), (h_paceAt, .inl (cI, 40, .inl f_paceAt)), (h_kindOf, .inl (cI, 4, .inl f_kindOf))] H := hP
  have hD : va_D A [(h0, .inr (10, vL 67 F3)), (h_s, .inl (cI, 335, .inl f_s)), (h_paceAt, .inl (cI, 40, .inl f_paceAt)), (h_kindOf, .inl (cI, 4, .inl f_kindOf))] := hD
  refine lv_iconst (v := 0) hx hb dX10_starts_20 (by decide) ?_
  refine lv_istore_n (lv' := [(3, .int 0), (2, .int 0), (1, .int 30), (0, .ref h0)]) hx hb dX10_starts_21 rfl hl (by decide) rfl (fun ls hl => ?_)
  have n14 : F2 27 = .int 0 := (get_ne eF2 (by decide) (get_eq eF1))
  have n15 : F3 27 = .int 0 := (get_ne eF3 (by decide) n14)
  have n16 : F3 29 = .int 0 := (get_ne eF3 (by decide) (get_eq eF2))
  have n17 : F1 31 = .int x_seed := (get_ne eF1 (by decide) e_seed)
  have n18 : F2 31 = .int x_seed := (get_ne eF2 (by decide) n17)
  have n19 : F3 31 = .int x_seed := (get_ne eF3 (by decide) n18)
  refine mloop (α := (Int32) × (Int32) × (Int32) × (Nat → Value) × (Int32) × (Int32) × (Int32) × (Int32) × (Nat → Int32) × (Nat → Int32)) (nL := 6) (D := D) (A := A) (H0 := s.heap) (fun a => (45 - a.1.toInt).toNat) (fun a => IR 0 45 a.1 ∧ IR 0 1 a.2.1 ∧ IR 10 250 a.2.2.1 ∧ SAME [27, 29, 30, 31] F3 a.2.2.2.1 ∧ a.2.2.2.1 27 = .int a.2.2.2.2.1 ∧ a.2.2.2.1 29 = .int a.2.2.2.2.2.1 ∧ a.2.2.2.1 30 = .int a.2.2.2.2.2.2.1 ∧ a.2.2.2.1 31 = .int a.2.2.2.2.2.2.2.1 ∧ IR 0 15 a.2.2.2.2.2.1 ∧ IR 0 15 a.2.2.2.2.2.2.1) (fun a => [(h0, .inr (10, vL 67 a.2.2.2.1)), (h_s, .inl (cI, 335, .inl f_s)), (h_paceAt, .inl (cI, 40, .inl a.2.2.2.2.2.2.2.2.1)), (h_kindOf, .inl (cI, 4, .inl a.2.2.2.2.2.2.2.2.2))]) (fun a => [(3, .int a.1), (2, .int a.2.1), (1, .int a.2.2.1), (0, .ref h0)]) (fun H locs ls => W p l e ({ frames := 3, cells := 0, slots := 0, locals := 69 } : Room) s m [.ref h0].toArray below meth c H locs 0 0 (MQ below (va_Qv (fun (u : va_W) => ∃ (Gh : Nat → Value) (y_lineTime : Int32) (y_linePace : Int32) (y_inside : Int32) (y_late : Int32) (y_seed : Int32) (g_paceAt : Nat → Int32) (g_kindOf : Nat → Int32), SAME [27, 28, 29, 30, 31] Fh Gh ∧ Gh 27 = .int y_lineTime ∧ Gh 28 = .int y_linePace ∧ IR 10 250 y_linePace ∧ Gh 29 = .int y_inside ∧ IR 0 15 y_inside ∧ Gh 30 = .int y_late ∧ IR 0 15 y_late ∧ Gh 31 = .int y_seed ∧ u = [(h0, .inr (10, vL 67 Gh)), (h_s, .inl (cI, 335, .inl f_s)), (h_paceAt, .inl (cI, 40, .inl g_paceAt)), (h_kindOf, .inl (cI, 4, .inl g_kindOf))]) (PO D A) A) [.ref h0].toArray s 0 0 A) (F0 m 22 ls [])) ?_ (0, 0, 30, F3, 0, 0, 0, x_seed, f_paceAt, f_kindOf) ⟨(show 0 ≤ (0 : Int32).toInt ∧ (0 : Int32).toInt ≤ 45 by decide), (show 0 ≤ (0 : Int32).toInt ∧ (0 : Int32).toInt ≤ 1 by decide), (show 10 ≤ (30 : Int32).toInt ∧ (30 : Int32).toInt ≤ 250 by decide), SAME.rf, n15, n16, (get_eq eF3), n19, (show 0 ≤ (0 : Int32).toInt ∧ (0 : Int32).toInt ≤ 15 by decide), (show 0 ≤ (0 : Int32).toInt ∧ (0 : Int32).toInt ≤ 15 by decide)⟩ _ _ _ hP hD hS hl
  rintro ⟨u4, u5, u6, G7, u8, u9, u10, u11, w12, w13⟩ ⟨i20, i21, i22, i23, i24, i25, i26, i27, i28, i29⟩ ih H locs ls hP hD hS hl
  have i20 : 0 ≤ u4.toInt ∧ u4.toInt ≤ 45 := i20
  have i21 : 0 ≤ u5.toInt ∧ u5.toInt ≤ 1 := i21
  have i22 : 10 ≤ u6.toInt ∧ u6.toInt ≤ 250 := i22
  have i28 : 0 ≤ u9.toInt ∧ u9.toInt ≤ 15 := i28
  have i29 : 0 ≤ u10.toInt ∧ u10.toInt ≤ 15 := i29
  have hP : va_P D vwCl [(h0, .inr (10, vL 67 G7)), (h_s, .inl (cI, 335, .inl f_s)), (h_paceAt, .inl (cI, 40, .inl w12)), (h_kindOf, .inl (cI, 4, .inl w13))] H := hP
  have hD : va_D A [(h0, .inr (10, vL 67 G7)), (h_s, .inl (cI, 335, .inl f_s)), (h_paceAt, .inl (cI, 40, .inl w12)), (h_kindOf, .inl (cI, 4, .inl w13))] := hD
  have hl : lv_has ls 6 [(3, .int u4), (2, .int u5), (1, .int u6), (0, .ref h0)] := hl
  refine lv_iload_n hx hb dX10_starts_22 rfl (lv_at hl 0 rfl) ?_
  refine lv_aload_n hx hb dX10_starts_23 rfl (lv_at hl 3 rfl) ?_
  have n30 : F1 6 = .ref h_s := (get_ne eF1 (by decide) e_s)
  have n31 : F2 6 = .ref h_s := (get_ne eF2 (by decide) n30)
  have n32 : F3 6 = .ref h_s := (get_ne eF3 (by decide) n31)
  have n33 : G7 6 = .ref h_s := (SAME.at i23 (by decide) n32)
  refine get_f (D := D) (ci := 10) (v := .ref h_s) (C := RX10) (T := TX10) (N := 67) hx hb hw inAX10 hown hK hP 0 rfl rfl 6 (by decide) (hw _ q_1267) (fun _ h9 => h9) n33 dX10_starts_24 ?_
  refine lv_iconst (v := 0) hx hb dX10_starts_27 (by decide) ?_
  refine iald_n hx hb hK hP 1 0 rfl rfl 0 rfl (Nat.le_of_ble_eq_true rfl) (Nat.le_of_ble_eq_true rfl) rfl dX10_starts_28 ?_
  refine lv_topi (fun v34 ev34 => ?_)
  have k35 : 0 ≤ v34.toInt ∧ v34.toInt ≤ 40 := by rw [ev34]; exact s_s_0.atN 0 (by decide) (by decide)
  refine lv_icmp_ge (tgt := 233) hx hb dX10_starts_29 (by decide) (fun c36 => ?_) (fun c36 => ?_)
  · have dc36 : v34.toInt ≤ u4.toInt := le_i (a := v34.toInt) (b := u4.toInt) rfl rfl c36
    refine lv_aload_n hx hb dX10_starts_233 rfl (lv_at hl 3 rfl) ?_
    refine lv_iload_n hx hb dX10_starts_234 rfl (lv_at hl 2 rfl) ?_
    refine put_f (D := D) (ci := 10) (v := .int u6) (ty := .int) (C := RX10) (T := TX10) (N := 67) hx hb hw inAX10 tyX10 tyX10_ok nmX10 hown hK hP hD hS 0 rfl rfl 28 (by decide) (hw _ q_1289) (fun _ h9 => h9) rfl (by decide +kernel) rfl rfl dX10_starts_235 (fun H locs F37 eF37 hP hD hS => ?_)
    have hP : va_P D vwCl [(h0, .inr (10, vL 67 F37)), (h_s, .inl (cI, 335, .inl f_s)), (h_paceAt, .inl (cI, 40, .inl w12)), (h_kindOf, .inl (cI, 4, .inl w13))] H := hP
    have hD : va_D A [(h0, .inr (10, vL 67 F37)), (h_s, .inl (cI, 335, .inl f_s)), (h_paceAt, .inl (cI, 40, .inl w12)), (h_kindOf, .inl (cI, 4, .inl w13))] := hD
    exact ret_v hx hb hr hlocks hS hP hD dX10_starts_238 (Nat.le_of_ble_eq_true rfl) (Nat.le_of_ble_eq_true rfl) ⟨F37, u8, u6, u9, u10, u11, w12, w13, (SAME.up eF37 (SAME.tr (SAME.up eF3 (SAME.up eF2 (SAME.up eF1 SAME.rf (by decide)) (by decide)) (by decide)) i23 (by decide)) (by decide)), (get_ne eF37 (by decide) i24), (get_eq eF37), i22, (get_ne eF37 (by decide) i25), i28, (get_ne eF37 (by decide) i26), i29, (get_ne eF37 (by decide) i27), rfl⟩
  · have dc36 : u4.toInt < v34.toInt := nle_i (a := v34.toInt) (b := u4.toInt) rfl rfl c36
    have k38 : 0 ≤ u4.toInt ∧ u4.toInt ≤ 39 := ⟨i20.1, up_lt dc36 k35.2 (by decide)⟩
    have k39 : 1 ≤ v34.toInt ∧ v34.toInt ≤ 40 := ⟨lo_lt dc36 i20.1 (by decide), k35.2⟩
    refine lv_aload_n hx hb dX10_starts_32 rfl (lv_at hl 3 rfl) ?_
    refine lv_iload_n hx hb dX10_starts_33 rfl (lv_at hl 2 rfl) ?_
    refine lv_aload_n hx hb dX10_starts_34 rfl (lv_at hl 3 rfl) ?_
    refine get_f (D := D) (ci := 10) (v := .int u9) (C := RX10) (T := TX10) (N := 67) hx hb hw inAX10 hown hK hP 0 rfl rfl 29 (by decide) (hw _ q_1290) (fun _ h9 => h9) i25 dX10_starts_35 ?_
    refine lv_aload_n hx hb dX10_starts_38 rfl (lv_at hl 3 rfl) ?_
    refine get_f (D := D) (ci := 10) (v := .int u10) (C := RX10) (T := TX10) (N := 67) hx hb hw inAX10 hown hK hP 0 rfl rfl 30 (by decide) (hw _ q_1291) (fun _ h9 => h9) i26 dX10_starts_39 ?_
    refine lv_ior hx hb dX10_starts_42 ?_
    refine lv_topi (fun v40 ev40 => ?_)
    have k41 : 0 ≤ v40.toInt ∧ v40.toInt ≤ 15 := by rw [ev40]; exact or_ik (ir_wk i28 (by decide) (by decide)) (ir_wk i29 (by decide) (by decide))
    refine lv_aload_n hx hb dX10_starts_43 rfl (lv_at hl 3 rfl) ?_
    refine get_f (D := D) (ci := 10) (v := .int u9) (C := RX10) (T := TX10) (N := 67) hx hb hw inAX10 hown hK hP 0 rfl rfl 29 (by decide) (hw _ q_1290) (fun _ h9 => h9) i25 dX10_starts_44 ?_
    refine call_Vi (wr := [(h_paceAt, .inl (cI, 40, .inl w12)), (h_kindOf, .inl (cI, 4, .inl w13))]) (As := [.int u6, .int v40, .int u9]) (rest := []) hx hb hml hown hw (m_X10_pushed l D cI cJ cB cP cM cZ h0 h_s G7 f_s u6 v40 u9 _ n33 s_s_K0 s_s_0 s_s_105 s_s_114 s_s_130 s_s_139 s_s_153 s_s_44 s_s_5 s_s_6 s_s_7) wV_X10_323_X10_pushed dX10_starts_47 hK hP hD hS hA [0, 1] [2, 3] rfl rfl (by decide) (by decide) (by decide) 0 10 rfl rfl GG.fb hG.at hl.1 rfl (Nat.le_of_ble_eq_true rfl) ⟨(Nat.le_of_ble_eq_true rfl), (Nat.le_of_ble_eq_true rfl)⟩ ⟨(Nat.le_of_ble_eq_true rfl), (Nat.le_of_ble_eq_true rfl)⟩ (fun r42 u H locs hp hP hD hS => ?_)
    obtain ⟨t43, rfl⟩ := hp
    have hP : va_P D vwCl [(h_paceAt, .inl (cI, 40, .inl w12)), (h_kindOf, .inl (cI, 4, .inl w13)), (h0, .inr (10, vL 67 G7)), (h_s, .inl (cI, 335, .inl f_s))] H := hP
    have hD : va_D A [(h_paceAt, .inl (cI, 40, .inl w12)), (h_kindOf, .inl (cI, 4, .inl w13)), (h0, .inr (10, vL 67 G7)), (h_s, .inl (cI, 335, .inl f_s))] := hD
    refine W.widen (k := 0) (n := 0) (Nat.le_of_ble_eq_true rfl) (Nat.le_of_ble_eq_true rfl) ?_
    refine lv_istore_n (lv' := [(1, .int r42), (3, .int u4), (2, .int u5), (0, .ref h0)]) hx hb dX10_starts_50 rfl hl (by decide) rfl (fun ls hl => ?_)
    refine lv_iconst (v := 0) hx hb dX10_starts_51 (by decide) ?_
    refine lv_istore (lv' := [(4, .int 0), (1, .int r42), (3, .int u4), (2, .int u5), (0, .ref h0)]) hx hb dX10_starts_52 hl (by decide) rfl (fun ls hl => ?_)
    refine lv_iconst (v := 0) hx hb dX10_starts_54 (by decide) ?_
    refine lv_istore (lv' := [(5, .int 0), (4, .int 0), (1, .int r42), (3, .int u4), (2, .int u5), (0, .ref h0)]) hx hb dX10_starts_55 hl (by decide) rfl (fun ls hl => ?_)
    refine mloop (α := (Int32) × (Int32) × (Int32) × (Nat → Int32) × (Nat → Value) × (Int32) × (Int32) × (Int32)) (nL := 6) (D := D) (A := A) (H0 := s.heap) (fun a => (4 - a.1.toInt).toNat) (fun a => IR 0 4 a.1 ∧ IR 0 1 a.2.1 ∧ IR 10 250 a.2.2.1 ∧ SAME [29, 30, 31] G7 a.2.2.2.2.1 ∧ a.2.2.2.2.1 29 = .int a.2.2.2.2.2.1 ∧ a.2.2.2.2.1 30 = .int a.2.2.2.2.2.2.1 ∧ a.2.2.2.2.1 31 = .int a.2.2.2.2.2.2.2 ∧ IR 0 15 a.2.2.2.2.2.1 ∧ IR 0 15 a.2.2.2.2.2.2.1) (fun a => [(h_paceAt, .inl (cI, 40, .inl w12)), (h_kindOf, .inl (cI, 4, .inl a.2.2.2.1)), (h0, .inr (10, vL 67 a.2.2.2.2.1)), (h_s, .inl (cI, 335, .inl f_s))]) (fun a => [(5, .int a.1), (4, .int a.2.1), (1, .int a.2.2.1), (3, .int u4), (2, .int u5), (0, .ref h0)]) (fun H locs ls => W p l e ({ frames := 3, cells := 0, slots := 0, locals := 69 } : Room) s m [.ref h0].toArray below meth c H locs 0 0 (MQ below (va_Qv (fun (u : va_W) => ∃ (Gh : Nat → Value) (y_lineTime : Int32) (y_linePace : Int32) (y_inside : Int32) (y_late : Int32) (y_seed : Int32) (g_paceAt : Nat → Int32) (g_kindOf : Nat → Int32), SAME [27, 28, 29, 30, 31] Fh Gh ∧ Gh 27 = .int y_lineTime ∧ Gh 28 = .int y_linePace ∧ IR 10 250 y_linePace ∧ Gh 29 = .int y_inside ∧ IR 0 15 y_inside ∧ Gh 30 = .int y_late ∧ IR 0 15 y_late ∧ Gh 31 = .int y_seed ∧ u = [(h0, .inr (10, vL 67 Gh)), (h_s, .inl (cI, 335, .inl f_s)), (h_paceAt, .inl (cI, 40, .inl g_paceAt)), (h_kindOf, .inl (cI, 4, .inl g_kindOf))]) (PO D A) A) [.ref h0].toArray s 0 0 A) (F0 m 57 ls [])) ?_ (0, 0, r42, w13, G7, u9, u10, u11) ⟨(show 0 ≤ (0 : Int32).toInt ∧ (0 : Int32).toInt ≤ 4 by decide), (show 0 ≤ (0 : Int32).toInt ∧ (0 : Int32).toInt ≤ 1 by decide), t43, SAME.rf, i25, i26, i27, i28, i29⟩ _ _ _ hP hD hS hl
    rintro ⟨u45, u46, u47, w48, G49, u50, u51, u52⟩ ⟨i53, i54, i55, i56, i57, i58, i59, i60, i61⟩ ih_57 H locs ls hP hD hS hl
    have i53 : 0 ≤ u45.toInt ∧ u45.toInt ≤ 4 := i53
    have i54 : 0 ≤ u46.toInt ∧ u46.toInt ≤ 1 := i54
    have i55 : 10 ≤ u47.toInt ∧ u47.toInt ≤ 250 := i55
    have i60 : 0 ≤ u50.toInt ∧ u50.toInt ≤ 15 := i60
    have i61 : 0 ≤ u51.toInt ∧ u51.toInt ≤ 15 := i61
    have hP : va_P D vwCl [(h_paceAt, .inl (cI, 40, .inl w12)), (h_kindOf, .inl (cI, 4, .inl w48)), (h0, .inr (10, vL 67 G49)), (h_s, .inl (cI, 335, .inl f_s))] H := hP
    have hD : va_D A [(h_paceAt, .inl (cI, 40, .inl w12)), (h_kindOf, .inl (cI, 4, .inl w48)), (h0, .inr (10, vL 67 G49)), (h_s, .inl (cI, 335, .inl f_s))] := hD
    have hl : lv_has ls 6 [(5, .int u45), (4, .int u46), (1, .int u47), (3, .int u4), (2, .int u5), (0, .ref h0)] := hl
    refine lv_iload hx hb dX10_starts_57 (lv_at hl 0 rfl) ?_
    refine lv_iconst (v := 4) hx hb dX10_starts_59 (by decide) ?_
    refine lv_icmp_ge (tgt := 203) hx hb dX10_starts_60 (by decide) (fun c62 => ?_) (fun c62 => ?_)
    · have dc62 : 4 ≤ u45.toInt := le_i (a := 4) (b := u45.toInt) rfl rfl c62
      have k63 : 4 ≤ u45.toInt ∧ u45.toInt ≤ 4 := ⟨Int.le_trans (Int.le_refl _) dc62, i53.2⟩
      refine lv_iload hx hb dX10_starts_203 (lv_at hl 1 rfl) ?_
      refine lv_istore_n (lv' := [(2, .int u46), (5, .int u45), (4, .int u46), (1, .int u47), (3, .int u4), (0, .ref h0)]) hx hb dX10_starts_205 rfl hl (by decide) rfl (fun ls hl => ?_)
      refine lv_aload_n hx hb dX10_starts_206 rfl (lv_at hl 5 rfl) ?_
      have n64 : F1 25 = .ref h_paceAt := (get_ne eF1 (by decide) e_paceAt)
      have n65 : F2 25 = .ref h_paceAt := (get_ne eF2 (by decide) n64)
      have n66 : F3 25 = .ref h_paceAt := (get_ne eF3 (by decide) n65)
      have n67 : G7 25 = .ref h_paceAt := (SAME.at i23 (by decide) n66)
      have n68 : G49 25 = .ref h_paceAt := (SAME.at i56 (by decide) n67)
      refine get_f (D := D) (ci := 10) (v := .ref h_paceAt) (C := RX10) (T := TX10) (N := 67) hx hb hw inAX10 hown hK hP 2 rfl rfl 25 (by decide) (hw _ q_1286) (fun _ h9 => h9) n68 dX10_starts_207 ?_
      refine lv_iload_n hx hb dX10_starts_210 rfl (lv_at hl 4 rfl) ?_
      refine lv_iload_n hx hb dX10_starts_211 rfl (lv_at hl 3 rfl) ?_
      obtain ⟨g69, eg69⟩ : ∃ z : Nat → Int32, upd w12 u4.toNatClampNeg u47 = z := ⟨_, rfl⟩
      refine iast_g hx hb hK hP hD hS 0 0 rfl rfl (ix_k k38 (by decide) (by decide)) eg69 dX10_starts_212 (fun H locs hP hD hS => ?_)
      have hP : va_P D vwCl [(h_paceAt, .inl (cI, 40, .inl g69)), (h_kindOf, .inl (cI, 4, .inl w48)), (h0, .inr (10, vL 67 G49)), (h_s, .inl (cI, 335, .inl f_s))] H := hP
      have hD : va_D A [(h_paceAt, .inl (cI, 40, .inl g69)), (h_kindOf, .inl (cI, 4, .inl w48)), (h0, .inr (10, vL 67 G49)), (h_s, .inl (cI, 335, .inl f_s))] := hD
      refine lv_aload_n hx hb dX10_starts_213 rfl (lv_at hl 5 rfl) ?_
      refine lv_dup hx hb dX10_starts_214 rfl ?_
      have n70 : G49 27 = .int u8 := (SAME.at i56 (by decide) i24)
      refine get_f (D := D) (ci := 10) (v := .int u8) (C := RX10) (T := TX10) (N := 67) hx hb hw inAX10 hown hK hP 2 rfl rfl 27 (by decide) (hw _ q_1288) (fun _ h9 => h9) n70 dX10_starts_215 ?_
      refine lv_sipush (v := 3000) hx hb dX10_starts_218 (by decide) ?_
      refine lv_iload_n hx hb dX10_starts_221 rfl (lv_at hl 3 rfl) ?_
      refine lv_idiv hx hb dX10_starts_222 (nz_k i55 (by decide)) ?_
      refine lv_topi (fun v71 ev71 => ?_)
      have k72 : 0 ≤ v71.toInt ∧ v71.toInt ≤ 300 := by rw [ev71]; exact divv_k (Int.le_trans (by decide) (Int.le_refl _)) (Int.le_refl _) i55.1 (by decide)
      refine lv_iadd hx hb dX10_starts_223 ?_
      refine lv_topi (fun v73 ev73 => ?_)
      refine put_f (D := D) (ci := 10) (v := .int v73) (ty := .int) (C := RX10) (T := TX10) (N := 67) hx hb hw inAX10 tyX10 tyX10_ok nmX10 hown hK hP hD hS 2 rfl rfl 27 (by decide) (hw _ q_1288) (fun _ h9 => h9) rfl (by decide +kernel) rfl rfl dX10_starts_224 (fun H locs F74 eF74 hP hD hS => ?_)
      have hP : va_P D vwCl [(h_paceAt, .inl (cI, 40, .inl g69)), (h_kindOf, .inl (cI, 4, .inl w48)), (h0, .inr (10, vL 67 F74)), (h_s, .inl (cI, 335, .inl f_s))] H := hP
      have hD : va_D A [(h_paceAt, .inl (cI, 40, .inl g69)), (h_kindOf, .inl (cI, 4, .inl w48)), (h0, .inr (10, vL 67 F74)), (h_s, .inl (cI, 335, .inl f_s))] := hD
      obtain ⟨v75, ev75⟩ : ∃ z : Int32, z = u4 + 1 := ⟨_, rfl⟩
      have bv75 : v75.toInt = u4.toInt + 1 := by rw [ev75]; exact add_k rfl rfl k38 ⟨Int.le_refl _, Int.le_refl _⟩ (by decide)
      have k76 : 1 ≤ v75.toInt ∧ v75.toInt ≤ 40 := add_r bv75 k38 ⟨Int.le_refl _, Int.le_refl _⟩ (by decide)
      refine lv_iinc (v := v75) (lv' := [(3, .int v75), (2, .int u46), (5, .int u45), (4, .int u46), (1, .int u47), (0, .ref h0)]) hx hb dX10_starts_227 hl (k := 4) rfl (by rw [ev75]; rfl) (by decide) rfl (fun ls hl => ?_)
      refine lv_goto (tgt := 22) hx hb dX10_starts_230 (by decide) ?_
      have n77 : F74 29 = .int u50 := (get_ne eF74 (by decide) i57)
      have n78 : F74 30 = .int u51 := (get_ne eF74 (by decide) i58)
      have n79 : F74 31 = .int u52 := (get_ne eF74 (by decide) i59)
      exact ih (v75, u46, u47, F74, v73, u50, u51, u52, g69, w48) ⟨(ir_wk k76 (by decide) (by decide)), i54, i55, (SAME.up eF74 (SAME.tr (SAME.tr SAME.rf i23 (by decide)) i56 (by decide)) (by decide)), (get_eq eF74), n77, n78, n79, i60, i61⟩ (by show (45 - v75.toInt).toNat < (45 - u4.toInt).toNat; omega) _ _ _ (hP.sub [2, 3, 0, 1] rfl) (hD.sub [2, 3, 0, 1] (by decide) rfl) hS (lv_sub hl [0, 1, 4, 5] rfl)
    · have dc62 : u45.toInt < 4 := nle_i (a := 4) (b := u45.toInt) rfl rfl c62
      have k80 : 0 ≤ u45.toInt ∧ u45.toInt ≤ 3 := ⟨i53.1, up_lt dc62 (Int.le_refl _) (by decide)⟩
      refine lv_aload_n hx hb dX10_starts_63 rfl (lv_at hl 5 rfl) ?_
      have n81 : G49 6 = .ref h_s := (SAME.at i56 (by decide) n33)
      refine get_f (D := D) (ci := 10) (v := .ref h_s) (C := RX10) (T := TX10) (N := 67) hx hb hw inAX10 hown hK hP 2 rfl rfl 6 (by decide) (hw _ q_1267) (fun _ h9 => h9) n81 dX10_starts_64 ?_
      refine lv_bipush (v := 109) hx hb dX10_starts_67 (by decide) ?_
      refine lv_iload hx hb dX10_starts_69 (lv_at hl 0 rfl) ?_
      refine lv_iadd hx hb dX10_starts_71 ?_
      refine lv_topi (fun v82 ev82 => ?_)
      have bv82 : v82.toInt = 109 + u45.toInt := by rw [ev82]; exact add_k rfl rfl ⟨Int.le_refl _, Int.le_refl _⟩ k80 (by decide)
      have k83 : 109 ≤ v82.toInt ∧ v82.toInt ≤ 112 := add_r bv82 ⟨Int.le_refl _, Int.le_refl _⟩ k80 (by decide)
      refine va_iald hx hb hK hP 3 0 rfl rfl (ix_k k83 (by decide) (by decide)) dX10_starts_72 ?_
      refine lv_topi (fun v84 ev84 => ?_)
      refine lv_iload_n hx hb dX10_starts_73 rfl (lv_at hl 3 rfl) ?_
      refine lv_icmp_eq (tgt := 80) hx hb dX10_starts_74 (by decide) (fun c85 => ?_) (fun c85 => ?_)
      · have dc85 : v84.toInt = u4.toInt := eq_i (a := v84.toInt) (b := u4.toInt) rfl rfl c85
        have k86 : 0 ≤ v84.toInt ∧ v84.toInt ≤ 39 := ⟨Int.le_trans k38.1 (Int.le_of_eq dc85.symm), Int.le_trans (Int.le_of_eq dc85) k38.2⟩
        refine lv_aload_n hx hb dX10_starts_80 rfl (lv_at hl 5 rfl) ?_
        refine lv_iload_n hx hb dX10_starts_81 rfl (lv_at hl 2 rfl) ?_
        refine lv_iload hx hb dX10_starts_82 (lv_at hl 0 rfl) ?_
        refine call_Vi (wr := [(h_paceAt, .inl (cI, 40, .inl w12)), (h_kindOf, .inl (cI, 4, .inl w48))]) (As := [.int u47, .int u45]) (rest := []) hx hb hml hown hw (m_X10_isLate l D cI cJ cB cP cM cZ h0 h_s G49 f_s u47 u45 _ n81 s_s_K0 s_s_0 s_s_105 s_s_114 s_s_130 s_s_139 s_s_153 s_s_44 s_s_5 s_s_6 s_s_7 k80) wV_X10_327_X10_isLate dX10_starts_84 hK hP hD hS hA [2, 3] [0, 1] rfl rfl (by decide) (by decide) (by decide) 0 10 rfl rfl GG.fb hG.at hl.1 rfl (Nat.le_of_ble_eq_true rfl) ⟨(Nat.le_of_ble_eq_true rfl), (Nat.le_of_ble_eq_true rfl)⟩ ⟨(Nat.le_of_ble_eq_true rfl), (Nat.le_of_ble_eq_true rfl)⟩ (fun r87 u H locs hp hP hD hS => ?_)
        obtain ⟨t88, rfl⟩ := hp
        have hP : va_P D vwCl [(h_paceAt, .inl (cI, 40, .inl w12)), (h_kindOf, .inl (cI, 4, .inl w48)), (h0, .inr (10, vL 67 G49)), (h_s, .inl (cI, 335, .inl f_s))] H := hP
        have hD : va_D A [(h_paceAt, .inl (cI, 40, .inl w12)), (h_kindOf, .inl (cI, 4, .inl w48)), (h0, .inr (10, vL 67 G49)), (h_s, .inl (cI, 335, .inl f_s))] := hD
        refine W.widen (k := 0) (n := 0) (Nat.le_of_ble_eq_true rfl) (Nat.le_of_ble_eq_true rfl) ?_
        refine lv_if_eq (tgt := 114) hx hb dX10_starts_87 (by decide) (fun c90 => ?_) (fun c90 => ?_)
        · have dc90 : r87.toInt = 0 := eq_i (a := r87.toInt) (b := 0) rfl rfl c90
          have k91 : 0 ≤ r87.toInt ∧ r87.toInt ≤ 0 := ⟨t88.1, Int.le_trans (Int.le_of_eq dc90) (Int.le_refl _)⟩
          refine lv_aload_n hx hb dX10_starts_114 rfl (lv_at hl 5 rfl) ?_
          have n92 : F1 26 = .ref h_kindOf := (get_ne eF1 (by decide) e_kindOf)
          have n93 : F2 26 = .ref h_kindOf := (get_ne eF2 (by decide) n92)
          have n94 : F3 26 = .ref h_kindOf := (get_ne eF3 (by decide) n93)
          have n95 : G7 26 = .ref h_kindOf := (SAME.at i23 (by decide) n94)
          have n96 : G49 26 = .ref h_kindOf := (SAME.at i56 (by decide) n95)
          refine get_f (D := D) (ci := 10) (v := .ref h_kindOf) (C := RX10) (T := TX10) (N := 67) hx hb hw inAX10 hown hK hP 2 rfl rfl 26 (by decide) (hw _ q_1287) (fun _ h9 => h9) n96 dX10_starts_115 ?_
          refine lv_iload hx hb dX10_starts_118 (lv_at hl 0 rfl) ?_
          refine lv_iload hx hb dX10_starts_120 (lv_at hl 1 rfl) ?_
          refine lv_if_ne (tgt := 129) hx hb dX10_starts_122 (by decide) (fun c97 => ?_) (fun c97 => ?_)
          · have dc97 : u46.toInt ≠ 0 := ne_i (a := u46.toInt) (b := 0) rfl rfl c97
            have k98 : 1 ≤ u46.toInt ∧ u46.toInt ≤ 1 := ⟨ne_lo dc97 i54.1 ⟨Int.le_refl _, Int.le_refl _⟩ (by decide), i54.2⟩
            refine lv_iconst (v := 1) hx hb dX10_starts_129 (by decide) ?_
            refine lv_goto (tgt := 134) hx hb dX10_starts_130 (by decide) ?_
            obtain ⟨g99, eg99⟩ : ∃ z : Nat → Int32, upd w48 u45.toNatClampNeg 1 = z := ⟨_, rfl⟩
            refine iast_g hx hb hK hP hD hS 1 0 rfl rfl (ix_k k80 (by decide) (by decide)) eg99 dX10_starts_134 (fun H locs hP hD hS => ?_)
            have hP : va_P D vwCl [(h_paceAt, .inl (cI, 40, .inl w12)), (h_kindOf, .inl (cI, 4, .inl g99)), (h0, .inr (10, vL 67 G49)), (h_s, .inl (cI, 335, .inl f_s))] H := hP
            have hD : va_D A [(h_paceAt, .inl (cI, 40, .inl w12)), (h_kindOf, .inl (cI, 4, .inl g99)), (h0, .inr (10, vL 67 G49)), (h_s, .inl (cI, 335, .inl f_s))] := hD
            refine lv_aload_n hx hb dX10_starts_135 rfl (lv_at hl 5 rfl) ?_
            refine lv_dup hx hb dX10_starts_136 rfl ?_
            refine get_f (D := D) (ci := 10) (v := .int u50) (C := RX10) (T := TX10) (N := 67) hx hb hw inAX10 hown hK hP 2 rfl rfl 29 (by decide) (hw _ q_1290) (fun _ h9 => h9) i57 dX10_starts_137 ?_
            refine lv_iconst (v := 1) hx hb dX10_starts_140 (by decide) ?_
            refine lv_iload hx hb dX10_starts_141 (lv_at hl 0 rfl) ?_
            refine lv_ishl hx hb dX10_starts_143 ?_
            refine lv_topi (fun v100 ev100 => ?_)
            have k101 : 1 ≤ v100.toInt ∧ v100.toInt ≤ 8 := by rw [ev100]; exact shl1_i (Int.le_trans (by decide) k80.1) (Int.le_trans k80.2 (by decide))
            refine lv_ior hx hb dX10_starts_144 ?_
            refine lv_topi (fun v102 ev102 => ?_)
            have k103 : 0 ≤ v102.toInt ∧ v102.toInt ≤ 15 := by rw [ev102]; exact or_ik (ir_wk i60 (by decide) (by decide)) (ir_wk k101 (by decide) (by decide))
            refine put_f (D := D) (ci := 10) (v := .int v102) (ty := .int) (C := RX10) (T := TX10) (N := 67) hx hb hw inAX10 tyX10 tyX10_ok nmX10 hown hK hP hD hS 2 rfl rfl 29 (by decide) (hw _ q_1290) (fun _ h9 => h9) rfl (by decide +kernel) rfl rfl dX10_starts_145 (fun H locs F104 eF104 hP hD hS => ?_)
            have hP : va_P D vwCl [(h_paceAt, .inl (cI, 40, .inl w12)), (h_kindOf, .inl (cI, 4, .inl g99)), (h0, .inr (10, vL 67 F104)), (h_s, .inl (cI, 335, .inl f_s))] H := hP
            have hD : va_D A [(h_paceAt, .inl (cI, 40, .inl w12)), (h_kindOf, .inl (cI, 4, .inl g99)), (h0, .inr (10, vL 67 F104)), (h_s, .inl (cI, 335, .inl f_s))] := hD
            refine lv_iconst (v := 1) hx hb dX10_starts_148 (by decide) ?_
            refine lv_istore (lv' := [(4, .int 1), (5, .int u45), (1, .int u47), (3, .int u4), (2, .int u5), (0, .ref h0)]) hx hb dX10_starts_149 hl (by decide) rfl (fun ls hl => ?_)
            refine lv_iload_n hx hb dX10_starts_151 rfl (lv_at hl 2 rfl) ?_
            refine lv_aload_n hx hb dX10_starts_152 rfl (lv_at hl 5 rfl) ?_
            have n105 : F104 26 = .ref h_kindOf := (get_ne eF104 (by decide) n96)
            refine get_f (D := D) (ci := 10) (v := .ref h_kindOf) (C := RX10) (T := TX10) (N := 67) hx hb hw inAX10 hown hK hP 2 rfl rfl 26 (by decide) (hw _ q_1287) (fun _ h9 => h9) n105 dX10_starts_153 ?_
            refine lv_iload hx hb dX10_starts_156 (lv_at hl 1 rfl) ?_
            refine va_iald hx hb hK hP 1 0 rfl rfl (ix_k k80 (by decide) (by decide)) dX10_starts_158 ?_
            refine lv_topi (fun v106 ev106 => ?_)
            refine lv_iconst (v := 1) hx hb dX10_starts_159 (by decide) ?_
            refine lv_icmp_ne (tgt := 168) hx hb dX10_starts_160 (by decide) (fun c107 => ?_) (fun c107 => ?_)
            · have dc107 : v106.toInt ≠ 1 := ne_i (a := v106.toInt) (b := 1) rfl rfl c107
              refine lv_iconst (v := 2) hx hb dX10_starts_168 (by decide) ?_
              refine lv_isub hx hb dX10_starts_169 ?_
              refine lv_topi (fun v108 ev108 => ?_)
              have bv108 : v108.toInt = u47.toInt - 2 := by rw [ev108]; exact sub_k rfl rfl i55 ⟨Int.le_refl _, Int.le_refl _⟩ (by decide)
              have k109 : 8 ≤ v108.toInt ∧ v108.toInt ≤ 248 := sub_r bv108 i55 ⟨Int.le_refl _, Int.le_refl _⟩ (by decide)
              refine lv_aload_n hx hb dX10_starts_170 rfl (lv_at hl 5 rfl) ?_
              have n110 : F1 32 = .int x_kicks := (get_ne eF1 (by decide) e_kicks)
              have n111 : F2 32 = .int x_kicks := (get_ne eF2 (by decide) n110)
              have n112 : F3 32 = .int x_kicks := (get_ne eF3 (by decide) n111)
              have n113 : G7 32 = .int x_kicks := (SAME.at i23 (by decide) n112)
              have n114 : G49 32 = .int x_kicks := (SAME.at i56 (by decide) n113)
              have n115 : F104 32 = .int x_kicks := (get_ne eF104 (by decide) n114)
              refine get_f (D := D) (ci := 10) (v := .int x_kicks) (C := RX10) (T := TX10) (N := 67) hx hb hw inAX10 hown hK hP 2 rfl rfl 32 (by decide) (hw _ q_1293) (fun _ h9 => h9) n115 dX10_starts_171 ?_
              refine lv_if_eq (tgt := 191) hx hb dX10_starts_174 (by decide) (fun c116 => ?_) (fun c116 => ?_)
              · have dc116 : x_kicks.toInt = 0 := eq_i (a := x_kicks.toInt) (b := 0) rfl rfl c116
                have k117 : 0 ≤ x_kicks.toInt ∧ x_kicks.toInt ≤ 0 := ⟨i_x_kicks.1, Int.le_trans (Int.le_of_eq dc116) (Int.le_refl _)⟩
                refine lv_iconst (v := 0) hx hb dX10_starts_191 (by decide) ?_
                refine lv_isub hx hb dX10_starts_192 ?_
                refine lv_topi (fun v118 ev118 => ?_)
                have bv118 : v118.toInt = v108.toInt - 0 := by rw [ev118]; exact sub_k rfl rfl k109 ⟨Int.le_refl _, Int.le_refl _⟩ (by decide)
                have k119 : 8 ≤ v118.toInt ∧ v118.toInt ≤ 248 := sub_r bv118 k109 ⟨Int.le_refl _, Int.le_refl _⟩ (by decide)
                refine call_Si (wr := [(h_paceAt, .inl (cI, 40, .inl w12)), (h_kindOf, .inl (cI, 4, .inl g99)), (h0, .inr (10, vL 67 F104)), (h_s, .inl (cI, 335, .inl f_s))]) (As := [.int v118]) (rest := []) hx hb hml hown hw (m_X10_bounded l D cI cJ cB cP cM cZ v118 _ ) wS_X10_311_X10_bounded dX10_starts_193 hP hD hS hA [] [0, 1, 2, 3] rfl rfl (by decide) (by decide) (by decide) GG.fb hG.at hl.1 rfl (Nat.le_of_ble_eq_true rfl) ⟨(Nat.le_of_ble_eq_true rfl), (Nat.le_of_ble_eq_true rfl)⟩ ⟨(Nat.le_of_ble_eq_true rfl), (Nat.le_of_ble_eq_true rfl)⟩ (fun r120 u H locs hp hP hD hS => ?_)
                obtain ⟨t121, t122, rfl⟩ := hp
                have hP : va_P D vwCl [(h_paceAt, .inl (cI, 40, .inl w12)), (h_kindOf, .inl (cI, 4, .inl g99)), (h0, .inr (10, vL 67 F104)), (h_s, .inl (cI, 335, .inl f_s))] H := hP
                have hD : va_D A [(h_paceAt, .inl (cI, 40, .inl w12)), (h_kindOf, .inl (cI, 4, .inl g99)), (h0, .inr (10, vL 67 F104)), (h_s, .inl (cI, 335, .inl f_s))] := hD
                refine W.widen (k := 0) (n := 0) (Nat.le_of_ble_eq_true rfl) (Nat.le_of_ble_eq_true rfl) ?_
                refine lv_istore_n (lv' := [(1, .int r120), (4, .int 1), (5, .int u45), (3, .int u4), (2, .int u5), (0, .ref h0)]) hx hb dX10_starts_196 rfl hl (by decide) rfl (fun ls hl => ?_)
                obtain ⟨v124, ev124⟩ : ∃ z : Int32, z = u45 + 1 := ⟨_, rfl⟩
                have bv124 : v124.toInt = u45.toInt + 1 := by rw [ev124]; exact add_k rfl rfl k80 ⟨Int.le_refl _, Int.le_refl _⟩ (by decide)
                have k125 : 1 ≤ v124.toInt ∧ v124.toInt ≤ 4 := add_r bv124 k80 ⟨Int.le_refl _, Int.le_refl _⟩ (by decide)
                refine lv_iinc (v := v124) (lv' := [(5, .int v124), (1, .int r120), (4, .int 1), (3, .int u4), (2, .int u5), (0, .ref h0)]) hx hb dX10_starts_197 hl (k := 2) rfl (by rw [ev124]; rfl) (by decide) rfl (fun ls hl => ?_)
                refine lv_goto (tgt := 57) hx hb dX10_starts_200 (by decide) ?_
                have n126 : F104 30 = .int u51 := (get_ne eF104 (by decide) i58)
                have n127 : F104 31 = .int u52 := (get_ne eF104 (by decide) i59)
                exact ih_57 (v124, 1, r120, g99, F104, v102, u51, u52) ⟨(ir_wk k125 (by decide) (by decide)), (show 0 ≤ (1 : Int32).toInt ∧ (1 : Int32).toInt ≤ 1 by decide), t121, (SAME.up eF104 (SAME.tr SAME.rf i56 (by decide)) (by decide)), (get_eq eF104), n126, n127, k103, i61⟩ (by show (4 - v124.toInt).toNat < (4 - u45.toInt).toNat; omega) _ _ _ hP hD hS (lv_sub hl [0, 2, 1, 3, 4, 5] rfl)
              · have dc116 : x_kicks.toInt ≠ 0 := ne_i (a := x_kicks.toInt) (b := 0) rfl rfl c116
                have k128 : 1 ≤ x_kicks.toInt ∧ x_kicks.toInt ≤ 1 := ⟨ne_lo dc116 i_x_kicks.1 ⟨Int.le_refl _, Int.le_refl _⟩ (by decide), i_x_kicks.2⟩
                refine lv_aload_n hx hb dX10_starts_177 rfl (lv_at hl 5 rfl) ?_
                refine lv_bipush (v := 8) hx hb dX10_starts_178 (by decide) ?_
                have n129 : F104 31 = .int u52 := (get_ne eF104 (by decide) i59)
                refine call_Vi (wr := [(h_paceAt, .inl (cI, 40, .inl w12)), (h_kindOf, .inl (cI, 4, .inl g99)), (h_s, .inl (cI, 335, .inl f_s))]) (As := [.int 8]) (rest := [.int v108]) hx hb hml hown hw (m_X10_draw l D cI cJ cB cP cM cZ h0 F104 u52 8 _ n129 (show 8 ≤ (8 : Int32).toInt ∧ (8 : Int32).toInt ≤ 8 by decide)) wV_X10_334_X10_draw dX10_starts_180 hK hP hD hS hA [2] [0, 1, 3] rfl rfl (by decide) (by decide) (by decide) 0 10 rfl rfl GG.fb hG.at hl.1 rfl (Nat.le_of_ble_eq_true rfl) ⟨(Nat.le_of_ble_eq_true rfl), (Nat.le_of_ble_eq_true rfl)⟩ ⟨(Nat.le_of_ble_eq_true rfl), (Nat.le_of_ble_eq_true rfl)⟩ (fun r130 u H locs hp hP hD hS => ?_)
                have zl8 : (8 : Int32).toInt = 8 := by decide
                obtain ⟨F131, y132, t133, t134, rfl⟩ := hp
                have hP : va_P D vwCl [(h_paceAt, .inl (cI, 40, .inl w12)), (h_kindOf, .inl (cI, 4, .inl g99)), (h_s, .inl (cI, 335, .inl f_s)), (h0, .inr (10, vL 67 F131))] H := hP
                have hD : va_D A [(h_paceAt, .inl (cI, 40, .inl w12)), (h_kindOf, .inl (cI, 4, .inl g99)), (h_s, .inl (cI, 335, .inl f_s)), (h0, .inr (10, vL 67 F131))] := hD
                refine W.widen (k := 0) (n := 0) (Nat.le_of_ble_eq_true rfl) (Nat.le_of_ble_eq_true rfl) ?_
                refine lv_if_ne (tgt := 191) hx hb dX10_starts_183 (by decide) (fun c136 => ?_) (fun c136 => ?_)
                · have dc136 : r130.toInt ≠ 0 := ne_i (a := r130.toInt) (b := 0) rfl rfl c136
                  refine lv_iconst (v := 0) hx hb dX10_starts_191 (by decide) ?_
                  refine lv_isub hx hb dX10_starts_192 ?_
                  refine lv_topi (fun v137 ev137 => ?_)
                  have bv137 : v137.toInt = v108.toInt - 0 := by rw [ev137]; exact sub_k rfl rfl k109 ⟨Int.le_refl _, Int.le_refl _⟩ (by decide)
                  have k138 : 8 ≤ v137.toInt ∧ v137.toInt ≤ 248 := sub_r bv137 k109 ⟨Int.le_refl _, Int.le_refl _⟩ (by decide)
                  refine call_Si (wr := [(h_paceAt, .inl (cI, 40, .inl w12)), (h_kindOf, .inl (cI, 4, .inl g99)), (h_s, .inl (cI, 335, .inl f_s)), (h0, .inr (10, vL 67 F131))]) (As := [.int v137]) (rest := []) hx hb hml hown hw (m_X10_bounded l D cI cJ cB cP cM cZ v137 _ ) wS_X10_311_X10_bounded dX10_starts_193 hP hD hS hA [] [0, 1, 2, 3] rfl rfl (by decide) (by decide) (by decide) GG.fb hG.at hl.1 rfl (Nat.le_of_ble_eq_true rfl) ⟨(Nat.le_of_ble_eq_true rfl), (Nat.le_of_ble_eq_true rfl)⟩ ⟨(Nat.le_of_ble_eq_true rfl), (Nat.le_of_ble_eq_true rfl)⟩ (fun r139 u H locs hp hP hD hS => ?_)
                  obtain ⟨t140, t141, rfl⟩ := hp
                  have hP : va_P D vwCl [(h_paceAt, .inl (cI, 40, .inl w12)), (h_kindOf, .inl (cI, 4, .inl g99)), (h_s, .inl (cI, 335, .inl f_s)), (h0, .inr (10, vL 67 F131))] H := hP
                  have hD : va_D A [(h_paceAt, .inl (cI, 40, .inl w12)), (h_kindOf, .inl (cI, 4, .inl g99)), (h_s, .inl (cI, 335, .inl f_s)), (h0, .inr (10, vL 67 F131))] := hD
                  refine W.widen (k := 0) (n := 0) (Nat.le_of_ble_eq_true rfl) (Nat.le_of_ble_eq_true rfl) ?_
                  refine lv_istore_n (lv' := [(1, .int r139), (4, .int 1), (5, .int u45), (3, .int u4), (2, .int u5), (0, .ref h0)]) hx hb dX10_starts_196 rfl hl (by decide) rfl (fun ls hl => ?_)
                  obtain ⟨v143, ev143⟩ : ∃ z : Int32, z = u45 + 1 := ⟨_, rfl⟩
                  have bv143 : v143.toInt = u45.toInt + 1 := by rw [ev143]; exact add_k rfl rfl k80 ⟨Int.le_refl _, Int.le_refl _⟩ (by decide)
                  have k144 : 1 ≤ v143.toInt ∧ v143.toInt ≤ 4 := add_r bv143 k80 ⟨Int.le_refl _, Int.le_refl _⟩ (by decide)
                  refine lv_iinc (v := v143) (lv' := [(5, .int v143), (1, .int r139), (4, .int 1), (3, .int u4), (2, .int u5), (0, .ref h0)]) hx hb dX10_starts_197 hl (k := 2) rfl (by rw [ev143]; rfl) (by decide) rfl (fun ls hl => ?_)
                  refine lv_goto (tgt := 57) hx hb dX10_starts_200 (by decide) ?_
                  have n145 : F131 29 = .int v102 := (SAME.at t133 (by decide) (get_eq eF104))
                  have n146 : F104 30 = .int u51 := (get_ne eF104 (by decide) i58)
                  have n147 : F131 30 = .int u51 := (SAME.at t133 (by decide) n146)
                  exact ih_57 (v143, 1, r139, g99, F131, v102, u51, y132) ⟨(ir_wk k144 (by decide) (by decide)), (show 0 ≤ (1 : Int32).toInt ∧ (1 : Int32).toInt ≤ 1 by decide), t140, (SAME.tr (SAME.up eF104 (SAME.tr SAME.rf i56 (by decide)) (by decide)) t133 (by decide)), n145, n147, t134, k103, i61⟩ (by show (4 - v143.toInt).toNat < (4 - u45.toInt).toNat; omega) _ _ _ (hP.sub [0, 1, 3, 2] rfl) (hD.sub [0, 1, 3, 2] (by decide) rfl) hS (lv_sub hl [0, 2, 1, 3, 4, 5] rfl)
                · have dc136 : r130.toInt = 0 := eq_i (a := r130.toInt) (b := 0) rfl rfl c136
                  have k148 : 0 ≤ r130.toInt ∧ r130.toInt ≤ 0 := ⟨Int.le_trans (Int.le_refl _) (Int.le_of_eq dc136.symm), Int.le_trans (Int.le_of_eq dc136) (Int.le_refl _)⟩
                  refine lv_bipush (v := 10) hx hb dX10_starts_186 (by decide) ?_
                  refine lv_goto (tgt := 192) hx hb dX10_starts_188 (by decide) ?_
                  refine lv_isub hx hb dX10_starts_192 ?_
                  refine lv_topi (fun v149 ev149 => ?_)
                  have bv149 : v149.toInt = v108.toInt - 10 := by rw [ev149]; exact sub_k rfl rfl k109 ⟨Int.le_refl _, Int.le_refl _⟩ (by decide)
                  have k150 : (-2) ≤ v149.toInt ∧ v149.toInt ≤ 238 := sub_r bv149 k109 ⟨Int.le_refl _, Int.le_refl _⟩ (by decide)
                  refine call_Si (wr := [(h_paceAt, .inl (cI, 40, .inl w12)), (h_kindOf, .inl (cI, 4, .inl g99)), (h_s, .inl (cI, 335, .inl f_s)), (h0, .inr (10, vL 67 F131))]) (As := [.int v149]) (rest := []) hx hb hml hown hw (m_X10_bounded l D cI cJ cB cP cM cZ v149 _ ) wS_X10_311_X10_bounded dX10_starts_193 hP hD hS hA [] [0, 1, 2, 3] rfl rfl (by decide) (by decide) (by decide) GG.fb hG.at hl.1 rfl (Nat.le_of_ble_eq_true rfl) ⟨(Nat.le_of_ble_eq_true rfl), (Nat.le_of_ble_eq_true rfl)⟩ ⟨(Nat.le_of_ble_eq_true rfl), (Nat.le_of_ble_eq_true rfl)⟩ (fun r151 u H locs hp hP hD hS => ?_)
                  obtain ⟨t152, t153, rfl⟩ := hp
                  have hP : va_P D vwCl [(h_paceAt, .inl (cI, 40, .inl w12)), (h_kindOf, .inl (cI, 4, .inl g99)), (h_s, .inl (cI, 335, .inl f_s)), (h0, .inr (10, vL 67 F131))] H := hP
                  have hD : va_D A [(h_paceAt, .inl (cI, 40, .inl w12)), (h_kindOf, .inl (cI, 4, .inl g99)), (h_s, .inl (cI, 335, .inl f_s)), (h0, .inr (10, vL 67 F131))] := hD
                  refine W.widen (k := 0) (n := 0) (Nat.le_of_ble_eq_true rfl) (Nat.le_of_ble_eq_true rfl) ?_
                  refine lv_istore_n (lv' := [(1, .int r151), (4, .int 1), (5, .int u45), (3, .int u4), (2, .int u5), (0, .ref h0)]) hx hb dX10_starts_196 rfl hl (by decide) rfl (fun ls hl => ?_)
                  obtain ⟨v155, ev155⟩ : ∃ z : Int32, z = u45 + 1 := ⟨_, rfl⟩
                  have bv155 : v155.toInt = u45.toInt + 1 := by rw [ev155]; exact add_k rfl rfl k80 ⟨Int.le_refl _, Int.le_refl _⟩ (by decide)
                  have k156 : 1 ≤ v155.toInt ∧ v155.toInt ≤ 4 := add_r bv155 k80 ⟨Int.le_refl _, Int.le_refl _⟩ (by decide)
                  refine lv_iinc (v := v155) (lv' := [(5, .int v155), (1, .int r151), (4, .int 1), (3, .int u4), (2, .int u5), (0, .ref h0)]) hx hb dX10_starts_197 hl (k := 2) rfl (by rw [ev155]; rfl) (by decide) rfl (fun ls hl => ?_)
                  refine lv_goto (tgt := 57) hx hb dX10_starts_200 (by decide) ?_
                  have n157 : F131 29 = .int v102 := (SAME.at t133 (by decide) (get_eq eF104))
                  have n158 : F104 30 = .int u51 := (get_ne eF104 (by decide) i58)
                  have n159 : F131 30 = .int u51 := (SAME.at t133 (by decide) n158)
                  exact ih_57 (v155, 1, r151, g99, F131, v102, u51, y132) ⟨(ir_wk k156 (by decide) (by decide)), (show 0 ≤ (1 : Int32).toInt ∧ (1 : Int32).toInt ≤ 1 by decide), t152, (SAME.tr (SAME.up eF104 (SAME.tr SAME.rf i56 (by decide)) (by decide)) t133 (by decide)), n157, n159, t134, k103, i61⟩ (by show (4 - v155.toInt).toNat < (4 - u45.toInt).toNat; omega) _ _ _ (hP.sub [0, 1, 3, 2] rfl) (hD.sub [0, 1, 3, 2] (by decide) rfl) hS (lv_sub hl [0, 2, 1, 3, 4, 5] rfl)
            · have dc107 : v106.toInt = 1 := eq_i (a := v106.toInt) (b := 1) rfl rfl c107
              have k160 : 1 ≤ v106.toInt ∧ v106.toInt ≤ 1 := ⟨Int.le_trans (Int.le_refl _) (Int.le_of_eq dc107.symm), Int.le_trans (Int.le_of_eq dc107) (Int.le_refl _)⟩
              refine lv_bipush (v := 6) hx hb dX10_starts_163 (by decide) ?_
              refine lv_goto (tgt := 169) hx hb dX10_starts_165 (by decide) ?_
              refine lv_isub hx hb dX10_starts_169 ?_
              refine lv_topi (fun v161 ev161 => ?_)
              have bv161 : v161.toInt = u47.toInt - 6 := by rw [ev161]; exact sub_k rfl rfl i55 ⟨Int.le_refl _, Int.le_refl _⟩ (by decide)
              have k162 : 4 ≤ v161.toInt ∧ v161.toInt ≤ 244 := sub_r bv161 i55 ⟨Int.le_refl _, Int.le_refl _⟩ (by decide)
              refine lv_aload_n hx hb dX10_starts_170 rfl (lv_at hl 5 rfl) ?_
              have n163 : F1 32 = .int x_kicks := (get_ne eF1 (by decide) e_kicks)
              have n164 : F2 32 = .int x_kicks := (get_ne eF2 (by decide) n163)
              have n165 : F3 32 = .int x_kicks := (get_ne eF3 (by decide) n164)
              have n166 : G7 32 = .int x_kicks := (SAME.at i23 (by decide) n165)
              have n167 : G49 32 = .int x_kicks := (SAME.at i56 (by decide) n166)
              have n168 : F104 32 = .int x_kicks := (get_ne eF104 (by decide) n167)
              refine get_f (D := D) (ci := 10) (v := .int x_kicks) (C := RX10) (T := TX10) (N := 67) hx hb hw inAX10 hown hK hP 2 rfl rfl 32 (by decide) (hw _ q_1293) (fun _ h9 => h9) n168 dX10_starts_171 ?_
              refine lv_if_eq (tgt := 191) hx hb dX10_starts_174 (by decide) (fun c169 => ?_) (fun c169 => ?_)
              · have dc169 : x_kicks.toInt = 0 := eq_i (a := x_kicks.toInt) (b := 0) rfl rfl c169
                have k170 : 0 ≤ x_kicks.toInt ∧ x_kicks.toInt ≤ 0 := ⟨i_x_kicks.1, Int.le_trans (Int.le_of_eq dc169) (Int.le_refl _)⟩
                refine lv_iconst (v := 0) hx hb dX10_starts_191 (by decide) ?_
                refine lv_isub hx hb dX10_starts_192 ?_
                refine lv_topi (fun v171 ev171 => ?_)
                have bv171 : v171.toInt = v161.toInt - 0 := by rw [ev171]; exact sub_k rfl rfl k162 ⟨Int.le_refl _, Int.le_refl _⟩ (by decide)
                have k172 : 4 ≤ v171.toInt ∧ v171.toInt ≤ 244 := sub_r bv171 k162 ⟨Int.le_refl _, Int.le_refl _⟩ (by decide)
                refine call_Si (wr := [(h_paceAt, .inl (cI, 40, .inl w12)), (h_kindOf, .inl (cI, 4, .inl g99)), (h0, .inr (10, vL 67 F104)), (h_s, .inl (cI, 335, .inl f_s))]) (As := [.int v171]) (rest := []) hx hb hml hown hw (m_X10_bounded l D cI cJ cB cP cM cZ v171 _ ) wS_X10_311_X10_bounded dX10_starts_193 hP hD hS hA [] [0, 1, 2, 3] rfl rfl (by decide) (by decide) (by decide) GG.fb hG.at hl.1 rfl (Nat.le_of_ble_eq_true rfl) ⟨(Nat.le_of_ble_eq_true rfl), (Nat.le_of_ble_eq_true rfl)⟩ ⟨(Nat.le_of_ble_eq_true rfl), (Nat.le_of_ble_eq_true rfl)⟩ (fun r173 u H locs hp hP hD hS => ?_)
                obtain ⟨t174, t175, rfl⟩ := hp
                have hP : va_P D vwCl [(h_paceAt, .inl (cI, 40, .inl w12)), (h_kindOf, .inl (cI, 4, .inl g99)), (h0, .inr (10, vL 67 F104)), (h_s, .inl (cI, 335, .inl f_s))] H := hP
                have hD : va_D A [(h_paceAt, .inl (cI, 40, .inl w12)), (h_kindOf, .inl (cI, 4, .inl g99)), (h0, .inr (10, vL 67 F104)), (h_s, .inl (cI, 335, .inl f_s))] := hD
                refine W.widen (k := 0) (n := 0) (Nat.le_of_ble_eq_true rfl) (Nat.le_of_ble_eq_true rfl) ?_
                refine lv_istore_n (lv' := [(1, .int r173), (4, .int 1), (5, .int u45), (3, .int u4), (2, .int u5), (0, .ref h0)]) hx hb dX10_starts_196 rfl hl (by decide) rfl (fun ls hl => ?_)
                obtain ⟨v177, ev177⟩ : ∃ z : Int32, z = u45 + 1 := ⟨_, rfl⟩
                have bv177 : v177.toInt = u45.toInt + 1 := by rw [ev177]; exact add_k rfl rfl k80 ⟨Int.le_refl _, Int.le_refl _⟩ (by decide)
                have k178 : 1 ≤ v177.toInt ∧ v177.toInt ≤ 4 := add_r bv177 k80 ⟨Int.le_refl _, Int.le_refl _⟩ (by decide)
                refine lv_iinc (v := v177) (lv' := [(5, .int v177), (1, .int r173), (4, .int 1), (3, .int u4), (2, .int u5), (0, .ref h0)]) hx hb dX10_starts_197 hl (k := 2) rfl (by rw [ev177]; rfl) (by decide) rfl (fun ls hl => ?_)
                refine lv_goto (tgt := 57) hx hb dX10_starts_200 (by decide) ?_
                have n179 : F104 30 = .int u51 := (get_ne eF104 (by decide) i58)
                have n180 : F104 31 = .int u52 := (get_ne eF104 (by decide) i59)
                exact ih_57 (v177, 1, r173, g99, F104, v102, u51, u52) ⟨(ir_wk k178 (by decide) (by decide)), (show 0 ≤ (1 : Int32).toInt ∧ (1 : Int32).toInt ≤ 1 by decide), t174, (SAME.up eF104 (SAME.tr SAME.rf i56 (by decide)) (by decide)), (get_eq eF104), n179, n180, k103, i61⟩ (by show (4 - v177.toInt).toNat < (4 - u45.toInt).toNat; omega) _ _ _ hP hD hS (lv_sub hl [0, 2, 1, 3, 4, 5] rfl)
              · have dc169 : x_kicks.toInt ≠ 0 := ne_i (a := x_kicks.toInt) (b := 0) rfl rfl c169
                have k181 : 1 ≤ x_kicks.toInt ∧ x_kicks.toInt ≤ 1 := ⟨ne_lo dc169 i_x_kicks.1 ⟨Int.le_refl _, Int.le_refl _⟩ (by decide), i_x_kicks.2⟩
                refine lv_aload_n hx hb dX10_starts_177 rfl (lv_at hl 5 rfl) ?_
                refine lv_bipush (v := 8) hx hb dX10_starts_178 (by decide) ?_
                have n182 : F104 31 = .int u52 := (get_ne eF104 (by decide) i59)
                refine call_Vi (wr := [(h_paceAt, .inl (cI, 40, .inl w12)), (h_kindOf, .inl (cI, 4, .inl g99)), (h_s, .inl (cI, 335, .inl f_s))]) (As := [.int 8]) (rest := [.int v161]) hx hb hml hown hw (m_X10_draw l D cI cJ cB cP cM cZ h0 F104 u52 8 _ n182 (show 8 ≤ (8 : Int32).toInt ∧ (8 : Int32).toInt ≤ 8 by decide)) wV_X10_334_X10_draw dX10_starts_180 hK hP hD hS hA [2] [0, 1, 3] rfl rfl (by decide) (by decide) (by decide) 0 10 rfl rfl GG.fb hG.at hl.1 rfl (Nat.le_of_ble_eq_true rfl) ⟨(Nat.le_of_ble_eq_true rfl), (Nat.le_of_ble_eq_true rfl)⟩ ⟨(Nat.le_of_ble_eq_true rfl), (Nat.le_of_ble_eq_true rfl)⟩ (fun r183 u H locs hp hP hD hS => ?_)
                have zl8 : (8 : Int32).toInt = 8 := by decide
                obtain ⟨F184, y185, t186, t187, rfl⟩ := hp
                have hP : va_P D vwCl [(h_paceAt, .inl (cI, 40, .inl w12)), (h_kindOf, .inl (cI, 4, .inl g99)), (h_s, .inl (cI, 335, .inl f_s)), (h0, .inr (10, vL 67 F184))] H := hP
                have hD : va_D A [(h_paceAt, .inl (cI, 40, .inl w12)), (h_kindOf, .inl (cI, 4, .inl g99)), (h_s, .inl (cI, 335, .inl f_s)), (h0, .inr (10, vL 67 F184))] := hD
                refine W.widen (k := 0) (n := 0) (Nat.le_of_ble_eq_true rfl) (Nat.le_of_ble_eq_true rfl) ?_
                refine lv_if_ne (tgt := 191) hx hb dX10_starts_183 (by decide) (fun c189 => ?_) (fun c189 => ?_)
                · have dc189 : r183.toInt ≠ 0 := ne_i (a := r183.toInt) (b := 0) rfl rfl c189
                  refine lv_iconst (v := 0) hx hb dX10_starts_191 (by decide) ?_
                  refine lv_isub hx hb dX10_starts_192 ?_
                  refine lv_topi (fun v190 ev190 => ?_)
                  have bv190 : v190.toInt = v161.toInt - 0 := by rw [ev190]; exact sub_k rfl rfl k162 ⟨Int.le_refl _, Int.le_refl _⟩ (by decide)
                  have k191 : 4 ≤ v190.toInt ∧ v190.toInt ≤ 244 := sub_r bv190 k162 ⟨Int.le_refl _, Int.le_refl _⟩ (by decide)
                  refine call_Si (wr := [(h_paceAt, .inl (cI, 40, .inl w12)), (h_kindOf, .inl (cI, 4, .inl g99)), (h_s, .inl (cI, 335, .inl f_s)), (h0, .inr (10, vL 67 F184))]) (As := [.int v190]) (rest := []) hx hb hml hown hw (m_X10_bounded l D cI cJ cB cP cM cZ v190 _ ) wS_X10_311_X10_bounded dX10_starts_193 hP hD hS hA [] [0, 1, 2, 3] rfl rfl (by decide) (by decide) (by decide) GG.fb hG.at hl.1 rfl (Nat.le_of_ble_eq_true rfl) ⟨(Nat.le_of_ble_eq_true rfl), (Nat.le_of_ble_eq_true rfl)⟩ ⟨(Nat.le_of_ble_eq_true rfl), (Nat.le_of_ble_eq_true rfl)⟩ (fun r192 u H locs hp hP hD hS => ?_)
                  obtain ⟨t193, t194, rfl⟩ := hp
                  have hP : va_P D vwCl [(h_paceAt, .inl (cI, 40, .inl w12)), (h_kindOf, .inl (cI, 4, .inl g99)), (h_s, .inl (cI, 335, .inl f_s)), (h0, .inr (10, vL 67 F184))] H := hP
                  have hD : va_D A [(h_paceAt, .inl (cI, 40, .inl w12)), (h_kindOf, .inl (cI, 4, .inl g99)), (h_s, .inl (cI, 335, .inl f_s)), (h0, .inr (10, vL 67 F184))] := hD
                  refine W.widen (k := 0) (n := 0) (Nat.le_of_ble_eq_true rfl) (Nat.le_of_ble_eq_true rfl) ?_
                  refine lv_istore_n (lv' := [(1, .int r192), (4, .int 1), (5, .int u45), (3, .int u4), (2, .int u5), (0, .ref h0)]) hx hb dX10_starts_196 rfl hl (by decide) rfl (fun ls hl => ?_)
                  obtain ⟨v196, ev196⟩ : ∃ z : Int32, z = u45 + 1 := ⟨_, rfl⟩
                  have bv196 : v196.toInt = u45.toInt + 1 := by rw [ev196]; exact add_k rfl rfl k80 ⟨Int.le_refl _, Int.le_refl _⟩ (by decide)
                  have k197 : 1 ≤ v196.toInt ∧ v196.toInt ≤ 4 := add_r bv196 k80 ⟨Int.le_refl _, Int.le_refl _⟩ (by decide)
                  refine lv_iinc (v := v196) (lv' := [(5, .int v196), (1, .int r192), (4, .int 1), (3, .int u4), (2, .int u5), (0, .ref h0)]) hx hb dX10_starts_197 hl (k := 2) rfl (by rw [ev196]; rfl) (by decide) rfl (fun ls hl => ?_)
                  refine lv_goto (tgt := 57) hx hb dX10_starts_200 (by decide) ?_
                  have n198 : F184 29 = .int v102 := (SAME.at t186 (by decide) (get_eq eF104))
                  have n199 : F104 30 = .int u51 := (get_ne eF104 (by decide) i58)
                  have n200 : F184 30 = .int u51 := (SAME.at t186 (by decide) n199)
                  exact ih_57 (v196, 1, r192, g99, F184, v102, u51, y185) ⟨(ir_wk k197 (by decide) (by decide)), (show 0 ≤ (1 : Int32).toInt ∧ (1 : Int32).toInt ≤ 1 by decide), t193, (SAME.tr (SAME.up eF104 (SAME.tr SAME.rf i56 (by decide)) (by decide)) t186 (by decide)), n198, n200, t187, k103, i61⟩ (by show (4 - v196.toInt).toNat < (4 - u45.toInt).toNat; omega) _ _ _ (hP.sub [0, 1, 3, 2] rfl) (hD.sub [0, 1, 3, 2] (by decide) rfl) hS (lv_sub hl [0, 2, 1, 3, 4, 5] rfl)
                · have dc189 : r183.toInt = 0 := eq_i (a := r183.toInt) (b := 0) rfl rfl c189
                  have k201 : 0 ≤ r183.toInt ∧ r183.toInt ≤ 0 := ⟨Int.le_trans (Int.le_refl _) (Int.le_of_eq dc189.symm), Int.le_trans (Int.le_of_eq dc189) (Int.le_refl _)⟩
                  refine lv_bipush (v := 10) hx hb dX10_starts_186 (by decide) ?_
                  refine lv_goto (tgt := 192) hx hb dX10_starts_188 (by decide) ?_
                  refine lv_isub hx hb dX10_starts_192 ?_
                  refine lv_topi (fun v202 ev202 => ?_)
                  have bv202 : v202.toInt = v161.toInt - 10 := by rw [ev202]; exact sub_k rfl rfl k162 ⟨Int.le_refl _, Int.le_refl _⟩ (by decide)
                  have k203 : (-6) ≤ v202.toInt ∧ v202.toInt ≤ 234 := sub_r bv202 k162 ⟨Int.le_refl _, Int.le_refl _⟩ (by decide)
                  refine call_Si (wr := [(h_paceAt, .inl (cI, 40, .inl w12)), (h_kindOf, .inl (cI, 4, .inl g99)), (h_s, .inl (cI, 335, .inl f_s)), (h0, .inr (10, vL 67 F184))]) (As := [.int v202]) (rest := []) hx hb hml hown hw (m_X10_bounded l D cI cJ cB cP cM cZ v202 _ ) wS_X10_311_X10_bounded dX10_starts_193 hP hD hS hA [] [0, 1, 2, 3] rfl rfl (by decide) (by decide) (by decide) GG.fb hG.at hl.1 rfl (Nat.le_of_ble_eq_true rfl) ⟨(Nat.le_of_ble_eq_true rfl), (Nat.le_of_ble_eq_true rfl)⟩ ⟨(Nat.le_of_ble_eq_true rfl), (Nat.le_of_ble_eq_true rfl)⟩ (fun r204 u H locs hp hP hD hS => ?_)
                  obtain ⟨t205, t206, rfl⟩ := hp
                  have hP : va_P D vwCl [(h_paceAt, .inl (cI, 40, .inl w12)), (h_kindOf, .inl (cI, 4, .inl g99)), (h_s, .inl (cI, 335, .inl f_s)), (h0, .inr (10, vL 67 F184))] H := hP
                  have hD : va_D A [(h_paceAt, .inl (cI, 40, .inl w12)), (h_kindOf, .inl (cI, 4, .inl g99)), (h_s, .inl (cI, 335, .inl f_s)), (h0, .inr (10, vL 67 F184))] := hD
                  refine W.widen (k := 0) (n := 0) (Nat.le_of_ble_eq_true rfl) (Nat.le_of_ble_eq_true rfl) ?_
                  refine lv_istore_n (lv' := [(1, .int r204), (4, .int 1), (5, .int u45), (3, .int u4), (2, .int u5), (0, .ref h0)]) hx hb dX10_starts_196 rfl hl (by decide) rfl (fun ls hl => ?_)
                  obtain ⟨v208, ev208⟩ : ∃ z : Int32, z = u45 + 1 := ⟨_, rfl⟩
                  have bv208 : v208.toInt = u45.toInt + 1 := by rw [ev208]; exact add_k rfl rfl k80 ⟨Int.le_refl _, Int.le_refl _⟩ (by decide)
                  have k209 : 1 ≤ v208.toInt ∧ v208.toInt ≤ 4 := add_r bv208 k80 ⟨Int.le_refl _, Int.le_refl _⟩ (by decide)
                  refine lv_iinc (v := v208) (lv' := [(5, .int v208), (1, .int r204), (4, .int 1), (3, .int u4), (2, .int u5), (0, .ref h0)]) hx hb dX10_starts_197 hl (k := 2) rfl (by rw [ev208]; rfl) (by decide) rfl (fun ls hl => ?_)
                  refine lv_goto (tgt := 57) hx hb dX10_starts_200 (by decide) ?_
                  have n210 : F184 29 = .int v102 := (SAME.at t186 (by decide) (get_eq eF104))
                  have n211 : F104 30 = .int u51 := (get_ne eF104 (by decide) i58)
                  have n212 : F184 30 = .int u51 := (SAME.at t186 (by decide) n211)
                  exact ih_57 (v208, 1, r204, g99, F184, v102, u51, y185) ⟨(ir_wk k209 (by decide) (by decide)), (show 0 ≤ (1 : Int32).toInt ∧ (1 : Int32).toInt ≤ 1 by decide), t205, (SAME.tr (SAME.up eF104 (SAME.tr SAME.rf i56 (by decide)) (by decide)) t186 (by decide)), n210, n212, t187, k103, i61⟩ (by show (4 - v208.toInt).toNat < (4 - u45.toInt).toNat; omega) _ _ _ (hP.sub [0, 1, 3, 2] rfl) (hD.sub [0, 1, 3, 2] (by decide) rfl) hS (lv_sub hl [0, 2, 1, 3, 4, 5] rfl)
          · have dc97 : u46.toInt = 0 := eq_i (a := u46.toInt) (b := 0) rfl rfl c97
            have k213 : 0 ≤ u46.toInt ∧ u46.toInt ≤ 0 := ⟨i54.1, Int.le_trans (Int.le_of_eq dc97) (Int.le_refl _)⟩
            refine lv_iload_n hx hb dX10_starts_125 rfl (lv_at hl 4 rfl) ?_
            refine lv_if_eq (tgt := 133) hx hb dX10_starts_126 (by decide) (fun c214 => ?_) (fun c214 => ?_)
            · have dc214 : u5.toInt = 0 := eq_i (a := u5.toInt) (b := 0) rfl rfl c214
              have k215 : 0 ≤ u5.toInt ∧ u5.toInt ≤ 0 := ⟨i21.1, Int.le_trans (Int.le_of_eq dc214) (Int.le_refl _)⟩
              refine lv_iconst (v := 0) hx hb dX10_starts_133 (by decide) ?_
              obtain ⟨g216, eg216⟩ : ∃ z : Nat → Int32, upd w48 u45.toNatClampNeg 0 = z := ⟨_, rfl⟩
              refine iast_g hx hb hK hP hD hS 1 0 rfl rfl (ix_k k80 (by decide) (by decide)) eg216 dX10_starts_134 (fun H locs hP hD hS => ?_)
              have hP : va_P D vwCl [(h_paceAt, .inl (cI, 40, .inl w12)), (h_kindOf, .inl (cI, 4, .inl g216)), (h0, .inr (10, vL 67 G49)), (h_s, .inl (cI, 335, .inl f_s))] H := hP
              have hD : va_D A [(h_paceAt, .inl (cI, 40, .inl w12)), (h_kindOf, .inl (cI, 4, .inl g216)), (h0, .inr (10, vL 67 G49)), (h_s, .inl (cI, 335, .inl f_s))] := hD
              refine lv_aload_n hx hb dX10_starts_135 rfl (lv_at hl 5 rfl) ?_
              refine lv_dup hx hb dX10_starts_136 rfl ?_
              refine get_f (D := D) (ci := 10) (v := .int u50) (C := RX10) (T := TX10) (N := 67) hx hb hw inAX10 hown hK hP 2 rfl rfl 29 (by decide) (hw _ q_1290) (fun _ h9 => h9) i57 dX10_starts_137 ?_
              refine lv_iconst (v := 1) hx hb dX10_starts_140 (by decide) ?_
              refine lv_iload hx hb dX10_starts_141 (lv_at hl 0 rfl) ?_
              refine lv_ishl hx hb dX10_starts_143 ?_
              refine lv_topi (fun v217 ev217 => ?_)
              have k218 : 1 ≤ v217.toInt ∧ v217.toInt ≤ 8 := by rw [ev217]; exact shl1_i (Int.le_trans (by decide) k80.1) (Int.le_trans k80.2 (by decide))
              refine lv_ior hx hb dX10_starts_144 ?_
              refine lv_topi (fun v219 ev219 => ?_)
              have k220 : 0 ≤ v219.toInt ∧ v219.toInt ≤ 15 := by rw [ev219]; exact or_ik (ir_wk i60 (by decide) (by decide)) (ir_wk k218 (by decide) (by decide))
              refine put_f (D := D) (ci := 10) (v := .int v219) (ty := .int) (C := RX10) (T := TX10) (N := 67) hx hb hw inAX10 tyX10 tyX10_ok nmX10 hown hK hP hD hS 2 rfl rfl 29 (by decide) (hw _ q_1290) (fun _ h9 => h9) rfl (by decide +kernel) rfl rfl dX10_starts_145 (fun H locs F221 eF221 hP hD hS => ?_)
              have hP : va_P D vwCl [(h_paceAt, .inl (cI, 40, .inl w12)), (h_kindOf, .inl (cI, 4, .inl g216)), (h0, .inr (10, vL 67 F221)), (h_s, .inl (cI, 335, .inl f_s))] H := hP
              have hD : va_D A [(h_paceAt, .inl (cI, 40, .inl w12)), (h_kindOf, .inl (cI, 4, .inl g216)), (h0, .inr (10, vL 67 F221)), (h_s, .inl (cI, 335, .inl f_s))] := hD
              refine lv_iconst (v := 1) hx hb dX10_starts_148 (by decide) ?_
              refine lv_istore (lv' := [(4, .int 1), (5, .int u45), (1, .int u47), (3, .int u4), (2, .int u5), (0, .ref h0)]) hx hb dX10_starts_149 hl (by decide) rfl (fun ls hl => ?_)
              refine lv_iload_n hx hb dX10_starts_151 rfl (lv_at hl 2 rfl) ?_
              refine lv_aload_n hx hb dX10_starts_152 rfl (lv_at hl 5 rfl) ?_
              have n222 : F221 26 = .ref h_kindOf := (get_ne eF221 (by decide) n96)
              refine get_f (D := D) (ci := 10) (v := .ref h_kindOf) (C := RX10) (T := TX10) (N := 67) hx hb hw inAX10 hown hK hP 2 rfl rfl 26 (by decide) (hw _ q_1287) (fun _ h9 => h9) n222 dX10_starts_153 ?_
              refine lv_iload hx hb dX10_starts_156 (lv_at hl 1 rfl) ?_
              refine va_iald hx hb hK hP 1 0 rfl rfl (ix_k k80 (by decide) (by decide)) dX10_starts_158 ?_
              refine lv_topi (fun v223 ev223 => ?_)
              refine lv_iconst (v := 1) hx hb dX10_starts_159 (by decide) ?_
              refine lv_icmp_ne (tgt := 168) hx hb dX10_starts_160 (by decide) (fun c224 => ?_) (fun c224 => ?_)
              · have dc224 : v223.toInt ≠ 1 := ne_i (a := v223.toInt) (b := 1) rfl rfl c224
                refine lv_iconst (v := 2) hx hb dX10_starts_168 (by decide) ?_
                refine lv_isub hx hb dX10_starts_169 ?_
                refine lv_topi (fun v225 ev225 => ?_)
                have bv225 : v225.toInt = u47.toInt - 2 := by rw [ev225]; exact sub_k rfl rfl i55 ⟨Int.le_refl _, Int.le_refl _⟩ (by decide)
                have k226 : 8 ≤ v225.toInt ∧ v225.toInt ≤ 248 := sub_r bv225 i55 ⟨Int.le_refl _, Int.le_refl _⟩ (by decide)
                refine lv_aload_n hx hb dX10_starts_170 rfl (lv_at hl 5 rfl) ?_
                have n227 : F1 32 = .int x_kicks := (get_ne eF1 (by decide) e_kicks)
                have n228 : F2 32 = .int x_kicks := (get_ne eF2 (by decide) n227)
                have n229 : F3 32 = .int x_kicks := (get_ne eF3 (by decide) n228)
                have n230 : G7 32 = .int x_kicks := (SAME.at i23 (by decide) n229)
                have n231 : G49 32 = .int x_kicks := (SAME.at i56 (by decide) n230)
                have n232 : F221 32 = .int x_kicks := (get_ne eF221 (by decide) n231)
                refine get_f (D := D) (ci := 10) (v := .int x_kicks) (C := RX10) (T := TX10) (N := 67) hx hb hw inAX10 hown hK hP 2 rfl rfl 32 (by decide) (hw _ q_1293) (fun _ h9 => h9) n232 dX10_starts_171 ?_
                refine lv_if_eq (tgt := 191) hx hb dX10_starts_174 (by decide) (fun c233 => ?_) (fun c233 => ?_)
                · have dc233 : x_kicks.toInt = 0 := eq_i (a := x_kicks.toInt) (b := 0) rfl rfl c233
                  have k234 : 0 ≤ x_kicks.toInt ∧ x_kicks.toInt ≤ 0 := ⟨i_x_kicks.1, Int.le_trans (Int.le_of_eq dc233) (Int.le_refl _)⟩
                  refine lv_iconst (v := 0) hx hb dX10_starts_191 (by decide) ?_
                  refine lv_isub hx hb dX10_starts_192 ?_
                  refine lv_topi (fun v235 ev235 => ?_)
                  have bv235 : v235.toInt = v225.toInt - 0 := by rw [ev235]; exact sub_k rfl rfl k226 ⟨Int.le_refl _, Int.le_refl _⟩ (by decide)
                  have k236 : 8 ≤ v235.toInt ∧ v235.toInt ≤ 248 := sub_r bv235 k226 ⟨Int.le_refl _, Int.le_refl _⟩ (by decide)
                  refine call_Si (wr := [(h_paceAt, .inl (cI, 40, .inl w12)), (h_kindOf, .inl (cI, 4, .inl g216)), (h0, .inr (10, vL 67 F221)), (h_s, .inl (cI, 335, .inl f_s))]) (As := [.int v235]) (rest := []) hx hb hml hown hw (m_X10_bounded l D cI cJ cB cP cM cZ v235 _ ) wS_X10_311_X10_bounded dX10_starts_193 hP hD hS hA [] [0, 1, 2, 3] rfl rfl (by decide) (by decide) (by decide) GG.fb hG.at hl.1 rfl (Nat.le_of_ble_eq_true rfl) ⟨(Nat.le_of_ble_eq_true rfl), (Nat.le_of_ble_eq_true rfl)⟩ ⟨(Nat.le_of_ble_eq_true rfl), (Nat.le_of_ble_eq_true rfl)⟩ (fun r237 u H locs hp hP hD hS => ?_)
                  obtain ⟨t238, t239, rfl⟩ := hp
                  have hP : va_P D vwCl [(h_paceAt, .inl (cI, 40, .inl w12)), (h_kindOf, .inl (cI, 4, .inl g216)), (h0, .inr (10, vL 67 F221)), (h_s, .inl (cI, 335, .inl f_s))] H := hP
                  have hD : va_D A [(h_paceAt, .inl (cI, 40, .inl w12)), (h_kindOf, .inl (cI, 4, .inl g216)), (h0, .inr (10, vL 67 F221)), (h_s, .inl (cI, 335, .inl f_s))] := hD
                  refine W.widen (k := 0) (n := 0) (Nat.le_of_ble_eq_true rfl) (Nat.le_of_ble_eq_true rfl) ?_
                  refine lv_istore_n (lv' := [(1, .int r237), (4, .int 1), (5, .int u45), (3, .int u4), (2, .int u5), (0, .ref h0)]) hx hb dX10_starts_196 rfl hl (by decide) rfl (fun ls hl => ?_)
                  obtain ⟨v241, ev241⟩ : ∃ z : Int32, z = u45 + 1 := ⟨_, rfl⟩
                  have bv241 : v241.toInt = u45.toInt + 1 := by rw [ev241]; exact add_k rfl rfl k80 ⟨Int.le_refl _, Int.le_refl _⟩ (by decide)
                  have k242 : 1 ≤ v241.toInt ∧ v241.toInt ≤ 4 := add_r bv241 k80 ⟨Int.le_refl _, Int.le_refl _⟩ (by decide)
                  refine lv_iinc (v := v241) (lv' := [(5, .int v241), (1, .int r237), (4, .int 1), (3, .int u4), (2, .int u5), (0, .ref h0)]) hx hb dX10_starts_197 hl (k := 2) rfl (by rw [ev241]; rfl) (by decide) rfl (fun ls hl => ?_)
                  refine lv_goto (tgt := 57) hx hb dX10_starts_200 (by decide) ?_
                  have n243 : F221 30 = .int u51 := (get_ne eF221 (by decide) i58)
                  have n244 : F221 31 = .int u52 := (get_ne eF221 (by decide) i59)
                  exact ih_57 (v241, 1, r237, g216, F221, v219, u51, u52) ⟨(ir_wk k242 (by decide) (by decide)), (show 0 ≤ (1 : Int32).toInt ∧ (1 : Int32).toInt ≤ 1 by decide), t238, (SAME.up eF221 (SAME.tr SAME.rf i56 (by decide)) (by decide)), (get_eq eF221), n243, n244, k220, i61⟩ (by show (4 - v241.toInt).toNat < (4 - u45.toInt).toNat; omega) _ _ _ hP hD hS (lv_sub hl [0, 2, 1, 3, 4, 5] rfl)
                · have dc233 : x_kicks.toInt ≠ 0 := ne_i (a := x_kicks.toInt) (b := 0) rfl rfl c233
                  have k245 : 1 ≤ x_kicks.toInt ∧ x_kicks.toInt ≤ 1 := ⟨ne_lo dc233 i_x_kicks.1 ⟨Int.le_refl _, Int.le_refl _⟩ (by decide), i_x_kicks.2⟩
                  refine lv_aload_n hx hb dX10_starts_177 rfl (lv_at hl 5 rfl) ?_
                  refine lv_bipush (v := 8) hx hb dX10_starts_178 (by decide) ?_
                  have n246 : F221 31 = .int u52 := (get_ne eF221 (by decide) i59)
                  refine call_Vi (wr := [(h_paceAt, .inl (cI, 40, .inl w12)), (h_kindOf, .inl (cI, 4, .inl g216)), (h_s, .inl (cI, 335, .inl f_s))]) (As := [.int 8]) (rest := [.int v225]) hx hb hml hown hw (m_X10_draw l D cI cJ cB cP cM cZ h0 F221 u52 8 _ n246 (show 8 ≤ (8 : Int32).toInt ∧ (8 : Int32).toInt ≤ 8 by decide)) wV_X10_334_X10_draw dX10_starts_180 hK hP hD hS hA [2] [0, 1, 3] rfl rfl (by decide) (by decide) (by decide) 0 10 rfl rfl GG.fb hG.at hl.1 rfl (Nat.le_of_ble_eq_true rfl) ⟨(Nat.le_of_ble_eq_true rfl), (Nat.le_of_ble_eq_true rfl)⟩ ⟨(Nat.le_of_ble_eq_true rfl), (Nat.le_of_ble_eq_true rfl)⟩ (fun r247 u H locs hp hP hD hS => ?_)
                  have zl8 : (8 : Int32).toInt = 8 := by decide
                  obtain ⟨F248, y249, t250, t251, rfl⟩ := hp
                  have hP : va_P D vwCl [(h_paceAt, .inl (cI, 40, .inl w12)), (h_kindOf, .inl (cI, 4, .inl g216)), (h_s, .inl (cI, 335, .inl f_s)), (h0, .inr (10, vL 67 F248))] H := hP
                  have hD : va_D A [(h_paceAt, .inl (cI, 40, .inl w12)), (h_kindOf, .inl (cI, 4, .inl g216)), (h_s, .inl (cI, 335, .inl f_s)), (h0, .inr (10, vL 67 F248))] := hD
                  refine W.widen (k := 0) (n := 0) (Nat.le_of_ble_eq_true rfl) (Nat.le_of_ble_eq_true rfl) ?_
                  refine lv_if_ne (tgt := 191) hx hb dX10_starts_183 (by decide) (fun c253 => ?_) (fun c253 => ?_)
                  · have dc253 : r247.toInt ≠ 0 := ne_i (a := r247.toInt) (b := 0) rfl rfl c253
                    refine lv_iconst (v := 0) hx hb dX10_starts_191 (by decide) ?_
                    refine lv_isub hx hb dX10_starts_192 ?_
                    refine lv_topi (fun v254 ev254 => ?_)
                    have bv254 : v254.toInt = v225.toInt - 0 := by rw [ev254]; exact sub_k rfl rfl k226 ⟨Int.le_refl _, Int.le_refl _⟩ (by decide)
                    have k255 : 8 ≤ v254.toInt ∧ v254.toInt ≤ 248 := sub_r bv254 k226 ⟨Int.le_refl _, Int.le_refl _⟩ (by decide)
                    refine call_Si (wr := [(h_paceAt, .inl (cI, 40, .inl w12)), (h_kindOf, .inl (cI, 4, .inl g216)), (h_s, .inl (cI, 335, .inl f_s)), (h0, .inr (10, vL 67 F248))]) (As := [.int v254]) (rest := []) hx hb hml hown hw (m_X10_bounded l D cI cJ cB cP cM cZ v254 _ ) wS_X10_311_X10_bounded dX10_starts_193 hP hD hS hA [] [0, 1, 2, 3] rfl rfl (by decide) (by decide) (by decide) GG.fb hG.at hl.1 rfl (Nat.le_of_ble_eq_true rfl) ⟨(Nat.le_of_ble_eq_true rfl), (Nat.le_of_ble_eq_true rfl)⟩ ⟨(Nat.le_of_ble_eq_true rfl), (Nat.le_of_ble_eq_true rfl)⟩ (fun r256 u H locs hp hP hD hS => ?_)
                    obtain ⟨t257, t258, rfl⟩ := hp
                    have hP : va_P D vwCl [(h_paceAt, .inl (cI, 40, .inl w12)), (h_kindOf, .inl (cI, 4, .inl g216)), (h_s, .inl (cI, 335, .inl f_s)), (h0, .inr (10, vL 67 F248))] H := hP
                    have hD : va_D A [(h_paceAt, .inl (cI, 40, .inl w12)), (h_kindOf, .inl (cI, 4, .inl g216)), (h_s, .inl (cI, 335, .inl f_s)), (h0, .inr (10, vL 67 F248))] := hD
                    refine W.widen (k := 0) (n := 0) (Nat.le_of_ble_eq_true rfl) (Nat.le_of_ble_eq_true rfl) ?_
                    refine lv_istore_n (lv' := [(1, .int r256), (4, .int 1), (5, .int u45), (3, .int u4), (2, .int u5), (0, .ref h0)]) hx hb dX10_starts_196 rfl hl (by decide) rfl (fun ls hl => ?_)
                    obtain ⟨v260, ev260⟩ : ∃ z : Int32, z = u45 + 1 := ⟨_, rfl⟩
                    have bv260 : v260.toInt = u45.toInt + 1 := by rw [ev260]; exact add_k rfl rfl k80 ⟨Int.le_refl _, Int.le_refl _⟩ (by decide)
                    have k261 : 1 ≤ v260.toInt ∧ v260.toInt ≤ 4 := add_r bv260 k80 ⟨Int.le_refl _, Int.le_refl _⟩ (by decide)
                    refine lv_iinc (v := v260) (lv' := [(5, .int v260), (1, .int r256), (4, .int 1), (3, .int u4), (2, .int u5), (0, .ref h0)]) hx hb dX10_starts_197 hl (k := 2) rfl (by rw [ev260]; rfl) (by decide) rfl (fun ls hl => ?_)
                    refine lv_goto (tgt := 57) hx hb dX10_starts_200 (by decide) ?_
                    have n262 : F248 29 = .int v219 := (SAME.at t250 (by decide) (get_eq eF221))
                    have n263 : F221 30 = .int u51 := (get_ne eF221 (by decide) i58)
                    have n264 : F248 30 = .int u51 := (SAME.at t250 (by decide) n263)
                    exact ih_57 (v260, 1, r256, g216, F248, v219, u51, y249) ⟨(ir_wk k261 (by decide) (by decide)), (show 0 ≤ (1 : Int32).toInt ∧ (1 : Int32).toInt ≤ 1 by decide), t257, (SAME.tr (SAME.up eF221 (SAME.tr SAME.rf i56 (by decide)) (by decide)) t250 (by decide)), n262, n264, t251, k220, i61⟩ (by show (4 - v260.toInt).toNat < (4 - u45.toInt).toNat; omega) _ _ _ (hP.sub [0, 1, 3, 2] rfl) (hD.sub [0, 1, 3, 2] (by decide) rfl) hS (lv_sub hl [0, 2, 1, 3, 4, 5] rfl)
                  · have dc253 : r247.toInt = 0 := eq_i (a := r247.toInt) (b := 0) rfl rfl c253
                    have k265 : 0 ≤ r247.toInt ∧ r247.toInt ≤ 0 := ⟨Int.le_trans (Int.le_refl _) (Int.le_of_eq dc253.symm), Int.le_trans (Int.le_of_eq dc253) (Int.le_refl _)⟩
                    refine lv_bipush (v := 10) hx hb dX10_starts_186 (by decide) ?_
                    refine lv_goto (tgt := 192) hx hb dX10_starts_188 (by decide) ?_
                    refine lv_isub hx hb dX10_starts_192 ?_
                    refine lv_topi (fun v266 ev266 => ?_)
                    have bv266 : v266.toInt = v225.toInt - 10 := by rw [ev266]; exact sub_k rfl rfl k226 ⟨Int.le_refl _, Int.le_refl _⟩ (by decide)
                    have k267 : (-2) ≤ v266.toInt ∧ v266.toInt ≤ 238 := sub_r bv266 k226 ⟨Int.le_refl _, Int.le_refl _⟩ (by decide)
                    refine call_Si (wr := [(h_paceAt, .inl (cI, 40, .inl w12)), (h_kindOf, .inl (cI, 4, .inl g216)), (h_s, .inl (cI, 335, .inl f_s)), (h0, .inr (10, vL 67 F248))]) (As := [.int v266]) (rest := []) hx hb hml hown hw (m_X10_bounded l D cI cJ cB cP cM cZ v266 _ ) wS_X10_311_X10_bounded dX10_starts_193 hP hD hS hA [] [0, 1, 2, 3] rfl rfl (by decide) (by decide) (by decide) GG.fb hG.at hl.1 rfl (Nat.le_of_ble_eq_true rfl) ⟨(Nat.le_of_ble_eq_true rfl), (Nat.le_of_ble_eq_true rfl)⟩ ⟨(Nat.le_of_ble_eq_true rfl), (Nat.le_of_ble_eq_true rfl)⟩ (fun r268 u H locs hp hP hD hS => ?_)
                    obtain ⟨t269, t270, rfl⟩ := hp
                    have hP : va_P D vwCl [(h_paceAt, .inl (cI, 40, .inl w12)), (h_kindOf, .inl (cI, 4, .inl g216)), (h_s, .inl (cI, 335, .inl f_s)), (h0, .inr (10, vL 67 F248))] H := hP
                    have hD : va_D A [(h_paceAt, .inl (cI, 40, .inl w12)), (h_kindOf, .inl (cI, 4, .inl g216)), (h_s, .inl (cI, 335, .inl f_s)), (h0, .inr (10, vL 67 F248))] := hD
                    refine W.widen (k := 0) (n := 0) (Nat.le_of_ble_eq_true rfl) (Nat.le_of_ble_eq_true rfl) ?_
                    refine lv_istore_n (lv' := [(1, .int r268), (4, .int 1), (5, .int u45), (3, .int u4), (2, .int u5), (0, .ref h0)]) hx hb dX10_starts_196 rfl hl (by decide) rfl (fun ls hl => ?_)
                    obtain ⟨v272, ev272⟩ : ∃ z : Int32, z = u45 + 1 := ⟨_, rfl⟩
                    have bv272 : v272.toInt = u45.toInt + 1 := by rw [ev272]; exact add_k rfl rfl k80 ⟨Int.le_refl _, Int.le_refl _⟩ (by decide)
                    have k273 : 1 ≤ v272.toInt ∧ v272.toInt ≤ 4 := add_r bv272 k80 ⟨Int.le_refl _, Int.le_refl _⟩ (by decide)
                    refine lv_iinc (v := v272) (lv' := [(5, .int v272), (1, .int r268), (4, .int 1), (3, .int u4), (2, .int u5), (0, .ref h0)]) hx hb dX10_starts_197 hl (k := 2) rfl (by rw [ev272]; rfl) (by decide) rfl (fun ls hl => ?_)
                    refine lv_goto (tgt := 57) hx hb dX10_starts_200 (by decide) ?_
                    have n274 : F248 29 = .int v219 := (SAME.at t250 (by decide) (get_eq eF221))
                    have n275 : F221 30 = .int u51 := (get_ne eF221 (by decide) i58)
                    have n276 : F248 30 = .int u51 := (SAME.at t250 (by decide) n275)
                    exact ih_57 (v272, 1, r268, g216, F248, v219, u51, y249) ⟨(ir_wk k273 (by decide) (by decide)), (show 0 ≤ (1 : Int32).toInt ∧ (1 : Int32).toInt ≤ 1 by decide), t269, (SAME.tr (SAME.up eF221 (SAME.tr SAME.rf i56 (by decide)) (by decide)) t250 (by decide)), n274, n276, t251, k220, i61⟩ (by show (4 - v272.toInt).toNat < (4 - u45.toInt).toNat; omega) _ _ _ (hP.sub [0, 1, 3, 2] rfl) (hD.sub [0, 1, 3, 2] (by decide) rfl) hS (lv_sub hl [0, 2, 1, 3, 4, 5] rfl)
              · have dc224 : v223.toInt = 1 := eq_i (a := v223.toInt) (b := 1) rfl rfl c224
                have k277 : 1 ≤ v223.toInt ∧ v223.toInt ≤ 1 := ⟨Int.le_trans (Int.le_refl _) (Int.le_of_eq dc224.symm), Int.le_trans (Int.le_of_eq dc224) (Int.le_refl _)⟩
                refine lv_bipush (v := 6) hx hb dX10_starts_163 (by decide) ?_
                refine lv_goto (tgt := 169) hx hb dX10_starts_165 (by decide) ?_
                refine lv_isub hx hb dX10_starts_169 ?_
                refine lv_topi (fun v278 ev278 => ?_)
                have bv278 : v278.toInt = u47.toInt - 6 := by rw [ev278]; exact sub_k rfl rfl i55 ⟨Int.le_refl _, Int.le_refl _⟩ (by decide)
                have k279 : 4 ≤ v278.toInt ∧ v278.toInt ≤ 244 := sub_r bv278 i55 ⟨Int.le_refl _, Int.le_refl _⟩ (by decide)
                refine lv_aload_n hx hb dX10_starts_170 rfl (lv_at hl 5 rfl) ?_
                have n280 : F1 32 = .int x_kicks := (get_ne eF1 (by decide) e_kicks)
                have n281 : F2 32 = .int x_kicks := (get_ne eF2 (by decide) n280)
                have n282 : F3 32 = .int x_kicks := (get_ne eF3 (by decide) n281)
                have n283 : G7 32 = .int x_kicks := (SAME.at i23 (by decide) n282)
                have n284 : G49 32 = .int x_kicks := (SAME.at i56 (by decide) n283)
                have n285 : F221 32 = .int x_kicks := (get_ne eF221 (by decide) n284)
                refine get_f (D := D) (ci := 10) (v := .int x_kicks) (C := RX10) (T := TX10) (N := 67) hx hb hw inAX10 hown hK hP 2 rfl rfl 32 (by decide) (hw _ q_1293) (fun _ h9 => h9) n285 dX10_starts_171 ?_
                refine lv_if_eq (tgt := 191) hx hb dX10_starts_174 (by decide) (fun c286 => ?_) (fun c286 => ?_)
                · have dc286 : x_kicks.toInt = 0 := eq_i (a := x_kicks.toInt) (b := 0) rfl rfl c286
                  have k287 : 0 ≤ x_kicks.toInt ∧ x_kicks.toInt ≤ 0 := ⟨i_x_kicks.1, Int.le_trans (Int.le_of_eq dc286) (Int.le_refl _)⟩
                  refine lv_iconst (v := 0) hx hb dX10_starts_191 (by decide) ?_
                  refine lv_isub hx hb dX10_starts_192 ?_
                  refine lv_topi (fun v288 ev288 => ?_)
                  have bv288 : v288.toInt = v278.toInt - 0 := by rw [ev288]; exact sub_k rfl rfl k279 ⟨Int.le_refl _, Int.le_refl _⟩ (by decide)
                  have k289 : 4 ≤ v288.toInt ∧ v288.toInt ≤ 244 := sub_r bv288 k279 ⟨Int.le_refl _, Int.le_refl _⟩ (by decide)
                  refine call_Si (wr := [(h_paceAt, .inl (cI, 40, .inl w12)), (h_kindOf, .inl (cI, 4, .inl g216)), (h0, .inr (10, vL 67 F221)), (h_s, .inl (cI, 335, .inl f_s))]) (As := [.int v288]) (rest := []) hx hb hml hown hw (m_X10_bounded l D cI cJ cB cP cM cZ v288 _ ) wS_X10_311_X10_bounded dX10_starts_193 hP hD hS hA [] [0, 1, 2, 3] rfl rfl (by decide) (by decide) (by decide) GG.fb hG.at hl.1 rfl (Nat.le_of_ble_eq_true rfl) ⟨(Nat.le_of_ble_eq_true rfl), (Nat.le_of_ble_eq_true rfl)⟩ ⟨(Nat.le_of_ble_eq_true rfl), (Nat.le_of_ble_eq_true rfl)⟩ (fun r290 u H locs hp hP hD hS => ?_)
                  obtain ⟨t291, t292, rfl⟩ := hp
                  have hP : va_P D vwCl [(h_paceAt, .inl (cI, 40, .inl w12)), (h_kindOf, .inl (cI, 4, .inl g216)), (h0, .inr (10, vL 67 F221)), (h_s, .inl (cI, 335, .inl f_s))] H := hP
                  have hD : va_D A [(h_paceAt, .inl (cI, 40, .inl w12)), (h_kindOf, .inl (cI, 4, .inl g216)), (h0, .inr (10, vL 67 F221)), (h_s, .inl (cI, 335, .inl f_s))] := hD
                  refine W.widen (k := 0) (n := 0) (Nat.le_of_ble_eq_true rfl) (Nat.le_of_ble_eq_true rfl) ?_
                  refine lv_istore_n (lv' := [(1, .int r290), (4, .int 1), (5, .int u45), (3, .int u4), (2, .int u5), (0, .ref h0)]) hx hb dX10_starts_196 rfl hl (by decide) rfl (fun ls hl => ?_)
                  obtain ⟨v294, ev294⟩ : ∃ z : Int32, z = u45 + 1 := ⟨_, rfl⟩
                  have bv294 : v294.toInt = u45.toInt + 1 := by rw [ev294]; exact add_k rfl rfl k80 ⟨Int.le_refl _, Int.le_refl _⟩ (by decide)
                  have k295 : 1 ≤ v294.toInt ∧ v294.toInt ≤ 4 := add_r bv294 k80 ⟨Int.le_refl _, Int.le_refl _⟩ (by decide)
                  refine lv_iinc (v := v294) (lv' := [(5, .int v294), (1, .int r290), (4, .int 1), (3, .int u4), (2, .int u5), (0, .ref h0)]) hx hb dX10_starts_197 hl (k := 2) rfl (by rw [ev294]; rfl) (by decide) rfl (fun ls hl => ?_)
                  refine lv_goto (tgt := 57) hx hb dX10_starts_200 (by decide) ?_
                  have n296 : F221 30 = .int u51 := (get_ne eF221 (by decide) i58)
                  have n297 : F221 31 = .int u52 := (get_ne eF221 (by decide) i59)
                  exact ih_57 (v294, 1, r290, g216, F221, v219, u51, u52) ⟨(ir_wk k295 (by decide) (by decide)), (show 0 ≤ (1 : Int32).toInt ∧ (1 : Int32).toInt ≤ 1 by decide), t291, (SAME.up eF221 (SAME.tr SAME.rf i56 (by decide)) (by decide)), (get_eq eF221), n296, n297, k220, i61⟩ (by show (4 - v294.toInt).toNat < (4 - u45.toInt).toNat; omega) _ _ _ hP hD hS (lv_sub hl [0, 2, 1, 3, 4, 5] rfl)
                · have dc286 : x_kicks.toInt ≠ 0 := ne_i (a := x_kicks.toInt) (b := 0) rfl rfl c286
                  have k298 : 1 ≤ x_kicks.toInt ∧ x_kicks.toInt ≤ 1 := ⟨ne_lo dc286 i_x_kicks.1 ⟨Int.le_refl _, Int.le_refl _⟩ (by decide), i_x_kicks.2⟩
                  refine lv_aload_n hx hb dX10_starts_177 rfl (lv_at hl 5 rfl) ?_
                  refine lv_bipush (v := 8) hx hb dX10_starts_178 (by decide) ?_
                  have n299 : F221 31 = .int u52 := (get_ne eF221 (by decide) i59)
                  refine call_Vi (wr := [(h_paceAt, .inl (cI, 40, .inl w12)), (h_kindOf, .inl (cI, 4, .inl g216)), (h_s, .inl (cI, 335, .inl f_s))]) (As := [.int 8]) (rest := [.int v278]) hx hb hml hown hw (m_X10_draw l D cI cJ cB cP cM cZ h0 F221 u52 8 _ n299 (show 8 ≤ (8 : Int32).toInt ∧ (8 : Int32).toInt ≤ 8 by decide)) wV_X10_334_X10_draw dX10_starts_180 hK hP hD hS hA [2] [0, 1, 3] rfl rfl (by decide) (by decide) (by decide) 0 10 rfl rfl GG.fb hG.at hl.1 rfl (Nat.le_of_ble_eq_true rfl) ⟨(Nat.le_of_ble_eq_true rfl), (Nat.le_of_ble_eq_true rfl)⟩ ⟨(Nat.le_of_ble_eq_true rfl), (Nat.le_of_ble_eq_true rfl)⟩ (fun r300 u H locs hp hP hD hS => ?_)
                  have zl8 : (8 : Int32).toInt = 8 := by decide
                  obtain ⟨F301, y302, t303, t304, rfl⟩ := hp
                  have hP : va_P D vwCl [(h_paceAt, .inl (cI, 40, .inl w12)), (h_kindOf, .inl (cI, 4, .inl g216)), (h_s, .inl (cI, 335, .inl f_s)), (h0, .inr (10, vL 67 F301))] H := hP
                  have hD : va_D A [(h_paceAt, .inl (cI, 40, .inl w12)), (h_kindOf, .inl (cI, 4, .inl g216)), (h_s, .inl (cI, 335, .inl f_s)), (h0, .inr (10, vL 67 F301))] := hD
                  refine W.widen (k := 0) (n := 0) (Nat.le_of_ble_eq_true rfl) (Nat.le_of_ble_eq_true rfl) ?_
                  refine lv_if_ne (tgt := 191) hx hb dX10_starts_183 (by decide) (fun c306 => ?_) (fun c306 => ?_)
                  · have dc306 : r300.toInt ≠ 0 := ne_i (a := r300.toInt) (b := 0) rfl rfl c306
                    refine lv_iconst (v := 0) hx hb dX10_starts_191 (by decide) ?_
                    refine lv_isub hx hb dX10_starts_192 ?_
                    refine lv_topi (fun v307 ev307 => ?_)
                    have bv307 : v307.toInt = v278.toInt - 0 := by rw [ev307]; exact sub_k rfl rfl k279 ⟨Int.le_refl _, Int.le_refl _⟩ (by decide)
                    have k308 : 4 ≤ v307.toInt ∧ v307.toInt ≤ 244 := sub_r bv307 k279 ⟨Int.le_refl _, Int.le_refl _⟩ (by decide)
                    refine call_Si (wr := [(h_paceAt, .inl (cI, 40, .inl w12)), (h_kindOf, .inl (cI, 4, .inl g216)), (h_s, .inl (cI, 335, .inl f_s)), (h0, .inr (10, vL 67 F301))]) (As := [.int v307]) (rest := []) hx hb hml hown hw (m_X10_bounded l D cI cJ cB cP cM cZ v307 _ ) wS_X10_311_X10_bounded dX10_starts_193 hP hD hS hA [] [0, 1, 2, 3] rfl rfl (by decide) (by decide) (by decide) GG.fb hG.at hl.1 rfl (Nat.le_of_ble_eq_true rfl) ⟨(Nat.le_of_ble_eq_true rfl), (Nat.le_of_ble_eq_true rfl)⟩ ⟨(Nat.le_of_ble_eq_true rfl), (Nat.le_of_ble_eq_true rfl)⟩ (fun r309 u H locs hp hP hD hS => ?_)
                    obtain ⟨t310, t311, rfl⟩ := hp
                    have hP : va_P D vwCl [(h_paceAt, .inl (cI, 40, .inl w12)), (h_kindOf, .inl (cI, 4, .inl g216)), (h_s, .inl (cI, 335, .inl f_s)), (h0, .inr (10, vL 67 F301))] H := hP
                    have hD : va_D A [(h_paceAt, .inl (cI, 40, .inl w12)), (h_kindOf, .inl (cI, 4, .inl g216)), (h_s, .inl (cI, 335, .inl f_s)), (h0, .inr (10, vL 67 F301))] := hD
                    refine W.widen (k := 0) (n := 0) (Nat.le_of_ble_eq_true rfl) (Nat.le_of_ble_eq_true rfl) ?_
                    refine lv_istore_n (lv' := [(1, .int r309), (4, .int 1), (5, .int u45), (3, .int u4), (2, .int u5), (0, .ref h0)]) hx hb dX10_starts_196 rfl hl (by decide) rfl (fun ls hl => ?_)
                    obtain ⟨v313, ev313⟩ : ∃ z : Int32, z = u45 + 1 := ⟨_, rfl⟩
                    have bv313 : v313.toInt = u45.toInt + 1 := by rw [ev313]; exact add_k rfl rfl k80 ⟨Int.le_refl _, Int.le_refl _⟩ (by decide)
                    have k314 : 1 ≤ v313.toInt ∧ v313.toInt ≤ 4 := add_r bv313 k80 ⟨Int.le_refl _, Int.le_refl _⟩ (by decide)
                    refine lv_iinc (v := v313) (lv' := [(5, .int v313), (1, .int r309), (4, .int 1), (3, .int u4), (2, .int u5), (0, .ref h0)]) hx hb dX10_starts_197 hl (k := 2) rfl (by rw [ev313]; rfl) (by decide) rfl (fun ls hl => ?_)
                    refine lv_goto (tgt := 57) hx hb dX10_starts_200 (by decide) ?_
                    have n315 : F301 29 = .int v219 := (SAME.at t303 (by decide) (get_eq eF221))
                    have n316 : F221 30 = .int u51 := (get_ne eF221 (by decide) i58)
                    have n317 : F301 30 = .int u51 := (SAME.at t303 (by decide) n316)
                    exact ih_57 (v313, 1, r309, g216, F301, v219, u51, y302) ⟨(ir_wk k314 (by decide) (by decide)), (show 0 ≤ (1 : Int32).toInt ∧ (1 : Int32).toInt ≤ 1 by decide), t310, (SAME.tr (SAME.up eF221 (SAME.tr SAME.rf i56 (by decide)) (by decide)) t303 (by decide)), n315, n317, t304, k220, i61⟩ (by show (4 - v313.toInt).toNat < (4 - u45.toInt).toNat; omega) _ _ _ (hP.sub [0, 1, 3, 2] rfl) (hD.sub [0, 1, 3, 2] (by decide) rfl) hS (lv_sub hl [0, 2, 1, 3, 4, 5] rfl)
                  · have dc306 : r300.toInt = 0 := eq_i (a := r300.toInt) (b := 0) rfl rfl c306
                    have k318 : 0 ≤ r300.toInt ∧ r300.toInt ≤ 0 := ⟨Int.le_trans (Int.le_refl _) (Int.le_of_eq dc306.symm), Int.le_trans (Int.le_of_eq dc306) (Int.le_refl _)⟩
                    refine lv_bipush (v := 10) hx hb dX10_starts_186 (by decide) ?_
                    refine lv_goto (tgt := 192) hx hb dX10_starts_188 (by decide) ?_
                    refine lv_isub hx hb dX10_starts_192 ?_
                    refine lv_topi (fun v319 ev319 => ?_)
                    have bv319 : v319.toInt = v278.toInt - 10 := by rw [ev319]; exact sub_k rfl rfl k279 ⟨Int.le_refl _, Int.le_refl _⟩ (by decide)
                    have k320 : (-6) ≤ v319.toInt ∧ v319.toInt ≤ 234 := sub_r bv319 k279 ⟨Int.le_refl _, Int.le_refl _⟩ (by decide)
                    refine call_Si (wr := [(h_paceAt, .inl (cI, 40, .inl w12)), (h_kindOf, .inl (cI, 4, .inl g216)), (h_s, .inl (cI, 335, .inl f_s)), (h0, .inr (10, vL 67 F301))]) (As := [.int v319]) (rest := []) hx hb hml hown hw (m_X10_bounded l D cI cJ cB cP cM cZ v319 _ ) wS_X10_311_X10_bounded dX10_starts_193 hP hD hS hA [] [0, 1, 2, 3] rfl rfl (by decide) (by decide) (by decide) GG.fb hG.at hl.1 rfl (Nat.le_of_ble_eq_true rfl) ⟨(Nat.le_of_ble_eq_true rfl), (Nat.le_of_ble_eq_true rfl)⟩ ⟨(Nat.le_of_ble_eq_true rfl), (Nat.le_of_ble_eq_true rfl)⟩ (fun r321 u H locs hp hP hD hS => ?_)
                    obtain ⟨t322, t323, rfl⟩ := hp
                    have hP : va_P D vwCl [(h_paceAt, .inl (cI, 40, .inl w12)), (h_kindOf, .inl (cI, 4, .inl g216)), (h_s, .inl (cI, 335, .inl f_s)), (h0, .inr (10, vL 67 F301))] H := hP
                    have hD : va_D A [(h_paceAt, .inl (cI, 40, .inl w12)), (h_kindOf, .inl (cI, 4, .inl g216)), (h_s, .inl (cI, 335, .inl f_s)), (h0, .inr (10, vL 67 F301))] := hD
                    refine W.widen (k := 0) (n := 0) (Nat.le_of_ble_eq_true rfl) (Nat.le_of_ble_eq_true rfl) ?_
                    refine lv_istore_n (lv' := [(1, .int r321), (4, .int 1), (5, .int u45), (3, .int u4), (2, .int u5), (0, .ref h0)]) hx hb dX10_starts_196 rfl hl (by decide) rfl (fun ls hl => ?_)
                    obtain ⟨v325, ev325⟩ : ∃ z : Int32, z = u45 + 1 := ⟨_, rfl⟩
                    have bv325 : v325.toInt = u45.toInt + 1 := by rw [ev325]; exact add_k rfl rfl k80 ⟨Int.le_refl _, Int.le_refl _⟩ (by decide)
                    have k326 : 1 ≤ v325.toInt ∧ v325.toInt ≤ 4 := add_r bv325 k80 ⟨Int.le_refl _, Int.le_refl _⟩ (by decide)
                    refine lv_iinc (v := v325) (lv' := [(5, .int v325), (1, .int r321), (4, .int 1), (3, .int u4), (2, .int u5), (0, .ref h0)]) hx hb dX10_starts_197 hl (k := 2) rfl (by rw [ev325]; rfl) (by decide) rfl (fun ls hl => ?_)
                    refine lv_goto (tgt := 57) hx hb dX10_starts_200 (by decide) ?_
                    have n327 : F301 29 = .int v219 := (SAME.at t303 (by decide) (get_eq eF221))
                    have n328 : F221 30 = .int u51 := (get_ne eF221 (by decide) i58)
                    have n329 : F301 30 = .int u51 := (SAME.at t303 (by decide) n328)
                    exact ih_57 (v325, 1, r321, g216, F301, v219, u51, y302) ⟨(ir_wk k326 (by decide) (by decide)), (show 0 ≤ (1 : Int32).toInt ∧ (1 : Int32).toInt ≤ 1 by decide), t322, (SAME.tr (SAME.up eF221 (SAME.tr SAME.rf i56 (by decide)) (by decide)) t303 (by decide)), n327, n329, t304, k220, i61⟩ (by show (4 - v325.toInt).toNat < (4 - u45.toInt).toNat; omega) _ _ _ (hP.sub [0, 1, 3, 2] rfl) (hD.sub [0, 1, 3, 2] (by decide) rfl) hS (lv_sub hl [0, 2, 1, 3, 4, 5] rfl)
            · have dc214 : u5.toInt ≠ 0 := ne_i (a := u5.toInt) (b := 0) rfl rfl c214
              have k330 : 1 ≤ u5.toInt ∧ u5.toInt ≤ 1 := ⟨ne_lo dc214 i21.1 ⟨Int.le_refl _, Int.le_refl _⟩ (by decide), i21.2⟩
              refine lv_iconst (v := 1) hx hb dX10_starts_129 (by decide) ?_
              refine lv_goto (tgt := 134) hx hb dX10_starts_130 (by decide) ?_
              obtain ⟨g331, eg331⟩ : ∃ z : Nat → Int32, upd w48 u45.toNatClampNeg 1 = z := ⟨_, rfl⟩
              refine iast_g hx hb hK hP hD hS 1 0 rfl rfl (ix_k k80 (by decide) (by decide)) eg331 dX10_starts_134 (fun H locs hP hD hS => ?_)
              have hP : va_P D vwCl [(h_paceAt, .inl (cI, 40, .inl w12)), (h_kindOf, .inl (cI, 4, .inl g331)), (h0, .inr (10, vL 67 G49)), (h_s, .inl (cI, 335, .inl f_s))] H := hP
              have hD : va_D A [(h_paceAt, .inl (cI, 40, .inl w12)), (h_kindOf, .inl (cI, 4, .inl g331)), (h0, .inr (10, vL 67 G49)), (h_s, .inl (cI, 335, .inl f_s))] := hD
              refine lv_aload_n hx hb dX10_starts_135 rfl (lv_at hl 5 rfl) ?_
              refine lv_dup hx hb dX10_starts_136 rfl ?_
              refine get_f (D := D) (ci := 10) (v := .int u50) (C := RX10) (T := TX10) (N := 67) hx hb hw inAX10 hown hK hP 2 rfl rfl 29 (by decide) (hw _ q_1290) (fun _ h9 => h9) i57 dX10_starts_137 ?_
              refine lv_iconst (v := 1) hx hb dX10_starts_140 (by decide) ?_
              refine lv_iload hx hb dX10_starts_141 (lv_at hl 0 rfl) ?_
              refine lv_ishl hx hb dX10_starts_143 ?_
              refine lv_topi (fun v332 ev332 => ?_)
              have k333 : 1 ≤ v332.toInt ∧ v332.toInt ≤ 8 := by rw [ev332]; exact shl1_i (Int.le_trans (by decide) k80.1) (Int.le_trans k80.2 (by decide))
              refine lv_ior hx hb dX10_starts_144 ?_
              refine lv_topi (fun v334 ev334 => ?_)
              have k335 : 0 ≤ v334.toInt ∧ v334.toInt ≤ 15 := by rw [ev334]; exact or_ik (ir_wk i60 (by decide) (by decide)) (ir_wk k333 (by decide) (by decide))
              refine put_f (D := D) (ci := 10) (v := .int v334) (ty := .int) (C := RX10) (T := TX10) (N := 67) hx hb hw inAX10 tyX10 tyX10_ok nmX10 hown hK hP hD hS 2 rfl rfl 29 (by decide) (hw _ q_1290) (fun _ h9 => h9) rfl (by decide +kernel) rfl rfl dX10_starts_145 (fun H locs F336 eF336 hP hD hS => ?_)
              have hP : va_P D vwCl [(h_paceAt, .inl (cI, 40, .inl w12)), (h_kindOf, .inl (cI, 4, .inl g331)), (h0, .inr (10, vL 67 F336)), (h_s, .inl (cI, 335, .inl f_s))] H := hP
              have hD : va_D A [(h_paceAt, .inl (cI, 40, .inl w12)), (h_kindOf, .inl (cI, 4, .inl g331)), (h0, .inr (10, vL 67 F336)), (h_s, .inl (cI, 335, .inl f_s))] := hD
              refine lv_iconst (v := 1) hx hb dX10_starts_148 (by decide) ?_
              refine lv_istore (lv' := [(4, .int 1), (5, .int u45), (1, .int u47), (3, .int u4), (2, .int u5), (0, .ref h0)]) hx hb dX10_starts_149 hl (by decide) rfl (fun ls hl => ?_)
              refine lv_iload_n hx hb dX10_starts_151 rfl (lv_at hl 2 rfl) ?_
              refine lv_aload_n hx hb dX10_starts_152 rfl (lv_at hl 5 rfl) ?_
              have n337 : F336 26 = .ref h_kindOf := (get_ne eF336 (by decide) n96)
              refine get_f (D := D) (ci := 10) (v := .ref h_kindOf) (C := RX10) (T := TX10) (N := 67) hx hb hw inAX10 hown hK hP 2 rfl rfl 26 (by decide) (hw _ q_1287) (fun _ h9 => h9) n337 dX10_starts_153 ?_
              refine lv_iload hx hb dX10_starts_156 (lv_at hl 1 rfl) ?_
              refine va_iald hx hb hK hP 1 0 rfl rfl (ix_k k80 (by decide) (by decide)) dX10_starts_158 ?_
              refine lv_topi (fun v338 ev338 => ?_)
              refine lv_iconst (v := 1) hx hb dX10_starts_159 (by decide) ?_
              refine lv_icmp_ne (tgt := 168) hx hb dX10_starts_160 (by decide) (fun c339 => ?_) (fun c339 => ?_)
              · have dc339 : v338.toInt ≠ 1 := ne_i (a := v338.toInt) (b := 1) rfl rfl c339
                refine lv_iconst (v := 2) hx hb dX10_starts_168 (by decide) ?_
                refine lv_isub hx hb dX10_starts_169 ?_
                refine lv_topi (fun v340 ev340 => ?_)
                have bv340 : v340.toInt = u47.toInt - 2 := by rw [ev340]; exact sub_k rfl rfl i55 ⟨Int.le_refl _, Int.le_refl _⟩ (by decide)
                have k341 : 8 ≤ v340.toInt ∧ v340.toInt ≤ 248 := sub_r bv340 i55 ⟨Int.le_refl _, Int.le_refl _⟩ (by decide)
                refine lv_aload_n hx hb dX10_starts_170 rfl (lv_at hl 5 rfl) ?_
                have n342 : F1 32 = .int x_kicks := (get_ne eF1 (by decide) e_kicks)
                have n343 : F2 32 = .int x_kicks := (get_ne eF2 (by decide) n342)
                have n344 : F3 32 = .int x_kicks := (get_ne eF3 (by decide) n343)
                have n345 : G7 32 = .int x_kicks := (SAME.at i23 (by decide) n344)
                have n346 : G49 32 = .int x_kicks := (SAME.at i56 (by decide) n345)
                have n347 : F336 32 = .int x_kicks := (get_ne eF336 (by decide) n346)
                refine get_f (D := D) (ci := 10) (v := .int x_kicks) (C := RX10) (T := TX10) (N := 67) hx hb hw inAX10 hown hK hP 2 rfl rfl 32 (by decide) (hw _ q_1293) (fun _ h9 => h9) n347 dX10_starts_171 ?_
                refine lv_if_eq (tgt := 191) hx hb dX10_starts_174 (by decide) (fun c348 => ?_) (fun c348 => ?_)
                · have dc348 : x_kicks.toInt = 0 := eq_i (a := x_kicks.toInt) (b := 0) rfl rfl c348
                  have k349 : 0 ≤ x_kicks.toInt ∧ x_kicks.toInt ≤ 0 := ⟨i_x_kicks.1, Int.le_trans (Int.le_of_eq dc348) (Int.le_refl _)⟩
                  refine lv_iconst (v := 0) hx hb dX10_starts_191 (by decide) ?_
                  refine lv_isub hx hb dX10_starts_192 ?_
                  refine lv_topi (fun v350 ev350 => ?_)
                  have bv350 : v350.toInt = v340.toInt - 0 := by rw [ev350]; exact sub_k rfl rfl k341 ⟨Int.le_refl _, Int.le_refl _⟩ (by decide)
                  have k351 : 8 ≤ v350.toInt ∧ v350.toInt ≤ 248 := sub_r bv350 k341 ⟨Int.le_refl _, Int.le_refl _⟩ (by decide)
                  refine call_Si (wr := [(h_paceAt, .inl (cI, 40, .inl w12)), (h_kindOf, .inl (cI, 4, .inl g331)), (h0, .inr (10, vL 67 F336)), (h_s, .inl (cI, 335, .inl f_s))]) (As := [.int v350]) (rest := []) hx hb hml hown hw (m_X10_bounded l D cI cJ cB cP cM cZ v350 _ ) wS_X10_311_X10_bounded dX10_starts_193 hP hD hS hA [] [0, 1, 2, 3] rfl rfl (by decide) (by decide) (by decide) GG.fb hG.at hl.1 rfl (Nat.le_of_ble_eq_true rfl) ⟨(Nat.le_of_ble_eq_true rfl), (Nat.le_of_ble_eq_true rfl)⟩ ⟨(Nat.le_of_ble_eq_true rfl), (Nat.le_of_ble_eq_true rfl)⟩ (fun r352 u H locs hp hP hD hS => ?_)
                  obtain ⟨t353, t354, rfl⟩ := hp
                  have hP : va_P D vwCl [(h_paceAt, .inl (cI, 40, .inl w12)), (h_kindOf, .inl (cI, 4, .inl g331)), (h0, .inr (10, vL 67 F336)), (h_s, .inl (cI, 335, .inl f_s))] H := hP
                  have hD : va_D A [(h_paceAt, .inl (cI, 40, .inl w12)), (h_kindOf, .inl (cI, 4, .inl g331)), (h0, .inr (10, vL 67 F336)), (h_s, .inl (cI, 335, .inl f_s))] := hD
                  refine W.widen (k := 0) (n := 0) (Nat.le_of_ble_eq_true rfl) (Nat.le_of_ble_eq_true rfl) ?_
                  refine lv_istore_n (lv' := [(1, .int r352), (4, .int 1), (5, .int u45), (3, .int u4), (2, .int u5), (0, .ref h0)]) hx hb dX10_starts_196 rfl hl (by decide) rfl (fun ls hl => ?_)
                  obtain ⟨v356, ev356⟩ : ∃ z : Int32, z = u45 + 1 := ⟨_, rfl⟩
                  have bv356 : v356.toInt = u45.toInt + 1 := by rw [ev356]; exact add_k rfl rfl k80 ⟨Int.le_refl _, Int.le_refl _⟩ (by decide)
                  have k357 : 1 ≤ v356.toInt ∧ v356.toInt ≤ 4 := add_r bv356 k80 ⟨Int.le_refl _, Int.le_refl _⟩ (by decide)
                  refine lv_iinc (v := v356) (lv' := [(5, .int v356), (1, .int r352), (4, .int 1), (3, .int u4), (2, .int u5), (0, .ref h0)]) hx hb dX10_starts_197 hl (k := 2) rfl (by rw [ev356]; rfl) (by decide) rfl (fun ls hl => ?_)
                  refine lv_goto (tgt := 57) hx hb dX10_starts_200 (by decide) ?_
                  have n358 : F336 30 = .int u51 := (get_ne eF336 (by decide) i58)
                  have n359 : F336 31 = .int u52 := (get_ne eF336 (by decide) i59)
                  exact ih_57 (v356, 1, r352, g331, F336, v334, u51, u52) ⟨(ir_wk k357 (by decide) (by decide)), (show 0 ≤ (1 : Int32).toInt ∧ (1 : Int32).toInt ≤ 1 by decide), t353, (SAME.up eF336 (SAME.tr SAME.rf i56 (by decide)) (by decide)), (get_eq eF336), n358, n359, k335, i61⟩ (by show (4 - v356.toInt).toNat < (4 - u45.toInt).toNat; omega) _ _ _ hP hD hS (lv_sub hl [0, 2, 1, 3, 4, 5] rfl)
                · have dc348 : x_kicks.toInt ≠ 0 := ne_i (a := x_kicks.toInt) (b := 0) rfl rfl c348
                  have k360 : 1 ≤ x_kicks.toInt ∧ x_kicks.toInt ≤ 1 := ⟨ne_lo dc348 i_x_kicks.1 ⟨Int.le_refl _, Int.le_refl _⟩ (by decide), i_x_kicks.2⟩
                  refine lv_aload_n hx hb dX10_starts_177 rfl (lv_at hl 5 rfl) ?_
                  refine lv_bipush (v := 8) hx hb dX10_starts_178 (by decide) ?_
                  have n361 : F336 31 = .int u52 := (get_ne eF336 (by decide) i59)
                  refine call_Vi (wr := [(h_paceAt, .inl (cI, 40, .inl w12)), (h_kindOf, .inl (cI, 4, .inl g331)), (h_s, .inl (cI, 335, .inl f_s))]) (As := [.int 8]) (rest := [.int v340]) hx hb hml hown hw (m_X10_draw l D cI cJ cB cP cM cZ h0 F336 u52 8 _ n361 (show 8 ≤ (8 : Int32).toInt ∧ (8 : Int32).toInt ≤ 8 by decide)) wV_X10_334_X10_draw dX10_starts_180 hK hP hD hS hA [2] [0, 1, 3] rfl rfl (by decide) (by decide) (by decide) 0 10 rfl rfl GG.fb hG.at hl.1 rfl (Nat.le_of_ble_eq_true rfl) ⟨(Nat.le_of_ble_eq_true rfl), (Nat.le_of_ble_eq_true rfl)⟩ ⟨(Nat.le_of_ble_eq_true rfl), (Nat.le_of_ble_eq_true rfl)⟩ (fun r362 u H locs hp hP hD hS => ?_)
                  have zl8 : (8 : Int32).toInt = 8 := by decide
                  obtain ⟨F363, y364, t365, t366, rfl⟩ := hp
                  have hP : va_P D vwCl [(h_paceAt, .inl (cI, 40, .inl w12)), (h_kindOf, .inl (cI, 4, .inl g331)), (h_s, .inl (cI, 335, .inl f_s)), (h0, .inr (10, vL 67 F363))] H := hP
                  have hD : va_D A [(h_paceAt, .inl (cI, 40, .inl w12)), (h_kindOf, .inl (cI, 4, .inl g331)), (h_s, .inl (cI, 335, .inl f_s)), (h0, .inr (10, vL 67 F363))] := hD
                  refine W.widen (k := 0) (n := 0) (Nat.le_of_ble_eq_true rfl) (Nat.le_of_ble_eq_true rfl) ?_
                  refine lv_if_ne (tgt := 191) hx hb dX10_starts_183 (by decide) (fun c368 => ?_) (fun c368 => ?_)
                  · have dc368 : r362.toInt ≠ 0 := ne_i (a := r362.toInt) (b := 0) rfl rfl c368
                    refine lv_iconst (v := 0) hx hb dX10_starts_191 (by decide) ?_
                    refine lv_isub hx hb dX10_starts_192 ?_
                    refine lv_topi (fun v369 ev369 => ?_)
                    have bv369 : v369.toInt = v340.toInt - 0 := by rw [ev369]; exact sub_k rfl rfl k341 ⟨Int.le_refl _, Int.le_refl _⟩ (by decide)
                    have k370 : 8 ≤ v369.toInt ∧ v369.toInt ≤ 248 := sub_r bv369 k341 ⟨Int.le_refl _, Int.le_refl _⟩ (by decide)
                    refine call_Si (wr := [(h_paceAt, .inl (cI, 40, .inl w12)), (h_kindOf, .inl (cI, 4, .inl g331)), (h_s, .inl (cI, 335, .inl f_s)), (h0, .inr (10, vL 67 F363))]) (As := [.int v369]) (rest := []) hx hb hml hown hw (m_X10_bounded l D cI cJ cB cP cM cZ v369 _ ) wS_X10_311_X10_bounded dX10_starts_193 hP hD hS hA [] [0, 1, 2, 3] rfl rfl (by decide) (by decide) (by decide) GG.fb hG.at hl.1 rfl (Nat.le_of_ble_eq_true rfl) ⟨(Nat.le_of_ble_eq_true rfl), (Nat.le_of_ble_eq_true rfl)⟩ ⟨(Nat.le_of_ble_eq_true rfl), (Nat.le_of_ble_eq_true rfl)⟩ (fun r371 u H locs hp hP hD hS => ?_)
                    obtain ⟨t372, t373, rfl⟩ := hp
                    have hP : va_P D vwCl [(h_paceAt, .inl (cI, 40, .inl w12)), (h_kindOf, .inl (cI, 4, .inl g331)), (h_s, .inl (cI, 335, .inl f_s)), (h0, .inr (10, vL 67 F363))] H := hP
                    have hD : va_D A [(h_paceAt, .inl (cI, 40, .inl w12)), (h_kindOf, .inl (cI, 4, .inl g331)), (h_s, .inl (cI, 335, .inl f_s)), (h0, .inr (10, vL 67 F363))] := hD
                    refine W.widen (k := 0) (n := 0) (Nat.le_of_ble_eq_true rfl) (Nat.le_of_ble_eq_true rfl) ?_
                    refine lv_istore_n (lv' := [(1, .int r371), (4, .int 1), (5, .int u45), (3, .int u4), (2, .int u5), (0, .ref h0)]) hx hb dX10_starts_196 rfl hl (by decide) rfl (fun ls hl => ?_)
                    obtain ⟨v375, ev375⟩ : ∃ z : Int32, z = u45 + 1 := ⟨_, rfl⟩
                    have bv375 : v375.toInt = u45.toInt + 1 := by rw [ev375]; exact add_k rfl rfl k80 ⟨Int.le_refl _, Int.le_refl _⟩ (by decide)
                    have k376 : 1 ≤ v375.toInt ∧ v375.toInt ≤ 4 := add_r bv375 k80 ⟨Int.le_refl _, Int.le_refl _⟩ (by decide)
                    refine lv_iinc (v := v375) (lv' := [(5, .int v375), (1, .int r371), (4, .int 1), (3, .int u4), (2, .int u5), (0, .ref h0)]) hx hb dX10_starts_197 hl (k := 2) rfl (by rw [ev375]; rfl) (by decide) rfl (fun ls hl => ?_)
                    refine lv_goto (tgt := 57) hx hb dX10_starts_200 (by decide) ?_
                    have n377 : F363 29 = .int v334 := (SAME.at t365 (by decide) (get_eq eF336))
                    have n378 : F336 30 = .int u51 := (get_ne eF336 (by decide) i58)
                    have n379 : F363 30 = .int u51 := (SAME.at t365 (by decide) n378)
                    exact ih_57 (v375, 1, r371, g331, F363, v334, u51, y364) ⟨(ir_wk k376 (by decide) (by decide)), (show 0 ≤ (1 : Int32).toInt ∧ (1 : Int32).toInt ≤ 1 by decide), t372, (SAME.tr (SAME.up eF336 (SAME.tr SAME.rf i56 (by decide)) (by decide)) t365 (by decide)), n377, n379, t366, k335, i61⟩ (by show (4 - v375.toInt).toNat < (4 - u45.toInt).toNat; omega) _ _ _ (hP.sub [0, 1, 3, 2] rfl) (hD.sub [0, 1, 3, 2] (by decide) rfl) hS (lv_sub hl [0, 2, 1, 3, 4, 5] rfl)
                  · have dc368 : r362.toInt = 0 := eq_i (a := r362.toInt) (b := 0) rfl rfl c368
                    have k380 : 0 ≤ r362.toInt ∧ r362.toInt ≤ 0 := ⟨Int.le_trans (Int.le_refl _) (Int.le_of_eq dc368.symm), Int.le_trans (Int.le_of_eq dc368) (Int.le_refl _)⟩
                    refine lv_bipush (v := 10) hx hb dX10_starts_186 (by decide) ?_
                    refine lv_goto (tgt := 192) hx hb dX10_starts_188 (by decide) ?_
                    refine lv_isub hx hb dX10_starts_192 ?_
                    refine lv_topi (fun v381 ev381 => ?_)
                    have bv381 : v381.toInt = v340.toInt - 10 := by rw [ev381]; exact sub_k rfl rfl k341 ⟨Int.le_refl _, Int.le_refl _⟩ (by decide)
                    have k382 : (-2) ≤ v381.toInt ∧ v381.toInt ≤ 238 := sub_r bv381 k341 ⟨Int.le_refl _, Int.le_refl _⟩ (by decide)
                    refine call_Si (wr := [(h_paceAt, .inl (cI, 40, .inl w12)), (h_kindOf, .inl (cI, 4, .inl g331)), (h_s, .inl (cI, 335, .inl f_s)), (h0, .inr (10, vL 67 F363))]) (As := [.int v381]) (rest := []) hx hb hml hown hw (m_X10_bounded l D cI cJ cB cP cM cZ v381 _ ) wS_X10_311_X10_bounded dX10_starts_193 hP hD hS hA [] [0, 1, 2, 3] rfl rfl (by decide) (by decide) (by decide) GG.fb hG.at hl.1 rfl (Nat.le_of_ble_eq_true rfl) ⟨(Nat.le_of_ble_eq_true rfl), (Nat.le_of_ble_eq_true rfl)⟩ ⟨(Nat.le_of_ble_eq_true rfl), (Nat.le_of_ble_eq_true rfl)⟩ (fun r383 u H locs hp hP hD hS => ?_)
                    obtain ⟨t384, t385, rfl⟩ := hp
                    have hP : va_P D vwCl [(h_paceAt, .inl (cI, 40, .inl w12)), (h_kindOf, .inl (cI, 4, .inl g331)), (h_s, .inl (cI, 335, .inl f_s)), (h0, .inr (10, vL 67 F363))] H := hP
                    have hD : va_D A [(h_paceAt, .inl (cI, 40, .inl w12)), (h_kindOf, .inl (cI, 4, .inl g331)), (h_s, .inl (cI, 335, .inl f_s)), (h0, .inr (10, vL 67 F363))] := hD
                    refine W.widen (k := 0) (n := 0) (Nat.le_of_ble_eq_true rfl) (Nat.le_of_ble_eq_true rfl) ?_
                    refine lv_istore_n (lv' := [(1, .int r383), (4, .int 1), (5, .int u45), (3, .int u4), (2, .int u5), (0, .ref h0)]) hx hb dX10_starts_196 rfl hl (by decide) rfl (fun ls hl => ?_)
                    obtain ⟨v387, ev387⟩ : ∃ z : Int32, z = u45 + 1 := ⟨_, rfl⟩
                    have bv387 : v387.toInt = u45.toInt + 1 := by rw [ev387]; exact add_k rfl rfl k80 ⟨Int.le_refl _, Int.le_refl _⟩ (by decide)
                    have k388 : 1 ≤ v387.toInt ∧ v387.toInt ≤ 4 := add_r bv387 k80 ⟨Int.le_refl _, Int.le_refl _⟩ (by decide)
                    refine lv_iinc (v := v387) (lv' := [(5, .int v387), (1, .int r383), (4, .int 1), (3, .int u4), (2, .int u5), (0, .ref h0)]) hx hb dX10_starts_197 hl (k := 2) rfl (by rw [ev387]; rfl) (by decide) rfl (fun ls hl => ?_)
                    refine lv_goto (tgt := 57) hx hb dX10_starts_200 (by decide) ?_
                    have n389 : F363 29 = .int v334 := (SAME.at t365 (by decide) (get_eq eF336))
                    have n390 : F336 30 = .int u51 := (get_ne eF336 (by decide) i58)
                    have n391 : F363 30 = .int u51 := (SAME.at t365 (by decide) n390)
                    exact ih_57 (v387, 1, r383, g331, F363, v334, u51, y364) ⟨(ir_wk k388 (by decide) (by decide)), (show 0 ≤ (1 : Int32).toInt ∧ (1 : Int32).toInt ≤ 1 by decide), t384, (SAME.tr (SAME.up eF336 (SAME.tr SAME.rf i56 (by decide)) (by decide)) t365 (by decide)), n389, n391, t366, k335, i61⟩ (by show (4 - v387.toInt).toNat < (4 - u45.toInt).toNat; omega) _ _ _ (hP.sub [0, 1, 3, 2] rfl) (hD.sub [0, 1, 3, 2] (by decide) rfl) hS (lv_sub hl [0, 2, 1, 3, 4, 5] rfl)
              · have dc339 : v338.toInt = 1 := eq_i (a := v338.toInt) (b := 1) rfl rfl c339
                have k392 : 1 ≤ v338.toInt ∧ v338.toInt ≤ 1 := ⟨Int.le_trans (Int.le_refl _) (Int.le_of_eq dc339.symm), Int.le_trans (Int.le_of_eq dc339) (Int.le_refl _)⟩
                refine lv_bipush (v := 6) hx hb dX10_starts_163 (by decide) ?_
                refine lv_goto (tgt := 169) hx hb dX10_starts_165 (by decide) ?_
                refine lv_isub hx hb dX10_starts_169 ?_
                refine lv_topi (fun v393 ev393 => ?_)
                have bv393 : v393.toInt = u47.toInt - 6 := by rw [ev393]; exact sub_k rfl rfl i55 ⟨Int.le_refl _, Int.le_refl _⟩ (by decide)
                have k394 : 4 ≤ v393.toInt ∧ v393.toInt ≤ 244 := sub_r bv393 i55 ⟨Int.le_refl _, Int.le_refl _⟩ (by decide)
                refine lv_aload_n hx hb dX10_starts_170 rfl (lv_at hl 5 rfl) ?_
                have n395 : F1 32 = .int x_kicks := (get_ne eF1 (by decide) e_kicks)
                have n396 : F2 32 = .int x_kicks := (get_ne eF2 (by decide) n395)
                have n397 : F3 32 = .int x_kicks := (get_ne eF3 (by decide) n396)
                have n398 : G7 32 = .int x_kicks := (SAME.at i23 (by decide) n397)
                have n399 : G49 32 = .int x_kicks := (SAME.at i56 (by decide) n398)
                have n400 : F336 32 = .int x_kicks := (get_ne eF336 (by decide) n399)
                refine get_f (D := D) (ci := 10) (v := .int x_kicks) (C := RX10) (T := TX10) (N := 67) hx hb hw inAX10 hown hK hP 2 rfl rfl 32 (by decide) (hw _ q_1293) (fun _ h9 => h9) n400 dX10_starts_171 ?_
                refine lv_if_eq (tgt := 191) hx hb dX10_starts_174 (by decide) (fun c401 => ?_) (fun c401 => ?_)
                · have dc401 : x_kicks.toInt = 0 := eq_i (a := x_kicks.toInt) (b := 0) rfl rfl c401
                  have k402 : 0 ≤ x_kicks.toInt ∧ x_kicks.toInt ≤ 0 := ⟨i_x_kicks.1, Int.le_trans (Int.le_of_eq dc401) (Int.le_refl _)⟩
                  refine lv_iconst (v := 0) hx hb dX10_starts_191 (by decide) ?_
                  refine lv_isub hx hb dX10_starts_192 ?_
                  refine lv_topi (fun v403 ev403 => ?_)
                  have bv403 : v403.toInt = v393.toInt - 0 := by rw [ev403]; exact sub_k rfl rfl k394 ⟨Int.le_refl _, Int.le_refl _⟩ (by decide)
                  have k404 : 4 ≤ v403.toInt ∧ v403.toInt ≤ 244 := sub_r bv403 k394 ⟨Int.le_refl _, Int.le_refl _⟩ (by decide)
                  refine call_Si (wr := [(h_paceAt, .inl (cI, 40, .inl w12)), (h_kindOf, .inl (cI, 4, .inl g331)), (h0, .inr (10, vL 67 F336)), (h_s, .inl (cI, 335, .inl f_s))]) (As := [.int v403]) (rest := []) hx hb hml hown hw (m_X10_bounded l D cI cJ cB cP cM cZ v403 _ ) wS_X10_311_X10_bounded dX10_starts_193 hP hD hS hA [] [0, 1, 2, 3] rfl rfl (by decide) (by decide) (by decide) GG.fb hG.at hl.1 rfl (Nat.le_of_ble_eq_true rfl) ⟨(Nat.le_of_ble_eq_true rfl), (Nat.le_of_ble_eq_true rfl)⟩ ⟨(Nat.le_of_ble_eq_true rfl), (Nat.le_of_ble_eq_true rfl)⟩ (fun r405 u H locs hp hP hD hS => ?_)
                  obtain ⟨t406, t407, rfl⟩ := hp
                  have hP : va_P D vwCl [(h_paceAt, .inl (cI, 40, .inl w12)), (h_kindOf, .inl (cI, 4, .inl g331)), (h0, .inr (10, vL 67 F336)), (h_s, .inl (cI, 335, .inl f_s))] H := hP
                  have hD : va_D A [(h_paceAt, .inl (cI, 40, .inl w12)), (h_kindOf, .inl (cI, 4, .inl g331)), (h0, .inr (10, vL 67 F336)), (h_s, .inl (cI, 335, .inl f_s))] := hD
                  refine W.widen (k := 0) (n := 0) (Nat.le_of_ble_eq_true rfl) (Nat.le_of_ble_eq_true rfl) ?_
                  refine lv_istore_n (lv' := [(1, .int r405), (4, .int 1), (5, .int u45), (3, .int u4), (2, .int u5), (0, .ref h0)]) hx hb dX10_starts_196 rfl hl (by decide) rfl (fun ls hl => ?_)
                  obtain ⟨v409, ev409⟩ : ∃ z : Int32, z = u45 + 1 := ⟨_, rfl⟩
                  have bv409 : v409.toInt = u45.toInt + 1 := by rw [ev409]; exact add_k rfl rfl k80 ⟨Int.le_refl _, Int.le_refl _⟩ (by decide)
                  have k410 : 1 ≤ v409.toInt ∧ v409.toInt ≤ 4 := add_r bv409 k80 ⟨Int.le_refl _, Int.le_refl _⟩ (by decide)
                  refine lv_iinc (v := v409) (lv' := [(5, .int v409), (1, .int r405), (4, .int 1), (3, .int u4), (2, .int u5), (0, .ref h0)]) hx hb dX10_starts_197 hl (k := 2) rfl (by rw [ev409]; rfl) (by decide) rfl (fun ls hl => ?_)
                  refine lv_goto (tgt := 57) hx hb dX10_starts_200 (by decide) ?_
                  have n411 : F336 30 = .int u51 := (get_ne eF336 (by decide) i58)
                  have n412 : F336 31 = .int u52 := (get_ne eF336 (by decide) i59)
                  exact ih_57 (v409, 1, r405, g331, F336, v334, u51, u52) ⟨(ir_wk k410 (by decide) (by decide)), (show 0 ≤ (1 : Int32).toInt ∧ (1 : Int32).toInt ≤ 1 by decide), t406, (SAME.up eF336 (SAME.tr SAME.rf i56 (by decide)) (by decide)), (get_eq eF336), n411, n412, k335, i61⟩ (by show (4 - v409.toInt).toNat < (4 - u45.toInt).toNat; omega) _ _ _ hP hD hS (lv_sub hl [0, 2, 1, 3, 4, 5] rfl)
                · have dc401 : x_kicks.toInt ≠ 0 := ne_i (a := x_kicks.toInt) (b := 0) rfl rfl c401
                  have k413 : 1 ≤ x_kicks.toInt ∧ x_kicks.toInt ≤ 1 := ⟨ne_lo dc401 i_x_kicks.1 ⟨Int.le_refl _, Int.le_refl _⟩ (by decide), i_x_kicks.2⟩
                  refine lv_aload_n hx hb dX10_starts_177 rfl (lv_at hl 5 rfl) ?_
                  refine lv_bipush (v := 8) hx hb dX10_starts_178 (by decide) ?_
                  have n414 : F336 31 = .int u52 := (get_ne eF336 (by decide) i59)
                  refine call_Vi (wr := [(h_paceAt, .inl (cI, 40, .inl w12)), (h_kindOf, .inl (cI, 4, .inl g331)), (h_s, .inl (cI, 335, .inl f_s))]) (As := [.int 8]) (rest := [.int v393]) hx hb hml hown hw (m_X10_draw l D cI cJ cB cP cM cZ h0 F336 u52 8 _ n414 (show 8 ≤ (8 : Int32).toInt ∧ (8 : Int32).toInt ≤ 8 by decide)) wV_X10_334_X10_draw dX10_starts_180 hK hP hD hS hA [2] [0, 1, 3] rfl rfl (by decide) (by decide) (by decide) 0 10 rfl rfl GG.fb hG.at hl.1 rfl (Nat.le_of_ble_eq_true rfl) ⟨(Nat.le_of_ble_eq_true rfl), (Nat.le_of_ble_eq_true rfl)⟩ ⟨(Nat.le_of_ble_eq_true rfl), (Nat.le_of_ble_eq_true rfl)⟩ (fun r415 u H locs hp hP hD hS => ?_)
                  have zl8 : (8 : Int32).toInt = 8 := by decide
                  obtain ⟨F416, y417, t418, t419, rfl⟩ := hp
                  have hP : va_P D vwCl [(h_paceAt, .inl (cI, 40, .inl w12)), (h_kindOf, .inl (cI, 4, .inl g331)), (h_s, .inl (cI, 335, .inl f_s)), (h0, .inr (10, vL 67 F416))] H := hP
                  have hD : va_D A [(h_paceAt, .inl (cI, 40, .inl w12)), (h_kindOf, .inl (cI, 4, .inl g331)), (h_s, .inl (cI, 335, .inl f_s)), (h0, .inr (10, vL 67 F416))] := hD
                  refine W.widen (k := 0) (n := 0) (Nat.le_of_ble_eq_true rfl) (Nat.le_of_ble_eq_true rfl) ?_
                  refine lv_if_ne (tgt := 191) hx hb dX10_starts_183 (by decide) (fun c421 => ?_) (fun c421 => ?_)
                  · have dc421 : r415.toInt ≠ 0 := ne_i (a := r415.toInt) (b := 0) rfl rfl c421
                    refine lv_iconst (v := 0) hx hb dX10_starts_191 (by decide) ?_
                    refine lv_isub hx hb dX10_starts_192 ?_
                    refine lv_topi (fun v422 ev422 => ?_)
                    have bv422 : v422.toInt = v393.toInt - 0 := by rw [ev422]; exact sub_k rfl rfl k394 ⟨Int.le_refl _, Int.le_refl _⟩ (by decide)
                    have k423 : 4 ≤ v422.toInt ∧ v422.toInt ≤ 244 := sub_r bv422 k394 ⟨Int.le_refl _, Int.le_refl _⟩ (by decide)
                    refine call_Si (wr := [(h_paceAt, .inl (cI, 40, .inl w12)), (h_kindOf, .inl (cI, 4, .inl g331)), (h_s, .inl (cI, 335, .inl f_s)), (h0, .inr (10, vL 67 F416))]) (As := [.int v422]) (rest := []) hx hb hml hown hw (m_X10_bounded l D cI cJ cB cP cM cZ v422 _ ) wS_X10_311_X10_bounded dX10_starts_193 hP hD hS hA [] [0, 1, 2, 3] rfl rfl (by decide) (by decide) (by decide) GG.fb hG.at hl.1 rfl (Nat.le_of_ble_eq_true rfl) ⟨(Nat.le_of_ble_eq_true rfl), (Nat.le_of_ble_eq_true rfl)⟩ ⟨(Nat.le_of_ble_eq_true rfl), (Nat.le_of_ble_eq_true rfl)⟩ (fun r424 u H locs hp hP hD hS => ?_)
                    obtain ⟨t425, t426, rfl⟩ := hp
                    have hP : va_P D vwCl [(h_paceAt, .inl (cI, 40, .inl w12)), (h_kindOf, .inl (cI, 4, .inl g331)), (h_s, .inl (cI, 335, .inl f_s)), (h0, .inr (10, vL 67 F416))] H := hP
                    have hD : va_D A [(h_paceAt, .inl (cI, 40, .inl w12)), (h_kindOf, .inl (cI, 4, .inl g331)), (h_s, .inl (cI, 335, .inl f_s)), (h0, .inr (10, vL 67 F416))] := hD
                    refine W.widen (k := 0) (n := 0) (Nat.le_of_ble_eq_true rfl) (Nat.le_of_ble_eq_true rfl) ?_
                    refine lv_istore_n (lv' := [(1, .int r424), (4, .int 1), (5, .int u45), (3, .int u4), (2, .int u5), (0, .ref h0)]) hx hb dX10_starts_196 rfl hl (by decide) rfl (fun ls hl => ?_)
                    obtain ⟨v428, ev428⟩ : ∃ z : Int32, z = u45 + 1 := ⟨_, rfl⟩
                    have bv428 : v428.toInt = u45.toInt + 1 := by rw [ev428]; exact add_k rfl rfl k80 ⟨Int.le_refl _, Int.le_refl _⟩ (by decide)
                    have k429 : 1 ≤ v428.toInt ∧ v428.toInt ≤ 4 := add_r bv428 k80 ⟨Int.le_refl _, Int.le_refl _⟩ (by decide)
                    refine lv_iinc (v := v428) (lv' := [(5, .int v428), (1, .int r424), (4, .int 1), (3, .int u4), (2, .int u5), (0, .ref h0)]) hx hb dX10_starts_197 hl (k := 2) rfl (by rw [ev428]; rfl) (by decide) rfl (fun ls hl => ?_)
                    refine lv_goto (tgt := 57) hx hb dX10_starts_200 (by decide) ?_
                    have n430 : F416 29 = .int v334 := (SAME.at t418 (by decide) (get_eq eF336))
                    have n431 : F336 30 = .int u51 := (get_ne eF336 (by decide) i58)
                    have n432 : F416 30 = .int u51 := (SAME.at t418 (by decide) n431)
                    exact ih_57 (v428, 1, r424, g331, F416, v334, u51, y417) ⟨(ir_wk k429 (by decide) (by decide)), (show 0 ≤ (1 : Int32).toInt ∧ (1 : Int32).toInt ≤ 1 by decide), t425, (SAME.tr (SAME.up eF336 (SAME.tr SAME.rf i56 (by decide)) (by decide)) t418 (by decide)), n430, n432, t419, k335, i61⟩ (by show (4 - v428.toInt).toNat < (4 - u45.toInt).toNat; omega) _ _ _ (hP.sub [0, 1, 3, 2] rfl) (hD.sub [0, 1, 3, 2] (by decide) rfl) hS (lv_sub hl [0, 2, 1, 3, 4, 5] rfl)
                  · have dc421 : r415.toInt = 0 := eq_i (a := r415.toInt) (b := 0) rfl rfl c421
                    have k433 : 0 ≤ r415.toInt ∧ r415.toInt ≤ 0 := ⟨Int.le_trans (Int.le_refl _) (Int.le_of_eq dc421.symm), Int.le_trans (Int.le_of_eq dc421) (Int.le_refl _)⟩
                    refine lv_bipush (v := 10) hx hb dX10_starts_186 (by decide) ?_
                    refine lv_goto (tgt := 192) hx hb dX10_starts_188 (by decide) ?_
                    refine lv_isub hx hb dX10_starts_192 ?_
                    refine lv_topi (fun v434 ev434 => ?_)
                    have bv434 : v434.toInt = v393.toInt - 10 := by rw [ev434]; exact sub_k rfl rfl k394 ⟨Int.le_refl _, Int.le_refl _⟩ (by decide)
                    have k435 : (-6) ≤ v434.toInt ∧ v434.toInt ≤ 234 := sub_r bv434 k394 ⟨Int.le_refl _, Int.le_refl _⟩ (by decide)
                    refine call_Si (wr := [(h_paceAt, .inl (cI, 40, .inl w12)), (h_kindOf, .inl (cI, 4, .inl g331)), (h_s, .inl (cI, 335, .inl f_s)), (h0, .inr (10, vL 67 F416))]) (As := [.int v434]) (rest := []) hx hb hml hown hw (m_X10_bounded l D cI cJ cB cP cM cZ v434 _ ) wS_X10_311_X10_bounded dX10_starts_193 hP hD hS hA [] [0, 1, 2, 3] rfl rfl (by decide) (by decide) (by decide) GG.fb hG.at hl.1 rfl (Nat.le_of_ble_eq_true rfl) ⟨(Nat.le_of_ble_eq_true rfl), (Nat.le_of_ble_eq_true rfl)⟩ ⟨(Nat.le_of_ble_eq_true rfl), (Nat.le_of_ble_eq_true rfl)⟩ (fun r436 u H locs hp hP hD hS => ?_)
                    obtain ⟨t437, t438, rfl⟩ := hp
                    have hP : va_P D vwCl [(h_paceAt, .inl (cI, 40, .inl w12)), (h_kindOf, .inl (cI, 4, .inl g331)), (h_s, .inl (cI, 335, .inl f_s)), (h0, .inr (10, vL 67 F416))] H := hP
                    have hD : va_D A [(h_paceAt, .inl (cI, 40, .inl w12)), (h_kindOf, .inl (cI, 4, .inl g331)), (h_s, .inl (cI, 335, .inl f_s)), (h0, .inr (10, vL 67 F416))] := hD
                    refine W.widen (k := 0) (n := 0) (Nat.le_of_ble_eq_true rfl) (Nat.le_of_ble_eq_true rfl) ?_
                    refine lv_istore_n (lv' := [(1, .int r436), (4, .int 1), (5, .int u45), (3, .int u4), (2, .int u5), (0, .ref h0)]) hx hb dX10_starts_196 rfl hl (by decide) rfl (fun ls hl => ?_)
                    obtain ⟨v440, ev440⟩ : ∃ z : Int32, z = u45 + 1 := ⟨_, rfl⟩
                    have bv440 : v440.toInt = u45.toInt + 1 := by rw [ev440]; exact add_k rfl rfl k80 ⟨Int.le_refl _, Int.le_refl _⟩ (by decide)
                    have k441 : 1 ≤ v440.toInt ∧ v440.toInt ≤ 4 := add_r bv440 k80 ⟨Int.le_refl _, Int.le_refl _⟩ (by decide)
                    refine lv_iinc (v := v440) (lv' := [(5, .int v440), (1, .int r436), (4, .int 1), (3, .int u4), (2, .int u5), (0, .ref h0)]) hx hb dX10_starts_197 hl (k := 2) rfl (by rw [ev440]; rfl) (by decide) rfl (fun ls hl => ?_)
                    refine lv_goto (tgt := 57) hx hb dX10_starts_200 (by decide) ?_
                    have n442 : F416 29 = .int v334 := (SAME.at t418 (by decide) (get_eq eF336))
                    have n443 : F336 30 = .int u51 := (get_ne eF336 (by decide) i58)
                    have n444 : F416 30 = .int u51 := (SAME.at t418 (by decide) n443)
                    exact ih_57 (v440, 1, r436, g331, F416, v334, u51, y417) ⟨(ir_wk k441 (by decide) (by decide)), (show 0 ≤ (1 : Int32).toInt ∧ (1 : Int32).toInt ≤ 1 by decide), t437, (SAME.tr (SAME.up eF336 (SAME.tr SAME.rf i56 (by decide)) (by decide)) t418 (by decide)), n442, n444, t419, k335, i61⟩ (by show (4 - v440.toInt).toNat < (4 - u45.toInt).toNat; omega) _ _ _ (hP.sub [0, 1, 3, 2] rfl) (hD.sub [0, 1, 3, 2] (by decide) rfl) hS (lv_sub hl [0, 2, 1, 3, 4, 5] rfl)
        · have dc90 : r87.toInt ≠ 0 := ne_i (a := r87.toInt) (b := 0) rfl rfl c90
          have k445 : 1 ≤ r87.toInt ∧ r87.toInt ≤ 1 := ⟨ne_lo dc90 t88.1 ⟨Int.le_refl _, Int.le_refl _⟩ (by decide), t88.2⟩
          refine lv_aload_n hx hb dX10_starts_90 rfl (lv_at hl 5 rfl) ?_
          refine lv_dup hx hb dX10_starts_91 rfl ?_
          refine get_f (D := D) (ci := 10) (v := .int u51) (C := RX10) (T := TX10) (N := 67) hx hb hw inAX10 hown hK hP 2 rfl rfl 30 (by decide) (hw _ q_1291) (fun _ h9 => h9) i58 dX10_starts_92 ?_
          refine lv_iconst (v := 1) hx hb dX10_starts_95 (by decide) ?_
          refine lv_iload hx hb dX10_starts_96 (lv_at hl 0 rfl) ?_
          refine lv_ishl hx hb dX10_starts_98 ?_
          refine lv_topi (fun v446 ev446 => ?_)
          have k447 : 1 ≤ v446.toInt ∧ v446.toInt ≤ 8 := by rw [ev446]; exact shl1_i (Int.le_trans (by decide) k80.1) (Int.le_trans k80.2 (by decide))
          refine lv_ior hx hb dX10_starts_99 ?_
          refine lv_topi (fun v448 ev448 => ?_)
          have k449 : 0 ≤ v448.toInt ∧ v448.toInt ≤ 15 := by rw [ev448]; exact or_ik (ir_wk i61 (by decide) (by decide)) (ir_wk k447 (by decide) (by decide))
          refine put_f (D := D) (ci := 10) (v := .int v448) (ty := .int) (C := RX10) (T := TX10) (N := 67) hx hb hw inAX10 tyX10 tyX10_ok nmX10 hown hK hP hD hS 2 rfl rfl 30 (by decide) (hw _ q_1291) (fun _ h9 => h9) rfl (by decide +kernel) rfl rfl dX10_starts_100 (fun H locs F450 eF450 hP hD hS => ?_)
          have hP : va_P D vwCl [(h_paceAt, .inl (cI, 40, .inl w12)), (h_kindOf, .inl (cI, 4, .inl w48)), (h0, .inr (10, vL 67 F450)), (h_s, .inl (cI, 335, .inl f_s))] H := hP
          have hD : va_D A [(h_paceAt, .inl (cI, 40, .inl w12)), (h_kindOf, .inl (cI, 4, .inl w48)), (h0, .inr (10, vL 67 F450)), (h_s, .inl (cI, 335, .inl f_s))] := hD
          refine lv_aload_n hx hb dX10_starts_103 rfl (lv_at hl 5 rfl) ?_
          have n451 : F1 26 = .ref h_kindOf := (get_ne eF1 (by decide) e_kindOf)
          have n452 : F2 26 = .ref h_kindOf := (get_ne eF2 (by decide) n451)
          have n453 : F3 26 = .ref h_kindOf := (get_ne eF3 (by decide) n452)
          have n454 : G7 26 = .ref h_kindOf := (SAME.at i23 (by decide) n453)
          have n455 : G49 26 = .ref h_kindOf := (SAME.at i56 (by decide) n454)
          have n456 : F450 26 = .ref h_kindOf := (get_ne eF450 (by decide) n455)
          refine get_f (D := D) (ci := 10) (v := .ref h_kindOf) (C := RX10) (T := TX10) (N := 67) hx hb hw inAX10 hown hK hP 2 rfl rfl 26 (by decide) (hw _ q_1287) (fun _ h9 => h9) n456 dX10_starts_104 ?_
          refine lv_iload hx hb dX10_starts_107 (lv_at hl 0 rfl) ?_
          refine lv_iconst (v := 2) hx hb dX10_starts_109 (by decide) ?_
          obtain ⟨g457, eg457⟩ : ∃ z : Nat → Int32, upd w48 u45.toNatClampNeg 2 = z := ⟨_, rfl⟩
          refine iast_g hx hb hK hP hD hS 1 0 rfl rfl (ix_k k80 (by decide) (by decide)) eg457 dX10_starts_110 (fun H locs hP hD hS => ?_)
          have hP : va_P D vwCl [(h_paceAt, .inl (cI, 40, .inl w12)), (h_kindOf, .inl (cI, 4, .inl g457)), (h0, .inr (10, vL 67 F450)), (h_s, .inl (cI, 335, .inl f_s))] H := hP
          have hD : va_D A [(h_paceAt, .inl (cI, 40, .inl w12)), (h_kindOf, .inl (cI, 4, .inl g457)), (h0, .inr (10, vL 67 F450)), (h_s, .inl (cI, 335, .inl f_s))] := hD
          refine lv_goto (tgt := 197) hx hb dX10_starts_111 (by decide) ?_
          obtain ⟨v458, ev458⟩ : ∃ z : Int32, z = u45 + 1 := ⟨_, rfl⟩
          have bv458 : v458.toInt = u45.toInt + 1 := by rw [ev458]; exact add_k rfl rfl k80 ⟨Int.le_refl _, Int.le_refl _⟩ (by decide)
          have k459 : 1 ≤ v458.toInt ∧ v458.toInt ≤ 4 := add_r bv458 k80 ⟨Int.le_refl _, Int.le_refl _⟩ (by decide)
          refine lv_iinc (v := v458) (lv' := [(5, .int v458), (4, .int u46), (1, .int u47), (3, .int u4), (2, .int u5), (0, .ref h0)]) hx hb dX10_starts_197 hl (k := 0) rfl (by rw [ev458]; rfl) (by decide) rfl (fun ls hl => ?_)
          refine lv_goto (tgt := 57) hx hb dX10_starts_200 (by decide) ?_
          have n460 : F450 29 = .int u50 := (get_ne eF450 (by decide) i57)
          have n461 : F450 31 = .int u52 := (get_ne eF450 (by decide) i59)
          exact ih_57 (v458, u46, u47, g457, F450, u50, v448, u52) ⟨(ir_wk k459 (by decide) (by decide)), i54, i55, (SAME.up eF450 (SAME.tr SAME.rf i56 (by decide)) (by decide)), n460, (get_eq eF450), n461, i60, k449⟩ (by show (4 - v458.toInt).toNat < (4 - u45.toInt).toNat; omega) _ _ _ hP hD hS (lv_sub hl [0, 1, 2, 3, 4, 5] rfl)
      · have dc85 : v84.toInt ≠ u4.toInt := ne_i (a := v84.toInt) (b := u4.toInt) rfl rfl c85
        refine lv_goto (tgt := 197) hx hb dX10_starts_77 (by decide) ?_
        obtain ⟨v462, ev462⟩ : ∃ z : Int32, z = u45 + 1 := ⟨_, rfl⟩
        have bv462 : v462.toInt = u45.toInt + 1 := by rw [ev462]; exact add_k rfl rfl k80 ⟨Int.le_refl _, Int.le_refl _⟩ (by decide)
        have k463 : 1 ≤ v462.toInt ∧ v462.toInt ≤ 4 := add_r bv462 k80 ⟨Int.le_refl _, Int.le_refl _⟩ (by decide)
        refine lv_iinc (v := v462) (lv' := [(5, .int v462), (4, .int u46), (1, .int u47), (3, .int u4), (2, .int u5), (0, .ref h0)]) hx hb dX10_starts_197 hl (k := 0) rfl (by rw [ev462]; rfl) (by decide) rfl (fun ls hl => ?_)
        refine lv_goto (tgt := 57) hx hb dX10_starts_200 (by decide) ?_
        exact ih_57 (v462, u46, u47, w48, G49, u50, u51, u52) ⟨(ir_wk k463 (by decide) (by decide)), i54, i55, (SAME.tr SAME.rf i56 (by decide)), i57, i58, i59, i60, i61⟩ (by show (4 - v462.toInt).toNat < (4 - u45.toInt).toNat; omega) _ _ _ hP hD hS (lv_sub hl [0, 1, 2, 3, 4, 5] rfl)
set_option maxHeartbeats 4000000 in
set_option maxRecDepth 100000 in
theorem m_X10_weight (l : Launch) (D : va_G) (cI cJ cB cP cM cZ : ClassId) (h0 : Nat) (h_s : Nat) (Fh : Nat → Value) (x_inside : Int32) (f_s : Nat → Int32) (sz : Nat) (e_s : Fh 6 = .ref h_s) (e_inside : Fh 29 = .int x_inside) (i_x_inside : IR 0 15 x_inside) (s_s_K0 : KW 0 f_s) (s_s_0 : SG 0 0 0 40 f_s) (s_s_105 : SG 105 108 0 11 f_s) (s_s_114 : SG 114 114 0 5 f_s) (s_s_130 : SG 130 133 0 11 f_s) (s_s_139 : SG 139 139 0 5 f_s) (s_s_153 : SG 153 153 0 44 f_s) (s_s_44 : SG 44 55 0 9 f_s) (s_s_5 : SG 5 5 0 12 f_s) (s_s_6 : SG 6 6 0 12 f_s) (s_s_7 : SG 7 7 0 6 f_s) : CI l yX10_weight cX10_weight 1 (some .int) { frames := 2, cells := 0, slots := 0, locals := 44 } (GG D cI cJ cB cP cM cZ) D [(h0, .inr (10, vL 67 Fh)), (h_s, .inl (cI, 335, .inl f_s))] sz [.ref h0] (fun (r : Int32) (u : va_W) => u = [(h0, .inr (10, vL 67 Fh)), (h_s, .inl (cI, 335, .inl f_s))]) := by
  refine CI_mk (by decide) (Nat.le_of_ble_eq_true rfl) ?_
  intro p e s m below meth c A ls E hAe hG hsz hP hD hA hS hl
  obtain ⟨hx, hb, hr, hw, hown, hlocks, hml, hnm⟩ := E
  have hK := hG.1
  have i_x_inside : 0 ≤ x_inside.toInt ∧ x_inside.toInt ≤ 15 := i_x_inside
  have hl : lv_has ls 1 [(0, .ref h0)] := hl
  refine lv_aload_n hx hb dX10_weight_0 rfl (lv_at hl 0 rfl) ?_
  refine get_f (D := D) (ci := 10) (v := .ref h_s) (C := RX10) (T := TX10) (N := 67) hx hb hw inAX10 hown hK hP 0 rfl rfl 6 (by decide) (hw _ q_1267) (fun _ h9 => h9) e_s dX10_weight_1 ?_
  refine lv_iconst (v := 1) hx hb dX10_weight_4 (by decide) ?_
  refine iald_n hx hb hK hP 1 0 rfl rfl 1 rfl (Nat.le_of_ble_eq_true rfl) (Nat.le_of_ble_eq_true rfl) rfl dX10_weight_5 ?_
  refine lv_topi (fun v1 ev1 => ?_)
  refine lv_aload_n hx hb dX10_weight_6 rfl (lv_at hl 0 rfl) ?_
  refine get_f (D := D) (ci := 10) (v := .ref h_s) (C := RX10) (T := TX10) (N := 67) hx hb hw inAX10 hown hK hP 0 rfl rfl 6 (by decide) (hw _ q_1267) (fun _ h9 => h9) e_s dX10_weight_7 ?_
  refine lv_bipush (v := 113) hx hb dX10_weight_10 (by decide) ?_
  refine iald_n hx hb hK hP 1 0 rfl rfl 113 rfl (Nat.le_of_ble_eq_true rfl) (Nat.le_of_ble_eq_true rfl) rfl dX10_weight_12 ?_
  refine lv_topi (fun v2 ev2 => ?_)
  refine lv_iadd hx hb dX10_weight_13 ?_
  refine lv_topi (fun v3 ev3 => ?_)
  refine lv_aload_n hx hb dX10_weight_14 rfl (lv_at hl 0 rfl) ?_
  refine lv_aload_n hx hb dX10_weight_15 rfl (lv_at hl 0 rfl) ?_
  refine get_f (D := D) (ci := 10) (v := .int x_inside) (C := RX10) (T := TX10) (N := 67) hx hb hw inAX10 hown hK hP 0 rfl rfl 29 (by decide) (hw _ q_1290) (fun _ h9 => h9) e_inside dX10_weight_16 ?_
  refine call_Vi (wr := []) (As := [.int x_inside]) (rest := [.int v3]) hx hb hml hown hw (m_X10_weightOf l D cI cJ cB cP cM cZ h0 h_s Fh f_s x_inside _ e_s s_s_K0 s_s_0 s_s_105 s_s_114 s_s_130 s_s_139 s_s_153 s_s_44 s_s_5 s_s_6 s_s_7) wV_X10_308_X10_weightOf dX10_weight_19 hK hP hD hS hA [0, 1] [] rfl rfl (by decide) (by decide) (by decide) 0 10 rfl rfl GG.fb hG.at hl.1 rfl (Nat.le_of_ble_eq_true rfl) ⟨(Nat.le_of_ble_eq_true rfl), (Nat.le_of_ble_eq_true rfl)⟩ ⟨(Nat.le_of_ble_eq_true rfl), (Nat.le_of_ble_eq_true rfl)⟩ (fun r4 u H locs hp hP hD hS => ?_)
  obtain rfl := hp
  have hP : va_P D vwCl [(h0, .inr (10, vL 67 Fh)), (h_s, .inl (cI, 335, .inl f_s))] H := hP
  have hD : va_D A [(h0, .inr (10, vL 67 Fh)), (h_s, .inl (cI, 335, .inl f_s))] := hD
  refine W.widen (k := 0) (n := 0) (Nat.le_of_ble_eq_true rfl) (Nat.le_of_ble_eq_true rfl) ?_
  refine lv_iadd hx hb dX10_weight_22 ?_
  refine lv_topi (fun v6 ev6 => ?_)
  exact ret_i (v := v6) hx hb hr hlocks hS hP hD dX10_weight_23 rfl (Nat.le_of_ble_eq_true rfl) (Nat.le_of_ble_eq_true rfl) rfl
set_option maxHeartbeats 4000000 in
set_option maxRecDepth 100000 in
theorem m_X10_start (l : Launch) (D : va_G) (cI cJ cB cP cM cZ : ClassId) (h0 : Nat) (h_s : Nat) (h_paceAt : Nat) (h_kindOf : Nat) (Fh : Nat → Value) (x_lineTime : Int32) (x_linePace : Int32) (x_inside : Int32) (x_late : Int32) (x_seed : Int32) (x_kicks : Int32) (f_s : Nat → Int32) (f_paceAt : Nat → Int32) (f_kindOf : Nat → Int32) (p0 : Int32) (sz : Nat) (e_s : Fh 6 = .ref h_s) (e_paceAt : Fh 25 = .ref h_paceAt) (e_kindOf : Fh 26 = .ref h_kindOf) (e_lineTime : Fh 27 = .int x_lineTime) (e_linePace : Fh 28 = .int x_linePace) (e_inside : Fh 29 = .int x_inside) (i_x_inside : IR 0 15 x_inside) (e_late : Fh 30 = .int x_late) (i_x_late : IR 0 15 x_late) (e_seed : Fh 31 = .int x_seed) (e_kicks : Fh 32 = .int x_kicks) (i_x_kicks : IR 0 1 x_kicks) (s_s_K0 : KW 0 f_s) (s_s_0 : SG 0 0 0 40 f_s) (s_s_105 : SG 105 108 0 11 f_s) (s_s_114 : SG 114 114 0 5 f_s) (s_s_130 : SG 130 133 0 11 f_s) (s_s_139 : SG 139 139 0 5 f_s) (s_s_153 : SG 153 153 0 44 f_s) (s_s_44 : SG 44 55 0 9 f_s) (s_s_5 : SG 5 5 0 12 f_s) (s_s_6 : SG 6 6 0 12 f_s) (s_s_7 : SG 7 7 0 6 f_s) : CI l yX10_start cX10_start 2 (some .int) { frames := 4, cells := 0, slots := 0, locals := 94 } (GG D cI cJ cB cP cM cZ) D [(h0, .inr (10, vL 67 Fh)), (h_s, .inl (cI, 335, .inl f_s)), (h_paceAt, .inl (cI, 40, .inl f_paceAt)), (h_kindOf, .inl (cI, 4, .inl f_kindOf))] sz [.ref h0, .int p0] (fun (r : Int32) (u : va_W) => ∃ (Gh : Nat → Value) (y_lineTime : Int32) (y_linePace : Int32) (y_inside : Int32) (y_late : Int32) (y_seed : Int32) (g_paceAt : Nat → Int32) (g_kindOf : Nat → Int32), SAME [0, 27, 28, 29, 30, 31] Fh Gh ∧ Gh 0 = .int 0 ∧ Gh 27 = .int y_lineTime ∧ Gh 28 = .int y_linePace ∧ Gh 29 = .int y_inside ∧ IR 0 15 y_inside ∧ Gh 30 = .int y_late ∧ IR 0 15 y_late ∧ Gh 31 = .int y_seed ∧ u = [(h0, .inr (10, vL 67 Gh)), (h_s, .inl (cI, 335, .inl f_s)), (h_paceAt, .inl (cI, 40, .inl g_paceAt)), (h_kindOf, .inl (cI, 4, .inl g_kindOf))]) := by
  refine CI_mk (by decide) (Nat.le_of_ble_eq_true rfl) ?_
  intro p e s m below meth c A ls E hAe hG hsz hP hD hA hS hl
  obtain ⟨hx, hb, hr, hw, hown, hlocks, hml, hnm⟩ := E
  have hK := hG.1
  have i_x_inside : 0 ≤ x_inside.toInt ∧ x_inside.toInt ≤ 15 := i_x_inside
  have i_x_late : 0 ≤ x_late.toInt ∧ x_late.toInt ≤ 15 := i_x_late
  have i_x_kicks : 0 ≤ x_kicks.toInt ∧ x_kicks.toInt ≤ 1 := i_x_kicks
  have hl : lv_has ls 2 [(0, .ref h0), (1, .int p0)] := hl
  refine lv_aload_n hx hb dX10_start_0 rfl (lv_at hl 0 rfl) ?_
  refine lv_iconst (v := 0) hx hb dX10_start_1 (by decide) ?_
  refine put_f (D := D) (ci := 10) (v := .int 0) (ty := .int) (C := RX10) (T := TX10) (N := 67) hx hb hw inAX10 tyX10 tyX10_ok nmX10 hown hK hP hD hS 0 rfl rfl 0 (by decide) (hw _ q_1261) (fun _ h9 => h9) rfl (by decide +kernel) rfl rfl dX10_start_2 (fun H locs F1 eF1 hP hD hS => ?_)
  have hP : va_P D vwCl [(h0, .inr (10, vL 67 F1)), (h_s, .inl (cI, 335, .inl f_s)), (h_paceAt, .inl (cI, 40, .inl f_paceAt)), (h_kindOf, .inl (cI, 4, .inl f_kindOf))] H := hP
  have hD : va_D A [(h0, .inr (10, vL 67 F1)), (h_s, .inl (cI, 335, .inl f_s)), (h_paceAt, .inl (cI, 40, .inl f_paceAt)), (h_kindOf, .inl (cI, 4, .inl f_kindOf))] := hD
  refine lv_aload_n hx hb dX10_start_5 rfl (lv_at hl 0 rfl) ?_
  have n2 : F1 6 = .ref h_s := (get_ne eF1 (by decide) e_s)
  refine call_Vi (wr := [(h_paceAt, .inl (cI, 40, .inl f_paceAt)), (h_kindOf, .inl (cI, 4, .inl f_kindOf))]) (As := []) (rest := []) hx hb hml hown hw (m_X10_hasCrew l D cI cJ cB cP cM cZ h0 h_s F1 f_s _ n2 s_s_K0 s_s_0 s_s_105 s_s_114 s_s_130 s_s_139 s_s_153 s_s_44 s_s_5 s_s_6 s_s_7) wV_X10_281_X10_hasCrew dX10_start_6 hK hP hD hS hA [0, 1] [2, 3] rfl rfl (by decide) (by decide) (by decide) 0 10 rfl rfl GG.fb hG.at hl.1 rfl (Nat.le_of_ble_eq_true rfl) ⟨(Nat.le_of_ble_eq_true rfl), (Nat.le_of_ble_eq_true rfl)⟩ ⟨(Nat.le_of_ble_eq_true rfl), (Nat.le_of_ble_eq_true rfl)⟩ (fun r3 u H locs hp hP hD hS => ?_)
  rcases hp with ⟨rfl, rfl⟩ | ⟨rfl, rfl⟩
  · have hP : va_P D vwCl [(h_paceAt, .inl (cI, 40, .inl f_paceAt)), (h_kindOf, .inl (cI, 4, .inl f_kindOf)), (h0, .inr (10, vL 67 F1)), (h_s, .inl (cI, 335, .inl f_s))] H := hP
    have hD : va_D A [(h_paceAt, .inl (cI, 40, .inl f_paceAt)), (h_kindOf, .inl (cI, 4, .inl f_kindOf)), (h0, .inr (10, vL 67 F1)), (h_s, .inl (cI, 335, .inl f_s))] := hD
    refine W.widen (k := 0) (n := 0) (Nat.le_of_ble_eq_true rfl) (Nat.le_of_ble_eq_true rfl) ?_
    refine lv_if_ne (tgt := 14) hx hb dX10_start_9 (by decide) (fun g => absurd (by decide) g) (fun _ => ?_)
    refine lv_iconst (v := (-1)) hx hb dX10_start_12 (by decide) ?_
    exact ret_i (v := (-1)) hx hb hr hlocks hS (hP.sub (ws' := [(h0, .inr (10, vL 67 F1)), (h_s, .inl (cI, 335, .inl f_s)), (h_paceAt, .inl (cI, 40, .inl f_paceAt)), (h_kindOf, .inl (cI, 4, .inl f_kindOf))]) [2, 3, 0, 1] rfl) (hD.sub (ws' := [(h0, .inr (10, vL 67 F1)), (h_s, .inl (cI, 335, .inl f_s)), (h_paceAt, .inl (cI, 40, .inl f_paceAt)), (h_kindOf, .inl (cI, 4, .inl f_kindOf))]) [2, 3, 0, 1] (by decide) rfl) dX10_start_13 rfl (Nat.le_of_ble_eq_true rfl) (Nat.le_of_ble_eq_true rfl) ⟨F1, x_lineTime, x_linePace, x_inside, x_late, x_seed, f_paceAt, f_kindOf, (SAME.up eF1 SAME.rf (by decide)), (get_eq eF1), (get_ne eF1 (by decide) e_lineTime), (get_ne eF1 (by decide) e_linePace), (get_ne eF1 (by decide) e_inside), i_x_inside, (get_ne eF1 (by decide) e_late), i_x_late, (get_ne eF1 (by decide) e_seed), rfl⟩
  · have hP : va_P D vwCl [(h_paceAt, .inl (cI, 40, .inl f_paceAt)), (h_kindOf, .inl (cI, 4, .inl f_kindOf)), (h0, .inr (10, vL 67 F1)), (h_s, .inl (cI, 335, .inl f_s))] H := hP
    have hD : va_D A [(h_paceAt, .inl (cI, 40, .inl f_paceAt)), (h_kindOf, .inl (cI, 4, .inl f_kindOf)), (h0, .inr (10, vL 67 F1)), (h_s, .inl (cI, 335, .inl f_s))] := hD
    refine W.widen (k := 0) (n := 0) (Nat.le_of_ble_eq_true rfl) (Nat.le_of_ble_eq_true rfl) ?_
    refine lv_if_ne (tgt := 14) hx hb dX10_start_9 (by decide) (fun _ => ?_) (fun g => absurd g (by decide))
    refine lv_aload_n hx hb dX10_start_14 rfl (lv_at hl 0 rfl) ?_
    have n5 : F1 25 = .ref h_paceAt := (get_ne eF1 (by decide) e_paceAt)
    have n6 : F1 26 = .ref h_kindOf := (get_ne eF1 (by decide) e_kindOf)
    have n7 : F1 31 = .int x_seed := (get_ne eF1 (by decide) e_seed)
    have n8 : F1 32 = .int x_kicks := (get_ne eF1 (by decide) e_kicks)
    refine call_Vv (wr := []) (As := []) (rest := []) hx hb hml hown hw (m_X10_starts l D cI cJ cB cP cM cZ h0 h_s h_paceAt h_kindOf F1 x_seed x_kicks f_s f_paceAt f_kindOf _ n2 n5 n6 n7 n8 i_x_kicks s_s_K0 s_s_0 s_s_105 s_s_114 s_s_130 s_s_139 s_s_153 s_s_44 s_s_5 s_s_6 s_s_7) wV_X10_340_X10_starts dX10_start_15 hK hP hD hS hA [2, 3, 0, 1] [] rfl rfl (by decide) (by decide) (by decide) 0 10 rfl rfl GG.fb hG.at hl.1 rfl (Nat.le_of_ble_eq_true rfl) ⟨(Nat.le_of_ble_eq_true rfl), (Nat.le_of_ble_eq_true rfl)⟩ ⟨(Nat.le_of_ble_eq_true rfl), (Nat.le_of_ble_eq_true rfl)⟩ (fun u H locs hp hP hD hS => ?_)
    obtain ⟨F10, y11, y12, y13, y14, y15, g16, g17, t18, t19, t20, t21, t22, t23, t24, t25, t26, rfl⟩ := hp
    have hP : va_P D vwCl [(h0, .inr (10, vL 67 F10)), (h_s, .inl (cI, 335, .inl f_s)), (h_paceAt, .inl (cI, 40, .inl g16)), (h_kindOf, .inl (cI, 4, .inl g17))] H := hP
    have hD : va_D A [(h0, .inr (10, vL 67 F10)), (h_s, .inl (cI, 335, .inl f_s)), (h_paceAt, .inl (cI, 40, .inl g16)), (h_kindOf, .inl (cI, 4, .inl g17))] := hD
    refine W.widen (k := 0) (n := 0) (Nat.le_of_ble_eq_true rfl) (Nat.le_of_ble_eq_true rfl) ?_
    refine lv_iload_n hx hb dX10_start_18 rfl (lv_at hl 1 rfl) ?_
    by_cases k28 : p0 = 0
    · have dk28 : p0.toInt = 0 := eq_i rfl rfl k28
      have k29 : 0 ≤ p0.toInt ∧ p0.toInt ≤ 0 := ⟨Int.le_trans (Int.le_refl _) (Int.le_of_eq dk28.symm), Int.le_trans (Int.le_of_eq dk28) (Int.le_refl _)⟩
      refine lv_ci (y := 0) k28 ?_
      refine lv_tableIn (tgt := 52) (off := 33) hx hb dX10_start_19 (by decide) (by decide) (by decide) (by decide) ?_
      refine lv_aload_n hx hb dX10_start_52 rfl (lv_at hl 0 rfl) ?_
      refine get_f (D := D) (ci := 10) (v := .int y11) (C := RX10) (T := TX10) (N := 67) hx hb hw inAX10 hown hK hP 0 rfl rfl 27 (by decide) (hw _ q_1288) (fun _ h9 => h9) t19 dX10_start_53 ?_
      exact ret_i (v := y11) hx hb hr hlocks hS hP hD dX10_start_56 rfl (Nat.le_of_ble_eq_true rfl) (Nat.le_of_ble_eq_true rfl) ⟨F10, y11, y12, y13, y14, y15, g16, g17, (SAME.tr (SAME.up eF1 SAME.rf (by decide)) t18 (by decide)), (SAME.at t18 (by decide) (get_eq eF1)), t19, t20, t22, t23, t24, t25, t26, rfl⟩
    by_cases k30 : p0 = 1
    · have dk30 : p0.toInt = 1 := eq_i rfl rfl k30
      have k31 : 1 ≤ p0.toInt ∧ p0.toInt ≤ 1 := ⟨Int.le_trans (Int.le_refl _) (Int.le_of_eq dk30.symm), Int.le_trans (Int.le_of_eq dk30) (Int.le_refl _)⟩
      refine lv_ci (y := 1) k30 ?_
      refine lv_tableIn (tgt := 57) (off := 38) hx hb dX10_start_19 (by decide) (by decide) (by decide) (by decide) ?_
      refine lv_aload_n hx hb dX10_start_57 rfl (lv_at hl 0 rfl) ?_
      refine get_f (D := D) (ci := 10) (v := .int y12) (C := RX10) (T := TX10) (N := 67) hx hb hw inAX10 hown hK hP 0 rfl rfl 28 (by decide) (hw _ q_1289) (fun _ h9 => h9) t20 dX10_start_58 ?_
      exact ret_i (v := y12) hx hb hr hlocks hS hP hD dX10_start_61 rfl (Nat.le_of_ble_eq_true rfl) (Nat.le_of_ble_eq_true rfl) ⟨F10, y11, y12, y13, y14, y15, g16, g17, (SAME.tr (SAME.up eF1 SAME.rf (by decide)) t18 (by decide)), (SAME.at t18 (by decide) (get_eq eF1)), t19, t20, t22, t23, t24, t25, t26, rfl⟩
    by_cases k32 : p0 = 2
    · have dk32 : p0.toInt = 2 := eq_i rfl rfl k32
      have k33 : 2 ≤ p0.toInt ∧ p0.toInt ≤ 2 := ⟨Int.le_trans (Int.le_refl _) (Int.le_of_eq dk32.symm), Int.le_trans (Int.le_of_eq dk32) (Int.le_refl _)⟩
      refine lv_ci (y := 2) k32 ?_
      refine lv_tableIn (tgt := 62) (off := 43) hx hb dX10_start_19 (by decide) (by decide) (by decide) (by decide) ?_
      refine lv_aload_n hx hb dX10_start_62 rfl (lv_at hl 0 rfl) ?_
      refine get_f (D := D) (ci := 10) (v := .int y13) (C := RX10) (T := TX10) (N := 67) hx hb hw inAX10 hown hK hP 0 rfl rfl 29 (by decide) (hw _ q_1290) (fun _ h9 => h9) t22 dX10_start_63 ?_
      exact ret_i (v := y13) hx hb hr hlocks hS hP hD dX10_start_66 rfl (Nat.le_of_ble_eq_true rfl) (Nat.le_of_ble_eq_true rfl) ⟨F10, y11, y12, y13, y14, y15, g16, g17, (SAME.tr (SAME.up eF1 SAME.rf (by decide)) t18 (by decide)), (SAME.at t18 (by decide) (get_eq eF1)), t19, t20, t22, t23, t24, t25, t26, rfl⟩
    by_cases k34 : p0 = 3
    · have dk34 : p0.toInt = 3 := eq_i rfl rfl k34
      have k35 : 3 ≤ p0.toInt ∧ p0.toInt ≤ 3 := ⟨Int.le_trans (Int.le_refl _) (Int.le_of_eq dk34.symm), Int.le_trans (Int.le_of_eq dk34) (Int.le_refl _)⟩
      refine lv_ci (y := 3) k34 ?_
      refine lv_tableIn (tgt := 67) (off := 48) hx hb dX10_start_19 (by decide) (by decide) (by decide) (by decide) ?_
      refine lv_aload_n hx hb dX10_start_67 rfl (lv_at hl 0 rfl) ?_
      refine get_f (D := D) (ci := 10) (v := .int y14) (C := RX10) (T := TX10) (N := 67) hx hb hw inAX10 hown hK hP 0 rfl rfl 30 (by decide) (hw _ q_1291) (fun _ h9 => h9) t24 dX10_start_68 ?_
      exact ret_i (v := y14) hx hb hr hlocks hS hP hD dX10_start_71 rfl (Nat.le_of_ble_eq_true rfl) (Nat.le_of_ble_eq_true rfl) ⟨F10, y11, y12, y13, y14, y15, g16, g17, (SAME.tr (SAME.up eF1 SAME.rf (by decide)) t18 (by decide)), (SAME.at t18 (by decide) (get_eq eF1)), t19, t20, t22, t23, t24, t25, t26, rfl⟩
    by_cases k36 : p0 = 4
    · have dk36 : p0.toInt = 4 := eq_i rfl rfl k36
      have k37 : 4 ≤ p0.toInt ∧ p0.toInt ≤ 4 := ⟨Int.le_trans (Int.le_refl _) (Int.le_of_eq dk36.symm), Int.le_trans (Int.le_of_eq dk36) (Int.le_refl _)⟩
      refine lv_ci (y := 4) k36 ?_
      refine lv_tableIn (tgt := 72) (off := 53) hx hb dX10_start_19 (by decide) (by decide) (by decide) (by decide) ?_
      refine lv_aload_n hx hb dX10_start_72 rfl (lv_at hl 0 rfl) ?_
      have n38 : F10 6 = .ref h_s := (SAME.at t18 (by decide) n2)
      refine call_Vi (wr := [(h_paceAt, .inl (cI, 40, .inl g16)), (h_kindOf, .inl (cI, 4, .inl g17))]) (As := []) (rest := []) hx hb hml hown hw (m_X10_weight l D cI cJ cB cP cM cZ h0 h_s F10 y13 f_s _ n38 t22 t23 s_s_K0 s_s_0 s_s_105 s_s_114 s_s_130 s_s_139 s_s_153 s_s_44 s_s_5 s_s_6 s_s_7) wV_X10_343_X10_weight dX10_start_73 hK hP hD hS hA [0, 1] [2, 3] rfl rfl (by decide) (by decide) (by decide) 0 10 rfl rfl GG.fb hG.at hl.1 rfl (Nat.le_of_ble_eq_true rfl) ⟨(Nat.le_of_ble_eq_true rfl), (Nat.le_of_ble_eq_true rfl)⟩ ⟨(Nat.le_of_ble_eq_true rfl), (Nat.le_of_ble_eq_true rfl)⟩ (fun r39 u H locs hp hP hD hS => ?_)
      obtain rfl := hp
      have hP : va_P D vwCl [(h_paceAt, .inl (cI, 40, .inl g16)), (h_kindOf, .inl (cI, 4, .inl g17)), (h0, .inr (10, vL 67 F10)), (h_s, .inl (cI, 335, .inl f_s))] H := hP
      have hD : va_D A [(h_paceAt, .inl (cI, 40, .inl g16)), (h_kindOf, .inl (cI, 4, .inl g17)), (h0, .inr (10, vL 67 F10)), (h_s, .inl (cI, 335, .inl f_s))] := hD
      refine W.widen (k := 0) (n := 0) (Nat.le_of_ble_eq_true rfl) (Nat.le_of_ble_eq_true rfl) ?_
      exact ret_i (v := r39) hx hb hr hlocks hS (hP.sub (ws' := [(h0, .inr (10, vL 67 F10)), (h_s, .inl (cI, 335, .inl f_s)), (h_paceAt, .inl (cI, 40, .inl g16)), (h_kindOf, .inl (cI, 4, .inl g17))]) [2, 3, 0, 1] rfl) (hD.sub (ws' := [(h0, .inr (10, vL 67 F10)), (h_s, .inl (cI, 335, .inl f_s)), (h_paceAt, .inl (cI, 40, .inl g16)), (h_kindOf, .inl (cI, 4, .inl g17))]) [2, 3, 0, 1] (by decide) rfl) dX10_start_76 rfl (Nat.le_of_ble_eq_true rfl) (Nat.le_of_ble_eq_true rfl) ⟨F10, y11, y12, y13, y14, y15, g16, g17, (SAME.tr (SAME.up eF1 SAME.rf (by decide)) t18 (by decide)), (SAME.at t18 (by decide) (get_eq eF1)), t19, t20, t22, t23, t24, t25, t26, rfl⟩
    have dk28 : p0.toInt ≠ 0 := ne_i rfl rfl k28
    have dk30 : p0.toInt ≠ 1 := ne_i rfl rfl k30
    have dk32 : p0.toInt ≠ 2 := ne_i rfl rfl k32
    have dk34 : p0.toInt ≠ 3 := ne_i rfl rfl k34
    have dk36 : p0.toInt ≠ 4 := ne_i rfl rfl k36
    refine lv_tableOut (tgt := 77) hx hb dX10_start_19 (by omega) (by decide) ?_
    refine lv_iconst (v := (-1)) hx hb dX10_start_77 (by decide) ?_
    exact ret_i (v := (-1)) hx hb hr hlocks hS hP hD dX10_start_78 rfl (Nat.le_of_ble_eq_true rfl) (Nat.le_of_ble_eq_true rfl) ⟨F10, y11, y12, y13, y14, y15, g16, g17, (SAME.tr (SAME.up eF1 SAME.rf (by decide)) t18 (by decide)), (SAME.at t18 (by decide) (get_eq eF1)), t19, t20, t22, t23, t24, t25, t26, rfl⟩
set_option maxHeartbeats 4000000 in
set_option maxRecDepth 100000 in
theorem m_X10_pace (l : Launch) (D : va_G) (cI cJ cB cP cM cZ : ClassId) (h0 : Nat) (h_s : Nat) (h_paceAt : Nat) (h_kindOf : Nat) (Fh : Nat → Value) (x_lineTime : Int32) (x_linePace : Int32) (x_inside : Int32) (x_late : Int32) (x_seed : Int32) (x_kicks : Int32) (f_s : Nat → Int32) (f_paceAt : Nat → Int32) (f_kindOf : Nat → Int32) (p0 : Int32) (sz : Nat) (e_s : Fh 6 = .ref h_s) (e_paceAt : Fh 25 = .ref h_paceAt) (e_kindOf : Fh 26 = .ref h_kindOf) (e_lineTime : Fh 27 = .int x_lineTime) (e_linePace : Fh 28 = .int x_linePace) (e_inside : Fh 29 = .int x_inside) (i_x_inside : IR 0 15 x_inside) (e_late : Fh 30 = .int x_late) (i_x_late : IR 0 15 x_late) (e_seed : Fh 31 = .int x_seed) (e_kicks : Fh 32 = .int x_kicks) (i_x_kicks : IR 0 1 x_kicks) (s_s_K0 : KW 0 f_s) (s_s_0 : SG 0 0 0 40 f_s) (s_s_105 : SG 105 108 0 11 f_s) (s_s_114 : SG 114 114 0 5 f_s) (s_s_130 : SG 130 133 0 11 f_s) (s_s_139 : SG 139 139 0 5 f_s) (s_s_153 : SG 153 153 0 44 f_s) (s_s_44 : SG 44 55 0 9 f_s) (s_s_5 : SG 5 5 0 12 f_s) (s_s_6 : SG 6 6 0 12 f_s) (s_s_7 : SG 7 7 0 6 f_s) : CI l yX10_pace cX10_pace 2 (some .int) { frames := 4, cells := 0, slots := 0, locals := 94 } (GG D cI cJ cB cP cM cZ) D [(h0, .inr (10, vL 67 Fh)), (h_s, .inl (cI, 335, .inl f_s)), (h_paceAt, .inl (cI, 40, .inl f_paceAt)), (h_kindOf, .inl (cI, 4, .inl f_kindOf))] sz [.ref h0, .int p0] (fun (r : Int32) (u : va_W) => ∃ (Gh : Nat → Value) (y_lineTime : Int32) (y_linePace : Int32) (y_inside : Int32) (y_late : Int32) (y_seed : Int32) (g_paceAt : Nat → Int32) (g_kindOf : Nat → Int32), SAME [0, 27, 28, 29, 30, 31] Fh Gh ∧ Gh 0 = .int 0 ∧ Gh 27 = .int y_lineTime ∧ Gh 28 = .int y_linePace ∧ Gh 29 = .int y_inside ∧ IR 0 15 y_inside ∧ Gh 30 = .int y_late ∧ IR 0 15 y_late ∧ Gh 31 = .int y_seed ∧ u = [(h0, .inr (10, vL 67 Gh)), (h_s, .inl (cI, 335, .inl f_s)), (h_paceAt, .inl (cI, 40, .inl g_paceAt)), (h_kindOf, .inl (cI, 4, .inl g_kindOf))]) := by
  refine CI_mk (by decide) (Nat.le_of_ble_eq_true rfl) ?_
  intro p e s m below meth c A ls E hAe hG hsz hP hD hA hS hl
  obtain ⟨hx, hb, hr, hw, hown, hlocks, hml, hnm⟩ := E
  have hK := hG.1
  have i_x_inside : 0 ≤ x_inside.toInt ∧ x_inside.toInt ≤ 15 := i_x_inside
  have i_x_late : 0 ≤ x_late.toInt ∧ x_late.toInt ≤ 15 := i_x_late
  have i_x_kicks : 0 ≤ x_kicks.toInt ∧ x_kicks.toInt ≤ 1 := i_x_kicks
  have hl : lv_has ls 2 [(0, .ref h0), (1, .int p0)] := hl
  refine lv_aload_n hx hb dX10_pace_0 rfl (lv_at hl 0 rfl) ?_
  refine lv_iconst (v := 0) hx hb dX10_pace_1 (by decide) ?_
  refine put_f (D := D) (ci := 10) (v := .int 0) (ty := .int) (C := RX10) (T := TX10) (N := 67) hx hb hw inAX10 tyX10 tyX10_ok nmX10 hown hK hP hD hS 0 rfl rfl 0 (by decide) (hw _ q_1261) (fun _ h9 => h9) rfl (by decide +kernel) rfl rfl dX10_pace_2 (fun H locs F1 eF1 hP hD hS => ?_)
  have hP : va_P D vwCl [(h0, .inr (10, vL 67 F1)), (h_s, .inl (cI, 335, .inl f_s)), (h_paceAt, .inl (cI, 40, .inl f_paceAt)), (h_kindOf, .inl (cI, 4, .inl f_kindOf))] H := hP
  have hD : va_D A [(h0, .inr (10, vL 67 F1)), (h_s, .inl (cI, 335, .inl f_s)), (h_paceAt, .inl (cI, 40, .inl f_paceAt)), (h_kindOf, .inl (cI, 4, .inl f_kindOf))] := hD
  refine lv_aload_n hx hb dX10_pace_5 rfl (lv_at hl 0 rfl) ?_
  have n2 : F1 6 = .ref h_s := (get_ne eF1 (by decide) e_s)
  refine call_Vi (wr := [(h_paceAt, .inl (cI, 40, .inl f_paceAt)), (h_kindOf, .inl (cI, 4, .inl f_kindOf))]) (As := []) (rest := []) hx hb hml hown hw (m_X10_hasCrew l D cI cJ cB cP cM cZ h0 h_s F1 f_s _ n2 s_s_K0 s_s_0 s_s_105 s_s_114 s_s_130 s_s_139 s_s_153 s_s_44 s_s_5 s_s_6 s_s_7) wV_X10_281_X10_hasCrew dX10_pace_6 hK hP hD hS hA [0, 1] [2, 3] rfl rfl (by decide) (by decide) (by decide) 0 10 rfl rfl GG.fb hG.at hl.1 rfl (Nat.le_of_ble_eq_true rfl) ⟨(Nat.le_of_ble_eq_true rfl), (Nat.le_of_ble_eq_true rfl)⟩ ⟨(Nat.le_of_ble_eq_true rfl), (Nat.le_of_ble_eq_true rfl)⟩ (fun r3 u H locs hp hP hD hS => ?_)
  rcases hp with ⟨rfl, rfl⟩ | ⟨rfl, rfl⟩
  · have hP : va_P D vwCl [(h_paceAt, .inl (cI, 40, .inl f_paceAt)), (h_kindOf, .inl (cI, 4, .inl f_kindOf)), (h0, .inr (10, vL 67 F1)), (h_s, .inl (cI, 335, .inl f_s))] H := hP
    have hD : va_D A [(h_paceAt, .inl (cI, 40, .inl f_paceAt)), (h_kindOf, .inl (cI, 4, .inl f_kindOf)), (h0, .inr (10, vL 67 F1)), (h_s, .inl (cI, 335, .inl f_s))] := hD
    refine W.widen (k := 0) (n := 0) (Nat.le_of_ble_eq_true rfl) (Nat.le_of_ble_eq_true rfl) ?_
    refine lv_if_eq (tgt := 28) hx hb dX10_pace_9 (by decide) (fun _ => ?_) (fun g => absurd (by decide) g)
    refine lv_iconst (v := (-1)) hx hb dX10_pace_28 (by decide) ?_
    exact ret_i (v := (-1)) hx hb hr hlocks hS (hP.sub (ws' := [(h0, .inr (10, vL 67 F1)), (h_s, .inl (cI, 335, .inl f_s)), (h_paceAt, .inl (cI, 40, .inl f_paceAt)), (h_kindOf, .inl (cI, 4, .inl f_kindOf))]) [2, 3, 0, 1] rfl) (hD.sub (ws' := [(h0, .inr (10, vL 67 F1)), (h_s, .inl (cI, 335, .inl f_s)), (h_paceAt, .inl (cI, 40, .inl f_paceAt)), (h_kindOf, .inl (cI, 4, .inl f_kindOf))]) [2, 3, 0, 1] (by decide) rfl) dX10_pace_29 rfl (Nat.le_of_ble_eq_true rfl) (Nat.le_of_ble_eq_true rfl) ⟨F1, x_lineTime, x_linePace, x_inside, x_late, x_seed, f_paceAt, f_kindOf, (SAME.up eF1 SAME.rf (by decide)), (get_eq eF1), (get_ne eF1 (by decide) e_lineTime), (get_ne eF1 (by decide) e_linePace), (get_ne eF1 (by decide) e_inside), i_x_inside, (get_ne eF1 (by decide) e_late), i_x_late, (get_ne eF1 (by decide) e_seed), rfl⟩
  · have hP : va_P D vwCl [(h_paceAt, .inl (cI, 40, .inl f_paceAt)), (h_kindOf, .inl (cI, 4, .inl f_kindOf)), (h0, .inr (10, vL 67 F1)), (h_s, .inl (cI, 335, .inl f_s))] H := hP
    have hD : va_D A [(h_paceAt, .inl (cI, 40, .inl f_paceAt)), (h_kindOf, .inl (cI, 4, .inl f_kindOf)), (h0, .inr (10, vL 67 F1)), (h_s, .inl (cI, 335, .inl f_s))] := hD
    refine W.widen (k := 0) (n := 0) (Nat.le_of_ble_eq_true rfl) (Nat.le_of_ble_eq_true rfl) ?_
    refine lv_if_eq (tgt := 28) hx hb dX10_pace_9 (by decide) (fun g => absurd g (by decide)) (fun _ => ?_)
    refine lv_iload_n hx hb dX10_pace_12 rfl (lv_at hl 1 rfl) ?_
    refine lv_iconst (v := 0) hx hb dX10_pace_13 (by decide) ?_
    refine lv_aload_n hx hb dX10_pace_14 rfl (lv_at hl 0 rfl) ?_
    refine get_f (D := D) (ci := 10) (v := .ref h_s) (C := RX10) (T := TX10) (N := 67) hx hb hw inAX10 hown hK hP 2 rfl rfl 6 (by decide) (hw _ q_1267) (fun _ h9 => h9) n2 dX10_pace_15 ?_
    refine lv_iconst (v := 0) hx hb dX10_pace_18 (by decide) ?_
    refine iald_n hx hb hK hP 3 0 rfl rfl 0 rfl (Nat.le_of_ble_eq_true rfl) (Nat.le_of_ble_eq_true rfl) rfl dX10_pace_19 ?_
    refine lv_topi (fun v5 ev5 => ?_)
    have k6 : 0 ≤ v5.toInt ∧ v5.toInt ≤ 40 := by rw [ev5]; exact s_s_0.atN 0 (by decide) (by decide)
    refine lv_iconst (v := 1) hx hb dX10_pace_20 (by decide) ?_
    refine lv_isub hx hb dX10_pace_21 ?_
    refine lv_topi (fun v7 ev7 => ?_)
    have bv7 : v7.toInt = v5.toInt - 1 := by rw [ev7]; exact sub_k rfl rfl k6 ⟨Int.le_refl _, Int.le_refl _⟩ (by decide)
    have k8 : (-1) ≤ v7.toInt ∧ v7.toInt ≤ 39 := sub_r bv7 k6 ⟨Int.le_refl _, Int.le_refl _⟩ (by decide)
    refine call_Si (wr := [(h_paceAt, .inl (cI, 40, .inl f_paceAt)), (h_kindOf, .inl (cI, 4, .inl f_kindOf)), (h0, .inr (10, vL 67 F1)), (h_s, .inl (cI, 335, .inl f_s))]) (As := [.int p0, .int 0, .int v7]) (rest := []) hx hb hml hown hw (m_X10_isIn l D cI cJ cB cP cM cZ p0 0 v7 _ ) wS_X10_211_X10_isIn dX10_pace_22 hP hD hS hA [] [0, 1, 2, 3] rfl rfl (by decide) (by decide) (by decide) GG.fb hG.at hl.1 rfl (Nat.le_of_ble_eq_true rfl) ⟨(Nat.le_of_ble_eq_true rfl), (Nat.le_of_ble_eq_true rfl)⟩ ⟨(Nat.le_of_ble_eq_true rfl), (Nat.le_of_ble_eq_true rfl)⟩ (fun r9 u H locs hp hP hD hS => ?_)
    have zl0 : (0 : Int32).toInt = 0 := by decide
    rcases hp with ⟨t10, rfl, rfl⟩ | ⟨t11, t12, rfl, rfl⟩ | ⟨t13, t14, rfl, rfl⟩
    · have hP : va_P D vwCl [(h_paceAt, .inl (cI, 40, .inl f_paceAt)), (h_kindOf, .inl (cI, 4, .inl f_kindOf)), (h0, .inr (10, vL 67 F1)), (h_s, .inl (cI, 335, .inl f_s))] H := hP
      have hD : va_D A [(h_paceAt, .inl (cI, 40, .inl f_paceAt)), (h_kindOf, .inl (cI, 4, .inl f_kindOf)), (h0, .inr (10, vL 67 F1)), (h_s, .inl (cI, 335, .inl f_s))] := hD
      refine W.widen (k := 0) (n := 0) (Nat.le_of_ble_eq_true rfl) (Nat.le_of_ble_eq_true rfl) ?_
      have k16 : (-2147483648) ≤ p0.toInt ∧ p0.toInt ≤ (-1) := ⟨(ir_any _).1, up_lt t10 (Int.le_refl _) (by decide)⟩
      refine lv_if_ne (tgt := 30) hx hb dX10_pace_25 (by decide) (fun g => absurd (by decide) g) (fun _ => ?_)
      refine lv_iconst (v := (-1)) hx hb dX10_pace_28 (by decide) ?_
      exact ret_i (v := (-1)) hx hb hr hlocks hS (hP.sub (ws' := [(h0, .inr (10, vL 67 F1)), (h_s, .inl (cI, 335, .inl f_s)), (h_paceAt, .inl (cI, 40, .inl f_paceAt)), (h_kindOf, .inl (cI, 4, .inl f_kindOf))]) [2, 3, 0, 1] rfl) (hD.sub (ws' := [(h0, .inr (10, vL 67 F1)), (h_s, .inl (cI, 335, .inl f_s)), (h_paceAt, .inl (cI, 40, .inl f_paceAt)), (h_kindOf, .inl (cI, 4, .inl f_kindOf))]) [2, 3, 0, 1] (by decide) rfl) dX10_pace_29 rfl (Nat.le_of_ble_eq_true rfl) (Nat.le_of_ble_eq_true rfl) ⟨F1, x_lineTime, x_linePace, x_inside, x_late, x_seed, f_paceAt, f_kindOf, (SAME.up eF1 SAME.rf (by decide)), (get_eq eF1), (get_ne eF1 (by decide) e_lineTime), (get_ne eF1 (by decide) e_linePace), (get_ne eF1 (by decide) e_inside), i_x_inside, (get_ne eF1 (by decide) e_late), i_x_late, (get_ne eF1 (by decide) e_seed), rfl⟩
    · have hP : va_P D vwCl [(h_paceAt, .inl (cI, 40, .inl f_paceAt)), (h_kindOf, .inl (cI, 4, .inl f_kindOf)), (h0, .inr (10, vL 67 F1)), (h_s, .inl (cI, 335, .inl f_s))] H := hP
      have hD : va_D A [(h_paceAt, .inl (cI, 40, .inl f_paceAt)), (h_kindOf, .inl (cI, 4, .inl f_kindOf)), (h0, .inr (10, vL 67 F1)), (h_s, .inl (cI, 335, .inl f_s))] := hD
      refine W.widen (k := 0) (n := 0) (Nat.le_of_ble_eq_true rfl) (Nat.le_of_ble_eq_true rfl) ?_
      have k17 : 0 ≤ p0.toInt ∧ p0.toInt ≤ 2147483647 := ⟨Int.le_trans (Int.le_refl _) t11, (ir_any _).2⟩
      refine lv_if_ne (tgt := 30) hx hb dX10_pace_25 (by decide) (fun g => absurd (by decide) g) (fun _ => ?_)
      refine lv_iconst (v := (-1)) hx hb dX10_pace_28 (by decide) ?_
      exact ret_i (v := (-1)) hx hb hr hlocks hS (hP.sub (ws' := [(h0, .inr (10, vL 67 F1)), (h_s, .inl (cI, 335, .inl f_s)), (h_paceAt, .inl (cI, 40, .inl f_paceAt)), (h_kindOf, .inl (cI, 4, .inl f_kindOf))]) [2, 3, 0, 1] rfl) (hD.sub (ws' := [(h0, .inr (10, vL 67 F1)), (h_s, .inl (cI, 335, .inl f_s)), (h_paceAt, .inl (cI, 40, .inl f_paceAt)), (h_kindOf, .inl (cI, 4, .inl f_kindOf))]) [2, 3, 0, 1] (by decide) rfl) dX10_pace_29 rfl (Nat.le_of_ble_eq_true rfl) (Nat.le_of_ble_eq_true rfl) ⟨F1, x_lineTime, x_linePace, x_inside, x_late, x_seed, f_paceAt, f_kindOf, (SAME.up eF1 SAME.rf (by decide)), (get_eq eF1), (get_ne eF1 (by decide) e_lineTime), (get_ne eF1 (by decide) e_linePace), (get_ne eF1 (by decide) e_inside), i_x_inside, (get_ne eF1 (by decide) e_late), i_x_late, (get_ne eF1 (by decide) e_seed), rfl⟩
    · have hP : va_P D vwCl [(h_paceAt, .inl (cI, 40, .inl f_paceAt)), (h_kindOf, .inl (cI, 4, .inl f_kindOf)), (h0, .inr (10, vL 67 F1)), (h_s, .inl (cI, 335, .inl f_s))] H := hP
      have hD : va_D A [(h_paceAt, .inl (cI, 40, .inl f_paceAt)), (h_kindOf, .inl (cI, 4, .inl f_kindOf)), (h0, .inr (10, vL 67 F1)), (h_s, .inl (cI, 335, .inl f_s))] := hD
      refine W.widen (k := 0) (n := 0) (Nat.le_of_ble_eq_true rfl) (Nat.le_of_ble_eq_true rfl) ?_
      have k18 : 0 ≤ p0.toInt ∧ p0.toInt ≤ 2147483647 := ⟨Int.le_trans (Int.le_refl _) t13, (ir_any _).2⟩
      have k19 : 0 ≤ p0.toInt ∧ p0.toInt ≤ 39 := ⟨k18.1, Int.le_trans t14 k8.2⟩
      have k20 : 0 ≤ v7.toInt ∧ v7.toInt ≤ 39 := ⟨Int.le_trans k18.1 t14, k8.2⟩
      have k21 : 1 ≤ v5.toInt ∧ v5.toInt ≤ 40 := ⟨lin_lo (lin_m bv7) k20.1 (by decide), k6.2⟩
      refine lv_if_ne (tgt := 30) hx hb dX10_pace_25 (by decide) (fun _ => ?_) (fun g => absurd g (by decide))
      refine lv_aload_n hx hb dX10_pace_30 rfl (lv_at hl 0 rfl) ?_
      have n22 : F1 25 = .ref h_paceAt := (get_ne eF1 (by decide) e_paceAt)
      have n23 : F1 26 = .ref h_kindOf := (get_ne eF1 (by decide) e_kindOf)
      have n24 : F1 31 = .int x_seed := (get_ne eF1 (by decide) e_seed)
      have n25 : F1 32 = .int x_kicks := (get_ne eF1 (by decide) e_kicks)
      refine call_Vv (wr := []) (As := []) (rest := []) hx hb hml hown hw (m_X10_starts l D cI cJ cB cP cM cZ h0 h_s h_paceAt h_kindOf F1 x_seed x_kicks f_s f_paceAt f_kindOf _ n2 n22 n23 n24 n25 i_x_kicks s_s_K0 s_s_0 s_s_105 s_s_114 s_s_130 s_s_139 s_s_153 s_s_44 s_s_5 s_s_6 s_s_7) wV_X10_340_X10_starts dX10_pace_31 hK hP hD hS hA [2, 3, 0, 1] [] rfl rfl (by decide) (by decide) (by decide) 0 10 rfl rfl GG.fb hG.at hl.1 rfl (Nat.le_of_ble_eq_true rfl) ⟨(Nat.le_of_ble_eq_true rfl), (Nat.le_of_ble_eq_true rfl)⟩ ⟨(Nat.le_of_ble_eq_true rfl), (Nat.le_of_ble_eq_true rfl)⟩ (fun u H locs hp hP hD hS => ?_)
      obtain ⟨F27, y28, y29, y30, y31, y32, g33, g34, t35, t36, t37, t38, t39, t40, t41, t42, t43, rfl⟩ := hp
      have hP : va_P D vwCl [(h0, .inr (10, vL 67 F27)), (h_s, .inl (cI, 335, .inl f_s)), (h_paceAt, .inl (cI, 40, .inl g33)), (h_kindOf, .inl (cI, 4, .inl g34))] H := hP
      have hD : va_D A [(h0, .inr (10, vL 67 F27)), (h_s, .inl (cI, 335, .inl f_s)), (h_paceAt, .inl (cI, 40, .inl g33)), (h_kindOf, .inl (cI, 4, .inl g34))] := hD
      refine W.widen (k := 0) (n := 0) (Nat.le_of_ble_eq_true rfl) (Nat.le_of_ble_eq_true rfl) ?_
      refine lv_aload_n hx hb dX10_pace_34 rfl (lv_at hl 0 rfl) ?_
      have n45 : F27 25 = .ref h_paceAt := (SAME.at t35 (by decide) n22)
      refine get_f (D := D) (ci := 10) (v := .ref h_paceAt) (C := RX10) (T := TX10) (N := 67) hx hb hw inAX10 hown hK hP 0 rfl rfl 25 (by decide) (hw _ q_1286) (fun _ h9 => h9) n45 dX10_pace_35 ?_
      refine lv_iload_n hx hb dX10_pace_38 rfl (lv_at hl 1 rfl) ?_
      refine va_iald hx hb hK hP 2 0 rfl rfl (ix_k k19 (by decide) (by decide)) dX10_pace_39 ?_
      refine lv_topi (fun v46 ev46 => ?_)
      exact ret_i (v := v46) hx hb hr hlocks hS hP hD dX10_pace_40 rfl (Nat.le_of_ble_eq_true rfl) (Nat.le_of_ble_eq_true rfl) ⟨F27, y28, y29, y30, y31, y32, g33, g34, (SAME.tr (SAME.up eF1 SAME.rf (by decide)) t35 (by decide)), (SAME.at t35 (by decide) (get_eq eF1)), t36, t37, t39, t40, t41, t42, t43, rfl⟩
set_option maxHeartbeats 4000000 in
set_option maxRecDepth 100000 in
theorem m_X10_jumps (l : Launch) (D : va_G) (cI cJ cB cP cM cZ : ClassId) (h0 : Nat) (h_s : Nat) (h_paceAt : Nat) (h_kindOf : Nat) (Fh : Nat → Value) (x_lineTime : Int32) (x_linePace : Int32) (x_inside : Int32) (x_late : Int32) (x_seed : Int32) (x_kicks : Int32) (f_s : Nat → Int32) (f_paceAt : Nat → Int32) (f_kindOf : Nat → Int32) (p0 : Int32) (sz : Nat) (e_s : Fh 6 = .ref h_s) (e_paceAt : Fh 25 = .ref h_paceAt) (e_kindOf : Fh 26 = .ref h_kindOf) (e_lineTime : Fh 27 = .int x_lineTime) (e_linePace : Fh 28 = .int x_linePace) (e_inside : Fh 29 = .int x_inside) (i_x_inside : IR 0 15 x_inside) (e_late : Fh 30 = .int x_late) (i_x_late : IR 0 15 x_late) (e_seed : Fh 31 = .int x_seed) (e_kicks : Fh 32 = .int x_kicks) (i_x_kicks : IR 0 1 x_kicks) (s_s_K0 : KW 0 f_s) (s_s_0 : SG 0 0 0 40 f_s) (s_s_105 : SG 105 108 0 11 f_s) (s_s_114 : SG 114 114 0 5 f_s) (s_s_130 : SG 130 133 0 11 f_s) (s_s_139 : SG 139 139 0 5 f_s) (s_s_153 : SG 153 153 0 44 f_s) (s_s_44 : SG 44 55 0 9 f_s) (s_s_5 : SG 5 5 0 12 f_s) (s_s_6 : SG 6 6 0 12 f_s) (s_s_7 : SG 7 7 0 6 f_s) : CI l yX10_jumps cX10_jumps 2 (some .int) { frames := 4, cells := 0, slots := 0, locals := 94 } (GG D cI cJ cB cP cM cZ) D [(h0, .inr (10, vL 67 Fh)), (h_s, .inl (cI, 335, .inl f_s)), (h_paceAt, .inl (cI, 40, .inl f_paceAt)), (h_kindOf, .inl (cI, 4, .inl f_kindOf))] sz [.ref h0, .int p0] (fun (r : Int32) (u : va_W) => ∃ (Gh : Nat → Value) (y_lineTime : Int32) (y_linePace : Int32) (y_inside : Int32) (y_late : Int32) (y_seed : Int32) (g_paceAt : Nat → Int32) (g_kindOf : Nat → Int32), SAME [0, 27, 28, 29, 30, 31] Fh Gh ∧ Gh 0 = .int 0 ∧ Gh 27 = .int y_lineTime ∧ Gh 28 = .int y_linePace ∧ Gh 29 = .int y_inside ∧ IR 0 15 y_inside ∧ Gh 30 = .int y_late ∧ IR 0 15 y_late ∧ Gh 31 = .int y_seed ∧ u = [(h0, .inr (10, vL 67 Gh)), (h_s, .inl (cI, 335, .inl f_s)), (h_paceAt, .inl (cI, 40, .inl g_paceAt)), (h_kindOf, .inl (cI, 4, .inl g_kindOf))]) := by
  refine CI_mk (by decide) (Nat.le_of_ble_eq_true rfl) ?_
  intro p e s m below meth c A ls E hAe hG hsz hP hD hA hS hl
  obtain ⟨hx, hb, hr, hw, hown, hlocks, hml, hnm⟩ := E
  have hK := hG.1
  have i_x_inside : 0 ≤ x_inside.toInt ∧ x_inside.toInt ≤ 15 := i_x_inside
  have i_x_late : 0 ≤ x_late.toInt ∧ x_late.toInt ≤ 15 := i_x_late
  have i_x_kicks : 0 ≤ x_kicks.toInt ∧ x_kicks.toInt ≤ 1 := i_x_kicks
  have hl : lv_has ls 2 [(0, .ref h0), (1, .int p0)] := hl
  refine lv_aload_n hx hb dX10_jumps_0 rfl (lv_at hl 0 rfl) ?_
  refine lv_iconst (v := 0) hx hb dX10_jumps_1 (by decide) ?_
  refine put_f (D := D) (ci := 10) (v := .int 0) (ty := .int) (C := RX10) (T := TX10) (N := 67) hx hb hw inAX10 tyX10 tyX10_ok nmX10 hown hK hP hD hS 0 rfl rfl 0 (by decide) (hw _ q_1261) (fun _ h9 => h9) rfl (by decide +kernel) rfl rfl dX10_jumps_2 (fun H locs F1 eF1 hP hD hS => ?_)
  have hP : va_P D vwCl [(h0, .inr (10, vL 67 F1)), (h_s, .inl (cI, 335, .inl f_s)), (h_paceAt, .inl (cI, 40, .inl f_paceAt)), (h_kindOf, .inl (cI, 4, .inl f_kindOf))] H := hP
  have hD : va_D A [(h0, .inr (10, vL 67 F1)), (h_s, .inl (cI, 335, .inl f_s)), (h_paceAt, .inl (cI, 40, .inl f_paceAt)), (h_kindOf, .inl (cI, 4, .inl f_kindOf))] := hD
  refine lv_aload_n hx hb dX10_jumps_5 rfl (lv_at hl 0 rfl) ?_
  have n2 : F1 6 = .ref h_s := (get_ne eF1 (by decide) e_s)
  refine call_Vi (wr := [(h_paceAt, .inl (cI, 40, .inl f_paceAt)), (h_kindOf, .inl (cI, 4, .inl f_kindOf))]) (As := []) (rest := []) hx hb hml hown hw (m_X10_hasCrew l D cI cJ cB cP cM cZ h0 h_s F1 f_s _ n2 s_s_K0 s_s_0 s_s_105 s_s_114 s_s_130 s_s_139 s_s_153 s_s_44 s_s_5 s_s_6 s_s_7) wV_X10_281_X10_hasCrew dX10_jumps_6 hK hP hD hS hA [0, 1] [2, 3] rfl rfl (by decide) (by decide) (by decide) 0 10 rfl rfl GG.fb hG.at hl.1 rfl (Nat.le_of_ble_eq_true rfl) ⟨(Nat.le_of_ble_eq_true rfl), (Nat.le_of_ble_eq_true rfl)⟩ ⟨(Nat.le_of_ble_eq_true rfl), (Nat.le_of_ble_eq_true rfl)⟩ (fun r3 u H locs hp hP hD hS => ?_)
  rcases hp with ⟨rfl, rfl⟩ | ⟨rfl, rfl⟩
  · have hP : va_P D vwCl [(h_paceAt, .inl (cI, 40, .inl f_paceAt)), (h_kindOf, .inl (cI, 4, .inl f_kindOf)), (h0, .inr (10, vL 67 F1)), (h_s, .inl (cI, 335, .inl f_s))] H := hP
    have hD : va_D A [(h_paceAt, .inl (cI, 40, .inl f_paceAt)), (h_kindOf, .inl (cI, 4, .inl f_kindOf)), (h0, .inr (10, vL 67 F1)), (h_s, .inl (cI, 335, .inl f_s))] := hD
    refine W.widen (k := 0) (n := 0) (Nat.le_of_ble_eq_true rfl) (Nat.le_of_ble_eq_true rfl) ?_
    refine lv_if_eq (tgt := 21) hx hb dX10_jumps_9 (by decide) (fun _ => ?_) (fun g => absurd (by decide) g)
    refine lv_iconst (v := (-1)) hx hb dX10_jumps_21 (by decide) ?_
    exact ret_i (v := (-1)) hx hb hr hlocks hS (hP.sub (ws' := [(h0, .inr (10, vL 67 F1)), (h_s, .inl (cI, 335, .inl f_s)), (h_paceAt, .inl (cI, 40, .inl f_paceAt)), (h_kindOf, .inl (cI, 4, .inl f_kindOf))]) [2, 3, 0, 1] rfl) (hD.sub (ws' := [(h0, .inr (10, vL 67 F1)), (h_s, .inl (cI, 335, .inl f_s)), (h_paceAt, .inl (cI, 40, .inl f_paceAt)), (h_kindOf, .inl (cI, 4, .inl f_kindOf))]) [2, 3, 0, 1] (by decide) rfl) dX10_jumps_22 rfl (Nat.le_of_ble_eq_true rfl) (Nat.le_of_ble_eq_true rfl) ⟨F1, x_lineTime, x_linePace, x_inside, x_late, x_seed, f_paceAt, f_kindOf, (SAME.up eF1 SAME.rf (by decide)), (get_eq eF1), (get_ne eF1 (by decide) e_lineTime), (get_ne eF1 (by decide) e_linePace), (get_ne eF1 (by decide) e_inside), i_x_inside, (get_ne eF1 (by decide) e_late), i_x_late, (get_ne eF1 (by decide) e_seed), rfl⟩
  · have hP : va_P D vwCl [(h_paceAt, .inl (cI, 40, .inl f_paceAt)), (h_kindOf, .inl (cI, 4, .inl f_kindOf)), (h0, .inr (10, vL 67 F1)), (h_s, .inl (cI, 335, .inl f_s))] H := hP
    have hD : va_D A [(h_paceAt, .inl (cI, 40, .inl f_paceAt)), (h_kindOf, .inl (cI, 4, .inl f_kindOf)), (h0, .inr (10, vL 67 F1)), (h_s, .inl (cI, 335, .inl f_s))] := hD
    refine W.widen (k := 0) (n := 0) (Nat.le_of_ble_eq_true rfl) (Nat.le_of_ble_eq_true rfl) ?_
    refine lv_if_eq (tgt := 21) hx hb dX10_jumps_9 (by decide) (fun g => absurd g (by decide)) (fun _ => ?_)
    refine lv_iload_n hx hb dX10_jumps_12 rfl (lv_at hl 1 rfl) ?_
    refine lv_iconst (v := 0) hx hb dX10_jumps_13 (by decide) ?_
    refine lv_iconst (v := 3) hx hb dX10_jumps_14 (by decide) ?_
    refine call_Si (wr := [(h_paceAt, .inl (cI, 40, .inl f_paceAt)), (h_kindOf, .inl (cI, 4, .inl f_kindOf)), (h0, .inr (10, vL 67 F1)), (h_s, .inl (cI, 335, .inl f_s))]) (As := [.int p0, .int 0, .int 3]) (rest := []) hx hb hml hown hw (m_X10_isIn l D cI cJ cB cP cM cZ p0 0 3 _ ) wS_X10_211_X10_isIn dX10_jumps_15 hP hD hS hA [] [0, 1, 2, 3] rfl rfl (by decide) (by decide) (by decide) GG.fb hG.at hl.1 rfl (Nat.le_of_ble_eq_true rfl) ⟨(Nat.le_of_ble_eq_true rfl), (Nat.le_of_ble_eq_true rfl)⟩ ⟨(Nat.le_of_ble_eq_true rfl), (Nat.le_of_ble_eq_true rfl)⟩ (fun r5 u H locs hp hP hD hS => ?_)
    have zl0 : (0 : Int32).toInt = 0 := by decide
    have zl3 : (3 : Int32).toInt = 3 := by decide
    rcases hp with ⟨t6, rfl, rfl⟩ | ⟨t7, t8, rfl, rfl⟩ | ⟨t9, t10, rfl, rfl⟩
    · have hP : va_P D vwCl [(h_paceAt, .inl (cI, 40, .inl f_paceAt)), (h_kindOf, .inl (cI, 4, .inl f_kindOf)), (h0, .inr (10, vL 67 F1)), (h_s, .inl (cI, 335, .inl f_s))] H := hP
      have hD : va_D A [(h_paceAt, .inl (cI, 40, .inl f_paceAt)), (h_kindOf, .inl (cI, 4, .inl f_kindOf)), (h0, .inr (10, vL 67 F1)), (h_s, .inl (cI, 335, .inl f_s))] := hD
      refine W.widen (k := 0) (n := 0) (Nat.le_of_ble_eq_true rfl) (Nat.le_of_ble_eq_true rfl) ?_
      have k12 : (-2147483648) ≤ p0.toInt ∧ p0.toInt ≤ (-1) := ⟨(ir_any _).1, up_lt t6 (Int.le_refl _) (by decide)⟩
      refine lv_if_ne (tgt := 23) hx hb dX10_jumps_18 (by decide) (fun g => absurd (by decide) g) (fun _ => ?_)
      refine lv_iconst (v := (-1)) hx hb dX10_jumps_21 (by decide) ?_
      exact ret_i (v := (-1)) hx hb hr hlocks hS (hP.sub (ws' := [(h0, .inr (10, vL 67 F1)), (h_s, .inl (cI, 335, .inl f_s)), (h_paceAt, .inl (cI, 40, .inl f_paceAt)), (h_kindOf, .inl (cI, 4, .inl f_kindOf))]) [2, 3, 0, 1] rfl) (hD.sub (ws' := [(h0, .inr (10, vL 67 F1)), (h_s, .inl (cI, 335, .inl f_s)), (h_paceAt, .inl (cI, 40, .inl f_paceAt)), (h_kindOf, .inl (cI, 4, .inl f_kindOf))]) [2, 3, 0, 1] (by decide) rfl) dX10_jumps_22 rfl (Nat.le_of_ble_eq_true rfl) (Nat.le_of_ble_eq_true rfl) ⟨F1, x_lineTime, x_linePace, x_inside, x_late, x_seed, f_paceAt, f_kindOf, (SAME.up eF1 SAME.rf (by decide)), (get_eq eF1), (get_ne eF1 (by decide) e_lineTime), (get_ne eF1 (by decide) e_linePace), (get_ne eF1 (by decide) e_inside), i_x_inside, (get_ne eF1 (by decide) e_late), i_x_late, (get_ne eF1 (by decide) e_seed), rfl⟩
    · have hP : va_P D vwCl [(h_paceAt, .inl (cI, 40, .inl f_paceAt)), (h_kindOf, .inl (cI, 4, .inl f_kindOf)), (h0, .inr (10, vL 67 F1)), (h_s, .inl (cI, 335, .inl f_s))] H := hP
      have hD : va_D A [(h_paceAt, .inl (cI, 40, .inl f_paceAt)), (h_kindOf, .inl (cI, 4, .inl f_kindOf)), (h0, .inr (10, vL 67 F1)), (h_s, .inl (cI, 335, .inl f_s))] := hD
      refine W.widen (k := 0) (n := 0) (Nat.le_of_ble_eq_true rfl) (Nat.le_of_ble_eq_true rfl) ?_
      have k13 : 0 ≤ p0.toInt ∧ p0.toInt ≤ 2147483647 := ⟨Int.le_trans (Int.le_refl _) t7, (ir_any _).2⟩
      have k14 : 4 ≤ p0.toInt ∧ p0.toInt ≤ 2147483647 := ⟨lo_lt t8 (Int.le_refl _) (by decide), k13.2⟩
      refine lv_if_ne (tgt := 23) hx hb dX10_jumps_18 (by decide) (fun g => absurd (by decide) g) (fun _ => ?_)
      refine lv_iconst (v := (-1)) hx hb dX10_jumps_21 (by decide) ?_
      exact ret_i (v := (-1)) hx hb hr hlocks hS (hP.sub (ws' := [(h0, .inr (10, vL 67 F1)), (h_s, .inl (cI, 335, .inl f_s)), (h_paceAt, .inl (cI, 40, .inl f_paceAt)), (h_kindOf, .inl (cI, 4, .inl f_kindOf))]) [2, 3, 0, 1] rfl) (hD.sub (ws' := [(h0, .inr (10, vL 67 F1)), (h_s, .inl (cI, 335, .inl f_s)), (h_paceAt, .inl (cI, 40, .inl f_paceAt)), (h_kindOf, .inl (cI, 4, .inl f_kindOf))]) [2, 3, 0, 1] (by decide) rfl) dX10_jumps_22 rfl (Nat.le_of_ble_eq_true rfl) (Nat.le_of_ble_eq_true rfl) ⟨F1, x_lineTime, x_linePace, x_inside, x_late, x_seed, f_paceAt, f_kindOf, (SAME.up eF1 SAME.rf (by decide)), (get_eq eF1), (get_ne eF1 (by decide) e_lineTime), (get_ne eF1 (by decide) e_linePace), (get_ne eF1 (by decide) e_inside), i_x_inside, (get_ne eF1 (by decide) e_late), i_x_late, (get_ne eF1 (by decide) e_seed), rfl⟩
    · have hP : va_P D vwCl [(h_paceAt, .inl (cI, 40, .inl f_paceAt)), (h_kindOf, .inl (cI, 4, .inl f_kindOf)), (h0, .inr (10, vL 67 F1)), (h_s, .inl (cI, 335, .inl f_s))] H := hP
      have hD : va_D A [(h_paceAt, .inl (cI, 40, .inl f_paceAt)), (h_kindOf, .inl (cI, 4, .inl f_kindOf)), (h0, .inr (10, vL 67 F1)), (h_s, .inl (cI, 335, .inl f_s))] := hD
      refine W.widen (k := 0) (n := 0) (Nat.le_of_ble_eq_true rfl) (Nat.le_of_ble_eq_true rfl) ?_
      have k15 : 0 ≤ p0.toInt ∧ p0.toInt ≤ 2147483647 := ⟨Int.le_trans (Int.le_refl _) t9, (ir_any _).2⟩
      have k16 : 0 ≤ p0.toInt ∧ p0.toInt ≤ 3 := ⟨k15.1, Int.le_trans t10 (Int.le_refl _)⟩
      refine lv_if_ne (tgt := 23) hx hb dX10_jumps_18 (by decide) (fun _ => ?_) (fun g => absurd g (by decide))
      refine lv_aload_n hx hb dX10_jumps_23 rfl (lv_at hl 0 rfl) ?_
      have n17 : F1 25 = .ref h_paceAt := (get_ne eF1 (by decide) e_paceAt)
      have n18 : F1 26 = .ref h_kindOf := (get_ne eF1 (by decide) e_kindOf)
      have n19 : F1 31 = .int x_seed := (get_ne eF1 (by decide) e_seed)
      have n20 : F1 32 = .int x_kicks := (get_ne eF1 (by decide) e_kicks)
      refine call_Vv (wr := []) (As := []) (rest := []) hx hb hml hown hw (m_X10_starts l D cI cJ cB cP cM cZ h0 h_s h_paceAt h_kindOf F1 x_seed x_kicks f_s f_paceAt f_kindOf _ n2 n17 n18 n19 n20 i_x_kicks s_s_K0 s_s_0 s_s_105 s_s_114 s_s_130 s_s_139 s_s_153 s_s_44 s_s_5 s_s_6 s_s_7) wV_X10_340_X10_starts dX10_jumps_24 hK hP hD hS hA [2, 3, 0, 1] [] rfl rfl (by decide) (by decide) (by decide) 0 10 rfl rfl GG.fb hG.at hl.1 rfl (Nat.le_of_ble_eq_true rfl) ⟨(Nat.le_of_ble_eq_true rfl), (Nat.le_of_ble_eq_true rfl)⟩ ⟨(Nat.le_of_ble_eq_true rfl), (Nat.le_of_ble_eq_true rfl)⟩ (fun u H locs hp hP hD hS => ?_)
      obtain ⟨F22, y23, y24, y25, y26, y27, g28, g29, t30, t31, t32, t33, t34, t35, t36, t37, t38, rfl⟩ := hp
      have hP : va_P D vwCl [(h0, .inr (10, vL 67 F22)), (h_s, .inl (cI, 335, .inl f_s)), (h_paceAt, .inl (cI, 40, .inl g28)), (h_kindOf, .inl (cI, 4, .inl g29))] H := hP
      have hD : va_D A [(h0, .inr (10, vL 67 F22)), (h_s, .inl (cI, 335, .inl f_s)), (h_paceAt, .inl (cI, 40, .inl g28)), (h_kindOf, .inl (cI, 4, .inl g29))] := hD
      refine W.widen (k := 0) (n := 0) (Nat.le_of_ble_eq_true rfl) (Nat.le_of_ble_eq_true rfl) ?_
      refine lv_aload_n hx hb dX10_jumps_27 rfl (lv_at hl 0 rfl) ?_
      have n40 : F22 26 = .ref h_kindOf := (SAME.at t30 (by decide) n18)
      refine get_f (D := D) (ci := 10) (v := .ref h_kindOf) (C := RX10) (T := TX10) (N := 67) hx hb hw inAX10 hown hK hP 0 rfl rfl 26 (by decide) (hw _ q_1287) (fun _ h9 => h9) n40 dX10_jumps_28 ?_
      refine lv_iload_n hx hb dX10_jumps_31 rfl (lv_at hl 1 rfl) ?_
      refine va_iald hx hb hK hP 3 0 rfl rfl (ix_k k16 (by decide) (by decide)) dX10_jumps_32 ?_
      refine lv_topi (fun v41 ev41 => ?_)
      exact ret_i (v := v41) hx hb hr hlocks hS hP hD dX10_jumps_33 rfl (Nat.le_of_ble_eq_true rfl) (Nat.le_of_ble_eq_true rfl) ⟨F22, y23, y24, y25, y26, y27, g28, g29, (SAME.tr (SAME.up eF1 SAME.rf (by decide)) t30 (by decide)), (SAME.at t30 (by decide) (get_eq eF1)), t31, t32, t34, t35, t36, t37, t38, rfl⟩
def fn_X10_inBend (f_s : Nat → Int32) (p0 : Int32) (p1 : Int32) (p2 : Int32) (p3 : Int32) (p4 : Int32) : Int32 := (if (f_s 7) ≤ (0 : Int32) then (fn_X10_bounded ((((((p1 + (((f_s ((56 : Int32) + p0).toNatClampNeg) * p2) / (100 : Int32))) - ((3 : Int32) * (fn_X10_off p4 (f_s ((68 : Int32) + p0).toNatClampNeg)))) - ((2 : Int32) * (fn_X10_off p4 p3))) - (f_s 3)) - ((f_s 115) / (5 : Int32))) - (0 : Int32))) else (fn_X10_bounded ((((((p1 + (((f_s ((56 : Int32) + p0).toNatClampNeg) * p2) / (100 : Int32))) - ((3 : Int32) * (fn_X10_off p4 (f_s ((68 : Int32) + p0).toNatClampNeg)))) - ((2 : Int32) * (fn_X10_off p4 p3))) - (f_s 3)) - ((f_s 115) / (5 : Int32))) - (fn_X10_takenBy f_s (f_s 114)))))
set_option maxHeartbeats 4000000 in
set_option maxRecDepth 100000 in
theorem m_X10_inBend (l : Launch) (D : va_G) (cI cJ cB cP cM cZ : ClassId) (h0 : Nat) (h_s : Nat) (Fh : Nat → Value) (f_s : Nat → Int32) (p0 : Int32) (p1 : Int32) (p2 : Int32) (p3 : Int32) (p4 : Int32) (sz : Nat) (e_s : Fh 6 = .ref h_s) (s_s_K0 : KW 0 f_s) (s_s_0 : SG 0 0 0 40 f_s) (s_s_105 : SG 105 108 0 11 f_s) (s_s_114 : SG 114 114 0 5 f_s) (s_s_130 : SG 130 133 0 11 f_s) (s_s_139 : SG 139 139 0 5 f_s) (s_s_153 : SG 153 153 0 44 f_s) (s_s_44 : SG 44 55 0 9 f_s) (s_s_5 : SG 5 5 0 12 f_s) (s_s_6 : SG 6 6 0 12 f_s) (s_s_7 : SG 7 7 0 6 f_s) (i_p0 : IR 0 11 p0) : CI l yX10_inBend cX10_inBend 7 (some .int) { frames := 2, cells := 0, slots := 0, locals := 42 } (GG D cI cJ cB cP cM cZ) D [(h0, .inr (10, vL 67 Fh)), (h_s, .inl (cI, 335, .inl f_s))] sz [.ref h0, .int p0, .int p1, .int p2, .int p3, .int p4] (fun (r : Int32) (u : va_W) => IR 10 250 r ∧ r = fn_X10_inBend f_s p0 p1 p2 p3 p4 ∧ u = [(h0, .inr (10, vL 67 Fh)), (h_s, .inl (cI, 335, .inl f_s))]) := by
  refine CI_mk (by decide) (Nat.le_of_ble_eq_true rfl) ?_
  intro p e s m below meth c A ls E hAe hG hsz hP hD hA hS hl
  obtain ⟨hx, hb, hr, hw, hown, hlocks, hml, hnm⟩ := E
  have hK := hG.1
  have i_p0 : 0 ≤ p0.toInt ∧ p0.toInt ≤ 11 := i_p0
  have hl : lv_has ls 7 [(0, .ref h0), (1, .int p0), (2, .int p1), (3, .int p2), (4, .int p3), (5, .int p4)] := hl
  refine lv_iload_n hx hb dX10_inBend_0 rfl (lv_at hl 2 rfl) ?_
  refine lv_aload_n hx hb dX10_inBend_1 rfl (lv_at hl 0 rfl) ?_
  refine get_f (D := D) (ci := 10) (v := .ref h_s) (C := RX10) (T := TX10) (N := 67) hx hb hw inAX10 hown hK hP 0 rfl rfl 6 (by decide) (hw _ q_1267) (fun _ h9 => h9) e_s dX10_inBend_2 ?_
  refine lv_bipush (v := 56) hx hb dX10_inBend_5 (by decide) ?_
  refine lv_iload_n hx hb dX10_inBend_7 rfl (lv_at hl 1 rfl) ?_
  refine lv_iadd hx hb dX10_inBend_8 ?_
  refine lv_topi (fun v1 ev1 => ?_)
  have bv1 : v1.toInt = 56 + p0.toInt := by rw [ev1]; exact add_k rfl rfl ⟨Int.le_refl _, Int.le_refl _⟩ i_p0 (by decide)
  have k2 : 56 ≤ v1.toInt ∧ v1.toInt ≤ 67 := add_r bv1 ⟨Int.le_refl _, Int.le_refl _⟩ i_p0 (by decide)
  refine va_iald hx hb hK hP 1 0 rfl rfl (ix_k k2 (by decide) (by decide)) dX10_inBend_9 ?_
  refine lv_topi (fun v3 ev3 => ?_)
  refine lv_iload_n hx hb dX10_inBend_10 rfl (lv_at hl 3 rfl) ?_
  refine lv_imul hx hb dX10_inBend_11 ?_
  refine lv_topi (fun v4 ev4 => ?_)
  refine lv_bipush (v := 100) hx hb dX10_inBend_12 (by decide) ?_
  refine lv_idiv hx hb dX10_inBend_14 (by decide) ?_
  refine lv_topi (fun v5 ev5 => ?_)
  refine lv_iadd hx hb dX10_inBend_15 ?_
  refine lv_topi (fun v6 ev6 => ?_)
  refine lv_iconst (v := 3) hx hb dX10_inBend_16 (by decide) ?_
  refine lv_iload hx hb dX10_inBend_17 (lv_at hl 5 rfl) ?_
  refine lv_aload_n hx hb dX10_inBend_19 rfl (lv_at hl 0 rfl) ?_
  refine get_f (D := D) (ci := 10) (v := .ref h_s) (C := RX10) (T := TX10) (N := 67) hx hb hw inAX10 hown hK hP 0 rfl rfl 6 (by decide) (hw _ q_1267) (fun _ h9 => h9) e_s dX10_inBend_20 ?_
  refine lv_bipush (v := 68) hx hb dX10_inBend_23 (by decide) ?_
  refine lv_iload_n hx hb dX10_inBend_25 rfl (lv_at hl 1 rfl) ?_
  refine lv_iadd hx hb dX10_inBend_26 ?_
  refine lv_topi (fun v7 ev7 => ?_)
  have bv7 : v7.toInt = 68 + p0.toInt := by rw [ev7]; exact add_k rfl rfl ⟨Int.le_refl _, Int.le_refl _⟩ i_p0 (by decide)
  have k8 : 68 ≤ v7.toInt ∧ v7.toInt ≤ 79 := add_r bv7 ⟨Int.le_refl _, Int.le_refl _⟩ i_p0 (by decide)
  refine va_iald hx hb hK hP 1 0 rfl rfl (ix_k k8 (by decide) (by decide)) dX10_inBend_27 ?_
  refine lv_topi (fun v9 ev9 => ?_)
  refine call_Si (wr := [(h0, .inr (10, vL 67 Fh)), (h_s, .inl (cI, 335, .inl f_s))]) (As := [.int p4, .int v9]) (rest := [.int 3, .int v6]) hx hb hml hown hw (m_X10_off l D cI cJ cB cP cM cZ p4 v9 _ ) wS_X10_295_X10_off dX10_inBend_28 hP hD hS hA [] [0, 1] rfl rfl (by decide) (by decide) (by decide) GG.fb hG.at hl.1 rfl (Nat.le_of_ble_eq_true rfl) ⟨(Nat.le_of_ble_eq_true rfl), (Nat.le_of_ble_eq_true rfl)⟩ ⟨(Nat.le_of_ble_eq_true rfl), (Nat.le_of_ble_eq_true rfl)⟩ (fun r10 u H locs hp hP hD hS => ?_)
  obtain ⟨t11, rfl⟩ := hp
  have hP : va_P D vwCl [(h0, .inr (10, vL 67 Fh)), (h_s, .inl (cI, 335, .inl f_s))] H := hP
  have hD : va_D A [(h0, .inr (10, vL 67 Fh)), (h_s, .inl (cI, 335, .inl f_s))] := hD
  refine W.widen (k := 0) (n := 0) (Nat.le_of_ble_eq_true rfl) (Nat.le_of_ble_eq_true rfl) ?_
  refine lv_imul hx hb dX10_inBend_31 ?_
  refine lv_topi (fun v13 ev13 => ?_)
  refine lv_isub hx hb dX10_inBend_32 ?_
  refine lv_topi (fun v14 ev14 => ?_)
  refine lv_iconst (v := 2) hx hb dX10_inBend_33 (by decide) ?_
  refine lv_iload hx hb dX10_inBend_34 (lv_at hl 5 rfl) ?_
  refine lv_iload hx hb dX10_inBend_36 (lv_at hl 4 rfl) ?_
  refine call_Si (wr := [(h0, .inr (10, vL 67 Fh)), (h_s, .inl (cI, 335, .inl f_s))]) (As := [.int p4, .int p3]) (rest := [.int 2, .int v14]) hx hb hml hown hw (m_X10_off l D cI cJ cB cP cM cZ p4 p3 _ ) wS_X10_295_X10_off dX10_inBend_38 hP hD hS hA [] [0, 1] rfl rfl (by decide) (by decide) (by decide) GG.fb hG.at hl.1 rfl (Nat.le_of_ble_eq_true rfl) ⟨(Nat.le_of_ble_eq_true rfl), (Nat.le_of_ble_eq_true rfl)⟩ ⟨(Nat.le_of_ble_eq_true rfl), (Nat.le_of_ble_eq_true rfl)⟩ (fun r15 u H locs hp hP hD hS => ?_)
  obtain ⟨t16, rfl⟩ := hp
  have hP : va_P D vwCl [(h0, .inr (10, vL 67 Fh)), (h_s, .inl (cI, 335, .inl f_s))] H := hP
  have hD : va_D A [(h0, .inr (10, vL 67 Fh)), (h_s, .inl (cI, 335, .inl f_s))] := hD
  refine W.widen (k := 0) (n := 0) (Nat.le_of_ble_eq_true rfl) (Nat.le_of_ble_eq_true rfl) ?_
  refine lv_imul hx hb dX10_inBend_41 ?_
  refine lv_topi (fun v18 ev18 => ?_)
  refine lv_isub hx hb dX10_inBend_42 ?_
  refine lv_topi (fun v19 ev19 => ?_)
  refine lv_aload_n hx hb dX10_inBend_43 rfl (lv_at hl 0 rfl) ?_
  refine get_f (D := D) (ci := 10) (v := .ref h_s) (C := RX10) (T := TX10) (N := 67) hx hb hw inAX10 hown hK hP 0 rfl rfl 6 (by decide) (hw _ q_1267) (fun _ h9 => h9) e_s dX10_inBend_44 ?_
  refine lv_iconst (v := 3) hx hb dX10_inBend_47 (by decide) ?_
  refine iald_n hx hb hK hP 1 0 rfl rfl 3 rfl (Nat.le_of_ble_eq_true rfl) (Nat.le_of_ble_eq_true rfl) rfl dX10_inBend_48 ?_
  refine lv_topi (fun v20 ev20 => ?_)
  refine lv_isub hx hb dX10_inBend_49 ?_
  refine lv_topi (fun v21 ev21 => ?_)
  refine lv_aload_n hx hb dX10_inBend_50 rfl (lv_at hl 0 rfl) ?_
  refine get_f (D := D) (ci := 10) (v := .ref h_s) (C := RX10) (T := TX10) (N := 67) hx hb hw inAX10 hown hK hP 0 rfl rfl 6 (by decide) (hw _ q_1267) (fun _ h9 => h9) e_s dX10_inBend_51 ?_
  refine lv_bipush (v := 115) hx hb dX10_inBend_54 (by decide) ?_
  refine iald_n hx hb hK hP 1 0 rfl rfl 115 rfl (Nat.le_of_ble_eq_true rfl) (Nat.le_of_ble_eq_true rfl) rfl dX10_inBend_56 ?_
  refine lv_topi (fun v22 ev22 => ?_)
  refine lv_iconst (v := 5) hx hb dX10_inBend_57 (by decide) ?_
  refine lv_idiv hx hb dX10_inBend_58 (by decide) ?_
  refine lv_topi (fun v23 ev23 => ?_)
  refine lv_isub hx hb dX10_inBend_59 ?_
  refine lv_topi (fun v24 ev24 => ?_)
  refine lv_istore (lv' := [(6, .int v24), (0, .ref h0), (1, .int p0), (2, .int p1), (3, .int p2), (4, .int p3), (5, .int p4)]) hx hb dX10_inBend_60 hl (by decide) rfl (fun ls hl => ?_)
  refine lv_iload hx hb dX10_inBend_62 (lv_at hl 0 rfl) ?_
  refine lv_aload_n hx hb dX10_inBend_64 rfl (lv_at hl 1 rfl) ?_
  refine get_f (D := D) (ci := 10) (v := .ref h_s) (C := RX10) (T := TX10) (N := 67) hx hb hw inAX10 hown hK hP 0 rfl rfl 6 (by decide) (hw _ q_1267) (fun _ h9 => h9) e_s dX10_inBend_65 ?_
  refine lv_bipush (v := 7) hx hb dX10_inBend_68 (by decide) ?_
  refine iald_n hx hb hK hP 1 0 rfl rfl 7 rfl (Nat.le_of_ble_eq_true rfl) (Nat.le_of_ble_eq_true rfl) rfl dX10_inBend_70 ?_
  refine lv_topi (fun v25 ev25 => ?_)
  have k26 : 0 ≤ v25.toInt ∧ v25.toInt ≤ 6 := by rw [ev25]; exact s_s_7.atN 7 (by decide) (by decide)
  refine lv_if_le (tgt := 88) hx hb dX10_inBend_71 (by decide) (fun c27 => ?_) (fun c27 => ?_)
  · have dc27 : v25.toInt ≤ 0 := le_i (a := v25.toInt) (b := 0) rfl rfl c27
    have k28 : 0 ≤ v25.toInt ∧ v25.toInt ≤ 0 := ⟨k26.1, Int.le_trans dc27 (Int.le_refl _)⟩
    refine lv_iconst (v := 0) hx hb dX10_inBend_88 (by decide) ?_
    refine lv_isub hx hb dX10_inBend_89 ?_
    refine lv_topi (fun v29 ev29 => ?_)
    have bv29 : v29.toInt = v24.toInt - 0 := by rw [ev29]; exact sub_k rfl rfl (ir_any _) ⟨Int.le_refl _, Int.le_refl _⟩ (by decide)
    have k30 : (-2147483648) ≤ v29.toInt ∧ v29.toInt ≤ 2147483647 := sub_r bv29 (ir_any _) ⟨Int.le_refl _, Int.le_refl _⟩ (by decide)
    refine call_Si (wr := [(h0, .inr (10, vL 67 Fh)), (h_s, .inl (cI, 335, .inl f_s))]) (As := [.int v29]) (rest := []) hx hb hml hown hw (m_X10_bounded l D cI cJ cB cP cM cZ v29 _ ) wS_X10_311_X10_bounded dX10_inBend_90 hP hD hS hA [] [0, 1] rfl rfl (by decide) (by decide) (by decide) GG.fb hG.at hl.1 rfl (Nat.le_of_ble_eq_true rfl) ⟨(Nat.le_of_ble_eq_true rfl), (Nat.le_of_ble_eq_true rfl)⟩ ⟨(Nat.le_of_ble_eq_true rfl), (Nat.le_of_ble_eq_true rfl)⟩ (fun r31 u H locs hp hP hD hS => ?_)
    obtain ⟨t32, t33, rfl⟩ := hp
    have hP : va_P D vwCl [(h0, .inr (10, vL 67 Fh)), (h_s, .inl (cI, 335, .inl f_s))] H := hP
    have hD : va_D A [(h0, .inr (10, vL 67 Fh)), (h_s, .inl (cI, 335, .inl f_s))] := hD
    refine W.widen (k := 0) (n := 0) (Nat.le_of_ble_eq_true rfl) (Nat.le_of_ble_eq_true rfl) ?_
    exact ret_i (v := r31) hx hb hr hlocks hS hP hD dX10_inBend_93 rfl (Nat.le_of_ble_eq_true rfl) (Nat.le_of_ble_eq_true rfl) ⟨t32, (by subst_vars; unfold fn_X10_inBend; rw [if_pos c27]), rfl⟩
  · have dc27 : 0 < v25.toInt := nle_i (a := v25.toInt) (b := 0) rfl rfl c27
    have k35 : 1 ≤ v25.toInt ∧ v25.toInt ≤ 6 := ⟨lo_lt dc27 (Int.le_refl _) (by decide), k26.2⟩
    refine lv_aload_n hx hb dX10_inBend_74 rfl (lv_at hl 1 rfl) ?_
    refine lv_aload_n hx hb dX10_inBend_75 rfl (lv_at hl 1 rfl) ?_
    refine get_f (D := D) (ci := 10) (v := .ref h_s) (C := RX10) (T := TX10) (N := 67) hx hb hw inAX10 hown hK hP 0 rfl rfl 6 (by decide) (hw _ q_1267) (fun _ h9 => h9) e_s dX10_inBend_76 ?_
    refine lv_bipush (v := 114) hx hb dX10_inBend_79 (by decide) ?_
    refine iald_n hx hb hK hP 1 0 rfl rfl 114 rfl (Nat.le_of_ble_eq_true rfl) (Nat.le_of_ble_eq_true rfl) rfl dX10_inBend_81 ?_
    refine lv_topi (fun v36 ev36 => ?_)
    have k37 : 0 ≤ v36.toInt ∧ v36.toInt ≤ 5 := by rw [ev36]; exact s_s_114.atN 114 (by decide) (by decide)
    refine call_Vi (wr := []) (As := [.int v36]) (rest := [.int v24]) hx hb hml hown hw (m_X10_takenBy l D cI cJ cB cP cM cZ h0 h_s Fh f_s v36 _ e_s s_s_K0 s_s_0 s_s_105 s_s_114 s_s_130 s_s_139 s_s_153 s_s_44 s_s_5 s_s_6 s_s_7 k37) wV_X10_301_X10_takenBy dX10_inBend_82 hK hP hD hS hA [0, 1] [] rfl rfl (by decide) (by decide) (by decide) 0 10 rfl rfl GG.fb hG.at hl.1 rfl (Nat.le_of_ble_eq_true rfl) ⟨(Nat.le_of_ble_eq_true rfl), (Nat.le_of_ble_eq_true rfl)⟩ ⟨(Nat.le_of_ble_eq_true rfl), (Nat.le_of_ble_eq_true rfl)⟩ (fun r38 u H locs hp hP hD hS => ?_)
    obtain ⟨t39, rfl⟩ := hp
    have hP : va_P D vwCl [(h0, .inr (10, vL 67 Fh)), (h_s, .inl (cI, 335, .inl f_s))] H := hP
    have hD : va_D A [(h0, .inr (10, vL 67 Fh)), (h_s, .inl (cI, 335, .inl f_s))] := hD
    refine W.widen (k := 0) (n := 0) (Nat.le_of_ble_eq_true rfl) (Nat.le_of_ble_eq_true rfl) ?_
    refine lv_goto (tgt := 89) hx hb dX10_inBend_85 (by decide) ?_
    refine lv_isub hx hb dX10_inBend_89 ?_
    refine lv_topi (fun v41 ev41 => ?_)
    refine call_Si (wr := [(h0, .inr (10, vL 67 Fh)), (h_s, .inl (cI, 335, .inl f_s))]) (As := [.int v41]) (rest := []) hx hb hml hown hw (m_X10_bounded l D cI cJ cB cP cM cZ v41 _ ) wS_X10_311_X10_bounded dX10_inBend_90 hP hD hS hA [] [0, 1] rfl rfl (by decide) (by decide) (by decide) GG.fb hG.at hl.1 rfl (Nat.le_of_ble_eq_true rfl) ⟨(Nat.le_of_ble_eq_true rfl), (Nat.le_of_ble_eq_true rfl)⟩ ⟨(Nat.le_of_ble_eq_true rfl), (Nat.le_of_ble_eq_true rfl)⟩ (fun r42 u H locs hp hP hD hS => ?_)
    obtain ⟨t43, t44, rfl⟩ := hp
    have hP : va_P D vwCl [(h0, .inr (10, vL 67 Fh)), (h_s, .inl (cI, 335, .inl f_s))] H := hP
    have hD : va_D A [(h0, .inr (10, vL 67 Fh)), (h_s, .inl (cI, 335, .inl f_s))] := hD
    refine W.widen (k := 0) (n := 0) (Nat.le_of_ble_eq_true rfl) (Nat.le_of_ble_eq_true rfl) ?_
    exact ret_i (v := r42) hx hb hr hlocks hS hP hD dX10_inBend_93 rfl (Nat.le_of_ble_eq_true rfl) (Nat.le_of_ble_eq_true rfl) ⟨t43, (by subst_vars; unfold fn_X10_inBend; rw [if_neg c27]), rfl⟩
def fn_X10_isOver (f_s : Nat → Int32) (p0 : Int32) (p1 : Int32) (p2 : Int32) : Int32 := (if (p1 * p2) ≤ ((20 : Int32) * (f_s ((80 : Int32) + p0).toNatClampNeg)) then (0 : Int32) else (1 : Int32))
set_option maxHeartbeats 4000000 in
set_option maxRecDepth 100000 in
theorem m_X10_isOver (l : Launch) (D : va_G) (cI cJ cB cP cM cZ : ClassId) (h0 : Nat) (h_s : Nat) (Fh : Nat → Value) (f_s : Nat → Int32) (p0 : Int32) (p1 : Int32) (p2 : Int32) (sz : Nat) (e_s : Fh 6 = .ref h_s) (s_s_K0 : KW 0 f_s) (s_s_0 : SG 0 0 0 40 f_s) (s_s_105 : SG 105 108 0 11 f_s) (s_s_114 : SG 114 114 0 5 f_s) (s_s_130 : SG 130 133 0 11 f_s) (s_s_139 : SG 139 139 0 5 f_s) (s_s_153 : SG 153 153 0 44 f_s) (s_s_44 : SG 44 55 0 9 f_s) (s_s_5 : SG 5 5 0 12 f_s) (s_s_6 : SG 6 6 0 12 f_s) (s_s_7 : SG 7 7 0 6 f_s) (i_p0 : IR 0 11 p0) : CI l yX10_isOver cX10_isOver 4 (some .boolean) { frames := 0, cells := 0, slots := 0, locals := 0 } (GG D cI cJ cB cP cM cZ) D [(h0, .inr (10, vL 67 Fh)), (h_s, .inl (cI, 335, .inl f_s))] sz [.ref h0, .int p0, .int p1, .int p2] (fun (r : Int32) (u : va_W) => IR 0 1 r ∧ r = fn_X10_isOver f_s p0 p1 p2 ∧ u = [(h0, .inr (10, vL 67 Fh)), (h_s, .inl (cI, 335, .inl f_s))]) := by
  refine CI_mk (by decide) (Nat.le_of_ble_eq_true rfl) ?_
  intro p e s m below meth c A ls E hAe hG hsz hP hD hA hS hl
  obtain ⟨hx, hb, hr, hw, hown, hlocks, hml, hnm⟩ := E
  have hK := hG.1
  have i_p0 : 0 ≤ p0.toInt ∧ p0.toInt ≤ 11 := i_p0
  have hl : lv_has ls 4 [(0, .ref h0), (1, .int p0), (2, .int p1), (3, .int p2)] := hl
  refine lv_iload_n hx hb dX10_isOver_0 rfl (lv_at hl 2 rfl) ?_
  refine lv_iload_n hx hb dX10_isOver_1 rfl (lv_at hl 3 rfl) ?_
  refine lv_imul hx hb dX10_isOver_2 ?_
  refine lv_topi (fun v1 ev1 => ?_)
  refine lv_bipush (v := 20) hx hb dX10_isOver_3 (by decide) ?_
  refine lv_aload_n hx hb dX10_isOver_5 rfl (lv_at hl 0 rfl) ?_
  refine get_f (D := D) (ci := 10) (v := .ref h_s) (C := RX10) (T := TX10) (N := 67) hx hb hw inAX10 hown hK hP 0 rfl rfl 6 (by decide) (hw _ q_1267) (fun _ h9 => h9) e_s dX10_isOver_6 ?_
  refine lv_bipush (v := 80) hx hb dX10_isOver_9 (by decide) ?_
  refine lv_iload_n hx hb dX10_isOver_11 rfl (lv_at hl 1 rfl) ?_
  refine lv_iadd hx hb dX10_isOver_12 ?_
  refine lv_topi (fun v2 ev2 => ?_)
  have bv2 : v2.toInt = 80 + p0.toInt := by rw [ev2]; exact add_k rfl rfl ⟨Int.le_refl _, Int.le_refl _⟩ i_p0 (by decide)
  have k3 : 80 ≤ v2.toInt ∧ v2.toInt ≤ 91 := add_r bv2 ⟨Int.le_refl _, Int.le_refl _⟩ i_p0 (by decide)
  refine va_iald hx hb hK hP 1 0 rfl rfl (ix_k k3 (by decide) (by decide)) dX10_isOver_13 ?_
  refine lv_topi (fun v4 ev4 => ?_)
  refine lv_imul hx hb dX10_isOver_14 ?_
  refine lv_topi (fun v5 ev5 => ?_)
  refine lv_icmp_le (tgt := 22) hx hb dX10_isOver_15 (by decide) (fun c6 => ?_) (fun c6 => ?_)
  · have dc6 : v1.toInt ≤ v5.toInt := le_i (a := v1.toInt) (b := v5.toInt) rfl rfl c6
    refine lv_iconst (v := 0) hx hb dX10_isOver_22 (by decide) ?_
    exact ret_i (v := 0) hx hb hr hlocks hS hP hD dX10_isOver_23 rfl (Nat.le_of_ble_eq_true rfl) (Nat.le_of_ble_eq_true rfl) ⟨(show 0 ≤ (0 : Int32).toInt ∧ (0 : Int32).toInt ≤ 1 by decide), (by subst_vars; unfold fn_X10_isOver; rw [if_pos c6]), rfl⟩
  · have dc6 : v5.toInt < v1.toInt := nle_i (a := v1.toInt) (b := v5.toInt) rfl rfl c6
    have k7 : (-2147483648) ≤ v5.toInt ∧ v5.toInt ≤ 2147483646 := ⟨(ir_any _).1, up_lt dc6 (ir_any _).2 (by decide)⟩
    have k8 : (-2147483647) ≤ v1.toInt ∧ v1.toInt ≤ 2147483647 := ⟨lo_lt dc6 (ir_any _).1 (by decide), (ir_any _).2⟩
    refine lv_iconst (v := 1) hx hb dX10_isOver_18 (by decide) ?_
    refine lv_goto (tgt := 23) hx hb dX10_isOver_19 (by decide) ?_
    exact ret_i (v := 1) hx hb hr hlocks hS hP hD dX10_isOver_23 rfl (Nat.le_of_ble_eq_true rfl) (Nat.le_of_ble_eq_true rfl) ⟨(show 0 ≤ (1 : Int32).toInt ∧ (1 : Int32).toInt ≤ 1 by decide), (by subst_vars; unfold fn_X10_isOver; rw [if_neg c6]), rfl⟩
set_option maxHeartbeats 4000000 in
set_option maxRecDepth 100000 in
theorem m_X10_down (l : Launch) (D : va_G) (cI cJ cB cP cM cZ : ClassId) (h0 : Nat) (h_s : Nat) (h_behindAt : Nat) (Fh : Nat → Value) (x_touchBend : Int32) (x_touchBy : Int32) (f_s : Nat → Int32) (f_behindAt : Nat → Int32) (p0 : Int32) (p1 : Int32) (sz : Nat) (e_s : Fh 6 = .ref h_s) (e_behindAt : Fh 33 = .ref h_behindAt) (e_touchBend : Fh 37 = .int x_touchBend) (e_touchBy : Fh 38 = .int x_touchBy) (i_x_touchBy : IR 0 99 x_touchBy) (s_s_K0 : KW 0 f_s) (s_s_0 : SG 0 0 0 40 f_s) (s_s_105 : SG 105 108 0 11 f_s) (s_s_114 : SG 114 114 0 5 f_s) (s_s_130 : SG 130 133 0 11 f_s) (s_s_139 : SG 139 139 0 5 f_s) (s_s_153 : SG 153 153 0 44 f_s) (s_s_44 : SG 44 55 0 9 f_s) (s_s_5 : SG 5 5 0 12 f_s) (s_s_6 : SG 6 6 0 12 f_s) (s_s_7 : SG 7 7 0 6 f_s) : CI l yX10_down cX10_down 7 (some .int) { frames := 3, cells := 0, slots := 0, locals := 68 } (GG D cI cJ cB cP cM cZ) D [(h0, .inr (10, vL 67 Fh)), (h_s, .inl (cI, 335, .inl f_s)), (h_behindAt, .inl (cI, 12, .inl f_behindAt))] sz [.ref h0, .int p0, .int p1] (fun (r : Int32) (u : va_W) => ∃ (Gh : Nat → Value) (y_bendsGone : Int32) (y_overAt : Int32) (y_endPace : Int32) (g_behindAt : Nat → Int32), SAME [34, 35, 36] Fh Gh ∧ Gh 34 = .int y_bendsGone ∧ IR 0 12 y_bendsGone ∧ Gh 35 = .int y_overAt ∧ IR (-1) 11 y_overAt ∧ Gh 36 = .int y_endPace ∧ IR (-1) 32400 r ∧ u = [(h0, .inr (10, vL 67 Gh)), (h_s, .inl (cI, 335, .inl f_s)), (h_behindAt, .inl (cI, 12, .inl g_behindAt))]) := by
  refine CI_mk (by decide) (Nat.le_of_ble_eq_true rfl) ?_
  intro p e s m below meth c A ls E hAe hG hsz hP hD hA hS hl
  obtain ⟨hx, hb, hr, hw, hown, hlocks, hml, hnm⟩ := E
  have hK := hG.1
  have i_x_touchBy : 0 ≤ x_touchBy.toInt ∧ x_touchBy.toInt ≤ 99 := i_x_touchBy
  have hl : lv_has ls 7 [(0, .ref h0), (1, .int p0), (2, .int p1)] := hl
  refine lv_iload_n hx hb dX10_down_0 rfl (lv_at hl 1 rfl) ?_
  refine lv_istore_n (lv' := [(3, .int p0), (0, .ref h0), (1, .int p0), (2, .int p1)]) hx hb dX10_down_1 rfl hl (by decide) rfl (fun ls hl => ?_)
  refine lv_iconst (v := 0) hx hb dX10_down_2 (by decide) ?_
  refine lv_istore (lv' := [(4, .int 0), (3, .int p0), (0, .ref h0), (1, .int p0), (2, .int p1)]) hx hb dX10_down_3 hl (by decide) rfl (fun ls hl => ?_)
  refine lv_iconst (v := 0) hx hb dX10_down_5 (by decide) ?_
  refine lv_istore (lv' := [(5, .int 0), (4, .int 0), (3, .int p0), (0, .ref h0), (1, .int p0), (2, .int p1)]) hx hb dX10_down_6 hl (by decide) rfl (fun ls hl => ?_)
  refine lv_aload_n hx hb dX10_down_8 rfl (lv_at hl 3 rfl) ?_
  refine lv_iconst (v := 0) hx hb dX10_down_9 (by decide) ?_
  refine put_f (D := D) (ci := 10) (v := .int 0) (ty := .int) (C := RX10) (T := TX10) (N := 67) hx hb hw inAX10 tyX10 tyX10_ok nmX10 hown hK hP hD hS 0 rfl rfl 34 (by decide) (hw _ q_1295) (fun _ h9 => h9) rfl (by decide +kernel) rfl rfl dX10_down_10 (fun H locs F1 eF1 hP hD hS => ?_)
  have hP : va_P D vwCl [(h0, .inr (10, vL 67 F1)), (h_s, .inl (cI, 335, .inl f_s)), (h_behindAt, .inl (cI, 12, .inl f_behindAt))] H := hP
  have hD : va_D A [(h0, .inr (10, vL 67 F1)), (h_s, .inl (cI, 335, .inl f_s)), (h_behindAt, .inl (cI, 12, .inl f_behindAt))] := hD
  refine lv_aload_n hx hb dX10_down_13 rfl (lv_at hl 3 rfl) ?_
  refine lv_iconst (v := (-1)) hx hb dX10_down_14 (by decide) ?_
  refine put_f (D := D) (ci := 10) (v := .int (-1)) (ty := .int) (C := RX10) (T := TX10) (N := 67) hx hb hw inAX10 tyX10 tyX10_ok nmX10 hown hK hP hD hS 0 rfl rfl 35 (by decide) (hw _ q_1296) (fun _ h9 => h9) rfl (by decide +kernel) rfl rfl dX10_down_15 (fun H locs F2 eF2 hP hD hS => ?_)
  have hP : va_P D vwCl [(h0, .inr (10, vL 67 F2)), (h_s, .inl (cI, 335, .inl f_s)), (h_behindAt, .inl (cI, 12, .inl f_behindAt))] H := hP
  have hD : va_D A [(h0, .inr (10, vL 67 F2)), (h_s, .inl (cI, 335, .inl f_s)), (h_behindAt, .inl (cI, 12, .inl f_behindAt))] := hD
  refine lv_aload_n hx hb dX10_down_18 rfl (lv_at hl 3 rfl) ?_
  refine lv_iload_n hx hb dX10_down_19 rfl (lv_at hl 2 rfl) ?_
  refine put_f (D := D) (ci := 10) (v := .int p0) (ty := .int) (C := RX10) (T := TX10) (N := 67) hx hb hw inAX10 tyX10 tyX10_ok nmX10 hown hK hP hD hS 0 rfl rfl 36 (by decide) (hw _ q_1297) (fun _ h9 => h9) rfl (by decide +kernel) rfl rfl dX10_down_20 (fun H locs F3 eF3 hP hD hS => ?_)
  have hP : va_P D vwCl [(h0, .inr (10, vL 67 F3)), (h_s, .inl (cI, 335, .inl f_s)), (h_behindAt, .inl (cI, 12, .inl f_behindAt))] H := hP
  have hD : va_D A [(h0, .inr (10, vL 67 F3)), (h_s, .inl (cI, 335, .inl f_s)), (h_behindAt, .inl (cI, 12, .inl f_behindAt))] := hD
  refine lv_iload_n hx hb dX10_down_23 rfl (lv_at hl 5 rfl) ?_
  refine lv_aload_n hx hb dX10_down_24 rfl (lv_at hl 3 rfl) ?_
  have n4 : F1 6 = .ref h_s := (get_ne eF1 (by decide) e_s)
  have n5 : F2 6 = .ref h_s := (get_ne eF2 (by decide) n4)
  have n6 : F3 6 = .ref h_s := (get_ne eF3 (by decide) n5)
  refine get_f (D := D) (ci := 10) (v := .ref h_s) (C := RX10) (T := TX10) (N := 67) hx hb hw inAX10 hown hK hP 0 rfl rfl 6 (by decide) (hw _ q_1267) (fun _ h9 => h9) n6 dX10_down_25 ?_
  refine lv_iconst (v := 2) hx hb dX10_down_28 (by decide) ?_
  refine iald_n hx hb hK hP 1 0 rfl rfl 2 rfl (Nat.le_of_ble_eq_true rfl) (Nat.le_of_ble_eq_true rfl) rfl dX10_down_29 ?_
  refine lv_topi (fun v7 ev7 => ?_)
  refine lv_icmp_le (tgt := 35) hx hb dX10_down_30 (by decide) (fun c8 => ?_) (fun c8 => ?_)
  · have dc8 : p1.toInt ≤ v7.toInt := le_i (a := p1.toInt) (b := v7.toInt) rfl rfl c8
    refine lv_iconst (v := 0) hx hb dX10_down_35 (by decide) ?_
    refine lv_istore (lv' := [(6, .int 0), (5, .int 0), (4, .int 0), (3, .int p0), (0, .ref h0), (1, .int p0), (2, .int p1)]) hx hb dX10_down_36 hl (by decide) rfl (fun ls hl => ?_)
    have n18 : F2 34 = .int 0 := (get_ne eF2 (by decide) (get_eq eF1))
    have n19 : F3 34 = .int 0 := (get_ne eF3 (by decide) n18)
    have n20 : F3 35 = .int (-1) := (get_ne eF3 (by decide) (get_eq eF2))
    refine mloop (α := (Int32) × (Int32) × (Int32) × (Int32) × (Nat → Value) × (Int32) × (Int32) × (Int32) × (Nat → Int32)) (nL := 7) (D := D) (A := A) (H0 := s.heap) (fun a => (12 - a.1.toInt).toNat) (fun a => IR 0 12 a.1 ∧ IR 0 32400 a.2.2.1 ∧ SAME [34, 35, 36] F3 a.2.2.2.2.1 ∧ a.2.2.2.2.1 34 = .int a.2.2.2.2.2.1 ∧ a.2.2.2.2.1 35 = .int a.2.2.2.2.2.2.1 ∧ a.2.2.2.2.1 36 = .int a.2.2.2.2.2.2.2.1 ∧ IR 0 12 a.2.2.2.2.2.1 ∧ IR (-1) (-1) a.2.2.2.2.2.2.1 ∧ (a.2.2.2.2.2.1.toInt = a.1.toInt) ∧ (0 ≤ a.2.2.1.toInt ∧ a.2.2.1.toInt ≤ 2700 * a.1.toInt)) (fun a => [(h0, .inr (10, vL 67 a.2.2.2.2.1)), (h_s, .inl (cI, 335, .inl f_s)), (h_behindAt, .inl (cI, 12, .inl a.2.2.2.2.2.2.2.2))]) (fun a => [(6, .int a.1), (5, .int a.2.1), (4, .int a.2.2.1), (3, .int a.2.2.2.1), (0, .ref h0), (1, .int p0), (2, .int p1)]) (fun H locs ls => W p l e ({ frames := 3, cells := 0, slots := 0, locals := 68 } : Room) s m [.ref h0, .int p0, .int p1].toArray below meth c H locs 0 0 (MQ below (va_Qi (fun (r : Int32) (u : va_W) => ∃ (Gh : Nat → Value) (y_bendsGone : Int32) (y_overAt : Int32) (y_endPace : Int32) (g_behindAt : Nat → Int32), SAME [34, 35, 36] Fh Gh ∧ Gh 34 = .int y_bendsGone ∧ IR 0 12 y_bendsGone ∧ Gh 35 = .int y_overAt ∧ IR (-1) 11 y_overAt ∧ Gh 36 = .int y_endPace ∧ IR (-1) 32400 r ∧ u = [(h0, .inr (10, vL 67 Gh)), (h_s, .inl (cI, 335, .inl f_s)), (h_behindAt, .inl (cI, 12, .inl g_behindAt))]) (PO D A) A) [.ref h0, .int p0, .int p1].toArray s 0 0 A) (F0 m 38 ls [])) ?_ (0, 0, 0, p0, F3, 0, (-1), p0, f_behindAt) ⟨(show 0 ≤ (0 : Int32).toInt ∧ (0 : Int32).toInt ≤ 12 by decide), (show 0 ≤ (0 : Int32).toInt ∧ (0 : Int32).toInt ≤ 32400 by decide), SAME.rf, n19, n20, (get_eq eF3), (show 0 ≤ (0 : Int32).toInt ∧ (0 : Int32).toInt ≤ 12 by decide), (show (-1) ≤ ((-1) : Int32).toInt ∧ ((-1) : Int32).toInt ≤ (-1) by decide), (by show 0 = 0; omega), (by show 0 ≤ 0 ∧ 0 ≤ 2700 * 0; omega)⟩ _ _ _ hP hD hS hl
    rintro ⟨u9, u10, u11, u12, G13, u14, u15, u16, w17⟩ ⟨i21, i22, i23, i24, i25, i26, i27, i28, i29, i30⟩ ih H locs ls hP hD hS hl
    have i21 : 0 ≤ u9.toInt ∧ u9.toInt ≤ 12 := i21
    have i22 : 0 ≤ u11.toInt ∧ u11.toInt ≤ 32400 := i22
    have i27 : 0 ≤ u14.toInt ∧ u14.toInt ≤ 12 := i27
    have i28 : (-1) ≤ u15.toInt ∧ u15.toInt ≤ (-1) := i28
    have i29 : u14.toInt = u9.toInt := i29
    have i30 : 0 ≤ u11.toInt ∧ u11.toInt ≤ 2700 * u9.toInt := i30
    have hP : va_P D vwCl [(h0, .inr (10, vL 67 G13)), (h_s, .inl (cI, 335, .inl f_s)), (h_behindAt, .inl (cI, 12, .inl w17))] H := hP
    have hD : va_D A [(h0, .inr (10, vL 67 G13)), (h_s, .inl (cI, 335, .inl f_s)), (h_behindAt, .inl (cI, 12, .inl w17))] := hD
    have hl : lv_has ls 7 [(6, .int u9), (5, .int u10), (4, .int u11), (3, .int u12), (0, .ref h0), (1, .int p0), (2, .int p1)] := hl
    refine lv_iload hx hb dX10_down_38 (lv_at hl 0 rfl) ?_
    refine lv_aload_n hx hb dX10_down_40 rfl (lv_at hl 4 rfl) ?_
    have n31 : G13 6 = .ref h_s := (SAME.at i23 (by decide) n6)
    refine get_f (D := D) (ci := 10) (v := .ref h_s) (C := RX10) (T := TX10) (N := 67) hx hb hw inAX10 hown hK hP 0 rfl rfl 6 (by decide) (hw _ q_1267) (fun _ h9 => h9) n31 dX10_down_41 ?_
    refine lv_bipush (v := 6) hx hb dX10_down_44 (by decide) ?_
    refine iald_n hx hb hK hP 1 0 rfl rfl 6 rfl (Nat.le_of_ble_eq_true rfl) (Nat.le_of_ble_eq_true rfl) rfl dX10_down_46 ?_
    refine lv_topi (fun v32 ev32 => ?_)
    have k33 : 0 ≤ v32.toInt ∧ v32.toInt ≤ 12 := by rw [ev32]; exact s_s_6.atN 6 (by decide) (by decide)
    refine lv_icmp_ge (tgt := 198) hx hb dX10_down_47 (by decide) (fun c34 => ?_) (fun c34 => ?_)
    · have dc34 : v32.toInt ≤ u9.toInt := le_i (a := v32.toInt) (b := u9.toInt) rfl rfl c34
      refine lv_iload hx hb dX10_down_198 (lv_at hl 2 rfl) ?_
      exact ret_i (v := u11) hx hb hr hlocks hS hP hD dX10_down_200 rfl (Nat.le_of_ble_eq_true rfl) (Nat.le_of_ble_eq_true rfl) ⟨G13, u14, u15, u16, w17, (SAME.tr (SAME.up eF3 (SAME.up eF2 (SAME.up eF1 SAME.rf (by decide)) (by decide)) (by decide)) i23 (by decide)), i24, i27, i25, (ir_wk i28 (by decide) (by decide)), i26, (ir_wk i22 (by decide) (by decide)), rfl⟩
    · have dc34 : u9.toInt < v32.toInt := nle_i (a := v32.toInt) (b := u9.toInt) rfl rfl c34
      have k35 : 0 ≤ u9.toInt ∧ u9.toInt ≤ 11 := ⟨i21.1, up_lt dc34 k33.2 (by decide)⟩
      have k36 : 1 ≤ v32.toInt ∧ v32.toInt ≤ 12 := ⟨lo_lt dc34 i21.1 (by decide), k33.2⟩
      refine lv_aload_n hx hb dX10_down_50 rfl (lv_at hl 4 rfl) ?_
      refine lv_iload hx hb dX10_down_51 (lv_at hl 0 rfl) ?_
      refine lv_iload_n hx hb dX10_down_53 rfl (lv_at hl 3 rfl) ?_
      refine lv_iload_n hx hb dX10_down_54 rfl (lv_at hl 6 rfl) ?_
      refine lv_iload hx hb dX10_down_55 (lv_at hl 1 rfl) ?_
      refine lv_aload_n hx hb dX10_down_57 rfl (lv_at hl 4 rfl) ?_
      refine get_f (D := D) (ci := 10) (v := .ref h_s) (C := RX10) (T := TX10) (N := 67) hx hb hw inAX10 hown hK hP 0 rfl rfl 6 (by decide) (hw _ q_1267) (fun _ h9 => h9) n31 dX10_down_58 ?_
      refine lv_bipush (v := 116) hx hb dX10_down_61 (by decide) ?_
      refine lv_iload hx hb dX10_down_63 (lv_at hl 0 rfl) ?_
      refine lv_iadd hx hb dX10_down_65 ?_
      refine lv_topi (fun v37 ev37 => ?_)
      have bv37 : v37.toInt = 116 + u9.toInt := by rw [ev37]; exact add_k rfl rfl ⟨Int.le_refl _, Int.le_refl _⟩ k35 (by decide)
      have k38 : 116 ≤ v37.toInt ∧ v37.toInt ≤ 127 := add_r bv37 ⟨Int.le_refl _, Int.le_refl _⟩ k35 (by decide)
      refine va_iald hx hb hK hP 1 0 rfl rfl (ix_k k38 (by decide) (by decide)) dX10_down_66 ?_
      refine lv_topi (fun v39 ev39 => ?_)
      refine call_Vi (wr := [(h_behindAt, .inl (cI, 12, .inl w17))]) (As := [.int u9, .int u12, .int p1, .int u10, .int v39]) (rest := []) hx hb hml hown hw (m_X10_inBend l D cI cJ cB cP cM cZ h0 h_s G13 f_s u9 u12 p1 u10 v39 _ n31 s_s_K0 s_s_0 s_s_105 s_s_114 s_s_130 s_s_139 s_s_153 s_s_44 s_s_5 s_s_6 s_s_7 k35) wV_X10_355_X10_inBend dX10_down_67 hK hP hD hS hA [0, 1] [2] rfl rfl (by decide) (by decide) (by decide) 0 10 rfl rfl GG.fb hG.at hl.1 rfl (Nat.le_of_ble_eq_true rfl) ⟨(Nat.le_of_ble_eq_true rfl), (Nat.le_of_ble_eq_true rfl)⟩ ⟨(Nat.le_of_ble_eq_true rfl), (Nat.le_of_ble_eq_true rfl)⟩ (fun r40 u H locs hp hP hD hS => ?_)
      obtain ⟨t41, t42, rfl⟩ := hp
      have hP : va_P D vwCl [(h_behindAt, .inl (cI, 12, .inl w17)), (h0, .inr (10, vL 67 G13)), (h_s, .inl (cI, 335, .inl f_s))] H := hP
      have hD : va_D A [(h_behindAt, .inl (cI, 12, .inl w17)), (h0, .inr (10, vL 67 G13)), (h_s, .inl (cI, 335, .inl f_s))] := hD
      refine W.widen (k := 0) (n := 0) (Nat.le_of_ble_eq_true rfl) (Nat.le_of_ble_eq_true rfl) ?_
      refine lv_istore_n (lv' := [(3, .int r40), (6, .int u9), (5, .int u10), (4, .int u11), (0, .ref h0), (1, .int p0), (2, .int p1)]) hx hb dX10_down_70 rfl hl (by decide) rfl (fun ls hl => ?_)
      refine lv_aload_n hx hb dX10_down_71 rfl (lv_at hl 4 rfl) ?_
      refine lv_iload_n hx hb dX10_down_72 rfl (lv_at hl 0 rfl) ?_
      refine put_f (D := D) (ci := 10) (v := .int r40) (ty := .int) (C := RX10) (T := TX10) (N := 67) hx hb hw inAX10 tyX10 tyX10_ok nmX10 hown hK hP hD hS 1 rfl rfl 36 (by decide) (hw _ q_1297) (fun _ h9 => h9) rfl (by decide +kernel) rfl rfl dX10_down_73 (fun H locs F44 eF44 hP hD hS => ?_)
      have hP : va_P D vwCl [(h_behindAt, .inl (cI, 12, .inl w17)), (h0, .inr (10, vL 67 F44)), (h_s, .inl (cI, 335, .inl f_s))] H := hP
      have hD : va_D A [(h_behindAt, .inl (cI, 12, .inl w17)), (h0, .inr (10, vL 67 F44)), (h_s, .inl (cI, 335, .inl f_s))] := hD
      refine lv_aload_n hx hb dX10_down_76 rfl (lv_at hl 4 rfl) ?_
      refine lv_iload hx hb dX10_down_77 (lv_at hl 1 rfl) ?_
      refine lv_iload_n hx hb dX10_down_79 rfl (lv_at hl 0 rfl) ?_
      refine lv_aload_n hx hb dX10_down_80 rfl (lv_at hl 4 rfl) ?_
      have n45 : F44 6 = .ref h_s := (get_ne eF44 (by decide) n31)
      refine get_f (D := D) (ci := 10) (v := .ref h_s) (C := RX10) (T := TX10) (N := 67) hx hb hw inAX10 hown hK hP 1 rfl rfl 6 (by decide) (hw _ q_1267) (fun _ h9 => h9) n45 dX10_down_81 ?_
      refine lv_bipush (v := 116) hx hb dX10_down_84 (by decide) ?_
      refine lv_iload hx hb dX10_down_86 (lv_at hl 1 rfl) ?_
      refine lv_iadd hx hb dX10_down_88 ?_
      refine lv_ci (y := v37) ev37.symm ?_
      refine va_iald hx hb hK hP 2 0 rfl rfl (ix_k k38 (by decide) (by decide)) dX10_down_89 ?_
      refine lv_ci (y := v39) ev39.symm ?_
      refine call_Vi (wr := [(h_behindAt, .inl (cI, 12, .inl w17))]) (As := [.int u9, .int r40, .int v39]) (rest := []) hx hb hml hown hw (m_X10_isOver l D cI cJ cB cP cM cZ h0 h_s F44 f_s u9 r40 v39 _ n45 s_s_K0 s_s_0 s_s_105 s_s_114 s_s_130 s_s_139 s_s_153 s_s_44 s_s_5 s_s_6 s_s_7 k35) wV_X10_359_X10_isOver dX10_down_90 hK hP hD hS hA [1, 2] [0] rfl rfl (by decide) (by decide) (by decide) 0 10 rfl rfl GG.fb hG.at hl.1 rfl (Nat.le_of_ble_eq_true rfl) ⟨(Nat.le_of_ble_eq_true rfl), (Nat.le_of_ble_eq_true rfl)⟩ ⟨(Nat.le_of_ble_eq_true rfl), (Nat.le_of_ble_eq_true rfl)⟩ (fun r46 u H locs hp hP hD hS => ?_)
      obtain ⟨t47, t48, rfl⟩ := hp
      have hP : va_P D vwCl [(h_behindAt, .inl (cI, 12, .inl w17)), (h0, .inr (10, vL 67 F44)), (h_s, .inl (cI, 335, .inl f_s))] H := hP
      have hD : va_D A [(h_behindAt, .inl (cI, 12, .inl w17)), (h0, .inr (10, vL 67 F44)), (h_s, .inl (cI, 335, .inl f_s))] := hD
      refine W.widen (k := 0) (n := 0) (Nat.le_of_ble_eq_true rfl) (Nat.le_of_ble_eq_true rfl) ?_
      refine lv_if_eq (tgt := 104) hx hb dX10_down_93 (by decide) (fun c50 => ?_) (fun c50 => ?_)
      · have dc50 : r46.toInt = 0 := eq_i (a := r46.toInt) (b := 0) rfl rfl c50
        have k51 : 0 ≤ r46.toInt ∧ r46.toInt ≤ 0 := ⟨t47.1, Int.le_trans (Int.le_of_eq dc50) (Int.le_refl _)⟩
        refine lv_iload hx hb dX10_down_104 (lv_at hl 1 rfl) ?_
        refine lv_aload_n hx hb dX10_down_106 rfl (lv_at hl 4 rfl) ?_
        have n52 : F1 37 = .int x_touchBend := (get_ne eF1 (by decide) e_touchBend)
        have n53 : F2 37 = .int x_touchBend := (get_ne eF2 (by decide) n52)
        have n54 : F3 37 = .int x_touchBend := (get_ne eF3 (by decide) n53)
        have n55 : G13 37 = .int x_touchBend := (SAME.at i23 (by decide) n54)
        have n56 : F44 37 = .int x_touchBend := (get_ne eF44 (by decide) n55)
        refine get_f (D := D) (ci := 10) (v := .int x_touchBend) (C := RX10) (T := TX10) (N := 67) hx hb hw inAX10 hown hK hP 1 rfl rfl 37 (by decide) (hw _ q_1298) (fun _ h9 => h9) n56 dX10_down_107 ?_
        refine lv_icmp_ne (tgt := 136) hx hb dX10_down_110 (by decide) (fun c57 => ?_) (fun c57 => ?_)
        · have dc57 : u9.toInt ≠ x_touchBend.toInt := ne_i (a := u9.toInt) (b := x_touchBend.toInt) rfl rfl c57
          refine lv_aload_n hx hb dX10_down_136 rfl (lv_at hl 4 rfl) ?_
          refine lv_iload_n hx hb dX10_down_137 rfl (lv_at hl 0 rfl) ?_
          refine put_f (D := D) (ci := 10) (v := .int r40) (ty := .int) (C := RX10) (T := TX10) (N := 67) hx hb hw inAX10 tyX10 tyX10_ok nmX10 hown hK hP hD hS 1 rfl rfl 36 (by decide) (hw _ q_1297) (fun _ h9 => h9) rfl (by decide +kernel) rfl rfl dX10_down_138 (fun H locs F58 eF58 hP hD hS => ?_)
          have hP : va_P D vwCl [(h_behindAt, .inl (cI, 12, .inl w17)), (h0, .inr (10, vL 67 F58)), (h_s, .inl (cI, 335, .inl f_s))] H := hP
          have hD : va_D A [(h_behindAt, .inl (cI, 12, .inl w17)), (h0, .inr (10, vL 67 F58)), (h_s, .inl (cI, 335, .inl f_s))] := hD
          refine lv_aload_n hx hb dX10_down_141 rfl (lv_at hl 4 rfl) ?_
          have n59 : F1 33 = .ref h_behindAt := (get_ne eF1 (by decide) e_behindAt)
          have n60 : F2 33 = .ref h_behindAt := (get_ne eF2 (by decide) n59)
          have n61 : F3 33 = .ref h_behindAt := (get_ne eF3 (by decide) n60)
          have n62 : G13 33 = .ref h_behindAt := (SAME.at i23 (by decide) n61)
          have n63 : F44 33 = .ref h_behindAt := (get_ne eF44 (by decide) n62)
          have n64 : F58 33 = .ref h_behindAt := (get_ne eF58 (by decide) n63)
          refine get_f (D := D) (ci := 10) (v := .ref h_behindAt) (C := RX10) (T := TX10) (N := 67) hx hb hw inAX10 hown hK hP 1 rfl rfl 33 (by decide) (hw _ q_1294) (fun _ h9 => h9) n64 dX10_down_142 ?_
          refine lv_iload hx hb dX10_down_145 (lv_at hl 1 rfl) ?_
          refine lv_iload_n hx hb dX10_down_147 rfl (lv_at hl 0 rfl) ?_
          obtain ⟨g65, eg65⟩ : ∃ z : Nat → Int32, upd w17 u9.toNatClampNeg r40 = z := ⟨_, rfl⟩
          refine iast_g hx hb hK hP hD hS 0 0 rfl rfl (ix_k k35 (by decide) (by decide)) eg65 dX10_down_148 (fun H locs hP hD hS => ?_)
          have hP : va_P D vwCl [(h_behindAt, .inl (cI, 12, .inl g65)), (h0, .inr (10, vL 67 F58)), (h_s, .inl (cI, 335, .inl f_s))] H := hP
          have hD : va_D A [(h_behindAt, .inl (cI, 12, .inl g65)), (h0, .inr (10, vL 67 F58)), (h_s, .inl (cI, 335, .inl f_s))] := hD
          refine lv_aload_n hx hb dX10_down_149 rfl (lv_at hl 4 rfl) ?_
          have n66 : F58 6 = .ref h_s := (get_ne eF58 (by decide) n45)
          refine get_f (D := D) (ci := 10) (v := .ref h_s) (C := RX10) (T := TX10) (N := 67) hx hb hw inAX10 hown hK hP 1 rfl rfl 6 (by decide) (hw _ q_1267) (fun _ h9 => h9) n66 dX10_down_150 ?_
          refine lv_bipush (v := 116) hx hb dX10_down_153 (by decide) ?_
          refine lv_iload hx hb dX10_down_155 (lv_at hl 1 rfl) ?_
          refine lv_iadd hx hb dX10_down_157 ?_
          refine lv_ci (y := v37) ev37.symm ?_
          refine va_iald hx hb hK hP 2 0 rfl rfl (ix_k k38 (by decide) (by decide)) dX10_down_158 ?_
          refine lv_ci (y := v39) ev39.symm ?_
          refine lv_istore (lv' := [(5, .int v39), (3, .int r40), (6, .int u9), (4, .int u11), (0, .ref h0), (1, .int p0), (2, .int p1)]) hx hb dX10_down_159 hl (by decide) rfl (fun ls hl => ?_)
          refine lv_aload_n hx hb dX10_down_161 rfl (lv_at hl 4 rfl) ?_
          refine lv_dup hx hb dX10_down_162 rfl ?_
          have n67 : F44 34 = .int u14 := (get_ne eF44 (by decide) i24)
          have n68 : F58 34 = .int u14 := (get_ne eF58 (by decide) n67)
          refine get_f (D := D) (ci := 10) (v := .int u14) (C := RX10) (T := TX10) (N := 67) hx hb hw inAX10 hown hK hP 1 rfl rfl 34 (by decide) (hw _ q_1295) (fun _ h9 => h9) n68 dX10_down_163 ?_
          refine lv_iconst (v := 1) hx hb dX10_down_166 (by decide) ?_
          refine lv_iadd hx hb dX10_down_167 ?_
          refine lv_topi (fun v69 ev69 => ?_)
          have bv69 : v69.toInt = u14.toInt + 1 := by rw [ev69]; exact add_k rfl rfl i27 ⟨Int.le_refl _, Int.le_refl _⟩ (by decide)
          have k70 : 1 ≤ v69.toInt ∧ v69.toInt ≤ 13 := add_r bv69 i27 ⟨Int.le_refl _, Int.le_refl _⟩ (by decide)
          refine put_f (D := D) (ci := 10) (v := .int v69) (ty := .int) (C := RX10) (T := TX10) (N := 67) hx hb hw inAX10 tyX10 tyX10_ok nmX10 hown hK hP hD hS 1 rfl rfl 34 (by decide) (hw _ q_1295) (fun _ h9 => h9) rfl (by decide +kernel) rfl rfl dX10_down_168 (fun H locs F71 eF71 hP hD hS => ?_)
          have hP : va_P D vwCl [(h_behindAt, .inl (cI, 12, .inl g65)), (h0, .inr (10, vL 67 F71)), (h_s, .inl (cI, 335, .inl f_s))] H := hP
          have hD : va_D A [(h_behindAt, .inl (cI, 12, .inl g65)), (h0, .inr (10, vL 67 F71)), (h_s, .inl (cI, 335, .inl f_s))] := hD
          refine lv_iload hx hb dX10_down_171 (lv_at hl 3 rfl) ?_
          refine lv_aload_n hx hb dX10_down_173 rfl (lv_at hl 4 rfl) ?_
          have n72 : F71 6 = .ref h_s := (get_ne eF71 (by decide) n66)
          refine get_f (D := D) (ci := 10) (v := .ref h_s) (C := RX10) (T := TX10) (N := 67) hx hb hw inAX10 hown hK hP 1 rfl rfl 6 (by decide) (hw _ q_1267) (fun _ h9 => h9) n72 dX10_down_174 ?_
          refine lv_bipush (v := 44) hx hb dX10_down_177 (by decide) ?_
          refine lv_iload hx hb dX10_down_179 (lv_at hl 2 rfl) ?_
          refine lv_iadd hx hb dX10_down_181 ?_
          refine lv_topi (fun v73 ev73 => ?_)
          have bv73 : v73.toInt = 44 + u9.toInt := by rw [ev73]; exact add_k rfl rfl ⟨Int.le_refl _, Int.le_refl _⟩ k35 (by decide)
          have k74 : 44 ≤ v73.toInt ∧ v73.toInt ≤ 55 := add_r bv73 ⟨Int.le_refl _, Int.le_refl _⟩ k35 (by decide)
          refine va_iald hx hb hK hP 2 0 rfl rfl (ix_k k74 (by decide) (by decide)) dX10_down_182 ?_
          refine lv_topi (fun v75 ev75 => ?_)
          have k76 : 0 ≤ v75.toInt ∧ v75.toInt ≤ 9 := by rw [ev75]; exact s_s_44.at _ (Int.le_trans (by decide) k74.1) (Int.le_trans k74.2 (by decide))
          refine lv_sipush (v := 3000) hx hb dX10_down_183 (by decide) ?_
          refine lv_imul hx hb dX10_down_186 ?_
          refine lv_topi (fun v77 ev77 => ?_)
          have bv77 : v77.toInt = v75.toInt * 3000 := by rw [ev77]; exact mulk_k rfl rfl (by decide) k76 (by decide)
          have k78 : 0 ≤ v77.toInt ∧ v77.toInt ≤ 27000 := mulk_r bv77 (by decide) k76 (by decide)
          refine lv_iload_n hx hb dX10_down_187 rfl (lv_at hl 1 rfl) ?_
          refine lv_idiv hx hb dX10_down_188 (nz_k t41 (by decide)) ?_
          refine lv_topi (fun v79 ev79 => ?_)
          have k80 : 0 ≤ v79.toInt ∧ v79.toInt ≤ 2700 := by rw [ev79]; exact divv_k (Int.le_trans (by decide) k78.1) k78.2 t41.1 (by decide)
          refine lv_iadd hx hb dX10_down_189 ?_
          refine lv_topi (fun v81 ev81 => ?_)
          have bv81 : v81.toInt = u11.toInt + v79.toInt := by rw [ev81]; exact add_k rfl rfl i22 k80 (by decide)
          have k82 : 0 ≤ v81.toInt ∧ v81.toInt ≤ 35100 := add_r bv81 i22 k80 (by decide)
          refine lv_istore (lv' := [(4, .int v81), (5, .int v39), (3, .int r40), (6, .int u9), (0, .ref h0), (1, .int p0), (2, .int p1)]) hx hb dX10_down_190 hl (by decide) rfl (fun ls hl => ?_)
          obtain ⟨v83, ev83⟩ : ∃ z : Int32, z = u9 + 1 := ⟨_, rfl⟩
          have bv83 : v83.toInt = u9.toInt + 1 := by rw [ev83]; exact add_k rfl rfl k35 ⟨Int.le_refl _, Int.le_refl _⟩ (by decide)
          have k84 : 1 ≤ v83.toInt ∧ v83.toInt ≤ 12 := add_r bv83 k35 ⟨Int.le_refl _, Int.le_refl _⟩ (by decide)
          refine lv_iinc (v := v83) (lv' := [(6, .int v83), (4, .int v81), (5, .int v39), (3, .int r40), (0, .ref h0), (1, .int p0), (2, .int p1)]) hx hb dX10_down_192 hl (k := 3) rfl (by rw [ev83]; rfl) (by decide) rfl (fun ls hl => ?_)
          refine lv_goto (tgt := 38) hx hb dX10_down_195 (by decide) ?_
          have n85 : F44 35 = .int u15 := (get_ne eF44 (by decide) i25)
          have n86 : F58 35 = .int u15 := (get_ne eF58 (by decide) n85)
          have n87 : F71 35 = .int u15 := (get_ne eF71 (by decide) n86)
          have n88 : F71 36 = .int r40 := (get_ne eF71 (by decide) (get_eq eF58))
          exact ih (v83, v39, v81, r40, F71, v69, u15, r40, g65) ⟨(ir_wk k84 (by decide) (by decide)), (show 0 ≤ v81.toInt ∧ v81.toInt ≤ 32400 from ⟨by omega, by omega⟩), (SAME.up eF71 (SAME.up eF58 (SAME.up eF44 (SAME.tr SAME.rf i23 (by decide)) (by decide)) (by decide)) (by decide)), (get_eq eF71), n87, n88, (show 0 ≤ v69.toInt ∧ v69.toInt ≤ 12 from ⟨by omega, by omega⟩), i28, (by show v69.toInt = v83.toInt; omega), (by show 0 ≤ v81.toInt ∧ v81.toInt ≤ 2700 * v83.toInt; omega)⟩ (by show (12 - v83.toInt).toNat < (12 - u9.toInt).toNat; omega) _ _ _ (hP.sub [1, 2, 0] rfl) (hD.sub [1, 2, 0] (by decide) rfl) hS (lv_sub hl [0, 2, 1, 3, 4, 5, 6] rfl)
        · have dc57 : u9.toInt = x_touchBend.toInt := eq_i (a := u9.toInt) (b := x_touchBend.toInt) rfl rfl c57
          have k89 : 0 ≤ x_touchBend.toInt ∧ x_touchBend.toInt ≤ 11 := ⟨Int.le_trans k35.1 (Int.le_of_eq dc57), Int.le_trans (Int.le_of_eq dc57.symm) k35.2⟩
          refine lv_iload_n hx hb dX10_down_113 rfl (lv_at hl 0 rfl) ?_
          refine lv_aload_n hx hb dX10_down_114 rfl (lv_at hl 4 rfl) ?_
          have n90 : F1 38 = .int x_touchBy := (get_ne eF1 (by decide) e_touchBy)
          have n91 : F2 38 = .int x_touchBy := (get_ne eF2 (by decide) n90)
          have n92 : F3 38 = .int x_touchBy := (get_ne eF3 (by decide) n91)
          have n93 : G13 38 = .int x_touchBy := (SAME.at i23 (by decide) n92)
          have n94 : F44 38 = .int x_touchBy := (get_ne eF44 (by decide) n93)
          refine get_f (D := D) (ci := 10) (v := .int x_touchBy) (C := RX10) (T := TX10) (N := 67) hx hb hw inAX10 hown hK hP 1 rfl rfl 38 (by decide) (hw _ q_1299) (fun _ h9 => h9) n94 dX10_down_115 ?_
          refine lv_isub hx hb dX10_down_118 ?_
          refine lv_topi (fun v95 ev95 => ?_)
          have bv95 : v95.toInt = r40.toInt - x_touchBy.toInt := by rw [ev95]; exact sub_k rfl rfl t41 i_x_touchBy (by decide)
          have k96 : (-89) ≤ v95.toInt ∧ v95.toInt ≤ 250 := sub_r bv95 t41 i_x_touchBy (by decide)
          refine lv_bipush (v := 10) hx hb dX10_down_119 (by decide) ?_
          refine lv_icmp_ge (tgt := 129) hx hb dX10_down_121 (by decide) (fun c97 => ?_) (fun c97 => ?_)
          · have dc97 : 10 ≤ v95.toInt := le_i (a := 10) (b := v95.toInt) rfl rfl c97
            have k98 : 10 ≤ v95.toInt ∧ v95.toInt ≤ 250 := ⟨Int.le_trans (Int.le_refl _) dc97, k96.2⟩
            refine lv_iload_n hx hb dX10_down_129 rfl (lv_at hl 0 rfl) ?_
            refine lv_aload_n hx hb dX10_down_130 rfl (lv_at hl 4 rfl) ?_
            refine get_f (D := D) (ci := 10) (v := .int x_touchBy) (C := RX10) (T := TX10) (N := 67) hx hb hw inAX10 hown hK hP 1 rfl rfl 38 (by decide) (hw _ q_1299) (fun _ h9 => h9) n94 dX10_down_131 ?_
            refine lv_isub hx hb dX10_down_134 ?_
            refine lv_ci (y := v95) ev95.symm ?_
            refine lv_istore_n (lv' := [(3, .int v95), (6, .int u9), (5, .int u10), (4, .int u11), (0, .ref h0), (1, .int p0), (2, .int p1)]) hx hb dX10_down_135 rfl hl (by decide) rfl (fun ls hl => ?_)
            refine lv_aload_n hx hb dX10_down_136 rfl (lv_at hl 4 rfl) ?_
            refine lv_iload_n hx hb dX10_down_137 rfl (lv_at hl 0 rfl) ?_
            refine put_f (D := D) (ci := 10) (v := .int v95) (ty := .int) (C := RX10) (T := TX10) (N := 67) hx hb hw inAX10 tyX10 tyX10_ok nmX10 hown hK hP hD hS 1 rfl rfl 36 (by decide) (hw _ q_1297) (fun _ h9 => h9) rfl (by decide +kernel) rfl rfl dX10_down_138 (fun H locs F99 eF99 hP hD hS => ?_)
            have hP : va_P D vwCl [(h_behindAt, .inl (cI, 12, .inl w17)), (h0, .inr (10, vL 67 F99)), (h_s, .inl (cI, 335, .inl f_s))] H := hP
            have hD : va_D A [(h_behindAt, .inl (cI, 12, .inl w17)), (h0, .inr (10, vL 67 F99)), (h_s, .inl (cI, 335, .inl f_s))] := hD
            refine lv_aload_n hx hb dX10_down_141 rfl (lv_at hl 4 rfl) ?_
            have n100 : F1 33 = .ref h_behindAt := (get_ne eF1 (by decide) e_behindAt)
            have n101 : F2 33 = .ref h_behindAt := (get_ne eF2 (by decide) n100)
            have n102 : F3 33 = .ref h_behindAt := (get_ne eF3 (by decide) n101)
            have n103 : G13 33 = .ref h_behindAt := (SAME.at i23 (by decide) n102)
            have n104 : F44 33 = .ref h_behindAt := (get_ne eF44 (by decide) n103)
            have n105 : F99 33 = .ref h_behindAt := (get_ne eF99 (by decide) n104)
            refine get_f (D := D) (ci := 10) (v := .ref h_behindAt) (C := RX10) (T := TX10) (N := 67) hx hb hw inAX10 hown hK hP 1 rfl rfl 33 (by decide) (hw _ q_1294) (fun _ h9 => h9) n105 dX10_down_142 ?_
            refine lv_iload hx hb dX10_down_145 (lv_at hl 1 rfl) ?_
            refine lv_iload_n hx hb dX10_down_147 rfl (lv_at hl 0 rfl) ?_
            obtain ⟨g106, eg106⟩ : ∃ z : Nat → Int32, upd w17 u9.toNatClampNeg v95 = z := ⟨_, rfl⟩
            refine iast_g hx hb hK hP hD hS 0 0 rfl rfl (ix_k k35 (by decide) (by decide)) eg106 dX10_down_148 (fun H locs hP hD hS => ?_)
            have hP : va_P D vwCl [(h_behindAt, .inl (cI, 12, .inl g106)), (h0, .inr (10, vL 67 F99)), (h_s, .inl (cI, 335, .inl f_s))] H := hP
            have hD : va_D A [(h_behindAt, .inl (cI, 12, .inl g106)), (h0, .inr (10, vL 67 F99)), (h_s, .inl (cI, 335, .inl f_s))] := hD
            refine lv_aload_n hx hb dX10_down_149 rfl (lv_at hl 4 rfl) ?_
            have n107 : F99 6 = .ref h_s := (get_ne eF99 (by decide) n45)
            refine get_f (D := D) (ci := 10) (v := .ref h_s) (C := RX10) (T := TX10) (N := 67) hx hb hw inAX10 hown hK hP 1 rfl rfl 6 (by decide) (hw _ q_1267) (fun _ h9 => h9) n107 dX10_down_150 ?_
            refine lv_bipush (v := 116) hx hb dX10_down_153 (by decide) ?_
            refine lv_iload hx hb dX10_down_155 (lv_at hl 1 rfl) ?_
            refine lv_iadd hx hb dX10_down_157 ?_
            refine lv_ci (y := v37) ev37.symm ?_
            refine va_iald hx hb hK hP 2 0 rfl rfl (ix_k k38 (by decide) (by decide)) dX10_down_158 ?_
            refine lv_ci (y := v39) ev39.symm ?_
            refine lv_istore (lv' := [(5, .int v39), (3, .int v95), (6, .int u9), (4, .int u11), (0, .ref h0), (1, .int p0), (2, .int p1)]) hx hb dX10_down_159 hl (by decide) rfl (fun ls hl => ?_)
            refine lv_aload_n hx hb dX10_down_161 rfl (lv_at hl 4 rfl) ?_
            refine lv_dup hx hb dX10_down_162 rfl ?_
            have n108 : F44 34 = .int u14 := (get_ne eF44 (by decide) i24)
            have n109 : F99 34 = .int u14 := (get_ne eF99 (by decide) n108)
            refine get_f (D := D) (ci := 10) (v := .int u14) (C := RX10) (T := TX10) (N := 67) hx hb hw inAX10 hown hK hP 1 rfl rfl 34 (by decide) (hw _ q_1295) (fun _ h9 => h9) n109 dX10_down_163 ?_
            refine lv_iconst (v := 1) hx hb dX10_down_166 (by decide) ?_
            refine lv_iadd hx hb dX10_down_167 ?_
            refine lv_topi (fun v110 ev110 => ?_)
            have bv110 : v110.toInt = u14.toInt + 1 := by rw [ev110]; exact add_k rfl rfl i27 ⟨Int.le_refl _, Int.le_refl _⟩ (by decide)
            have k111 : 1 ≤ v110.toInt ∧ v110.toInt ≤ 13 := add_r bv110 i27 ⟨Int.le_refl _, Int.le_refl _⟩ (by decide)
            refine put_f (D := D) (ci := 10) (v := .int v110) (ty := .int) (C := RX10) (T := TX10) (N := 67) hx hb hw inAX10 tyX10 tyX10_ok nmX10 hown hK hP hD hS 1 rfl rfl 34 (by decide) (hw _ q_1295) (fun _ h9 => h9) rfl (by decide +kernel) rfl rfl dX10_down_168 (fun H locs F112 eF112 hP hD hS => ?_)
            have hP : va_P D vwCl [(h_behindAt, .inl (cI, 12, .inl g106)), (h0, .inr (10, vL 67 F112)), (h_s, .inl (cI, 335, .inl f_s))] H := hP
            have hD : va_D A [(h_behindAt, .inl (cI, 12, .inl g106)), (h0, .inr (10, vL 67 F112)), (h_s, .inl (cI, 335, .inl f_s))] := hD
            refine lv_iload hx hb dX10_down_171 (lv_at hl 3 rfl) ?_
            refine lv_aload_n hx hb dX10_down_173 rfl (lv_at hl 4 rfl) ?_
            have n113 : F112 6 = .ref h_s := (get_ne eF112 (by decide) n107)
            refine get_f (D := D) (ci := 10) (v := .ref h_s) (C := RX10) (T := TX10) (N := 67) hx hb hw inAX10 hown hK hP 1 rfl rfl 6 (by decide) (hw _ q_1267) (fun _ h9 => h9) n113 dX10_down_174 ?_
            refine lv_bipush (v := 44) hx hb dX10_down_177 (by decide) ?_
            refine lv_iload hx hb dX10_down_179 (lv_at hl 2 rfl) ?_
            refine lv_iadd hx hb dX10_down_181 ?_
            refine lv_topi (fun v114 ev114 => ?_)
            have bv114 : v114.toInt = 44 + u9.toInt := by rw [ev114]; exact add_k rfl rfl ⟨Int.le_refl _, Int.le_refl _⟩ k35 (by decide)
            have k115 : 44 ≤ v114.toInt ∧ v114.toInt ≤ 55 := add_r bv114 ⟨Int.le_refl _, Int.le_refl _⟩ k35 (by decide)
            refine va_iald hx hb hK hP 2 0 rfl rfl (ix_k k115 (by decide) (by decide)) dX10_down_182 ?_
            refine lv_topi (fun v116 ev116 => ?_)
            have k117 : 0 ≤ v116.toInt ∧ v116.toInt ≤ 9 := by rw [ev116]; exact s_s_44.at _ (Int.le_trans (by decide) k115.1) (Int.le_trans k115.2 (by decide))
            refine lv_sipush (v := 3000) hx hb dX10_down_183 (by decide) ?_
            refine lv_imul hx hb dX10_down_186 ?_
            refine lv_topi (fun v118 ev118 => ?_)
            have bv118 : v118.toInt = v116.toInt * 3000 := by rw [ev118]; exact mulk_k rfl rfl (by decide) k117 (by decide)
            have k119 : 0 ≤ v118.toInt ∧ v118.toInt ≤ 27000 := mulk_r bv118 (by decide) k117 (by decide)
            refine lv_iload_n hx hb dX10_down_187 rfl (lv_at hl 1 rfl) ?_
            refine lv_idiv hx hb dX10_down_188 (nz_k k98 (by decide)) ?_
            refine lv_topi (fun v120 ev120 => ?_)
            have k121 : 0 ≤ v120.toInt ∧ v120.toInt ≤ 2700 := by rw [ev120]; exact divv_k (Int.le_trans (by decide) k119.1) k119.2 k98.1 (by decide)
            refine lv_iadd hx hb dX10_down_189 ?_
            refine lv_topi (fun v122 ev122 => ?_)
            have bv122 : v122.toInt = u11.toInt + v120.toInt := by rw [ev122]; exact add_k rfl rfl i22 k121 (by decide)
            have k123 : 0 ≤ v122.toInt ∧ v122.toInt ≤ 35100 := add_r bv122 i22 k121 (by decide)
            refine lv_istore (lv' := [(4, .int v122), (5, .int v39), (3, .int v95), (6, .int u9), (0, .ref h0), (1, .int p0), (2, .int p1)]) hx hb dX10_down_190 hl (by decide) rfl (fun ls hl => ?_)
            obtain ⟨v124, ev124⟩ : ∃ z : Int32, z = u9 + 1 := ⟨_, rfl⟩
            have bv124 : v124.toInt = u9.toInt + 1 := by rw [ev124]; exact add_k rfl rfl k35 ⟨Int.le_refl _, Int.le_refl _⟩ (by decide)
            have k125 : 1 ≤ v124.toInt ∧ v124.toInt ≤ 12 := add_r bv124 k35 ⟨Int.le_refl _, Int.le_refl _⟩ (by decide)
            refine lv_iinc (v := v124) (lv' := [(6, .int v124), (4, .int v122), (5, .int v39), (3, .int v95), (0, .ref h0), (1, .int p0), (2, .int p1)]) hx hb dX10_down_192 hl (k := 3) rfl (by rw [ev124]; rfl) (by decide) rfl (fun ls hl => ?_)
            refine lv_goto (tgt := 38) hx hb dX10_down_195 (by decide) ?_
            have n126 : F44 35 = .int u15 := (get_ne eF44 (by decide) i25)
            have n127 : F99 35 = .int u15 := (get_ne eF99 (by decide) n126)
            have n128 : F112 35 = .int u15 := (get_ne eF112 (by decide) n127)
            have n129 : F112 36 = .int v95 := (get_ne eF112 (by decide) (get_eq eF99))
            exact ih (v124, v39, v122, v95, F112, v110, u15, v95, g106) ⟨(ir_wk k125 (by decide) (by decide)), (show 0 ≤ v122.toInt ∧ v122.toInt ≤ 32400 from ⟨by omega, by omega⟩), (SAME.up eF112 (SAME.up eF99 (SAME.up eF44 (SAME.tr SAME.rf i23 (by decide)) (by decide)) (by decide)) (by decide)), (get_eq eF112), n128, n129, (show 0 ≤ v110.toInt ∧ v110.toInt ≤ 12 from ⟨by omega, by omega⟩), i28, (by show v110.toInt = v124.toInt; omega), (by show 0 ≤ v122.toInt ∧ v122.toInt ≤ 2700 * v124.toInt; omega)⟩ (by show (12 - v124.toInt).toNat < (12 - u9.toInt).toNat; omega) _ _ _ (hP.sub [1, 2, 0] rfl) (hD.sub [1, 2, 0] (by decide) rfl) hS (lv_sub hl [0, 2, 1, 3, 4, 5, 6] rfl)
          · have dc97 : v95.toInt < 10 := nle_i (a := 10) (b := v95.toInt) rfl rfl c97
            have k130 : (-89) ≤ v95.toInt ∧ v95.toInt ≤ 9 := ⟨k96.1, up_lt dc97 (Int.le_refl _) (by decide)⟩
            refine lv_bipush (v := 10) hx hb dX10_down_124 (by decide) ?_
            refine lv_goto (tgt := 135) hx hb dX10_down_126 (by decide) ?_
            refine lv_istore_n (lv' := [(3, .int 10), (6, .int u9), (5, .int u10), (4, .int u11), (0, .ref h0), (1, .int p0), (2, .int p1)]) hx hb dX10_down_135 rfl hl (by decide) rfl (fun ls hl => ?_)
            refine lv_aload_n hx hb dX10_down_136 rfl (lv_at hl 4 rfl) ?_
            refine lv_iload_n hx hb dX10_down_137 rfl (lv_at hl 0 rfl) ?_
            refine put_f (D := D) (ci := 10) (v := .int 10) (ty := .int) (C := RX10) (T := TX10) (N := 67) hx hb hw inAX10 tyX10 tyX10_ok nmX10 hown hK hP hD hS 1 rfl rfl 36 (by decide) (hw _ q_1297) (fun _ h9 => h9) rfl (by decide +kernel) rfl rfl dX10_down_138 (fun H locs F131 eF131 hP hD hS => ?_)
            have hP : va_P D vwCl [(h_behindAt, .inl (cI, 12, .inl w17)), (h0, .inr (10, vL 67 F131)), (h_s, .inl (cI, 335, .inl f_s))] H := hP
            have hD : va_D A [(h_behindAt, .inl (cI, 12, .inl w17)), (h0, .inr (10, vL 67 F131)), (h_s, .inl (cI, 335, .inl f_s))] := hD
            refine lv_aload_n hx hb dX10_down_141 rfl (lv_at hl 4 rfl) ?_
            have n132 : F1 33 = .ref h_behindAt := (get_ne eF1 (by decide) e_behindAt)
            have n133 : F2 33 = .ref h_behindAt := (get_ne eF2 (by decide) n132)
            have n134 : F3 33 = .ref h_behindAt := (get_ne eF3 (by decide) n133)
            have n135 : G13 33 = .ref h_behindAt := (SAME.at i23 (by decide) n134)
            have n136 : F44 33 = .ref h_behindAt := (get_ne eF44 (by decide) n135)
            have n137 : F131 33 = .ref h_behindAt := (get_ne eF131 (by decide) n136)
            refine get_f (D := D) (ci := 10) (v := .ref h_behindAt) (C := RX10) (T := TX10) (N := 67) hx hb hw inAX10 hown hK hP 1 rfl rfl 33 (by decide) (hw _ q_1294) (fun _ h9 => h9) n137 dX10_down_142 ?_
            refine lv_iload hx hb dX10_down_145 (lv_at hl 1 rfl) ?_
            refine lv_iload_n hx hb dX10_down_147 rfl (lv_at hl 0 rfl) ?_
            obtain ⟨g138, eg138⟩ : ∃ z : Nat → Int32, upd w17 u9.toNatClampNeg 10 = z := ⟨_, rfl⟩
            refine iast_g hx hb hK hP hD hS 0 0 rfl rfl (ix_k k35 (by decide) (by decide)) eg138 dX10_down_148 (fun H locs hP hD hS => ?_)
            have hP : va_P D vwCl [(h_behindAt, .inl (cI, 12, .inl g138)), (h0, .inr (10, vL 67 F131)), (h_s, .inl (cI, 335, .inl f_s))] H := hP
            have hD : va_D A [(h_behindAt, .inl (cI, 12, .inl g138)), (h0, .inr (10, vL 67 F131)), (h_s, .inl (cI, 335, .inl f_s))] := hD
            refine lv_aload_n hx hb dX10_down_149 rfl (lv_at hl 4 rfl) ?_
            have n139 : F131 6 = .ref h_s := (get_ne eF131 (by decide) n45)
            refine get_f (D := D) (ci := 10) (v := .ref h_s) (C := RX10) (T := TX10) (N := 67) hx hb hw inAX10 hown hK hP 1 rfl rfl 6 (by decide) (hw _ q_1267) (fun _ h9 => h9) n139 dX10_down_150 ?_
            refine lv_bipush (v := 116) hx hb dX10_down_153 (by decide) ?_
            refine lv_iload hx hb dX10_down_155 (lv_at hl 1 rfl) ?_
            refine lv_iadd hx hb dX10_down_157 ?_
            refine lv_ci (y := v37) ev37.symm ?_
            refine va_iald hx hb hK hP 2 0 rfl rfl (ix_k k38 (by decide) (by decide)) dX10_down_158 ?_
            refine lv_ci (y := v39) ev39.symm ?_
            refine lv_istore (lv' := [(5, .int v39), (3, .int 10), (6, .int u9), (4, .int u11), (0, .ref h0), (1, .int p0), (2, .int p1)]) hx hb dX10_down_159 hl (by decide) rfl (fun ls hl => ?_)
            refine lv_aload_n hx hb dX10_down_161 rfl (lv_at hl 4 rfl) ?_
            refine lv_dup hx hb dX10_down_162 rfl ?_
            have n140 : F44 34 = .int u14 := (get_ne eF44 (by decide) i24)
            have n141 : F131 34 = .int u14 := (get_ne eF131 (by decide) n140)
            refine get_f (D := D) (ci := 10) (v := .int u14) (C := RX10) (T := TX10) (N := 67) hx hb hw inAX10 hown hK hP 1 rfl rfl 34 (by decide) (hw _ q_1295) (fun _ h9 => h9) n141 dX10_down_163 ?_
            refine lv_iconst (v := 1) hx hb dX10_down_166 (by decide) ?_
            refine lv_iadd hx hb dX10_down_167 ?_
            refine lv_topi (fun v142 ev142 => ?_)
            have bv142 : v142.toInt = u14.toInt + 1 := by rw [ev142]; exact add_k rfl rfl i27 ⟨Int.le_refl _, Int.le_refl _⟩ (by decide)
            have k143 : 1 ≤ v142.toInt ∧ v142.toInt ≤ 13 := add_r bv142 i27 ⟨Int.le_refl _, Int.le_refl _⟩ (by decide)
            refine put_f (D := D) (ci := 10) (v := .int v142) (ty := .int) (C := RX10) (T := TX10) (N := 67) hx hb hw inAX10 tyX10 tyX10_ok nmX10 hown hK hP hD hS 1 rfl rfl 34 (by decide) (hw _ q_1295) (fun _ h9 => h9) rfl (by decide +kernel) rfl rfl dX10_down_168 (fun H locs F144 eF144 hP hD hS => ?_)
            have hP : va_P D vwCl [(h_behindAt, .inl (cI, 12, .inl g138)), (h0, .inr (10, vL 67 F144)), (h_s, .inl (cI, 335, .inl f_s))] H := hP
            have hD : va_D A [(h_behindAt, .inl (cI, 12, .inl g138)), (h0, .inr (10, vL 67 F144)), (h_s, .inl (cI, 335, .inl f_s))] := hD
            refine lv_iload hx hb dX10_down_171 (lv_at hl 3 rfl) ?_
            refine lv_aload_n hx hb dX10_down_173 rfl (lv_at hl 4 rfl) ?_
            have n145 : F144 6 = .ref h_s := (get_ne eF144 (by decide) n139)
            refine get_f (D := D) (ci := 10) (v := .ref h_s) (C := RX10) (T := TX10) (N := 67) hx hb hw inAX10 hown hK hP 1 rfl rfl 6 (by decide) (hw _ q_1267) (fun _ h9 => h9) n145 dX10_down_174 ?_
            refine lv_bipush (v := 44) hx hb dX10_down_177 (by decide) ?_
            refine lv_iload hx hb dX10_down_179 (lv_at hl 2 rfl) ?_
            refine lv_iadd hx hb dX10_down_181 ?_
            refine lv_topi (fun v146 ev146 => ?_)
            have bv146 : v146.toInt = 44 + u9.toInt := by rw [ev146]; exact add_k rfl rfl ⟨Int.le_refl _, Int.le_refl _⟩ k35 (by decide)
            have k147 : 44 ≤ v146.toInt ∧ v146.toInt ≤ 55 := add_r bv146 ⟨Int.le_refl _, Int.le_refl _⟩ k35 (by decide)
            refine va_iald hx hb hK hP 2 0 rfl rfl (ix_k k147 (by decide) (by decide)) dX10_down_182 ?_
            refine lv_topi (fun v148 ev148 => ?_)
            have k149 : 0 ≤ v148.toInt ∧ v148.toInt ≤ 9 := by rw [ev148]; exact s_s_44.at _ (Int.le_trans (by decide) k147.1) (Int.le_trans k147.2 (by decide))
            refine lv_sipush (v := 3000) hx hb dX10_down_183 (by decide) ?_
            refine lv_imul hx hb dX10_down_186 ?_
            refine lv_topi (fun v150 ev150 => ?_)
            have bv150 : v150.toInt = v148.toInt * 3000 := by rw [ev150]; exact mulk_k rfl rfl (by decide) k149 (by decide)
            have k151 : 0 ≤ v150.toInt ∧ v150.toInt ≤ 27000 := mulk_r bv150 (by decide) k149 (by decide)
            refine lv_iload_n hx hb dX10_down_187 rfl (lv_at hl 1 rfl) ?_
            refine lv_idiv hx hb dX10_down_188 (by decide) ?_
            refine lv_topi (fun v152 ev152 => ?_)
            have bv152 : v152.toInt = v150.toInt / 10 := by rw [ev152]; exact div_i rfl rfl (Int.le_trans (by decide) k151.1) (by decide)
            have k153 : 0 ≤ v152.toInt ∧ v152.toInt ≤ 2700 := div_r bv152 k151 (by decide)
            refine lv_iadd hx hb dX10_down_189 ?_
            refine lv_topi (fun v154 ev154 => ?_)
            have bv154 : v154.toInt = u11.toInt + v152.toInt := by rw [ev154]; exact add_k rfl rfl i22 k153 (by decide)
            have k155 : 0 ≤ v154.toInt ∧ v154.toInt ≤ 35100 := add_r bv154 i22 k153 (by decide)
            refine lv_istore (lv' := [(4, .int v154), (5, .int v39), (3, .int 10), (6, .int u9), (0, .ref h0), (1, .int p0), (2, .int p1)]) hx hb dX10_down_190 hl (by decide) rfl (fun ls hl => ?_)
            obtain ⟨v156, ev156⟩ : ∃ z : Int32, z = u9 + 1 := ⟨_, rfl⟩
            have bv156 : v156.toInt = u9.toInt + 1 := by rw [ev156]; exact add_k rfl rfl k35 ⟨Int.le_refl _, Int.le_refl _⟩ (by decide)
            have k157 : 1 ≤ v156.toInt ∧ v156.toInt ≤ 12 := add_r bv156 k35 ⟨Int.le_refl _, Int.le_refl _⟩ (by decide)
            refine lv_iinc (v := v156) (lv' := [(6, .int v156), (4, .int v154), (5, .int v39), (3, .int 10), (0, .ref h0), (1, .int p0), (2, .int p1)]) hx hb dX10_down_192 hl (k := 3) rfl (by rw [ev156]; rfl) (by decide) rfl (fun ls hl => ?_)
            refine lv_goto (tgt := 38) hx hb dX10_down_195 (by decide) ?_
            have n158 : F44 35 = .int u15 := (get_ne eF44 (by decide) i25)
            have n159 : F131 35 = .int u15 := (get_ne eF131 (by decide) n158)
            have n160 : F144 35 = .int u15 := (get_ne eF144 (by decide) n159)
            have n161 : F144 36 = .int 10 := (get_ne eF144 (by decide) (get_eq eF131))
            exact ih (v156, v39, v154, 10, F144, v142, u15, 10, g138) ⟨(ir_wk k157 (by decide) (by decide)), (show 0 ≤ v154.toInt ∧ v154.toInt ≤ 32400 from ⟨by omega, by omega⟩), (SAME.up eF144 (SAME.up eF131 (SAME.up eF44 (SAME.tr SAME.rf i23 (by decide)) (by decide)) (by decide)) (by decide)), (get_eq eF144), n160, n161, (show 0 ≤ v142.toInt ∧ v142.toInt ≤ 12 from ⟨by omega, by omega⟩), i28, (by show v142.toInt = v156.toInt; omega), (by show 0 ≤ v154.toInt ∧ v154.toInt ≤ 2700 * v156.toInt; omega)⟩ (by show (12 - v156.toInt).toNat < (12 - u9.toInt).toNat; omega) _ _ _ (hP.sub [1, 2, 0] rfl) (hD.sub [1, 2, 0] (by decide) rfl) hS (lv_sub hl [0, 2, 1, 3, 4, 5, 6] rfl)
      · have dc50 : r46.toInt ≠ 0 := ne_i (a := r46.toInt) (b := 0) rfl rfl c50
        have k162 : 1 ≤ r46.toInt ∧ r46.toInt ≤ 1 := ⟨ne_lo dc50 t47.1 ⟨Int.le_refl _, Int.le_refl _⟩ (by decide), t47.2⟩
        refine lv_aload_n hx hb dX10_down_96 rfl (lv_at hl 4 rfl) ?_
        refine lv_iload hx hb dX10_down_97 (lv_at hl 1 rfl) ?_
        refine put_f (D := D) (ci := 10) (v := .int u9) (ty := .int) (C := RX10) (T := TX10) (N := 67) hx hb hw inAX10 tyX10 tyX10_ok nmX10 hown hK hP hD hS 1 rfl rfl 35 (by decide) (hw _ q_1296) (fun _ h9 => h9) rfl (by decide +kernel) rfl rfl dX10_down_99 (fun H locs F163 eF163 hP hD hS => ?_)
        have hP : va_P D vwCl [(h_behindAt, .inl (cI, 12, .inl w17)), (h0, .inr (10, vL 67 F163)), (h_s, .inl (cI, 335, .inl f_s))] H := hP
        have hD : va_D A [(h_behindAt, .inl (cI, 12, .inl w17)), (h0, .inr (10, vL 67 F163)), (h_s, .inl (cI, 335, .inl f_s))] := hD
        refine lv_iconst (v := (-1)) hx hb dX10_down_102 (by decide) ?_
        exact ret_i (v := (-1)) hx hb hr hlocks hS (hP.sub (ws' := [(h0, .inr (10, vL 67 F163)), (h_s, .inl (cI, 335, .inl f_s)), (h_behindAt, .inl (cI, 12, .inl w17))]) [1, 2, 0] rfl) (hD.sub (ws' := [(h0, .inr (10, vL 67 F163)), (h_s, .inl (cI, 335, .inl f_s)), (h_behindAt, .inl (cI, 12, .inl w17))]) [1, 2, 0] (by decide) rfl) dX10_down_103 rfl (Nat.le_of_ble_eq_true rfl) (Nat.le_of_ble_eq_true rfl) ⟨F163, u14, u9, r40, w17, (SAME.up eF163 (SAME.up eF44 (SAME.tr (SAME.up eF3 (SAME.up eF2 (SAME.up eF1 SAME.rf (by decide)) (by decide)) (by decide)) i23 (by decide)) (by decide)) (by decide)), (get_ne eF163 (by decide) (get_ne eF44 (by decide) i24)), i27, (get_eq eF163), (ir_wk k35 (by decide) (by decide)), (get_ne eF163 (by decide) (get_eq eF44)), (show (-1) ≤ ((-1) : Int32).toInt ∧ ((-1) : Int32).toInt ≤ 32400 by decide), rfl⟩
  · have dc8 : v7.toInt < p1.toInt := nle_i (a := p1.toInt) (b := v7.toInt) rfl rfl c8
    have k164 : (-2147483648) ≤ v7.toInt ∧ v7.toInt ≤ 2147483646 := ⟨(ir_any _).1, up_lt dc8 (ir_any _).2 (by decide)⟩
    have k165 : (-2147483647) ≤ p1.toInt ∧ p1.toInt ≤ 2147483647 := ⟨lo_lt dc8 (ir_any _).1 (by decide), (ir_any _).2⟩
    refine lv_iconst (v := (-1)) hx hb dX10_down_33 (by decide) ?_
    exact ret_i (v := (-1)) hx hb hr hlocks hS hP hD dX10_down_34 rfl (Nat.le_of_ble_eq_true rfl) (Nat.le_of_ble_eq_true rfl) ⟨F3, 0, (-1), p0, f_behindAt, (SAME.up eF3 (SAME.up eF2 (SAME.up eF1 SAME.rf (by decide)) (by decide)) (by decide)), (get_ne eF3 (by decide) (get_ne eF2 (by decide) (get_eq eF1))), (show 0 ≤ (0 : Int32).toInt ∧ (0 : Int32).toInt ≤ 12 by decide), (get_ne eF3 (by decide) (get_eq eF2)), (show (-1) ≤ ((-1) : Int32).toInt ∧ ((-1) : Int32).toInt ≤ 11 by decide), (get_eq eF3), (show (-1) ≤ ((-1) : Int32).toInt ∧ ((-1) : Int32).toInt ≤ 32400 by decide), rfl⟩
