set_option maxHeartbeats 4000000 in
set_option maxRecDepth 100000 in
theorem m_X10_fault (l : Launch) (D : va_G) (cI cJ cB cP cM cZ : ClassId) (h0 : Nat) (Fh : Nat → Value) (x_fault : Int32) (sz : Nat) (e_fault : Fh 15 = .int x_fault) : CI l yX10_fault cX10_fault 1 (some .int) { frames := 0, cells := 0, slots := 0, locals := 0 } (GG D cI cJ cB cP cM cZ) D [(h0, .inr (10, vL 67 Fh))] sz [.ref h0] (fun (r : Int32) (u : va_W) => ∃ (Gh : Nat → Value), SAME [0] Fh Gh ∧ Gh 0 = .int 0 ∧ r = x_fault ∧ u = [(h0, .inr (10, vL 67 Gh))]) := by
  refine CI_mk (by decide) (Nat.le_of_ble_eq_true rfl) ?_
  intro p e s m below meth c A ls E hAe hG hsz hP hD hA hS hl
  obtain ⟨hx, hb, hr, hw, hown, hlocks, hml, hnm⟩ := E
  have hK := hG.1
  have hl : lv_has ls 1 [(0, .ref h0)] := hl
  refine lv_aload_n hx hb dX10_fault_0 rfl (lv_at hl 0 rfl) ?_
  refine lv_iconst (v := 0) hx hb dX10_fault_1 (by decide) ?_
  refine put_f (D := D) (ci := 10) (v := .int 0) (ty := .int) (C := RX10) (T := TX10) (N := 67) hx hb hw inAX10 tyX10 tyX10_ok nmX10 hown hK hP hD hS 0 rfl rfl 0 (by decide) (hw _ q_1261) (fun _ h9 => h9) rfl (by decide +kernel) rfl rfl dX10_fault_2 (fun H locs F1 eF1 hP hD hS => ?_)
  have hP : va_P D vwCl [(h0, .inr (10, vL 67 F1))] H := hP
  have hD : va_D A [(h0, .inr (10, vL 67 F1))] := hD
  refine lv_aload_n hx hb dX10_fault_5 rfl (lv_at hl 0 rfl) ?_
  have n2 : F1 15 = .int x_fault := (get_ne eF1 (by decide) e_fault)
  refine get_f (D := D) (ci := 10) (v := .int x_fault) (C := RX10) (T := TX10) (N := 67) hx hb hw inAX10 hown hK hP 0 rfl rfl 15 (by decide) (hw _ q_1276) (fun _ h9 => h9) n2 dX10_fault_6 ?_
  exact ret_i (v := x_fault) hx hb hr hlocks hS hP hD dX10_fault_9 rfl (Nat.le_of_ble_eq_true rfl) (Nat.le_of_ble_eq_true rfl) ⟨F1, (SAME.up eF1 SAME.rf (by decide)), (get_eq eF1), rfl, rfl⟩
set_option maxHeartbeats 4000000 in
set_option maxRecDepth 100000 in
theorem m_X10_looksAtMan (l : Launch) (D : va_G) (cI cJ cB cP cM cZ : ClassId) (h0 : Nat) (h_s : Nat) (h_names : Nat) (h_reserved : Nat) (Fh : Nat → Value) (x_token : Int32) (x_at : Int32) (x_number : Int32) (x_word : Int64) (x_got : Int32) (f_s : Nat → Int32) (f_names : Nat → Int64) (f_reserved : Nat → Int64) (sz : Nat) (e_s : Fh 6 = .ref h_s) (e_names : Fh 9 = .ref h_names) (e_reserved : Fh 10 = .ref h_reserved) (e_token : Fh 11 = .int x_token) (i_x_token : IR 0 4 x_token) (e_at : Fh 12 = .int x_at) (e_number : Fh 14 = .int x_number) (e_word : Fh 18 = .long x_word) (e_got : Fh 19 = .int x_got) (s_s_K0 : KW 0 f_s) (s_s_0 : SG 0 0 0 40 f_s) (s_s_105 : SG 105 108 0 11 f_s) (s_s_114 : SG 114 114 0 5 f_s) (s_s_130 : SG 130 133 0 11 f_s) (s_s_139 : SG 139 139 0 5 f_s) (s_s_153 : SG 153 153 0 44 f_s) (s_s_44 : SG 44 55 0 9 f_s) (s_s_5 : SG 5 5 0 12 f_s) (s_s_6 : SG 6 6 0 12 f_s) (s_s_7 : SG 7 7 0 6 f_s) (s_reserved_KR : KRN f_reserved) (z_0 : (VWF x_token.toInt x_word.toInt)) (o_0 : (x_token.toInt = 2 → 0 ≤ x_number.toInt ∧ x_number.toInt ≤ 999)) : CI l yX10_looksAtMan cX10_looksAtMan 1 (some .boolean) { frames := 1, cells := 0, slots := 0, locals := 23 } (GG D cI cJ cB cP cM cZ) D [(h0, .inr (10, vL 67 Fh)), (h_s, .inl (cI, 335, .inl f_s)), (h_names, .inl (cJ, 36, .inr (.inl f_names))), (h_reserved, .inl (cJ, 23, .inr (.inl f_reserved)))] sz [.ref h0] (fun (r : Int32) (u : va_W) => (∃ (Gh : Nat → Value) (y_fault : Int32) (y_got : Int32), SAME [15, 16, 19] Fh Gh ∧ Gh 15 = .int y_fault ∧ IR 1 3 y_fault ∧ Gh 16 = .int x_at ∧ Gh 19 = .int y_got ∧ r = 0 ∧ u = [(h0, .inr (10, vL 67 Gh)), (h_s, .inl (cI, 335, .inl f_s)), (h_names, .inl (cJ, 36, .inr (.inl f_names))), (h_reserved, .inl (cJ, 23, .inr (.inl f_reserved)))]) ∨ (∃ (Gh : Nat → Value) (y_got : Int32), SAME [19] Fh Gh ∧ Gh 19 = .int y_got ∧ IR 0 11 y_got ∧ r = 1 ∧ u = [(h0, .inr (10, vL 67 Gh)), (h_s, .inl (cI, 335, .inl f_s)), (h_names, .inl (cJ, 36, .inr (.inl f_names))), (h_reserved, .inl (cJ, 23, .inr (.inl f_reserved)))])) := by
  refine CI_mk (by decide) (Nat.le_of_ble_eq_true rfl) ?_
  intro p e s m below meth c A ls E hAe hG hsz hP hD hA hS hl
  obtain ⟨hx, hb, hr, hw, hown, hlocks, hml, hnm⟩ := E
  have hK := hG.1
  have i_x_token : 0 ≤ x_token.toInt ∧ x_token.toInt ≤ 4 := i_x_token
  have hl : lv_has ls 1 [(0, .ref h0)] := hl
  refine lv_aload_n hx hb dX10_looksAtMan_0 rfl (lv_at hl 0 rfl) ?_
  refine call_Vi (wr := [(h_s, .inl (cI, 335, .inl f_s)), (h_names, .inl (cJ, 36, .inr (.inl f_names)))]) (As := []) (rest := []) hx hb hml hown hw (m_X10_isName l D cI cJ cB cP cM cZ h0 h_reserved Fh x_token x_number x_word f_reserved _ e_reserved e_token i_x_token e_number e_word s_reserved_KR z_0 (by omega)) wV_X10_218_X10_isName dX10_looksAtMan_1 hK hP hD hS hA [0, 3] [1, 2] rfl rfl (by decide) (by decide) (by decide) 0 10 rfl rfl GG.fb hG.at hl.1 rfl (Nat.le_of_ble_eq_true rfl) ⟨(Nat.le_of_ble_eq_true rfl), (Nat.le_of_ble_eq_true rfl)⟩ ⟨(Nat.le_of_ble_eq_true rfl), (Nat.le_of_ble_eq_true rfl)⟩ (fun r1 u H locs hp hP hD hS => ?_)
  obtain ⟨t2, t3, rfl⟩ := hp
  have hP : va_P D vwCl [(h_s, .inl (cI, 335, .inl f_s)), (h_names, .inl (cJ, 36, .inr (.inl f_names))), (h0, .inr (10, vL 67 Fh)), (h_reserved, .inl (cJ, 23, .inr (.inl f_reserved)))] H := hP
  have hD : va_D A [(h_s, .inl (cI, 335, .inl f_s)), (h_names, .inl (cJ, 36, .inr (.inl f_names))), (h0, .inr (10, vL 67 Fh)), (h_reserved, .inl (cJ, 23, .inr (.inl f_reserved)))] := hD
  refine W.widen (k := 0) (n := 0) (Nat.le_of_ble_eq_true rfl) (Nat.le_of_ble_eq_true rfl) ?_
  refine lv_if_ne (tgt := 13) hx hb dX10_looksAtMan_4 (by decide) (fun c5 => ?_) (fun c5 => ?_)
  · have dc5 : r1.toInt ≠ 0 := ne_i (a := r1.toInt) (b := 0) rfl rfl c5
    have k6 : 1 ≤ r1.toInt ∧ r1.toInt ≤ 1 := ⟨ne_lo dc5 t2.1 ⟨Int.le_refl _, Int.le_refl _⟩ (by decide), t2.2⟩
    refine lv_aload_n hx hb dX10_looksAtMan_13 rfl (lv_at hl 0 rfl) ?_
    refine lv_aload_n hx hb dX10_looksAtMan_14 rfl (lv_at hl 0 rfl) ?_
    refine lv_iconst (v := 0) hx hb dX10_looksAtMan_15 (by decide) ?_
    refine lv_aload_n hx hb dX10_looksAtMan_16 rfl (lv_at hl 0 rfl) ?_
    refine get_f (D := D) (ci := 10) (v := .ref h_s) (C := RX10) (T := TX10) (N := 67) hx hb hw inAX10 hown hK hP 2 rfl rfl 6 (by decide) (hw _ q_1267) (fun _ h9 => h9) e_s dX10_looksAtMan_17 ?_
    refine lv_iconst (v := 5) hx hb dX10_looksAtMan_20 (by decide) ?_
    refine iald_n hx hb hK hP 0 0 rfl rfl 5 rfl (Nat.le_of_ble_eq_true rfl) (Nat.le_of_ble_eq_true rfl) rfl dX10_looksAtMan_21 ?_
    refine lv_topi (fun v7 ev7 => ?_)
    have k8 : 0 ≤ v7.toInt ∧ v7.toInt ≤ 12 := by rw [ev7]; exact s_s_5.atN 5 (by decide) (by decide)
    refine call_Vi (wr := [(h_s, .inl (cI, 335, .inl f_s)), (h_reserved, .inl (cJ, 23, .inr (.inl f_reserved)))]) (As := [.int 0, .int v7]) (rest := [.ref h0]) hx hb hml hown hw (m_X10_find l D cI cJ cB cP cM cZ h0 h_names Fh x_word f_names 0 v7 _ e_names e_word (show 0 ≤ (0 : Int32).toInt ∧ (0 : Int32).toInt ≤ 30 by decide) k8 (by have z0 : (0 : Int32).toInt = 0 := rfl; omega)) wV_X10_222_X10_find dX10_looksAtMan_22 hK hP hD hS hA [2, 1] [0, 3] rfl rfl (by decide) (by decide) (by decide) 0 10 rfl rfl GG.fb hG.at hl.1 rfl (Nat.le_of_ble_eq_true rfl) ⟨(Nat.le_of_ble_eq_true rfl), (Nat.le_of_ble_eq_true rfl)⟩ ⟨(Nat.le_of_ble_eq_true rfl), (Nat.le_of_ble_eq_true rfl)⟩ (fun r9 u H locs hp hP hD hS => ?_)
    have zl0 : (0 : Int32).toInt = 0 := by decide
    rcases hp with ⟨t10, t11, t12, rfl, rfl⟩ | ⟨t13, t14, t15, t16, rfl⟩
    · have hP : va_P D vwCl [(h_s, .inl (cI, 335, .inl f_s)), (h_reserved, .inl (cJ, 23, .inr (.inl f_reserved))), (h0, .inr (10, vL 67 Fh)), (h_names, .inl (cJ, 36, .inr (.inl f_names)))] H := hP
      have hD : va_D A [(h_s, .inl (cI, 335, .inl f_s)), (h_reserved, .inl (cJ, 23, .inr (.inl f_reserved))), (h0, .inr (10, vL 67 Fh)), (h_names, .inl (cJ, 36, .inr (.inl f_names)))] := hD
      refine W.widen (k := 0) (n := 0) (Nat.le_of_ble_eq_true rfl) (Nat.le_of_ble_eq_true rfl) ?_
      refine put_f (D := D) (ci := 10) (v := .int (-1)) (ty := .int) (C := RX10) (T := TX10) (N := 67) hx hb hw inAX10 tyX10 tyX10_ok nmX10 hown hK hP hD hS 2 rfl rfl 19 (by decide) (hw _ q_1280) (fun _ h9 => h9) rfl (by decide +kernel) rfl rfl dX10_looksAtMan_25 (fun H locs F18 eF18 hP hD hS => ?_)
      have hP : va_P D vwCl [(h_s, .inl (cI, 335, .inl f_s)), (h_reserved, .inl (cJ, 23, .inr (.inl f_reserved))), (h0, .inr (10, vL 67 F18)), (h_names, .inl (cJ, 36, .inr (.inl f_names)))] H := hP
      have hD : va_D A [(h_s, .inl (cI, 335, .inl f_s)), (h_reserved, .inl (cJ, 23, .inr (.inl f_reserved))), (h0, .inr (10, vL 67 F18)), (h_names, .inl (cJ, 36, .inr (.inl f_names)))] := hD
      refine lv_aload_n hx hb dX10_looksAtMan_28 rfl (lv_at hl 0 rfl) ?_
      refine get_f (D := D) (ci := 10) (v := .int (-1)) (C := RX10) (T := TX10) (N := 67) hx hb hw inAX10 hown hK hP 2 rfl rfl 19 (by decide) (hw _ q_1280) (fun _ h9 => h9) (get_eq eF18) dX10_looksAtMan_29 ?_
      refine lv_if_ge (tgt := 43) hx hb dX10_looksAtMan_32 (by decide) (fun g => absurd g (by decide)) (fun _ => ?_)
      refine lv_aload_n hx hb dX10_looksAtMan_35 rfl (lv_at hl 0 rfl) ?_
      refine lv_iconst (v := 3) hx hb dX10_looksAtMan_36 (by decide) ?_
      have n19 : F18 12 = .int x_at := (get_ne eF18 (by decide) e_at)
      refine call_Vi (wr := [(h_s, .inl (cI, 335, .inl f_s)), (h_reserved, .inl (cJ, 23, .inr (.inl f_reserved))), (h_names, .inl (cJ, 36, .inr (.inl f_names)))]) (As := [.int 3]) (rest := []) hx hb hml hown hw (m_X10_bad l D cI cJ cB cP cM cZ h0 F18 x_at 3 _ n19) wV_X10_205_X10_bad dX10_looksAtMan_37 hK hP hD hS hA [2] [0, 1, 3] rfl rfl (by decide) (by decide) (by decide) 0 10 rfl rfl GG.fb hG.at hl.1 rfl (Nat.le_of_ble_eq_true rfl) ⟨(Nat.le_of_ble_eq_true rfl), (Nat.le_of_ble_eq_true rfl)⟩ ⟨(Nat.le_of_ble_eq_true rfl), (Nat.le_of_ble_eq_true rfl)⟩ (fun r20 u H locs hp hP hD hS => ?_)
      have zl3 : (3 : Int32).toInt = 3 := by decide
      obtain ⟨F21, t22, t23, t24, rfl, rfl⟩ := hp
      have hP : va_P D vwCl [(h_s, .inl (cI, 335, .inl f_s)), (h_reserved, .inl (cJ, 23, .inr (.inl f_reserved))), (h_names, .inl (cJ, 36, .inr (.inl f_names))), (h0, .inr (10, vL 67 F21))] H := hP
      have hD : va_D A [(h_s, .inl (cI, 335, .inl f_s)), (h_reserved, .inl (cJ, 23, .inr (.inl f_reserved))), (h_names, .inl (cJ, 36, .inr (.inl f_names))), (h0, .inr (10, vL 67 F21))] := hD
      refine W.widen (k := 0) (n := 0) (Nat.le_of_ble_eq_true rfl) (Nat.le_of_ble_eq_true rfl) ?_
      refine lv_if_eq (tgt := 47) hx hb dX10_looksAtMan_40 (by decide) (fun _ => ?_) (fun g => absurd (by decide) g)
      refine lv_iconst (v := 0) hx hb dX10_looksAtMan_47 (by decide) ?_
      exact ret_i (v := 0) hx hb hr hlocks hS (hP.sub (ws' := [(h0, .inr (10, vL 67 F21)), (h_s, .inl (cI, 335, .inl f_s)), (h_names, .inl (cJ, 36, .inr (.inl f_names))), (h_reserved, .inl (cJ, 23, .inr (.inl f_reserved)))]) [3, 0, 2, 1] rfl) (hD.sub (ws' := [(h0, .inr (10, vL 67 F21)), (h_s, .inl (cI, 335, .inl f_s)), (h_names, .inl (cJ, 36, .inr (.inl f_names))), (h_reserved, .inl (cJ, 23, .inr (.inl f_reserved)))]) [3, 0, 2, 1] (by decide) rfl) dX10_looksAtMan_48 rfl (Nat.le_of_ble_eq_true rfl) (Nat.le_of_ble_eq_true rfl) (Or.inl ⟨F21, 3, (-1), (SAME.tr (SAME.up eF18 SAME.rf (by decide)) t22 (by decide)), t23, (show 1 ≤ (3 : Int32).toInt ∧ (3 : Int32).toInt ≤ 3 by decide), t24, (SAME.at t22 (by decide) (get_eq eF18)), rfl, rfl⟩)
    · have hP : va_P D vwCl [(h_s, .inl (cI, 335, .inl f_s)), (h_reserved, .inl (cJ, 23, .inr (.inl f_reserved))), (h0, .inr (10, vL 67 Fh)), (h_names, .inl (cJ, 36, .inr (.inl f_names)))] H := hP
      have hD : va_D A [(h_s, .inl (cI, 335, .inl f_s)), (h_reserved, .inl (cJ, 23, .inr (.inl f_reserved))), (h0, .inr (10, vL 67 Fh)), (h_names, .inl (cJ, 36, .inr (.inl f_names)))] := hD
      refine W.widen (k := 0) (n := 0) (Nat.le_of_ble_eq_true rfl) (Nat.le_of_ble_eq_true rfl) ?_
      have k26 : 1 ≤ v7.toInt ∧ v7.toInt ≤ 12 := ⟨lo_lt t14 (Int.le_refl _) (by decide), k8.2⟩
      refine put_f (D := D) (ci := 10) (v := .int r9) (ty := .int) (C := RX10) (T := TX10) (N := 67) hx hb hw inAX10 tyX10 tyX10_ok nmX10 hown hK hP hD hS 2 rfl rfl 19 (by decide) (hw _ q_1280) (fun _ h9 => h9) rfl (by decide +kernel) rfl rfl dX10_looksAtMan_25 (fun H locs F27 eF27 hP hD hS => ?_)
      have hP : va_P D vwCl [(h_s, .inl (cI, 335, .inl f_s)), (h_reserved, .inl (cJ, 23, .inr (.inl f_reserved))), (h0, .inr (10, vL 67 F27)), (h_names, .inl (cJ, 36, .inr (.inl f_names)))] H := hP
      have hD : va_D A [(h_s, .inl (cI, 335, .inl f_s)), (h_reserved, .inl (cJ, 23, .inr (.inl f_reserved))), (h0, .inr (10, vL 67 F27)), (h_names, .inl (cJ, 36, .inr (.inl f_names)))] := hD
      refine lv_aload_n hx hb dX10_looksAtMan_28 rfl (lv_at hl 0 rfl) ?_
      refine get_f (D := D) (ci := 10) (v := .int r9) (C := RX10) (T := TX10) (N := 67) hx hb hw inAX10 hown hK hP 2 rfl rfl 19 (by decide) (hw _ q_1280) (fun _ h9 => h9) (get_eq eF27) dX10_looksAtMan_29 ?_
      refine lv_if_ge (tgt := 43) hx hb dX10_looksAtMan_32 (by decide) (fun c28 => ?_) (fun c28 => False.elim (bad_lt (nle_i (a := 0) (b := r9.toInt) rfl rfl c28) t13.1 (Int.le_refl _) (by decide)))
      have dc28 : 0 ≤ r9.toInt := le_i (a := 0) (b := r9.toInt) rfl rfl c28
      refine lv_iconst (v := 1) hx hb dX10_looksAtMan_43 (by decide) ?_
      refine lv_goto (tgt := 48) hx hb dX10_looksAtMan_44 (by decide) ?_
      exact ret_i (v := 1) hx hb hr hlocks hS (hP.sub (ws' := [(h0, .inr (10, vL 67 F27)), (h_s, .inl (cI, 335, .inl f_s)), (h_names, .inl (cJ, 36, .inr (.inl f_names))), (h_reserved, .inl (cJ, 23, .inr (.inl f_reserved)))]) [2, 0, 3, 1] rfl) (hD.sub (ws' := [(h0, .inr (10, vL 67 F27)), (h_s, .inl (cI, 335, .inl f_s)), (h_names, .inl (cJ, 36, .inr (.inl f_names))), (h_reserved, .inl (cJ, 23, .inr (.inl f_reserved)))]) [2, 0, 3, 1] (by decide) rfl) dX10_looksAtMan_48 rfl (Nat.le_of_ble_eq_true rfl) (Nat.le_of_ble_eq_true rfl) (Or.inr ⟨F27, r9, (SAME.up eF27 SAME.rf (by decide)), (get_eq eF27), t13, rfl, rfl⟩)
  · have dc5 : r1.toInt = 0 := eq_i (a := r1.toInt) (b := 0) rfl rfl c5
    have k29 : 0 ≤ r1.toInt ∧ r1.toInt ≤ 0 := ⟨t2.1, Int.le_trans (Int.le_of_eq dc5) (Int.le_refl _)⟩
    refine lv_aload_n hx hb dX10_looksAtMan_7 rfl (lv_at hl 0 rfl) ?_
    refine lv_iconst (v := 1) hx hb dX10_looksAtMan_8 (by decide) ?_
    refine call_Vi (wr := [(h_s, .inl (cI, 335, .inl f_s)), (h_names, .inl (cJ, 36, .inr (.inl f_names))), (h_reserved, .inl (cJ, 23, .inr (.inl f_reserved)))]) (As := [.int 1]) (rest := []) hx hb hml hown hw (m_X10_bad l D cI cJ cB cP cM cZ h0 Fh x_at 1 _ e_at) wV_X10_205_X10_bad dX10_looksAtMan_9 hK hP hD hS hA [2] [0, 1, 3] rfl rfl (by decide) (by decide) (by decide) 0 10 rfl rfl GG.fb hG.at hl.1 rfl (Nat.le_of_ble_eq_true rfl) ⟨(Nat.le_of_ble_eq_true rfl), (Nat.le_of_ble_eq_true rfl)⟩ ⟨(Nat.le_of_ble_eq_true rfl), (Nat.le_of_ble_eq_true rfl)⟩ (fun r30 u H locs hp hP hD hS => ?_)
    have zl1 : (1 : Int32).toInt = 1 := by decide
    obtain ⟨F31, t32, t33, t34, rfl, rfl⟩ := hp
    have hP : va_P D vwCl [(h_s, .inl (cI, 335, .inl f_s)), (h_names, .inl (cJ, 36, .inr (.inl f_names))), (h_reserved, .inl (cJ, 23, .inr (.inl f_reserved))), (h0, .inr (10, vL 67 F31))] H := hP
    have hD : va_D A [(h_s, .inl (cI, 335, .inl f_s)), (h_names, .inl (cJ, 36, .inr (.inl f_names))), (h_reserved, .inl (cJ, 23, .inr (.inl f_reserved))), (h0, .inr (10, vL 67 F31))] := hD
    refine W.widen (k := 0) (n := 0) (Nat.le_of_ble_eq_true rfl) (Nat.le_of_ble_eq_true rfl) ?_
    exact ret_i (v := 0) hx hb hr hlocks hS (hP.sub (ws' := [(h0, .inr (10, vL 67 F31)), (h_s, .inl (cI, 335, .inl f_s)), (h_names, .inl (cJ, 36, .inr (.inl f_names))), (h_reserved, .inl (cJ, 23, .inr (.inl f_reserved)))]) [3, 0, 1, 2] rfl) (hD.sub (ws' := [(h0, .inr (10, vL 67 F31)), (h_s, .inl (cI, 335, .inl f_s)), (h_names, .inl (cJ, 36, .inr (.inl f_names))), (h_reserved, .inl (cJ, 23, .inr (.inl f_reserved)))]) [3, 0, 1, 2] (by decide) rfl) dX10_looksAtMan_12 rfl (Nat.le_of_ble_eq_true rfl) (Nat.le_of_ble_eq_true rfl) (Or.inl ⟨F31, 1, x_got, (SAME.tr SAME.rf t32 (by decide)), t33, (show 1 ≤ (1 : Int32).toInt ∧ (1 : Int32).toInt ≤ 3 by decide), t34, (SAME.at t32 (by decide) e_got), rfl, rfl⟩)
set_option maxHeartbeats 4000000 in
set_option maxRecDepth 100000 in
theorem m_X10_placeIn (l : Launch) (D : va_G) (cI cJ cB cP cM cZ : ClassId) (h0 : Nat) (h_planRead : Nat) (Fh : Nat → Value) (f_planRead : Nat → Int32) (p0 : Int32) (p1 : Int32) (sz : Nat) (e_planRead : Fh 22 = .ref h_planRead) (s_planRead_1 : SG 1 4 0 11 f_planRead) (s_planRead_10 : SG 10 10 0 5 f_planRead) (i_p1 : IR 0 4 p1) : CI l yX10_placeIn cX10_placeIn 4 (some .int) { frames := 0, cells := 0, slots := 0, locals := 0 } (GG D cI cJ cB cP cM cZ) D [(h0, .inr (10, vL 67 Fh)), (h_planRead, .inl (cI, 24, .inl f_planRead))] sz [.ref h0, .int p0, .int p1] (fun (r : Int32) (u : va_W) => IR (-1) 3 r ∧ u = [(h0, .inr (10, vL 67 Fh)), (h_planRead, .inl (cI, 24, .inl f_planRead))]) := by
  refine CI_mk (by decide) (Nat.le_of_ble_eq_true rfl) ?_
  intro p e s m below meth c A ls E hAe hG hsz hP hD hA hS hl
  obtain ⟨hx, hb, hr, hw, hown, hlocks, hml, hnm⟩ := E
  have hK := hG.1
  have i_p1 : 0 ≤ p1.toInt ∧ p1.toInt ≤ 4 := i_p1
  have hl : lv_has ls 4 [(0, .ref h0), (1, .int p0), (2, .int p1)] := hl
  refine lv_iconst (v := 0) hx hb dX10_placeIn_0 (by decide) ?_
  refine lv_istore_n (lv' := [(3, .int 0), (0, .ref h0), (1, .int p0), (2, .int p1)]) hx hb dX10_placeIn_1 rfl hl (by decide) rfl (fun ls hl => ?_)
  refine mloop (α := (Int32)) (nL := 4) (D := D) (A := A) (H0 := s.heap) (fun a => (4 - a.toInt).toNat) (fun a => IR 0 4 a) (fun a => [(h0, .inr (10, vL 67 Fh)), (h_planRead, .inl (cI, 24, .inl f_planRead))]) (fun a => [(3, .int a), (0, .ref h0), (1, .int p0), (2, .int p1)]) (fun H locs ls => W p l e ({ frames := 0, cells := 0, slots := 0, locals := 0 } : Room) s m [.ref h0, .int p0, .int p1].toArray below meth c H locs 0 0 (MQ below (va_Qi (fun (r : Int32) (u : va_W) => IR (-1) 3 r ∧ u = [(h0, .inr (10, vL 67 Fh)), (h_planRead, .inl (cI, 24, .inl f_planRead))]) (PO D A) A) [.ref h0, .int p0, .int p1].toArray s 0 0 A) (F0 m 2 ls [])) ?_ (0) (show 0 ≤ (0 : Int32).toInt ∧ (0 : Int32).toInt ≤ 4 by decide) _ _ _ hP hD hS hl
  rintro u1 i2 ih H locs ls hP hD hS hl
  have i2 : 0 ≤ u1.toInt ∧ u1.toInt ≤ 4 := i2
  have hP : va_P D vwCl [(h0, .inr (10, vL 67 Fh)), (h_planRead, .inl (cI, 24, .inl f_planRead))] H := hP
  have hD : va_D A [(h0, .inr (10, vL 67 Fh)), (h_planRead, .inl (cI, 24, .inl f_planRead))] := hD
  have hl : lv_has ls 4 [(3, .int u1), (0, .ref h0), (1, .int p0), (2, .int p1)] := hl
  refine lv_iload_n hx hb dX10_placeIn_2 rfl (lv_at hl 0 rfl) ?_
  refine lv_iload_n hx hb dX10_placeIn_3 rfl (lv_at hl 3 rfl) ?_
  refine lv_icmp_ge (tgt := 27) hx hb dX10_placeIn_4 (by decide) (fun c3 => ?_) (fun c3 => ?_)
  · have dc3 : p1.toInt ≤ u1.toInt := le_i (a := p1.toInt) (b := u1.toInt) rfl rfl c3
    refine lv_iconst (v := (-1)) hx hb dX10_placeIn_27 (by decide) ?_
    exact ret_i (v := (-1)) hx hb hr hlocks hS hP hD dX10_placeIn_28 rfl (Nat.le_of_ble_eq_true rfl) (Nat.le_of_ble_eq_true rfl) ⟨(show (-1) ≤ ((-1) : Int32).toInt ∧ ((-1) : Int32).toInt ≤ 3 by decide), rfl⟩
  · have dc3 : u1.toInt < p1.toInt := nle_i (a := p1.toInt) (b := u1.toInt) rfl rfl c3
    have k4 : 0 ≤ u1.toInt ∧ u1.toInt ≤ 3 := ⟨i2.1, up_lt dc3 i_p1.2 (by decide)⟩
    have k5 : 1 ≤ p1.toInt ∧ p1.toInt ≤ 4 := ⟨lo_lt dc3 i2.1 (by decide), i_p1.2⟩
    refine lv_aload_n hx hb dX10_placeIn_7 rfl (lv_at hl 1 rfl) ?_
    refine get_f (D := D) (ci := 10) (v := .ref h_planRead) (C := RX10) (T := TX10) (N := 67) hx hb hw inAX10 hown hK hP 0 rfl rfl 22 (by decide) (hw _ q_1283) (fun _ h9 => h9) e_planRead dX10_placeIn_8 ?_
    refine lv_iconst (v := 1) hx hb dX10_placeIn_11 (by decide) ?_
    refine lv_iload_n hx hb dX10_placeIn_12 rfl (lv_at hl 0 rfl) ?_
    refine lv_iadd hx hb dX10_placeIn_13 ?_
    refine lv_topi (fun v6 ev6 => ?_)
    have bv6 : v6.toInt = 1 + u1.toInt := by rw [ev6]; exact add_k rfl rfl ⟨Int.le_refl _, Int.le_refl _⟩ k4 (by decide)
    have k7 : 1 ≤ v6.toInt ∧ v6.toInt ≤ 4 := add_r bv6 ⟨Int.le_refl _, Int.le_refl _⟩ k4 (by decide)
    refine va_iald hx hb hK hP 1 0 rfl rfl (ix_k k7 (by decide) (by decide)) dX10_placeIn_14 ?_
    refine lv_topi (fun v8 ev8 => ?_)
    have k9 : 0 ≤ v8.toInt ∧ v8.toInt ≤ 11 := by rw [ev8]; exact s_planRead_1.at _ (Int.le_trans (by decide) k7.1) (Int.le_trans k7.2 (by decide))
    refine lv_iload_n hx hb dX10_placeIn_15 rfl (lv_at hl 2 rfl) ?_
    refine lv_icmp_ne (tgt := 21) hx hb dX10_placeIn_16 (by decide) (fun c10 => ?_) (fun c10 => ?_)
    · have dc10 : v8.toInt ≠ p0.toInt := ne_i (a := v8.toInt) (b := p0.toInt) rfl rfl c10
      obtain ⟨v11, ev11⟩ : ∃ z : Int32, z = u1 + 1 := ⟨_, rfl⟩
      have bv11 : v11.toInt = u1.toInt + 1 := by rw [ev11]; exact add_k rfl rfl k4 ⟨Int.le_refl _, Int.le_refl _⟩ (by decide)
      have k12 : 1 ≤ v11.toInt ∧ v11.toInt ≤ 4 := add_r bv11 k4 ⟨Int.le_refl _, Int.le_refl _⟩ (by decide)
      refine lv_iinc (v := v11) (lv' := [(3, .int v11), (0, .ref h0), (1, .int p0), (2, .int p1)]) hx hb dX10_placeIn_21 hl (k := 0) rfl (by rw [ev11]; rfl) (by decide) rfl (fun ls hl => ?_)
      refine lv_goto (tgt := 2) hx hb dX10_placeIn_24 (by decide) ?_
      exact ih (v11) (ir_wk k12 (by decide) (by decide)) (by show (4 - v11.toInt).toNat < (4 - u1.toInt).toNat; omega) _ _ _ hP hD hS (lv_sub hl [0, 1, 2, 3] rfl)
    · have dc10 : v8.toInt = p0.toInt := eq_i (a := v8.toInt) (b := p0.toInt) rfl rfl c10
      have k13 : 0 ≤ p0.toInt ∧ p0.toInt ≤ 11 := ⟨Int.le_trans k9.1 (Int.le_of_eq dc10), Int.le_trans (Int.le_of_eq dc10.symm) k9.2⟩
      refine lv_iload_n hx hb dX10_placeIn_19 rfl (lv_at hl 0 rfl) ?_
      exact ret_i (v := u1) hx hb hr hlocks hS hP hD dX10_placeIn_20 rfl (Nat.le_of_ble_eq_true rfl) (Nat.le_of_ble_eq_true rfl) ⟨(ir_wk k4 (by decide) (by decide)), rfl⟩
set_option maxHeartbeats 4000000 in
set_option maxRecDepth 100000 in
theorem m_X10_planLine (l : Launch) (D : va_G) (cI cJ cB cP cM cZ : ClassId) (h0 : Nat) (h_tape : Nat) (h_s : Nat) (h_names : Nat) (h_reserved : Nat) (h_planRead : Nat) (Fh : Nat → Value) (x_size : Int32) (x_p : Int32) (x_limit : Int32) (x_token : Int32) (x_at : Int32) (x_span : Int32) (x_number : Int32) (x_fault : Int32) (x_faultAt : Int32) (x_word : Int64) (x_got : Int32) (x_onces : Int32) (x_jumped : Int32) (x_heights : Int32) (f_tape : Nat → Int32) (f_s : Nat → Int32) (f_names : Nat → Int64) (f_reserved : Nat → Int64) (f_planRead : Nat → Int32) (sz : Nat) (e_tape : Fh 1 = .ref h_tape) (e_size : Fh 3 = .int x_size) (i_x_size : IR 0 940 x_size) (e_p : Fh 4 = .int x_p) (i_x_p : IR 0 940 x_p) (e_limit : Fh 5 = .int x_limit) (i_x_limit : IR 200 940 x_limit) (e_s : Fh 6 = .ref h_s) (e_names : Fh 9 = .ref h_names) (e_reserved : Fh 10 = .ref h_reserved) (e_token : Fh 11 = .int x_token) (i_x_token : IR 0 4 x_token) (e_at : Fh 12 = .int x_at) (e_span : Fh 13 = .int x_span) (e_number : Fh 14 = .int x_number) (e_fault : Fh 15 = .int x_fault) (e_faultAt : Fh 16 = .int x_faultAt) (e_word : Fh 18 = .long x_word) (e_got : Fh 19 = .int x_got) (e_onces : Fh 21 = .int x_onces) (e_planRead : Fh 22 = .ref h_planRead) (e_jumped : Fh 23 = .int x_jumped) (e_heights : Fh 24 = .int x_heights) (s_s_K0 : KW 0 f_s) (s_s_0 : SG 0 0 0 40 f_s) (s_s_105 : SG 105 108 0 11 f_s) (s_s_114 : SG 114 114 0 5 f_s) (s_s_130 : SG 130 133 0 11 f_s) (s_s_139 : SG 139 139 0 5 f_s) (s_s_153 : SG 153 153 0 44 f_s) (s_s_44 : SG 44 55 0 9 f_s) (s_s_5 : SG 5 5 0 12 f_s) (s_s_6 : SG 6 6 0 12 f_s) (s_s_7 : SG 7 7 0 6 f_s) (s_reserved_KR : KRN f_reserved) (s_planRead_1 : SG 1 4 0 11 f_planRead) (s_planRead_10 : SG 10 10 0 5 f_planRead) (z_0 : (VWF x_token.toInt x_word.toInt)) (o_0 : (x_token.toInt = 2 → 0 ≤ x_number.toInt ∧ x_number.toInt ≤ 999)) : CI l yX10_planLine cX10_planLine 2 (some .boolean) { frames := 3, cells := 0, slots := 0, locals := 65 } (GG D cI cJ cB cP cM cZ) D [(h0, .inr (10, vL 67 Fh)), (h_tape, .inl (cB, 940, .inl f_tape)), (h_s, .inl (cI, 335, .inl f_s)), (h_names, .inl (cJ, 36, .inr (.inl f_names))), (h_reserved, .inl (cJ, 23, .inr (.inl f_reserved))), (h_planRead, .inl (cI, 24, .inl f_planRead))] sz [.ref h0] (fun (r : Int32) (u : va_W) => (∃ (Gh : Nat → Value) (y_p : Int32) (y_token : Int32) (y_at : Int32) (y_span : Int32) (y_number : Int32) (y_fault : Int32) (y_faultAt : Int32) (y_word : Int64) (y_got : Int32) (y_onces : Int32) (y_jumped : Int32) (y_heights : Int32) (g_planRead : Nat → Int32), SAME [4, 11, 12, 13, 14, 15, 16, 18, 19, 21, 23, 24] Fh Gh ∧ Gh 4 = .int y_p ∧ IR 0 940 y_p ∧ Gh 11 = .int y_token ∧ IR 0 4 y_token ∧ Gh 12 = .int y_at ∧ Gh 13 = .int y_span ∧ Gh 14 = .int y_number ∧ Gh 15 = .int y_fault ∧ IR 1 3 y_fault ∧ Gh 16 = .int y_faultAt ∧ Gh 18 = .long y_word ∧ Gh 19 = .int y_got ∧ Gh 21 = .int y_onces ∧ Gh 23 = .int y_jumped ∧ Gh 24 = .int y_heights ∧ SG 1 4 0 11 g_planRead ∧ SG 10 10 0 5 g_planRead ∧ ((y_token.toInt = 2 → 0 ≤ y_number.toInt ∧ y_number.toInt ≤ 999)) ∧ r = 0 ∧ u = [(h0, .inr (10, vL 67 Gh)), (h_tape, .inl (cB, 940, .inl f_tape)), (h_s, .inl (cI, 335, .inl f_s)), (h_names, .inl (cJ, 36, .inr (.inl f_names))), (h_reserved, .inl (cJ, 23, .inr (.inl f_reserved))), (h_planRead, .inl (cI, 24, .inl g_planRead))]) ∨ (∃ (Gh : Nat → Value) (y_p : Int32) (y_token : Int32) (y_at : Int32) (y_span : Int32) (y_number : Int32) (y_fault : Int32) (y_faultAt : Int32) (y_word : Int64) (y_got : Int32) (y_onces : Int32) (y_jumped : Int32) (y_heights : Int32) (g_planRead : Nat → Int32), SAME [4, 11, 12, 13, 14, 15, 16, 18, 19, 21, 23, 24] Fh Gh ∧ Gh 4 = .int y_p ∧ IR 0 940 y_p ∧ Gh 11 = .int y_token ∧ IR 0 4 y_token ∧ Gh 12 = .int y_at ∧ IR 0 940 y_at ∧ Gh 13 = .int y_span ∧ IR 0 940 y_span ∧ Gh 14 = .int y_number ∧ Gh 15 = .int y_fault ∧ Gh 16 = .int y_faultAt ∧ Gh 18 = .long y_word ∧ Gh 19 = .int y_got ∧ Gh 21 = .int y_onces ∧ Gh 23 = .int y_jumped ∧ Gh 24 = .int y_heights ∧ SG 1 4 0 11 g_planRead ∧ SG 10 10 0 5 g_planRead ∧ (x_p.toInt ≤ y_p.toInt) ∧ ((1 ≤ y_token.toInt → y_token.toInt ≤ 3 → x_p.toInt < y_p.toInt)) ∧ ((VWF y_token.toInt y_word.toInt)) ∧ ((y_token.toInt = 2 → 0 ≤ y_number.toInt ∧ y_number.toInt ≤ 999)) ∧ r = 1 ∧ u = [(h0, .inr (10, vL 67 Gh)), (h_tape, .inl (cB, 940, .inl f_tape)), (h_s, .inl (cI, 335, .inl f_s)), (h_names, .inl (cJ, 36, .inr (.inl f_names))), (h_reserved, .inl (cJ, 23, .inr (.inl f_reserved))), (h_planRead, .inl (cI, 24, .inl g_planRead))])) := by
  refine CI_mk (by decide) (Nat.le_of_ble_eq_true rfl) ?_
  intro p e s m below meth c A ls E hAe hG hsz hP hD hA hS hl
  obtain ⟨hx, hb, hr, hw, hown, hlocks, hml, hnm⟩ := E
  have hK := hG.1
  have i_x_size : 0 ≤ x_size.toInt ∧ x_size.toInt ≤ 940 := i_x_size
  have i_x_p : 0 ≤ x_p.toInt ∧ x_p.toInt ≤ 940 := i_x_p
  have i_x_limit : 200 ≤ x_limit.toInt ∧ x_limit.toInt ≤ 940 := i_x_limit
  have i_x_token : 0 ≤ x_token.toInt ∧ x_token.toInt ≤ 4 := i_x_token
  have hl : lv_has ls 2 [(0, .ref h0)] := hl
  refine lv_aload_n hx hb dX10_planLine_0 rfl (lv_at hl 0 rfl) ?_
  refine lv_ldc2 hx hb hown (hw _ q_1242) dX10_planLine_1 ?_
  refine call_Vi (wr := [(h_tape, .inl (cB, 940, .inl f_tape)), (h_s, .inl (cI, 335, .inl f_s)), (h_names, .inl (cJ, 36, .inr (.inl f_names))), (h_reserved, .inl (cJ, 23, .inr (.inl f_reserved))), (h_planRead, .inl (cI, 24, .inl f_planRead))]) (As := [.long 1668441463]) (rest := []) hx hb hml hown hw (m_X10_isWord l D cI cJ cB cP cM cZ h0 Fh x_token x_number x_word 1668441463 _ e_token i_x_token e_number e_word (by omega)) wV_X10_225_X10_isWord dX10_planLine_4 hK hP hD hS hA [0] [1, 2, 3, 4, 5] rfl rfl (by decide) (by decide) (by decide) 0 10 rfl rfl GG.fb hG.at hl.1 rfl (Nat.le_of_ble_eq_true rfl) ⟨(Nat.le_of_ble_eq_true rfl), (Nat.le_of_ble_eq_true rfl)⟩ ⟨(Nat.le_of_ble_eq_true rfl), (Nat.le_of_ble_eq_true rfl)⟩ (fun r1 u H locs hp hP hD hS => ?_)
  have zl1668441463 : (1668441463 : Int32).toInt = 1668441463 := by decide
  obtain ⟨t2, t3, rfl⟩ := hp
  have hP : va_P D vwCl [(h_tape, .inl (cB, 940, .inl f_tape)), (h_s, .inl (cI, 335, .inl f_s)), (h_names, .inl (cJ, 36, .inr (.inl f_names))), (h_reserved, .inl (cJ, 23, .inr (.inl f_reserved))), (h_planRead, .inl (cI, 24, .inl f_planRead)), (h0, .inr (10, vL 67 Fh))] H := hP
  have hD : va_D A [(h_tape, .inl (cB, 940, .inl f_tape)), (h_s, .inl (cI, 335, .inl f_s)), (h_names, .inl (cJ, 36, .inr (.inl f_names))), (h_reserved, .inl (cJ, 23, .inr (.inl f_reserved))), (h_planRead, .inl (cI, 24, .inl f_planRead)), (h0, .inr (10, vL 67 Fh))] := hD
  refine W.widen (k := 0) (n := 0) (Nat.le_of_ble_eq_true rfl) (Nat.le_of_ble_eq_true rfl) ?_
  replace t3 := (isw (k := 8) (a := 72329) z_0 t3 (by decide) (by decide +kernel) (by decide +kernel) (by decide +kernel) (by decide +kernel))
  refine lv_if_eq (tgt := 85) hx hb dX10_planLine_7 (by decide) (fun c5 => ?_) (fun c5 => ?_)
  · have dc5 : r1.toInt = 0 := eq_i (a := r1.toInt) (b := 0) rfl rfl c5
    have k6 : 0 ≤ r1.toInt ∧ r1.toInt ≤ 0 := ⟨t2.1, Int.le_trans (Int.le_of_eq dc5) (Int.le_refl _)⟩
    refine lv_aload_n hx hb dX10_planLine_85 rfl (lv_at hl 0 rfl) ?_
    refine lv_ldc2 hx hb hown (hw _ q_1243) dX10_planLine_86 ?_
    refine call_Vi (wr := [(h_tape, .inl (cB, 940, .inl f_tape)), (h_s, .inl (cI, 335, .inl f_s)), (h_names, .inl (cJ, 36, .inr (.inl f_names))), (h_reserved, .inl (cJ, 23, .inr (.inl f_reserved))), (h_planRead, .inl (cI, 24, .inl f_planRead))]) (As := [.long 1786080624]) (rest := []) hx hb hml hown hw (m_X10_isWord l D cI cJ cB cP cM cZ h0 Fh x_token x_number x_word 1786080624 _ e_token i_x_token e_number e_word (by omega)) wV_X10_225_X10_isWord dX10_planLine_89 hK hP hD hS hA [5] [0, 1, 2, 3, 4] rfl rfl (by decide) (by decide) (by decide) 0 10 rfl rfl GG.fb hG.at hl.1 rfl (Nat.le_of_ble_eq_true rfl) ⟨(Nat.le_of_ble_eq_true rfl), (Nat.le_of_ble_eq_true rfl)⟩ ⟨(Nat.le_of_ble_eq_true rfl), (Nat.le_of_ble_eq_true rfl)⟩ (fun r7 u H locs hp hP hD hS => ?_)
    have zl1786080624 : (1786080624 : Int32).toInt = 1786080624 := by decide
    obtain ⟨t8, t9, rfl⟩ := hp
    have hP : va_P D vwCl [(h_tape, .inl (cB, 940, .inl f_tape)), (h_s, .inl (cI, 335, .inl f_s)), (h_names, .inl (cJ, 36, .inr (.inl f_names))), (h_reserved, .inl (cJ, 23, .inr (.inl f_reserved))), (h_planRead, .inl (cI, 24, .inl f_planRead)), (h0, .inr (10, vL 67 Fh))] H := hP
    have hD : va_D A [(h_tape, .inl (cB, 940, .inl f_tape)), (h_s, .inl (cI, 335, .inl f_s)), (h_names, .inl (cJ, 36, .inr (.inl f_names))), (h_reserved, .inl (cJ, 23, .inr (.inl f_reserved))), (h_planRead, .inl (cI, 24, .inl f_planRead)), (h0, .inr (10, vL 67 Fh))] := hD
    refine W.widen (k := 0) (n := 0) (Nat.le_of_ble_eq_true rfl) (Nat.le_of_ble_eq_true rfl) ?_
    replace t9 := (isw (k := 9) (a := 212506) z_0 t9 (by decide) (by decide +kernel) (by decide +kernel) (by decide +kernel) (by decide +kernel))
    refine lv_if_eq (tgt := 201) hx hb dX10_planLine_92 (by decide) (fun c11 => ?_) (fun c11 => ?_)
    · have dc11 : r7.toInt = 0 := eq_i (a := r7.toInt) (b := 0) rfl rfl c11
      have k12 : 0 ≤ r7.toInt ∧ r7.toInt ≤ 0 := ⟨t8.1, Int.le_trans (Int.le_of_eq dc11) (Int.le_refl _)⟩
      refine lv_aload_n hx hb dX10_planLine_201 rfl (lv_at hl 0 rfl) ?_
      refine lv_ldc2 hx hb hown (hw _ q_1245) dX10_planLine_202 ?_
      refine call_Vi (wr := [(h_tape, .inl (cB, 940, .inl f_tape)), (h_s, .inl (cI, 335, .inl f_s)), (h_names, .inl (cJ, 36, .inr (.inl f_names))), (h_reserved, .inl (cJ, 23, .inr (.inl f_reserved))), (h_planRead, .inl (cI, 24, .inl f_planRead))]) (As := [.long 1751738216]) (rest := []) hx hb hml hown hw (m_X10_isWord l D cI cJ cB cP cM cZ h0 Fh x_token x_number x_word 1751738216 _ e_token i_x_token e_number e_word (by omega)) wV_X10_225_X10_isWord dX10_planLine_205 hK hP hD hS hA [5] [0, 1, 2, 3, 4] rfl rfl (by decide) (by decide) (by decide) 0 10 rfl rfl GG.fb hG.at hl.1 rfl (Nat.le_of_ble_eq_true rfl) ⟨(Nat.le_of_ble_eq_true rfl), (Nat.le_of_ble_eq_true rfl)⟩ ⟨(Nat.le_of_ble_eq_true rfl), (Nat.le_of_ble_eq_true rfl)⟩ (fun r13 u H locs hp hP hD hS => ?_)
      have zl1751738216 : (1751738216 : Int32).toInt = 1751738216 := by decide
      obtain ⟨t14, t15, rfl⟩ := hp
      have hP : va_P D vwCl [(h_tape, .inl (cB, 940, .inl f_tape)), (h_s, .inl (cI, 335, .inl f_s)), (h_names, .inl (cJ, 36, .inr (.inl f_names))), (h_reserved, .inl (cJ, 23, .inr (.inl f_reserved))), (h_planRead, .inl (cI, 24, .inl f_planRead)), (h0, .inr (10, vL 67 Fh))] H := hP
      have hD : va_D A [(h_tape, .inl (cB, 940, .inl f_tape)), (h_s, .inl (cI, 335, .inl f_s)), (h_names, .inl (cJ, 36, .inr (.inl f_names))), (h_reserved, .inl (cJ, 23, .inr (.inl f_reserved))), (h_planRead, .inl (cI, 24, .inl f_planRead)), (h0, .inr (10, vL 67 Fh))] := hD
      refine W.widen (k := 0) (n := 0) (Nat.le_of_ble_eq_true rfl) (Nat.le_of_ble_eq_true rfl) ?_
      replace t15 := (isw (k := 11) (a := 164222) z_0 t15 (by decide) (by decide +kernel) (by decide +kernel) (by decide +kernel) (by decide +kernel))
      refine lv_if_eq (tgt := 320) hx hb dX10_planLine_208 (by decide) (fun c17 => ?_) (fun c17 => ?_)
      · have dc17 : r13.toInt = 0 := eq_i (a := r13.toInt) (b := 0) rfl rfl c17
        have k18 : 0 ≤ r13.toInt ∧ r13.toInt ≤ 0 := ⟨t14.1, Int.le_trans (Int.le_of_eq dc17) (Int.le_refl _)⟩
        refine lv_aload_n hx hb dX10_planLine_320 rfl (lv_at hl 0 rfl) ?_
        refine lv_ldc2 hx hb hown (hw _ q_1244) dX10_planLine_321 ?_
        refine call_Vi (wr := [(h_tape, .inl (cB, 940, .inl f_tape)), (h_s, .inl (cI, 335, .inl f_s)), (h_names, .inl (cJ, 36, .inr (.inl f_names))), (h_reserved, .inl (cJ, 23, .inr (.inl f_reserved))), (h_planRead, .inl (cI, 24, .inl f_planRead))]) (As := [.long 1818583396]) (rest := []) hx hb hml hown hw (m_X10_isWord l D cI cJ cB cP cM cZ h0 Fh x_token x_number x_word 1818583396 _ e_token i_x_token e_number e_word (by omega)) wV_X10_225_X10_isWord dX10_planLine_324 hK hP hD hS hA [5] [0, 1, 2, 3, 4] rfl rfl (by decide) (by decide) (by decide) 0 10 rfl rfl GG.fb hG.at hl.1 rfl (Nat.le_of_ble_eq_true rfl) ⟨(Nat.le_of_ble_eq_true rfl), (Nat.le_of_ble_eq_true rfl)⟩ ⟨(Nat.le_of_ble_eq_true rfl), (Nat.le_of_ble_eq_true rfl)⟩ (fun r19 u H locs hp hP hD hS => ?_)
        have zl1818583396 : (1818583396 : Int32).toInt = 1818583396 := by decide
        obtain ⟨t20, t21, rfl⟩ := hp
        have hP : va_P D vwCl [(h_tape, .inl (cB, 940, .inl f_tape)), (h_s, .inl (cI, 335, .inl f_s)), (h_names, .inl (cJ, 36, .inr (.inl f_names))), (h_reserved, .inl (cJ, 23, .inr (.inl f_reserved))), (h_planRead, .inl (cI, 24, .inl f_planRead)), (h0, .inr (10, vL 67 Fh))] H := hP
        have hD : va_D A [(h_tape, .inl (cB, 940, .inl f_tape)), (h_s, .inl (cI, 335, .inl f_s)), (h_names, .inl (cJ, 36, .inr (.inl f_names))), (h_reserved, .inl (cJ, 23, .inr (.inl f_reserved))), (h_planRead, .inl (cI, 24, .inl f_planRead)), (h0, .inr (10, vL 67 Fh))] := hD
        refine W.widen (k := 0) (n := 0) (Nat.le_of_ble_eq_true rfl) (Nat.le_of_ble_eq_true rfl) ?_
        replace t21 := (isw (k := 10) (a := 239872) z_0 t21 (by decide) (by decide +kernel) (by decide +kernel) (by decide +kernel) (by decide +kernel))
        refine lv_if_eq (tgt := 363) hx hb dX10_planLine_327 (by decide) (fun c23 => ?_) (fun c23 => ?_)
        · have dc23 : r19.toInt = 0 := eq_i (a := r19.toInt) (b := 0) rfl rfl c23
          have k24 : 0 ≤ r19.toInt ∧ r19.toInt ≤ 0 := ⟨t20.1, Int.le_trans (Int.le_of_eq dc23) (Int.le_refl _)⟩
          refine lv_aload_n hx hb dX10_planLine_363 rfl (lv_at hl 0 rfl) ?_
          refine lv_ldc2 hx hb hown (hw _ q_1247) dX10_planLine_364 ?_
          refine call_Vi (wr := [(h_tape, .inl (cB, 940, .inl f_tape)), (h_s, .inl (cI, 335, .inl f_s)), (h_names, .inl (cJ, 36, .inr (.inl f_names))), (h_reserved, .inl (cJ, 23, .inr (.inl f_reserved))), (h_planRead, .inl (cI, 24, .inl f_planRead))]) (As := [.long 495873782388]) (rest := []) hx hb hml hown hw (m_X10_isWord l D cI cJ cB cP cM cZ h0 Fh x_token x_number x_word 495873782388 _ e_token i_x_token e_number e_word (by omega)) wV_X10_225_X10_isWord dX10_planLine_367 hK hP hD hS hA [5] [0, 1, 2, 3, 4] rfl rfl (by decide) (by decide) (by decide) 0 10 rfl rfl GG.fb hG.at hl.1 rfl (Nat.le_of_ble_eq_true rfl) ⟨(Nat.le_of_ble_eq_true rfl), (Nat.le_of_ble_eq_true rfl)⟩ ⟨(Nat.le_of_ble_eq_true rfl), (Nat.le_of_ble_eq_true rfl)⟩ (fun r25 u H locs hp hP hD hS => ?_)
          obtain ⟨t26, t27, rfl⟩ := hp
          have hP : va_P D vwCl [(h_tape, .inl (cB, 940, .inl f_tape)), (h_s, .inl (cI, 335, .inl f_s)), (h_names, .inl (cJ, 36, .inr (.inl f_names))), (h_reserved, .inl (cJ, 23, .inr (.inl f_reserved))), (h_planRead, .inl (cI, 24, .inl f_planRead)), (h0, .inr (10, vL 67 Fh))] H := hP
          have hD : va_D A [(h_tape, .inl (cB, 940, .inl f_tape)), (h_s, .inl (cI, 335, .inl f_s)), (h_names, .inl (cJ, 36, .inr (.inl f_names))), (h_reserved, .inl (cJ, 23, .inr (.inl f_reserved))), (h_planRead, .inl (cI, 24, .inl f_planRead)), (h0, .inr (10, vL 67 Fh))] := hD
          refine W.widen (k := 0) (n := 0) (Nat.le_of_ble_eq_true rfl) (Nat.le_of_ble_eq_true rfl) ?_
          replace t27 := (isw (k := 13) (a := 10492274) z_0 t27 (by decide) (by decide +kernel) (by decide +kernel) (by decide +kernel) (by decide +kernel))
          refine lv_if_eq (tgt := 406) hx hb dX10_planLine_370 (by decide) (fun c29 => ?_) (fun c29 => ?_)
          · have dc29 : r25.toInt = 0 := eq_i (a := r25.toInt) (b := 0) rfl rfl c29
            have k30 : 0 ≤ r25.toInt ∧ r25.toInt ≤ 0 := ⟨t26.1, Int.le_trans (Int.le_of_eq dc29) (Int.le_refl _)⟩
            refine lv_aload_n hx hb dX10_planLine_406 rfl (lv_at hl 0 rfl) ?_
            refine lv_ldc2 hx hb hown (hw _ q_1246) dX10_planLine_407 ?_
            refine call_Vi (wr := [(h_tape, .inl (cB, 940, .inl f_tape)), (h_s, .inl (cI, 335, .inl f_s)), (h_names, .inl (cJ, 36, .inr (.inl f_names))), (h_reserved, .inl (cJ, 23, .inr (.inl f_reserved))), (h_planRead, .inl (cI, 24, .inl f_planRead))]) (As := [.long 28526]) (rest := []) hx hb hml hown hw (m_X10_isWord l D cI cJ cB cP cM cZ h0 Fh x_token x_number x_word 28526 _ e_token i_x_token e_number e_word (by omega)) wV_X10_225_X10_isWord dX10_planLine_410 hK hP hD hS hA [5] [0, 1, 2, 3, 4] rfl rfl (by decide) (by decide) (by decide) 0 10 rfl rfl GG.fb hG.at hl.1 rfl (Nat.le_of_ble_eq_true rfl) ⟨(Nat.le_of_ble_eq_true rfl), (Nat.le_of_ble_eq_true rfl)⟩ ⟨(Nat.le_of_ble_eq_true rfl), (Nat.le_of_ble_eq_true rfl)⟩ (fun r31 u H locs hp hP hD hS => ?_)
            have zl28526 : (28526 : Int32).toInt = 28526 := by decide
            obtain ⟨t32, t33, rfl⟩ := hp
            have hP : va_P D vwCl [(h_tape, .inl (cB, 940, .inl f_tape)), (h_s, .inl (cI, 335, .inl f_s)), (h_names, .inl (cJ, 36, .inr (.inl f_names))), (h_reserved, .inl (cJ, 23, .inr (.inl f_reserved))), (h_planRead, .inl (cI, 24, .inl f_planRead)), (h0, .inr (10, vL 67 Fh))] H := hP
            have hD : va_D A [(h_tape, .inl (cB, 940, .inl f_tape)), (h_s, .inl (cI, 335, .inl f_s)), (h_names, .inl (cJ, 36, .inr (.inl f_names))), (h_reserved, .inl (cJ, 23, .inr (.inl f_reserved))), (h_planRead, .inl (cI, 24, .inl f_planRead)), (h0, .inr (10, vL 67 Fh))] := hD
            refine W.widen (k := 0) (n := 0) (Nat.le_of_ble_eq_true rfl) (Nat.le_of_ble_eq_true rfl) ?_
            replace t33 := (isw (k := 12) (a := 419) z_0 t33 (by decide) (by decide +kernel) (by decide +kernel) (by decide +kernel) (by decide +kernel))
            refine lv_if_ne (tgt := 422) hx hb dX10_planLine_413 (by decide) (fun c35 => ?_) (fun c35 => ?_)
            · have dc35 : r31.toInt ≠ 0 := ne_i (a := r31.toInt) (b := 0) rfl rfl c35
              have k36 : 1 ≤ r31.toInt ∧ r31.toInt ≤ 1 := ⟨ne_lo dc35 t32.1 ⟨Int.le_refl _, Int.le_refl _⟩ (by decide), t32.2⟩
              refine lv_aload_n hx hb dX10_planLine_422 rfl (lv_at hl 0 rfl) ?_
              refine lv_iconst (v := 3) hx hb dX10_planLine_423 (by decide) ?_
              refine call_Vi (wr := [(h_s, .inl (cI, 335, .inl f_s)), (h_names, .inl (cJ, 36, .inr (.inl f_names))), (h_reserved, .inl (cJ, 23, .inr (.inl f_reserved))), (h_planRead, .inl (cI, 24, .inl f_planRead))]) (As := [.int 3]) (rest := []) hx hb hml hown hw (m_X10_isOnce l D cI cJ cB cP cM cZ h0 h_tape Fh x_size x_p x_limit x_token x_at x_number x_fault x_faultAt x_word x_onces f_tape 3 _ e_tape e_size i_x_size e_p i_x_p e_limit i_x_limit e_token i_x_token e_at e_number e_fault e_faultAt e_word e_onces (by omega)) wV_X10_239_X10_isOnce dX10_planLine_424 hK hP hD hS hA [5, 0] [1, 2, 3, 4] rfl rfl (by decide) (by decide) (by decide) 0 10 rfl rfl GG.fb hG.at hl.1 rfl (Nat.le_of_ble_eq_true rfl) ⟨(Nat.le_of_ble_eq_true rfl), (Nat.le_of_ble_eq_true rfl)⟩ ⟨(Nat.le_of_ble_eq_true rfl), (Nat.le_of_ble_eq_true rfl)⟩ (fun r37 u H locs hp hP hD hS => ?_)
              have zl3 : (3 : Int32).toInt = 3 := by decide
              rcases hp with hp | hp
              · refine hp.elim (fun F38 h9z0 => h9z0.elim (fun y39 h9z1 => h9z1.elim (fun y40 h9z2 => h9z2.elim (fun y41 h9z3 => h9z3.elim (fun y42 h9z4 => h9z4.elim (fun y43 h9z5 => h9z5.elim (fun y44 h9z6 => h9z6.elim (fun y45 h9z7 => h9z7.elim (fun t46 h9z8 => h9z8.elim (fun t47 h9z9 => h9z9.elim (fun t48 h9z10 => h9z10.elim (fun t49 h9z11 => h9z11.elim (fun t50 h9z12 => h9z12.elim (fun t51 h9z13 => h9z13.elim (fun t52 h9z14 => h9z14.elim (fun t53 h9z15 => h9z15.elim (fun t54 h9z16 => h9z16.elim (fun t55 h9z17 => h9z17.elim (fun t56 h9z18 => h9z18.elim (fun t57 h9z19 => h9z19.elim (fun t58 h9z20 => h9z20.elim (fun t59 h9z21 => h9z21.elim (fun t60 h9z22 => h9z22.elim (fun t61 h9z23 => h9z23.elim (fun t62 h9z24 => h9z24.elim (fun t63 h9z25 => h9z25.elim (fun t64 h9z26 => h9z26.elim (fun heq927 h9z27 => ?_))))))))))))))))))))))))))))
                clear h9z0 h9z1 h9z2 h9z3 h9z4 h9z5 h9z6 h9z7 h9z8 h9z9 h9z10 h9z11 h9z12 h9z13 h9z14 h9z15 h9z16 h9z17 h9z18 h9z19 h9z20 h9z21 h9z22 h9z23 h9z24 h9z25 h9z26
                subst heq927
                subst h9z27
                have hP : va_P D vwCl [(h_s, .inl (cI, 335, .inl f_s)), (h_names, .inl (cJ, 36, .inr (.inl f_names))), (h_reserved, .inl (cJ, 23, .inr (.inl f_reserved))), (h_planRead, .inl (cI, 24, .inl f_planRead)), (h0, .inr (10, vL 67 F38)), (h_tape, .inl (cB, 940, .inl f_tape))] H := hP
                have hD : va_D A [(h_s, .inl (cI, 335, .inl f_s)), (h_names, .inl (cJ, 36, .inr (.inl f_names))), (h_reserved, .inl (cJ, 23, .inr (.inl f_reserved))), (h_planRead, .inl (cI, 24, .inl f_planRead)), (h0, .inr (10, vL 67 F38)), (h_tape, .inl (cB, 940, .inl f_tape))] := hD
                refine W.widen (k := 0) (n := 0) (Nat.le_of_ble_eq_true rfl) (Nat.le_of_ble_eq_true rfl) ?_
                refine lv_if_ne (tgt := 432) hx hb dX10_planLine_427 (by decide) (fun _ => ?_) (fun g => absurd g (by decide))
                refine lv_aload_n hx hb dX10_planLine_432 rfl (lv_at hl 0 rfl) ?_
                have n76 : F38 10 = .ref h_reserved := (SAME.at t46 (by decide) e_reserved)
                refine call_Vi (wr := [(h_s, .inl (cI, 335, .inl f_s)), (h_names, .inl (cJ, 36, .inr (.inl f_names))), (h_planRead, .inl (cI, 24, .inl f_planRead)), (h_tape, .inl (cB, 940, .inl f_tape))]) (As := []) (rest := []) hx hb hml hown hw (m_X10_isName l D cI cJ cB cP cM cZ h0 h_reserved F38 y40 y43 y44 f_reserved _ n76 t49 t50 t55 t56 s_reserved_KR t63 (by omega)) wV_X10_218_X10_isName dX10_planLine_433 hK hP hD hS hA [4, 2] [0, 1, 3, 5] rfl rfl (by decide) (by decide) (by decide) 0 10 rfl rfl GG.fb hG.at hl.1 rfl (Nat.le_of_ble_eq_true rfl) ⟨(Nat.le_of_ble_eq_true rfl), (Nat.le_of_ble_eq_true rfl)⟩ ⟨(Nat.le_of_ble_eq_true rfl), (Nat.le_of_ble_eq_true rfl)⟩ (fun r77 u H locs hp hP hD hS => ?_)
                obtain ⟨t78, t79, rfl⟩ := hp
                have hP : va_P D vwCl [(h_s, .inl (cI, 335, .inl f_s)), (h_names, .inl (cJ, 36, .inr (.inl f_names))), (h_planRead, .inl (cI, 24, .inl f_planRead)), (h_tape, .inl (cB, 940, .inl f_tape)), (h0, .inr (10, vL 67 F38)), (h_reserved, .inl (cJ, 23, .inr (.inl f_reserved)))] H := hP
                have hD : va_D A [(h_s, .inl (cI, 335, .inl f_s)), (h_names, .inl (cJ, 36, .inr (.inl f_names))), (h_planRead, .inl (cI, 24, .inl f_planRead)), (h_tape, .inl (cB, 940, .inl f_tape)), (h0, .inr (10, vL 67 F38)), (h_reserved, .inl (cJ, 23, .inr (.inl f_reserved)))] := hD
                refine W.widen (k := 0) (n := 0) (Nat.le_of_ble_eq_true rfl) (Nat.le_of_ble_eq_true rfl) ?_
                refine lv_if_ne (tgt := 445) hx hb dX10_planLine_436 (by decide) (fun c81 => ?_) (fun c81 => ?_)
                · have dc81 : r77.toInt ≠ 0 := ne_i (a := r77.toInt) (b := 0) rfl rfl c81
                  have k82 : 1 ≤ r77.toInt ∧ r77.toInt ≤ 1 := ⟨ne_lo dc81 t78.1 ⟨Int.le_refl _, Int.le_refl _⟩ (by decide), t78.2⟩
                  refine lv_aload_n hx hb dX10_planLine_445 rfl (lv_at hl 0 rfl) ?_
                  refine lv_bipush (v := 12) hx hb dX10_planLine_446 (by decide) ?_
                  refine lv_aload_n hx hb dX10_planLine_448 rfl (lv_at hl 0 rfl) ?_
                  have n83 : F38 6 = .ref h_s := (SAME.at t46 (by decide) e_s)
                  refine get_f (D := D) (ci := 10) (v := .ref h_s) (C := RX10) (T := TX10) (N := 67) hx hb hw inAX10 hown hK hP 4 rfl rfl 6 (by decide) (hw _ q_1267) (fun _ h9 => h9) n83 dX10_planLine_449 ?_
                  refine lv_bipush (v := 7) hx hb dX10_planLine_452 (by decide) ?_
                  refine iald_n hx hb hK hP 0 0 rfl rfl 7 rfl (Nat.le_of_ble_eq_true rfl) (Nat.le_of_ble_eq_true rfl) rfl dX10_planLine_454 ?_
                  refine lv_topi (fun v84 ev84 => ?_)
                  have k85 : 0 ≤ v84.toInt ∧ v84.toInt ≤ 6 := by rw [ev84]; exact s_s_7.atN 7 (by decide) (by decide)
                  have n86 : F38 9 = .ref h_names := (SAME.at t46 (by decide) e_names)
                  refine call_Vi (wr := [(h_s, .inl (cI, 335, .inl f_s)), (h_planRead, .inl (cI, 24, .inl f_planRead)), (h_tape, .inl (cB, 940, .inl f_tape)), (h_reserved, .inl (cJ, 23, .inr (.inl f_reserved)))]) (As := [.int 12, .int v84]) (rest := []) hx hb hml hown hw (m_X10_find l D cI cJ cB cP cM cZ h0 h_names F38 y44 f_names 12 v84 _ n86 t56 (show 0 ≤ (12 : Int32).toInt ∧ (12 : Int32).toInt ≤ 30 by decide) (ir_wk k85 (by decide) (by decide)) (by have z0 : (12 : Int32).toInt = 12 := rfl; omega)) wV_X10_222_X10_find dX10_planLine_455 hK hP hD hS hA [4, 1] [0, 2, 3, 5] rfl rfl (by decide) (by decide) (by decide) 0 10 rfl rfl GG.fb hG.at hl.1 rfl (Nat.le_of_ble_eq_true rfl) ⟨(Nat.le_of_ble_eq_true rfl), (Nat.le_of_ble_eq_true rfl)⟩ ⟨(Nat.le_of_ble_eq_true rfl), (Nat.le_of_ble_eq_true rfl)⟩ (fun r87 u H locs hp hP hD hS => ?_)
                  have zl12 : (12 : Int32).toInt = 12 := by decide
                  rcases hp with ⟨t88, t89, t90, rfl, rfl⟩ | ⟨t91, t92, t93, t94, rfl⟩
                  · have hP : va_P D vwCl [(h_s, .inl (cI, 335, .inl f_s)), (h_planRead, .inl (cI, 24, .inl f_planRead)), (h_tape, .inl (cB, 940, .inl f_tape)), (h_reserved, .inl (cJ, 23, .inr (.inl f_reserved))), (h0, .inr (10, vL 67 F38)), (h_names, .inl (cJ, 36, .inr (.inl f_names)))] H := hP
                    have hD : va_D A [(h_s, .inl (cI, 335, .inl f_s)), (h_planRead, .inl (cI, 24, .inl f_planRead)), (h_tape, .inl (cB, 940, .inl f_tape)), (h_reserved, .inl (cJ, 23, .inr (.inl f_reserved))), (h0, .inr (10, vL 67 F38)), (h_names, .inl (cJ, 36, .inr (.inl f_names)))] := hD
                    refine W.widen (k := 0) (n := 0) (Nat.le_of_ble_eq_true rfl) (Nat.le_of_ble_eq_true rfl) ?_
                    refine lv_istore_n (lv' := [(1, .int (-1)), (0, .ref h0)]) hx hb dX10_planLine_458 rfl hl (by decide) rfl (fun ls hl => ?_)
                    refine lv_iload_n hx hb dX10_planLine_459 rfl (lv_at hl 0 rfl) ?_
                    refine lv_if_ge (tgt := 469) hx hb dX10_planLine_460 (by decide) (fun g => absurd g (by decide)) (fun _ => ?_)
                    refine lv_aload_n hx hb dX10_planLine_463 rfl (lv_at hl 1 rfl) ?_
                    refine lv_iconst (v := 3) hx hb dX10_planLine_464 (by decide) ?_
                    refine call_Vi (wr := [(h_s, .inl (cI, 335, .inl f_s)), (h_planRead, .inl (cI, 24, .inl f_planRead)), (h_tape, .inl (cB, 940, .inl f_tape)), (h_reserved, .inl (cJ, 23, .inr (.inl f_reserved))), (h_names, .inl (cJ, 36, .inr (.inl f_names)))]) (As := [.int 3]) (rest := []) hx hb hml hown hw (m_X10_bad l D cI cJ cB cP cM cZ h0 F38 y41 3 _ t51) wV_X10_205_X10_bad dX10_planLine_465 hK hP hD hS hA [4] [0, 1, 2, 3, 5] rfl rfl (by decide) (by decide) (by decide) 0 10 rfl rfl GG.fb hG.at hl.1 rfl (Nat.le_of_ble_eq_true rfl) ⟨(Nat.le_of_ble_eq_true rfl), (Nat.le_of_ble_eq_true rfl)⟩ ⟨(Nat.le_of_ble_eq_true rfl), (Nat.le_of_ble_eq_true rfl)⟩ (fun r96 u H locs hp hP hD hS => ?_)
                    obtain ⟨F97, t98, t99, t100, rfl, rfl⟩ := hp
                    have hP : va_P D vwCl [(h_s, .inl (cI, 335, .inl f_s)), (h_planRead, .inl (cI, 24, .inl f_planRead)), (h_tape, .inl (cB, 940, .inl f_tape)), (h_reserved, .inl (cJ, 23, .inr (.inl f_reserved))), (h_names, .inl (cJ, 36, .inr (.inl f_names))), (h0, .inr (10, vL 67 F97))] H := hP
                    have hD : va_D A [(h_s, .inl (cI, 335, .inl f_s)), (h_planRead, .inl (cI, 24, .inl f_planRead)), (h_tape, .inl (cB, 940, .inl f_tape)), (h_reserved, .inl (cJ, 23, .inr (.inl f_reserved))), (h_names, .inl (cJ, 36, .inr (.inl f_names))), (h0, .inr (10, vL 67 F97))] := hD
                    refine W.widen (k := 0) (n := 0) (Nat.le_of_ble_eq_true rfl) (Nat.le_of_ble_eq_true rfl) ?_
                    exact ret_i (v := 0) hx hb hr hlocks hS (hP.sub (ws' := [(h0, .inr (10, vL 67 F97)), (h_tape, .inl (cB, 940, .inl f_tape)), (h_s, .inl (cI, 335, .inl f_s)), (h_names, .inl (cJ, 36, .inr (.inl f_names))), (h_reserved, .inl (cJ, 23, .inr (.inl f_reserved))), (h_planRead, .inl (cI, 24, .inl f_planRead))]) [5, 2, 0, 4, 3, 1] rfl) (hD.sub (ws' := [(h0, .inr (10, vL 67 F97)), (h_tape, .inl (cB, 940, .inl f_tape)), (h_s, .inl (cI, 335, .inl f_s)), (h_names, .inl (cJ, 36, .inr (.inl f_names))), (h_reserved, .inl (cJ, 23, .inr (.inl f_reserved))), (h_planRead, .inl (cI, 24, .inl f_planRead))]) [5, 2, 0, 4, 3, 1] (by decide) rfl) dX10_planLine_468 rfl (Nat.le_of_ble_eq_true rfl) (Nat.le_of_ble_eq_true rfl) (Or.inl ⟨F97, y39, y40, y41, y42, y43, 3, y41, y44, x_got, y45, x_jumped, x_heights, f_planRead, (SAME.tr (SAME.tr SAME.rf t46 (by decide)) t98 (by decide)), (SAME.at t98 (by decide) t47), t48, (SAME.at t98 (by decide) t49), t50, (SAME.at t98 (by decide) t51), (SAME.at t98 (by decide) t53), (SAME.at t98 (by decide) t55), t99, (show 1 ≤ (3 : Int32).toInt ∧ (3 : Int32).toInt ≤ 3 by decide), t100, (SAME.at t98 (by decide) t56), (SAME.at t98 (by decide) (SAME.at t46 (by decide) e_got)), (SAME.at t98 (by decide) t57), (SAME.at t98 (by decide) (SAME.at t46 (by decide) e_jumped)), (SAME.at t98 (by decide) (SAME.at t46 (by decide) e_heights)), s_planRead_1, s_planRead_10, (by have zl3 : (3 : Int32).toInt = 3 := (by decide); omega), rfl, rfl⟩)
                  · have hP : va_P D vwCl [(h_s, .inl (cI, 335, .inl f_s)), (h_planRead, .inl (cI, 24, .inl f_planRead)), (h_tape, .inl (cB, 940, .inl f_tape)), (h_reserved, .inl (cJ, 23, .inr (.inl f_reserved))), (h0, .inr (10, vL 67 F38)), (h_names, .inl (cJ, 36, .inr (.inl f_names)))] H := hP
                    have hD : va_D A [(h_s, .inl (cI, 335, .inl f_s)), (h_planRead, .inl (cI, 24, .inl f_planRead)), (h_tape, .inl (cB, 940, .inl f_tape)), (h_reserved, .inl (cJ, 23, .inr (.inl f_reserved))), (h0, .inr (10, vL 67 F38)), (h_names, .inl (cJ, 36, .inr (.inl f_names)))] := hD
                    refine W.widen (k := 0) (n := 0) (Nat.le_of_ble_eq_true rfl) (Nat.le_of_ble_eq_true rfl) ?_
                    have k102 : 1 ≤ v84.toInt ∧ v84.toInt ≤ 6 := ⟨lo_lt t92 (Int.le_refl _) (by decide), k85.2⟩
                    refine lv_istore_n (lv' := [(1, .int r87), (0, .ref h0)]) hx hb dX10_planLine_458 rfl hl (by decide) rfl (fun ls hl => ?_)
                    refine lv_iload_n hx hb dX10_planLine_459 rfl (lv_at hl 0 rfl) ?_
                    refine lv_if_ge (tgt := 469) hx hb dX10_planLine_460 (by decide) (fun c103 => ?_) (fun c103 => False.elim (bad_lt (nle_i (a := 0) (b := r87.toInt) rfl rfl c103) t91.1 (Int.le_refl _) (by decide)))
                    have dc103 : 0 ≤ r87.toInt := le_i (a := 0) (b := r87.toInt) rfl rfl c103
                    refine lv_aload_n hx hb dX10_planLine_469 rfl (lv_at hl 1 rfl) ?_
                    have n104 : F38 22 = .ref h_planRead := (SAME.at t46 (by decide) e_planRead)
                    refine get_f (D := D) (ci := 10) (v := .ref h_planRead) (C := RX10) (T := TX10) (N := 67) hx hb hw inAX10 hown hK hP 4 rfl rfl 22 (by decide) (hw _ q_1283) (fun _ h9 => h9) n104 dX10_planLine_470 ?_
                    refine lv_bipush (v := 10) hx hb dX10_planLine_473 (by decide) ?_
                    refine lv_iload_n hx hb dX10_planLine_475 rfl (lv_at hl 0 rfl) ?_
                    obtain ⟨g105, eg105⟩ : ∃ z : Nat → Int32, upd f_planRead 10 r87 = z := ⟨_, rfl⟩
                    have r106 : SG 1 4 0 11 g105 := by rw [← eg105]; exact s_planRead_1.upN (Or.inr (Or.inl (by decide)))
                    have r107 : SG 10 10 0 5 g105 := by rw [← eg105]; exact s_planRead_10.upN (by omega)
                    refine iast_n hx hb hK hP hD hS 1 0 rfl rfl 10 rfl (Nat.le_of_ble_eq_true rfl) (Nat.le_of_ble_eq_true rfl) eg105 dX10_planLine_476 (fun H locs hP hD hS => ?_)
                    have hP : va_P D vwCl [(h_s, .inl (cI, 335, .inl f_s)), (h_planRead, .inl (cI, 24, .inl g105)), (h_tape, .inl (cB, 940, .inl f_tape)), (h_reserved, .inl (cJ, 23, .inr (.inl f_reserved))), (h0, .inr (10, vL 67 F38)), (h_names, .inl (cJ, 36, .inr (.inl f_names)))] H := hP
                    have hD : va_D A [(h_s, .inl (cI, 335, .inl f_s)), (h_planRead, .inl (cI, 24, .inl g105)), (h_tape, .inl (cB, 940, .inl f_tape)), (h_reserved, .inl (cJ, 23, .inr (.inl f_reserved))), (h0, .inr (10, vL 67 F38)), (h_names, .inl (cJ, 36, .inr (.inl f_names)))] := hD
                    refine lv_aload_n hx hb dX10_planLine_477 rfl (lv_at hl 1 rfl) ?_
                    have n108 : F38 1 = .ref h_tape := (SAME.at t46 (by decide) e_tape)
                    have n109 : F38 3 = .int x_size := (SAME.at t46 (by decide) e_size)
                    have n110 : F38 5 = .int x_limit := (SAME.at t46 (by decide) e_limit)
                    refine call_Vv (wr := [(h_s, .inl (cI, 335, .inl f_s)), (h_planRead, .inl (cI, 24, .inl g105)), (h_reserved, .inl (cJ, 23, .inr (.inl f_reserved))), (h_names, .inl (cJ, 36, .inr (.inl f_names)))]) (As := []) (rest := []) hx hb hml hown hw (m_X10_next l D cI cJ cB cP cM cZ h0 h_tape F38 x_size y39 x_limit y40 y41 y43 y44 f_tape _ n108 n109 i_x_size t47 t48 n110 i_x_limit t49 t50 t51 t55 t56 (by omega)) wV_X10_208_X10_next dX10_planLine_478 hK hP hD hS hA [4, 2] [0, 1, 3, 5] rfl rfl (by decide) (by decide) (by decide) 0 10 rfl rfl GG.fb hG.at hl.1 rfl (Nat.le_of_ble_eq_true rfl) ⟨(Nat.le_of_ble_eq_true rfl), (Nat.le_of_ble_eq_true rfl)⟩ ⟨(Nat.le_of_ble_eq_true rfl), (Nat.le_of_ble_eq_true rfl)⟩ (fun u H locs hp hP hD hS => ?_)
                    obtain ⟨F112, y113, y114, y115, y116, y117, y118, t119, t120, t121, t122, t123, t124, t125, t126, t127, t128, t129, t130, t131, t132, t133, t134, rfl⟩ := hp
                    clear t59 t64
                    have hP : va_P D vwCl [(h_s, .inl (cI, 335, .inl f_s)), (h_planRead, .inl (cI, 24, .inl g105)), (h_reserved, .inl (cJ, 23, .inr (.inl f_reserved))), (h_names, .inl (cJ, 36, .inr (.inl f_names))), (h0, .inr (10, vL 67 F112)), (h_tape, .inl (cB, 940, .inl f_tape))] H := hP
                    have hD : va_D A [(h_s, .inl (cI, 335, .inl f_s)), (h_planRead, .inl (cI, 24, .inl g105)), (h_reserved, .inl (cJ, 23, .inr (.inl f_reserved))), (h_names, .inl (cJ, 36, .inr (.inl f_names))), (h0, .inr (10, vL 67 F112)), (h_tape, .inl (cB, 940, .inl f_tape))] := hD
                    refine W.widen (k := 0) (n := 0) (Nat.le_of_ble_eq_true rfl) (Nat.le_of_ble_eq_true rfl) ?_
                    refine lv_iconst (v := 1) hx hb dX10_planLine_481 (by decide) ?_
                    exact ret_i (v := 1) hx hb hr hlocks hS (hP.sub (ws' := [(h0, .inr (10, vL 67 F112)), (h_tape, .inl (cB, 940, .inl f_tape)), (h_s, .inl (cI, 335, .inl f_s)), (h_names, .inl (cJ, 36, .inr (.inl f_names))), (h_reserved, .inl (cJ, 23, .inr (.inl f_reserved))), (h_planRead, .inl (cI, 24, .inl g105))]) [4, 5, 0, 3, 2, 1] rfl) (hD.sub (ws' := [(h0, .inr (10, vL 67 F112)), (h_tape, .inl (cB, 940, .inl f_tape)), (h_s, .inl (cI, 335, .inl f_s)), (h_names, .inl (cJ, 36, .inr (.inl f_names))), (h_reserved, .inl (cJ, 23, .inr (.inl f_reserved))), (h_planRead, .inl (cI, 24, .inl g105))]) [4, 5, 0, 3, 2, 1] (by decide) rfl) dX10_planLine_482 rfl (Nat.le_of_ble_eq_true rfl) (Nat.le_of_ble_eq_true rfl) (Or.inr ⟨F112, y113, y114, y115, y116, y117, x_fault, x_faultAt, y118, x_got, y45, x_jumped, x_heights, g105, (SAME.tr (SAME.tr SAME.rf t46 (by decide)) t119 (by decide)), t120, t121, t122, t123, t124, t125, t126, t127, t128, (SAME.at t119 (by decide) (SAME.at t46 (by decide) e_fault)), (SAME.at t119 (by decide) (SAME.at t46 (by decide) e_faultAt)), t129, (SAME.at t119 (by decide) (SAME.at t46 (by decide) e_got)), (SAME.at t119 (by decide) t57), (SAME.at t119 (by decide) (SAME.at t46 (by decide) e_jumped)), (SAME.at t119 (by decide) (SAME.at t46 (by decide) e_heights)), r106, r107, (by have zl1 : (1 : Int32).toInt = 1 := (by decide); omega), (by have zl1 : (1 : Int32).toInt = 1 := (by decide); omega), t133, (by omega), rfl, rfl⟩)
                · have dc81 : r77.toInt = 0 := eq_i (a := r77.toInt) (b := 0) rfl rfl c81
                  have k136 : 0 ≤ r77.toInt ∧ r77.toInt ≤ 0 := ⟨t78.1, Int.le_trans (Int.le_of_eq dc81) (Int.le_refl _)⟩
                  refine lv_aload_n hx hb dX10_planLine_439 rfl (lv_at hl 0 rfl) ?_
                  refine lv_iconst (v := 1) hx hb dX10_planLine_440 (by decide) ?_
                  refine call_Vi (wr := [(h_s, .inl (cI, 335, .inl f_s)), (h_names, .inl (cJ, 36, .inr (.inl f_names))), (h_planRead, .inl (cI, 24, .inl f_planRead)), (h_tape, .inl (cB, 940, .inl f_tape)), (h_reserved, .inl (cJ, 23, .inr (.inl f_reserved)))]) (As := [.int 1]) (rest := []) hx hb hml hown hw (m_X10_bad l D cI cJ cB cP cM cZ h0 F38 y41 1 _ t51) wV_X10_205_X10_bad dX10_planLine_441 hK hP hD hS hA [4] [0, 1, 2, 3, 5] rfl rfl (by decide) (by decide) (by decide) 0 10 rfl rfl GG.fb hG.at hl.1 rfl (Nat.le_of_ble_eq_true rfl) ⟨(Nat.le_of_ble_eq_true rfl), (Nat.le_of_ble_eq_true rfl)⟩ ⟨(Nat.le_of_ble_eq_true rfl), (Nat.le_of_ble_eq_true rfl)⟩ (fun r137 u H locs hp hP hD hS => ?_)
                  have zl1 : (1 : Int32).toInt = 1 := by decide
                  obtain ⟨F138, t139, t140, t141, rfl, rfl⟩ := hp
                  have hP : va_P D vwCl [(h_s, .inl (cI, 335, .inl f_s)), (h_names, .inl (cJ, 36, .inr (.inl f_names))), (h_planRead, .inl (cI, 24, .inl f_planRead)), (h_tape, .inl (cB, 940, .inl f_tape)), (h_reserved, .inl (cJ, 23, .inr (.inl f_reserved))), (h0, .inr (10, vL 67 F138))] H := hP
                  have hD : va_D A [(h_s, .inl (cI, 335, .inl f_s)), (h_names, .inl (cJ, 36, .inr (.inl f_names))), (h_planRead, .inl (cI, 24, .inl f_planRead)), (h_tape, .inl (cB, 940, .inl f_tape)), (h_reserved, .inl (cJ, 23, .inr (.inl f_reserved))), (h0, .inr (10, vL 67 F138))] := hD
                  refine W.widen (k := 0) (n := 0) (Nat.le_of_ble_eq_true rfl) (Nat.le_of_ble_eq_true rfl) ?_
                  exact ret_i (v := 0) hx hb hr hlocks hS (hP.sub (ws' := [(h0, .inr (10, vL 67 F138)), (h_tape, .inl (cB, 940, .inl f_tape)), (h_s, .inl (cI, 335, .inl f_s)), (h_names, .inl (cJ, 36, .inr (.inl f_names))), (h_reserved, .inl (cJ, 23, .inr (.inl f_reserved))), (h_planRead, .inl (cI, 24, .inl f_planRead))]) [5, 3, 0, 1, 4, 2] rfl) (hD.sub (ws' := [(h0, .inr (10, vL 67 F138)), (h_tape, .inl (cB, 940, .inl f_tape)), (h_s, .inl (cI, 335, .inl f_s)), (h_names, .inl (cJ, 36, .inr (.inl f_names))), (h_reserved, .inl (cJ, 23, .inr (.inl f_reserved))), (h_planRead, .inl (cI, 24, .inl f_planRead))]) [5, 3, 0, 1, 4, 2] (by decide) rfl) dX10_planLine_444 rfl (Nat.le_of_ble_eq_true rfl) (Nat.le_of_ble_eq_true rfl) (Or.inl ⟨F138, y39, y40, y41, y42, y43, 1, y41, y44, x_got, y45, x_jumped, x_heights, f_planRead, (SAME.tr (SAME.tr SAME.rf t46 (by decide)) t139 (by decide)), (SAME.at t139 (by decide) t47), t48, (SAME.at t139 (by decide) t49), t50, (SAME.at t139 (by decide) t51), (SAME.at t139 (by decide) t53), (SAME.at t139 (by decide) t55), t140, (show 1 ≤ (1 : Int32).toInt ∧ (1 : Int32).toInt ≤ 3 by decide), t141, (SAME.at t139 (by decide) t56), (SAME.at t139 (by decide) (SAME.at t46 (by decide) e_got)), (SAME.at t139 (by decide) t57), (SAME.at t139 (by decide) (SAME.at t46 (by decide) e_jumped)), (SAME.at t139 (by decide) (SAME.at t46 (by decide) e_heights)), s_planRead_1, s_planRead_10, (by have zl1 : (1 : Int32).toInt = 1 := (by decide); omega), rfl, rfl⟩)
              · obtain ⟨F65, y66, y67, t68, t69, t70, t71, t72, t73, t74, rfl, rfl⟩ := hp
                have hP : va_P D vwCl [(h_s, .inl (cI, 335, .inl f_s)), (h_names, .inl (cJ, 36, .inr (.inl f_names))), (h_reserved, .inl (cJ, 23, .inr (.inl f_reserved))), (h_planRead, .inl (cI, 24, .inl f_planRead)), (h0, .inr (10, vL 67 F65)), (h_tape, .inl (cB, 940, .inl f_tape))] H := hP
                have hD : va_D A [(h_s, .inl (cI, 335, .inl f_s)), (h_names, .inl (cJ, 36, .inr (.inl f_names))), (h_reserved, .inl (cJ, 23, .inr (.inl f_reserved))), (h_planRead, .inl (cI, 24, .inl f_planRead)), (h0, .inr (10, vL 67 F65)), (h_tape, .inl (cB, 940, .inl f_tape))] := hD
                refine W.widen (k := 0) (n := 0) (Nat.le_of_ble_eq_true rfl) (Nat.le_of_ble_eq_true rfl) ?_
                refine lv_if_ne (tgt := 432) hx hb dX10_planLine_427 (by decide) (fun g => absurd (by decide) g) (fun _ => ?_)
                refine lv_iconst (v := 0) hx hb dX10_planLine_430 (by decide) ?_
                exact ret_i (v := 0) hx hb hr hlocks hS (hP.sub (ws' := [(h0, .inr (10, vL 67 F65)), (h_tape, .inl (cB, 940, .inl f_tape)), (h_s, .inl (cI, 335, .inl f_s)), (h_names, .inl (cJ, 36, .inr (.inl f_names))), (h_reserved, .inl (cJ, 23, .inr (.inl f_reserved))), (h_planRead, .inl (cI, 24, .inl f_planRead))]) [4, 5, 0, 1, 2, 3] rfl) (hD.sub (ws' := [(h0, .inr (10, vL 67 F65)), (h_tape, .inl (cB, 940, .inl f_tape)), (h_s, .inl (cI, 335, .inl f_s)), (h_names, .inl (cJ, 36, .inr (.inl f_names))), (h_reserved, .inl (cJ, 23, .inr (.inl f_reserved))), (h_planRead, .inl (cI, 24, .inl f_planRead))]) [4, 5, 0, 1, 2, 3] (by decide) rfl) dX10_planLine_431 rfl (Nat.le_of_ble_eq_true rfl) (Nat.le_of_ble_eq_true rfl) (Or.inl ⟨F65, x_p, x_token, x_at, x_span, x_number, y66, y67, x_word, x_got, x_onces, x_jumped, x_heights, f_planRead, (SAME.tr SAME.rf t68 (by decide)), (SAME.at t68 (by decide) e_p), i_x_p, (SAME.at t68 (by decide) e_token), i_x_token, (SAME.at t68 (by decide) e_at), (SAME.at t68 (by decide) e_span), (SAME.at t68 (by decide) e_number), t69, (ir_wk t70 (by decide) (by decide)), t71, (SAME.at t68 (by decide) e_word), (SAME.at t68 (by decide) e_got), (SAME.at t68 (by decide) e_onces), (SAME.at t68 (by decide) e_jumped), (SAME.at t68 (by decide) e_heights), s_planRead_1, s_planRead_10, (by omega), rfl, rfl⟩)
            · have dc35 : r31.toInt = 0 := eq_i (a := r31.toInt) (b := 0) rfl rfl c35
              have k143 : 0 ≤ r31.toInt ∧ r31.toInt ≤ 0 := ⟨t32.1, Int.le_trans (Int.le_of_eq dc35) (Int.le_refl _)⟩
              refine lv_aload_n hx hb dX10_planLine_416 rfl (lv_at hl 0 rfl) ?_
              refine lv_iconst (v := 1) hx hb dX10_planLine_417 (by decide) ?_
              refine call_Vi (wr := [(h_tape, .inl (cB, 940, .inl f_tape)), (h_s, .inl (cI, 335, .inl f_s)), (h_names, .inl (cJ, 36, .inr (.inl f_names))), (h_reserved, .inl (cJ, 23, .inr (.inl f_reserved))), (h_planRead, .inl (cI, 24, .inl f_planRead))]) (As := [.int 1]) (rest := []) hx hb hml hown hw (m_X10_bad l D cI cJ cB cP cM cZ h0 Fh x_at 1 _ e_at) wV_X10_205_X10_bad dX10_planLine_418 hK hP hD hS hA [5] [0, 1, 2, 3, 4] rfl rfl (by decide) (by decide) (by decide) 0 10 rfl rfl GG.fb hG.at hl.1 rfl (Nat.le_of_ble_eq_true rfl) ⟨(Nat.le_of_ble_eq_true rfl), (Nat.le_of_ble_eq_true rfl)⟩ ⟨(Nat.le_of_ble_eq_true rfl), (Nat.le_of_ble_eq_true rfl)⟩ (fun r144 u H locs hp hP hD hS => ?_)
              have zl1 : (1 : Int32).toInt = 1 := by decide
              obtain ⟨F145, t146, t147, t148, rfl, rfl⟩ := hp
              have hP : va_P D vwCl [(h_tape, .inl (cB, 940, .inl f_tape)), (h_s, .inl (cI, 335, .inl f_s)), (h_names, .inl (cJ, 36, .inr (.inl f_names))), (h_reserved, .inl (cJ, 23, .inr (.inl f_reserved))), (h_planRead, .inl (cI, 24, .inl f_planRead)), (h0, .inr (10, vL 67 F145))] H := hP
              have hD : va_D A [(h_tape, .inl (cB, 940, .inl f_tape)), (h_s, .inl (cI, 335, .inl f_s)), (h_names, .inl (cJ, 36, .inr (.inl f_names))), (h_reserved, .inl (cJ, 23, .inr (.inl f_reserved))), (h_planRead, .inl (cI, 24, .inl f_planRead)), (h0, .inr (10, vL 67 F145))] := hD
              refine W.widen (k := 0) (n := 0) (Nat.le_of_ble_eq_true rfl) (Nat.le_of_ble_eq_true rfl) ?_
              exact ret_i (v := 0) hx hb hr hlocks hS (hP.sub (ws' := [(h0, .inr (10, vL 67 F145)), (h_tape, .inl (cB, 940, .inl f_tape)), (h_s, .inl (cI, 335, .inl f_s)), (h_names, .inl (cJ, 36, .inr (.inl f_names))), (h_reserved, .inl (cJ, 23, .inr (.inl f_reserved))), (h_planRead, .inl (cI, 24, .inl f_planRead))]) [5, 0, 1, 2, 3, 4] rfl) (hD.sub (ws' := [(h0, .inr (10, vL 67 F145)), (h_tape, .inl (cB, 940, .inl f_tape)), (h_s, .inl (cI, 335, .inl f_s)), (h_names, .inl (cJ, 36, .inr (.inl f_names))), (h_reserved, .inl (cJ, 23, .inr (.inl f_reserved))), (h_planRead, .inl (cI, 24, .inl f_planRead))]) [5, 0, 1, 2, 3, 4] (by decide) rfl) dX10_planLine_421 rfl (Nat.le_of_ble_eq_true rfl) (Nat.le_of_ble_eq_true rfl) (Or.inl ⟨F145, x_p, x_token, x_at, x_span, x_number, 1, x_at, x_word, x_got, x_onces, x_jumped, x_heights, f_planRead, (SAME.tr SAME.rf t146 (by decide)), (SAME.at t146 (by decide) e_p), i_x_p, (SAME.at t146 (by decide) e_token), i_x_token, (SAME.at t146 (by decide) e_at), (SAME.at t146 (by decide) e_span), (SAME.at t146 (by decide) e_number), t147, (show 1 ≤ (1 : Int32).toInt ∧ (1 : Int32).toInt ≤ 3 by decide), t148, (SAME.at t146 (by decide) e_word), (SAME.at t146 (by decide) e_got), (SAME.at t146 (by decide) e_onces), (SAME.at t146 (by decide) e_jumped), (SAME.at t146 (by decide) e_heights), s_planRead_1, s_planRead_10, (by have zl1 : (1 : Int32).toInt = 1 := (by decide); omega), rfl, rfl⟩)
          · have dc29 : r25.toInt ≠ 0 := ne_i (a := r25.toInt) (b := 0) rfl rfl c29
            have k150 : 1 ≤ r25.toInt ∧ r25.toInt ≤ 1 := ⟨ne_lo dc29 t26.1 ⟨Int.le_refl _, Int.le_refl _⟩ (by decide), t26.2⟩
            refine lv_aload_n hx hb dX10_planLine_373 rfl (lv_at hl 0 rfl) ?_
            refine lv_iconst (v := 2) hx hb dX10_planLine_374 (by decide) ?_
            refine call_Vi (wr := [(h_s, .inl (cI, 335, .inl f_s)), (h_names, .inl (cJ, 36, .inr (.inl f_names))), (h_reserved, .inl (cJ, 23, .inr (.inl f_reserved))), (h_planRead, .inl (cI, 24, .inl f_planRead))]) (As := [.int 2]) (rest := []) hx hb hml hown hw (m_X10_isOnce l D cI cJ cB cP cM cZ h0 h_tape Fh x_size x_p x_limit x_token x_at x_number x_fault x_faultAt x_word x_onces f_tape 2 _ e_tape e_size i_x_size e_p i_x_p e_limit i_x_limit e_token i_x_token e_at e_number e_fault e_faultAt e_word e_onces (by omega)) wV_X10_239_X10_isOnce dX10_planLine_375 hK hP hD hS hA [5, 0] [1, 2, 3, 4] rfl rfl (by decide) (by decide) (by decide) 0 10 rfl rfl GG.fb hG.at hl.1 rfl (Nat.le_of_ble_eq_true rfl) ⟨(Nat.le_of_ble_eq_true rfl), (Nat.le_of_ble_eq_true rfl)⟩ ⟨(Nat.le_of_ble_eq_true rfl), (Nat.le_of_ble_eq_true rfl)⟩ (fun r151 u H locs hp hP hD hS => ?_)
            have zl2 : (2 : Int32).toInt = 2 := by decide
            rcases hp with hp | hp
            · refine hp.elim (fun F152 h9z0 => h9z0.elim (fun y153 h9z1 => h9z1.elim (fun y154 h9z2 => h9z2.elim (fun y155 h9z3 => h9z3.elim (fun y156 h9z4 => h9z4.elim (fun y157 h9z5 => h9z5.elim (fun y158 h9z6 => h9z6.elim (fun y159 h9z7 => h9z7.elim (fun t160 h9z8 => h9z8.elim (fun t161 h9z9 => h9z9.elim (fun t162 h9z10 => h9z10.elim (fun t163 h9z11 => h9z11.elim (fun t164 h9z12 => h9z12.elim (fun t165 h9z13 => h9z13.elim (fun t166 h9z14 => h9z14.elim (fun t167 h9z15 => h9z15.elim (fun t168 h9z16 => h9z16.elim (fun t169 h9z17 => h9z17.elim (fun t170 h9z18 => h9z18.elim (fun t171 h9z19 => h9z19.elim (fun t172 h9z20 => h9z20.elim (fun t173 h9z21 => h9z21.elim (fun t174 h9z22 => h9z22.elim (fun t175 h9z23 => h9z23.elim (fun t176 h9z24 => h9z24.elim (fun t177 h9z25 => h9z25.elim (fun t178 h9z26 => h9z26.elim (fun heq927 h9z27 => ?_))))))))))))))))))))))))))))
              clear h9z0 h9z1 h9z2 h9z3 h9z4 h9z5 h9z6 h9z7 h9z8 h9z9 h9z10 h9z11 h9z12 h9z13 h9z14 h9z15 h9z16 h9z17 h9z18 h9z19 h9z20 h9z21 h9z22 h9z23 h9z24 h9z25 h9z26
              subst heq927
              subst h9z27
              have hP : va_P D vwCl [(h_s, .inl (cI, 335, .inl f_s)), (h_names, .inl (cJ, 36, .inr (.inl f_names))), (h_reserved, .inl (cJ, 23, .inr (.inl f_reserved))), (h_planRead, .inl (cI, 24, .inl f_planRead)), (h0, .inr (10, vL 67 F152)), (h_tape, .inl (cB, 940, .inl f_tape))] H := hP
              have hD : va_D A [(h_s, .inl (cI, 335, .inl f_s)), (h_names, .inl (cJ, 36, .inr (.inl f_names))), (h_reserved, .inl (cJ, 23, .inr (.inl f_reserved))), (h_planRead, .inl (cI, 24, .inl f_planRead)), (h0, .inr (10, vL 67 F152)), (h_tape, .inl (cB, 940, .inl f_tape))] := hD
              refine W.widen (k := 0) (n := 0) (Nat.le_of_ble_eq_true rfl) (Nat.le_of_ble_eq_true rfl) ?_
              refine lv_if_eq (tgt := 391) hx hb dX10_planLine_378 (by decide) (fun g => absurd g (by decide)) (fun _ => ?_)
              refine lv_aload_n hx hb dX10_planLine_381 rfl (lv_at hl 0 rfl) ?_
              refine lv_iconst (v := 1) hx hb dX10_planLine_382 (by decide) ?_
              refine lv_bipush (v := 60) hx hb dX10_planLine_383 (by decide) ?_
              have n190 : F152 1 = .ref h_tape := (SAME.at t160 (by decide) e_tape)
              have n191 : F152 3 = .int x_size := (SAME.at t160 (by decide) e_size)
              have n192 : F152 5 = .int x_limit := (SAME.at t160 (by decide) e_limit)
              have n193 : F152 15 = .int x_fault := (SAME.at t160 (by decide) e_fault)
              have n194 : F152 16 = .int x_faultAt := (SAME.at t160 (by decide) e_faultAt)
              have n195 : F152 19 = .int x_got := (SAME.at t160 (by decide) e_got)
              refine call_Vi (wr := [(h_s, .inl (cI, 335, .inl f_s)), (h_names, .inl (cJ, 36, .inr (.inl f_names))), (h_reserved, .inl (cJ, 23, .inr (.inl f_reserved))), (h_planRead, .inl (cI, 24, .inl f_planRead))]) (As := [.int 1, .int 60]) (rest := []) hx hb hml hown hw (m_X10_takes l D cI cJ cB cP cM cZ h0 h_tape F152 x_size y153 x_limit y154 y155 y157 x_fault x_faultAt y158 x_got f_tape 1 60 _ n190 n191 i_x_size t161 t162 n192 i_x_limit t163 t164 t165 t169 n193 n194 t170 n195 (by omega)) wV_X10_242_X10_takes dX10_planLine_385 hK hP hD hS hA [4, 5] [0, 1, 2, 3] rfl rfl (by decide) (by decide) (by decide) 0 10 rfl rfl GG.fb hG.at hl.1 rfl (Nat.le_of_ble_eq_true rfl) ⟨(Nat.le_of_ble_eq_true rfl), (Nat.le_of_ble_eq_true rfl)⟩ ⟨(Nat.le_of_ble_eq_true rfl), (Nat.le_of_ble_eq_true rfl)⟩ (fun r196 u H locs hp hP hD hS => ?_)
              have zl1 : (1 : Int32).toInt = 1 := by decide
              have zl60 : (60 : Int32).toInt = 60 := by decide
              rcases hp with hp | hp
              · obtain ⟨F197, y198, y199, t200, t201, t202, t203, t204, rfl, rfl⟩ := hp
                have hP : va_P D vwCl [(h_s, .inl (cI, 335, .inl f_s)), (h_names, .inl (cJ, 36, .inr (.inl f_names))), (h_reserved, .inl (cJ, 23, .inr (.inl f_reserved))), (h_planRead, .inl (cI, 24, .inl f_planRead)), (h0, .inr (10, vL 67 F197)), (h_tape, .inl (cB, 940, .inl f_tape))] H := hP
                have hD : va_D A [(h_s, .inl (cI, 335, .inl f_s)), (h_names, .inl (cJ, 36, .inr (.inl f_names))), (h_reserved, .inl (cJ, 23, .inr (.inl f_reserved))), (h_planRead, .inl (cI, 24, .inl f_planRead)), (h0, .inr (10, vL 67 F197)), (h_tape, .inl (cB, 940, .inl f_tape))] := hD
                refine W.widen (k := 0) (n := 0) (Nat.le_of_ble_eq_true rfl) (Nat.le_of_ble_eq_true rfl) ?_
                refine lv_if_ne (tgt := 393) hx hb dX10_planLine_388 (by decide) (fun g => absurd (by decide) g) (fun _ => ?_)
                refine lv_iconst (v := 0) hx hb dX10_planLine_391 (by decide) ?_
                exact ret_i (v := 0) hx hb hr hlocks hS (hP.sub (ws' := [(h0, .inr (10, vL 67 F197)), (h_tape, .inl (cB, 940, .inl f_tape)), (h_s, .inl (cI, 335, .inl f_s)), (h_names, .inl (cJ, 36, .inr (.inl f_names))), (h_reserved, .inl (cJ, 23, .inr (.inl f_reserved))), (h_planRead, .inl (cI, 24, .inl f_planRead))]) [4, 5, 0, 1, 2, 3] rfl) (hD.sub (ws' := [(h0, .inr (10, vL 67 F197)), (h_tape, .inl (cB, 940, .inl f_tape)), (h_s, .inl (cI, 335, .inl f_s)), (h_names, .inl (cJ, 36, .inr (.inl f_names))), (h_reserved, .inl (cJ, 23, .inr (.inl f_reserved))), (h_planRead, .inl (cI, 24, .inl f_planRead))]) [4, 5, 0, 1, 2, 3] (by decide) rfl) dX10_planLine_392 rfl (Nat.le_of_ble_eq_true rfl) (Nat.le_of_ble_eq_true rfl) (Or.inl ⟨F197, y153, y154, y155, y156, y157, y198, y199, y158, x_got, y159, x_jumped, x_heights, f_planRead, (SAME.tr (SAME.tr SAME.rf t160 (by decide)) t200 (by decide)), (SAME.at t200 (by decide) t161), t162, (SAME.at t200 (by decide) t163), t164, (SAME.at t200 (by decide) t165), (SAME.at t200 (by decide) t167), (SAME.at t200 (by decide) t169), t201, (ir_wk t202 (by decide) (by decide)), t203, (SAME.at t200 (by decide) t170), (SAME.at t200 (by decide) n195), (SAME.at t200 (by decide) t171), (SAME.at t200 (by decide) (SAME.at t160 (by decide) e_jumped)), (SAME.at t200 (by decide) (SAME.at t160 (by decide) e_heights)), s_planRead_1, s_planRead_10, (by omega), rfl, rfl⟩)
              · refine hp.elim (fun F205 h9z0 => h9z0.elim (fun y206 h9z1 => h9z1.elim (fun y207 h9z2 => h9z2.elim (fun y208 h9z3 => h9z3.elim (fun y209 h9z4 => h9z4.elim (fun y210 h9z5 => h9z5.elim (fun y211 h9z6 => h9z6.elim (fun y212 h9z7 => h9z7.elim (fun t213 h9z8 => h9z8.elim (fun t214 h9z9 => h9z9.elim (fun t215 h9z10 => h9z10.elim (fun t216 h9z11 => h9z11.elim (fun t217 h9z12 => h9z12.elim (fun t218 h9z13 => h9z13.elim (fun t219 h9z14 => h9z14.elim (fun t220 h9z15 => h9z15.elim (fun t221 h9z16 => h9z16.elim (fun t222 h9z17 => h9z17.elim (fun t223 h9z18 => h9z18.elim (fun t224 h9z19 => h9z19.elim (fun t225 h9z20 => h9z20.elim (fun t226 h9z21 => h9z21.elim (fun t227 h9z22 => h9z22.elim (fun t228 h9z23 => h9z23.elim (fun t229 h9z24 => h9z24.elim (fun t230 h9z25 => h9z25.elim (fun t231 h9z26 => h9z26.elim (fun t232 h9z27 => h9z27.elim (fun t233 h9z28 => h9z28.elim (fun t234 h9z29 => h9z29.elim (fun heq930 h9z30 => ?_)))))))))))))))))))))))))))))))
                clear h9z0 h9z1 h9z2 h9z3 h9z4 h9z5 h9z6 h9z7 h9z8 h9z9 h9z10 h9z11 h9z12 h9z13 h9z14 h9z15 h9z16 h9z17 h9z18 h9z19 h9z20 h9z21 h9z22 h9z23 h9z24 h9z25 h9z26 h9z27 h9z28 h9z29
                subst heq930
                subst h9z30
                clear t173 t178
                have hP : va_P D vwCl [(h_s, .inl (cI, 335, .inl f_s)), (h_names, .inl (cJ, 36, .inr (.inl f_names))), (h_reserved, .inl (cJ, 23, .inr (.inl f_reserved))), (h_planRead, .inl (cI, 24, .inl f_planRead)), (h0, .inr (10, vL 67 F205)), (h_tape, .inl (cB, 940, .inl f_tape))] H := hP
                have hD : va_D A [(h_s, .inl (cI, 335, .inl f_s)), (h_names, .inl (cJ, 36, .inr (.inl f_names))), (h_reserved, .inl (cJ, 23, .inr (.inl f_reserved))), (h_planRead, .inl (cI, 24, .inl f_planRead)), (h0, .inr (10, vL 67 F205)), (h_tape, .inl (cB, 940, .inl f_tape))] := hD
                refine W.widen (k := 0) (n := 0) (Nat.le_of_ble_eq_true rfl) (Nat.le_of_ble_eq_true rfl) ?_
                have k236 : 2 ≤ y154.toInt ∧ y154.toInt ≤ 2 := ⟨Int.le_trans (Int.le_refl _) (Int.le_of_eq t225.symm), Int.le_trans (Int.le_of_eq t225) (Int.le_refl _)⟩
                have k237 : 1 ≤ y157.toInt ∧ y157.toInt ≤ 2147483647 := ⟨Int.le_trans (Int.le_refl _) t226, (ir_any _).2⟩
                have k238 : 1 ≤ y157.toInt ∧ y157.toInt ≤ 60 := ⟨k237.1, Int.le_trans t227 (Int.le_refl _)⟩
                refine lv_if_ne (tgt := 393) hx hb dX10_planLine_388 (by decide) (fun _ => ?_) (fun g => absurd g (by decide))
                refine lv_aload_n hx hb dX10_planLine_393 rfl (lv_at hl 0 rfl) ?_
                have n239 : F152 22 = .ref h_planRead := (SAME.at t160 (by decide) e_planRead)
                have n240 : F205 22 = .ref h_planRead := (SAME.at t213 (by decide) n239)
                refine get_f (D := D) (ci := 10) (v := .ref h_planRead) (C := RX10) (T := TX10) (N := 67) hx hb hw inAX10 hown hK hP 4 rfl rfl 22 (by decide) (hw _ q_1283) (fun _ h9 => h9) n240 dX10_planLine_394 ?_
                refine lv_bipush (v := 11) hx hb dX10_planLine_397 (by decide) ?_
                refine lv_aload_n hx hb dX10_planLine_399 rfl (lv_at hl 0 rfl) ?_
                refine get_f (D := D) (ci := 10) (v := .int y212) (C := RX10) (T := TX10) (N := 67) hx hb hw inAX10 hown hK hP 4 rfl rfl 19 (by decide) (hw _ q_1280) (fun _ h9 => h9) t224 dX10_planLine_400 ?_
                obtain ⟨g241, eg241⟩ : ∃ z : Nat → Int32, upd f_planRead 11 y212 = z := ⟨_, rfl⟩
                have r242 : SG 1 4 0 11 g241 := by rw [← eg241]; exact s_planRead_1.upN (Or.inr (Or.inl (by decide)))
                have r243 : SG 10 10 0 5 g241 := by rw [← eg241]; exact s_planRead_10.upN (Or.inr (Or.inl (by decide)))
                refine iast_n hx hb hK hP hD hS 3 0 rfl rfl 11 rfl (Nat.le_of_ble_eq_true rfl) (Nat.le_of_ble_eq_true rfl) eg241 dX10_planLine_403 (fun H locs hP hD hS => ?_)
                have hP : va_P D vwCl [(h_s, .inl (cI, 335, .inl f_s)), (h_names, .inl (cJ, 36, .inr (.inl f_names))), (h_reserved, .inl (cJ, 23, .inr (.inl f_reserved))), (h_planRead, .inl (cI, 24, .inl g241)), (h0, .inr (10, vL 67 F205)), (h_tape, .inl (cB, 940, .inl f_tape))] H := hP
                have hD : va_D A [(h_s, .inl (cI, 335, .inl f_s)), (h_names, .inl (cJ, 36, .inr (.inl f_names))), (h_reserved, .inl (cJ, 23, .inr (.inl f_reserved))), (h_planRead, .inl (cI, 24, .inl g241)), (h0, .inr (10, vL 67 F205)), (h_tape, .inl (cB, 940, .inl f_tape))] := hD
                refine lv_iconst (v := 1) hx hb dX10_planLine_404 (by decide) ?_
                exact ret_i (v := 1) hx hb hr hlocks hS (hP.sub (ws' := [(h0, .inr (10, vL 67 F205)), (h_tape, .inl (cB, 940, .inl f_tape)), (h_s, .inl (cI, 335, .inl f_s)), (h_names, .inl (cJ, 36, .inr (.inl f_names))), (h_reserved, .inl (cJ, 23, .inr (.inl f_reserved))), (h_planRead, .inl (cI, 24, .inl g241))]) [4, 5, 0, 1, 2, 3] rfl) (hD.sub (ws' := [(h0, .inr (10, vL 67 F205)), (h_tape, .inl (cB, 940, .inl f_tape)), (h_s, .inl (cI, 335, .inl f_s)), (h_names, .inl (cJ, 36, .inr (.inl f_names))), (h_reserved, .inl (cJ, 23, .inr (.inl f_reserved))), (h_planRead, .inl (cI, 24, .inl g241))]) [4, 5, 0, 1, 2, 3] (by decide) rfl) dX10_planLine_405 rfl (Nat.le_of_ble_eq_true rfl) (Nat.le_of_ble_eq_true rfl) (Or.inr ⟨F205, y206, y207, y208, y209, y210, x_fault, x_faultAt, y211, y212, y159, x_jumped, x_heights, g241, (SAME.tr (SAME.tr SAME.rf t160 (by decide)) t213 (by decide)), t214, t215, t216, t217, t218, t219, t220, t221, t222, (SAME.at t213 (by decide) n193), (SAME.at t213 (by decide) n194), t223, t224, (SAME.at t213 (by decide) t171), (SAME.at t213 (by decide) (SAME.at t160 (by decide) e_jumped)), (SAME.at t213 (by decide) (SAME.at t160 (by decide) e_heights)), r242, r243, (by have zl1 : (1 : Int32).toInt = 1 := (by decide); omega), (by have zl1 : (1 : Int32).toInt = 1 := (by decide); omega), t233, (by omega), rfl, rfl⟩)
            · obtain ⟨F179, y180, y181, t182, t183, t184, t185, t186, t187, t188, rfl, rfl⟩ := hp
              have hP : va_P D vwCl [(h_s, .inl (cI, 335, .inl f_s)), (h_names, .inl (cJ, 36, .inr (.inl f_names))), (h_reserved, .inl (cJ, 23, .inr (.inl f_reserved))), (h_planRead, .inl (cI, 24, .inl f_planRead)), (h0, .inr (10, vL 67 F179)), (h_tape, .inl (cB, 940, .inl f_tape))] H := hP
              have hD : va_D A [(h_s, .inl (cI, 335, .inl f_s)), (h_names, .inl (cJ, 36, .inr (.inl f_names))), (h_reserved, .inl (cJ, 23, .inr (.inl f_reserved))), (h_planRead, .inl (cI, 24, .inl f_planRead)), (h0, .inr (10, vL 67 F179)), (h_tape, .inl (cB, 940, .inl f_tape))] := hD
              refine W.widen (k := 0) (n := 0) (Nat.le_of_ble_eq_true rfl) (Nat.le_of_ble_eq_true rfl) ?_
              refine lv_if_eq (tgt := 391) hx hb dX10_planLine_378 (by decide) (fun _ => ?_) (fun g => absurd (by decide) g)
              refine lv_iconst (v := 0) hx hb dX10_planLine_391 (by decide) ?_
              exact ret_i (v := 0) hx hb hr hlocks hS (hP.sub (ws' := [(h0, .inr (10, vL 67 F179)), (h_tape, .inl (cB, 940, .inl f_tape)), (h_s, .inl (cI, 335, .inl f_s)), (h_names, .inl (cJ, 36, .inr (.inl f_names))), (h_reserved, .inl (cJ, 23, .inr (.inl f_reserved))), (h_planRead, .inl (cI, 24, .inl f_planRead))]) [4, 5, 0, 1, 2, 3] rfl) (hD.sub (ws' := [(h0, .inr (10, vL 67 F179)), (h_tape, .inl (cB, 940, .inl f_tape)), (h_s, .inl (cI, 335, .inl f_s)), (h_names, .inl (cJ, 36, .inr (.inl f_names))), (h_reserved, .inl (cJ, 23, .inr (.inl f_reserved))), (h_planRead, .inl (cI, 24, .inl f_planRead))]) [4, 5, 0, 1, 2, 3] (by decide) rfl) dX10_planLine_392 rfl (Nat.le_of_ble_eq_true rfl) (Nat.le_of_ble_eq_true rfl) (Or.inl ⟨F179, x_p, x_token, x_at, x_span, x_number, y180, y181, x_word, x_got, x_onces, x_jumped, x_heights, f_planRead, (SAME.tr SAME.rf t182 (by decide)), (SAME.at t182 (by decide) e_p), i_x_p, (SAME.at t182 (by decide) e_token), i_x_token, (SAME.at t182 (by decide) e_at), (SAME.at t182 (by decide) e_span), (SAME.at t182 (by decide) e_number), t183, (ir_wk t184 (by decide) (by decide)), t185, (SAME.at t182 (by decide) e_word), (SAME.at t182 (by decide) e_got), (SAME.at t182 (by decide) e_onces), (SAME.at t182 (by decide) e_jumped), (SAME.at t182 (by decide) e_heights), s_planRead_1, s_planRead_10, (by omega), rfl, rfl⟩)
        · have dc23 : r19.toInt ≠ 0 := ne_i (a := r19.toInt) (b := 0) rfl rfl c23
          have k244 : 1 ≤ r19.toInt ∧ r19.toInt ≤ 1 := ⟨ne_lo dc23 t20.1 ⟨Int.le_refl _, Int.le_refl _⟩ (by decide), t20.2⟩
          refine lv_aload_n hx hb dX10_planLine_330 rfl (lv_at hl 0 rfl) ?_
          refine lv_iconst (v := 1) hx hb dX10_planLine_331 (by decide) ?_
          refine call_Vi (wr := [(h_s, .inl (cI, 335, .inl f_s)), (h_names, .inl (cJ, 36, .inr (.inl f_names))), (h_reserved, .inl (cJ, 23, .inr (.inl f_reserved))), (h_planRead, .inl (cI, 24, .inl f_planRead))]) (As := [.int 1]) (rest := []) hx hb hml hown hw (m_X10_isOnce l D cI cJ cB cP cM cZ h0 h_tape Fh x_size x_p x_limit x_token x_at x_number x_fault x_faultAt x_word x_onces f_tape 1 _ e_tape e_size i_x_size e_p i_x_p e_limit i_x_limit e_token i_x_token e_at e_number e_fault e_faultAt e_word e_onces (by omega)) wV_X10_239_X10_isOnce dX10_planLine_332 hK hP hD hS hA [5, 0] [1, 2, 3, 4] rfl rfl (by decide) (by decide) (by decide) 0 10 rfl rfl GG.fb hG.at hl.1 rfl (Nat.le_of_ble_eq_true rfl) ⟨(Nat.le_of_ble_eq_true rfl), (Nat.le_of_ble_eq_true rfl)⟩ ⟨(Nat.le_of_ble_eq_true rfl), (Nat.le_of_ble_eq_true rfl)⟩ (fun r245 u H locs hp hP hD hS => ?_)
          have zl1 : (1 : Int32).toInt = 1 := by decide
          rcases hp with hp | hp
          · refine hp.elim (fun F246 h9z0 => h9z0.elim (fun y247 h9z1 => h9z1.elim (fun y248 h9z2 => h9z2.elim (fun y249 h9z3 => h9z3.elim (fun y250 h9z4 => h9z4.elim (fun y251 h9z5 => h9z5.elim (fun y252 h9z6 => h9z6.elim (fun y253 h9z7 => h9z7.elim (fun t254 h9z8 => h9z8.elim (fun t255 h9z9 => h9z9.elim (fun t256 h9z10 => h9z10.elim (fun t257 h9z11 => h9z11.elim (fun t258 h9z12 => h9z12.elim (fun t259 h9z13 => h9z13.elim (fun t260 h9z14 => h9z14.elim (fun t261 h9z15 => h9z15.elim (fun t262 h9z16 => h9z16.elim (fun t263 h9z17 => h9z17.elim (fun t264 h9z18 => h9z18.elim (fun t265 h9z19 => h9z19.elim (fun t266 h9z20 => h9z20.elim (fun t267 h9z21 => h9z21.elim (fun t268 h9z22 => h9z22.elim (fun t269 h9z23 => h9z23.elim (fun t270 h9z24 => h9z24.elim (fun t271 h9z25 => h9z25.elim (fun t272 h9z26 => h9z26.elim (fun heq927 h9z27 => ?_))))))))))))))))))))))))))))
            clear h9z0 h9z1 h9z2 h9z3 h9z4 h9z5 h9z6 h9z7 h9z8 h9z9 h9z10 h9z11 h9z12 h9z13 h9z14 h9z15 h9z16 h9z17 h9z18 h9z19 h9z20 h9z21 h9z22 h9z23 h9z24 h9z25 h9z26
            subst heq927
            subst h9z27
            have hP : va_P D vwCl [(h_s, .inl (cI, 335, .inl f_s)), (h_names, .inl (cJ, 36, .inr (.inl f_names))), (h_reserved, .inl (cJ, 23, .inr (.inl f_reserved))), (h_planRead, .inl (cI, 24, .inl f_planRead)), (h0, .inr (10, vL 67 F246)), (h_tape, .inl (cB, 940, .inl f_tape))] H := hP
            have hD : va_D A [(h_s, .inl (cI, 335, .inl f_s)), (h_names, .inl (cJ, 36, .inr (.inl f_names))), (h_reserved, .inl (cJ, 23, .inr (.inl f_reserved))), (h_planRead, .inl (cI, 24, .inl f_planRead)), (h0, .inr (10, vL 67 F246)), (h_tape, .inl (cB, 940, .inl f_tape))] := hD
            refine W.widen (k := 0) (n := 0) (Nat.le_of_ble_eq_true rfl) (Nat.le_of_ble_eq_true rfl) ?_
            refine lv_if_eq (tgt := 348) hx hb dX10_planLine_335 (by decide) (fun g => absurd g (by decide)) (fun _ => ?_)
            refine lv_aload_n hx hb dX10_planLine_338 rfl (lv_at hl 0 rfl) ?_
            refine lv_iconst (v := 0) hx hb dX10_planLine_339 (by decide) ?_
            refine lv_bipush (v := 99) hx hb dX10_planLine_340 (by decide) ?_
            have n284 : F246 1 = .ref h_tape := (SAME.at t254 (by decide) e_tape)
            have n285 : F246 3 = .int x_size := (SAME.at t254 (by decide) e_size)
            have n286 : F246 5 = .int x_limit := (SAME.at t254 (by decide) e_limit)
            have n287 : F246 15 = .int x_fault := (SAME.at t254 (by decide) e_fault)
            have n288 : F246 16 = .int x_faultAt := (SAME.at t254 (by decide) e_faultAt)
            have n289 : F246 19 = .int x_got := (SAME.at t254 (by decide) e_got)
            refine call_Vi (wr := [(h_s, .inl (cI, 335, .inl f_s)), (h_names, .inl (cJ, 36, .inr (.inl f_names))), (h_reserved, .inl (cJ, 23, .inr (.inl f_reserved))), (h_planRead, .inl (cI, 24, .inl f_planRead))]) (As := [.int 0, .int 99]) (rest := []) hx hb hml hown hw (m_X10_takes l D cI cJ cB cP cM cZ h0 h_tape F246 x_size y247 x_limit y248 y249 y251 x_fault x_faultAt y252 x_got f_tape 0 99 _ n284 n285 i_x_size t255 t256 n286 i_x_limit t257 t258 t259 t263 n287 n288 t264 n289 (by omega)) wV_X10_242_X10_takes dX10_planLine_342 hK hP hD hS hA [4, 5] [0, 1, 2, 3] rfl rfl (by decide) (by decide) (by decide) 0 10 rfl rfl GG.fb hG.at hl.1 rfl (Nat.le_of_ble_eq_true rfl) ⟨(Nat.le_of_ble_eq_true rfl), (Nat.le_of_ble_eq_true rfl)⟩ ⟨(Nat.le_of_ble_eq_true rfl), (Nat.le_of_ble_eq_true rfl)⟩ (fun r290 u H locs hp hP hD hS => ?_)
            have zl0 : (0 : Int32).toInt = 0 := by decide
            have zl99 : (99 : Int32).toInt = 99 := by decide
            rcases hp with hp | hp
            · obtain ⟨F291, y292, y293, t294, t295, t296, t297, t298, rfl, rfl⟩ := hp
              have hP : va_P D vwCl [(h_s, .inl (cI, 335, .inl f_s)), (h_names, .inl (cJ, 36, .inr (.inl f_names))), (h_reserved, .inl (cJ, 23, .inr (.inl f_reserved))), (h_planRead, .inl (cI, 24, .inl f_planRead)), (h0, .inr (10, vL 67 F291)), (h_tape, .inl (cB, 940, .inl f_tape))] H := hP
              have hD : va_D A [(h_s, .inl (cI, 335, .inl f_s)), (h_names, .inl (cJ, 36, .inr (.inl f_names))), (h_reserved, .inl (cJ, 23, .inr (.inl f_reserved))), (h_planRead, .inl (cI, 24, .inl f_planRead)), (h0, .inr (10, vL 67 F291)), (h_tape, .inl (cB, 940, .inl f_tape))] := hD
              refine W.widen (k := 0) (n := 0) (Nat.le_of_ble_eq_true rfl) (Nat.le_of_ble_eq_true rfl) ?_
              refine lv_if_ne (tgt := 350) hx hb dX10_planLine_345 (by decide) (fun g => absurd (by decide) g) (fun _ => ?_)
              refine lv_iconst (v := 0) hx hb dX10_planLine_348 (by decide) ?_
              exact ret_i (v := 0) hx hb hr hlocks hS (hP.sub (ws' := [(h0, .inr (10, vL 67 F291)), (h_tape, .inl (cB, 940, .inl f_tape)), (h_s, .inl (cI, 335, .inl f_s)), (h_names, .inl (cJ, 36, .inr (.inl f_names))), (h_reserved, .inl (cJ, 23, .inr (.inl f_reserved))), (h_planRead, .inl (cI, 24, .inl f_planRead))]) [4, 5, 0, 1, 2, 3] rfl) (hD.sub (ws' := [(h0, .inr (10, vL 67 F291)), (h_tape, .inl (cB, 940, .inl f_tape)), (h_s, .inl (cI, 335, .inl f_s)), (h_names, .inl (cJ, 36, .inr (.inl f_names))), (h_reserved, .inl (cJ, 23, .inr (.inl f_reserved))), (h_planRead, .inl (cI, 24, .inl f_planRead))]) [4, 5, 0, 1, 2, 3] (by decide) rfl) dX10_planLine_349 rfl (Nat.le_of_ble_eq_true rfl) (Nat.le_of_ble_eq_true rfl) (Or.inl ⟨F291, y247, y248, y249, y250, y251, y292, y293, y252, x_got, y253, x_jumped, x_heights, f_planRead, (SAME.tr (SAME.tr SAME.rf t254 (by decide)) t294 (by decide)), (SAME.at t294 (by decide) t255), t256, (SAME.at t294 (by decide) t257), t258, (SAME.at t294 (by decide) t259), (SAME.at t294 (by decide) t261), (SAME.at t294 (by decide) t263), t295, (ir_wk t296 (by decide) (by decide)), t297, (SAME.at t294 (by decide) t264), (SAME.at t294 (by decide) n289), (SAME.at t294 (by decide) t265), (SAME.at t294 (by decide) (SAME.at t254 (by decide) e_jumped)), (SAME.at t294 (by decide) (SAME.at t254 (by decide) e_heights)), s_planRead_1, s_planRead_10, (by omega), rfl, rfl⟩)
            · refine hp.elim (fun F299 h9z0 => h9z0.elim (fun y300 h9z1 => h9z1.elim (fun y301 h9z2 => h9z2.elim (fun y302 h9z3 => h9z3.elim (fun y303 h9z4 => h9z4.elim (fun y304 h9z5 => h9z5.elim (fun y305 h9z6 => h9z6.elim (fun y306 h9z7 => h9z7.elim (fun t307 h9z8 => h9z8.elim (fun t308 h9z9 => h9z9.elim (fun t309 h9z10 => h9z10.elim (fun t310 h9z11 => h9z11.elim (fun t311 h9z12 => h9z12.elim (fun t312 h9z13 => h9z13.elim (fun t313 h9z14 => h9z14.elim (fun t314 h9z15 => h9z15.elim (fun t315 h9z16 => h9z16.elim (fun t316 h9z17 => h9z17.elim (fun t317 h9z18 => h9z18.elim (fun t318 h9z19 => h9z19.elim (fun t319 h9z20 => h9z20.elim (fun t320 h9z21 => h9z21.elim (fun t321 h9z22 => h9z22.elim (fun t322 h9z23 => h9z23.elim (fun t323 h9z24 => h9z24.elim (fun t324 h9z25 => h9z25.elim (fun t325 h9z26 => h9z26.elim (fun t326 h9z27 => h9z27.elim (fun t327 h9z28 => h9z28.elim (fun t328 h9z29 => h9z29.elim (fun heq930 h9z30 => ?_)))))))))))))))))))))))))))))))
              clear h9z0 h9z1 h9z2 h9z3 h9z4 h9z5 h9z6 h9z7 h9z8 h9z9 h9z10 h9z11 h9z12 h9z13 h9z14 h9z15 h9z16 h9z17 h9z18 h9z19 h9z20 h9z21 h9z22 h9z23 h9z24 h9z25 h9z26 h9z27 h9z28 h9z29
              subst heq930
              subst h9z30
              clear t267 t272
              have hP : va_P D vwCl [(h_s, .inl (cI, 335, .inl f_s)), (h_names, .inl (cJ, 36, .inr (.inl f_names))), (h_reserved, .inl (cJ, 23, .inr (.inl f_reserved))), (h_planRead, .inl (cI, 24, .inl f_planRead)), (h0, .inr (10, vL 67 F299)), (h_tape, .inl (cB, 940, .inl f_tape))] H := hP
              have hD : va_D A [(h_s, .inl (cI, 335, .inl f_s)), (h_names, .inl (cJ, 36, .inr (.inl f_names))), (h_reserved, .inl (cJ, 23, .inr (.inl f_reserved))), (h_planRead, .inl (cI, 24, .inl f_planRead)), (h0, .inr (10, vL 67 F299)), (h_tape, .inl (cB, 940, .inl f_tape))] := hD
              refine W.widen (k := 0) (n := 0) (Nat.le_of_ble_eq_true rfl) (Nat.le_of_ble_eq_true rfl) ?_
              have k330 : 2 ≤ y248.toInt ∧ y248.toInt ≤ 2 := ⟨Int.le_trans (Int.le_refl _) (Int.le_of_eq t319.symm), Int.le_trans (Int.le_of_eq t319) (Int.le_refl _)⟩
              have k331 : 0 ≤ y251.toInt ∧ y251.toInt ≤ 2147483647 := ⟨Int.le_trans (Int.le_refl _) t320, (ir_any _).2⟩
              have k332 : 0 ≤ y251.toInt ∧ y251.toInt ≤ 99 := ⟨k331.1, Int.le_trans t321 (Int.le_refl _)⟩
              refine lv_if_ne (tgt := 350) hx hb dX10_planLine_345 (by decide) (fun _ => ?_) (fun g => absurd g (by decide))
              refine lv_aload_n hx hb dX10_planLine_350 rfl (lv_at hl 0 rfl) ?_
              have n333 : F246 22 = .ref h_planRead := (SAME.at t254 (by decide) e_planRead)
              have n334 : F299 22 = .ref h_planRead := (SAME.at t307 (by decide) n333)
              refine get_f (D := D) (ci := 10) (v := .ref h_planRead) (C := RX10) (T := TX10) (N := 67) hx hb hw inAX10 hown hK hP 4 rfl rfl 22 (by decide) (hw _ q_1283) (fun _ h9 => h9) n334 dX10_planLine_351 ?_
              refine lv_bipush (v := 9) hx hb dX10_planLine_354 (by decide) ?_
              refine lv_aload_n hx hb dX10_planLine_356 rfl (lv_at hl 0 rfl) ?_
              refine get_f (D := D) (ci := 10) (v := .int y306) (C := RX10) (T := TX10) (N := 67) hx hb hw inAX10 hown hK hP 4 rfl rfl 19 (by decide) (hw _ q_1280) (fun _ h9 => h9) t318 dX10_planLine_357 ?_
              obtain ⟨g335, eg335⟩ : ∃ z : Nat → Int32, upd f_planRead 9 y306 = z := ⟨_, rfl⟩
              have r336 : SG 1 4 0 11 g335 := by rw [← eg335]; exact s_planRead_1.upN (Or.inr (Or.inl (by decide)))
              have r337 : SG 10 10 0 5 g335 := by rw [← eg335]; exact s_planRead_10.upN (Or.inl (by decide))
              refine iast_n hx hb hK hP hD hS 3 0 rfl rfl 9 rfl (Nat.le_of_ble_eq_true rfl) (Nat.le_of_ble_eq_true rfl) eg335 dX10_planLine_360 (fun H locs hP hD hS => ?_)
              have hP : va_P D vwCl [(h_s, .inl (cI, 335, .inl f_s)), (h_names, .inl (cJ, 36, .inr (.inl f_names))), (h_reserved, .inl (cJ, 23, .inr (.inl f_reserved))), (h_planRead, .inl (cI, 24, .inl g335)), (h0, .inr (10, vL 67 F299)), (h_tape, .inl (cB, 940, .inl f_tape))] H := hP
              have hD : va_D A [(h_s, .inl (cI, 335, .inl f_s)), (h_names, .inl (cJ, 36, .inr (.inl f_names))), (h_reserved, .inl (cJ, 23, .inr (.inl f_reserved))), (h_planRead, .inl (cI, 24, .inl g335)), (h0, .inr (10, vL 67 F299)), (h_tape, .inl (cB, 940, .inl f_tape))] := hD
              refine lv_iconst (v := 1) hx hb dX10_planLine_361 (by decide) ?_
              exact ret_i (v := 1) hx hb hr hlocks hS (hP.sub (ws' := [(h0, .inr (10, vL 67 F299)), (h_tape, .inl (cB, 940, .inl f_tape)), (h_s, .inl (cI, 335, .inl f_s)), (h_names, .inl (cJ, 36, .inr (.inl f_names))), (h_reserved, .inl (cJ, 23, .inr (.inl f_reserved))), (h_planRead, .inl (cI, 24, .inl g335))]) [4, 5, 0, 1, 2, 3] rfl) (hD.sub (ws' := [(h0, .inr (10, vL 67 F299)), (h_tape, .inl (cB, 940, .inl f_tape)), (h_s, .inl (cI, 335, .inl f_s)), (h_names, .inl (cJ, 36, .inr (.inl f_names))), (h_reserved, .inl (cJ, 23, .inr (.inl f_reserved))), (h_planRead, .inl (cI, 24, .inl g335))]) [4, 5, 0, 1, 2, 3] (by decide) rfl) dX10_planLine_362 rfl (Nat.le_of_ble_eq_true rfl) (Nat.le_of_ble_eq_true rfl) (Or.inr ⟨F299, y300, y301, y302, y303, y304, x_fault, x_faultAt, y305, y306, y253, x_jumped, x_heights, g335, (SAME.tr (SAME.tr SAME.rf t254 (by decide)) t307 (by decide)), t308, t309, t310, t311, t312, t313, t314, t315, t316, (SAME.at t307 (by decide) n287), (SAME.at t307 (by decide) n288), t317, t318, (SAME.at t307 (by decide) t265), (SAME.at t307 (by decide) (SAME.at t254 (by decide) e_jumped)), (SAME.at t307 (by decide) (SAME.at t254 (by decide) e_heights)), r336, r337, (by have zl1 : (1 : Int32).toInt = 1 := (by decide); omega), (by have zl1 : (1 : Int32).toInt = 1 := (by decide); omega), t327, (by omega), rfl, rfl⟩)
          · obtain ⟨F273, y274, y275, t276, t277, t278, t279, t280, t281, t282, rfl, rfl⟩ := hp
            have hP : va_P D vwCl [(h_s, .inl (cI, 335, .inl f_s)), (h_names, .inl (cJ, 36, .inr (.inl f_names))), (h_reserved, .inl (cJ, 23, .inr (.inl f_reserved))), (h_planRead, .inl (cI, 24, .inl f_planRead)), (h0, .inr (10, vL 67 F273)), (h_tape, .inl (cB, 940, .inl f_tape))] H := hP
            have hD : va_D A [(h_s, .inl (cI, 335, .inl f_s)), (h_names, .inl (cJ, 36, .inr (.inl f_names))), (h_reserved, .inl (cJ, 23, .inr (.inl f_reserved))), (h_planRead, .inl (cI, 24, .inl f_planRead)), (h0, .inr (10, vL 67 F273)), (h_tape, .inl (cB, 940, .inl f_tape))] := hD
            refine W.widen (k := 0) (n := 0) (Nat.le_of_ble_eq_true rfl) (Nat.le_of_ble_eq_true rfl) ?_
            refine lv_if_eq (tgt := 348) hx hb dX10_planLine_335 (by decide) (fun _ => ?_) (fun g => absurd (by decide) g)
            refine lv_iconst (v := 0) hx hb dX10_planLine_348 (by decide) ?_
            exact ret_i (v := 0) hx hb hr hlocks hS (hP.sub (ws' := [(h0, .inr (10, vL 67 F273)), (h_tape, .inl (cB, 940, .inl f_tape)), (h_s, .inl (cI, 335, .inl f_s)), (h_names, .inl (cJ, 36, .inr (.inl f_names))), (h_reserved, .inl (cJ, 23, .inr (.inl f_reserved))), (h_planRead, .inl (cI, 24, .inl f_planRead))]) [4, 5, 0, 1, 2, 3] rfl) (hD.sub (ws' := [(h0, .inr (10, vL 67 F273)), (h_tape, .inl (cB, 940, .inl f_tape)), (h_s, .inl (cI, 335, .inl f_s)), (h_names, .inl (cJ, 36, .inr (.inl f_names))), (h_reserved, .inl (cJ, 23, .inr (.inl f_reserved))), (h_planRead, .inl (cI, 24, .inl f_planRead))]) [4, 5, 0, 1, 2, 3] (by decide) rfl) dX10_planLine_349 rfl (Nat.le_of_ble_eq_true rfl) (Nat.le_of_ble_eq_true rfl) (Or.inl ⟨F273, x_p, x_token, x_at, x_span, x_number, y274, y275, x_word, x_got, x_onces, x_jumped, x_heights, f_planRead, (SAME.tr SAME.rf t276 (by decide)), (SAME.at t276 (by decide) e_p), i_x_p, (SAME.at t276 (by decide) e_token), i_x_token, (SAME.at t276 (by decide) e_at), (SAME.at t276 (by decide) e_span), (SAME.at t276 (by decide) e_number), t277, (ir_wk t278 (by decide) (by decide)), t279, (SAME.at t276 (by decide) e_word), (SAME.at t276 (by decide) e_got), (SAME.at t276 (by decide) e_onces), (SAME.at t276 (by decide) e_jumped), (SAME.at t276 (by decide) e_heights), s_planRead_1, s_planRead_10, (by omega), rfl, rfl⟩)
      · have dc17 : r13.toInt ≠ 0 := ne_i (a := r13.toInt) (b := 0) rfl rfl c17
        have k338 : 1 ≤ r13.toInt ∧ r13.toInt ≤ 1 := ⟨ne_lo dc17 t14.1 ⟨Int.le_refl _, Int.le_refl _⟩ (by decide), t14.2⟩
        refine lv_aload_n hx hb dX10_planLine_211 rfl (lv_at hl 0 rfl) ?_
        refine call_Vv (wr := [(h_s, .inl (cI, 335, .inl f_s)), (h_names, .inl (cJ, 36, .inr (.inl f_names))), (h_reserved, .inl (cJ, 23, .inr (.inl f_reserved))), (h_planRead, .inl (cI, 24, .inl f_planRead))]) (As := []) (rest := []) hx hb hml hown hw (m_X10_next l D cI cJ cB cP cM cZ h0 h_tape Fh x_size x_p x_limit x_token x_at x_number x_word f_tape _ e_tape e_size i_x_size e_p i_x_p e_limit i_x_limit e_token i_x_token e_at e_number e_word (by omega)) wV_X10_208_X10_next dX10_planLine_212 hK hP hD hS hA [5, 0] [1, 2, 3, 4] rfl rfl (by decide) (by decide) (by decide) 0 10 rfl rfl GG.fb hG.at hl.1 rfl (Nat.le_of_ble_eq_true rfl) ⟨(Nat.le_of_ble_eq_true rfl), (Nat.le_of_ble_eq_true rfl)⟩ ⟨(Nat.le_of_ble_eq_true rfl), (Nat.le_of_ble_eq_true rfl)⟩ (fun u H locs hp hP hD hS => ?_)
        obtain ⟨F340, y341, y342, y343, y344, y345, y346, t347, t348, t349, t350, t351, t352, t353, t354, t355, t356, t357, t358, t359, t360, t361, t362, rfl⟩ := hp
        have hP : va_P D vwCl [(h_s, .inl (cI, 335, .inl f_s)), (h_names, .inl (cJ, 36, .inr (.inl f_names))), (h_reserved, .inl (cJ, 23, .inr (.inl f_reserved))), (h_planRead, .inl (cI, 24, .inl f_planRead)), (h0, .inr (10, vL 67 F340)), (h_tape, .inl (cB, 940, .inl f_tape))] H := hP
        have hD : va_D A [(h_s, .inl (cI, 335, .inl f_s)), (h_names, .inl (cJ, 36, .inr (.inl f_names))), (h_reserved, .inl (cJ, 23, .inr (.inl f_reserved))), (h_planRead, .inl (cI, 24, .inl f_planRead)), (h0, .inr (10, vL 67 F340)), (h_tape, .inl (cB, 940, .inl f_tape))] := hD
        refine W.widen (k := 0) (n := 0) (Nat.le_of_ble_eq_true rfl) (Nat.le_of_ble_eq_true rfl) ?_
        refine lv_aload_n hx hb dX10_planLine_215 rfl (lv_at hl 0 rfl) ?_
        refine get_f (D := D) (ci := 10) (v := .int y342) (C := RX10) (T := TX10) (N := 67) hx hb hw inAX10 hown hK hP 4 rfl rfl 11 (by decide) (hw _ q_1272) (fun _ h9 => h9) t350 dX10_planLine_216 ?_
        refine lv_iconst (v := 2) hx hb dX10_planLine_219 (by decide) ?_
        refine lv_icmp_eq (tgt := 229) hx hb dX10_planLine_220 (by decide) (fun c364 => ?_) (fun c364 => ?_)
        · have dc364 : y342.toInt = 2 := eq_i (a := y342.toInt) (b := 2) rfl rfl c364
          have k365 : 2 ≤ y342.toInt ∧ y342.toInt ≤ 2 := ⟨Int.le_trans (Int.le_refl _) (Int.le_of_eq dc364.symm), Int.le_trans (Int.le_of_eq dc364) (Int.le_refl _)⟩
          have k366 : 0 ≤ y345.toInt ∧ y345.toInt ≤ 999 := ⟨by omega, by omega⟩
          refine lv_aload_n hx hb dX10_planLine_229 rfl (lv_at hl 0 rfl) ?_
          refine get_f (D := D) (ci := 10) (v := .int y345) (C := RX10) (T := TX10) (N := 67) hx hb hw inAX10 hown hK hP 4 rfl rfl 14 (by decide) (hw _ q_1275) (fun _ h9 => h9) t356 dX10_planLine_230 ?_
          refine lv_aload_n hx hb dX10_planLine_233 rfl (lv_at hl 0 rfl) ?_
          have n367 : F340 6 = .ref h_s := (SAME.at t347 (by decide) e_s)
          refine get_f (D := D) (ci := 10) (v := .ref h_s) (C := RX10) (T := TX10) (N := 67) hx hb hw inAX10 hown hK hP 4 rfl rfl 6 (by decide) (hw _ q_1267) (fun _ h9 => h9) n367 dX10_planLine_234 ?_
          refine lv_bipush (v := 6) hx hb dX10_planLine_237 (by decide) ?_
          refine iald_n hx hb hK hP 0 0 rfl rfl 6 rfl (Nat.le_of_ble_eq_true rfl) (Nat.le_of_ble_eq_true rfl) rfl dX10_planLine_239 ?_
          refine lv_topi (fun v368 ev368 => ?_)
          have k369 : 0 ≤ v368.toInt ∧ v368.toInt ≤ 12 := by rw [ev368]; exact s_s_6.atN 6 (by decide) (by decide)
          refine lv_icmp_lt (tgt := 249) hx hb dX10_planLine_240 (by decide) (fun c370 => ?_) (fun c370 => ?_)
          · have dc370 : y345.toInt < v368.toInt := lt_i (a := y345.toInt) (b := v368.toInt) rfl rfl c370
            have k371 : 0 ≤ y345.toInt ∧ y345.toInt ≤ 11 := ⟨k366.1, up_lt dc370 k369.2 (by decide)⟩
            have k372 : 1 ≤ v368.toInt ∧ v368.toInt ≤ 12 := ⟨lo_lt dc370 k366.1 (by decide), k369.2⟩
            refine lv_aload_n hx hb dX10_planLine_249 rfl (lv_at hl 0 rfl) ?_
            have n373 : F340 24 = .int x_heights := (SAME.at t347 (by decide) e_heights)
            refine get_f (D := D) (ci := 10) (v := .int x_heights) (C := RX10) (T := TX10) (N := 67) hx hb hw inAX10 hown hK hP 4 rfl rfl 24 (by decide) (hw _ q_1285) (fun _ h9 => h9) n373 dX10_planLine_250 ?_
            refine lv_aload_n hx hb dX10_planLine_253 rfl (lv_at hl 0 rfl) ?_
            refine get_f (D := D) (ci := 10) (v := .int y345) (C := RX10) (T := TX10) (N := 67) hx hb hw inAX10 hown hK hP 4 rfl rfl 14 (by decide) (hw _ q_1275) (fun _ h9 => h9) t356 dX10_planLine_254 ?_
            refine call_Si (wr := [(h_s, .inl (cI, 335, .inl f_s)), (h_names, .inl (cJ, 36, .inr (.inl f_names))), (h_reserved, .inl (cJ, 23, .inr (.inl f_reserved))), (h_planRead, .inl (cI, 24, .inl f_planRead)), (h0, .inr (10, vL 67 F340)), (h_tape, .inl (cB, 940, .inl f_tape))]) (As := [.int x_heights, .int y345]) (rest := []) hx hb hml hown hw (m_X10_bitOf l D cI cJ cB cP cM cZ x_heights y345 _ ) wS_X10_232_X10_bitOf dX10_planLine_257 hP hD hS hA [] [0, 1, 2, 3, 4, 5] rfl rfl (by decide) (by decide) (by decide) GG.fb hG.at hl.1 rfl (Nat.le_of_ble_eq_true rfl) ⟨(Nat.le_of_ble_eq_true rfl), (Nat.le_of_ble_eq_true rfl)⟩ ⟨(Nat.le_of_ble_eq_true rfl), (Nat.le_of_ble_eq_true rfl)⟩ (fun r374 u H locs hp hP hD hS => ?_)
            rcases hp with ⟨t375, rfl, rfl⟩ | ⟨t376, rfl, rfl⟩
            · have hP : va_P D vwCl [(h_s, .inl (cI, 335, .inl f_s)), (h_names, .inl (cJ, 36, .inr (.inl f_names))), (h_reserved, .inl (cJ, 23, .inr (.inl f_reserved))), (h_planRead, .inl (cI, 24, .inl f_planRead)), (h0, .inr (10, vL 67 F340)), (h_tape, .inl (cB, 940, .inl f_tape))] H := hP
              have hD : va_D A [(h_s, .inl (cI, 335, .inl f_s)), (h_names, .inl (cJ, 36, .inr (.inl f_names))), (h_reserved, .inl (cJ, 23, .inr (.inl f_reserved))), (h_planRead, .inl (cI, 24, .inl f_planRead)), (h0, .inr (10, vL 67 F340)), (h_tape, .inl (cB, 940, .inl f_tape))] := hD
              refine W.widen (k := 0) (n := 0) (Nat.le_of_ble_eq_true rfl) (Nat.le_of_ble_eq_true rfl) ?_
              refine lv_if_eq (tgt := 269) hx hb dX10_planLine_260 (by decide) (fun _ => ?_) (fun g => absurd (by decide) g)
              refine lv_aload_n hx hb dX10_planLine_269 rfl (lv_at hl 0 rfl) ?_
              refine lv_dup hx hb dX10_planLine_270 rfl ?_
              refine get_f (D := D) (ci := 10) (v := .int x_heights) (C := RX10) (T := TX10) (N := 67) hx hb hw inAX10 hown hK hP 4 rfl rfl 24 (by decide) (hw _ q_1285) (fun _ h9 => h9) n373 dX10_planLine_271 ?_
              refine lv_iconst (v := 1) hx hb dX10_planLine_274 (by decide) ?_
              refine lv_aload_n hx hb dX10_planLine_275 rfl (lv_at hl 0 rfl) ?_
              refine get_f (D := D) (ci := 10) (v := .int y345) (C := RX10) (T := TX10) (N := 67) hx hb hw inAX10 hown hK hP 4 rfl rfl 14 (by decide) (hw _ q_1275) (fun _ h9 => h9) t356 dX10_planLine_276 ?_
              refine lv_ishl hx hb dX10_planLine_279 ?_
              refine lv_topi (fun v378 ev378 => ?_)
              refine lv_ior hx hb dX10_planLine_280 ?_
              refine lv_topi (fun v379 ev379 => ?_)
              refine put_f (D := D) (ci := 10) (v := .int v379) (ty := .int) (C := RX10) (T := TX10) (N := 67) hx hb hw inAX10 tyX10 tyX10_ok nmX10 hown hK hP hD hS 4 rfl rfl 24 (by decide) (hw _ q_1285) (fun _ h9 => h9) rfl (by decide +kernel) rfl rfl dX10_planLine_281 (fun H locs F380 eF380 hP hD hS => ?_)
              have hP : va_P D vwCl [(h_s, .inl (cI, 335, .inl f_s)), (h_names, .inl (cJ, 36, .inr (.inl f_names))), (h_reserved, .inl (cJ, 23, .inr (.inl f_reserved))), (h_planRead, .inl (cI, 24, .inl f_planRead)), (h0, .inr (10, vL 67 F380)), (h_tape, .inl (cB, 940, .inl f_tape))] H := hP
              have hD : va_D A [(h_s, .inl (cI, 335, .inl f_s)), (h_names, .inl (cJ, 36, .inr (.inl f_names))), (h_reserved, .inl (cJ, 23, .inr (.inl f_reserved))), (h_planRead, .inl (cI, 24, .inl f_planRead)), (h0, .inr (10, vL 67 F380)), (h_tape, .inl (cB, 940, .inl f_tape))] := hD
              refine lv_aload_n hx hb dX10_planLine_284 rfl (lv_at hl 0 rfl) ?_
              have n381 : F380 14 = .int y345 := (get_ne eF380 (by decide) t356)
              refine get_f (D := D) (ci := 10) (v := .int y345) (C := RX10) (T := TX10) (N := 67) hx hb hw inAX10 hown hK hP 4 rfl rfl 14 (by decide) (hw _ q_1275) (fun _ h9 => h9) n381 dX10_planLine_285 ?_
              refine lv_istore_n (lv' := [(1, .int y345), (0, .ref h0)]) hx hb dX10_planLine_288 rfl hl (by decide) rfl (fun ls hl => ?_)
              refine lv_aload_n hx hb dX10_planLine_289 rfl (lv_at hl 1 rfl) ?_
              have n382 : F340 1 = .ref h_tape := (SAME.at t347 (by decide) e_tape)
              have n383 : F380 1 = .ref h_tape := (get_ne eF380 (by decide) n382)
              have n384 : F340 3 = .int x_size := (SAME.at t347 (by decide) e_size)
              have n385 : F380 3 = .int x_size := (get_ne eF380 (by decide) n384)
              have n386 : F380 4 = .int y341 := (get_ne eF380 (by decide) t348)
              have n387 : F340 5 = .int x_limit := (SAME.at t347 (by decide) e_limit)
              have n388 : F380 5 = .int x_limit := (get_ne eF380 (by decide) n387)
              have n389 : F380 11 = .int y342 := (get_ne eF380 (by decide) t350)
              have n390 : F380 12 = .int y343 := (get_ne eF380 (by decide) t352)
              have n391 : F380 18 = .long y346 := (get_ne eF380 (by decide) t357)
              refine call_Vv (wr := [(h_s, .inl (cI, 335, .inl f_s)), (h_names, .inl (cJ, 36, .inr (.inl f_names))), (h_reserved, .inl (cJ, 23, .inr (.inl f_reserved))), (h_planRead, .inl (cI, 24, .inl f_planRead))]) (As := []) (rest := []) hx hb hml hown hw (m_X10_next l D cI cJ cB cP cM cZ h0 h_tape F380 x_size y341 x_limit y342 y343 y345 y346 f_tape _ n383 n385 i_x_size n386 t349 n388 i_x_limit n389 (ir_wk k365 (by decide) (by decide)) n390 n381 n391 (by omega)) wV_X10_208_X10_next dX10_planLine_290 hK hP hD hS hA [4, 5] [0, 1, 2, 3] rfl rfl (by decide) (by decide) (by decide) 0 10 rfl rfl GG.fb hG.at hl.1 rfl (Nat.le_of_ble_eq_true rfl) ⟨(Nat.le_of_ble_eq_true rfl), (Nat.le_of_ble_eq_true rfl)⟩ ⟨(Nat.le_of_ble_eq_true rfl), (Nat.le_of_ble_eq_true rfl)⟩ (fun u H locs hp hP hD hS => ?_)
              obtain ⟨F393, y394, y395, y396, y397, y398, y399, t400, t401, t402, t403, t404, t405, t406, t407, t408, t409, t410, t411, t412, t413, t414, t415, rfl⟩ := hp
              clear t359 t362
              have hP : va_P D vwCl [(h_s, .inl (cI, 335, .inl f_s)), (h_names, .inl (cJ, 36, .inr (.inl f_names))), (h_reserved, .inl (cJ, 23, .inr (.inl f_reserved))), (h_planRead, .inl (cI, 24, .inl f_planRead)), (h0, .inr (10, vL 67 F393)), (h_tape, .inl (cB, 940, .inl f_tape))] H := hP
              have hD : va_D A [(h_s, .inl (cI, 335, .inl f_s)), (h_names, .inl (cJ, 36, .inr (.inl f_names))), (h_reserved, .inl (cJ, 23, .inr (.inl f_reserved))), (h_planRead, .inl (cI, 24, .inl f_planRead)), (h0, .inr (10, vL 67 F393)), (h_tape, .inl (cB, 940, .inl f_tape))] := hD
              refine W.widen (k := 0) (n := 0) (Nat.le_of_ble_eq_true rfl) (Nat.le_of_ble_eq_true rfl) ?_
              refine lv_aload_n hx hb dX10_planLine_293 rfl (lv_at hl 1 rfl) ?_
              refine lv_iconst (v := 0) hx hb dX10_planLine_294 (by decide) ?_
              refine lv_bipush (v := 9) hx hb dX10_planLine_295 (by decide) ?_
              have n417 : F393 1 = .ref h_tape := (SAME.at t400 (by decide) n383)
              have n418 : F393 3 = .int x_size := (SAME.at t400 (by decide) n385)
              have n419 : F393 5 = .int x_limit := (SAME.at t400 (by decide) n388)
              have n420 : F340 15 = .int x_fault := (SAME.at t347 (by decide) e_fault)
              have n421 : F380 15 = .int x_fault := (get_ne eF380 (by decide) n420)
              have n422 : F393 15 = .int x_fault := (SAME.at t400 (by decide) n421)
              have n423 : F340 16 = .int x_faultAt := (SAME.at t347 (by decide) e_faultAt)
              have n424 : F380 16 = .int x_faultAt := (get_ne eF380 (by decide) n423)
              have n425 : F393 16 = .int x_faultAt := (SAME.at t400 (by decide) n424)
              have n426 : F340 19 = .int x_got := (SAME.at t347 (by decide) e_got)
              have n427 : F380 19 = .int x_got := (get_ne eF380 (by decide) n426)
              have n428 : F393 19 = .int x_got := (SAME.at t400 (by decide) n427)
              refine call_Vi (wr := [(h_s, .inl (cI, 335, .inl f_s)), (h_names, .inl (cJ, 36, .inr (.inl f_names))), (h_reserved, .inl (cJ, 23, .inr (.inl f_reserved))), (h_planRead, .inl (cI, 24, .inl f_planRead))]) (As := [.int 0, .int 9]) (rest := []) hx hb hml hown hw (m_X10_takes l D cI cJ cB cP cM cZ h0 h_tape F393 x_size y394 x_limit y395 y396 y398 x_fault x_faultAt y399 x_got f_tape 0 9 _ n417 n418 i_x_size t401 t402 n419 i_x_limit t403 t404 t405 t409 n422 n425 t410 n428 (by omega)) wV_X10_242_X10_takes dX10_planLine_297 hK hP hD hS hA [4, 5] [0, 1, 2, 3] rfl rfl (by decide) (by decide) (by decide) 0 10 rfl rfl GG.fb hG.at hl.1 rfl (Nat.le_of_ble_eq_true rfl) ⟨(Nat.le_of_ble_eq_true rfl), (Nat.le_of_ble_eq_true rfl)⟩ ⟨(Nat.le_of_ble_eq_true rfl), (Nat.le_of_ble_eq_true rfl)⟩ (fun r429 u H locs hp hP hD hS => ?_)
              have zl0 : (0 : Int32).toInt = 0 := by decide
              have zl9 : (9 : Int32).toInt = 9 := by decide
              rcases hp with hp | hp
              · obtain ⟨F430, y431, y432, t433, t434, t435, t436, t437, rfl, rfl⟩ := hp
                have hP : va_P D vwCl [(h_s, .inl (cI, 335, .inl f_s)), (h_names, .inl (cJ, 36, .inr (.inl f_names))), (h_reserved, .inl (cJ, 23, .inr (.inl f_reserved))), (h_planRead, .inl (cI, 24, .inl f_planRead)), (h0, .inr (10, vL 67 F430)), (h_tape, .inl (cB, 940, .inl f_tape))] H := hP
                have hD : va_D A [(h_s, .inl (cI, 335, .inl f_s)), (h_names, .inl (cJ, 36, .inr (.inl f_names))), (h_reserved, .inl (cJ, 23, .inr (.inl f_reserved))), (h_planRead, .inl (cI, 24, .inl f_planRead)), (h0, .inr (10, vL 67 F430)), (h_tape, .inl (cB, 940, .inl f_tape))] := hD
                refine W.widen (k := 0) (n := 0) (Nat.le_of_ble_eq_true rfl) (Nat.le_of_ble_eq_true rfl) ?_
                refine lv_if_ne (tgt := 305) hx hb dX10_planLine_300 (by decide) (fun g => absurd (by decide) g) (fun _ => ?_)
                refine lv_iconst (v := 0) hx hb dX10_planLine_303 (by decide) ?_
                exact ret_i (v := 0) hx hb hr hlocks hS (hP.sub (ws' := [(h0, .inr (10, vL 67 F430)), (h_tape, .inl (cB, 940, .inl f_tape)), (h_s, .inl (cI, 335, .inl f_s)), (h_names, .inl (cJ, 36, .inr (.inl f_names))), (h_reserved, .inl (cJ, 23, .inr (.inl f_reserved))), (h_planRead, .inl (cI, 24, .inl f_planRead))]) [4, 5, 0, 1, 2, 3] rfl) (hD.sub (ws' := [(h0, .inr (10, vL 67 F430)), (h_tape, .inl (cB, 940, .inl f_tape)), (h_s, .inl (cI, 335, .inl f_s)), (h_names, .inl (cJ, 36, .inr (.inl f_names))), (h_reserved, .inl (cJ, 23, .inr (.inl f_reserved))), (h_planRead, .inl (cI, 24, .inl f_planRead))]) [4, 5, 0, 1, 2, 3] (by decide) rfl) dX10_planLine_304 rfl (Nat.le_of_ble_eq_true rfl) (Nat.le_of_ble_eq_true rfl) (Or.inl ⟨F430, y394, y395, y396, y397, y398, y431, y432, y399, x_got, x_onces, x_jumped, v379, f_planRead, (SAME.tr (SAME.tr (SAME.up eF380 (SAME.tr SAME.rf t347 (by decide)) (by decide)) t400 (by decide)) t433 (by decide)), (SAME.at t433 (by decide) t401), t402, (SAME.at t433 (by decide) t403), t404, (SAME.at t433 (by decide) t405), (SAME.at t433 (by decide) t407), (SAME.at t433 (by decide) t409), t434, (ir_wk t435 (by decide) (by decide)), t436, (SAME.at t433 (by decide) t410), (SAME.at t433 (by decide) n428), (SAME.at t433 (by decide) (SAME.at t400 (by decide) (get_ne eF380 (by decide) (SAME.at t347 (by decide) e_onces)))), (SAME.at t433 (by decide) (SAME.at t400 (by decide) (get_ne eF380 (by decide) (SAME.at t347 (by decide) e_jumped)))), (SAME.at t433 (by decide) (SAME.at t400 (by decide) (get_eq eF380))), s_planRead_1, s_planRead_10, (by omega), rfl, rfl⟩)
              · refine hp.elim (fun F438 h9z0 => h9z0.elim (fun y439 h9z1 => h9z1.elim (fun y440 h9z2 => h9z2.elim (fun y441 h9z3 => h9z3.elim (fun y442 h9z4 => h9z4.elim (fun y443 h9z5 => h9z5.elim (fun y444 h9z6 => h9z6.elim (fun y445 h9z7 => h9z7.elim (fun t446 h9z8 => h9z8.elim (fun t447 h9z9 => h9z9.elim (fun t448 h9z10 => h9z10.elim (fun t449 h9z11 => h9z11.elim (fun t450 h9z12 => h9z12.elim (fun t451 h9z13 => h9z13.elim (fun t452 h9z14 => h9z14.elim (fun t453 h9z15 => h9z15.elim (fun t454 h9z16 => h9z16.elim (fun t455 h9z17 => h9z17.elim (fun t456 h9z18 => h9z18.elim (fun t457 h9z19 => h9z19.elim (fun t458 h9z20 => h9z20.elim (fun t459 h9z21 => h9z21.elim (fun t460 h9z22 => h9z22.elim (fun t461 h9z23 => h9z23.elim (fun t462 h9z24 => h9z24.elim (fun t463 h9z25 => h9z25.elim (fun t464 h9z26 => h9z26.elim (fun t465 h9z27 => h9z27.elim (fun t466 h9z28 => h9z28.elim (fun t467 h9z29 => h9z29.elim (fun heq930 h9z30 => ?_)))))))))))))))))))))))))))))))
                clear h9z0 h9z1 h9z2 h9z3 h9z4 h9z5 h9z6 h9z7 h9z8 h9z9 h9z10 h9z11 h9z12 h9z13 h9z14 h9z15 h9z16 h9z17 h9z18 h9z19 h9z20 h9z21 h9z22 h9z23 h9z24 h9z25 h9z26 h9z27 h9z28 h9z29
                subst heq930
                subst h9z30
                clear t412 t415
                have hP : va_P D vwCl [(h_s, .inl (cI, 335, .inl f_s)), (h_names, .inl (cJ, 36, .inr (.inl f_names))), (h_reserved, .inl (cJ, 23, .inr (.inl f_reserved))), (h_planRead, .inl (cI, 24, .inl f_planRead)), (h0, .inr (10, vL 67 F438)), (h_tape, .inl (cB, 940, .inl f_tape))] H := hP
                have hD : va_D A [(h_s, .inl (cI, 335, .inl f_s)), (h_names, .inl (cJ, 36, .inr (.inl f_names))), (h_reserved, .inl (cJ, 23, .inr (.inl f_reserved))), (h_planRead, .inl (cI, 24, .inl f_planRead)), (h0, .inr (10, vL 67 F438)), (h_tape, .inl (cB, 940, .inl f_tape))] := hD
                refine W.widen (k := 0) (n := 0) (Nat.le_of_ble_eq_true rfl) (Nat.le_of_ble_eq_true rfl) ?_
                have k469 : 2 ≤ y395.toInt ∧ y395.toInt ≤ 2 := ⟨Int.le_trans (Int.le_refl _) (Int.le_of_eq t458.symm), Int.le_trans (Int.le_of_eq t458) (Int.le_refl _)⟩
                have k470 : 0 ≤ y398.toInt ∧ y398.toInt ≤ 2147483647 := ⟨Int.le_trans (Int.le_refl _) t459, (ir_any _).2⟩
                have k471 : 0 ≤ y398.toInt ∧ y398.toInt ≤ 9 := ⟨k470.1, Int.le_trans t460 (Int.le_refl _)⟩
                refine lv_if_ne (tgt := 305) hx hb dX10_planLine_300 (by decide) (fun _ => ?_) (fun g => absurd g (by decide))
                refine lv_aload_n hx hb dX10_planLine_305 rfl (lv_at hl 1 rfl) ?_
                have n472 : F340 22 = .ref h_planRead := (SAME.at t347 (by decide) e_planRead)
                have n473 : F380 22 = .ref h_planRead := (get_ne eF380 (by decide) n472)
                have n474 : F393 22 = .ref h_planRead := (SAME.at t400 (by decide) n473)
                have n475 : F438 22 = .ref h_planRead := (SAME.at t446 (by decide) n474)
                refine get_f (D := D) (ci := 10) (v := .ref h_planRead) (C := RX10) (T := TX10) (N := 67) hx hb hw inAX10 hown hK hP 4 rfl rfl 22 (by decide) (hw _ q_1283) (fun _ h9 => h9) n475 dX10_planLine_306 ?_
                refine lv_bipush (v := 12) hx hb dX10_planLine_309 (by decide) ?_
                refine lv_iload_n hx hb dX10_planLine_311 rfl (lv_at hl 0 rfl) ?_
                refine lv_iadd hx hb dX10_planLine_312 ?_
                refine lv_topi (fun v476 ev476 => ?_)
                have bv476 : v476.toInt = 12 + y345.toInt := by rw [ev476]; exact add_k rfl rfl ⟨Int.le_refl _, Int.le_refl _⟩ k371 (by decide)
                have k477 : 12 ≤ v476.toInt ∧ v476.toInt ≤ 23 := add_r bv476 ⟨Int.le_refl _, Int.le_refl _⟩ k371 (by decide)
                refine lv_aload_n hx hb dX10_planLine_313 rfl (lv_at hl 1 rfl) ?_
                refine get_f (D := D) (ci := 10) (v := .int y445) (C := RX10) (T := TX10) (N := 67) hx hb hw inAX10 hown hK hP 4 rfl rfl 19 (by decide) (hw _ q_1280) (fun _ h9 => h9) t457 dX10_planLine_314 ?_
                obtain ⟨g478, eg478⟩ : ∃ z : Nat → Int32, upd f_planRead v476.toNatClampNeg y445 = z := ⟨_, rfl⟩
                have r479 : SG 1 4 0 11 g478 := by rw [← eg478]; exact s_planRead_1.up (Int.le_trans (by decide) k477.1) (Or.inr (Or.inl (dec_lt k477.1 (by decide))))
                have r480 : SG 10 10 0 5 g478 := by rw [← eg478]; exact s_planRead_10.up (Int.le_trans (by decide) k477.1) (Or.inr (Or.inl (dec_lt k477.1 (by decide))))
                refine iast_g hx hb hK hP hD hS 3 0 rfl rfl (ix_k k477 (by decide) (by decide)) eg478 dX10_planLine_317 (fun H locs hP hD hS => ?_)
                have hP : va_P D vwCl [(h_s, .inl (cI, 335, .inl f_s)), (h_names, .inl (cJ, 36, .inr (.inl f_names))), (h_reserved, .inl (cJ, 23, .inr (.inl f_reserved))), (h_planRead, .inl (cI, 24, .inl g478)), (h0, .inr (10, vL 67 F438)), (h_tape, .inl (cB, 940, .inl f_tape))] H := hP
                have hD : va_D A [(h_s, .inl (cI, 335, .inl f_s)), (h_names, .inl (cJ, 36, .inr (.inl f_names))), (h_reserved, .inl (cJ, 23, .inr (.inl f_reserved))), (h_planRead, .inl (cI, 24, .inl g478)), (h0, .inr (10, vL 67 F438)), (h_tape, .inl (cB, 940, .inl f_tape))] := hD
                refine lv_iconst (v := 1) hx hb dX10_planLine_318 (by decide) ?_
                exact ret_i (v := 1) hx hb hr hlocks hS (hP.sub (ws' := [(h0, .inr (10, vL 67 F438)), (h_tape, .inl (cB, 940, .inl f_tape)), (h_s, .inl (cI, 335, .inl f_s)), (h_names, .inl (cJ, 36, .inr (.inl f_names))), (h_reserved, .inl (cJ, 23, .inr (.inl f_reserved))), (h_planRead, .inl (cI, 24, .inl g478))]) [4, 5, 0, 1, 2, 3] rfl) (hD.sub (ws' := [(h0, .inr (10, vL 67 F438)), (h_tape, .inl (cB, 940, .inl f_tape)), (h_s, .inl (cI, 335, .inl f_s)), (h_names, .inl (cJ, 36, .inr (.inl f_names))), (h_reserved, .inl (cJ, 23, .inr (.inl f_reserved))), (h_planRead, .inl (cI, 24, .inl g478))]) [4, 5, 0, 1, 2, 3] (by decide) rfl) dX10_planLine_319 rfl (Nat.le_of_ble_eq_true rfl) (Nat.le_of_ble_eq_true rfl) (Or.inr ⟨F438, y439, y440, y441, y442, y443, x_fault, x_faultAt, y444, y445, x_onces, x_jumped, v379, g478, (SAME.tr (SAME.tr (SAME.up eF380 (SAME.tr SAME.rf t347 (by decide)) (by decide)) t400 (by decide)) t446 (by decide)), t447, t448, t449, t450, t451, t452, t453, t454, t455, (SAME.at t446 (by decide) n422), (SAME.at t446 (by decide) n425), t456, t457, (SAME.at t446 (by decide) (SAME.at t400 (by decide) (get_ne eF380 (by decide) (SAME.at t347 (by decide) e_onces)))), (SAME.at t446 (by decide) (SAME.at t400 (by decide) (get_ne eF380 (by decide) (SAME.at t347 (by decide) e_jumped)))), (SAME.at t446 (by decide) (SAME.at t400 (by decide) (get_eq eF380))), r479, r480, (by have zl1 : (1 : Int32).toInt = 1 := (by decide); omega), (by have zl1 : (1 : Int32).toInt = 1 := (by decide); omega), t466, (by omega), rfl, rfl⟩)
            · have hP : va_P D vwCl [(h_s, .inl (cI, 335, .inl f_s)), (h_names, .inl (cJ, 36, .inr (.inl f_names))), (h_reserved, .inl (cJ, 23, .inr (.inl f_reserved))), (h_planRead, .inl (cI, 24, .inl f_planRead)), (h0, .inr (10, vL 67 F340)), (h_tape, .inl (cB, 940, .inl f_tape))] H := hP
              have hD : va_D A [(h_s, .inl (cI, 335, .inl f_s)), (h_names, .inl (cJ, 36, .inr (.inl f_names))), (h_reserved, .inl (cJ, 23, .inr (.inl f_reserved))), (h_planRead, .inl (cI, 24, .inl f_planRead)), (h0, .inr (10, vL 67 F340)), (h_tape, .inl (cB, 940, .inl f_tape))] := hD
              refine W.widen (k := 0) (n := 0) (Nat.le_of_ble_eq_true rfl) (Nat.le_of_ble_eq_true rfl) ?_
              refine lv_if_eq (tgt := 269) hx hb dX10_planLine_260 (by decide) (fun g => absurd g (by decide)) (fun _ => ?_)
              refine lv_aload_n hx hb dX10_planLine_263 rfl (lv_at hl 0 rfl) ?_
              refine lv_iconst (v := 3) hx hb dX10_planLine_264 (by decide) ?_
              refine call_Vi (wr := [(h_s, .inl (cI, 335, .inl f_s)), (h_names, .inl (cJ, 36, .inr (.inl f_names))), (h_reserved, .inl (cJ, 23, .inr (.inl f_reserved))), (h_planRead, .inl (cI, 24, .inl f_planRead)), (h_tape, .inl (cB, 940, .inl f_tape))]) (As := [.int 3]) (rest := []) hx hb hml hown hw (m_X10_bad l D cI cJ cB cP cM cZ h0 F340 y343 3 _ t352) wV_X10_205_X10_bad dX10_planLine_265 hK hP hD hS hA [4] [0, 1, 2, 3, 5] rfl rfl (by decide) (by decide) (by decide) 0 10 rfl rfl GG.fb hG.at hl.1 rfl (Nat.le_of_ble_eq_true rfl) ⟨(Nat.le_of_ble_eq_true rfl), (Nat.le_of_ble_eq_true rfl)⟩ ⟨(Nat.le_of_ble_eq_true rfl), (Nat.le_of_ble_eq_true rfl)⟩ (fun r481 u H locs hp hP hD hS => ?_)
              have zl3 : (3 : Int32).toInt = 3 := by decide
              obtain ⟨F482, t483, t484, t485, rfl, rfl⟩ := hp
              have hP : va_P D vwCl [(h_s, .inl (cI, 335, .inl f_s)), (h_names, .inl (cJ, 36, .inr (.inl f_names))), (h_reserved, .inl (cJ, 23, .inr (.inl f_reserved))), (h_planRead, .inl (cI, 24, .inl f_planRead)), (h_tape, .inl (cB, 940, .inl f_tape)), (h0, .inr (10, vL 67 F482))] H := hP
              have hD : va_D A [(h_s, .inl (cI, 335, .inl f_s)), (h_names, .inl (cJ, 36, .inr (.inl f_names))), (h_reserved, .inl (cJ, 23, .inr (.inl f_reserved))), (h_planRead, .inl (cI, 24, .inl f_planRead)), (h_tape, .inl (cB, 940, .inl f_tape)), (h0, .inr (10, vL 67 F482))] := hD
              refine W.widen (k := 0) (n := 0) (Nat.le_of_ble_eq_true rfl) (Nat.le_of_ble_eq_true rfl) ?_
              exact ret_i (v := 0) hx hb hr hlocks hS (hP.sub (ws' := [(h0, .inr (10, vL 67 F482)), (h_tape, .inl (cB, 940, .inl f_tape)), (h_s, .inl (cI, 335, .inl f_s)), (h_names, .inl (cJ, 36, .inr (.inl f_names))), (h_reserved, .inl (cJ, 23, .inr (.inl f_reserved))), (h_planRead, .inl (cI, 24, .inl f_planRead))]) [5, 4, 0, 1, 2, 3] rfl) (hD.sub (ws' := [(h0, .inr (10, vL 67 F482)), (h_tape, .inl (cB, 940, .inl f_tape)), (h_s, .inl (cI, 335, .inl f_s)), (h_names, .inl (cJ, 36, .inr (.inl f_names))), (h_reserved, .inl (cJ, 23, .inr (.inl f_reserved))), (h_planRead, .inl (cI, 24, .inl f_planRead))]) [5, 4, 0, 1, 2, 3] (by decide) rfl) dX10_planLine_268 rfl (Nat.le_of_ble_eq_true rfl) (Nat.le_of_ble_eq_true rfl) (Or.inl ⟨F482, y341, y342, y343, y344, y345, 3, y343, y346, x_got, x_onces, x_jumped, x_heights, f_planRead, (SAME.tr (SAME.tr SAME.rf t347 (by decide)) t483 (by decide)), (SAME.at t483 (by decide) t348), t349, (SAME.at t483 (by decide) t350), (ir_wk k365 (by decide) (by decide)), (SAME.at t483 (by decide) t352), (SAME.at t483 (by decide) t354), (SAME.at t483 (by decide) t356), t484, (show 1 ≤ (3 : Int32).toInt ∧ (3 : Int32).toInt ≤ 3 by decide), t485, (SAME.at t483 (by decide) t357), (SAME.at t483 (by decide) (SAME.at t347 (by decide) e_got)), (SAME.at t483 (by decide) (SAME.at t347 (by decide) e_onces)), (SAME.at t483 (by decide) (SAME.at t347 (by decide) e_jumped)), (SAME.at t483 (by decide) n373), s_planRead_1, s_planRead_10, (by have zl3 : (3 : Int32).toInt = 3 := (by decide); omega), rfl, rfl⟩)
          · have dc370 : v368.toInt ≤ y345.toInt := nlt_i (a := y345.toInt) (b := v368.toInt) rfl rfl c370
            refine lv_aload_n hx hb dX10_planLine_243 rfl (lv_at hl 0 rfl) ?_
            refine lv_iconst (v := 2) hx hb dX10_planLine_244 (by decide) ?_
            refine call_Vi (wr := [(h_s, .inl (cI, 335, .inl f_s)), (h_names, .inl (cJ, 36, .inr (.inl f_names))), (h_reserved, .inl (cJ, 23, .inr (.inl f_reserved))), (h_planRead, .inl (cI, 24, .inl f_planRead)), (h_tape, .inl (cB, 940, .inl f_tape))]) (As := [.int 2]) (rest := []) hx hb hml hown hw (m_X10_bad l D cI cJ cB cP cM cZ h0 F340 y343 2 _ t352) wV_X10_205_X10_bad dX10_planLine_245 hK hP hD hS hA [4] [0, 1, 2, 3, 5] rfl rfl (by decide) (by decide) (by decide) 0 10 rfl rfl GG.fb hG.at hl.1 rfl (Nat.le_of_ble_eq_true rfl) ⟨(Nat.le_of_ble_eq_true rfl), (Nat.le_of_ble_eq_true rfl)⟩ ⟨(Nat.le_of_ble_eq_true rfl), (Nat.le_of_ble_eq_true rfl)⟩ (fun r487 u H locs hp hP hD hS => ?_)
            have zl2 : (2 : Int32).toInt = 2 := by decide
            obtain ⟨F488, t489, t490, t491, rfl, rfl⟩ := hp
            have hP : va_P D vwCl [(h_s, .inl (cI, 335, .inl f_s)), (h_names, .inl (cJ, 36, .inr (.inl f_names))), (h_reserved, .inl (cJ, 23, .inr (.inl f_reserved))), (h_planRead, .inl (cI, 24, .inl f_planRead)), (h_tape, .inl (cB, 940, .inl f_tape)), (h0, .inr (10, vL 67 F488))] H := hP
            have hD : va_D A [(h_s, .inl (cI, 335, .inl f_s)), (h_names, .inl (cJ, 36, .inr (.inl f_names))), (h_reserved, .inl (cJ, 23, .inr (.inl f_reserved))), (h_planRead, .inl (cI, 24, .inl f_planRead)), (h_tape, .inl (cB, 940, .inl f_tape)), (h0, .inr (10, vL 67 F488))] := hD
            refine W.widen (k := 0) (n := 0) (Nat.le_of_ble_eq_true rfl) (Nat.le_of_ble_eq_true rfl) ?_
            exact ret_i (v := 0) hx hb hr hlocks hS (hP.sub (ws' := [(h0, .inr (10, vL 67 F488)), (h_tape, .inl (cB, 940, .inl f_tape)), (h_s, .inl (cI, 335, .inl f_s)), (h_names, .inl (cJ, 36, .inr (.inl f_names))), (h_reserved, .inl (cJ, 23, .inr (.inl f_reserved))), (h_planRead, .inl (cI, 24, .inl f_planRead))]) [5, 4, 0, 1, 2, 3] rfl) (hD.sub (ws' := [(h0, .inr (10, vL 67 F488)), (h_tape, .inl (cB, 940, .inl f_tape)), (h_s, .inl (cI, 335, .inl f_s)), (h_names, .inl (cJ, 36, .inr (.inl f_names))), (h_reserved, .inl (cJ, 23, .inr (.inl f_reserved))), (h_planRead, .inl (cI, 24, .inl f_planRead))]) [5, 4, 0, 1, 2, 3] (by decide) rfl) dX10_planLine_248 rfl (Nat.le_of_ble_eq_true rfl) (Nat.le_of_ble_eq_true rfl) (Or.inl ⟨F488, y341, y342, y343, y344, y345, 2, y343, y346, x_got, x_onces, x_jumped, x_heights, f_planRead, (SAME.tr (SAME.tr SAME.rf t347 (by decide)) t489 (by decide)), (SAME.at t489 (by decide) t348), t349, (SAME.at t489 (by decide) t350), (ir_wk k365 (by decide) (by decide)), (SAME.at t489 (by decide) t352), (SAME.at t489 (by decide) t354), (SAME.at t489 (by decide) t356), t490, (show 1 ≤ (2 : Int32).toInt ∧ (2 : Int32).toInt ≤ 3 by decide), t491, (SAME.at t489 (by decide) t357), (SAME.at t489 (by decide) (SAME.at t347 (by decide) e_got)), (SAME.at t489 (by decide) (SAME.at t347 (by decide) e_onces)), (SAME.at t489 (by decide) (SAME.at t347 (by decide) e_jumped)), (SAME.at t489 (by decide) (SAME.at t347 (by decide) e_heights)), s_planRead_1, s_planRead_10, (by have zl2 : (2 : Int32).toInt = 2 := (by decide); omega), rfl, rfl⟩)
        · have dc364 : y342.toInt ≠ 2 := ne_i (a := y342.toInt) (b := 2) rfl rfl c364
          refine lv_aload_n hx hb dX10_planLine_223 rfl (lv_at hl 0 rfl) ?_
          refine lv_iconst (v := 1) hx hb dX10_planLine_224 (by decide) ?_
          refine call_Vi (wr := [(h_s, .inl (cI, 335, .inl f_s)), (h_names, .inl (cJ, 36, .inr (.inl f_names))), (h_reserved, .inl (cJ, 23, .inr (.inl f_reserved))), (h_planRead, .inl (cI, 24, .inl f_planRead)), (h_tape, .inl (cB, 940, .inl f_tape))]) (As := [.int 1]) (rest := []) hx hb hml hown hw (m_X10_bad l D cI cJ cB cP cM cZ h0 F340 y343 1 _ t352) wV_X10_205_X10_bad dX10_planLine_225 hK hP hD hS hA [4] [0, 1, 2, 3, 5] rfl rfl (by decide) (by decide) (by decide) 0 10 rfl rfl GG.fb hG.at hl.1 rfl (Nat.le_of_ble_eq_true rfl) ⟨(Nat.le_of_ble_eq_true rfl), (Nat.le_of_ble_eq_true rfl)⟩ ⟨(Nat.le_of_ble_eq_true rfl), (Nat.le_of_ble_eq_true rfl)⟩ (fun r493 u H locs hp hP hD hS => ?_)
          have zl1 : (1 : Int32).toInt = 1 := by decide
          obtain ⟨F494, t495, t496, t497, rfl, rfl⟩ := hp
          have hP : va_P D vwCl [(h_s, .inl (cI, 335, .inl f_s)), (h_names, .inl (cJ, 36, .inr (.inl f_names))), (h_reserved, .inl (cJ, 23, .inr (.inl f_reserved))), (h_planRead, .inl (cI, 24, .inl f_planRead)), (h_tape, .inl (cB, 940, .inl f_tape)), (h0, .inr (10, vL 67 F494))] H := hP
          have hD : va_D A [(h_s, .inl (cI, 335, .inl f_s)), (h_names, .inl (cJ, 36, .inr (.inl f_names))), (h_reserved, .inl (cJ, 23, .inr (.inl f_reserved))), (h_planRead, .inl (cI, 24, .inl f_planRead)), (h_tape, .inl (cB, 940, .inl f_tape)), (h0, .inr (10, vL 67 F494))] := hD
          refine W.widen (k := 0) (n := 0) (Nat.le_of_ble_eq_true rfl) (Nat.le_of_ble_eq_true rfl) ?_
          exact ret_i (v := 0) hx hb hr hlocks hS (hP.sub (ws' := [(h0, .inr (10, vL 67 F494)), (h_tape, .inl (cB, 940, .inl f_tape)), (h_s, .inl (cI, 335, .inl f_s)), (h_names, .inl (cJ, 36, .inr (.inl f_names))), (h_reserved, .inl (cJ, 23, .inr (.inl f_reserved))), (h_planRead, .inl (cI, 24, .inl f_planRead))]) [5, 4, 0, 1, 2, 3] rfl) (hD.sub (ws' := [(h0, .inr (10, vL 67 F494)), (h_tape, .inl (cB, 940, .inl f_tape)), (h_s, .inl (cI, 335, .inl f_s)), (h_names, .inl (cJ, 36, .inr (.inl f_names))), (h_reserved, .inl (cJ, 23, .inr (.inl f_reserved))), (h_planRead, .inl (cI, 24, .inl f_planRead))]) [5, 4, 0, 1, 2, 3] (by decide) rfl) dX10_planLine_228 rfl (Nat.le_of_ble_eq_true rfl) (Nat.le_of_ble_eq_true rfl) (Or.inl ⟨F494, y341, y342, y343, y344, y345, 1, y343, y346, x_got, x_onces, x_jumped, x_heights, f_planRead, (SAME.tr (SAME.tr SAME.rf t347 (by decide)) t495 (by decide)), (SAME.at t495 (by decide) t348), t349, (SAME.at t495 (by decide) t350), t351, (SAME.at t495 (by decide) t352), (SAME.at t495 (by decide) t354), (SAME.at t495 (by decide) t356), t496, (show 1 ≤ (1 : Int32).toInt ∧ (1 : Int32).toInt ≤ 3 by decide), t497, (SAME.at t495 (by decide) t357), (SAME.at t495 (by decide) (SAME.at t347 (by decide) e_got)), (SAME.at t495 (by decide) (SAME.at t347 (by decide) e_onces)), (SAME.at t495 (by decide) (SAME.at t347 (by decide) e_jumped)), (SAME.at t495 (by decide) (SAME.at t347 (by decide) e_heights)), s_planRead_1, s_planRead_10, (by have zl1 : (1 : Int32).toInt = 1 := (by decide); omega), rfl, rfl⟩)
    · have dc11 : r7.toInt ≠ 0 := ne_i (a := r7.toInt) (b := 0) rfl rfl c11
      have k499 : 1 ≤ r7.toInt ∧ r7.toInt ≤ 1 := ⟨ne_lo dc11 t8.1 ⟨Int.le_refl _, Int.le_refl _⟩ (by decide), t8.2⟩
      refine lv_aload_n hx hb dX10_planLine_95 rfl (lv_at hl 0 rfl) ?_
      refine call_Vv (wr := [(h_s, .inl (cI, 335, .inl f_s)), (h_names, .inl (cJ, 36, .inr (.inl f_names))), (h_reserved, .inl (cJ, 23, .inr (.inl f_reserved))), (h_planRead, .inl (cI, 24, .inl f_planRead))]) (As := []) (rest := []) hx hb hml hown hw (m_X10_next l D cI cJ cB cP cM cZ h0 h_tape Fh x_size x_p x_limit x_token x_at x_number x_word f_tape _ e_tape e_size i_x_size e_p i_x_p e_limit i_x_limit e_token i_x_token e_at e_number e_word (by omega)) wV_X10_208_X10_next dX10_planLine_96 hK hP hD hS hA [5, 0] [1, 2, 3, 4] rfl rfl (by decide) (by decide) (by decide) 0 10 rfl rfl GG.fb hG.at hl.1 rfl (Nat.le_of_ble_eq_true rfl) ⟨(Nat.le_of_ble_eq_true rfl), (Nat.le_of_ble_eq_true rfl)⟩ ⟨(Nat.le_of_ble_eq_true rfl), (Nat.le_of_ble_eq_true rfl)⟩ (fun u H locs hp hP hD hS => ?_)
      obtain ⟨F501, y502, y503, y504, y505, y506, y507, t508, t509, t510, t511, t512, t513, t514, t515, t516, t517, t518, t519, t520, t521, t522, t523, rfl⟩ := hp
      have hP : va_P D vwCl [(h_s, .inl (cI, 335, .inl f_s)), (h_names, .inl (cJ, 36, .inr (.inl f_names))), (h_reserved, .inl (cJ, 23, .inr (.inl f_reserved))), (h_planRead, .inl (cI, 24, .inl f_planRead)), (h0, .inr (10, vL 67 F501)), (h_tape, .inl (cB, 940, .inl f_tape))] H := hP
      have hD : va_D A [(h_s, .inl (cI, 335, .inl f_s)), (h_names, .inl (cJ, 36, .inr (.inl f_names))), (h_reserved, .inl (cJ, 23, .inr (.inl f_reserved))), (h_planRead, .inl (cI, 24, .inl f_planRead)), (h0, .inr (10, vL 67 F501)), (h_tape, .inl (cB, 940, .inl f_tape))] := hD
      refine W.widen (k := 0) (n := 0) (Nat.le_of_ble_eq_true rfl) (Nat.le_of_ble_eq_true rfl) ?_
      refine lv_aload_n hx hb dX10_planLine_99 rfl (lv_at hl 0 rfl) ?_
      have n525 : F501 6 = .ref h_s := (SAME.at t508 (by decide) e_s)
      have n526 : F501 9 = .ref h_names := (SAME.at t508 (by decide) e_names)
      have n527 : F501 10 = .ref h_reserved := (SAME.at t508 (by decide) e_reserved)
      have n528 : F501 19 = .int x_got := (SAME.at t508 (by decide) e_got)
      refine call_Vi (wr := [(h_planRead, .inl (cI, 24, .inl f_planRead)), (h_tape, .inl (cB, 940, .inl f_tape))]) (As := []) (rest := []) hx hb hml hown hw (m_X10_looksAtMan l D cI cJ cB cP cM cZ h0 h_s h_names h_reserved F501 y503 y504 y506 y507 x_got f_s f_names f_reserved _ n525 n526 n527 t511 t512 t513 t517 t518 n528 s_s_K0 s_s_0 s_s_105 s_s_114 s_s_130 s_s_139 s_s_153 s_s_44 s_s_5 s_s_6 s_s_7 s_reserved_KR t522 (by omega)) wV_X10_266_X10_looksAtMan dX10_planLine_100 hK hP hD hS hA [4, 0, 1, 2] [3, 5] rfl rfl (by decide) (by decide) (by decide) 0 10 rfl rfl GG.fb hG.at hl.1 rfl (Nat.le_of_ble_eq_true rfl) ⟨(Nat.le_of_ble_eq_true rfl), (Nat.le_of_ble_eq_true rfl)⟩ ⟨(Nat.le_of_ble_eq_true rfl), (Nat.le_of_ble_eq_true rfl)⟩ (fun r529 u H locs hp hP hD hS => ?_)
      rcases hp with ⟨F530, y531, y532, t533, t534, t535, t536, t537, rfl, rfl⟩ | ⟨F538, y539, t540, t541, t542, rfl, rfl⟩
      · have hP : va_P D vwCl [(h_planRead, .inl (cI, 24, .inl f_planRead)), (h_tape, .inl (cB, 940, .inl f_tape)), (h0, .inr (10, vL 67 F530)), (h_s, .inl (cI, 335, .inl f_s)), (h_names, .inl (cJ, 36, .inr (.inl f_names))), (h_reserved, .inl (cJ, 23, .inr (.inl f_reserved)))] H := hP
        have hD : va_D A [(h_planRead, .inl (cI, 24, .inl f_planRead)), (h_tape, .inl (cB, 940, .inl f_tape)), (h0, .inr (10, vL 67 F530)), (h_s, .inl (cI, 335, .inl f_s)), (h_names, .inl (cJ, 36, .inr (.inl f_names))), (h_reserved, .inl (cJ, 23, .inr (.inl f_reserved)))] := hD
        refine W.widen (k := 0) (n := 0) (Nat.le_of_ble_eq_true rfl) (Nat.le_of_ble_eq_true rfl) ?_
        refine lv_if_ne (tgt := 108) hx hb dX10_planLine_103 (by decide) (fun g => absurd (by decide) g) (fun _ => ?_)
        refine lv_iconst (v := 0) hx hb dX10_planLine_106 (by decide) ?_
        exact ret_i (v := 0) hx hb hr hlocks hS (hP.sub (ws' := [(h0, .inr (10, vL 67 F530)), (h_tape, .inl (cB, 940, .inl f_tape)), (h_s, .inl (cI, 335, .inl f_s)), (h_names, .inl (cJ, 36, .inr (.inl f_names))), (h_reserved, .inl (cJ, 23, .inr (.inl f_reserved))), (h_planRead, .inl (cI, 24, .inl f_planRead))]) [2, 1, 3, 4, 5, 0] rfl) (hD.sub (ws' := [(h0, .inr (10, vL 67 F530)), (h_tape, .inl (cB, 940, .inl f_tape)), (h_s, .inl (cI, 335, .inl f_s)), (h_names, .inl (cJ, 36, .inr (.inl f_names))), (h_reserved, .inl (cJ, 23, .inr (.inl f_reserved))), (h_planRead, .inl (cI, 24, .inl f_planRead))]) [2, 1, 3, 4, 5, 0] (by decide) rfl) dX10_planLine_107 rfl (Nat.le_of_ble_eq_true rfl) (Nat.le_of_ble_eq_true rfl) (Or.inl ⟨F530, y502, y503, y504, y505, y506, y531, y504, y507, y532, x_onces, x_jumped, x_heights, f_planRead, (SAME.tr (SAME.tr SAME.rf t508 (by decide)) t533 (by decide)), (SAME.at t533 (by decide) t509), t510, (SAME.at t533 (by decide) t511), t512, (SAME.at t533 (by decide) t513), (SAME.at t533 (by decide) t515), (SAME.at t533 (by decide) t517), t534, t535, t536, (SAME.at t533 (by decide) t518), t537, (SAME.at t533 (by decide) (SAME.at t508 (by decide) e_onces)), (SAME.at t533 (by decide) (SAME.at t508 (by decide) e_jumped)), (SAME.at t533 (by decide) (SAME.at t508 (by decide) e_heights)), s_planRead_1, s_planRead_10, (by omega), rfl, rfl⟩)
      · have hP : va_P D vwCl [(h_planRead, .inl (cI, 24, .inl f_planRead)), (h_tape, .inl (cB, 940, .inl f_tape)), (h0, .inr (10, vL 67 F538)), (h_s, .inl (cI, 335, .inl f_s)), (h_names, .inl (cJ, 36, .inr (.inl f_names))), (h_reserved, .inl (cJ, 23, .inr (.inl f_reserved)))] H := hP
        have hD : va_D A [(h_planRead, .inl (cI, 24, .inl f_planRead)), (h_tape, .inl (cB, 940, .inl f_tape)), (h0, .inr (10, vL 67 F538)), (h_s, .inl (cI, 335, .inl f_s)), (h_names, .inl (cJ, 36, .inr (.inl f_names))), (h_reserved, .inl (cJ, 23, .inr (.inl f_reserved)))] := hD
        refine W.widen (k := 0) (n := 0) (Nat.le_of_ble_eq_true rfl) (Nat.le_of_ble_eq_true rfl) ?_
        refine lv_if_ne (tgt := 108) hx hb dX10_planLine_103 (by decide) (fun _ => ?_) (fun g => absurd g (by decide))
        refine lv_aload_n hx hb dX10_planLine_108 rfl (lv_at hl 0 rfl) ?_
        have n544 : F501 22 = .ref h_planRead := (SAME.at t508 (by decide) e_planRead)
        have n545 : F538 22 = .ref h_planRead := (SAME.at t540 (by decide) n544)
        refine get_f (D := D) (ci := 10) (v := .ref h_planRead) (C := RX10) (T := TX10) (N := 67) hx hb hw inAX10 hown hK hP 2 rfl rfl 22 (by decide) (hw _ q_1283) (fun _ h9 => h9) n545 dX10_planLine_109 ?_
        refine lv_iconst (v := 0) hx hb dX10_planLine_112 (by decide) ?_
        refine iald_n hx hb hK hP 0 0 rfl rfl 0 rfl (Nat.le_of_ble_eq_true rfl) (Nat.le_of_ble_eq_true rfl) rfl dX10_planLine_113 ?_
        refine lv_topi (fun v546 ev546 => ?_)
        refine lv_iconst (v := 1) hx hb dX10_planLine_114 (by decide) ?_
        refine lv_icmp_ne (tgt := 130) hx hb dX10_planLine_115 (by decide) (fun c547 => ?_) (fun c547 => ?_)
        · have dc547 : v546.toInt ≠ 1 := ne_i (a := v546.toInt) (b := 1) rfl rfl c547
          refine lv_iconst (v := (-1)) hx hb dX10_planLine_130 (by decide) ?_
          refine lv_istore_n (lv' := [(1, .int (-1)), (0, .ref h0)]) hx hb dX10_planLine_131 rfl hl (by decide) rfl (fun ls hl => ?_)
          refine lv_iload_n hx hb dX10_planLine_132 rfl (lv_at hl 0 rfl) ?_
          refine lv_if_lt (tgt := 147) hx hb dX10_planLine_133 (by decide) (fun _ => ?_) (fun g => absurd (by decide) g)
          refine lv_aload_n hx hb dX10_planLine_147 rfl (lv_at hl 1 rfl) ?_
          refine lv_iconst (v := 3) hx hb dX10_planLine_148 (by decide) ?_
          have n548 : F538 12 = .int y504 := (SAME.at t540 (by decide) t513)
          refine call_Vi (wr := [(h_planRead, .inl (cI, 24, .inl f_planRead)), (h_tape, .inl (cB, 940, .inl f_tape)), (h_s, .inl (cI, 335, .inl f_s)), (h_names, .inl (cJ, 36, .inr (.inl f_names))), (h_reserved, .inl (cJ, 23, .inr (.inl f_reserved)))]) (As := [.int 3]) (rest := []) hx hb hml hown hw (m_X10_bad l D cI cJ cB cP cM cZ h0 F538 y504 3 _ n548) wV_X10_205_X10_bad dX10_planLine_149 hK hP hD hS hA [2] [0, 1, 3, 4, 5] rfl rfl (by decide) (by decide) (by decide) 0 10 rfl rfl GG.fb hG.at hl.1 rfl (Nat.le_of_ble_eq_true rfl) ⟨(Nat.le_of_ble_eq_true rfl), (Nat.le_of_ble_eq_true rfl)⟩ ⟨(Nat.le_of_ble_eq_true rfl), (Nat.le_of_ble_eq_true rfl)⟩ (fun r549 u H locs hp hP hD hS => ?_)
          have zl3 : (3 : Int32).toInt = 3 := by decide
          obtain ⟨F550, t551, t552, t553, rfl, rfl⟩ := hp
          have hP : va_P D vwCl [(h_planRead, .inl (cI, 24, .inl f_planRead)), (h_tape, .inl (cB, 940, .inl f_tape)), (h_s, .inl (cI, 335, .inl f_s)), (h_names, .inl (cJ, 36, .inr (.inl f_names))), (h_reserved, .inl (cJ, 23, .inr (.inl f_reserved))), (h0, .inr (10, vL 67 F550))] H := hP
          have hD : va_D A [(h_planRead, .inl (cI, 24, .inl f_planRead)), (h_tape, .inl (cB, 940, .inl f_tape)), (h_s, .inl (cI, 335, .inl f_s)), (h_names, .inl (cJ, 36, .inr (.inl f_names))), (h_reserved, .inl (cJ, 23, .inr (.inl f_reserved))), (h0, .inr (10, vL 67 F550))] := hD
          refine W.widen (k := 0) (n := 0) (Nat.le_of_ble_eq_true rfl) (Nat.le_of_ble_eq_true rfl) ?_
          exact ret_i (v := 0) hx hb hr hlocks hS (hP.sub (ws' := [(h0, .inr (10, vL 67 F550)), (h_tape, .inl (cB, 940, .inl f_tape)), (h_s, .inl (cI, 335, .inl f_s)), (h_names, .inl (cJ, 36, .inr (.inl f_names))), (h_reserved, .inl (cJ, 23, .inr (.inl f_reserved))), (h_planRead, .inl (cI, 24, .inl f_planRead))]) [5, 1, 2, 3, 4, 0] rfl) (hD.sub (ws' := [(h0, .inr (10, vL 67 F550)), (h_tape, .inl (cB, 940, .inl f_tape)), (h_s, .inl (cI, 335, .inl f_s)), (h_names, .inl (cJ, 36, .inr (.inl f_names))), (h_reserved, .inl (cJ, 23, .inr (.inl f_reserved))), (h_planRead, .inl (cI, 24, .inl f_planRead))]) [5, 1, 2, 3, 4, 0] (by decide) rfl) dX10_planLine_152 rfl (Nat.le_of_ble_eq_true rfl) (Nat.le_of_ble_eq_true rfl) (Or.inl ⟨F550, y502, y503, y504, y505, y506, 3, y504, y507, y539, x_onces, x_jumped, x_heights, f_planRead, (SAME.tr (SAME.tr (SAME.tr SAME.rf t508 (by decide)) t540 (by decide)) t551 (by decide)), (SAME.at t551 (by decide) (SAME.at t540 (by decide) t509)), t510, (SAME.at t551 (by decide) (SAME.at t540 (by decide) t511)), t512, (SAME.at t551 (by decide) n548), (SAME.at t551 (by decide) (SAME.at t540 (by decide) t515)), (SAME.at t551 (by decide) (SAME.at t540 (by decide) t517)), t552, (show 1 ≤ (3 : Int32).toInt ∧ (3 : Int32).toInt ≤ 3 by decide), t553, (SAME.at t551 (by decide) (SAME.at t540 (by decide) t518)), (SAME.at t551 (by decide) t541), (SAME.at t551 (by decide) (SAME.at t540 (by decide) (SAME.at t508 (by decide) e_onces))), (SAME.at t551 (by decide) (SAME.at t540 (by decide) (SAME.at t508 (by decide) e_jumped))), (SAME.at t551 (by decide) (SAME.at t540 (by decide) (SAME.at t508 (by decide) e_heights))), s_planRead_1, s_planRead_10, (by have zl3 : (3 : Int32).toInt = 3 := (by decide); omega), rfl, rfl⟩)
        · have dc547 : v546.toInt = 1 := eq_i (a := v546.toInt) (b := 1) rfl rfl c547
          have k555 : 1 ≤ v546.toInt ∧ v546.toInt ≤ 1 := ⟨Int.le_trans (Int.le_refl _) (Int.le_of_eq dc547.symm), Int.le_trans (Int.le_of_eq dc547) (Int.le_refl _)⟩
          refine lv_aload_n hx hb dX10_planLine_118 rfl (lv_at hl 0 rfl) ?_
          refine lv_aload_n hx hb dX10_planLine_119 rfl (lv_at hl 0 rfl) ?_
          refine get_f (D := D) (ci := 10) (v := .int y539) (C := RX10) (T := TX10) (N := 67) hx hb hw inAX10 hown hK hP 2 rfl rfl 19 (by decide) (hw _ q_1280) (fun _ h9 => h9) t541 dX10_planLine_120 ?_
          refine lv_iconst (v := 4) hx hb dX10_planLine_123 (by decide) ?_
          refine call_Vi (wr := [(h_tape, .inl (cB, 940, .inl f_tape)), (h_s, .inl (cI, 335, .inl f_s)), (h_names, .inl (cJ, 36, .inr (.inl f_names))), (h_reserved, .inl (cJ, 23, .inr (.inl f_reserved)))]) (As := [.int y539, .int 4]) (rest := []) hx hb hml hown hw (m_X10_placeIn l D cI cJ cB cP cM cZ h0 h_planRead F538 f_planRead y539 4 _ n545 s_planRead_1 s_planRead_10 (show 0 ≤ (4 : Int32).toInt ∧ (4 : Int32).toInt ≤ 4 by decide)) wV_X10_269_X10_placeIn dX10_planLine_124 hK hP hD hS hA [2, 0] [1, 3, 4, 5] rfl rfl (by decide) (by decide) (by decide) 0 10 rfl rfl GG.fb hG.at hl.1 rfl (Nat.le_of_ble_eq_true rfl) ⟨(Nat.le_of_ble_eq_true rfl), (Nat.le_of_ble_eq_true rfl)⟩ ⟨(Nat.le_of_ble_eq_true rfl), (Nat.le_of_ble_eq_true rfl)⟩ (fun r556 u H locs hp hP hD hS => ?_)
          have zl4 : (4 : Int32).toInt = 4 := by decide
          obtain ⟨t557, rfl⟩ := hp
          have hP : va_P D vwCl [(h_tape, .inl (cB, 940, .inl f_tape)), (h_s, .inl (cI, 335, .inl f_s)), (h_names, .inl (cJ, 36, .inr (.inl f_names))), (h_reserved, .inl (cJ, 23, .inr (.inl f_reserved))), (h0, .inr (10, vL 67 F538)), (h_planRead, .inl (cI, 24, .inl f_planRead))] H := hP
          have hD : va_D A [(h_tape, .inl (cB, 940, .inl f_tape)), (h_s, .inl (cI, 335, .inl f_s)), (h_names, .inl (cJ, 36, .inr (.inl f_names))), (h_reserved, .inl (cJ, 23, .inr (.inl f_reserved))), (h0, .inr (10, vL 67 F538)), (h_planRead, .inl (cI, 24, .inl f_planRead))] := hD
          refine W.widen (k := 0) (n := 0) (Nat.le_of_ble_eq_true rfl) (Nat.le_of_ble_eq_true rfl) ?_
          refine lv_goto (tgt := 131) hx hb dX10_planLine_127 (by decide) ?_
          refine lv_istore_n (lv' := [(1, .int r556), (0, .ref h0)]) hx hb dX10_planLine_131 rfl hl (by decide) rfl (fun ls hl => ?_)
          refine lv_iload_n hx hb dX10_planLine_132 rfl (lv_at hl 0 rfl) ?_
          refine lv_if_lt (tgt := 147) hx hb dX10_planLine_133 (by decide) (fun c559 => ?_) (fun c559 => ?_)
          · have dc559 : r556.toInt < 0 := lt_i (a := r556.toInt) (b := 0) rfl rfl c559
            have k560 : (-1) ≤ r556.toInt ∧ r556.toInt ≤ (-1) := ⟨t557.1, up_lt dc559 (Int.le_refl _) (by decide)⟩
            refine lv_aload_n hx hb dX10_planLine_147 rfl (lv_at hl 1 rfl) ?_
            refine lv_iconst (v := 3) hx hb dX10_planLine_148 (by decide) ?_
            have n561 : F538 12 = .int y504 := (SAME.at t540 (by decide) t513)
            refine call_Vi (wr := [(h_tape, .inl (cB, 940, .inl f_tape)), (h_s, .inl (cI, 335, .inl f_s)), (h_names, .inl (cJ, 36, .inr (.inl f_names))), (h_reserved, .inl (cJ, 23, .inr (.inl f_reserved))), (h_planRead, .inl (cI, 24, .inl f_planRead))]) (As := [.int 3]) (rest := []) hx hb hml hown hw (m_X10_bad l D cI cJ cB cP cM cZ h0 F538 y504 3 _ n561) wV_X10_205_X10_bad dX10_planLine_149 hK hP hD hS hA [4] [0, 1, 2, 3, 5] rfl rfl (by decide) (by decide) (by decide) 0 10 rfl rfl GG.fb hG.at hl.1 rfl (Nat.le_of_ble_eq_true rfl) ⟨(Nat.le_of_ble_eq_true rfl), (Nat.le_of_ble_eq_true rfl)⟩ ⟨(Nat.le_of_ble_eq_true rfl), (Nat.le_of_ble_eq_true rfl)⟩ (fun r562 u H locs hp hP hD hS => ?_)
            have zl3 : (3 : Int32).toInt = 3 := by decide
            obtain ⟨F563, t564, t565, t566, rfl, rfl⟩ := hp
            have hP : va_P D vwCl [(h_tape, .inl (cB, 940, .inl f_tape)), (h_s, .inl (cI, 335, .inl f_s)), (h_names, .inl (cJ, 36, .inr (.inl f_names))), (h_reserved, .inl (cJ, 23, .inr (.inl f_reserved))), (h_planRead, .inl (cI, 24, .inl f_planRead)), (h0, .inr (10, vL 67 F563))] H := hP
            have hD : va_D A [(h_tape, .inl (cB, 940, .inl f_tape)), (h_s, .inl (cI, 335, .inl f_s)), (h_names, .inl (cJ, 36, .inr (.inl f_names))), (h_reserved, .inl (cJ, 23, .inr (.inl f_reserved))), (h_planRead, .inl (cI, 24, .inl f_planRead)), (h0, .inr (10, vL 67 F563))] := hD
            refine W.widen (k := 0) (n := 0) (Nat.le_of_ble_eq_true rfl) (Nat.le_of_ble_eq_true rfl) ?_
            exact ret_i (v := 0) hx hb hr hlocks hS (hP.sub (ws' := [(h0, .inr (10, vL 67 F563)), (h_tape, .inl (cB, 940, .inl f_tape)), (h_s, .inl (cI, 335, .inl f_s)), (h_names, .inl (cJ, 36, .inr (.inl f_names))), (h_reserved, .inl (cJ, 23, .inr (.inl f_reserved))), (h_planRead, .inl (cI, 24, .inl f_planRead))]) [5, 0, 1, 2, 3, 4] rfl) (hD.sub (ws' := [(h0, .inr (10, vL 67 F563)), (h_tape, .inl (cB, 940, .inl f_tape)), (h_s, .inl (cI, 335, .inl f_s)), (h_names, .inl (cJ, 36, .inr (.inl f_names))), (h_reserved, .inl (cJ, 23, .inr (.inl f_reserved))), (h_planRead, .inl (cI, 24, .inl f_planRead))]) [5, 0, 1, 2, 3, 4] (by decide) rfl) dX10_planLine_152 rfl (Nat.le_of_ble_eq_true rfl) (Nat.le_of_ble_eq_true rfl) (Or.inl ⟨F563, y502, y503, y504, y505, y506, 3, y504, y507, y539, x_onces, x_jumped, x_heights, f_planRead, (SAME.tr (SAME.tr (SAME.tr SAME.rf t508 (by decide)) t540 (by decide)) t564 (by decide)), (SAME.at t564 (by decide) (SAME.at t540 (by decide) t509)), t510, (SAME.at t564 (by decide) (SAME.at t540 (by decide) t511)), t512, (SAME.at t564 (by decide) n561), (SAME.at t564 (by decide) (SAME.at t540 (by decide) t515)), (SAME.at t564 (by decide) (SAME.at t540 (by decide) t517)), t565, (show 1 ≤ (3 : Int32).toInt ∧ (3 : Int32).toInt ≤ 3 by decide), t566, (SAME.at t564 (by decide) (SAME.at t540 (by decide) t518)), (SAME.at t564 (by decide) t541), (SAME.at t564 (by decide) (SAME.at t540 (by decide) (SAME.at t508 (by decide) e_onces))), (SAME.at t564 (by decide) (SAME.at t540 (by decide) (SAME.at t508 (by decide) e_jumped))), (SAME.at t564 (by decide) (SAME.at t540 (by decide) (SAME.at t508 (by decide) e_heights))), s_planRead_1, s_planRead_10, (by have zl3 : (3 : Int32).toInt = 3 := (by decide); omega), rfl, rfl⟩)
          · have dc559 : 0 ≤ r556.toInt := nlt_i (a := r556.toInt) (b := 0) rfl rfl c559
            have k568 : 0 ≤ r556.toInt ∧ r556.toInt ≤ 3 := ⟨Int.le_trans (Int.le_refl _) dc559, t557.2⟩
            refine lv_aload_n hx hb dX10_planLine_136 rfl (lv_at hl 1 rfl) ?_
            have n569 : F501 23 = .int x_jumped := (SAME.at t508 (by decide) e_jumped)
            have n570 : F538 23 = .int x_jumped := (SAME.at t540 (by decide) n569)
            refine get_f (D := D) (ci := 10) (v := .int x_jumped) (C := RX10) (T := TX10) (N := 67) hx hb hw inAX10 hown hK hP 4 rfl rfl 23 (by decide) (hw _ q_1284) (fun _ h9 => h9) n570 dX10_planLine_137 ?_
            refine lv_iload_n hx hb dX10_planLine_140 rfl (lv_at hl 0 rfl) ?_
            refine call_Si (wr := [(h_tape, .inl (cB, 940, .inl f_tape)), (h_s, .inl (cI, 335, .inl f_s)), (h_names, .inl (cJ, 36, .inr (.inl f_names))), (h_reserved, .inl (cJ, 23, .inr (.inl f_reserved))), (h0, .inr (10, vL 67 F538)), (h_planRead, .inl (cI, 24, .inl f_planRead))]) (As := [.int x_jumped, .int r556]) (rest := []) hx hb hml hown hw (m_X10_bitOf l D cI cJ cB cP cM cZ x_jumped r556 _ ) wS_X10_232_X10_bitOf dX10_planLine_141 hP hD hS hA [] [0, 1, 2, 3, 4, 5] rfl rfl (by decide) (by decide) (by decide) GG.fb hG.at hl.1 rfl (Nat.le_of_ble_eq_true rfl) ⟨(Nat.le_of_ble_eq_true rfl), (Nat.le_of_ble_eq_true rfl)⟩ ⟨(Nat.le_of_ble_eq_true rfl), (Nat.le_of_ble_eq_true rfl)⟩ (fun r571 u H locs hp hP hD hS => ?_)
            rcases hp with ⟨t572, rfl, rfl⟩ | ⟨t573, rfl, rfl⟩
            · have hP : va_P D vwCl [(h_tape, .inl (cB, 940, .inl f_tape)), (h_s, .inl (cI, 335, .inl f_s)), (h_names, .inl (cJ, 36, .inr (.inl f_names))), (h_reserved, .inl (cJ, 23, .inr (.inl f_reserved))), (h0, .inr (10, vL 67 F538)), (h_planRead, .inl (cI, 24, .inl f_planRead))] H := hP
              have hD : va_D A [(h_tape, .inl (cB, 940, .inl f_tape)), (h_s, .inl (cI, 335, .inl f_s)), (h_names, .inl (cJ, 36, .inr (.inl f_names))), (h_reserved, .inl (cJ, 23, .inr (.inl f_reserved))), (h0, .inr (10, vL 67 F538)), (h_planRead, .inl (cI, 24, .inl f_planRead))] := hD
              refine W.widen (k := 0) (n := 0) (Nat.le_of_ble_eq_true rfl) (Nat.le_of_ble_eq_true rfl) ?_
              refine lv_if_eq (tgt := 153) hx hb dX10_planLine_144 (by decide) (fun _ => ?_) (fun g => absurd (by decide) g)
              refine lv_aload_n hx hb dX10_planLine_153 rfl (lv_at hl 1 rfl) ?_
              refine lv_dup hx hb dX10_planLine_154 rfl ?_
              refine get_f (D := D) (ci := 10) (v := .int x_jumped) (C := RX10) (T := TX10) (N := 67) hx hb hw inAX10 hown hK hP 4 rfl rfl 23 (by decide) (hw _ q_1284) (fun _ h9 => h9) n570 dX10_planLine_155 ?_
              refine lv_iconst (v := 1) hx hb dX10_planLine_158 (by decide) ?_
              refine lv_iload_n hx hb dX10_planLine_159 rfl (lv_at hl 0 rfl) ?_
              refine lv_ishl hx hb dX10_planLine_160 ?_
              refine lv_topi (fun v575 ev575 => ?_)
              have k576 : 1 ≤ v575.toInt ∧ v575.toInt ≤ 8 := by rw [ev575]; exact shl1_i (Int.le_trans (by decide) k568.1) (Int.le_trans k568.2 (by decide))
              refine lv_ior hx hb dX10_planLine_161 ?_
              refine lv_topi (fun v577 ev577 => ?_)
              refine put_f (D := D) (ci := 10) (v := .int v577) (ty := .int) (C := RX10) (T := TX10) (N := 67) hx hb hw inAX10 tyX10 tyX10_ok nmX10 hown hK hP hD hS 4 rfl rfl 23 (by decide) (hw _ q_1284) (fun _ h9 => h9) rfl (by decide +kernel) rfl rfl dX10_planLine_162 (fun H locs F578 eF578 hP hD hS => ?_)
              have hP : va_P D vwCl [(h_tape, .inl (cB, 940, .inl f_tape)), (h_s, .inl (cI, 335, .inl f_s)), (h_names, .inl (cJ, 36, .inr (.inl f_names))), (h_reserved, .inl (cJ, 23, .inr (.inl f_reserved))), (h0, .inr (10, vL 67 F578)), (h_planRead, .inl (cI, 24, .inl f_planRead))] H := hP
              have hD : va_D A [(h_tape, .inl (cB, 940, .inl f_tape)), (h_s, .inl (cI, 335, .inl f_s)), (h_names, .inl (cJ, 36, .inr (.inl f_names))), (h_reserved, .inl (cJ, 23, .inr (.inl f_reserved))), (h0, .inr (10, vL 67 F578)), (h_planRead, .inl (cI, 24, .inl f_planRead))] := hD
              refine lv_aload_n hx hb dX10_planLine_165 rfl (lv_at hl 1 rfl) ?_
              have n579 : F501 1 = .ref h_tape := (SAME.at t508 (by decide) e_tape)
              have n580 : F538 1 = .ref h_tape := (SAME.at t540 (by decide) n579)
              have n581 : F578 1 = .ref h_tape := (get_ne eF578 (by decide) n580)
              have n582 : F501 3 = .int x_size := (SAME.at t508 (by decide) e_size)
              have n583 : F538 3 = .int x_size := (SAME.at t540 (by decide) n582)
              have n584 : F578 3 = .int x_size := (get_ne eF578 (by decide) n583)
              have n585 : F538 4 = .int y502 := (SAME.at t540 (by decide) t509)
              have n586 : F578 4 = .int y502 := (get_ne eF578 (by decide) n585)
              have n587 : F501 5 = .int x_limit := (SAME.at t508 (by decide) e_limit)
              have n588 : F538 5 = .int x_limit := (SAME.at t540 (by decide) n587)
              have n589 : F578 5 = .int x_limit := (get_ne eF578 (by decide) n588)
              have n590 : F538 11 = .int y503 := (SAME.at t540 (by decide) t511)
              have n591 : F578 11 = .int y503 := (get_ne eF578 (by decide) n590)
              have n592 : F538 12 = .int y504 := (SAME.at t540 (by decide) t513)
              have n593 : F578 12 = .int y504 := (get_ne eF578 (by decide) n592)
              have n594 : F538 14 = .int y506 := (SAME.at t540 (by decide) t517)
              have n595 : F578 14 = .int y506 := (get_ne eF578 (by decide) n594)
              have n596 : F538 18 = .long y507 := (SAME.at t540 (by decide) t518)
              have n597 : F578 18 = .long y507 := (get_ne eF578 (by decide) n596)
              refine call_Vv (wr := [(h_s, .inl (cI, 335, .inl f_s)), (h_names, .inl (cJ, 36, .inr (.inl f_names))), (h_reserved, .inl (cJ, 23, .inr (.inl f_reserved))), (h_planRead, .inl (cI, 24, .inl f_planRead))]) (As := []) (rest := []) hx hb hml hown hw (m_X10_next l D cI cJ cB cP cM cZ h0 h_tape F578 x_size y502 x_limit y503 y504 y506 y507 f_tape _ n581 n584 i_x_size n586 t510 n589 i_x_limit n591 t512 n593 n595 n597 (by omega)) wV_X10_208_X10_next dX10_planLine_166 hK hP hD hS hA [4, 0] [1, 2, 3, 5] rfl rfl (by decide) (by decide) (by decide) 0 10 rfl rfl GG.fb hG.at hl.1 rfl (Nat.le_of_ble_eq_true rfl) ⟨(Nat.le_of_ble_eq_true rfl), (Nat.le_of_ble_eq_true rfl)⟩ ⟨(Nat.le_of_ble_eq_true rfl), (Nat.le_of_ble_eq_true rfl)⟩ (fun u H locs hp hP hD hS => ?_)
              obtain ⟨F599, y600, y601, y602, y603, y604, y605, t606, t607, t608, t609, t610, t611, t612, t613, t614, t615, t616, t617, t618, t619, t620, t621, rfl⟩ := hp
              clear t520 t523
              have hP : va_P D vwCl [(h_s, .inl (cI, 335, .inl f_s)), (h_names, .inl (cJ, 36, .inr (.inl f_names))), (h_reserved, .inl (cJ, 23, .inr (.inl f_reserved))), (h_planRead, .inl (cI, 24, .inl f_planRead)), (h0, .inr (10, vL 67 F599)), (h_tape, .inl (cB, 940, .inl f_tape))] H := hP
              have hD : va_D A [(h_s, .inl (cI, 335, .inl f_s)), (h_names, .inl (cJ, 36, .inr (.inl f_names))), (h_reserved, .inl (cJ, 23, .inr (.inl f_reserved))), (h_planRead, .inl (cI, 24, .inl f_planRead)), (h0, .inr (10, vL 67 F599)), (h_tape, .inl (cB, 940, .inl f_tape))] := hD
              refine W.widen (k := 0) (n := 0) (Nat.le_of_ble_eq_true rfl) (Nat.le_of_ble_eq_true rfl) ?_
              refine lv_aload_n hx hb dX10_planLine_169 rfl (lv_at hl 1 rfl) ?_
              refine lv_iconst (v := 0) hx hb dX10_planLine_170 (by decide) ?_
              refine lv_aload_n hx hb dX10_planLine_171 rfl (lv_at hl 1 rfl) ?_
              have n623 : F538 6 = .ref h_s := (SAME.at t540 (by decide) n525)
              have n624 : F578 6 = .ref h_s := (get_ne eF578 (by decide) n623)
              have n625 : F599 6 = .ref h_s := (SAME.at t606 (by decide) n624)
              refine get_f (D := D) (ci := 10) (v := .ref h_s) (C := RX10) (T := TX10) (N := 67) hx hb hw inAX10 hown hK hP 4 rfl rfl 6 (by decide) (hw _ q_1267) (fun _ h9 => h9) n625 dX10_planLine_172 ?_
              refine lv_iconst (v := 0) hx hb dX10_planLine_175 (by decide) ?_
              refine iald_n hx hb hK hP 0 0 rfl rfl 0 rfl (Nat.le_of_ble_eq_true rfl) (Nat.le_of_ble_eq_true rfl) rfl dX10_planLine_176 ?_
              refine lv_topi (fun v626 ev626 => ?_)
              have k627 : 0 ≤ v626.toInt ∧ v626.toInt ≤ 40 := by rw [ev626]; exact s_s_0.atN 0 (by decide) (by decide)
              refine lv_iconst (v := 1) hx hb dX10_planLine_177 (by decide) ?_
              refine lv_isub hx hb dX10_planLine_178 ?_
              refine lv_topi (fun v628 ev628 => ?_)
              have bv628 : v628.toInt = v626.toInt - 1 := by rw [ev628]; exact sub_k rfl rfl k627 ⟨Int.le_refl _, Int.le_refl _⟩ (by decide)
              have k629 : (-1) ≤ v628.toInt ∧ v628.toInt ≤ 39 := sub_r bv628 k627 ⟨Int.le_refl _, Int.le_refl _⟩ (by decide)
              have n630 : F599 1 = .ref h_tape := (SAME.at t606 (by decide) n581)
              have n631 : F599 3 = .int x_size := (SAME.at t606 (by decide) n584)
              have n632 : F599 5 = .int x_limit := (SAME.at t606 (by decide) n589)
              have n633 : F501 15 = .int x_fault := (SAME.at t508 (by decide) e_fault)
              have n634 : F538 15 = .int x_fault := (SAME.at t540 (by decide) n633)
              have n635 : F578 15 = .int x_fault := (get_ne eF578 (by decide) n634)
              have n636 : F599 15 = .int x_fault := (SAME.at t606 (by decide) n635)
              have n637 : F501 16 = .int x_faultAt := (SAME.at t508 (by decide) e_faultAt)
              have n638 : F538 16 = .int x_faultAt := (SAME.at t540 (by decide) n637)
              have n639 : F578 16 = .int x_faultAt := (get_ne eF578 (by decide) n638)
              have n640 : F599 16 = .int x_faultAt := (SAME.at t606 (by decide) n639)
              have n641 : F578 19 = .int y539 := (get_ne eF578 (by decide) t541)
              have n642 : F599 19 = .int y539 := (SAME.at t606 (by decide) n641)
              refine call_Vi (wr := [(h_s, .inl (cI, 335, .inl f_s)), (h_names, .inl (cJ, 36, .inr (.inl f_names))), (h_reserved, .inl (cJ, 23, .inr (.inl f_reserved))), (h_planRead, .inl (cI, 24, .inl f_planRead))]) (As := [.int 0, .int v628]) (rest := []) hx hb hml hown hw (m_X10_takes l D cI cJ cB cP cM cZ h0 h_tape F599 x_size y600 x_limit y601 y602 y604 x_fault x_faultAt y605 y539 f_tape 0 v628 _ n630 n631 i_x_size t607 t608 n632 i_x_limit t609 t610 t611 t615 n636 n640 t616 n642 (by omega)) wV_X10_242_X10_takes dX10_planLine_179 hK hP hD hS hA [4, 5] [0, 1, 2, 3] rfl rfl (by decide) (by decide) (by decide) 0 10 rfl rfl GG.fb hG.at hl.1 rfl (Nat.le_of_ble_eq_true rfl) ⟨(Nat.le_of_ble_eq_true rfl), (Nat.le_of_ble_eq_true rfl)⟩ ⟨(Nat.le_of_ble_eq_true rfl), (Nat.le_of_ble_eq_true rfl)⟩ (fun r643 u H locs hp hP hD hS => ?_)
              have zl0 : (0 : Int32).toInt = 0 := by decide
              rcases hp with hp | hp
              · obtain ⟨F644, y645, y646, t647, t648, t649, t650, t651, rfl, rfl⟩ := hp
                have hP : va_P D vwCl [(h_s, .inl (cI, 335, .inl f_s)), (h_names, .inl (cJ, 36, .inr (.inl f_names))), (h_reserved, .inl (cJ, 23, .inr (.inl f_reserved))), (h_planRead, .inl (cI, 24, .inl f_planRead)), (h0, .inr (10, vL 67 F644)), (h_tape, .inl (cB, 940, .inl f_tape))] H := hP
                have hD : va_D A [(h_s, .inl (cI, 335, .inl f_s)), (h_names, .inl (cJ, 36, .inr (.inl f_names))), (h_reserved, .inl (cJ, 23, .inr (.inl f_reserved))), (h_planRead, .inl (cI, 24, .inl f_planRead)), (h0, .inr (10, vL 67 F644)), (h_tape, .inl (cB, 940, .inl f_tape))] := hD
                refine W.widen (k := 0) (n := 0) (Nat.le_of_ble_eq_true rfl) (Nat.le_of_ble_eq_true rfl) ?_
                refine lv_if_ne (tgt := 187) hx hb dX10_planLine_182 (by decide) (fun g => absurd (by decide) g) (fun _ => ?_)
                refine lv_iconst (v := 0) hx hb dX10_planLine_185 (by decide) ?_
                exact ret_i (v := 0) hx hb hr hlocks hS (hP.sub (ws' := [(h0, .inr (10, vL 67 F644)), (h_tape, .inl (cB, 940, .inl f_tape)), (h_s, .inl (cI, 335, .inl f_s)), (h_names, .inl (cJ, 36, .inr (.inl f_names))), (h_reserved, .inl (cJ, 23, .inr (.inl f_reserved))), (h_planRead, .inl (cI, 24, .inl f_planRead))]) [4, 5, 0, 1, 2, 3] rfl) (hD.sub (ws' := [(h0, .inr (10, vL 67 F644)), (h_tape, .inl (cB, 940, .inl f_tape)), (h_s, .inl (cI, 335, .inl f_s)), (h_names, .inl (cJ, 36, .inr (.inl f_names))), (h_reserved, .inl (cJ, 23, .inr (.inl f_reserved))), (h_planRead, .inl (cI, 24, .inl f_planRead))]) [4, 5, 0, 1, 2, 3] (by decide) rfl) dX10_planLine_186 rfl (Nat.le_of_ble_eq_true rfl) (Nat.le_of_ble_eq_true rfl) (Or.inl ⟨F644, y600, y601, y602, y603, y604, y645, y646, y605, y539, x_onces, v577, x_heights, f_planRead, (SAME.tr (SAME.tr (SAME.up eF578 (SAME.tr (SAME.tr SAME.rf t508 (by decide)) t540 (by decide)) (by decide)) t606 (by decide)) t647 (by decide)), (SAME.at t647 (by decide) t607), t608, (SAME.at t647 (by decide) t609), t610, (SAME.at t647 (by decide) t611), (SAME.at t647 (by decide) t613), (SAME.at t647 (by decide) t615), t648, (ir_wk t649 (by decide) (by decide)), t650, (SAME.at t647 (by decide) t616), (SAME.at t647 (by decide) n642), (SAME.at t647 (by decide) (SAME.at t606 (by decide) (get_ne eF578 (by decide) (SAME.at t540 (by decide) (SAME.at t508 (by decide) e_onces))))), (SAME.at t647 (by decide) (SAME.at t606 (by decide) (get_eq eF578))), (SAME.at t647 (by decide) (SAME.at t606 (by decide) (get_ne eF578 (by decide) (SAME.at t540 (by decide) (SAME.at t508 (by decide) e_heights))))), s_planRead_1, s_planRead_10, (by omega), rfl, rfl⟩)
              · refine hp.elim (fun F652 h9z0 => h9z0.elim (fun y653 h9z1 => h9z1.elim (fun y654 h9z2 => h9z2.elim (fun y655 h9z3 => h9z3.elim (fun y656 h9z4 => h9z4.elim (fun y657 h9z5 => h9z5.elim (fun y658 h9z6 => h9z6.elim (fun y659 h9z7 => h9z7.elim (fun t660 h9z8 => h9z8.elim (fun t661 h9z9 => h9z9.elim (fun t662 h9z10 => h9z10.elim (fun t663 h9z11 => h9z11.elim (fun t664 h9z12 => h9z12.elim (fun t665 h9z13 => h9z13.elim (fun t666 h9z14 => h9z14.elim (fun t667 h9z15 => h9z15.elim (fun t668 h9z16 => h9z16.elim (fun t669 h9z17 => h9z17.elim (fun t670 h9z18 => h9z18.elim (fun t671 h9z19 => h9z19.elim (fun t672 h9z20 => h9z20.elim (fun t673 h9z21 => h9z21.elim (fun t674 h9z22 => h9z22.elim (fun t675 h9z23 => h9z23.elim (fun t676 h9z24 => h9z24.elim (fun t677 h9z25 => h9z25.elim (fun t678 h9z26 => h9z26.elim (fun t679 h9z27 => h9z27.elim (fun t680 h9z28 => h9z28.elim (fun t681 h9z29 => h9z29.elim (fun heq930 h9z30 => ?_)))))))))))))))))))))))))))))))
                clear h9z0 h9z1 h9z2 h9z3 h9z4 h9z5 h9z6 h9z7 h9z8 h9z9 h9z10 h9z11 h9z12 h9z13 h9z14 h9z15 h9z16 h9z17 h9z18 h9z19 h9z20 h9z21 h9z22 h9z23 h9z24 h9z25 h9z26 h9z27 h9z28 h9z29
                subst heq930
                subst h9z30
                clear t618 t621
                have hP : va_P D vwCl [(h_s, .inl (cI, 335, .inl f_s)), (h_names, .inl (cJ, 36, .inr (.inl f_names))), (h_reserved, .inl (cJ, 23, .inr (.inl f_reserved))), (h_planRead, .inl (cI, 24, .inl f_planRead)), (h0, .inr (10, vL 67 F652)), (h_tape, .inl (cB, 940, .inl f_tape))] H := hP
                have hD : va_D A [(h_s, .inl (cI, 335, .inl f_s)), (h_names, .inl (cJ, 36, .inr (.inl f_names))), (h_reserved, .inl (cJ, 23, .inr (.inl f_reserved))), (h_planRead, .inl (cI, 24, .inl f_planRead)), (h0, .inr (10, vL 67 F652)), (h_tape, .inl (cB, 940, .inl f_tape))] := hD
                refine W.widen (k := 0) (n := 0) (Nat.le_of_ble_eq_true rfl) (Nat.le_of_ble_eq_true rfl) ?_
                have k683 : 2 ≤ y601.toInt ∧ y601.toInt ≤ 2 := ⟨Int.le_trans (Int.le_refl _) (Int.le_of_eq t672.symm), Int.le_trans (Int.le_of_eq t672) (Int.le_refl _)⟩
                have k684 : 0 ≤ y604.toInt ∧ y604.toInt ≤ 2147483647 := ⟨Int.le_trans (Int.le_refl _) t673, (ir_any _).2⟩
                have k685 : 0 ≤ y604.toInt ∧ y604.toInt ≤ 39 := ⟨k684.1, Int.le_trans t674 k629.2⟩
                have k686 : 0 ≤ v628.toInt ∧ v628.toInt ≤ 39 := ⟨Int.le_trans k684.1 t674, k629.2⟩
                have k687 : 1 ≤ v626.toInt ∧ v626.toInt ≤ 40 := ⟨lin_lo (lin_m bv628) k686.1 (by decide), k627.2⟩
                refine lv_if_ne (tgt := 187) hx hb dX10_planLine_182 (by decide) (fun _ => ?_) (fun g => absurd g (by decide))
                refine lv_aload_n hx hb dX10_planLine_187 rfl (lv_at hl 1 rfl) ?_
                have n688 : F578 22 = .ref h_planRead := (get_ne eF578 (by decide) n545)
                have n689 : F599 22 = .ref h_planRead := (SAME.at t606 (by decide) n688)
                have n690 : F652 22 = .ref h_planRead := (SAME.at t660 (by decide) n689)
                refine get_f (D := D) (ci := 10) (v := .ref h_planRead) (C := RX10) (T := TX10) (N := 67) hx hb hw inAX10 hown hK hP 4 rfl rfl 22 (by decide) (hw _ q_1283) (fun _ h9 => h9) n690 dX10_planLine_188 ?_
                refine lv_iconst (v := 5) hx hb dX10_planLine_191 (by decide) ?_
                refine lv_iload_n hx hb dX10_planLine_192 rfl (lv_at hl 0 rfl) ?_
                refine lv_iadd hx hb dX10_planLine_193 ?_
                refine lv_topi (fun v691 ev691 => ?_)
                have bv691 : v691.toInt = 5 + r556.toInt := by rw [ev691]; exact add_k rfl rfl ⟨Int.le_refl _, Int.le_refl _⟩ k568 (by decide)
                have k692 : 5 ≤ v691.toInt ∧ v691.toInt ≤ 8 := add_r bv691 ⟨Int.le_refl _, Int.le_refl _⟩ k568 (by decide)
                refine lv_aload_n hx hb dX10_planLine_194 rfl (lv_at hl 1 rfl) ?_
                refine get_f (D := D) (ci := 10) (v := .int y659) (C := RX10) (T := TX10) (N := 67) hx hb hw inAX10 hown hK hP 4 rfl rfl 19 (by decide) (hw _ q_1280) (fun _ h9 => h9) t671 dX10_planLine_195 ?_
                obtain ⟨g693, eg693⟩ : ∃ z : Nat → Int32, upd f_planRead v691.toNatClampNeg y659 = z := ⟨_, rfl⟩
                have r694 : SG 1 4 0 11 g693 := by rw [← eg693]; exact s_planRead_1.up (Int.le_trans (by decide) k692.1) (Or.inr (Or.inl (dec_lt k692.1 (by decide))))
                have r695 : SG 10 10 0 5 g693 := by rw [← eg693]; exact s_planRead_10.up (Int.le_trans (by decide) k692.1) (Or.inl (lt_dec k692.2 (by decide)))
                refine iast_g hx hb hK hP hD hS 3 0 rfl rfl (ix_k k692 (by decide) (by decide)) eg693 dX10_planLine_198 (fun H locs hP hD hS => ?_)
                have hP : va_P D vwCl [(h_s, .inl (cI, 335, .inl f_s)), (h_names, .inl (cJ, 36, .inr (.inl f_names))), (h_reserved, .inl (cJ, 23, .inr (.inl f_reserved))), (h_planRead, .inl (cI, 24, .inl g693)), (h0, .inr (10, vL 67 F652)), (h_tape, .inl (cB, 940, .inl f_tape))] H := hP
                have hD : va_D A [(h_s, .inl (cI, 335, .inl f_s)), (h_names, .inl (cJ, 36, .inr (.inl f_names))), (h_reserved, .inl (cJ, 23, .inr (.inl f_reserved))), (h_planRead, .inl (cI, 24, .inl g693)), (h0, .inr (10, vL 67 F652)), (h_tape, .inl (cB, 940, .inl f_tape))] := hD
                refine lv_iconst (v := 1) hx hb dX10_planLine_199 (by decide) ?_
                exact ret_i (v := 1) hx hb hr hlocks hS (hP.sub (ws' := [(h0, .inr (10, vL 67 F652)), (h_tape, .inl (cB, 940, .inl f_tape)), (h_s, .inl (cI, 335, .inl f_s)), (h_names, .inl (cJ, 36, .inr (.inl f_names))), (h_reserved, .inl (cJ, 23, .inr (.inl f_reserved))), (h_planRead, .inl (cI, 24, .inl g693))]) [4, 5, 0, 1, 2, 3] rfl) (hD.sub (ws' := [(h0, .inr (10, vL 67 F652)), (h_tape, .inl (cB, 940, .inl f_tape)), (h_s, .inl (cI, 335, .inl f_s)), (h_names, .inl (cJ, 36, .inr (.inl f_names))), (h_reserved, .inl (cJ, 23, .inr (.inl f_reserved))), (h_planRead, .inl (cI, 24, .inl g693))]) [4, 5, 0, 1, 2, 3] (by decide) rfl) dX10_planLine_200 rfl (Nat.le_of_ble_eq_true rfl) (Nat.le_of_ble_eq_true rfl) (Or.inr ⟨F652, y653, y654, y655, y656, y657, x_fault, x_faultAt, y658, y659, x_onces, v577, x_heights, g693, (SAME.tr (SAME.tr (SAME.up eF578 (SAME.tr (SAME.tr SAME.rf t508 (by decide)) t540 (by decide)) (by decide)) t606 (by decide)) t660 (by decide)), t661, t662, t663, t664, t665, t666, t667, t668, t669, (SAME.at t660 (by decide) n636), (SAME.at t660 (by decide) n640), t670, t671, (SAME.at t660 (by decide) (SAME.at t606 (by decide) (get_ne eF578 (by decide) (SAME.at t540 (by decide) (SAME.at t508 (by decide) e_onces))))), (SAME.at t660 (by decide) (SAME.at t606 (by decide) (get_eq eF578))), (SAME.at t660 (by decide) (SAME.at t606 (by decide) (get_ne eF578 (by decide) (SAME.at t540 (by decide) (SAME.at t508 (by decide) e_heights))))), r694, r695, (by have zl1 : (1 : Int32).toInt = 1 := (by decide); omega), (by have zl1 : (1 : Int32).toInt = 1 := (by decide); omega), t680, (by omega), rfl, rfl⟩)
            · have hP : va_P D vwCl [(h_tape, .inl (cB, 940, .inl f_tape)), (h_s, .inl (cI, 335, .inl f_s)), (h_names, .inl (cJ, 36, .inr (.inl f_names))), (h_reserved, .inl (cJ, 23, .inr (.inl f_reserved))), (h0, .inr (10, vL 67 F538)), (h_planRead, .inl (cI, 24, .inl f_planRead))] H := hP
              have hD : va_D A [(h_tape, .inl (cB, 940, .inl f_tape)), (h_s, .inl (cI, 335, .inl f_s)), (h_names, .inl (cJ, 36, .inr (.inl f_names))), (h_reserved, .inl (cJ, 23, .inr (.inl f_reserved))), (h0, .inr (10, vL 67 F538)), (h_planRead, .inl (cI, 24, .inl f_planRead))] := hD
              refine W.widen (k := 0) (n := 0) (Nat.le_of_ble_eq_true rfl) (Nat.le_of_ble_eq_true rfl) ?_
              refine lv_if_eq (tgt := 153) hx hb dX10_planLine_144 (by decide) (fun g => absurd g (by decide)) (fun _ => ?_)
              refine lv_aload_n hx hb dX10_planLine_147 rfl (lv_at hl 1 rfl) ?_
              refine lv_iconst (v := 3) hx hb dX10_planLine_148 (by decide) ?_
              have n696 : F538 12 = .int y504 := (SAME.at t540 (by decide) t513)
              refine call_Vi (wr := [(h_tape, .inl (cB, 940, .inl f_tape)), (h_s, .inl (cI, 335, .inl f_s)), (h_names, .inl (cJ, 36, .inr (.inl f_names))), (h_reserved, .inl (cJ, 23, .inr (.inl f_reserved))), (h_planRead, .inl (cI, 24, .inl f_planRead))]) (As := [.int 3]) (rest := []) hx hb hml hown hw (m_X10_bad l D cI cJ cB cP cM cZ h0 F538 y504 3 _ n696) wV_X10_205_X10_bad dX10_planLine_149 hK hP hD hS hA [4] [0, 1, 2, 3, 5] rfl rfl (by decide) (by decide) (by decide) 0 10 rfl rfl GG.fb hG.at hl.1 rfl (Nat.le_of_ble_eq_true rfl) ⟨(Nat.le_of_ble_eq_true rfl), (Nat.le_of_ble_eq_true rfl)⟩ ⟨(Nat.le_of_ble_eq_true rfl), (Nat.le_of_ble_eq_true rfl)⟩ (fun r697 u H locs hp hP hD hS => ?_)
              have zl3 : (3 : Int32).toInt = 3 := by decide
              obtain ⟨F698, t699, t700, t701, rfl, rfl⟩ := hp
              have hP : va_P D vwCl [(h_tape, .inl (cB, 940, .inl f_tape)), (h_s, .inl (cI, 335, .inl f_s)), (h_names, .inl (cJ, 36, .inr (.inl f_names))), (h_reserved, .inl (cJ, 23, .inr (.inl f_reserved))), (h_planRead, .inl (cI, 24, .inl f_planRead)), (h0, .inr (10, vL 67 F698))] H := hP
              have hD : va_D A [(h_tape, .inl (cB, 940, .inl f_tape)), (h_s, .inl (cI, 335, .inl f_s)), (h_names, .inl (cJ, 36, .inr (.inl f_names))), (h_reserved, .inl (cJ, 23, .inr (.inl f_reserved))), (h_planRead, .inl (cI, 24, .inl f_planRead)), (h0, .inr (10, vL 67 F698))] := hD
              refine W.widen (k := 0) (n := 0) (Nat.le_of_ble_eq_true rfl) (Nat.le_of_ble_eq_true rfl) ?_
              exact ret_i (v := 0) hx hb hr hlocks hS (hP.sub (ws' := [(h0, .inr (10, vL 67 F698)), (h_tape, .inl (cB, 940, .inl f_tape)), (h_s, .inl (cI, 335, .inl f_s)), (h_names, .inl (cJ, 36, .inr (.inl f_names))), (h_reserved, .inl (cJ, 23, .inr (.inl f_reserved))), (h_planRead, .inl (cI, 24, .inl f_planRead))]) [5, 0, 1, 2, 3, 4] rfl) (hD.sub (ws' := [(h0, .inr (10, vL 67 F698)), (h_tape, .inl (cB, 940, .inl f_tape)), (h_s, .inl (cI, 335, .inl f_s)), (h_names, .inl (cJ, 36, .inr (.inl f_names))), (h_reserved, .inl (cJ, 23, .inr (.inl f_reserved))), (h_planRead, .inl (cI, 24, .inl f_planRead))]) [5, 0, 1, 2, 3, 4] (by decide) rfl) dX10_planLine_152 rfl (Nat.le_of_ble_eq_true rfl) (Nat.le_of_ble_eq_true rfl) (Or.inl ⟨F698, y502, y503, y504, y505, y506, 3, y504, y507, y539, x_onces, x_jumped, x_heights, f_planRead, (SAME.tr (SAME.tr (SAME.tr SAME.rf t508 (by decide)) t540 (by decide)) t699 (by decide)), (SAME.at t699 (by decide) (SAME.at t540 (by decide) t509)), t510, (SAME.at t699 (by decide) (SAME.at t540 (by decide) t511)), t512, (SAME.at t699 (by decide) n696), (SAME.at t699 (by decide) (SAME.at t540 (by decide) t515)), (SAME.at t699 (by decide) (SAME.at t540 (by decide) t517)), t700, (show 1 ≤ (3 : Int32).toInt ∧ (3 : Int32).toInt ≤ 3 by decide), t701, (SAME.at t699 (by decide) (SAME.at t540 (by decide) t518)), (SAME.at t699 (by decide) t541), (SAME.at t699 (by decide) (SAME.at t540 (by decide) (SAME.at t508 (by decide) e_onces))), (SAME.at t699 (by decide) n570), (SAME.at t699 (by decide) (SAME.at t540 (by decide) (SAME.at t508 (by decide) e_heights))), s_planRead_1, s_planRead_10, (by have zl3 : (3 : Int32).toInt = 3 := (by decide); omega), rfl, rfl⟩)
  · have dc5 : r1.toInt ≠ 0 := ne_i (a := r1.toInt) (b := 0) rfl rfl c5
    have k703 : 1 ≤ r1.toInt ∧ r1.toInt ≤ 1 := ⟨ne_lo dc5 t2.1 ⟨Int.le_refl _, Int.le_refl _⟩ (by decide), t2.2⟩
    refine lv_aload_n hx hb dX10_planLine_10 rfl (lv_at hl 0 rfl) ?_
    refine lv_iconst (v := 0) hx hb dX10_planLine_11 (by decide) ?_
    refine call_Vi (wr := [(h_s, .inl (cI, 335, .inl f_s)), (h_names, .inl (cJ, 36, .inr (.inl f_names))), (h_reserved, .inl (cJ, 23, .inr (.inl f_reserved))), (h_planRead, .inl (cI, 24, .inl f_planRead))]) (As := [.int 0]) (rest := []) hx hb hml hown hw (m_X10_isOnce l D cI cJ cB cP cM cZ h0 h_tape Fh x_size x_p x_limit x_token x_at x_number x_fault x_faultAt x_word x_onces f_tape 0 _ e_tape e_size i_x_size e_p i_x_p e_limit i_x_limit e_token i_x_token e_at e_number e_fault e_faultAt e_word e_onces (by omega)) wV_X10_239_X10_isOnce dX10_planLine_12 hK hP hD hS hA [5, 0] [1, 2, 3, 4] rfl rfl (by decide) (by decide) (by decide) 0 10 rfl rfl GG.fb hG.at hl.1 rfl (Nat.le_of_ble_eq_true rfl) ⟨(Nat.le_of_ble_eq_true rfl), (Nat.le_of_ble_eq_true rfl)⟩ ⟨(Nat.le_of_ble_eq_true rfl), (Nat.le_of_ble_eq_true rfl)⟩ (fun r704 u H locs hp hP hD hS => ?_)
    have zl0 : (0 : Int32).toInt = 0 := by decide
    rcases hp with hp | hp
    · refine hp.elim (fun F705 h9z0 => h9z0.elim (fun y706 h9z1 => h9z1.elim (fun y707 h9z2 => h9z2.elim (fun y708 h9z3 => h9z3.elim (fun y709 h9z4 => h9z4.elim (fun y710 h9z5 => h9z5.elim (fun y711 h9z6 => h9z6.elim (fun y712 h9z7 => h9z7.elim (fun t713 h9z8 => h9z8.elim (fun t714 h9z9 => h9z9.elim (fun t715 h9z10 => h9z10.elim (fun t716 h9z11 => h9z11.elim (fun t717 h9z12 => h9z12.elim (fun t718 h9z13 => h9z13.elim (fun t719 h9z14 => h9z14.elim (fun t720 h9z15 => h9z15.elim (fun t721 h9z16 => h9z16.elim (fun t722 h9z17 => h9z17.elim (fun t723 h9z18 => h9z18.elim (fun t724 h9z19 => h9z19.elim (fun t725 h9z20 => h9z20.elim (fun t726 h9z21 => h9z21.elim (fun t727 h9z22 => h9z22.elim (fun t728 h9z23 => h9z23.elim (fun t729 h9z24 => h9z24.elim (fun t730 h9z25 => h9z25.elim (fun t731 h9z26 => h9z26.elim (fun heq927 h9z27 => ?_))))))))))))))))))))))))))))
      clear h9z0 h9z1 h9z2 h9z3 h9z4 h9z5 h9z6 h9z7 h9z8 h9z9 h9z10 h9z11 h9z12 h9z13 h9z14 h9z15 h9z16 h9z17 h9z18 h9z19 h9z20 h9z21 h9z22 h9z23 h9z24 h9z25 h9z26
      subst heq927
      subst h9z27
      have hP : va_P D vwCl [(h_s, .inl (cI, 335, .inl f_s)), (h_names, .inl (cJ, 36, .inr (.inl f_names))), (h_reserved, .inl (cJ, 23, .inr (.inl f_reserved))), (h_planRead, .inl (cI, 24, .inl f_planRead)), (h0, .inr (10, vL 67 F705)), (h_tape, .inl (cB, 940, .inl f_tape))] H := hP
      have hD : va_D A [(h_s, .inl (cI, 335, .inl f_s)), (h_names, .inl (cJ, 36, .inr (.inl f_names))), (h_reserved, .inl (cJ, 23, .inr (.inl f_reserved))), (h_planRead, .inl (cI, 24, .inl f_planRead)), (h0, .inr (10, vL 67 F705)), (h_tape, .inl (cB, 940, .inl f_tape))] := hD
      refine W.widen (k := 0) (n := 0) (Nat.le_of_ble_eq_true rfl) (Nat.le_of_ble_eq_true rfl) ?_
      refine lv_if_ne (tgt := 20) hx hb dX10_planLine_15 (by decide) (fun _ => ?_) (fun g => absurd g (by decide))
      refine lv_iconst (v := 0) hx hb dX10_planLine_20 (by decide) ?_
      refine lv_istore_n (lv' := [(1, .int 0), (0, .ref h0)]) hx hb dX10_planLine_21 rfl hl (by decide) rfl (fun ls hl => ?_)
      have n755 : F705 15 = .int x_fault := (SAME.at t713 (by decide) e_fault)
      have n756 : F705 16 = .int x_faultAt := (SAME.at t713 (by decide) e_faultAt)
      have n757 : F705 19 = .int x_got := (SAME.at t713 (by decide) e_got)
      refine mloop (α := (Int32) × (Nat → Int32) × (Nat → Value) × (Int32) × (Int32) × (Int32) × (Int32) × (Int32) × (Int32) × (Int32) × (Int64) × (Int32)) (nL := 2) (D := D) (A := A) (H0 := s.heap) (fun a => (4 - a.1.toInt).toNat) (fun a => IR 0 4 a.1 ∧ SG 1 4 0 11 a.2.1 ∧ SG 10 10 0 5 a.2.1 ∧ SAME [4, 11, 12, 13, 14, 15, 16, 18, 19] F705 a.2.2.1 ∧ a.2.2.1 4 = .int a.2.2.2.1 ∧ a.2.2.1 11 = .int a.2.2.2.2.1 ∧ a.2.2.1 12 = .int a.2.2.2.2.2.1 ∧ a.2.2.1 13 = .int a.2.2.2.2.2.2.1 ∧ a.2.2.1 14 = .int a.2.2.2.2.2.2.2.1 ∧ a.2.2.1 15 = .int a.2.2.2.2.2.2.2.2.1 ∧ a.2.2.1 16 = .int a.2.2.2.2.2.2.2.2.2.1 ∧ a.2.2.1 18 = .long a.2.2.2.2.2.2.2.2.2.2.1 ∧ a.2.2.1 19 = .int a.2.2.2.2.2.2.2.2.2.2.2 ∧ IR 0 940 a.2.2.2.1 ∧ IR 0 4 a.2.2.2.2.1 ∧ IR 0 940 a.2.2.2.2.2.1 ∧ IR 0 940 a.2.2.2.2.2.2.1 ∧ (x_p.toInt ≤ a.2.2.2.1.toInt) ∧ ((1 ≤ a.2.2.2.2.1.toInt → a.2.2.2.2.1.toInt ≤ 3 → x_p.toInt < a.2.2.2.1.toInt)) ∧ ((VWF a.2.2.2.2.1.toInt a.2.2.2.2.2.2.2.2.2.2.1.toInt)) ∧ ((a.2.2.2.2.1.toInt = 2 → 0 ≤ a.2.2.2.2.2.2.2.1.toInt ∧ a.2.2.2.2.2.2.2.1.toInt ≤ 999))) (fun a => [(h_s, .inl (cI, 335, .inl f_s)), (h_names, .inl (cJ, 36, .inr (.inl f_names))), (h_reserved, .inl (cJ, 23, .inr (.inl f_reserved))), (h_planRead, .inl (cI, 24, .inl a.2.1)), (h0, .inr (10, vL 67 a.2.2.1)), (h_tape, .inl (cB, 940, .inl f_tape))]) (fun a => [(1, .int a.1), (0, .ref h0)]) (fun H locs ls => W p l e ({ frames := 3, cells := 0, slots := 0, locals := 65 } : Room) s m [.ref h0].toArray below meth c H locs 0 0 (MQ below (va_Qi (fun (r : Int32) (u : va_W) => (∃ (Gh : Nat → Value) (y_p : Int32) (y_token : Int32) (y_at : Int32) (y_span : Int32) (y_number : Int32) (y_fault : Int32) (y_faultAt : Int32) (y_word : Int64) (y_got : Int32) (y_onces : Int32) (y_jumped : Int32) (y_heights : Int32) (g_planRead : Nat → Int32), SAME [4, 11, 12, 13, 14, 15, 16, 18, 19, 21, 23, 24] Fh Gh ∧ Gh 4 = .int y_p ∧ IR 0 940 y_p ∧ Gh 11 = .int y_token ∧ IR 0 4 y_token ∧ Gh 12 = .int y_at ∧ Gh 13 = .int y_span ∧ Gh 14 = .int y_number ∧ Gh 15 = .int y_fault ∧ IR 1 3 y_fault ∧ Gh 16 = .int y_faultAt ∧ Gh 18 = .long y_word ∧ Gh 19 = .int y_got ∧ Gh 21 = .int y_onces ∧ Gh 23 = .int y_jumped ∧ Gh 24 = .int y_heights ∧ SG 1 4 0 11 g_planRead ∧ SG 10 10 0 5 g_planRead ∧ ((y_token.toInt = 2 → 0 ≤ y_number.toInt ∧ y_number.toInt ≤ 999)) ∧ r = 0 ∧ u = [(h0, .inr (10, vL 67 Gh)), (h_tape, .inl (cB, 940, .inl f_tape)), (h_s, .inl (cI, 335, .inl f_s)), (h_names, .inl (cJ, 36, .inr (.inl f_names))), (h_reserved, .inl (cJ, 23, .inr (.inl f_reserved))), (h_planRead, .inl (cI, 24, .inl g_planRead))]) ∨ (∃ (Gh : Nat → Value) (y_p : Int32) (y_token : Int32) (y_at : Int32) (y_span : Int32) (y_number : Int32) (y_fault : Int32) (y_faultAt : Int32) (y_word : Int64) (y_got : Int32) (y_onces : Int32) (y_jumped : Int32) (y_heights : Int32) (g_planRead : Nat → Int32), SAME [4, 11, 12, 13, 14, 15, 16, 18, 19, 21, 23, 24] Fh Gh ∧ Gh 4 = .int y_p ∧ IR 0 940 y_p ∧ Gh 11 = .int y_token ∧ IR 0 4 y_token ∧ Gh 12 = .int y_at ∧ IR 0 940 y_at ∧ Gh 13 = .int y_span ∧ IR 0 940 y_span ∧ Gh 14 = .int y_number ∧ Gh 15 = .int y_fault ∧ Gh 16 = .int y_faultAt ∧ Gh 18 = .long y_word ∧ Gh 19 = .int y_got ∧ Gh 21 = .int y_onces ∧ Gh 23 = .int y_jumped ∧ Gh 24 = .int y_heights ∧ SG 1 4 0 11 g_planRead ∧ SG 10 10 0 5 g_planRead ∧ (x_p.toInt ≤ y_p.toInt) ∧ ((1 ≤ y_token.toInt → y_token.toInt ≤ 3 → x_p.toInt < y_p.toInt)) ∧ ((VWF y_token.toInt y_word.toInt)) ∧ ((y_token.toInt = 2 → 0 ≤ y_number.toInt ∧ y_number.toInt ≤ 999)) ∧ r = 1 ∧ u = [(h0, .inr (10, vL 67 Gh)), (h_tape, .inl (cB, 940, .inl f_tape)), (h_s, .inl (cI, 335, .inl f_s)), (h_names, .inl (cJ, 36, .inr (.inl f_names))), (h_reserved, .inl (cJ, 23, .inr (.inl f_reserved))), (h_planRead, .inl (cI, 24, .inl g_planRead))])) (PO D A) A) [.ref h0].toArray s 0 0 A) (F0 m 22 ls [])) ?_ (0, f_planRead, F705, y706, y707, y708, y709, y710, x_fault, x_faultAt, y711, x_got) ⟨(show 0 ≤ (0 : Int32).toInt ∧ (0 : Int32).toInt ≤ 4 by decide), s_planRead_1, s_planRead_10, SAME.rf, t714, t716, t718, t720, t722, n755, n756, t723, n757, t715, t717, t719, t721, (by show x_p.toInt ≤ y706.toInt; omega), (by show (1 ≤ y707.toInt → y707.toInt ≤ 3 → x_p.toInt < y706.toInt); omega), (show (VWF y707.toInt y711.toInt) from t730), (by show (y707.toInt = 2 → 0 ≤ y710.toInt ∧ y710.toInt ≤ 999); omega)⟩ _ _ _ hP hD hS hl
      rintro ⟨u743, w744, G745, u746, u747, u748, u749, u750, u751, u752, u753, u754⟩ ⟨i758, i759, i760, i761, i762, i763, i764, i765, i766, i767, i768, i769, i770, i771, i772, i773, i774, i775, i776, i777, i778⟩ ih H locs ls hP hD hS hl
      have i758 : 0 ≤ u743.toInt ∧ u743.toInt ≤ 4 := i758
      have i771 : 0 ≤ u746.toInt ∧ u746.toInt ≤ 940 := i771
      have i772 : 0 ≤ u747.toInt ∧ u747.toInt ≤ 4 := i772
      have i773 : 0 ≤ u748.toInt ∧ u748.toInt ≤ 940 := i773
      have i774 : 0 ≤ u749.toInt ∧ u749.toInt ≤ 940 := i774
      have i775 : x_p.toInt ≤ u746.toInt := i775
      have i776 : (1 ≤ u747.toInt → u747.toInt ≤ 3 → x_p.toInt < u746.toInt) := i776
      have i777 : (VWF u747.toInt u753.toInt) := i777
      have i778 : (u747.toInt = 2 → 0 ≤ u750.toInt ∧ u750.toInt ≤ 999) := i778
      have hP : va_P D vwCl [(h_s, .inl (cI, 335, .inl f_s)), (h_names, .inl (cJ, 36, .inr (.inl f_names))), (h_reserved, .inl (cJ, 23, .inr (.inl f_reserved))), (h_planRead, .inl (cI, 24, .inl w744)), (h0, .inr (10, vL 67 G745)), (h_tape, .inl (cB, 940, .inl f_tape))] H := hP
      have hD : va_D A [(h_s, .inl (cI, 335, .inl f_s)), (h_names, .inl (cJ, 36, .inr (.inl f_names))), (h_reserved, .inl (cJ, 23, .inr (.inl f_reserved))), (h_planRead, .inl (cI, 24, .inl w744)), (h0, .inr (10, vL 67 G745)), (h_tape, .inl (cB, 940, .inl f_tape))] := hD
      have hl : lv_has ls 2 [(1, .int u743), (0, .ref h0)] := hl
      refine lv_iload_n hx hb dX10_planLine_22 rfl (lv_at hl 0 rfl) ?_
      refine lv_iconst (v := 4) hx hb dX10_planLine_23 (by decide) ?_
      refine lv_icmp_ge (tgt := 76) hx hb dX10_planLine_24 (by decide) (fun c779 => ?_) (fun c779 => ?_)
      · have dc779 : 4 ≤ u743.toInt := le_i (a := 4) (b := u743.toInt) rfl rfl c779
        have k780 : 4 ≤ u743.toInt ∧ u743.toInt ≤ 4 := ⟨Int.le_trans (Int.le_refl _) dc779, i758.2⟩
        refine lv_aload_n hx hb dX10_planLine_76 rfl (lv_at hl 1 rfl) ?_
        have n781 : F705 22 = .ref h_planRead := (SAME.at t713 (by decide) e_planRead)
        have n782 : G745 22 = .ref h_planRead := (SAME.at i761 (by decide) n781)
        refine get_f (D := D) (ci := 10) (v := .ref h_planRead) (C := RX10) (T := TX10) (N := 67) hx hb hw inAX10 hown hK hP 4 rfl rfl 22 (by decide) (hw _ q_1283) (fun _ h9 => h9) n782 dX10_planLine_77 ?_
        refine lv_iconst (v := 0) hx hb dX10_planLine_80 (by decide) ?_
        refine lv_iconst (v := 1) hx hb dX10_planLine_81 (by decide) ?_
        obtain ⟨g783, eg783⟩ : ∃ z : Nat → Int32, upd w744 0 1 = z := ⟨_, rfl⟩
        have r784 : SG 1 4 0 11 g783 := by rw [← eg783]; exact i759.upN (Or.inl (by decide))
        have r785 : SG 10 10 0 5 g783 := by rw [← eg783]; exact i760.upN (Or.inl (by decide))
        refine iast_n hx hb hK hP hD hS 3 0 rfl rfl 0 rfl (Nat.le_of_ble_eq_true rfl) (Nat.le_of_ble_eq_true rfl) eg783 dX10_planLine_82 (fun H locs hP hD hS => ?_)
        have hP : va_P D vwCl [(h_s, .inl (cI, 335, .inl f_s)), (h_names, .inl (cJ, 36, .inr (.inl f_names))), (h_reserved, .inl (cJ, 23, .inr (.inl f_reserved))), (h_planRead, .inl (cI, 24, .inl g783)), (h0, .inr (10, vL 67 G745)), (h_tape, .inl (cB, 940, .inl f_tape))] H := hP
        have hD : va_D A [(h_s, .inl (cI, 335, .inl f_s)), (h_names, .inl (cJ, 36, .inr (.inl f_names))), (h_reserved, .inl (cJ, 23, .inr (.inl f_reserved))), (h_planRead, .inl (cI, 24, .inl g783)), (h0, .inr (10, vL 67 G745)), (h_tape, .inl (cB, 940, .inl f_tape))] := hD
        refine lv_iconst (v := 1) hx hb dX10_planLine_83 (by decide) ?_
        exact ret_i (v := 1) hx hb hr hlocks hS (hP.sub (ws' := [(h0, .inr (10, vL 67 G745)), (h_tape, .inl (cB, 940, .inl f_tape)), (h_s, .inl (cI, 335, .inl f_s)), (h_names, .inl (cJ, 36, .inr (.inl f_names))), (h_reserved, .inl (cJ, 23, .inr (.inl f_reserved))), (h_planRead, .inl (cI, 24, .inl g783))]) [4, 5, 0, 1, 2, 3] rfl) (hD.sub (ws' := [(h0, .inr (10, vL 67 G745)), (h_tape, .inl (cB, 940, .inl f_tape)), (h_s, .inl (cI, 335, .inl f_s)), (h_names, .inl (cJ, 36, .inr (.inl f_names))), (h_reserved, .inl (cJ, 23, .inr (.inl f_reserved))), (h_planRead, .inl (cI, 24, .inl g783))]) [4, 5, 0, 1, 2, 3] (by decide) rfl) dX10_planLine_84 rfl (Nat.le_of_ble_eq_true rfl) (Nat.le_of_ble_eq_true rfl) (Or.inr ⟨G745, u746, u747, u748, u749, u750, u751, u752, u753, u754, y712, x_jumped, x_heights, g783, (SAME.tr (SAME.tr SAME.rf t713 (by decide)) i761 (by decide)), i762, i771, i763, i772, i764, i773, i765, i774, i766, i767, i768, i769, i770, (SAME.at i761 (by decide) t724), (SAME.at i761 (by decide) (SAME.at t713 (by decide) e_jumped)), (SAME.at i761 (by decide) (SAME.at t713 (by decide) e_heights)), r784, r785, (by have zl1 : (1 : Int32).toInt = 1 := (by decide); omega), (by have zl1 : (1 : Int32).toInt = 1 := (by decide); omega), i777, (by omega), rfl, rfl⟩)
      · have dc779 : u743.toInt < 4 := nle_i (a := 4) (b := u743.toInt) rfl rfl c779
        have k786 : 0 ≤ u743.toInt ∧ u743.toInt ≤ 3 := ⟨i758.1, up_lt dc779 (Int.le_refl _) (by decide)⟩
        refine lv_aload_n hx hb dX10_planLine_27 rfl (lv_at hl 1 rfl) ?_
        have n787 : F705 6 = .ref h_s := (SAME.at t713 (by decide) e_s)
        have n788 : G745 6 = .ref h_s := (SAME.at i761 (by decide) n787)
        have n789 : F705 9 = .ref h_names := (SAME.at t713 (by decide) e_names)
        have n790 : G745 9 = .ref h_names := (SAME.at i761 (by decide) n789)
        have n791 : F705 10 = .ref h_reserved := (SAME.at t713 (by decide) e_reserved)
        have n792 : G745 10 = .ref h_reserved := (SAME.at i761 (by decide) n791)
        refine call_Vi (wr := [(h_planRead, .inl (cI, 24, .inl w744)), (h_tape, .inl (cB, 940, .inl f_tape))]) (As := []) (rest := []) hx hb hml hown hw (m_X10_looksAtMan l D cI cJ cB cP cM cZ h0 h_s h_names h_reserved G745 u747 u748 u750 u753 u754 f_s f_names f_reserved _ n788 n790 n792 i763 i772 i764 i766 i769 i770 s_s_K0 s_s_0 s_s_105 s_s_114 s_s_130 s_s_139 s_s_153 s_s_44 s_s_5 s_s_6 s_s_7 s_reserved_KR i777 (by omega)) wV_X10_266_X10_looksAtMan dX10_planLine_28 hK hP hD hS hA [4, 0, 1, 2] [3, 5] rfl rfl (by decide) (by decide) (by decide) 0 10 rfl rfl GG.fb hG.at hl.1 rfl (Nat.le_of_ble_eq_true rfl) ⟨(Nat.le_of_ble_eq_true rfl), (Nat.le_of_ble_eq_true rfl)⟩ ⟨(Nat.le_of_ble_eq_true rfl), (Nat.le_of_ble_eq_true rfl)⟩ (fun r793 u H locs hp hP hD hS => ?_)
        rcases hp with ⟨F794, y795, y796, t797, t798, t799, t800, t801, rfl, rfl⟩ | ⟨F802, y803, t804, t805, t806, rfl, rfl⟩
        · have hP : va_P D vwCl [(h_planRead, .inl (cI, 24, .inl w744)), (h_tape, .inl (cB, 940, .inl f_tape)), (h0, .inr (10, vL 67 F794)), (h_s, .inl (cI, 335, .inl f_s)), (h_names, .inl (cJ, 36, .inr (.inl f_names))), (h_reserved, .inl (cJ, 23, .inr (.inl f_reserved)))] H := hP
          have hD : va_D A [(h_planRead, .inl (cI, 24, .inl w744)), (h_tape, .inl (cB, 940, .inl f_tape)), (h0, .inr (10, vL 67 F794)), (h_s, .inl (cI, 335, .inl f_s)), (h_names, .inl (cJ, 36, .inr (.inl f_names))), (h_reserved, .inl (cJ, 23, .inr (.inl f_reserved)))] := hD
          refine W.widen (k := 0) (n := 0) (Nat.le_of_ble_eq_true rfl) (Nat.le_of_ble_eq_true rfl) ?_
          refine lv_if_ne (tgt := 36) hx hb dX10_planLine_31 (by decide) (fun g => absurd (by decide) g) (fun _ => ?_)
          refine lv_iconst (v := 0) hx hb dX10_planLine_34 (by decide) ?_
          exact ret_i (v := 0) hx hb hr hlocks hS (hP.sub (ws' := [(h0, .inr (10, vL 67 F794)), (h_tape, .inl (cB, 940, .inl f_tape)), (h_s, .inl (cI, 335, .inl f_s)), (h_names, .inl (cJ, 36, .inr (.inl f_names))), (h_reserved, .inl (cJ, 23, .inr (.inl f_reserved))), (h_planRead, .inl (cI, 24, .inl w744))]) [2, 1, 3, 4, 5, 0] rfl) (hD.sub (ws' := [(h0, .inr (10, vL 67 F794)), (h_tape, .inl (cB, 940, .inl f_tape)), (h_s, .inl (cI, 335, .inl f_s)), (h_names, .inl (cJ, 36, .inr (.inl f_names))), (h_reserved, .inl (cJ, 23, .inr (.inl f_reserved))), (h_planRead, .inl (cI, 24, .inl w744))]) [2, 1, 3, 4, 5, 0] (by decide) rfl) dX10_planLine_35 rfl (Nat.le_of_ble_eq_true rfl) (Nat.le_of_ble_eq_true rfl) (Or.inl ⟨F794, u746, u747, u748, u749, u750, y795, u748, u753, y796, y712, x_jumped, x_heights, w744, (SAME.tr (SAME.tr (SAME.tr SAME.rf t713 (by decide)) i761 (by decide)) t797 (by decide)), (SAME.at t797 (by decide) i762), i771, (SAME.at t797 (by decide) i763), i772, (SAME.at t797 (by decide) i764), (SAME.at t797 (by decide) i765), (SAME.at t797 (by decide) i766), t798, t799, t800, (SAME.at t797 (by decide) i769), t801, (SAME.at t797 (by decide) (SAME.at i761 (by decide) t724)), (SAME.at t797 (by decide) (SAME.at i761 (by decide) (SAME.at t713 (by decide) e_jumped))), (SAME.at t797 (by decide) (SAME.at i761 (by decide) (SAME.at t713 (by decide) e_heights))), i759, i760, (by omega), rfl, rfl⟩)
        · have hP : va_P D vwCl [(h_planRead, .inl (cI, 24, .inl w744)), (h_tape, .inl (cB, 940, .inl f_tape)), (h0, .inr (10, vL 67 F802)), (h_s, .inl (cI, 335, .inl f_s)), (h_names, .inl (cJ, 36, .inr (.inl f_names))), (h_reserved, .inl (cJ, 23, .inr (.inl f_reserved)))] H := hP
          have hD : va_D A [(h_planRead, .inl (cI, 24, .inl w744)), (h_tape, .inl (cB, 940, .inl f_tape)), (h0, .inr (10, vL 67 F802)), (h_s, .inl (cI, 335, .inl f_s)), (h_names, .inl (cJ, 36, .inr (.inl f_names))), (h_reserved, .inl (cJ, 23, .inr (.inl f_reserved)))] := hD
          refine W.widen (k := 0) (n := 0) (Nat.le_of_ble_eq_true rfl) (Nat.le_of_ble_eq_true rfl) ?_
          refine lv_if_ne (tgt := 36) hx hb dX10_planLine_31 (by decide) (fun _ => ?_) (fun g => absurd g (by decide))
          refine lv_aload_n hx hb dX10_planLine_36 rfl (lv_at hl 1 rfl) ?_
          refine lv_aload_n hx hb dX10_planLine_37 rfl (lv_at hl 1 rfl) ?_
          refine get_f (D := D) (ci := 10) (v := .int y803) (C := RX10) (T := TX10) (N := 67) hx hb hw inAX10 hown hK hP 2 rfl rfl 19 (by decide) (hw _ q_1280) (fun _ h9 => h9) t805 dX10_planLine_38 ?_
          refine lv_iload_n hx hb dX10_planLine_41 rfl (lv_at hl 0 rfl) ?_
          have n808 : F705 22 = .ref h_planRead := (SAME.at t713 (by decide) e_planRead)
          have n809 : G745 22 = .ref h_planRead := (SAME.at i761 (by decide) n808)
          have n810 : F802 22 = .ref h_planRead := (SAME.at t804 (by decide) n809)
          refine call_Vi (wr := [(h_tape, .inl (cB, 940, .inl f_tape)), (h_s, .inl (cI, 335, .inl f_s)), (h_names, .inl (cJ, 36, .inr (.inl f_names))), (h_reserved, .inl (cJ, 23, .inr (.inl f_reserved)))]) (As := [.int y803, .int u743]) (rest := []) hx hb hml hown hw (m_X10_placeIn l D cI cJ cB cP cM cZ h0 h_planRead F802 w744 y803 u743 _ n810 i759 i760 (ir_wk k786 (by decide) (by decide))) wV_X10_269_X10_placeIn dX10_planLine_42 hK hP hD hS hA [2, 0] [1, 3, 4, 5] rfl rfl (by decide) (by decide) (by decide) 0 10 rfl rfl GG.fb hG.at hl.1 rfl (Nat.le_of_ble_eq_true rfl) ⟨(Nat.le_of_ble_eq_true rfl), (Nat.le_of_ble_eq_true rfl)⟩ ⟨(Nat.le_of_ble_eq_true rfl), (Nat.le_of_ble_eq_true rfl)⟩ (fun r811 u H locs hp hP hD hS => ?_)
          obtain ⟨t812, rfl⟩ := hp
          have hP : va_P D vwCl [(h_tape, .inl (cB, 940, .inl f_tape)), (h_s, .inl (cI, 335, .inl f_s)), (h_names, .inl (cJ, 36, .inr (.inl f_names))), (h_reserved, .inl (cJ, 23, .inr (.inl f_reserved))), (h0, .inr (10, vL 67 F802)), (h_planRead, .inl (cI, 24, .inl w744))] H := hP
          have hD : va_D A [(h_tape, .inl (cB, 940, .inl f_tape)), (h_s, .inl (cI, 335, .inl f_s)), (h_names, .inl (cJ, 36, .inr (.inl f_names))), (h_reserved, .inl (cJ, 23, .inr (.inl f_reserved))), (h0, .inr (10, vL 67 F802)), (h_planRead, .inl (cI, 24, .inl w744))] := hD
          refine W.widen (k := 0) (n := 0) (Nat.le_of_ble_eq_true rfl) (Nat.le_of_ble_eq_true rfl) ?_
          refine lv_if_lt (tgt := 54) hx hb dX10_planLine_45 (by decide) (fun c814 => ?_) (fun c814 => ?_)
          · have dc814 : r811.toInt < 0 := lt_i (a := r811.toInt) (b := 0) rfl rfl c814
            have k815 : (-1) ≤ r811.toInt ∧ r811.toInt ≤ (-1) := ⟨t812.1, up_lt dc814 (Int.le_refl _) (by decide)⟩
            refine lv_aload_n hx hb dX10_planLine_54 rfl (lv_at hl 1 rfl) ?_
            refine get_f (D := D) (ci := 10) (v := .ref h_planRead) (C := RX10) (T := TX10) (N := 67) hx hb hw inAX10 hown hK hP 4 rfl rfl 22 (by decide) (hw _ q_1283) (fun _ h9 => h9) n810 dX10_planLine_55 ?_
            refine lv_iconst (v := 1) hx hb dX10_planLine_58 (by decide) ?_
            refine lv_iload_n hx hb dX10_planLine_59 rfl (lv_at hl 0 rfl) ?_
            refine lv_iadd hx hb dX10_planLine_60 ?_
            refine lv_topi (fun v816 ev816 => ?_)
            have bv816 : v816.toInt = 1 + u743.toInt := by rw [ev816]; exact add_k rfl rfl ⟨Int.le_refl _, Int.le_refl _⟩ k786 (by decide)
            have k817 : 1 ≤ v816.toInt ∧ v816.toInt ≤ 4 := add_r bv816 ⟨Int.le_refl _, Int.le_refl _⟩ k786 (by decide)
            refine lv_aload_n hx hb dX10_planLine_61 rfl (lv_at hl 1 rfl) ?_
            refine get_f (D := D) (ci := 10) (v := .int y803) (C := RX10) (T := TX10) (N := 67) hx hb hw inAX10 hown hK hP 4 rfl rfl 19 (by decide) (hw _ q_1280) (fun _ h9 => h9) t805 dX10_planLine_62 ?_
            obtain ⟨g818, eg818⟩ : ∃ z : Nat → Int32, upd w744 v816.toNatClampNeg y803 = z := ⟨_, rfl⟩
            have r819 : SG 1 4 0 11 g818 := by rw [← eg818]; exact i759.up (Int.le_trans (by decide) k817.1) (Or.inr (Or.inr (ir_wk t806 (by decide) (by decide))))
            have r820 : SG 10 10 0 5 g818 := by rw [← eg818]; exact i760.up (Int.le_trans (by decide) k817.1) (Or.inl (lt_dec k817.2 (by decide)))
            refine iast_g hx hb hK hP hD hS 5 0 rfl rfl (ix_k k817 (by decide) (by decide)) eg818 dX10_planLine_65 (fun H locs hP hD hS => ?_)
            have hP : va_P D vwCl [(h_tape, .inl (cB, 940, .inl f_tape)), (h_s, .inl (cI, 335, .inl f_s)), (h_names, .inl (cJ, 36, .inr (.inl f_names))), (h_reserved, .inl (cJ, 23, .inr (.inl f_reserved))), (h0, .inr (10, vL 67 F802)), (h_planRead, .inl (cI, 24, .inl g818))] H := hP
            have hD : va_D A [(h_tape, .inl (cB, 940, .inl f_tape)), (h_s, .inl (cI, 335, .inl f_s)), (h_names, .inl (cJ, 36, .inr (.inl f_names))), (h_reserved, .inl (cJ, 23, .inr (.inl f_reserved))), (h0, .inr (10, vL 67 F802)), (h_planRead, .inl (cI, 24, .inl g818))] := hD
            refine lv_aload_n hx hb dX10_planLine_66 rfl (lv_at hl 1 rfl) ?_
            have n821 : F705 1 = .ref h_tape := (SAME.at t713 (by decide) e_tape)
            have n822 : G745 1 = .ref h_tape := (SAME.at i761 (by decide) n821)
            have n823 : F802 1 = .ref h_tape := (SAME.at t804 (by decide) n822)
            have n824 : F705 3 = .int x_size := (SAME.at t713 (by decide) e_size)
            have n825 : G745 3 = .int x_size := (SAME.at i761 (by decide) n824)
            have n826 : F802 3 = .int x_size := (SAME.at t804 (by decide) n825)
            have n827 : F802 4 = .int u746 := (SAME.at t804 (by decide) i762)
            have n828 : F705 5 = .int x_limit := (SAME.at t713 (by decide) e_limit)
            have n829 : G745 5 = .int x_limit := (SAME.at i761 (by decide) n828)
            have n830 : F802 5 = .int x_limit := (SAME.at t804 (by decide) n829)
            have n831 : F802 11 = .int u747 := (SAME.at t804 (by decide) i763)
            have n832 : F802 12 = .int u748 := (SAME.at t804 (by decide) i764)
            have n833 : F802 14 = .int u750 := (SAME.at t804 (by decide) i766)
            have n834 : F802 18 = .long u753 := (SAME.at t804 (by decide) i769)
            refine call_Vv (wr := [(h_s, .inl (cI, 335, .inl f_s)), (h_names, .inl (cJ, 36, .inr (.inl f_names))), (h_reserved, .inl (cJ, 23, .inr (.inl f_reserved))), (h_planRead, .inl (cI, 24, .inl g818))]) (As := []) (rest := []) hx hb hml hown hw (m_X10_next l D cI cJ cB cP cM cZ h0 h_tape F802 x_size u746 x_limit u747 u748 u750 u753 f_tape _ n823 n826 i_x_size n827 i771 n830 i_x_limit n831 i772 n832 n833 n834 (by omega)) wV_X10_208_X10_next dX10_planLine_67 hK hP hD hS hA [4, 0] [1, 2, 3, 5] rfl rfl (by decide) (by decide) (by decide) 0 10 rfl rfl GG.fb hG.at hl.1 rfl (Nat.le_of_ble_eq_true rfl) ⟨(Nat.le_of_ble_eq_true rfl), (Nat.le_of_ble_eq_true rfl)⟩ ⟨(Nat.le_of_ble_eq_true rfl), (Nat.le_of_ble_eq_true rfl)⟩ (fun u H locs hp hP hD hS => ?_)
            obtain ⟨F836, y837, y838, y839, y840, y841, y842, t843, t844, t845, t846, t847, t848, t849, t850, t851, t852, t853, t854, t855, t856, t857, t858, rfl⟩ := hp
            clear t726 t731
            have hP : va_P D vwCl [(h_s, .inl (cI, 335, .inl f_s)), (h_names, .inl (cJ, 36, .inr (.inl f_names))), (h_reserved, .inl (cJ, 23, .inr (.inl f_reserved))), (h_planRead, .inl (cI, 24, .inl g818)), (h0, .inr (10, vL 67 F836)), (h_tape, .inl (cB, 940, .inl f_tape))] H := hP
            have hD : va_D A [(h_s, .inl (cI, 335, .inl f_s)), (h_names, .inl (cJ, 36, .inr (.inl f_names))), (h_reserved, .inl (cJ, 23, .inr (.inl f_reserved))), (h_planRead, .inl (cI, 24, .inl g818)), (h0, .inr (10, vL 67 F836)), (h_tape, .inl (cB, 940, .inl f_tape))] := hD
            refine W.widen (k := 0) (n := 0) (Nat.le_of_ble_eq_true rfl) (Nat.le_of_ble_eq_true rfl) ?_
            obtain ⟨v860, ev860⟩ : ∃ z : Int32, z = u743 + 1 := ⟨_, rfl⟩
            have bv860 : v860.toInt = u743.toInt + 1 := by rw [ev860]; exact add_k rfl rfl k786 ⟨Int.le_refl _, Int.le_refl _⟩ (by decide)
            have k861 : 1 ≤ v860.toInt ∧ v860.toInt ≤ 4 := add_r bv860 k786 ⟨Int.le_refl _, Int.le_refl _⟩ (by decide)
            refine lv_iinc (v := v860) (lv' := [(1, .int v860), (0, .ref h0)]) hx hb dX10_planLine_70 hl (k := 0) rfl (by rw [ev860]; rfl) (by decide) rfl (fun ls hl => ?_)
            refine lv_goto (tgt := 22) hx hb dX10_planLine_73 (by decide) ?_
            have n862 : F802 15 = .int u751 := (SAME.at t804 (by decide) i767)
            have n863 : F836 15 = .int u751 := (SAME.at t843 (by decide) n862)
            have n864 : F802 16 = .int u752 := (SAME.at t804 (by decide) i768)
            have n865 : F836 16 = .int u752 := (SAME.at t843 (by decide) n864)
            have n866 : F836 19 = .int y803 := (SAME.at t843 (by decide) t805)
            exact ih (v860, g818, F836, y837, y838, y839, y840, y841, u751, u752, y842, y803) ⟨(ir_wk k861 (by decide) (by decide)), r819, r820, (SAME.tr (SAME.tr (SAME.tr SAME.rf i761 (by decide)) t804 (by decide)) t843 (by decide)), t844, t846, t848, t850, t852, n863, n865, t853, n866, t845, t847, t849, t851, (by show x_p.toInt ≤ y837.toInt; omega), (by show (1 ≤ y838.toInt → y838.toInt ≤ 3 → x_p.toInt < y837.toInt); omega), (show (VWF y838.toInt y842.toInt) from t857), (by show (y838.toInt = 2 → 0 ≤ y841.toInt ∧ y841.toInt ≤ 999); omega)⟩ (by show (4 - v860.toInt).toNat < (4 - u743.toInt).toNat; omega) _ _ _ hP hD hS (lv_sub hl [0, 1] rfl)
          · have dc814 : 0 ≤ r811.toInt := nlt_i (a := r811.toInt) (b := 0) rfl rfl c814
            have k867 : 0 ≤ r811.toInt ∧ r811.toInt ≤ 3 := ⟨Int.le_trans (Int.le_refl _) dc814, t812.2⟩
            refine lv_aload_n hx hb dX10_planLine_48 rfl (lv_at hl 1 rfl) ?_
            refine lv_iconst (v := 3) hx hb dX10_planLine_49 (by decide) ?_
            have n868 : F802 12 = .int u748 := (SAME.at t804 (by decide) i764)
            refine call_Vi (wr := [(h_tape, .inl (cB, 940, .inl f_tape)), (h_s, .inl (cI, 335, .inl f_s)), (h_names, .inl (cJ, 36, .inr (.inl f_names))), (h_reserved, .inl (cJ, 23, .inr (.inl f_reserved))), (h_planRead, .inl (cI, 24, .inl w744))]) (As := [.int 3]) (rest := []) hx hb hml hown hw (m_X10_bad l D cI cJ cB cP cM cZ h0 F802 u748 3 _ n868) wV_X10_205_X10_bad dX10_planLine_50 hK hP hD hS hA [4] [0, 1, 2, 3, 5] rfl rfl (by decide) (by decide) (by decide) 0 10 rfl rfl GG.fb hG.at hl.1 rfl (Nat.le_of_ble_eq_true rfl) ⟨(Nat.le_of_ble_eq_true rfl), (Nat.le_of_ble_eq_true rfl)⟩ ⟨(Nat.le_of_ble_eq_true rfl), (Nat.le_of_ble_eq_true rfl)⟩ (fun r869 u H locs hp hP hD hS => ?_)
            have zl3 : (3 : Int32).toInt = 3 := by decide
            obtain ⟨F870, t871, t872, t873, rfl, rfl⟩ := hp
            have hP : va_P D vwCl [(h_tape, .inl (cB, 940, .inl f_tape)), (h_s, .inl (cI, 335, .inl f_s)), (h_names, .inl (cJ, 36, .inr (.inl f_names))), (h_reserved, .inl (cJ, 23, .inr (.inl f_reserved))), (h_planRead, .inl (cI, 24, .inl w744)), (h0, .inr (10, vL 67 F870))] H := hP
            have hD : va_D A [(h_tape, .inl (cB, 940, .inl f_tape)), (h_s, .inl (cI, 335, .inl f_s)), (h_names, .inl (cJ, 36, .inr (.inl f_names))), (h_reserved, .inl (cJ, 23, .inr (.inl f_reserved))), (h_planRead, .inl (cI, 24, .inl w744)), (h0, .inr (10, vL 67 F870))] := hD
            refine W.widen (k := 0) (n := 0) (Nat.le_of_ble_eq_true rfl) (Nat.le_of_ble_eq_true rfl) ?_
            exact ret_i (v := 0) hx hb hr hlocks hS (hP.sub (ws' := [(h0, .inr (10, vL 67 F870)), (h_tape, .inl (cB, 940, .inl f_tape)), (h_s, .inl (cI, 335, .inl f_s)), (h_names, .inl (cJ, 36, .inr (.inl f_names))), (h_reserved, .inl (cJ, 23, .inr (.inl f_reserved))), (h_planRead, .inl (cI, 24, .inl w744))]) [5, 0, 1, 2, 3, 4] rfl) (hD.sub (ws' := [(h0, .inr (10, vL 67 F870)), (h_tape, .inl (cB, 940, .inl f_tape)), (h_s, .inl (cI, 335, .inl f_s)), (h_names, .inl (cJ, 36, .inr (.inl f_names))), (h_reserved, .inl (cJ, 23, .inr (.inl f_reserved))), (h_planRead, .inl (cI, 24, .inl w744))]) [5, 0, 1, 2, 3, 4] (by decide) rfl) dX10_planLine_53 rfl (Nat.le_of_ble_eq_true rfl) (Nat.le_of_ble_eq_true rfl) (Or.inl ⟨F870, u746, u747, u748, u749, u750, 3, u748, u753, y803, y712, x_jumped, x_heights, w744, (SAME.tr (SAME.tr (SAME.tr (SAME.tr SAME.rf t713 (by decide)) i761 (by decide)) t804 (by decide)) t871 (by decide)), (SAME.at t871 (by decide) (SAME.at t804 (by decide) i762)), i771, (SAME.at t871 (by decide) (SAME.at t804 (by decide) i763)), i772, (SAME.at t871 (by decide) n868), (SAME.at t871 (by decide) (SAME.at t804 (by decide) i765)), (SAME.at t871 (by decide) (SAME.at t804 (by decide) i766)), t872, (show 1 ≤ (3 : Int32).toInt ∧ (3 : Int32).toInt ≤ 3 by decide), t873, (SAME.at t871 (by decide) (SAME.at t804 (by decide) i769)), (SAME.at t871 (by decide) t805), (SAME.at t871 (by decide) (SAME.at t804 (by decide) (SAME.at i761 (by decide) t724))), (SAME.at t871 (by decide) (SAME.at t804 (by decide) (SAME.at i761 (by decide) (SAME.at t713 (by decide) e_jumped)))), (SAME.at t871 (by decide) (SAME.at t804 (by decide) (SAME.at i761 (by decide) (SAME.at t713 (by decide) e_heights)))), i759, i760, (by have zl3 : (3 : Int32).toInt = 3 := (by decide); omega), rfl, rfl⟩)
    · obtain ⟨F732, y733, y734, t735, t736, t737, t738, t739, t740, t741, rfl, rfl⟩ := hp
      have hP : va_P D vwCl [(h_s, .inl (cI, 335, .inl f_s)), (h_names, .inl (cJ, 36, .inr (.inl f_names))), (h_reserved, .inl (cJ, 23, .inr (.inl f_reserved))), (h_planRead, .inl (cI, 24, .inl f_planRead)), (h0, .inr (10, vL 67 F732)), (h_tape, .inl (cB, 940, .inl f_tape))] H := hP
      have hD : va_D A [(h_s, .inl (cI, 335, .inl f_s)), (h_names, .inl (cJ, 36, .inr (.inl f_names))), (h_reserved, .inl (cJ, 23, .inr (.inl f_reserved))), (h_planRead, .inl (cI, 24, .inl f_planRead)), (h0, .inr (10, vL 67 F732)), (h_tape, .inl (cB, 940, .inl f_tape))] := hD
      refine W.widen (k := 0) (n := 0) (Nat.le_of_ble_eq_true rfl) (Nat.le_of_ble_eq_true rfl) ?_
      refine lv_if_ne (tgt := 20) hx hb dX10_planLine_15 (by decide) (fun g => absurd (by decide) g) (fun _ => ?_)
      refine lv_iconst (v := 0) hx hb dX10_planLine_18 (by decide) ?_
      exact ret_i (v := 0) hx hb hr hlocks hS (hP.sub (ws' := [(h0, .inr (10, vL 67 F732)), (h_tape, .inl (cB, 940, .inl f_tape)), (h_s, .inl (cI, 335, .inl f_s)), (h_names, .inl (cJ, 36, .inr (.inl f_names))), (h_reserved, .inl (cJ, 23, .inr (.inl f_reserved))), (h_planRead, .inl (cI, 24, .inl f_planRead))]) [4, 5, 0, 1, 2, 3] rfl) (hD.sub (ws' := [(h0, .inr (10, vL 67 F732)), (h_tape, .inl (cB, 940, .inl f_tape)), (h_s, .inl (cI, 335, .inl f_s)), (h_names, .inl (cJ, 36, .inr (.inl f_names))), (h_reserved, .inl (cJ, 23, .inr (.inl f_reserved))), (h_planRead, .inl (cI, 24, .inl f_planRead))]) [4, 5, 0, 1, 2, 3] (by decide) rfl) dX10_planLine_19 rfl (Nat.le_of_ble_eq_true rfl) (Nat.le_of_ble_eq_true rfl) (Or.inl ⟨F732, x_p, x_token, x_at, x_span, x_number, y733, y734, x_word, x_got, x_onces, x_jumped, x_heights, f_planRead, (SAME.tr SAME.rf t735 (by decide)), (SAME.at t735 (by decide) e_p), i_x_p, (SAME.at t735 (by decide) e_token), i_x_token, (SAME.at t735 (by decide) e_at), (SAME.at t735 (by decide) e_span), (SAME.at t735 (by decide) e_number), t736, (ir_wk t737 (by decide) (by decide)), t738, (SAME.at t735 (by decide) e_word), (SAME.at t735 (by decide) e_got), (SAME.at t735 (by decide) e_onces), (SAME.at t735 (by decide) e_jumped), (SAME.at t735 (by decide) e_heights), s_planRead_1, s_planRead_10, (by omega), rfl, rfl⟩)
set_option maxHeartbeats 4000000 in
set_option maxRecDepth 100000 in
theorem m_X10_plan (l : Launch) (D : va_G) (cI cJ cB cP cM cZ : ClassId) (h0 : Nat) (h_tape : Nat) (h_s : Nat) (h_names : Nat) (h_reserved : Nat) (h_planRead : Nat) (Fh : Nat → Value) (x_length : Int32) (x_token : Int32) (x_at : Int32) (x_number : Int32) (x_faultAt : Int32) (x_word : Int64) (x_got : Int32) (x_undoMany : Int32) (f_tape : Nat → Int32) (f_s : Nat → Int32) (f_names : Nat → Int64) (f_reserved : Nat → Int64) (f_planRead : Nat → Int32) (sz : Nat) (e_tape : Fh 1 = .ref h_tape) (e_length : Fh 2 = .int x_length) (i_x_length : IR 0 940 x_length) (e_s : Fh 6 = .ref h_s) (e_names : Fh 9 = .ref h_names) (e_reserved : Fh 10 = .ref h_reserved) (e_token : Fh 11 = .int x_token) (i_x_token : IR 0 4 x_token) (e_at : Fh 12 = .int x_at) (e_number : Fh 14 = .int x_number) (e_faultAt : Fh 16 = .int x_faultAt) (e_word : Fh 18 = .long x_word) (e_got : Fh 19 = .int x_got) (e_planRead : Fh 22 = .ref h_planRead) (e_undoMany : Fh 41 = .int x_undoMany) (i_x_undoMany : IR 0 8 x_undoMany) (s_s_K0 : KW 0 f_s) (s_s_0 : SG 0 0 0 40 f_s) (s_s_105 : SG 105 108 0 11 f_s) (s_s_114 : SG 114 114 0 5 f_s) (s_s_130 : SG 130 133 0 11 f_s) (s_s_139 : SG 139 139 0 5 f_s) (s_s_153 : SG 153 153 0 44 f_s) (s_s_44 : SG 44 55 0 9 f_s) (s_s_5 : SG 5 5 0 12 f_s) (s_s_6 : SG 6 6 0 12 f_s) (s_s_7 : SG 7 7 0 6 f_s) (s_reserved_KR : KRN f_reserved) (s_planRead_1 : SG 1 4 0 11 f_planRead) (s_planRead_10 : SG 10 10 0 5 f_planRead) (o_0 : (x_token.toInt = 2 → 0 ≤ x_number.toInt ∧ x_number.toInt ≤ 999)) : CI l yX10_plan cX10_plan 3 (some .int) { frames := 4, cells := 0, slots := 0, locals := 86 } (GG D cI cJ cB cP cM cZ) D [(h0, .inr (10, vL 67 Fh)), (h_tape, .inl (cB, 940, .inl f_tape)), (h_s, .inl (cI, 335, .inl f_s)), (h_names, .inl (cJ, 36, .inr (.inl f_names))), (h_reserved, .inl (cJ, 23, .inr (.inl f_reserved))), (h_planRead, .inl (cI, 24, .inl f_planRead))] sz [.ref h0] (fun (r : Int32) (u : va_W) => ∃ (Gh : Nat → Value) (y_p : Int32) (y_token : Int32) (y_at : Int32) (y_span : Int32) (y_number : Int32) (y_fault : Int32) (y_faultAt : Int32) (y_word : Int64) (y_got : Int32) (y_onces : Int32) (y_jumped : Int32) (y_heights : Int32) (y_undoMany : Int32) (g_s : Nat → Int32) (g_planRead : Nat → Int32), SAME [0, 2, 3, 4, 5, 11, 12, 13, 14, 15, 16, 18, 19, 21, 23, 24, 41] Fh Gh ∧ Gh 0 = .int 0 ∧ Gh 2 = .int 0 ∧ Gh 3 = .int x_length ∧ Gh 4 = .int y_p ∧ IR 0 940 y_p ∧ Gh 5 = .int 400 ∧ Gh 11 = .int y_token ∧ IR 0 4 y_token ∧ Gh 12 = .int y_at ∧ Gh 13 = .int y_span ∧ Gh 14 = .int y_number ∧ Gh 15 = .int y_fault ∧ Gh 16 = .int y_faultAt ∧ Gh 18 = .long y_word ∧ Gh 19 = .int y_got ∧ Gh 21 = .int y_onces ∧ Gh 23 = .int y_jumped ∧ Gh 24 = .int y_heights ∧ Gh 41 = .int y_undoMany ∧ IR 0 8 y_undoMany ∧ SG 153 153 0 44 g_s ∧ SG 0 0 0 40 g_s ∧ SG 5 5 0 12 g_s ∧ SG 6 6 0 12 g_s ∧ SG 7 7 0 6 g_s ∧ SG 44 55 0 9 g_s ∧ KW 0 g_s ∧ SG 105 108 0 11 g_s ∧ SG 114 114 0 5 g_s ∧ SG 130 133 0 11 g_s ∧ SG 139 139 0 5 g_s ∧ SG 1 4 0 11 g_planRead ∧ SG 10 10 0 5 g_planRead ∧ ((y_token.toInt = 2 → 0 ≤ y_number.toInt ∧ y_number.toInt ≤ 999)) ∧ u = [(h0, .inr (10, vL 67 Gh)), (h_tape, .inl (cB, 940, .inl f_tape)), (h_s, .inl (cI, 335, .inl g_s)), (h_names, .inl (cJ, 36, .inr (.inl f_names))), (h_reserved, .inl (cJ, 23, .inr (.inl f_reserved))), (h_planRead, .inl (cI, 24, .inl g_planRead))]) := by
  refine CI_mk (by decide) (Nat.le_of_ble_eq_true rfl) ?_
  intro p e s m below meth c A ls E hAe hG hsz hP hD hA hS hl
  obtain ⟨hx, hb, hr, hw, hown, hlocks, hml, hnm⟩ := E
  have hK := hG.1
  have i_x_length : 0 ≤ x_length.toInt ∧ x_length.toInt ≤ 940 := i_x_length
  have i_x_token : 0 ≤ x_token.toInt ∧ x_token.toInt ≤ 4 := i_x_token
  have i_x_undoMany : 0 ≤ x_undoMany.toInt ∧ x_undoMany.toInt ≤ 8 := i_x_undoMany
  have hl : lv_has ls 3 [(0, .ref h0)] := hl
  refine lv_aload_n hx hb dX10_plan_0 rfl (lv_at hl 0 rfl) ?_
  refine lv_iconst (v := 0) hx hb dX10_plan_1 (by decide) ?_
  refine put_f (D := D) (ci := 10) (v := .int 0) (ty := .int) (C := RX10) (T := TX10) (N := 67) hx hb hw inAX10 tyX10 tyX10_ok nmX10 hown hK hP hD hS 0 rfl rfl 0 (by decide) (hw _ q_1261) (fun _ h9 => h9) rfl (by decide +kernel) rfl rfl dX10_plan_2 (fun H locs F1 eF1 hP hD hS => ?_)
  have hP : va_P D vwCl [(h0, .inr (10, vL 67 F1)), (h_tape, .inl (cB, 940, .inl f_tape)), (h_s, .inl (cI, 335, .inl f_s)), (h_names, .inl (cJ, 36, .inr (.inl f_names))), (h_reserved, .inl (cJ, 23, .inr (.inl f_reserved))), (h_planRead, .inl (cI, 24, .inl f_planRead))] H := hP
  have hD : va_D A [(h0, .inr (10, vL 67 F1)), (h_tape, .inl (cB, 940, .inl f_tape)), (h_s, .inl (cI, 335, .inl f_s)), (h_names, .inl (cJ, 36, .inr (.inl f_names))), (h_reserved, .inl (cJ, 23, .inr (.inl f_reserved))), (h_planRead, .inl (cI, 24, .inl f_planRead))] := hD
  refine lv_aload_n hx hb dX10_plan_5 rfl (lv_at hl 0 rfl) ?_
  refine lv_sipush (v := 400) hx hb dX10_plan_6 (by decide) ?_
  have n2 : F1 2 = .int x_length := (get_ne eF1 (by decide) e_length)
  refine call_Vv (wr := [(h_tape, .inl (cB, 940, .inl f_tape)), (h_s, .inl (cI, 335, .inl f_s)), (h_names, .inl (cJ, 36, .inr (.inl f_names))), (h_reserved, .inl (cJ, 23, .inr (.inl f_reserved))), (h_planRead, .inl (cI, 24, .inl f_planRead))]) (As := [.int 400]) (rest := []) hx hb hml hown hw (m_X10_taken l D cI cJ cB cP cM cZ h0 F1 x_length 400 _ n2 i_x_length (show 200 ≤ (400 : Int32).toInt ∧ (400 : Int32).toInt ≤ 940 by decide)) wV_X10_248_X10_taken dX10_plan_9 hK hP hD hS hA [0] [1, 2, 3, 4, 5] rfl rfl (by decide) (by decide) (by decide) 0 10 rfl rfl GG.fb hG.at hl.1 rfl (Nat.le_of_ble_eq_true rfl) ⟨(Nat.le_of_ble_eq_true rfl), (Nat.le_of_ble_eq_true rfl)⟩ ⟨(Nat.le_of_ble_eq_true rfl), (Nat.le_of_ble_eq_true rfl)⟩ (fun u H locs hp hP hD hS => ?_)
  have zl400 : (400 : Int32).toInt = 400 := by decide
  obtain ⟨F4, t5, t6, t7, t8, t9, rfl⟩ := hp
  have hP : va_P D vwCl [(h_tape, .inl (cB, 940, .inl f_tape)), (h_s, .inl (cI, 335, .inl f_s)), (h_names, .inl (cJ, 36, .inr (.inl f_names))), (h_reserved, .inl (cJ, 23, .inr (.inl f_reserved))), (h_planRead, .inl (cI, 24, .inl f_planRead)), (h0, .inr (10, vL 67 F4))] H := hP
  have hD : va_D A [(h_tape, .inl (cB, 940, .inl f_tape)), (h_s, .inl (cI, 335, .inl f_s)), (h_names, .inl (cJ, 36, .inr (.inl f_names))), (h_reserved, .inl (cJ, 23, .inr (.inl f_reserved))), (h_planRead, .inl (cI, 24, .inl f_planRead)), (h0, .inr (10, vL 67 F4))] := hD
  refine W.widen (k := 0) (n := 0) (Nat.le_of_ble_eq_true rfl) (Nat.le_of_ble_eq_true rfl) ?_
  refine lv_aload_n hx hb dX10_plan_12 rfl (lv_at hl 0 rfl) ?_
  refine lv_iconst (v := 0) hx hb dX10_plan_13 (by decide) ?_
  refine put_f (D := D) (ci := 10) (v := .int 0) (ty := .int) (C := RX10) (T := TX10) (N := 67) hx hb hw inAX10 tyX10 tyX10_ok nmX10 hown hK hP hD hS 5 rfl rfl 15 (by decide) (hw _ q_1276) (fun _ h9 => h9) rfl (by decide +kernel) rfl rfl dX10_plan_14 (fun H locs F11 eF11 hP hD hS => ?_)
  have hP : va_P D vwCl [(h_tape, .inl (cB, 940, .inl f_tape)), (h_s, .inl (cI, 335, .inl f_s)), (h_names, .inl (cJ, 36, .inr (.inl f_names))), (h_reserved, .inl (cJ, 23, .inr (.inl f_reserved))), (h_planRead, .inl (cI, 24, .inl f_planRead)), (h0, .inr (10, vL 67 F11))] H := hP
  have hD : va_D A [(h_tape, .inl (cB, 940, .inl f_tape)), (h_s, .inl (cI, 335, .inl f_s)), (h_names, .inl (cJ, 36, .inr (.inl f_names))), (h_reserved, .inl (cJ, 23, .inr (.inl f_reserved))), (h_planRead, .inl (cI, 24, .inl f_planRead)), (h0, .inr (10, vL 67 F11))] := hD
  refine lv_aload_n hx hb dX10_plan_17 rfl (lv_at hl 0 rfl) ?_
  refine lv_iconst (v := 0) hx hb dX10_plan_18 (by decide) ?_
  refine put_f (D := D) (ci := 10) (v := .int 0) (ty := .int) (C := RX10) (T := TX10) (N := 67) hx hb hw inAX10 tyX10 tyX10_ok nmX10 hown hK hP hD hS 5 rfl rfl 21 (by decide) (hw _ q_1282) (fun _ h9 => h9) rfl (by decide +kernel) rfl rfl dX10_plan_19 (fun H locs F12 eF12 hP hD hS => ?_)
  have hP : va_P D vwCl [(h_tape, .inl (cB, 940, .inl f_tape)), (h_s, .inl (cI, 335, .inl f_s)), (h_names, .inl (cJ, 36, .inr (.inl f_names))), (h_reserved, .inl (cJ, 23, .inr (.inl f_reserved))), (h_planRead, .inl (cI, 24, .inl f_planRead)), (h0, .inr (10, vL 67 F12))] H := hP
  have hD : va_D A [(h_tape, .inl (cB, 940, .inl f_tape)), (h_s, .inl (cI, 335, .inl f_s)), (h_names, .inl (cJ, 36, .inr (.inl f_names))), (h_reserved, .inl (cJ, 23, .inr (.inl f_reserved))), (h_planRead, .inl (cI, 24, .inl f_planRead)), (h0, .inr (10, vL 67 F12))] := hD
  refine lv_aload_n hx hb dX10_plan_22 rfl (lv_at hl 0 rfl) ?_
  refine lv_iconst (v := 0) hx hb dX10_plan_23 (by decide) ?_
  refine put_f (D := D) (ci := 10) (v := .int 0) (ty := .int) (C := RX10) (T := TX10) (N := 67) hx hb hw inAX10 tyX10 tyX10_ok nmX10 hown hK hP hD hS 5 rfl rfl 23 (by decide) (hw _ q_1284) (fun _ h9 => h9) rfl (by decide +kernel) rfl rfl dX10_plan_24 (fun H locs F13 eF13 hP hD hS => ?_)
  have hP : va_P D vwCl [(h_tape, .inl (cB, 940, .inl f_tape)), (h_s, .inl (cI, 335, .inl f_s)), (h_names, .inl (cJ, 36, .inr (.inl f_names))), (h_reserved, .inl (cJ, 23, .inr (.inl f_reserved))), (h_planRead, .inl (cI, 24, .inl f_planRead)), (h0, .inr (10, vL 67 F13))] H := hP
  have hD : va_D A [(h_tape, .inl (cB, 940, .inl f_tape)), (h_s, .inl (cI, 335, .inl f_s)), (h_names, .inl (cJ, 36, .inr (.inl f_names))), (h_reserved, .inl (cJ, 23, .inr (.inl f_reserved))), (h_planRead, .inl (cI, 24, .inl f_planRead)), (h0, .inr (10, vL 67 F13))] := hD
  refine lv_aload_n hx hb dX10_plan_27 rfl (lv_at hl 0 rfl) ?_
  refine lv_iconst (v := 0) hx hb dX10_plan_28 (by decide) ?_
  refine put_f (D := D) (ci := 10) (v := .int 0) (ty := .int) (C := RX10) (T := TX10) (N := 67) hx hb hw inAX10 tyX10 tyX10_ok nmX10 hown hK hP hD hS 5 rfl rfl 24 (by decide) (hw _ q_1285) (fun _ h9 => h9) rfl (by decide +kernel) rfl rfl dX10_plan_29 (fun H locs F14 eF14 hP hD hS => ?_)
  have hP : va_P D vwCl [(h_tape, .inl (cB, 940, .inl f_tape)), (h_s, .inl (cI, 335, .inl f_s)), (h_names, .inl (cJ, 36, .inr (.inl f_names))), (h_reserved, .inl (cJ, 23, .inr (.inl f_reserved))), (h_planRead, .inl (cI, 24, .inl f_planRead)), (h0, .inr (10, vL 67 F14))] H := hP
  have hD : va_D A [(h_tape, .inl (cB, 940, .inl f_tape)), (h_s, .inl (cI, 335, .inl f_s)), (h_names, .inl (cJ, 36, .inr (.inl f_names))), (h_reserved, .inl (cJ, 23, .inr (.inl f_reserved))), (h_planRead, .inl (cI, 24, .inl f_planRead)), (h0, .inr (10, vL 67 F14))] := hD
  refine lv_iconst (v := 0) hx hb dX10_plan_32 (by decide) ?_
  refine lv_istore_n (lv' := [(1, .int 0), (0, .ref h0)]) hx hb dX10_plan_33 rfl hl (by decide) rfl (fun ls hl => ?_)
  refine mloop (α := (Int32) × (Nat → Int32)) (nL := 3) (D := D) (A := A) (H0 := s.heap) (fun a => (24 - a.1.toInt).toNat) (fun a => IR 0 24 a.1 ∧ SG 1 4 0 11 a.2 ∧ SG 10 10 0 5 a.2) (fun a => [(h_tape, .inl (cB, 940, .inl f_tape)), (h_s, .inl (cI, 335, .inl f_s)), (h_names, .inl (cJ, 36, .inr (.inl f_names))), (h_reserved, .inl (cJ, 23, .inr (.inl f_reserved))), (h_planRead, .inl (cI, 24, .inl a.2)), (h0, .inr (10, vL 67 F14))]) (fun a => [(1, .int a.1), (0, .ref h0)]) (fun H locs ls => W p l e ({ frames := 4, cells := 0, slots := 0, locals := 86 } : Room) s m [.ref h0].toArray below meth c H locs 0 0 (MQ below (va_Qi (fun (r : Int32) (u : va_W) => ∃ (Gh : Nat → Value) (y_p : Int32) (y_token : Int32) (y_at : Int32) (y_span : Int32) (y_number : Int32) (y_fault : Int32) (y_faultAt : Int32) (y_word : Int64) (y_got : Int32) (y_onces : Int32) (y_jumped : Int32) (y_heights : Int32) (y_undoMany : Int32) (g_s : Nat → Int32) (g_planRead : Nat → Int32), SAME [0, 2, 3, 4, 5, 11, 12, 13, 14, 15, 16, 18, 19, 21, 23, 24, 41] Fh Gh ∧ Gh 0 = .int 0 ∧ Gh 2 = .int 0 ∧ Gh 3 = .int x_length ∧ Gh 4 = .int y_p ∧ IR 0 940 y_p ∧ Gh 5 = .int 400 ∧ Gh 11 = .int y_token ∧ IR 0 4 y_token ∧ Gh 12 = .int y_at ∧ Gh 13 = .int y_span ∧ Gh 14 = .int y_number ∧ Gh 15 = .int y_fault ∧ Gh 16 = .int y_faultAt ∧ Gh 18 = .long y_word ∧ Gh 19 = .int y_got ∧ Gh 21 = .int y_onces ∧ Gh 23 = .int y_jumped ∧ Gh 24 = .int y_heights ∧ Gh 41 = .int y_undoMany ∧ IR 0 8 y_undoMany ∧ SG 153 153 0 44 g_s ∧ SG 0 0 0 40 g_s ∧ SG 5 5 0 12 g_s ∧ SG 6 6 0 12 g_s ∧ SG 7 7 0 6 g_s ∧ SG 44 55 0 9 g_s ∧ KW 0 g_s ∧ SG 105 108 0 11 g_s ∧ SG 114 114 0 5 g_s ∧ SG 130 133 0 11 g_s ∧ SG 139 139 0 5 g_s ∧ SG 1 4 0 11 g_planRead ∧ SG 10 10 0 5 g_planRead ∧ ((y_token.toInt = 2 → 0 ≤ y_number.toInt ∧ y_number.toInt ≤ 999)) ∧ u = [(h0, .inr (10, vL 67 Gh)), (h_tape, .inl (cB, 940, .inl f_tape)), (h_s, .inl (cI, 335, .inl g_s)), (h_names, .inl (cJ, 36, .inr (.inl f_names))), (h_reserved, .inl (cJ, 23, .inr (.inl f_reserved))), (h_planRead, .inl (cI, 24, .inl g_planRead))]) (PO D A) A) [.ref h0].toArray s 0 0 A) (F0 m 34 ls [])) ?_ (0, f_planRead) ⟨(show 0 ≤ (0 : Int32).toInt ∧ (0 : Int32).toInt ≤ 24 by decide), s_planRead_1, s_planRead_10⟩ _ _ _ hP hD hS hl
  rintro ⟨u15, w16⟩ ⟨i17, i18, i19⟩ ih H locs ls hP hD hS hl
  have i17 : 0 ≤ u15.toInt ∧ u15.toInt ≤ 24 := i17
  have hP : va_P D vwCl [(h_tape, .inl (cB, 940, .inl f_tape)), (h_s, .inl (cI, 335, .inl f_s)), (h_names, .inl (cJ, 36, .inr (.inl f_names))), (h_reserved, .inl (cJ, 23, .inr (.inl f_reserved))), (h_planRead, .inl (cI, 24, .inl w16)), (h0, .inr (10, vL 67 F14))] H := hP
  have hD : va_D A [(h_tape, .inl (cB, 940, .inl f_tape)), (h_s, .inl (cI, 335, .inl f_s)), (h_names, .inl (cJ, 36, .inr (.inl f_names))), (h_reserved, .inl (cJ, 23, .inr (.inl f_reserved))), (h_planRead, .inl (cI, 24, .inl w16)), (h0, .inr (10, vL 67 F14))] := hD
  have hl : lv_has ls 3 [(1, .int u15), (0, .ref h0)] := hl
  refine lv_iload_n hx hb dX10_plan_34 rfl (lv_at hl 0 rfl) ?_
  refine lv_bipush (v := 24) hx hb dX10_plan_35 (by decide) ?_
  refine lv_icmp_ge (tgt := 53) hx hb dX10_plan_37 (by decide) (fun c20 => ?_) (fun c20 => ?_)
  · have dc20 : 24 ≤ u15.toInt := le_i (a := 24) (b := u15.toInt) rfl rfl c20
    have k21 : 24 ≤ u15.toInt ∧ u15.toInt ≤ 24 := ⟨Int.le_trans (Int.le_refl _) dc20, i17.2⟩
    refine lv_iconst (v := 0) hx hb dX10_plan_53 (by decide) ?_
    refine lv_istore_n (lv' := [(1, .int 0), (0, .ref h0)]) hx hb dX10_plan_54 rfl hl (by decide) rfl (fun ls hl => ?_)
    refine mloop (α := (Int32) × (Nat → Int32)) (nL := 3) (D := D) (A := A) (H0 := s.heap) (fun a => (4 - a.1.toInt).toNat) (fun a => IR 0 4 a.1 ∧ SG 1 4 0 11 a.2 ∧ SG 10 10 0 5 a.2) (fun a => [(h_tape, .inl (cB, 940, .inl f_tape)), (h_s, .inl (cI, 335, .inl f_s)), (h_names, .inl (cJ, 36, .inr (.inl f_names))), (h_reserved, .inl (cJ, 23, .inr (.inl f_reserved))), (h_planRead, .inl (cI, 24, .inl a.2)), (h0, .inr (10, vL 67 F14))]) (fun a => [(1, .int a.1), (0, .ref h0)]) (fun H locs ls => W p l e ({ frames := 4, cells := 0, slots := 0, locals := 86 } : Room) s m [.ref h0].toArray below meth c H locs 0 0 (MQ below (va_Qi (fun (r : Int32) (u : va_W) => ∃ (Gh : Nat → Value) (y_p : Int32) (y_token : Int32) (y_at : Int32) (y_span : Int32) (y_number : Int32) (y_fault : Int32) (y_faultAt : Int32) (y_word : Int64) (y_got : Int32) (y_onces : Int32) (y_jumped : Int32) (y_heights : Int32) (y_undoMany : Int32) (g_s : Nat → Int32) (g_planRead : Nat → Int32), SAME [0, 2, 3, 4, 5, 11, 12, 13, 14, 15, 16, 18, 19, 21, 23, 24, 41] Fh Gh ∧ Gh 0 = .int 0 ∧ Gh 2 = .int 0 ∧ Gh 3 = .int x_length ∧ Gh 4 = .int y_p ∧ IR 0 940 y_p ∧ Gh 5 = .int 400 ∧ Gh 11 = .int y_token ∧ IR 0 4 y_token ∧ Gh 12 = .int y_at ∧ Gh 13 = .int y_span ∧ Gh 14 = .int y_number ∧ Gh 15 = .int y_fault ∧ Gh 16 = .int y_faultAt ∧ Gh 18 = .long y_word ∧ Gh 19 = .int y_got ∧ Gh 21 = .int y_onces ∧ Gh 23 = .int y_jumped ∧ Gh 24 = .int y_heights ∧ Gh 41 = .int y_undoMany ∧ IR 0 8 y_undoMany ∧ SG 153 153 0 44 g_s ∧ SG 0 0 0 40 g_s ∧ SG 5 5 0 12 g_s ∧ SG 6 6 0 12 g_s ∧ SG 7 7 0 6 g_s ∧ SG 44 55 0 9 g_s ∧ KW 0 g_s ∧ SG 105 108 0 11 g_s ∧ SG 114 114 0 5 g_s ∧ SG 130 133 0 11 g_s ∧ SG 139 139 0 5 g_s ∧ SG 1 4 0 11 g_planRead ∧ SG 10 10 0 5 g_planRead ∧ ((y_token.toInt = 2 → 0 ≤ y_number.toInt ∧ y_number.toInt ≤ 999)) ∧ u = [(h0, .inr (10, vL 67 Gh)), (h_tape, .inl (cB, 940, .inl f_tape)), (h_s, .inl (cI, 335, .inl g_s)), (h_names, .inl (cJ, 36, .inr (.inl f_names))), (h_reserved, .inl (cJ, 23, .inr (.inl f_reserved))), (h_planRead, .inl (cI, 24, .inl g_planRead))]) (PO D A) A) [.ref h0].toArray s 0 0 A) (F0 m 55 ls [])) ?_ (0, w16) ⟨(show 0 ≤ (0 : Int32).toInt ∧ (0 : Int32).toInt ≤ 4 by decide), i18, i19⟩ _ _ _ hP hD hS hl
    rintro ⟨u22, w23⟩ ⟨i24, i25, i26⟩ ih_55 H locs ls hP hD hS hl
    have i24 : 0 ≤ u22.toInt ∧ u22.toInt ≤ 4 := i24
    have hP : va_P D vwCl [(h_tape, .inl (cB, 940, .inl f_tape)), (h_s, .inl (cI, 335, .inl f_s)), (h_names, .inl (cJ, 36, .inr (.inl f_names))), (h_reserved, .inl (cJ, 23, .inr (.inl f_reserved))), (h_planRead, .inl (cI, 24, .inl w23)), (h0, .inr (10, vL 67 F14))] H := hP
    have hD : va_D A [(h_tape, .inl (cB, 940, .inl f_tape)), (h_s, .inl (cI, 335, .inl f_s)), (h_names, .inl (cJ, 36, .inr (.inl f_names))), (h_reserved, .inl (cJ, 23, .inr (.inl f_reserved))), (h_planRead, .inl (cI, 24, .inl w23)), (h0, .inr (10, vL 67 F14))] := hD
    have hl : lv_has ls 3 [(1, .int u22), (0, .ref h0)] := hl
    refine lv_iload_n hx hb dX10_plan_55 rfl (lv_at hl 0 rfl) ?_
    refine lv_iconst (v := 4) hx hb dX10_plan_56 (by decide) ?_
    refine lv_icmp_ge (tgt := 82) hx hb dX10_plan_57 (by decide) (fun c27 => ?_) (fun c27 => ?_)
    · have dc27 : 4 ≤ u22.toInt := le_i (a := 4) (b := u22.toInt) rfl rfl c27
      have k28 : 4 ≤ u22.toInt ∧ u22.toInt ≤ 4 := ⟨Int.le_trans (Int.le_refl _) dc27, i24.2⟩
      refine lv_iconst (v := 0) hx hb dX10_plan_82 (by decide) ?_
      refine lv_istore_n (lv' := [(1, .int 0), (0, .ref h0)]) hx hb dX10_plan_83 rfl hl (by decide) rfl (fun ls hl => ?_)
      refine mloop (α := (Int32) × (Nat → Int32)) (nL := 3) (D := D) (A := A) (H0 := s.heap) (fun a => (12 - a.1.toInt).toNat) (fun a => IR 0 12 a.1 ∧ SG 1 4 0 11 a.2 ∧ SG 10 10 0 5 a.2) (fun a => [(h_tape, .inl (cB, 940, .inl f_tape)), (h_s, .inl (cI, 335, .inl f_s)), (h_names, .inl (cJ, 36, .inr (.inl f_names))), (h_reserved, .inl (cJ, 23, .inr (.inl f_reserved))), (h_planRead, .inl (cI, 24, .inl a.2)), (h0, .inr (10, vL 67 F14))]) (fun a => [(1, .int a.1), (0, .ref h0)]) (fun H locs ls => W p l e ({ frames := 4, cells := 0, slots := 0, locals := 86 } : Room) s m [.ref h0].toArray below meth c H locs 0 0 (MQ below (va_Qi (fun (r : Int32) (u : va_W) => ∃ (Gh : Nat → Value) (y_p : Int32) (y_token : Int32) (y_at : Int32) (y_span : Int32) (y_number : Int32) (y_fault : Int32) (y_faultAt : Int32) (y_word : Int64) (y_got : Int32) (y_onces : Int32) (y_jumped : Int32) (y_heights : Int32) (y_undoMany : Int32) (g_s : Nat → Int32) (g_planRead : Nat → Int32), SAME [0, 2, 3, 4, 5, 11, 12, 13, 14, 15, 16, 18, 19, 21, 23, 24, 41] Fh Gh ∧ Gh 0 = .int 0 ∧ Gh 2 = .int 0 ∧ Gh 3 = .int x_length ∧ Gh 4 = .int y_p ∧ IR 0 940 y_p ∧ Gh 5 = .int 400 ∧ Gh 11 = .int y_token ∧ IR 0 4 y_token ∧ Gh 12 = .int y_at ∧ Gh 13 = .int y_span ∧ Gh 14 = .int y_number ∧ Gh 15 = .int y_fault ∧ Gh 16 = .int y_faultAt ∧ Gh 18 = .long y_word ∧ Gh 19 = .int y_got ∧ Gh 21 = .int y_onces ∧ Gh 23 = .int y_jumped ∧ Gh 24 = .int y_heights ∧ Gh 41 = .int y_undoMany ∧ IR 0 8 y_undoMany ∧ SG 153 153 0 44 g_s ∧ SG 0 0 0 40 g_s ∧ SG 5 5 0 12 g_s ∧ SG 6 6 0 12 g_s ∧ SG 7 7 0 6 g_s ∧ SG 44 55 0 9 g_s ∧ KW 0 g_s ∧ SG 105 108 0 11 g_s ∧ SG 114 114 0 5 g_s ∧ SG 130 133 0 11 g_s ∧ SG 139 139 0 5 g_s ∧ SG 1 4 0 11 g_planRead ∧ SG 10 10 0 5 g_planRead ∧ ((y_token.toInt = 2 → 0 ≤ y_number.toInt ∧ y_number.toInt ≤ 999)) ∧ u = [(h0, .inr (10, vL 67 Gh)), (h_tape, .inl (cB, 940, .inl f_tape)), (h_s, .inl (cI, 335, .inl g_s)), (h_names, .inl (cJ, 36, .inr (.inl f_names))), (h_reserved, .inl (cJ, 23, .inr (.inl f_reserved))), (h_planRead, .inl (cI, 24, .inl g_planRead))]) (PO D A) A) [.ref h0].toArray s 0 0 A) (F0 m 84 ls [])) ?_ (0, w23) ⟨(show 0 ≤ (0 : Int32).toInt ∧ (0 : Int32).toInt ≤ 12 by decide), i25, i26⟩ _ _ _ hP hD hS hl
      rintro ⟨u29, w30⟩ ⟨i31, i32, i33⟩ ih_84 H locs ls hP hD hS hl
      have i31 : 0 ≤ u29.toInt ∧ u29.toInt ≤ 12 := i31
      have hP : va_P D vwCl [(h_tape, .inl (cB, 940, .inl f_tape)), (h_s, .inl (cI, 335, .inl f_s)), (h_names, .inl (cJ, 36, .inr (.inl f_names))), (h_reserved, .inl (cJ, 23, .inr (.inl f_reserved))), (h_planRead, .inl (cI, 24, .inl w30)), (h0, .inr (10, vL 67 F14))] H := hP
      have hD : va_D A [(h_tape, .inl (cB, 940, .inl f_tape)), (h_s, .inl (cI, 335, .inl f_s)), (h_names, .inl (cJ, 36, .inr (.inl f_names))), (h_reserved, .inl (cJ, 23, .inr (.inl f_reserved))), (h_planRead, .inl (cI, 24, .inl w30)), (h0, .inr (10, vL 67 F14))] := hD
      have hl : lv_has ls 3 [(1, .int u29), (0, .ref h0)] := hl
      refine lv_iload_n hx hb dX10_plan_84 rfl (lv_at hl 0 rfl) ?_
      refine lv_aload_n hx hb dX10_plan_85 rfl (lv_at hl 1 rfl) ?_
      have n34 : F1 6 = .ref h_s := (get_ne eF1 (by decide) e_s)
      have n35 : F4 6 = .ref h_s := (SAME.at t5 (by decide) n34)
      have n36 : F11 6 = .ref h_s := (get_ne eF11 (by decide) n35)
      have n37 : F12 6 = .ref h_s := (get_ne eF12 (by decide) n36)
      have n38 : F13 6 = .ref h_s := (get_ne eF13 (by decide) n37)
      have n39 : F14 6 = .ref h_s := (get_ne eF14 (by decide) n38)
      refine get_f (D := D) (ci := 10) (v := .ref h_s) (C := RX10) (T := TX10) (N := 67) hx hb hw inAX10 hown hK hP 5 rfl rfl 6 (by decide) (hw _ q_1267) (fun _ h9 => h9) n39 dX10_plan_86 ?_
      refine lv_bipush (v := 6) hx hb dX10_plan_89 (by decide) ?_
      refine iald_n hx hb hK hP 1 0 rfl rfl 6 rfl (Nat.le_of_ble_eq_true rfl) (Nat.le_of_ble_eq_true rfl) rfl dX10_plan_91 ?_
      refine lv_topi (fun v40 ev40 => ?_)
      have k41 : 0 ≤ v40.toInt ∧ v40.toInt ≤ 12 := by rw [ev40]; exact s_s_6.atN 6 (by decide) (by decide)
      refine lv_icmp_ge (tgt := 119) hx hb dX10_plan_92 (by decide) (fun c42 => ?_) (fun c42 => ?_)
      · have dc42 : v40.toInt ≤ u29.toInt := le_i (a := v40.toInt) (b := u29.toInt) rfl rfl c42
        refine lv_aload_n hx hb dX10_plan_119 rfl (lv_at hl 1 rfl) ?_
        have n43 : F1 22 = .ref h_planRead := (get_ne eF1 (by decide) e_planRead)
        have n44 : F4 22 = .ref h_planRead := (SAME.at t5 (by decide) n43)
        have n45 : F11 22 = .ref h_planRead := (get_ne eF11 (by decide) n44)
        have n46 : F12 22 = .ref h_planRead := (get_ne eF12 (by decide) n45)
        have n47 : F13 22 = .ref h_planRead := (get_ne eF13 (by decide) n46)
        have n48 : F14 22 = .ref h_planRead := (get_ne eF14 (by decide) n47)
        refine get_f (D := D) (ci := 10) (v := .ref h_planRead) (C := RX10) (T := TX10) (N := 67) hx hb hw inAX10 hown hK hP 5 rfl rfl 22 (by decide) (hw _ q_1283) (fun _ h9 => h9) n48 dX10_plan_120 ?_
        refine lv_bipush (v := 11) hx hb dX10_plan_123 (by decide) ?_
        refine lv_iconst (v := 1) hx hb dX10_plan_125 (by decide) ?_
        obtain ⟨g49, eg49⟩ : ∃ z : Nat → Int32, upd w30 11 1 = z := ⟨_, rfl⟩
        have r50 : SG 1 4 0 11 g49 := by rw [← eg49]; exact i32.upN (Or.inr (Or.inl (by decide)))
        have r51 : SG 10 10 0 5 g49 := by rw [← eg49]; exact i33.upN (Or.inr (Or.inl (by decide)))
        refine iast_n hx hb hK hP hD hS 4 0 rfl rfl 11 rfl (Nat.le_of_ble_eq_true rfl) (Nat.le_of_ble_eq_true rfl) eg49 dX10_plan_126 (fun H locs hP hD hS => ?_)
        have hP : va_P D vwCl [(h_tape, .inl (cB, 940, .inl f_tape)), (h_s, .inl (cI, 335, .inl f_s)), (h_names, .inl (cJ, 36, .inr (.inl f_names))), (h_reserved, .inl (cJ, 23, .inr (.inl f_reserved))), (h_planRead, .inl (cI, 24, .inl g49)), (h0, .inr (10, vL 67 F14))] H := hP
        have hD : va_D A [(h_tape, .inl (cB, 940, .inl f_tape)), (h_s, .inl (cI, 335, .inl f_s)), (h_names, .inl (cJ, 36, .inr (.inl f_names))), (h_reserved, .inl (cJ, 23, .inr (.inl f_reserved))), (h_planRead, .inl (cI, 24, .inl g49)), (h0, .inr (10, vL 67 F14))] := hD
        refine lv_iconst (v := 0) hx hb dX10_plan_127 (by decide) ?_
        refine lv_istore_n (lv' := [(1, .int 0), (0, .ref h0)]) hx hb dX10_plan_128 rfl hl (by decide) rfl (fun ls hl => ?_)
        refine lv_aload_n hx hb dX10_plan_129 rfl (lv_at hl 1 rfl) ?_
        have n52 : F1 1 = .ref h_tape := (get_ne eF1 (by decide) e_tape)
        have n53 : F4 1 = .ref h_tape := (SAME.at t5 (by decide) n52)
        have n54 : F11 1 = .ref h_tape := (get_ne eF11 (by decide) n53)
        have n55 : F12 1 = .ref h_tape := (get_ne eF12 (by decide) n54)
        have n56 : F13 1 = .ref h_tape := (get_ne eF13 (by decide) n55)
        have n57 : F14 1 = .ref h_tape := (get_ne eF14 (by decide) n56)
        have n58 : F11 3 = .int x_length := (get_ne eF11 (by decide) t7)
        have n59 : F12 3 = .int x_length := (get_ne eF12 (by decide) n58)
        have n60 : F13 3 = .int x_length := (get_ne eF13 (by decide) n59)
        have n61 : F14 3 = .int x_length := (get_ne eF14 (by decide) n60)
        have n62 : F11 4 = .int 0 := (get_ne eF11 (by decide) t8)
        have n63 : F12 4 = .int 0 := (get_ne eF12 (by decide) n62)
        have n64 : F13 4 = .int 0 := (get_ne eF13 (by decide) n63)
        have n65 : F14 4 = .int 0 := (get_ne eF14 (by decide) n64)
        have n66 : F11 5 = .int 400 := (get_ne eF11 (by decide) t9)
        have n67 : F12 5 = .int 400 := (get_ne eF12 (by decide) n66)
        have n68 : F13 5 = .int 400 := (get_ne eF13 (by decide) n67)
        have n69 : F14 5 = .int 400 := (get_ne eF14 (by decide) n68)
        have n70 : F1 11 = .int x_token := (get_ne eF1 (by decide) e_token)
        have n71 : F4 11 = .int x_token := (SAME.at t5 (by decide) n70)
        have n72 : F11 11 = .int x_token := (get_ne eF11 (by decide) n71)
        have n73 : F12 11 = .int x_token := (get_ne eF12 (by decide) n72)
        have n74 : F13 11 = .int x_token := (get_ne eF13 (by decide) n73)
        have n75 : F14 11 = .int x_token := (get_ne eF14 (by decide) n74)
        have n76 : F1 12 = .int x_at := (get_ne eF1 (by decide) e_at)
        have n77 : F4 12 = .int x_at := (SAME.at t5 (by decide) n76)
        have n78 : F11 12 = .int x_at := (get_ne eF11 (by decide) n77)
        have n79 : F12 12 = .int x_at := (get_ne eF12 (by decide) n78)
        have n80 : F13 12 = .int x_at := (get_ne eF13 (by decide) n79)
        have n81 : F14 12 = .int x_at := (get_ne eF14 (by decide) n80)
        have n82 : F1 14 = .int x_number := (get_ne eF1 (by decide) e_number)
        have n83 : F4 14 = .int x_number := (SAME.at t5 (by decide) n82)
        have n84 : F11 14 = .int x_number := (get_ne eF11 (by decide) n83)
        have n85 : F12 14 = .int x_number := (get_ne eF12 (by decide) n84)
        have n86 : F13 14 = .int x_number := (get_ne eF13 (by decide) n85)
        have n87 : F14 14 = .int x_number := (get_ne eF14 (by decide) n86)
        have n88 : F1 18 = .long x_word := (get_ne eF1 (by decide) e_word)
        have n89 : F4 18 = .long x_word := (SAME.at t5 (by decide) n88)
        have n90 : F11 18 = .long x_word := (get_ne eF11 (by decide) n89)
        have n91 : F12 18 = .long x_word := (get_ne eF12 (by decide) n90)
        have n92 : F13 18 = .long x_word := (get_ne eF13 (by decide) n91)
        have n93 : F14 18 = .long x_word := (get_ne eF14 (by decide) n92)
        refine call_Vv (wr := [(h_s, .inl (cI, 335, .inl f_s)), (h_names, .inl (cJ, 36, .inr (.inl f_names))), (h_reserved, .inl (cJ, 23, .inr (.inl f_reserved))), (h_planRead, .inl (cI, 24, .inl g49))]) (As := []) (rest := []) hx hb hml hown hw (m_X10_next l D cI cJ cB cP cM cZ h0 h_tape F14 x_length 0 400 x_token x_at x_number x_word f_tape _ n57 n61 i_x_length n65 (show 0 ≤ (0 : Int32).toInt ∧ (0 : Int32).toInt ≤ 940 by decide) n69 (show 200 ≤ (400 : Int32).toInt ∧ (400 : Int32).toInt ≤ 940 by decide) n75 i_x_token n81 n87 n93 (by omega)) wV_X10_208_X10_next dX10_plan_130 hK hP hD hS hA [5, 0] [1, 2, 3, 4] rfl rfl (by decide) (by decide) (by decide) 0 10 rfl rfl GG.fb hG.at hl.1 rfl (Nat.le_of_ble_eq_true rfl) ⟨(Nat.le_of_ble_eq_true rfl), (Nat.le_of_ble_eq_true rfl)⟩ ⟨(Nat.le_of_ble_eq_true rfl), (Nat.le_of_ble_eq_true rfl)⟩ (fun u H locs hp hP hD hS => ?_)
        have zl0 : (0 : Int32).toInt = 0 := by decide
        obtain ⟨F95, y96, y97, y98, y99, y100, y101, t102, t103, t104, t105, t106, t107, t108, t109, t110, t111, t112, t113, t114, t115, t116, t117, rfl⟩ := hp
        have hP : va_P D vwCl [(h_s, .inl (cI, 335, .inl f_s)), (h_names, .inl (cJ, 36, .inr (.inl f_names))), (h_reserved, .inl (cJ, 23, .inr (.inl f_reserved))), (h_planRead, .inl (cI, 24, .inl g49)), (h0, .inr (10, vL 67 F95)), (h_tape, .inl (cB, 940, .inl f_tape))] H := hP
        have hD : va_D A [(h_s, .inl (cI, 335, .inl f_s)), (h_names, .inl (cJ, 36, .inr (.inl f_names))), (h_reserved, .inl (cJ, 23, .inr (.inl f_reserved))), (h_planRead, .inl (cI, 24, .inl g49)), (h0, .inr (10, vL 67 F95)), (h_tape, .inl (cB, 940, .inl f_tape))] := hD
        refine W.widen (k := 0) (n := 0) (Nat.le_of_ble_eq_true rfl) (Nat.le_of_ble_eq_true rfl) ?_
        have cut134 : ∀ (u119 : Int32) (w120 : Nat → Int32) (G121 : Nat → Value) (u122 : Int32) (u123 : Int32) (u124 : Int32) (u125 : Int32) (u126 : Int32) (u127 : Int32) (u128 : Int32) (u129 : Int64) (u130 : Int32) (u131 : Int32) (u132 : Int32) (u133 : Int32) (_ : SG 1 4 0 11 w120) (_ : SG 10 10 0 5 w120) (_ : SAME [4, 11, 12, 13, 14, 15, 16, 18, 19, 21, 23, 24] F95 G121) (_ : G121 4 = .int u122) (_ : G121 11 = .int u123) (_ : G121 12 = .int u124) (_ : G121 13 = .int u125) (_ : G121 14 = .int u126) (_ : G121 15 = .int u127) (_ : G121 16 = .int u128) (_ : G121 18 = .long u129) (_ : G121 19 = .int u130) (_ : G121 21 = .int u131) (_ : G121 23 = .int u132) (_ : G121 24 = .int u133) (_ : IR 0 940 u122) (_ : IR 0 4 u123) (_ : IR 0 940 u124) (_ : IR 0 940 u125) (_ : ((VWF u123.toInt u129.toInt))) (_ : ((u123.toInt = 2 → 0 ≤ u126.toInt ∧ u126.toInt ≤ 999))) (H : Heap) (locs : List Loc) (ls : Array Slot), va_P D vwCl [(h_s, .inl (cI, 335, .inl f_s)), (h_names, .inl (cJ, 36, .inr (.inl f_names))), (h_reserved, .inl (cJ, 23, .inr (.inl f_reserved))), (h_planRead, .inl (cI, 24, .inl w120)), (h0, .inr (10, vL 67 G121)), (h_tape, .inl (cB, 940, .inl f_tape))] H → va_D A [(h_s, .inl (cI, 335, .inl f_s)), (h_names, .inl (cJ, 36, .inr (.inl f_names))), (h_reserved, .inl (cJ, 23, .inr (.inl f_reserved))), (h_planRead, .inl (cI, 24, .inl w120)), (h0, .inr (10, vL 67 G121)), (h_tape, .inl (cB, 940, .inl f_tape))] → va_S A s.heap H locs → lv_has ls 3 [(1, .int u119), (0, .ref h0)] → W p l e ({ frames := 4, cells := 0, slots := 0, locals := 86 } : Room) s m [.ref h0].toArray below meth c H locs 0 0 (MQ below (va_Qi (fun (r : Int32) (u : va_W) => ∃ (Gh : Nat → Value) (y_p : Int32) (y_token : Int32) (y_at : Int32) (y_span : Int32) (y_number : Int32) (y_fault : Int32) (y_faultAt : Int32) (y_word : Int64) (y_got : Int32) (y_onces : Int32) (y_jumped : Int32) (y_heights : Int32) (y_undoMany : Int32) (g_s : Nat → Int32) (g_planRead : Nat → Int32), SAME [0, 2, 3, 4, 5, 11, 12, 13, 14, 15, 16, 18, 19, 21, 23, 24, 41] Fh Gh ∧ Gh 0 = .int 0 ∧ Gh 2 = .int 0 ∧ Gh 3 = .int x_length ∧ Gh 4 = .int y_p ∧ IR 0 940 y_p ∧ Gh 5 = .int 400 ∧ Gh 11 = .int y_token ∧ IR 0 4 y_token ∧ Gh 12 = .int y_at ∧ Gh 13 = .int y_span ∧ Gh 14 = .int y_number ∧ Gh 15 = .int y_fault ∧ Gh 16 = .int y_faultAt ∧ Gh 18 = .long y_word ∧ Gh 19 = .int y_got ∧ Gh 21 = .int y_onces ∧ Gh 23 = .int y_jumped ∧ Gh 24 = .int y_heights ∧ Gh 41 = .int y_undoMany ∧ IR 0 8 y_undoMany ∧ SG 153 153 0 44 g_s ∧ SG 0 0 0 40 g_s ∧ SG 5 5 0 12 g_s ∧ SG 6 6 0 12 g_s ∧ SG 7 7 0 6 g_s ∧ SG 44 55 0 9 g_s ∧ KW 0 g_s ∧ SG 105 108 0 11 g_s ∧ SG 114 114 0 5 g_s ∧ SG 130 133 0 11 g_s ∧ SG 139 139 0 5 g_s ∧ SG 1 4 0 11 g_planRead ∧ SG 10 10 0 5 g_planRead ∧ ((y_token.toInt = 2 → 0 ≤ y_number.toInt ∧ y_number.toInt ≤ 999)) ∧ u = [(h0, .inr (10, vL 67 Gh)), (h_tape, .inl (cB, 940, .inl f_tape)), (h_s, .inl (cI, 335, .inl g_s)), (h_names, .inl (cJ, 36, .inr (.inl f_names))), (h_reserved, .inl (cJ, 23, .inr (.inl f_reserved))), (h_planRead, .inl (cI, 24, .inl g_planRead))]) (PO D A) A) [.ref h0].toArray s 0 0 A) (F0 m 169 ls []) := by
          intro u119 w120 G121 u122 u123 u124 u125 u126 u127 u128 u129 u130 u131 u132 u133 i135 i136 i137 i138 i139 i140 i141 i142 i143 i144 i145 i146 i147 i148 i149 i150 i151 i152 i153 i154 i155 H locs ls hP hD hS hl
          have i150 : 0 ≤ u122.toInt ∧ u122.toInt ≤ 940 := i150
          have i151 : 0 ≤ u123.toInt ∧ u123.toInt ≤ 4 := i151
          have i152 : 0 ≤ u124.toInt ∧ u124.toInt ≤ 940 := i152
          have i153 : 0 ≤ u125.toInt ∧ u125.toInt ≤ 940 := i153
          have i154 : (VWF u123.toInt u129.toInt) := i154
          have i155 : (u123.toInt = 2 → 0 ≤ u126.toInt ∧ u126.toInt ≤ 999) := i155
          refine lv_iconst (v := 0) hx hb dX10_plan_169 (by decide) ?_
          refine lv_istore_n (lv' := [(2, .int 0), (1, .int u119), (0, .ref h0)]) hx hb dX10_plan_170 rfl hl (by decide) rfl (fun ls hl => ?_)
          refine mloop (α := (Int32) × (Nat → Int32)) (nL := 3) (D := D) (A := A) (H0 := s.heap) (fun a => (24 - a.1.toInt).toNat) (fun a => IR 0 24 a.1 ∧ KW 0 a.2 ∧ SG 0 0 0 40 a.2 ∧ SG 105 108 0 11 a.2 ∧ SG 114 114 0 5 a.2 ∧ SG 130 133 0 11 a.2 ∧ SG 139 139 0 5 a.2 ∧ SG 153 153 0 44 a.2 ∧ SG 44 55 0 9 a.2 ∧ SG 5 5 0 12 a.2 ∧ SG 6 6 0 12 a.2 ∧ SG 7 7 0 6 a.2) (fun a => [(h_s, .inl (cI, 335, .inl a.2)), (h_names, .inl (cJ, 36, .inr (.inl f_names))), (h_reserved, .inl (cJ, 23, .inr (.inl f_reserved))), (h_planRead, .inl (cI, 24, .inl w120)), (h0, .inr (10, vL 67 G121)), (h_tape, .inl (cB, 940, .inl f_tape))]) (fun a => [(2, .int a.1), (1, .int u119), (0, .ref h0)]) (fun H locs ls => W p l e ({ frames := 4, cells := 0, slots := 0, locals := 86 } : Room) s m [.ref h0].toArray below meth c H locs 0 0 (MQ below (va_Qi (fun (r : Int32) (u : va_W) => ∃ (Gh : Nat → Value) (y_p : Int32) (y_token : Int32) (y_at : Int32) (y_span : Int32) (y_number : Int32) (y_fault : Int32) (y_faultAt : Int32) (y_word : Int64) (y_got : Int32) (y_onces : Int32) (y_jumped : Int32) (y_heights : Int32) (y_undoMany : Int32) (g_s : Nat → Int32) (g_planRead : Nat → Int32), SAME [0, 2, 3, 4, 5, 11, 12, 13, 14, 15, 16, 18, 19, 21, 23, 24, 41] Fh Gh ∧ Gh 0 = .int 0 ∧ Gh 2 = .int 0 ∧ Gh 3 = .int x_length ∧ Gh 4 = .int y_p ∧ IR 0 940 y_p ∧ Gh 5 = .int 400 ∧ Gh 11 = .int y_token ∧ IR 0 4 y_token ∧ Gh 12 = .int y_at ∧ Gh 13 = .int y_span ∧ Gh 14 = .int y_number ∧ Gh 15 = .int y_fault ∧ Gh 16 = .int y_faultAt ∧ Gh 18 = .long y_word ∧ Gh 19 = .int y_got ∧ Gh 21 = .int y_onces ∧ Gh 23 = .int y_jumped ∧ Gh 24 = .int y_heights ∧ Gh 41 = .int y_undoMany ∧ IR 0 8 y_undoMany ∧ SG 153 153 0 44 g_s ∧ SG 0 0 0 40 g_s ∧ SG 5 5 0 12 g_s ∧ SG 6 6 0 12 g_s ∧ SG 7 7 0 6 g_s ∧ SG 44 55 0 9 g_s ∧ KW 0 g_s ∧ SG 105 108 0 11 g_s ∧ SG 114 114 0 5 g_s ∧ SG 130 133 0 11 g_s ∧ SG 139 139 0 5 g_s ∧ SG 1 4 0 11 g_planRead ∧ SG 10 10 0 5 g_planRead ∧ ((y_token.toInt = 2 → 0 ≤ y_number.toInt ∧ y_number.toInt ≤ 999)) ∧ u = [(h0, .inr (10, vL 67 Gh)), (h_tape, .inl (cB, 940, .inl f_tape)), (h_s, .inl (cI, 335, .inl g_s)), (h_names, .inl (cJ, 36, .inr (.inl f_names))), (h_reserved, .inl (cJ, 23, .inr (.inl f_reserved))), (h_planRead, .inl (cI, 24, .inl g_planRead))]) (PO D A) A) [.ref h0].toArray s 0 0 A) (F0 m 171 ls [])) ?_ (0, f_s) ⟨(show 0 ≤ (0 : Int32).toInt ∧ (0 : Int32).toInt ≤ 24 by decide), s_s_K0, s_s_0, s_s_105, s_s_114, s_s_130, s_s_139, s_s_153, s_s_44, s_s_5, s_s_6, s_s_7⟩ _ _ _ hP hD hS hl
          rintro ⟨u156, w157⟩ ⟨i158, i159, i160, i161, i162, i163, i164, i165, i166, i167, i168, i169⟩ ih_171 H locs ls hP hD hS hl
          have i158 : 0 ≤ u156.toInt ∧ u156.toInt ≤ 24 := i158
          have hP : va_P D vwCl [(h_s, .inl (cI, 335, .inl w157)), (h_names, .inl (cJ, 36, .inr (.inl f_names))), (h_reserved, .inl (cJ, 23, .inr (.inl f_reserved))), (h_planRead, .inl (cI, 24, .inl w120)), (h0, .inr (10, vL 67 G121)), (h_tape, .inl (cB, 940, .inl f_tape))] H := hP
          have hD : va_D A [(h_s, .inl (cI, 335, .inl w157)), (h_names, .inl (cJ, 36, .inr (.inl f_names))), (h_reserved, .inl (cJ, 23, .inr (.inl f_reserved))), (h_planRead, .inl (cI, 24, .inl w120)), (h0, .inr (10, vL 67 G121)), (h_tape, .inl (cB, 940, .inl f_tape))] := hD
          have hl : lv_has ls 3 [(2, .int u156), (1, .int u119), (0, .ref h0)] := hl
          refine lv_iload_n hx hb dX10_plan_171 rfl (lv_at hl 0 rfl) ?_
          refine lv_bipush (v := 24) hx hb dX10_plan_172 (by decide) ?_
          refine lv_icmp_ge (tgt := 198) hx hb dX10_plan_174 (by decide) (fun c170 => ?_) (fun c170 => ?_)
          · have dc170 : 24 ≤ u156.toInt := le_i (a := 24) (b := u156.toInt) rfl rfl c170
            have k171 : 24 ≤ u156.toInt ∧ u156.toInt ≤ 24 := ⟨Int.le_trans (Int.le_refl _) dc170, i158.2⟩
            refine lv_aload_n hx hb dX10_plan_198 rfl (lv_at hl 2 rfl) ?_
            refine lv_iconst (v := 0) hx hb dX10_plan_199 (by decide) ?_
            refine put_f (D := D) (ci := 10) (v := .int 0) (ty := .int) (C := RX10) (T := TX10) (N := 67) hx hb hw inAX10 tyX10 tyX10_ok nmX10 hown hK hP hD hS 4 rfl rfl 41 (by decide) (hw _ q_1302) (fun _ h9 => h9) rfl (by decide +kernel) rfl rfl dX10_plan_200 (fun H locs F172 eF172 hP hD hS => ?_)
            have hP : va_P D vwCl [(h_s, .inl (cI, 335, .inl w157)), (h_names, .inl (cJ, 36, .inr (.inl f_names))), (h_reserved, .inl (cJ, 23, .inr (.inl f_reserved))), (h_planRead, .inl (cI, 24, .inl w120)), (h0, .inr (10, vL 67 F172)), (h_tape, .inl (cB, 940, .inl f_tape))] H := hP
            have hD : va_D A [(h_s, .inl (cI, 335, .inl w157)), (h_names, .inl (cJ, 36, .inr (.inl f_names))), (h_reserved, .inl (cJ, 23, .inr (.inl f_reserved))), (h_planRead, .inl (cI, 24, .inl w120)), (h0, .inr (10, vL 67 F172)), (h_tape, .inl (cB, 940, .inl f_tape))] := hD
            refine lv_iload_n hx hb dX10_plan_203 rfl (lv_at hl 1 rfl) ?_
            exact ret_i (v := u119) hx hb hr hlocks hS (hP.sub (ws' := [(h0, .inr (10, vL 67 F172)), (h_tape, .inl (cB, 940, .inl f_tape)), (h_s, .inl (cI, 335, .inl w157)), (h_names, .inl (cJ, 36, .inr (.inl f_names))), (h_reserved, .inl (cJ, 23, .inr (.inl f_reserved))), (h_planRead, .inl (cI, 24, .inl w120))]) [4, 5, 0, 1, 2, 3] rfl) (hD.sub (ws' := [(h0, .inr (10, vL 67 F172)), (h_tape, .inl (cB, 940, .inl f_tape)), (h_s, .inl (cI, 335, .inl w157)), (h_names, .inl (cJ, 36, .inr (.inl f_names))), (h_reserved, .inl (cJ, 23, .inr (.inl f_reserved))), (h_planRead, .inl (cI, 24, .inl w120))]) [4, 5, 0, 1, 2, 3] (by decide) rfl) dX10_plan_204 rfl (Nat.le_of_ble_eq_true rfl) (Nat.le_of_ble_eq_true rfl) ⟨F172, u122, u123, u124, u125, u126, u127, u128, u129, u130, u131, u132, u133, 0, w157, w120, (SAME.up eF172 (SAME.tr (SAME.tr (SAME.up eF14 (SAME.up eF13 (SAME.up eF12 (SAME.up eF11 (SAME.tr (SAME.up eF1 SAME.rf (by decide)) t5 (by decide)) (by decide)) (by decide)) (by decide)) (by decide)) t102 (by decide)) i137 (by decide)) (by decide)), (get_ne eF172 (by decide) (SAME.at i137 (by decide) (SAME.at t102 (by decide) (get_ne eF14 (by decide) (get_ne eF13 (by decide) (get_ne eF12 (by decide) (get_ne eF11 (by decide) (SAME.at t5 (by decide) (get_eq eF1))))))))), (get_ne eF172 (by decide) (SAME.at i137 (by decide) (SAME.at t102 (by decide) (get_ne eF14 (by decide) (get_ne eF13 (by decide) (get_ne eF12 (by decide) (get_ne eF11 (by decide) t6))))))), (get_ne eF172 (by decide) (SAME.at i137 (by decide) (SAME.at t102 (by decide) n61))), (get_ne eF172 (by decide) i138), i150, (get_ne eF172 (by decide) (SAME.at i137 (by decide) (SAME.at t102 (by decide) n69))), (get_ne eF172 (by decide) i139), i151, (get_ne eF172 (by decide) i140), (get_ne eF172 (by decide) i141), (get_ne eF172 (by decide) i142), (get_ne eF172 (by decide) i143), (get_ne eF172 (by decide) i144), (get_ne eF172 (by decide) i145), (get_ne eF172 (by decide) i146), (get_ne eF172 (by decide) i147), (get_ne eF172 (by decide) i148), (get_ne eF172 (by decide) i149), (get_eq eF172), (show 0 ≤ (0 : Int32).toInt ∧ (0 : Int32).toInt ≤ 8 by decide), i165, i160, i167, i168, i169, i166, i159, i161, i162, i163, i164, i135, i136, (by have zl0 : (0 : Int32).toInt = 0 := (by decide); omega), rfl⟩
          · have dc170 : u156.toInt < 24 := nle_i (a := 24) (b := u156.toInt) rfl rfl c170
            have k173 : 0 ≤ u156.toInt ∧ u156.toInt ≤ 23 := ⟨i158.1, up_lt dc170 (Int.le_refl _) (by decide)⟩
            refine lv_aload_n hx hb dX10_plan_177 rfl (lv_at hl 2 rfl) ?_
            have n174 : F95 6 = .ref h_s := (SAME.at t102 (by decide) n39)
            have n175 : G121 6 = .ref h_s := (SAME.at i137 (by decide) n174)
            refine get_f (D := D) (ci := 10) (v := .ref h_s) (C := RX10) (T := TX10) (N := 67) hx hb hw inAX10 hown hK hP 4 rfl rfl 6 (by decide) (hw _ q_1267) (fun _ h9 => h9) n175 dX10_plan_178 ?_
            refine lv_bipush (v := 104) hx hb dX10_plan_181 (by decide) ?_
            refine lv_iload_n hx hb dX10_plan_183 rfl (lv_at hl 0 rfl) ?_
            refine lv_iadd hx hb dX10_plan_184 ?_
            refine lv_topi (fun v176 ev176 => ?_)
            have bv176 : v176.toInt = 104 + u156.toInt := by rw [ev176]; exact add_k rfl rfl ⟨Int.le_refl _, Int.le_refl _⟩ k173 (by decide)
            have k177 : 104 ≤ v176.toInt ∧ v176.toInt ≤ 127 := add_r bv176 ⟨Int.le_refl _, Int.le_refl _⟩ k173 (by decide)
            refine lv_aload_n hx hb dX10_plan_185 rfl (lv_at hl 2 rfl) ?_
            have n178 : F95 22 = .ref h_planRead := (SAME.at t102 (by decide) n48)
            have n179 : G121 22 = .ref h_planRead := (SAME.at i137 (by decide) n178)
            refine get_f (D := D) (ci := 10) (v := .ref h_planRead) (C := RX10) (T := TX10) (N := 67) hx hb hw inAX10 hown hK hP 4 rfl rfl 22 (by decide) (hw _ q_1283) (fun _ h9 => h9) n179 dX10_plan_186 ?_
            refine lv_iload_n hx hb dX10_plan_189 rfl (lv_at hl 0 rfl) ?_
            refine va_iald hx hb hK hP 3 0 rfl rfl (ix_k k173 (by decide) (by decide)) dX10_plan_190 ?_
            refine lv_topi (fun v180 ev180 => ?_)
            have r181 : IMP (1 ≤ u156.toInt → u156.toInt ≤ 4 → 0 ≤ v180.toInt ∧ v180.toInt ≤ 11) := IMP.mk (fun q1 q2 => by rw [ev180]; exact i135.at _ q1 q2)
            have r182 : IMP (10 ≤ u156.toInt → u156.toInt ≤ 10 → 0 ≤ v180.toInt ∧ v180.toInt ≤ 5) := IMP.mk (fun q1 q2 => by rw [ev180]; exact i136.at _ q1 q2)
            obtain ⟨g183, eg183⟩ : ∃ z : Nat → Int32, upd w157 v176.toNatClampNeg v180 = z := ⟨_, rfl⟩
            have r184 : KW 0 g183 := by rw [← eg183]; exact i159.up (Int.le_trans (by decide) k177.1) (Or.inl (lt_dec k177.2 (by decide)))
            have r185 : SG 0 0 0 40 g183 := by rw [← eg183]; exact i160.up (Int.le_trans (by decide) k177.1) (Or.inr (Or.inl (dec_lt k177.1 (by decide))))
            have r186 : SG 105 108 0 11 g183 := by rw [← eg183]; exact i161.upI (Int.le_trans (by decide) k177.1) (fun q1 q2 => ⟨Int.le_trans (by decide) (r181.h (by omega) (by omega)).1, Int.le_trans (r181.h (by omega) (by omega)).2 (by decide)⟩)
            have r187 : SG 114 114 0 5 g183 := by rw [← eg183]; exact i162.upI (Int.le_trans (by decide) k177.1) (fun q1 q2 => ⟨Int.le_trans (by decide) (r182.h (by omega) (by omega)).1, Int.le_trans (r182.h (by omega) (by omega)).2 (by decide)⟩)
            have r188 : SG 130 133 0 11 g183 := by rw [← eg183]; exact i163.up (Int.le_trans (by decide) k177.1) (Or.inl (lt_dec k177.2 (by decide)))
            have r189 : SG 139 139 0 5 g183 := by rw [← eg183]; exact i164.up (Int.le_trans (by decide) k177.1) (Or.inl (lt_dec k177.2 (by decide)))
            have r190 : SG 153 153 0 44 g183 := by rw [← eg183]; exact i165.up (Int.le_trans (by decide) k177.1) (Or.inl (lt_dec k177.2 (by decide)))
            have r191 : SG 44 55 0 9 g183 := by rw [← eg183]; exact i166.up (Int.le_trans (by decide) k177.1) (Or.inr (Or.inl (dec_lt k177.1 (by decide))))
            have r192 : SG 5 5 0 12 g183 := by rw [← eg183]; exact i167.up (Int.le_trans (by decide) k177.1) (Or.inr (Or.inl (dec_lt k177.1 (by decide))))
            have r193 : SG 6 6 0 12 g183 := by rw [← eg183]; exact i168.up (Int.le_trans (by decide) k177.1) (Or.inr (Or.inl (dec_lt k177.1 (by decide))))
            have r194 : SG 7 7 0 6 g183 := by rw [← eg183]; exact i169.up (Int.le_trans (by decide) k177.1) (Or.inr (Or.inl (dec_lt k177.1 (by decide))))
            refine iast_g hx hb hK hP hD hS 0 0 rfl rfl (ix_k k177 (by decide) (by decide)) eg183 dX10_plan_191 (fun H locs hP hD hS => ?_)
            have hP : va_P D vwCl [(h_s, .inl (cI, 335, .inl g183)), (h_names, .inl (cJ, 36, .inr (.inl f_names))), (h_reserved, .inl (cJ, 23, .inr (.inl f_reserved))), (h_planRead, .inl (cI, 24, .inl w120)), (h0, .inr (10, vL 67 G121)), (h_tape, .inl (cB, 940, .inl f_tape))] H := hP
            have hD : va_D A [(h_s, .inl (cI, 335, .inl g183)), (h_names, .inl (cJ, 36, .inr (.inl f_names))), (h_reserved, .inl (cJ, 23, .inr (.inl f_reserved))), (h_planRead, .inl (cI, 24, .inl w120)), (h0, .inr (10, vL 67 G121)), (h_tape, .inl (cB, 940, .inl f_tape))] := hD
            obtain ⟨v195, ev195⟩ : ∃ z : Int32, z = u156 + 1 := ⟨_, rfl⟩
            have bv195 : v195.toInt = u156.toInt + 1 := by rw [ev195]; exact add_k rfl rfl k173 ⟨Int.le_refl _, Int.le_refl _⟩ (by decide)
            have k196 : 1 ≤ v195.toInt ∧ v195.toInt ≤ 24 := add_r bv195 k173 ⟨Int.le_refl _, Int.le_refl _⟩ (by decide)
            refine lv_iinc (v := v195) (lv' := [(2, .int v195), (1, .int u119), (0, .ref h0)]) hx hb dX10_plan_192 hl (k := 0) rfl (by rw [ev195]; rfl) (by decide) rfl (fun ls hl => ?_)
            refine lv_goto (tgt := 171) hx hb dX10_plan_195 (by decide) ?_
            exact ih_171 (v195, g183) ⟨(ir_wk k196 (by decide) (by decide)), r184, r185, r186, r187, r188, r189, r190, r191, r192, r193, r194⟩ (by show (24 - v195.toInt).toNat < (24 - u156.toInt).toNat; omega) _ _ _ hP hD hS (lv_sub hl [0, 1, 2] rfl)
        have n197 : F12 15 = .int 0 := (get_ne eF12 (by decide) (get_eq eF11))
        have n198 : F13 15 = .int 0 := (get_ne eF13 (by decide) n197)
        have n199 : F14 15 = .int 0 := (get_ne eF14 (by decide) n198)
        have n200 : F95 15 = .int 0 := (SAME.at t102 (by decide) n199)
        have n201 : F1 16 = .int x_faultAt := (get_ne eF1 (by decide) e_faultAt)
        have n202 : F4 16 = .int x_faultAt := (SAME.at t5 (by decide) n201)
        have n203 : F11 16 = .int x_faultAt := (get_ne eF11 (by decide) n202)
        have n204 : F12 16 = .int x_faultAt := (get_ne eF12 (by decide) n203)
        have n205 : F13 16 = .int x_faultAt := (get_ne eF13 (by decide) n204)
        have n206 : F14 16 = .int x_faultAt := (get_ne eF14 (by decide) n205)
        have n207 : F95 16 = .int x_faultAt := (SAME.at t102 (by decide) n206)
        have n208 : F1 19 = .int x_got := (get_ne eF1 (by decide) e_got)
        have n209 : F4 19 = .int x_got := (SAME.at t5 (by decide) n208)
        have n210 : F11 19 = .int x_got := (get_ne eF11 (by decide) n209)
        have n211 : F12 19 = .int x_got := (get_ne eF12 (by decide) n210)
        have n212 : F13 19 = .int x_got := (get_ne eF13 (by decide) n211)
        have n213 : F14 19 = .int x_got := (get_ne eF14 (by decide) n212)
        have n214 : F95 19 = .int x_got := (SAME.at t102 (by decide) n213)
        have n215 : F13 21 = .int 0 := (get_ne eF13 (by decide) (get_eq eF12))
        have n216 : F14 21 = .int 0 := (get_ne eF14 (by decide) n215)
        have n217 : F95 21 = .int 0 := (SAME.at t102 (by decide) n216)
        have n218 : F14 23 = .int 0 := (get_ne eF14 (by decide) (get_eq eF13))
        have n219 : F95 23 = .int 0 := (SAME.at t102 (by decide) n218)
        have n220 : F95 24 = .int 0 := (SAME.at t102 (by decide) (get_eq eF14))
        refine mloop (α := (Int32) × (Nat → Int32) × (Nat → Value) × (Int32) × (Int32) × (Int32) × (Int32) × (Int32) × (Int32) × (Int32) × (Int64) × (Int32) × (Int32) × (Int32) × (Int32)) (nL := 3) (D := D) (A := A) (H0 := s.heap) (fun a => (940 - a.2.2.2.1.toInt).toNat) (fun a => SG 1 4 0 11 a.2.1 ∧ SG 10 10 0 5 a.2.1 ∧ SAME [4, 11, 12, 13, 14, 15, 16, 18, 19, 21, 23, 24] F95 a.2.2.1 ∧ a.2.2.1 4 = .int a.2.2.2.1 ∧ a.2.2.1 11 = .int a.2.2.2.2.1 ∧ a.2.2.1 12 = .int a.2.2.2.2.2.1 ∧ a.2.2.1 13 = .int a.2.2.2.2.2.2.1 ∧ a.2.2.1 14 = .int a.2.2.2.2.2.2.2.1 ∧ a.2.2.1 15 = .int a.2.2.2.2.2.2.2.2.1 ∧ a.2.2.1 16 = .int a.2.2.2.2.2.2.2.2.2.1 ∧ a.2.2.1 18 = .long a.2.2.2.2.2.2.2.2.2.2.1 ∧ a.2.2.1 19 = .int a.2.2.2.2.2.2.2.2.2.2.2.1 ∧ a.2.2.1 21 = .int a.2.2.2.2.2.2.2.2.2.2.2.2.1 ∧ a.2.2.1 23 = .int a.2.2.2.2.2.2.2.2.2.2.2.2.2.1 ∧ a.2.2.1 24 = .int a.2.2.2.2.2.2.2.2.2.2.2.2.2.2 ∧ IR 0 940 a.2.2.2.1 ∧ IR 0 4 a.2.2.2.2.1 ∧ IR 0 940 a.2.2.2.2.2.1 ∧ IR 0 940 a.2.2.2.2.2.2.1 ∧ ((VWF a.2.2.2.2.1.toInt a.2.2.2.2.2.2.2.2.2.2.1.toInt)) ∧ ((a.2.2.2.2.1.toInt = 2 → 0 ≤ a.2.2.2.2.2.2.2.1.toInt ∧ a.2.2.2.2.2.2.2.1.toInt ≤ 999))) (fun a => [(h_s, .inl (cI, 335, .inl f_s)), (h_names, .inl (cJ, 36, .inr (.inl f_names))), (h_reserved, .inl (cJ, 23, .inr (.inl f_reserved))), (h_planRead, .inl (cI, 24, .inl a.2.1)), (h0, .inr (10, vL 67 a.2.2.1)), (h_tape, .inl (cB, 940, .inl f_tape))]) (fun a => [(1, .int a.1), (0, .ref h0)]) (fun H locs ls => W p l e ({ frames := 4, cells := 0, slots := 0, locals := 86 } : Room) s m [.ref h0].toArray below meth c H locs 0 0 (MQ below (va_Qi (fun (r : Int32) (u : va_W) => ∃ (Gh : Nat → Value) (y_p : Int32) (y_token : Int32) (y_at : Int32) (y_span : Int32) (y_number : Int32) (y_fault : Int32) (y_faultAt : Int32) (y_word : Int64) (y_got : Int32) (y_onces : Int32) (y_jumped : Int32) (y_heights : Int32) (y_undoMany : Int32) (g_s : Nat → Int32) (g_planRead : Nat → Int32), SAME [0, 2, 3, 4, 5, 11, 12, 13, 14, 15, 16, 18, 19, 21, 23, 24, 41] Fh Gh ∧ Gh 0 = .int 0 ∧ Gh 2 = .int 0 ∧ Gh 3 = .int x_length ∧ Gh 4 = .int y_p ∧ IR 0 940 y_p ∧ Gh 5 = .int 400 ∧ Gh 11 = .int y_token ∧ IR 0 4 y_token ∧ Gh 12 = .int y_at ∧ Gh 13 = .int y_span ∧ Gh 14 = .int y_number ∧ Gh 15 = .int y_fault ∧ Gh 16 = .int y_faultAt ∧ Gh 18 = .long y_word ∧ Gh 19 = .int y_got ∧ Gh 21 = .int y_onces ∧ Gh 23 = .int y_jumped ∧ Gh 24 = .int y_heights ∧ Gh 41 = .int y_undoMany ∧ IR 0 8 y_undoMany ∧ SG 153 153 0 44 g_s ∧ SG 0 0 0 40 g_s ∧ SG 5 5 0 12 g_s ∧ SG 6 6 0 12 g_s ∧ SG 7 7 0 6 g_s ∧ SG 44 55 0 9 g_s ∧ KW 0 g_s ∧ SG 105 108 0 11 g_s ∧ SG 114 114 0 5 g_s ∧ SG 130 133 0 11 g_s ∧ SG 139 139 0 5 g_s ∧ SG 1 4 0 11 g_planRead ∧ SG 10 10 0 5 g_planRead ∧ ((y_token.toInt = 2 → 0 ≤ y_number.toInt ∧ y_number.toInt ≤ 999)) ∧ u = [(h0, .inr (10, vL 67 Gh)), (h_tape, .inl (cB, 940, .inl f_tape)), (h_s, .inl (cI, 335, .inl g_s)), (h_names, .inl (cJ, 36, .inr (.inl f_names))), (h_reserved, .inl (cJ, 23, .inr (.inl f_reserved))), (h_planRead, .inl (cI, 24, .inl g_planRead))]) (PO D A) A) [.ref h0].toArray s 0 0 A) (F0 m 133 ls [])) ?_ (0, g49, F95, y96, y97, y98, y99, y100, 0, x_faultAt, y101, x_got, 0, 0, 0) ⟨r50, r51, SAME.rf, t103, t105, t107, t109, t111, n200, n207, t112, n214, n217, n219, n220, t104, t106, t108, t110, (show (VWF y97.toInt y101.toInt) from t116), (by show (y97.toInt = 2 → 0 ≤ y100.toInt ∧ y100.toInt ≤ 999); omega)⟩ _ _ _ hP hD hS hl
        rintro ⟨u119, w120, G121, u122, u123, u124, u125, u126, u127, u128, u129, u130, u131, u132, u133⟩ ⟨i221, i222, i223, i224, i225, i226, i227, i228, i229, i230, i231, i232, i233, i234, i235, i236, i237, i238, i239, i240, i241⟩ ih_133 H locs ls hP hD hS hl
        have i236 : 0 ≤ u122.toInt ∧ u122.toInt ≤ 940 := i236
        have i237 : 0 ≤ u123.toInt ∧ u123.toInt ≤ 4 := i237
        have i238 : 0 ≤ u124.toInt ∧ u124.toInt ≤ 940 := i238
        have i239 : 0 ≤ u125.toInt ∧ u125.toInt ≤ 940 := i239
        have i240 : (VWF u123.toInt u129.toInt) := i240
        have i241 : (u123.toInt = 2 → 0 ≤ u126.toInt ∧ u126.toInt ≤ 999) := i241
        have hP : va_P D vwCl [(h_s, .inl (cI, 335, .inl f_s)), (h_names, .inl (cJ, 36, .inr (.inl f_names))), (h_reserved, .inl (cJ, 23, .inr (.inl f_reserved))), (h_planRead, .inl (cI, 24, .inl w120)), (h0, .inr (10, vL 67 G121)), (h_tape, .inl (cB, 940, .inl f_tape))] H := hP
        have hD : va_D A [(h_s, .inl (cI, 335, .inl f_s)), (h_names, .inl (cJ, 36, .inr (.inl f_names))), (h_reserved, .inl (cJ, 23, .inr (.inl f_reserved))), (h_planRead, .inl (cI, 24, .inl w120)), (h0, .inr (10, vL 67 G121)), (h_tape, .inl (cB, 940, .inl f_tape))] := hD
        have hl : lv_has ls 3 [(1, .int u119), (0, .ref h0)] := hl
        refine lv_aload_n hx hb dX10_plan_133 rfl (lv_at hl 1 rfl) ?_
        refine get_f (D := D) (ci := 10) (v := .int u123) (C := RX10) (T := TX10) (N := 67) hx hb hw inAX10 hown hK hP 4 rfl rfl 11 (by decide) (hw _ q_1272) (fun _ h9 => h9) i225 dX10_plan_134 ?_
        refine lv_if_eq (tgt := 169) hx hb dX10_plan_137 (by decide) (fun c242 => ?_) (fun c242 => ?_)
        · have dc242 : u123.toInt = 0 := eq_i (a := u123.toInt) (b := 0) rfl rfl c242
          have k243 : 0 ≤ u123.toInt ∧ u123.toInt ≤ 0 := ⟨i237.1, Int.le_trans (Int.le_of_eq dc242) (Int.le_refl _)⟩
          exact cut134 u119 w120 G121 u122 u123 u124 u125 u126 u127 u128 u129 u130 u131 u132 u133 i221 i222 (SAME.tr SAME.rf i223 (by decide)) i224 i225 i226 i227 i228 i229 i230 i231 i232 i233 i234 i235 i236 (ir_wk k243 (by decide) (by decide)) i238 i239 (show (VWF u123.toInt u129.toInt) from i240) (by show (u123.toInt = 2 → 0 ≤ u126.toInt ∧ u126.toInt ≤ 999); omega) _ _ _ hP hD hS (lv_sub hl [0, 1] rfl)
        · have dc242 : u123.toInt ≠ 0 := ne_i (a := u123.toInt) (b := 0) rfl rfl c242
          have k244 : 1 ≤ u123.toInt ∧ u123.toInt ≤ 4 := ⟨ne_lo dc242 i237.1 ⟨Int.le_refl _, Int.le_refl _⟩ (by decide), i237.2⟩
          refine lv_aload_n hx hb dX10_plan_140 rfl (lv_at hl 1 rfl) ?_
          have n245 : F95 1 = .ref h_tape := (SAME.at t102 (by decide) n57)
          have n246 : G121 1 = .ref h_tape := (SAME.at i223 (by decide) n245)
          have n247 : F95 3 = .int x_length := (SAME.at t102 (by decide) n61)
          have n248 : G121 3 = .int x_length := (SAME.at i223 (by decide) n247)
          have n249 : F95 5 = .int 400 := (SAME.at t102 (by decide) n69)
          have n250 : G121 5 = .int 400 := (SAME.at i223 (by decide) n249)
          have n251 : F95 6 = .ref h_s := (SAME.at t102 (by decide) n39)
          have n252 : G121 6 = .ref h_s := (SAME.at i223 (by decide) n251)
          have n253 : F1 9 = .ref h_names := (get_ne eF1 (by decide) e_names)
          have n254 : F4 9 = .ref h_names := (SAME.at t5 (by decide) n253)
          have n255 : F11 9 = .ref h_names := (get_ne eF11 (by decide) n254)
          have n256 : F12 9 = .ref h_names := (get_ne eF12 (by decide) n255)
          have n257 : F13 9 = .ref h_names := (get_ne eF13 (by decide) n256)
          have n258 : F14 9 = .ref h_names := (get_ne eF14 (by decide) n257)
          have n259 : F95 9 = .ref h_names := (SAME.at t102 (by decide) n258)
          have n260 : G121 9 = .ref h_names := (SAME.at i223 (by decide) n259)
          have n261 : F1 10 = .ref h_reserved := (get_ne eF1 (by decide) e_reserved)
          have n262 : F4 10 = .ref h_reserved := (SAME.at t5 (by decide) n261)
          have n263 : F11 10 = .ref h_reserved := (get_ne eF11 (by decide) n262)
          have n264 : F12 10 = .ref h_reserved := (get_ne eF12 (by decide) n263)
          have n265 : F13 10 = .ref h_reserved := (get_ne eF13 (by decide) n264)
          have n266 : F14 10 = .ref h_reserved := (get_ne eF14 (by decide) n265)
          have n267 : F95 10 = .ref h_reserved := (SAME.at t102 (by decide) n266)
          have n268 : G121 10 = .ref h_reserved := (SAME.at i223 (by decide) n267)
          have n269 : F95 22 = .ref h_planRead := (SAME.at t102 (by decide) n48)
          have n270 : G121 22 = .ref h_planRead := (SAME.at i223 (by decide) n269)
          refine call_Vi (wr := []) (As := []) (rest := []) hx hb hml hown hw (m_X10_planLine l D cI cJ cB cP cM cZ h0 h_tape h_s h_names h_reserved h_planRead G121 x_length u122 400 u123 u124 u125 u126 u127 u128 u129 u130 u131 u132 u133 f_tape f_s f_names f_reserved w120 _ n246 n248 i_x_length i224 i236 n250 (show 200 ≤ (400 : Int32).toInt ∧ (400 : Int32).toInt ≤ 940 by decide) n252 n260 n268 i225 (ir_wk k244 (by decide) (by decide)) i226 i227 i228 i229 i230 i231 i232 i233 n270 i234 i235 s_s_K0 s_s_0 s_s_105 s_s_114 s_s_130 s_s_139 s_s_153 s_s_44 s_s_5 s_s_6 s_s_7 s_reserved_KR i221 i222 i240 (by omega)) wV_X10_278_X10_planLine dX10_plan_141 hK hP hD hS hA [4, 5, 0, 1, 2, 3] [] rfl rfl (by decide) (by decide) (by decide) 0 10 rfl rfl GG.fb hG.at hl.1 rfl (Nat.le_of_ble_eq_true rfl) ⟨(Nat.le_of_ble_eq_true rfl), (Nat.le_of_ble_eq_true rfl)⟩ ⟨(Nat.le_of_ble_eq_true rfl), (Nat.le_of_ble_eq_true rfl)⟩ (fun r271 u H locs hp hP hD hS => ?_)
          rcases hp with hp | hp
          · refine hp.elim (fun F272 h9z0 => h9z0.elim (fun y273 h9z1 => h9z1.elim (fun y274 h9z2 => h9z2.elim (fun y275 h9z3 => h9z3.elim (fun y276 h9z4 => h9z4.elim (fun y277 h9z5 => h9z5.elim (fun y278 h9z6 => h9z6.elim (fun y279 h9z7 => h9z7.elim (fun y280 h9z8 => h9z8.elim (fun y281 h9z9 => h9z9.elim (fun y282 h9z10 => h9z10.elim (fun y283 h9z11 => h9z11.elim (fun y284 h9z12 => h9z12.elim (fun g285 h9z13 => h9z13.elim (fun t286 h9z14 => h9z14.elim (fun t287 h9z15 => h9z15.elim (fun t288 h9z16 => h9z16.elim (fun t289 h9z17 => h9z17.elim (fun t290 h9z18 => h9z18.elim (fun t291 h9z19 => h9z19.elim (fun t292 h9z20 => h9z20.elim (fun t293 h9z21 => h9z21.elim (fun t294 h9z22 => h9z22.elim (fun t295 h9z23 => h9z23.elim (fun t296 h9z24 => h9z24.elim (fun t297 h9z25 => h9z25.elim (fun t298 h9z26 => h9z26.elim (fun t299 h9z27 => h9z27.elim (fun t300 h9z28 => h9z28.elim (fun t301 h9z29 => h9z29.elim (fun t302 h9z30 => h9z30.elim (fun t303 h9z31 => h9z31.elim (fun t304 h9z32 => h9z32.elim (fun heq933 h9z33 => ?_))))))))))))))))))))))))))))))))))
            clear h9z0 h9z1 h9z2 h9z3 h9z4 h9z5 h9z6 h9z7 h9z8 h9z9 h9z10 h9z11 h9z12 h9z13 h9z14 h9z15 h9z16 h9z17 h9z18 h9z19 h9z20 h9z21 h9z22 h9z23 h9z24 h9z25 h9z26 h9z27 h9z28 h9z29 h9z30 h9z31 h9z32
            subst heq933
            subst h9z33
            have hP : va_P D vwCl [(h0, .inr (10, vL 67 F272)), (h_tape, .inl (cB, 940, .inl f_tape)), (h_s, .inl (cI, 335, .inl f_s)), (h_names, .inl (cJ, 36, .inr (.inl f_names))), (h_reserved, .inl (cJ, 23, .inr (.inl f_reserved))), (h_planRead, .inl (cI, 24, .inl g285))] H := hP
            have hD : va_D A [(h0, .inr (10, vL 67 F272)), (h_tape, .inl (cB, 940, .inl f_tape)), (h_s, .inl (cI, 335, .inl f_s)), (h_names, .inl (cJ, 36, .inr (.inl f_names))), (h_reserved, .inl (cJ, 23, .inr (.inl f_reserved))), (h_planRead, .inl (cI, 24, .inl g285))] := hD
            refine W.widen (k := 0) (n := 0) (Nat.le_of_ble_eq_true rfl) (Nat.le_of_ble_eq_true rfl) ?_
            refine lv_if_eq (tgt := 156) hx hb dX10_plan_144 (by decide) (fun _ => ?_) (fun g => absurd (by decide) g)
            refine lv_iconst (v := (-1)) hx hb dX10_plan_156 (by decide) ?_
            refine lv_aload_n hx hb dX10_plan_157 rfl (lv_at hl 1 rfl) ?_
            refine get_f (D := D) (ci := 10) (v := .int y279) (C := RX10) (T := TX10) (N := 67) hx hb hw inAX10 hown hK hP 0 rfl rfl 16 (by decide) (hw _ q_1277) (fun _ h9 => h9) t296 dX10_plan_158 ?_
            refine lv_isub hx hb dX10_plan_161 ?_
            refine lv_topi (fun v343 ev343 => ?_)
            have bv343 : v343.toInt = (-1) - y279.toInt := by rw [ev343]; exact sub_k rfl rfl ⟨Int.le_refl _, Int.le_refl _⟩ (ir_any _) (by decide)
            have k344 : (-2147483648) ≤ v343.toInt ∧ v343.toInt ≤ 2147483647 := sub_r bv343 ⟨Int.le_refl _, Int.le_refl _⟩ (ir_any _) (by decide)
            exact ret_i (v := v343) hx hb hr hlocks hS hP hD dX10_plan_162 rfl (Nat.le_of_ble_eq_true rfl) (Nat.le_of_ble_eq_true rfl) ⟨F272, y273, y274, y275, y276, y277, y278, y279, y280, y281, y282, y283, y284, x_undoMany, f_s, g285, (SAME.tr (SAME.tr (SAME.tr (SAME.up eF14 (SAME.up eF13 (SAME.up eF12 (SAME.up eF11 (SAME.tr (SAME.up eF1 SAME.rf (by decide)) t5 (by decide)) (by decide)) (by decide)) (by decide)) (by decide)) t102 (by decide)) i223 (by decide)) t286 (by decide)), (SAME.at t286 (by decide) (SAME.at i223 (by decide) (SAME.at t102 (by decide) (get_ne eF14 (by decide) (get_ne eF13 (by decide) (get_ne eF12 (by decide) (get_ne eF11 (by decide) (SAME.at t5 (by decide) (get_eq eF1))))))))), (SAME.at t286 (by decide) (SAME.at i223 (by decide) (SAME.at t102 (by decide) (get_ne eF14 (by decide) (get_ne eF13 (by decide) (get_ne eF12 (by decide) (get_ne eF11 (by decide) t6))))))), (SAME.at t286 (by decide) n248), t287, t288, (SAME.at t286 (by decide) n250), t289, t290, t291, t292, t293, t294, t296, t297, t298, t299, t300, t301, (SAME.at t286 (by decide) (SAME.at i223 (by decide) (SAME.at t102 (by decide) (get_ne eF14 (by decide) (get_ne eF13 (by decide) (get_ne eF12 (by decide) (get_ne eF11 (by decide) (SAME.at t5 (by decide) (get_ne eF1 (by decide) e_undoMany))))))))), i_x_undoMany, s_s_153, s_s_0, s_s_5, s_s_6, s_s_7, s_s_44, s_s_K0, s_s_105, s_s_114, s_s_130, s_s_139, t302, t303, (by omega), rfl⟩
          · refine hp.elim (fun F305 h9z0 => h9z0.elim (fun y306 h9z1 => h9z1.elim (fun y307 h9z2 => h9z2.elim (fun y308 h9z3 => h9z3.elim (fun y309 h9z4 => h9z4.elim (fun y310 h9z5 => h9z5.elim (fun y311 h9z6 => h9z6.elim (fun y312 h9z7 => h9z7.elim (fun y313 h9z8 => h9z8.elim (fun y314 h9z9 => h9z9.elim (fun y315 h9z10 => h9z10.elim (fun y316 h9z11 => h9z11.elim (fun y317 h9z12 => h9z12.elim (fun g318 h9z13 => h9z13.elim (fun t319 h9z14 => h9z14.elim (fun t320 h9z15 => h9z15.elim (fun t321 h9z16 => h9z16.elim (fun t322 h9z17 => h9z17.elim (fun t323 h9z18 => h9z18.elim (fun t324 h9z19 => h9z19.elim (fun t325 h9z20 => h9z20.elim (fun t326 h9z21 => h9z21.elim (fun t327 h9z22 => h9z22.elim (fun t328 h9z23 => h9z23.elim (fun t329 h9z24 => h9z24.elim (fun t330 h9z25 => h9z25.elim (fun t331 h9z26 => h9z26.elim (fun t332 h9z27 => h9z27.elim (fun t333 h9z28 => h9z28.elim (fun t334 h9z29 => h9z29.elim (fun t335 h9z30 => h9z30.elim (fun t336 h9z31 => h9z31.elim (fun t337 h9z32 => h9z32.elim (fun t338 h9z33 => h9z33.elim (fun t339 h9z34 => h9z34.elim (fun t340 h9z35 => h9z35.elim (fun t341 h9z36 => h9z36.elim (fun heq937 h9z37 => ?_))))))))))))))))))))))))))))))))))))))
            clear h9z0 h9z1 h9z2 h9z3 h9z4 h9z5 h9z6 h9z7 h9z8 h9z9 h9z10 h9z11 h9z12 h9z13 h9z14 h9z15 h9z16 h9z17 h9z18 h9z19 h9z20 h9z21 h9z22 h9z23 h9z24 h9z25 h9z26 h9z27 h9z28 h9z29 h9z30 h9z31 h9z32 h9z33 h9z34 h9z35 h9z36
            subst heq937
            subst h9z37
            have hP : va_P D vwCl [(h0, .inr (10, vL 67 F305)), (h_tape, .inl (cB, 940, .inl f_tape)), (h_s, .inl (cI, 335, .inl f_s)), (h_names, .inl (cJ, 36, .inr (.inl f_names))), (h_reserved, .inl (cJ, 23, .inr (.inl f_reserved))), (h_planRead, .inl (cI, 24, .inl g318))] H := hP
            have hD : va_D A [(h0, .inr (10, vL 67 F305)), (h_tape, .inl (cB, 940, .inl f_tape)), (h_s, .inl (cI, 335, .inl f_s)), (h_names, .inl (cJ, 36, .inr (.inl f_names))), (h_reserved, .inl (cJ, 23, .inr (.inl f_reserved))), (h_planRead, .inl (cI, 24, .inl g318))] := hD
            refine W.widen (k := 0) (n := 0) (Nat.le_of_ble_eq_true rfl) (Nat.le_of_ble_eq_true rfl) ?_
            refine lv_if_eq (tgt := 156) hx hb dX10_plan_144 (by decide) (fun g => absurd g (by decide)) (fun _ => ?_)
            refine lv_aload_n hx hb dX10_plan_147 rfl (lv_at hl 1 rfl) ?_
            refine lv_bipush (v := 59) hx hb dX10_plan_148 (by decide) ?_
            have n345 : F305 1 = .ref h_tape := (SAME.at t319 (by decide) n246)
            have n346 : F305 3 = .int x_length := (SAME.at t319 (by decide) n248)
            have n347 : F305 5 = .int 400 := (SAME.at t319 (by decide) n250)
            refine call_Vi (wr := [(h_s, .inl (cI, 335, .inl f_s)), (h_names, .inl (cJ, 36, .inr (.inl f_names))), (h_reserved, .inl (cJ, 23, .inr (.inl f_reserved))), (h_planRead, .inl (cI, 24, .inl g318))]) (As := [.int 59]) (rest := []) hx hb hml hown hw (m_X10_sign l D cI cJ cB cP cM cZ h0 h_tape F305 x_length y306 400 y307 y308 y310 y311 y312 y313 f_tape 59 _ n345 n346 i_x_length t320 t321 n347 (show 200 ≤ (400 : Int32).toInt ∧ (400 : Int32).toInt ≤ 940 by decide) t322 t323 t324 t328 t329 t330 t331 (by omega)) wV_X10_257_X10_sign dX10_plan_150 hK hP hD hS hA [0, 1] [2, 3, 4, 5] rfl rfl (by decide) (by decide) (by decide) 0 10 rfl rfl GG.fb hG.at hl.1 rfl (Nat.le_of_ble_eq_true rfl) ⟨(Nat.le_of_ble_eq_true rfl), (Nat.le_of_ble_eq_true rfl)⟩ ⟨(Nat.le_of_ble_eq_true rfl), (Nat.le_of_ble_eq_true rfl)⟩ (fun r348 u H locs hp hP hD hS => ?_)
            have zl59 : (59 : Int32).toInt = 59 := by decide
            rcases hp with hp | hp
            · refine hp.elim (fun F349 h9z0 => h9z0.elim (fun y350 h9z1 => h9z1.elim (fun y351 h9z2 => h9z2.elim (fun y352 h9z3 => h9z3.elim (fun y353 h9z4 => h9z4.elim (fun y354 h9z5 => h9z5.elim (fun y355 h9z6 => h9z6.elim (fun t356 h9z7 => h9z7.elim (fun t357 h9z8 => h9z8.elim (fun t358 h9z9 => h9z9.elim (fun t359 h9z10 => h9z10.elim (fun t360 h9z11 => h9z11.elim (fun t361 h9z12 => h9z12.elim (fun t362 h9z13 => h9z13.elim (fun t363 h9z14 => h9z14.elim (fun t364 h9z15 => h9z15.elim (fun t365 h9z16 => h9z16.elim (fun t366 h9z17 => h9z17.elim (fun t367 h9z18 => h9z18.elim (fun t368 h9z19 => h9z19.elim (fun t369 h9z20 => h9z20.elim (fun t370 h9z21 => h9z21.elim (fun t371 h9z22 => h9z22.elim (fun heq923 h9z23 => ?_))))))))))))))))))))))))
              clear h9z0 h9z1 h9z2 h9z3 h9z4 h9z5 h9z6 h9z7 h9z8 h9z9 h9z10 h9z11 h9z12 h9z13 h9z14 h9z15 h9z16 h9z17 h9z18 h9z19 h9z20 h9z21 h9z22
              subst heq923
              subst h9z23
              have hP : va_P D vwCl [(h_s, .inl (cI, 335, .inl f_s)), (h_names, .inl (cJ, 36, .inr (.inl f_names))), (h_reserved, .inl (cJ, 23, .inr (.inl f_reserved))), (h_planRead, .inl (cI, 24, .inl g318)), (h0, .inr (10, vL 67 F349)), (h_tape, .inl (cB, 940, .inl f_tape))] H := hP
              have hD : va_D A [(h_s, .inl (cI, 335, .inl f_s)), (h_names, .inl (cJ, 36, .inr (.inl f_names))), (h_reserved, .inl (cJ, 23, .inr (.inl f_reserved))), (h_planRead, .inl (cI, 24, .inl g318)), (h0, .inr (10, vL 67 F349)), (h_tape, .inl (cB, 940, .inl f_tape))] := hD
              refine W.widen (k := 0) (n := 0) (Nat.le_of_ble_eq_true rfl) (Nat.le_of_ble_eq_true rfl) ?_
              refine lv_if_ne (tgt := 163) hx hb dX10_plan_153 (by decide) (fun _ => ?_) (fun g => absurd g (by decide))
              obtain ⟨v382, ev382⟩ : ∃ z : Int32, z = u119 + 1 := ⟨_, rfl⟩
              refine lv_iinc (v := v382) (lv' := [(1, .int v382), (0, .ref h0)]) hx hb dX10_plan_163 hl (k := 0) rfl (by rw [ev382]; rfl) (by decide) rfl (fun ls hl => ?_)
              refine lv_goto (tgt := 133) hx hb dX10_plan_166 (by decide) ?_
              have n383 : F349 15 = .int y311 := (SAME.at t356 (by decide) t329)
              have n384 : F349 16 = .int y312 := (SAME.at t356 (by decide) t330)
              have n385 : F349 19 = .int y314 := (SAME.at t356 (by decide) t332)
              have n386 : F349 21 = .int y315 := (SAME.at t356 (by decide) t333)
              have n387 : F349 23 = .int y316 := (SAME.at t356 (by decide) t334)
              have n388 : F349 24 = .int y317 := (SAME.at t356 (by decide) t335)
              exact ih_133 (v382, g318, F349, y350, y351, y352, y353, y354, y311, y312, y355, y314, y315, y316, y317) ⟨t336, t337, (SAME.tr (SAME.tr (SAME.tr SAME.rf i223 (by decide)) t319 (by decide)) t356 (by decide)), t357, t359, t361, t363, t365, n383, n384, t366, n385, n386, n387, n388, t358, t360, t362, t364, (show (VWF y351.toInt y355.toInt) from t370), (by show (y351.toInt = 2 → 0 ≤ y354.toInt ∧ y354.toInt ≤ 999); omega)⟩ (by show (940 - y350.toInt).toNat < (940 - u122.toInt).toNat; omega) _ _ _ hP hD hS (lv_sub hl [0, 1] rfl)
            · obtain ⟨F372, y373, y374, t375, t376, t377, t378, t379, t380, rfl, rfl⟩ := hp
              have hP : va_P D vwCl [(h_s, .inl (cI, 335, .inl f_s)), (h_names, .inl (cJ, 36, .inr (.inl f_names))), (h_reserved, .inl (cJ, 23, .inr (.inl f_reserved))), (h_planRead, .inl (cI, 24, .inl g318)), (h0, .inr (10, vL 67 F372)), (h_tape, .inl (cB, 940, .inl f_tape))] H := hP
              have hD : va_D A [(h_s, .inl (cI, 335, .inl f_s)), (h_names, .inl (cJ, 36, .inr (.inl f_names))), (h_reserved, .inl (cJ, 23, .inr (.inl f_reserved))), (h_planRead, .inl (cI, 24, .inl g318)), (h0, .inr (10, vL 67 F372)), (h_tape, .inl (cB, 940, .inl f_tape))] := hD
              refine W.widen (k := 0) (n := 0) (Nat.le_of_ble_eq_true rfl) (Nat.le_of_ble_eq_true rfl) ?_
              refine lv_if_ne (tgt := 163) hx hb dX10_plan_153 (by decide) (fun g => absurd (by decide) g) (fun _ => ?_)
              refine lv_iconst (v := (-1)) hx hb dX10_plan_156 (by decide) ?_
              refine lv_aload_n hx hb dX10_plan_157 rfl (lv_at hl 1 rfl) ?_
              refine get_f (D := D) (ci := 10) (v := .int y374) (C := RX10) (T := TX10) (N := 67) hx hb hw inAX10 hown hK hP 4 rfl rfl 16 (by decide) (hw _ q_1277) (fun _ h9 => h9) t378 dX10_plan_158 ?_
              refine lv_isub hx hb dX10_plan_161 ?_
              refine lv_topi (fun v389 ev389 => ?_)
              have bv389 : v389.toInt = (-1) - y374.toInt := by rw [ev389]; exact sub_k rfl rfl ⟨Int.le_refl _, Int.le_refl _⟩ (ir_any _) (by decide)
              have k390 : (-2147483648) ≤ v389.toInt ∧ v389.toInt ≤ 2147483647 := sub_r bv389 ⟨Int.le_refl _, Int.le_refl _⟩ (ir_any _) (by decide)
              exact ret_i (v := v389) hx hb hr hlocks hS (hP.sub (ws' := [(h0, .inr (10, vL 67 F372)), (h_tape, .inl (cB, 940, .inl f_tape)), (h_s, .inl (cI, 335, .inl f_s)), (h_names, .inl (cJ, 36, .inr (.inl f_names))), (h_reserved, .inl (cJ, 23, .inr (.inl f_reserved))), (h_planRead, .inl (cI, 24, .inl g318))]) [4, 5, 0, 1, 2, 3] rfl) (hD.sub (ws' := [(h0, .inr (10, vL 67 F372)), (h_tape, .inl (cB, 940, .inl f_tape)), (h_s, .inl (cI, 335, .inl f_s)), (h_names, .inl (cJ, 36, .inr (.inl f_names))), (h_reserved, .inl (cJ, 23, .inr (.inl f_reserved))), (h_planRead, .inl (cI, 24, .inl g318))]) [4, 5, 0, 1, 2, 3] (by decide) rfl) dX10_plan_162 rfl (Nat.le_of_ble_eq_true rfl) (Nat.le_of_ble_eq_true rfl) ⟨F372, y306, y307, y308, y309, y310, y373, y374, y313, y314, y315, y316, y317, x_undoMany, f_s, g318, (SAME.tr (SAME.tr (SAME.tr (SAME.tr (SAME.up eF14 (SAME.up eF13 (SAME.up eF12 (SAME.up eF11 (SAME.tr (SAME.up eF1 SAME.rf (by decide)) t5 (by decide)) (by decide)) (by decide)) (by decide)) (by decide)) t102 (by decide)) i223 (by decide)) t319 (by decide)) t375 (by decide)), (SAME.at t375 (by decide) (SAME.at t319 (by decide) (SAME.at i223 (by decide) (SAME.at t102 (by decide) (get_ne eF14 (by decide) (get_ne eF13 (by decide) (get_ne eF12 (by decide) (get_ne eF11 (by decide) (SAME.at t5 (by decide) (get_eq eF1)))))))))), (SAME.at t375 (by decide) (SAME.at t319 (by decide) (SAME.at i223 (by decide) (SAME.at t102 (by decide) (get_ne eF14 (by decide) (get_ne eF13 (by decide) (get_ne eF12 (by decide) (get_ne eF11 (by decide) t6)))))))), (SAME.at t375 (by decide) n346), (SAME.at t375 (by decide) t320), t321, (SAME.at t375 (by decide) n347), (SAME.at t375 (by decide) t322), t323, (SAME.at t375 (by decide) t324), (SAME.at t375 (by decide) t326), (SAME.at t375 (by decide) t328), t376, t378, (SAME.at t375 (by decide) t331), (SAME.at t375 (by decide) t332), (SAME.at t375 (by decide) t333), (SAME.at t375 (by decide) t334), (SAME.at t375 (by decide) t335), (SAME.at t375 (by decide) (SAME.at t319 (by decide) (SAME.at i223 (by decide) (SAME.at t102 (by decide) (get_ne eF14 (by decide) (get_ne eF13 (by decide) (get_ne eF12 (by decide) (get_ne eF11 (by decide) (SAME.at t5 (by decide) (get_ne eF1 (by decide) e_undoMany)))))))))), i_x_undoMany, s_s_153, s_s_0, s_s_5, s_s_6, s_s_7, s_s_44, s_s_K0, s_s_105, s_s_114, s_s_130, s_s_139, t336, t337, (by omega), rfl⟩
      · have dc42 : u29.toInt < v40.toInt := nle_i (a := v40.toInt) (b := u29.toInt) rfl rfl c42
        have k391 : 0 ≤ u29.toInt ∧ u29.toInt ≤ 11 := ⟨i31.1, up_lt dc42 k41.2 (by decide)⟩
        have k392 : 1 ≤ v40.toInt ∧ v40.toInt ≤ 12 := ⟨lo_lt dc42 i31.1 (by decide), k41.2⟩
        refine lv_aload_n hx hb dX10_plan_95 rfl (lv_at hl 1 rfl) ?_
        have n393 : F1 22 = .ref h_planRead := (get_ne eF1 (by decide) e_planRead)
        have n394 : F4 22 = .ref h_planRead := (SAME.at t5 (by decide) n393)
        have n395 : F11 22 = .ref h_planRead := (get_ne eF11 (by decide) n394)
        have n396 : F12 22 = .ref h_planRead := (get_ne eF12 (by decide) n395)
        have n397 : F13 22 = .ref h_planRead := (get_ne eF13 (by decide) n396)
        have n398 : F14 22 = .ref h_planRead := (get_ne eF14 (by decide) n397)
        refine get_f (D := D) (ci := 10) (v := .ref h_planRead) (C := RX10) (T := TX10) (N := 67) hx hb hw inAX10 hown hK hP 5 rfl rfl 22 (by decide) (hw _ q_1283) (fun _ h9 => h9) n398 dX10_plan_96 ?_
        refine lv_bipush (v := 12) hx hb dX10_plan_99 (by decide) ?_
        refine lv_iload_n hx hb dX10_plan_101 rfl (lv_at hl 0 rfl) ?_
        refine lv_iadd hx hb dX10_plan_102 ?_
        refine lv_topi (fun v399 ev399 => ?_)
        have bv399 : v399.toInt = 12 + u29.toInt := by rw [ev399]; exact add_k rfl rfl ⟨Int.le_refl _, Int.le_refl _⟩ k391 (by decide)
        have k400 : 12 ≤ v399.toInt ∧ v399.toInt ≤ 23 := add_r bv399 ⟨Int.le_refl _, Int.le_refl _⟩ k391 (by decide)
        refine lv_aload_n hx hb dX10_plan_103 rfl (lv_at hl 1 rfl) ?_
        refine get_f (D := D) (ci := 10) (v := .ref h_s) (C := RX10) (T := TX10) (N := 67) hx hb hw inAX10 hown hK hP 5 rfl rfl 6 (by decide) (hw _ q_1267) (fun _ h9 => h9) n39 dX10_plan_104 ?_
        refine lv_bipush (v := 68) hx hb dX10_plan_107 (by decide) ?_
        refine lv_iload_n hx hb dX10_plan_109 rfl (lv_at hl 0 rfl) ?_
        refine lv_iadd hx hb dX10_plan_110 ?_
        refine lv_topi (fun v401 ev401 => ?_)
        have bv401 : v401.toInt = 68 + u29.toInt := by rw [ev401]; exact add_k rfl rfl ⟨Int.le_refl _, Int.le_refl _⟩ k391 (by decide)
        have k402 : 68 ≤ v401.toInt ∧ v401.toInt ≤ 79 := add_r bv401 ⟨Int.le_refl _, Int.le_refl _⟩ k391 (by decide)
        refine va_iald hx hb hK hP 1 0 rfl rfl (ix_k k402 (by decide) (by decide)) dX10_plan_111 ?_
        refine lv_topi (fun v403 ev403 => ?_)
        obtain ⟨g404, eg404⟩ : ∃ z : Nat → Int32, upd w30 v399.toNatClampNeg v403 = z := ⟨_, rfl⟩
        have r405 : SG 1 4 0 11 g404 := by rw [← eg404]; exact i32.up (Int.le_trans (by decide) k400.1) (Or.inr (Or.inl (dec_lt k400.1 (by decide))))
        have r406 : SG 10 10 0 5 g404 := by rw [← eg404]; exact i33.up (Int.le_trans (by decide) k400.1) (Or.inr (Or.inl (dec_lt k400.1 (by decide))))
        refine iast_g hx hb hK hP hD hS 4 0 rfl rfl (ix_k k400 (by decide) (by decide)) eg404 dX10_plan_112 (fun H locs hP hD hS => ?_)
        have hP : va_P D vwCl [(h_tape, .inl (cB, 940, .inl f_tape)), (h_s, .inl (cI, 335, .inl f_s)), (h_names, .inl (cJ, 36, .inr (.inl f_names))), (h_reserved, .inl (cJ, 23, .inr (.inl f_reserved))), (h_planRead, .inl (cI, 24, .inl g404)), (h0, .inr (10, vL 67 F14))] H := hP
        have hD : va_D A [(h_tape, .inl (cB, 940, .inl f_tape)), (h_s, .inl (cI, 335, .inl f_s)), (h_names, .inl (cJ, 36, .inr (.inl f_names))), (h_reserved, .inl (cJ, 23, .inr (.inl f_reserved))), (h_planRead, .inl (cI, 24, .inl g404)), (h0, .inr (10, vL 67 F14))] := hD
        obtain ⟨v407, ev407⟩ : ∃ z : Int32, z = u29 + 1 := ⟨_, rfl⟩
        have bv407 : v407.toInt = u29.toInt + 1 := by rw [ev407]; exact add_k rfl rfl k391 ⟨Int.le_refl _, Int.le_refl _⟩ (by decide)
        have k408 : 1 ≤ v407.toInt ∧ v407.toInt ≤ 12 := add_r bv407 k391 ⟨Int.le_refl _, Int.le_refl _⟩ (by decide)
        refine lv_iinc (v := v407) (lv' := [(1, .int v407), (0, .ref h0)]) hx hb dX10_plan_113 hl (k := 0) rfl (by rw [ev407]; rfl) (by decide) rfl (fun ls hl => ?_)
        refine lv_goto (tgt := 84) hx hb dX10_plan_116 (by decide) ?_
        exact ih_84 (v407, g404) ⟨(ir_wk k408 (by decide) (by decide)), r405, r406⟩ (by show (12 - v407.toInt).toNat < (12 - u29.toInt).toNat; omega) _ _ _ hP hD hS (lv_sub hl [0, 1] rfl)
    · have dc27 : u22.toInt < 4 := nle_i (a := 4) (b := u22.toInt) rfl rfl c27
      have k409 : 0 ≤ u22.toInt ∧ u22.toInt ≤ 3 := ⟨i24.1, up_lt dc27 (Int.le_refl _) (by decide)⟩
      refine lv_aload_n hx hb dX10_plan_60 rfl (lv_at hl 1 rfl) ?_
      have n410 : F1 22 = .ref h_planRead := (get_ne eF1 (by decide) e_planRead)
      have n411 : F4 22 = .ref h_planRead := (SAME.at t5 (by decide) n410)
      have n412 : F11 22 = .ref h_planRead := (get_ne eF11 (by decide) n411)
      have n413 : F12 22 = .ref h_planRead := (get_ne eF12 (by decide) n412)
      have n414 : F13 22 = .ref h_planRead := (get_ne eF13 (by decide) n413)
      have n415 : F14 22 = .ref h_planRead := (get_ne eF14 (by decide) n414)
      refine get_f (D := D) (ci := 10) (v := .ref h_planRead) (C := RX10) (T := TX10) (N := 67) hx hb hw inAX10 hown hK hP 5 rfl rfl 22 (by decide) (hw _ q_1283) (fun _ h9 => h9) n415 dX10_plan_61 ?_
      refine lv_iconst (v := 5) hx hb dX10_plan_64 (by decide) ?_
      refine lv_iload_n hx hb dX10_plan_65 rfl (lv_at hl 0 rfl) ?_
      refine lv_iadd hx hb dX10_plan_66 ?_
      refine lv_topi (fun v416 ev416 => ?_)
      have bv416 : v416.toInt = 5 + u22.toInt := by rw [ev416]; exact add_k rfl rfl ⟨Int.le_refl _, Int.le_refl _⟩ k409 (by decide)
      have k417 : 5 ≤ v416.toInt ∧ v416.toInt ≤ 8 := add_r bv416 ⟨Int.le_refl _, Int.le_refl _⟩ k409 (by decide)
      refine lv_aload_n hx hb dX10_plan_67 rfl (lv_at hl 1 rfl) ?_
      have n418 : F1 6 = .ref h_s := (get_ne eF1 (by decide) e_s)
      have n419 : F4 6 = .ref h_s := (SAME.at t5 (by decide) n418)
      have n420 : F11 6 = .ref h_s := (get_ne eF11 (by decide) n419)
      have n421 : F12 6 = .ref h_s := (get_ne eF12 (by decide) n420)
      have n422 : F13 6 = .ref h_s := (get_ne eF13 (by decide) n421)
      have n423 : F14 6 = .ref h_s := (get_ne eF14 (by decide) n422)
      refine get_f (D := D) (ci := 10) (v := .ref h_s) (C := RX10) (T := TX10) (N := 67) hx hb hw inAX10 hown hK hP 5 rfl rfl 6 (by decide) (hw _ q_1267) (fun _ h9 => h9) n423 dX10_plan_68 ?_
      refine lv_iconst (v := 0) hx hb dX10_plan_71 (by decide) ?_
      refine iald_n hx hb hK hP 1 0 rfl rfl 0 rfl (Nat.le_of_ble_eq_true rfl) (Nat.le_of_ble_eq_true rfl) rfl dX10_plan_72 ?_
      refine lv_topi (fun v424 ev424 => ?_)
      have k425 : 0 ≤ v424.toInt ∧ v424.toInt ≤ 40 := by rw [ev424]; exact s_s_0.atN 0 (by decide) (by decide)
      refine lv_iconst (v := 1) hx hb dX10_plan_73 (by decide) ?_
      refine lv_isub hx hb dX10_plan_74 ?_
      refine lv_topi (fun v426 ev426 => ?_)
      have bv426 : v426.toInt = v424.toInt - 1 := by rw [ev426]; exact sub_k rfl rfl k425 ⟨Int.le_refl _, Int.le_refl _⟩ (by decide)
      have k427 : (-1) ≤ v426.toInt ∧ v426.toInt ≤ 39 := sub_r bv426 k425 ⟨Int.le_refl _, Int.le_refl _⟩ (by decide)
      obtain ⟨g428, eg428⟩ : ∃ z : Nat → Int32, upd w23 v416.toNatClampNeg v426 = z := ⟨_, rfl⟩
      have r429 : SG 1 4 0 11 g428 := by rw [← eg428]; exact i25.up (Int.le_trans (by decide) k417.1) (Or.inr (Or.inl (dec_lt k417.1 (by decide))))
      have r430 : SG 10 10 0 5 g428 := by rw [← eg428]; exact i26.up (Int.le_trans (by decide) k417.1) (Or.inl (lt_dec k417.2 (by decide)))
      refine iast_g hx hb hK hP hD hS 4 0 rfl rfl (ix_k k417 (by decide) (by decide)) eg428 dX10_plan_75 (fun H locs hP hD hS => ?_)
      have hP : va_P D vwCl [(h_tape, .inl (cB, 940, .inl f_tape)), (h_s, .inl (cI, 335, .inl f_s)), (h_names, .inl (cJ, 36, .inr (.inl f_names))), (h_reserved, .inl (cJ, 23, .inr (.inl f_reserved))), (h_planRead, .inl (cI, 24, .inl g428)), (h0, .inr (10, vL 67 F14))] H := hP
      have hD : va_D A [(h_tape, .inl (cB, 940, .inl f_tape)), (h_s, .inl (cI, 335, .inl f_s)), (h_names, .inl (cJ, 36, .inr (.inl f_names))), (h_reserved, .inl (cJ, 23, .inr (.inl f_reserved))), (h_planRead, .inl (cI, 24, .inl g428)), (h0, .inr (10, vL 67 F14))] := hD
      obtain ⟨v431, ev431⟩ : ∃ z : Int32, z = u22 + 1 := ⟨_, rfl⟩
      have bv431 : v431.toInt = u22.toInt + 1 := by rw [ev431]; exact add_k rfl rfl k409 ⟨Int.le_refl _, Int.le_refl _⟩ (by decide)
      have k432 : 1 ≤ v431.toInt ∧ v431.toInt ≤ 4 := add_r bv431 k409 ⟨Int.le_refl _, Int.le_refl _⟩ (by decide)
      refine lv_iinc (v := v431) (lv' := [(1, .int v431), (0, .ref h0)]) hx hb dX10_plan_76 hl (k := 0) rfl (by rw [ev431]; rfl) (by decide) rfl (fun ls hl => ?_)
      refine lv_goto (tgt := 55) hx hb dX10_plan_79 (by decide) ?_
      exact ih_55 (v431, g428) ⟨(ir_wk k432 (by decide) (by decide)), r429, r430⟩ (by show (4 - v431.toInt).toNat < (4 - u22.toInt).toNat; omega) _ _ _ hP hD hS (lv_sub hl [0, 1] rfl)
  · have dc20 : u15.toInt < 24 := nle_i (a := 24) (b := u15.toInt) rfl rfl c20
    have k433 : 0 ≤ u15.toInt ∧ u15.toInt ≤ 23 := ⟨i17.1, up_lt dc20 (Int.le_refl _) (by decide)⟩
    refine lv_aload_n hx hb dX10_plan_40 rfl (lv_at hl 1 rfl) ?_
    have n434 : F1 22 = .ref h_planRead := (get_ne eF1 (by decide) e_planRead)
    have n435 : F4 22 = .ref h_planRead := (SAME.at t5 (by decide) n434)
    have n436 : F11 22 = .ref h_planRead := (get_ne eF11 (by decide) n435)
    have n437 : F12 22 = .ref h_planRead := (get_ne eF12 (by decide) n436)
    have n438 : F13 22 = .ref h_planRead := (get_ne eF13 (by decide) n437)
    have n439 : F14 22 = .ref h_planRead := (get_ne eF14 (by decide) n438)
    refine get_f (D := D) (ci := 10) (v := .ref h_planRead) (C := RX10) (T := TX10) (N := 67) hx hb hw inAX10 hown hK hP 5 rfl rfl 22 (by decide) (hw _ q_1283) (fun _ h9 => h9) n439 dX10_plan_41 ?_
    refine lv_iload_n hx hb dX10_plan_44 rfl (lv_at hl 0 rfl) ?_
    refine lv_iconst (v := 0) hx hb dX10_plan_45 (by decide) ?_
    obtain ⟨g440, eg440⟩ : ∃ z : Nat → Int32, upd w16 u15.toNatClampNeg 0 = z := ⟨_, rfl⟩
    have r441 : SG 1 4 0 11 g440 := by rw [← eg440]; exact i18.up (Int.le_trans (by decide) k433.1) (Or.inr (Or.inr ⟨by decide, by decide⟩))
    have r442 : SG 10 10 0 5 g440 := by rw [← eg440]; exact i19.up (Int.le_trans (by decide) k433.1) (Or.inr (Or.inr ⟨by decide, by decide⟩))
    refine iast_g hx hb hK hP hD hS 4 0 rfl rfl (ix_k k433 (by decide) (by decide)) eg440 dX10_plan_46 (fun H locs hP hD hS => ?_)
    have hP : va_P D vwCl [(h_tape, .inl (cB, 940, .inl f_tape)), (h_s, .inl (cI, 335, .inl f_s)), (h_names, .inl (cJ, 36, .inr (.inl f_names))), (h_reserved, .inl (cJ, 23, .inr (.inl f_reserved))), (h_planRead, .inl (cI, 24, .inl g440)), (h0, .inr (10, vL 67 F14))] H := hP
    have hD : va_D A [(h_tape, .inl (cB, 940, .inl f_tape)), (h_s, .inl (cI, 335, .inl f_s)), (h_names, .inl (cJ, 36, .inr (.inl f_names))), (h_reserved, .inl (cJ, 23, .inr (.inl f_reserved))), (h_planRead, .inl (cI, 24, .inl g440)), (h0, .inr (10, vL 67 F14))] := hD
    obtain ⟨v443, ev443⟩ : ∃ z : Int32, z = u15 + 1 := ⟨_, rfl⟩
    have bv443 : v443.toInt = u15.toInt + 1 := by rw [ev443]; exact add_k rfl rfl k433 ⟨Int.le_refl _, Int.le_refl _⟩ (by decide)
    have k444 : 1 ≤ v443.toInt ∧ v443.toInt ≤ 24 := add_r bv443 k433 ⟨Int.le_refl _, Int.le_refl _⟩ (by decide)
    refine lv_iinc (v := v443) (lv' := [(1, .int v443), (0, .ref h0)]) hx hb dX10_plan_47 hl (k := 0) rfl (by rw [ev443]; rfl) (by decide) rfl (fun ls hl => ?_)
    refine lv_goto (tgt := 34) hx hb dX10_plan_50 (by decide) ?_
    exact ih (v443, g440) ⟨(ir_wk k444 (by decide) (by decide)), r441, r442⟩ (by show (24 - v443.toInt).toNat < (24 - u15.toInt).toNat; omega) _ _ _ hP hD hS (lv_sub hl [0, 1] rfl)
