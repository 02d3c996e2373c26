set_option maxHeartbeats 4000000 in
set_option maxRecDepth 100000 in
theorem m_X10_bad (l : Launch) (D : va_G) (cI cJ cB cP cM cZ : ClassId) (h0 : Nat) (Fh : Nat → Value) (x_at : Int32) (p0 : Int32) (sz : Nat) (e_at : Fh 12 = .int x_at) : CI l yX10_bad cX10_bad 2 (some .boolean) { frames := 0, cells := 0, slots := 0, locals := 0 } (GG D cI cJ cB cP cM cZ) D [(h0, .inr (10, vL 67 Fh))] sz [.ref h0, .int p0] (fun (r : Int32) (u : va_W) => ∃ (Gh : Nat → Value), SAME [15, 16] Fh Gh ∧ Gh 15 = .int p0 ∧ Gh 16 = .int x_at ∧ r = 0 ∧ u = [(h0, .inr (10, vL 67 Gh))]) := by
  refine CI_mk (by decide) (Nat.le_of_ble_eq_true rfl) ?_
  intro p e s m below meth c A ls E hAe hG hsz hP hD hA hS hl
  obtain ⟨hx, hb, hr, hw, hown, hlocks, hml, hnm⟩ := E
  have hK := hG.1
  have hl : lv_has ls 2 [(0, .ref h0), (1, .int p0)] := hl
  refine lv_aload_n hx hb dX10_bad_0 rfl (lv_at hl 0 rfl) ?_
  refine lv_iload_n hx hb dX10_bad_1 rfl (lv_at hl 1 rfl) ?_
  refine put_f (D := D) (ci := 10) (v := .int p0) (ty := .int) (C := RX10) (T := TX10) (N := 67) hx hb hw inAX10 tyX10 tyX10_ok nmX10 hown hK hP hD hS 0 rfl rfl 15 (by decide) (hw _ q_1276) (fun _ h9 => h9) rfl (by decide +kernel) rfl rfl dX10_bad_2 (fun H locs F1 eF1 hP hD hS => ?_)
  have hP : va_P D vwCl [(h0, .inr (10, vL 67 F1))] H := hP
  have hD : va_D A [(h0, .inr (10, vL 67 F1))] := hD
  refine lv_aload_n hx hb dX10_bad_5 rfl (lv_at hl 0 rfl) ?_
  refine lv_aload_n hx hb dX10_bad_6 rfl (lv_at hl 0 rfl) ?_
  have n2 : F1 12 = .int x_at := (get_ne eF1 (by decide) e_at)
  refine get_f (D := D) (ci := 10) (v := .int x_at) (C := RX10) (T := TX10) (N := 67) hx hb hw inAX10 hown hK hP 0 rfl rfl 12 (by decide) (hw _ q_1273) (fun _ h9 => h9) n2 dX10_bad_7 ?_
  refine put_f (D := D) (ci := 10) (v := .int x_at) (ty := .int) (C := RX10) (T := TX10) (N := 67) hx hb hw inAX10 tyX10 tyX10_ok nmX10 hown hK hP hD hS 0 rfl rfl 16 (by decide) (hw _ q_1277) (fun _ h9 => h9) rfl (by decide +kernel) rfl rfl dX10_bad_10 (fun H locs F3 eF3 hP hD hS => ?_)
  have hP : va_P D vwCl [(h0, .inr (10, vL 67 F3))] H := hP
  have hD : va_D A [(h0, .inr (10, vL 67 F3))] := hD
  refine lv_iconst (v := 0) hx hb dX10_bad_13 (by decide) ?_
  exact ret_i (v := 0) hx hb hr hlocks hS hP hD dX10_bad_14 rfl (Nat.le_of_ble_eq_true rfl) (Nat.le_of_ble_eq_true rfl) ⟨F3, (SAME.up eF3 (SAME.up eF1 SAME.rf (by decide)) (by decide)), (get_ne eF3 (by decide) (get_eq eF1)), (get_eq eF3), rfl, rfl⟩
set_option maxHeartbeats 4000000 in
set_option maxRecDepth 100000 in
theorem m_X10_isWord (l : Launch) (D : va_G) (cI cJ cB cP cM cZ : ClassId) (h0 : Nat) (Fh : Nat → Value) (x_token : Int32) (x_number : Int32) (x_word : Int64) (p0 : Int64) (sz : Nat) (e_token : Fh 11 = .int x_token) (i_x_token : IR 0 4 x_token) (e_number : Fh 14 = .int x_number) (e_word : Fh 18 = .long x_word) (o_0 : (x_token.toInt = 2 → 0 ≤ x_number.toInt ∧ x_number.toInt ≤ 999)) : CI l yX10_isWord cX10_isWord 3 (some .boolean) { frames := 0, cells := 0, slots := 0, locals := 0 } (GG D cI cJ cB cP cM cZ) D [(h0, .inr (10, vL 67 Fh))] sz [.ref h0, .long p0] (fun (r : Int32) (u : va_W) => IR 0 1 r ∧ ((r.toInt = 1 → x_token.toInt = 1)) ∧ u = [(h0, .inr (10, vL 67 Fh))]) := by
  refine CI_mk (by decide) (Nat.le_of_ble_eq_true rfl) ?_
  intro p e s m below meth c A ls E hAe hG hsz hP hD hA hS hl
  obtain ⟨hx, hb, hr, hw, hown, hlocks, hml, hnm⟩ := E
  have hK := hG.1
  have i_x_token : 0 ≤ x_token.toInt ∧ x_token.toInt ≤ 4 := i_x_token
  have hl : lv_has ls 3 [(0, .ref h0), (1, .long p0)] := hl
  refine lv_aload_n hx hb dX10_isWord_0 rfl (lv_at hl 0 rfl) ?_
  refine get_f (D := D) (ci := 10) (v := .int x_token) (C := RX10) (T := TX10) (N := 67) hx hb hw inAX10 hown hK hP 0 rfl rfl 11 (by decide) (hw _ q_1272) (fun _ h9 => h9) e_token dX10_isWord_1 ?_
  refine lv_iconst (v := 1) hx hb dX10_isWord_4 (by decide) ?_
  refine lv_icmp_ne (tgt := 21) hx hb dX10_isWord_5 (by decide) (fun c1 => ?_) (fun c1 => ?_)
  · have dc1 : x_token.toInt ≠ 1 := ne_i (a := x_token.toInt) (b := 1) rfl rfl c1
    refine lv_iconst (v := 0) hx hb dX10_isWord_21 (by decide) ?_
    exact ret_i (v := 0) hx hb hr hlocks hS hP hD dX10_isWord_22 rfl (Nat.le_of_ble_eq_true rfl) (Nat.le_of_ble_eq_true rfl) ⟨(show 0 ≤ (0 : Int32).toInt ∧ (0 : Int32).toInt ≤ 1 by decide), (by have zl0 : (0 : Int32).toInt = 0 := (by decide); omega), rfl⟩
  · have dc1 : x_token.toInt = 1 := eq_i (a := x_token.toInt) (b := 1) rfl rfl c1
    have k2 : 1 ≤ x_token.toInt ∧ x_token.toInt ≤ 1 := ⟨Int.le_trans (Int.le_refl _) (Int.le_of_eq dc1.symm), Int.le_trans (Int.le_of_eq dc1) (Int.le_refl _)⟩
    refine lv_aload_n hx hb dX10_isWord_8 rfl (lv_at hl 0 rfl) ?_
    refine get_f (D := D) (ci := 10) (v := .long x_word) (C := RX10) (T := TX10) (N := 67) hx hb hw inAX10 hown hK hP 0 rfl rfl 18 (by decide) (hw _ q_1279) (fun _ h9 => h9) e_word dX10_isWord_9 ?_
    refine lv_lload_n hx hb dX10_isWord_12 rfl (lv_at hl 1 rfl) ?_
    refine W.lcmp hx hb dX10_isWord_13 ?_
    refine lv_topi (fun v3 ev3 => ?_)
    refine lv_if_ne (tgt := 21) hx hb dX10_isWord_14 (by decide) (fun c4 => ?_) (fun c4 => ?_)
    · have dc4 : v3.toInt ≠ 0 := ne_i (a := v3.toInt) (b := 0) rfl rfl c4
      refine lv_iconst (v := 0) hx hb dX10_isWord_21 (by decide) ?_
      exact ret_i (v := 0) hx hb hr hlocks hS hP hD dX10_isWord_22 rfl (Nat.le_of_ble_eq_true rfl) (Nat.le_of_ble_eq_true rfl) ⟨(show 0 ≤ (0 : Int32).toInt ∧ (0 : Int32).toInt ≤ 1 by decide), (by have zl0 : (0 : Int32).toInt = 0 := (by decide); omega), rfl⟩
    · have dc4 : v3.toInt = 0 := eq_i (a := v3.toInt) (b := 0) rfl rfl c4
      have k5 : 0 ≤ v3.toInt ∧ v3.toInt ≤ 0 := ⟨Int.le_trans (Int.le_refl _) (Int.le_of_eq dc4.symm), Int.le_trans (Int.le_of_eq dc4) (Int.le_refl _)⟩
      refine lv_iconst (v := 1) hx hb dX10_isWord_17 (by decide) ?_
      refine lv_goto (tgt := 22) hx hb dX10_isWord_18 (by decide) ?_
      exact ret_i (v := 1) hx hb hr hlocks hS hP hD dX10_isWord_22 rfl (Nat.le_of_ble_eq_true rfl) (Nat.le_of_ble_eq_true rfl) ⟨(show 0 ≤ (1 : Int32).toInt ∧ (1 : Int32).toInt ≤ 1 by decide), (by have zl1 : (1 : Int32).toInt = 1 := (by decide); omega), rfl⟩
set_option maxHeartbeats 4000000 in
set_option maxRecDepth 100000 in
theorem m_X10_isSign (l : Launch) (D : va_G) (cI cJ cB cP cM cZ : ClassId) (h0 : Nat) (Fh : Nat → Value) (x_token : Int32) (x_number : Int32) (p0 : Int32) (sz : Nat) (e_token : Fh 11 = .int x_token) (i_x_token : IR 0 4 x_token) (e_number : Fh 14 = .int x_number) (o_0 : (x_token.toInt = 2 → 0 ≤ x_number.toInt ∧ x_number.toInt ≤ 999)) : CI l yX10_isSign cX10_isSign 2 (some .boolean) { frames := 0, cells := 0, slots := 0, locals := 0 } (GG D cI cJ cB cP cM cZ) D [(h0, .inr (10, vL 67 Fh))] sz [.ref h0, .int p0] (fun (r : Int32) (u : va_W) => IR 0 1 r ∧ ((r.toInt = 1 → x_token.toInt = 3)) ∧ u = [(h0, .inr (10, vL 67 Fh))]) := by
  refine CI_mk (by decide) (Nat.le_of_ble_eq_true rfl) ?_
  intro p e s m below meth c A ls E hAe hG hsz hP hD hA hS hl
  obtain ⟨hx, hb, hr, hw, hown, hlocks, hml, hnm⟩ := E
  have hK := hG.1
  have i_x_token : 0 ≤ x_token.toInt ∧ x_token.toInt ≤ 4 := i_x_token
  have hl : lv_has ls 2 [(0, .ref h0), (1, .int p0)] := hl
  refine lv_aload_n hx hb dX10_isSign_0 rfl (lv_at hl 0 rfl) ?_
  refine get_f (D := D) (ci := 10) (v := .int x_token) (C := RX10) (T := TX10) (N := 67) hx hb hw inAX10 hown hK hP 0 rfl rfl 11 (by decide) (hw _ q_1272) (fun _ h9 => h9) e_token dX10_isSign_1 ?_
  refine lv_iconst (v := 3) hx hb dX10_isSign_4 (by decide) ?_
  refine lv_icmp_ne (tgt := 20) hx hb dX10_isSign_5 (by decide) (fun c1 => ?_) (fun c1 => ?_)
  · have dc1 : x_token.toInt ≠ 3 := ne_i (a := x_token.toInt) (b := 3) rfl rfl c1
    refine lv_iconst (v := 0) hx hb dX10_isSign_20 (by decide) ?_
    exact ret_i (v := 0) hx hb hr hlocks hS hP hD dX10_isSign_21 rfl (Nat.le_of_ble_eq_true rfl) (Nat.le_of_ble_eq_true rfl) ⟨(show 0 ≤ (0 : Int32).toInt ∧ (0 : Int32).toInt ≤ 1 by decide), (by have zl0 : (0 : Int32).toInt = 0 := (by decide); omega), rfl⟩
  · have dc1 : x_token.toInt = 3 := eq_i (a := x_token.toInt) (b := 3) rfl rfl c1
    have k2 : 3 ≤ x_token.toInt ∧ x_token.toInt ≤ 3 := ⟨Int.le_trans (Int.le_refl _) (Int.le_of_eq dc1.symm), Int.le_trans (Int.le_of_eq dc1) (Int.le_refl _)⟩
    refine lv_aload_n hx hb dX10_isSign_8 rfl (lv_at hl 0 rfl) ?_
    refine get_f (D := D) (ci := 10) (v := .int x_number) (C := RX10) (T := TX10) (N := 67) hx hb hw inAX10 hown hK hP 0 rfl rfl 14 (by decide) (hw _ q_1275) (fun _ h9 => h9) e_number dX10_isSign_9 ?_
    refine lv_iload_n hx hb dX10_isSign_12 rfl (lv_at hl 1 rfl) ?_
    refine lv_icmp_ne (tgt := 20) hx hb dX10_isSign_13 (by decide) (fun c3 => ?_) (fun c3 => ?_)
    · have dc3 : x_number.toInt ≠ p0.toInt := ne_i (a := x_number.toInt) (b := p0.toInt) rfl rfl c3
      refine lv_iconst (v := 0) hx hb dX10_isSign_20 (by decide) ?_
      exact ret_i (v := 0) hx hb hr hlocks hS hP hD dX10_isSign_21 rfl (Nat.le_of_ble_eq_true rfl) (Nat.le_of_ble_eq_true rfl) ⟨(show 0 ≤ (0 : Int32).toInt ∧ (0 : Int32).toInt ≤ 1 by decide), (by have zl0 : (0 : Int32).toInt = 0 := (by decide); omega), rfl⟩
    · have dc3 : x_number.toInt = p0.toInt := eq_i (a := x_number.toInt) (b := p0.toInt) rfl rfl c3
      refine lv_iconst (v := 1) hx hb dX10_isSign_16 (by decide) ?_
      refine lv_goto (tgt := 21) hx hb dX10_isSign_17 (by decide) ?_
      exact ret_i (v := 1) hx hb hr hlocks hS hP hD dX10_isSign_21 rfl (Nat.le_of_ble_eq_true rfl) (Nat.le_of_ble_eq_true rfl) ⟨(show 0 ≤ (1 : Int32).toInt ∧ (1 : Int32).toInt ≤ 1 by decide), (by have zl1 : (1 : Int32).toInt = 1 := (by decide); omega), rfl⟩
set_option maxHeartbeats 4000000 in
set_option maxRecDepth 100000 in
theorem m_X10_sign (l : Launch) (D : va_G) (cI cJ cB cP cM cZ : ClassId) (h0 : Nat) (h_tape : Nat) (Fh : Nat → Value) (x_size : Int32) (x_p : Int32) (x_limit : Int32) (x_token : Int32) (x_at : Int32) (x_span : Int32) (x_number : Int32) (x_fault : Int32) (x_faultAt : Int32) (x_word : Int64) (f_tape : Nat → Int32) (p0 : Int32) (sz : Nat) (e_tape : Fh 1 = .ref h_tape) (e_size : Fh 3 = .int x_size) (i_x_size : IR 0 940 x_size) (e_p : Fh 4 = .int x_p) (i_x_p : IR 0 940 x_p) (e_limit : Fh 5 = .int x_limit) (i_x_limit : IR 200 940 x_limit) (e_token : Fh 11 = .int x_token) (i_x_token : IR 0 4 x_token) (e_at : Fh 12 = .int x_at) (e_span : Fh 13 = .int x_span) (e_number : Fh 14 = .int x_number) (e_fault : Fh 15 = .int x_fault) (e_faultAt : Fh 16 = .int x_faultAt) (e_word : Fh 18 = .long x_word) (o_0 : (x_token.toInt = 2 → 0 ≤ x_number.toInt ∧ x_number.toInt ≤ 999)) : CI l yX10_sign cX10_sign 2 (some .boolean) { frames := 2, cells := 0, slots := 0, locals := 43 } (GG D cI cJ cB cP cM cZ) D [(h0, .inr (10, vL 67 Fh)), (h_tape, .inl (cB, 940, .inl f_tape))] sz [.ref h0, .int p0] (fun (r : Int32) (u : va_W) => ∃ (Gh : Nat → Value) (y_p : Int32) (y_token : Int32) (y_at : Int32) (y_span : Int32) (y_number : Int32) (y_fault : Int32) (y_faultAt : Int32) (y_word : Int64), SAME [4, 11, 12, 13, 14, 15, 16, 18] Fh Gh ∧ Gh 4 = .int y_p ∧ IR 0 940 y_p ∧ Gh 11 = .int y_token ∧ IR 0 4 y_token ∧ Gh 12 = .int y_at ∧ Gh 13 = .int y_span ∧ Gh 14 = .int y_number ∧ Gh 15 = .int y_fault ∧ Gh 16 = .int y_faultAt ∧ Gh 18 = .long y_word ∧ IR 0 1 r ∧ ((r.toInt = 1 → (x_token.toInt = 3 ∧ x_p.toInt ≤ y_p.toInt))) ∧ ((y_token.toInt = 2 → 0 ≤ y_number.toInt ∧ y_number.toInt ≤ 999)) ∧ u = [(h0, .inr (10, vL 67 Gh)), (h_tape, .inl (cB, 940, .inl f_tape))]) := by
  refine CI_mk (by decide) (Nat.le_of_ble_eq_true rfl) ?_
  intro p e s m below meth c A ls E hAe hG hsz hP hD hA hS hl
  obtain ⟨hx, hb, hr, hw, hown, hlocks, hml, hnm⟩ := E
  have hK := hG.1
  have i_x_size : 0 ≤ x_size.toInt ∧ x_size.toInt ≤ 940 := i_x_size
  have i_x_p : 0 ≤ x_p.toInt ∧ x_p.toInt ≤ 940 := i_x_p
  have i_x_limit : 200 ≤ x_limit.toInt ∧ x_limit.toInt ≤ 940 := i_x_limit
  have i_x_token : 0 ≤ x_token.toInt ∧ x_token.toInt ≤ 4 := i_x_token
  have hl : lv_has ls 2 [(0, .ref h0), (1, .int p0)] := hl
  refine lv_aload_n hx hb dX10_sign_0 rfl (lv_at hl 0 rfl) ?_
  refine lv_iload_n hx hb dX10_sign_1 rfl (lv_at hl 1 rfl) ?_
  refine call_Vi (wr := [(h_tape, .inl (cB, 940, .inl f_tape))]) (As := [.int p0]) (rest := []) hx hb hml hown hw (m_X10_isSign l D cI cJ cB cP cM cZ h0 Fh x_token x_number p0 _ e_token i_x_token e_number (by omega)) wV_X10_202_X10_isSign dX10_sign_2 hK hP hD hS hA [0] [1] rfl rfl (by decide) (by decide) (by decide) 0 10 rfl rfl GG.fb hG.at hl.1 rfl (Nat.le_of_ble_eq_true rfl) ⟨(Nat.le_of_ble_eq_true rfl), (Nat.le_of_ble_eq_true rfl)⟩ ⟨(Nat.le_of_ble_eq_true rfl), (Nat.le_of_ble_eq_true rfl)⟩ (fun r1 u H locs hp hP hD hS => ?_)
  obtain ⟨t2, t3, rfl⟩ := hp
  have hP : va_P D vwCl [(h_tape, .inl (cB, 940, .inl f_tape)), (h0, .inr (10, vL 67 Fh))] H := hP
  have hD : va_D A [(h_tape, .inl (cB, 940, .inl f_tape)), (h0, .inr (10, vL 67 Fh))] := hD
  refine W.widen (k := 0) (n := 0) (Nat.le_of_ble_eq_true rfl) (Nat.le_of_ble_eq_true rfl) ?_
  refine lv_if_ne (tgt := 14) hx hb dX10_sign_5 (by decide) (fun c5 => ?_) (fun c5 => ?_)
  · have dc5 : r1.toInt ≠ 0 := ne_i (a := r1.toInt) (b := 0) rfl rfl c5
    have k6 : 1 ≤ r1.toInt ∧ r1.toInt ≤ 1 := ⟨ne_lo dc5 t2.1 ⟨Int.le_refl _, Int.le_refl _⟩ (by decide), t2.2⟩
    refine lv_aload_n hx hb dX10_sign_14 rfl (lv_at hl 0 rfl) ?_
    refine call_Vv (wr := []) (As := []) (rest := []) hx hb hml hown hw (m_X10_next l D cI cJ cB cP cM cZ h0 h_tape Fh x_size x_p x_limit x_token x_number x_word f_tape _ e_tape e_size i_x_size e_p i_x_p e_limit i_x_limit e_token i_x_token e_number e_word (by omega)) wV_X10_208_X10_next dX10_sign_15 hK hP hD hS hA [1, 0] [] rfl rfl (by decide) (by decide) (by decide) 0 10 rfl rfl GG.fb hG.at hl.1 rfl (Nat.le_of_ble_eq_true rfl) ⟨(Nat.le_of_ble_eq_true rfl), (Nat.le_of_ble_eq_true rfl)⟩ ⟨(Nat.le_of_ble_eq_true rfl), (Nat.le_of_ble_eq_true rfl)⟩ (fun u H locs hp hP hD hS => ?_)
    obtain ⟨F8, y9, y10, y11, y12, y13, y14, t15, t16, t17, t18, t19, t20, t21, t22, t23, t24, t25, t26, t27, t28, rfl⟩ := hp
    have hP : va_P D vwCl [(h0, .inr (10, vL 67 F8)), (h_tape, .inl (cB, 940, .inl f_tape))] H := hP
    have hD : va_D A [(h0, .inr (10, vL 67 F8)), (h_tape, .inl (cB, 940, .inl f_tape))] := hD
    refine W.widen (k := 0) (n := 0) (Nat.le_of_ble_eq_true rfl) (Nat.le_of_ble_eq_true rfl) ?_
    refine lv_iconst (v := 1) hx hb dX10_sign_18 (by decide) ?_
    exact ret_i (v := 1) hx hb hr hlocks hS hP hD dX10_sign_19 rfl (Nat.le_of_ble_eq_true rfl) (Nat.le_of_ble_eq_true rfl) ⟨F8, y9, y10, y11, y12, y13, x_fault, x_faultAt, y14, (SAME.tr SAME.rf t15 (by decide)), t16, t17, t18, t19, t20, t22, t24, (SAME.at t15 (by decide) e_fault), (SAME.at t15 (by decide) e_faultAt), t25, (show 0 ≤ (1 : Int32).toInt ∧ (1 : Int32).toInt ≤ 1 by decide), (by have zl1 : (1 : Int32).toInt = 1 := (by decide); omega), (by omega), rfl⟩
  · have dc5 : r1.toInt = 0 := eq_i (a := r1.toInt) (b := 0) rfl rfl c5
    have k30 : 0 ≤ r1.toInt ∧ r1.toInt ≤ 0 := ⟨t2.1, Int.le_trans (Int.le_of_eq dc5) (Int.le_refl _)⟩
    refine lv_aload_n hx hb dX10_sign_8 rfl (lv_at hl 0 rfl) ?_
    refine lv_iconst (v := 1) hx hb dX10_sign_9 (by decide) ?_
    refine call_Vi (wr := [(h_tape, .inl (cB, 940, .inl f_tape))]) (As := [.int 1]) (rest := []) hx hb hml hown hw (m_X10_bad l D cI cJ cB cP cM cZ h0 Fh x_at 1 _ e_at) wV_X10_205_X10_bad dX10_sign_10 hK hP hD hS hA [1] [0] rfl rfl (by decide) (by decide) (by decide) 0 10 rfl rfl GG.fb hG.at hl.1 rfl (Nat.le_of_ble_eq_true rfl) ⟨(Nat.le_of_ble_eq_true rfl), (Nat.le_of_ble_eq_true rfl)⟩ ⟨(Nat.le_of_ble_eq_true rfl), (Nat.le_of_ble_eq_true rfl)⟩ (fun r31 u H locs hp hP hD hS => ?_)
    have zl1 : (1 : Int32).toInt = 1 := by decide
    obtain ⟨F32, t33, t34, t35, rfl, rfl⟩ := hp
    have hP : va_P D vwCl [(h_tape, .inl (cB, 940, .inl f_tape)), (h0, .inr (10, vL 67 F32))] H := hP
    have hD : va_D A [(h_tape, .inl (cB, 940, .inl f_tape)), (h0, .inr (10, vL 67 F32))] := hD
    refine W.widen (k := 0) (n := 0) (Nat.le_of_ble_eq_true rfl) (Nat.le_of_ble_eq_true rfl) ?_
    exact ret_i (v := 0) hx hb hr hlocks hS (hP.sub (ws' := [(h0, .inr (10, vL 67 F32)), (h_tape, .inl (cB, 940, .inl f_tape))]) [1, 0] rfl) (hD.sub (ws' := [(h0, .inr (10, vL 67 F32)), (h_tape, .inl (cB, 940, .inl f_tape))]) [1, 0] (by decide) rfl) dX10_sign_13 rfl (Nat.le_of_ble_eq_true rfl) (Nat.le_of_ble_eq_true rfl) ⟨F32, x_p, x_token, x_at, x_span, x_number, 1, x_at, x_word, (SAME.tr SAME.rf t33 (by decide)), (SAME.at t33 (by decide) e_p), i_x_p, (SAME.at t33 (by decide) e_token), i_x_token, (SAME.at t33 (by decide) e_at), (SAME.at t33 (by decide) e_span), (SAME.at t33 (by decide) e_number), t34, t35, (SAME.at t33 (by decide) e_word), (show 0 ≤ (0 : Int32).toInt ∧ (0 : Int32).toInt ≤ 1 by decide), (by have zl0 : (0 : Int32).toInt = 0 := (by decide); have zl1 : (1 : Int32).toInt = 1 := (by decide); omega), (by have zl1 : (1 : Int32).toInt = 1 := (by decide); omega), rfl⟩
set_option maxHeartbeats 4000000 in
set_option maxRecDepth 100000 in
theorem m_X10_isName (l : Launch) (D : va_G) (cI cJ cB cP cM cZ : ClassId) (h0 : Nat) (h_reserved : Nat) (Fh : Nat → Value) (x_token : Int32) (x_number : Int32) (x_word : Int64) (f_reserved : Nat → Int64) (sz : Nat) (e_reserved : Fh 10 = .ref h_reserved) (e_token : Fh 11 = .int x_token) (i_x_token : IR 0 4 x_token) (e_number : Fh 14 = .int x_number) (e_word : Fh 18 = .long x_word) (o_0 : (x_token.toInt = 2 → 0 ≤ x_number.toInt ∧ x_number.toInt ≤ 999)) : CI l yX10_isName cX10_isName 3 (some .boolean) { frames := 0, cells := 0, slots := 0, locals := 0 } (GG D cI cJ cB cP cM cZ) D [(h0, .inr (10, vL 67 Fh)), (h_reserved, .inl (cJ, 23, .inr (.inl f_reserved)))] sz [.ref h0] (fun (r : Int32) (u : va_W) => IR 0 1 r ∧ u = [(h0, .inr (10, vL 67 Fh)), (h_reserved, .inl (cJ, 23, .inr (.inl f_reserved)))]) := by
  refine CI_mk (by decide) (Nat.le_of_ble_eq_true rfl) ?_
  intro p e s m below meth c A ls E hAe hG hsz hP hD hA hS hl
  obtain ⟨hx, hb, hr, hw, hown, hlocks, hml, hnm⟩ := E
  have hK := hG.1
  have i_x_token : 0 ≤ x_token.toInt ∧ x_token.toInt ≤ 4 := i_x_token
  have hl : lv_has ls 3 [(0, .ref h0)] := hl
  refine lv_aload_n hx hb dX10_isName_0 rfl (lv_at hl 0 rfl) ?_
  refine get_f (D := D) (ci := 10) (v := .int x_token) (C := RX10) (T := TX10) (N := 67) hx hb hw inAX10 hown hK hP 0 rfl rfl 11 (by decide) (hw _ q_1272) (fun _ h9 => h9) e_token dX10_isName_1 ?_
  refine lv_iconst (v := 1) hx hb dX10_isName_4 (by decide) ?_
  refine lv_icmp_ne (tgt := 12) hx hb dX10_isName_5 (by decide) (fun c1 => ?_) (fun c1 => ?_)
  · have dc1 : x_token.toInt ≠ 1 := ne_i (a := x_token.toInt) (b := 1) rfl rfl c1
    refine lv_iconst (v := 0) hx hb dX10_isName_12 (by decide) ?_
    refine lv_istore_n (lv' := [(1, .int 0), (0, .ref h0)]) hx hb dX10_isName_13 rfl hl (by decide) rfl (fun ls hl => ?_)
    refine lv_iconst (v := 0) hx hb dX10_isName_14 (by decide) ?_
    refine lv_istore_n (lv' := [(2, .int 0), (1, .int 0), (0, .ref h0)]) hx hb dX10_isName_15 rfl hl (by decide) rfl (fun ls hl => ?_)
    refine mloop (α := (Int32) × (Int32)) (nL := 3) (D := D) (A := A) (H0 := s.heap) (fun a => (23 - a.1.toInt).toNat) (fun a => IR 0 23 a.1 ∧ IR 0 0 a.2) (fun a => [(h0, .inr (10, vL 67 Fh)), (h_reserved, .inl (cJ, 23, .inr (.inl f_reserved)))]) (fun a => [(2, .int a.1), (1, .int a.2), (0, .ref h0)]) (fun H locs ls => W p l e ({ frames := 0, cells := 0, slots := 0, locals := 0 } : Room) s m [.ref h0].toArray below meth c H locs 0 0 (MQ below (va_Qi (fun (r : Int32) (u : va_W) => IR 0 1 r ∧ u = [(h0, .inr (10, vL 67 Fh)), (h_reserved, .inl (cJ, 23, .inr (.inl f_reserved)))]) (PO D A) A) [.ref h0].toArray s 0 0 A) (F0 m 16 ls [])) ?_ (0, 0) ⟨(show 0 ≤ (0 : Int32).toInt ∧ (0 : Int32).toInt ≤ 23 by decide), (show 0 ≤ (0 : Int32).toInt ∧ (0 : Int32).toInt ≤ 0 by decide)⟩ _ _ _ hP hD hS hl
    rintro ⟨u2, u3⟩ ⟨i4, i5⟩ ih H locs ls hP hD hS hl
    have i4 : 0 ≤ u2.toInt ∧ u2.toInt ≤ 23 := i4
    have i5 : 0 ≤ u3.toInt ∧ u3.toInt ≤ 0 := i5
    have hP : va_P D vwCl [(h0, .inr (10, vL 67 Fh)), (h_reserved, .inl (cJ, 23, .inr (.inl f_reserved)))] H := hP
    have hD : va_D A [(h0, .inr (10, vL 67 Fh)), (h_reserved, .inl (cJ, 23, .inr (.inl f_reserved)))] := hD
    have hl : lv_has ls 3 [(2, .int u2), (1, .int u3), (0, .ref h0)] := hl
    refine lv_iload_n hx hb dX10_isName_16 rfl (lv_at hl 0 rfl) ?_
    refine lv_bipush (v := 23) hx hb dX10_isName_17 (by decide) ?_
    refine lv_icmp_ge (tgt := 52) hx hb dX10_isName_19 (by decide) (fun c6 => ?_) (fun c6 => ?_)
    · have dc6 : 23 ≤ u2.toInt := le_i (a := 23) (b := u2.toInt) rfl rfl c6
      have k7 : 23 ≤ u2.toInt ∧ u2.toInt ≤ 23 := ⟨Int.le_trans (Int.le_refl _) dc6, i4.2⟩
      refine lv_iload_n hx hb dX10_isName_52 rfl (lv_at hl 1 rfl) ?_
      exact ret_i (v := u3) hx hb hr hlocks hS hP hD dX10_isName_53 (nz_i (show 0 ≤ u3.toInt ∧ u3.toInt ≤ 1 from (ir_wk i5 (by decide) (by decide))).1 (show 0 ≤ u3.toInt ∧ u3.toInt ≤ 1 from (ir_wk i5 (by decide) (by decide))).2) (Nat.le_of_ble_eq_true rfl) (Nat.le_of_ble_eq_true rfl) ⟨(ir_wk i5 (by decide) (by decide)), rfl⟩
    · have dc6 : u2.toInt < 23 := nle_i (a := 23) (b := u2.toInt) rfl rfl c6
      have k8 : 0 ≤ u2.toInt ∧ u2.toInt ≤ 22 := ⟨i4.1, up_lt dc6 (Int.le_refl _) (by decide)⟩
      refine lv_iload_n hx hb dX10_isName_22 rfl (lv_at hl 1 rfl) ?_
      refine lv_if_eq (tgt := 44) hx hb dX10_isName_23 (by decide) (fun c9 => ?_) (fun c9 => False.elim (bad_ne (ne_i (a := u3.toInt) (b := 0) rfl rfl c9) i5 ⟨Int.le_refl _, Int.le_refl _⟩ (by decide)))
      have dc9 : u3.toInt = 0 := eq_i (a := u3.toInt) (b := 0) rfl rfl c9
      refine lv_iconst (v := 0) hx hb dX10_isName_44 (by decide) ?_
      refine lv_istore_n (lv' := [(1, .int 0), (2, .int u2), (0, .ref h0)]) hx hb dX10_isName_45 rfl hl (by decide) rfl (fun ls hl => ?_)
      obtain ⟨v10, ev10⟩ : ∃ z : Int32, z = u2 + 1 := ⟨_, rfl⟩
      have bv10 : v10.toInt = u2.toInt + 1 := by rw [ev10]; exact add_k rfl rfl k8 ⟨Int.le_refl _, Int.le_refl _⟩ (by decide)
      have k11 : 1 ≤ v10.toInt ∧ v10.toInt ≤ 23 := add_r bv10 k8 ⟨Int.le_refl _, Int.le_refl _⟩ (by decide)
      refine lv_iinc (v := v10) (lv' := [(2, .int v10), (1, .int 0), (0, .ref h0)]) hx hb dX10_isName_46 hl (k := 1) rfl (by rw [ev10]; rfl) (by decide) rfl (fun ls hl => ?_)
      refine lv_goto (tgt := 16) hx hb dX10_isName_49 (by decide) ?_
      exact ih (v10, 0) ⟨(ir_wk k11 (by decide) (by decide)), (show 0 ≤ (0 : Int32).toInt ∧ (0 : Int32).toInt ≤ 0 by decide)⟩ (by show (23 - v10.toInt).toNat < (23 - u2.toInt).toNat; omega) _ _ _ hP hD hS (lv_sub hl [0, 1, 2] rfl)
  · have dc1 : x_token.toInt = 1 := eq_i (a := x_token.toInt) (b := 1) rfl rfl c1
    have k12 : 1 ≤ x_token.toInt ∧ x_token.toInt ≤ 1 := ⟨Int.le_trans (Int.le_refl _) (Int.le_of_eq dc1.symm), Int.le_trans (Int.le_of_eq dc1) (Int.le_refl _)⟩
    refine lv_iconst (v := 1) hx hb dX10_isName_8 (by decide) ?_
    refine lv_goto (tgt := 13) hx hb dX10_isName_9 (by decide) ?_
    refine lv_istore_n (lv' := [(1, .int 1), (0, .ref h0)]) hx hb dX10_isName_13 rfl hl (by decide) rfl (fun ls hl => ?_)
    refine lv_iconst (v := 0) hx hb dX10_isName_14 (by decide) ?_
    refine lv_istore_n (lv' := [(2, .int 0), (1, .int 1), (0, .ref h0)]) hx hb dX10_isName_15 rfl hl (by decide) rfl (fun ls hl => ?_)
    refine mloop (α := (Int32) × (Int32)) (nL := 3) (D := D) (A := A) (H0 := s.heap) (fun a => (23 - a.1.toInt).toNat) (fun a => IR 0 23 a.1 ∧ IR 0 1 a.2) (fun a => [(h0, .inr (10, vL 67 Fh)), (h_reserved, .inl (cJ, 23, .inr (.inl f_reserved)))]) (fun a => [(2, .int a.1), (1, .int a.2), (0, .ref h0)]) (fun H locs ls => W p l e ({ frames := 0, cells := 0, slots := 0, locals := 0 } : Room) s m [.ref h0].toArray below meth c H locs 0 0 (MQ below (va_Qi (fun (r : Int32) (u : va_W) => IR 0 1 r ∧ u = [(h0, .inr (10, vL 67 Fh)), (h_reserved, .inl (cJ, 23, .inr (.inl f_reserved)))]) (PO D A) A) [.ref h0].toArray s 0 0 A) (F0 m 16 ls [])) ?_ (0, 1) ⟨(show 0 ≤ (0 : Int32).toInt ∧ (0 : Int32).toInt ≤ 23 by decide), (show 0 ≤ (1 : Int32).toInt ∧ (1 : Int32).toInt ≤ 1 by decide)⟩ _ _ _ hP hD hS hl
    rintro ⟨u13, u14⟩ ⟨i15, i16⟩ ih H locs ls hP hD hS hl
    have i15 : 0 ≤ u13.toInt ∧ u13.toInt ≤ 23 := i15
    have i16 : 0 ≤ u14.toInt ∧ u14.toInt ≤ 1 := i16
    have hP : va_P D vwCl [(h0, .inr (10, vL 67 Fh)), (h_reserved, .inl (cJ, 23, .inr (.inl f_reserved)))] H := hP
    have hD : va_D A [(h0, .inr (10, vL 67 Fh)), (h_reserved, .inl (cJ, 23, .inr (.inl f_reserved)))] := hD
    have hl : lv_has ls 3 [(2, .int u13), (1, .int u14), (0, .ref h0)] := hl
    refine lv_iload_n hx hb dX10_isName_16 rfl (lv_at hl 0 rfl) ?_
    refine lv_bipush (v := 23) hx hb dX10_isName_17 (by decide) ?_
    refine lv_icmp_ge (tgt := 52) hx hb dX10_isName_19 (by decide) (fun c17 => ?_) (fun c17 => ?_)
    · have dc17 : 23 ≤ u13.toInt := le_i (a := 23) (b := u13.toInt) rfl rfl c17
      have k18 : 23 ≤ u13.toInt ∧ u13.toInt ≤ 23 := ⟨Int.le_trans (Int.le_refl _) dc17, i15.2⟩
      refine lv_iload_n hx hb dX10_isName_52 rfl (lv_at hl 1 rfl) ?_
      exact ret_i (v := u14) hx hb hr hlocks hS hP hD dX10_isName_53 (nz_i i16.1 i16.2) (Nat.le_of_ble_eq_true rfl) (Nat.le_of_ble_eq_true rfl) ⟨i16, rfl⟩
    · have dc17 : u13.toInt < 23 := nle_i (a := 23) (b := u13.toInt) rfl rfl c17
      have k19 : 0 ≤ u13.toInt ∧ u13.toInt ≤ 22 := ⟨i15.1, up_lt dc17 (Int.le_refl _) (by decide)⟩
      refine lv_iload_n hx hb dX10_isName_22 rfl (lv_at hl 1 rfl) ?_
      refine lv_if_eq (tgt := 44) hx hb dX10_isName_23 (by decide) (fun c20 => ?_) (fun c20 => ?_)
      · have dc20 : u14.toInt = 0 := eq_i (a := u14.toInt) (b := 0) rfl rfl c20
        have k21 : 0 ≤ u14.toInt ∧ u14.toInt ≤ 0 := ⟨i16.1, Int.le_trans (Int.le_of_eq dc20) (Int.le_refl _)⟩
        refine lv_iconst (v := 0) hx hb dX10_isName_44 (by decide) ?_
        refine lv_istore_n (lv' := [(1, .int 0), (2, .int u13), (0, .ref h0)]) hx hb dX10_isName_45 rfl hl (by decide) rfl (fun ls hl => ?_)
        obtain ⟨v22, ev22⟩ : ∃ z : Int32, z = u13 + 1 := ⟨_, rfl⟩
        have bv22 : v22.toInt = u13.toInt + 1 := by rw [ev22]; exact add_k rfl rfl k19 ⟨Int.le_refl _, Int.le_refl _⟩ (by decide)
        have k23 : 1 ≤ v22.toInt ∧ v22.toInt ≤ 23 := add_r bv22 k19 ⟨Int.le_refl _, Int.le_refl _⟩ (by decide)
        refine lv_iinc (v := v22) (lv' := [(2, .int v22), (1, .int 0), (0, .ref h0)]) hx hb dX10_isName_46 hl (k := 1) rfl (by rw [ev22]; rfl) (by decide) rfl (fun ls hl => ?_)
        refine lv_goto (tgt := 16) hx hb dX10_isName_49 (by decide) ?_
        exact ih (v22, 0) ⟨(ir_wk k23 (by decide) (by decide)), (show 0 ≤ (0 : Int32).toInt ∧ (0 : Int32).toInt ≤ 1 by decide)⟩ (by show (23 - v22.toInt).toNat < (23 - u13.toInt).toNat; omega) _ _ _ hP hD hS (lv_sub hl [0, 1, 2] rfl)
      · have dc20 : u14.toInt ≠ 0 := ne_i (a := u14.toInt) (b := 0) rfl rfl c20
        have k24 : 1 ≤ u14.toInt ∧ u14.toInt ≤ 1 := ⟨ne_lo dc20 i16.1 ⟨Int.le_refl _, Int.le_refl _⟩ (by decide), i16.2⟩
        refine lv_aload_n hx hb dX10_isName_26 rfl (lv_at hl 2 rfl) ?_
        refine get_f (D := D) (ci := 10) (v := .long x_word) (C := RX10) (T := TX10) (N := 67) hx hb hw inAX10 hown hK hP 0 rfl rfl 18 (by decide) (hw _ q_1279) (fun _ h9 => h9) e_word dX10_isName_27 ?_
        refine lv_aload_n hx hb dX10_isName_30 rfl (lv_at hl 2 rfl) ?_
        refine get_f (D := D) (ci := 10) (v := .ref h_reserved) (C := RX10) (T := TX10) (N := 67) hx hb hw inAX10 hown hK hP 0 rfl rfl 10 (by decide) (hw _ q_1271) (fun _ h9 => h9) e_reserved dX10_isName_31 ?_
        refine lv_iload_n hx hb dX10_isName_34 rfl (lv_at hl 0 rfl) ?_
        refine va_lald hx hb hK hP 1 1 rfl rfl (ix_k k19 (by decide) (by decide)) dX10_isName_35 ?_
        refine lv_topl (fun v25 ev25 => ?_)
        refine W.lcmp hx hb dX10_isName_36 ?_
        refine lv_topi (fun v26 ev26 => ?_)
        refine lv_if_eq (tgt := 44) hx hb dX10_isName_37 (by decide) (fun c27 => ?_) (fun c27 => ?_)
        · have dc27 : v26.toInt = 0 := eq_i (a := v26.toInt) (b := 0) rfl rfl c27
          have k28 : 0 ≤ v26.toInt ∧ v26.toInt ≤ 0 := ⟨Int.le_trans (Int.le_refl _) (Int.le_of_eq dc27.symm), Int.le_trans (Int.le_of_eq dc27) (Int.le_refl _)⟩
          refine lv_iconst (v := 0) hx hb dX10_isName_44 (by decide) ?_
          refine lv_istore_n (lv' := [(1, .int 0), (2, .int u13), (0, .ref h0)]) hx hb dX10_isName_45 rfl hl (by decide) rfl (fun ls hl => ?_)
          obtain ⟨v29, ev29⟩ : ∃ z : Int32, z = u13 + 1 := ⟨_, rfl⟩
          have bv29 : v29.toInt = u13.toInt + 1 := by rw [ev29]; exact add_k rfl rfl k19 ⟨Int.le_refl _, Int.le_refl _⟩ (by decide)
          have k30 : 1 ≤ v29.toInt ∧ v29.toInt ≤ 23 := add_r bv29 k19 ⟨Int.le_refl _, Int.le_refl _⟩ (by decide)
          refine lv_iinc (v := v29) (lv' := [(2, .int v29), (1, .int 0), (0, .ref h0)]) hx hb dX10_isName_46 hl (k := 1) rfl (by rw [ev29]; rfl) (by decide) rfl (fun ls hl => ?_)
          refine lv_goto (tgt := 16) hx hb dX10_isName_49 (by decide) ?_
          exact ih (v29, 0) ⟨(ir_wk k30 (by decide) (by decide)), (show 0 ≤ (0 : Int32).toInt ∧ (0 : Int32).toInt ≤ 1 by decide)⟩ (by show (23 - v29.toInt).toNat < (23 - u13.toInt).toNat; omega) _ _ _ hP hD hS (lv_sub hl [0, 1, 2] rfl)
        · have dc27 : v26.toInt ≠ 0 := ne_i (a := v26.toInt) (b := 0) rfl rfl c27
          refine lv_iconst (v := 1) hx hb dX10_isName_40 (by decide) ?_
          refine lv_goto (tgt := 45) hx hb dX10_isName_41 (by decide) ?_
          refine lv_istore_n (lv' := [(1, .int 1), (2, .int u13), (0, .ref h0)]) hx hb dX10_isName_45 rfl hl (by decide) rfl (fun ls hl => ?_)
          obtain ⟨v31, ev31⟩ : ∃ z : Int32, z = u13 + 1 := ⟨_, rfl⟩
          have bv31 : v31.toInt = u13.toInt + 1 := by rw [ev31]; exact add_k rfl rfl k19 ⟨Int.le_refl _, Int.le_refl _⟩ (by decide)
          have k32 : 1 ≤ v31.toInt ∧ v31.toInt ≤ 23 := add_r bv31 k19 ⟨Int.le_refl _, Int.le_refl _⟩ (by decide)
          refine lv_iinc (v := v31) (lv' := [(2, .int v31), (1, .int 1), (0, .ref h0)]) hx hb dX10_isName_46 hl (k := 1) rfl (by rw [ev31]; rfl) (by decide) rfl (fun ls hl => ?_)
          refine lv_goto (tgt := 16) hx hb dX10_isName_49 (by decide) ?_
          exact ih (v31, 1) ⟨(ir_wk k32 (by decide) (by decide)), (show 0 ≤ (1 : Int32).toInt ∧ (1 : Int32).toInt ≤ 1 by decide)⟩ (by show (23 - v31.toInt).toNat < (23 - u13.toInt).toNat; omega) _ _ _ hP hD hS (lv_sub hl [0, 1, 2] rfl)
set_option maxHeartbeats 4000000 in
set_option maxRecDepth 100000 in
theorem m_X10_takes (l : Launch) (D : va_G) (cI cJ cB cP cM cZ : ClassId) (h0 : Nat) (h_tape : Nat) (Fh : Nat → Value) (x_size : Int32) (x_p : Int32) (x_limit : Int32) (x_token : Int32) (x_at : Int32) (x_number : Int32) (x_word : Int64) (f_tape : Nat → Int32) (p0 : Int32) (p1 : Int32) (sz : Nat) (e_tape : Fh 1 = .ref h_tape) (e_size : Fh 3 = .int x_size) (i_x_size : IR 0 940 x_size) (e_p : Fh 4 = .int x_p) (i_x_p : IR 0 940 x_p) (e_limit : Fh 5 = .int x_limit) (i_x_limit : IR 200 940 x_limit) (e_token : Fh 11 = .int x_token) (i_x_token : IR 0 4 x_token) (e_at : Fh 12 = .int x_at) (e_number : Fh 14 = .int x_number) (e_word : Fh 18 = .long x_word) (o_0 : (x_token.toInt = 2 → 0 ≤ x_number.toInt ∧ x_number.toInt ≤ 999)) : CI l yX10_takes cX10_takes 3 (some .boolean) { frames := 2, cells := 0, slots := 0, locals := 43 } (GG D cI cJ cB cP cM cZ) D [(h0, .inr (10, vL 67 Fh)), (h_tape, .inl (cB, 940, .inl f_tape))] sz [.ref h0, .int p0, .int p1] (fun (r : Int32) (u : va_W) => (∃ (Gh : Nat → Value) (y_fault : Int32), SAME [15, 16] Fh Gh ∧ Gh 15 = .int y_fault ∧ IR 1 2 y_fault ∧ Gh 16 = .int x_at ∧ ((r.toInt = 1 → (p0.toInt ≤ x_got.toInt ∧ x_got.toInt ≤ p1.toInt ∧ x_p.toInt ≤ x_p.toInt))) ∧ r = 0 ∧ u = [(h0, .inr (10, vL 67 Gh)), (h_tape, .inl (cB, 940, .inl f_tape))]) ∨ (∃ (Gh : Nat → Value) (y_p : Int32) (y_token : Int32) (y_at : Int32) (y_span : Int32) (y_number : Int32) (y_word : Int64) (y_got : Int32), SAME [4, 11, 12, 13, 14, 18, 19] Fh Gh ∧ Gh 4 = .int y_p ∧ IR 0 940 y_p ∧ Gh 11 = .int y_token ∧ IR 0 4 y_token ∧ Gh 12 = .int y_at ∧ IR 0 940 y_at ∧ Gh 13 = .int y_span ∧ IR 0 940 y_span ∧ Gh 14 = .int y_number ∧ Gh 18 = .long y_word ∧ Gh 19 = .int y_got ∧ x_token.toInt = 2 ∧ p0.toInt ≤ x_number.toInt ∧ x_number.toInt ≤ p1.toInt ∧ ((r.toInt = 1 → (p0.toInt ≤ y_got.toInt ∧ y_got.toInt ≤ p1.toInt ∧ x_p.toInt ≤ y_p.toInt))) ∧ ((y_token.toInt = 2 → 0 ≤ y_number.toInt ∧ y_number.toInt ≤ 999)) ∧ r = 1 ∧ u = [(h0, .inr (10, vL 67 Gh)), (h_tape, .inl (cB, 940, .inl f_tape))])) := by
  refine CI_mk (by decide) (Nat.le_of_ble_eq_true rfl) ?_
  intro p e s m below meth c A ls E hAe hG hsz hP hD hA hS hl
  obtain ⟨hx, hb, hr, hw, hown, hlocks, hml, hnm⟩ := E
  have hK := hG.1
  have i_x_size : 0 ≤ x_size.toInt ∧ x_size.toInt ≤ 940 := i_x_size
  have i_x_p : 0 ≤ x_p.toInt ∧ x_p.toInt ≤ 940 := i_x_p
  have i_x_limit : 200 ≤ x_limit.toInt ∧ x_limit.toInt ≤ 940 := i_x_limit
  have i_x_token : 0 ≤ x_token.toInt ∧ x_token.toInt ≤ 4 := i_x_token
  have hl : lv_has ls 3 [(0, .ref h0), (1, .int p0), (2, .int p1)] := hl
  refine lv_aload_n hx hb dX10_takes_0 rfl (lv_at hl 0 rfl) ?_
  refine get_f (D := D) (ci := 10) (v := .int x_token) (C := RX10) (T := TX10) (N := 67) hx hb hw inAX10 hown hK hP 0 rfl rfl 11 (by decide) (hw _ q_1272) (fun _ h9 => h9) e_token dX10_takes_1 ?_
  refine lv_iconst (v := 2) hx hb dX10_takes_4 (by decide) ?_
  refine lv_icmp_eq (tgt := 14) hx hb dX10_takes_5 (by decide) (fun c1 => ?_) (fun c1 => ?_)
  · have dc1 : x_token.toInt = 2 := eq_i (a := x_token.toInt) (b := 2) rfl rfl c1
    have k2 : 2 ≤ x_token.toInt ∧ x_token.toInt ≤ 2 := ⟨Int.le_trans (Int.le_refl _) (Int.le_of_eq dc1.symm), Int.le_trans (Int.le_of_eq dc1) (Int.le_refl _)⟩
    refine lv_aload_n hx hb dX10_takes_14 rfl (lv_at hl 0 rfl) ?_
    refine get_f (D := D) (ci := 10) (v := .int x_number) (C := RX10) (T := TX10) (N := 67) hx hb hw inAX10 hown hK hP 0 rfl rfl 14 (by decide) (hw _ q_1275) (fun _ h9 => h9) e_number dX10_takes_15 ?_
    refine lv_iload_n hx hb dX10_takes_18 rfl (lv_at hl 1 rfl) ?_
    refine lv_iload_n hx hb dX10_takes_19 rfl (lv_at hl 2 rfl) ?_
    refine call_Si (wr := [(h0, .inr (10, vL 67 Fh)), (h_tape, .inl (cB, 940, .inl f_tape))]) (As := [.int x_number, .int p0, .int p1]) (rest := []) hx hb hml hown hw (m_X10_isIn l D cI cJ cB cP cM cZ x_number p0 p1 _ ) wS_X10_211_X10_isIn dX10_takes_20 hP hD hS hA [] [0, 1] rfl rfl (by decide) (by decide) (by decide) GG.fb hG.at hl.1 rfl (Nat.le_of_ble_eq_true rfl) ⟨(Nat.le_of_ble_eq_true rfl), (Nat.le_of_ble_eq_true rfl)⟩ ⟨(Nat.le_of_ble_eq_true rfl), (Nat.le_of_ble_eq_true rfl)⟩ (fun r3 u H locs hp hP hD hS => ?_)
    rcases hp with ⟨t4, rfl, rfl⟩ | ⟨t5, t6, rfl, rfl⟩ | ⟨t7, t8, rfl, rfl⟩
    · have hP : va_P D vwCl [(h0, .inr (10, vL 67 Fh)), (h_tape, .inl (cB, 940, .inl f_tape))] H := hP
      have hD : va_D A [(h0, .inr (10, vL 67 Fh)), (h_tape, .inl (cB, 940, .inl f_tape))] := hD
      refine W.widen (k := 0) (n := 0) (Nat.le_of_ble_eq_true rfl) (Nat.le_of_ble_eq_true rfl) ?_
      have k10 : (-2147483648) ≤ x_number.toInt ∧ x_number.toInt ≤ 2147483646 := ⟨(ir_any _).1, up_lt t4 (ir_any _).2 (by decide)⟩
      have k11 : (-2147483647) ≤ p0.toInt ∧ p0.toInt ≤ 2147483647 := ⟨lo_lt t4 (ir_any _).1 (by decide), (ir_any _).2⟩
      refine lv_if_ne (tgt := 32) hx hb dX10_takes_23 (by decide) (fun g => absurd (by decide) g) (fun _ => ?_)
      refine lv_aload_n hx hb dX10_takes_26 rfl (lv_at hl 0 rfl) ?_
      refine lv_iconst (v := 2) hx hb dX10_takes_27 (by decide) ?_
      refine call_Vi (wr := [(h_tape, .inl (cB, 940, .inl f_tape))]) (As := [.int 2]) (rest := []) hx hb hml hown hw (m_X10_bad l D cI cJ cB cP cM cZ h0 Fh x_at 2 _ e_at) wV_X10_205_X10_bad dX10_takes_28 hK hP hD hS hA [0] [1] rfl rfl (by decide) (by decide) (by decide) 0 10 rfl rfl GG.fb hG.at hl.1 rfl (Nat.le_of_ble_eq_true rfl) ⟨(Nat.le_of_ble_eq_true rfl), (Nat.le_of_ble_eq_true rfl)⟩ ⟨(Nat.le_of_ble_eq_true rfl), (Nat.le_of_ble_eq_true rfl)⟩ (fun r12 u H locs hp hP hD hS => ?_)
      have zl2 : (2 : Int32).toInt = 2 := by decide
      obtain ⟨F13, t14, t15, t16, rfl, rfl⟩ := hp
      have hP : va_P D vwCl [(h_tape, .inl (cB, 940, .inl f_tape)), (h0, .inr (10, vL 67 F13))] H := hP
      have hD : va_D A [(h_tape, .inl (cB, 940, .inl f_tape)), (h0, .inr (10, vL 67 F13))] := hD
      refine W.widen (k := 0) (n := 0) (Nat.le_of_ble_eq_true rfl) (Nat.le_of_ble_eq_true rfl) ?_
      exact ret_i (v := 0) hx hb hr hlocks hS (hP.sub (ws' := [(h0, .inr (10, vL 67 F13)), (h_tape, .inl (cB, 940, .inl f_tape))]) [1, 0] rfl) (hD.sub (ws' := [(h0, .inr (10, vL 67 F13)), (h_tape, .inl (cB, 940, .inl f_tape))]) [1, 0] (by decide) rfl) dX10_takes_31 rfl (Nat.le_of_ble_eq_true rfl) (Nat.le_of_ble_eq_true rfl) (Or.inl ⟨F13, 2, (SAME.tr SAME.rf t14 (by decide)), t15, (show 1 ≤ (2 : Int32).toInt ∧ (2 : Int32).toInt ≤ 2 by decide), t16, (by have zl0 : (0 : Int32).toInt = 0 := (by decide); have zl1 : (1 : Int32).toInt = 1 := (by decide); omega), rfl, rfl⟩)
    · have hP : va_P D vwCl [(h0, .inr (10, vL 67 Fh)), (h_tape, .inl (cB, 940, .inl f_tape))] H := hP
      have hD : va_D A [(h0, .inr (10, vL 67 Fh)), (h_tape, .inl (cB, 940, .inl f_tape))] := hD
      refine W.widen (k := 0) (n := 0) (Nat.le_of_ble_eq_true rfl) (Nat.le_of_ble_eq_true rfl) ?_
      have k18 : (-2147483648) ≤ p1.toInt ∧ p1.toInt ≤ 2147483646 := ⟨(ir_any _).1, up_lt t6 (ir_any _).2 (by decide)⟩
      have k19 : (-2147483647) ≤ x_number.toInt ∧ x_number.toInt ≤ 2147483647 := ⟨lo_lt t6 (ir_any _).1 (by decide), (ir_any _).2⟩
      refine lv_if_ne (tgt := 32) hx hb dX10_takes_23 (by decide) (fun g => absurd (by decide) g) (fun _ => ?_)
      refine lv_aload_n hx hb dX10_takes_26 rfl (lv_at hl 0 rfl) ?_
      refine lv_iconst (v := 2) hx hb dX10_takes_27 (by decide) ?_
      refine call_Vi (wr := [(h_tape, .inl (cB, 940, .inl f_tape))]) (As := [.int 2]) (rest := []) hx hb hml hown hw (m_X10_bad l D cI cJ cB cP cM cZ h0 Fh x_at 2 _ e_at) wV_X10_205_X10_bad dX10_takes_28 hK hP hD hS hA [0] [1] rfl rfl (by decide) (by decide) (by decide) 0 10 rfl rfl GG.fb hG.at hl.1 rfl (Nat.le_of_ble_eq_true rfl) ⟨(Nat.le_of_ble_eq_true rfl), (Nat.le_of_ble_eq_true rfl)⟩ ⟨(Nat.le_of_ble_eq_true rfl), (Nat.le_of_ble_eq_true rfl)⟩ (fun r20 u H locs hp hP hD hS => ?_)
      have zl2 : (2 : Int32).toInt = 2 := by decide
      obtain ⟨F21, t22, t23, t24, rfl, rfl⟩ := hp
      have hP : va_P D vwCl [(h_tape, .inl (cB, 940, .inl f_tape)), (h0, .inr (10, vL 67 F21))] H := hP
      have hD : va_D A [(h_tape, .inl (cB, 940, .inl f_tape)), (h0, .inr (10, vL 67 F21))] := hD
      refine W.widen (k := 0) (n := 0) (Nat.le_of_ble_eq_true rfl) (Nat.le_of_ble_eq_true rfl) ?_
      exact ret_i (v := 0) hx hb hr hlocks hS (hP.sub (ws' := [(h0, .inr (10, vL 67 F21)), (h_tape, .inl (cB, 940, .inl f_tape))]) [1, 0] rfl) (hD.sub (ws' := [(h0, .inr (10, vL 67 F21)), (h_tape, .inl (cB, 940, .inl f_tape))]) [1, 0] (by decide) rfl) dX10_takes_31 rfl (Nat.le_of_ble_eq_true rfl) (Nat.le_of_ble_eq_true rfl) (Or.inl ⟨F21, 2, (SAME.tr SAME.rf t22 (by decide)), t23, (show 1 ≤ (2 : Int32).toInt ∧ (2 : Int32).toInt ≤ 2 by decide), t24, (by have zl0 : (0 : Int32).toInt = 0 := (by decide); have zl1 : (1 : Int32).toInt = 1 := (by decide); omega), rfl, rfl⟩)
    · have hP : va_P D vwCl [(h0, .inr (10, vL 67 Fh)), (h_tape, .inl (cB, 940, .inl f_tape))] H := hP
      have hD : va_D A [(h0, .inr (10, vL 67 Fh)), (h_tape, .inl (cB, 940, .inl f_tape))] := hD
      refine W.widen (k := 0) (n := 0) (Nat.le_of_ble_eq_true rfl) (Nat.le_of_ble_eq_true rfl) ?_
      refine lv_if_ne (tgt := 32) hx hb dX10_takes_23 (by decide) (fun _ => ?_) (fun g => absurd g (by decide))
      refine lv_aload_n hx hb dX10_takes_32 rfl (lv_at hl 0 rfl) ?_
      refine lv_aload_n hx hb dX10_takes_33 rfl (lv_at hl 0 rfl) ?_
      refine get_f (D := D) (ci := 10) (v := .int x_number) (C := RX10) (T := TX10) (N := 67) hx hb hw inAX10 hown hK hP 0 rfl rfl 14 (by decide) (hw _ q_1275) (fun _ h9 => h9) e_number dX10_takes_34 ?_
      refine put_f (D := D) (ci := 10) (v := .int x_number) (ty := .int) (C := RX10) (T := TX10) (N := 67) hx hb hw inAX10 tyX10 tyX10_ok nmX10 hown hK hP hD hS 0 rfl rfl 19 (by decide) (hw _ q_1280) (fun _ h9 => h9) rfl (by decide +kernel) rfl rfl dX10_takes_37 (fun H locs F26 eF26 hP hD hS => ?_)
      have hP : va_P D vwCl [(h0, .inr (10, vL 67 F26)), (h_tape, .inl (cB, 940, .inl f_tape))] H := hP
      have hD : va_D A [(h0, .inr (10, vL 67 F26)), (h_tape, .inl (cB, 940, .inl f_tape))] := hD
      refine lv_aload_n hx hb dX10_takes_40 rfl (lv_at hl 0 rfl) ?_
      have n27 : F26 1 = .ref h_tape := (get_ne eF26 (by decide) e_tape)
      have n28 : F26 3 = .int x_size := (get_ne eF26 (by decide) e_size)
      have n29 : F26 4 = .int x_p := (get_ne eF26 (by decide) e_p)
      have n30 : F26 5 = .int x_limit := (get_ne eF26 (by decide) e_limit)
      have n31 : F26 11 = .int x_token := (get_ne eF26 (by decide) e_token)
      have n32 : F26 14 = .int x_number := (get_ne eF26 (by decide) e_number)
      have n33 : F26 18 = .long x_word := (get_ne eF26 (by decide) e_word)
      refine call_Vv (wr := []) (As := []) (rest := []) hx hb hml hown hw (m_X10_next l D cI cJ cB cP cM cZ h0 h_tape F26 x_size x_p x_limit x_token x_number x_word f_tape _ n27 n28 i_x_size n29 i_x_p n30 i_x_limit n31 (ir_wk k2 (by decide) (by decide)) n32 n33 (by omega)) wV_X10_208_X10_next dX10_takes_41 hK hP hD hS hA [0, 1] [] rfl rfl (by decide) (by decide) (by decide) 0 10 rfl rfl GG.fb hG.at hl.1 rfl (Nat.le_of_ble_eq_true rfl) ⟨(Nat.le_of_ble_eq_true rfl), (Nat.le_of_ble_eq_true rfl)⟩ ⟨(Nat.le_of_ble_eq_true rfl), (Nat.le_of_ble_eq_true rfl)⟩ (fun u H locs hp hP hD hS => ?_)
      obtain ⟨F35, y36, y37, y38, y39, y40, y41, t42, t43, t44, t45, t46, t47, t48, t49, t50, t51, t52, t53, t54, t55, rfl⟩ := hp
      have hP : va_P D vwCl [(h0, .inr (10, vL 67 F35)), (h_tape, .inl (cB, 940, .inl f_tape))] H := hP
      have hD : va_D A [(h0, .inr (10, vL 67 F35)), (h_tape, .inl (cB, 940, .inl f_tape))] := hD
      refine W.widen (k := 0) (n := 0) (Nat.le_of_ble_eq_true rfl) (Nat.le_of_ble_eq_true rfl) ?_
      refine lv_iconst (v := 1) hx hb dX10_takes_44 (by decide) ?_
      exact ret_i (v := 1) hx hb hr hlocks hS hP hD dX10_takes_45 rfl (Nat.le_of_ble_eq_true rfl) (Nat.le_of_ble_eq_true rfl) (Or.inr ⟨F35, y36, y37, y38, y39, y40, y41, x_number, (SAME.tr (SAME.up eF26 SAME.rf (by decide)) t42 (by decide)), t43, t44, t45, t46, t47, t48, t49, t50, t51, t52, (SAME.at t42 (by decide) (get_eq eF26)), dc1, t7, t8, (by have zl1 : (1 : Int32).toInt = 1 := (by decide); omega), (by omega), rfl, rfl⟩)
  · have dc1 : x_token.toInt ≠ 2 := ne_i (a := x_token.toInt) (b := 2) rfl rfl c1
    refine lv_aload_n hx hb dX10_takes_8 rfl (lv_at hl 0 rfl) ?_
    refine lv_iconst (v := 1) hx hb dX10_takes_9 (by decide) ?_
    refine call_Vi (wr := [(h_tape, .inl (cB, 940, .inl f_tape))]) (As := [.int 1]) (rest := []) hx hb hml hown hw (m_X10_bad l D cI cJ cB cP cM cZ h0 Fh x_at 1 _ e_at) wV_X10_205_X10_bad dX10_takes_10 hK hP hD hS hA [0] [1] rfl rfl (by decide) (by decide) (by decide) 0 10 rfl rfl GG.fb hG.at hl.1 rfl (Nat.le_of_ble_eq_true rfl) ⟨(Nat.le_of_ble_eq_true rfl), (Nat.le_of_ble_eq_true rfl)⟩ ⟨(Nat.le_of_ble_eq_true rfl), (Nat.le_of_ble_eq_true rfl)⟩ (fun r57 u H locs hp hP hD hS => ?_)
    have zl1 : (1 : Int32).toInt = 1 := by decide
    obtain ⟨F58, t59, t60, t61, rfl, rfl⟩ := hp
    have hP : va_P D vwCl [(h_tape, .inl (cB, 940, .inl f_tape)), (h0, .inr (10, vL 67 F58))] H := hP
    have hD : va_D A [(h_tape, .inl (cB, 940, .inl f_tape)), (h0, .inr (10, vL 67 F58))] := hD
    refine W.widen (k := 0) (n := 0) (Nat.le_of_ble_eq_true rfl) (Nat.le_of_ble_eq_true rfl) ?_
    exact ret_i (v := 0) hx hb hr hlocks hS (hP.sub (ws' := [(h0, .inr (10, vL 67 F58)), (h_tape, .inl (cB, 940, .inl f_tape))]) [1, 0] rfl) (hD.sub (ws' := [(h0, .inr (10, vL 67 F58)), (h_tape, .inl (cB, 940, .inl f_tape))]) [1, 0] (by decide) rfl) dX10_takes_13 rfl (Nat.le_of_ble_eq_true rfl) (Nat.le_of_ble_eq_true rfl) (Or.inl ⟨F58, 1, (SAME.tr SAME.rf t59 (by decide)), t60, (show 1 ≤ (1 : Int32).toInt ∧ (1 : Int32).toInt ≤ 2 by decide), t61, (by have zl0 : (0 : Int32).toInt = 0 := (by decide); have zl1 : (1 : Int32).toInt = 1 := (by decide); omega), rfl, rfl⟩)
set_option maxHeartbeats 4000000 in
set_option maxRecDepth 100000 in
theorem m_X10_find (l : Launch) (D : va_G) (cI cJ cB cP cM cZ : ClassId) (h0 : Nat) (h_names : Nat) (Fh : Nat → Value) (x_word : Int64) (f_names : Nat → Int64) (p0 : Int32) (p1 : Int32) (sz : Nat) (e_names : Fh 9 = .ref h_names) (e_word : Fh 18 = .long x_word) (i_p0 : IR 0 30 p0) (i_p1 : IR 0 12 p1) (z_0 : p0.toInt + p1.toInt ≤ 36) : CI l yX10_find cX10_find 4 (some .int) { frames := 0, cells := 0, slots := 0, locals := 0 } (GG D cI cJ cB cP cM cZ) D [(h0, .inr (10, vL 67 Fh)), (h_names, .inl (cJ, 36, .inr (.inl f_names)))] sz [.ref h0, .int p0, .int p1] (fun (r : Int32) (u : va_W) => (p1.toInt ≤ 12 ∧ r = (-1) ∧ u = [(h0, .inr (10, vL 67 Fh)), (h_names, .inl (cJ, 36, .inr (.inl f_names)))]) ∨ (IR 0 11 r ∧ 0 < p1.toInt ∧ u = [(h0, .inr (10, vL 67 Fh)), (h_names, .inl (cJ, 36, .inr (.inl f_names)))])) := by
  refine CI_mk (by decide) (Nat.le_of_ble_eq_true rfl) ?_
  intro p e s m below meth c A ls E hAe hG hsz hP hD hA hS hl
  obtain ⟨hx, hb, hr, hw, hown, hlocks, hml, hnm⟩ := E
  have hK := hG.1
  have i_p0 : 0 ≤ p0.toInt ∧ p0.toInt ≤ 30 := i_p0
  have i_p1 : 0 ≤ p1.toInt ∧ p1.toInt ≤ 12 := i_p1
  have hl : lv_has ls 4 [(0, .ref h0), (1, .int p0), (2, .int p1)] := hl
  refine lv_iconst (v := 0) hx hb dX10_find_0 (by decide) ?_
  refine lv_istore_n (lv' := [(3, .int 0), (0, .ref h0), (1, .int p0), (2, .int p1)]) hx hb dX10_find_1 rfl hl (by decide) rfl (fun ls hl => ?_)
  refine mloop (α := (Int32)) (nL := 4) (D := D) (A := A) (H0 := s.heap) (fun a => (12 - a.toInt).toNat) (fun a => IR 0 12 a) (fun a => [(h0, .inr (10, vL 67 Fh)), (h_names, .inl (cJ, 36, .inr (.inl f_names)))]) (fun a => [(3, .int a), (0, .ref h0), (1, .int p0), (2, .int p1)]) (fun H locs ls => W p l e ({ frames := 0, cells := 0, slots := 0, locals := 0 } : Room) s m [.ref h0, .int p0, .int p1].toArray below meth c H locs 0 0 (MQ below (va_Qi (fun (r : Int32) (u : va_W) => (p1.toInt ≤ 12 ∧ r = (-1) ∧ u = [(h0, .inr (10, vL 67 Fh)), (h_names, .inl (cJ, 36, .inr (.inl f_names)))]) ∨ (IR 0 11 r ∧ 0 < p1.toInt ∧ u = [(h0, .inr (10, vL 67 Fh)), (h_names, .inl (cJ, 36, .inr (.inl f_names)))])) (PO D A) A) [.ref h0, .int p0, .int p1].toArray s 0 0 A) (F0 m 2 ls [])) ?_ (0) (show 0 ≤ (0 : Int32).toInt ∧ (0 : Int32).toInt ≤ 12 by decide) _ _ _ hP hD hS hl
  rintro u1 i2 ih H locs ls hP hD hS hl
  have i2 : 0 ≤ u1.toInt ∧ u1.toInt ≤ 12 := i2
  have hP : va_P D vwCl [(h0, .inr (10, vL 67 Fh)), (h_names, .inl (cJ, 36, .inr (.inl f_names)))] H := hP
  have hD : va_D A [(h0, .inr (10, vL 67 Fh)), (h_names, .inl (cJ, 36, .inr (.inl f_names)))] := hD
  have hl : lv_has ls 4 [(3, .int u1), (0, .ref h0), (1, .int p0), (2, .int p1)] := hl
  refine lv_iload_n hx hb dX10_find_2 rfl (lv_at hl 0 rfl) ?_
  refine lv_iload_n hx hb dX10_find_3 rfl (lv_at hl 3 rfl) ?_
  refine lv_icmp_ge (tgt := 31) hx hb dX10_find_4 (by decide) (fun c3 => ?_) (fun c3 => ?_)
  · have dc3 : p1.toInt ≤ u1.toInt := le_i (a := p1.toInt) (b := u1.toInt) rfl rfl c3
    refine lv_iconst (v := (-1)) hx hb dX10_find_31 (by decide) ?_
    exact ret_i (v := (-1)) hx hb hr hlocks hS hP hD dX10_find_32 rfl (Nat.le_of_ble_eq_true rfl) (Nat.le_of_ble_eq_true rfl) (Or.inl ⟨(by omega), rfl, rfl⟩)
  · have dc3 : u1.toInt < p1.toInt := nle_i (a := p1.toInt) (b := u1.toInt) rfl rfl c3
    have k4 : 0 ≤ u1.toInt ∧ u1.toInt ≤ 11 := ⟨i2.1, up_lt dc3 i_p1.2 (by decide)⟩
    have k5 : 1 ≤ p1.toInt ∧ p1.toInt ≤ 12 := ⟨lo_lt dc3 i2.1 (by decide), i_p1.2⟩
    refine lv_aload_n hx hb dX10_find_7 rfl (lv_at hl 1 rfl) ?_
    refine get_f (D := D) (ci := 10) (v := .ref h_names) (C := RX10) (T := TX10) (N := 67) hx hb hw inAX10 hown hK hP 0 rfl rfl 9 (by decide) (hw _ q_1270) (fun _ h9 => h9) e_names dX10_find_8 ?_
    refine lv_iload_n hx hb dX10_find_11 rfl (lv_at hl 2 rfl) ?_
    refine lv_iload_n hx hb dX10_find_12 rfl (lv_at hl 0 rfl) ?_
    refine lv_iadd hx hb dX10_find_13 ?_
    refine lv_topi (fun v6 ev6 => ?_)
    have bv6 : v6.toInt = p0.toInt + u1.toInt := by rw [ev6]; exact add_k rfl rfl i_p0 k4 (by decide)
    have k7 : 0 ≤ v6.toInt ∧ v6.toInt ≤ 41 := add_r bv6 i_p0 k4 (by decide)
    refine va_lald hx hb hK hP 1 1 rfl rfl (ix_i (by omega) (by omega)) dX10_find_14 ?_
    refine lv_topl (fun v8 ev8 => ?_)
    refine lv_aload_n hx hb dX10_find_15 rfl (lv_at hl 1 rfl) ?_
    refine get_f (D := D) (ci := 10) (v := .long x_word) (C := RX10) (T := TX10) (N := 67) hx hb hw inAX10 hown hK hP 0 rfl rfl 18 (by decide) (hw _ q_1279) (fun _ h9 => h9) e_word dX10_find_16 ?_
    refine W.lcmp hx hb dX10_find_19 ?_
    refine lv_topi (fun v9 ev9 => ?_)
    refine lv_if_ne (tgt := 25) hx hb dX10_find_20 (by decide) (fun c10 => ?_) (fun c10 => ?_)
    · have dc10 : v9.toInt ≠ 0 := ne_i (a := v9.toInt) (b := 0) rfl rfl c10
      obtain ⟨v11, ev11⟩ : ∃ z : Int32, z = u1 + 1 := ⟨_, rfl⟩
      have bv11 : v11.toInt = u1.toInt + 1 := by rw [ev11]; exact add_k rfl rfl k4 ⟨Int.le_refl _, Int.le_refl _⟩ (by decide)
      have k12 : 1 ≤ v11.toInt ∧ v11.toInt ≤ 12 := add_r bv11 k4 ⟨Int.le_refl _, Int.le_refl _⟩ (by decide)
      refine lv_iinc (v := v11) (lv' := [(3, .int v11), (0, .ref h0), (1, .int p0), (2, .int p1)]) hx hb dX10_find_25 hl (k := 0) rfl (by rw [ev11]; rfl) (by decide) rfl (fun ls hl => ?_)
      refine lv_goto (tgt := 2) hx hb dX10_find_28 (by decide) ?_
      exact ih (v11) (ir_wk k12 (by decide) (by decide)) (by show (12 - v11.toInt).toNat < (12 - u1.toInt).toNat; omega) _ _ _ hP hD hS (lv_sub hl [0, 1, 2, 3] rfl)
    · have dc10 : v9.toInt = 0 := eq_i (a := v9.toInt) (b := 0) rfl rfl c10
      have k13 : 0 ≤ v9.toInt ∧ v9.toInt ≤ 0 := ⟨Int.le_trans (Int.le_refl _) (Int.le_of_eq dc10.symm), Int.le_trans (Int.le_of_eq dc10) (Int.le_refl _)⟩
      refine lv_iload_n hx hb dX10_find_23 rfl (lv_at hl 0 rfl) ?_
      exact ret_i (v := u1) hx hb hr hlocks hS hP hD dX10_find_24 rfl (Nat.le_of_ble_eq_true rfl) (Nat.le_of_ble_eq_true rfl) (Or.inr ⟨k4, (by omega), rfl⟩)
set_option maxHeartbeats 4000000 in
set_option maxRecDepth 100000 in
theorem m_X10_fresh (l : Launch) (D : va_G) (cI cJ cB cP cM cZ : ClassId) (h0 : Nat) (h_tape : Nat) (h_h : Nat) (h_names : Nat) (h_reserved : Nat) (Fh : Nat → Value) (x_size : Int32) (x_p : Int32) (x_limit : Int32) (x_token : Int32) (x_at : Int32) (x_span : Int32) (x_number : Int32) (x_fault : Int32) (x_faultAt : Int32) (x_word : Int64) (f_tape : Nat → Int32) (f_h : Nat → Int32) (f_names : Nat → Int64) (f_reserved : Nat → Int64) (p0 : Int32) (sz : Nat) (e_tape : Fh 1 = .ref h_tape) (e_size : Fh 3 = .int x_size) (i_x_size : IR 0 940 x_size) (e_p : Fh 4 = .int x_p) (i_x_p : IR 0 940 x_p) (e_limit : Fh 5 = .int x_limit) (i_x_limit : IR 200 940 x_limit) (e_h : Fh 7 = .ref h_h) (e_names : Fh 9 = .ref h_names) (e_reserved : Fh 10 = .ref h_reserved) (e_token : Fh 11 = .int x_token) (i_x_token : IR 0 4 x_token) (e_at : Fh 12 = .int x_at) (e_span : Fh 13 = .int x_span) (e_number : Fh 14 = .int x_number) (e_fault : Fh 15 = .int x_fault) (e_faultAt : Fh 16 = .int x_faultAt) (e_word : Fh 18 = .long x_word) (s_h_0 : SG 0 0 0 40 f_h) (s_h_44 : SG 44 55 0 9 f_h) (s_h_5 : SG 5 5 0 12 f_h) (s_h_6 : SG 6 6 0 12 f_h) (s_h_7 : SG 7 7 0 6 f_h) (i_p0 : IR 0 35 p0) (o_0 : (x_token.toInt = 2 → 0 ≤ x_number.toInt ∧ x_number.toInt ≤ 999)) : CI l yX10_fresh cX10_fresh 2 (some .boolean) { frames := 2, cells := 0, slots := 0, locals := 43 } (GG D cI cJ cB cP cM cZ) D [(h0, .inr (10, vL 67 Fh)), (h_tape, .inl (cB, 940, .inl f_tape)), (h_h, .inl (cI, 104, .inl f_h)), (h_names, .inl (cJ, 36, .inr (.inl f_names))), (h_reserved, .inl (cJ, 23, .inr (.inl f_reserved)))] sz [.ref h0, .int p0] (fun (r : Int32) (u : va_W) => ∃ (Gh : Nat → Value) (y_p : Int32) (y_token : Int32) (y_at : Int32) (y_span : Int32) (y_number : Int32) (y_fault : Int32) (y_faultAt : Int32) (y_word : Int64) (g_names : Nat → Int64), SAME [4, 11, 12, 13, 14, 15, 16, 18] Fh Gh ∧ Gh 4 = .int y_p ∧ IR 0 940 y_p ∧ Gh 11 = .int y_token ∧ IR 0 4 y_token ∧ Gh 12 = .int y_at ∧ Gh 13 = .int y_span ∧ Gh 14 = .int y_number ∧ Gh 15 = .int y_fault ∧ Gh 16 = .int y_faultAt ∧ Gh 18 = .long y_word ∧ IR 0 1 r ∧ ((r.toInt = 1 → (x_p.toInt ≤ y_p.toInt ∧ (y_token.toInt = 3 → x_p.toInt < y_p.toInt)))) ∧ ((y_token.toInt = 2 → 0 ≤ y_number.toInt ∧ y_number.toInt ≤ 999)) ∧ u = [(h0, .inr (10, vL 67 Gh)), (h_tape, .inl (cB, 940, .inl f_tape)), (h_h, .inl (cI, 104, .inl f_h)), (h_names, .inl (cJ, 36, .inr (.inl g_names))), (h_reserved, .inl (cJ, 23, .inr (.inl f_reserved)))]) := by
  refine CI_mk (by decide) (Nat.le_of_ble_eq_true rfl) ?_
  intro p e s m below meth c A ls E hAe hG hsz hP hD hA hS hl
  obtain ⟨hx, hb, hr, hw, hown, hlocks, hml, hnm⟩ := E
  have hK := hG.1
  have i_x_size : 0 ≤ x_size.toInt ∧ x_size.toInt ≤ 940 := i_x_size
  have i_x_p : 0 ≤ x_p.toInt ∧ x_p.toInt ≤ 940 := i_x_p
  have i_x_limit : 200 ≤ x_limit.toInt ∧ x_limit.toInt ≤ 940 := i_x_limit
  have i_x_token : 0 ≤ x_token.toInt ∧ x_token.toInt ≤ 4 := i_x_token
  have i_p0 : 0 ≤ p0.toInt ∧ p0.toInt ≤ 35 := i_p0
  have hl : lv_has ls 2 [(0, .ref h0), (1, .int p0)] := hl
  refine lv_aload_n hx hb dX10_fresh_0 rfl (lv_at hl 0 rfl) ?_
  refine call_Vi (wr := [(h_tape, .inl (cB, 940, .inl f_tape)), (h_h, .inl (cI, 104, .inl f_h)), (h_names, .inl (cJ, 36, .inr (.inl f_names)))]) (As := []) (rest := []) hx hb hml hown hw (m_X10_isName l D cI cJ cB cP cM cZ h0 h_reserved Fh x_token x_number x_word f_reserved _ e_reserved e_token i_x_token e_number e_word (by omega)) wV_X10_218_X10_isName dX10_fresh_1 hK hP hD hS hA [0, 4] [1, 2, 3] rfl rfl (by decide) (by decide) (by decide) 0 10 rfl rfl GG.fb hG.at hl.1 rfl (Nat.le_of_ble_eq_true rfl) ⟨(Nat.le_of_ble_eq_true rfl), (Nat.le_of_ble_eq_true rfl)⟩ ⟨(Nat.le_of_ble_eq_true rfl), (Nat.le_of_ble_eq_true rfl)⟩ (fun r1 u H locs hp hP hD hS => ?_)
  obtain ⟨t2, rfl⟩ := hp
  have hP : va_P D vwCl [(h_tape, .inl (cB, 940, .inl f_tape)), (h_h, .inl (cI, 104, .inl f_h)), (h_names, .inl (cJ, 36, .inr (.inl f_names))), (h0, .inr (10, vL 67 Fh)), (h_reserved, .inl (cJ, 23, .inr (.inl f_reserved)))] H := hP
  have hD : va_D A [(h_tape, .inl (cB, 940, .inl f_tape)), (h_h, .inl (cI, 104, .inl f_h)), (h_names, .inl (cJ, 36, .inr (.inl f_names))), (h0, .inr (10, vL 67 Fh)), (h_reserved, .inl (cJ, 23, .inr (.inl f_reserved)))] := hD
  refine W.widen (k := 0) (n := 0) (Nat.le_of_ble_eq_true rfl) (Nat.le_of_ble_eq_true rfl) ?_
  refine lv_if_ne (tgt := 13) hx hb dX10_fresh_4 (by decide) (fun c4 => ?_) (fun c4 => ?_)
  · have dc4 : r1.toInt ≠ 0 := ne_i (a := r1.toInt) (b := 0) rfl rfl c4
    have k5 : 1 ≤ r1.toInt ∧ r1.toInt ≤ 1 := ⟨ne_lo dc4 t2.1 ⟨Int.le_refl _, Int.le_refl _⟩ (by decide), t2.2⟩
    refine lv_aload_n hx hb dX10_fresh_13 rfl (lv_at hl 0 rfl) ?_
    refine lv_bipush (v := 18) hx hb dX10_fresh_14 (by decide) ?_
    refine lv_aload_n hx hb dX10_fresh_16 rfl (lv_at hl 0 rfl) ?_
    refine get_f (D := D) (ci := 10) (v := .ref h_h) (C := RX10) (T := TX10) (N := 67) hx hb hw inAX10 hown hK hP 3 rfl rfl 7 (by decide) (hw _ q_1268) (fun _ h9 => h9) e_h dX10_fresh_17 ?_
    refine lv_iconst (v := 5) hx hb dX10_fresh_20 (by decide) ?_
    refine iald_n hx hb hK hP 1 0 rfl rfl 5 rfl (Nat.le_of_ble_eq_true rfl) (Nat.le_of_ble_eq_true rfl) rfl dX10_fresh_21 ?_
    refine lv_topi (fun v6 ev6 => ?_)
    have k7 : 0 ≤ v6.toInt ∧ v6.toInt ≤ 12 := by rw [ev6]; exact s_h_5.atN 5 (by decide) (by decide)
    refine call_Vi (wr := [(h_tape, .inl (cB, 940, .inl f_tape)), (h_h, .inl (cI, 104, .inl f_h)), (h_reserved, .inl (cJ, 23, .inr (.inl f_reserved)))]) (As := [.int 18, .int v6]) (rest := []) hx hb hml hown hw (m_X10_find l D cI cJ cB cP cM cZ h0 h_names Fh x_word f_names 18 v6 _ e_names e_word (show 0 ≤ (18 : Int32).toInt ∧ (18 : Int32).toInt ≤ 30 by decide) k7 (by have z0 : (18 : Int32).toInt = 18 := rfl; omega)) wV_X10_222_X10_find dX10_fresh_22 hK hP hD hS hA [3, 2] [0, 1, 4] rfl rfl (by decide) (by decide) (by decide) 0 10 rfl rfl GG.fb hG.at hl.1 rfl (Nat.le_of_ble_eq_true rfl) ⟨(Nat.le_of_ble_eq_true rfl), (Nat.le_of_ble_eq_true rfl)⟩ ⟨(Nat.le_of_ble_eq_true rfl), (Nat.le_of_ble_eq_true rfl)⟩ (fun r8 u H locs hp hP hD hS => ?_)
    have zl18 : (18 : Int32).toInt = 18 := by decide
    rcases hp with ⟨t9, rfl, rfl⟩ | ⟨t10, t11, rfl⟩
    · have hP : va_P D vwCl [(h_tape, .inl (cB, 940, .inl f_tape)), (h_h, .inl (cI, 104, .inl f_h)), (h_reserved, .inl (cJ, 23, .inr (.inl f_reserved))), (h0, .inr (10, vL 67 Fh)), (h_names, .inl (cJ, 36, .inr (.inl f_names)))] H := hP
      have hD : va_D A [(h_tape, .inl (cB, 940, .inl f_tape)), (h_h, .inl (cI, 104, .inl f_h)), (h_reserved, .inl (cJ, 23, .inr (.inl f_reserved))), (h0, .inr (10, vL 67 Fh)), (h_names, .inl (cJ, 36, .inr (.inl f_names)))] := hD
      refine W.widen (k := 0) (n := 0) (Nat.le_of_ble_eq_true rfl) (Nat.le_of_ble_eq_true rfl) ?_
      refine lv_if_ge (tgt := 44) hx hb dX10_fresh_25 (by decide) (fun g => absurd g (by decide)) (fun _ => ?_)
      refine lv_aload_n hx hb dX10_fresh_28 rfl (lv_at hl 0 rfl) ?_
      refine lv_bipush (v := 30) hx hb dX10_fresh_29 (by decide) ?_
      refine lv_aload_n hx hb dX10_fresh_31 rfl (lv_at hl 0 rfl) ?_
      refine get_f (D := D) (ci := 10) (v := .ref h_h) (C := RX10) (T := TX10) (N := 67) hx hb hw inAX10 hown hK hP 3 rfl rfl 7 (by decide) (hw _ q_1268) (fun _ h9 => h9) e_h dX10_fresh_32 ?_
      refine lv_bipush (v := 7) hx hb dX10_fresh_35 (by decide) ?_
      refine iald_n hx hb hK hP 1 0 rfl rfl 7 rfl (Nat.le_of_ble_eq_true rfl) (Nat.le_of_ble_eq_true rfl) rfl dX10_fresh_37 ?_
      refine lv_topi (fun v13 ev13 => ?_)
      have k14 : 0 ≤ v13.toInt ∧ v13.toInt ≤ 6 := by rw [ev13]; exact s_h_7.atN 7 (by decide) (by decide)
      refine call_Vi (wr := [(h_tape, .inl (cB, 940, .inl f_tape)), (h_h, .inl (cI, 104, .inl f_h)), (h_reserved, .inl (cJ, 23, .inr (.inl f_reserved)))]) (As := [.int 30, .int v13]) (rest := []) hx hb hml hown hw (m_X10_find l D cI cJ cB cP cM cZ h0 h_names Fh x_word f_names 30 v13 _ e_names e_word (show 0 ≤ (30 : Int32).toInt ∧ (30 : Int32).toInt ≤ 30 by decide) (ir_wk k14 (by decide) (by decide)) (by have z0 : (30 : Int32).toInt = 30 := rfl; omega)) wV_X10_222_X10_find dX10_fresh_38 hK hP hD hS hA [3, 4] [0, 1, 2] rfl rfl (by decide) (by decide) (by decide) 0 10 rfl rfl GG.fb hG.at hl.1 rfl (Nat.le_of_ble_eq_true rfl) ⟨(Nat.le_of_ble_eq_true rfl), (Nat.le_of_ble_eq_true rfl)⟩ ⟨(Nat.le_of_ble_eq_true rfl), (Nat.le_of_ble_eq_true rfl)⟩ (fun r15 u H locs hp hP hD hS => ?_)
      have zl30 : (30 : Int32).toInt = 30 := by decide
      rcases hp with ⟨t16, rfl, rfl⟩ | ⟨t17, t18, rfl⟩
      · have hP : va_P D vwCl [(h_tape, .inl (cB, 940, .inl f_tape)), (h_h, .inl (cI, 104, .inl f_h)), (h_reserved, .inl (cJ, 23, .inr (.inl f_reserved))), (h0, .inr (10, vL 67 Fh)), (h_names, .inl (cJ, 36, .inr (.inl f_names)))] H := hP
        have hD : va_D A [(h_tape, .inl (cB, 940, .inl f_tape)), (h_h, .inl (cI, 104, .inl f_h)), (h_reserved, .inl (cJ, 23, .inr (.inl f_reserved))), (h0, .inr (10, vL 67 Fh)), (h_names, .inl (cJ, 36, .inr (.inl f_names)))] := hD
        refine W.widen (k := 0) (n := 0) (Nat.le_of_ble_eq_true rfl) (Nat.le_of_ble_eq_true rfl) ?_
        refine lv_if_lt (tgt := 50) hx hb dX10_fresh_41 (by decide) (fun _ => ?_) (fun g => absurd (by decide) g)
        refine lv_aload_n hx hb dX10_fresh_50 rfl (lv_at hl 0 rfl) ?_
        refine get_f (D := D) (ci := 10) (v := .ref h_names) (C := RX10) (T := TX10) (N := 67) hx hb hw inAX10 hown hK hP 3 rfl rfl 9 (by decide) (hw _ q_1270) (fun _ h9 => h9) e_names dX10_fresh_51 ?_
        refine lv_iload_n hx hb dX10_fresh_54 rfl (lv_at hl 1 rfl) ?_
        refine lv_aload_n hx hb dX10_fresh_55 rfl (lv_at hl 0 rfl) ?_
        refine get_f (D := D) (ci := 10) (v := .long x_word) (C := RX10) (T := TX10) (N := 67) hx hb hw inAX10 hown hK hP 3 rfl rfl 18 (by decide) (hw _ q_1279) (fun _ h9 => h9) e_word dX10_fresh_56 ?_
        obtain ⟨g20, eg20⟩ : ∃ z : Nat → Int64, vp_updL f_names p0.toNatClampNeg x_word = z := ⟨_, rfl⟩
        refine last_g hx hb hK hP hD hS 4 1 rfl rfl (ix_k i_p0 (by decide) (by decide)) eg20 dX10_fresh_59 (fun H locs hP hD hS => ?_)
        have hP : va_P D vwCl [(h_tape, .inl (cB, 940, .inl f_tape)), (h_h, .inl (cI, 104, .inl f_h)), (h_reserved, .inl (cJ, 23, .inr (.inl f_reserved))), (h0, .inr (10, vL 67 Fh)), (h_names, .inl (cJ, 36, .inr (.inl g20)))] H := hP
        have hD : va_D A [(h_tape, .inl (cB, 940, .inl f_tape)), (h_h, .inl (cI, 104, .inl f_h)), (h_reserved, .inl (cJ, 23, .inr (.inl f_reserved))), (h0, .inr (10, vL 67 Fh)), (h_names, .inl (cJ, 36, .inr (.inl g20)))] := hD
        refine lv_aload_n hx hb dX10_fresh_60 rfl (lv_at hl 0 rfl) ?_
        refine call_Vv (wr := [(h_h, .inl (cI, 104, .inl f_h)), (h_reserved, .inl (cJ, 23, .inr (.inl f_reserved))), (h_names, .inl (cJ, 36, .inr (.inl g20)))]) (As := []) (rest := []) hx hb hml hown hw (m_X10_next l D cI cJ cB cP cM cZ h0 h_tape Fh x_size x_p x_limit x_token x_number x_word f_tape _ e_tape e_size i_x_size e_p i_x_p e_limit i_x_limit e_token i_x_token e_number e_word (by omega)) wV_X10_208_X10_next dX10_fresh_61 hK hP hD hS hA [3, 0] [1, 2, 4] rfl rfl (by decide) (by decide) (by decide) 0 10 rfl rfl GG.fb hG.at hl.1 rfl (Nat.le_of_ble_eq_true rfl) ⟨(Nat.le_of_ble_eq_true rfl), (Nat.le_of_ble_eq_true rfl)⟩ ⟨(Nat.le_of_ble_eq_true rfl), (Nat.le_of_ble_eq_true rfl)⟩ (fun u H locs hp hP hD hS => ?_)
        obtain ⟨F22, y23, y24, y25, y26, y27, y28, t29, t30, t31, t32, t33, t34, t35, t36, t37, t38, t39, t40, t41, t42, rfl⟩ := hp
        have hP : va_P D vwCl [(h_h, .inl (cI, 104, .inl f_h)), (h_reserved, .inl (cJ, 23, .inr (.inl f_reserved))), (h_names, .inl (cJ, 36, .inr (.inl g20))), (h0, .inr (10, vL 67 F22)), (h_tape, .inl (cB, 940, .inl f_tape))] H := hP
        have hD : va_D A [(h_h, .inl (cI, 104, .inl f_h)), (h_reserved, .inl (cJ, 23, .inr (.inl f_reserved))), (h_names, .inl (cJ, 36, .inr (.inl g20))), (h0, .inr (10, vL 67 F22)), (h_tape, .inl (cB, 940, .inl f_tape))] := hD
        refine W.widen (k := 0) (n := 0) (Nat.le_of_ble_eq_true rfl) (Nat.le_of_ble_eq_true rfl) ?_
        refine lv_iconst (v := 1) hx hb dX10_fresh_64 (by decide) ?_
        exact ret_i (v := 1) hx hb hr hlocks hS (hP.sub (ws' := [(h0, .inr (10, vL 67 F22)), (h_tape, .inl (cB, 940, .inl f_tape)), (h_h, .inl (cI, 104, .inl f_h)), (h_names, .inl (cJ, 36, .inr (.inl g20))), (h_reserved, .inl (cJ, 23, .inr (.inl f_reserved)))]) [3, 4, 0, 2, 1] rfl) (hD.sub (ws' := [(h0, .inr (10, vL 67 F22)), (h_tape, .inl (cB, 940, .inl f_tape)), (h_h, .inl (cI, 104, .inl f_h)), (h_names, .inl (cJ, 36, .inr (.inl g20))), (h_reserved, .inl (cJ, 23, .inr (.inl f_reserved)))]) [3, 4, 0, 2, 1] (by decide) rfl) dX10_fresh_65 rfl (Nat.le_of_ble_eq_true rfl) (Nat.le_of_ble_eq_true rfl) ⟨F22, y23, y24, y25, y26, y27, x_fault, x_faultAt, y28, g20, (SAME.tr SAME.rf t29 (by decide)), t30, t31, t32, t33, t34, t36, t38, (SAME.at t29 (by decide) e_fault), (SAME.at t29 (by decide) e_faultAt), t39, (show 0 ≤ (1 : Int32).toInt ∧ (1 : Int32).toInt ≤ 1 by decide), (by have zl1 : (1 : Int32).toInt = 1 := (by decide); omega), (by omega), rfl⟩
      · have hP : va_P D vwCl [(h_tape, .inl (cB, 940, .inl f_tape)), (h_h, .inl (cI, 104, .inl f_h)), (h_reserved, .inl (cJ, 23, .inr (.inl f_reserved))), (h0, .inr (10, vL 67 Fh)), (h_names, .inl (cJ, 36, .inr (.inl f_names)))] H := hP
        have hD : va_D A [(h_tape, .inl (cB, 940, .inl f_tape)), (h_h, .inl (cI, 104, .inl f_h)), (h_reserved, .inl (cJ, 23, .inr (.inl f_reserved))), (h0, .inr (10, vL 67 Fh)), (h_names, .inl (cJ, 36, .inr (.inl f_names)))] := hD
        refine W.widen (k := 0) (n := 0) (Nat.le_of_ble_eq_true rfl) (Nat.le_of_ble_eq_true rfl) ?_
        have k44 : 1 ≤ v13.toInt ∧ v13.toInt ≤ 6 := ⟨lo_lt t18 (Int.le_refl _) (by decide), k14.2⟩
        refine lv_if_lt (tgt := 50) hx hb dX10_fresh_41 (by decide) (fun c45 => False.elim (bad_lt (lt_i (a := r15.toInt) (b := 0) rfl rfl c45) t17.1 (Int.le_refl _) (by decide))) (fun c45 => ?_)
        have dc45 : 0 ≤ r15.toInt := nlt_i (a := r15.toInt) (b := 0) rfl rfl c45
        refine lv_aload_n hx hb dX10_fresh_44 rfl (lv_at hl 0 rfl) ?_
        refine lv_iconst (v := 3) hx hb dX10_fresh_45 (by decide) ?_
        refine call_Vi (wr := [(h_tape, .inl (cB, 940, .inl f_tape)), (h_h, .inl (cI, 104, .inl f_h)), (h_reserved, .inl (cJ, 23, .inr (.inl f_reserved))), (h_names, .inl (cJ, 36, .inr (.inl f_names)))]) (As := [.int 3]) (rest := []) hx hb hml hown hw (m_X10_bad l D cI cJ cB cP cM cZ h0 Fh x_at 3 _ e_at) wV_X10_205_X10_bad dX10_fresh_46 hK hP hD hS hA [3] [0, 1, 2, 4] rfl rfl (by decide) (by decide) (by decide) 0 10 rfl rfl GG.fb hG.at hl.1 rfl (Nat.le_of_ble_eq_true rfl) ⟨(Nat.le_of_ble_eq_true rfl), (Nat.le_of_ble_eq_true rfl)⟩ ⟨(Nat.le_of_ble_eq_true rfl), (Nat.le_of_ble_eq_true rfl)⟩ (fun r46 u H locs hp hP hD hS => ?_)
        have zl3 : (3 : Int32).toInt = 3 := by decide
        obtain ⟨F47, t48, t49, t50, rfl, rfl⟩ := hp
        have hP : va_P D vwCl [(h_tape, .inl (cB, 940, .inl f_tape)), (h_h, .inl (cI, 104, .inl f_h)), (h_reserved, .inl (cJ, 23, .inr (.inl f_reserved))), (h_names, .inl (cJ, 36, .inr (.inl f_names))), (h0, .inr (10, vL 67 F47))] H := hP
        have hD : va_D A [(h_tape, .inl (cB, 940, .inl f_tape)), (h_h, .inl (cI, 104, .inl f_h)), (h_reserved, .inl (cJ, 23, .inr (.inl f_reserved))), (h_names, .inl (cJ, 36, .inr (.inl f_names))), (h0, .inr (10, vL 67 F47))] := hD
        refine W.widen (k := 0) (n := 0) (Nat.le_of_ble_eq_true rfl) (Nat.le_of_ble_eq_true rfl) ?_
        exact ret_i (v := 0) hx hb hr hlocks hS (hP.sub (ws' := [(h0, .inr (10, vL 67 F47)), (h_tape, .inl (cB, 940, .inl f_tape)), (h_h, .inl (cI, 104, .inl f_h)), (h_names, .inl (cJ, 36, .inr (.inl f_names))), (h_reserved, .inl (cJ, 23, .inr (.inl f_reserved)))]) [4, 0, 1, 3, 2] rfl) (hD.sub (ws' := [(h0, .inr (10, vL 67 F47)), (h_tape, .inl (cB, 940, .inl f_tape)), (h_h, .inl (cI, 104, .inl f_h)), (h_names, .inl (cJ, 36, .inr (.inl f_names))), (h_reserved, .inl (cJ, 23, .inr (.inl f_reserved)))]) [4, 0, 1, 3, 2] (by decide) rfl) dX10_fresh_49 rfl (Nat.le_of_ble_eq_true rfl) (Nat.le_of_ble_eq_true rfl) ⟨F47, x_p, x_token, x_at, x_span, x_number, 3, x_at, x_word, f_names, (SAME.tr SAME.rf t48 (by decide)), (SAME.at t48 (by decide) e_p), i_x_p, (SAME.at t48 (by decide) e_token), i_x_token, (SAME.at t48 (by decide) e_at), (SAME.at t48 (by decide) e_span), (SAME.at t48 (by decide) e_number), t49, t50, (SAME.at t48 (by decide) e_word), (show 0 ≤ (0 : Int32).toInt ∧ (0 : Int32).toInt ≤ 1 by decide), (by have zl0 : (0 : Int32).toInt = 0 := (by decide); have zl1 : (1 : Int32).toInt = 1 := (by decide); omega), (by have zl3 : (3 : Int32).toInt = 3 := (by decide); omega), rfl⟩
    · have hP : va_P D vwCl [(h_tape, .inl (cB, 940, .inl f_tape)), (h_h, .inl (cI, 104, .inl f_h)), (h_reserved, .inl (cJ, 23, .inr (.inl f_reserved))), (h0, .inr (10, vL 67 Fh)), (h_names, .inl (cJ, 36, .inr (.inl f_names)))] H := hP
      have hD : va_D A [(h_tape, .inl (cB, 940, .inl f_tape)), (h_h, .inl (cI, 104, .inl f_h)), (h_reserved, .inl (cJ, 23, .inr (.inl f_reserved))), (h0, .inr (10, vL 67 Fh)), (h_names, .inl (cJ, 36, .inr (.inl f_names)))] := hD
      refine W.widen (k := 0) (n := 0) (Nat.le_of_ble_eq_true rfl) (Nat.le_of_ble_eq_true rfl) ?_
      have k52 : 1 ≤ v6.toInt ∧ v6.toInt ≤ 12 := ⟨lo_lt t11 (Int.le_refl _) (by decide), k7.2⟩
      refine lv_if_ge (tgt := 44) hx hb dX10_fresh_25 (by decide) (fun c53 => ?_) (fun c53 => False.elim (bad_lt (nle_i (a := 0) (b := r8.toInt) rfl rfl c53) t10.1 (Int.le_refl _) (by decide)))
      have dc53 : 0 ≤ r8.toInt := le_i (a := 0) (b := r8.toInt) rfl rfl c53
      refine lv_aload_n hx hb dX10_fresh_44 rfl (lv_at hl 0 rfl) ?_
      refine lv_iconst (v := 3) hx hb dX10_fresh_45 (by decide) ?_
      refine call_Vi (wr := [(h_tape, .inl (cB, 940, .inl f_tape)), (h_h, .inl (cI, 104, .inl f_h)), (h_reserved, .inl (cJ, 23, .inr (.inl f_reserved))), (h_names, .inl (cJ, 36, .inr (.inl f_names)))]) (As := [.int 3]) (rest := []) hx hb hml hown hw (m_X10_bad l D cI cJ cB cP cM cZ h0 Fh x_at 3 _ e_at) wV_X10_205_X10_bad dX10_fresh_46 hK hP hD hS hA [3] [0, 1, 2, 4] rfl rfl (by decide) (by decide) (by decide) 0 10 rfl rfl GG.fb hG.at hl.1 rfl (Nat.le_of_ble_eq_true rfl) ⟨(Nat.le_of_ble_eq_true rfl), (Nat.le_of_ble_eq_true rfl)⟩ ⟨(Nat.le_of_ble_eq_true rfl), (Nat.le_of_ble_eq_true rfl)⟩ (fun r54 u H locs hp hP hD hS => ?_)
      have zl3 : (3 : Int32).toInt = 3 := by decide
      obtain ⟨F55, t56, t57, t58, rfl, rfl⟩ := hp
      have hP : va_P D vwCl [(h_tape, .inl (cB, 940, .inl f_tape)), (h_h, .inl (cI, 104, .inl f_h)), (h_reserved, .inl (cJ, 23, .inr (.inl f_reserved))), (h_names, .inl (cJ, 36, .inr (.inl f_names))), (h0, .inr (10, vL 67 F55))] H := hP
      have hD : va_D A [(h_tape, .inl (cB, 940, .inl f_tape)), (h_h, .inl (cI, 104, .inl f_h)), (h_reserved, .inl (cJ, 23, .inr (.inl f_reserved))), (h_names, .inl (cJ, 36, .inr (.inl f_names))), (h0, .inr (10, vL 67 F55))] := hD
      refine W.widen (k := 0) (n := 0) (Nat.le_of_ble_eq_true rfl) (Nat.le_of_ble_eq_true rfl) ?_
      exact ret_i (v := 0) hx hb hr hlocks hS (hP.sub (ws' := [(h0, .inr (10, vL 67 F55)), (h_tape, .inl (cB, 940, .inl f_tape)), (h_h, .inl (cI, 104, .inl f_h)), (h_names, .inl (cJ, 36, .inr (.inl f_names))), (h_reserved, .inl (cJ, 23, .inr (.inl f_reserved)))]) [4, 0, 1, 3, 2] rfl) (hD.sub (ws' := [(h0, .inr (10, vL 67 F55)), (h_tape, .inl (cB, 940, .inl f_tape)), (h_h, .inl (cI, 104, .inl f_h)), (h_names, .inl (cJ, 36, .inr (.inl f_names))), (h_reserved, .inl (cJ, 23, .inr (.inl f_reserved)))]) [4, 0, 1, 3, 2] (by decide) rfl) dX10_fresh_49 rfl (Nat.le_of_ble_eq_true rfl) (Nat.le_of_ble_eq_true rfl) ⟨F55, x_p, x_token, x_at, x_span, x_number, 3, x_at, x_word, f_names, (SAME.tr SAME.rf t56 (by decide)), (SAME.at t56 (by decide) e_p), i_x_p, (SAME.at t56 (by decide) e_token), i_x_token, (SAME.at t56 (by decide) e_at), (SAME.at t56 (by decide) e_span), (SAME.at t56 (by decide) e_number), t57, t58, (SAME.at t56 (by decide) e_word), (show 0 ≤ (0 : Int32).toInt ∧ (0 : Int32).toInt ≤ 1 by decide), (by have zl0 : (0 : Int32).toInt = 0 := (by decide); have zl1 : (1 : Int32).toInt = 1 := (by decide); omega), (by have zl3 : (3 : Int32).toInt = 3 := (by decide); omega), rfl⟩
  · have dc4 : r1.toInt = 0 := eq_i (a := r1.toInt) (b := 0) rfl rfl c4
    have k60 : 0 ≤ r1.toInt ∧ r1.toInt ≤ 0 := ⟨t2.1, Int.le_trans (Int.le_of_eq dc4) (Int.le_refl _)⟩
    refine lv_aload_n hx hb dX10_fresh_7 rfl (lv_at hl 0 rfl) ?_
    refine lv_iconst (v := 1) hx hb dX10_fresh_8 (by decide) ?_
    refine call_Vi (wr := [(h_tape, .inl (cB, 940, .inl f_tape)), (h_h, .inl (cI, 104, .inl f_h)), (h_names, .inl (cJ, 36, .inr (.inl f_names))), (h_reserved, .inl (cJ, 23, .inr (.inl f_reserved)))]) (As := [.int 1]) (rest := []) hx hb hml hown hw (m_X10_bad l D cI cJ cB cP cM cZ h0 Fh x_at 1 _ e_at) wV_X10_205_X10_bad dX10_fresh_9 hK hP hD hS hA [3] [0, 1, 2, 4] rfl rfl (by decide) (by decide) (by decide) 0 10 rfl rfl GG.fb hG.at hl.1 rfl (Nat.le_of_ble_eq_true rfl) ⟨(Nat.le_of_ble_eq_true rfl), (Nat.le_of_ble_eq_true rfl)⟩ ⟨(Nat.le_of_ble_eq_true rfl), (Nat.le_of_ble_eq_true rfl)⟩ (fun r61 u H locs hp hP hD hS => ?_)
    have zl1 : (1 : Int32).toInt = 1 := by decide
    obtain ⟨F62, t63, t64, t65, rfl, rfl⟩ := hp
    have hP : va_P D vwCl [(h_tape, .inl (cB, 940, .inl f_tape)), (h_h, .inl (cI, 104, .inl f_h)), (h_names, .inl (cJ, 36, .inr (.inl f_names))), (h_reserved, .inl (cJ, 23, .inr (.inl f_reserved))), (h0, .inr (10, vL 67 F62))] H := hP
    have hD : va_D A [(h_tape, .inl (cB, 940, .inl f_tape)), (h_h, .inl (cI, 104, .inl f_h)), (h_names, .inl (cJ, 36, .inr (.inl f_names))), (h_reserved, .inl (cJ, 23, .inr (.inl f_reserved))), (h0, .inr (10, vL 67 F62))] := hD
    refine W.widen (k := 0) (n := 0) (Nat.le_of_ble_eq_true rfl) (Nat.le_of_ble_eq_true rfl) ?_
    exact ret_i (v := 0) hx hb hr hlocks hS (hP.sub (ws' := [(h0, .inr (10, vL 67 F62)), (h_tape, .inl (cB, 940, .inl f_tape)), (h_h, .inl (cI, 104, .inl f_h)), (h_names, .inl (cJ, 36, .inr (.inl f_names))), (h_reserved, .inl (cJ, 23, .inr (.inl f_reserved)))]) [4, 0, 1, 2, 3] rfl) (hD.sub (ws' := [(h0, .inr (10, vL 67 F62)), (h_tape, .inl (cB, 940, .inl f_tape)), (h_h, .inl (cI, 104, .inl f_h)), (h_names, .inl (cJ, 36, .inr (.inl f_names))), (h_reserved, .inl (cJ, 23, .inr (.inl f_reserved)))]) [4, 0, 1, 2, 3] (by decide) rfl) dX10_fresh_12 rfl (Nat.le_of_ble_eq_true rfl) (Nat.le_of_ble_eq_true rfl) ⟨F62, x_p, x_token, x_at, x_span, x_number, 1, x_at, x_word, f_names, (SAME.tr SAME.rf t63 (by decide)), (SAME.at t63 (by decide) e_p), i_x_p, (SAME.at t63 (by decide) e_token), i_x_token, (SAME.at t63 (by decide) e_at), (SAME.at t63 (by decide) e_span), (SAME.at t63 (by decide) e_number), t64, t65, (SAME.at t63 (by decide) e_word), (show 0 ≤ (0 : Int32).toInt ∧ (0 : Int32).toInt ≤ 1 by decide), (by have zl0 : (0 : Int32).toInt = 0 := (by decide); have zl1 : (1 : Int32).toInt = 1 := (by decide); omega), (by have zl1 : (1 : Int32).toInt = 1 := (by decide); omega), rfl⟩
set_option maxHeartbeats 4000000 in
set_option maxRecDepth 100000 in
theorem m_X10_onceOf (l : Launch) (D : va_G) (cI cJ cB cP cM cZ : ClassId) (h0 : Nat) (Fh : Nat → Value) (x_token : Int32) (x_number : Int32) (x_word : Int64) (sz : Nat) (e_token : Fh 11 = .int x_token) (i_x_token : IR 0 4 x_token) (e_number : Fh 14 = .int x_number) (e_word : Fh 18 = .long x_word) (o_0 : (x_token.toInt = 2 → 0 ≤ x_number.toInt ∧ x_number.toInt ≤ 999)) : CI l yX10_onceOf cX10_onceOf 1 (some .int) { frames := 1, cells := 0, slots := 0, locals := 22 } (GG D cI cJ cB cP cM cZ) D [(h0, .inr (10, vL 67 Fh))] sz [.ref h0] (fun (r : Int32) (u : va_W) => IR (-1) 4 r ∧ u = [(h0, .inr (10, vL 67 Fh))]) := by
  refine CI_mk (by decide) (Nat.le_of_ble_eq_true rfl) ?_
  intro p e s m below meth c A ls E hAe hG hsz hP hD hA hS hl
  obtain ⟨hx, hb, hr, hw, hown, hlocks, hml, hnm⟩ := E
  have hK := hG.1
  have i_x_token : 0 ≤ x_token.toInt ∧ x_token.toInt ≤ 4 := i_x_token
  have hl : lv_has ls 1 [(0, .ref h0)] := hl
  refine lv_aload_n hx hb dX10_onceOf_0 rfl (lv_at hl 0 rfl) ?_
  refine lv_ldc2 hx hb hown (hw _ q_1234) dX10_onceOf_1 ?_
  refine call_Vi (wr := []) (As := [.long 521325929587]) (rest := []) hx hb hml hown hw (m_X10_isWord l D cI cJ cB cP cM cZ h0 Fh x_token x_number x_word 521325929587 _ e_token i_x_token e_number e_word (by omega)) wV_X10_225_X10_isWord dX10_onceOf_4 hK hP hD hS hA [0] [] rfl rfl (by decide) (by decide) (by decide) 0 10 rfl rfl GG.fb hG.at hl.1 rfl (Nat.le_of_ble_eq_true rfl) ⟨(Nat.le_of_ble_eq_true rfl), (Nat.le_of_ble_eq_true rfl)⟩ ⟨(Nat.le_of_ble_eq_true rfl), (Nat.le_of_ble_eq_true rfl)⟩ (fun r1 u H locs hp hP hD hS => ?_)
  have zl521325929587 : (521325929587 : Int32).toInt = 521325929587 := by decide
  obtain ⟨t2, t3, rfl⟩ := hp
  have hP : va_P D vwCl [(h0, .inr (10, vL 67 Fh))] H := hP
  have hD : va_D A [(h0, .inr (10, vL 67 Fh))] := hD
  refine W.widen (k := 0) (n := 0) (Nat.le_of_ble_eq_true rfl) (Nat.le_of_ble_eq_true rfl) ?_
  refine lv_if_eq (tgt := 14) hx hb dX10_onceOf_7 (by decide) (fun c5 => ?_) (fun c5 => ?_)
  · have dc5 : r1.toInt = 0 := eq_i (a := r1.toInt) (b := 0) rfl rfl c5
    have k6 : 0 ≤ r1.toInt ∧ r1.toInt ≤ 0 := ⟨t2.1, Int.le_trans (Int.le_of_eq dc5) (Int.le_refl _)⟩
    refine lv_aload_n hx hb dX10_onceOf_14 rfl (lv_at hl 0 rfl) ?_
    refine lv_ldc2 hx hb hown (hw _ q_1235) dX10_onceOf_15 ?_
    refine call_Vi (wr := []) (As := [.long 126909394741093]) (rest := []) hx hb hml hown hw (m_X10_isWord l D cI cJ cB cP cM cZ h0 Fh x_token x_number x_word 126909394741093 _ e_token i_x_token e_number e_word (by omega)) wV_X10_225_X10_isWord dX10_onceOf_18 hK hP hD hS hA [0] [] rfl rfl (by decide) (by decide) (by decide) 0 10 rfl rfl GG.fb hG.at hl.1 rfl (Nat.le_of_ble_eq_true rfl) ⟨(Nat.le_of_ble_eq_true rfl), (Nat.le_of_ble_eq_true rfl)⟩ ⟨(Nat.le_of_ble_eq_true rfl), (Nat.le_of_ble_eq_true rfl)⟩ (fun r7 u H locs hp hP hD hS => ?_)
    have zl126909394741093 : (126909394741093 : Int32).toInt = 126909394741093 := by decide
    obtain ⟨t8, t9, rfl⟩ := hp
    have hP : va_P D vwCl [(h0, .inr (10, vL 67 Fh))] H := hP
    have hD : va_D A [(h0, .inr (10, vL 67 Fh))] := hD
    refine W.widen (k := 0) (n := 0) (Nat.le_of_ble_eq_true rfl) (Nat.le_of_ble_eq_true rfl) ?_
    refine lv_if_eq (tgt := 28) hx hb dX10_onceOf_21 (by decide) (fun c11 => ?_) (fun c11 => ?_)
    · have dc11 : r7.toInt = 0 := eq_i (a := r7.toInt) (b := 0) rfl rfl c11
      have k12 : 0 ≤ r7.toInt ∧ r7.toInt ≤ 0 := ⟨t8.1, Int.le_trans (Int.le_of_eq dc11) (Int.le_refl _)⟩
      refine lv_aload_n hx hb dX10_onceOf_28 rfl (lv_at hl 0 rfl) ?_
      refine lv_ldc2 hx hb hown (hw _ q_1236) dX10_onceOf_29 ?_
      refine call_Vi (wr := []) (As := [.long 1836020596]) (rest := []) hx hb hml hown hw (m_X10_isWord l D cI cJ cB cP cM cZ h0 Fh x_token x_number x_word 1836020596 _ e_token i_x_token e_number e_word (by omega)) wV_X10_225_X10_isWord dX10_onceOf_32 hK hP hD hS hA [0] [] rfl rfl (by decide) (by decide) (by decide) 0 10 rfl rfl GG.fb hG.at hl.1 rfl (Nat.le_of_ble_eq_true rfl) ⟨(Nat.le_of_ble_eq_true rfl), (Nat.le_of_ble_eq_true rfl)⟩ ⟨(Nat.le_of_ble_eq_true rfl), (Nat.le_of_ble_eq_true rfl)⟩ (fun r13 u H locs hp hP hD hS => ?_)
      have zl1836020596 : (1836020596 : Int32).toInt = 1836020596 := by decide
      obtain ⟨t14, t15, rfl⟩ := hp
      have hP : va_P D vwCl [(h0, .inr (10, vL 67 Fh))] H := hP
      have hD : va_D A [(h0, .inr (10, vL 67 Fh))] := hD
      refine W.widen (k := 0) (n := 0) (Nat.le_of_ble_eq_true rfl) (Nat.le_of_ble_eq_true rfl) ?_
      refine lv_if_eq (tgt := 42) hx hb dX10_onceOf_35 (by decide) (fun c17 => ?_) (fun c17 => ?_)
      · have dc17 : r13.toInt = 0 := eq_i (a := r13.toInt) (b := 0) rfl rfl c17
        have k18 : 0 ≤ r13.toInt ∧ r13.toInt ≤ 0 := ⟨t14.1, Int.le_trans (Int.le_of_eq dc17) (Int.le_refl _)⟩
        refine lv_aload_n hx hb dX10_onceOf_42 rfl (lv_at hl 0 rfl) ?_
        refine lv_ldc2 hx hb hown (hw _ q_1237) dX10_onceOf_43 ?_
        refine call_Vi (wr := []) (As := [.long 6906725]) (rest := []) hx hb hml hown hw (m_X10_isWord l D cI cJ cB cP cM cZ h0 Fh x_token x_number x_word 6906725 _ e_token i_x_token e_number e_word (by omega)) wV_X10_225_X10_isWord dX10_onceOf_46 hK hP hD hS hA [0] [] rfl rfl (by decide) (by decide) (by decide) 0 10 rfl rfl GG.fb hG.at hl.1 rfl (Nat.le_of_ble_eq_true rfl) ⟨(Nat.le_of_ble_eq_true rfl), (Nat.le_of_ble_eq_true rfl)⟩ ⟨(Nat.le_of_ble_eq_true rfl), (Nat.le_of_ble_eq_true rfl)⟩ (fun r19 u H locs hp hP hD hS => ?_)
        have zl6906725 : (6906725 : Int32).toInt = 6906725 := by decide
        obtain ⟨t20, t21, rfl⟩ := hp
        have hP : va_P D vwCl [(h0, .inr (10, vL 67 Fh))] H := hP
        have hD : va_D A [(h0, .inr (10, vL 67 Fh))] := hD
        refine W.widen (k := 0) (n := 0) (Nat.le_of_ble_eq_true rfl) (Nat.le_of_ble_eq_true rfl) ?_
        refine lv_if_eq (tgt := 56) hx hb dX10_onceOf_49 (by decide) (fun c23 => ?_) (fun c23 => ?_)
        · have dc23 : r19.toInt = 0 := eq_i (a := r19.toInt) (b := 0) rfl rfl c23
          have k24 : 0 ≤ r19.toInt ∧ r19.toInt ≤ 0 := ⟨t20.1, Int.le_trans (Int.le_of_eq dc23) (Int.le_refl _)⟩
          refine lv_aload_n hx hb dX10_onceOf_56 rfl (lv_at hl 0 rfl) ?_
          refine lv_ldc2 hx hb hown (hw _ q_1238) dX10_onceOf_57 ?_
          refine call_Vi (wr := []) (As := [.long 2002874989]) (rest := []) hx hb hml hown hw (m_X10_isWord l D cI cJ cB cP cM cZ h0 Fh x_token x_number x_word 2002874989 _ e_token i_x_token e_number e_word (by omega)) wV_X10_225_X10_isWord dX10_onceOf_60 hK hP hD hS hA [0] [] rfl rfl (by decide) (by decide) (by decide) 0 10 rfl rfl GG.fb hG.at hl.1 rfl (Nat.le_of_ble_eq_true rfl) ⟨(Nat.le_of_ble_eq_true rfl), (Nat.le_of_ble_eq_true rfl)⟩ ⟨(Nat.le_of_ble_eq_true rfl), (Nat.le_of_ble_eq_true rfl)⟩ (fun r25 u H locs hp hP hD hS => ?_)
          have zl2002874989 : (2002874989 : Int32).toInt = 2002874989 := by decide
          obtain ⟨t26, t27, rfl⟩ := hp
          have hP : va_P D vwCl [(h0, .inr (10, vL 67 Fh))] H := hP
          have hD : va_D A [(h0, .inr (10, vL 67 Fh))] := hD
          refine W.widen (k := 0) (n := 0) (Nat.le_of_ble_eq_true rfl) (Nat.le_of_ble_eq_true rfl) ?_
          refine lv_if_eq (tgt := 70) hx hb dX10_onceOf_63 (by decide) (fun c29 => ?_) (fun c29 => ?_)
          · have dc29 : r25.toInt = 0 := eq_i (a := r25.toInt) (b := 0) rfl rfl c29
            have k30 : 0 ≤ r25.toInt ∧ r25.toInt ≤ 0 := ⟨t26.1, Int.le_trans (Int.le_of_eq dc29) (Int.le_refl _)⟩
            refine lv_iconst (v := (-1)) hx hb dX10_onceOf_70 (by decide) ?_
            exact ret_i (v := (-1)) hx hb hr hlocks hS hP hD dX10_onceOf_71 rfl (Nat.le_of_ble_eq_true rfl) (Nat.le_of_ble_eq_true rfl) ⟨(show (-1) ≤ ((-1) : Int32).toInt ∧ ((-1) : Int32).toInt ≤ 4 by decide), rfl⟩
          · have dc29 : r25.toInt ≠ 0 := ne_i (a := r25.toInt) (b := 0) rfl rfl c29
            have k31 : 1 ≤ r25.toInt ∧ r25.toInt ≤ 1 := ⟨ne_lo dc29 t26.1 ⟨Int.le_refl _, Int.le_refl _⟩ (by decide), t26.2⟩
            refine lv_iconst (v := 4) hx hb dX10_onceOf_66 (by decide) ?_
            refine lv_goto (tgt := 71) hx hb dX10_onceOf_67 (by decide) ?_
            exact ret_i (v := 4) hx hb hr hlocks hS hP hD dX10_onceOf_71 rfl (Nat.le_of_ble_eq_true rfl) (Nat.le_of_ble_eq_true rfl) ⟨(show (-1) ≤ (4 : Int32).toInt ∧ (4 : Int32).toInt ≤ 4 by decide), rfl⟩
        · have dc23 : r19.toInt ≠ 0 := ne_i (a := r19.toInt) (b := 0) rfl rfl c23
          have k32 : 1 ≤ r19.toInt ∧ r19.toInt ≤ 1 := ⟨ne_lo dc23 t20.1 ⟨Int.le_refl _, Int.le_refl _⟩ (by decide), t20.2⟩
          refine lv_iconst (v := 3) hx hb dX10_onceOf_52 (by decide) ?_
          refine lv_goto (tgt := 71) hx hb dX10_onceOf_53 (by decide) ?_
          exact ret_i (v := 3) hx hb hr hlocks hS hP hD dX10_onceOf_71 rfl (Nat.le_of_ble_eq_true rfl) (Nat.le_of_ble_eq_true rfl) ⟨(show (-1) ≤ (3 : Int32).toInt ∧ (3 : Int32).toInt ≤ 4 by decide), rfl⟩
      · have dc17 : r13.toInt ≠ 0 := ne_i (a := r13.toInt) (b := 0) rfl rfl c17
        have k33 : 1 ≤ r13.toInt ∧ r13.toInt ≤ 1 := ⟨ne_lo dc17 t14.1 ⟨Int.le_refl _, Int.le_refl _⟩ (by decide), t14.2⟩
        refine lv_iconst (v := 2) hx hb dX10_onceOf_38 (by decide) ?_
        refine lv_goto (tgt := 71) hx hb dX10_onceOf_39 (by decide) ?_
        exact ret_i (v := 2) hx hb hr hlocks hS hP hD dX10_onceOf_71 rfl (Nat.le_of_ble_eq_true rfl) (Nat.le_of_ble_eq_true rfl) ⟨(show (-1) ≤ (2 : Int32).toInt ∧ (2 : Int32).toInt ≤ 4 by decide), rfl⟩
    · have dc11 : r7.toInt ≠ 0 := ne_i (a := r7.toInt) (b := 0) rfl rfl c11
      have k34 : 1 ≤ r7.toInt ∧ r7.toInt ≤ 1 := ⟨ne_lo dc11 t8.1 ⟨Int.le_refl _, Int.le_refl _⟩ (by decide), t8.2⟩
      refine lv_iconst (v := 1) hx hb dX10_onceOf_24 (by decide) ?_
      refine lv_goto (tgt := 71) hx hb dX10_onceOf_25 (by decide) ?_
      exact ret_i (v := 1) hx hb hr hlocks hS hP hD dX10_onceOf_71 rfl (Nat.le_of_ble_eq_true rfl) (Nat.le_of_ble_eq_true rfl) ⟨(show (-1) ≤ (1 : Int32).toInt ∧ (1 : Int32).toInt ≤ 4 by decide), rfl⟩
  · have dc5 : r1.toInt ≠ 0 := ne_i (a := r1.toInt) (b := 0) rfl rfl c5
    have k35 : 1 ≤ r1.toInt ∧ r1.toInt ≤ 1 := ⟨ne_lo dc5 t2.1 ⟨Int.le_refl _, Int.le_refl _⟩ (by decide), t2.2⟩
    refine lv_iconst (v := 0) hx hb dX10_onceOf_10 (by decide) ?_
    refine lv_goto (tgt := 71) hx hb dX10_onceOf_11 (by decide) ?_
    exact ret_i (v := 0) hx hb hr hlocks hS hP hD dX10_onceOf_71 rfl (Nat.le_of_ble_eq_true rfl) (Nat.le_of_ble_eq_true rfl) ⟨(show (-1) ≤ (0 : Int32).toInt ∧ (0 : Int32).toInt ≤ 4 by decide), rfl⟩
set_option maxHeartbeats 4000000 in
set_option maxRecDepth 100000 in
theorem m_X10_isOnce (l : Launch) (D : va_G) (cI cJ cB cP cM cZ : ClassId) (h0 : Nat) (h_tape : Nat) (Fh : Nat → Value) (x_size : Int32) (x_p : Int32) (x_limit : Int32) (x_token : Int32) (x_at : Int32) (x_span : Int32) (x_number : Int32) (x_fault : Int32) (x_faultAt : Int32) (x_word : Int64) (x_onces : Int32) (f_tape : Nat → Int32) (p0 : Int32) (sz : Nat) (e_tape : Fh 1 = .ref h_tape) (e_size : Fh 3 = .int x_size) (i_x_size : IR 0 940 x_size) (e_p : Fh 4 = .int x_p) (i_x_p : IR 0 940 x_p) (e_limit : Fh 5 = .int x_limit) (i_x_limit : IR 200 940 x_limit) (e_token : Fh 11 = .int x_token) (i_x_token : IR 0 4 x_token) (e_at : Fh 12 = .int x_at) (e_span : Fh 13 = .int x_span) (e_number : Fh 14 = .int x_number) (e_fault : Fh 15 = .int x_fault) (e_faultAt : Fh 16 = .int x_faultAt) (e_word : Fh 18 = .long x_word) (e_onces : Fh 21 = .int x_onces) (o_0 : (x_token.toInt = 2 → 0 ≤ x_number.toInt ∧ x_number.toInt ≤ 999)) : CI l yX10_isOnce cX10_isOnce 2 (some .boolean) { frames := 2, cells := 0, slots := 0, locals := 43 } (GG D cI cJ cB cP cM cZ) D [(h0, .inr (10, vL 67 Fh)), (h_tape, .inl (cB, 940, .inl f_tape))] sz [.ref h0, .int p0] (fun (r : Int32) (u : va_W) => ∃ (Gh : Nat → Value) (y_p : Int32) (y_token : Int32) (y_at : Int32) (y_span : Int32) (y_number : Int32) (y_fault : Int32) (y_faultAt : Int32) (y_word : Int64) (y_onces : Int32), SAME [4, 11, 12, 13, 14, 15, 16, 18, 21] Fh Gh ∧ Gh 4 = .int y_p ∧ IR 0 940 y_p ∧ Gh 11 = .int y_token ∧ IR 0 4 y_token ∧ Gh 12 = .int y_at ∧ Gh 13 = .int y_span ∧ Gh 14 = .int y_number ∧ Gh 15 = .int y_fault ∧ Gh 16 = .int y_faultAt ∧ Gh 18 = .long y_word ∧ Gh 21 = .int y_onces ∧ IR 0 1 r ∧ ((r.toInt = 1 → (x_p.toInt ≤ y_p.toInt ∧ (y_token.toInt = 3 → x_p.toInt < y_p.toInt)))) ∧ ((y_token.toInt = 2 → 0 ≤ y_number.toInt ∧ y_number.toInt ≤ 999)) ∧ u = [(h0, .inr (10, vL 67 Gh)), (h_tape, .inl (cB, 940, .inl f_tape))]) := by
  refine CI_mk (by decide) (Nat.le_of_ble_eq_true rfl) ?_
  intro p e s m below meth c A ls E hAe hG hsz hP hD hA hS hl
  obtain ⟨hx, hb, hr, hw, hown, hlocks, hml, hnm⟩ := E
  have hK := hG.1
  have i_x_size : 0 ≤ x_size.toInt ∧ x_size.toInt ≤ 940 := i_x_size
  have i_x_p : 0 ≤ x_p.toInt ∧ x_p.toInt ≤ 940 := i_x_p
  have i_x_limit : 200 ≤ x_limit.toInt ∧ x_limit.toInt ≤ 940 := i_x_limit
  have i_x_token : 0 ≤ x_token.toInt ∧ x_token.toInt ≤ 4 := i_x_token
  have hl : lv_has ls 2 [(0, .ref h0), (1, .int p0)] := hl
  refine lv_aload_n hx hb dX10_isOnce_0 rfl (lv_at hl 0 rfl) ?_
  refine get_f (D := D) (ci := 10) (v := .int x_onces) (C := RX10) (T := TX10) (N := 67) hx hb hw inAX10 hown hK hP 0 rfl rfl 21 (by decide) (hw _ q_1282) (fun _ h9 => h9) e_onces dX10_isOnce_1 ?_
  refine lv_iload_n hx hb dX10_isOnce_4 rfl (lv_at hl 1 rfl) ?_
  refine call_Si (wr := [(h0, .inr (10, vL 67 Fh)), (h_tape, .inl (cB, 940, .inl f_tape))]) (As := [.int x_onces, .int p0]) (rest := []) hx hb hml hown hw (m_X10_bitOf l D cI cJ cB cP cM cZ x_onces p0 _ ) wS_X10_232_X10_bitOf dX10_isOnce_5 hP hD hS hA [] [0, 1] rfl rfl (by decide) (by decide) (by decide) GG.fb hG.at hl.1 rfl (Nat.le_of_ble_eq_true rfl) ⟨(Nat.le_of_ble_eq_true rfl), (Nat.le_of_ble_eq_true rfl)⟩ ⟨(Nat.le_of_ble_eq_true rfl), (Nat.le_of_ble_eq_true rfl)⟩ (fun r1 u H locs hp hP hD hS => ?_)
  rcases hp with ⟨rfl, rfl⟩ | ⟨rfl, rfl⟩
  · have hP : va_P D vwCl [(h0, .inr (10, vL 67 Fh)), (h_tape, .inl (cB, 940, .inl f_tape))] H := hP
    have hD : va_D A [(h0, .inr (10, vL 67 Fh)), (h_tape, .inl (cB, 940, .inl f_tape))] := hD
    refine W.widen (k := 0) (n := 0) (Nat.le_of_ble_eq_true rfl) (Nat.le_of_ble_eq_true rfl) ?_
    refine lv_if_eq (tgt := 17) hx hb dX10_isOnce_8 (by decide) (fun _ => ?_) (fun g => absurd (by decide) g)
    refine lv_aload_n hx hb dX10_isOnce_17 rfl (lv_at hl 0 rfl) ?_
    refine lv_dup hx hb dX10_isOnce_18 rfl ?_
    refine get_f (D := D) (ci := 10) (v := .int x_onces) (C := RX10) (T := TX10) (N := 67) hx hb hw inAX10 hown hK hP 0 rfl rfl 21 (by decide) (hw _ q_1282) (fun _ h9 => h9) e_onces dX10_isOnce_19 ?_
    refine lv_iconst (v := 1) hx hb dX10_isOnce_22 (by decide) ?_
    refine lv_iload_n hx hb dX10_isOnce_23 rfl (lv_at hl 1 rfl) ?_
    refine lv_ishl hx hb dX10_isOnce_24 ?_
    refine lv_topi (fun v3 ev3 => ?_)
    refine lv_ior hx hb dX10_isOnce_25 ?_
    refine lv_topi (fun v4 ev4 => ?_)
    refine put_f (D := D) (ci := 10) (v := .int v4) (ty := .int) (C := RX10) (T := TX10) (N := 67) hx hb hw inAX10 tyX10 tyX10_ok nmX10 hown hK hP hD hS 0 rfl rfl 21 (by decide) (hw _ q_1282) (fun _ h9 => h9) rfl (by decide +kernel) rfl rfl dX10_isOnce_26 (fun H locs F5 eF5 hP hD hS => ?_)
    have hP : va_P D vwCl [(h0, .inr (10, vL 67 F5)), (h_tape, .inl (cB, 940, .inl f_tape))] H := hP
    have hD : va_D A [(h0, .inr (10, vL 67 F5)), (h_tape, .inl (cB, 940, .inl f_tape))] := hD
    refine lv_aload_n hx hb dX10_isOnce_29 rfl (lv_at hl 0 rfl) ?_
    have n6 : F5 1 = .ref h_tape := (get_ne eF5 (by decide) e_tape)
    have n7 : F5 3 = .int x_size := (get_ne eF5 (by decide) e_size)
    have n8 : F5 4 = .int x_p := (get_ne eF5 (by decide) e_p)
    have n9 : F5 5 = .int x_limit := (get_ne eF5 (by decide) e_limit)
    have n10 : F5 11 = .int x_token := (get_ne eF5 (by decide) e_token)
    have n11 : F5 14 = .int x_number := (get_ne eF5 (by decide) e_number)
    have n12 : F5 18 = .long x_word := (get_ne eF5 (by decide) e_word)
    refine call_Vv (wr := []) (As := []) (rest := []) hx hb hml hown hw (m_X10_next l D cI cJ cB cP cM cZ h0 h_tape F5 x_size x_p x_limit x_token x_number x_word f_tape _ n6 n7 i_x_size n8 i_x_p n9 i_x_limit n10 i_x_token n11 n12 (by omega)) wV_X10_208_X10_next dX10_isOnce_30 hK hP hD hS hA [0, 1] [] rfl rfl (by decide) (by decide) (by decide) 0 10 rfl rfl GG.fb hG.at hl.1 rfl (Nat.le_of_ble_eq_true rfl) ⟨(Nat.le_of_ble_eq_true rfl), (Nat.le_of_ble_eq_true rfl)⟩ ⟨(Nat.le_of_ble_eq_true rfl), (Nat.le_of_ble_eq_true rfl)⟩ (fun u H locs hp hP hD hS => ?_)
    obtain ⟨F14, y15, y16, y17, y18, y19, y20, t21, t22, t23, t24, t25, t26, t27, t28, t29, t30, t31, t32, t33, t34, rfl⟩ := hp
    have hP : va_P D vwCl [(h0, .inr (10, vL 67 F14)), (h_tape, .inl (cB, 940, .inl f_tape))] H := hP
    have hD : va_D A [(h0, .inr (10, vL 67 F14)), (h_tape, .inl (cB, 940, .inl f_tape))] := hD
    refine W.widen (k := 0) (n := 0) (Nat.le_of_ble_eq_true rfl) (Nat.le_of_ble_eq_true rfl) ?_
    refine lv_iconst (v := 1) hx hb dX10_isOnce_33 (by decide) ?_
    exact ret_i (v := 1) hx hb hr hlocks hS hP hD dX10_isOnce_34 rfl (Nat.le_of_ble_eq_true rfl) (Nat.le_of_ble_eq_true rfl) ⟨F14, y15, y16, y17, y18, y19, x_fault, x_faultAt, y20, v4, (SAME.tr (SAME.up eF5 SAME.rf (by decide)) t21 (by decide)), t22, t23, t24, t25, t26, t28, t30, (SAME.at t21 (by decide) (get_ne eF5 (by decide) e_fault)), (SAME.at t21 (by decide) (get_ne eF5 (by decide) e_faultAt)), t31, (SAME.at t21 (by decide) (get_eq eF5)), (show 0 ≤ (1 : Int32).toInt ∧ (1 : Int32).toInt ≤ 1 by decide), (by have zl1 : (1 : Int32).toInt = 1 := (by decide); have zl3 : (3 : Int32).toInt = 3 := (by decide); omega), (by omega), rfl⟩
  · have hP : va_P D vwCl [(h0, .inr (10, vL 67 Fh)), (h_tape, .inl (cB, 940, .inl f_tape))] H := hP
    have hD : va_D A [(h0, .inr (10, vL 67 Fh)), (h_tape, .inl (cB, 940, .inl f_tape))] := hD
    refine W.widen (k := 0) (n := 0) (Nat.le_of_ble_eq_true rfl) (Nat.le_of_ble_eq_true rfl) ?_
    refine lv_if_eq (tgt := 17) hx hb dX10_isOnce_8 (by decide) (fun g => absurd g (by decide)) (fun _ => ?_)
    refine lv_aload_n hx hb dX10_isOnce_11 rfl (lv_at hl 0 rfl) ?_
    refine lv_iconst (v := 3) hx hb dX10_isOnce_12 (by decide) ?_
    refine call_Vi (wr := [(h_tape, .inl (cB, 940, .inl f_tape))]) (As := [.int 3]) (rest := []) hx hb hml hown hw (m_X10_bad l D cI cJ cB cP cM cZ h0 Fh x_at 3 _ e_at) wV_X10_205_X10_bad dX10_isOnce_13 hK hP hD hS hA [0] [1] rfl rfl (by decide) (by decide) (by decide) 0 10 rfl rfl GG.fb hG.at hl.1 rfl (Nat.le_of_ble_eq_true rfl) ⟨(Nat.le_of_ble_eq_true rfl), (Nat.le_of_ble_eq_true rfl)⟩ ⟨(Nat.le_of_ble_eq_true rfl), (Nat.le_of_ble_eq_true rfl)⟩ (fun r36 u H locs hp hP hD hS => ?_)
    have zl3 : (3 : Int32).toInt = 3 := by decide
    obtain ⟨F37, t38, t39, t40, rfl, rfl⟩ := hp
    have hP : va_P D vwCl [(h_tape, .inl (cB, 940, .inl f_tape)), (h0, .inr (10, vL 67 F37))] H := hP
    have hD : va_D A [(h_tape, .inl (cB, 940, .inl f_tape)), (h0, .inr (10, vL 67 F37))] := hD
    refine W.widen (k := 0) (n := 0) (Nat.le_of_ble_eq_true rfl) (Nat.le_of_ble_eq_true rfl) ?_
    exact ret_i (v := 0) hx hb hr hlocks hS (hP.sub (ws' := [(h0, .inr (10, vL 67 F37)), (h_tape, .inl (cB, 940, .inl f_tape))]) [1, 0] rfl) (hD.sub (ws' := [(h0, .inr (10, vL 67 F37)), (h_tape, .inl (cB, 940, .inl f_tape))]) [1, 0] (by decide) rfl) dX10_isOnce_16 rfl (Nat.le_of_ble_eq_true rfl) (Nat.le_of_ble_eq_true rfl) ⟨F37, x_p, x_token, x_at, x_span, x_number, 3, x_at, x_word, x_onces, (SAME.tr SAME.rf t38 (by decide)), (SAME.at t38 (by decide) e_p), i_x_p, (SAME.at t38 (by decide) e_token), i_x_token, (SAME.at t38 (by decide) e_at), (SAME.at t38 (by decide) e_span), (SAME.at t38 (by decide) e_number), t39, t40, (SAME.at t38 (by decide) e_word), (SAME.at t38 (by decide) e_onces), (show 0 ≤ (0 : Int32).toInt ∧ (0 : Int32).toInt ≤ 1 by decide), (by have zl0 : (0 : Int32).toInt = 0 := (by decide); have zl3 : (3 : Int32).toInt = 3 := (by decide); omega), (by have zl3 : (3 : Int32).toInt = 3 := (by decide); omega), rfl⟩
set_option maxHeartbeats 4000000 in
set_option maxRecDepth 100000 in
theorem m_X10_line0 (l : Launch) (D : va_G) (cI cJ cB cP cM cZ : ClassId) (h0 : Nat) (h_tape : Nat) (h_h : Nat) (h_names : Nat) (h_reserved : Nat) (Fh : Nat → Value) (x_size : Int32) (x_p : Int32) (x_limit : Int32) (x_token : Int32) (x_at : Int32) (x_span : Int32) (x_number : Int32) (x_fault : Int32) (x_faultAt : Int32) (x_word : Int64) (x_got : Int32) (x_onces : Int32) (f_tape : Nat → Int32) (f_h : Nat → Int32) (f_names : Nat → Int64) (f_reserved : Nat → Int64) (sz : Nat) (e_tape : Fh 1 = .ref h_tape) (e_size : Fh 3 = .int x_size) (i_x_size : IR 0 940 x_size) (e_p : Fh 4 = .int x_p) (i_x_p : IR 0 940 x_p) (e_limit : Fh 5 = .int x_limit) (i_x_limit : IR 200 940 x_limit) (e_h : Fh 7 = .ref h_h) (e_names : Fh 9 = .ref h_names) (e_reserved : Fh 10 = .ref h_reserved) (e_token : Fh 11 = .int x_token) (i_x_token : IR 0 4 x_token) (e_at : Fh 12 = .int x_at) (e_span : Fh 13 = .int x_span) (e_number : Fh 14 = .int x_number) (e_fault : Fh 15 = .int x_fault) (e_faultAt : Fh 16 = .int x_faultAt) (e_word : Fh 18 = .long x_word) (e_got : Fh 19 = .int x_got) (e_onces : Fh 21 = .int x_onces) (s_h_0 : SG 0 0 0 40 f_h) (s_h_44 : SG 44 55 0 9 f_h) (s_h_5 : SG 5 5 0 12 f_h) (s_h_6 : SG 6 6 0 12 f_h) (s_h_7 : SG 7 7 0 6 f_h) (o_0 : (x_token.toInt = 2 → 0 ≤ x_number.toInt ∧ x_number.toInt ≤ 999)) : CI l yX10_line0 cX10_line0 3 (some .boolean) { frames := 3, cells := 0, slots := 0, locals := 65 } (GG D cI cJ cB cP cM cZ) D [(h0, .inr (10, vL 67 Fh)), (h_tape, .inl (cB, 940, .inl f_tape)), (h_h, .inl (cI, 104, .inl f_h)), (h_names, .inl (cJ, 36, .inr (.inl f_names))), (h_reserved, .inl (cJ, 23, .inr (.inl f_reserved)))] sz [.ref h0] (fun (r : Int32) (u : va_W) => ∃ (Gh : Nat → Value) (y_p : Int32) (y_token : Int32) (y_at : Int32) (y_span : Int32) (y_number : Int32) (y_fault : Int32) (y_faultAt : Int32) (y_word : Int64) (y_got : Int32) (y_onces : Int32) (g_h : Nat → Int32) (g_names : Nat → Int64), SAME [4, 11, 12, 13, 14, 15, 16, 18, 19, 21] Fh Gh ∧ Gh 4 = .int y_p ∧ IR 0 940 y_p ∧ Gh 11 = .int y_token ∧ IR 0 4 y_token ∧ Gh 12 = .int y_at ∧ Gh 13 = .int y_span ∧ Gh 14 = .int y_number ∧ Gh 15 = .int y_fault ∧ Gh 16 = .int y_faultAt ∧ Gh 18 = .long y_word ∧ Gh 19 = .int y_got ∧ Gh 21 = .int y_onces ∧ SG 0 0 0 40 g_h ∧ SG 5 5 0 12 g_h ∧ SG 6 6 0 12 g_h ∧ SG 7 7 0 6 g_h ∧ SG 44 55 0 9 g_h ∧ IR 0 1 r ∧ ((r.toInt = 1 → (x_p.toInt ≤ y_p.toInt ∧ (y_token.toInt = 3 → x_p.toInt < y_p.toInt)))) ∧ ((y_token.toInt = 2 → 0 ≤ y_number.toInt ∧ y_number.toInt ≤ 999)) ∧ u = [(h0, .inr (10, vL 67 Gh)), (h_tape, .inl (cB, 940, .inl f_tape)), (h_h, .inl (cI, 104, .inl g_h)), (h_names, .inl (cJ, 36, .inr (.inl g_names))), (h_reserved, .inl (cJ, 23, .inr (.inl f_reserved)))]) := by
  refine CI_mk (by decide) (Nat.le_of_ble_eq_true rfl) ?_
  intro p e s m below meth c A ls E hAe hG hsz hP hD hA hS hl
  obtain ⟨hx, hb, hr, hw, hown, hlocks, hml, hnm⟩ := E
  have hK := hG.1
  have i_x_size : 0 ≤ x_size.toInt ∧ x_size.toInt ≤ 940 := i_x_size
  have i_x_p : 0 ≤ x_p.toInt ∧ x_p.toInt ≤ 940 := i_x_p
  have i_x_limit : 200 ≤ x_limit.toInt ∧ x_limit.toInt ≤ 940 := i_x_limit
  have i_x_token : 0 ≤ x_token.toInt ∧ x_token.toInt ≤ 4 := i_x_token
  have hl : lv_has ls 3 [(0, .ref h0)] := hl
  refine lv_aload_n hx hb dX10_line0_0 rfl (lv_at hl 0 rfl) ?_
  refine call_Vi (wr := [(h_tape, .inl (cB, 940, .inl f_tape)), (h_h, .inl (cI, 104, .inl f_h)), (h_names, .inl (cJ, 36, .inr (.inl f_names))), (h_reserved, .inl (cJ, 23, .inr (.inl f_reserved)))]) (As := []) (rest := []) hx hb hml hown hw (m_X10_onceOf l D cI cJ cB cP cM cZ h0 Fh x_token x_number x_word _ e_token i_x_token e_number e_word (by omega)) wV_X10_236_X10_onceOf dX10_line0_1 hK hP hD hS hA [0] [1, 2, 3, 4] rfl rfl (by decide) (by decide) (by decide) 0 10 rfl rfl GG.fb hG.at hl.1 rfl (Nat.le_of_ble_eq_true rfl) ⟨(Nat.le_of_ble_eq_true rfl), (Nat.le_of_ble_eq_true rfl)⟩ ⟨(Nat.le_of_ble_eq_true rfl), (Nat.le_of_ble_eq_true rfl)⟩ (fun r1 u H locs hp hP hD hS => ?_)
  obtain ⟨t2, rfl⟩ := hp
  have hP : va_P D vwCl [(h_tape, .inl (cB, 940, .inl f_tape)), (h_h, .inl (cI, 104, .inl f_h)), (h_names, .inl (cJ, 36, .inr (.inl f_names))), (h_reserved, .inl (cJ, 23, .inr (.inl f_reserved))), (h0, .inr (10, vL 67 Fh))] H := hP
  have hD : va_D A [(h_tape, .inl (cB, 940, .inl f_tape)), (h_h, .inl (cI, 104, .inl f_h)), (h_names, .inl (cJ, 36, .inr (.inl f_names))), (h_reserved, .inl (cJ, 23, .inr (.inl f_reserved))), (h0, .inr (10, vL 67 Fh))] := hD
  refine W.widen (k := 0) (n := 0) (Nat.le_of_ble_eq_true rfl) (Nat.le_of_ble_eq_true rfl) ?_
  refine lv_istore_n (lv' := [(1, .int r1), (0, .ref h0)]) hx hb dX10_line0_4 rfl hl (by decide) rfl (fun ls hl => ?_)
  refine lv_iload_n hx hb dX10_line0_5 rfl (lv_at hl 0 rfl) ?_
  refine lv_if_lt (tgt := 113) hx hb dX10_line0_6 (by decide) (fun c4 => ?_) (fun c4 => ?_)
  · have dc4 : r1.toInt < 0 := lt_i (a := r1.toInt) (b := 0) rfl rfl c4
    have k5 : (-1) ≤ r1.toInt ∧ r1.toInt ≤ (-1) := ⟨t2.1, up_lt dc4 (Int.le_refl _) (by decide)⟩
    refine lv_aload_n hx hb dX10_line0_113 rfl (lv_at hl 1 rfl) ?_
    refine lv_ldc2 hx hb hown (hw _ q_1239) dX10_line0_114 ?_
    refine call_Vi (wr := [(h_tape, .inl (cB, 940, .inl f_tape)), (h_h, .inl (cI, 104, .inl f_h)), (h_names, .inl (cJ, 36, .inr (.inl f_names))), (h_reserved, .inl (cJ, 23, .inr (.inl f_reserved)))]) (As := [.long 7168366]) (rest := []) hx hb hml hown hw (m_X10_isWord l D cI cJ cB cP cM cZ h0 Fh x_token x_number x_word 7168366 _ e_token i_x_token e_number e_word (by omega)) wV_X10_225_X10_isWord dX10_line0_117 hK hP hD hS hA [4] [0, 1, 2, 3] rfl rfl (by decide) (by decide) (by decide) 0 10 rfl rfl GG.fb hG.at hl.1 rfl (Nat.le_of_ble_eq_true rfl) ⟨(Nat.le_of_ble_eq_true rfl), (Nat.le_of_ble_eq_true rfl)⟩ ⟨(Nat.le_of_ble_eq_true rfl), (Nat.le_of_ble_eq_true rfl)⟩ (fun r6 u H locs hp hP hD hS => ?_)
    have zl7168366 : (7168366 : Int32).toInt = 7168366 := by decide
    obtain ⟨t7, t8, rfl⟩ := hp
    have hP : va_P D vwCl [(h_tape, .inl (cB, 940, .inl f_tape)), (h_h, .inl (cI, 104, .inl f_h)), (h_names, .inl (cJ, 36, .inr (.inl f_names))), (h_reserved, .inl (cJ, 23, .inr (.inl f_reserved))), (h0, .inr (10, vL 67 Fh))] H := hP
    have hD : va_D A [(h_tape, .inl (cB, 940, .inl f_tape)), (h_h, .inl (cI, 104, .inl f_h)), (h_names, .inl (cJ, 36, .inr (.inl f_names))), (h_reserved, .inl (cJ, 23, .inr (.inl f_reserved))), (h0, .inr (10, vL 67 Fh))] := hD
    refine W.widen (k := 0) (n := 0) (Nat.le_of_ble_eq_true rfl) (Nat.le_of_ble_eq_true rfl) ?_
    refine lv_if_eq (tgt := 248) hx hb dX10_line0_120 (by decide) (fun c10 => ?_) (fun c10 => ?_)
    · have dc10 : r6.toInt = 0 := eq_i (a := r6.toInt) (b := 0) rfl rfl c10
      have k11 : 0 ≤ r6.toInt ∧ r6.toInt ≤ 0 := ⟨t7.1, Int.le_trans (Int.le_of_eq dc10) (Int.le_refl _)⟩
      refine lv_aload_n hx hb dX10_line0_248 rfl (lv_at hl 1 rfl) ?_
      refine lv_ldc2 hx hb hown (hw _ q_1240) dX10_line0_249 ?_
      refine call_Vi (wr := [(h_tape, .inl (cB, 940, .inl f_tape)), (h_h, .inl (cI, 104, .inl f_h)), (h_names, .inl (cJ, 36, .inr (.inl f_names))), (h_reserved, .inl (cJ, 23, .inr (.inl f_reserved)))]) (As := [.long 1650814564]) (rest := []) hx hb hml hown hw (m_X10_isWord l D cI cJ cB cP cM cZ h0 Fh x_token x_number x_word 1650814564 _ e_token i_x_token e_number e_word (by omega)) wV_X10_225_X10_isWord dX10_line0_252 hK hP hD hS hA [4] [0, 1, 2, 3] rfl rfl (by decide) (by decide) (by decide) 0 10 rfl rfl GG.fb hG.at hl.1 rfl (Nat.le_of_ble_eq_true rfl) ⟨(Nat.le_of_ble_eq_true rfl), (Nat.le_of_ble_eq_true rfl)⟩ ⟨(Nat.le_of_ble_eq_true rfl), (Nat.le_of_ble_eq_true rfl)⟩ (fun r12 u H locs hp hP hD hS => ?_)
      have zl1650814564 : (1650814564 : Int32).toInt = 1650814564 := by decide
      obtain ⟨t13, t14, rfl⟩ := hp
      have hP : va_P D vwCl [(h_tape, .inl (cB, 940, .inl f_tape)), (h_h, .inl (cI, 104, .inl f_h)), (h_names, .inl (cJ, 36, .inr (.inl f_names))), (h_reserved, .inl (cJ, 23, .inr (.inl f_reserved))), (h0, .inr (10, vL 67 Fh))] H := hP
      have hD : va_D A [(h_tape, .inl (cB, 940, .inl f_tape)), (h_h, .inl (cI, 104, .inl f_h)), (h_names, .inl (cJ, 36, .inr (.inl f_names))), (h_reserved, .inl (cJ, 23, .inr (.inl f_reserved))), (h0, .inr (10, vL 67 Fh))] := hD
      refine W.widen (k := 0) (n := 0) (Nat.le_of_ble_eq_true rfl) (Nat.le_of_ble_eq_true rfl) ?_
      refine lv_if_eq (tgt := 395) hx hb dX10_line0_255 (by decide) (fun c16 => ?_) (fun c16 => ?_)
      · have dc16 : r12.toInt = 0 := eq_i (a := r12.toInt) (b := 0) rfl rfl c16
        have k17 : 0 ≤ r12.toInt ∧ r12.toInt ≤ 0 := ⟨t13.1, Int.le_trans (Int.le_of_eq dc16) (Int.le_refl _)⟩
        refine lv_aload_n hx hb dX10_line0_395 rfl (lv_at hl 1 rfl) ?_
        refine lv_ldc2 hx hb hown (hw _ q_1241) dX10_line0_396 ?_
        refine call_Vi (wr := [(h_tape, .inl (cB, 940, .inl f_tape)), (h_h, .inl (cI, 104, .inl f_h)), (h_names, .inl (cJ, 36, .inr (.inl f_names))), (h_reserved, .inl (cJ, 23, .inr (.inl f_reserved)))]) (As := [.long 125848689468786]) (rest := []) hx hb hml hown hw (m_X10_isWord l D cI cJ cB cP cM cZ h0 Fh x_token x_number x_word 125848689468786 _ e_token i_x_token e_number e_word (by omega)) wV_X10_225_X10_isWord dX10_line0_399 hK hP hD hS hA [4] [0, 1, 2, 3] rfl rfl (by decide) (by decide) (by decide) 0 10 rfl rfl GG.fb hG.at hl.1 rfl (Nat.le_of_ble_eq_true rfl) ⟨(Nat.le_of_ble_eq_true rfl), (Nat.le_of_ble_eq_true rfl)⟩ ⟨(Nat.le_of_ble_eq_true rfl), (Nat.le_of_ble_eq_true rfl)⟩ (fun r18 u H locs hp hP hD hS => ?_)
        have zl125848689468786 : (125848689468786 : Int32).toInt = 125848689468786 := by decide
        obtain ⟨t19, t20, rfl⟩ := hp
        have hP : va_P D vwCl [(h_tape, .inl (cB, 940, .inl f_tape)), (h_h, .inl (cI, 104, .inl f_h)), (h_names, .inl (cJ, 36, .inr (.inl f_names))), (h_reserved, .inl (cJ, 23, .inr (.inl f_reserved))), (h0, .inr (10, vL 67 Fh))] H := hP
        have hD : va_D A [(h_tape, .inl (cB, 940, .inl f_tape)), (h_h, .inl (cI, 104, .inl f_h)), (h_names, .inl (cJ, 36, .inr (.inl f_names))), (h_reserved, .inl (cJ, 23, .inr (.inl f_reserved))), (h0, .inr (10, vL 67 Fh))] := hD
        refine W.widen (k := 0) (n := 0) (Nat.le_of_ble_eq_true rfl) (Nat.le_of_ble_eq_true rfl) ?_
        refine lv_if_ne (tgt := 411) hx hb dX10_line0_402 (by decide) (fun c22 => ?_) (fun c22 => ?_)
        · have dc22 : r18.toInt ≠ 0 := ne_i (a := r18.toInt) (b := 0) rfl rfl c22
          have k23 : 1 ≤ r18.toInt ∧ r18.toInt ≤ 1 := ⟨ne_lo dc22 t19.1 ⟨Int.le_refl _, Int.le_refl _⟩ (by decide), t19.2⟩
          refine lv_aload_n hx hb dX10_line0_411 rfl (lv_at hl 1 rfl) ?_
          refine get_f (D := D) (ci := 10) (v := .ref h_h) (C := RX10) (T := TX10) (N := 67) hx hb hw inAX10 hown hK hP 4 rfl rfl 7 (by decide) (hw _ q_1268) (fun _ h9 => h9) e_h dX10_line0_412 ?_
          refine lv_bipush (v := 7) hx hb dX10_line0_415 (by decide) ?_
          refine iald_n hx hb hK hP 1 0 rfl rfl 7 rfl (Nat.le_of_ble_eq_true rfl) (Nat.le_of_ble_eq_true rfl) rfl dX10_line0_417 ?_
          refine lv_topi (fun v24 ev24 => ?_)
          have k25 : 0 ≤ v24.toInt ∧ v24.toInt ≤ 6 := by rw [ev24]; exact s_h_7.atN 7 (by decide) (by decide)
          refine lv_istore_n (lv' := [(2, .int v24), (1, .int r1), (0, .ref h0)]) hx hb dX10_line0_418 rfl hl (by decide) rfl (fun ls hl => ?_)
          refine lv_iload_n hx hb dX10_line0_419 rfl (lv_at hl 0 rfl) ?_
          refine lv_bipush (v := 6) hx hb dX10_line0_420 (by decide) ?_
          refine lv_icmp_ne (tgt := 431) hx hb dX10_line0_422 (by decide) (fun c26 => ?_) (fun c26 => ?_)
          · have dc26 : v24.toInt ≠ 6 := ne_i (a := v24.toInt) (b := 6) rfl rfl c26
            have k27 : 0 ≤ v24.toInt ∧ v24.toInt ≤ 5 := ⟨k25.1, ne_hi dc26 k25.2 ⟨Int.le_refl _, Int.le_refl _⟩ (by decide)⟩
            refine lv_aload_n hx hb dX10_line0_431 rfl (lv_at hl 2 rfl) ?_
            refine call_Vv (wr := [(h_h, .inl (cI, 104, .inl f_h)), (h_names, .inl (cJ, 36, .inr (.inl f_names))), (h_reserved, .inl (cJ, 23, .inr (.inl f_reserved)))]) (As := []) (rest := []) hx hb hml hown hw (m_X10_next l D cI cJ cB cP cM cZ h0 h_tape Fh x_size x_p x_limit x_token x_number x_word f_tape _ e_tape e_size i_x_size e_p i_x_p e_limit i_x_limit e_token i_x_token e_number e_word (by omega)) wV_X10_208_X10_next dX10_line0_432 hK hP hD hS hA [4, 0] [1, 2, 3] rfl rfl (by decide) (by decide) (by decide) 0 10 rfl rfl GG.fb hG.at hl.1 rfl (Nat.le_of_ble_eq_true rfl) ⟨(Nat.le_of_ble_eq_true rfl), (Nat.le_of_ble_eq_true rfl)⟩ ⟨(Nat.le_of_ble_eq_true rfl), (Nat.le_of_ble_eq_true rfl)⟩ (fun u H locs hp hP hD hS => ?_)
            obtain ⟨F29, y30, y31, y32, y33, y34, y35, t36, t37, t38, t39, t40, t41, t42, t43, t44, t45, t46, t47, t48, t49, rfl⟩ := hp
            have hP : va_P D vwCl [(h_h, .inl (cI, 104, .inl f_h)), (h_names, .inl (cJ, 36, .inr (.inl f_names))), (h_reserved, .inl (cJ, 23, .inr (.inl f_reserved))), (h0, .inr (10, vL 67 F29)), (h_tape, .inl (cB, 940, .inl f_tape))] H := hP
            have hD : va_D A [(h_h, .inl (cI, 104, .inl f_h)), (h_names, .inl (cJ, 36, .inr (.inl f_names))), (h_reserved, .inl (cJ, 23, .inr (.inl f_reserved))), (h0, .inr (10, vL 67 F29)), (h_tape, .inl (cB, 940, .inl f_tape))] := hD
            refine W.widen (k := 0) (n := 0) (Nat.le_of_ble_eq_true rfl) (Nat.le_of_ble_eq_true rfl) ?_
            refine lv_aload_n hx hb dX10_line0_435 rfl (lv_at hl 2 rfl) ?_
            refine lv_bipush (v := 30) hx hb dX10_line0_436 (by decide) ?_
            refine lv_iload_n hx hb dX10_line0_438 rfl (lv_at hl 0 rfl) ?_
            refine lv_iadd hx hb dX10_line0_439 ?_
            refine lv_topi (fun v51 ev51 => ?_)
            have bv51 : v51.toInt = 30 + v24.toInt := by rw [ev51]; exact add_k rfl rfl ⟨Int.le_refl _, Int.le_refl _⟩ k27 (by decide)
            have k52 : 30 ≤ v51.toInt ∧ v51.toInt ≤ 35 := add_r bv51 ⟨Int.le_refl _, Int.le_refl _⟩ k27 (by decide)
            have n53 : F29 1 = .ref h_tape := (SAME.at t36 (by decide) e_tape)
            have n54 : F29 3 = .int x_size := (SAME.at t36 (by decide) e_size)
            have n55 : F29 5 = .int x_limit := (SAME.at t36 (by decide) e_limit)
            have n56 : F29 7 = .ref h_h := (SAME.at t36 (by decide) e_h)
            have n57 : F29 9 = .ref h_names := (SAME.at t36 (by decide) e_names)
            have n58 : F29 10 = .ref h_reserved := (SAME.at t36 (by decide) e_reserved)
            have n59 : F29 15 = .int x_fault := (SAME.at t36 (by decide) e_fault)
            have n60 : F29 16 = .int x_faultAt := (SAME.at t36 (by decide) e_faultAt)
            refine call_Vi (wr := []) (As := [.int v51]) (rest := []) hx hb hml hown hw (m_X10_fresh l D cI cJ cB cP cM cZ h0 h_tape h_h h_names h_reserved F29 x_size y30 x_limit y31 y32 y33 y34 x_fault x_faultAt y35 f_tape f_h f_names f_reserved v51 _ n53 n54 i_x_size t37 t38 n55 i_x_limit n56 n57 n58 t39 t40 t41 t43 t45 n59 n60 t46 s_h_0 s_h_44 s_h_5 s_h_6 s_h_7 (ir_wk k52 (by decide) (by decide)) (by omega)) wV_X10_245_X10_fresh dX10_line0_440 hK hP hD hS hA [3, 4, 0, 1, 2] [] rfl rfl (by decide) (by decide) (by decide) 0 10 rfl rfl GG.fb hG.at hl.1 rfl (Nat.le_of_ble_eq_true rfl) ⟨(Nat.le_of_ble_eq_true rfl), (Nat.le_of_ble_eq_true rfl)⟩ ⟨(Nat.le_of_ble_eq_true rfl), (Nat.le_of_ble_eq_true rfl)⟩ (fun r61 u H locs hp hP hD hS => ?_)
            refine hp.elim (fun F62 h9z => h9z.elim (fun y63 h9z => h9z.elim (fun y64 h9z => h9z.elim (fun y65 h9z => h9z.elim (fun y66 h9z => h9z.elim (fun y67 h9z => h9z.elim (fun y68 h9z => h9z.elim (fun y69 h9z => h9z.elim (fun y70 h9z => h9z.elim (fun g71 h9z => h9z.elim (fun t72 h9z => h9z.elim (fun t73 h9z => h9z.elim (fun t74 h9z => h9z.elim (fun t75 h9z => h9z.elim (fun t76 h9z => h9z.elim (fun t77 h9z => h9z.elim (fun t78 h9z => h9z.elim (fun t79 h9z => h9z.elim (fun t80 h9z => h9z.elim (fun t81 h9z => h9z.elim (fun t82 h9z => h9z.elim (fun t83 h9z => h9z.elim (fun t84 h9z => h9z.elim (fun t85 h9z => ?_))))))))))))))))))))))))
            subst h9z
            have hP : va_P D vwCl [(h0, .inr (10, vL 67 F62)), (h_tape, .inl (cB, 940, .inl f_tape)), (h_h, .inl (cI, 104, .inl f_h)), (h_names, .inl (cJ, 36, .inr (.inl g71))), (h_reserved, .inl (cJ, 23, .inr (.inl f_reserved)))] H := hP
            have hD : va_D A [(h0, .inr (10, vL 67 F62)), (h_tape, .inl (cB, 940, .inl f_tape)), (h_h, .inl (cI, 104, .inl f_h)), (h_names, .inl (cJ, 36, .inr (.inl g71))), (h_reserved, .inl (cJ, 23, .inr (.inl f_reserved)))] := hD
            refine W.widen (k := 0) (n := 0) (Nat.le_of_ble_eq_true rfl) (Nat.le_of_ble_eq_true rfl) ?_
            refine lv_if_ne (tgt := 448) hx hb dX10_line0_443 (by decide) (fun c87 => ?_) (fun c87 => ?_)
            · have dc87 : r61.toInt ≠ 0 := ne_i (a := r61.toInt) (b := 0) rfl rfl c87
              have k88 : 1 ≤ r61.toInt ∧ r61.toInt ≤ 1 := ⟨ne_lo dc87 t83.1 ⟨Int.le_refl _, Int.le_refl _⟩ (by decide), t83.2⟩
              refine lv_aload_n hx hb dX10_line0_448 rfl (lv_at hl 2 rfl) ?_
              refine lv_iconst (v := 0) hx hb dX10_line0_449 (by decide) ?_
              refine lv_bipush (v := 20) hx hb dX10_line0_450 (by decide) ?_
              have n89 : F62 1 = .ref h_tape := (SAME.at t72 (by decide) n53)
              have n90 : F62 3 = .int x_size := (SAME.at t72 (by decide) n54)
              have n91 : F62 5 = .int x_limit := (SAME.at t72 (by decide) n55)
              refine call_Vi (wr := [(h_h, .inl (cI, 104, .inl f_h)), (h_names, .inl (cJ, 36, .inr (.inl g71))), (h_reserved, .inl (cJ, 23, .inr (.inl f_reserved)))]) (As := [.int 0, .int 20]) (rest := []) hx hb hml hown hw (m_X10_takes l D cI cJ cB cP cM cZ h0 h_tape F62 x_size y63 x_limit y64 y65 y67 y70 f_tape 0 20 _ n89 n90 i_x_size t73 t74 n91 i_x_limit t75 t76 t77 t79 t82 (by omega)) wV_X10_242_X10_takes dX10_line0_452 hK hP hD hS hA [0, 1] [2, 3, 4] rfl rfl (by decide) (by decide) (by decide) 0 10 rfl rfl GG.fb hG.at hl.1 rfl (Nat.le_of_ble_eq_true rfl) ⟨(Nat.le_of_ble_eq_true rfl), (Nat.le_of_ble_eq_true rfl)⟩ ⟨(Nat.le_of_ble_eq_true rfl), (Nat.le_of_ble_eq_true rfl)⟩ (fun r92 u H locs hp hP hD hS => ?_)
              have zl0 : (0 : Int32).toInt = 0 := by decide
              have zl20 : (20 : Int32).toInt = 20 := by decide
              rcases hp with hp | hp
              · obtain ⟨F93, y94, t95, t96, t97, t98, t99, rfl, rfl⟩ := hp
                have hP : va_P D vwCl [(h_h, .inl (cI, 104, .inl f_h)), (h_names, .inl (cJ, 36, .inr (.inl g71))), (h_reserved, .inl (cJ, 23, .inr (.inl f_reserved))), (h0, .inr (10, vL 67 F93)), (h_tape, .inl (cB, 940, .inl f_tape))] H := hP
                have hD : va_D A [(h_h, .inl (cI, 104, .inl f_h)), (h_names, .inl (cJ, 36, .inr (.inl g71))), (h_reserved, .inl (cJ, 23, .inr (.inl f_reserved))), (h0, .inr (10, vL 67 F93)), (h_tape, .inl (cB, 940, .inl f_tape))] := hD
                refine W.widen (k := 0) (n := 0) (Nat.le_of_ble_eq_true rfl) (Nat.le_of_ble_eq_true rfl) ?_
                refine lv_if_ne (tgt := 460) hx hb dX10_line0_455 (by decide) (fun g => absurd (by decide) g) (fun _ => ?_)
                refine lv_iconst (v := 0) hx hb dX10_line0_458 (by decide) ?_
                exact ret_i (v := 0) hx hb hr hlocks hS (hP.sub (ws' := [(h0, .inr (10, vL 67 F93)), (h_tape, .inl (cB, 940, .inl f_tape)), (h_h, .inl (cI, 104, .inl f_h)), (h_names, .inl (cJ, 36, .inr (.inl g71))), (h_reserved, .inl (cJ, 23, .inr (.inl f_reserved)))]) [3, 4, 0, 1, 2] rfl) (hD.sub (ws' := [(h0, .inr (10, vL 67 F93)), (h_tape, .inl (cB, 940, .inl f_tape)), (h_h, .inl (cI, 104, .inl f_h)), (h_names, .inl (cJ, 36, .inr (.inl g71))), (h_reserved, .inl (cJ, 23, .inr (.inl f_reserved)))]) [3, 4, 0, 1, 2] (by decide) rfl) dX10_line0_459 rfl (Nat.le_of_ble_eq_true rfl) (Nat.le_of_ble_eq_true rfl) ⟨F93, y63, y64, y65, y66, y67, y94, y65, y70, x_got, x_onces, f_h, g71, (SAME.tr (SAME.tr (SAME.tr SAME.rf t36 (by decide)) t72 (by decide)) t95 (by decide)), (SAME.at t95 (by decide) t73), t74, (SAME.at t95 (by decide) t75), t76, (SAME.at t95 (by decide) t77), (SAME.at t95 (by decide) t78), (SAME.at t95 (by decide) t79), t96, t98, (SAME.at t95 (by decide) t82), (SAME.at t95 (by decide) (SAME.at t72 (by decide) (SAME.at t36 (by decide) e_got))), (SAME.at t95 (by decide) (SAME.at t72 (by decide) (SAME.at t36 (by decide) e_onces))), s_h_0, s_h_5, s_h_6, s_h_7, s_h_44, (show 0 ≤ (0 : Int32).toInt ∧ (0 : Int32).toInt ≤ 1 by decide), (by have zl0 : (0 : Int32).toInt = 0 := (by decide); omega), (by omega), rfl⟩
              · refine hp.elim (fun F100 h9z => h9z.elim (fun y101 h9z => h9z.elim (fun y102 h9z => h9z.elim (fun y103 h9z => h9z.elim (fun y104 h9z => h9z.elim (fun y105 h9z => h9z.elim (fun y106 h9z => h9z.elim (fun y107 h9z => h9z.elim (fun t108 h9z => h9z.elim (fun t109 h9z => h9z.elim (fun t110 h9z => h9z.elim (fun t111 h9z => h9z.elim (fun t112 h9z => h9z.elim (fun t113 h9z => h9z.elim (fun t114 h9z => h9z.elim (fun t115 h9z => h9z.elim (fun t116 h9z => h9z.elim (fun t117 h9z => h9z.elim (fun t118 h9z => h9z.elim (fun t119 h9z => h9z.elim (fun t120 h9z => h9z.elim (fun t121 h9z => h9z.elim (fun t122 h9z => h9z.elim (fun t123 h9z => h9z.elim (fun t124 h9z => h9z.elim (fun heq925 h9z => ?_))))))))))))))))))))))))))
                subst heq925
                subst h9z
                have hP : va_P D vwCl [(h_h, .inl (cI, 104, .inl f_h)), (h_names, .inl (cJ, 36, .inr (.inl g71))), (h_reserved, .inl (cJ, 23, .inr (.inl f_reserved))), (h0, .inr (10, vL 67 F100)), (h_tape, .inl (cB, 940, .inl f_tape))] H := hP
                have hD : va_D A [(h_h, .inl (cI, 104, .inl f_h)), (h_names, .inl (cJ, 36, .inr (.inl g71))), (h_reserved, .inl (cJ, 23, .inr (.inl f_reserved))), (h0, .inr (10, vL 67 F100)), (h_tape, .inl (cB, 940, .inl f_tape))] := hD
                refine W.widen (k := 0) (n := 0) (Nat.le_of_ble_eq_true rfl) (Nat.le_of_ble_eq_true rfl) ?_
                have k126 : 2 ≤ y64.toInt ∧ y64.toInt ≤ 2 := ⟨Int.le_trans (Int.le_refl _) (Int.le_of_eq t120.symm), Int.le_trans (Int.le_of_eq t120) (Int.le_refl _)⟩
                have k127 : 0 ≤ y67.toInt ∧ y67.toInt ≤ 2147483647 := ⟨Int.le_trans (Int.le_refl _) t121, (ir_any _).2⟩
                have k128 : 0 ≤ y67.toInt ∧ y67.toInt ≤ 20 := ⟨k127.1, Int.le_trans t122 (Int.le_refl _)⟩
                refine lv_if_ne (tgt := 460) hx hb dX10_line0_455 (by decide) (fun _ => ?_) (fun g => absurd g (by decide))
                refine lv_aload_n hx hb dX10_line0_460 rfl (lv_at hl 2 rfl) ?_
                have n129 : F62 7 = .ref h_h := (SAME.at t72 (by decide) n56)
                have n130 : F100 7 = .ref h_h := (SAME.at t108 (by decide) n129)
                refine get_f (D := D) (ci := 10) (v := .ref h_h) (C := RX10) (T := TX10) (N := 67) hx hb hw inAX10 hown hK hP 3 rfl rfl 7 (by decide) (hw _ q_1268) (fun _ h9 => h9) n130 dX10_line0_461 ?_
                refine lv_bipush (v := 92) hx hb dX10_line0_464 (by decide) ?_
                refine lv_iload_n hx hb dX10_line0_466 rfl (lv_at hl 0 rfl) ?_
                refine lv_iadd hx hb dX10_line0_467 ?_
                refine lv_topi (fun v131 ev131 => ?_)
                have bv131 : v131.toInt = 92 + v24.toInt := by rw [ev131]; exact add_k rfl rfl ⟨Int.le_refl _, Int.le_refl _⟩ k27 (by decide)
                have k132 : 92 ≤ v131.toInt ∧ v131.toInt ≤ 97 := add_r bv131 ⟨Int.le_refl _, Int.le_refl _⟩ k27 (by decide)
                refine lv_aload_n hx hb dX10_line0_468 rfl (lv_at hl 2 rfl) ?_
                refine get_f (D := D) (ci := 10) (v := .int y107) (C := RX10) (T := TX10) (N := 67) hx hb hw inAX10 hown hK hP 3 rfl rfl 19 (by decide) (hw _ q_1280) (fun _ h9 => h9) t119 dX10_line0_469 ?_
                obtain ⟨g133, eg133⟩ : ∃ z : Nat → Int32, upd f_h v131.toNatClampNeg y107 = z := ⟨_, rfl⟩
                have r134 : SG 0 0 0 40 g133 := by rw [← eg133]; exact s_h_0.up (Int.le_trans (by decide) k132.1) (Or.inr (Or.inl (dec_lt k132.1 (by decide))))
                have r135 : SG 44 55 0 9 g133 := by rw [← eg133]; exact s_h_44.up (Int.le_trans (by decide) k132.1) (Or.inr (Or.inl (dec_lt k132.1 (by decide))))
                have r136 : SG 5 5 0 12 g133 := by rw [← eg133]; exact s_h_5.up (Int.le_trans (by decide) k132.1) (Or.inr (Or.inl (dec_lt k132.1 (by decide))))
                have r137 : SG 6 6 0 12 g133 := by rw [← eg133]; exact s_h_6.up (Int.le_trans (by decide) k132.1) (Or.inr (Or.inl (dec_lt k132.1 (by decide))))
                have r138 : SG 7 7 0 6 g133 := by rw [← eg133]; exact s_h_7.up (Int.le_trans (by decide) k132.1) (Or.inr (Or.inl (dec_lt k132.1 (by decide))))
                refine iast_g hx hb hK hP hD hS 0 0 rfl rfl (ix_k k132 (by decide) (by decide)) eg133 dX10_line0_472 (fun H locs hP hD hS => ?_)
                have hP : va_P D vwCl [(h_h, .inl (cI, 104, .inl g133)), (h_names, .inl (cJ, 36, .inr (.inl g71))), (h_reserved, .inl (cJ, 23, .inr (.inl f_reserved))), (h0, .inr (10, vL 67 F100)), (h_tape, .inl (cB, 940, .inl f_tape))] H := hP
                have hD : va_D A [(h_h, .inl (cI, 104, .inl g133)), (h_names, .inl (cJ, 36, .inr (.inl g71))), (h_reserved, .inl (cJ, 23, .inr (.inl f_reserved))), (h0, .inr (10, vL 67 F100)), (h_tape, .inl (cB, 940, .inl f_tape))] := hD
                refine lv_aload_n hx hb dX10_line0_473 rfl (lv_at hl 2 rfl) ?_
                refine lv_iconst (v := 0) hx hb dX10_line0_474 (by decide) ?_
                refine lv_bipush (v := 9) hx hb dX10_line0_475 (by decide) ?_
                have n139 : F100 1 = .ref h_tape := (SAME.at t108 (by decide) n89)
                have n140 : F100 3 = .int x_size := (SAME.at t108 (by decide) n90)
                have n141 : F100 5 = .int x_limit := (SAME.at t108 (by decide) n91)
                refine call_Vi (wr := [(h_h, .inl (cI, 104, .inl g133)), (h_names, .inl (cJ, 36, .inr (.inl g71))), (h_reserved, .inl (cJ, 23, .inr (.inl f_reserved)))]) (As := [.int 0, .int 9]) (rest := []) hx hb hml hown hw (m_X10_takes l D cI cJ cB cP cM cZ h0 h_tape F100 x_size y101 x_limit y102 y103 y105 y106 f_tape 0 9 _ n139 n140 i_x_size t109 t110 n141 i_x_limit t111 t112 t113 t117 t118 (by omega)) wV_X10_242_X10_takes dX10_line0_477 hK hP hD hS hA [3, 4] [0, 1, 2] rfl rfl (by decide) (by decide) (by decide) 0 10 rfl rfl GG.fb hG.at hl.1 rfl (Nat.le_of_ble_eq_true rfl) ⟨(Nat.le_of_ble_eq_true rfl), (Nat.le_of_ble_eq_true rfl)⟩ ⟨(Nat.le_of_ble_eq_true rfl), (Nat.le_of_ble_eq_true rfl)⟩ (fun r142 u H locs hp hP hD hS => ?_)
                have zl9 : (9 : Int32).toInt = 9 := by decide
                rcases hp with hp | hp
                · obtain ⟨F143, y144, t145, t146, t147, t148, t149, rfl, rfl⟩ := hp
                  have hP : va_P D vwCl [(h_h, .inl (cI, 104, .inl g133)), (h_names, .inl (cJ, 36, .inr (.inl g71))), (h_reserved, .inl (cJ, 23, .inr (.inl f_reserved))), (h0, .inr (10, vL 67 F143)), (h_tape, .inl (cB, 940, .inl f_tape))] H := hP
                  have hD : va_D A [(h_h, .inl (cI, 104, .inl g133)), (h_names, .inl (cJ, 36, .inr (.inl g71))), (h_reserved, .inl (cJ, 23, .inr (.inl f_reserved))), (h0, .inr (10, vL 67 F143)), (h_tape, .inl (cB, 940, .inl f_tape))] := hD
                  refine W.widen (k := 0) (n := 0) (Nat.le_of_ble_eq_true rfl) (Nat.le_of_ble_eq_true rfl) ?_
                  refine lv_if_ne (tgt := 485) hx hb dX10_line0_480 (by decide) (fun g => absurd (by decide) g) (fun _ => ?_)
                  refine lv_iconst (v := 0) hx hb dX10_line0_483 (by decide) ?_
                  exact ret_i (v := 0) hx hb hr hlocks hS (hP.sub (ws' := [(h0, .inr (10, vL 67 F143)), (h_tape, .inl (cB, 940, .inl f_tape)), (h_h, .inl (cI, 104, .inl g133)), (h_names, .inl (cJ, 36, .inr (.inl g71))), (h_reserved, .inl (cJ, 23, .inr (.inl f_reserved)))]) [3, 4, 0, 1, 2] rfl) (hD.sub (ws' := [(h0, .inr (10, vL 67 F143)), (h_tape, .inl (cB, 940, .inl f_tape)), (h_h, .inl (cI, 104, .inl g133)), (h_names, .inl (cJ, 36, .inr (.inl g71))), (h_reserved, .inl (cJ, 23, .inr (.inl f_reserved)))]) [3, 4, 0, 1, 2] (by decide) rfl) dX10_line0_484 rfl (Nat.le_of_ble_eq_true rfl) (Nat.le_of_ble_eq_true rfl) ⟨F143, y101, y102, y103, y104, y105, y144, y103, y106, y107, x_onces, g133, g71, (SAME.tr (SAME.tr (SAME.tr (SAME.tr SAME.rf t36 (by decide)) t72 (by decide)) t108 (by decide)) t145 (by decide)), (SAME.at t145 (by decide) t109), t110, (SAME.at t145 (by decide) t111), t112, (SAME.at t145 (by decide) t113), (SAME.at t145 (by decide) t115), (SAME.at t145 (by decide) t117), t146, t148, (SAME.at t145 (by decide) t118), (SAME.at t145 (by decide) t119), (SAME.at t145 (by decide) (SAME.at t108 (by decide) (SAME.at t72 (by decide) (SAME.at t36 (by decide) e_onces)))), r134, r136, r137, r138, r135, (show 0 ≤ (0 : Int32).toInt ∧ (0 : Int32).toInt ≤ 1 by decide), (by have zl0 : (0 : Int32).toInt = 0 := (by decide); omega), (by omega), rfl⟩
                · refine hp.elim (fun F150 h9z => h9z.elim (fun y151 h9z => h9z.elim (fun y152 h9z => h9z.elim (fun y153 h9z => h9z.elim (fun y154 h9z => h9z.elim (fun y155 h9z => h9z.elim (fun y156 h9z => h9z.elim (fun y157 h9z => h9z.elim (fun t158 h9z => h9z.elim (fun t159 h9z => h9z.elim (fun t160 h9z => h9z.elim (fun t161 h9z => h9z.elim (fun t162 h9z => h9z.elim (fun t163 h9z => h9z.elim (fun t164 h9z => h9z.elim (fun t165 h9z => h9z.elim (fun t166 h9z => h9z.elim (fun t167 h9z => h9z.elim (fun t168 h9z => h9z.elim (fun t169 h9z => h9z.elim (fun t170 h9z => h9z.elim (fun t171 h9z => h9z.elim (fun t172 h9z => h9z.elim (fun t173 h9z => h9z.elim (fun t174 h9z => h9z.elim (fun heq925 h9z => ?_))))))))))))))))))))))))))
                  subst heq925
                  subst h9z
                  have hP : va_P D vwCl [(h_h, .inl (cI, 104, .inl g133)), (h_names, .inl (cJ, 36, .inr (.inl g71))), (h_reserved, .inl (cJ, 23, .inr (.inl f_reserved))), (h0, .inr (10, vL 67 F150)), (h_tape, .inl (cB, 940, .inl f_tape))] H := hP
                  have hD : va_D A [(h_h, .inl (cI, 104, .inl g133)), (h_names, .inl (cJ, 36, .inr (.inl g71))), (h_reserved, .inl (cJ, 23, .inr (.inl f_reserved))), (h0, .inr (10, vL 67 F150)), (h_tape, .inl (cB, 940, .inl f_tape))] := hD
                  refine W.widen (k := 0) (n := 0) (Nat.le_of_ble_eq_true rfl) (Nat.le_of_ble_eq_true rfl) ?_
                  have k176 : 2 ≤ y102.toInt ∧ y102.toInt ≤ 2 := ⟨Int.le_trans (Int.le_refl _) (Int.le_of_eq t170.symm), Int.le_trans (Int.le_of_eq t170) (Int.le_refl _)⟩
                  have k177 : 0 ≤ y105.toInt ∧ y105.toInt ≤ 2147483647 := ⟨Int.le_trans (Int.le_refl _) t171, (ir_any _).2⟩
                  have k178 : 0 ≤ y105.toInt ∧ y105.toInt ≤ 9 := ⟨k177.1, Int.le_trans t172 (Int.le_refl _)⟩
                  refine lv_if_ne (tgt := 485) hx hb dX10_line0_480 (by decide) (fun _ => ?_) (fun g => absurd g (by decide))
                  refine lv_aload_n hx hb dX10_line0_485 rfl (lv_at hl 2 rfl) ?_
                  have n179 : F150 7 = .ref h_h := (SAME.at t158 (by decide) n130)
                  refine get_f (D := D) (ci := 10) (v := .ref h_h) (C := RX10) (T := TX10) (N := 67) hx hb hw inAX10 hown hK hP 3 rfl rfl 7 (by decide) (hw _ q_1268) (fun _ h9 => h9) n179 dX10_line0_486 ?_
                  refine lv_bipush (v := 98) hx hb dX10_line0_489 (by decide) ?_
                  refine lv_iload_n hx hb dX10_line0_491 rfl (lv_at hl 0 rfl) ?_
                  refine lv_iadd hx hb dX10_line0_492 ?_
                  refine lv_topi (fun v180 ev180 => ?_)
                  have bv180 : v180.toInt = 98 + v24.toInt := by rw [ev180]; exact add_k rfl rfl ⟨Int.le_refl _, Int.le_refl _⟩ k27 (by decide)
                  have k181 : 98 ≤ v180.toInt ∧ v180.toInt ≤ 103 := add_r bv180 ⟨Int.le_refl _, Int.le_refl _⟩ k27 (by decide)
                  refine lv_aload_n hx hb dX10_line0_493 rfl (lv_at hl 2 rfl) ?_
                  refine get_f (D := D) (ci := 10) (v := .int y157) (C := RX10) (T := TX10) (N := 67) hx hb hw inAX10 hown hK hP 3 rfl rfl 19 (by decide) (hw _ q_1280) (fun _ h9 => h9) t169 dX10_line0_494 ?_
                  obtain ⟨g182, eg182⟩ : ∃ z : Nat → Int32, upd g133 v180.toNatClampNeg y157 = z := ⟨_, rfl⟩
                  have r183 : SG 0 0 0 40 g182 := by rw [← eg182]; exact r134.up (Int.le_trans (by decide) k181.1) (Or.inr (Or.inl (dec_lt k181.1 (by decide))))
                  have r184 : SG 44 55 0 9 g182 := by rw [← eg182]; exact r135.up (Int.le_trans (by decide) k181.1) (Or.inr (Or.inl (dec_lt k181.1 (by decide))))
                  have r185 : SG 5 5 0 12 g182 := by rw [← eg182]; exact r136.up (Int.le_trans (by decide) k181.1) (Or.inr (Or.inl (dec_lt k181.1 (by decide))))
                  have r186 : SG 6 6 0 12 g182 := by rw [← eg182]; exact r137.up (Int.le_trans (by decide) k181.1) (Or.inr (Or.inl (dec_lt k181.1 (by decide))))
                  have r187 : SG 7 7 0 6 g182 := by rw [← eg182]; exact r138.up (Int.le_trans (by decide) k181.1) (Or.inr (Or.inl (dec_lt k181.1 (by decide))))
                  refine iast_g hx hb hK hP hD hS 0 0 rfl rfl (ix_k k181 (by decide) (by decide)) eg182 dX10_line0_497 (fun H locs hP hD hS => ?_)
                  have hP : va_P D vwCl [(h_h, .inl (cI, 104, .inl g182)), (h_names, .inl (cJ, 36, .inr (.inl g71))), (h_reserved, .inl (cJ, 23, .inr (.inl f_reserved))), (h0, .inr (10, vL 67 F150)), (h_tape, .inl (cB, 940, .inl f_tape))] H := hP
                  have hD : va_D A [(h_h, .inl (cI, 104, .inl g182)), (h_names, .inl (cJ, 36, .inr (.inl g71))), (h_reserved, .inl (cJ, 23, .inr (.inl f_reserved))), (h0, .inr (10, vL 67 F150)), (h_tape, .inl (cB, 940, .inl f_tape))] := hD
                  refine lv_aload_n hx hb dX10_line0_498 rfl (lv_at hl 2 rfl) ?_
                  refine get_f (D := D) (ci := 10) (v := .ref h_h) (C := RX10) (T := TX10) (N := 67) hx hb hw inAX10 hown hK hP 3 rfl rfl 7 (by decide) (hw _ q_1268) (fun _ h9 => h9) n179 dX10_line0_499 ?_
                  refine lv_bipush (v := 7) hx hb dX10_line0_502 (by decide) ?_
                  refine lv_dup2_11 hx hb dX10_line0_504 rfl rfl ?_
                  refine iald_n hx hb hK hP 0 0 rfl rfl 7 rfl (Nat.le_of_ble_eq_true rfl) (Nat.le_of_ble_eq_true rfl) rfl dX10_line0_505 ?_
                  refine lv_topi (fun v188 ev188 => ?_)
                  have k189 : 0 ≤ v188.toInt ∧ v188.toInt ≤ 6 := by rw [ev188]; exact r187.atN 7 (by decide) (by decide)
                  refine lv_iconst (v := 1) hx hb dX10_line0_506 (by decide) ?_
                  refine lv_iadd hx hb dX10_line0_507 ?_
                  refine lv_topi (fun v190 ev190 => ?_)
                  have bv190 : v190.toInt = v188.toInt + 1 := by rw [ev190]; exact add_k rfl rfl k189 ⟨Int.le_refl _, Int.le_refl _⟩ (by decide)
                  have k191 : 1 ≤ v190.toInt ∧ v190.toInt ≤ 7 := add_r bv190 k189 ⟨Int.le_refl _, Int.le_refl _⟩ (by decide)
                  obtain ⟨g192, eg192⟩ : ∃ z : Nat → Int32, upd g182 7 v190 = z := ⟨_, rfl⟩
                  have r193 : SG 0 0 0 40 g192 := by rw [← eg192]; exact r183.upN (by decide)
                  have r194 : SG 44 55 0 9 g192 := by rw [← eg192]; exact r184.upN (by decide)
                  have r195 : SG 5 5 0 12 g192 := by rw [← eg192]; exact r185.upN (by decide)
                  have r196 : SG 6 6 0 12 g192 := by rw [← eg192]; exact r186.upN (by decide)
                  have r197 : SG 7 7 0 6 g192 := by rw [← eg192]; exact r187.upN (by omega)
                  refine iast_n hx hb hK hP hD hS 0 0 rfl rfl 7 rfl (Nat.le_of_ble_eq_true rfl) (Nat.le_of_ble_eq_true rfl) eg192 dX10_line0_508 (fun H locs hP hD hS => ?_)
                  have hP : va_P D vwCl [(h_h, .inl (cI, 104, .inl g192)), (h_names, .inl (cJ, 36, .inr (.inl g71))), (h_reserved, .inl (cJ, 23, .inr (.inl f_reserved))), (h0, .inr (10, vL 67 F150)), (h_tape, .inl (cB, 940, .inl f_tape))] H := hP
                  have hD : va_D A [(h_h, .inl (cI, 104, .inl g192)), (h_names, .inl (cJ, 36, .inr (.inl g71))), (h_reserved, .inl (cJ, 23, .inr (.inl f_reserved))), (h0, .inr (10, vL 67 F150)), (h_tape, .inl (cB, 940, .inl f_tape))] := hD
                  refine lv_iconst (v := 1) hx hb dX10_line0_509 (by decide) ?_
                  exact ret_i (v := 1) hx hb hr hlocks hS (hP.sub (ws' := [(h0, .inr (10, vL 67 F150)), (h_tape, .inl (cB, 940, .inl f_tape)), (h_h, .inl (cI, 104, .inl g192)), (h_names, .inl (cJ, 36, .inr (.inl g71))), (h_reserved, .inl (cJ, 23, .inr (.inl f_reserved)))]) [3, 4, 0, 1, 2] rfl) (hD.sub (ws' := [(h0, .inr (10, vL 67 F150)), (h_tape, .inl (cB, 940, .inl f_tape)), (h_h, .inl (cI, 104, .inl g192)), (h_names, .inl (cJ, 36, .inr (.inl g71))), (h_reserved, .inl (cJ, 23, .inr (.inl f_reserved)))]) [3, 4, 0, 1, 2] (by decide) rfl) dX10_line0_510 rfl (Nat.le_of_ble_eq_true rfl) (Nat.le_of_ble_eq_true rfl) ⟨F150, y151, y152, y153, y154, y155, y68, y69, y156, y157, x_onces, g192, g71, (SAME.tr (SAME.tr (SAME.tr (SAME.tr SAME.rf t36 (by decide)) t72 (by decide)) t108 (by decide)) t158 (by decide)), t159, t160, t161, t162, t163, t165, t167, (SAME.at t158 (by decide) (SAME.at t108 (by decide) t80)), (SAME.at t158 (by decide) (SAME.at t108 (by decide) t81)), t168, t169, (SAME.at t158 (by decide) (SAME.at t108 (by decide) (SAME.at t72 (by decide) (SAME.at t36 (by decide) e_onces)))), r193, r195, r196, r197, r194, (show 0 ≤ (1 : Int32).toInt ∧ (1 : Int32).toInt ≤ 1 by decide), (by have zl1 : (1 : Int32).toInt = 1 := (by decide); omega), (by omega), rfl⟩
            · have dc87 : r61.toInt = 0 := eq_i (a := r61.toInt) (b := 0) rfl rfl c87
              have k198 : 0 ≤ r61.toInt ∧ r61.toInt ≤ 0 := ⟨t83.1, Int.le_trans (Int.le_of_eq dc87) (Int.le_refl _)⟩
              refine lv_iconst (v := 0) hx hb dX10_line0_446 (by decide) ?_
              exact ret_i (v := 0) hx hb hr hlocks hS hP hD dX10_line0_447 rfl (Nat.le_of_ble_eq_true rfl) (Nat.le_of_ble_eq_true rfl) ⟨F62, y63, y64, y65, y66, y67, y68, y69, y70, x_got, x_onces, f_h, g71, (SAME.tr (SAME.tr SAME.rf t36 (by decide)) t72 (by decide)), t73, t74, t75, t76, t77, t78, t79, t80, t81, t82, (SAME.at t72 (by decide) (SAME.at t36 (by decide) e_got)), (SAME.at t72 (by decide) (SAME.at t36 (by decide) e_onces)), s_h_0, s_h_5, s_h_6, s_h_7, s_h_44, (show 0 ≤ (0 : Int32).toInt ∧ (0 : Int32).toInt ≤ 1 by decide), (by have zl0 : (0 : Int32).toInt = 0 := (by decide); omega), (by omega), rfl⟩
          · have dc26 : v24.toInt = 6 := eq_i (a := v24.toInt) (b := 6) rfl rfl c26
            have k199 : 6 ≤ v24.toInt ∧ v24.toInt ≤ 6 := ⟨Int.le_trans (Int.le_refl _) (Int.le_of_eq dc26.symm), k25.2⟩
            refine lv_aload_n hx hb dX10_line0_425 rfl (lv_at hl 2 rfl) ?_
            refine lv_iconst (v := 4) hx hb dX10_line0_426 (by decide) ?_
            refine call_Vi (wr := [(h_tape, .inl (cB, 940, .inl f_tape)), (h_h, .inl (cI, 104, .inl f_h)), (h_names, .inl (cJ, 36, .inr (.inl f_names))), (h_reserved, .inl (cJ, 23, .inr (.inl f_reserved)))]) (As := [.int 4]) (rest := []) hx hb hml hown hw (m_X10_bad l D cI cJ cB cP cM cZ h0 Fh x_at 4 _ e_at) wV_X10_205_X10_bad dX10_line0_427 hK hP hD hS hA [4] [0, 1, 2, 3] rfl rfl (by decide) (by decide) (by decide) 0 10 rfl rfl GG.fb hG.at hl.1 rfl (Nat.le_of_ble_eq_true rfl) ⟨(Nat.le_of_ble_eq_true rfl), (Nat.le_of_ble_eq_true rfl)⟩ ⟨(Nat.le_of_ble_eq_true rfl), (Nat.le_of_ble_eq_true rfl)⟩ (fun r200 u H locs hp hP hD hS => ?_)
            have zl4 : (4 : Int32).toInt = 4 := by decide
            obtain ⟨F201, t202, t203, t204, rfl, rfl⟩ := hp
            have hP : va_P D vwCl [(h_tape, .inl (cB, 940, .inl f_tape)), (h_h, .inl (cI, 104, .inl f_h)), (h_names, .inl (cJ, 36, .inr (.inl f_names))), (h_reserved, .inl (cJ, 23, .inr (.inl f_reserved))), (h0, .inr (10, vL 67 F201))] H := hP
            have hD : va_D A [(h_tape, .inl (cB, 940, .inl f_tape)), (h_h, .inl (cI, 104, .inl f_h)), (h_names, .inl (cJ, 36, .inr (.inl f_names))), (h_reserved, .inl (cJ, 23, .inr (.inl f_reserved))), (h0, .inr (10, vL 67 F201))] := hD
            refine W.widen (k := 0) (n := 0) (Nat.le_of_ble_eq_true rfl) (Nat.le_of_ble_eq_true rfl) ?_
            exact ret_i (v := 0) hx hb hr hlocks hS (hP.sub (ws' := [(h0, .inr (10, vL 67 F201)), (h_tape, .inl (cB, 940, .inl f_tape)), (h_h, .inl (cI, 104, .inl f_h)), (h_names, .inl (cJ, 36, .inr (.inl f_names))), (h_reserved, .inl (cJ, 23, .inr (.inl f_reserved)))]) [4, 0, 1, 2, 3] rfl) (hD.sub (ws' := [(h0, .inr (10, vL 67 F201)), (h_tape, .inl (cB, 940, .inl f_tape)), (h_h, .inl (cI, 104, .inl f_h)), (h_names, .inl (cJ, 36, .inr (.inl f_names))), (h_reserved, .inl (cJ, 23, .inr (.inl f_reserved)))]) [4, 0, 1, 2, 3] (by decide) rfl) dX10_line0_430 rfl (Nat.le_of_ble_eq_true rfl) (Nat.le_of_ble_eq_true rfl) ⟨F201, x_p, x_token, x_at, x_span, x_number, 4, x_at, x_word, x_got, x_onces, f_h, f_names, (SAME.tr SAME.rf t202 (by decide)), (SAME.at t202 (by decide) e_p), i_x_p, (SAME.at t202 (by decide) e_token), i_x_token, (SAME.at t202 (by decide) e_at), (SAME.at t202 (by decide) e_span), (SAME.at t202 (by decide) e_number), t203, t204, (SAME.at t202 (by decide) e_word), (SAME.at t202 (by decide) e_got), (SAME.at t202 (by decide) e_onces), s_h_0, s_h_5, s_h_6, s_h_7, s_h_44, (show 0 ≤ (0 : Int32).toInt ∧ (0 : Int32).toInt ≤ 1 by decide), (by have zl0 : (0 : Int32).toInt = 0 := (by decide); omega), (by have zl4 : (4 : Int32).toInt = 4 := (by decide); omega), rfl⟩
        · have dc22 : r18.toInt = 0 := eq_i (a := r18.toInt) (b := 0) rfl rfl c22
          have k206 : 0 ≤ r18.toInt ∧ r18.toInt ≤ 0 := ⟨t19.1, Int.le_trans (Int.le_of_eq dc22) (Int.le_refl _)⟩
          refine lv_aload_n hx hb dX10_line0_405 rfl (lv_at hl 1 rfl) ?_
          refine lv_iconst (v := 1) hx hb dX10_line0_406 (by decide) ?_
          refine call_Vi (wr := [(h_tape, .inl (cB, 940, .inl f_tape)), (h_h, .inl (cI, 104, .inl f_h)), (h_names, .inl (cJ, 36, .inr (.inl f_names))), (h_reserved, .inl (cJ, 23, .inr (.inl f_reserved)))]) (As := [.int 1]) (rest := []) hx hb hml hown hw (m_X10_bad l D cI cJ cB cP cM cZ h0 Fh x_at 1 _ e_at) wV_X10_205_X10_bad dX10_line0_407 hK hP hD hS hA [4] [0, 1, 2, 3] rfl rfl (by decide) (by decide) (by decide) 0 10 rfl rfl GG.fb hG.at hl.1 rfl (Nat.le_of_ble_eq_true rfl) ⟨(Nat.le_of_ble_eq_true rfl), (Nat.le_of_ble_eq_true rfl)⟩ ⟨(Nat.le_of_ble_eq_true rfl), (Nat.le_of_ble_eq_true rfl)⟩ (fun r207 u H locs hp hP hD hS => ?_)
          have zl1 : (1 : Int32).toInt = 1 := by decide
          obtain ⟨F208, t209, t210, t211, rfl, rfl⟩ := hp
          have hP : va_P D vwCl [(h_tape, .inl (cB, 940, .inl f_tape)), (h_h, .inl (cI, 104, .inl f_h)), (h_names, .inl (cJ, 36, .inr (.inl f_names))), (h_reserved, .inl (cJ, 23, .inr (.inl f_reserved))), (h0, .inr (10, vL 67 F208))] H := hP
          have hD : va_D A [(h_tape, .inl (cB, 940, .inl f_tape)), (h_h, .inl (cI, 104, .inl f_h)), (h_names, .inl (cJ, 36, .inr (.inl f_names))), (h_reserved, .inl (cJ, 23, .inr (.inl f_reserved))), (h0, .inr (10, vL 67 F208))] := hD
          refine W.widen (k := 0) (n := 0) (Nat.le_of_ble_eq_true rfl) (Nat.le_of_ble_eq_true rfl) ?_
          exact ret_i (v := 0) hx hb hr hlocks hS (hP.sub (ws' := [(h0, .inr (10, vL 67 F208)), (h_tape, .inl (cB, 940, .inl f_tape)), (h_h, .inl (cI, 104, .inl f_h)), (h_names, .inl (cJ, 36, .inr (.inl f_names))), (h_reserved, .inl (cJ, 23, .inr (.inl f_reserved)))]) [4, 0, 1, 2, 3] rfl) (hD.sub (ws' := [(h0, .inr (10, vL 67 F208)), (h_tape, .inl (cB, 940, .inl f_tape)), (h_h, .inl (cI, 104, .inl f_h)), (h_names, .inl (cJ, 36, .inr (.inl f_names))), (h_reserved, .inl (cJ, 23, .inr (.inl f_reserved)))]) [4, 0, 1, 2, 3] (by decide) rfl) dX10_line0_410 rfl (Nat.le_of_ble_eq_true rfl) (Nat.le_of_ble_eq_true rfl) ⟨F208, x_p, x_token, x_at, x_span, x_number, 1, x_at, x_word, x_got, x_onces, f_h, f_names, (SAME.tr SAME.rf t209 (by decide)), (SAME.at t209 (by decide) e_p), i_x_p, (SAME.at t209 (by decide) e_token), i_x_token, (SAME.at t209 (by decide) e_at), (SAME.at t209 (by decide) e_span), (SAME.at t209 (by decide) e_number), t210, t211, (SAME.at t209 (by decide) e_word), (SAME.at t209 (by decide) e_got), (SAME.at t209 (by decide) e_onces), s_h_0, s_h_5, s_h_6, s_h_7, s_h_44, (show 0 ≤ (0 : Int32).toInt ∧ (0 : Int32).toInt ≤ 1 by decide), (by have zl0 : (0 : Int32).toInt = 0 := (by decide); omega), (by have zl1 : (1 : Int32).toInt = 1 := (by decide); omega), rfl⟩
      · have dc16 : r12.toInt ≠ 0 := ne_i (a := r12.toInt) (b := 0) rfl rfl c16
        have k213 : 1 ≤ r12.toInt ∧ r12.toInt ≤ 1 := ⟨ne_lo dc16 t13.1 ⟨Int.le_refl _, Int.le_refl _⟩ (by decide), t13.2⟩
        refine lv_aload_n hx hb dX10_line0_258 rfl (lv_at hl 1 rfl) ?_
        refine get_f (D := D) (ci := 10) (v := .ref h_h) (C := RX10) (T := TX10) (N := 67) hx hb hw inAX10 hown hK hP 4 rfl rfl 7 (by decide) (hw _ q_1268) (fun _ h9 => h9) e_h dX10_line0_259 ?_
        refine lv_bipush (v := 6) hx hb dX10_line0_262 (by decide) ?_
        refine iald_n hx hb hK hP 1 0 rfl rfl 6 rfl (Nat.le_of_ble_eq_true rfl) (Nat.le_of_ble_eq_true rfl) rfl dX10_line0_264 ?_
        refine lv_topi (fun v214 ev214 => ?_)
        have k215 : 0 ≤ v214.toInt ∧ v214.toInt ≤ 12 := by rw [ev214]; exact s_h_6.atN 6 (by decide) (by decide)
        refine lv_istore_n (lv' := [(2, .int v214), (1, .int r1), (0, .ref h0)]) hx hb dX10_line0_265 rfl hl (by decide) rfl (fun ls hl => ?_)
        refine lv_iload_n hx hb dX10_line0_266 rfl (lv_at hl 0 rfl) ?_
        refine lv_bipush (v := 12) hx hb dX10_line0_267 (by decide) ?_
        refine lv_icmp_ne (tgt := 278) hx hb dX10_line0_269 (by decide) (fun c216 => ?_) (fun c216 => ?_)
        · have dc216 : v214.toInt ≠ 12 := ne_i (a := v214.toInt) (b := 12) rfl rfl c216
          have k217 : 0 ≤ v214.toInt ∧ v214.toInt ≤ 11 := ⟨k215.1, ne_hi dc216 k215.2 ⟨Int.le_refl _, Int.le_refl _⟩ (by decide)⟩
          refine lv_aload_n hx hb dX10_line0_278 rfl (lv_at hl 2 rfl) ?_
          refine call_Vv (wr := [(h_h, .inl (cI, 104, .inl f_h)), (h_names, .inl (cJ, 36, .inr (.inl f_names))), (h_reserved, .inl (cJ, 23, .inr (.inl f_reserved)))]) (As := []) (rest := []) hx hb hml hown hw (m_X10_next l D cI cJ cB cP cM cZ h0 h_tape Fh x_size x_p x_limit x_token x_number x_word f_tape _ e_tape e_size i_x_size e_p i_x_p e_limit i_x_limit e_token i_x_token e_number e_word (by omega)) wV_X10_208_X10_next dX10_line0_279 hK hP hD hS hA [4, 0] [1, 2, 3] rfl rfl (by decide) (by decide) (by decide) 0 10 rfl rfl GG.fb hG.at hl.1 rfl (Nat.le_of_ble_eq_true rfl) ⟨(Nat.le_of_ble_eq_true rfl), (Nat.le_of_ble_eq_true rfl)⟩ ⟨(Nat.le_of_ble_eq_true rfl), (Nat.le_of_ble_eq_true rfl)⟩ (fun u H locs hp hP hD hS => ?_)
          obtain ⟨F219, y220, y221, y222, y223, y224, y225, t226, t227, t228, t229, t230, t231, t232, t233, t234, t235, t236, t237, t238, t239, rfl⟩ := hp
          have hP : va_P D vwCl [(h_h, .inl (cI, 104, .inl f_h)), (h_names, .inl (cJ, 36, .inr (.inl f_names))), (h_reserved, .inl (cJ, 23, .inr (.inl f_reserved))), (h0, .inr (10, vL 67 F219)), (h_tape, .inl (cB, 940, .inl f_tape))] H := hP
          have hD : va_D A [(h_h, .inl (cI, 104, .inl f_h)), (h_names, .inl (cJ, 36, .inr (.inl f_names))), (h_reserved, .inl (cJ, 23, .inr (.inl f_reserved))), (h0, .inr (10, vL 67 F219)), (h_tape, .inl (cB, 940, .inl f_tape))] := hD
          refine W.widen (k := 0) (n := 0) (Nat.le_of_ble_eq_true rfl) (Nat.le_of_ble_eq_true rfl) ?_
          refine lv_aload_n hx hb dX10_line0_282 rfl (lv_at hl 2 rfl) ?_
          refine lv_iconst (v := 1) hx hb dX10_line0_283 (by decide) ?_
          refine lv_bipush (v := 9) hx hb dX10_line0_284 (by decide) ?_
          have n241 : F219 1 = .ref h_tape := (SAME.at t226 (by decide) e_tape)
          have n242 : F219 3 = .int x_size := (SAME.at t226 (by decide) e_size)
          have n243 : F219 5 = .int x_limit := (SAME.at t226 (by decide) e_limit)
          refine call_Vi (wr := [(h_h, .inl (cI, 104, .inl f_h)), (h_names, .inl (cJ, 36, .inr (.inl f_names))), (h_reserved, .inl (cJ, 23, .inr (.inl f_reserved)))]) (As := [.int 1, .int 9]) (rest := []) hx hb hml hown hw (m_X10_takes l D cI cJ cB cP cM cZ h0 h_tape F219 x_size y220 x_limit y221 y222 y224 y225 f_tape 1 9 _ n241 n242 i_x_size t227 t228 n243 i_x_limit t229 t230 t231 t235 t236 (by omega)) wV_X10_242_X10_takes dX10_line0_286 hK hP hD hS hA [3, 4] [0, 1, 2] rfl rfl (by decide) (by decide) (by decide) 0 10 rfl rfl GG.fb hG.at hl.1 rfl (Nat.le_of_ble_eq_true rfl) ⟨(Nat.le_of_ble_eq_true rfl), (Nat.le_of_ble_eq_true rfl)⟩ ⟨(Nat.le_of_ble_eq_true rfl), (Nat.le_of_ble_eq_true rfl)⟩ (fun r244 u H locs hp hP hD hS => ?_)
          have zl1 : (1 : Int32).toInt = 1 := by decide
          have zl9 : (9 : Int32).toInt = 9 := by decide
          rcases hp with hp | hp
          · obtain ⟨F245, y246, t247, t248, t249, t250, t251, rfl, rfl⟩ := hp
            have hP : va_P D vwCl [(h_h, .inl (cI, 104, .inl f_h)), (h_names, .inl (cJ, 36, .inr (.inl f_names))), (h_reserved, .inl (cJ, 23, .inr (.inl f_reserved))), (h0, .inr (10, vL 67 F245)), (h_tape, .inl (cB, 940, .inl f_tape))] H := hP
            have hD : va_D A [(h_h, .inl (cI, 104, .inl f_h)), (h_names, .inl (cJ, 36, .inr (.inl f_names))), (h_reserved, .inl (cJ, 23, .inr (.inl f_reserved))), (h0, .inr (10, vL 67 F245)), (h_tape, .inl (cB, 940, .inl f_tape))] := hD
            refine W.widen (k := 0) (n := 0) (Nat.le_of_ble_eq_true rfl) (Nat.le_of_ble_eq_true rfl) ?_
            refine lv_if_ne (tgt := 294) hx hb dX10_line0_289 (by decide) (fun g => absurd (by decide) g) (fun _ => ?_)
            refine lv_iconst (v := 0) hx hb dX10_line0_292 (by decide) ?_
            exact ret_i (v := 0) hx hb hr hlocks hS (hP.sub (ws' := [(h0, .inr (10, vL 67 F245)), (h_tape, .inl (cB, 940, .inl f_tape)), (h_h, .inl (cI, 104, .inl f_h)), (h_names, .inl (cJ, 36, .inr (.inl f_names))), (h_reserved, .inl (cJ, 23, .inr (.inl f_reserved)))]) [3, 4, 0, 1, 2] rfl) (hD.sub (ws' := [(h0, .inr (10, vL 67 F245)), (h_tape, .inl (cB, 940, .inl f_tape)), (h_h, .inl (cI, 104, .inl f_h)), (h_names, .inl (cJ, 36, .inr (.inl f_names))), (h_reserved, .inl (cJ, 23, .inr (.inl f_reserved)))]) [3, 4, 0, 1, 2] (by decide) rfl) dX10_line0_293 rfl (Nat.le_of_ble_eq_true rfl) (Nat.le_of_ble_eq_true rfl) ⟨F245, y220, y221, y222, y223, y224, y246, y222, y225, x_got, x_onces, f_h, f_names, (SAME.tr (SAME.tr SAME.rf t226 (by decide)) t247 (by decide)), (SAME.at t247 (by decide) t227), t228, (SAME.at t247 (by decide) t229), t230, (SAME.at t247 (by decide) t231), (SAME.at t247 (by decide) t233), (SAME.at t247 (by decide) t235), t248, t250, (SAME.at t247 (by decide) t236), (SAME.at t247 (by decide) (SAME.at t226 (by decide) e_got)), (SAME.at t247 (by decide) (SAME.at t226 (by decide) e_onces)), s_h_0, s_h_5, s_h_6, s_h_7, s_h_44, (show 0 ≤ (0 : Int32).toInt ∧ (0 : Int32).toInt ≤ 1 by decide), (by have zl0 : (0 : Int32).toInt = 0 := (by decide); omega), (by omega), rfl⟩
          · refine hp.elim (fun F252 h9z => h9z.elim (fun y253 h9z => h9z.elim (fun y254 h9z => h9z.elim (fun y255 h9z => h9z.elim (fun y256 h9z => h9z.elim (fun y257 h9z => h9z.elim (fun y258 h9z => h9z.elim (fun y259 h9z => h9z.elim (fun t260 h9z => h9z.elim (fun t261 h9z => h9z.elim (fun t262 h9z => h9z.elim (fun t263 h9z => h9z.elim (fun t264 h9z => h9z.elim (fun t265 h9z => h9z.elim (fun t266 h9z => h9z.elim (fun t267 h9z => h9z.elim (fun t268 h9z => h9z.elim (fun t269 h9z => h9z.elim (fun t270 h9z => h9z.elim (fun t271 h9z => h9z.elim (fun t272 h9z => h9z.elim (fun t273 h9z => h9z.elim (fun t274 h9z => h9z.elim (fun t275 h9z => h9z.elim (fun t276 h9z => h9z.elim (fun heq925 h9z => ?_))))))))))))))))))))))))))
            subst heq925
            subst h9z
            have hP : va_P D vwCl [(h_h, .inl (cI, 104, .inl f_h)), (h_names, .inl (cJ, 36, .inr (.inl f_names))), (h_reserved, .inl (cJ, 23, .inr (.inl f_reserved))), (h0, .inr (10, vL 67 F252)), (h_tape, .inl (cB, 940, .inl f_tape))] H := hP
            have hD : va_D A [(h_h, .inl (cI, 104, .inl f_h)), (h_names, .inl (cJ, 36, .inr (.inl f_names))), (h_reserved, .inl (cJ, 23, .inr (.inl f_reserved))), (h0, .inr (10, vL 67 F252)), (h_tape, .inl (cB, 940, .inl f_tape))] := hD
            refine W.widen (k := 0) (n := 0) (Nat.le_of_ble_eq_true rfl) (Nat.le_of_ble_eq_true rfl) ?_
            have k278 : 2 ≤ y221.toInt ∧ y221.toInt ≤ 2 := ⟨Int.le_trans (Int.le_refl _) (Int.le_of_eq t272.symm), Int.le_trans (Int.le_of_eq t272) (Int.le_refl _)⟩
            have k279 : 1 ≤ y224.toInt ∧ y224.toInt ≤ 2147483647 := ⟨Int.le_trans (Int.le_refl _) t273, (ir_any _).2⟩
            have k280 : 1 ≤ y224.toInt ∧ y224.toInt ≤ 9 := ⟨k279.1, Int.le_trans t274 (Int.le_refl _)⟩
            refine lv_if_ne (tgt := 294) hx hb dX10_line0_289 (by decide) (fun _ => ?_) (fun g => absurd g (by decide))
            refine lv_aload_n hx hb dX10_line0_294 rfl (lv_at hl 2 rfl) ?_
            have n281 : F219 7 = .ref h_h := (SAME.at t226 (by decide) e_h)
            have n282 : F252 7 = .ref h_h := (SAME.at t260 (by decide) n281)
            refine get_f (D := D) (ci := 10) (v := .ref h_h) (C := RX10) (T := TX10) (N := 67) hx hb hw inAX10 hown hK hP 3 rfl rfl 7 (by decide) (hw _ q_1268) (fun _ h9 => h9) n282 dX10_line0_295 ?_
            refine lv_bipush (v := 44) hx hb dX10_line0_298 (by decide) ?_
            refine lv_iload_n hx hb dX10_line0_300 rfl (lv_at hl 0 rfl) ?_
            refine lv_iadd hx hb dX10_line0_301 ?_
            refine lv_topi (fun v283 ev283 => ?_)
            have bv283 : v283.toInt = 44 + v214.toInt := by rw [ev283]; exact add_k rfl rfl ⟨Int.le_refl _, Int.le_refl _⟩ k217 (by decide)
            have k284 : 44 ≤ v283.toInt ∧ v283.toInt ≤ 55 := add_r bv283 ⟨Int.le_refl _, Int.le_refl _⟩ k217 (by decide)
            refine lv_aload_n hx hb dX10_line0_302 rfl (lv_at hl 2 rfl) ?_
            refine get_f (D := D) (ci := 10) (v := .int y259) (C := RX10) (T := TX10) (N := 67) hx hb hw inAX10 hown hK hP 3 rfl rfl 19 (by decide) (hw _ q_1280) (fun _ h9 => h9) t271 dX10_line0_303 ?_
            obtain ⟨g285, eg285⟩ : ∃ z : Nat → Int32, upd f_h v283.toNatClampNeg y259 = z := ⟨_, rfl⟩
            have r286 : SG 0 0 0 40 g285 := by rw [← eg285]; exact s_h_0.up (Int.le_trans (by decide) k284.1) (Or.inr (Or.inl (dec_lt k284.1 (by decide))))
            have r287 : SG 44 55 0 9 g285 := by rw [← eg285]; exact s_h_44.up (Int.le_trans (by decide) k284.1) (by omega)
            have r288 : SG 5 5 0 12 g285 := by rw [← eg285]; exact s_h_5.up (Int.le_trans (by decide) k284.1) (Or.inr (Or.inl (dec_lt k284.1 (by decide))))
            have r289 : SG 6 6 0 12 g285 := by rw [← eg285]; exact s_h_6.up (Int.le_trans (by decide) k284.1) (Or.inr (Or.inl (dec_lt k284.1 (by decide))))
            have r290 : SG 7 7 0 6 g285 := by rw [← eg285]; exact s_h_7.up (Int.le_trans (by decide) k284.1) (Or.inr (Or.inl (dec_lt k284.1 (by decide))))
            refine iast_g hx hb hK hP hD hS 0 0 rfl rfl (ix_k k284 (by decide) (by decide)) eg285 dX10_line0_306 (fun H locs hP hD hS => ?_)
            have hP : va_P D vwCl [(h_h, .inl (cI, 104, .inl g285)), (h_names, .inl (cJ, 36, .inr (.inl f_names))), (h_reserved, .inl (cJ, 23, .inr (.inl f_reserved))), (h0, .inr (10, vL 67 F252)), (h_tape, .inl (cB, 940, .inl f_tape))] H := hP
            have hD : va_D A [(h_h, .inl (cI, 104, .inl g285)), (h_names, .inl (cJ, 36, .inr (.inl f_names))), (h_reserved, .inl (cJ, 23, .inr (.inl f_reserved))), (h0, .inr (10, vL 67 F252)), (h_tape, .inl (cB, 940, .inl f_tape))] := hD
            refine lv_aload_n hx hb dX10_line0_307 rfl (lv_at hl 2 rfl) ?_
            refine lv_iconst (v := 0) hx hb dX10_line0_308 (by decide) ?_
            refine lv_bipush (v := 9) hx hb dX10_line0_309 (by decide) ?_
            have n291 : F252 1 = .ref h_tape := (SAME.at t260 (by decide) n241)
            have n292 : F252 3 = .int x_size := (SAME.at t260 (by decide) n242)
            have n293 : F252 5 = .int x_limit := (SAME.at t260 (by decide) n243)
            refine call_Vi (wr := [(h_h, .inl (cI, 104, .inl g285)), (h_names, .inl (cJ, 36, .inr (.inl f_names))), (h_reserved, .inl (cJ, 23, .inr (.inl f_reserved)))]) (As := [.int 0, .int 9]) (rest := []) hx hb hml hown hw (m_X10_takes l D cI cJ cB cP cM cZ h0 h_tape F252 x_size y253 x_limit y254 y255 y257 y258 f_tape 0 9 _ n291 n292 i_x_size t261 t262 n293 i_x_limit t263 t264 t265 t269 t270 (by omega)) wV_X10_242_X10_takes dX10_line0_311 hK hP hD hS hA [3, 4] [0, 1, 2] rfl rfl (by decide) (by decide) (by decide) 0 10 rfl rfl GG.fb hG.at hl.1 rfl (Nat.le_of_ble_eq_true rfl) ⟨(Nat.le_of_ble_eq_true rfl), (Nat.le_of_ble_eq_true rfl)⟩ ⟨(Nat.le_of_ble_eq_true rfl), (Nat.le_of_ble_eq_true rfl)⟩ (fun r294 u H locs hp hP hD hS => ?_)
            have zl0 : (0 : Int32).toInt = 0 := by decide
            rcases hp with hp | hp
            · obtain ⟨F295, y296, t297, t298, t299, t300, t301, rfl, rfl⟩ := hp
              have hP : va_P D vwCl [(h_h, .inl (cI, 104, .inl g285)), (h_names, .inl (cJ, 36, .inr (.inl f_names))), (h_reserved, .inl (cJ, 23, .inr (.inl f_reserved))), (h0, .inr (10, vL 67 F295)), (h_tape, .inl (cB, 940, .inl f_tape))] H := hP
              have hD : va_D A [(h_h, .inl (cI, 104, .inl g285)), (h_names, .inl (cJ, 36, .inr (.inl f_names))), (h_reserved, .inl (cJ, 23, .inr (.inl f_reserved))), (h0, .inr (10, vL 67 F295)), (h_tape, .inl (cB, 940, .inl f_tape))] := hD
              refine W.widen (k := 0) (n := 0) (Nat.le_of_ble_eq_true rfl) (Nat.le_of_ble_eq_true rfl) ?_
              refine lv_if_ne (tgt := 319) hx hb dX10_line0_314 (by decide) (fun g => absurd (by decide) g) (fun _ => ?_)
              refine lv_iconst (v := 0) hx hb dX10_line0_317 (by decide) ?_
              exact ret_i (v := 0) hx hb hr hlocks hS (hP.sub (ws' := [(h0, .inr (10, vL 67 F295)), (h_tape, .inl (cB, 940, .inl f_tape)), (h_h, .inl (cI, 104, .inl g285)), (h_names, .inl (cJ, 36, .inr (.inl f_names))), (h_reserved, .inl (cJ, 23, .inr (.inl f_reserved)))]) [3, 4, 0, 1, 2] rfl) (hD.sub (ws' := [(h0, .inr (10, vL 67 F295)), (h_tape, .inl (cB, 940, .inl f_tape)), (h_h, .inl (cI, 104, .inl g285)), (h_names, .inl (cJ, 36, .inr (.inl f_names))), (h_reserved, .inl (cJ, 23, .inr (.inl f_reserved)))]) [3, 4, 0, 1, 2] (by decide) rfl) dX10_line0_318 rfl (Nat.le_of_ble_eq_true rfl) (Nat.le_of_ble_eq_true rfl) ⟨F295, y253, y254, y255, y256, y257, y296, y255, y258, y259, x_onces, g285, f_names, (SAME.tr (SAME.tr (SAME.tr SAME.rf t226 (by decide)) t260 (by decide)) t297 (by decide)), (SAME.at t297 (by decide) t261), t262, (SAME.at t297 (by decide) t263), t264, (SAME.at t297 (by decide) t265), (SAME.at t297 (by decide) t267), (SAME.at t297 (by decide) t269), t298, t300, (SAME.at t297 (by decide) t270), (SAME.at t297 (by decide) t271), (SAME.at t297 (by decide) (SAME.at t260 (by decide) (SAME.at t226 (by decide) e_onces))), r286, r288, r289, r290, r287, (show 0 ≤ (0 : Int32).toInt ∧ (0 : Int32).toInt ≤ 1 by decide), (by have zl0 : (0 : Int32).toInt = 0 := (by decide); omega), (by omega), rfl⟩
            · refine hp.elim (fun F302 h9z => h9z.elim (fun y303 h9z => h9z.elim (fun y304 h9z => h9z.elim (fun y305 h9z => h9z.elim (fun y306 h9z => h9z.elim (fun y307 h9z => h9z.elim (fun y308 h9z => h9z.elim (fun y309 h9z => h9z.elim (fun t310 h9z => h9z.elim (fun t311 h9z => h9z.elim (fun t312 h9z => h9z.elim (fun t313 h9z => h9z.elim (fun t314 h9z => h9z.elim (fun t315 h9z => h9z.elim (fun t316 h9z => h9z.elim (fun t317 h9z => h9z.elim (fun t318 h9z => h9z.elim (fun t319 h9z => h9z.elim (fun t320 h9z => h9z.elim (fun t321 h9z => h9z.elim (fun t322 h9z => h9z.elim (fun t323 h9z => h9z.elim (fun t324 h9z => h9z.elim (fun t325 h9z => h9z.elim (fun t326 h9z => h9z.elim (fun heq925 h9z => ?_))))))))))))))))))))))))))
              subst heq925
              subst h9z
              have hP : va_P D vwCl [(h_h, .inl (cI, 104, .inl g285)), (h_names, .inl (cJ, 36, .inr (.inl f_names))), (h_reserved, .inl (cJ, 23, .inr (.inl f_reserved))), (h0, .inr (10, vL 67 F302)), (h_tape, .inl (cB, 940, .inl f_tape))] H := hP
              have hD : va_D A [(h_h, .inl (cI, 104, .inl g285)), (h_names, .inl (cJ, 36, .inr (.inl f_names))), (h_reserved, .inl (cJ, 23, .inr (.inl f_reserved))), (h0, .inr (10, vL 67 F302)), (h_tape, .inl (cB, 940, .inl f_tape))] := hD
              refine W.widen (k := 0) (n := 0) (Nat.le_of_ble_eq_true rfl) (Nat.le_of_ble_eq_true rfl) ?_
              have k328 : 2 ≤ y254.toInt ∧ y254.toInt ≤ 2 := ⟨Int.le_trans (Int.le_refl _) (Int.le_of_eq t322.symm), Int.le_trans (Int.le_of_eq t322) (Int.le_refl _)⟩
              have k329 : 0 ≤ y257.toInt ∧ y257.toInt ≤ 2147483647 := ⟨Int.le_trans (Int.le_refl _) t323, (ir_any _).2⟩
              have k330 : 0 ≤ y257.toInt ∧ y257.toInt ≤ 9 := ⟨k329.1, Int.le_trans t324 (Int.le_refl _)⟩
              refine lv_if_ne (tgt := 319) hx hb dX10_line0_314 (by decide) (fun _ => ?_) (fun g => absurd g (by decide))
              refine lv_aload_n hx hb dX10_line0_319 rfl (lv_at hl 2 rfl) ?_
              have n331 : F302 7 = .ref h_h := (SAME.at t310 (by decide) n282)
              refine get_f (D := D) (ci := 10) (v := .ref h_h) (C := RX10) (T := TX10) (N := 67) hx hb hw inAX10 hown hK hP 3 rfl rfl 7 (by decide) (hw _ q_1268) (fun _ h9 => h9) n331 dX10_line0_320 ?_
              refine lv_bipush (v := 56) hx hb dX10_line0_323 (by decide) ?_
              refine lv_iload_n hx hb dX10_line0_325 rfl (lv_at hl 0 rfl) ?_
              refine lv_iadd hx hb dX10_line0_326 ?_
              refine lv_topi (fun v332 ev332 => ?_)
              have bv332 : v332.toInt = 56 + v214.toInt := by rw [ev332]; exact add_k rfl rfl ⟨Int.le_refl _, Int.le_refl _⟩ k217 (by decide)
              have k333 : 56 ≤ v332.toInt ∧ v332.toInt ≤ 67 := add_r bv332 ⟨Int.le_refl _, Int.le_refl _⟩ k217 (by decide)
              refine lv_aload_n hx hb dX10_line0_327 rfl (lv_at hl 2 rfl) ?_
              refine get_f (D := D) (ci := 10) (v := .int y309) (C := RX10) (T := TX10) (N := 67) hx hb hw inAX10 hown hK hP 3 rfl rfl 19 (by decide) (hw _ q_1280) (fun _ h9 => h9) t321 dX10_line0_328 ?_
              obtain ⟨g334, eg334⟩ : ∃ z : Nat → Int32, upd g285 v332.toNatClampNeg y309 = z := ⟨_, rfl⟩
              have r335 : SG 0 0 0 40 g334 := by rw [← eg334]; exact r286.up (Int.le_trans (by decide) k333.1) (Or.inr (Or.inl (dec_lt k333.1 (by decide))))
              have r336 : SG 44 55 0 9 g334 := by rw [← eg334]; exact r287.up (Int.le_trans (by decide) k333.1) (Or.inr (Or.inl (dec_lt k333.1 (by decide))))
              have r337 : SG 5 5 0 12 g334 := by rw [← eg334]; exact r288.up (Int.le_trans (by decide) k333.1) (Or.inr (Or.inl (dec_lt k333.1 (by decide))))
              have r338 : SG 6 6 0 12 g334 := by rw [← eg334]; exact r289.up (Int.le_trans (by decide) k333.1) (Or.inr (Or.inl (dec_lt k333.1 (by decide))))
              have r339 : SG 7 7 0 6 g334 := by rw [← eg334]; exact r290.up (Int.le_trans (by decide) k333.1) (Or.inr (Or.inl (dec_lt k333.1 (by decide))))
              refine iast_g hx hb hK hP hD hS 0 0 rfl rfl (ix_k k333 (by decide) (by decide)) eg334 dX10_line0_331 (fun H locs hP hD hS => ?_)
              have hP : va_P D vwCl [(h_h, .inl (cI, 104, .inl g334)), (h_names, .inl (cJ, 36, .inr (.inl f_names))), (h_reserved, .inl (cJ, 23, .inr (.inl f_reserved))), (h0, .inr (10, vL 67 F302)), (h_tape, .inl (cB, 940, .inl f_tape))] H := hP
              have hD : va_D A [(h_h, .inl (cI, 104, .inl g334)), (h_names, .inl (cJ, 36, .inr (.inl f_names))), (h_reserved, .inl (cJ, 23, .inr (.inl f_reserved))), (h0, .inr (10, vL 67 F302)), (h_tape, .inl (cB, 940, .inl f_tape))] := hD
              refine lv_aload_n hx hb dX10_line0_332 rfl (lv_at hl 2 rfl) ?_
              refine lv_iconst (v := 0) hx hb dX10_line0_333 (by decide) ?_
              refine lv_bipush (v := 9) hx hb dX10_line0_334 (by decide) ?_
              have n340 : F302 1 = .ref h_tape := (SAME.at t310 (by decide) n291)
              have n341 : F302 3 = .int x_size := (SAME.at t310 (by decide) n292)
              have n342 : F302 5 = .int x_limit := (SAME.at t310 (by decide) n293)
              refine call_Vi (wr := [(h_h, .inl (cI, 104, .inl g334)), (h_names, .inl (cJ, 36, .inr (.inl f_names))), (h_reserved, .inl (cJ, 23, .inr (.inl f_reserved)))]) (As := [.int 0, .int 9]) (rest := []) hx hb hml hown hw (m_X10_takes l D cI cJ cB cP cM cZ h0 h_tape F302 x_size y303 x_limit y304 y305 y307 y308 f_tape 0 9 _ n340 n341 i_x_size t311 t312 n342 i_x_limit t313 t314 t315 t319 t320 (by omega)) wV_X10_242_X10_takes dX10_line0_336 hK hP hD hS hA [3, 4] [0, 1, 2] rfl rfl (by decide) (by decide) (by decide) 0 10 rfl rfl GG.fb hG.at hl.1 rfl (Nat.le_of_ble_eq_true rfl) ⟨(Nat.le_of_ble_eq_true rfl), (Nat.le_of_ble_eq_true rfl)⟩ ⟨(Nat.le_of_ble_eq_true rfl), (Nat.le_of_ble_eq_true rfl)⟩ (fun r343 u H locs hp hP hD hS => ?_)
              rcases hp with hp | hp
              · obtain ⟨F344, y345, t346, t347, t348, t349, t350, rfl, rfl⟩ := hp
                have hP : va_P D vwCl [(h_h, .inl (cI, 104, .inl g334)), (h_names, .inl (cJ, 36, .inr (.inl f_names))), (h_reserved, .inl (cJ, 23, .inr (.inl f_reserved))), (h0, .inr (10, vL 67 F344)), (h_tape, .inl (cB, 940, .inl f_tape))] H := hP
                have hD : va_D A [(h_h, .inl (cI, 104, .inl g334)), (h_names, .inl (cJ, 36, .inr (.inl f_names))), (h_reserved, .inl (cJ, 23, .inr (.inl f_reserved))), (h0, .inr (10, vL 67 F344)), (h_tape, .inl (cB, 940, .inl f_tape))] := hD
                refine W.widen (k := 0) (n := 0) (Nat.le_of_ble_eq_true rfl) (Nat.le_of_ble_eq_true rfl) ?_
                refine lv_if_ne (tgt := 344) hx hb dX10_line0_339 (by decide) (fun g => absurd (by decide) g) (fun _ => ?_)
                refine lv_iconst (v := 0) hx hb dX10_line0_342 (by decide) ?_
                exact ret_i (v := 0) hx hb hr hlocks hS (hP.sub (ws' := [(h0, .inr (10, vL 67 F344)), (h_tape, .inl (cB, 940, .inl f_tape)), (h_h, .inl (cI, 104, .inl g334)), (h_names, .inl (cJ, 36, .inr (.inl f_names))), (h_reserved, .inl (cJ, 23, .inr (.inl f_reserved)))]) [3, 4, 0, 1, 2] rfl) (hD.sub (ws' := [(h0, .inr (10, vL 67 F344)), (h_tape, .inl (cB, 940, .inl f_tape)), (h_h, .inl (cI, 104, .inl g334)), (h_names, .inl (cJ, 36, .inr (.inl f_names))), (h_reserved, .inl (cJ, 23, .inr (.inl f_reserved)))]) [3, 4, 0, 1, 2] (by decide) rfl) dX10_line0_343 rfl (Nat.le_of_ble_eq_true rfl) (Nat.le_of_ble_eq_true rfl) ⟨F344, y303, y304, y305, y306, y307, y345, y305, y308, y309, x_onces, g334, f_names, (SAME.tr (SAME.tr (SAME.tr (SAME.tr SAME.rf t226 (by decide)) t260 (by decide)) t310 (by decide)) t346 (by decide)), (SAME.at t346 (by decide) t311), t312, (SAME.at t346 (by decide) t313), t314, (SAME.at t346 (by decide) t315), (SAME.at t346 (by decide) t317), (SAME.at t346 (by decide) t319), t347, t349, (SAME.at t346 (by decide) t320), (SAME.at t346 (by decide) t321), (SAME.at t346 (by decide) (SAME.at t310 (by decide) (SAME.at t260 (by decide) (SAME.at t226 (by decide) e_onces)))), r335, r337, r338, r339, r336, (show 0 ≤ (0 : Int32).toInt ∧ (0 : Int32).toInt ≤ 1 by decide), (by have zl0 : (0 : Int32).toInt = 0 := (by decide); omega), (by omega), rfl⟩
              · refine hp.elim (fun F351 h9z => h9z.elim (fun y352 h9z => h9z.elim (fun y353 h9z => h9z.elim (fun y354 h9z => h9z.elim (fun y355 h9z => h9z.elim (fun y356 h9z => h9z.elim (fun y357 h9z => h9z.elim (fun y358 h9z => h9z.elim (fun t359 h9z => h9z.elim (fun t360 h9z => h9z.elim (fun t361 h9z => h9z.elim (fun t362 h9z => h9z.elim (fun t363 h9z => h9z.elim (fun t364 h9z => h9z.elim (fun t365 h9z => h9z.elim (fun t366 h9z => h9z.elim (fun t367 h9z => h9z.elim (fun t368 h9z => h9z.elim (fun t369 h9z => h9z.elim (fun t370 h9z => h9z.elim (fun t371 h9z => h9z.elim (fun t372 h9z => h9z.elim (fun t373 h9z => h9z.elim (fun t374 h9z => h9z.elim (fun t375 h9z => h9z.elim (fun heq925 h9z => ?_))))))))))))))))))))))))))
                subst heq925
                subst h9z
                have hP : va_P D vwCl [(h_h, .inl (cI, 104, .inl g334)), (h_names, .inl (cJ, 36, .inr (.inl f_names))), (h_reserved, .inl (cJ, 23, .inr (.inl f_reserved))), (h0, .inr (10, vL 67 F351)), (h_tape, .inl (cB, 940, .inl f_tape))] H := hP
                have hD : va_D A [(h_h, .inl (cI, 104, .inl g334)), (h_names, .inl (cJ, 36, .inr (.inl f_names))), (h_reserved, .inl (cJ, 23, .inr (.inl f_reserved))), (h0, .inr (10, vL 67 F351)), (h_tape, .inl (cB, 940, .inl f_tape))] := hD
                refine W.widen (k := 0) (n := 0) (Nat.le_of_ble_eq_true rfl) (Nat.le_of_ble_eq_true rfl) ?_
                have k377 : 2 ≤ y304.toInt ∧ y304.toInt ≤ 2 := ⟨Int.le_trans (Int.le_refl _) (Int.le_of_eq t371.symm), Int.le_trans (Int.le_of_eq t371) (Int.le_refl _)⟩
                have k378 : 0 ≤ y307.toInt ∧ y307.toInt ≤ 2147483647 := ⟨Int.le_trans (Int.le_refl _) t372, (ir_any _).2⟩
                have k379 : 0 ≤ y307.toInt ∧ y307.toInt ≤ 9 := ⟨k378.1, Int.le_trans t373 (Int.le_refl _)⟩
                refine lv_if_ne (tgt := 344) hx hb dX10_line0_339 (by decide) (fun _ => ?_) (fun g => absurd g (by decide))
                refine lv_aload_n hx hb dX10_line0_344 rfl (lv_at hl 2 rfl) ?_
                have n380 : F351 7 = .ref h_h := (SAME.at t359 (by decide) n331)
                refine get_f (D := D) (ci := 10) (v := .ref h_h) (C := RX10) (T := TX10) (N := 67) hx hb hw inAX10 hown hK hP 3 rfl rfl 7 (by decide) (hw _ q_1268) (fun _ h9 => h9) n380 dX10_line0_345 ?_
                refine lv_bipush (v := 68) hx hb dX10_line0_348 (by decide) ?_
                refine lv_iload_n hx hb dX10_line0_350 rfl (lv_at hl 0 rfl) ?_
                refine lv_iadd hx hb dX10_line0_351 ?_
                refine lv_topi (fun v381 ev381 => ?_)
                have bv381 : v381.toInt = 68 + v214.toInt := by rw [ev381]; exact add_k rfl rfl ⟨Int.le_refl _, Int.le_refl _⟩ k217 (by decide)
                have k382 : 68 ≤ v381.toInt ∧ v381.toInt ≤ 79 := add_r bv381 ⟨Int.le_refl _, Int.le_refl _⟩ k217 (by decide)
                refine lv_aload_n hx hb dX10_line0_352 rfl (lv_at hl 2 rfl) ?_
                refine get_f (D := D) (ci := 10) (v := .int y358) (C := RX10) (T := TX10) (N := 67) hx hb hw inAX10 hown hK hP 3 rfl rfl 19 (by decide) (hw _ q_1280) (fun _ h9 => h9) t370 dX10_line0_353 ?_
                obtain ⟨g383, eg383⟩ : ∃ z : Nat → Int32, upd g334 v381.toNatClampNeg y358 = z := ⟨_, rfl⟩
                have r384 : SG 0 0 0 40 g383 := by rw [← eg383]; exact r335.up (Int.le_trans (by decide) k382.1) (Or.inr (Or.inl (dec_lt k382.1 (by decide))))
                have r385 : SG 44 55 0 9 g383 := by rw [← eg383]; exact r336.up (Int.le_trans (by decide) k382.1) (Or.inr (Or.inl (dec_lt k382.1 (by decide))))
                have r386 : SG 5 5 0 12 g383 := by rw [← eg383]; exact r337.up (Int.le_trans (by decide) k382.1) (Or.inr (Or.inl (dec_lt k382.1 (by decide))))
                have r387 : SG 6 6 0 12 g383 := by rw [← eg383]; exact r338.up (Int.le_trans (by decide) k382.1) (Or.inr (Or.inl (dec_lt k382.1 (by decide))))
                have r388 : SG 7 7 0 6 g383 := by rw [← eg383]; exact r339.up (Int.le_trans (by decide) k382.1) (Or.inr (Or.inl (dec_lt k382.1 (by decide))))
                refine iast_g hx hb hK hP hD hS 0 0 rfl rfl (ix_k k382 (by decide) (by decide)) eg383 dX10_line0_356 (fun H locs hP hD hS => ?_)
                have hP : va_P D vwCl [(h_h, .inl (cI, 104, .inl g383)), (h_names, .inl (cJ, 36, .inr (.inl f_names))), (h_reserved, .inl (cJ, 23, .inr (.inl f_reserved))), (h0, .inr (10, vL 67 F351)), (h_tape, .inl (cB, 940, .inl f_tape))] H := hP
                have hD : va_D A [(h_h, .inl (cI, 104, .inl g383)), (h_names, .inl (cJ, 36, .inr (.inl f_names))), (h_reserved, .inl (cJ, 23, .inr (.inl f_reserved))), (h0, .inr (10, vL 67 F351)), (h_tape, .inl (cB, 940, .inl f_tape))] := hD
                refine lv_aload_n hx hb dX10_line0_357 rfl (lv_at hl 2 rfl) ?_
                refine lv_iconst (v := 1) hx hb dX10_line0_358 (by decide) ?_
                refine lv_bipush (v := 99) hx hb dX10_line0_359 (by decide) ?_
                have n389 : F351 1 = .ref h_tape := (SAME.at t359 (by decide) n340)
                have n390 : F351 3 = .int x_size := (SAME.at t359 (by decide) n341)
                have n391 : F351 5 = .int x_limit := (SAME.at t359 (by decide) n342)
                refine call_Vi (wr := [(h_h, .inl (cI, 104, .inl g383)), (h_names, .inl (cJ, 36, .inr (.inl f_names))), (h_reserved, .inl (cJ, 23, .inr (.inl f_reserved)))]) (As := [.int 1, .int 99]) (rest := []) hx hb hml hown hw (m_X10_takes l D cI cJ cB cP cM cZ h0 h_tape F351 x_size y352 x_limit y353 y354 y356 y357 f_tape 1 99 _ n389 n390 i_x_size t360 t361 n391 i_x_limit t362 t363 t364 t368 t369 (by omega)) wV_X10_242_X10_takes dX10_line0_361 hK hP hD hS hA [3, 4] [0, 1, 2] rfl rfl (by decide) (by decide) (by decide) 0 10 rfl rfl GG.fb hG.at hl.1 rfl (Nat.le_of_ble_eq_true rfl) ⟨(Nat.le_of_ble_eq_true rfl), (Nat.le_of_ble_eq_true rfl)⟩ ⟨(Nat.le_of_ble_eq_true rfl), (Nat.le_of_ble_eq_true rfl)⟩ (fun r392 u H locs hp hP hD hS => ?_)
                have zl99 : (99 : Int32).toInt = 99 := by decide
                rcases hp with hp | hp
                · obtain ⟨F393, y394, t395, t396, t397, t398, t399, rfl, rfl⟩ := hp
                  have hP : va_P D vwCl [(h_h, .inl (cI, 104, .inl g383)), (h_names, .inl (cJ, 36, .inr (.inl f_names))), (h_reserved, .inl (cJ, 23, .inr (.inl f_reserved))), (h0, .inr (10, vL 67 F393)), (h_tape, .inl (cB, 940, .inl f_tape))] H := hP
                  have hD : va_D A [(h_h, .inl (cI, 104, .inl g383)), (h_names, .inl (cJ, 36, .inr (.inl f_names))), (h_reserved, .inl (cJ, 23, .inr (.inl f_reserved))), (h0, .inr (10, vL 67 F393)), (h_tape, .inl (cB, 940, .inl f_tape))] := hD
                  refine W.widen (k := 0) (n := 0) (Nat.le_of_ble_eq_true rfl) (Nat.le_of_ble_eq_true rfl) ?_
                  refine lv_if_ne (tgt := 369) hx hb dX10_line0_364 (by decide) (fun g => absurd (by decide) g) (fun _ => ?_)
                  refine lv_iconst (v := 0) hx hb dX10_line0_367 (by decide) ?_
                  exact ret_i (v := 0) hx hb hr hlocks hS (hP.sub (ws' := [(h0, .inr (10, vL 67 F393)), (h_tape, .inl (cB, 940, .inl f_tape)), (h_h, .inl (cI, 104, .inl g383)), (h_names, .inl (cJ, 36, .inr (.inl f_names))), (h_reserved, .inl (cJ, 23, .inr (.inl f_reserved)))]) [3, 4, 0, 1, 2] rfl) (hD.sub (ws' := [(h0, .inr (10, vL 67 F393)), (h_tape, .inl (cB, 940, .inl f_tape)), (h_h, .inl (cI, 104, .inl g383)), (h_names, .inl (cJ, 36, .inr (.inl f_names))), (h_reserved, .inl (cJ, 23, .inr (.inl f_reserved)))]) [3, 4, 0, 1, 2] (by decide) rfl) dX10_line0_368 rfl (Nat.le_of_ble_eq_true rfl) (Nat.le_of_ble_eq_true rfl) ⟨F393, y352, y353, y354, y355, y356, y394, y354, y357, y358, x_onces, g383, f_names, (SAME.tr (SAME.tr (SAME.tr (SAME.tr (SAME.tr SAME.rf t226 (by decide)) t260 (by decide)) t310 (by decide)) t359 (by decide)) t395 (by decide)), (SAME.at t395 (by decide) t360), t361, (SAME.at t395 (by decide) t362), t363, (SAME.at t395 (by decide) t364), (SAME.at t395 (by decide) t366), (SAME.at t395 (by decide) t368), t396, t398, (SAME.at t395 (by decide) t369), (SAME.at t395 (by decide) t370), (SAME.at t395 (by decide) (SAME.at t359 (by decide) (SAME.at t310 (by decide) (SAME.at t260 (by decide) (SAME.at t226 (by decide) e_onces))))), r384, r386, r387, r388, r385, (show 0 ≤ (0 : Int32).toInt ∧ (0 : Int32).toInt ≤ 1 by decide), (by have zl0 : (0 : Int32).toInt = 0 := (by decide); omega), (by omega), rfl⟩
                · refine hp.elim (fun F400 h9z => h9z.elim (fun y401 h9z => h9z.elim (fun y402 h9z => h9z.elim (fun y403 h9z => h9z.elim (fun y404 h9z => h9z.elim (fun y405 h9z => h9z.elim (fun y406 h9z => h9z.elim (fun y407 h9z => h9z.elim (fun t408 h9z => h9z.elim (fun t409 h9z => h9z.elim (fun t410 h9z => h9z.elim (fun t411 h9z => h9z.elim (fun t412 h9z => h9z.elim (fun t413 h9z => h9z.elim (fun t414 h9z => h9z.elim (fun t415 h9z => h9z.elim (fun t416 h9z => h9z.elim (fun t417 h9z => h9z.elim (fun t418 h9z => h9z.elim (fun t419 h9z => h9z.elim (fun t420 h9z => h9z.elim (fun t421 h9z => h9z.elim (fun t422 h9z => h9z.elim (fun t423 h9z => h9z.elim (fun t424 h9z => h9z.elim (fun heq925 h9z => ?_))))))))))))))))))))))))))
                  subst heq925
                  subst h9z
                  have hP : va_P D vwCl [(h_h, .inl (cI, 104, .inl g383)), (h_names, .inl (cJ, 36, .inr (.inl f_names))), (h_reserved, .inl (cJ, 23, .inr (.inl f_reserved))), (h0, .inr (10, vL 67 F400)), (h_tape, .inl (cB, 940, .inl f_tape))] H := hP
                  have hD : va_D A [(h_h, .inl (cI, 104, .inl g383)), (h_names, .inl (cJ, 36, .inr (.inl f_names))), (h_reserved, .inl (cJ, 23, .inr (.inl f_reserved))), (h0, .inr (10, vL 67 F400)), (h_tape, .inl (cB, 940, .inl f_tape))] := hD
                  refine W.widen (k := 0) (n := 0) (Nat.le_of_ble_eq_true rfl) (Nat.le_of_ble_eq_true rfl) ?_
                  have k426 : 2 ≤ y353.toInt ∧ y353.toInt ≤ 2 := ⟨Int.le_trans (Int.le_refl _) (Int.le_of_eq t420.symm), Int.le_trans (Int.le_of_eq t420) (Int.le_refl _)⟩
                  have k427 : 1 ≤ y356.toInt ∧ y356.toInt ≤ 2147483647 := ⟨Int.le_trans (Int.le_refl _) t421, (ir_any _).2⟩
                  have k428 : 1 ≤ y356.toInt ∧ y356.toInt ≤ 99 := ⟨k427.1, Int.le_trans t422 (Int.le_refl _)⟩
                  refine lv_if_ne (tgt := 369) hx hb dX10_line0_364 (by decide) (fun _ => ?_) (fun g => absurd g (by decide))
                  refine lv_aload_n hx hb dX10_line0_369 rfl (lv_at hl 2 rfl) ?_
                  have n429 : F400 7 = .ref h_h := (SAME.at t408 (by decide) n380)
                  refine get_f (D := D) (ci := 10) (v := .ref h_h) (C := RX10) (T := TX10) (N := 67) hx hb hw inAX10 hown hK hP 3 rfl rfl 7 (by decide) (hw _ q_1268) (fun _ h9 => h9) n429 dX10_line0_370 ?_
                  refine lv_bipush (v := 80) hx hb dX10_line0_373 (by decide) ?_
                  refine lv_iload_n hx hb dX10_line0_375 rfl (lv_at hl 0 rfl) ?_
                  refine lv_iadd hx hb dX10_line0_376 ?_
                  refine lv_topi (fun v430 ev430 => ?_)
                  have bv430 : v430.toInt = 80 + v214.toInt := by rw [ev430]; exact add_k rfl rfl ⟨Int.le_refl _, Int.le_refl _⟩ k217 (by decide)
                  have k431 : 80 ≤ v430.toInt ∧ v430.toInt ≤ 91 := add_r bv430 ⟨Int.le_refl _, Int.le_refl _⟩ k217 (by decide)
                  refine lv_aload_n hx hb dX10_line0_377 rfl (lv_at hl 2 rfl) ?_
                  refine get_f (D := D) (ci := 10) (v := .int y407) (C := RX10) (T := TX10) (N := 67) hx hb hw inAX10 hown hK hP 3 rfl rfl 19 (by decide) (hw _ q_1280) (fun _ h9 => h9) t419 dX10_line0_378 ?_
                  obtain ⟨g432, eg432⟩ : ∃ z : Nat → Int32, upd g383 v430.toNatClampNeg y407 = z := ⟨_, rfl⟩
                  have r433 : SG 0 0 0 40 g432 := by rw [← eg432]; exact r384.up (Int.le_trans (by decide) k431.1) (Or.inr (Or.inl (dec_lt k431.1 (by decide))))
                  have r434 : SG 44 55 0 9 g432 := by rw [← eg432]; exact r385.up (Int.le_trans (by decide) k431.1) (Or.inr (Or.inl (dec_lt k431.1 (by decide))))
                  have r435 : SG 5 5 0 12 g432 := by rw [← eg432]; exact r386.up (Int.le_trans (by decide) k431.1) (Or.inr (Or.inl (dec_lt k431.1 (by decide))))
                  have r436 : SG 6 6 0 12 g432 := by rw [← eg432]; exact r387.up (Int.le_trans (by decide) k431.1) (Or.inr (Or.inl (dec_lt k431.1 (by decide))))
                  have r437 : SG 7 7 0 6 g432 := by rw [← eg432]; exact r388.up (Int.le_trans (by decide) k431.1) (Or.inr (Or.inl (dec_lt k431.1 (by decide))))
                  refine iast_g hx hb hK hP hD hS 0 0 rfl rfl (ix_k k431 (by decide) (by decide)) eg432 dX10_line0_381 (fun H locs hP hD hS => ?_)
                  have hP : va_P D vwCl [(h_h, .inl (cI, 104, .inl g432)), (h_names, .inl (cJ, 36, .inr (.inl f_names))), (h_reserved, .inl (cJ, 23, .inr (.inl f_reserved))), (h0, .inr (10, vL 67 F400)), (h_tape, .inl (cB, 940, .inl f_tape))] H := hP
                  have hD : va_D A [(h_h, .inl (cI, 104, .inl g432)), (h_names, .inl (cJ, 36, .inr (.inl f_names))), (h_reserved, .inl (cJ, 23, .inr (.inl f_reserved))), (h0, .inr (10, vL 67 F400)), (h_tape, .inl (cB, 940, .inl f_tape))] := hD
                  refine lv_aload_n hx hb dX10_line0_382 rfl (lv_at hl 2 rfl) ?_
                  refine get_f (D := D) (ci := 10) (v := .ref h_h) (C := RX10) (T := TX10) (N := 67) hx hb hw inAX10 hown hK hP 3 rfl rfl 7 (by decide) (hw _ q_1268) (fun _ h9 => h9) n429 dX10_line0_383 ?_
                  refine lv_bipush (v := 6) hx hb dX10_line0_386 (by decide) ?_
                  refine lv_dup2_11 hx hb dX10_line0_388 rfl rfl ?_
                  refine iald_n hx hb hK hP 0 0 rfl rfl 6 rfl (Nat.le_of_ble_eq_true rfl) (Nat.le_of_ble_eq_true rfl) rfl dX10_line0_389 ?_
                  refine lv_topi (fun v438 ev438 => ?_)
                  have k439 : 0 ≤ v438.toInt ∧ v438.toInt ≤ 12 := by rw [ev438]; exact r436.atN 6 (by decide) (by decide)
                  refine lv_iconst (v := 1) hx hb dX10_line0_390 (by decide) ?_
                  refine lv_iadd hx hb dX10_line0_391 ?_
                  refine lv_topi (fun v440 ev440 => ?_)
                  have bv440 : v440.toInt = v438.toInt + 1 := by rw [ev440]; exact add_k rfl rfl k439 ⟨Int.le_refl _, Int.le_refl _⟩ (by decide)
                  have k441 : 1 ≤ v440.toInt ∧ v440.toInt ≤ 13 := add_r bv440 k439 ⟨Int.le_refl _, Int.le_refl _⟩ (by decide)
                  obtain ⟨g442, eg442⟩ : ∃ z : Nat → Int32, upd g432 6 v440 = z := ⟨_, rfl⟩
                  have r443 : SG 0 0 0 40 g442 := by rw [← eg442]; exact r433.upN (by decide)
                  have r444 : SG 44 55 0 9 g442 := by rw [← eg442]; exact r434.upN (by decide)
                  have r445 : SG 5 5 0 12 g442 := by rw [← eg442]; exact r435.upN (by decide)
                  have r446 : SG 6 6 0 12 g442 := by rw [← eg442]; exact r436.upN (by omega)
                  have r447 : SG 7 7 0 6 g442 := by rw [← eg442]; exact r437.upN (by decide)
                  refine iast_n hx hb hK hP hD hS 0 0 rfl rfl 6 rfl (Nat.le_of_ble_eq_true rfl) (Nat.le_of_ble_eq_true rfl) eg442 dX10_line0_392 (fun H locs hP hD hS => ?_)
                  have hP : va_P D vwCl [(h_h, .inl (cI, 104, .inl g442)), (h_names, .inl (cJ, 36, .inr (.inl f_names))), (h_reserved, .inl (cJ, 23, .inr (.inl f_reserved))), (h0, .inr (10, vL 67 F400)), (h_tape, .inl (cB, 940, .inl f_tape))] H := hP
                  have hD : va_D A [(h_h, .inl (cI, 104, .inl g442)), (h_names, .inl (cJ, 36, .inr (.inl f_names))), (h_reserved, .inl (cJ, 23, .inr (.inl f_reserved))), (h0, .inr (10, vL 67 F400)), (h_tape, .inl (cB, 940, .inl f_tape))] := hD
                  refine lv_iconst (v := 1) hx hb dX10_line0_393 (by decide) ?_
                  exact ret_i (v := 1) hx hb hr hlocks hS (hP.sub (ws' := [(h0, .inr (10, vL 67 F400)), (h_tape, .inl (cB, 940, .inl f_tape)), (h_h, .inl (cI, 104, .inl g442)), (h_names, .inl (cJ, 36, .inr (.inl f_names))), (h_reserved, .inl (cJ, 23, .inr (.inl f_reserved)))]) [3, 4, 0, 1, 2] rfl) (hD.sub (ws' := [(h0, .inr (10, vL 67 F400)), (h_tape, .inl (cB, 940, .inl f_tape)), (h_h, .inl (cI, 104, .inl g442)), (h_names, .inl (cJ, 36, .inr (.inl f_names))), (h_reserved, .inl (cJ, 23, .inr (.inl f_reserved)))]) [3, 4, 0, 1, 2] (by decide) rfl) dX10_line0_394 rfl (Nat.le_of_ble_eq_true rfl) (Nat.le_of_ble_eq_true rfl) ⟨F400, y401, y402, y403, y404, y405, x_fault, x_faultAt, y406, y407, x_onces, g442, f_names, (SAME.tr (SAME.tr (SAME.tr (SAME.tr (SAME.tr SAME.rf t226 (by decide)) t260 (by decide)) t310 (by decide)) t359 (by decide)) t408 (by decide)), t409, t410, t411, t412, t413, t415, t417, (SAME.at t408 (by decide) (SAME.at t359 (by decide) (SAME.at t310 (by decide) (SAME.at t260 (by decide) (SAME.at t226 (by decide) e_fault))))), (SAME.at t408 (by decide) (SAME.at t359 (by decide) (SAME.at t310 (by decide) (SAME.at t260 (by decide) (SAME.at t226 (by decide) e_faultAt))))), t418, t419, (SAME.at t408 (by decide) (SAME.at t359 (by decide) (SAME.at t310 (by decide) (SAME.at t260 (by decide) (SAME.at t226 (by decide) e_onces))))), r443, r445, r446, r447, r444, (show 0 ≤ (1 : Int32).toInt ∧ (1 : Int32).toInt ≤ 1 by decide), (by have zl1 : (1 : Int32).toInt = 1 := (by decide); omega), (by omega), rfl⟩
        · have dc216 : v214.toInt = 12 := eq_i (a := v214.toInt) (b := 12) rfl rfl c216
          have k448 : 12 ≤ v214.toInt ∧ v214.toInt ≤ 12 := ⟨Int.le_trans (Int.le_refl _) (Int.le_of_eq dc216.symm), k215.2⟩
          refine lv_aload_n hx hb dX10_line0_272 rfl (lv_at hl 2 rfl) ?_
          refine lv_iconst (v := 4) hx hb dX10_line0_273 (by decide) ?_
          refine call_Vi (wr := [(h_tape, .inl (cB, 940, .inl f_tape)), (h_h, .inl (cI, 104, .inl f_h)), (h_names, .inl (cJ, 36, .inr (.inl f_names))), (h_reserved, .inl (cJ, 23, .inr (.inl f_reserved)))]) (As := [.int 4]) (rest := []) hx hb hml hown hw (m_X10_bad l D cI cJ cB cP cM cZ h0 Fh x_at 4 _ e_at) wV_X10_205_X10_bad dX10_line0_274 hK hP hD hS hA [4] [0, 1, 2, 3] rfl rfl (by decide) (by decide) (by decide) 0 10 rfl rfl GG.fb hG.at hl.1 rfl (Nat.le_of_ble_eq_true rfl) ⟨(Nat.le_of_ble_eq_true rfl), (Nat.le_of_ble_eq_true rfl)⟩ ⟨(Nat.le_of_ble_eq_true rfl), (Nat.le_of_ble_eq_true rfl)⟩ (fun r449 u H locs hp hP hD hS => ?_)
          have zl4 : (4 : Int32).toInt = 4 := by decide
          obtain ⟨F450, t451, t452, t453, rfl, rfl⟩ := hp
          have hP : va_P D vwCl [(h_tape, .inl (cB, 940, .inl f_tape)), (h_h, .inl (cI, 104, .inl f_h)), (h_names, .inl (cJ, 36, .inr (.inl f_names))), (h_reserved, .inl (cJ, 23, .inr (.inl f_reserved))), (h0, .inr (10, vL 67 F450))] H := hP
          have hD : va_D A [(h_tape, .inl (cB, 940, .inl f_tape)), (h_h, .inl (cI, 104, .inl f_h)), (h_names, .inl (cJ, 36, .inr (.inl f_names))), (h_reserved, .inl (cJ, 23, .inr (.inl f_reserved))), (h0, .inr (10, vL 67 F450))] := hD
          refine W.widen (k := 0) (n := 0) (Nat.le_of_ble_eq_true rfl) (Nat.le_of_ble_eq_true rfl) ?_
          exact ret_i (v := 0) hx hb hr hlocks hS (hP.sub (ws' := [(h0, .inr (10, vL 67 F450)), (h_tape, .inl (cB, 940, .inl f_tape)), (h_h, .inl (cI, 104, .inl f_h)), (h_names, .inl (cJ, 36, .inr (.inl f_names))), (h_reserved, .inl (cJ, 23, .inr (.inl f_reserved)))]) [4, 0, 1, 2, 3] rfl) (hD.sub (ws' := [(h0, .inr (10, vL 67 F450)), (h_tape, .inl (cB, 940, .inl f_tape)), (h_h, .inl (cI, 104, .inl f_h)), (h_names, .inl (cJ, 36, .inr (.inl f_names))), (h_reserved, .inl (cJ, 23, .inr (.inl f_reserved)))]) [4, 0, 1, 2, 3] (by decide) rfl) dX10_line0_277 rfl (Nat.le_of_ble_eq_true rfl) (Nat.le_of_ble_eq_true rfl) ⟨F450, x_p, x_token, x_at, x_span, x_number, 4, x_at, x_word, x_got, x_onces, f_h, f_names, (SAME.tr SAME.rf t451 (by decide)), (SAME.at t451 (by decide) e_p), i_x_p, (SAME.at t451 (by decide) e_token), i_x_token, (SAME.at t451 (by decide) e_at), (SAME.at t451 (by decide) e_span), (SAME.at t451 (by decide) e_number), t452, t453, (SAME.at t451 (by decide) e_word), (SAME.at t451 (by decide) e_got), (SAME.at t451 (by decide) e_onces), s_h_0, s_h_5, s_h_6, s_h_7, s_h_44, (show 0 ≤ (0 : Int32).toInt ∧ (0 : Int32).toInt ≤ 1 by decide), (by have zl0 : (0 : Int32).toInt = 0 := (by decide); omega), (by have zl4 : (4 : Int32).toInt = 4 := (by decide); omega), rfl⟩
    · have dc10 : r6.toInt ≠ 0 := ne_i (a := r6.toInt) (b := 0) rfl rfl c10
      have k455 : 1 ≤ r6.toInt ∧ r6.toInt ≤ 1 := ⟨ne_lo dc10 t7.1 ⟨Int.le_refl _, Int.le_refl _⟩ (by decide), t7.2⟩
      refine lv_aload_n hx hb dX10_line0_123 rfl (lv_at hl 1 rfl) ?_
      refine get_f (D := D) (ci := 10) (v := .ref h_h) (C := RX10) (T := TX10) (N := 67) hx hb hw inAX10 hown hK hP 4 rfl rfl 7 (by decide) (hw _ q_1268) (fun _ h9 => h9) e_h dX10_line0_124 ?_
      refine lv_iconst (v := 5) hx hb dX10_line0_127 (by decide) ?_
      refine iald_n hx hb hK hP 1 0 rfl rfl 5 rfl (Nat.le_of_ble_eq_true rfl) (Nat.le_of_ble_eq_true rfl) rfl dX10_line0_128 ?_
      refine lv_topi (fun v456 ev456 => ?_)
      have k457 : 0 ≤ v456.toInt ∧ v456.toInt ≤ 12 := by rw [ev456]; exact s_h_5.atN 5 (by decide) (by decide)
      refine lv_istore_n (lv' := [(2, .int v456), (1, .int r1), (0, .ref h0)]) hx hb dX10_line0_129 rfl hl (by decide) rfl (fun ls hl => ?_)
      refine lv_iload_n hx hb dX10_line0_130 rfl (lv_at hl 0 rfl) ?_
      refine lv_bipush (v := 12) hx hb dX10_line0_131 (by decide) ?_
      refine lv_icmp_ne (tgt := 142) hx hb dX10_line0_133 (by decide) (fun c458 => ?_) (fun c458 => ?_)
      · have dc458 : v456.toInt ≠ 12 := ne_i (a := v456.toInt) (b := 12) rfl rfl c458
        have k459 : 0 ≤ v456.toInt ∧ v456.toInt ≤ 11 := ⟨k457.1, ne_hi dc458 k457.2 ⟨Int.le_refl _, Int.le_refl _⟩ (by decide)⟩
        refine lv_aload_n hx hb dX10_line0_142 rfl (lv_at hl 2 rfl) ?_
        refine call_Vv (wr := [(h_h, .inl (cI, 104, .inl f_h)), (h_names, .inl (cJ, 36, .inr (.inl f_names))), (h_reserved, .inl (cJ, 23, .inr (.inl f_reserved)))]) (As := []) (rest := []) hx hb hml hown hw (m_X10_next l D cI cJ cB cP cM cZ h0 h_tape Fh x_size x_p x_limit x_token x_number x_word f_tape _ e_tape e_size i_x_size e_p i_x_p e_limit i_x_limit e_token i_x_token e_number e_word (by omega)) wV_X10_208_X10_next dX10_line0_143 hK hP hD hS hA [4, 0] [1, 2, 3] rfl rfl (by decide) (by decide) (by decide) 0 10 rfl rfl GG.fb hG.at hl.1 rfl (Nat.le_of_ble_eq_true rfl) ⟨(Nat.le_of_ble_eq_true rfl), (Nat.le_of_ble_eq_true rfl)⟩ ⟨(Nat.le_of_ble_eq_true rfl), (Nat.le_of_ble_eq_true rfl)⟩ (fun u H locs hp hP hD hS => ?_)
        obtain ⟨F461, y462, y463, y464, y465, y466, y467, t468, t469, t470, t471, t472, t473, t474, t475, t476, t477, t478, t479, t480, t481, rfl⟩ := hp
        have hP : va_P D vwCl [(h_h, .inl (cI, 104, .inl f_h)), (h_names, .inl (cJ, 36, .inr (.inl f_names))), (h_reserved, .inl (cJ, 23, .inr (.inl f_reserved))), (h0, .inr (10, vL 67 F461)), (h_tape, .inl (cB, 940, .inl f_tape))] H := hP
        have hD : va_D A [(h_h, .inl (cI, 104, .inl f_h)), (h_names, .inl (cJ, 36, .inr (.inl f_names))), (h_reserved, .inl (cJ, 23, .inr (.inl f_reserved))), (h0, .inr (10, vL 67 F461)), (h_tape, .inl (cB, 940, .inl f_tape))] := hD
        refine W.widen (k := 0) (n := 0) (Nat.le_of_ble_eq_true rfl) (Nat.le_of_ble_eq_true rfl) ?_
        refine lv_aload_n hx hb dX10_line0_146 rfl (lv_at hl 2 rfl) ?_
        refine lv_bipush (v := 18) hx hb dX10_line0_147 (by decide) ?_
        refine lv_iload_n hx hb dX10_line0_149 rfl (lv_at hl 0 rfl) ?_
        refine lv_iadd hx hb dX10_line0_150 ?_
        refine lv_topi (fun v483 ev483 => ?_)
        have bv483 : v483.toInt = 18 + v456.toInt := by rw [ev483]; exact add_k rfl rfl ⟨Int.le_refl _, Int.le_refl _⟩ k459 (by decide)
        have k484 : 18 ≤ v483.toInt ∧ v483.toInt ≤ 29 := add_r bv483 ⟨Int.le_refl _, Int.le_refl _⟩ k459 (by decide)
        have n485 : F461 1 = .ref h_tape := (SAME.at t468 (by decide) e_tape)
        have n486 : F461 3 = .int x_size := (SAME.at t468 (by decide) e_size)
        have n487 : F461 5 = .int x_limit := (SAME.at t468 (by decide) e_limit)
        have n488 : F461 7 = .ref h_h := (SAME.at t468 (by decide) e_h)
        have n489 : F461 9 = .ref h_names := (SAME.at t468 (by decide) e_names)
        have n490 : F461 10 = .ref h_reserved := (SAME.at t468 (by decide) e_reserved)
        have n491 : F461 15 = .int x_fault := (SAME.at t468 (by decide) e_fault)
        have n492 : F461 16 = .int x_faultAt := (SAME.at t468 (by decide) e_faultAt)
        refine call_Vi (wr := []) (As := [.int v483]) (rest := []) hx hb hml hown hw (m_X10_fresh l D cI cJ cB cP cM cZ h0 h_tape h_h h_names h_reserved F461 x_size y462 x_limit y463 y464 y465 y466 x_fault x_faultAt y467 f_tape f_h f_names f_reserved v483 _ n485 n486 i_x_size t469 t470 n487 i_x_limit n488 n489 n490 t471 t472 t473 t475 t477 n491 n492 t478 s_h_0 s_h_44 s_h_5 s_h_6 s_h_7 (ir_wk k484 (by decide) (by decide)) (by omega)) wV_X10_245_X10_fresh dX10_line0_151 hK hP hD hS hA [3, 4, 0, 1, 2] [] rfl rfl (by decide) (by decide) (by decide) 0 10 rfl rfl GG.fb hG.at hl.1 rfl (Nat.le_of_ble_eq_true rfl) ⟨(Nat.le_of_ble_eq_true rfl), (Nat.le_of_ble_eq_true rfl)⟩ ⟨(Nat.le_of_ble_eq_true rfl), (Nat.le_of_ble_eq_true rfl)⟩ (fun r493 u H locs hp hP hD hS => ?_)
        refine hp.elim (fun F494 h9z => h9z.elim (fun y495 h9z => h9z.elim (fun y496 h9z => h9z.elim (fun y497 h9z => h9z.elim (fun y498 h9z => h9z.elim (fun y499 h9z => h9z.elim (fun y500 h9z => h9z.elim (fun y501 h9z => h9z.elim (fun y502 h9z => h9z.elim (fun g503 h9z => h9z.elim (fun t504 h9z => h9z.elim (fun t505 h9z => h9z.elim (fun t506 h9z => h9z.elim (fun t507 h9z => h9z.elim (fun t508 h9z => h9z.elim (fun t509 h9z => h9z.elim (fun t510 h9z => h9z.elim (fun t511 h9z => h9z.elim (fun t512 h9z => h9z.elim (fun t513 h9z => h9z.elim (fun t514 h9z => h9z.elim (fun t515 h9z => h9z.elim (fun t516 h9z => h9z.elim (fun t517 h9z => ?_))))))))))))))))))))))))
        subst h9z
        have hP : va_P D vwCl [(h0, .inr (10, vL 67 F494)), (h_tape, .inl (cB, 940, .inl f_tape)), (h_h, .inl (cI, 104, .inl f_h)), (h_names, .inl (cJ, 36, .inr (.inl g503))), (h_reserved, .inl (cJ, 23, .inr (.inl f_reserved)))] H := hP
        have hD : va_D A [(h0, .inr (10, vL 67 F494)), (h_tape, .inl (cB, 940, .inl f_tape)), (h_h, .inl (cI, 104, .inl f_h)), (h_names, .inl (cJ, 36, .inr (.inl g503))), (h_reserved, .inl (cJ, 23, .inr (.inl f_reserved)))] := hD
        refine W.widen (k := 0) (n := 0) (Nat.le_of_ble_eq_true rfl) (Nat.le_of_ble_eq_true rfl) ?_
        refine lv_if_ne (tgt := 159) hx hb dX10_line0_154 (by decide) (fun c519 => ?_) (fun c519 => ?_)
        · have dc519 : r493.toInt ≠ 0 := ne_i (a := r493.toInt) (b := 0) rfl rfl c519
          have k520 : 1 ≤ r493.toInt ∧ r493.toInt ≤ 1 := ⟨ne_lo dc519 t515.1 ⟨Int.le_refl _, Int.le_refl _⟩ (by decide), t515.2⟩
          refine lv_aload_n hx hb dX10_line0_159 rfl (lv_at hl 2 rfl) ?_
          refine lv_iconst (v := 1) hx hb dX10_line0_160 (by decide) ?_
          refine lv_bipush (v := 9) hx hb dX10_line0_161 (by decide) ?_
          have n521 : F494 1 = .ref h_tape := (SAME.at t504 (by decide) n485)
          have n522 : F494 3 = .int x_size := (SAME.at t504 (by decide) n486)
          have n523 : F494 5 = .int x_limit := (SAME.at t504 (by decide) n487)
          refine call_Vi (wr := [(h_h, .inl (cI, 104, .inl f_h)), (h_names, .inl (cJ, 36, .inr (.inl g503))), (h_reserved, .inl (cJ, 23, .inr (.inl f_reserved)))]) (As := [.int 1, .int 9]) (rest := []) hx hb hml hown hw (m_X10_takes l D cI cJ cB cP cM cZ h0 h_tape F494 x_size y495 x_limit y496 y497 y499 y502 f_tape 1 9 _ n521 n522 i_x_size t505 t506 n523 i_x_limit t507 t508 t509 t511 t514 (by omega)) wV_X10_242_X10_takes dX10_line0_163 hK hP hD hS hA [0, 1] [2, 3, 4] rfl rfl (by decide) (by decide) (by decide) 0 10 rfl rfl GG.fb hG.at hl.1 rfl (Nat.le_of_ble_eq_true rfl) ⟨(Nat.le_of_ble_eq_true rfl), (Nat.le_of_ble_eq_true rfl)⟩ ⟨(Nat.le_of_ble_eq_true rfl), (Nat.le_of_ble_eq_true rfl)⟩ (fun r524 u H locs hp hP hD hS => ?_)
          have zl1 : (1 : Int32).toInt = 1 := by decide
          have zl9 : (9 : Int32).toInt = 9 := by decide
          rcases hp with hp | hp
          · obtain ⟨F525, y526, t527, t528, t529, t530, t531, rfl, rfl⟩ := hp
            have hP : va_P D vwCl [(h_h, .inl (cI, 104, .inl f_h)), (h_names, .inl (cJ, 36, .inr (.inl g503))), (h_reserved, .inl (cJ, 23, .inr (.inl f_reserved))), (h0, .inr (10, vL 67 F525)), (h_tape, .inl (cB, 940, .inl f_tape))] H := hP
            have hD : va_D A [(h_h, .inl (cI, 104, .inl f_h)), (h_names, .inl (cJ, 36, .inr (.inl g503))), (h_reserved, .inl (cJ, 23, .inr (.inl f_reserved))), (h0, .inr (10, vL 67 F525)), (h_tape, .inl (cB, 940, .inl f_tape))] := hD
            refine W.widen (k := 0) (n := 0) (Nat.le_of_ble_eq_true rfl) (Nat.le_of_ble_eq_true rfl) ?_
            refine lv_if_ne (tgt := 171) hx hb dX10_line0_166 (by decide) (fun g => absurd (by decide) g) (fun _ => ?_)
            refine lv_iconst (v := 0) hx hb dX10_line0_169 (by decide) ?_
            exact ret_i (v := 0) hx hb hr hlocks hS (hP.sub (ws' := [(h0, .inr (10, vL 67 F525)), (h_tape, .inl (cB, 940, .inl f_tape)), (h_h, .inl (cI, 104, .inl f_h)), (h_names, .inl (cJ, 36, .inr (.inl g503))), (h_reserved, .inl (cJ, 23, .inr (.inl f_reserved)))]) [3, 4, 0, 1, 2] rfl) (hD.sub (ws' := [(h0, .inr (10, vL 67 F525)), (h_tape, .inl (cB, 940, .inl f_tape)), (h_h, .inl (cI, 104, .inl f_h)), (h_names, .inl (cJ, 36, .inr (.inl g503))), (h_reserved, .inl (cJ, 23, .inr (.inl f_reserved)))]) [3, 4, 0, 1, 2] (by decide) rfl) dX10_line0_170 rfl (Nat.le_of_ble_eq_true rfl) (Nat.le_of_ble_eq_true rfl) ⟨F525, y495, y496, y497, y498, y499, y526, y497, y502, x_got, x_onces, f_h, g503, (SAME.tr (SAME.tr (SAME.tr SAME.rf t468 (by decide)) t504 (by decide)) t527 (by decide)), (SAME.at t527 (by decide) t505), t506, (SAME.at t527 (by decide) t507), t508, (SAME.at t527 (by decide) t509), (SAME.at t527 (by decide) t510), (SAME.at t527 (by decide) t511), t528, t530, (SAME.at t527 (by decide) t514), (SAME.at t527 (by decide) (SAME.at t504 (by decide) (SAME.at t468 (by decide) e_got))), (SAME.at t527 (by decide) (SAME.at t504 (by decide) (SAME.at t468 (by decide) e_onces))), s_h_0, s_h_5, s_h_6, s_h_7, s_h_44, (show 0 ≤ (0 : Int32).toInt ∧ (0 : Int32).toInt ≤ 1 by decide), (by have zl0 : (0 : Int32).toInt = 0 := (by decide); omega), (by omega), rfl⟩
          · refine hp.elim (fun F532 h9z => h9z.elim (fun y533 h9z => h9z.elim (fun y534 h9z => h9z.elim (fun y535 h9z => h9z.elim (fun y536 h9z => h9z.elim (fun y537 h9z => h9z.elim (fun y538 h9z => h9z.elim (fun y539 h9z => h9z.elim (fun t540 h9z => h9z.elim (fun t541 h9z => h9z.elim (fun t542 h9z => h9z.elim (fun t543 h9z => h9z.elim (fun t544 h9z => h9z.elim (fun t545 h9z => h9z.elim (fun t546 h9z => h9z.elim (fun t547 h9z => h9z.elim (fun t548 h9z => h9z.elim (fun t549 h9z => h9z.elim (fun t550 h9z => h9z.elim (fun t551 h9z => h9z.elim (fun t552 h9z => h9z.elim (fun t553 h9z => h9z.elim (fun t554 h9z => h9z.elim (fun t555 h9z => h9z.elim (fun t556 h9z => h9z.elim (fun heq925 h9z => ?_))))))))))))))))))))))))))
            subst heq925
            subst h9z
            have hP : va_P D vwCl [(h_h, .inl (cI, 104, .inl f_h)), (h_names, .inl (cJ, 36, .inr (.inl g503))), (h_reserved, .inl (cJ, 23, .inr (.inl f_reserved))), (h0, .inr (10, vL 67 F532)), (h_tape, .inl (cB, 940, .inl f_tape))] H := hP
            have hD : va_D A [(h_h, .inl (cI, 104, .inl f_h)), (h_names, .inl (cJ, 36, .inr (.inl g503))), (h_reserved, .inl (cJ, 23, .inr (.inl f_reserved))), (h0, .inr (10, vL 67 F532)), (h_tape, .inl (cB, 940, .inl f_tape))] := hD
            refine W.widen (k := 0) (n := 0) (Nat.le_of_ble_eq_true rfl) (Nat.le_of_ble_eq_true rfl) ?_
            have k558 : 2 ≤ y496.toInt ∧ y496.toInt ≤ 2 := ⟨Int.le_trans (Int.le_refl _) (Int.le_of_eq t552.symm), Int.le_trans (Int.le_of_eq t552) (Int.le_refl _)⟩
            have k559 : 1 ≤ y499.toInt ∧ y499.toInt ≤ 2147483647 := ⟨Int.le_trans (Int.le_refl _) t553, (ir_any _).2⟩
            have k560 : 1 ≤ y499.toInt ∧ y499.toInt ≤ 9 := ⟨k559.1, Int.le_trans t554 (Int.le_refl _)⟩
            refine lv_if_ne (tgt := 171) hx hb dX10_line0_166 (by decide) (fun _ => ?_) (fun g => absurd g (by decide))
            refine lv_aload_n hx hb dX10_line0_171 rfl (lv_at hl 2 rfl) ?_
            have n561 : F494 7 = .ref h_h := (SAME.at t504 (by decide) n488)
            have n562 : F532 7 = .ref h_h := (SAME.at t540 (by decide) n561)
            refine get_f (D := D) (ci := 10) (v := .ref h_h) (C := RX10) (T := TX10) (N := 67) hx hb hw inAX10 hown hK hP 3 rfl rfl 7 (by decide) (hw _ q_1268) (fun _ h9 => h9) n562 dX10_line0_172 ?_
            refine lv_bipush (v := 8) hx hb dX10_line0_175 (by decide) ?_
            refine lv_iload_n hx hb dX10_line0_177 rfl (lv_at hl 0 rfl) ?_
            refine lv_iadd hx hb dX10_line0_178 ?_
            refine lv_topi (fun v563 ev563 => ?_)
            have bv563 : v563.toInt = 8 + v456.toInt := by rw [ev563]; exact add_k rfl rfl ⟨Int.le_refl _, Int.le_refl _⟩ k459 (by decide)
            have k564 : 8 ≤ v563.toInt ∧ v563.toInt ≤ 19 := add_r bv563 ⟨Int.le_refl _, Int.le_refl _⟩ k459 (by decide)
            refine lv_aload_n hx hb dX10_line0_179 rfl (lv_at hl 2 rfl) ?_
            refine get_f (D := D) (ci := 10) (v := .int y539) (C := RX10) (T := TX10) (N := 67) hx hb hw inAX10 hown hK hP 3 rfl rfl 19 (by decide) (hw _ q_1280) (fun _ h9 => h9) t551 dX10_line0_180 ?_
            obtain ⟨g565, eg565⟩ : ∃ z : Nat → Int32, upd f_h v563.toNatClampNeg y539 = z := ⟨_, rfl⟩
            have r566 : SG 0 0 0 40 g565 := by rw [← eg565]; exact s_h_0.up (Int.le_trans (by decide) k564.1) (Or.inr (Or.inl (dec_lt k564.1 (by decide))))
            have r567 : SG 44 55 0 9 g565 := by rw [← eg565]; exact s_h_44.up (Int.le_trans (by decide) k564.1) (Or.inl (lt_dec k564.2 (by decide)))
            have r568 : SG 5 5 0 12 g565 := by rw [← eg565]; exact s_h_5.up (Int.le_trans (by decide) k564.1) (Or.inr (Or.inl (dec_lt k564.1 (by decide))))
            have r569 : SG 6 6 0 12 g565 := by rw [← eg565]; exact s_h_6.up (Int.le_trans (by decide) k564.1) (Or.inr (Or.inl (dec_lt k564.1 (by decide))))
            have r570 : SG 7 7 0 6 g565 := by rw [← eg565]; exact s_h_7.up (Int.le_trans (by decide) k564.1) (Or.inr (Or.inl (dec_lt k564.1 (by decide))))
            refine iast_g hx hb hK hP hD hS 0 0 rfl rfl (ix_k k564 (by decide) (by decide)) eg565 dX10_line0_183 (fun H locs hP hD hS => ?_)
            have hP : va_P D vwCl [(h_h, .inl (cI, 104, .inl g565)), (h_names, .inl (cJ, 36, .inr (.inl g503))), (h_reserved, .inl (cJ, 23, .inr (.inl f_reserved))), (h0, .inr (10, vL 67 F532)), (h_tape, .inl (cB, 940, .inl f_tape))] H := hP
            have hD : va_D A [(h_h, .inl (cI, 104, .inl g565)), (h_names, .inl (cJ, 36, .inr (.inl g503))), (h_reserved, .inl (cJ, 23, .inr (.inl f_reserved))), (h0, .inr (10, vL 67 F532)), (h_tape, .inl (cB, 940, .inl f_tape))] := hD
            refine lv_aload_n hx hb dX10_line0_184 rfl (lv_at hl 2 rfl) ?_
            refine lv_iconst (v := 1) hx hb dX10_line0_185 (by decide) ?_
            refine lv_bipush (v := 9) hx hb dX10_line0_186 (by decide) ?_
            have n571 : F532 1 = .ref h_tape := (SAME.at t540 (by decide) n521)
            have n572 : F532 3 = .int x_size := (SAME.at t540 (by decide) n522)
            have n573 : F532 5 = .int x_limit := (SAME.at t540 (by decide) n523)
            refine call_Vi (wr := [(h_h, .inl (cI, 104, .inl g565)), (h_names, .inl (cJ, 36, .inr (.inl g503))), (h_reserved, .inl (cJ, 23, .inr (.inl f_reserved)))]) (As := [.int 1, .int 9]) (rest := []) hx hb hml hown hw (m_X10_takes l D cI cJ cB cP cM cZ h0 h_tape F532 x_size y533 x_limit y534 y535 y537 y538 f_tape 1 9 _ n571 n572 i_x_size t541 t542 n573 i_x_limit t543 t544 t545 t549 t550 (by omega)) wV_X10_242_X10_takes dX10_line0_188 hK hP hD hS hA [3, 4] [0, 1, 2] rfl rfl (by decide) (by decide) (by decide) 0 10 rfl rfl GG.fb hG.at hl.1 rfl (Nat.le_of_ble_eq_true rfl) ⟨(Nat.le_of_ble_eq_true rfl), (Nat.le_of_ble_eq_true rfl)⟩ ⟨(Nat.le_of_ble_eq_true rfl), (Nat.le_of_ble_eq_true rfl)⟩ (fun r574 u H locs hp hP hD hS => ?_)
            rcases hp with hp | hp
            · obtain ⟨F575, y576, t577, t578, t579, t580, t581, rfl, rfl⟩ := hp
              have hP : va_P D vwCl [(h_h, .inl (cI, 104, .inl g565)), (h_names, .inl (cJ, 36, .inr (.inl g503))), (h_reserved, .inl (cJ, 23, .inr (.inl f_reserved))), (h0, .inr (10, vL 67 F575)), (h_tape, .inl (cB, 940, .inl f_tape))] H := hP
              have hD : va_D A [(h_h, .inl (cI, 104, .inl g565)), (h_names, .inl (cJ, 36, .inr (.inl g503))), (h_reserved, .inl (cJ, 23, .inr (.inl f_reserved))), (h0, .inr (10, vL 67 F575)), (h_tape, .inl (cB, 940, .inl f_tape))] := hD
              refine W.widen (k := 0) (n := 0) (Nat.le_of_ble_eq_true rfl) (Nat.le_of_ble_eq_true rfl) ?_
              refine lv_if_ne (tgt := 196) hx hb dX10_line0_191 (by decide) (fun g => absurd (by decide) g) (fun _ => ?_)
              refine lv_iconst (v := 0) hx hb dX10_line0_194 (by decide) ?_
              exact ret_i (v := 0) hx hb hr hlocks hS (hP.sub (ws' := [(h0, .inr (10, vL 67 F575)), (h_tape, .inl (cB, 940, .inl f_tape)), (h_h, .inl (cI, 104, .inl g565)), (h_names, .inl (cJ, 36, .inr (.inl g503))), (h_reserved, .inl (cJ, 23, .inr (.inl f_reserved)))]) [3, 4, 0, 1, 2] rfl) (hD.sub (ws' := [(h0, .inr (10, vL 67 F575)), (h_tape, .inl (cB, 940, .inl f_tape)), (h_h, .inl (cI, 104, .inl g565)), (h_names, .inl (cJ, 36, .inr (.inl g503))), (h_reserved, .inl (cJ, 23, .inr (.inl f_reserved)))]) [3, 4, 0, 1, 2] (by decide) rfl) dX10_line0_195 rfl (Nat.le_of_ble_eq_true rfl) (Nat.le_of_ble_eq_true rfl) ⟨F575, y533, y534, y535, y536, y537, y576, y535, y538, y539, x_onces, g565, g503, (SAME.tr (SAME.tr (SAME.tr (SAME.tr SAME.rf t468 (by decide)) t504 (by decide)) t540 (by decide)) t577 (by decide)), (SAME.at t577 (by decide) t541), t542, (SAME.at t577 (by decide) t543), t544, (SAME.at t577 (by decide) t545), (SAME.at t577 (by decide) t547), (SAME.at t577 (by decide) t549), t578, t580, (SAME.at t577 (by decide) t550), (SAME.at t577 (by decide) t551), (SAME.at t577 (by decide) (SAME.at t540 (by decide) (SAME.at t504 (by decide) (SAME.at t468 (by decide) e_onces)))), r566, r568, r569, r570, r567, (show 0 ≤ (0 : Int32).toInt ∧ (0 : Int32).toInt ≤ 1 by decide), (by have zl0 : (0 : Int32).toInt = 0 := (by decide); omega), (by omega), rfl⟩
            · refine hp.elim (fun F582 h9z => h9z.elim (fun y583 h9z => h9z.elim (fun y584 h9z => h9z.elim (fun y585 h9z => h9z.elim (fun y586 h9z => h9z.elim (fun y587 h9z => h9z.elim (fun y588 h9z => h9z.elim (fun y589 h9z => h9z.elim (fun t590 h9z => h9z.elim (fun t591 h9z => h9z.elim (fun t592 h9z => h9z.elim (fun t593 h9z => h9z.elim (fun t594 h9z => h9z.elim (fun t595 h9z => h9z.elim (fun t596 h9z => h9z.elim (fun t597 h9z => h9z.elim (fun t598 h9z => h9z.elim (fun t599 h9z => h9z.elim (fun t600 h9z => h9z.elim (fun t601 h9z => h9z.elim (fun t602 h9z => h9z.elim (fun t603 h9z => h9z.elim (fun t604 h9z => h9z.elim (fun t605 h9z => h9z.elim (fun t606 h9z => h9z.elim (fun heq925 h9z => ?_))))))))))))))))))))))))))
              subst heq925
              subst h9z
              have hP : va_P D vwCl [(h_h, .inl (cI, 104, .inl g565)), (h_names, .inl (cJ, 36, .inr (.inl g503))), (h_reserved, .inl (cJ, 23, .inr (.inl f_reserved))), (h0, .inr (10, vL 67 F582)), (h_tape, .inl (cB, 940, .inl f_tape))] H := hP
              have hD : va_D A [(h_h, .inl (cI, 104, .inl g565)), (h_names, .inl (cJ, 36, .inr (.inl g503))), (h_reserved, .inl (cJ, 23, .inr (.inl f_reserved))), (h0, .inr (10, vL 67 F582)), (h_tape, .inl (cB, 940, .inl f_tape))] := hD
              refine W.widen (k := 0) (n := 0) (Nat.le_of_ble_eq_true rfl) (Nat.le_of_ble_eq_true rfl) ?_
              have k608 : 2 ≤ y534.toInt ∧ y534.toInt ≤ 2 := ⟨Int.le_trans (Int.le_refl _) (Int.le_of_eq t602.symm), Int.le_trans (Int.le_of_eq t602) (Int.le_refl _)⟩
              have k609 : 1 ≤ y537.toInt ∧ y537.toInt ≤ 2147483647 := ⟨Int.le_trans (Int.le_refl _) t603, (ir_any _).2⟩
              have k610 : 1 ≤ y537.toInt ∧ y537.toInt ≤ 9 := ⟨k609.1, Int.le_trans t604 (Int.le_refl _)⟩
              refine lv_if_ne (tgt := 196) hx hb dX10_line0_191 (by decide) (fun _ => ?_) (fun g => absurd g (by decide))
              refine lv_aload_n hx hb dX10_line0_196 rfl (lv_at hl 2 rfl) ?_
              have n611 : F582 7 = .ref h_h := (SAME.at t590 (by decide) n562)
              refine get_f (D := D) (ci := 10) (v := .ref h_h) (C := RX10) (T := TX10) (N := 67) hx hb hw inAX10 hown hK hP 3 rfl rfl 7 (by decide) (hw _ q_1268) (fun _ h9 => h9) n611 dX10_line0_197 ?_
              refine lv_bipush (v := 20) hx hb dX10_line0_200 (by decide) ?_
              refine lv_iload_n hx hb dX10_line0_202 rfl (lv_at hl 0 rfl) ?_
              refine lv_iadd hx hb dX10_line0_203 ?_
              refine lv_topi (fun v612 ev612 => ?_)
              have bv612 : v612.toInt = 20 + v456.toInt := by rw [ev612]; exact add_k rfl rfl ⟨Int.le_refl _, Int.le_refl _⟩ k459 (by decide)
              have k613 : 20 ≤ v612.toInt ∧ v612.toInt ≤ 31 := add_r bv612 ⟨Int.le_refl _, Int.le_refl _⟩ k459 (by decide)
              refine lv_aload_n hx hb dX10_line0_204 rfl (lv_at hl 2 rfl) ?_
              refine get_f (D := D) (ci := 10) (v := .int y589) (C := RX10) (T := TX10) (N := 67) hx hb hw inAX10 hown hK hP 3 rfl rfl 19 (by decide) (hw _ q_1280) (fun _ h9 => h9) t601 dX10_line0_205 ?_
              obtain ⟨g614, eg614⟩ : ∃ z : Nat → Int32, upd g565 v612.toNatClampNeg y589 = z := ⟨_, rfl⟩
              have r615 : SG 0 0 0 40 g614 := by rw [← eg614]; exact r566.up (Int.le_trans (by decide) k613.1) (Or.inr (Or.inl (dec_lt k613.1 (by decide))))
              have r616 : SG 44 55 0 9 g614 := by rw [← eg614]; exact r567.up (Int.le_trans (by decide) k613.1) (Or.inl (lt_dec k613.2 (by decide)))
              have r617 : SG 5 5 0 12 g614 := by rw [← eg614]; exact r568.up (Int.le_trans (by decide) k613.1) (Or.inr (Or.inl (dec_lt k613.1 (by decide))))
              have r618 : SG 6 6 0 12 g614 := by rw [← eg614]; exact r569.up (Int.le_trans (by decide) k613.1) (Or.inr (Or.inl (dec_lt k613.1 (by decide))))
              have r619 : SG 7 7 0 6 g614 := by rw [← eg614]; exact r570.up (Int.le_trans (by decide) k613.1) (Or.inr (Or.inl (dec_lt k613.1 (by decide))))
              refine iast_g hx hb hK hP hD hS 0 0 rfl rfl (ix_k k613 (by decide) (by decide)) eg614 dX10_line0_208 (fun H locs hP hD hS => ?_)
              have hP : va_P D vwCl [(h_h, .inl (cI, 104, .inl g614)), (h_names, .inl (cJ, 36, .inr (.inl g503))), (h_reserved, .inl (cJ, 23, .inr (.inl f_reserved))), (h0, .inr (10, vL 67 F582)), (h_tape, .inl (cB, 940, .inl f_tape))] H := hP
              have hD : va_D A [(h_h, .inl (cI, 104, .inl g614)), (h_names, .inl (cJ, 36, .inr (.inl g503))), (h_reserved, .inl (cJ, 23, .inr (.inl f_reserved))), (h0, .inr (10, vL 67 F582)), (h_tape, .inl (cB, 940, .inl f_tape))] := hD
              refine lv_aload_n hx hb dX10_line0_209 rfl (lv_at hl 2 rfl) ?_
              refine lv_bipush (v := 50) hx hb dX10_line0_210 (by decide) ?_
              refine lv_sipush (v := 150) hx hb dX10_line0_212 (by decide) ?_
              have n620 : F582 1 = .ref h_tape := (SAME.at t590 (by decide) n571)
              have n621 : F582 3 = .int x_size := (SAME.at t590 (by decide) n572)
              have n622 : F582 5 = .int x_limit := (SAME.at t590 (by decide) n573)
              refine call_Vi (wr := [(h_h, .inl (cI, 104, .inl g614)), (h_names, .inl (cJ, 36, .inr (.inl g503))), (h_reserved, .inl (cJ, 23, .inr (.inl f_reserved)))]) (As := [.int 50, .int 150]) (rest := []) hx hb hml hown hw (m_X10_takes l D cI cJ cB cP cM cZ h0 h_tape F582 x_size y583 x_limit y584 y585 y587 y588 f_tape 50 150 _ n620 n621 i_x_size t591 t592 n622 i_x_limit t593 t594 t595 t599 t600 (by omega)) wV_X10_242_X10_takes dX10_line0_215 hK hP hD hS hA [3, 4] [0, 1, 2] rfl rfl (by decide) (by decide) (by decide) 0 10 rfl rfl GG.fb hG.at hl.1 rfl (Nat.le_of_ble_eq_true rfl) ⟨(Nat.le_of_ble_eq_true rfl), (Nat.le_of_ble_eq_true rfl)⟩ ⟨(Nat.le_of_ble_eq_true rfl), (Nat.le_of_ble_eq_true rfl)⟩ (fun r623 u H locs hp hP hD hS => ?_)
              have zl50 : (50 : Int32).toInt = 50 := by decide
              have zl150 : (150 : Int32).toInt = 150 := by decide
              rcases hp with hp | hp
              · obtain ⟨F624, y625, t626, t627, t628, t629, t630, rfl, rfl⟩ := hp
                have hP : va_P D vwCl [(h_h, .inl (cI, 104, .inl g614)), (h_names, .inl (cJ, 36, .inr (.inl g503))), (h_reserved, .inl (cJ, 23, .inr (.inl f_reserved))), (h0, .inr (10, vL 67 F624)), (h_tape, .inl (cB, 940, .inl f_tape))] H := hP
                have hD : va_D A [(h_h, .inl (cI, 104, .inl g614)), (h_names, .inl (cJ, 36, .inr (.inl g503))), (h_reserved, .inl (cJ, 23, .inr (.inl f_reserved))), (h0, .inr (10, vL 67 F624)), (h_tape, .inl (cB, 940, .inl f_tape))] := hD
                refine W.widen (k := 0) (n := 0) (Nat.le_of_ble_eq_true rfl) (Nat.le_of_ble_eq_true rfl) ?_
                refine lv_if_ne (tgt := 223) hx hb dX10_line0_218 (by decide) (fun g => absurd (by decide) g) (fun _ => ?_)
                refine lv_iconst (v := 0) hx hb dX10_line0_221 (by decide) ?_
                exact ret_i (v := 0) hx hb hr hlocks hS (hP.sub (ws' := [(h0, .inr (10, vL 67 F624)), (h_tape, .inl (cB, 940, .inl f_tape)), (h_h, .inl (cI, 104, .inl g614)), (h_names, .inl (cJ, 36, .inr (.inl g503))), (h_reserved, .inl (cJ, 23, .inr (.inl f_reserved)))]) [3, 4, 0, 1, 2] rfl) (hD.sub (ws' := [(h0, .inr (10, vL 67 F624)), (h_tape, .inl (cB, 940, .inl f_tape)), (h_h, .inl (cI, 104, .inl g614)), (h_names, .inl (cJ, 36, .inr (.inl g503))), (h_reserved, .inl (cJ, 23, .inr (.inl f_reserved)))]) [3, 4, 0, 1, 2] (by decide) rfl) dX10_line0_222 rfl (Nat.le_of_ble_eq_true rfl) (Nat.le_of_ble_eq_true rfl) ⟨F624, y583, y584, y585, y586, y587, y625, y585, y588, y589, x_onces, g614, g503, (SAME.tr (SAME.tr (SAME.tr (SAME.tr (SAME.tr SAME.rf t468 (by decide)) t504 (by decide)) t540 (by decide)) t590 (by decide)) t626 (by decide)), (SAME.at t626 (by decide) t591), t592, (SAME.at t626 (by decide) t593), t594, (SAME.at t626 (by decide) t595), (SAME.at t626 (by decide) t597), (SAME.at t626 (by decide) t599), t627, t629, (SAME.at t626 (by decide) t600), (SAME.at t626 (by decide) t601), (SAME.at t626 (by decide) (SAME.at t590 (by decide) (SAME.at t540 (by decide) (SAME.at t504 (by decide) (SAME.at t468 (by decide) e_onces))))), r615, r617, r618, r619, r616, (show 0 ≤ (0 : Int32).toInt ∧ (0 : Int32).toInt ≤ 1 by decide), (by have zl0 : (0 : Int32).toInt = 0 := (by decide); omega), (by omega), rfl⟩
              · refine hp.elim (fun F631 h9z => h9z.elim (fun y632 h9z => h9z.elim (fun y633 h9z => h9z.elim (fun y634 h9z => h9z.elim (fun y635 h9z => h9z.elim (fun y636 h9z => h9z.elim (fun y637 h9z => h9z.elim (fun y638 h9z => h9z.elim (fun t639 h9z => h9z.elim (fun t640 h9z => h9z.elim (fun t641 h9z => h9z.elim (fun t642 h9z => h9z.elim (fun t643 h9z => h9z.elim (fun t644 h9z => h9z.elim (fun t645 h9z => h9z.elim (fun t646 h9z => h9z.elim (fun t647 h9z => h9z.elim (fun t648 h9z => h9z.elim (fun t649 h9z => h9z.elim (fun t650 h9z => h9z.elim (fun t651 h9z => h9z.elim (fun t652 h9z => h9z.elim (fun t653 h9z => h9z.elim (fun t654 h9z => h9z.elim (fun t655 h9z => h9z.elim (fun heq925 h9z => ?_))))))))))))))))))))))))))
                subst heq925
                subst h9z
                have hP : va_P D vwCl [(h_h, .inl (cI, 104, .inl g614)), (h_names, .inl (cJ, 36, .inr (.inl g503))), (h_reserved, .inl (cJ, 23, .inr (.inl f_reserved))), (h0, .inr (10, vL 67 F631)), (h_tape, .inl (cB, 940, .inl f_tape))] H := hP
                have hD : va_D A [(h_h, .inl (cI, 104, .inl g614)), (h_names, .inl (cJ, 36, .inr (.inl g503))), (h_reserved, .inl (cJ, 23, .inr (.inl f_reserved))), (h0, .inr (10, vL 67 F631)), (h_tape, .inl (cB, 940, .inl f_tape))] := hD
                refine W.widen (k := 0) (n := 0) (Nat.le_of_ble_eq_true rfl) (Nat.le_of_ble_eq_true rfl) ?_
                have k657 : 2 ≤ y584.toInt ∧ y584.toInt ≤ 2 := ⟨Int.le_trans (Int.le_refl _) (Int.le_of_eq t651.symm), Int.le_trans (Int.le_of_eq t651) (Int.le_refl _)⟩
                have k658 : 50 ≤ y587.toInt ∧ y587.toInt ≤ 2147483647 := ⟨Int.le_trans (Int.le_refl _) t652, (ir_any _).2⟩
                have k659 : 50 ≤ y587.toInt ∧ y587.toInt ≤ 150 := ⟨k658.1, Int.le_trans t653 (Int.le_refl _)⟩
                refine lv_if_ne (tgt := 223) hx hb dX10_line0_218 (by decide) (fun _ => ?_) (fun g => absurd g (by decide))
                refine lv_aload_n hx hb dX10_line0_223 rfl (lv_at hl 2 rfl) ?_
                have n660 : F631 7 = .ref h_h := (SAME.at t639 (by decide) n611)
                refine get_f (D := D) (ci := 10) (v := .ref h_h) (C := RX10) (T := TX10) (N := 67) hx hb hw inAX10 hown hK hP 3 rfl rfl 7 (by decide) (hw _ q_1268) (fun _ h9 => h9) n660 dX10_line0_224 ?_
                refine lv_bipush (v := 32) hx hb dX10_line0_227 (by decide) ?_
                refine lv_iload_n hx hb dX10_line0_229 rfl (lv_at hl 0 rfl) ?_
                refine lv_iadd hx hb dX10_line0_230 ?_
                refine lv_topi (fun v661 ev661 => ?_)
                have bv661 : v661.toInt = 32 + v456.toInt := by rw [ev661]; exact add_k rfl rfl ⟨Int.le_refl _, Int.le_refl _⟩ k459 (by decide)
                have k662 : 32 ≤ v661.toInt ∧ v661.toInt ≤ 43 := add_r bv661 ⟨Int.le_refl _, Int.le_refl _⟩ k459 (by decide)
                refine lv_aload_n hx hb dX10_line0_231 rfl (lv_at hl 2 rfl) ?_
                refine get_f (D := D) (ci := 10) (v := .int y638) (C := RX10) (T := TX10) (N := 67) hx hb hw inAX10 hown hK hP 3 rfl rfl 19 (by decide) (hw _ q_1280) (fun _ h9 => h9) t650 dX10_line0_232 ?_
                obtain ⟨g663, eg663⟩ : ∃ z : Nat → Int32, upd g614 v661.toNatClampNeg y638 = z := ⟨_, rfl⟩
                have r664 : SG 0 0 0 40 g663 := by rw [← eg663]; exact r615.up (Int.le_trans (by decide) k662.1) (Or.inr (Or.inl (dec_lt k662.1 (by decide))))
                have r665 : SG 44 55 0 9 g663 := by rw [← eg663]; exact r616.up (Int.le_trans (by decide) k662.1) (Or.inl (lt_dec k662.2 (by decide)))
                have r666 : SG 5 5 0 12 g663 := by rw [← eg663]; exact r617.up (Int.le_trans (by decide) k662.1) (Or.inr (Or.inl (dec_lt k662.1 (by decide))))
                have r667 : SG 6 6 0 12 g663 := by rw [← eg663]; exact r618.up (Int.le_trans (by decide) k662.1) (Or.inr (Or.inl (dec_lt k662.1 (by decide))))
                have r668 : SG 7 7 0 6 g663 := by rw [← eg663]; exact r619.up (Int.le_trans (by decide) k662.1) (Or.inr (Or.inl (dec_lt k662.1 (by decide))))
                refine iast_g hx hb hK hP hD hS 0 0 rfl rfl (ix_k k662 (by decide) (by decide)) eg663 dX10_line0_235 (fun H locs hP hD hS => ?_)
                have hP : va_P D vwCl [(h_h, .inl (cI, 104, .inl g663)), (h_names, .inl (cJ, 36, .inr (.inl g503))), (h_reserved, .inl (cJ, 23, .inr (.inl f_reserved))), (h0, .inr (10, vL 67 F631)), (h_tape, .inl (cB, 940, .inl f_tape))] H := hP
                have hD : va_D A [(h_h, .inl (cI, 104, .inl g663)), (h_names, .inl (cJ, 36, .inr (.inl g503))), (h_reserved, .inl (cJ, 23, .inr (.inl f_reserved))), (h0, .inr (10, vL 67 F631)), (h_tape, .inl (cB, 940, .inl f_tape))] := hD
                refine lv_aload_n hx hb dX10_line0_236 rfl (lv_at hl 2 rfl) ?_
                refine get_f (D := D) (ci := 10) (v := .ref h_h) (C := RX10) (T := TX10) (N := 67) hx hb hw inAX10 hown hK hP 3 rfl rfl 7 (by decide) (hw _ q_1268) (fun _ h9 => h9) n660 dX10_line0_237 ?_
                refine lv_iconst (v := 5) hx hb dX10_line0_240 (by decide) ?_
                refine lv_dup2_11 hx hb dX10_line0_241 rfl rfl ?_
                refine iald_n hx hb hK hP 0 0 rfl rfl 5 rfl (Nat.le_of_ble_eq_true rfl) (Nat.le_of_ble_eq_true rfl) rfl dX10_line0_242 ?_
                refine lv_topi (fun v669 ev669 => ?_)
                have k670 : 0 ≤ v669.toInt ∧ v669.toInt ≤ 12 := by rw [ev669]; exact r666.atN 5 (by decide) (by decide)
                refine lv_iconst (v := 1) hx hb dX10_line0_243 (by decide) ?_
                refine lv_iadd hx hb dX10_line0_244 ?_
                refine lv_topi (fun v671 ev671 => ?_)
                have bv671 : v671.toInt = v669.toInt + 1 := by rw [ev671]; exact add_k rfl rfl k670 ⟨Int.le_refl _, Int.le_refl _⟩ (by decide)
                have k672 : 1 ≤ v671.toInt ∧ v671.toInt ≤ 13 := add_r bv671 k670 ⟨Int.le_refl _, Int.le_refl _⟩ (by decide)
                obtain ⟨g673, eg673⟩ : ∃ z : Nat → Int32, upd g663 5 v671 = z := ⟨_, rfl⟩
                have r674 : SG 0 0 0 40 g673 := by rw [← eg673]; exact r664.upN (by decide)
                have r675 : SG 44 55 0 9 g673 := by rw [← eg673]; exact r665.upN (by decide)
                have r676 : SG 5 5 0 12 g673 := by rw [← eg673]; exact r666.upN (by omega)
                have r677 : SG 6 6 0 12 g673 := by rw [← eg673]; exact r667.upN (by decide)
                have r678 : SG 7 7 0 6 g673 := by rw [← eg673]; exact r668.upN (by decide)
                refine iast_n hx hb hK hP hD hS 0 0 rfl rfl 5 rfl (Nat.le_of_ble_eq_true rfl) (Nat.le_of_ble_eq_true rfl) eg673 dX10_line0_245 (fun H locs hP hD hS => ?_)
                have hP : va_P D vwCl [(h_h, .inl (cI, 104, .inl g673)), (h_names, .inl (cJ, 36, .inr (.inl g503))), (h_reserved, .inl (cJ, 23, .inr (.inl f_reserved))), (h0, .inr (10, vL 67 F631)), (h_tape, .inl (cB, 940, .inl f_tape))] H := hP
                have hD : va_D A [(h_h, .inl (cI, 104, .inl g673)), (h_names, .inl (cJ, 36, .inr (.inl g503))), (h_reserved, .inl (cJ, 23, .inr (.inl f_reserved))), (h0, .inr (10, vL 67 F631)), (h_tape, .inl (cB, 940, .inl f_tape))] := hD
                refine lv_iconst (v := 1) hx hb dX10_line0_246 (by decide) ?_
                exact ret_i (v := 1) hx hb hr hlocks hS (hP.sub (ws' := [(h0, .inr (10, vL 67 F631)), (h_tape, .inl (cB, 940, .inl f_tape)), (h_h, .inl (cI, 104, .inl g673)), (h_names, .inl (cJ, 36, .inr (.inl g503))), (h_reserved, .inl (cJ, 23, .inr (.inl f_reserved)))]) [3, 4, 0, 1, 2] rfl) (hD.sub (ws' := [(h0, .inr (10, vL 67 F631)), (h_tape, .inl (cB, 940, .inl f_tape)), (h_h, .inl (cI, 104, .inl g673)), (h_names, .inl (cJ, 36, .inr (.inl g503))), (h_reserved, .inl (cJ, 23, .inr (.inl f_reserved)))]) [3, 4, 0, 1, 2] (by decide) rfl) dX10_line0_247 rfl (Nat.le_of_ble_eq_true rfl) (Nat.le_of_ble_eq_true rfl) ⟨F631, y632, y633, y634, y635, y636, y500, y501, y637, y638, x_onces, g673, g503, (SAME.tr (SAME.tr (SAME.tr (SAME.tr (SAME.tr SAME.rf t468 (by decide)) t504 (by decide)) t540 (by decide)) t590 (by decide)) t639 (by decide)), t640, t641, t642, t643, t644, t646, t648, (SAME.at t639 (by decide) (SAME.at t590 (by decide) (SAME.at t540 (by decide) t512))), (SAME.at t639 (by decide) (SAME.at t590 (by decide) (SAME.at t540 (by decide) t513))), t649, t650, (SAME.at t639 (by decide) (SAME.at t590 (by decide) (SAME.at t540 (by decide) (SAME.at t504 (by decide) (SAME.at t468 (by decide) e_onces))))), r674, r676, r677, r678, r675, (show 0 ≤ (1 : Int32).toInt ∧ (1 : Int32).toInt ≤ 1 by decide), (by have zl1 : (1 : Int32).toInt = 1 := (by decide); omega), (by omega), rfl⟩
        · have dc519 : r493.toInt = 0 := eq_i (a := r493.toInt) (b := 0) rfl rfl c519
          have k679 : 0 ≤ r493.toInt ∧ r493.toInt ≤ 0 := ⟨t515.1, Int.le_trans (Int.le_of_eq dc519) (Int.le_refl _)⟩
          refine lv_iconst (v := 0) hx hb dX10_line0_157 (by decide) ?_
          exact ret_i (v := 0) hx hb hr hlocks hS hP hD dX10_line0_158 rfl (Nat.le_of_ble_eq_true rfl) (Nat.le_of_ble_eq_true rfl) ⟨F494, y495, y496, y497, y498, y499, y500, y501, y502, x_got, x_onces, f_h, g503, (SAME.tr (SAME.tr SAME.rf t468 (by decide)) t504 (by decide)), t505, t506, t507, t508, t509, t510, t511, t512, t513, t514, (SAME.at t504 (by decide) (SAME.at t468 (by decide) e_got)), (SAME.at t504 (by decide) (SAME.at t468 (by decide) e_onces)), s_h_0, s_h_5, s_h_6, s_h_7, s_h_44, (show 0 ≤ (0 : Int32).toInt ∧ (0 : Int32).toInt ≤ 1 by decide), (by have zl0 : (0 : Int32).toInt = 0 := (by decide); omega), (by omega), rfl⟩
      · have dc458 : v456.toInt = 12 := eq_i (a := v456.toInt) (b := 12) rfl rfl c458
        have k680 : 12 ≤ v456.toInt ∧ v456.toInt ≤ 12 := ⟨Int.le_trans (Int.le_refl _) (Int.le_of_eq dc458.symm), k457.2⟩
        refine lv_aload_n hx hb dX10_line0_136 rfl (lv_at hl 2 rfl) ?_
        refine lv_iconst (v := 4) hx hb dX10_line0_137 (by decide) ?_
        refine call_Vi (wr := [(h_tape, .inl (cB, 940, .inl f_tape)), (h_h, .inl (cI, 104, .inl f_h)), (h_names, .inl (cJ, 36, .inr (.inl f_names))), (h_reserved, .inl (cJ, 23, .inr (.inl f_reserved)))]) (As := [.int 4]) (rest := []) hx hb hml hown hw (m_X10_bad l D cI cJ cB cP cM cZ h0 Fh x_at 4 _ e_at) wV_X10_205_X10_bad dX10_line0_138 hK hP hD hS hA [4] [0, 1, 2, 3] rfl rfl (by decide) (by decide) (by decide) 0 10 rfl rfl GG.fb hG.at hl.1 rfl (Nat.le_of_ble_eq_true rfl) ⟨(Nat.le_of_ble_eq_true rfl), (Nat.le_of_ble_eq_true rfl)⟩ ⟨(Nat.le_of_ble_eq_true rfl), (Nat.le_of_ble_eq_true rfl)⟩ (fun r681 u H locs hp hP hD hS => ?_)
        have zl4 : (4 : Int32).toInt = 4 := by decide
        obtain ⟨F682, t683, t684, t685, rfl, rfl⟩ := hp
        have hP : va_P D vwCl [(h_tape, .inl (cB, 940, .inl f_tape)), (h_h, .inl (cI, 104, .inl f_h)), (h_names, .inl (cJ, 36, .inr (.inl f_names))), (h_reserved, .inl (cJ, 23, .inr (.inl f_reserved))), (h0, .inr (10, vL 67 F682))] H := hP
        have hD : va_D A [(h_tape, .inl (cB, 940, .inl f_tape)), (h_h, .inl (cI, 104, .inl f_h)), (h_names, .inl (cJ, 36, .inr (.inl f_names))), (h_reserved, .inl (cJ, 23, .inr (.inl f_reserved))), (h0, .inr (10, vL 67 F682))] := hD
        refine W.widen (k := 0) (n := 0) (Nat.le_of_ble_eq_true rfl) (Nat.le_of_ble_eq_true rfl) ?_
        exact ret_i (v := 0) hx hb hr hlocks hS (hP.sub (ws' := [(h0, .inr (10, vL 67 F682)), (h_tape, .inl (cB, 940, .inl f_tape)), (h_h, .inl (cI, 104, .inl f_h)), (h_names, .inl (cJ, 36, .inr (.inl f_names))), (h_reserved, .inl (cJ, 23, .inr (.inl f_reserved)))]) [4, 0, 1, 2, 3] rfl) (hD.sub (ws' := [(h0, .inr (10, vL 67 F682)), (h_tape, .inl (cB, 940, .inl f_tape)), (h_h, .inl (cI, 104, .inl f_h)), (h_names, .inl (cJ, 36, .inr (.inl f_names))), (h_reserved, .inl (cJ, 23, .inr (.inl f_reserved)))]) [4, 0, 1, 2, 3] (by decide) rfl) dX10_line0_141 rfl (Nat.le_of_ble_eq_true rfl) (Nat.le_of_ble_eq_true rfl) ⟨F682, x_p, x_token, x_at, x_span, x_number, 4, x_at, x_word, x_got, x_onces, f_h, f_names, (SAME.tr SAME.rf t683 (by decide)), (SAME.at t683 (by decide) e_p), i_x_p, (SAME.at t683 (by decide) e_token), i_x_token, (SAME.at t683 (by decide) e_at), (SAME.at t683 (by decide) e_span), (SAME.at t683 (by decide) e_number), t684, t685, (SAME.at t683 (by decide) e_word), (SAME.at t683 (by decide) e_got), (SAME.at t683 (by decide) e_onces), s_h_0, s_h_5, s_h_6, s_h_7, s_h_44, (show 0 ≤ (0 : Int32).toInt ∧ (0 : Int32).toInt ≤ 1 by decide), (by have zl0 : (0 : Int32).toInt = 0 := (by decide); omega), (by have zl4 : (4 : Int32).toInt = 4 := (by decide); omega), rfl⟩
  · have dc4 : 0 ≤ r1.toInt := nlt_i (a := r1.toInt) (b := 0) rfl rfl c4
    have k687 : 0 ≤ r1.toInt ∧ r1.toInt ≤ 4 := ⟨Int.le_trans (Int.le_refl _) dc4, t2.2⟩
    refine lv_aload_n hx hb dX10_line0_9 rfl (lv_at hl 1 rfl) ?_
    refine lv_iload_n hx hb dX10_line0_10 rfl (lv_at hl 0 rfl) ?_
    refine call_Vi (wr := [(h_h, .inl (cI, 104, .inl f_h)), (h_names, .inl (cJ, 36, .inr (.inl f_names))), (h_reserved, .inl (cJ, 23, .inr (.inl f_reserved)))]) (As := [.int r1]) (rest := []) hx hb hml hown hw (m_X10_isOnce l D cI cJ cB cP cM cZ h0 h_tape Fh x_size x_p x_limit x_token x_at x_span x_number x_fault x_faultAt x_word x_onces f_tape r1 _ e_tape e_size i_x_size e_p i_x_p e_limit i_x_limit e_token i_x_token e_at e_span e_number e_fault e_faultAt e_word e_onces (by omega)) wV_X10_239_X10_isOnce dX10_line0_11 hK hP hD hS hA [4, 0] [1, 2, 3] rfl rfl (by decide) (by decide) (by decide) 0 10 rfl rfl GG.fb hG.at hl.1 rfl (Nat.le_of_ble_eq_true rfl) ⟨(Nat.le_of_ble_eq_true rfl), (Nat.le_of_ble_eq_true rfl)⟩ ⟨(Nat.le_of_ble_eq_true rfl), (Nat.le_of_ble_eq_true rfl)⟩ (fun r688 u H locs hp hP hD hS => ?_)
    refine hp.elim (fun F689 h9z => h9z.elim (fun y690 h9z => h9z.elim (fun y691 h9z => h9z.elim (fun y692 h9z => h9z.elim (fun y693 h9z => h9z.elim (fun y694 h9z => h9z.elim (fun y695 h9z => h9z.elim (fun y696 h9z => h9z.elim (fun y697 h9z => h9z.elim (fun y698 h9z => h9z.elim (fun t699 h9z => h9z.elim (fun t700 h9z => h9z.elim (fun t701 h9z => h9z.elim (fun t702 h9z => h9z.elim (fun t703 h9z => h9z.elim (fun t704 h9z => h9z.elim (fun t705 h9z => h9z.elim (fun t706 h9z => h9z.elim (fun t707 h9z => h9z.elim (fun t708 h9z => h9z.elim (fun t709 h9z => h9z.elim (fun t710 h9z => h9z.elim (fun t711 h9z => h9z.elim (fun t712 h9z => h9z.elim (fun t713 h9z => ?_)))))))))))))))))))))))))
    subst h9z
    have hP : va_P D vwCl [(h_h, .inl (cI, 104, .inl f_h)), (h_names, .inl (cJ, 36, .inr (.inl f_names))), (h_reserved, .inl (cJ, 23, .inr (.inl f_reserved))), (h0, .inr (10, vL 67 F689)), (h_tape, .inl (cB, 940, .inl f_tape))] H := hP
    have hD : va_D A [(h_h, .inl (cI, 104, .inl f_h)), (h_names, .inl (cJ, 36, .inr (.inl f_names))), (h_reserved, .inl (cJ, 23, .inr (.inl f_reserved))), (h0, .inr (10, vL 67 F689)), (h_tape, .inl (cB, 940, .inl f_tape))] := hD
    refine W.widen (k := 0) (n := 0) (Nat.le_of_ble_eq_true rfl) (Nat.le_of_ble_eq_true rfl) ?_
    refine lv_if_ne (tgt := 19) hx hb dX10_line0_14 (by decide) (fun c715 => ?_) (fun c715 => ?_)
    · have dc715 : r688.toInt ≠ 0 := ne_i (a := r688.toInt) (b := 0) rfl rfl c715
      have k716 : 1 ≤ r688.toInt ∧ r688.toInt ≤ 1 := ⟨ne_lo dc715 t711.1 ⟨Int.le_refl _, Int.le_refl _⟩ (by decide), t711.2⟩
      refine lv_aload_n hx hb dX10_line0_19 rfl (lv_at hl 1 rfl) ?_
      refine lv_iload_n hx hb dX10_line0_20 rfl (lv_at hl 0 rfl) ?_
      refine lv_if_ne (tgt := 28) hx hb dX10_line0_21 (by decide) (fun c717 => ?_) (fun c717 => ?_)
      · have dc717 : r1.toInt ≠ 0 := ne_i (a := r1.toInt) (b := 0) rfl rfl c717
        have k718 : 1 ≤ r1.toInt ∧ r1.toInt ≤ 4 := ⟨ne_lo dc717 k687.1 ⟨Int.le_refl _, Int.le_refl _⟩ (by decide), k687.2⟩
        refine lv_iload_n hx hb dX10_line0_28 rfl (lv_at hl 0 rfl) ?_
        refine lv_iconst (v := 1) hx hb dX10_line0_29 (by decide) ?_
        refine lv_icmp_ne (tgt := 38) hx hb dX10_line0_30 (by decide) (fun c719 => ?_) (fun c719 => ?_)
        · have dc719 : r1.toInt ≠ 1 := ne_i (a := r1.toInt) (b := 1) rfl rfl c719
          have k720 : 2 ≤ r1.toInt ∧ r1.toInt ≤ 4 := ⟨ne_lo dc719 k718.1 ⟨Int.le_refl _, Int.le_refl _⟩ (by decide), k718.2⟩
          refine lv_iload_n hx hb dX10_line0_38 rfl (lv_at hl 0 rfl) ?_
          refine lv_iconst (v := 2) hx hb dX10_line0_39 (by decide) ?_
          refine lv_icmp_ne (tgt := 49) hx hb dX10_line0_40 (by decide) (fun c721 => ?_) (fun c721 => ?_)
          · have dc721 : r1.toInt ≠ 2 := ne_i (a := r1.toInt) (b := 2) rfl rfl c721
            have k722 : 3 ≤ r1.toInt ∧ r1.toInt ≤ 4 := ⟨ne_lo dc721 k720.1 ⟨Int.le_refl _, Int.le_refl _⟩ (by decide), k720.2⟩
            refine lv_iconst (v := 0) hx hb dX10_line0_49 (by decide) ?_
            refine lv_iload_n hx hb dX10_line0_50 rfl (lv_at hl 0 rfl) ?_
            refine lv_if_ne (tgt := 59) hx hb dX10_line0_51 (by decide) (fun c723 => ?_) (fun c723 => False.elim (bad_le (Int.le_of_eq (eq_i (a := r1.toInt) (b := 0) rfl rfl c723)) k722.1 (Int.le_refl _) (by decide)))
            have dc723 : r1.toInt ≠ 0 := ne_i (a := r1.toInt) (b := 0) rfl rfl c723
            refine lv_iload_n hx hb dX10_line0_59 rfl (lv_at hl 0 rfl) ?_
            refine lv_iconst (v := 1) hx hb dX10_line0_60 (by decide) ?_
            refine lv_icmp_ne (tgt := 70) hx hb dX10_line0_61 (by decide) (fun c724 => ?_) (fun c724 => False.elim (bad_le (Int.le_of_eq (eq_i (a := r1.toInt) (b := 1) rfl rfl c724)) k722.1 (Int.le_refl _) (by decide)))
            have dc724 : r1.toInt ≠ 1 := ne_i (a := r1.toInt) (b := 1) rfl rfl c724
            refine lv_iload_n hx hb dX10_line0_70 rfl (lv_at hl 0 rfl) ?_
            refine lv_iconst (v := 2) hx hb dX10_line0_71 (by decide) ?_
            refine lv_icmp_ne (tgt := 81) hx hb dX10_line0_72 (by decide) (fun c725 => ?_) (fun c725 => False.elim (bad_le (Int.le_of_eq (eq_i (a := r1.toInt) (b := 2) rfl rfl c725)) k722.1 (Int.le_refl _) (by decide)))
            have dc725 : r1.toInt ≠ 2 := ne_i (a := r1.toInt) (b := 2) rfl rfl c725
            refine lv_iload_n hx hb dX10_line0_81 rfl (lv_at hl 0 rfl) ?_
            refine lv_iconst (v := 3) hx hb dX10_line0_82 (by decide) ?_
            refine lv_icmp_ne (tgt := 91) hx hb dX10_line0_83 (by decide) (fun c726 => ?_) (fun c726 => ?_)
            · have dc726 : r1.toInt ≠ 3 := ne_i (a := r1.toInt) (b := 3) rfl rfl c726
              have k727 : 4 ≤ r1.toInt ∧ r1.toInt ≤ 4 := ⟨ne_lo dc726 k722.1 ⟨Int.le_refl _, Int.le_refl _⟩ (by decide), k722.2⟩
              refine lv_bipush (v := 20) hx hb dX10_line0_91 (by decide) ?_
              have n728 : F689 1 = .ref h_tape := (SAME.at t699 (by decide) e_tape)
              have n729 : F689 3 = .int x_size := (SAME.at t699 (by decide) e_size)
              have n730 : F689 5 = .int x_limit := (SAME.at t699 (by decide) e_limit)
              refine call_Vi (wr := [(h_h, .inl (cI, 104, .inl f_h)), (h_names, .inl (cJ, 36, .inr (.inl f_names))), (h_reserved, .inl (cJ, 23, .inr (.inl f_reserved)))]) (As := [.int 0, .int 20]) (rest := []) hx hb hml hown hw (m_X10_takes l D cI cJ cB cP cM cZ h0 h_tape F689 x_size y690 x_limit y691 y692 y694 y697 f_tape 0 20 _ n728 n729 i_x_size t700 t701 n730 i_x_limit t702 t703 t704 t706 t709 (by omega)) wV_X10_242_X10_takes dX10_line0_93 hK hP hD hS hA [3, 4] [0, 1, 2] rfl rfl (by decide) (by decide) (by decide) 0 10 rfl rfl GG.fb hG.at hl.1 rfl (Nat.le_of_ble_eq_true rfl) ⟨(Nat.le_of_ble_eq_true rfl), (Nat.le_of_ble_eq_true rfl)⟩ ⟨(Nat.le_of_ble_eq_true rfl), (Nat.le_of_ble_eq_true rfl)⟩ (fun r731 u H locs hp hP hD hS => ?_)
              have zl0 : (0 : Int32).toInt = 0 := by decide
              have zl20 : (20 : Int32).toInt = 20 := by decide
              rcases hp with hp | hp
              · obtain ⟨F732, y733, t734, t735, t736, t737, t738, rfl, rfl⟩ := hp
                have hP : va_P D vwCl [(h_h, .inl (cI, 104, .inl f_h)), (h_names, .inl (cJ, 36, .inr (.inl f_names))), (h_reserved, .inl (cJ, 23, .inr (.inl f_reserved))), (h0, .inr (10, vL 67 F732)), (h_tape, .inl (cB, 940, .inl f_tape))] H := hP
                have hD : va_D A [(h_h, .inl (cI, 104, .inl f_h)), (h_names, .inl (cJ, 36, .inr (.inl f_names))), (h_reserved, .inl (cJ, 23, .inr (.inl f_reserved))), (h0, .inr (10, vL 67 F732)), (h_tape, .inl (cB, 940, .inl f_tape))] := hD
                refine W.widen (k := 0) (n := 0) (Nat.le_of_ble_eq_true rfl) (Nat.le_of_ble_eq_true rfl) ?_
                refine lv_if_ne (tgt := 101) hx hb dX10_line0_96 (by decide) (fun g => absurd (by decide) g) (fun _ => ?_)
                refine lv_iconst (v := 0) hx hb dX10_line0_99 (by decide) ?_
                exact ret_i (v := 0) hx hb hr hlocks hS (hP.sub (ws' := [(h0, .inr (10, vL 67 F732)), (h_tape, .inl (cB, 940, .inl f_tape)), (h_h, .inl (cI, 104, .inl f_h)), (h_names, .inl (cJ, 36, .inr (.inl f_names))), (h_reserved, .inl (cJ, 23, .inr (.inl f_reserved)))]) [3, 4, 0, 1, 2] rfl) (hD.sub (ws' := [(h0, .inr (10, vL 67 F732)), (h_tape, .inl (cB, 940, .inl f_tape)), (h_h, .inl (cI, 104, .inl f_h)), (h_names, .inl (cJ, 36, .inr (.inl f_names))), (h_reserved, .inl (cJ, 23, .inr (.inl f_reserved)))]) [3, 4, 0, 1, 2] (by decide) rfl) dX10_line0_100 rfl (Nat.le_of_ble_eq_true rfl) (Nat.le_of_ble_eq_true rfl) ⟨F732, y690, y691, y692, y693, y694, y733, y692, y697, x_got, y698, f_h, f_names, (SAME.tr (SAME.tr SAME.rf t699 (by decide)) t734 (by decide)), (SAME.at t734 (by decide) t700), t701, (SAME.at t734 (by decide) t702), t703, (SAME.at t734 (by decide) t704), (SAME.at t734 (by decide) t705), (SAME.at t734 (by decide) t706), t735, t737, (SAME.at t734 (by decide) t709), (SAME.at t734 (by decide) (SAME.at t699 (by decide) e_got)), (SAME.at t734 (by decide) t710), s_h_0, s_h_5, s_h_6, s_h_7, s_h_44, (show 0 ≤ (0 : Int32).toInt ∧ (0 : Int32).toInt ≤ 1 by decide), (by have zl0 : (0 : Int32).toInt = 0 := (by decide); omega), (by omega), rfl⟩
              · refine hp.elim (fun F739 h9z => h9z.elim (fun y740 h9z => h9z.elim (fun y741 h9z => h9z.elim (fun y742 h9z => h9z.elim (fun y743 h9z => h9z.elim (fun y744 h9z => h9z.elim (fun y745 h9z => h9z.elim (fun y746 h9z => h9z.elim (fun t747 h9z => h9z.elim (fun t748 h9z => h9z.elim (fun t749 h9z => h9z.elim (fun t750 h9z => h9z.elim (fun t751 h9z => h9z.elim (fun t752 h9z => h9z.elim (fun t753 h9z => h9z.elim (fun t754 h9z => h9z.elim (fun t755 h9z => h9z.elim (fun t756 h9z => h9z.elim (fun t757 h9z => h9z.elim (fun t758 h9z => h9z.elim (fun t759 h9z => h9z.elim (fun t760 h9z => h9z.elim (fun t761 h9z => h9z.elim (fun t762 h9z => h9z.elim (fun t763 h9z => h9z.elim (fun heq925 h9z => ?_))))))))))))))))))))))))))
                subst heq925
                subst h9z
                have hP : va_P D vwCl [(h_h, .inl (cI, 104, .inl f_h)), (h_names, .inl (cJ, 36, .inr (.inl f_names))), (h_reserved, .inl (cJ, 23, .inr (.inl f_reserved))), (h0, .inr (10, vL 67 F739)), (h_tape, .inl (cB, 940, .inl f_tape))] H := hP
                have hD : va_D A [(h_h, .inl (cI, 104, .inl f_h)), (h_names, .inl (cJ, 36, .inr (.inl f_names))), (h_reserved, .inl (cJ, 23, .inr (.inl f_reserved))), (h0, .inr (10, vL 67 F739)), (h_tape, .inl (cB, 940, .inl f_tape))] := hD
                refine W.widen (k := 0) (n := 0) (Nat.le_of_ble_eq_true rfl) (Nat.le_of_ble_eq_true rfl) ?_
                have k765 : 2 ≤ y691.toInt ∧ y691.toInt ≤ 2 := ⟨Int.le_trans (Int.le_refl _) (Int.le_of_eq t759.symm), Int.le_trans (Int.le_of_eq t759) (Int.le_refl _)⟩
                have k766 : 0 ≤ y694.toInt ∧ y694.toInt ≤ 2147483647 := ⟨Int.le_trans (Int.le_refl _) t760, (ir_any _).2⟩
                have k767 : 0 ≤ y694.toInt ∧ y694.toInt ≤ 20 := ⟨k766.1, Int.le_trans t761 (Int.le_refl _)⟩
                refine lv_if_ne (tgt := 101) hx hb dX10_line0_96 (by decide) (fun _ => ?_) (fun g => absurd g (by decide))
                refine lv_aload_n hx hb dX10_line0_101 rfl (lv_at hl 1 rfl) ?_
                have n768 : F689 7 = .ref h_h := (SAME.at t699 (by decide) e_h)
                have n769 : F739 7 = .ref h_h := (SAME.at t747 (by decide) n768)
                refine get_f (D := D) (ci := 10) (v := .ref h_h) (C := RX10) (T := TX10) (N := 67) hx hb hw inAX10 hown hK hP 3 rfl rfl 7 (by decide) (hw _ q_1268) (fun _ h9 => h9) n769 dX10_line0_102 ?_
                refine lv_iload_n hx hb dX10_line0_105 rfl (lv_at hl 0 rfl) ?_
                refine lv_aload_n hx hb dX10_line0_106 rfl (lv_at hl 1 rfl) ?_
                refine get_f (D := D) (ci := 10) (v := .int y746) (C := RX10) (T := TX10) (N := 67) hx hb hw inAX10 hown hK hP 3 rfl rfl 19 (by decide) (hw _ q_1280) (fun _ h9 => h9) t758 dX10_line0_107 ?_
                obtain ⟨g770, eg770⟩ : ∃ z : Nat → Int32, upd f_h r1.toNatClampNeg y746 = z := ⟨_, rfl⟩
                have r771 : SG 0 0 0 40 g770 := by rw [← eg770]; exact s_h_0.up (Int.le_trans (by decide) k727.1) (Or.inr (Or.inl (dec_lt k727.1 (by decide))))
                have r772 : SG 44 55 0 9 g770 := by rw [← eg770]; exact s_h_44.up (Int.le_trans (by decide) k727.1) (Or.inl (lt_dec k727.2 (by decide)))
                have r773 : SG 5 5 0 12 g770 := by rw [← eg770]; exact s_h_5.up (Int.le_trans (by decide) k727.1) (Or.inl (lt_dec k727.2 (by decide)))
                have r774 : SG 6 6 0 12 g770 := by rw [← eg770]; exact s_h_6.up (Int.le_trans (by decide) k727.1) (Or.inl (lt_dec k727.2 (by decide)))
                have r775 : SG 7 7 0 6 g770 := by rw [← eg770]; exact s_h_7.up (Int.le_trans (by decide) k727.1) (Or.inl (lt_dec k727.2 (by decide)))
                refine iast_g hx hb hK hP hD hS 0 0 rfl rfl (ix_k k727 (by decide) (by decide)) eg770 dX10_line0_110 (fun H locs hP hD hS => ?_)
                have hP : va_P D vwCl [(h_h, .inl (cI, 104, .inl g770)), (h_names, .inl (cJ, 36, .inr (.inl f_names))), (h_reserved, .inl (cJ, 23, .inr (.inl f_reserved))), (h0, .inr (10, vL 67 F739)), (h_tape, .inl (cB, 940, .inl f_tape))] H := hP
                have hD : va_D A [(h_h, .inl (cI, 104, .inl g770)), (h_names, .inl (cJ, 36, .inr (.inl f_names))), (h_reserved, .inl (cJ, 23, .inr (.inl f_reserved))), (h0, .inr (10, vL 67 F739)), (h_tape, .inl (cB, 940, .inl f_tape))] := hD
                refine lv_iconst (v := 1) hx hb dX10_line0_111 (by decide) ?_
                exact ret_i (v := 1) hx hb hr hlocks hS (hP.sub (ws' := [(h0, .inr (10, vL 67 F739)), (h_tape, .inl (cB, 940, .inl f_tape)), (h_h, .inl (cI, 104, .inl g770)), (h_names, .inl (cJ, 36, .inr (.inl f_names))), (h_reserved, .inl (cJ, 23, .inr (.inl f_reserved)))]) [3, 4, 0, 1, 2] rfl) (hD.sub (ws' := [(h0, .inr (10, vL 67 F739)), (h_tape, .inl (cB, 940, .inl f_tape)), (h_h, .inl (cI, 104, .inl g770)), (h_names, .inl (cJ, 36, .inr (.inl f_names))), (h_reserved, .inl (cJ, 23, .inr (.inl f_reserved)))]) [3, 4, 0, 1, 2] (by decide) rfl) dX10_line0_112 rfl (Nat.le_of_ble_eq_true rfl) (Nat.le_of_ble_eq_true rfl) ⟨F739, y740, y741, y742, y743, y744, y695, y696, y745, y746, y698, g770, f_names, (SAME.tr (SAME.tr SAME.rf t699 (by decide)) t747 (by decide)), t748, t749, t750, t751, t752, t754, t756, (SAME.at t747 (by decide) t707), (SAME.at t747 (by decide) t708), t757, t758, (SAME.at t747 (by decide) t710), r771, r773, r774, r775, r772, (show 0 ≤ (1 : Int32).toInt ∧ (1 : Int32).toInt ≤ 1 by decide), (by have zl1 : (1 : Int32).toInt = 1 := (by decide); omega), (by omega), rfl⟩
            · have dc726 : r1.toInt = 3 := eq_i (a := r1.toInt) (b := 3) rfl rfl c726
              have k776 : 3 ≤ r1.toInt ∧ r1.toInt ≤ 3 := ⟨k722.1, Int.le_trans (Int.le_of_eq dc726) (Int.le_refl _)⟩
              refine lv_bipush (v := 9) hx hb dX10_line0_86 (by decide) ?_
              refine lv_goto (tgt := 93) hx hb dX10_line0_88 (by decide) ?_
              have n777 : F689 1 = .ref h_tape := (SAME.at t699 (by decide) e_tape)
              have n778 : F689 3 = .int x_size := (SAME.at t699 (by decide) e_size)
              have n779 : F689 5 = .int x_limit := (SAME.at t699 (by decide) e_limit)
              refine call_Vi (wr := [(h_h, .inl (cI, 104, .inl f_h)), (h_names, .inl (cJ, 36, .inr (.inl f_names))), (h_reserved, .inl (cJ, 23, .inr (.inl f_reserved)))]) (As := [.int 0, .int 9]) (rest := []) hx hb hml hown hw (m_X10_takes l D cI cJ cB cP cM cZ h0 h_tape F689 x_size y690 x_limit y691 y692 y694 y697 f_tape 0 9 _ n777 n778 i_x_size t700 t701 n779 i_x_limit t702 t703 t704 t706 t709 (by omega)) wV_X10_242_X10_takes dX10_line0_93 hK hP hD hS hA [3, 4] [0, 1, 2] rfl rfl (by decide) (by decide) (by decide) 0 10 rfl rfl GG.fb hG.at hl.1 rfl (Nat.le_of_ble_eq_true rfl) ⟨(Nat.le_of_ble_eq_true rfl), (Nat.le_of_ble_eq_true rfl)⟩ ⟨(Nat.le_of_ble_eq_true rfl), (Nat.le_of_ble_eq_true rfl)⟩ (fun r780 u H locs hp hP hD hS => ?_)
              have zl0 : (0 : Int32).toInt = 0 := by decide
              have zl9 : (9 : Int32).toInt = 9 := by decide
              rcases hp with hp | hp
              · obtain ⟨F781, y782, t783, t784, t785, t786, t787, rfl, rfl⟩ := hp
                have hP : va_P D vwCl [(h_h, .inl (cI, 104, .inl f_h)), (h_names, .inl (cJ, 36, .inr (.inl f_names))), (h_reserved, .inl (cJ, 23, .inr (.inl f_reserved))), (h0, .inr (10, vL 67 F781)), (h_tape, .inl (cB, 940, .inl f_tape))] H := hP
                have hD : va_D A [(h_h, .inl (cI, 104, .inl f_h)), (h_names, .inl (cJ, 36, .inr (.inl f_names))), (h_reserved, .inl (cJ, 23, .inr (.inl f_reserved))), (h0, .inr (10, vL 67 F781)), (h_tape, .inl (cB, 940, .inl f_tape))] := hD
                refine W.widen (k := 0) (n := 0) (Nat.le_of_ble_eq_true rfl) (Nat.le_of_ble_eq_true rfl) ?_
                refine lv_if_ne (tgt := 101) hx hb dX10_line0_96 (by decide) (fun g => absurd (by decide) g) (fun _ => ?_)
                refine lv_iconst (v := 0) hx hb dX10_line0_99 (by decide) ?_
                exact ret_i (v := 0) hx hb hr hlocks hS (hP.sub (ws' := [(h0, .inr (10, vL 67 F781)), (h_tape, .inl (cB, 940, .inl f_tape)), (h_h, .inl (cI, 104, .inl f_h)), (h_names, .inl (cJ, 36, .inr (.inl f_names))), (h_reserved, .inl (cJ, 23, .inr (.inl f_reserved)))]) [3, 4, 0, 1, 2] rfl) (hD.sub (ws' := [(h0, .inr (10, vL 67 F781)), (h_tape, .inl (cB, 940, .inl f_tape)), (h_h, .inl (cI, 104, .inl f_h)), (h_names, .inl (cJ, 36, .inr (.inl f_names))), (h_reserved, .inl (cJ, 23, .inr (.inl f_reserved)))]) [3, 4, 0, 1, 2] (by decide) rfl) dX10_line0_100 rfl (Nat.le_of_ble_eq_true rfl) (Nat.le_of_ble_eq_true rfl) ⟨F781, y690, y691, y692, y693, y694, y782, y692, y697, x_got, y698, f_h, f_names, (SAME.tr (SAME.tr SAME.rf t699 (by decide)) t783 (by decide)), (SAME.at t783 (by decide) t700), t701, (SAME.at t783 (by decide) t702), t703, (SAME.at t783 (by decide) t704), (SAME.at t783 (by decide) t705), (SAME.at t783 (by decide) t706), t784, t786, (SAME.at t783 (by decide) t709), (SAME.at t783 (by decide) (SAME.at t699 (by decide) e_got)), (SAME.at t783 (by decide) t710), s_h_0, s_h_5, s_h_6, s_h_7, s_h_44, (show 0 ≤ (0 : Int32).toInt ∧ (0 : Int32).toInt ≤ 1 by decide), (by have zl0 : (0 : Int32).toInt = 0 := (by decide); omega), (by omega), rfl⟩
              · refine hp.elim (fun F788 h9z => h9z.elim (fun y789 h9z => h9z.elim (fun y790 h9z => h9z.elim (fun y791 h9z => h9z.elim (fun y792 h9z => h9z.elim (fun y793 h9z => h9z.elim (fun y794 h9z => h9z.elim (fun y795 h9z => h9z.elim (fun t796 h9z => h9z.elim (fun t797 h9z => h9z.elim (fun t798 h9z => h9z.elim (fun t799 h9z => h9z.elim (fun t800 h9z => h9z.elim (fun t801 h9z => h9z.elim (fun t802 h9z => h9z.elim (fun t803 h9z => h9z.elim (fun t804 h9z => h9z.elim (fun t805 h9z => h9z.elim (fun t806 h9z => h9z.elim (fun t807 h9z => h9z.elim (fun t808 h9z => h9z.elim (fun t809 h9z => h9z.elim (fun t810 h9z => h9z.elim (fun t811 h9z => h9z.elim (fun t812 h9z => h9z.elim (fun heq925 h9z => ?_))))))))))))))))))))))))))
                subst heq925
                subst h9z
                have hP : va_P D vwCl [(h_h, .inl (cI, 104, .inl f_h)), (h_names, .inl (cJ, 36, .inr (.inl f_names))), (h_reserved, .inl (cJ, 23, .inr (.inl f_reserved))), (h0, .inr (10, vL 67 F788)), (h_tape, .inl (cB, 940, .inl f_tape))] H := hP
                have hD : va_D A [(h_h, .inl (cI, 104, .inl f_h)), (h_names, .inl (cJ, 36, .inr (.inl f_names))), (h_reserved, .inl (cJ, 23, .inr (.inl f_reserved))), (h0, .inr (10, vL 67 F788)), (h_tape, .inl (cB, 940, .inl f_tape))] := hD
                refine W.widen (k := 0) (n := 0) (Nat.le_of_ble_eq_true rfl) (Nat.le_of_ble_eq_true rfl) ?_
                have k814 : 2 ≤ y691.toInt ∧ y691.toInt ≤ 2 := ⟨Int.le_trans (Int.le_refl _) (Int.le_of_eq t808.symm), Int.le_trans (Int.le_of_eq t808) (Int.le_refl _)⟩
                have k815 : 0 ≤ y694.toInt ∧ y694.toInt ≤ 2147483647 := ⟨Int.le_trans (Int.le_refl _) t809, (ir_any _).2⟩
                have k816 : 0 ≤ y694.toInt ∧ y694.toInt ≤ 9 := ⟨k815.1, Int.le_trans t810 (Int.le_refl _)⟩
                refine lv_if_ne (tgt := 101) hx hb dX10_line0_96 (by decide) (fun _ => ?_) (fun g => absurd g (by decide))
                refine lv_aload_n hx hb dX10_line0_101 rfl (lv_at hl 1 rfl) ?_
                have n817 : F689 7 = .ref h_h := (SAME.at t699 (by decide) e_h)
                have n818 : F788 7 = .ref h_h := (SAME.at t796 (by decide) n817)
                refine get_f (D := D) (ci := 10) (v := .ref h_h) (C := RX10) (T := TX10) (N := 67) hx hb hw inAX10 hown hK hP 3 rfl rfl 7 (by decide) (hw _ q_1268) (fun _ h9 => h9) n818 dX10_line0_102 ?_
                refine lv_iload_n hx hb dX10_line0_105 rfl (lv_at hl 0 rfl) ?_
                refine lv_aload_n hx hb dX10_line0_106 rfl (lv_at hl 1 rfl) ?_
                refine get_f (D := D) (ci := 10) (v := .int y795) (C := RX10) (T := TX10) (N := 67) hx hb hw inAX10 hown hK hP 3 rfl rfl 19 (by decide) (hw _ q_1280) (fun _ h9 => h9) t807 dX10_line0_107 ?_
                obtain ⟨g819, eg819⟩ : ∃ z : Nat → Int32, upd f_h r1.toNatClampNeg y795 = z := ⟨_, rfl⟩
                have r820 : SG 0 0 0 40 g819 := by rw [← eg819]; exact s_h_0.up (Int.le_trans (by decide) k776.1) (Or.inr (Or.inl (dec_lt k776.1 (by decide))))
                have r821 : SG 44 55 0 9 g819 := by rw [← eg819]; exact s_h_44.up (Int.le_trans (by decide) k776.1) (Or.inl (lt_dec k776.2 (by decide)))
                have r822 : SG 5 5 0 12 g819 := by rw [← eg819]; exact s_h_5.up (Int.le_trans (by decide) k776.1) (Or.inl (lt_dec k776.2 (by decide)))
                have r823 : SG 6 6 0 12 g819 := by rw [← eg819]; exact s_h_6.up (Int.le_trans (by decide) k776.1) (Or.inl (lt_dec k776.2 (by decide)))
                have r824 : SG 7 7 0 6 g819 := by rw [← eg819]; exact s_h_7.up (Int.le_trans (by decide) k776.1) (Or.inl (lt_dec k776.2 (by decide)))
                refine iast_g hx hb hK hP hD hS 0 0 rfl rfl (ix_k k776 (by decide) (by decide)) eg819 dX10_line0_110 (fun H locs hP hD hS => ?_)
                have hP : va_P D vwCl [(h_h, .inl (cI, 104, .inl g819)), (h_names, .inl (cJ, 36, .inr (.inl f_names))), (h_reserved, .inl (cJ, 23, .inr (.inl f_reserved))), (h0, .inr (10, vL 67 F788)), (h_tape, .inl (cB, 940, .inl f_tape))] H := hP
                have hD : va_D A [(h_h, .inl (cI, 104, .inl g819)), (h_names, .inl (cJ, 36, .inr (.inl f_names))), (h_reserved, .inl (cJ, 23, .inr (.inl f_reserved))), (h0, .inr (10, vL 67 F788)), (h_tape, .inl (cB, 940, .inl f_tape))] := hD
                refine lv_iconst (v := 1) hx hb dX10_line0_111 (by decide) ?_
                exact ret_i (v := 1) hx hb hr hlocks hS (hP.sub (ws' := [(h0, .inr (10, vL 67 F788)), (h_tape, .inl (cB, 940, .inl f_tape)), (h_h, .inl (cI, 104, .inl g819)), (h_names, .inl (cJ, 36, .inr (.inl f_names))), (h_reserved, .inl (cJ, 23, .inr (.inl f_reserved)))]) [3, 4, 0, 1, 2] rfl) (hD.sub (ws' := [(h0, .inr (10, vL 67 F788)), (h_tape, .inl (cB, 940, .inl f_tape)), (h_h, .inl (cI, 104, .inl g819)), (h_names, .inl (cJ, 36, .inr (.inl f_names))), (h_reserved, .inl (cJ, 23, .inr (.inl f_reserved)))]) [3, 4, 0, 1, 2] (by decide) rfl) dX10_line0_112 rfl (Nat.le_of_ble_eq_true rfl) (Nat.le_of_ble_eq_true rfl) ⟨F788, y789, y790, y791, y792, y793, y695, y696, y794, y795, y698, g819, f_names, (SAME.tr (SAME.tr SAME.rf t699 (by decide)) t796 (by decide)), t797, t798, t799, t800, t801, t803, t805, (SAME.at t796 (by decide) t707), (SAME.at t796 (by decide) t708), t806, t807, (SAME.at t796 (by decide) t710), r820, r822, r823, r824, r821, (show 0 ≤ (1 : Int32).toInt ∧ (1 : Int32).toInt ≤ 1 by decide), (by have zl1 : (1 : Int32).toInt = 1 := (by decide); omega), (by omega), rfl⟩
          · have dc721 : r1.toInt = 2 := eq_i (a := r1.toInt) (b := 2) rfl rfl c721
            have k825 : 2 ≤ r1.toInt ∧ r1.toInt ≤ 2 := ⟨k720.1, Int.le_trans (Int.le_of_eq dc721) (Int.le_refl _)⟩
            refine lv_sipush (v := 300) hx hb dX10_line0_43 (by decide) ?_
            refine lv_goto (tgt := 50) hx hb dX10_line0_46 (by decide) ?_
            refine lv_iload_n hx hb dX10_line0_50 rfl (lv_at hl 0 rfl) ?_
            refine lv_if_ne (tgt := 59) hx hb dX10_line0_51 (by decide) (fun c826 => ?_) (fun c826 => False.elim (bad_le (Int.le_of_eq (eq_i (a := r1.toInt) (b := 0) rfl rfl c826)) k825.1 (Int.le_refl _) (by decide)))
            have dc826 : r1.toInt ≠ 0 := ne_i (a := r1.toInt) (b := 0) rfl rfl c826
            refine lv_iload_n hx hb dX10_line0_59 rfl (lv_at hl 0 rfl) ?_
            refine lv_iconst (v := 1) hx hb dX10_line0_60 (by decide) ?_
            refine lv_icmp_ne (tgt := 70) hx hb dX10_line0_61 (by decide) (fun c827 => ?_) (fun c827 => False.elim (bad_le (Int.le_of_eq (eq_i (a := r1.toInt) (b := 1) rfl rfl c827)) k825.1 (Int.le_refl _) (by decide)))
            have dc827 : r1.toInt ≠ 1 := ne_i (a := r1.toInt) (b := 1) rfl rfl c827
            refine lv_iload_n hx hb dX10_line0_70 rfl (lv_at hl 0 rfl) ?_
            refine lv_iconst (v := 2) hx hb dX10_line0_71 (by decide) ?_
            refine lv_icmp_ne (tgt := 81) hx hb dX10_line0_72 (by decide) (fun c828 => False.elim (bad_ne (ne_i (a := r1.toInt) (b := 2) rfl rfl c828) k825 ⟨Int.le_refl _, Int.le_refl _⟩ (by decide))) (fun c828 => ?_)
            have dc828 : r1.toInt = 2 := eq_i (a := r1.toInt) (b := 2) rfl rfl c828
            refine lv_sipush (v := 900) hx hb dX10_line0_75 (by decide) ?_
            refine lv_goto (tgt := 93) hx hb dX10_line0_78 (by decide) ?_
            have n829 : F689 1 = .ref h_tape := (SAME.at t699 (by decide) e_tape)
            have n830 : F689 3 = .int x_size := (SAME.at t699 (by decide) e_size)
            have n831 : F689 5 = .int x_limit := (SAME.at t699 (by decide) e_limit)
            refine call_Vi (wr := [(h_h, .inl (cI, 104, .inl f_h)), (h_names, .inl (cJ, 36, .inr (.inl f_names))), (h_reserved, .inl (cJ, 23, .inr (.inl f_reserved)))]) (As := [.int 300, .int 900]) (rest := []) hx hb hml hown hw (m_X10_takes l D cI cJ cB cP cM cZ h0 h_tape F689 x_size y690 x_limit y691 y692 y694 y697 f_tape 300 900 _ n829 n830 i_x_size t700 t701 n831 i_x_limit t702 t703 t704 t706 t709 (by omega)) wV_X10_242_X10_takes dX10_line0_93 hK hP hD hS hA [3, 4] [0, 1, 2] rfl rfl (by decide) (by decide) (by decide) 0 10 rfl rfl GG.fb hG.at hl.1 rfl (Nat.le_of_ble_eq_true rfl) ⟨(Nat.le_of_ble_eq_true rfl), (Nat.le_of_ble_eq_true rfl)⟩ ⟨(Nat.le_of_ble_eq_true rfl), (Nat.le_of_ble_eq_true rfl)⟩ (fun r832 u H locs hp hP hD hS => ?_)
            have zl300 : (300 : Int32).toInt = 300 := by decide
            have zl900 : (900 : Int32).toInt = 900 := by decide
            rcases hp with hp | hp
            · obtain ⟨F833, y834, t835, t836, t837, t838, t839, rfl, rfl⟩ := hp
              have hP : va_P D vwCl [(h_h, .inl (cI, 104, .inl f_h)), (h_names, .inl (cJ, 36, .inr (.inl f_names))), (h_reserved, .inl (cJ, 23, .inr (.inl f_reserved))), (h0, .inr (10, vL 67 F833)), (h_tape, .inl (cB, 940, .inl f_tape))] H := hP
              have hD : va_D A [(h_h, .inl (cI, 104, .inl f_h)), (h_names, .inl (cJ, 36, .inr (.inl f_names))), (h_reserved, .inl (cJ, 23, .inr (.inl f_reserved))), (h0, .inr (10, vL 67 F833)), (h_tape, .inl (cB, 940, .inl f_tape))] := hD
              refine W.widen (k := 0) (n := 0) (Nat.le_of_ble_eq_true rfl) (Nat.le_of_ble_eq_true rfl) ?_
              refine lv_if_ne (tgt := 101) hx hb dX10_line0_96 (by decide) (fun g => absurd (by decide) g) (fun _ => ?_)
              refine lv_iconst (v := 0) hx hb dX10_line0_99 (by decide) ?_
              exact ret_i (v := 0) hx hb hr hlocks hS (hP.sub (ws' := [(h0, .inr (10, vL 67 F833)), (h_tape, .inl (cB, 940, .inl f_tape)), (h_h, .inl (cI, 104, .inl f_h)), (h_names, .inl (cJ, 36, .inr (.inl f_names))), (h_reserved, .inl (cJ, 23, .inr (.inl f_reserved)))]) [3, 4, 0, 1, 2] rfl) (hD.sub (ws' := [(h0, .inr (10, vL 67 F833)), (h_tape, .inl (cB, 940, .inl f_tape)), (h_h, .inl (cI, 104, .inl f_h)), (h_names, .inl (cJ, 36, .inr (.inl f_names))), (h_reserved, .inl (cJ, 23, .inr (.inl f_reserved)))]) [3, 4, 0, 1, 2] (by decide) rfl) dX10_line0_100 rfl (Nat.le_of_ble_eq_true rfl) (Nat.le_of_ble_eq_true rfl) ⟨F833, y690, y691, y692, y693, y694, y834, y692, y697, x_got, y698, f_h, f_names, (SAME.tr (SAME.tr SAME.rf t699 (by decide)) t835 (by decide)), (SAME.at t835 (by decide) t700), t701, (SAME.at t835 (by decide) t702), t703, (SAME.at t835 (by decide) t704), (SAME.at t835 (by decide) t705), (SAME.at t835 (by decide) t706), t836, t838, (SAME.at t835 (by decide) t709), (SAME.at t835 (by decide) (SAME.at t699 (by decide) e_got)), (SAME.at t835 (by decide) t710), s_h_0, s_h_5, s_h_6, s_h_7, s_h_44, (show 0 ≤ (0 : Int32).toInt ∧ (0 : Int32).toInt ≤ 1 by decide), (by have zl0 : (0 : Int32).toInt = 0 := (by decide); omega), (by omega), rfl⟩
            · refine hp.elim (fun F840 h9z => h9z.elim (fun y841 h9z => h9z.elim (fun y842 h9z => h9z.elim (fun y843 h9z => h9z.elim (fun y844 h9z => h9z.elim (fun y845 h9z => h9z.elim (fun y846 h9z => h9z.elim (fun y847 h9z => h9z.elim (fun t848 h9z => h9z.elim (fun t849 h9z => h9z.elim (fun t850 h9z => h9z.elim (fun t851 h9z => h9z.elim (fun t852 h9z => h9z.elim (fun t853 h9z => h9z.elim (fun t854 h9z => h9z.elim (fun t855 h9z => h9z.elim (fun t856 h9z => h9z.elim (fun t857 h9z => h9z.elim (fun t858 h9z => h9z.elim (fun t859 h9z => h9z.elim (fun t860 h9z => h9z.elim (fun t861 h9z => h9z.elim (fun t862 h9z => h9z.elim (fun t863 h9z => h9z.elim (fun t864 h9z => h9z.elim (fun heq925 h9z => ?_))))))))))))))))))))))))))
              subst heq925
              subst h9z
              have hP : va_P D vwCl [(h_h, .inl (cI, 104, .inl f_h)), (h_names, .inl (cJ, 36, .inr (.inl f_names))), (h_reserved, .inl (cJ, 23, .inr (.inl f_reserved))), (h0, .inr (10, vL 67 F840)), (h_tape, .inl (cB, 940, .inl f_tape))] H := hP
              have hD : va_D A [(h_h, .inl (cI, 104, .inl f_h)), (h_names, .inl (cJ, 36, .inr (.inl f_names))), (h_reserved, .inl (cJ, 23, .inr (.inl f_reserved))), (h0, .inr (10, vL 67 F840)), (h_tape, .inl (cB, 940, .inl f_tape))] := hD
              refine W.widen (k := 0) (n := 0) (Nat.le_of_ble_eq_true rfl) (Nat.le_of_ble_eq_true rfl) ?_
              have k866 : 2 ≤ y691.toInt ∧ y691.toInt ≤ 2 := ⟨Int.le_trans (Int.le_refl _) (Int.le_of_eq t860.symm), Int.le_trans (Int.le_of_eq t860) (Int.le_refl _)⟩
              have k867 : 300 ≤ y694.toInt ∧ y694.toInt ≤ 2147483647 := ⟨Int.le_trans (Int.le_refl _) t861, (ir_any _).2⟩
              have k868 : 300 ≤ y694.toInt ∧ y694.toInt ≤ 900 := ⟨k867.1, Int.le_trans t862 (Int.le_refl _)⟩
              refine lv_if_ne (tgt := 101) hx hb dX10_line0_96 (by decide) (fun _ => ?_) (fun g => absurd g (by decide))
              refine lv_aload_n hx hb dX10_line0_101 rfl (lv_at hl 1 rfl) ?_
              have n869 : F689 7 = .ref h_h := (SAME.at t699 (by decide) e_h)
              have n870 : F840 7 = .ref h_h := (SAME.at t848 (by decide) n869)
              refine get_f (D := D) (ci := 10) (v := .ref h_h) (C := RX10) (T := TX10) (N := 67) hx hb hw inAX10 hown hK hP 3 rfl rfl 7 (by decide) (hw _ q_1268) (fun _ h9 => h9) n870 dX10_line0_102 ?_
              refine lv_iload_n hx hb dX10_line0_105 rfl (lv_at hl 0 rfl) ?_
              refine lv_aload_n hx hb dX10_line0_106 rfl (lv_at hl 1 rfl) ?_
              refine get_f (D := D) (ci := 10) (v := .int y847) (C := RX10) (T := TX10) (N := 67) hx hb hw inAX10 hown hK hP 3 rfl rfl 19 (by decide) (hw _ q_1280) (fun _ h9 => h9) t859 dX10_line0_107 ?_
              obtain ⟨g871, eg871⟩ : ∃ z : Nat → Int32, upd f_h r1.toNatClampNeg y847 = z := ⟨_, rfl⟩
              have r872 : SG 0 0 0 40 g871 := by rw [← eg871]; exact s_h_0.up (Int.le_trans (by decide) k825.1) (Or.inr (Or.inl (dec_lt k825.1 (by decide))))
              have r873 : SG 44 55 0 9 g871 := by rw [← eg871]; exact s_h_44.up (Int.le_trans (by decide) k825.1) (Or.inl (lt_dec k825.2 (by decide)))
              have r874 : SG 5 5 0 12 g871 := by rw [← eg871]; exact s_h_5.up (Int.le_trans (by decide) k825.1) (Or.inl (lt_dec k825.2 (by decide)))
              have r875 : SG 6 6 0 12 g871 := by rw [← eg871]; exact s_h_6.up (Int.le_trans (by decide) k825.1) (Or.inl (lt_dec k825.2 (by decide)))
              have r876 : SG 7 7 0 6 g871 := by rw [← eg871]; exact s_h_7.up (Int.le_trans (by decide) k825.1) (Or.inl (lt_dec k825.2 (by decide)))
              refine iast_g hx hb hK hP hD hS 0 0 rfl rfl (ix_k k825 (by decide) (by decide)) eg871 dX10_line0_110 (fun H locs hP hD hS => ?_)
              have hP : va_P D vwCl [(h_h, .inl (cI, 104, .inl g871)), (h_names, .inl (cJ, 36, .inr (.inl f_names))), (h_reserved, .inl (cJ, 23, .inr (.inl f_reserved))), (h0, .inr (10, vL 67 F840)), (h_tape, .inl (cB, 940, .inl f_tape))] H := hP
              have hD : va_D A [(h_h, .inl (cI, 104, .inl g871)), (h_names, .inl (cJ, 36, .inr (.inl f_names))), (h_reserved, .inl (cJ, 23, .inr (.inl f_reserved))), (h0, .inr (10, vL 67 F840)), (h_tape, .inl (cB, 940, .inl f_tape))] := hD
              refine lv_iconst (v := 1) hx hb dX10_line0_111 (by decide) ?_
              exact ret_i (v := 1) hx hb hr hlocks hS (hP.sub (ws' := [(h0, .inr (10, vL 67 F840)), (h_tape, .inl (cB, 940, .inl f_tape)), (h_h, .inl (cI, 104, .inl g871)), (h_names, .inl (cJ, 36, .inr (.inl f_names))), (h_reserved, .inl (cJ, 23, .inr (.inl f_reserved)))]) [3, 4, 0, 1, 2] rfl) (hD.sub (ws' := [(h0, .inr (10, vL 67 F840)), (h_tape, .inl (cB, 940, .inl f_tape)), (h_h, .inl (cI, 104, .inl g871)), (h_names, .inl (cJ, 36, .inr (.inl f_names))), (h_reserved, .inl (cJ, 23, .inr (.inl f_reserved)))]) [3, 4, 0, 1, 2] (by decide) rfl) dX10_line0_112 rfl (Nat.le_of_ble_eq_true rfl) (Nat.le_of_ble_eq_true rfl) ⟨F840, y841, y842, y843, y844, y845, y695, y696, y846, y847, y698, g871, f_names, (SAME.tr (SAME.tr SAME.rf t699 (by decide)) t848 (by decide)), t849, t850, t851, t852, t853, t855, t857, (SAME.at t848 (by decide) t707), (SAME.at t848 (by decide) t708), t858, t859, (SAME.at t848 (by decide) t710), r872, r874, r875, r876, r873, (show 0 ≤ (1 : Int32).toInt ∧ (1 : Int32).toInt ≤ 1 by decide), (by have zl1 : (1 : Int32).toInt = 1 := (by decide); omega), (by omega), rfl⟩
        · have dc719 : r1.toInt = 1 := eq_i (a := r1.toInt) (b := 1) rfl rfl c719
          have k877 : 1 ≤ r1.toInt ∧ r1.toInt ≤ 1 := ⟨k718.1, Int.le_trans (Int.le_of_eq dc719) (Int.le_refl _)⟩
          refine lv_bipush (v := 100) hx hb dX10_line0_33 (by decide) ?_
          refine lv_goto (tgt := 50) hx hb dX10_line0_35 (by decide) ?_
          refine lv_iload_n hx hb dX10_line0_50 rfl (lv_at hl 0 rfl) ?_
          refine lv_if_ne (tgt := 59) hx hb dX10_line0_51 (by decide) (fun c878 => ?_) (fun c878 => False.elim (bad_le (Int.le_of_eq (eq_i (a := r1.toInt) (b := 0) rfl rfl c878)) k877.1 (Int.le_refl _) (by decide)))
          have dc878 : r1.toInt ≠ 0 := ne_i (a := r1.toInt) (b := 0) rfl rfl c878
          refine lv_iload_n hx hb dX10_line0_59 rfl (lv_at hl 0 rfl) ?_
          refine lv_iconst (v := 1) hx hb dX10_line0_60 (by decide) ?_
          refine lv_icmp_ne (tgt := 70) hx hb dX10_line0_61 (by decide) (fun c879 => False.elim (bad_ne (ne_i (a := r1.toInt) (b := 1) rfl rfl c879) k877 ⟨Int.le_refl _, Int.le_refl _⟩ (by decide))) (fun c879 => ?_)
          have dc879 : r1.toInt = 1 := eq_i (a := r1.toInt) (b := 1) rfl rfl c879
          refine lv_sipush (v := 300) hx hb dX10_line0_64 (by decide) ?_
          refine lv_goto (tgt := 93) hx hb dX10_line0_67 (by decide) ?_
          have n880 : F689 1 = .ref h_tape := (SAME.at t699 (by decide) e_tape)
          have n881 : F689 3 = .int x_size := (SAME.at t699 (by decide) e_size)
          have n882 : F689 5 = .int x_limit := (SAME.at t699 (by decide) e_limit)
          refine call_Vi (wr := [(h_h, .inl (cI, 104, .inl f_h)), (h_names, .inl (cJ, 36, .inr (.inl f_names))), (h_reserved, .inl (cJ, 23, .inr (.inl f_reserved)))]) (As := [.int 100, .int 300]) (rest := []) hx hb hml hown hw (m_X10_takes l D cI cJ cB cP cM cZ h0 h_tape F689 x_size y690 x_limit y691 y692 y694 y697 f_tape 100 300 _ n880 n881 i_x_size t700 t701 n882 i_x_limit t702 t703 t704 t706 t709 (by omega)) wV_X10_242_X10_takes dX10_line0_93 hK hP hD hS hA [3, 4] [0, 1, 2] rfl rfl (by decide) (by decide) (by decide) 0 10 rfl rfl GG.fb hG.at hl.1 rfl (Nat.le_of_ble_eq_true rfl) ⟨(Nat.le_of_ble_eq_true rfl), (Nat.le_of_ble_eq_true rfl)⟩ ⟨(Nat.le_of_ble_eq_true rfl), (Nat.le_of_ble_eq_true rfl)⟩ (fun r883 u H locs hp hP hD hS => ?_)
          have zl100 : (100 : Int32).toInt = 100 := by decide
          have zl300 : (300 : Int32).toInt = 300 := by decide
          rcases hp with hp | hp
          · obtain ⟨F884, y885, t886, t887, t888, t889, t890, rfl, rfl⟩ := hp
            have hP : va_P D vwCl [(h_h, .inl (cI, 104, .inl f_h)), (h_names, .inl (cJ, 36, .inr (.inl f_names))), (h_reserved, .inl (cJ, 23, .inr (.inl f_reserved))), (h0, .inr (10, vL 67 F884)), (h_tape, .inl (cB, 940, .inl f_tape))] H := hP
            have hD : va_D A [(h_h, .inl (cI, 104, .inl f_h)), (h_names, .inl (cJ, 36, .inr (.inl f_names))), (h_reserved, .inl (cJ, 23, .inr (.inl f_reserved))), (h0, .inr (10, vL 67 F884)), (h_tape, .inl (cB, 940, .inl f_tape))] := hD
            refine W.widen (k := 0) (n := 0) (Nat.le_of_ble_eq_true rfl) (Nat.le_of_ble_eq_true rfl) ?_
            refine lv_if_ne (tgt := 101) hx hb dX10_line0_96 (by decide) (fun g => absurd (by decide) g) (fun _ => ?_)
            refine lv_iconst (v := 0) hx hb dX10_line0_99 (by decide) ?_
            exact ret_i (v := 0) hx hb hr hlocks hS (hP.sub (ws' := [(h0, .inr (10, vL 67 F884)), (h_tape, .inl (cB, 940, .inl f_tape)), (h_h, .inl (cI, 104, .inl f_h)), (h_names, .inl (cJ, 36, .inr (.inl f_names))), (h_reserved, .inl (cJ, 23, .inr (.inl f_reserved)))]) [3, 4, 0, 1, 2] rfl) (hD.sub (ws' := [(h0, .inr (10, vL 67 F884)), (h_tape, .inl (cB, 940, .inl f_tape)), (h_h, .inl (cI, 104, .inl f_h)), (h_names, .inl (cJ, 36, .inr (.inl f_names))), (h_reserved, .inl (cJ, 23, .inr (.inl f_reserved)))]) [3, 4, 0, 1, 2] (by decide) rfl) dX10_line0_100 rfl (Nat.le_of_ble_eq_true rfl) (Nat.le_of_ble_eq_true rfl) ⟨F884, y690, y691, y692, y693, y694, y885, y692, y697, x_got, y698, f_h, f_names, (SAME.tr (SAME.tr SAME.rf t699 (by decide)) t886 (by decide)), (SAME.at t886 (by decide) t700), t701, (SAME.at t886 (by decide) t702), t703, (SAME.at t886 (by decide) t704), (SAME.at t886 (by decide) t705), (SAME.at t886 (by decide) t706), t887, t889, (SAME.at t886 (by decide) t709), (SAME.at t886 (by decide) (SAME.at t699 (by decide) e_got)), (SAME.at t886 (by decide) t710), s_h_0, s_h_5, s_h_6, s_h_7, s_h_44, (show 0 ≤ (0 : Int32).toInt ∧ (0 : Int32).toInt ≤ 1 by decide), (by have zl0 : (0 : Int32).toInt = 0 := (by decide); omega), (by omega), rfl⟩
          · refine hp.elim (fun F891 h9z => h9z.elim (fun y892 h9z => h9z.elim (fun y893 h9z => h9z.elim (fun y894 h9z => h9z.elim (fun y895 h9z => h9z.elim (fun y896 h9z => h9z.elim (fun y897 h9z => h9z.elim (fun y898 h9z => h9z.elim (fun t899 h9z => h9z.elim (fun t900 h9z => h9z.elim (fun t901 h9z => h9z.elim (fun t902 h9z => h9z.elim (fun t903 h9z => h9z.elim (fun t904 h9z => h9z.elim (fun t905 h9z => h9z.elim (fun t906 h9z => h9z.elim (fun t907 h9z => h9z.elim (fun t908 h9z => h9z.elim (fun t909 h9z => h9z.elim (fun t910 h9z => h9z.elim (fun t911 h9z => h9z.elim (fun t912 h9z => h9z.elim (fun t913 h9z => h9z.elim (fun t914 h9z => h9z.elim (fun t915 h9z => h9z.elim (fun heq925 h9z => ?_))))))))))))))))))))))))))
            subst heq925
            subst h9z
            have hP : va_P D vwCl [(h_h, .inl (cI, 104, .inl f_h)), (h_names, .inl (cJ, 36, .inr (.inl f_names))), (h_reserved, .inl (cJ, 23, .inr (.inl f_reserved))), (h0, .inr (10, vL 67 F891)), (h_tape, .inl (cB, 940, .inl f_tape))] H := hP
            have hD : va_D A [(h_h, .inl (cI, 104, .inl f_h)), (h_names, .inl (cJ, 36, .inr (.inl f_names))), (h_reserved, .inl (cJ, 23, .inr (.inl f_reserved))), (h0, .inr (10, vL 67 F891)), (h_tape, .inl (cB, 940, .inl f_tape))] := hD
            refine W.widen (k := 0) (n := 0) (Nat.le_of_ble_eq_true rfl) (Nat.le_of_ble_eq_true rfl) ?_
            have k917 : 2 ≤ y691.toInt ∧ y691.toInt ≤ 2 := ⟨Int.le_trans (Int.le_refl _) (Int.le_of_eq t911.symm), Int.le_trans (Int.le_of_eq t911) (Int.le_refl _)⟩
            have k918 : 100 ≤ y694.toInt ∧ y694.toInt ≤ 2147483647 := ⟨Int.le_trans (Int.le_refl _) t912, (ir_any _).2⟩
            have k919 : 100 ≤ y694.toInt ∧ y694.toInt ≤ 300 := ⟨k918.1, Int.le_trans t913 (Int.le_refl _)⟩
            refine lv_if_ne (tgt := 101) hx hb dX10_line0_96 (by decide) (fun _ => ?_) (fun g => absurd g (by decide))
            refine lv_aload_n hx hb dX10_line0_101 rfl (lv_at hl 1 rfl) ?_
            have n920 : F689 7 = .ref h_h := (SAME.at t699 (by decide) e_h)
            have n921 : F891 7 = .ref h_h := (SAME.at t899 (by decide) n920)
            refine get_f (D := D) (ci := 10) (v := .ref h_h) (C := RX10) (T := TX10) (N := 67) hx hb hw inAX10 hown hK hP 3 rfl rfl 7 (by decide) (hw _ q_1268) (fun _ h9 => h9) n921 dX10_line0_102 ?_
            refine lv_iload_n hx hb dX10_line0_105 rfl (lv_at hl 0 rfl) ?_
            refine lv_aload_n hx hb dX10_line0_106 rfl (lv_at hl 1 rfl) ?_
            refine get_f (D := D) (ci := 10) (v := .int y898) (C := RX10) (T := TX10) (N := 67) hx hb hw inAX10 hown hK hP 3 rfl rfl 19 (by decide) (hw _ q_1280) (fun _ h9 => h9) t910 dX10_line0_107 ?_
            obtain ⟨g922, eg922⟩ : ∃ z : Nat → Int32, upd f_h r1.toNatClampNeg y898 = z := ⟨_, rfl⟩
            have r923 : SG 0 0 0 40 g922 := by rw [← eg922]; exact s_h_0.up (Int.le_trans (by decide) k877.1) (Or.inr (Or.inl (dec_lt k877.1 (by decide))))
            have r924 : SG 44 55 0 9 g922 := by rw [← eg922]; exact s_h_44.up (Int.le_trans (by decide) k877.1) (Or.inl (lt_dec k877.2 (by decide)))
            have r925 : SG 5 5 0 12 g922 := by rw [← eg922]; exact s_h_5.up (Int.le_trans (by decide) k877.1) (Or.inl (lt_dec k877.2 (by decide)))
            have r926 : SG 6 6 0 12 g922 := by rw [← eg922]; exact s_h_6.up (Int.le_trans (by decide) k877.1) (Or.inl (lt_dec k877.2 (by decide)))
            have r927 : SG 7 7 0 6 g922 := by rw [← eg922]; exact s_h_7.up (Int.le_trans (by decide) k877.1) (Or.inl (lt_dec k877.2 (by decide)))
            refine iast_g hx hb hK hP hD hS 0 0 rfl rfl (ix_k k877 (by decide) (by decide)) eg922 dX10_line0_110 (fun H locs hP hD hS => ?_)
            have hP : va_P D vwCl [(h_h, .inl (cI, 104, .inl g922)), (h_names, .inl (cJ, 36, .inr (.inl f_names))), (h_reserved, .inl (cJ, 23, .inr (.inl f_reserved))), (h0, .inr (10, vL 67 F891)), (h_tape, .inl (cB, 940, .inl f_tape))] H := hP
            have hD : va_D A [(h_h, .inl (cI, 104, .inl g922)), (h_names, .inl (cJ, 36, .inr (.inl f_names))), (h_reserved, .inl (cJ, 23, .inr (.inl f_reserved))), (h0, .inr (10, vL 67 F891)), (h_tape, .inl (cB, 940, .inl f_tape))] := hD
            refine lv_iconst (v := 1) hx hb dX10_line0_111 (by decide) ?_
            exact ret_i (v := 1) hx hb hr hlocks hS (hP.sub (ws' := [(h0, .inr (10, vL 67 F891)), (h_tape, .inl (cB, 940, .inl f_tape)), (h_h, .inl (cI, 104, .inl g922)), (h_names, .inl (cJ, 36, .inr (.inl f_names))), (h_reserved, .inl (cJ, 23, .inr (.inl f_reserved)))]) [3, 4, 0, 1, 2] rfl) (hD.sub (ws' := [(h0, .inr (10, vL 67 F891)), (h_tape, .inl (cB, 940, .inl f_tape)), (h_h, .inl (cI, 104, .inl g922)), (h_names, .inl (cJ, 36, .inr (.inl f_names))), (h_reserved, .inl (cJ, 23, .inr (.inl f_reserved)))]) [3, 4, 0, 1, 2] (by decide) rfl) dX10_line0_112 rfl (Nat.le_of_ble_eq_true rfl) (Nat.le_of_ble_eq_true rfl) ⟨F891, y892, y893, y894, y895, y896, y695, y696, y897, y898, y698, g922, f_names, (SAME.tr (SAME.tr SAME.rf t699 (by decide)) t899 (by decide)), t900, t901, t902, t903, t904, t906, t908, (SAME.at t899 (by decide) t707), (SAME.at t899 (by decide) t708), t909, t910, (SAME.at t899 (by decide) t710), r923, r925, r926, r927, r924, (show 0 ≤ (1 : Int32).toInt ∧ (1 : Int32).toInt ≤ 1 by decide), (by have zl1 : (1 : Int32).toInt = 1 := (by decide); omega), (by omega), rfl⟩
      · have dc717 : r1.toInt = 0 := eq_i (a := r1.toInt) (b := 0) rfl rfl c717
        have k928 : 0 ≤ r1.toInt ∧ r1.toInt ≤ 0 := ⟨k687.1, Int.le_trans (Int.le_of_eq dc717) (Int.le_refl _)⟩
        refine lv_iconst (v := 5) hx hb dX10_line0_24 (by decide) ?_
        refine lv_goto (tgt := 50) hx hb dX10_line0_25 (by decide) ?_
        refine lv_iload_n hx hb dX10_line0_50 rfl (lv_at hl 0 rfl) ?_
        refine lv_if_ne (tgt := 59) hx hb dX10_line0_51 (by decide) (fun c929 => False.elim (bad_ne (ne_i (a := r1.toInt) (b := 0) rfl rfl c929) k928 ⟨Int.le_refl _, Int.le_refl _⟩ (by decide))) (fun c929 => ?_)
        have dc929 : r1.toInt = 0 := eq_i (a := r1.toInt) (b := 0) rfl rfl c929
        refine lv_bipush (v := 40) hx hb dX10_line0_54 (by decide) ?_
        refine lv_goto (tgt := 93) hx hb dX10_line0_56 (by decide) ?_
        have n930 : F689 1 = .ref h_tape := (SAME.at t699 (by decide) e_tape)
        have n931 : F689 3 = .int x_size := (SAME.at t699 (by decide) e_size)
        have n932 : F689 5 = .int x_limit := (SAME.at t699 (by decide) e_limit)
        refine call_Vi (wr := [(h_h, .inl (cI, 104, .inl f_h)), (h_names, .inl (cJ, 36, .inr (.inl f_names))), (h_reserved, .inl (cJ, 23, .inr (.inl f_reserved)))]) (As := [.int 5, .int 40]) (rest := []) hx hb hml hown hw (m_X10_takes l D cI cJ cB cP cM cZ h0 h_tape F689 x_size y690 x_limit y691 y692 y694 y697 f_tape 5 40 _ n930 n931 i_x_size t700 t701 n932 i_x_limit t702 t703 t704 t706 t709 (by omega)) wV_X10_242_X10_takes dX10_line0_93 hK hP hD hS hA [3, 4] [0, 1, 2] rfl rfl (by decide) (by decide) (by decide) 0 10 rfl rfl GG.fb hG.at hl.1 rfl (Nat.le_of_ble_eq_true rfl) ⟨(Nat.le_of_ble_eq_true rfl), (Nat.le_of_ble_eq_true rfl)⟩ ⟨(Nat.le_of_ble_eq_true rfl), (Nat.le_of_ble_eq_true rfl)⟩ (fun r933 u H locs hp hP hD hS => ?_)
        have zl5 : (5 : Int32).toInt = 5 := by decide
        have zl40 : (40 : Int32).toInt = 40 := by decide
        rcases hp with hp | hp
        · obtain ⟨F934, y935, t936, t937, t938, t939, t940, rfl, rfl⟩ := hp
          have hP : va_P D vwCl [(h_h, .inl (cI, 104, .inl f_h)), (h_names, .inl (cJ, 36, .inr (.inl f_names))), (h_reserved, .inl (cJ, 23, .inr (.inl f_reserved))), (h0, .inr (10, vL 67 F934)), (h_tape, .inl (cB, 940, .inl f_tape))] H := hP
          have hD : va_D A [(h_h, .inl (cI, 104, .inl f_h)), (h_names, .inl (cJ, 36, .inr (.inl f_names))), (h_reserved, .inl (cJ, 23, .inr (.inl f_reserved))), (h0, .inr (10, vL 67 F934)), (h_tape, .inl (cB, 940, .inl f_tape))] := hD
          refine W.widen (k := 0) (n := 0) (Nat.le_of_ble_eq_true rfl) (Nat.le_of_ble_eq_true rfl) ?_
          refine lv_if_ne (tgt := 101) hx hb dX10_line0_96 (by decide) (fun g => absurd (by decide) g) (fun _ => ?_)
          refine lv_iconst (v := 0) hx hb dX10_line0_99 (by decide) ?_
          exact ret_i (v := 0) hx hb hr hlocks hS (hP.sub (ws' := [(h0, .inr (10, vL 67 F934)), (h_tape, .inl (cB, 940, .inl f_tape)), (h_h, .inl (cI, 104, .inl f_h)), (h_names, .inl (cJ, 36, .inr (.inl f_names))), (h_reserved, .inl (cJ, 23, .inr (.inl f_reserved)))]) [3, 4, 0, 1, 2] rfl) (hD.sub (ws' := [(h0, .inr (10, vL 67 F934)), (h_tape, .inl (cB, 940, .inl f_tape)), (h_h, .inl (cI, 104, .inl f_h)), (h_names, .inl (cJ, 36, .inr (.inl f_names))), (h_reserved, .inl (cJ, 23, .inr (.inl f_reserved)))]) [3, 4, 0, 1, 2] (by decide) rfl) dX10_line0_100 rfl (Nat.le_of_ble_eq_true rfl) (Nat.le_of_ble_eq_true rfl) ⟨F934, y690, y691, y692, y693, y694, y935, y692, y697, x_got, y698, f_h, f_names, (SAME.tr (SAME.tr SAME.rf t699 (by decide)) t936 (by decide)), (SAME.at t936 (by decide) t700), t701, (SAME.at t936 (by decide) t702), t703, (SAME.at t936 (by decide) t704), (SAME.at t936 (by decide) t705), (SAME.at t936 (by decide) t706), t937, t939, (SAME.at t936 (by decide) t709), (SAME.at t936 (by decide) (SAME.at t699 (by decide) e_got)), (SAME.at t936 (by decide) t710), s_h_0, s_h_5, s_h_6, s_h_7, s_h_44, (show 0 ≤ (0 : Int32).toInt ∧ (0 : Int32).toInt ≤ 1 by decide), (by have zl0 : (0 : Int32).toInt = 0 := (by decide); omega), (by omega), rfl⟩
        · refine hp.elim (fun F941 h9z => h9z.elim (fun y942 h9z => h9z.elim (fun y943 h9z => h9z.elim (fun y944 h9z => h9z.elim (fun y945 h9z => h9z.elim (fun y946 h9z => h9z.elim (fun y947 h9z => h9z.elim (fun y948 h9z => h9z.elim (fun t949 h9z => h9z.elim (fun t950 h9z => h9z.elim (fun t951 h9z => h9z.elim (fun t952 h9z => h9z.elim (fun t953 h9z => h9z.elim (fun t954 h9z => h9z.elim (fun t955 h9z => h9z.elim (fun t956 h9z => h9z.elim (fun t957 h9z => h9z.elim (fun t958 h9z => h9z.elim (fun t959 h9z => h9z.elim (fun t960 h9z => h9z.elim (fun t961 h9z => h9z.elim (fun t962 h9z => h9z.elim (fun t963 h9z => h9z.elim (fun t964 h9z => h9z.elim (fun t965 h9z => h9z.elim (fun heq925 h9z => ?_))))))))))))))))))))))))))
          subst heq925
          subst h9z
          have hP : va_P D vwCl [(h_h, .inl (cI, 104, .inl f_h)), (h_names, .inl (cJ, 36, .inr (.inl f_names))), (h_reserved, .inl (cJ, 23, .inr (.inl f_reserved))), (h0, .inr (10, vL 67 F941)), (h_tape, .inl (cB, 940, .inl f_tape))] H := hP
          have hD : va_D A [(h_h, .inl (cI, 104, .inl f_h)), (h_names, .inl (cJ, 36, .inr (.inl f_names))), (h_reserved, .inl (cJ, 23, .inr (.inl f_reserved))), (h0, .inr (10, vL 67 F941)), (h_tape, .inl (cB, 940, .inl f_tape))] := hD
          refine W.widen (k := 0) (n := 0) (Nat.le_of_ble_eq_true rfl) (Nat.le_of_ble_eq_true rfl) ?_
          have k967 : 2 ≤ y691.toInt ∧ y691.toInt ≤ 2 := ⟨Int.le_trans (Int.le_refl _) (Int.le_of_eq t961.symm), Int.le_trans (Int.le_of_eq t961) (Int.le_refl _)⟩
          have k968 : 5 ≤ y694.toInt ∧ y694.toInt ≤ 2147483647 := ⟨Int.le_trans (Int.le_refl _) t962, (ir_any _).2⟩
          have k969 : 5 ≤ y694.toInt ∧ y694.toInt ≤ 40 := ⟨k968.1, Int.le_trans t963 (Int.le_refl _)⟩
          refine lv_if_ne (tgt := 101) hx hb dX10_line0_96 (by decide) (fun _ => ?_) (fun g => absurd g (by decide))
          refine lv_aload_n hx hb dX10_line0_101 rfl (lv_at hl 1 rfl) ?_
          have n970 : F689 7 = .ref h_h := (SAME.at t699 (by decide) e_h)
          have n971 : F941 7 = .ref h_h := (SAME.at t949 (by decide) n970)
          refine get_f (D := D) (ci := 10) (v := .ref h_h) (C := RX10) (T := TX10) (N := 67) hx hb hw inAX10 hown hK hP 3 rfl rfl 7 (by decide) (hw _ q_1268) (fun _ h9 => h9) n971 dX10_line0_102 ?_
          refine lv_iload_n hx hb dX10_line0_105 rfl (lv_at hl 0 rfl) ?_
          refine lv_aload_n hx hb dX10_line0_106 rfl (lv_at hl 1 rfl) ?_
          refine get_f (D := D) (ci := 10) (v := .int y948) (C := RX10) (T := TX10) (N := 67) hx hb hw inAX10 hown hK hP 3 rfl rfl 19 (by decide) (hw _ q_1280) (fun _ h9 => h9) t960 dX10_line0_107 ?_
          obtain ⟨g972, eg972⟩ : ∃ z : Nat → Int32, upd f_h r1.toNatClampNeg y948 = z := ⟨_, rfl⟩
          have r973 : SG 0 0 0 40 g972 := by rw [← eg972]; exact s_h_0.up (Int.le_trans (by decide) k928.1) (by omega)
          have r974 : SG 44 55 0 9 g972 := by rw [← eg972]; exact s_h_44.up (Int.le_trans (by decide) k928.1) (Or.inl (lt_dec k928.2 (by decide)))
          have r975 : SG 5 5 0 12 g972 := by rw [← eg972]; exact s_h_5.up (Int.le_trans (by decide) k928.1) (Or.inl (lt_dec k928.2 (by decide)))
          have r976 : SG 6 6 0 12 g972 := by rw [← eg972]; exact s_h_6.up (Int.le_trans (by decide) k928.1) (Or.inl (lt_dec k928.2 (by decide)))
          have r977 : SG 7 7 0 6 g972 := by rw [← eg972]; exact s_h_7.up (Int.le_trans (by decide) k928.1) (Or.inl (lt_dec k928.2 (by decide)))
          refine iast_g hx hb hK hP hD hS 0 0 rfl rfl (ix_k k928 (by decide) (by decide)) eg972 dX10_line0_110 (fun H locs hP hD hS => ?_)
          have hP : va_P D vwCl [(h_h, .inl (cI, 104, .inl g972)), (h_names, .inl (cJ, 36, .inr (.inl f_names))), (h_reserved, .inl (cJ, 23, .inr (.inl f_reserved))), (h0, .inr (10, vL 67 F941)), (h_tape, .inl (cB, 940, .inl f_tape))] H := hP
          have hD : va_D A [(h_h, .inl (cI, 104, .inl g972)), (h_names, .inl (cJ, 36, .inr (.inl f_names))), (h_reserved, .inl (cJ, 23, .inr (.inl f_reserved))), (h0, .inr (10, vL 67 F941)), (h_tape, .inl (cB, 940, .inl f_tape))] := hD
          refine lv_iconst (v := 1) hx hb dX10_line0_111 (by decide) ?_
          exact ret_i (v := 1) hx hb hr hlocks hS (hP.sub (ws' := [(h0, .inr (10, vL 67 F941)), (h_tape, .inl (cB, 940, .inl f_tape)), (h_h, .inl (cI, 104, .inl g972)), (h_names, .inl (cJ, 36, .inr (.inl f_names))), (h_reserved, .inl (cJ, 23, .inr (.inl f_reserved)))]) [3, 4, 0, 1, 2] rfl) (hD.sub (ws' := [(h0, .inr (10, vL 67 F941)), (h_tape, .inl (cB, 940, .inl f_tape)), (h_h, .inl (cI, 104, .inl g972)), (h_names, .inl (cJ, 36, .inr (.inl f_names))), (h_reserved, .inl (cJ, 23, .inr (.inl f_reserved)))]) [3, 4, 0, 1, 2] (by decide) rfl) dX10_line0_112 rfl (Nat.le_of_ble_eq_true rfl) (Nat.le_of_ble_eq_true rfl) ⟨F941, y942, y943, y944, y945, y946, y695, y696, y947, y948, y698, g972, f_names, (SAME.tr (SAME.tr SAME.rf t699 (by decide)) t949 (by decide)), t950, t951, t952, t953, t954, t956, t958, (SAME.at t949 (by decide) t707), (SAME.at t949 (by decide) t708), t959, t960, (SAME.at t949 (by decide) t710), r973, r975, r976, r977, r974, (show 0 ≤ (1 : Int32).toInt ∧ (1 : Int32).toInt ≤ 1 by decide), (by have zl1 : (1 : Int32).toInt = 1 := (by decide); omega), (by omega), rfl⟩
    · have dc715 : r688.toInt = 0 := eq_i (a := r688.toInt) (b := 0) rfl rfl c715
      have k978 : 0 ≤ r688.toInt ∧ r688.toInt ≤ 0 := ⟨t711.1, Int.le_trans (Int.le_of_eq dc715) (Int.le_refl _)⟩
      refine lv_iconst (v := 0) hx hb dX10_line0_17 (by decide) ?_
      exact ret_i (v := 0) hx hb hr hlocks hS (hP.sub (ws' := [(h0, .inr (10, vL 67 F689)), (h_tape, .inl (cB, 940, .inl f_tape)), (h_h, .inl (cI, 104, .inl f_h)), (h_names, .inl (cJ, 36, .inr (.inl f_names))), (h_reserved, .inl (cJ, 23, .inr (.inl f_reserved)))]) [3, 4, 0, 1, 2] rfl) (hD.sub (ws' := [(h0, .inr (10, vL 67 F689)), (h_tape, .inl (cB, 940, .inl f_tape)), (h_h, .inl (cI, 104, .inl f_h)), (h_names, .inl (cJ, 36, .inr (.inl f_names))), (h_reserved, .inl (cJ, 23, .inr (.inl f_reserved)))]) [3, 4, 0, 1, 2] (by decide) rfl) dX10_line0_18 rfl (Nat.le_of_ble_eq_true rfl) (Nat.le_of_ble_eq_true rfl) ⟨F689, y690, y691, y692, y693, y694, y695, y696, y697, x_got, y698, f_h, f_names, (SAME.tr SAME.rf t699 (by decide)), t700, t701, t702, t703, t704, t705, t706, t707, t708, t709, (SAME.at t699 (by decide) e_got), t710, s_h_0, s_h_5, s_h_6, s_h_7, s_h_44, (show 0 ≤ (0 : Int32).toInt ∧ (0 : Int32).toInt ≤ 1 by decide), (by have zl0 : (0 : Int32).toInt = 0 := (by decide); omega), (by omega), rfl⟩
set_option maxHeartbeats 4000000 in
set_option maxRecDepth 100000 in
theorem m_X10_course (l : Launch) (D : va_G) (cI cJ cB cP cM cZ : ClassId) (h0 : Nat) (h_tape : Nat) (h_s : Nat) (h_h : Nat) (h_names : Nat) (h_reserved : Nat) (Fh : Nat → Value) (x_length : Int32) (x_token : Int32) (x_number : Int32) (x_faultAt : Int32) (x_ids : Int32) (x_word : Int64) (x_got : Int32) (x_undoMany : Int32) (f_tape : Nat → Int32) (f_s : Nat → Int32) (f_h : Nat → Int32) (f_names : Nat → Int64) (f_reserved : Nat → Int64) (sz : Nat) (e_tape : Fh 1 = .ref h_tape) (e_length : Fh 2 = .int x_length) (i_x_length : IR 0 940 x_length) (e_s : Fh 6 = .ref h_s) (e_h : Fh 7 = .ref h_h) (e_names : Fh 9 = .ref h_names) (e_reserved : Fh 10 = .ref h_reserved) (e_token : Fh 11 = .int x_token) (i_x_token : IR 0 4 x_token) (e_number : Fh 14 = .int x_number) (e_faultAt : Fh 16 = .int x_faultAt) (e_ids : Fh 17 = .int x_ids) (e_word : Fh 18 = .long x_word) (e_got : Fh 19 = .int x_got) (e_undoMany : Fh 41 = .int x_undoMany) (i_x_undoMany : IR 0 8 x_undoMany) (s_s_K0 : KW 0 f_s) (s_s_0 : SG 0 0 0 40 f_s) (s_s_105 : SG 105 108 0 11 f_s) (s_s_114 : SG 114 114 0 5 f_s) (s_s_130 : SG 130 133 0 11 f_s) (s_s_139 : SG 139 139 0 5 f_s) (s_s_153 : SG 153 153 0 44 f_s) (s_s_44 : SG 44 55 0 9 f_s) (s_s_5 : SG 5 5 0 12 f_s) (s_s_6 : SG 6 6 0 12 f_s) (s_s_7 : SG 7 7 0 6 f_s) (s_h_0 : SG 0 0 0 40 f_h) (s_h_44 : SG 44 55 0 9 f_h) (s_h_5 : SG 5 5 0 12 f_h) (s_h_6 : SG 6 6 0 12 f_h) (s_h_7 : SG 7 7 0 6 f_h) (o_0 : (x_token.toInt = 2 → 0 ≤ x_number.toInt ∧ x_number.toInt ≤ 999)) : CI l yX10_course cX10_course 2 (some .int) { frames := 4, cells := 0, slots := 0, locals := 87 } (GG D cI cJ cB cP cM cZ) D [(h0, .inr (10, vL 67 Fh)), (h_tape, .inl (cB, 940, .inl f_tape)), (h_s, .inl (cI, 335, .inl f_s)), (h_h, .inl (cI, 104, .inl f_h)), (h_names, .inl (cJ, 36, .inr (.inl f_names))), (h_reserved, .inl (cJ, 23, .inr (.inl f_reserved)))] sz [.ref h0] (fun (r : Int32) (u : va_W) => ∃ (Gh : Nat → Value) (y_p : Int32) (y_token : Int32) (y_at : Int32) (y_span : Int32) (y_number : Int32) (y_fault : Int32) (y_faultAt : Int32) (y_ids : Int32) (y_word : Int64) (y_got : Int32) (y_lines : Int32) (y_onces : Int32) (y_undoMany : Int32) (g_s : Nat → Int32) (g_h : Nat → Int32) (g_names : Nat → Int64), SAME [0, 2, 3, 4, 5, 11, 12, 13, 14, 15, 16, 17, 18, 19, 20, 21, 41] Fh Gh ∧ Gh 0 = .int 0 ∧ Gh 2 = .int 0 ∧ Gh 3 = .int x_length ∧ Gh 4 = .int y_p ∧ IR 0 940 y_p ∧ Gh 5 = .int 900 ∧ Gh 11 = .int y_token ∧ IR 0 4 y_token ∧ Gh 12 = .int y_at ∧ Gh 13 = .int y_span ∧ Gh 14 = .int y_number ∧ Gh 15 = .int y_fault ∧ Gh 16 = .int y_faultAt ∧ Gh 17 = .int y_ids ∧ Gh 18 = .long y_word ∧ Gh 19 = .int y_got ∧ Gh 20 = .int y_lines ∧ Gh 21 = .int y_onces ∧ Gh 41 = .int y_undoMany ∧ IR 0 8 y_undoMany ∧ SG 153 153 0 44 g_s ∧ SG 0 0 0 40 g_s ∧ SG 5 5 0 12 g_s ∧ SG 6 6 0 12 g_s ∧ SG 7 7 0 6 g_s ∧ SG 44 55 0 9 g_s ∧ KW 0 g_s ∧ SG 105 108 0 11 g_s ∧ SG 114 114 0 5 g_s ∧ SG 130 133 0 11 g_s ∧ SG 139 139 0 5 g_s ∧ SG 0 0 0 40 g_h ∧ SG 5 5 0 12 g_h ∧ SG 6 6 0 12 g_h ∧ SG 7 7 0 6 g_h ∧ SG 44 55 0 9 g_h ∧ ((y_token.toInt = 2 → 0 ≤ y_number.toInt ∧ y_number.toInt ≤ 999)) ∧ u = [(h0, .inr (10, vL 67 Gh)), (h_tape, .inl (cB, 940, .inl f_tape)), (h_s, .inl (cI, 335, .inl g_s)), (h_h, .inl (cI, 104, .inl g_h)), (h_names, .inl (cJ, 36, .inr (.inl g_names))), (h_reserved, .inl (cJ, 23, .inr (.inl f_reserved)))]) := by
  refine CI_mk (by decide) (Nat.le_of_ble_eq_true rfl) ?_
  intro p e s m below meth c A ls E hAe hG hsz hP hD hA hS hl
  obtain ⟨hx, hb, hr, hw, hown, hlocks, hml, hnm⟩ := E
  have hK := hG.1
  have i_x_length : 0 ≤ x_length.toInt ∧ x_length.toInt ≤ 940 := i_x_length
  have i_x_token : 0 ≤ x_token.toInt ∧ x_token.toInt ≤ 4 := i_x_token
  have i_x_undoMany : 0 ≤ x_undoMany.toInt ∧ x_undoMany.toInt ≤ 8 := i_x_undoMany
  have hl : lv_has ls 2 [(0, .ref h0)] := hl
  refine lv_aload_n hx hb dX10_course_0 rfl (lv_at hl 0 rfl) ?_
  refine lv_iconst (v := 0) hx hb dX10_course_1 (by decide) ?_
  refine put_f (D := D) (ci := 10) (v := .int 0) (ty := .int) (C := RX10) (T := TX10) (N := 67) hx hb hw inAX10 tyX10 tyX10_ok nmX10 hown hK hP hD hS 0 rfl rfl 0 (by decide) (hw _ q_1261) (fun _ h9 => h9) rfl (by decide +kernel) rfl rfl dX10_course_2 (fun H locs F1 eF1 hP hD hS => ?_)
  have hP : va_P D vwCl [(h0, .inr (10, vL 67 F1)), (h_tape, .inl (cB, 940, .inl f_tape)), (h_s, .inl (cI, 335, .inl f_s)), (h_h, .inl (cI, 104, .inl f_h)), (h_names, .inl (cJ, 36, .inr (.inl f_names))), (h_reserved, .inl (cJ, 23, .inr (.inl f_reserved)))] H := hP
  have hD : va_D A [(h0, .inr (10, vL 67 F1)), (h_tape, .inl (cB, 940, .inl f_tape)), (h_s, .inl (cI, 335, .inl f_s)), (h_h, .inl (cI, 104, .inl f_h)), (h_names, .inl (cJ, 36, .inr (.inl f_names))), (h_reserved, .inl (cJ, 23, .inr (.inl f_reserved)))] := hD
  refine lv_aload_n hx hb dX10_course_5 rfl (lv_at hl 0 rfl) ?_
  refine lv_sipush (v := 900) hx hb dX10_course_6 (by decide) ?_
  have n2 : F1 2 = .int x_length := (get_ne eF1 (by decide) e_length)
  refine call_Vv (wr := [(h_tape, .inl (cB, 940, .inl f_tape)), (h_s, .inl (cI, 335, .inl f_s)), (h_h, .inl (cI, 104, .inl f_h)), (h_names, .inl (cJ, 36, .inr (.inl f_names))), (h_reserved, .inl (cJ, 23, .inr (.inl f_reserved)))]) (As := [.int 900]) (rest := []) hx hb hml hown hw (m_X10_taken l D cI cJ cB cP cM cZ h0 F1 x_length 900 _ n2 i_x_length (show 200 ≤ (900 : Int32).toInt ∧ (900 : Int32).toInt ≤ 940 by decide)) wV_X10_248_X10_taken dX10_course_9 hK hP hD hS hA [0] [1, 2, 3, 4, 5] rfl rfl (by decide) (by decide) (by decide) 0 10 rfl rfl GG.fb hG.at hl.1 rfl (Nat.le_of_ble_eq_true rfl) ⟨(Nat.le_of_ble_eq_true rfl), (Nat.le_of_ble_eq_true rfl)⟩ ⟨(Nat.le_of_ble_eq_true rfl), (Nat.le_of_ble_eq_true rfl)⟩ (fun u H locs hp hP hD hS => ?_)
  have zl900 : (900 : Int32).toInt = 900 := by decide
  obtain ⟨F4, t5, t6, t7, t8, t9, rfl⟩ := hp
  have hP : va_P D vwCl [(h_tape, .inl (cB, 940, .inl f_tape)), (h_s, .inl (cI, 335, .inl f_s)), (h_h, .inl (cI, 104, .inl f_h)), (h_names, .inl (cJ, 36, .inr (.inl f_names))), (h_reserved, .inl (cJ, 23, .inr (.inl f_reserved))), (h0, .inr (10, vL 67 F4))] H := hP
  have hD : va_D A [(h_tape, .inl (cB, 940, .inl f_tape)), (h_s, .inl (cI, 335, .inl f_s)), (h_h, .inl (cI, 104, .inl f_h)), (h_names, .inl (cJ, 36, .inr (.inl f_names))), (h_reserved, .inl (cJ, 23, .inr (.inl f_reserved))), (h0, .inr (10, vL 67 F4))] := hD
  refine W.widen (k := 0) (n := 0) (Nat.le_of_ble_eq_true rfl) (Nat.le_of_ble_eq_true rfl) ?_
  refine lv_aload_n hx hb dX10_course_12 rfl (lv_at hl 0 rfl) ?_
  refine lv_iconst (v := 0) hx hb dX10_course_13 (by decide) ?_
  refine put_f (D := D) (ci := 10) (v := .int 0) (ty := .int) (C := RX10) (T := TX10) (N := 67) hx hb hw inAX10 tyX10 tyX10_ok nmX10 hown hK hP hD hS 5 rfl rfl 15 (by decide) (hw _ q_1276) (fun _ h9 => h9) rfl (by decide +kernel) rfl rfl dX10_course_14 (fun H locs F11 eF11 hP hD hS => ?_)
  have hP : va_P D vwCl [(h_tape, .inl (cB, 940, .inl f_tape)), (h_s, .inl (cI, 335, .inl f_s)), (h_h, .inl (cI, 104, .inl f_h)), (h_names, .inl (cJ, 36, .inr (.inl f_names))), (h_reserved, .inl (cJ, 23, .inr (.inl f_reserved))), (h0, .inr (10, vL 67 F11))] H := hP
  have hD : va_D A [(h_tape, .inl (cB, 940, .inl f_tape)), (h_s, .inl (cI, 335, .inl f_s)), (h_h, .inl (cI, 104, .inl f_h)), (h_names, .inl (cJ, 36, .inr (.inl f_names))), (h_reserved, .inl (cJ, 23, .inr (.inl f_reserved))), (h0, .inr (10, vL 67 F11))] := hD
  refine lv_aload_n hx hb dX10_course_17 rfl (lv_at hl 0 rfl) ?_
  refine lv_iconst (v := 0) hx hb dX10_course_18 (by decide) ?_
  refine put_f (D := D) (ci := 10) (v := .int 0) (ty := .int) (C := RX10) (T := TX10) (N := 67) hx hb hw inAX10 tyX10 tyX10_ok nmX10 hown hK hP hD hS 5 rfl rfl 20 (by decide) (hw _ q_1281) (fun _ h9 => h9) rfl (by decide +kernel) rfl rfl dX10_course_19 (fun H locs F12 eF12 hP hD hS => ?_)
  have hP : va_P D vwCl [(h_tape, .inl (cB, 940, .inl f_tape)), (h_s, .inl (cI, 335, .inl f_s)), (h_h, .inl (cI, 104, .inl f_h)), (h_names, .inl (cJ, 36, .inr (.inl f_names))), (h_reserved, .inl (cJ, 23, .inr (.inl f_reserved))), (h0, .inr (10, vL 67 F12))] H := hP
  have hD : va_D A [(h_tape, .inl (cB, 940, .inl f_tape)), (h_s, .inl (cI, 335, .inl f_s)), (h_h, .inl (cI, 104, .inl f_h)), (h_names, .inl (cJ, 36, .inr (.inl f_names))), (h_reserved, .inl (cJ, 23, .inr (.inl f_reserved))), (h0, .inr (10, vL 67 F12))] := hD
  refine lv_aload_n hx hb dX10_course_22 rfl (lv_at hl 0 rfl) ?_
  refine lv_iconst (v := 0) hx hb dX10_course_23 (by decide) ?_
  refine put_f (D := D) (ci := 10) (v := .int 0) (ty := .int) (C := RX10) (T := TX10) (N := 67) hx hb hw inAX10 tyX10 tyX10_ok nmX10 hown hK hP hD hS 5 rfl rfl 21 (by decide) (hw _ q_1282) (fun _ h9 => h9) rfl (by decide +kernel) rfl rfl dX10_course_24 (fun H locs F13 eF13 hP hD hS => ?_)
  have hP : va_P D vwCl [(h_tape, .inl (cB, 940, .inl f_tape)), (h_s, .inl (cI, 335, .inl f_s)), (h_h, .inl (cI, 104, .inl f_h)), (h_names, .inl (cJ, 36, .inr (.inl f_names))), (h_reserved, .inl (cJ, 23, .inr (.inl f_reserved))), (h0, .inr (10, vL 67 F13))] H := hP
  have hD : va_D A [(h_tape, .inl (cB, 940, .inl f_tape)), (h_s, .inl (cI, 335, .inl f_s)), (h_h, .inl (cI, 104, .inl f_h)), (h_names, .inl (cJ, 36, .inr (.inl f_names))), (h_reserved, .inl (cJ, 23, .inr (.inl f_reserved))), (h0, .inr (10, vL 67 F13))] := hD
  refine lv_aload_n hx hb dX10_course_27 rfl (lv_at hl 0 rfl) ?_
  have n14 : F1 7 = .ref h_h := (get_ne eF1 (by decide) e_h)
  have n15 : F4 7 = .ref h_h := (SAME.at t5 (by decide) n14)
  have n16 : F11 7 = .ref h_h := (get_ne eF11 (by decide) n15)
  have n17 : F12 7 = .ref h_h := (get_ne eF12 (by decide) n16)
  have n18 : F13 7 = .ref h_h := (get_ne eF13 (by decide) n17)
  refine call_Vv (wr := [(h_tape, .inl (cB, 940, .inl f_tape)), (h_s, .inl (cI, 335, .inl f_s)), (h_names, .inl (cJ, 36, .inr (.inl f_names))), (h_reserved, .inl (cJ, 23, .inr (.inl f_reserved)))]) (As := []) (rest := []) hx hb hml hown hw (m_X10_clears l D cI cJ cB cP cM cZ h0 h_h F13 f_h _ n18 s_h_0 s_h_44 s_h_5 s_h_6 s_h_7) wV_X10_166_X10_clears dX10_course_28 hK hP hD hS hA [5, 2] [0, 1, 3, 4] rfl rfl (by decide) (by decide) (by decide) 0 10 rfl rfl GG.fb hG.at hl.1 rfl (Nat.le_of_ble_eq_true rfl) ⟨(Nat.le_of_ble_eq_true rfl), (Nat.le_of_ble_eq_true rfl)⟩ ⟨(Nat.le_of_ble_eq_true rfl), (Nat.le_of_ble_eq_true rfl)⟩ (fun u H locs hp hP hD hS => ?_)
  obtain ⟨g20, t21, t22, t23, t24, t25, rfl⟩ := hp
  have hP : va_P D vwCl [(h_tape, .inl (cB, 940, .inl f_tape)), (h_s, .inl (cI, 335, .inl f_s)), (h_names, .inl (cJ, 36, .inr (.inl f_names))), (h_reserved, .inl (cJ, 23, .inr (.inl f_reserved))), (h0, .inr (10, vL 67 F13)), (h_h, .inl (cI, 104, .inl g20))] H := hP
  have hD : va_D A [(h_tape, .inl (cB, 940, .inl f_tape)), (h_s, .inl (cI, 335, .inl f_s)), (h_names, .inl (cJ, 36, .inr (.inl f_names))), (h_reserved, .inl (cJ, 23, .inr (.inl f_reserved))), (h0, .inr (10, vL 67 F13)), (h_h, .inl (cI, 104, .inl g20))] := hD
  refine W.widen (k := 0) (n := 0) (Nat.le_of_ble_eq_true rfl) (Nat.le_of_ble_eq_true rfl) ?_
  refine lv_aload_n hx hb dX10_course_31 rfl (lv_at hl 0 rfl) ?_
  have n27 : F1 1 = .ref h_tape := (get_ne eF1 (by decide) e_tape)
  have n28 : F4 1 = .ref h_tape := (SAME.at t5 (by decide) n27)
  have n29 : F11 1 = .ref h_tape := (get_ne eF11 (by decide) n28)
  have n30 : F12 1 = .ref h_tape := (get_ne eF12 (by decide) n29)
  have n31 : F13 1 = .ref h_tape := (get_ne eF13 (by decide) n30)
  have n32 : F11 3 = .int x_length := (get_ne eF11 (by decide) t7)
  have n33 : F12 3 = .int x_length := (get_ne eF12 (by decide) n32)
  have n34 : F13 3 = .int x_length := (get_ne eF13 (by decide) n33)
  have n35 : F11 4 = .int 0 := (get_ne eF11 (by decide) t8)
  have n36 : F12 4 = .int 0 := (get_ne eF12 (by decide) n35)
  have n37 : F13 4 = .int 0 := (get_ne eF13 (by decide) n36)
  have n38 : F11 5 = .int 900 := (get_ne eF11 (by decide) t9)
  have n39 : F12 5 = .int 900 := (get_ne eF12 (by decide) n38)
  have n40 : F13 5 = .int 900 := (get_ne eF13 (by decide) n39)
  have n41 : F1 11 = .int x_token := (get_ne eF1 (by decide) e_token)
  have n42 : F4 11 = .int x_token := (SAME.at t5 (by decide) n41)
  have n43 : F11 11 = .int x_token := (get_ne eF11 (by decide) n42)
  have n44 : F12 11 = .int x_token := (get_ne eF12 (by decide) n43)
  have n45 : F13 11 = .int x_token := (get_ne eF13 (by decide) n44)
  have n46 : F1 14 = .int x_number := (get_ne eF1 (by decide) e_number)
  have n47 : F4 14 = .int x_number := (SAME.at t5 (by decide) n46)
  have n48 : F11 14 = .int x_number := (get_ne eF11 (by decide) n47)
  have n49 : F12 14 = .int x_number := (get_ne eF12 (by decide) n48)
  have n50 : F13 14 = .int x_number := (get_ne eF13 (by decide) n49)
  have n51 : F1 18 = .long x_word := (get_ne eF1 (by decide) e_word)
  have n52 : F4 18 = .long x_word := (SAME.at t5 (by decide) n51)
  have n53 : F11 18 = .long x_word := (get_ne eF11 (by decide) n52)
  have n54 : F12 18 = .long x_word := (get_ne eF12 (by decide) n53)
  have n55 : F13 18 = .long x_word := (get_ne eF13 (by decide) n54)
  refine call_Vv (wr := [(h_s, .inl (cI, 335, .inl f_s)), (h_names, .inl (cJ, 36, .inr (.inl f_names))), (h_reserved, .inl (cJ, 23, .inr (.inl f_reserved))), (h_h, .inl (cI, 104, .inl g20))]) (As := []) (rest := []) hx hb hml hown hw (m_X10_next l D cI cJ cB cP cM cZ h0 h_tape F13 x_length 0 900 x_token x_number x_word f_tape _ n31 n34 i_x_length n37 (show 0 ≤ (0 : Int32).toInt ∧ (0 : Int32).toInt ≤ 940 by decide) n40 (show 200 ≤ (900 : Int32).toInt ∧ (900 : Int32).toInt ≤ 940 by decide) n45 i_x_token n50 n55 (by omega)) wV_X10_208_X10_next dX10_course_32 hK hP hD hS hA [4, 0] [1, 2, 3, 5] rfl rfl (by decide) (by decide) (by decide) 0 10 rfl rfl GG.fb hG.at hl.1 rfl (Nat.le_of_ble_eq_true rfl) ⟨(Nat.le_of_ble_eq_true rfl), (Nat.le_of_ble_eq_true rfl)⟩ ⟨(Nat.le_of_ble_eq_true rfl), (Nat.le_of_ble_eq_true rfl)⟩ (fun u H locs hp hP hD hS => ?_)
  have zl0 : (0 : Int32).toInt = 0 := by decide
  obtain ⟨F57, y58, y59, y60, y61, y62, y63, t64, t65, t66, t67, t68, t69, t70, t71, t72, t73, t74, t75, t76, t77, rfl⟩ := hp
  have hP : va_P D vwCl [(h_s, .inl (cI, 335, .inl f_s)), (h_names, .inl (cJ, 36, .inr (.inl f_names))), (h_reserved, .inl (cJ, 23, .inr (.inl f_reserved))), (h_h, .inl (cI, 104, .inl g20)), (h0, .inr (10, vL 67 F57)), (h_tape, .inl (cB, 940, .inl f_tape))] H := hP
  have hD : va_D A [(h_s, .inl (cI, 335, .inl f_s)), (h_names, .inl (cJ, 36, .inr (.inl f_names))), (h_reserved, .inl (cJ, 23, .inr (.inl f_reserved))), (h_h, .inl (cI, 104, .inl g20)), (h0, .inr (10, vL 67 F57)), (h_tape, .inl (cB, 940, .inl f_tape))] := hD
  refine W.widen (k := 0) (n := 0) (Nat.le_of_ble_eq_true rfl) (Nat.le_of_ble_eq_true rfl) ?_
  have cut93 : ∀ (w79 : Nat → Int64) (w80 : Nat → Int32) (G81 : Nat → Value) (u82 : Int32) (u83 : Int32) (u84 : Int32) (u85 : Int32) (u86 : Int32) (u87 : Int32) (u88 : Int32) (u89 : Int64) (u90 : Int32) (u91 : Int32) (u92 : Int32) (_ : SG 0 0 0 40 w80) (_ : SG 44 55 0 9 w80) (_ : SG 5 5 0 12 w80) (_ : SG 6 6 0 12 w80) (_ : SG 7 7 0 6 w80) (_ : SAME [4, 11, 12, 13, 14, 15, 16, 18, 19, 20, 21] F57 G81) (_ : G81 4 = .int u82) (_ : G81 11 = .int u83) (_ : G81 12 = .int u84) (_ : G81 13 = .int u85) (_ : G81 14 = .int u86) (_ : G81 15 = .int u87) (_ : G81 16 = .int u88) (_ : G81 18 = .long u89) (_ : G81 19 = .int u90) (_ : G81 20 = .int u91) (_ : G81 21 = .int u92) (_ : IR 0 940 u82) (_ : IR 0 4 u83) (_ : ((u83.toInt = 2 → 0 ≤ u86.toInt ∧ u86.toInt ≤ 999))) (H : Heap) (locs : List Loc) (ls : Array Slot), va_P D vwCl [(h_s, .inl (cI, 335, .inl f_s)), (h_names, .inl (cJ, 36, .inr (.inl w79))), (h_reserved, .inl (cJ, 23, .inr (.inl f_reserved))), (h_h, .inl (cI, 104, .inl w80)), (h0, .inr (10, vL 67 G81)), (h_tape, .inl (cB, 940, .inl f_tape))] H → va_D A [(h_s, .inl (cI, 335, .inl f_s)), (h_names, .inl (cJ, 36, .inr (.inl w79))), (h_reserved, .inl (cJ, 23, .inr (.inl f_reserved))), (h_h, .inl (cI, 104, .inl w80)), (h0, .inr (10, vL 67 G81)), (h_tape, .inl (cB, 940, .inl f_tape))] → va_S A s.heap H locs → lv_has ls 2 [(0, .ref h0)] → W p l e ({ frames := 4, cells := 0, slots := 0, locals := 87 } : Room) s m [.ref h0].toArray below meth c H locs 0 0 (MQ below (va_Qi (fun (r : Int32) (u : va_W) => ∃ (Gh : Nat → Value) (y_p : Int32) (y_token : Int32) (y_at : Int32) (y_span : Int32) (y_number : Int32) (y_fault : Int32) (y_faultAt : Int32) (y_ids : Int32) (y_word : Int64) (y_got : Int32) (y_lines : Int32) (y_onces : Int32) (y_undoMany : Int32) (g_s : Nat → Int32) (g_h : Nat → Int32) (g_names : Nat → Int64), SAME [0, 2, 3, 4, 5, 11, 12, 13, 14, 15, 16, 17, 18, 19, 20, 21, 41] Fh Gh ∧ Gh 0 = .int 0 ∧ Gh 2 = .int 0 ∧ Gh 3 = .int x_length ∧ Gh 4 = .int y_p ∧ IR 0 940 y_p ∧ Gh 5 = .int 900 ∧ Gh 11 = .int y_token ∧ IR 0 4 y_token ∧ Gh 12 = .int y_at ∧ Gh 13 = .int y_span ∧ Gh 14 = .int y_number ∧ Gh 15 = .int y_fault ∧ Gh 16 = .int y_faultAt ∧ Gh 17 = .int y_ids ∧ Gh 18 = .long y_word ∧ Gh 19 = .int y_got ∧ Gh 20 = .int y_lines ∧ Gh 21 = .int y_onces ∧ Gh 41 = .int y_undoMany ∧ IR 0 8 y_undoMany ∧ SG 153 153 0 44 g_s ∧ SG 0 0 0 40 g_s ∧ SG 5 5 0 12 g_s ∧ SG 6 6 0 12 g_s ∧ SG 7 7 0 6 g_s ∧ SG 44 55 0 9 g_s ∧ KW 0 g_s ∧ SG 105 108 0 11 g_s ∧ SG 114 114 0 5 g_s ∧ SG 130 133 0 11 g_s ∧ SG 139 139 0 5 g_s ∧ SG 0 0 0 40 g_h ∧ SG 5 5 0 12 g_h ∧ SG 6 6 0 12 g_h ∧ SG 7 7 0 6 g_h ∧ SG 44 55 0 9 g_h ∧ ((y_token.toInt = 2 → 0 ≤ y_number.toInt ∧ y_number.toInt ≤ 999)) ∧ u = [(h0, .inr (10, vL 67 Gh)), (h_tape, .inl (cB, 940, .inl f_tape)), (h_s, .inl (cI, 335, .inl g_s)), (h_h, .inl (cI, 104, .inl g_h)), (h_names, .inl (cJ, 36, .inr (.inl g_names))), (h_reserved, .inl (cJ, 23, .inr (.inl f_reserved)))]) (PO D A) A) [.ref h0].toArray s 0 0 A) (F0 m 78 ls []) := by
    intro w79 w80 G81 u82 u83 u84 u85 u86 u87 u88 u89 u90 u91 u92 i94 i95 i96 i97 i98 i99 i100 i101 i102 i103 i104 i105 i106 i107 i108 i109 i110 i111 i112 i113 H locs ls hP hD hS hl
    have i111 : 0 ≤ u82.toInt ∧ u82.toInt ≤ 940 := i111
    have i112 : 0 ≤ u83.toInt ∧ u83.toInt ≤ 4 := i112
    have i113 : (u83.toInt = 2 → 0 ≤ u86.toInt ∧ u86.toInt ≤ 999) := i113
    refine lv_iconst (v := 0) hx hb dX10_course_78 (by decide) ?_
    refine lv_istore_n (lv' := [(1, .int 0), (0, .ref h0)]) hx hb dX10_course_79 rfl hl (by decide) rfl (fun ls hl => ?_)
    refine mloop (α := (Int32) × (Nat → Int32)) (nL := 2) (D := D) (A := A) (H0 := s.heap) (fun a => (335 - a.1.toInt).toNat) (fun a => IR 0 335 a.1 ∧ (SGK 0 0 0 40 a.2 (a.1.toInt)) ∧ (SGK 5 5 0 12 a.2 (a.1.toInt)) ∧ (SGK 6 6 0 12 a.2 (a.1.toInt)) ∧ (SGK 7 7 0 6 a.2 (a.1.toInt)) ∧ (SGK 44 55 0 9 a.2 (a.1.toInt)) ∧ (SGK 105 108 0 11 a.2 (a.1.toInt)) ∧ (SGK 114 114 0 5 a.2 (a.1.toInt)) ∧ (SGK 130 133 0 11 a.2 (a.1.toInt)) ∧ (SGK 139 139 0 5 a.2 (a.1.toInt)) ∧ (SGK 153 153 0 0 a.2 (a.1.toInt))) (fun a => [(h_s, .inl (cI, 335, .inl a.2)), (h_names, .inl (cJ, 36, .inr (.inl w79))), (h_reserved, .inl (cJ, 23, .inr (.inl f_reserved))), (h_h, .inl (cI, 104, .inl w80)), (h0, .inr (10, vL 67 G81)), (h_tape, .inl (cB, 940, .inl f_tape))]) (fun a => [(1, .int a.1), (0, .ref h0)]) (fun H locs ls => W p l e ({ frames := 4, cells := 0, slots := 0, locals := 87 } : Room) s m [.ref h0].toArray below meth c H locs 0 0 (MQ below (va_Qi (fun (r : Int32) (u : va_W) => ∃ (Gh : Nat → Value) (y_p : Int32) (y_token : Int32) (y_at : Int32) (y_span : Int32) (y_number : Int32) (y_fault : Int32) (y_faultAt : Int32) (y_ids : Int32) (y_word : Int64) (y_got : Int32) (y_lines : Int32) (y_onces : Int32) (y_undoMany : Int32) (g_s : Nat → Int32) (g_h : Nat → Int32) (g_names : Nat → Int64), SAME [0, 2, 3, 4, 5, 11, 12, 13, 14, 15, 16, 17, 18, 19, 20, 21, 41] Fh Gh ∧ Gh 0 = .int 0 ∧ Gh 2 = .int 0 ∧ Gh 3 = .int x_length ∧ Gh 4 = .int y_p ∧ IR 0 940 y_p ∧ Gh 5 = .int 900 ∧ Gh 11 = .int y_token ∧ IR 0 4 y_token ∧ Gh 12 = .int y_at ∧ Gh 13 = .int y_span ∧ Gh 14 = .int y_number ∧ Gh 15 = .int y_fault ∧ Gh 16 = .int y_faultAt ∧ Gh 17 = .int y_ids ∧ Gh 18 = .long y_word ∧ Gh 19 = .int y_got ∧ Gh 20 = .int y_lines ∧ Gh 21 = .int y_onces ∧ Gh 41 = .int y_undoMany ∧ IR 0 8 y_undoMany ∧ SG 153 153 0 44 g_s ∧ SG 0 0 0 40 g_s ∧ SG 5 5 0 12 g_s ∧ SG 6 6 0 12 g_s ∧ SG 7 7 0 6 g_s ∧ SG 44 55 0 9 g_s ∧ KW 0 g_s ∧ SG 105 108 0 11 g_s ∧ SG 114 114 0 5 g_s ∧ SG 130 133 0 11 g_s ∧ SG 139 139 0 5 g_s ∧ SG 0 0 0 40 g_h ∧ SG 5 5 0 12 g_h ∧ SG 6 6 0 12 g_h ∧ SG 7 7 0 6 g_h ∧ SG 44 55 0 9 g_h ∧ ((y_token.toInt = 2 → 0 ≤ y_number.toInt ∧ y_number.toInt ≤ 999)) ∧ u = [(h0, .inr (10, vL 67 Gh)), (h_tape, .inl (cB, 940, .inl f_tape)), (h_s, .inl (cI, 335, .inl g_s)), (h_h, .inl (cI, 104, .inl g_h)), (h_names, .inl (cJ, 36, .inr (.inl g_names))), (h_reserved, .inl (cJ, 23, .inr (.inl f_reserved)))]) (PO D A) A) [.ref h0].toArray s 0 0 A) (F0 m 80 ls [])) ?_ (0, f_s) ⟨(show 0 ≤ (0 : Int32).toInt ∧ (0 : Int32).toInt ≤ 335 by decide), (show SGK 0 0 0 40 f_s (0) from (SGK.zero (by decide))), (show SGK 5 5 0 12 f_s (0) from (SGK.zero (by decide))), (show SGK 6 6 0 12 f_s (0) from (SGK.zero (by decide))), (show SGK 7 7 0 6 f_s (0) from (SGK.zero (by decide))), (show SGK 44 55 0 9 f_s (0) from (SGK.zero (by decide))), (show SGK 105 108 0 11 f_s (0) from (SGK.zero (by decide))), (show SGK 114 114 0 5 f_s (0) from (SGK.zero (by decide))), (show SGK 130 133 0 11 f_s (0) from (SGK.zero (by decide))), (show SGK 139 139 0 5 f_s (0) from (SGK.zero (by decide))), (show SGK 153 153 0 0 f_s (0) from (SGK.zero (by decide)))⟩ _ _ _ hP hD hS hl
    rintro ⟨u114, w115⟩ ⟨i116, i117, i118, i119, i120, i121, i122, i123, i124, i125, i126⟩ ih H locs ls hP hD hS hl
    have i116 : 0 ≤ u114.toInt ∧ u114.toInt ≤ 335 := i116
    have i117 : SGK 0 0 0 40 w115 (u114.toInt) := i117
    have i118 : SGK 5 5 0 12 w115 (u114.toInt) := i118
    have i119 : SGK 6 6 0 12 w115 (u114.toInt) := i119
    have i120 : SGK 7 7 0 6 w115 (u114.toInt) := i120
    have i121 : SGK 44 55 0 9 w115 (u114.toInt) := i121
    have i122 : SGK 105 108 0 11 w115 (u114.toInt) := i122
    have i123 : SGK 114 114 0 5 w115 (u114.toInt) := i123
    have i124 : SGK 130 133 0 11 w115 (u114.toInt) := i124
    have i125 : SGK 139 139 0 5 w115 (u114.toInt) := i125
    have i126 : SGK 153 153 0 0 w115 (u114.toInt) := i126
    have hP : va_P D vwCl [(h_s, .inl (cI, 335, .inl w115)), (h_names, .inl (cJ, 36, .inr (.inl w79))), (h_reserved, .inl (cJ, 23, .inr (.inl f_reserved))), (h_h, .inl (cI, 104, .inl w80)), (h0, .inr (10, vL 67 G81)), (h_tape, .inl (cB, 940, .inl f_tape))] H := hP
    have hD : va_D A [(h_s, .inl (cI, 335, .inl w115)), (h_names, .inl (cJ, 36, .inr (.inl w79))), (h_reserved, .inl (cJ, 23, .inr (.inl f_reserved))), (h_h, .inl (cI, 104, .inl w80)), (h0, .inr (10, vL 67 G81)), (h_tape, .inl (cB, 940, .inl f_tape))] := hD
    have hl : lv_has ls 2 [(1, .int u114), (0, .ref h0)] := hl
    refine lv_iload_n hx hb dX10_course_80 rfl (lv_at hl 0 rfl) ?_
    refine lv_sipush (v := 335) hx hb dX10_course_81 (by decide) ?_
    refine lv_icmp_ge (tgt := 115) hx hb dX10_course_84 (by decide) (fun c127 => ?_) (fun c127 => ?_)
    · have dc127 : 335 ≤ u114.toInt := le_i (a := 335) (b := u114.toInt) rfl rfl c127
      have k128 : 335 ≤ u114.toInt ∧ u114.toInt ≤ 335 := ⟨Int.le_trans (Int.le_refl _) dc127, i116.2⟩
      have r129 : SG 0 0 0 40 w115 := SGK.all i117 (by omega)
      have r130 : SG 5 5 0 12 w115 := SGK.all i118 (by omega)
      have r131 : SG 6 6 0 12 w115 := SGK.all i119 (by omega)
      have r132 : SG 7 7 0 6 w115 := SGK.all i120 (by omega)
      have r133 : SG 44 55 0 9 w115 := SGK.all i121 (by omega)
      have r134 : SG 105 108 0 11 w115 := SGK.all i122 (by omega)
      have r135 : SG 114 114 0 5 w115 := SGK.all i123 (by omega)
      have r136 : SG 130 133 0 11 w115 := SGK.all i124 (by omega)
      have r137 : SG 139 139 0 5 w115 := SGK.all i125 (by omega)
      have r138 : SG 153 153 0 0 w115 := SGK.all i126 (by omega)
      have r139 : KW 0 w115 := KW.none r138
      refine lv_iconst (v := 0) hx hb dX10_course_115 (by decide) ?_
      refine lv_istore_n (lv' := [(1, .int 0), (0, .ref h0)]) hx hb dX10_course_116 rfl hl (by decide) rfl (fun ls hl => ?_)
      refine mloop (α := (Int32) × (Nat → Int64)) (nL := 2) (D := D) (A := A) (H0 := s.heap) (fun a => (18 - a.1.toInt).toNat) (fun a => IR 0 18 a.1) (fun a => [(h_s, .inl (cI, 335, .inl w115)), (h_names, .inl (cJ, 36, .inr (.inl a.2))), (h_reserved, .inl (cJ, 23, .inr (.inl f_reserved))), (h_h, .inl (cI, 104, .inl w80)), (h0, .inr (10, vL 67 G81)), (h_tape, .inl (cB, 940, .inl f_tape))]) (fun a => [(1, .int a.1), (0, .ref h0)]) (fun H locs ls => W p l e ({ frames := 4, cells := 0, slots := 0, locals := 87 } : Room) s m [.ref h0].toArray below meth c H locs 0 0 (MQ below (va_Qi (fun (r : Int32) (u : va_W) => ∃ (Gh : Nat → Value) (y_p : Int32) (y_token : Int32) (y_at : Int32) (y_span : Int32) (y_number : Int32) (y_fault : Int32) (y_faultAt : Int32) (y_ids : Int32) (y_word : Int64) (y_got : Int32) (y_lines : Int32) (y_onces : Int32) (y_undoMany : Int32) (g_s : Nat → Int32) (g_h : Nat → Int32) (g_names : Nat → Int64), SAME [0, 2, 3, 4, 5, 11, 12, 13, 14, 15, 16, 17, 18, 19, 20, 21, 41] Fh Gh ∧ Gh 0 = .int 0 ∧ Gh 2 = .int 0 ∧ Gh 3 = .int x_length ∧ Gh 4 = .int y_p ∧ IR 0 940 y_p ∧ Gh 5 = .int 900 ∧ Gh 11 = .int y_token ∧ IR 0 4 y_token ∧ Gh 12 = .int y_at ∧ Gh 13 = .int y_span ∧ Gh 14 = .int y_number ∧ Gh 15 = .int y_fault ∧ Gh 16 = .int y_faultAt ∧ Gh 17 = .int y_ids ∧ Gh 18 = .long y_word ∧ Gh 19 = .int y_got ∧ Gh 20 = .int y_lines ∧ Gh 21 = .int y_onces ∧ Gh 41 = .int y_undoMany ∧ IR 0 8 y_undoMany ∧ SG 153 153 0 44 g_s ∧ SG 0 0 0 40 g_s ∧ SG 5 5 0 12 g_s ∧ SG 6 6 0 12 g_s ∧ SG 7 7 0 6 g_s ∧ SG 44 55 0 9 g_s ∧ KW 0 g_s ∧ SG 105 108 0 11 g_s ∧ SG 114 114 0 5 g_s ∧ SG 130 133 0 11 g_s ∧ SG 139 139 0 5 g_s ∧ SG 0 0 0 40 g_h ∧ SG 5 5 0 12 g_h ∧ SG 6 6 0 12 g_h ∧ SG 7 7 0 6 g_h ∧ SG 44 55 0 9 g_h ∧ ((y_token.toInt = 2 → 0 ≤ y_number.toInt ∧ y_number.toInt ≤ 999)) ∧ u = [(h0, .inr (10, vL 67 Gh)), (h_tape, .inl (cB, 940, .inl f_tape)), (h_s, .inl (cI, 335, .inl g_s)), (h_h, .inl (cI, 104, .inl g_h)), (h_names, .inl (cJ, 36, .inr (.inl g_names))), (h_reserved, .inl (cJ, 23, .inr (.inl f_reserved)))]) (PO D A) A) [.ref h0].toArray s 0 0 A) (F0 m 117 ls [])) ?_ (0, w79) (show 0 ≤ (0 : Int32).toInt ∧ (0 : Int32).toInt ≤ 18 by decide) _ _ _ hP hD hS hl
      rintro ⟨u140, w141⟩ i142 ih_117 H locs ls hP hD hS hl
      have i142 : 0 ≤ u140.toInt ∧ u140.toInt ≤ 18 := i142
      have hP : va_P D vwCl [(h_s, .inl (cI, 335, .inl w115)), (h_names, .inl (cJ, 36, .inr (.inl w141))), (h_reserved, .inl (cJ, 23, .inr (.inl f_reserved))), (h_h, .inl (cI, 104, .inl w80)), (h0, .inr (10, vL 67 G81)), (h_tape, .inl (cB, 940, .inl f_tape))] H := hP
      have hD : va_D A [(h_s, .inl (cI, 335, .inl w115)), (h_names, .inl (cJ, 36, .inr (.inl w141))), (h_reserved, .inl (cJ, 23, .inr (.inl f_reserved))), (h_h, .inl (cI, 104, .inl w80)), (h0, .inr (10, vL 67 G81)), (h_tape, .inl (cB, 940, .inl f_tape))] := hD
      have hl : lv_has ls 2 [(1, .int u140), (0, .ref h0)] := hl
      refine lv_iload_n hx hb dX10_course_117 rfl (lv_at hl 0 rfl) ?_
      refine lv_bipush (v := 18) hx hb dX10_course_118 (by decide) ?_
      refine lv_icmp_ge (tgt := 144) hx hb dX10_course_120 (by decide) (fun c143 => ?_) (fun c143 => ?_)
      · have dc143 : 18 ≤ u140.toInt := le_i (a := 18) (b := u140.toInt) rfl rfl c143
        have k144 : 18 ≤ u140.toInt ∧ u140.toInt ≤ 18 := ⟨Int.le_trans (Int.le_refl _) dc143, i142.2⟩
        refine lv_aload_n hx hb dX10_course_144 rfl (lv_at hl 1 rfl) ?_
        refine lv_dup hx hb dX10_course_145 rfl ?_
        have n145 : F1 17 = .int x_ids := (get_ne eF1 (by decide) e_ids)
        have n146 : F4 17 = .int x_ids := (SAME.at t5 (by decide) n145)
        have n147 : F11 17 = .int x_ids := (get_ne eF11 (by decide) n146)
        have n148 : F12 17 = .int x_ids := (get_ne eF12 (by decide) n147)
        have n149 : F13 17 = .int x_ids := (get_ne eF13 (by decide) n148)
        have n150 : F57 17 = .int x_ids := (SAME.at t64 (by decide) n149)
        have n151 : G81 17 = .int x_ids := (SAME.at i99 (by decide) n150)
        refine get_f (D := D) (ci := 10) (v := .int x_ids) (C := RX10) (T := TX10) (N := 67) hx hb hw inAX10 hown hK hP 4 rfl rfl 17 (by decide) (hw _ q_1278) (fun _ h9 => h9) n151 dX10_course_146 ?_
        refine lv_iconst (v := 1) hx hb dX10_course_149 (by decide) ?_
        refine lv_iadd hx hb dX10_course_150 ?_
        refine lv_topi (fun v152 ev152 => ?_)
        refine put_f (D := D) (ci := 10) (v := .int v152) (ty := .int) (C := RX10) (T := TX10) (N := 67) hx hb hw inAX10 tyX10 tyX10_ok nmX10 hown hK hP hD hS 4 rfl rfl 17 (by decide) (hw _ q_1278) (fun _ h9 => h9) rfl (by decide +kernel) rfl rfl dX10_course_151 (fun H locs F153 eF153 hP hD hS => ?_)
        have hP : va_P D vwCl [(h_s, .inl (cI, 335, .inl w115)), (h_names, .inl (cJ, 36, .inr (.inl w141))), (h_reserved, .inl (cJ, 23, .inr (.inl f_reserved))), (h_h, .inl (cI, 104, .inl w80)), (h0, .inr (10, vL 67 F153)), (h_tape, .inl (cB, 940, .inl f_tape))] H := hP
        have hD : va_D A [(h_s, .inl (cI, 335, .inl w115)), (h_names, .inl (cJ, 36, .inr (.inl w141))), (h_reserved, .inl (cJ, 23, .inr (.inl f_reserved))), (h_h, .inl (cI, 104, .inl w80)), (h0, .inr (10, vL 67 F153)), (h_tape, .inl (cB, 940, .inl f_tape))] := hD
        refine lv_aload_n hx hb dX10_course_154 rfl (lv_at hl 1 rfl) ?_
        have n154 : F1 6 = .ref h_s := (get_ne eF1 (by decide) e_s)
        have n155 : F4 6 = .ref h_s := (SAME.at t5 (by decide) n154)
        have n156 : F11 6 = .ref h_s := (get_ne eF11 (by decide) n155)
        have n157 : F12 6 = .ref h_s := (get_ne eF12 (by decide) n156)
        have n158 : F13 6 = .ref h_s := (get_ne eF13 (by decide) n157)
        have n159 : F57 6 = .ref h_s := (SAME.at t64 (by decide) n158)
        have n160 : G81 6 = .ref h_s := (SAME.at i99 (by decide) n159)
        have n161 : F153 6 = .ref h_s := (get_ne eF153 (by decide) n160)
        refine get_f (D := D) (ci := 10) (v := .ref h_s) (C := RX10) (T := TX10) (N := 67) hx hb hw inAX10 hown hK hP 4 rfl rfl 6 (by decide) (hw _ q_1267) (fun _ h9 => h9) n161 dX10_course_155 ?_
        refine lv_sipush (v := 334) hx hb dX10_course_158 (by decide) ?_
        refine lv_aload_n hx hb dX10_course_161 rfl (lv_at hl 1 rfl) ?_
        refine get_f (D := D) (ci := 10) (v := .int v152) (C := RX10) (T := TX10) (N := 67) hx hb hw inAX10 hown hK hP 4 rfl rfl 17 (by decide) (hw _ q_1278) (fun _ h9 => h9) (get_eq eF153) dX10_course_162 ?_
        obtain ⟨g162, eg162⟩ : ∃ z : Nat → Int32, upd w115 334 v152 = z := ⟨_, rfl⟩
        have r163 : KW 0 g162 := by rw [← eg162]; exact r139.upN (by decide)
        have r164 : SG 0 0 0 40 g162 := by rw [← eg162]; exact r129.upN (by decide)
        have r165 : SG 105 108 0 11 g162 := by rw [← eg162]; exact r134.upN (by decide)
        have r166 : SG 114 114 0 5 g162 := by rw [← eg162]; exact r135.upN (by decide)
        have r167 : SG 130 133 0 11 g162 := by rw [← eg162]; exact r136.upN (by decide)
        have r168 : SG 139 139 0 5 g162 := by rw [← eg162]; exact r137.upN (by decide)
        have r169 : SG 153 153 0 0 g162 := by rw [← eg162]; exact r138.upN (by decide)
        have r170 : SG 44 55 0 9 g162 := by rw [← eg162]; exact r133.upN (by decide)
        have r171 : SG 5 5 0 12 g162 := by rw [← eg162]; exact r130.upN (by decide)
        have r172 : SG 6 6 0 12 g162 := by rw [← eg162]; exact r131.upN (by decide)
        have r173 : SG 7 7 0 6 g162 := by rw [← eg162]; exact r132.upN (by decide)
        refine iast_n hx hb hK hP hD hS 0 0 rfl rfl 334 rfl (Nat.le_of_ble_eq_true rfl) (Nat.le_of_ble_eq_true rfl) eg162 dX10_course_165 (fun H locs hP hD hS => ?_)
        have hP : va_P D vwCl [(h_s, .inl (cI, 335, .inl g162)), (h_names, .inl (cJ, 36, .inr (.inl w141))), (h_reserved, .inl (cJ, 23, .inr (.inl f_reserved))), (h_h, .inl (cI, 104, .inl w80)), (h0, .inr (10, vL 67 F153)), (h_tape, .inl (cB, 940, .inl f_tape))] H := hP
        have hD : va_D A [(h_s, .inl (cI, 335, .inl g162)), (h_names, .inl (cJ, 36, .inr (.inl w141))), (h_reserved, .inl (cJ, 23, .inr (.inl f_reserved))), (h_h, .inl (cI, 104, .inl w80)), (h0, .inr (10, vL 67 F153)), (h_tape, .inl (cB, 940, .inl f_tape))] := hD
        refine lv_aload_n hx hb dX10_course_166 rfl (lv_at hl 1 rfl) ?_
        refine get_f (D := D) (ci := 10) (v := .ref h_s) (C := RX10) (T := TX10) (N := 67) hx hb hw inAX10 hown hK hP 4 rfl rfl 6 (by decide) (hw _ q_1267) (fun _ h9 => h9) n161 dX10_course_167 ?_
        refine lv_bipush (v := 115) hx hb dX10_course_170 (by decide) ?_
        refine lv_iconst (v := 1) hx hb dX10_course_172 (by decide) ?_
        obtain ⟨g174, eg174⟩ : ∃ z : Nat → Int32, upd g162 115 1 = z := ⟨_, rfl⟩
        have r175 : KW 0 g174 := by rw [← eg174]; exact r163.upN (by decide)
        have r176 : SG 0 0 0 40 g174 := by rw [← eg174]; exact r164.upN (by decide)
        have r177 : SG 105 108 0 11 g174 := by rw [← eg174]; exact r165.upN (by decide)
        have r178 : SG 114 114 0 5 g174 := by rw [← eg174]; exact r166.upN (by decide)
        have r179 : SG 130 133 0 11 g174 := by rw [← eg174]; exact r167.upN (by decide)
        have r180 : SG 139 139 0 5 g174 := by rw [← eg174]; exact r168.upN (by decide)
        have r181 : SG 153 153 0 0 g174 := by rw [← eg174]; exact r169.upN (by decide)
        have r182 : SG 44 55 0 9 g174 := by rw [← eg174]; exact r170.upN (by decide)
        have r183 : SG 5 5 0 12 g174 := by rw [← eg174]; exact r171.upN (by decide)
        have r184 : SG 6 6 0 12 g174 := by rw [← eg174]; exact r172.upN (by decide)
        have r185 : SG 7 7 0 6 g174 := by rw [← eg174]; exact r173.upN (by decide)
        refine iast_n hx hb hK hP hD hS 0 0 rfl rfl 115 rfl (Nat.le_of_ble_eq_true rfl) (Nat.le_of_ble_eq_true rfl) eg174 dX10_course_173 (fun H locs hP hD hS => ?_)
        have hP : va_P D vwCl [(h_s, .inl (cI, 335, .inl g174)), (h_names, .inl (cJ, 36, .inr (.inl w141))), (h_reserved, .inl (cJ, 23, .inr (.inl f_reserved))), (h_h, .inl (cI, 104, .inl w80)), (h0, .inr (10, vL 67 F153)), (h_tape, .inl (cB, 940, .inl f_tape))] H := hP
        have hD : va_D A [(h_s, .inl (cI, 335, .inl g174)), (h_names, .inl (cJ, 36, .inr (.inl w141))), (h_reserved, .inl (cJ, 23, .inr (.inl f_reserved))), (h_h, .inl (cI, 104, .inl w80)), (h0, .inr (10, vL 67 F153)), (h_tape, .inl (cB, 940, .inl f_tape))] := hD
        refine lv_iconst (v := 0) hx hb dX10_course_174 (by decide) ?_
        refine lv_istore_n (lv' := [(1, .int 0), (0, .ref h0)]) hx hb dX10_course_175 rfl hl (by decide) rfl (fun ls hl => ?_)
        refine mloop (α := (Int32) × (Nat → Int32)) (nL := 2) (D := D) (A := A) (H0 := s.heap) (fun a => (12 - a.1.toInt).toNat) (fun a => IR 0 12 a.1 ∧ KW 0 a.2 ∧ SG 0 0 0 40 a.2 ∧ SG 105 108 0 11 a.2 ∧ SG 114 114 0 5 a.2 ∧ SG 130 133 0 11 a.2 ∧ SG 139 139 0 5 a.2 ∧ SG 153 153 0 44 a.2 ∧ SG 44 55 0 9 a.2 ∧ SG 5 5 0 12 a.2 ∧ SG 6 6 0 12 a.2 ∧ SG 7 7 0 6 a.2) (fun a => [(h_s, .inl (cI, 335, .inl a.2)), (h_names, .inl (cJ, 36, .inr (.inl w141))), (h_reserved, .inl (cJ, 23, .inr (.inl f_reserved))), (h_h, .inl (cI, 104, .inl w80)), (h0, .inr (10, vL 67 F153)), (h_tape, .inl (cB, 940, .inl f_tape))]) (fun a => [(1, .int a.1), (0, .ref h0)]) (fun H locs ls => W p l e ({ frames := 4, cells := 0, slots := 0, locals := 87 } : Room) s m [.ref h0].toArray below meth c H locs 0 0 (MQ below (va_Qi (fun (r : Int32) (u : va_W) => ∃ (Gh : Nat → Value) (y_p : Int32) (y_token : Int32) (y_at : Int32) (y_span : Int32) (y_number : Int32) (y_fault : Int32) (y_faultAt : Int32) (y_ids : Int32) (y_word : Int64) (y_got : Int32) (y_lines : Int32) (y_onces : Int32) (y_undoMany : Int32) (g_s : Nat → Int32) (g_h : Nat → Int32) (g_names : Nat → Int64), SAME [0, 2, 3, 4, 5, 11, 12, 13, 14, 15, 16, 17, 18, 19, 20, 21, 41] Fh Gh ∧ Gh 0 = .int 0 ∧ Gh 2 = .int 0 ∧ Gh 3 = .int x_length ∧ Gh 4 = .int y_p ∧ IR 0 940 y_p ∧ Gh 5 = .int 900 ∧ Gh 11 = .int y_token ∧ IR 0 4 y_token ∧ Gh 12 = .int y_at ∧ Gh 13 = .int y_span ∧ Gh 14 = .int y_number ∧ Gh 15 = .int y_fault ∧ Gh 16 = .int y_faultAt ∧ Gh 17 = .int y_ids ∧ Gh 18 = .long y_word ∧ Gh 19 = .int y_got ∧ Gh 20 = .int y_lines ∧ Gh 21 = .int y_onces ∧ Gh 41 = .int y_undoMany ∧ IR 0 8 y_undoMany ∧ SG 153 153 0 44 g_s ∧ SG 0 0 0 40 g_s ∧ SG 5 5 0 12 g_s ∧ SG 6 6 0 12 g_s ∧ SG 7 7 0 6 g_s ∧ SG 44 55 0 9 g_s ∧ KW 0 g_s ∧ SG 105 108 0 11 g_s ∧ SG 114 114 0 5 g_s ∧ SG 130 133 0 11 g_s ∧ SG 139 139 0 5 g_s ∧ SG 0 0 0 40 g_h ∧ SG 5 5 0 12 g_h ∧ SG 6 6 0 12 g_h ∧ SG 7 7 0 6 g_h ∧ SG 44 55 0 9 g_h ∧ ((y_token.toInt = 2 → 0 ≤ y_number.toInt ∧ y_number.toInt ≤ 999)) ∧ u = [(h0, .inr (10, vL 67 Gh)), (h_tape, .inl (cB, 940, .inl f_tape)), (h_s, .inl (cI, 335, .inl g_s)), (h_h, .inl (cI, 104, .inl g_h)), (h_names, .inl (cJ, 36, .inr (.inl g_names))), (h_reserved, .inl (cJ, 23, .inr (.inl f_reserved)))]) (PO D A) A) [.ref h0].toArray s 0 0 A) (F0 m 176 ls [])) ?_ (0, g174) ⟨(show 0 ≤ (0 : Int32).toInt ∧ (0 : Int32).toInt ≤ 12 by decide), r175, r176, r177, r178, r179, r180, (SG.wk r181 (by decide) (by decide)), r182, r183, r184, r185⟩ _ _ _ hP hD hS hl
        rintro ⟨u186, w187⟩ ⟨i188, i189, i190, i191, i192, i193, i194, i195, i196, i197, i198, i199⟩ ih_176 H locs ls hP hD hS hl
        have i188 : 0 ≤ u186.toInt ∧ u186.toInt ≤ 12 := i188
        have hP : va_P D vwCl [(h_s, .inl (cI, 335, .inl w187)), (h_names, .inl (cJ, 36, .inr (.inl w141))), (h_reserved, .inl (cJ, 23, .inr (.inl f_reserved))), (h_h, .inl (cI, 104, .inl w80)), (h0, .inr (10, vL 67 F153)), (h_tape, .inl (cB, 940, .inl f_tape))] H := hP
        have hD : va_D A [(h_s, .inl (cI, 335, .inl w187)), (h_names, .inl (cJ, 36, .inr (.inl w141))), (h_reserved, .inl (cJ, 23, .inr (.inl f_reserved))), (h_h, .inl (cI, 104, .inl w80)), (h0, .inr (10, vL 67 F153)), (h_tape, .inl (cB, 940, .inl f_tape))] := hD
        have hl : lv_has ls 2 [(1, .int u186), (0, .ref h0)] := hl
        refine lv_iload_n hx hb dX10_course_176 rfl (lv_at hl 0 rfl) ?_
        refine lv_aload_n hx hb dX10_course_177 rfl (lv_at hl 1 rfl) ?_
        refine get_f (D := D) (ci := 10) (v := .ref h_s) (C := RX10) (T := TX10) (N := 67) hx hb hw inAX10 hown hK hP 4 rfl rfl 6 (by decide) (hw _ q_1267) (fun _ h9 => h9) n161 dX10_course_178 ?_
        refine lv_bipush (v := 6) hx hb dX10_course_181 (by decide) ?_
        refine iald_n hx hb hK hP 0 0 rfl rfl 6 rfl (Nat.le_of_ble_eq_true rfl) (Nat.le_of_ble_eq_true rfl) rfl dX10_course_183 ?_
        refine lv_topi (fun v200 ev200 => ?_)
        have k201 : 0 ≤ v200.toInt ∧ v200.toInt ≤ 12 := by rw [ev200]; exact i198.atN 6 (by decide) (by decide)
        refine lv_icmp_ge (tgt := 211) hx hb dX10_course_184 (by decide) (fun c202 => ?_) (fun c202 => ?_)
        · have dc202 : v200.toInt ≤ u186.toInt := le_i (a := v200.toInt) (b := u186.toInt) rfl rfl c202
          refine lv_aload_n hx hb dX10_course_211 rfl (lv_at hl 1 rfl) ?_
          refine lv_iconst (v := 0) hx hb dX10_course_212 (by decide) ?_
          refine put_f (D := D) (ci := 10) (v := .int 0) (ty := .int) (C := RX10) (T := TX10) (N := 67) hx hb hw inAX10 tyX10 tyX10_ok nmX10 hown hK hP hD hS 4 rfl rfl 41 (by decide) (hw _ q_1302) (fun _ h9 => h9) rfl (by decide +kernel) rfl rfl dX10_course_213 (fun H locs F203 eF203 hP hD hS => ?_)
          have hP : va_P D vwCl [(h_s, .inl (cI, 335, .inl w187)), (h_names, .inl (cJ, 36, .inr (.inl w141))), (h_reserved, .inl (cJ, 23, .inr (.inl f_reserved))), (h_h, .inl (cI, 104, .inl w80)), (h0, .inr (10, vL 67 F203)), (h_tape, .inl (cB, 940, .inl f_tape))] H := hP
          have hD : va_D A [(h_s, .inl (cI, 335, .inl w187)), (h_names, .inl (cJ, 36, .inr (.inl w141))), (h_reserved, .inl (cJ, 23, .inr (.inl f_reserved))), (h_h, .inl (cI, 104, .inl w80)), (h0, .inr (10, vL 67 F203)), (h_tape, .inl (cB, 940, .inl f_tape))] := hD
          refine lv_aload_n hx hb dX10_course_216 rfl (lv_at hl 1 rfl) ?_
          have n204 : F153 20 = .int u91 := (get_ne eF153 (by decide) i109)
          have n205 : F203 20 = .int u91 := (get_ne eF203 (by decide) n204)
          refine get_f (D := D) (ci := 10) (v := .int u91) (C := RX10) (T := TX10) (N := 67) hx hb hw inAX10 hown hK hP 4 rfl rfl 20 (by decide) (hw _ q_1281) (fun _ h9 => h9) n205 dX10_course_217 ?_
          exact ret_i (v := u91) hx hb hr hlocks hS (hP.sub (ws' := [(h0, .inr (10, vL 67 F203)), (h_tape, .inl (cB, 940, .inl f_tape)), (h_s, .inl (cI, 335, .inl w187)), (h_h, .inl (cI, 104, .inl w80)), (h_names, .inl (cJ, 36, .inr (.inl w141))), (h_reserved, .inl (cJ, 23, .inr (.inl f_reserved)))]) [4, 5, 0, 3, 1, 2] rfl) (hD.sub (ws' := [(h0, .inr (10, vL 67 F203)), (h_tape, .inl (cB, 940, .inl f_tape)), (h_s, .inl (cI, 335, .inl w187)), (h_h, .inl (cI, 104, .inl w80)), (h_names, .inl (cJ, 36, .inr (.inl w141))), (h_reserved, .inl (cJ, 23, .inr (.inl f_reserved)))]) [4, 5, 0, 3, 1, 2] (by decide) rfl) dX10_course_220 rfl (Nat.le_of_ble_eq_true rfl) (Nat.le_of_ble_eq_true rfl) ⟨F203, u82, u83, u84, u85, u86, u87, u88, v152, u89, u90, u91, u92, 0, w187, w80, w141, (SAME.up eF203 (SAME.up eF153 (SAME.tr (SAME.tr (SAME.up eF13 (SAME.up eF12 (SAME.up eF11 (SAME.tr (SAME.up eF1 SAME.rf (by decide)) t5 (by decide)) (by decide)) (by decide)) (by decide)) t64 (by decide)) i99 (by decide)) (by decide)) (by decide)), (get_ne eF203 (by decide) (get_ne eF153 (by decide) (SAME.at i99 (by decide) (SAME.at t64 (by decide) (get_ne eF13 (by decide) (get_ne eF12 (by decide) (get_ne eF11 (by decide) (SAME.at t5 (by decide) (get_eq eF1))))))))), (get_ne eF203 (by decide) (get_ne eF153 (by decide) (SAME.at i99 (by decide) (SAME.at t64 (by decide) (get_ne eF13 (by decide) (get_ne eF12 (by decide) (get_ne eF11 (by decide) t6))))))), (get_ne eF203 (by decide) (get_ne eF153 (by decide) (SAME.at i99 (by decide) (SAME.at t64 (by decide) n34)))), (get_ne eF203 (by decide) (get_ne eF153 (by decide) i100)), i111, (get_ne eF203 (by decide) (get_ne eF153 (by decide) (SAME.at i99 (by decide) (SAME.at t64 (by decide) n40)))), (get_ne eF203 (by decide) (get_ne eF153 (by decide) i101)), i112, (get_ne eF203 (by decide) (get_ne eF153 (by decide) i102)), (get_ne eF203 (by decide) (get_ne eF153 (by decide) i103)), (get_ne eF203 (by decide) (get_ne eF153 (by decide) i104)), (get_ne eF203 (by decide) (get_ne eF153 (by decide) i105)), (get_ne eF203 (by decide) (get_ne eF153 (by decide) i106)), (get_ne eF203 (by decide) (get_eq eF153)), (get_ne eF203 (by decide) (get_ne eF153 (by decide) i107)), (get_ne eF203 (by decide) (get_ne eF153 (by decide) i108)), n205, (get_ne eF203 (by decide) (get_ne eF153 (by decide) i110)), (get_eq eF203), (show 0 ≤ (0 : Int32).toInt ∧ (0 : Int32).toInt ≤ 8 by decide), i195, i190, i197, i198, i199, i196, i189, i191, i192, i193, i194, i94, i96, i97, i98, i95, (by have zl0 : (0 : Int32).toInt = 0 := (by decide); omega), rfl⟩
        · have dc202 : u186.toInt < v200.toInt := nle_i (a := v200.toInt) (b := u186.toInt) rfl rfl c202
          have k206 : 0 ≤ u186.toInt ∧ u186.toInt ≤ 11 := ⟨i188.1, up_lt dc202 k201.2 (by decide)⟩
          have k207 : 1 ≤ v200.toInt ∧ v200.toInt ≤ 12 := ⟨lo_lt dc202 i188.1 (by decide), k201.2⟩
          refine lv_aload_n hx hb dX10_course_187 rfl (lv_at hl 1 rfl) ?_
          refine get_f (D := D) (ci := 10) (v := .ref h_s) (C := RX10) (T := TX10) (N := 67) hx hb hw inAX10 hown hK hP 4 rfl rfl 6 (by decide) (hw _ q_1267) (fun _ h9 => h9) n161 dX10_course_188 ?_
          refine lv_bipush (v := 116) hx hb dX10_course_191 (by decide) ?_
          refine lv_iload_n hx hb dX10_course_193 rfl (lv_at hl 0 rfl) ?_
          refine lv_iadd hx hb dX10_course_194 ?_
          refine lv_topi (fun v208 ev208 => ?_)
          have bv208 : v208.toInt = 116 + u186.toInt := by rw [ev208]; exact add_k rfl rfl ⟨Int.le_refl _, Int.le_refl _⟩ k206 (by decide)
          have k209 : 116 ≤ v208.toInt ∧ v208.toInt ≤ 127 := add_r bv208 ⟨Int.le_refl _, Int.le_refl _⟩ k206 (by decide)
          refine lv_aload_n hx hb dX10_course_195 rfl (lv_at hl 1 rfl) ?_
          refine get_f (D := D) (ci := 10) (v := .ref h_s) (C := RX10) (T := TX10) (N := 67) hx hb hw inAX10 hown hK hP 4 rfl rfl 6 (by decide) (hw _ q_1267) (fun _ h9 => h9) n161 dX10_course_196 ?_
          refine lv_bipush (v := 68) hx hb dX10_course_199 (by decide) ?_
          refine lv_iload_n hx hb dX10_course_201 rfl (lv_at hl 0 rfl) ?_
          refine lv_iadd hx hb dX10_course_202 ?_
          refine lv_topi (fun v210 ev210 => ?_)
          have bv210 : v210.toInt = 68 + u186.toInt := by rw [ev210]; exact add_k rfl rfl ⟨Int.le_refl _, Int.le_refl _⟩ k206 (by decide)
          have k211 : 68 ≤ v210.toInt ∧ v210.toInt ≤ 79 := add_r bv210 ⟨Int.le_refl _, Int.le_refl _⟩ k206 (by decide)
          refine va_iald hx hb hK hP 0 0 rfl rfl (ix_k k211 (by decide) (by decide)) dX10_course_203 ?_
          refine lv_topi (fun v212 ev212 => ?_)
          obtain ⟨g213, eg213⟩ : ∃ z : Nat → Int32, upd w187 v208.toNatClampNeg v212 = z := ⟨_, rfl⟩
          have r214 : KW 0 g213 := by rw [← eg213]; exact i189.up (Int.le_trans (by decide) k209.1) (Or.inl (lt_dec k209.2 (by decide)))
          have r215 : SG 0 0 0 40 g213 := by rw [← eg213]; exact i190.up (Int.le_trans (by decide) k209.1) (Or.inr (Or.inl (dec_lt k209.1 (by decide))))
          have r216 : SG 105 108 0 11 g213 := by rw [← eg213]; exact i191.up (Int.le_trans (by decide) k209.1) (Or.inr (Or.inl (dec_lt k209.1 (by decide))))
          have r217 : SG 114 114 0 5 g213 := by rw [← eg213]; exact i192.up (Int.le_trans (by decide) k209.1) (Or.inr (Or.inl (dec_lt k209.1 (by decide))))
          have r218 : SG 130 133 0 11 g213 := by rw [← eg213]; exact i193.up (Int.le_trans (by decide) k209.1) (Or.inl (lt_dec k209.2 (by decide)))
          have r219 : SG 139 139 0 5 g213 := by rw [← eg213]; exact i194.up (Int.le_trans (by decide) k209.1) (Or.inl (lt_dec k209.2 (by decide)))
          have r220 : SG 153 153 0 44 g213 := by rw [← eg213]; exact i195.up (Int.le_trans (by decide) k209.1) (Or.inl (lt_dec k209.2 (by decide)))
          have r221 : SG 44 55 0 9 g213 := by rw [← eg213]; exact i196.up (Int.le_trans (by decide) k209.1) (Or.inr (Or.inl (dec_lt k209.1 (by decide))))
          have r222 : SG 5 5 0 12 g213 := by rw [← eg213]; exact i197.up (Int.le_trans (by decide) k209.1) (Or.inr (Or.inl (dec_lt k209.1 (by decide))))
          have r223 : SG 6 6 0 12 g213 := by rw [← eg213]; exact i198.up (Int.le_trans (by decide) k209.1) (Or.inr (Or.inl (dec_lt k209.1 (by decide))))
          have r224 : SG 7 7 0 6 g213 := by rw [← eg213]; exact i199.up (Int.le_trans (by decide) k209.1) (Or.inr (Or.inl (dec_lt k209.1 (by decide))))
          refine iast_g hx hb hK hP hD hS 0 0 rfl rfl (ix_k k209 (by decide) (by decide)) eg213 dX10_course_204 (fun H locs hP hD hS => ?_)
          have hP : va_P D vwCl [(h_s, .inl (cI, 335, .inl g213)), (h_names, .inl (cJ, 36, .inr (.inl w141))), (h_reserved, .inl (cJ, 23, .inr (.inl f_reserved))), (h_h, .inl (cI, 104, .inl w80)), (h0, .inr (10, vL 67 F153)), (h_tape, .inl (cB, 940, .inl f_tape))] H := hP
          have hD : va_D A [(h_s, .inl (cI, 335, .inl g213)), (h_names, .inl (cJ, 36, .inr (.inl w141))), (h_reserved, .inl (cJ, 23, .inr (.inl f_reserved))), (h_h, .inl (cI, 104, .inl w80)), (h0, .inr (10, vL 67 F153)), (h_tape, .inl (cB, 940, .inl f_tape))] := hD
          obtain ⟨v225, ev225⟩ : ∃ z : Int32, z = u186 + 1 := ⟨_, rfl⟩
          have bv225 : v225.toInt = u186.toInt + 1 := by rw [ev225]; exact add_k rfl rfl k206 ⟨Int.le_refl _, Int.le_refl _⟩ (by decide)
          have k226 : 1 ≤ v225.toInt ∧ v225.toInt ≤ 12 := add_r bv225 k206 ⟨Int.le_refl _, Int.le_refl _⟩ (by decide)
          refine lv_iinc (v := v225) (lv' := [(1, .int v225), (0, .ref h0)]) hx hb dX10_course_205 hl (k := 0) rfl (by rw [ev225]; rfl) (by decide) rfl (fun ls hl => ?_)
          refine lv_goto (tgt := 176) hx hb dX10_course_208 (by decide) ?_
          exact ih_176 (v225, g213) ⟨(ir_wk k226 (by decide) (by decide)), r214, r215, r216, r217, r218, r219, r220, r221, r222, r223, r224⟩ (by show (12 - v225.toInt).toNat < (12 - u186.toInt).toNat; omega) _ _ _ hP hD hS (lv_sub hl [0, 1] rfl)
      · have dc143 : u140.toInt < 18 := nle_i (a := 18) (b := u140.toInt) rfl rfl c143
        have k227 : 0 ≤ u140.toInt ∧ u140.toInt ≤ 17 := ⟨i142.1, up_lt dc143 (Int.le_refl _) (by decide)⟩
        refine lv_aload_n hx hb dX10_course_123 rfl (lv_at hl 1 rfl) ?_
        have n228 : F1 9 = .ref h_names := (get_ne eF1 (by decide) e_names)
        have n229 : F4 9 = .ref h_names := (SAME.at t5 (by decide) n228)
        have n230 : F11 9 = .ref h_names := (get_ne eF11 (by decide) n229)
        have n231 : F12 9 = .ref h_names := (get_ne eF12 (by decide) n230)
        have n232 : F13 9 = .ref h_names := (get_ne eF13 (by decide) n231)
        have n233 : F57 9 = .ref h_names := (SAME.at t64 (by decide) n232)
        have n234 : G81 9 = .ref h_names := (SAME.at i99 (by decide) n233)
        refine get_f (D := D) (ci := 10) (v := .ref h_names) (C := RX10) (T := TX10) (N := 67) hx hb hw inAX10 hown hK hP 4 rfl rfl 9 (by decide) (hw _ q_1270) (fun _ h9 => h9) n234 dX10_course_124 ?_
        refine lv_iload_n hx hb dX10_course_127 rfl (lv_at hl 0 rfl) ?_
        refine lv_aload_n hx hb dX10_course_128 rfl (lv_at hl 1 rfl) ?_
        refine get_f (D := D) (ci := 10) (v := .ref h_names) (C := RX10) (T := TX10) (N := 67) hx hb hw inAX10 hown hK hP 4 rfl rfl 9 (by decide) (hw _ q_1270) (fun _ h9 => h9) n234 dX10_course_129 ?_
        refine lv_bipush (v := 18) hx hb dX10_course_132 (by decide) ?_
        refine lv_iload_n hx hb dX10_course_134 rfl (lv_at hl 0 rfl) ?_
        refine lv_iadd hx hb dX10_course_135 ?_
        refine lv_topi (fun v235 ev235 => ?_)
        have bv235 : v235.toInt = 18 + u140.toInt := by rw [ev235]; exact add_k rfl rfl ⟨Int.le_refl _, Int.le_refl _⟩ k227 (by decide)
        have k236 : 18 ≤ v235.toInt ∧ v235.toInt ≤ 35 := add_r bv235 ⟨Int.le_refl _, Int.le_refl _⟩ k227 (by decide)
        refine va_lald hx hb hK hP 1 1 rfl rfl (ix_k k236 (by decide) (by decide)) dX10_course_136 ?_
        refine lv_topl (fun v237 ev237 => ?_)
        obtain ⟨g238, eg238⟩ : ∃ z : Nat → Int64, vp_updL w141 u140.toNatClampNeg v237 = z := ⟨_, rfl⟩
        refine last_g hx hb hK hP hD hS 1 1 rfl rfl (ix_k k227 (by decide) (by decide)) eg238 dX10_course_137 (fun H locs hP hD hS => ?_)
        have hP : va_P D vwCl [(h_s, .inl (cI, 335, .inl w115)), (h_names, .inl (cJ, 36, .inr (.inl g238))), (h_reserved, .inl (cJ, 23, .inr (.inl f_reserved))), (h_h, .inl (cI, 104, .inl w80)), (h0, .inr (10, vL 67 G81)), (h_tape, .inl (cB, 940, .inl f_tape))] H := hP
        have hD : va_D A [(h_s, .inl (cI, 335, .inl w115)), (h_names, .inl (cJ, 36, .inr (.inl g238))), (h_reserved, .inl (cJ, 23, .inr (.inl f_reserved))), (h_h, .inl (cI, 104, .inl w80)), (h0, .inr (10, vL 67 G81)), (h_tape, .inl (cB, 940, .inl f_tape))] := hD
        obtain ⟨v239, ev239⟩ : ∃ z : Int32, z = u140 + 1 := ⟨_, rfl⟩
        have bv239 : v239.toInt = u140.toInt + 1 := by rw [ev239]; exact add_k rfl rfl k227 ⟨Int.le_refl _, Int.le_refl _⟩ (by decide)
        have k240 : 1 ≤ v239.toInt ∧ v239.toInt ≤ 18 := add_r bv239 k227 ⟨Int.le_refl _, Int.le_refl _⟩ (by decide)
        refine lv_iinc (v := v239) (lv' := [(1, .int v239), (0, .ref h0)]) hx hb dX10_course_138 hl (k := 0) rfl (by rw [ev239]; rfl) (by decide) rfl (fun ls hl => ?_)
        refine lv_goto (tgt := 117) hx hb dX10_course_141 (by decide) ?_
        exact ih_117 (v239, g238) (ir_wk k240 (by decide) (by decide)) (by show (18 - v239.toInt).toNat < (18 - u140.toInt).toNat; omega) _ _ _ hP hD hS (lv_sub hl [0, 1] rfl)
    · have dc127 : u114.toInt < 335 := nle_i (a := 335) (b := u114.toInt) rfl rfl c127
      have k241 : 0 ≤ u114.toInt ∧ u114.toInt ≤ 334 := ⟨i116.1, up_lt dc127 (Int.le_refl _) (by decide)⟩
      refine lv_aload_n hx hb dX10_course_87 rfl (lv_at hl 1 rfl) ?_
      have n242 : F1 6 = .ref h_s := (get_ne eF1 (by decide) e_s)
      have n243 : F4 6 = .ref h_s := (SAME.at t5 (by decide) n242)
      have n244 : F11 6 = .ref h_s := (get_ne eF11 (by decide) n243)
      have n245 : F12 6 = .ref h_s := (get_ne eF12 (by decide) n244)
      have n246 : F13 6 = .ref h_s := (get_ne eF13 (by decide) n245)
      have n247 : F57 6 = .ref h_s := (SAME.at t64 (by decide) n246)
      have n248 : G81 6 = .ref h_s := (SAME.at i99 (by decide) n247)
      refine get_f (D := D) (ci := 10) (v := .ref h_s) (C := RX10) (T := TX10) (N := 67) hx hb hw inAX10 hown hK hP 4 rfl rfl 6 (by decide) (hw _ q_1267) (fun _ h9 => h9) n248 dX10_course_88 ?_
      refine lv_iload_n hx hb dX10_course_91 rfl (lv_at hl 0 rfl) ?_
      refine lv_iload_n hx hb dX10_course_92 rfl (lv_at hl 0 rfl) ?_
      refine lv_bipush (v := 104) hx hb dX10_course_93 (by decide) ?_
      refine lv_icmp_ge (tgt := 107) hx hb dX10_course_95 (by decide) (fun c249 => ?_) (fun c249 => ?_)
      · have dc249 : 104 ≤ u114.toInt := le_i (a := 104) (b := u114.toInt) rfl rfl c249
        have k250 : 104 ≤ u114.toInt ∧ u114.toInt ≤ 334 := ⟨Int.le_trans (Int.le_refl _) dc249, k241.2⟩
        refine lv_iconst (v := 0) hx hb dX10_course_107 (by decide) ?_
        obtain ⟨g251, eg251⟩ : ∃ z : Nat → Int32, upd w115 u114.toNatClampNeg 0 = z := ⟨_, rfl⟩
        refine iast_g hx hb hK hP hD hS 0 0 rfl rfl (ix_k k250 (by decide) (by decide)) eg251 dX10_course_108 (fun H locs hP hD hS => ?_)
        have hP : va_P D vwCl [(h_s, .inl (cI, 335, .inl g251)), (h_names, .inl (cJ, 36, .inr (.inl w79))), (h_reserved, .inl (cJ, 23, .inr (.inl f_reserved))), (h_h, .inl (cI, 104, .inl w80)), (h0, .inr (10, vL 67 G81)), (h_tape, .inl (cB, 940, .inl f_tape))] H := hP
        have hD : va_D A [(h_s, .inl (cI, 335, .inl g251)), (h_names, .inl (cJ, 36, .inr (.inl w79))), (h_reserved, .inl (cJ, 23, .inr (.inl f_reserved))), (h_h, .inl (cI, 104, .inl w80)), (h0, .inr (10, vL 67 G81)), (h_tape, .inl (cB, 940, .inl f_tape))] := hD
        obtain ⟨v252, ev252⟩ : ∃ z : Int32, z = u114 + 1 := ⟨_, rfl⟩
        have bv252 : v252.toInt = u114.toInt + 1 := by rw [ev252]; exact add_k rfl rfl k250 ⟨Int.le_refl _, Int.le_refl _⟩ (by decide)
        have k253 : 105 ≤ v252.toInt ∧ v252.toInt ≤ 335 := add_r bv252 k250 ⟨Int.le_refl _, Int.le_refl _⟩ (by decide)
        refine lv_iinc (v := v252) (lv' := [(1, .int v252), (0, .ref h0)]) hx hb dX10_course_109 hl (k := 0) rfl (by rw [ev252]; rfl) (by decide) rfl (fun ls hl => ?_)
        refine lv_goto (tgt := 80) hx hb dX10_course_112 (by decide) ?_
        exact ih (v252, g251) ⟨(ir_wk k253 (by decide) (by decide)), (SGK.step i117 eg251 (by omega) (by omega) (by omega) (fun q1 q2 => ⟨by decide, by decide⟩)), (SGK.step i118 eg251 (by omega) (by omega) (by omega) (fun q1 q2 => ⟨by decide, by decide⟩)), (SGK.step i119 eg251 (by omega) (by omega) (by omega) (fun q1 q2 => ⟨by decide, by decide⟩)), (SGK.step i120 eg251 (by omega) (by omega) (by omega) (fun q1 q2 => ⟨by decide, by decide⟩)), (SGK.step i121 eg251 (by omega) (by omega) (by omega) (fun q1 q2 => ⟨by decide, by decide⟩)), (SGK.step i122 eg251 (by omega) (by omega) (by omega) (fun q1 q2 => ⟨by decide, by decide⟩)), (SGK.step i123 eg251 (by omega) (by omega) (by omega) (fun q1 q2 => ⟨by decide, by decide⟩)), (SGK.step i124 eg251 (by omega) (by omega) (by omega) (fun q1 q2 => ⟨by decide, by decide⟩)), (SGK.step i125 eg251 (by omega) (by omega) (by omega) (fun q1 q2 => ⟨by decide, by decide⟩)), (SGK.step i126 eg251 (by omega) (by omega) (by omega) (fun q1 q2 => ⟨by decide, by decide⟩))⟩ (by show (335 - v252.toInt).toNat < (335 - u114.toInt).toNat; omega) _ _ _ hP hD hS (lv_sub hl [0, 1] rfl)
      · have dc249 : u114.toInt < 104 := nle_i (a := 104) (b := u114.toInt) rfl rfl c249
        have k254 : 0 ≤ u114.toInt ∧ u114.toInt ≤ 103 := ⟨k241.1, up_lt dc249 (Int.le_refl _) (by decide)⟩
        refine lv_aload_n hx hb dX10_course_98 rfl (lv_at hl 1 rfl) ?_
        have n255 : F57 7 = .ref h_h := (SAME.at t64 (by decide) n18)
        have n256 : G81 7 = .ref h_h := (SAME.at i99 (by decide) n255)
        refine get_f (D := D) (ci := 10) (v := .ref h_h) (C := RX10) (T := TX10) (N := 67) hx hb hw inAX10 hown hK hP 4 rfl rfl 7 (by decide) (hw _ q_1268) (fun _ h9 => h9) n256 dX10_course_99 ?_
        refine lv_iload_n hx hb dX10_course_102 rfl (lv_at hl 0 rfl) ?_
        refine va_iald hx hb hK hP 3 0 rfl rfl (ix_k k254 (by decide) (by decide)) dX10_course_103 ?_
        refine lv_topi (fun v257 ev257 => ?_)
        have r258 : IMP (0 ≤ u114.toInt → u114.toInt ≤ 0 → 0 ≤ v257.toInt ∧ v257.toInt ≤ 40) := IMP.mk (fun q1 q2 => by rw [ev257]; exact i94.at _ q1 q2)
        have r259 : IMP (44 ≤ u114.toInt → u114.toInt ≤ 55 → 0 ≤ v257.toInt ∧ v257.toInt ≤ 9) := IMP.mk (fun q1 q2 => by rw [ev257]; exact i95.at _ q1 q2)
        have r260 : IMP (5 ≤ u114.toInt → u114.toInt ≤ 5 → 0 ≤ v257.toInt ∧ v257.toInt ≤ 12) := IMP.mk (fun q1 q2 => by rw [ev257]; exact i96.at _ q1 q2)
        have r261 : IMP (6 ≤ u114.toInt → u114.toInt ≤ 6 → 0 ≤ v257.toInt ∧ v257.toInt ≤ 12) := IMP.mk (fun q1 q2 => by rw [ev257]; exact i97.at _ q1 q2)
        have r262 : IMP (7 ≤ u114.toInt → u114.toInt ≤ 7 → 0 ≤ v257.toInt ∧ v257.toInt ≤ 6) := IMP.mk (fun q1 q2 => by rw [ev257]; exact i98.at _ q1 q2)
        refine lv_goto (tgt := 108) hx hb dX10_course_104 (by decide) ?_
        obtain ⟨g263, eg263⟩ : ∃ z : Nat → Int32, upd w115 u114.toNatClampNeg v257 = z := ⟨_, rfl⟩
        refine iast_g hx hb hK hP hD hS 0 0 rfl rfl (ix_k k254 (by decide) (by decide)) eg263 dX10_course_108 (fun H locs hP hD hS => ?_)
        have hP : va_P D vwCl [(h_s, .inl (cI, 335, .inl g263)), (h_names, .inl (cJ, 36, .inr (.inl w79))), (h_reserved, .inl (cJ, 23, .inr (.inl f_reserved))), (h_h, .inl (cI, 104, .inl w80)), (h0, .inr (10, vL 67 G81)), (h_tape, .inl (cB, 940, .inl f_tape))] H := hP
        have hD : va_D A [(h_s, .inl (cI, 335, .inl g263)), (h_names, .inl (cJ, 36, .inr (.inl w79))), (h_reserved, .inl (cJ, 23, .inr (.inl f_reserved))), (h_h, .inl (cI, 104, .inl w80)), (h0, .inr (10, vL 67 G81)), (h_tape, .inl (cB, 940, .inl f_tape))] := hD
        obtain ⟨v264, ev264⟩ : ∃ z : Int32, z = u114 + 1 := ⟨_, rfl⟩
        have bv264 : v264.toInt = u114.toInt + 1 := by rw [ev264]; exact add_k rfl rfl k254 ⟨Int.le_refl _, Int.le_refl _⟩ (by decide)
        have k265 : 1 ≤ v264.toInt ∧ v264.toInt ≤ 104 := add_r bv264 k254 ⟨Int.le_refl _, Int.le_refl _⟩ (by decide)
        refine lv_iinc (v := v264) (lv' := [(1, .int v264), (0, .ref h0)]) hx hb dX10_course_109 hl (k := 0) rfl (by rw [ev264]; rfl) (by decide) rfl (fun ls hl => ?_)
        refine lv_goto (tgt := 80) hx hb dX10_course_112 (by decide) ?_
        exact ih (v264, g263) ⟨(ir_wk k265 (by decide) (by decide)), (SGK.step i117 eg263 (by omega) (by omega) (by omega) (fun q1 q2 => ⟨Int.le_trans (by decide) (r258.h (by omega) (by omega)).1, Int.le_trans (r258.h (by omega) (by omega)).2 (by decide)⟩)), (SGK.step i118 eg263 (by omega) (by omega) (by omega) (fun q1 q2 => ⟨Int.le_trans (by decide) (r260.h (by omega) (by omega)).1, Int.le_trans (r260.h (by omega) (by omega)).2 (by decide)⟩)), (SGK.step i119 eg263 (by omega) (by omega) (by omega) (fun q1 q2 => ⟨Int.le_trans (by decide) (r261.h (by omega) (by omega)).1, Int.le_trans (r261.h (by omega) (by omega)).2 (by decide)⟩)), (SGK.step i120 eg263 (by omega) (by omega) (by omega) (fun q1 q2 => ⟨Int.le_trans (by decide) (r262.h (by omega) (by omega)).1, Int.le_trans (r262.h (by omega) (by omega)).2 (by decide)⟩)), (SGK.step i121 eg263 (by omega) (by omega) (by omega) (fun q1 q2 => ⟨Int.le_trans (by decide) (r259.h (by omega) (by omega)).1, Int.le_trans (r259.h (by omega) (by omega)).2 (by decide)⟩)), (SGK.step i122 eg263 (by omega) (by omega) (by omega) (fun q1 q2 => ⟨by omega, by omega⟩)), (SGK.step i123 eg263 (by omega) (by omega) (by omega) (fun q1 q2 => ⟨by omega, by omega⟩)), (SGK.step i124 eg263 (by omega) (by omega) (by omega) (fun q1 q2 => ⟨by omega, by omega⟩)), (SGK.step i125 eg263 (by omega) (by omega) (by omega) (fun q1 q2 => ⟨by omega, by omega⟩)), (SGK.step i126 eg263 (by omega) (by omega) (by omega) (fun q1 q2 => ⟨by omega, by omega⟩))⟩ (by show (335 - v264.toInt).toNat < (335 - u114.toInt).toNat; omega) _ _ _ hP hD hS (lv_sub hl [0, 1] rfl)
  have n266 : F12 15 = .int 0 := (get_ne eF12 (by decide) (get_eq eF11))
  have n267 : F13 15 = .int 0 := (get_ne eF13 (by decide) n266)
  have n268 : F57 15 = .int 0 := (SAME.at t64 (by decide) n267)
  have n269 : F1 16 = .int x_faultAt := (get_ne eF1 (by decide) e_faultAt)
  have n270 : F4 16 = .int x_faultAt := (SAME.at t5 (by decide) n269)
  have n271 : F11 16 = .int x_faultAt := (get_ne eF11 (by decide) n270)
  have n272 : F12 16 = .int x_faultAt := (get_ne eF12 (by decide) n271)
  have n273 : F13 16 = .int x_faultAt := (get_ne eF13 (by decide) n272)
  have n274 : F57 16 = .int x_faultAt := (SAME.at t64 (by decide) n273)
  have n275 : F1 19 = .int x_got := (get_ne eF1 (by decide) e_got)
  have n276 : F4 19 = .int x_got := (SAME.at t5 (by decide) n275)
  have n277 : F11 19 = .int x_got := (get_ne eF11 (by decide) n276)
  have n278 : F12 19 = .int x_got := (get_ne eF12 (by decide) n277)
  have n279 : F13 19 = .int x_got := (get_ne eF13 (by decide) n278)
  have n280 : F57 19 = .int x_got := (SAME.at t64 (by decide) n279)
  have n281 : F13 20 = .int 0 := (get_ne eF13 (by decide) (get_eq eF12))
  have n282 : F57 20 = .int 0 := (SAME.at t64 (by decide) n281)
  have n283 : F57 21 = .int 0 := (SAME.at t64 (by decide) (get_eq eF13))
  refine mloop (α := (Nat → Int64) × (Nat → Int32) × (Nat → Value) × (Int32) × (Int32) × (Int32) × (Int32) × (Int32) × (Int32) × (Int32) × (Int64) × (Int32) × (Int32) × (Int32)) (nL := 2) (D := D) (A := A) (H0 := s.heap) (fun a => (x_length.toInt - a.2.2.2.1.toInt).toNat) (fun a => SG 0 0 0 40 a.2.1 ∧ SG 44 55 0 9 a.2.1 ∧ SG 5 5 0 12 a.2.1 ∧ SG 6 6 0 12 a.2.1 ∧ SG 7 7 0 6 a.2.1 ∧ SAME [4, 11, 12, 13, 14, 15, 16, 18, 19, 20, 21] F57 a.2.2.1 ∧ a.2.2.1 4 = .int a.2.2.2.1 ∧ a.2.2.1 11 = .int a.2.2.2.2.1 ∧ a.2.2.1 12 = .int a.2.2.2.2.2.1 ∧ a.2.2.1 13 = .int a.2.2.2.2.2.2.1 ∧ a.2.2.1 14 = .int a.2.2.2.2.2.2.2.1 ∧ a.2.2.1 15 = .int a.2.2.2.2.2.2.2.2.1 ∧ a.2.2.1 16 = .int a.2.2.2.2.2.2.2.2.2.1 ∧ a.2.2.1 18 = .long a.2.2.2.2.2.2.2.2.2.2.1 ∧ a.2.2.1 19 = .int a.2.2.2.2.2.2.2.2.2.2.2.1 ∧ a.2.2.1 20 = .int a.2.2.2.2.2.2.2.2.2.2.2.2.1 ∧ a.2.2.1 21 = .int a.2.2.2.2.2.2.2.2.2.2.2.2.2 ∧ IR 0 940 a.2.2.2.1 ∧ IR 0 4 a.2.2.2.2.1 ∧ ((a.2.2.2.2.1.toInt = 2 → 0 ≤ a.2.2.2.2.2.2.2.1.toInt ∧ a.2.2.2.2.2.2.2.1.toInt ≤ 999))) (fun a => [(h_s, .inl (cI, 335, .inl f_s)), (h_names, .inl (cJ, 36, .inr (.inl a.1))), (h_reserved, .inl (cJ, 23, .inr (.inl f_reserved))), (h_h, .inl (cI, 104, .inl a.2.1)), (h0, .inr (10, vL 67 a.2.2.1)), (h_tape, .inl (cB, 940, .inl f_tape))]) (fun a => [(0, .ref h0)]) (fun H locs ls => W p l e ({ frames := 4, cells := 0, slots := 0, locals := 87 } : Room) s m [.ref h0].toArray below meth c H locs 0 0 (MQ below (va_Qi (fun (r : Int32) (u : va_W) => ∃ (Gh : Nat → Value) (y_p : Int32) (y_token : Int32) (y_at : Int32) (y_span : Int32) (y_number : Int32) (y_fault : Int32) (y_faultAt : Int32) (y_ids : Int32) (y_word : Int64) (y_got : Int32) (y_lines : Int32) (y_onces : Int32) (y_undoMany : Int32) (g_s : Nat → Int32) (g_h : Nat → Int32) (g_names : Nat → Int64), SAME [0, 2, 3, 4, 5, 11, 12, 13, 14, 15, 16, 17, 18, 19, 20, 21, 41] Fh Gh ∧ Gh 0 = .int 0 ∧ Gh 2 = .int 0 ∧ Gh 3 = .int x_length ∧ Gh 4 = .int y_p ∧ IR 0 940 y_p ∧ Gh 5 = .int 900 ∧ Gh 11 = .int y_token ∧ IR 0 4 y_token ∧ Gh 12 = .int y_at ∧ Gh 13 = .int y_span ∧ Gh 14 = .int y_number ∧ Gh 15 = .int y_fault ∧ Gh 16 = .int y_faultAt ∧ Gh 17 = .int y_ids ∧ Gh 18 = .long y_word ∧ Gh 19 = .int y_got ∧ Gh 20 = .int y_lines ∧ Gh 21 = .int y_onces ∧ Gh 41 = .int y_undoMany ∧ IR 0 8 y_undoMany ∧ SG 153 153 0 44 g_s ∧ SG 0 0 0 40 g_s ∧ SG 5 5 0 12 g_s ∧ SG 6 6 0 12 g_s ∧ SG 7 7 0 6 g_s ∧ SG 44 55 0 9 g_s ∧ KW 0 g_s ∧ SG 105 108 0 11 g_s ∧ SG 114 114 0 5 g_s ∧ SG 130 133 0 11 g_s ∧ SG 139 139 0 5 g_s ∧ SG 0 0 0 40 g_h ∧ SG 5 5 0 12 g_h ∧ SG 6 6 0 12 g_h ∧ SG 7 7 0 6 g_h ∧ SG 44 55 0 9 g_h ∧ ((y_token.toInt = 2 → 0 ≤ y_number.toInt ∧ y_number.toInt ≤ 999)) ∧ u = [(h0, .inr (10, vL 67 Gh)), (h_tape, .inl (cB, 940, .inl f_tape)), (h_s, .inl (cI, 335, .inl g_s)), (h_h, .inl (cI, 104, .inl g_h)), (h_names, .inl (cJ, 36, .inr (.inl g_names))), (h_reserved, .inl (cJ, 23, .inr (.inl f_reserved)))]) (PO D A) A) [.ref h0].toArray s 0 0 A) (F0 m 35 ls [])) ?_ (f_names, g20, F57, y58, y59, y60, y61, y62, 0, x_faultAt, y63, x_got, 0, 0) ⟨t21, t25, t22, t23, t24, SAME.rf, t65, t67, t69, t71, t73, n268, n274, t74, n280, n282, n283, t66, t68, (by show (y59.toInt = 2 → 0 ≤ y62.toInt ∧ y62.toInt ≤ 999); omega)⟩ _ _ _ hP hD hS hl
  rintro ⟨w79, w80, G81, u82, u83, u84, u85, u86, u87, u88, u89, u90, u91, u92⟩ ⟨i284, i285, i286, i287, i288, i289, i290, i291, i292, i293, i294, i295, i296, i297, i298, i299, i300, i301, i302, i303⟩ ih H locs ls hP hD hS hl
  have i301 : 0 ≤ u82.toInt ∧ u82.toInt ≤ 940 := i301
  have i302 : 0 ≤ u83.toInt ∧ u83.toInt ≤ 4 := i302
  have i303 : (u83.toInt = 2 → 0 ≤ u86.toInt ∧ u86.toInt ≤ 999) := i303
  have hP : va_P D vwCl [(h_s, .inl (cI, 335, .inl f_s)), (h_names, .inl (cJ, 36, .inr (.inl w79))), (h_reserved, .inl (cJ, 23, .inr (.inl f_reserved))), (h_h, .inl (cI, 104, .inl w80)), (h0, .inr (10, vL 67 G81)), (h_tape, .inl (cB, 940, .inl f_tape))] H := hP
  have hD : va_D A [(h_s, .inl (cI, 335, .inl f_s)), (h_names, .inl (cJ, 36, .inr (.inl w79))), (h_reserved, .inl (cJ, 23, .inr (.inl f_reserved))), (h_h, .inl (cI, 104, .inl w80)), (h0, .inr (10, vL 67 G81)), (h_tape, .inl (cB, 940, .inl f_tape))] := hD
  have hl : lv_has ls 2 [(0, .ref h0)] := hl
  refine lv_aload_n hx hb dX10_course_35 rfl (lv_at hl 0 rfl) ?_
  refine get_f (D := D) (ci := 10) (v := .int u83) (C := RX10) (T := TX10) (N := 67) hx hb hw inAX10 hown hK hP 4 rfl rfl 11 (by decide) (hw _ q_1272) (fun _ h9 => h9) i291 dX10_course_36 ?_
  refine lv_if_eq (tgt := 78) hx hb dX10_course_39 (by decide) (fun c304 => ?_) (fun c304 => ?_)
  · have dc304 : u83.toInt = 0 := eq_i (a := u83.toInt) (b := 0) rfl rfl c304
    have k305 : 0 ≤ u83.toInt ∧ u83.toInt ≤ 0 := ⟨i302.1, Int.le_trans (Int.le_of_eq dc304) (Int.le_refl _)⟩
    exact cut93 w79 w80 G81 u82 u83 u84 u85 u86 u87 u88 u89 u90 u91 u92 i284 i285 i286 i287 i288 (SAME.tr SAME.rf i289 (by decide)) i290 i291 i292 i293 i294 i295 i296 i297 i298 i299 i300 i301 (ir_wk k305 (by decide) (by decide)) (by show (u83.toInt = 2 → 0 ≤ u86.toInt ∧ u86.toInt ≤ 999); omega) _ _ _ hP hD hS (lv_sub hl [0] rfl)
  · have dc304 : u83.toInt ≠ 0 := ne_i (a := u83.toInt) (b := 0) rfl rfl c304
    have k306 : 1 ≤ u83.toInt ∧ u83.toInt ≤ 4 := ⟨ne_lo dc304 i302.1 ⟨Int.le_refl _, Int.le_refl _⟩ (by decide), i302.2⟩
    refine lv_aload_n hx hb dX10_course_42 rfl (lv_at hl 0 rfl) ?_
    have n307 : F57 1 = .ref h_tape := (SAME.at t64 (by decide) n31)
    have n308 : G81 1 = .ref h_tape := (SAME.at i289 (by decide) n307)
    have n309 : F57 3 = .int x_length := (SAME.at t64 (by decide) n34)
    have n310 : G81 3 = .int x_length := (SAME.at i289 (by decide) n309)
    have n311 : F57 5 = .int 900 := (SAME.at t64 (by decide) n40)
    have n312 : G81 5 = .int 900 := (SAME.at i289 (by decide) n311)
    have n313 : F57 7 = .ref h_h := (SAME.at t64 (by decide) n18)
    have n314 : G81 7 = .ref h_h := (SAME.at i289 (by decide) n313)
    have n315 : F1 9 = .ref h_names := (get_ne eF1 (by decide) e_names)
    have n316 : F4 9 = .ref h_names := (SAME.at t5 (by decide) n315)
    have n317 : F11 9 = .ref h_names := (get_ne eF11 (by decide) n316)
    have n318 : F12 9 = .ref h_names := (get_ne eF12 (by decide) n317)
    have n319 : F13 9 = .ref h_names := (get_ne eF13 (by decide) n318)
    have n320 : F57 9 = .ref h_names := (SAME.at t64 (by decide) n319)
    have n321 : G81 9 = .ref h_names := (SAME.at i289 (by decide) n320)
    have n322 : F1 10 = .ref h_reserved := (get_ne eF1 (by decide) e_reserved)
    have n323 : F4 10 = .ref h_reserved := (SAME.at t5 (by decide) n322)
    have n324 : F11 10 = .ref h_reserved := (get_ne eF11 (by decide) n323)
    have n325 : F12 10 = .ref h_reserved := (get_ne eF12 (by decide) n324)
    have n326 : F13 10 = .ref h_reserved := (get_ne eF13 (by decide) n325)
    have n327 : F57 10 = .ref h_reserved := (SAME.at t64 (by decide) n326)
    have n328 : G81 10 = .ref h_reserved := (SAME.at i289 (by decide) n327)
    refine call_Vi (wr := [(h_s, .inl (cI, 335, .inl f_s))]) (As := []) (rest := []) hx hb hml hown hw (m_X10_line0 l D cI cJ cB cP cM cZ h0 h_tape h_h h_names h_reserved G81 x_length u82 900 u83 u84 u85 u86 u87 u88 u89 u90 u92 f_tape w80 w79 f_reserved _ n308 n310 i_x_length i290 i301 n312 (show 200 ≤ (900 : Int32).toInt ∧ (900 : Int32).toInt ≤ 940 by decide) n314 n321 n328 i291 (ir_wk k306 (by decide) (by decide)) i292 i293 i294 i295 i296 i297 i298 i300 i284 i285 i286 i287 i288 (by omega)) wV_X10_254_X10_line0 dX10_course_43 hK hP hD hS hA [4, 5, 3, 1, 2] [0] rfl rfl (by decide) (by decide) (by decide) 0 10 rfl rfl GG.fb hG.at hl.1 rfl (Nat.le_of_ble_eq_true rfl) ⟨(Nat.le_of_ble_eq_true rfl), (Nat.le_of_ble_eq_true rfl)⟩ ⟨(Nat.le_of_ble_eq_true rfl), (Nat.le_of_ble_eq_true rfl)⟩ (fun r329 u H locs hp hP hD hS => ?_)
    refine hp.elim (fun F330 h9z => h9z.elim (fun y331 h9z => h9z.elim (fun y332 h9z => h9z.elim (fun y333 h9z => h9z.elim (fun y334 h9z => h9z.elim (fun y335 h9z => h9z.elim (fun y336 h9z => h9z.elim (fun y337 h9z => h9z.elim (fun y338 h9z => h9z.elim (fun y339 h9z => h9z.elim (fun y340 h9z => h9z.elim (fun g341 h9z => h9z.elim (fun g342 h9z => h9z.elim (fun t343 h9z => h9z.elim (fun t344 h9z => h9z.elim (fun t345 h9z => h9z.elim (fun t346 h9z => h9z.elim (fun t347 h9z => h9z.elim (fun t348 h9z => h9z.elim (fun t349 h9z => h9z.elim (fun t350 h9z => h9z.elim (fun t351 h9z => h9z.elim (fun t352 h9z => h9z.elim (fun t353 h9z => h9z.elim (fun t354 h9z => h9z.elim (fun t355 h9z => h9z.elim (fun t356 h9z => h9z.elim (fun t357 h9z => h9z.elim (fun t358 h9z => h9z.elim (fun t359 h9z => h9z.elim (fun t360 h9z => h9z.elim (fun t361 h9z => h9z.elim (fun t362 h9z => h9z.elim (fun t363 h9z => ?_))))))))))))))))))))))))))))))))))
    subst h9z
    have hP : va_P D vwCl [(h_s, .inl (cI, 335, .inl f_s)), (h0, .inr (10, vL 67 F330)), (h_tape, .inl (cB, 940, .inl f_tape)), (h_h, .inl (cI, 104, .inl g341)), (h_names, .inl (cJ, 36, .inr (.inl g342))), (h_reserved, .inl (cJ, 23, .inr (.inl f_reserved)))] H := hP
    have hD : va_D A [(h_s, .inl (cI, 335, .inl f_s)), (h0, .inr (10, vL 67 F330)), (h_tape, .inl (cB, 940, .inl f_tape)), (h_h, .inl (cI, 104, .inl g341)), (h_names, .inl (cJ, 36, .inr (.inl g342))), (h_reserved, .inl (cJ, 23, .inr (.inl f_reserved)))] := hD
    refine W.widen (k := 0) (n := 0) (Nat.le_of_ble_eq_true rfl) (Nat.le_of_ble_eq_true rfl) ?_
    refine lv_if_eq (tgt := 58) hx hb dX10_course_46 (by decide) (fun c365 => ?_) (fun c365 => ?_)
    · have dc365 : r329.toInt = 0 := eq_i (a := r329.toInt) (b := 0) rfl rfl c365
      have k366 : 0 ≤ r329.toInt ∧ r329.toInt ≤ 0 := ⟨t361.1, Int.le_trans (Int.le_of_eq dc365) (Int.le_refl _)⟩
      refine lv_iconst (v := (-1)) hx hb dX10_course_58 (by decide) ?_
      refine lv_aload_n hx hb dX10_course_59 rfl (lv_at hl 0 rfl) ?_
      refine get_f (D := D) (ci := 10) (v := .int y337) (C := RX10) (T := TX10) (N := 67) hx hb hw inAX10 hown hK hP 1 rfl rfl 16 (by decide) (hw _ q_1277) (fun _ h9 => h9) t352 dX10_course_60 ?_
      refine lv_isub hx hb dX10_course_63 ?_
      refine lv_topi (fun v367 ev367 => ?_)
      have bv367 : v367.toInt = (-1) - y337.toInt := by rw [ev367]; exact sub_k rfl rfl ⟨Int.le_refl _, Int.le_refl _⟩ (ir_any _) (by decide)
      have k368 : (-2147483648) ≤ v367.toInt ∧ v367.toInt ≤ 2147483647 := sub_r bv367 ⟨Int.le_refl _, Int.le_refl _⟩ (ir_any _) (by decide)
      exact ret_i (v := v367) hx hb hr hlocks hS (hP.sub (ws' := [(h0, .inr (10, vL 67 F330)), (h_tape, .inl (cB, 940, .inl f_tape)), (h_s, .inl (cI, 335, .inl f_s)), (h_h, .inl (cI, 104, .inl g341)), (h_names, .inl (cJ, 36, .inr (.inl g342))), (h_reserved, .inl (cJ, 23, .inr (.inl f_reserved)))]) [1, 2, 0, 3, 4, 5] rfl) (hD.sub (ws' := [(h0, .inr (10, vL 67 F330)), (h_tape, .inl (cB, 940, .inl f_tape)), (h_s, .inl (cI, 335, .inl f_s)), (h_h, .inl (cI, 104, .inl g341)), (h_names, .inl (cJ, 36, .inr (.inl g342))), (h_reserved, .inl (cJ, 23, .inr (.inl f_reserved)))]) [1, 2, 0, 3, 4, 5] (by decide) rfl) dX10_course_64 rfl (Nat.le_of_ble_eq_true rfl) (Nat.le_of_ble_eq_true rfl) ⟨F330, y331, y332, y333, y334, y335, y336, y337, x_ids, y338, y339, u91, y340, x_undoMany, f_s, g341, g342, (SAME.tr (SAME.tr (SAME.tr (SAME.up eF13 (SAME.up eF12 (SAME.up eF11 (SAME.tr (SAME.up eF1 SAME.rf (by decide)) t5 (by decide)) (by decide)) (by decide)) (by decide)) t64 (by decide)) i289 (by decide)) t343 (by decide)), (SAME.at t343 (by decide) (SAME.at i289 (by decide) (SAME.at t64 (by decide) (get_ne eF13 (by decide) (get_ne eF12 (by decide) (get_ne eF11 (by decide) (SAME.at t5 (by decide) (get_eq eF1)))))))), (SAME.at t343 (by decide) (SAME.at i289 (by decide) (SAME.at t64 (by decide) (get_ne eF13 (by decide) (get_ne eF12 (by decide) (get_ne eF11 (by decide) t6)))))), (SAME.at t343 (by decide) n310), t344, t345, (SAME.at t343 (by decide) n312), t346, t347, t348, t349, t350, t351, t352, (SAME.at t343 (by decide) (SAME.at i289 (by decide) (SAME.at t64 (by decide) (get_ne eF13 (by decide) (get_ne eF12 (by decide) (get_ne eF11 (by decide) (SAME.at t5 (by decide) (get_ne eF1 (by decide) e_ids)))))))), t353, t354, (SAME.at t343 (by decide) i299), t355, (SAME.at t343 (by decide) (SAME.at i289 (by decide) (SAME.at t64 (by decide) (get_ne eF13 (by decide) (get_ne eF12 (by decide) (get_ne eF11 (by decide) (SAME.at t5 (by decide) (get_ne eF1 (by decide) e_undoMany)))))))), i_x_undoMany, s_s_153, s_s_0, s_s_5, s_s_6, s_s_7, s_s_44, s_s_K0, s_s_105, s_s_114, s_s_130, s_s_139, t356, t357, t358, t359, t360, (by omega), rfl⟩
    · have dc365 : r329.toInt ≠ 0 := ne_i (a := r329.toInt) (b := 0) rfl rfl c365
      have k369 : 1 ≤ r329.toInt ∧ r329.toInt ≤ 1 := ⟨ne_lo dc365 t361.1 ⟨Int.le_refl _, Int.le_refl _⟩ (by decide), t361.2⟩
      refine lv_aload_n hx hb dX10_course_49 rfl (lv_at hl 0 rfl) ?_
      refine lv_bipush (v := 59) hx hb dX10_course_50 (by decide) ?_
      have n370 : F330 1 = .ref h_tape := (SAME.at t343 (by decide) n308)
      have n371 : F330 3 = .int x_length := (SAME.at t343 (by decide) n310)
      have n372 : F330 5 = .int 900 := (SAME.at t343 (by decide) n312)
      refine call_Vi (wr := [(h_s, .inl (cI, 335, .inl f_s)), (h_h, .inl (cI, 104, .inl g341)), (h_names, .inl (cJ, 36, .inr (.inl g342))), (h_reserved, .inl (cJ, 23, .inr (.inl f_reserved)))]) (As := [.int 59]) (rest := []) hx hb hml hown hw (m_X10_sign l D cI cJ cB cP cM cZ h0 h_tape F330 x_length y331 900 y332 y333 y334 y335 y336 y337 y338 f_tape 59 _ n370 n371 i_x_length t344 t345 n372 (show 200 ≤ (900 : Int32).toInt ∧ (900 : Int32).toInt ≤ 940 by decide) t346 t347 t348 t349 t350 t351 t352 t353 (by omega)) wV_X10_257_X10_sign dX10_course_52 hK hP hD hS hA [1, 2] [0, 3, 4, 5] rfl rfl (by decide) (by decide) (by decide) 0 10 rfl rfl GG.fb hG.at hl.1 rfl (Nat.le_of_ble_eq_true rfl) ⟨(Nat.le_of_ble_eq_true rfl), (Nat.le_of_ble_eq_true rfl)⟩ ⟨(Nat.le_of_ble_eq_true rfl), (Nat.le_of_ble_eq_true rfl)⟩ (fun r373 u H locs hp hP hD hS => ?_)
      have zl59 : (59 : Int32).toInt = 59 := by decide
      obtain ⟨F374, y375, y376, y377, y378, y379, y380, y381, y382, t383, t384, t385, t386, t387, t388, t389, t390, t391, t392, t393, t394, t395, t396, rfl⟩ := hp
      have hP : va_P D vwCl [(h_s, .inl (cI, 335, .inl f_s)), (h_h, .inl (cI, 104, .inl g341)), (h_names, .inl (cJ, 36, .inr (.inl g342))), (h_reserved, .inl (cJ, 23, .inr (.inl f_reserved))), (h0, .inr (10, vL 67 F374)), (h_tape, .inl (cB, 940, .inl f_tape))] H := hP
      have hD : va_D A [(h_s, .inl (cI, 335, .inl f_s)), (h_h, .inl (cI, 104, .inl g341)), (h_names, .inl (cJ, 36, .inr (.inl g342))), (h_reserved, .inl (cJ, 23, .inr (.inl f_reserved))), (h0, .inr (10, vL 67 F374)), (h_tape, .inl (cB, 940, .inl f_tape))] := hD
      refine W.widen (k := 0) (n := 0) (Nat.le_of_ble_eq_true rfl) (Nat.le_of_ble_eq_true rfl) ?_
      refine lv_if_ne (tgt := 65) hx hb dX10_course_55 (by decide) (fun c398 => ?_) (fun c398 => ?_)
      · have dc398 : r373.toInt ≠ 0 := ne_i (a := r373.toInt) (b := 0) rfl rfl c398
        have k399 : 1 ≤ r373.toInt ∧ r373.toInt ≤ 1 := ⟨ne_lo dc398 t394.1 ⟨Int.le_refl _, Int.le_refl _⟩ (by decide), t394.2⟩
        refine lv_aload_n hx hb dX10_course_65 rfl (lv_at hl 0 rfl) ?_
        refine lv_dup hx hb dX10_course_66 rfl ?_
        have n400 : F330 20 = .int u91 := (SAME.at t343 (by decide) i299)
        have n401 : F374 20 = .int u91 := (SAME.at t383 (by decide) n400)
        refine get_f (D := D) (ci := 10) (v := .int u91) (C := RX10) (T := TX10) (N := 67) hx hb hw inAX10 hown hK hP 4 rfl rfl 20 (by decide) (hw _ q_1281) (fun _ h9 => h9) n401 dX10_course_67 ?_
        refine lv_iconst (v := 1) hx hb dX10_course_70 (by decide) ?_
        refine lv_iadd hx hb dX10_course_71 ?_
        refine lv_topi (fun v402 ev402 => ?_)
        refine put_f (D := D) (ci := 10) (v := .int v402) (ty := .int) (C := RX10) (T := TX10) (N := 67) hx hb hw inAX10 tyX10 tyX10_ok nmX10 hown hK hP hD hS 4 rfl rfl 20 (by decide) (hw _ q_1281) (fun _ h9 => h9) rfl (by decide +kernel) rfl rfl dX10_course_72 (fun H locs F403 eF403 hP hD hS => ?_)
        have hP : va_P D vwCl [(h_s, .inl (cI, 335, .inl f_s)), (h_h, .inl (cI, 104, .inl g341)), (h_names, .inl (cJ, 36, .inr (.inl g342))), (h_reserved, .inl (cJ, 23, .inr (.inl f_reserved))), (h0, .inr (10, vL 67 F403)), (h_tape, .inl (cB, 940, .inl f_tape))] H := hP
        have hD : va_D A [(h_s, .inl (cI, 335, .inl f_s)), (h_h, .inl (cI, 104, .inl g341)), (h_names, .inl (cJ, 36, .inr (.inl g342))), (h_reserved, .inl (cJ, 23, .inr (.inl f_reserved))), (h0, .inr (10, vL 67 F403)), (h_tape, .inl (cB, 940, .inl f_tape))] := hD
        refine lv_goto (tgt := 35) hx hb dX10_course_75 (by decide) ?_
        have n404 : F403 4 = .int y375 := (get_ne eF403 (by decide) t384)
        have n405 : F403 11 = .int y376 := (get_ne eF403 (by decide) t386)
        have n406 : F403 12 = .int y377 := (get_ne eF403 (by decide) t388)
        have n407 : F403 13 = .int y378 := (get_ne eF403 (by decide) t389)
        have n408 : F403 14 = .int y379 := (get_ne eF403 (by decide) t390)
        have n409 : F403 15 = .int y380 := (get_ne eF403 (by decide) t391)
        have n410 : F403 16 = .int y381 := (get_ne eF403 (by decide) t392)
        have n411 : F403 18 = .long y382 := (get_ne eF403 (by decide) t393)
        have n412 : F374 19 = .int y339 := (SAME.at t383 (by decide) t354)
        have n413 : F403 19 = .int y339 := (get_ne eF403 (by decide) n412)
        have n414 : F374 21 = .int y340 := (SAME.at t383 (by decide) t355)
        have n415 : F403 21 = .int y340 := (get_ne eF403 (by decide) n414)
        exact ih (g342, g341, F403, y375, y376, y377, y378, y379, y380, y381, y382, y339, v402, y340) ⟨t356, t360, t357, t358, t359, (SAME.up eF403 (SAME.tr (SAME.tr (SAME.tr SAME.rf i289 (by decide)) t343 (by decide)) t383 (by decide)) (by decide)), n404, n405, n406, n407, n408, n409, n410, n411, n413, (get_eq eF403), n415, t385, t387, (by show (y376.toInt = 2 → 0 ≤ y379.toInt ∧ y379.toInt ≤ 999); omega)⟩ (by show (x_length.toInt - y375.toInt).toNat < (x_length.toInt - u82.toInt).toNat; omega) _ _ _ (hP.sub [0, 2, 3, 1, 4, 5] rfl) (hD.sub [0, 2, 3, 1, 4, 5] (by decide) rfl) hS (lv_sub hl [0] rfl)
      · have dc398 : r373.toInt = 0 := eq_i (a := r373.toInt) (b := 0) rfl rfl c398
        have k416 : 0 ≤ r373.toInt ∧ r373.toInt ≤ 0 := ⟨t394.1, Int.le_trans (Int.le_of_eq dc398) (Int.le_refl _)⟩
        refine lv_iconst (v := (-1)) hx hb dX10_course_58 (by decide) ?_
        refine lv_aload_n hx hb dX10_course_59 rfl (lv_at hl 0 rfl) ?_
        refine get_f (D := D) (ci := 10) (v := .int y381) (C := RX10) (T := TX10) (N := 67) hx hb hw inAX10 hown hK hP 4 rfl rfl 16 (by decide) (hw _ q_1277) (fun _ h9 => h9) t392 dX10_course_60 ?_
        refine lv_isub hx hb dX10_course_63 ?_
        refine lv_topi (fun v417 ev417 => ?_)
        have bv417 : v417.toInt = (-1) - y381.toInt := by rw [ev417]; exact sub_k rfl rfl ⟨Int.le_refl _, Int.le_refl _⟩ (ir_any _) (by decide)
        have k418 : (-2147483648) ≤ v417.toInt ∧ v417.toInt ≤ 2147483647 := sub_r bv417 ⟨Int.le_refl _, Int.le_refl _⟩ (ir_any _) (by decide)
        exact ret_i (v := v417) hx hb hr hlocks hS (hP.sub (ws' := [(h0, .inr (10, vL 67 F374)), (h_tape, .inl (cB, 940, .inl f_tape)), (h_s, .inl (cI, 335, .inl f_s)), (h_h, .inl (cI, 104, .inl g341)), (h_names, .inl (cJ, 36, .inr (.inl g342))), (h_reserved, .inl (cJ, 23, .inr (.inl f_reserved)))]) [4, 5, 0, 1, 2, 3] rfl) (hD.sub (ws' := [(h0, .inr (10, vL 67 F374)), (h_tape, .inl (cB, 940, .inl f_tape)), (h_s, .inl (cI, 335, .inl f_s)), (h_h, .inl (cI, 104, .inl g341)), (h_names, .inl (cJ, 36, .inr (.inl g342))), (h_reserved, .inl (cJ, 23, .inr (.inl f_reserved)))]) [4, 5, 0, 1, 2, 3] (by decide) rfl) dX10_course_64 rfl (Nat.le_of_ble_eq_true rfl) (Nat.le_of_ble_eq_true rfl) ⟨F374, y375, y376, y377, y378, y379, y380, y381, x_ids, y382, y339, u91, y340, x_undoMany, f_s, g341, g342, (SAME.tr (SAME.tr (SAME.tr (SAME.tr (SAME.up eF13 (SAME.up eF12 (SAME.up eF11 (SAME.tr (SAME.up eF1 SAME.rf (by decide)) t5 (by decide)) (by decide)) (by decide)) (by decide)) t64 (by decide)) i289 (by decide)) t343 (by decide)) t383 (by decide)), (SAME.at t383 (by decide) (SAME.at t343 (by decide) (SAME.at i289 (by decide) (SAME.at t64 (by decide) (get_ne eF13 (by decide) (get_ne eF12 (by decide) (get_ne eF11 (by decide) (SAME.at t5 (by decide) (get_eq eF1))))))))), (SAME.at t383 (by decide) (SAME.at t343 (by decide) (SAME.at i289 (by decide) (SAME.at t64 (by decide) (get_ne eF13 (by decide) (get_ne eF12 (by decide) (get_ne eF11 (by decide) t6))))))), (SAME.at t383 (by decide) n371), t384, t385, (SAME.at t383 (by decide) n372), t386, t387, t388, t389, t390, t391, t392, (SAME.at t383 (by decide) (SAME.at t343 (by decide) (SAME.at i289 (by decide) (SAME.at t64 (by decide) (get_ne eF13 (by decide) (get_ne eF12 (by decide) (get_ne eF11 (by decide) (SAME.at t5 (by decide) (get_ne eF1 (by decide) e_ids))))))))), t393, (SAME.at t383 (by decide) t354), (SAME.at t383 (by decide) (SAME.at t343 (by decide) i299)), (SAME.at t383 (by decide) t355), (SAME.at t383 (by decide) (SAME.at t343 (by decide) (SAME.at i289 (by decide) (SAME.at t64 (by decide) (get_ne eF13 (by decide) (get_ne eF12 (by decide) (get_ne eF11 (by decide) (SAME.at t5 (by decide) (get_ne eF1 (by decide) e_undoMany))))))))), i_x_undoMany, s_s_153, s_s_0, s_s_5, s_s_6, s_s_7, s_s_44, s_s_K0, s_s_105, s_s_114, s_s_130, s_s_139, t356, t357, t358, t359, t360, (by omega), rfl⟩
set_option maxHeartbeats 4000000 in
set_option maxRecDepth 100000 in
theorem m_X10_fault (l : Launch) (D : va_G) (cI cJ cB cP cM cZ : ClassId) (h0 : Nat) (Fh : Nat → Value) (x_fault : Int32) (sz : Nat) (e_fault : Fh 15 = .int x_fault) : CI l yX10_fault cX10_fault 1 (some .int) { frames := 0, cells := 0, slots := 0, locals := 0 } (GG D cI cJ cB cP cM cZ) D [(h0, .inr (10, vL 67 Fh))] sz [.ref h0] (fun (r : Int32) (u : va_W) => ∃ (Gh : Nat → Value), SAME [0] Fh Gh ∧ Gh 0 = .int 0 ∧ r = x_fault ∧ u = [(h0, .inr (10, vL 67 Gh))]) := by
  refine CI_mk (by decide) (Nat.le_of_ble_eq_true rfl) ?_
  intro p e s m below meth c A ls E hAe hG hsz hP hD hA hS hl
  obtain ⟨hx, hb, hr, hw, hown, hlocks, hml, hnm⟩ := E
  have hK := hG.1
  have hl : lv_has ls 1 [(0, .ref h0)] := hl
  refine lv_aload_n hx hb dX10_fault_0 rfl (lv_at hl 0 rfl) ?_
  refine lv_iconst (v := 0) hx hb dX10_fault_1 (by decide) ?_
  refine put_f (D := D) (ci := 10) (v := .int 0) (ty := .int) (C := RX10) (T := TX10) (N := 67) hx hb hw inAX10 tyX10 tyX10_ok nmX10 hown hK hP hD hS 0 rfl rfl 0 (by decide) (hw _ q_1261) (fun _ h9 => h9) rfl (by decide +kernel) rfl rfl dX10_fault_2 (fun H locs F1 eF1 hP hD hS => ?_)
  have hP : va_P D vwCl [(h0, .inr (10, vL 67 F1))] H := hP
  have hD : va_D A [(h0, .inr (10, vL 67 F1))] := hD
  refine lv_aload_n hx hb dX10_fault_5 rfl (lv_at hl 0 rfl) ?_
  have n2 : F1 15 = .int x_fault := (get_ne eF1 (by decide) e_fault)
  refine get_f (D := D) (ci := 10) (v := .int x_fault) (C := RX10) (T := TX10) (N := 67) hx hb hw inAX10 hown hK hP 0 rfl rfl 15 (by decide) (hw _ q_1276) (fun _ h9 => h9) n2 dX10_fault_6 ?_
  exact ret_i (v := x_fault) hx hb hr hlocks hS hP hD dX10_fault_9 rfl (Nat.le_of_ble_eq_true rfl) (Nat.le_of_ble_eq_true rfl) ⟨F1, (SAME.up eF1 SAME.rf (by decide)), (get_eq eF1), rfl, rfl⟩
set_option maxHeartbeats 4000000 in
set_option maxRecDepth 100000 in
theorem m_X10_looksAtMan (l : Launch) (D : va_G) (cI cJ cB cP cM cZ : ClassId) (h0 : Nat) (h_s : Nat) (h_names : Nat) (h_reserved : Nat) (Fh : Nat → Value) (x_token : Int32) (x_at : Int32) (x_number : Int32) (x_fault : Int32) (x_faultAt : Int32) (x_word : Int64) (x_got : Int32) (f_s : Nat → Int32) (f_names : Nat → Int64) (f_reserved : Nat → Int64) (sz : Nat) (e_s : Fh 6 = .ref h_s) (e_names : Fh 9 = .ref h_names) (e_reserved : Fh 10 = .ref h_reserved) (e_token : Fh 11 = .int x_token) (i_x_token : IR 0 4 x_token) (e_at : Fh 12 = .int x_at) (e_number : Fh 14 = .int x_number) (e_fault : Fh 15 = .int x_fault) (e_faultAt : Fh 16 = .int x_faultAt) (e_word : Fh 18 = .long x_word) (e_got : Fh 19 = .int x_got) (s_s_K0 : KW 0 f_s) (s_s_0 : SG 0 0 0 40 f_s) (s_s_105 : SG 105 108 0 11 f_s) (s_s_114 : SG 114 114 0 5 f_s) (s_s_130 : SG 130 133 0 11 f_s) (s_s_139 : SG 139 139 0 5 f_s) (s_s_153 : SG 153 153 0 44 f_s) (s_s_44 : SG 44 55 0 9 f_s) (s_s_5 : SG 5 5 0 12 f_s) (s_s_6 : SG 6 6 0 12 f_s) (s_s_7 : SG 7 7 0 6 f_s) (o_0 : (x_token.toInt = 2 → 0 ≤ x_number.toInt ∧ x_number.toInt ≤ 999)) : CI l yX10_looksAtMan cX10_looksAtMan 1 (some .boolean) { frames := 1, cells := 0, slots := 0, locals := 23 } (GG D cI cJ cB cP cM cZ) D [(h0, .inr (10, vL 67 Fh)), (h_s, .inl (cI, 335, .inl f_s)), (h_names, .inl (cJ, 36, .inr (.inl f_names))), (h_reserved, .inl (cJ, 23, .inr (.inl f_reserved)))] sz [.ref h0] (fun (r : Int32) (u : va_W) => ∃ (Gh : Nat → Value) (y_fault : Int32) (y_faultAt : Int32) (y_got : Int32), SAME [15, 16, 19] Fh Gh ∧ Gh 15 = .int y_fault ∧ Gh 16 = .int y_faultAt ∧ Gh 19 = .int y_got ∧ IR 0 1 r ∧ u = [(h0, .inr (10, vL 67 Gh)), (h_s, .inl (cI, 335, .inl f_s)), (h_names, .inl (cJ, 36, .inr (.inl f_names))), (h_reserved, .inl (cJ, 23, .inr (.inl f_reserved)))]) := by
  refine CI_mk (by decide) (Nat.le_of_ble_eq_true rfl) ?_
  intro p e s m below meth c A ls E hAe hG hsz hP hD hA hS hl
  obtain ⟨hx, hb, hr, hw, hown, hlocks, hml, hnm⟩ := E
  have hK := hG.1
  have i_x_token : 0 ≤ x_token.toInt ∧ x_token.toInt ≤ 4 := i_x_token
  have hl : lv_has ls 1 [(0, .ref h0)] := hl
  refine lv_aload_n hx hb dX10_looksAtMan_0 rfl (lv_at hl 0 rfl) ?_
  refine call_Vi (wr := [(h_s, .inl (cI, 335, .inl f_s)), (h_names, .inl (cJ, 36, .inr (.inl f_names)))]) (As := []) (rest := []) hx hb hml hown hw (m_X10_isName l D cI cJ cB cP cM cZ h0 h_reserved Fh x_token x_number x_word f_reserved _ e_reserved e_token i_x_token e_number e_word (by omega)) wV_X10_218_X10_isName dX10_looksAtMan_1 hK hP hD hS hA [0, 3] [1, 2] rfl rfl (by decide) (by decide) (by decide) 0 10 rfl rfl GG.fb hG.at hl.1 rfl (Nat.le_of_ble_eq_true rfl) ⟨(Nat.le_of_ble_eq_true rfl), (Nat.le_of_ble_eq_true rfl)⟩ ⟨(Nat.le_of_ble_eq_true rfl), (Nat.le_of_ble_eq_true rfl)⟩ (fun r1 u H locs hp hP hD hS => ?_)
  obtain ⟨t2, rfl⟩ := hp
  have hP : va_P D vwCl [(h_s, .inl (cI, 335, .inl f_s)), (h_names, .inl (cJ, 36, .inr (.inl f_names))), (h0, .inr (10, vL 67 Fh)), (h_reserved, .inl (cJ, 23, .inr (.inl f_reserved)))] H := hP
  have hD : va_D A [(h_s, .inl (cI, 335, .inl f_s)), (h_names, .inl (cJ, 36, .inr (.inl f_names))), (h0, .inr (10, vL 67 Fh)), (h_reserved, .inl (cJ, 23, .inr (.inl f_reserved)))] := hD
  refine W.widen (k := 0) (n := 0) (Nat.le_of_ble_eq_true rfl) (Nat.le_of_ble_eq_true rfl) ?_
  refine lv_if_ne (tgt := 13) hx hb dX10_looksAtMan_4 (by decide) (fun c4 => ?_) (fun c4 => ?_)
  · have dc4 : r1.toInt ≠ 0 := ne_i (a := r1.toInt) (b := 0) rfl rfl c4
    have k5 : 1 ≤ r1.toInt ∧ r1.toInt ≤ 1 := ⟨ne_lo dc4 t2.1 ⟨Int.le_refl _, Int.le_refl _⟩ (by decide), t2.2⟩
    refine lv_aload_n hx hb dX10_looksAtMan_13 rfl (lv_at hl 0 rfl) ?_
    refine lv_aload_n hx hb dX10_looksAtMan_14 rfl (lv_at hl 0 rfl) ?_
    refine lv_iconst (v := 0) hx hb dX10_looksAtMan_15 (by decide) ?_
    refine lv_aload_n hx hb dX10_looksAtMan_16 rfl (lv_at hl 0 rfl) ?_
    refine get_f (D := D) (ci := 10) (v := .ref h_s) (C := RX10) (T := TX10) (N := 67) hx hb hw inAX10 hown hK hP 2 rfl rfl 6 (by decide) (hw _ q_1267) (fun _ h9 => h9) e_s dX10_looksAtMan_17 ?_
    refine lv_iconst (v := 5) hx hb dX10_looksAtMan_20 (by decide) ?_
    refine iald_n hx hb hK hP 0 0 rfl rfl 5 rfl (Nat.le_of_ble_eq_true rfl) (Nat.le_of_ble_eq_true rfl) rfl dX10_looksAtMan_21 ?_
    refine lv_topi (fun v6 ev6 => ?_)
    have k7 : 0 ≤ v6.toInt ∧ v6.toInt ≤ 12 := by rw [ev6]; exact s_s_5.atN 5 (by decide) (by decide)
    refine call_Vi (wr := [(h_s, .inl (cI, 335, .inl f_s)), (h_reserved, .inl (cJ, 23, .inr (.inl f_reserved)))]) (As := [.int 0, .int v6]) (rest := [.ref h0]) hx hb hml hown hw (m_X10_find l D cI cJ cB cP cM cZ h0 h_names Fh x_word f_names 0 v6 _ e_names e_word (show 0 ≤ (0 : Int32).toInt ∧ (0 : Int32).toInt ≤ 30 by decide) k7 (by have z0 : (0 : Int32).toInt = 0 := rfl; omega)) wV_X10_222_X10_find dX10_looksAtMan_22 hK hP hD hS hA [2, 1] [0, 3] rfl rfl (by decide) (by decide) (by decide) 0 10 rfl rfl GG.fb hG.at hl.1 rfl (Nat.le_of_ble_eq_true rfl) ⟨(Nat.le_of_ble_eq_true rfl), (Nat.le_of_ble_eq_true rfl)⟩ ⟨(Nat.le_of_ble_eq_true rfl), (Nat.le_of_ble_eq_true rfl)⟩ (fun r8 u H locs hp hP hD hS => ?_)
    have zl0 : (0 : Int32).toInt = 0 := by decide
    rcases hp with ⟨t9, rfl, rfl⟩ | ⟨t10, t11, rfl⟩
    · have hP : va_P D vwCl [(h_s, .inl (cI, 335, .inl f_s)), (h_reserved, .inl (cJ, 23, .inr (.inl f_reserved))), (h0, .inr (10, vL 67 Fh)), (h_names, .inl (cJ, 36, .inr (.inl f_names)))] H := hP
      have hD : va_D A [(h_s, .inl (cI, 335, .inl f_s)), (h_reserved, .inl (cJ, 23, .inr (.inl f_reserved))), (h0, .inr (10, vL 67 Fh)), (h_names, .inl (cJ, 36, .inr (.inl f_names)))] := hD
      refine W.widen (k := 0) (n := 0) (Nat.le_of_ble_eq_true rfl) (Nat.le_of_ble_eq_true rfl) ?_
      refine put_f (D := D) (ci := 10) (v := .int (-1)) (ty := .int) (C := RX10) (T := TX10) (N := 67) hx hb hw inAX10 tyX10 tyX10_ok nmX10 hown hK hP hD hS 2 rfl rfl 19 (by decide) (hw _ q_1280) (fun _ h9 => h9) rfl (by decide +kernel) rfl rfl dX10_looksAtMan_25 (fun H locs F13 eF13 hP hD hS => ?_)
      have hP : va_P D vwCl [(h_s, .inl (cI, 335, .inl f_s)), (h_reserved, .inl (cJ, 23, .inr (.inl f_reserved))), (h0, .inr (10, vL 67 F13)), (h_names, .inl (cJ, 36, .inr (.inl f_names)))] H := hP
      have hD : va_D A [(h_s, .inl (cI, 335, .inl f_s)), (h_reserved, .inl (cJ, 23, .inr (.inl f_reserved))), (h0, .inr (10, vL 67 F13)), (h_names, .inl (cJ, 36, .inr (.inl f_names)))] := hD
      refine lv_aload_n hx hb dX10_looksAtMan_28 rfl (lv_at hl 0 rfl) ?_
      refine get_f (D := D) (ci := 10) (v := .int (-1)) (C := RX10) (T := TX10) (N := 67) hx hb hw inAX10 hown hK hP 2 rfl rfl 19 (by decide) (hw _ q_1280) (fun _ h9 => h9) (get_eq eF13) dX10_looksAtMan_29 ?_
      refine lv_if_ge (tgt := 43) hx hb dX10_looksAtMan_32 (by decide) (fun g => absurd g (by decide)) (fun _ => ?_)
      refine lv_aload_n hx hb dX10_looksAtMan_35 rfl (lv_at hl 0 rfl) ?_
      refine lv_iconst (v := 3) hx hb dX10_looksAtMan_36 (by decide) ?_
      have n14 : F13 12 = .int x_at := (get_ne eF13 (by decide) e_at)
      refine call_Vi (wr := [(h_s, .inl (cI, 335, .inl f_s)), (h_reserved, .inl (cJ, 23, .inr (.inl f_reserved))), (h_names, .inl (cJ, 36, .inr (.inl f_names)))]) (As := [.int 3]) (rest := []) hx hb hml hown hw (m_X10_bad l D cI cJ cB cP cM cZ h0 F13 x_at 3 _ n14) wV_X10_205_X10_bad dX10_looksAtMan_37 hK hP hD hS hA [2] [0, 1, 3] rfl rfl (by decide) (by decide) (by decide) 0 10 rfl rfl GG.fb hG.at hl.1 rfl (Nat.le_of_ble_eq_true rfl) ⟨(Nat.le_of_ble_eq_true rfl), (Nat.le_of_ble_eq_true rfl)⟩ ⟨(Nat.le_of_ble_eq_true rfl), (Nat.le_of_ble_eq_true rfl)⟩ (fun r15 u H locs hp hP hD hS => ?_)
      have zl3 : (3 : Int32).toInt = 3 := by decide
      obtain ⟨F16, t17, t18, t19, rfl, rfl⟩ := hp
      have hP : va_P D vwCl [(h_s, .inl (cI, 335, .inl f_s)), (h_reserved, .inl (cJ, 23, .inr (.inl f_reserved))), (h_names, .inl (cJ, 36, .inr (.inl f_names))), (h0, .inr (10, vL 67 F16))] H := hP
      have hD : va_D A [(h_s, .inl (cI, 335, .inl f_s)), (h_reserved, .inl (cJ, 23, .inr (.inl f_reserved))), (h_names, .inl (cJ, 36, .inr (.inl f_names))), (h0, .inr (10, vL 67 F16))] := hD
      refine W.widen (k := 0) (n := 0) (Nat.le_of_ble_eq_true rfl) (Nat.le_of_ble_eq_true rfl) ?_
      refine lv_if_eq (tgt := 47) hx hb dX10_looksAtMan_40 (by decide) (fun _ => ?_) (fun g => absurd (by decide) g)
      refine lv_iconst (v := 0) hx hb dX10_looksAtMan_47 (by decide) ?_
      exact ret_i (v := 0) hx hb hr hlocks hS (hP.sub (ws' := [(h0, .inr (10, vL 67 F16)), (h_s, .inl (cI, 335, .inl f_s)), (h_names, .inl (cJ, 36, .inr (.inl f_names))), (h_reserved, .inl (cJ, 23, .inr (.inl f_reserved)))]) [3, 0, 2, 1] rfl) (hD.sub (ws' := [(h0, .inr (10, vL 67 F16)), (h_s, .inl (cI, 335, .inl f_s)), (h_names, .inl (cJ, 36, .inr (.inl f_names))), (h_reserved, .inl (cJ, 23, .inr (.inl f_reserved)))]) [3, 0, 2, 1] (by decide) rfl) dX10_looksAtMan_48 rfl (Nat.le_of_ble_eq_true rfl) (Nat.le_of_ble_eq_true rfl) ⟨F16, 3, x_at, (-1), (SAME.tr (SAME.up eF13 SAME.rf (by decide)) t17 (by decide)), t18, t19, (SAME.at t17 (by decide) (get_eq eF13)), (show 0 ≤ (0 : Int32).toInt ∧ (0 : Int32).toInt ≤ 1 by decide), rfl⟩
    · have hP : va_P D vwCl [(h_s, .inl (cI, 335, .inl f_s)), (h_reserved, .inl (cJ, 23, .inr (.inl f_reserved))), (h0, .inr (10, vL 67 Fh)), (h_names, .inl (cJ, 36, .inr (.inl f_names)))] H := hP
      have hD : va_D A [(h_s, .inl (cI, 335, .inl f_s)), (h_reserved, .inl (cJ, 23, .inr (.inl f_reserved))), (h0, .inr (10, vL 67 Fh)), (h_names, .inl (cJ, 36, .inr (.inl f_names)))] := hD
      refine W.widen (k := 0) (n := 0) (Nat.le_of_ble_eq_true rfl) (Nat.le_of_ble_eq_true rfl) ?_
      have k21 : 1 ≤ v6.toInt ∧ v6.toInt ≤ 12 := ⟨lo_lt t11 (Int.le_refl _) (by decide), k7.2⟩
      refine put_f (D := D) (ci := 10) (v := .int r8) (ty := .int) (C := RX10) (T := TX10) (N := 67) hx hb hw inAX10 tyX10 tyX10_ok nmX10 hown hK hP hD hS 2 rfl rfl 19 (by decide) (hw _ q_1280) (fun _ h9 => h9) rfl (by decide +kernel) rfl rfl dX10_looksAtMan_25 (fun H locs F22 eF22 hP hD hS => ?_)
      have hP : va_P D vwCl [(h_s, .inl (cI, 335, .inl f_s)), (h_reserved, .inl (cJ, 23, .inr (.inl f_reserved))), (h0, .inr (10, vL 67 F22)), (h_names, .inl (cJ, 36, .inr (.inl f_names)))] H := hP
      have hD : va_D A [(h_s, .inl (cI, 335, .inl f_s)), (h_reserved, .inl (cJ, 23, .inr (.inl f_reserved))), (h0, .inr (10, vL 67 F22)), (h_names, .inl (cJ, 36, .inr (.inl f_names)))] := hD
      refine lv_aload_n hx hb dX10_looksAtMan_28 rfl (lv_at hl 0 rfl) ?_
      refine get_f (D := D) (ci := 10) (v := .int r8) (C := RX10) (T := TX10) (N := 67) hx hb hw inAX10 hown hK hP 2 rfl rfl 19 (by decide) (hw _ q_1280) (fun _ h9 => h9) (get_eq eF22) dX10_looksAtMan_29 ?_
      refine lv_if_ge (tgt := 43) hx hb dX10_looksAtMan_32 (by decide) (fun c23 => ?_) (fun c23 => False.elim (bad_lt (nle_i (a := 0) (b := r8.toInt) rfl rfl c23) t10.1 (Int.le_refl _) (by decide)))
      have dc23 : 0 ≤ r8.toInt := le_i (a := 0) (b := r8.toInt) rfl rfl c23
      refine lv_iconst (v := 1) hx hb dX10_looksAtMan_43 (by decide) ?_
      refine lv_goto (tgt := 48) hx hb dX10_looksAtMan_44 (by decide) ?_
      exact ret_i (v := 1) hx hb hr hlocks hS (hP.sub (ws' := [(h0, .inr (10, vL 67 F22)), (h_s, .inl (cI, 335, .inl f_s)), (h_names, .inl (cJ, 36, .inr (.inl f_names))), (h_reserved, .inl (cJ, 23, .inr (.inl f_reserved)))]) [2, 0, 3, 1] rfl) (hD.sub (ws' := [(h0, .inr (10, vL 67 F22)), (h_s, .inl (cI, 335, .inl f_s)), (h_names, .inl (cJ, 36, .inr (.inl f_names))), (h_reserved, .inl (cJ, 23, .inr (.inl f_reserved)))]) [2, 0, 3, 1] (by decide) rfl) dX10_looksAtMan_48 rfl (Nat.le_of_ble_eq_true rfl) (Nat.le_of_ble_eq_true rfl) ⟨F22, x_fault, x_faultAt, r8, (SAME.up eF22 SAME.rf (by decide)), (get_ne eF22 (by decide) e_fault), (get_ne eF22 (by decide) e_faultAt), (get_eq eF22), (show 0 ≤ (1 : Int32).toInt ∧ (1 : Int32).toInt ≤ 1 by decide), rfl⟩
  · have dc4 : r1.toInt = 0 := eq_i (a := r1.toInt) (b := 0) rfl rfl c4
    have k24 : 0 ≤ r1.toInt ∧ r1.toInt ≤ 0 := ⟨t2.1, Int.le_trans (Int.le_of_eq dc4) (Int.le_refl _)⟩
    refine lv_aload_n hx hb dX10_looksAtMan_7 rfl (lv_at hl 0 rfl) ?_
    refine lv_iconst (v := 1) hx hb dX10_looksAtMan_8 (by decide) ?_
    refine call_Vi (wr := [(h_s, .inl (cI, 335, .inl f_s)), (h_names, .inl (cJ, 36, .inr (.inl f_names))), (h_reserved, .inl (cJ, 23, .inr (.inl f_reserved)))]) (As := [.int 1]) (rest := []) hx hb hml hown hw (m_X10_bad l D cI cJ cB cP cM cZ h0 Fh x_at 1 _ e_at) wV_X10_205_X10_bad dX10_looksAtMan_9 hK hP hD hS hA [2] [0, 1, 3] rfl rfl (by decide) (by decide) (by decide) 0 10 rfl rfl GG.fb hG.at hl.1 rfl (Nat.le_of_ble_eq_true rfl) ⟨(Nat.le_of_ble_eq_true rfl), (Nat.le_of_ble_eq_true rfl)⟩ ⟨(Nat.le_of_ble_eq_true rfl), (Nat.le_of_ble_eq_true rfl)⟩ (fun r25 u H locs hp hP hD hS => ?_)
    have zl1 : (1 : Int32).toInt = 1 := by decide
    obtain ⟨F26, t27, t28, t29, rfl, rfl⟩ := hp
    have hP : va_P D vwCl [(h_s, .inl (cI, 335, .inl f_s)), (h_names, .inl (cJ, 36, .inr (.inl f_names))), (h_reserved, .inl (cJ, 23, .inr (.inl f_reserved))), (h0, .inr (10, vL 67 F26))] H := hP
    have hD : va_D A [(h_s, .inl (cI, 335, .inl f_s)), (h_names, .inl (cJ, 36, .inr (.inl f_names))), (h_reserved, .inl (cJ, 23, .inr (.inl f_reserved))), (h0, .inr (10, vL 67 F26))] := hD
    refine W.widen (k := 0) (n := 0) (Nat.le_of_ble_eq_true rfl) (Nat.le_of_ble_eq_true rfl) ?_
    exact ret_i (v := 0) hx hb hr hlocks hS (hP.sub (ws' := [(h0, .inr (10, vL 67 F26)), (h_s, .inl (cI, 335, .inl f_s)), (h_names, .inl (cJ, 36, .inr (.inl f_names))), (h_reserved, .inl (cJ, 23, .inr (.inl f_reserved)))]) [3, 0, 1, 2] rfl) (hD.sub (ws' := [(h0, .inr (10, vL 67 F26)), (h_s, .inl (cI, 335, .inl f_s)), (h_names, .inl (cJ, 36, .inr (.inl f_names))), (h_reserved, .inl (cJ, 23, .inr (.inl f_reserved)))]) [3, 0, 1, 2] (by decide) rfl) dX10_looksAtMan_12 rfl (Nat.le_of_ble_eq_true rfl) (Nat.le_of_ble_eq_true rfl) ⟨F26, 1, x_at, x_got, (SAME.tr SAME.rf t27 (by decide)), t28, t29, (SAME.at t27 (by decide) e_got), (show 0 ≤ (0 : Int32).toInt ∧ (0 : Int32).toInt ≤ 1 by decide), rfl⟩
set_option maxHeartbeats 4000000 in
set_option maxRecDepth 100000 in
theorem m_X10_placeIn (l : Launch) (D : va_G) (cI cJ cB cP cM cZ : ClassId) (h0 : Nat) (h_planRead : Nat) (Fh : Nat → Value) (f_planRead : Nat → Int32) (p0 : Int32) (p1 : Int32) (sz : Nat) (e_planRead : Fh 22 = .ref h_planRead) (s_planRead_1 : SG 1 4 0 11 f_planRead) (s_planRead_10 : SG 10 10 0 5 f_planRead) (i_p1 : IR 0 4 p1) : CI l yX10_placeIn cX10_placeIn 4 (some .int) { frames := 0, cells := 0, slots := 0, locals := 0 } (GG D cI cJ cB cP cM cZ) D [(h0, .inr (10, vL 67 Fh)), (h_planRead, .inl (cI, 24, .inl f_planRead))] sz [.ref h0, .int p0, .int p1] (fun (r : Int32) (u : va_W) => IR (-1) 3 r ∧ u = [(h0, .inr (10, vL 67 Fh)), (h_planRead, .inl (cI, 24, .inl f_planRead))]) := by
  refine CI_mk (by decide) (Nat.le_of_ble_eq_true rfl) ?_
  intro p e s m below meth c A ls E hAe hG hsz hP hD hA hS hl
  obtain ⟨hx, hb, hr, hw, hown, hlocks, hml, hnm⟩ := E
  have hK := hG.1
  have i_p1 : 0 ≤ p1.toInt ∧ p1.toInt ≤ 4 := i_p1
  have hl : lv_has ls 4 [(0, .ref h0), (1, .int p0), (2, .int p1)] := hl
  refine lv_iconst (v := 0) hx hb dX10_placeIn_0 (by decide) ?_
  refine lv_istore_n (lv' := [(3, .int 0), (0, .ref h0), (1, .int p0), (2, .int p1)]) hx hb dX10_placeIn_1 rfl hl (by decide) rfl (fun ls hl => ?_)
  refine mloop (α := (Int32)) (nL := 4) (D := D) (A := A) (H0 := s.heap) (fun a => (4 - a.toInt).toNat) (fun a => IR 0 4 a) (fun a => [(h0, .inr (10, vL 67 Fh)), (h_planRead, .inl (cI, 24, .inl f_planRead))]) (fun a => [(3, .int a), (0, .ref h0), (1, .int p0), (2, .int p1)]) (fun H locs ls => W p l e ({ frames := 0, cells := 0, slots := 0, locals := 0 } : Room) s m [.ref h0, .int p0, .int p1].toArray below meth c H locs 0 0 (MQ below (va_Qi (fun (r : Int32) (u : va_W) => IR (-1) 3 r ∧ u = [(h0, .inr (10, vL 67 Fh)), (h_planRead, .inl (cI, 24, .inl f_planRead))]) (PO D A) A) [.ref h0, .int p0, .int p1].toArray s 0 0 A) (F0 m 2 ls [])) ?_ (0) (show 0 ≤ (0 : Int32).toInt ∧ (0 : Int32).toInt ≤ 4 by decide) _ _ _ hP hD hS hl
  rintro u1 i2 ih H locs ls hP hD hS hl
  have i2 : 0 ≤ u1.toInt ∧ u1.toInt ≤ 4 := i2
  have hP : va_P D vwCl [(h0, .inr (10, vL 67 Fh)), (h_planRead, .inl (cI, 24, .inl f_planRead))] H := hP
  have hD : va_D A [(h0, .inr (10, vL 67 Fh)), (h_planRead, .inl (cI, 24, .inl f_planRead))] := hD
  have hl : lv_has ls 4 [(3, .int u1), (0, .ref h0), (1, .int p0), (2, .int p1)] := hl
  refine lv_iload_n hx hb dX10_placeIn_2 rfl (lv_at hl 0 rfl) ?_
  refine lv_iload_n hx hb dX10_placeIn_3 rfl (lv_at hl 3 rfl) ?_
  refine lv_icmp_ge (tgt := 27) hx hb dX10_placeIn_4 (by decide) (fun c3 => ?_) (fun c3 => ?_)
  · have dc3 : p1.toInt ≤ u1.toInt := le_i (a := p1.toInt) (b := u1.toInt) rfl rfl c3
    refine lv_iconst (v := (-1)) hx hb dX10_placeIn_27 (by decide) ?_
    exact ret_i (v := (-1)) hx hb hr hlocks hS hP hD dX10_placeIn_28 rfl (Nat.le_of_ble_eq_true rfl) (Nat.le_of_ble_eq_true rfl) ⟨(show (-1) ≤ ((-1) : Int32).toInt ∧ ((-1) : Int32).toInt ≤ 3 by decide), rfl⟩
  · have dc3 : u1.toInt < p1.toInt := nle_i (a := p1.toInt) (b := u1.toInt) rfl rfl c3
    have k4 : 0 ≤ u1.toInt ∧ u1.toInt ≤ 3 := ⟨i2.1, up_lt dc3 i_p1.2 (by decide)⟩
    have k5 : 1 ≤ p1.toInt ∧ p1.toInt ≤ 4 := ⟨lo_lt dc3 i2.1 (by decide), i_p1.2⟩
    refine lv_aload_n hx hb dX10_placeIn_7 rfl (lv_at hl 1 rfl) ?_
    refine get_f (D := D) (ci := 10) (v := .ref h_planRead) (C := RX10) (T := TX10) (N := 67) hx hb hw inAX10 hown hK hP 0 rfl rfl 22 (by decide) (hw _ q_1283) (fun _ h9 => h9) e_planRead dX10_placeIn_8 ?_
    refine lv_iconst (v := 1) hx hb dX10_placeIn_11 (by decide) ?_
    refine lv_iload_n hx hb dX10_placeIn_12 rfl (lv_at hl 0 rfl) ?_
    refine lv_iadd hx hb dX10_placeIn_13 ?_
    refine lv_topi (fun v6 ev6 => ?_)
    have bv6 : v6.toInt = 1 + u1.toInt := by rw [ev6]; exact add_k rfl rfl ⟨Int.le_refl _, Int.le_refl _⟩ k4 (by decide)
    have k7 : 1 ≤ v6.toInt ∧ v6.toInt ≤ 4 := add_r bv6 ⟨Int.le_refl _, Int.le_refl _⟩ k4 (by decide)
    refine va_iald hx hb hK hP 1 0 rfl rfl (ix_k k7 (by decide) (by decide)) dX10_placeIn_14 ?_
    refine lv_topi (fun v8 ev8 => ?_)
    have k9 : 0 ≤ v8.toInt ∧ v8.toInt ≤ 11 := by rw [ev8]; exact s_planRead_1.at _ (Int.le_trans (by decide) k7.1) (Int.le_trans k7.2 (by decide))
    refine lv_iload_n hx hb dX10_placeIn_15 rfl (lv_at hl 2 rfl) ?_
    refine lv_icmp_ne (tgt := 21) hx hb dX10_placeIn_16 (by decide) (fun c10 => ?_) (fun c10 => ?_)
    · have dc10 : v8.toInt ≠ p0.toInt := ne_i (a := v8.toInt) (b := p0.toInt) rfl rfl c10
      obtain ⟨v11, ev11⟩ : ∃ z : Int32, z = u1 + 1 := ⟨_, rfl⟩
      have bv11 : v11.toInt = u1.toInt + 1 := by rw [ev11]; exact add_k rfl rfl k4 ⟨Int.le_refl _, Int.le_refl _⟩ (by decide)
      have k12 : 1 ≤ v11.toInt ∧ v11.toInt ≤ 4 := add_r bv11 k4 ⟨Int.le_refl _, Int.le_refl _⟩ (by decide)
      refine lv_iinc (v := v11) (lv' := [(3, .int v11), (0, .ref h0), (1, .int p0), (2, .int p1)]) hx hb dX10_placeIn_21 hl (k := 0) rfl (by rw [ev11]; rfl) (by decide) rfl (fun ls hl => ?_)
      refine lv_goto (tgt := 2) hx hb dX10_placeIn_24 (by decide) ?_
      exact ih (v11) (ir_wk k12 (by decide) (by decide)) (by show (4 - v11.toInt).toNat < (4 - u1.toInt).toNat; omega) _ _ _ hP hD hS (lv_sub hl [0, 1, 2, 3] rfl)
    · have dc10 : v8.toInt = p0.toInt := eq_i (a := v8.toInt) (b := p0.toInt) rfl rfl c10
      have k13 : 0 ≤ p0.toInt ∧ p0.toInt ≤ 11 := ⟨Int.le_trans k9.1 (Int.le_of_eq dc10), Int.le_trans (Int.le_of_eq dc10.symm) k9.2⟩
      refine lv_iload_n hx hb dX10_placeIn_19 rfl (lv_at hl 0 rfl) ?_
      exact ret_i (v := u1) hx hb hr hlocks hS hP hD dX10_placeIn_20 rfl (Nat.le_of_ble_eq_true rfl) (Nat.le_of_ble_eq_true rfl) ⟨(ir_wk k4 (by decide) (by decide)), rfl⟩
set_option maxHeartbeats 4000000 in
set_option maxRecDepth 100000 in
theorem m_X10_planLine (l : Launch) (D : va_G) (cI cJ cB cP cM cZ : ClassId) (h0 : Nat) (h_tape : Nat) (h_s : Nat) (h_names : Nat) (h_reserved : Nat) (h_planRead : Nat) (Fh : Nat → Value) (x_size : Int32) (x_p : Int32) (x_limit : Int32) (x_token : Int32) (x_at : Int32) (x_span : Int32) (x_number : Int32) (x_fault : Int32) (x_faultAt : Int32) (x_word : Int64) (x_got : Int32) (x_onces : Int32) (x_jumped : Int32) (x_heights : Int32) (f_tape : Nat → Int32) (f_s : Nat → Int32) (f_names : Nat → Int64) (f_reserved : Nat → Int64) (f_planRead : Nat → Int32) (sz : Nat) (e_tape : Fh 1 = .ref h_tape) (e_size : Fh 3 = .int x_size) (i_x_size : IR 0 940 x_size) (e_p : Fh 4 = .int x_p) (i_x_p : IR 0 940 x_p) (e_limit : Fh 5 = .int x_limit) (i_x_limit : IR 200 940 x_limit) (e_s : Fh 6 = .ref h_s) (e_names : Fh 9 = .ref h_names) (e_reserved : Fh 10 = .ref h_reserved) (e_token : Fh 11 = .int x_token) (i_x_token : IR 0 4 x_token) (e_at : Fh 12 = .int x_at) (e_span : Fh 13 = .int x_span) (e_number : Fh 14 = .int x_number) (e_fault : Fh 15 = .int x_fault) (e_faultAt : Fh 16 = .int x_faultAt) (e_word : Fh 18 = .long x_word) (e_got : Fh 19 = .int x_got) (e_onces : Fh 21 = .int x_onces) (e_planRead : Fh 22 = .ref h_planRead) (e_jumped : Fh 23 = .int x_jumped) (e_heights : Fh 24 = .int x_heights) (s_s_K0 : KW 0 f_s) (s_s_0 : SG 0 0 0 40 f_s) (s_s_105 : SG 105 108 0 11 f_s) (s_s_114 : SG 114 114 0 5 f_s) (s_s_130 : SG 130 133 0 11 f_s) (s_s_139 : SG 139 139 0 5 f_s) (s_s_153 : SG 153 153 0 44 f_s) (s_s_44 : SG 44 55 0 9 f_s) (s_s_5 : SG 5 5 0 12 f_s) (s_s_6 : SG 6 6 0 12 f_s) (s_s_7 : SG 7 7 0 6 f_s) (s_planRead_1 : SG 1 4 0 11 f_planRead) (s_planRead_10 : SG 10 10 0 5 f_planRead) (o_0 : (x_token.toInt = 2 → 0 ≤ x_number.toInt ∧ x_number.toInt ≤ 999)) : CI l yX10_planLine cX10_planLine 2 (some .boolean) { frames := 3, cells := 0, slots := 0, locals := 65 } (GG D cI cJ cB cP cM cZ) D [(h0, .inr (10, vL 67 Fh)), (h_tape, .inl (cB, 940, .inl f_tape)), (h_s, .inl (cI, 335, .inl f_s)), (h_names, .inl (cJ, 36, .inr (.inl f_names))), (h_reserved, .inl (cJ, 23, .inr (.inl f_reserved))), (h_planRead, .inl (cI, 24, .inl f_planRead))] sz [.ref h0] (fun (r : Int32) (u : va_W) => ∃ (Gh : Nat → Value) (y_p : Int32) (y_token : Int32) (y_at : Int32) (y_span : Int32) (y_number : Int32) (y_fault : Int32) (y_faultAt : Int32) (y_word : Int64) (y_got : Int32) (y_onces : Int32) (y_jumped : Int32) (y_heights : Int32) (g_planRead : Nat → Int32), SAME [4, 11, 12, 13, 14, 15, 16, 18, 19, 21, 23, 24] Fh Gh ∧ Gh 4 = .int y_p ∧ IR 0 940 y_p ∧ Gh 11 = .int y_token ∧ IR 0 4 y_token ∧ Gh 12 = .int y_at ∧ Gh 13 = .int y_span ∧ Gh 14 = .int y_number ∧ Gh 15 = .int y_fault ∧ Gh 16 = .int y_faultAt ∧ Gh 18 = .long y_word ∧ Gh 19 = .int y_got ∧ Gh 21 = .int y_onces ∧ Gh 23 = .int y_jumped ∧ Gh 24 = .int y_heights ∧ SG 1 4 0 11 g_planRead ∧ SG 10 10 0 5 g_planRead ∧ IR 0 1 r ∧ ((r.toInt = 1 → (x_p.toInt ≤ y_p.toInt ∧ (y_token.toInt = 3 → x_p.toInt < y_p.toInt)))) ∧ ((y_token.toInt = 2 → 0 ≤ y_number.toInt ∧ y_number.toInt ≤ 999)) ∧ u = [(h0, .inr (10, vL 67 Gh)), (h_tape, .inl (cB, 940, .inl f_tape)), (h_s, .inl (cI, 335, .inl f_s)), (h_names, .inl (cJ, 36, .inr (.inl f_names))), (h_reserved, .inl (cJ, 23, .inr (.inl f_reserved))), (h_planRead, .inl (cI, 24, .inl g_planRead))]) := by
  refine CI_mk (by decide) (Nat.le_of_ble_eq_true rfl) ?_
  intro p e s m below meth c A ls E hAe hG hsz hP hD hA hS hl
  obtain ⟨hx, hb, hr, hw, hown, hlocks, hml, hnm⟩ := E
  have hK := hG.1
  have i_x_size : 0 ≤ x_size.toInt ∧ x_size.toInt ≤ 940 := i_x_size
  have i_x_p : 0 ≤ x_p.toInt ∧ x_p.toInt ≤ 940 := i_x_p
  have i_x_limit : 200 ≤ x_limit.toInt ∧ x_limit.toInt ≤ 940 := i_x_limit
  have i_x_token : 0 ≤ x_token.toInt ∧ x_token.toInt ≤ 4 := i_x_token
  have hl : lv_has ls 2 [(0, .ref h0)] := hl
  refine lv_aload_n hx hb dX10_planLine_0 rfl (lv_at hl 0 rfl) ?_
  refine lv_ldc2 hx hb hown (hw _ q_1242) dX10_planLine_1 ?_
  refine call_Vi (wr := [(h_tape, .inl (cB, 940, .inl f_tape)), (h_s, .inl (cI, 335, .inl f_s)), (h_names, .inl (cJ, 36, .inr (.inl f_names))), (h_reserved, .inl (cJ, 23, .inr (.inl f_reserved))), (h_planRead, .inl (cI, 24, .inl f_planRead))]) (As := [.long 1668441463]) (rest := []) hx hb hml hown hw (m_X10_isWord l D cI cJ cB cP cM cZ h0 Fh x_token x_number x_word 1668441463 _ e_token i_x_token e_number e_word (by omega)) wV_X10_225_X10_isWord dX10_planLine_4 hK hP hD hS hA [0] [1, 2, 3, 4, 5] rfl rfl (by decide) (by decide) (by decide) 0 10 rfl rfl GG.fb hG.at hl.1 rfl (Nat.le_of_ble_eq_true rfl) ⟨(Nat.le_of_ble_eq_true rfl), (Nat.le_of_ble_eq_true rfl)⟩ ⟨(Nat.le_of_ble_eq_true rfl), (Nat.le_of_ble_eq_true rfl)⟩ (fun r1 u H locs hp hP hD hS => ?_)
  have zl1668441463 : (1668441463 : Int32).toInt = 1668441463 := by decide
  obtain ⟨t2, t3, rfl⟩ := hp
  have hP : va_P D vwCl [(h_tape, .inl (cB, 940, .inl f_tape)), (h_s, .inl (cI, 335, .inl f_s)), (h_names, .inl (cJ, 36, .inr (.inl f_names))), (h_reserved, .inl (cJ, 23, .inr (.inl f_reserved))), (h_planRead, .inl (cI, 24, .inl f_planRead)), (h0, .inr (10, vL 67 Fh))] H := hP
  have hD : va_D A [(h_tape, .inl (cB, 940, .inl f_tape)), (h_s, .inl (cI, 335, .inl f_s)), (h_names, .inl (cJ, 36, .inr (.inl f_names))), (h_reserved, .inl (cJ, 23, .inr (.inl f_reserved))), (h_planRead, .inl (cI, 24, .inl f_planRead)), (h0, .inr (10, vL 67 Fh))] := hD
  refine W.widen (k := 0) (n := 0) (Nat.le_of_ble_eq_true rfl) (Nat.le_of_ble_eq_true rfl) ?_
  refine lv_if_eq (tgt := 85) hx hb dX10_planLine_7 (by decide) (fun c5 => ?_) (fun c5 => ?_)
  · have dc5 : r1.toInt = 0 := eq_i (a := r1.toInt) (b := 0) rfl rfl c5
    have k6 : 0 ≤ r1.toInt ∧ r1.toInt ≤ 0 := ⟨t2.1, Int.le_trans (Int.le_of_eq dc5) (Int.le_refl _)⟩
    refine lv_aload_n hx hb dX10_planLine_85 rfl (lv_at hl 0 rfl) ?_
    refine lv_ldc2 hx hb hown (hw _ q_1243) dX10_planLine_86 ?_
    refine call_Vi (wr := [(h_tape, .inl (cB, 940, .inl f_tape)), (h_s, .inl (cI, 335, .inl f_s)), (h_names, .inl (cJ, 36, .inr (.inl f_names))), (h_reserved, .inl (cJ, 23, .inr (.inl f_reserved))), (h_planRead, .inl (cI, 24, .inl f_planRead))]) (As := [.long 1786080624]) (rest := []) hx hb hml hown hw (m_X10_isWord l D cI cJ cB cP cM cZ h0 Fh x_token x_number x_word 1786080624 _ e_token i_x_token e_number e_word (by omega)) wV_X10_225_X10_isWord dX10_planLine_89 hK hP hD hS hA [5] [0, 1, 2, 3, 4] rfl rfl (by decide) (by decide) (by decide) 0 10 rfl rfl GG.fb hG.at hl.1 rfl (Nat.le_of_ble_eq_true rfl) ⟨(Nat.le_of_ble_eq_true rfl), (Nat.le_of_ble_eq_true rfl)⟩ ⟨(Nat.le_of_ble_eq_true rfl), (Nat.le_of_ble_eq_true rfl)⟩ (fun r7 u H locs hp hP hD hS => ?_)
    have zl1786080624 : (1786080624 : Int32).toInt = 1786080624 := by decide
    obtain ⟨t8, t9, rfl⟩ := hp
    have hP : va_P D vwCl [(h_tape, .inl (cB, 940, .inl f_tape)), (h_s, .inl (cI, 335, .inl f_s)), (h_names, .inl (cJ, 36, .inr (.inl f_names))), (h_reserved, .inl (cJ, 23, .inr (.inl f_reserved))), (h_planRead, .inl (cI, 24, .inl f_planRead)), (h0, .inr (10, vL 67 Fh))] H := hP
    have hD : va_D A [(h_tape, .inl (cB, 940, .inl f_tape)), (h_s, .inl (cI, 335, .inl f_s)), (h_names, .inl (cJ, 36, .inr (.inl f_names))), (h_reserved, .inl (cJ, 23, .inr (.inl f_reserved))), (h_planRead, .inl (cI, 24, .inl f_planRead)), (h0, .inr (10, vL 67 Fh))] := hD
    refine W.widen (k := 0) (n := 0) (Nat.le_of_ble_eq_true rfl) (Nat.le_of_ble_eq_true rfl) ?_
    refine lv_if_eq (tgt := 201) hx hb dX10_planLine_92 (by decide) (fun c11 => ?_) (fun c11 => ?_)
    · have dc11 : r7.toInt = 0 := eq_i (a := r7.toInt) (b := 0) rfl rfl c11
      have k12 : 0 ≤ r7.toInt ∧ r7.toInt ≤ 0 := ⟨t8.1, Int.le_trans (Int.le_of_eq dc11) (Int.le_refl _)⟩
      refine lv_aload_n hx hb dX10_planLine_201 rfl (lv_at hl 0 rfl) ?_
      refine lv_ldc2 hx hb hown (hw _ q_1245) dX10_planLine_202 ?_
      refine call_Vi (wr := [(h_tape, .inl (cB, 940, .inl f_tape)), (h_s, .inl (cI, 335, .inl f_s)), (h_names, .inl (cJ, 36, .inr (.inl f_names))), (h_reserved, .inl (cJ, 23, .inr (.inl f_reserved))), (h_planRead, .inl (cI, 24, .inl f_planRead))]) (As := [.long 1751738216]) (rest := []) hx hb hml hown hw (m_X10_isWord l D cI cJ cB cP cM cZ h0 Fh x_token x_number x_word 1751738216 _ e_token i_x_token e_number e_word (by omega)) wV_X10_225_X10_isWord dX10_planLine_205 hK hP hD hS hA [5] [0, 1, 2, 3, 4] rfl rfl (by decide) (by decide) (by decide) 0 10 rfl rfl GG.fb hG.at hl.1 rfl (Nat.le_of_ble_eq_true rfl) ⟨(Nat.le_of_ble_eq_true rfl), (Nat.le_of_ble_eq_true rfl)⟩ ⟨(Nat.le_of_ble_eq_true rfl), (Nat.le_of_ble_eq_true rfl)⟩ (fun r13 u H locs hp hP hD hS => ?_)
      have zl1751738216 : (1751738216 : Int32).toInt = 1751738216 := by decide
      obtain ⟨t14, t15, rfl⟩ := hp
      have hP : va_P D vwCl [(h_tape, .inl (cB, 940, .inl f_tape)), (h_s, .inl (cI, 335, .inl f_s)), (h_names, .inl (cJ, 36, .inr (.inl f_names))), (h_reserved, .inl (cJ, 23, .inr (.inl f_reserved))), (h_planRead, .inl (cI, 24, .inl f_planRead)), (h0, .inr (10, vL 67 Fh))] H := hP
      have hD : va_D A [(h_tape, .inl (cB, 940, .inl f_tape)), (h_s, .inl (cI, 335, .inl f_s)), (h_names, .inl (cJ, 36, .inr (.inl f_names))), (h_reserved, .inl (cJ, 23, .inr (.inl f_reserved))), (h_planRead, .inl (cI, 24, .inl f_planRead)), (h0, .inr (10, vL 67 Fh))] := hD
      refine W.widen (k := 0) (n := 0) (Nat.le_of_ble_eq_true rfl) (Nat.le_of_ble_eq_true rfl) ?_
      refine lv_if_eq (tgt := 320) hx hb dX10_planLine_208 (by decide) (fun c17 => ?_) (fun c17 => ?_)
      · have dc17 : r13.toInt = 0 := eq_i (a := r13.toInt) (b := 0) rfl rfl c17
        have k18 : 0 ≤ r13.toInt ∧ r13.toInt ≤ 0 := ⟨t14.1, Int.le_trans (Int.le_of_eq dc17) (Int.le_refl _)⟩
        refine lv_aload_n hx hb dX10_planLine_320 rfl (lv_at hl 0 rfl) ?_
        refine lv_ldc2 hx hb hown (hw _ q_1244) dX10_planLine_321 ?_
        refine call_Vi (wr := [(h_tape, .inl (cB, 940, .inl f_tape)), (h_s, .inl (cI, 335, .inl f_s)), (h_names, .inl (cJ, 36, .inr (.inl f_names))), (h_reserved, .inl (cJ, 23, .inr (.inl f_reserved))), (h_planRead, .inl (cI, 24, .inl f_planRead))]) (As := [.long 1818583396]) (rest := []) hx hb hml hown hw (m_X10_isWord l D cI cJ cB cP cM cZ h0 Fh x_token x_number x_word 1818583396 _ e_token i_x_token e_number e_word (by omega)) wV_X10_225_X10_isWord dX10_planLine_324 hK hP hD hS hA [5] [0, 1, 2, 3, 4] rfl rfl (by decide) (by decide) (by decide) 0 10 rfl rfl GG.fb hG.at hl.1 rfl (Nat.le_of_ble_eq_true rfl) ⟨(Nat.le_of_ble_eq_true rfl), (Nat.le_of_ble_eq_true rfl)⟩ ⟨(Nat.le_of_ble_eq_true rfl), (Nat.le_of_ble_eq_true rfl)⟩ (fun r19 u H locs hp hP hD hS => ?_)
        have zl1818583396 : (1818583396 : Int32).toInt = 1818583396 := by decide
        obtain ⟨t20, t21, rfl⟩ := hp
        have hP : va_P D vwCl [(h_tape, .inl (cB, 940, .inl f_tape)), (h_s, .inl (cI, 335, .inl f_s)), (h_names, .inl (cJ, 36, .inr (.inl f_names))), (h_reserved, .inl (cJ, 23, .inr (.inl f_reserved))), (h_planRead, .inl (cI, 24, .inl f_planRead)), (h0, .inr (10, vL 67 Fh))] H := hP
        have hD : va_D A [(h_tape, .inl (cB, 940, .inl f_tape)), (h_s, .inl (cI, 335, .inl f_s)), (h_names, .inl (cJ, 36, .inr (.inl f_names))), (h_reserved, .inl (cJ, 23, .inr (.inl f_reserved))), (h_planRead, .inl (cI, 24, .inl f_planRead)), (h0, .inr (10, vL 67 Fh))] := hD
        refine W.widen (k := 0) (n := 0) (Nat.le_of_ble_eq_true rfl) (Nat.le_of_ble_eq_true rfl) ?_
        refine lv_if_eq (tgt := 363) hx hb dX10_planLine_327 (by decide) (fun c23 => ?_) (fun c23 => ?_)
        · have dc23 : r19.toInt = 0 := eq_i (a := r19.toInt) (b := 0) rfl rfl c23
          have k24 : 0 ≤ r19.toInt ∧ r19.toInt ≤ 0 := ⟨t20.1, Int.le_trans (Int.le_of_eq dc23) (Int.le_refl _)⟩
          refine lv_aload_n hx hb dX10_planLine_363 rfl (lv_at hl 0 rfl) ?_
          refine lv_ldc2 hx hb hown (hw _ q_1247) dX10_planLine_364 ?_
          refine call_Vi (wr := [(h_tape, .inl (cB, 940, .inl f_tape)), (h_s, .inl (cI, 335, .inl f_s)), (h_names, .inl (cJ, 36, .inr (.inl f_names))), (h_reserved, .inl (cJ, 23, .inr (.inl f_reserved))), (h_planRead, .inl (cI, 24, .inl f_planRead))]) (As := [.long 495873782388]) (rest := []) hx hb hml hown hw (m_X10_isWord l D cI cJ cB cP cM cZ h0 Fh x_token x_number x_word 495873782388 _ e_token i_x_token e_number e_word (by omega)) wV_X10_225_X10_isWord dX10_planLine_367 hK hP hD hS hA [5] [0, 1, 2, 3, 4] rfl rfl (by decide) (by decide) (by decide) 0 10 rfl rfl GG.fb hG.at hl.1 rfl (Nat.le_of_ble_eq_true rfl) ⟨(Nat.le_of_ble_eq_true rfl), (Nat.le_of_ble_eq_true rfl)⟩ ⟨(Nat.le_of_ble_eq_true rfl), (Nat.le_of_ble_eq_true rfl)⟩ (fun r25 u H locs hp hP hD hS => ?_)
          have zl495873782388 : (495873782388 : Int32).toInt = 495873782388 := by decide
          obtain ⟨t26, t27, rfl⟩ := hp
          have hP : va_P D vwCl [(h_tape, .inl (cB, 940, .inl f_tape)), (h_s, .inl (cI, 335, .inl f_s)), (h_names, .inl (cJ, 36, .inr (.inl f_names))), (h_reserved, .inl (cJ, 23, .inr (.inl f_reserved))), (h_planRead, .inl (cI, 24, .inl f_planRead)), (h0, .inr (10, vL 67 Fh))] H := hP
          have hD : va_D A [(h_tape, .inl (cB, 940, .inl f_tape)), (h_s, .inl (cI, 335, .inl f_s)), (h_names, .inl (cJ, 36, .inr (.inl f_names))), (h_reserved, .inl (cJ, 23, .inr (.inl f_reserved))), (h_planRead, .inl (cI, 24, .inl f_planRead)), (h0, .inr (10, vL 67 Fh))] := hD
          refine W.widen (k := 0) (n := 0) (Nat.le_of_ble_eq_true rfl) (Nat.le_of_ble_eq_true rfl) ?_
          refine lv_if_eq (tgt := 406) hx hb dX10_planLine_370 (by decide) (fun c29 => ?_) (fun c29 => ?_)
          · have dc29 : r25.toInt = 0 := eq_i (a := r25.toInt) (b := 0) rfl rfl c29
            have k30 : 0 ≤ r25.toInt ∧ r25.toInt ≤ 0 := ⟨t26.1, Int.le_trans (Int.le_of_eq dc29) (Int.le_refl _)⟩
            refine lv_aload_n hx hb dX10_planLine_406 rfl (lv_at hl 0 rfl) ?_
            refine lv_ldc2 hx hb hown (hw _ q_1246) dX10_planLine_407 ?_
            refine call_Vi (wr := [(h_tape, .inl (cB, 940, .inl f_tape)), (h_s, .inl (cI, 335, .inl f_s)), (h_names, .inl (cJ, 36, .inr (.inl f_names))), (h_reserved, .inl (cJ, 23, .inr (.inl f_reserved))), (h_planRead, .inl (cI, 24, .inl f_planRead))]) (As := [.long 28526]) (rest := []) hx hb hml hown hw (m_X10_isWord l D cI cJ cB cP cM cZ h0 Fh x_token x_number x_word 28526 _ e_token i_x_token e_number e_word (by omega)) wV_X10_225_X10_isWord dX10_planLine_410 hK hP hD hS hA [5] [0, 1, 2, 3, 4] rfl rfl (by decide) (by decide) (by decide) 0 10 rfl rfl GG.fb hG.at hl.1 rfl (Nat.le_of_ble_eq_true rfl) ⟨(Nat.le_of_ble_eq_true rfl), (Nat.le_of_ble_eq_true rfl)⟩ ⟨(Nat.le_of_ble_eq_true rfl), (Nat.le_of_ble_eq_true rfl)⟩ (fun r31 u H locs hp hP hD hS => ?_)
            have zl28526 : (28526 : Int32).toInt = 28526 := by decide
            obtain ⟨t32, t33, rfl⟩ := hp
            have hP : va_P D vwCl [(h_tape, .inl (cB, 940, .inl f_tape)), (h_s, .inl (cI, 335, .inl f_s)), (h_names, .inl (cJ, 36, .inr (.inl f_names))), (h_reserved, .inl (cJ, 23, .inr (.inl f_reserved))), (h_planRead, .inl (cI, 24, .inl f_planRead)), (h0, .inr (10, vL 67 Fh))] H := hP
            have hD : va_D A [(h_tape, .inl (cB, 940, .inl f_tape)), (h_s, .inl (cI, 335, .inl f_s)), (h_names, .inl (cJ, 36, .inr (.inl f_names))), (h_reserved, .inl (cJ, 23, .inr (.inl f_reserved))), (h_planRead, .inl (cI, 24, .inl f_planRead)), (h0, .inr (10, vL 67 Fh))] := hD
            refine W.widen (k := 0) (n := 0) (Nat.le_of_ble_eq_true rfl) (Nat.le_of_ble_eq_true rfl) ?_
            refine lv_if_ne (tgt := 422) hx hb dX10_planLine_413 (by decide) (fun c35 => ?_) (fun c35 => ?_)
            · have dc35 : r31.toInt ≠ 0 := ne_i (a := r31.toInt) (b := 0) rfl rfl c35
              have k36 : 1 ≤ r31.toInt ∧ r31.toInt ≤ 1 := ⟨ne_lo dc35 t32.1 ⟨Int.le_refl _, Int.le_refl _⟩ (by decide), t32.2⟩
              refine lv_aload_n hx hb dX10_planLine_422 rfl (lv_at hl 0 rfl) ?_
              refine lv_iconst (v := 3) hx hb dX10_planLine_423 (by decide) ?_
              refine call_Vi (wr := [(h_s, .inl (cI, 335, .inl f_s)), (h_names, .inl (cJ, 36, .inr (.inl f_names))), (h_reserved, .inl (cJ, 23, .inr (.inl f_reserved))), (h_planRead, .inl (cI, 24, .inl f_planRead))]) (As := [.int 3]) (rest := []) hx hb hml hown hw (m_X10_isOnce l D cI cJ cB cP cM cZ h0 h_tape Fh x_size x_p x_limit x_token x_at x_span x_number x_fault x_faultAt x_word x_onces f_tape 3 _ e_tape e_size i_x_size e_p i_x_p e_limit i_x_limit e_token i_x_token e_at e_span e_number e_fault e_faultAt e_word e_onces (by omega)) wV_X10_239_X10_isOnce dX10_planLine_424 hK hP hD hS hA [5, 0] [1, 2, 3, 4] rfl rfl (by decide) (by decide) (by decide) 0 10 rfl rfl GG.fb hG.at hl.1 rfl (Nat.le_of_ble_eq_true rfl) ⟨(Nat.le_of_ble_eq_true rfl), (Nat.le_of_ble_eq_true rfl)⟩ ⟨(Nat.le_of_ble_eq_true rfl), (Nat.le_of_ble_eq_true rfl)⟩ (fun r37 u H locs hp hP hD hS => ?_)
              have zl3 : (3 : Int32).toInt = 3 := by decide
              refine hp.elim (fun F38 h9z => h9z.elim (fun y39 h9z => h9z.elim (fun y40 h9z => h9z.elim (fun y41 h9z => h9z.elim (fun y42 h9z => h9z.elim (fun y43 h9z => h9z.elim (fun y44 h9z => h9z.elim (fun y45 h9z => h9z.elim (fun y46 h9z => h9z.elim (fun y47 h9z => h9z.elim (fun t48 h9z => h9z.elim (fun t49 h9z => h9z.elim (fun t50 h9z => h9z.elim (fun t51 h9z => h9z.elim (fun t52 h9z => h9z.elim (fun t53 h9z => h9z.elim (fun t54 h9z => h9z.elim (fun t55 h9z => h9z.elim (fun t56 h9z => h9z.elim (fun t57 h9z => h9z.elim (fun t58 h9z => h9z.elim (fun t59 h9z => h9z.elim (fun t60 h9z => h9z.elim (fun t61 h9z => h9z.elim (fun t62 h9z => ?_)))))))))))))))))))))))))
              subst h9z
              have hP : va_P D vwCl [(h_s, .inl (cI, 335, .inl f_s)), (h_names, .inl (cJ, 36, .inr (.inl f_names))), (h_reserved, .inl (cJ, 23, .inr (.inl f_reserved))), (h_planRead, .inl (cI, 24, .inl f_planRead)), (h0, .inr (10, vL 67 F38)), (h_tape, .inl (cB, 940, .inl f_tape))] H := hP
              have hD : va_D A [(h_s, .inl (cI, 335, .inl f_s)), (h_names, .inl (cJ, 36, .inr (.inl f_names))), (h_reserved, .inl (cJ, 23, .inr (.inl f_reserved))), (h_planRead, .inl (cI, 24, .inl f_planRead)), (h0, .inr (10, vL 67 F38)), (h_tape, .inl (cB, 940, .inl f_tape))] := hD
              refine W.widen (k := 0) (n := 0) (Nat.le_of_ble_eq_true rfl) (Nat.le_of_ble_eq_true rfl) ?_
              refine lv_if_ne (tgt := 432) hx hb dX10_planLine_427 (by decide) (fun c64 => ?_) (fun c64 => ?_)
              · have dc64 : r37.toInt ≠ 0 := ne_i (a := r37.toInt) (b := 0) rfl rfl c64
                have k65 : 1 ≤ r37.toInt ∧ r37.toInt ≤ 1 := ⟨ne_lo dc64 t60.1 ⟨Int.le_refl _, Int.le_refl _⟩ (by decide), t60.2⟩
                refine lv_aload_n hx hb dX10_planLine_432 rfl (lv_at hl 0 rfl) ?_
                have n66 : F38 10 = .ref h_reserved := (SAME.at t48 (by decide) e_reserved)
                refine call_Vi (wr := [(h_s, .inl (cI, 335, .inl f_s)), (h_names, .inl (cJ, 36, .inr (.inl f_names))), (h_planRead, .inl (cI, 24, .inl f_planRead)), (h_tape, .inl (cB, 940, .inl f_tape))]) (As := []) (rest := []) hx hb hml hown hw (m_X10_isName l D cI cJ cB cP cM cZ h0 h_reserved F38 y40 y43 y46 f_reserved _ n66 t51 t52 t55 t58 (by omega)) wV_X10_218_X10_isName dX10_planLine_433 hK hP hD hS hA [4, 2] [0, 1, 3, 5] rfl rfl (by decide) (by decide) (by decide) 0 10 rfl rfl GG.fb hG.at hl.1 rfl (Nat.le_of_ble_eq_true rfl) ⟨(Nat.le_of_ble_eq_true rfl), (Nat.le_of_ble_eq_true rfl)⟩ ⟨(Nat.le_of_ble_eq_true rfl), (Nat.le_of_ble_eq_true rfl)⟩ (fun r67 u H locs hp hP hD hS => ?_)
                obtain ⟨t68, rfl⟩ := hp
                have hP : va_P D vwCl [(h_s, .inl (cI, 335, .inl f_s)), (h_names, .inl (cJ, 36, .inr (.inl f_names))), (h_planRead, .inl (cI, 24, .inl f_planRead)), (h_tape, .inl (cB, 940, .inl f_tape)), (h0, .inr (10, vL 67 F38)), (h_reserved, .inl (cJ, 23, .inr (.inl f_reserved)))] H := hP
                have hD : va_D A [(h_s, .inl (cI, 335, .inl f_s)), (h_names, .inl (cJ, 36, .inr (.inl f_names))), (h_planRead, .inl (cI, 24, .inl f_planRead)), (h_tape, .inl (cB, 940, .inl f_tape)), (h0, .inr (10, vL 67 F38)), (h_reserved, .inl (cJ, 23, .inr (.inl f_reserved)))] := hD
                refine W.widen (k := 0) (n := 0) (Nat.le_of_ble_eq_true rfl) (Nat.le_of_ble_eq_true rfl) ?_
                refine lv_if_ne (tgt := 445) hx hb dX10_planLine_436 (by decide) (fun c70 => ?_) (fun c70 => ?_)
                · have dc70 : r67.toInt ≠ 0 := ne_i (a := r67.toInt) (b := 0) rfl rfl c70
                  have k71 : 1 ≤ r67.toInt ∧ r67.toInt ≤ 1 := ⟨ne_lo dc70 t68.1 ⟨Int.le_refl _, Int.le_refl _⟩ (by decide), t68.2⟩
                  refine lv_aload_n hx hb dX10_planLine_445 rfl (lv_at hl 0 rfl) ?_
                  refine lv_bipush (v := 12) hx hb dX10_planLine_446 (by decide) ?_
                  refine lv_aload_n hx hb dX10_planLine_448 rfl (lv_at hl 0 rfl) ?_
                  have n72 : F38 6 = .ref h_s := (SAME.at t48 (by decide) e_s)
                  refine get_f (D := D) (ci := 10) (v := .ref h_s) (C := RX10) (T := TX10) (N := 67) hx hb hw inAX10 hown hK hP 4 rfl rfl 6 (by decide) (hw _ q_1267) (fun _ h9 => h9) n72 dX10_planLine_449 ?_
                  refine lv_bipush (v := 7) hx hb dX10_planLine_452 (by decide) ?_
                  refine iald_n hx hb hK hP 0 0 rfl rfl 7 rfl (Nat.le_of_ble_eq_true rfl) (Nat.le_of_ble_eq_true rfl) rfl dX10_planLine_454 ?_
                  refine lv_topi (fun v73 ev73 => ?_)
                  have k74 : 0 ≤ v73.toInt ∧ v73.toInt ≤ 6 := by rw [ev73]; exact s_s_7.atN 7 (by decide) (by decide)
                  have n75 : F38 9 = .ref h_names := (SAME.at t48 (by decide) e_names)
                  refine call_Vi (wr := [(h_s, .inl (cI, 335, .inl f_s)), (h_planRead, .inl (cI, 24, .inl f_planRead)), (h_tape, .inl (cB, 940, .inl f_tape)), (h_reserved, .inl (cJ, 23, .inr (.inl f_reserved)))]) (As := [.int 12, .int v73]) (rest := []) hx hb hml hown hw (m_X10_find l D cI cJ cB cP cM cZ h0 h_names F38 y46 f_names 12 v73 _ n75 t58 (show 0 ≤ (12 : Int32).toInt ∧ (12 : Int32).toInt ≤ 30 by decide) (ir_wk k74 (by decide) (by decide)) (by have z0 : (12 : Int32).toInt = 12 := rfl; omega)) wV_X10_222_X10_find dX10_planLine_455 hK hP hD hS hA [4, 1] [0, 2, 3, 5] rfl rfl (by decide) (by decide) (by decide) 0 10 rfl rfl GG.fb hG.at hl.1 rfl (Nat.le_of_ble_eq_true rfl) ⟨(Nat.le_of_ble_eq_true rfl), (Nat.le_of_ble_eq_true rfl)⟩ ⟨(Nat.le_of_ble_eq_true rfl), (Nat.le_of_ble_eq_true rfl)⟩ (fun r76 u H locs hp hP hD hS => ?_)
                  have zl12 : (12 : Int32).toInt = 12 := by decide
                  rcases hp with ⟨t77, rfl, rfl⟩ | ⟨t78, t79, rfl⟩
                  · have hP : va_P D vwCl [(h_s, .inl (cI, 335, .inl f_s)), (h_planRead, .inl (cI, 24, .inl f_planRead)), (h_tape, .inl (cB, 940, .inl f_tape)), (h_reserved, .inl (cJ, 23, .inr (.inl f_reserved))), (h0, .inr (10, vL 67 F38)), (h_names, .inl (cJ, 36, .inr (.inl f_names)))] H := hP
                    have hD : va_D A [(h_s, .inl (cI, 335, .inl f_s)), (h_planRead, .inl (cI, 24, .inl f_planRead)), (h_tape, .inl (cB, 940, .inl f_tape)), (h_reserved, .inl (cJ, 23, .inr (.inl f_reserved))), (h0, .inr (10, vL 67 F38)), (h_names, .inl (cJ, 36, .inr (.inl f_names)))] := hD
                    refine W.widen (k := 0) (n := 0) (Nat.le_of_ble_eq_true rfl) (Nat.le_of_ble_eq_true rfl) ?_
                    refine lv_istore_n (lv' := [(1, .int (-1)), (0, .ref h0)]) hx hb dX10_planLine_458 rfl hl (by decide) rfl (fun ls hl => ?_)
                    refine lv_iload_n hx hb dX10_planLine_459 rfl (lv_at hl 0 rfl) ?_
                    refine lv_if_ge (tgt := 469) hx hb dX10_planLine_460 (by decide) (fun g => absurd g (by decide)) (fun _ => ?_)
                    refine lv_aload_n hx hb dX10_planLine_463 rfl (lv_at hl 1 rfl) ?_
                    refine lv_iconst (v := 3) hx hb dX10_planLine_464 (by decide) ?_
                    refine call_Vi (wr := [(h_s, .inl (cI, 335, .inl f_s)), (h_planRead, .inl (cI, 24, .inl f_planRead)), (h_tape, .inl (cB, 940, .inl f_tape)), (h_reserved, .inl (cJ, 23, .inr (.inl f_reserved))), (h_names, .inl (cJ, 36, .inr (.inl f_names)))]) (As := [.int 3]) (rest := []) hx hb hml hown hw (m_X10_bad l D cI cJ cB cP cM cZ h0 F38 y41 3 _ t53) wV_X10_205_X10_bad dX10_planLine_465 hK hP hD hS hA [4] [0, 1, 2, 3, 5] rfl rfl (by decide) (by decide) (by decide) 0 10 rfl rfl GG.fb hG.at hl.1 rfl (Nat.le_of_ble_eq_true rfl) ⟨(Nat.le_of_ble_eq_true rfl), (Nat.le_of_ble_eq_true rfl)⟩ ⟨(Nat.le_of_ble_eq_true rfl), (Nat.le_of_ble_eq_true rfl)⟩ (fun r81 u H locs hp hP hD hS => ?_)
                    obtain ⟨F82, t83, t84, t85, rfl, rfl⟩ := hp
                    have hP : va_P D vwCl [(h_s, .inl (cI, 335, .inl f_s)), (h_planRead, .inl (cI, 24, .inl f_planRead)), (h_tape, .inl (cB, 940, .inl f_tape)), (h_reserved, .inl (cJ, 23, .inr (.inl f_reserved))), (h_names, .inl (cJ, 36, .inr (.inl f_names))), (h0, .inr (10, vL 67 F82))] H := hP
                    have hD : va_D A [(h_s, .inl (cI, 335, .inl f_s)), (h_planRead, .inl (cI, 24, .inl f_planRead)), (h_tape, .inl (cB, 940, .inl f_tape)), (h_reserved, .inl (cJ, 23, .inr (.inl f_reserved))), (h_names, .inl (cJ, 36, .inr (.inl f_names))), (h0, .inr (10, vL 67 F82))] := hD
                    refine W.widen (k := 0) (n := 0) (Nat.le_of_ble_eq_true rfl) (Nat.le_of_ble_eq_true rfl) ?_
                    exact ret_i (v := 0) hx hb hr hlocks hS (hP.sub (ws' := [(h0, .inr (10, vL 67 F82)), (h_tape, .inl (cB, 940, .inl f_tape)), (h_s, .inl (cI, 335, .inl f_s)), (h_names, .inl (cJ, 36, .inr (.inl f_names))), (h_reserved, .inl (cJ, 23, .inr (.inl f_reserved))), (h_planRead, .inl (cI, 24, .inl f_planRead))]) [5, 2, 0, 4, 3, 1] rfl) (hD.sub (ws' := [(h0, .inr (10, vL 67 F82)), (h_tape, .inl (cB, 940, .inl f_tape)), (h_s, .inl (cI, 335, .inl f_s)), (h_names, .inl (cJ, 36, .inr (.inl f_names))), (h_reserved, .inl (cJ, 23, .inr (.inl f_reserved))), (h_planRead, .inl (cI, 24, .inl f_planRead))]) [5, 2, 0, 4, 3, 1] (by decide) rfl) dX10_planLine_468 rfl (Nat.le_of_ble_eq_true rfl) (Nat.le_of_ble_eq_true rfl) ⟨F82, y39, y40, y41, y42, y43, 3, y41, y46, x_got, y47, x_jumped, x_heights, f_planRead, (SAME.tr (SAME.tr SAME.rf t48 (by decide)) t83 (by decide)), (SAME.at t83 (by decide) t49), t50, (SAME.at t83 (by decide) t51), t52, (SAME.at t83 (by decide) t53), (SAME.at t83 (by decide) t54), (SAME.at t83 (by decide) t55), t84, t85, (SAME.at t83 (by decide) t58), (SAME.at t83 (by decide) (SAME.at t48 (by decide) e_got)), (SAME.at t83 (by decide) t59), (SAME.at t83 (by decide) (SAME.at t48 (by decide) e_jumped)), (SAME.at t83 (by decide) (SAME.at t48 (by decide) e_heights)), s_planRead_1, s_planRead_10, (show 0 ≤ (0 : Int32).toInt ∧ (0 : Int32).toInt ≤ 1 by decide), (by have zl0 : (0 : Int32).toInt = 0 := (by decide); omega), (by have zl3 : (3 : Int32).toInt = 3 := (by decide); omega), rfl⟩
                  · have hP : va_P D vwCl [(h_s, .inl (cI, 335, .inl f_s)), (h_planRead, .inl (cI, 24, .inl f_planRead)), (h_tape, .inl (cB, 940, .inl f_tape)), (h_reserved, .inl (cJ, 23, .inr (.inl f_reserved))), (h0, .inr (10, vL 67 F38)), (h_names, .inl (cJ, 36, .inr (.inl f_names)))] H := hP
                    have hD : va_D A [(h_s, .inl (cI, 335, .inl f_s)), (h_planRead, .inl (cI, 24, .inl f_planRead)), (h_tape, .inl (cB, 940, .inl f_tape)), (h_reserved, .inl (cJ, 23, .inr (.inl f_reserved))), (h0, .inr (10, vL 67 F38)), (h_names, .inl (cJ, 36, .inr (.inl f_names)))] := hD
                    refine W.widen (k := 0) (n := 0) (Nat.le_of_ble_eq_true rfl) (Nat.le_of_ble_eq_true rfl) ?_
                    have k87 : 1 ≤ v73.toInt ∧ v73.toInt ≤ 6 := ⟨lo_lt t79 (Int.le_refl _) (by decide), k74.2⟩
                    refine lv_istore_n (lv' := [(1, .int r76), (0, .ref h0)]) hx hb dX10_planLine_458 rfl hl (by decide) rfl (fun ls hl => ?_)
                    refine lv_iload_n hx hb dX10_planLine_459 rfl (lv_at hl 0 rfl) ?_
                    refine lv_if_ge (tgt := 469) hx hb dX10_planLine_460 (by decide) (fun c88 => ?_) (fun c88 => False.elim (bad_lt (nle_i (a := 0) (b := r76.toInt) rfl rfl c88) t78.1 (Int.le_refl _) (by decide)))
                    have dc88 : 0 ≤ r76.toInt := le_i (a := 0) (b := r76.toInt) rfl rfl c88
                    refine lv_aload_n hx hb dX10_planLine_469 rfl (lv_at hl 1 rfl) ?_
                    have n89 : F38 22 = .ref h_planRead := (SAME.at t48 (by decide) e_planRead)
                    refine get_f (D := D) (ci := 10) (v := .ref h_planRead) (C := RX10) (T := TX10) (N := 67) hx hb hw inAX10 hown hK hP 4 rfl rfl 22 (by decide) (hw _ q_1283) (fun _ h9 => h9) n89 dX10_planLine_470 ?_
                    refine lv_bipush (v := 10) hx hb dX10_planLine_473 (by decide) ?_
                    refine lv_iload_n hx hb dX10_planLine_475 rfl (lv_at hl 0 rfl) ?_
                    obtain ⟨g90, eg90⟩ : ∃ z : Nat → Int32, upd f_planRead 10 r76 = z := ⟨_, rfl⟩
                    have r91 : SG 1 4 0 11 g90 := by rw [← eg90]; exact s_planRead_1.upN (by decide)
                    have r92 : SG 10 10 0 5 g90 := by rw [← eg90]; exact s_planRead_10.upN (by omega)
                    refine iast_n hx hb hK hP hD hS 1 0 rfl rfl 10 rfl (Nat.le_of_ble_eq_true rfl) (Nat.le_of_ble_eq_true rfl) eg90 dX10_planLine_476 (fun H locs hP hD hS => ?_)
                    have hP : va_P D vwCl [(h_s, .inl (cI, 335, .inl f_s)), (h_planRead, .inl (cI, 24, .inl g90)), (h_tape, .inl (cB, 940, .inl f_tape)), (h_reserved, .inl (cJ, 23, .inr (.inl f_reserved))), (h0, .inr (10, vL 67 F38)), (h_names, .inl (cJ, 36, .inr (.inl f_names)))] H := hP
                    have hD : va_D A [(h_s, .inl (cI, 335, .inl f_s)), (h_planRead, .inl (cI, 24, .inl g90)), (h_tape, .inl (cB, 940, .inl f_tape)), (h_reserved, .inl (cJ, 23, .inr (.inl f_reserved))), (h0, .inr (10, vL 67 F38)), (h_names, .inl (cJ, 36, .inr (.inl f_names)))] := hD
                    refine lv_aload_n hx hb dX10_planLine_477 rfl (lv_at hl 1 rfl) ?_
                    have n93 : F38 1 = .ref h_tape := (SAME.at t48 (by decide) e_tape)
                    have n94 : F38 3 = .int x_size := (SAME.at t48 (by decide) e_size)
                    have n95 : F38 5 = .int x_limit := (SAME.at t48 (by decide) e_limit)
                    refine call_Vv (wr := [(h_s, .inl (cI, 335, .inl f_s)), (h_planRead, .inl (cI, 24, .inl g90)), (h_reserved, .inl (cJ, 23, .inr (.inl f_reserved))), (h_names, .inl (cJ, 36, .inr (.inl f_names)))]) (As := []) (rest := []) hx hb hml hown hw (m_X10_next l D cI cJ cB cP cM cZ h0 h_tape F38 x_size y39 x_limit y40 y43 y46 f_tape _ n93 n94 i_x_size t49 t50 n95 i_x_limit t51 t52 t55 t58 (by omega)) wV_X10_208_X10_next dX10_planLine_478 hK hP hD hS hA [4, 2] [0, 1, 3, 5] rfl rfl (by decide) (by decide) (by decide) 0 10 rfl rfl GG.fb hG.at hl.1 rfl (Nat.le_of_ble_eq_true rfl) ⟨(Nat.le_of_ble_eq_true rfl), (Nat.le_of_ble_eq_true rfl)⟩ ⟨(Nat.le_of_ble_eq_true rfl), (Nat.le_of_ble_eq_true rfl)⟩ (fun u H locs hp hP hD hS => ?_)
                    obtain ⟨F97, y98, y99, y100, y101, y102, y103, t104, t105, t106, t107, t108, t109, t110, t111, t112, t113, t114, t115, t116, t117, rfl⟩ := hp
                    have hP : va_P D vwCl [(h_s, .inl (cI, 335, .inl f_s)), (h_planRead, .inl (cI, 24, .inl g90)), (h_reserved, .inl (cJ, 23, .inr (.inl f_reserved))), (h_names, .inl (cJ, 36, .inr (.inl f_names))), (h0, .inr (10, vL 67 F97)), (h_tape, .inl (cB, 940, .inl f_tape))] H := hP
                    have hD : va_D A [(h_s, .inl (cI, 335, .inl f_s)), (h_planRead, .inl (cI, 24, .inl g90)), (h_reserved, .inl (cJ, 23, .inr (.inl f_reserved))), (h_names, .inl (cJ, 36, .inr (.inl f_names))), (h0, .inr (10, vL 67 F97)), (h_tape, .inl (cB, 940, .inl f_tape))] := hD
                    refine W.widen (k := 0) (n := 0) (Nat.le_of_ble_eq_true rfl) (Nat.le_of_ble_eq_true rfl) ?_
                    refine lv_iconst (v := 1) hx hb dX10_planLine_481 (by decide) ?_
                    exact ret_i (v := 1) hx hb hr hlocks hS (hP.sub (ws' := [(h0, .inr (10, vL 67 F97)), (h_tape, .inl (cB, 940, .inl f_tape)), (h_s, .inl (cI, 335, .inl f_s)), (h_names, .inl (cJ, 36, .inr (.inl f_names))), (h_reserved, .inl (cJ, 23, .inr (.inl f_reserved))), (h_planRead, .inl (cI, 24, .inl g90))]) [4, 5, 0, 3, 2, 1] rfl) (hD.sub (ws' := [(h0, .inr (10, vL 67 F97)), (h_tape, .inl (cB, 940, .inl f_tape)), (h_s, .inl (cI, 335, .inl f_s)), (h_names, .inl (cJ, 36, .inr (.inl f_names))), (h_reserved, .inl (cJ, 23, .inr (.inl f_reserved))), (h_planRead, .inl (cI, 24, .inl g90))]) [4, 5, 0, 3, 2, 1] (by decide) rfl) dX10_planLine_482 rfl (Nat.le_of_ble_eq_true rfl) (Nat.le_of_ble_eq_true rfl) ⟨F97, y98, y99, y100, y101, y102, y44, y45, y103, x_got, y47, x_jumped, x_heights, g90, (SAME.tr (SAME.tr SAME.rf t48 (by decide)) t104 (by decide)), t105, t106, t107, t108, t109, t111, t113, (SAME.at t104 (by decide) t56), (SAME.at t104 (by decide) t57), t114, (SAME.at t104 (by decide) (SAME.at t48 (by decide) e_got)), (SAME.at t104 (by decide) t59), (SAME.at t104 (by decide) (SAME.at t48 (by decide) e_jumped)), (SAME.at t104 (by decide) (SAME.at t48 (by decide) e_heights)), r91, r92, (show 0 ≤ (1 : Int32).toInt ∧ (1 : Int32).toInt ≤ 1 by decide), (by have zl1 : (1 : Int32).toInt = 1 := (by decide); omega), (by omega), rfl⟩
                · have dc70 : r67.toInt = 0 := eq_i (a := r67.toInt) (b := 0) rfl rfl c70
                  have k119 : 0 ≤ r67.toInt ∧ r67.toInt ≤ 0 := ⟨t68.1, Int.le_trans (Int.le_of_eq dc70) (Int.le_refl _)⟩
                  refine lv_aload_n hx hb dX10_planLine_439 rfl (lv_at hl 0 rfl) ?_
                  refine lv_iconst (v := 1) hx hb dX10_planLine_440 (by decide) ?_
                  refine call_Vi (wr := [(h_s, .inl (cI, 335, .inl f_s)), (h_names, .inl (cJ, 36, .inr (.inl f_names))), (h_planRead, .inl (cI, 24, .inl f_planRead)), (h_tape, .inl (cB, 940, .inl f_tape)), (h_reserved, .inl (cJ, 23, .inr (.inl f_reserved)))]) (As := [.int 1]) (rest := []) hx hb hml hown hw (m_X10_bad l D cI cJ cB cP cM cZ h0 F38 y41 1 _ t53) wV_X10_205_X10_bad dX10_planLine_441 hK hP hD hS hA [4] [0, 1, 2, 3, 5] rfl rfl (by decide) (by decide) (by decide) 0 10 rfl rfl GG.fb hG.at hl.1 rfl (Nat.le_of_ble_eq_true rfl) ⟨(Nat.le_of_ble_eq_true rfl), (Nat.le_of_ble_eq_true rfl)⟩ ⟨(Nat.le_of_ble_eq_true rfl), (Nat.le_of_ble_eq_true rfl)⟩ (fun r120 u H locs hp hP hD hS => ?_)
                  have zl1 : (1 : Int32).toInt = 1 := by decide
                  obtain ⟨F121, t122, t123, t124, rfl, rfl⟩ := hp
                  have hP : va_P D vwCl [(h_s, .inl (cI, 335, .inl f_s)), (h_names, .inl (cJ, 36, .inr (.inl f_names))), (h_planRead, .inl (cI, 24, .inl f_planRead)), (h_tape, .inl (cB, 940, .inl f_tape)), (h_reserved, .inl (cJ, 23, .inr (.inl f_reserved))), (h0, .inr (10, vL 67 F121))] H := hP
                  have hD : va_D A [(h_s, .inl (cI, 335, .inl f_s)), (h_names, .inl (cJ, 36, .inr (.inl f_names))), (h_planRead, .inl (cI, 24, .inl f_planRead)), (h_tape, .inl (cB, 940, .inl f_tape)), (h_reserved, .inl (cJ, 23, .inr (.inl f_reserved))), (h0, .inr (10, vL 67 F121))] := hD
                  refine W.widen (k := 0) (n := 0) (Nat.le_of_ble_eq_true rfl) (Nat.le_of_ble_eq_true rfl) ?_
                  exact ret_i (v := 0) hx hb hr hlocks hS (hP.sub (ws' := [(h0, .inr (10, vL 67 F121)), (h_tape, .inl (cB, 940, .inl f_tape)), (h_s, .inl (cI, 335, .inl f_s)), (h_names, .inl (cJ, 36, .inr (.inl f_names))), (h_reserved, .inl (cJ, 23, .inr (.inl f_reserved))), (h_planRead, .inl (cI, 24, .inl f_planRead))]) [5, 3, 0, 1, 4, 2] rfl) (hD.sub (ws' := [(h0, .inr (10, vL 67 F121)), (h_tape, .inl (cB, 940, .inl f_tape)), (h_s, .inl (cI, 335, .inl f_s)), (h_names, .inl (cJ, 36, .inr (.inl f_names))), (h_reserved, .inl (cJ, 23, .inr (.inl f_reserved))), (h_planRead, .inl (cI, 24, .inl f_planRead))]) [5, 3, 0, 1, 4, 2] (by decide) rfl) dX10_planLine_444 rfl (Nat.le_of_ble_eq_true rfl) (Nat.le_of_ble_eq_true rfl) ⟨F121, y39, y40, y41, y42, y43, 1, y41, y46, x_got, y47, x_jumped, x_heights, f_planRead, (SAME.tr (SAME.tr SAME.rf t48 (by decide)) t122 (by decide)), (SAME.at t122 (by decide) t49), t50, (SAME.at t122 (by decide) t51), t52, (SAME.at t122 (by decide) t53), (SAME.at t122 (by decide) t54), (SAME.at t122 (by decide) t55), t123, t124, (SAME.at t122 (by decide) t58), (SAME.at t122 (by decide) (SAME.at t48 (by decide) e_got)), (SAME.at t122 (by decide) t59), (SAME.at t122 (by decide) (SAME.at t48 (by decide) e_jumped)), (SAME.at t122 (by decide) (SAME.at t48 (by decide) e_heights)), s_planRead_1, s_planRead_10, (show 0 ≤ (0 : Int32).toInt ∧ (0 : Int32).toInt ≤ 1 by decide), (by have zl0 : (0 : Int32).toInt = 0 := (by decide); omega), (by have zl1 : (1 : Int32).toInt = 1 := (by decide); omega), rfl⟩
              · have dc64 : r37.toInt = 0 := eq_i (a := r37.toInt) (b := 0) rfl rfl c64
                have k126 : 0 ≤ r37.toInt ∧ r37.toInt ≤ 0 := ⟨t60.1, Int.le_trans (Int.le_of_eq dc64) (Int.le_refl _)⟩
                refine lv_iconst (v := 0) hx hb dX10_planLine_430 (by decide) ?_
                exact ret_i (v := 0) hx hb hr hlocks hS (hP.sub (ws' := [(h0, .inr (10, vL 67 F38)), (h_tape, .inl (cB, 940, .inl f_tape)), (h_s, .inl (cI, 335, .inl f_s)), (h_names, .inl (cJ, 36, .inr (.inl f_names))), (h_reserved, .inl (cJ, 23, .inr (.inl f_reserved))), (h_planRead, .inl (cI, 24, .inl f_planRead))]) [4, 5, 0, 1, 2, 3] rfl) (hD.sub (ws' := [(h0, .inr (10, vL 67 F38)), (h_tape, .inl (cB, 940, .inl f_tape)), (h_s, .inl (cI, 335, .inl f_s)), (h_names, .inl (cJ, 36, .inr (.inl f_names))), (h_reserved, .inl (cJ, 23, .inr (.inl f_reserved))), (h_planRead, .inl (cI, 24, .inl f_planRead))]) [4, 5, 0, 1, 2, 3] (by decide) rfl) dX10_planLine_431 rfl (Nat.le_of_ble_eq_true rfl) (Nat.le_of_ble_eq_true rfl) ⟨F38, y39, y40, y41, y42, y43, y44, y45, y46, x_got, y47, x_jumped, x_heights, f_planRead, (SAME.tr SAME.rf t48 (by decide)), t49, t50, t51, t52, t53, t54, t55, t56, t57, t58, (SAME.at t48 (by decide) e_got), t59, (SAME.at t48 (by decide) e_jumped), (SAME.at t48 (by decide) e_heights), s_planRead_1, s_planRead_10, (show 0 ≤ (0 : Int32).toInt ∧ (0 : Int32).toInt ≤ 1 by decide), (by have zl0 : (0 : Int32).toInt = 0 := (by decide); omega), (by omega), rfl⟩
            · have dc35 : r31.toInt = 0 := eq_i (a := r31.toInt) (b := 0) rfl rfl c35
              have k127 : 0 ≤ r31.toInt ∧ r31.toInt ≤ 0 := ⟨t32.1, Int.le_trans (Int.le_of_eq dc35) (Int.le_refl _)⟩
              refine lv_aload_n hx hb dX10_planLine_416 rfl (lv_at hl 0 rfl) ?_
              refine lv_iconst (v := 1) hx hb dX10_planLine_417 (by decide) ?_
              refine call_Vi (wr := [(h_tape, .inl (cB, 940, .inl f_tape)), (h_s, .inl (cI, 335, .inl f_s)), (h_names, .inl (cJ, 36, .inr (.inl f_names))), (h_reserved, .inl (cJ, 23, .inr (.inl f_reserved))), (h_planRead, .inl (cI, 24, .inl f_planRead))]) (As := [.int 1]) (rest := []) hx hb hml hown hw (m_X10_bad l D cI cJ cB cP cM cZ h0 Fh x_at 1 _ e_at) wV_X10_205_X10_bad dX10_planLine_418 hK hP hD hS hA [5] [0, 1, 2, 3, 4] rfl rfl (by decide) (by decide) (by decide) 0 10 rfl rfl GG.fb hG.at hl.1 rfl (Nat.le_of_ble_eq_true rfl) ⟨(Nat.le_of_ble_eq_true rfl), (Nat.le_of_ble_eq_true rfl)⟩ ⟨(Nat.le_of_ble_eq_true rfl), (Nat.le_of_ble_eq_true rfl)⟩ (fun r128 u H locs hp hP hD hS => ?_)
              have zl1 : (1 : Int32).toInt = 1 := by decide
              obtain ⟨F129, t130, t131, t132, rfl, rfl⟩ := hp
              have hP : va_P D vwCl [(h_tape, .inl (cB, 940, .inl f_tape)), (h_s, .inl (cI, 335, .inl f_s)), (h_names, .inl (cJ, 36, .inr (.inl f_names))), (h_reserved, .inl (cJ, 23, .inr (.inl f_reserved))), (h_planRead, .inl (cI, 24, .inl f_planRead)), (h0, .inr (10, vL 67 F129))] H := hP
              have hD : va_D A [(h_tape, .inl (cB, 940, .inl f_tape)), (h_s, .inl (cI, 335, .inl f_s)), (h_names, .inl (cJ, 36, .inr (.inl f_names))), (h_reserved, .inl (cJ, 23, .inr (.inl f_reserved))), (h_planRead, .inl (cI, 24, .inl f_planRead)), (h0, .inr (10, vL 67 F129))] := hD
              refine W.widen (k := 0) (n := 0) (Nat.le_of_ble_eq_true rfl) (Nat.le_of_ble_eq_true rfl) ?_
              exact ret_i (v := 0) hx hb hr hlocks hS (hP.sub (ws' := [(h0, .inr (10, vL 67 F129)), (h_tape, .inl (cB, 940, .inl f_tape)), (h_s, .inl (cI, 335, .inl f_s)), (h_names, .inl (cJ, 36, .inr (.inl f_names))), (h_reserved, .inl (cJ, 23, .inr (.inl f_reserved))), (h_planRead, .inl (cI, 24, .inl f_planRead))]) [5, 0, 1, 2, 3, 4] rfl) (hD.sub (ws' := [(h0, .inr (10, vL 67 F129)), (h_tape, .inl (cB, 940, .inl f_tape)), (h_s, .inl (cI, 335, .inl f_s)), (h_names, .inl (cJ, 36, .inr (.inl f_names))), (h_reserved, .inl (cJ, 23, .inr (.inl f_reserved))), (h_planRead, .inl (cI, 24, .inl f_planRead))]) [5, 0, 1, 2, 3, 4] (by decide) rfl) dX10_planLine_421 rfl (Nat.le_of_ble_eq_true rfl) (Nat.le_of_ble_eq_true rfl) ⟨F129, x_p, x_token, x_at, x_span, x_number, 1, x_at, x_word, x_got, x_onces, x_jumped, x_heights, f_planRead, (SAME.tr SAME.rf t130 (by decide)), (SAME.at t130 (by decide) e_p), i_x_p, (SAME.at t130 (by decide) e_token), i_x_token, (SAME.at t130 (by decide) e_at), (SAME.at t130 (by decide) e_span), (SAME.at t130 (by decide) e_number), t131, t132, (SAME.at t130 (by decide) e_word), (SAME.at t130 (by decide) e_got), (SAME.at t130 (by decide) e_onces), (SAME.at t130 (by decide) e_jumped), (SAME.at t130 (by decide) e_heights), s_planRead_1, s_planRead_10, (show 0 ≤ (0 : Int32).toInt ∧ (0 : Int32).toInt ≤ 1 by decide), (by have zl0 : (0 : Int32).toInt = 0 := (by decide); omega), (by have zl1 : (1 : Int32).toInt = 1 := (by decide); omega), rfl⟩
          · have dc29 : r25.toInt ≠ 0 := ne_i (a := r25.toInt) (b := 0) rfl rfl c29
            have k134 : 1 ≤ r25.toInt ∧ r25.toInt ≤ 1 := ⟨ne_lo dc29 t26.1 ⟨Int.le_refl _, Int.le_refl _⟩ (by decide), t26.2⟩
            refine lv_aload_n hx hb dX10_planLine_373 rfl (lv_at hl 0 rfl) ?_
            refine lv_iconst (v := 2) hx hb dX10_planLine_374 (by decide) ?_
            refine call_Vi (wr := [(h_s, .inl (cI, 335, .inl f_s)), (h_names, .inl (cJ, 36, .inr (.inl f_names))), (h_reserved, .inl (cJ, 23, .inr (.inl f_reserved))), (h_planRead, .inl (cI, 24, .inl f_planRead))]) (As := [.int 2]) (rest := []) hx hb hml hown hw (m_X10_isOnce l D cI cJ cB cP cM cZ h0 h_tape Fh x_size x_p x_limit x_token x_at x_span x_number x_fault x_faultAt x_word x_onces f_tape 2 _ e_tape e_size i_x_size e_p i_x_p e_limit i_x_limit e_token i_x_token e_at e_span e_number e_fault e_faultAt e_word e_onces (by omega)) wV_X10_239_X10_isOnce dX10_planLine_375 hK hP hD hS hA [5, 0] [1, 2, 3, 4] rfl rfl (by decide) (by decide) (by decide) 0 10 rfl rfl GG.fb hG.at hl.1 rfl (Nat.le_of_ble_eq_true rfl) ⟨(Nat.le_of_ble_eq_true rfl), (Nat.le_of_ble_eq_true rfl)⟩ ⟨(Nat.le_of_ble_eq_true rfl), (Nat.le_of_ble_eq_true rfl)⟩ (fun r135 u H locs hp hP hD hS => ?_)
            have zl2 : (2 : Int32).toInt = 2 := by decide
            refine hp.elim (fun F136 h9z => h9z.elim (fun y137 h9z => h9z.elim (fun y138 h9z => h9z.elim (fun y139 h9z => h9z.elim (fun y140 h9z => h9z.elim (fun y141 h9z => h9z.elim (fun y142 h9z => h9z.elim (fun y143 h9z => h9z.elim (fun y144 h9z => h9z.elim (fun y145 h9z => h9z.elim (fun t146 h9z => h9z.elim (fun t147 h9z => h9z.elim (fun t148 h9z => h9z.elim (fun t149 h9z => h9z.elim (fun t150 h9z => h9z.elim (fun t151 h9z => h9z.elim (fun t152 h9z => h9z.elim (fun t153 h9z => h9z.elim (fun t154 h9z => h9z.elim (fun t155 h9z => h9z.elim (fun t156 h9z => h9z.elim (fun t157 h9z => h9z.elim (fun t158 h9z => h9z.elim (fun t159 h9z => h9z.elim (fun t160 h9z => ?_)))))))))))))))))))))))))
            subst h9z
            have hP : va_P D vwCl [(h_s, .inl (cI, 335, .inl f_s)), (h_names, .inl (cJ, 36, .inr (.inl f_names))), (h_reserved, .inl (cJ, 23, .inr (.inl f_reserved))), (h_planRead, .inl (cI, 24, .inl f_planRead)), (h0, .inr (10, vL 67 F136)), (h_tape, .inl (cB, 940, .inl f_tape))] H := hP
            have hD : va_D A [(h_s, .inl (cI, 335, .inl f_s)), (h_names, .inl (cJ, 36, .inr (.inl f_names))), (h_reserved, .inl (cJ, 23, .inr (.inl f_reserved))), (h_planRead, .inl (cI, 24, .inl f_planRead)), (h0, .inr (10, vL 67 F136)), (h_tape, .inl (cB, 940, .inl f_tape))] := hD
            refine W.widen (k := 0) (n := 0) (Nat.le_of_ble_eq_true rfl) (Nat.le_of_ble_eq_true rfl) ?_
            refine lv_if_eq (tgt := 391) hx hb dX10_planLine_378 (by decide) (fun c162 => ?_) (fun c162 => ?_)
            · have dc162 : r135.toInt = 0 := eq_i (a := r135.toInt) (b := 0) rfl rfl c162
              have k163 : 0 ≤ r135.toInt ∧ r135.toInt ≤ 0 := ⟨t158.1, Int.le_trans (Int.le_of_eq dc162) (Int.le_refl _)⟩
              refine lv_iconst (v := 0) hx hb dX10_planLine_391 (by decide) ?_
              exact ret_i (v := 0) hx hb hr hlocks hS (hP.sub (ws' := [(h0, .inr (10, vL 67 F136)), (h_tape, .inl (cB, 940, .inl f_tape)), (h_s, .inl (cI, 335, .inl f_s)), (h_names, .inl (cJ, 36, .inr (.inl f_names))), (h_reserved, .inl (cJ, 23, .inr (.inl f_reserved))), (h_planRead, .inl (cI, 24, .inl f_planRead))]) [4, 5, 0, 1, 2, 3] rfl) (hD.sub (ws' := [(h0, .inr (10, vL 67 F136)), (h_tape, .inl (cB, 940, .inl f_tape)), (h_s, .inl (cI, 335, .inl f_s)), (h_names, .inl (cJ, 36, .inr (.inl f_names))), (h_reserved, .inl (cJ, 23, .inr (.inl f_reserved))), (h_planRead, .inl (cI, 24, .inl f_planRead))]) [4, 5, 0, 1, 2, 3] (by decide) rfl) dX10_planLine_392 rfl (Nat.le_of_ble_eq_true rfl) (Nat.le_of_ble_eq_true rfl) ⟨F136, y137, y138, y139, y140, y141, y142, y143, y144, x_got, y145, x_jumped, x_heights, f_planRead, (SAME.tr SAME.rf t146 (by decide)), t147, t148, t149, t150, t151, t152, t153, t154, t155, t156, (SAME.at t146 (by decide) e_got), t157, (SAME.at t146 (by decide) e_jumped), (SAME.at t146 (by decide) e_heights), s_planRead_1, s_planRead_10, (show 0 ≤ (0 : Int32).toInt ∧ (0 : Int32).toInt ≤ 1 by decide), (by have zl0 : (0 : Int32).toInt = 0 := (by decide); omega), (by omega), rfl⟩
            · have dc162 : r135.toInt ≠ 0 := ne_i (a := r135.toInt) (b := 0) rfl rfl c162
              have k164 : 1 ≤ r135.toInt ∧ r135.toInt ≤ 1 := ⟨ne_lo dc162 t158.1 ⟨Int.le_refl _, Int.le_refl _⟩ (by decide), t158.2⟩
              refine lv_aload_n hx hb dX10_planLine_381 rfl (lv_at hl 0 rfl) ?_
              refine lv_iconst (v := 1) hx hb dX10_planLine_382 (by decide) ?_
              refine lv_bipush (v := 60) hx hb dX10_planLine_383 (by decide) ?_
              have n165 : F136 1 = .ref h_tape := (SAME.at t146 (by decide) e_tape)
              have n166 : F136 3 = .int x_size := (SAME.at t146 (by decide) e_size)
              have n167 : F136 5 = .int x_limit := (SAME.at t146 (by decide) e_limit)
              refine call_Vi (wr := [(h_s, .inl (cI, 335, .inl f_s)), (h_names, .inl (cJ, 36, .inr (.inl f_names))), (h_reserved, .inl (cJ, 23, .inr (.inl f_reserved))), (h_planRead, .inl (cI, 24, .inl f_planRead))]) (As := [.int 1, .int 60]) (rest := []) hx hb hml hown hw (m_X10_takes l D cI cJ cB cP cM cZ h0 h_tape F136 x_size y137 x_limit y138 y139 y141 y144 f_tape 1 60 _ n165 n166 i_x_size t147 t148 n167 i_x_limit t149 t150 t151 t153 t156 (by omega)) wV_X10_242_X10_takes dX10_planLine_385 hK hP hD hS hA [4, 5] [0, 1, 2, 3] rfl rfl (by decide) (by decide) (by decide) 0 10 rfl rfl GG.fb hG.at hl.1 rfl (Nat.le_of_ble_eq_true rfl) ⟨(Nat.le_of_ble_eq_true rfl), (Nat.le_of_ble_eq_true rfl)⟩ ⟨(Nat.le_of_ble_eq_true rfl), (Nat.le_of_ble_eq_true rfl)⟩ (fun r168 u H locs hp hP hD hS => ?_)
              have zl1 : (1 : Int32).toInt = 1 := by decide
              have zl60 : (60 : Int32).toInt = 60 := by decide
              rcases hp with hp | hp
              · obtain ⟨F169, y170, t171, t172, t173, t174, t175, rfl, rfl⟩ := hp
                have hP : va_P D vwCl [(h_s, .inl (cI, 335, .inl f_s)), (h_names, .inl (cJ, 36, .inr (.inl f_names))), (h_reserved, .inl (cJ, 23, .inr (.inl f_reserved))), (h_planRead, .inl (cI, 24, .inl f_planRead)), (h0, .inr (10, vL 67 F169)), (h_tape, .inl (cB, 940, .inl f_tape))] H := hP
                have hD : va_D A [(h_s, .inl (cI, 335, .inl f_s)), (h_names, .inl (cJ, 36, .inr (.inl f_names))), (h_reserved, .inl (cJ, 23, .inr (.inl f_reserved))), (h_planRead, .inl (cI, 24, .inl f_planRead)), (h0, .inr (10, vL 67 F169)), (h_tape, .inl (cB, 940, .inl f_tape))] := hD
                refine W.widen (k := 0) (n := 0) (Nat.le_of_ble_eq_true rfl) (Nat.le_of_ble_eq_true rfl) ?_
                refine lv_if_ne (tgt := 393) hx hb dX10_planLine_388 (by decide) (fun g => absurd (by decide) g) (fun _ => ?_)
                refine lv_iconst (v := 0) hx hb dX10_planLine_391 (by decide) ?_
                exact ret_i (v := 0) hx hb hr hlocks hS (hP.sub (ws' := [(h0, .inr (10, vL 67 F169)), (h_tape, .inl (cB, 940, .inl f_tape)), (h_s, .inl (cI, 335, .inl f_s)), (h_names, .inl (cJ, 36, .inr (.inl f_names))), (h_reserved, .inl (cJ, 23, .inr (.inl f_reserved))), (h_planRead, .inl (cI, 24, .inl f_planRead))]) [4, 5, 0, 1, 2, 3] rfl) (hD.sub (ws' := [(h0, .inr (10, vL 67 F169)), (h_tape, .inl (cB, 940, .inl f_tape)), (h_s, .inl (cI, 335, .inl f_s)), (h_names, .inl (cJ, 36, .inr (.inl f_names))), (h_reserved, .inl (cJ, 23, .inr (.inl f_reserved))), (h_planRead, .inl (cI, 24, .inl f_planRead))]) [4, 5, 0, 1, 2, 3] (by decide) rfl) dX10_planLine_392 rfl (Nat.le_of_ble_eq_true rfl) (Nat.le_of_ble_eq_true rfl) ⟨F169, y137, y138, y139, y140, y141, y170, y139, y144, x_got, y145, x_jumped, x_heights, f_planRead, (SAME.tr (SAME.tr SAME.rf t146 (by decide)) t171 (by decide)), (SAME.at t171 (by decide) t147), t148, (SAME.at t171 (by decide) t149), t150, (SAME.at t171 (by decide) t151), (SAME.at t171 (by decide) t152), (SAME.at t171 (by decide) t153), t172, t174, (SAME.at t171 (by decide) t156), (SAME.at t171 (by decide) (SAME.at t146 (by decide) e_got)), (SAME.at t171 (by decide) t157), (SAME.at t171 (by decide) (SAME.at t146 (by decide) e_jumped)), (SAME.at t171 (by decide) (SAME.at t146 (by decide) e_heights)), s_planRead_1, s_planRead_10, (show 0 ≤ (0 : Int32).toInt ∧ (0 : Int32).toInt ≤ 1 by decide), (by have zl0 : (0 : Int32).toInt = 0 := (by decide); omega), (by omega), rfl⟩
              · refine hp.elim (fun F176 h9z => h9z.elim (fun y177 h9z => h9z.elim (fun y178 h9z => h9z.elim (fun y179 h9z => h9z.elim (fun y180 h9z => h9z.elim (fun y181 h9z => h9z.elim (fun y182 h9z => h9z.elim (fun y183 h9z => h9z.elim (fun t184 h9z => h9z.elim (fun t185 h9z => h9z.elim (fun t186 h9z => h9z.elim (fun t187 h9z => h9z.elim (fun t188 h9z => h9z.elim (fun t189 h9z => h9z.elim (fun t190 h9z => h9z.elim (fun t191 h9z => h9z.elim (fun t192 h9z => h9z.elim (fun t193 h9z => h9z.elim (fun t194 h9z => h9z.elim (fun t195 h9z => h9z.elim (fun t196 h9z => h9z.elim (fun t197 h9z => h9z.elim (fun t198 h9z => h9z.elim (fun t199 h9z => h9z.elim (fun t200 h9z => h9z.elim (fun heq925 h9z => ?_))))))))))))))))))))))))))
                subst heq925
                subst h9z
                have hP : va_P D vwCl [(h_s, .inl (cI, 335, .inl f_s)), (h_names, .inl (cJ, 36, .inr (.inl f_names))), (h_reserved, .inl (cJ, 23, .inr (.inl f_reserved))), (h_planRead, .inl (cI, 24, .inl f_planRead)), (h0, .inr (10, vL 67 F176)), (h_tape, .inl (cB, 940, .inl f_tape))] H := hP
                have hD : va_D A [(h_s, .inl (cI, 335, .inl f_s)), (h_names, .inl (cJ, 36, .inr (.inl f_names))), (h_reserved, .inl (cJ, 23, .inr (.inl f_reserved))), (h_planRead, .inl (cI, 24, .inl f_planRead)), (h0, .inr (10, vL 67 F176)), (h_tape, .inl (cB, 940, .inl f_tape))] := hD
                refine W.widen (k := 0) (n := 0) (Nat.le_of_ble_eq_true rfl) (Nat.le_of_ble_eq_true rfl) ?_
                have k202 : 2 ≤ y138.toInt ∧ y138.toInt ≤ 2 := ⟨Int.le_trans (Int.le_refl _) (Int.le_of_eq t196.symm), Int.le_trans (Int.le_of_eq t196) (Int.le_refl _)⟩
                have k203 : 1 ≤ y141.toInt ∧ y141.toInt ≤ 2147483647 := ⟨Int.le_trans (Int.le_refl _) t197, (ir_any _).2⟩
                have k204 : 1 ≤ y141.toInt ∧ y141.toInt ≤ 60 := ⟨k203.1, Int.le_trans t198 (Int.le_refl _)⟩
                refine lv_if_ne (tgt := 393) hx hb dX10_planLine_388 (by decide) (fun _ => ?_) (fun g => absurd g (by decide))
                refine lv_aload_n hx hb dX10_planLine_393 rfl (lv_at hl 0 rfl) ?_
                have n205 : F136 22 = .ref h_planRead := (SAME.at t146 (by decide) e_planRead)
                have n206 : F176 22 = .ref h_planRead := (SAME.at t184 (by decide) n205)
                refine get_f (D := D) (ci := 10) (v := .ref h_planRead) (C := RX10) (T := TX10) (N := 67) hx hb hw inAX10 hown hK hP 4 rfl rfl 22 (by decide) (hw _ q_1283) (fun _ h9 => h9) n206 dX10_planLine_394 ?_
                refine lv_bipush (v := 11) hx hb dX10_planLine_397 (by decide) ?_
                refine lv_aload_n hx hb dX10_planLine_399 rfl (lv_at hl 0 rfl) ?_
                refine get_f (D := D) (ci := 10) (v := .int y183) (C := RX10) (T := TX10) (N := 67) hx hb hw inAX10 hown hK hP 4 rfl rfl 19 (by decide) (hw _ q_1280) (fun _ h9 => h9) t195 dX10_planLine_400 ?_
                obtain ⟨g207, eg207⟩ : ∃ z : Nat → Int32, upd f_planRead 11 y183 = z := ⟨_, rfl⟩
                have r208 : SG 1 4 0 11 g207 := by rw [← eg207]; exact s_planRead_1.upN (by decide)
                have r209 : SG 10 10 0 5 g207 := by rw [← eg207]; exact s_planRead_10.upN (by decide)
                refine iast_n hx hb hK hP hD hS 3 0 rfl rfl 11 rfl (Nat.le_of_ble_eq_true rfl) (Nat.le_of_ble_eq_true rfl) eg207 dX10_planLine_403 (fun H locs hP hD hS => ?_)
                have hP : va_P D vwCl [(h_s, .inl (cI, 335, .inl f_s)), (h_names, .inl (cJ, 36, .inr (.inl f_names))), (h_reserved, .inl (cJ, 23, .inr (.inl f_reserved))), (h_planRead, .inl (cI, 24, .inl g207)), (h0, .inr (10, vL 67 F176)), (h_tape, .inl (cB, 940, .inl f_tape))] H := hP
                have hD : va_D A [(h_s, .inl (cI, 335, .inl f_s)), (h_names, .inl (cJ, 36, .inr (.inl f_names))), (h_reserved, .inl (cJ, 23, .inr (.inl f_reserved))), (h_planRead, .inl (cI, 24, .inl g207)), (h0, .inr (10, vL 67 F176)), (h_tape, .inl (cB, 940, .inl f_tape))] := hD
                refine lv_iconst (v := 1) hx hb dX10_planLine_404 (by decide) ?_
                exact ret_i (v := 1) hx hb hr hlocks hS (hP.sub (ws' := [(h0, .inr (10, vL 67 F176)), (h_tape, .inl (cB, 940, .inl f_tape)), (h_s, .inl (cI, 335, .inl f_s)), (h_names, .inl (cJ, 36, .inr (.inl f_names))), (h_reserved, .inl (cJ, 23, .inr (.inl f_reserved))), (h_planRead, .inl (cI, 24, .inl g207))]) [4, 5, 0, 1, 2, 3] rfl) (hD.sub (ws' := [(h0, .inr (10, vL 67 F176)), (h_tape, .inl (cB, 940, .inl f_tape)), (h_s, .inl (cI, 335, .inl f_s)), (h_names, .inl (cJ, 36, .inr (.inl f_names))), (h_reserved, .inl (cJ, 23, .inr (.inl f_reserved))), (h_planRead, .inl (cI, 24, .inl g207))]) [4, 5, 0, 1, 2, 3] (by decide) rfl) dX10_planLine_405 rfl (Nat.le_of_ble_eq_true rfl) (Nat.le_of_ble_eq_true rfl) ⟨F176, y177, y178, y179, y180, y181, y142, y143, y182, y183, y145, x_jumped, x_heights, g207, (SAME.tr (SAME.tr SAME.rf t146 (by decide)) t184 (by decide)), t185, t186, t187, t188, t189, t191, t193, (SAME.at t184 (by decide) t154), (SAME.at t184 (by decide) t155), t194, t195, (SAME.at t184 (by decide) t157), (SAME.at t184 (by decide) (SAME.at t146 (by decide) e_jumped)), (SAME.at t184 (by decide) (SAME.at t146 (by decide) e_heights)), r208, r209, (show 0 ≤ (1 : Int32).toInt ∧ (1 : Int32).toInt ≤ 1 by decide), (by have zl1 : (1 : Int32).toInt = 1 := (by decide); omega), (by omega), rfl⟩
        · have dc23 : r19.toInt ≠ 0 := ne_i (a := r19.toInt) (b := 0) rfl rfl c23
          have k210 : 1 ≤ r19.toInt ∧ r19.toInt ≤ 1 := ⟨ne_lo dc23 t20.1 ⟨Int.le_refl _, Int.le_refl _⟩ (by decide), t20.2⟩
          refine lv_aload_n hx hb dX10_planLine_330 rfl (lv_at hl 0 rfl) ?_
          refine lv_iconst (v := 1) hx hb dX10_planLine_331 (by decide) ?_
          refine call_Vi (wr := [(h_s, .inl (cI, 335, .inl f_s)), (h_names, .inl (cJ, 36, .inr (.inl f_names))), (h_reserved, .inl (cJ, 23, .inr (.inl f_reserved))), (h_planRead, .inl (cI, 24, .inl f_planRead))]) (As := [.int 1]) (rest := []) hx hb hml hown hw (m_X10_isOnce l D cI cJ cB cP cM cZ h0 h_tape Fh x_size x_p x_limit x_token x_at x_span x_number x_fault x_faultAt x_word x_onces f_tape 1 _ e_tape e_size i_x_size e_p i_x_p e_limit i_x_limit e_token i_x_token e_at e_span e_number e_fault e_faultAt e_word e_onces (by omega)) wV_X10_239_X10_isOnce dX10_planLine_332 hK hP hD hS hA [5, 0] [1, 2, 3, 4] rfl rfl (by decide) (by decide) (by decide) 0 10 rfl rfl GG.fb hG.at hl.1 rfl (Nat.le_of_ble_eq_true rfl) ⟨(Nat.le_of_ble_eq_true rfl), (Nat.le_of_ble_eq_true rfl)⟩ ⟨(Nat.le_of_ble_eq_true rfl), (Nat.le_of_ble_eq_true rfl)⟩ (fun r211 u H locs hp hP hD hS => ?_)
          have zl1 : (1 : Int32).toInt = 1 := by decide
          refine hp.elim (fun F212 h9z => h9z.elim (fun y213 h9z => h9z.elim (fun y214 h9z => h9z.elim (fun y215 h9z => h9z.elim (fun y216 h9z => h9z.elim (fun y217 h9z => h9z.elim (fun y218 h9z => h9z.elim (fun y219 h9z => h9z.elim (fun y220 h9z => h9z.elim (fun y221 h9z => h9z.elim (fun t222 h9z => h9z.elim (fun t223 h9z => h9z.elim (fun t224 h9z => h9z.elim (fun t225 h9z => h9z.elim (fun t226 h9z => h9z.elim (fun t227 h9z => h9z.elim (fun t228 h9z => h9z.elim (fun t229 h9z => h9z.elim (fun t230 h9z => h9z.elim (fun t231 h9z => h9z.elim (fun t232 h9z => h9z.elim (fun t233 h9z => h9z.elim (fun t234 h9z => h9z.elim (fun t235 h9z => h9z.elim (fun t236 h9z => ?_)))))))))))))))))))))))))
          subst h9z
          have hP : va_P D vwCl [(h_s, .inl (cI, 335, .inl f_s)), (h_names, .inl (cJ, 36, .inr (.inl f_names))), (h_reserved, .inl (cJ, 23, .inr (.inl f_reserved))), (h_planRead, .inl (cI, 24, .inl f_planRead)), (h0, .inr (10, vL 67 F212)), (h_tape, .inl (cB, 940, .inl f_tape))] H := hP
          have hD : va_D A [(h_s, .inl (cI, 335, .inl f_s)), (h_names, .inl (cJ, 36, .inr (.inl f_names))), (h_reserved, .inl (cJ, 23, .inr (.inl f_reserved))), (h_planRead, .inl (cI, 24, .inl f_planRead)), (h0, .inr (10, vL 67 F212)), (h_tape, .inl (cB, 940, .inl f_tape))] := hD
          refine W.widen (k := 0) (n := 0) (Nat.le_of_ble_eq_true rfl) (Nat.le_of_ble_eq_true rfl) ?_
          refine lv_if_eq (tgt := 348) hx hb dX10_planLine_335 (by decide) (fun c238 => ?_) (fun c238 => ?_)
          · have dc238 : r211.toInt = 0 := eq_i (a := r211.toInt) (b := 0) rfl rfl c238
            have k239 : 0 ≤ r211.toInt ∧ r211.toInt ≤ 0 := ⟨t234.1, Int.le_trans (Int.le_of_eq dc238) (Int.le_refl _)⟩
            refine lv_iconst (v := 0) hx hb dX10_planLine_348 (by decide) ?_
            exact ret_i (v := 0) hx hb hr hlocks hS (hP.sub (ws' := [(h0, .inr (10, vL 67 F212)), (h_tape, .inl (cB, 940, .inl f_tape)), (h_s, .inl (cI, 335, .inl f_s)), (h_names, .inl (cJ, 36, .inr (.inl f_names))), (h_reserved, .inl (cJ, 23, .inr (.inl f_reserved))), (h_planRead, .inl (cI, 24, .inl f_planRead))]) [4, 5, 0, 1, 2, 3] rfl) (hD.sub (ws' := [(h0, .inr (10, vL 67 F212)), (h_tape, .inl (cB, 940, .inl f_tape)), (h_s, .inl (cI, 335, .inl f_s)), (h_names, .inl (cJ, 36, .inr (.inl f_names))), (h_reserved, .inl (cJ, 23, .inr (.inl f_reserved))), (h_planRead, .inl (cI, 24, .inl f_planRead))]) [4, 5, 0, 1, 2, 3] (by decide) rfl) dX10_planLine_349 rfl (Nat.le_of_ble_eq_true rfl) (Nat.le_of_ble_eq_true rfl) ⟨F212, y213, y214, y215, y216, y217, y218, y219, y220, x_got, y221, x_jumped, x_heights, f_planRead, (SAME.tr SAME.rf t222 (by decide)), t223, t224, t225, t226, t227, t228, t229, t230, t231, t232, (SAME.at t222 (by decide) e_got), t233, (SAME.at t222 (by decide) e_jumped), (SAME.at t222 (by decide) e_heights), s_planRead_1, s_planRead_10, (show 0 ≤ (0 : Int32).toInt ∧ (0 : Int32).toInt ≤ 1 by decide), (by have zl0 : (0 : Int32).toInt = 0 := (by decide); omega), (by omega), rfl⟩
          · have dc238 : r211.toInt ≠ 0 := ne_i (a := r211.toInt) (b := 0) rfl rfl c238
            have k240 : 1 ≤ r211.toInt ∧ r211.toInt ≤ 1 := ⟨ne_lo dc238 t234.1 ⟨Int.le_refl _, Int.le_refl _⟩ (by decide), t234.2⟩
            refine lv_aload_n hx hb dX10_planLine_338 rfl (lv_at hl 0 rfl) ?_
            refine lv_iconst (v := 0) hx hb dX10_planLine_339 (by decide) ?_
            refine lv_bipush (v := 99) hx hb dX10_planLine_340 (by decide) ?_
            have n241 : F212 1 = .ref h_tape := (SAME.at t222 (by decide) e_tape)
            have n242 : F212 3 = .int x_size := (SAME.at t222 (by decide) e_size)
            have n243 : F212 5 = .int x_limit := (SAME.at t222 (by decide) e_limit)
            refine call_Vi (wr := [(h_s, .inl (cI, 335, .inl f_s)), (h_names, .inl (cJ, 36, .inr (.inl f_names))), (h_reserved, .inl (cJ, 23, .inr (.inl f_reserved))), (h_planRead, .inl (cI, 24, .inl f_planRead))]) (As := [.int 0, .int 99]) (rest := []) hx hb hml hown hw (m_X10_takes l D cI cJ cB cP cM cZ h0 h_tape F212 x_size y213 x_limit y214 y215 y217 y220 f_tape 0 99 _ n241 n242 i_x_size t223 t224 n243 i_x_limit t225 t226 t227 t229 t232 (by omega)) wV_X10_242_X10_takes dX10_planLine_342 hK hP hD hS hA [4, 5] [0, 1, 2, 3] rfl rfl (by decide) (by decide) (by decide) 0 10 rfl rfl GG.fb hG.at hl.1 rfl (Nat.le_of_ble_eq_true rfl) ⟨(Nat.le_of_ble_eq_true rfl), (Nat.le_of_ble_eq_true rfl)⟩ ⟨(Nat.le_of_ble_eq_true rfl), (Nat.le_of_ble_eq_true rfl)⟩ (fun r244 u H locs hp hP hD hS => ?_)
            have zl0 : (0 : Int32).toInt = 0 := by decide
            have zl99 : (99 : Int32).toInt = 99 := by decide
            rcases hp with hp | hp
            · obtain ⟨F245, y246, t247, t248, t249, t250, t251, rfl, rfl⟩ := hp
              have hP : va_P D vwCl [(h_s, .inl (cI, 335, .inl f_s)), (h_names, .inl (cJ, 36, .inr (.inl f_names))), (h_reserved, .inl (cJ, 23, .inr (.inl f_reserved))), (h_planRead, .inl (cI, 24, .inl f_planRead)), (h0, .inr (10, vL 67 F245)), (h_tape, .inl (cB, 940, .inl f_tape))] H := hP
              have hD : va_D A [(h_s, .inl (cI, 335, .inl f_s)), (h_names, .inl (cJ, 36, .inr (.inl f_names))), (h_reserved, .inl (cJ, 23, .inr (.inl f_reserved))), (h_planRead, .inl (cI, 24, .inl f_planRead)), (h0, .inr (10, vL 67 F245)), (h_tape, .inl (cB, 940, .inl f_tape))] := hD
              refine W.widen (k := 0) (n := 0) (Nat.le_of_ble_eq_true rfl) (Nat.le_of_ble_eq_true rfl) ?_
              refine lv_if_ne (tgt := 350) hx hb dX10_planLine_345 (by decide) (fun g => absurd (by decide) g) (fun _ => ?_)
              refine lv_iconst (v := 0) hx hb dX10_planLine_348 (by decide) ?_
              exact ret_i (v := 0) hx hb hr hlocks hS (hP.sub (ws' := [(h0, .inr (10, vL 67 F245)), (h_tape, .inl (cB, 940, .inl f_tape)), (h_s, .inl (cI, 335, .inl f_s)), (h_names, .inl (cJ, 36, .inr (.inl f_names))), (h_reserved, .inl (cJ, 23, .inr (.inl f_reserved))), (h_planRead, .inl (cI, 24, .inl f_planRead))]) [4, 5, 0, 1, 2, 3] rfl) (hD.sub (ws' := [(h0, .inr (10, vL 67 F245)), (h_tape, .inl (cB, 940, .inl f_tape)), (h_s, .inl (cI, 335, .inl f_s)), (h_names, .inl (cJ, 36, .inr (.inl f_names))), (h_reserved, .inl (cJ, 23, .inr (.inl f_reserved))), (h_planRead, .inl (cI, 24, .inl f_planRead))]) [4, 5, 0, 1, 2, 3] (by decide) rfl) dX10_planLine_349 rfl (Nat.le_of_ble_eq_true rfl) (Nat.le_of_ble_eq_true rfl) ⟨F245, y213, y214, y215, y216, y217, y246, y215, y220, x_got, y221, x_jumped, x_heights, f_planRead, (SAME.tr (SAME.tr SAME.rf t222 (by decide)) t247 (by decide)), (SAME.at t247 (by decide) t223), t224, (SAME.at t247 (by decide) t225), t226, (SAME.at t247 (by decide) t227), (SAME.at t247 (by decide) t228), (SAME.at t247 (by decide) t229), t248, t250, (SAME.at t247 (by decide) t232), (SAME.at t247 (by decide) (SAME.at t222 (by decide) e_got)), (SAME.at t247 (by decide) t233), (SAME.at t247 (by decide) (SAME.at t222 (by decide) e_jumped)), (SAME.at t247 (by decide) (SAME.at t222 (by decide) e_heights)), s_planRead_1, s_planRead_10, (show 0 ≤ (0 : Int32).toInt ∧ (0 : Int32).toInt ≤ 1 by decide), (by have zl0 : (0 : Int32).toInt = 0 := (by decide); omega), (by omega), rfl⟩
            · refine hp.elim (fun F252 h9z => h9z.elim (fun y253 h9z => h9z.elim (fun y254 h9z => h9z.elim (fun y255 h9z => h9z.elim (fun y256 h9z => h9z.elim (fun y257 h9z => h9z.elim (fun y258 h9z => h9z.elim (fun y259 h9z => h9z.elim (fun t260 h9z => h9z.elim (fun t261 h9z => h9z.elim (fun t262 h9z => h9z.elim (fun t263 h9z => h9z.elim (fun t264 h9z => h9z.elim (fun t265 h9z => h9z.elim (fun t266 h9z => h9z.elim (fun t267 h9z => h9z.elim (fun t268 h9z => h9z.elim (fun t269 h9z => h9z.elim (fun t270 h9z => h9z.elim (fun t271 h9z => h9z.elim (fun t272 h9z => h9z.elim (fun t273 h9z => h9z.elim (fun t274 h9z => h9z.elim (fun t275 h9z => h9z.elim (fun t276 h9z => h9z.elim (fun heq925 h9z => ?_))))))))))))))))))))))))))
              subst heq925
              subst h9z
              have hP : va_P D vwCl [(h_s, .inl (cI, 335, .inl f_s)), (h_names, .inl (cJ, 36, .inr (.inl f_names))), (h_reserved, .inl (cJ, 23, .inr (.inl f_reserved))), (h_planRead, .inl (cI, 24, .inl f_planRead)), (h0, .inr (10, vL 67 F252)), (h_tape, .inl (cB, 940, .inl f_tape))] H := hP
              have hD : va_D A [(h_s, .inl (cI, 335, .inl f_s)), (h_names, .inl (cJ, 36, .inr (.inl f_names))), (h_reserved, .inl (cJ, 23, .inr (.inl f_reserved))), (h_planRead, .inl (cI, 24, .inl f_planRead)), (h0, .inr (10, vL 67 F252)), (h_tape, .inl (cB, 940, .inl f_tape))] := hD
              refine W.widen (k := 0) (n := 0) (Nat.le_of_ble_eq_true rfl) (Nat.le_of_ble_eq_true rfl) ?_
              have k278 : 2 ≤ y214.toInt ∧ y214.toInt ≤ 2 := ⟨Int.le_trans (Int.le_refl _) (Int.le_of_eq t272.symm), Int.le_trans (Int.le_of_eq t272) (Int.le_refl _)⟩
              have k279 : 0 ≤ y217.toInt ∧ y217.toInt ≤ 2147483647 := ⟨Int.le_trans (Int.le_refl _) t273, (ir_any _).2⟩
              have k280 : 0 ≤ y217.toInt ∧ y217.toInt ≤ 99 := ⟨k279.1, Int.le_trans t274 (Int.le_refl _)⟩
              refine lv_if_ne (tgt := 350) hx hb dX10_planLine_345 (by decide) (fun _ => ?_) (fun g => absurd g (by decide))
              refine lv_aload_n hx hb dX10_planLine_350 rfl (lv_at hl 0 rfl) ?_
              have n281 : F212 22 = .ref h_planRead := (SAME.at t222 (by decide) e_planRead)
              have n282 : F252 22 = .ref h_planRead := (SAME.at t260 (by decide) n281)
              refine get_f (D := D) (ci := 10) (v := .ref h_planRead) (C := RX10) (T := TX10) (N := 67) hx hb hw inAX10 hown hK hP 4 rfl rfl 22 (by decide) (hw _ q_1283) (fun _ h9 => h9) n282 dX10_planLine_351 ?_
              refine lv_bipush (v := 9) hx hb dX10_planLine_354 (by decide) ?_
              refine lv_aload_n hx hb dX10_planLine_356 rfl (lv_at hl 0 rfl) ?_
              refine get_f (D := D) (ci := 10) (v := .int y259) (C := RX10) (T := TX10) (N := 67) hx hb hw inAX10 hown hK hP 4 rfl rfl 19 (by decide) (hw _ q_1280) (fun _ h9 => h9) t271 dX10_planLine_357 ?_
              obtain ⟨g283, eg283⟩ : ∃ z : Nat → Int32, upd f_planRead 9 y259 = z := ⟨_, rfl⟩
              have r284 : SG 1 4 0 11 g283 := by rw [← eg283]; exact s_planRead_1.upN (by decide)
              have r285 : SG 10 10 0 5 g283 := by rw [← eg283]; exact s_planRead_10.upN (by decide)
              refine iast_n hx hb hK hP hD hS 3 0 rfl rfl 9 rfl (Nat.le_of_ble_eq_true rfl) (Nat.le_of_ble_eq_true rfl) eg283 dX10_planLine_360 (fun H locs hP hD hS => ?_)
              have hP : va_P D vwCl [(h_s, .inl (cI, 335, .inl f_s)), (h_names, .inl (cJ, 36, .inr (.inl f_names))), (h_reserved, .inl (cJ, 23, .inr (.inl f_reserved))), (h_planRead, .inl (cI, 24, .inl g283)), (h0, .inr (10, vL 67 F252)), (h_tape, .inl (cB, 940, .inl f_tape))] H := hP
              have hD : va_D A [(h_s, .inl (cI, 335, .inl f_s)), (h_names, .inl (cJ, 36, .inr (.inl f_names))), (h_reserved, .inl (cJ, 23, .inr (.inl f_reserved))), (h_planRead, .inl (cI, 24, .inl g283)), (h0, .inr (10, vL 67 F252)), (h_tape, .inl (cB, 940, .inl f_tape))] := hD
              refine lv_iconst (v := 1) hx hb dX10_planLine_361 (by decide) ?_
              exact ret_i (v := 1) hx hb hr hlocks hS (hP.sub (ws' := [(h0, .inr (10, vL 67 F252)), (h_tape, .inl (cB, 940, .inl f_tape)), (h_s, .inl (cI, 335, .inl f_s)), (h_names, .inl (cJ, 36, .inr (.inl f_names))), (h_reserved, .inl (cJ, 23, .inr (.inl f_reserved))), (h_planRead, .inl (cI, 24, .inl g283))]) [4, 5, 0, 1, 2, 3] rfl) (hD.sub (ws' := [(h0, .inr (10, vL 67 F252)), (h_tape, .inl (cB, 940, .inl f_tape)), (h_s, .inl (cI, 335, .inl f_s)), (h_names, .inl (cJ, 36, .inr (.inl f_names))), (h_reserved, .inl (cJ, 23, .inr (.inl f_reserved))), (h_planRead, .inl (cI, 24, .inl g283))]) [4, 5, 0, 1, 2, 3] (by decide) rfl) dX10_planLine_362 rfl (Nat.le_of_ble_eq_true rfl) (Nat.le_of_ble_eq_true rfl) ⟨F252, y253, y254, y255, y256, y257, y218, y219, y258, y259, y221, x_jumped, x_heights, g283, (SAME.tr (SAME.tr SAME.rf t222 (by decide)) t260 (by decide)), t261, t262, t263, t264, t265, t267, t269, (SAME.at t260 (by decide) t230), (SAME.at t260 (by decide) t231), t270, t271, (SAME.at t260 (by decide) t233), (SAME.at t260 (by decide) (SAME.at t222 (by decide) e_jumped)), (SAME.at t260 (by decide) (SAME.at t222 (by decide) e_heights)), r284, r285, (show 0 ≤ (1 : Int32).toInt ∧ (1 : Int32).toInt ≤ 1 by decide), (by have zl1 : (1 : Int32).toInt = 1 := (by decide); omega), (by omega), rfl⟩
      · have dc17 : r13.toInt ≠ 0 := ne_i (a := r13.toInt) (b := 0) rfl rfl c17
        have k286 : 1 ≤ r13.toInt ∧ r13.toInt ≤ 1 := ⟨ne_lo dc17 t14.1 ⟨Int.le_refl _, Int.le_refl _⟩ (by decide), t14.2⟩
        refine lv_aload_n hx hb dX10_planLine_211 rfl (lv_at hl 0 rfl) ?_
        refine call_Vv (wr := [(h_s, .inl (cI, 335, .inl f_s)), (h_names, .inl (cJ, 36, .inr (.inl f_names))), (h_reserved, .inl (cJ, 23, .inr (.inl f_reserved))), (h_planRead, .inl (cI, 24, .inl f_planRead))]) (As := []) (rest := []) hx hb hml hown hw (m_X10_next l D cI cJ cB cP cM cZ h0 h_tape Fh x_size x_p x_limit x_token x_number x_word f_tape _ e_tape e_size i_x_size e_p i_x_p e_limit i_x_limit e_token i_x_token e_number e_word (by omega)) wV_X10_208_X10_next dX10_planLine_212 hK hP hD hS hA [5, 0] [1, 2, 3, 4] rfl rfl (by decide) (by decide) (by decide) 0 10 rfl rfl GG.fb hG.at hl.1 rfl (Nat.le_of_ble_eq_true rfl) ⟨(Nat.le_of_ble_eq_true rfl), (Nat.le_of_ble_eq_true rfl)⟩ ⟨(Nat.le_of_ble_eq_true rfl), (Nat.le_of_ble_eq_true rfl)⟩ (fun u H locs hp hP hD hS => ?_)
        obtain ⟨F288, y289, y290, y291, y292, y293, y294, t295, t296, t297, t298, t299, t300, t301, t302, t303, t304, t305, t306, t307, t308, rfl⟩ := hp
        have hP : va_P D vwCl [(h_s, .inl (cI, 335, .inl f_s)), (h_names, .inl (cJ, 36, .inr (.inl f_names))), (h_reserved, .inl (cJ, 23, .inr (.inl f_reserved))), (h_planRead, .inl (cI, 24, .inl f_planRead)), (h0, .inr (10, vL 67 F288)), (h_tape, .inl (cB, 940, .inl f_tape))] H := hP
        have hD : va_D A [(h_s, .inl (cI, 335, .inl f_s)), (h_names, .inl (cJ, 36, .inr (.inl f_names))), (h_reserved, .inl (cJ, 23, .inr (.inl f_reserved))), (h_planRead, .inl (cI, 24, .inl f_planRead)), (h0, .inr (10, vL 67 F288)), (h_tape, .inl (cB, 940, .inl f_tape))] := hD
        refine W.widen (k := 0) (n := 0) (Nat.le_of_ble_eq_true rfl) (Nat.le_of_ble_eq_true rfl) ?_
        refine lv_aload_n hx hb dX10_planLine_215 rfl (lv_at hl 0 rfl) ?_
        refine get_f (D := D) (ci := 10) (v := .int y290) (C := RX10) (T := TX10) (N := 67) hx hb hw inAX10 hown hK hP 4 rfl rfl 11 (by decide) (hw _ q_1272) (fun _ h9 => h9) t298 dX10_planLine_216 ?_
        refine lv_iconst (v := 2) hx hb dX10_planLine_219 (by decide) ?_
        refine lv_icmp_eq (tgt := 229) hx hb dX10_planLine_220 (by decide) (fun c310 => ?_) (fun c310 => ?_)
        · have dc310 : y290.toInt = 2 := eq_i (a := y290.toInt) (b := 2) rfl rfl c310
          have k311 : 2 ≤ y290.toInt ∧ y290.toInt ≤ 2 := ⟨Int.le_trans (Int.le_refl _) (Int.le_of_eq dc310.symm), Int.le_trans (Int.le_of_eq dc310) (Int.le_refl _)⟩
          refine lv_aload_n hx hb dX10_planLine_229 rfl (lv_at hl 0 rfl) ?_
          refine get_f (D := D) (ci := 10) (v := .int y293) (C := RX10) (T := TX10) (N := 67) hx hb hw inAX10 hown hK hP 4 rfl rfl 14 (by decide) (hw _ q_1275) (fun _ h9 => h9) t304 dX10_planLine_230 ?_
          refine lv_aload_n hx hb dX10_planLine_233 rfl (lv_at hl 0 rfl) ?_
          have n312 : F288 6 = .ref h_s := (SAME.at t295 (by decide) e_s)
          refine get_f (D := D) (ci := 10) (v := .ref h_s) (C := RX10) (T := TX10) (N := 67) hx hb hw inAX10 hown hK hP 4 rfl rfl 6 (by decide) (hw _ q_1267) (fun _ h9 => h9) n312 dX10_planLine_234 ?_
          refine lv_bipush (v := 6) hx hb dX10_planLine_237 (by decide) ?_
          refine iald_n hx hb hK hP 0 0 rfl rfl 6 rfl (Nat.le_of_ble_eq_true rfl) (Nat.le_of_ble_eq_true rfl) rfl dX10_planLine_239 ?_
          refine lv_topi (fun v313 ev313 => ?_)
          have k314 : 0 ≤ v313.toInt ∧ v313.toInt ≤ 12 := by rw [ev313]; exact s_s_6.atN 6 (by decide) (by decide)
          refine lv_icmp_lt (tgt := 249) hx hb dX10_planLine_240 (by decide) (fun c315 => ?_) (fun c315 => ?_)
          · have dc315 : y293.toInt < v313.toInt := lt_i (a := y293.toInt) (b := v313.toInt) rfl rfl c315
            have k316 : (-2147483648) ≤ y293.toInt ∧ y293.toInt ≤ 11 := ⟨(ir_any _).1, up_lt dc315 k314.2 (by decide)⟩
            refine lv_aload_n hx hb dX10_planLine_249 rfl (lv_at hl 0 rfl) ?_
            have n317 : F288 24 = .int x_heights := (SAME.at t295 (by decide) e_heights)
            refine get_f (D := D) (ci := 10) (v := .int x_heights) (C := RX10) (T := TX10) (N := 67) hx hb hw inAX10 hown hK hP 4 rfl rfl 24 (by decide) (hw _ q_1285) (fun _ h9 => h9) n317 dX10_planLine_250 ?_
            refine lv_aload_n hx hb dX10_planLine_253 rfl (lv_at hl 0 rfl) ?_
            refine get_f (D := D) (ci := 10) (v := .int y293) (C := RX10) (T := TX10) (N := 67) hx hb hw inAX10 hown hK hP 4 rfl rfl 14 (by decide) (hw _ q_1275) (fun _ h9 => h9) t304 dX10_planLine_254 ?_
            refine call_Si (wr := [(h_s, .inl (cI, 335, .inl f_s)), (h_names, .inl (cJ, 36, .inr (.inl f_names))), (h_reserved, .inl (cJ, 23, .inr (.inl f_reserved))), (h_planRead, .inl (cI, 24, .inl f_planRead)), (h0, .inr (10, vL 67 F288)), (h_tape, .inl (cB, 940, .inl f_tape))]) (As := [.int x_heights, .int y293]) (rest := []) hx hb hml hown hw (m_X10_bitOf l D cI cJ cB cP cM cZ x_heights y293 _ ) wS_X10_232_X10_bitOf dX10_planLine_257 hP hD hS hA [] [0, 1, 2, 3, 4, 5] rfl rfl (by decide) (by decide) (by decide) GG.fb hG.at hl.1 rfl (Nat.le_of_ble_eq_true rfl) ⟨(Nat.le_of_ble_eq_true rfl), (Nat.le_of_ble_eq_true rfl)⟩ ⟨(Nat.le_of_ble_eq_true rfl), (Nat.le_of_ble_eq_true rfl)⟩ (fun r318 u H locs hp hP hD hS => ?_)
            rcases hp with ⟨rfl, rfl⟩ | ⟨rfl, rfl⟩
            · have hP : va_P D vwCl [(h_s, .inl (cI, 335, .inl f_s)), (h_names, .inl (cJ, 36, .inr (.inl f_names))), (h_reserved, .inl (cJ, 23, .inr (.inl f_reserved))), (h_planRead, .inl (cI, 24, .inl f_planRead)), (h0, .inr (10, vL 67 F288)), (h_tape, .inl (cB, 940, .inl f_tape))] H := hP
              have hD : va_D A [(h_s, .inl (cI, 335, .inl f_s)), (h_names, .inl (cJ, 36, .inr (.inl f_names))), (h_reserved, .inl (cJ, 23, .inr (.inl f_reserved))), (h_planRead, .inl (cI, 24, .inl f_planRead)), (h0, .inr (10, vL 67 F288)), (h_tape, .inl (cB, 940, .inl f_tape))] := hD
              refine W.widen (k := 0) (n := 0) (Nat.le_of_ble_eq_true rfl) (Nat.le_of_ble_eq_true rfl) ?_
              refine lv_if_eq (tgt := 269) hx hb dX10_planLine_260 (by decide) (fun _ => ?_) (fun g => absurd (by decide) g)
              refine lv_aload_n hx hb dX10_planLine_269 rfl (lv_at hl 0 rfl) ?_
              refine lv_dup hx hb dX10_planLine_270 rfl ?_
              refine get_f (D := D) (ci := 10) (v := .int x_heights) (C := RX10) (T := TX10) (N := 67) hx hb hw inAX10 hown hK hP 4 rfl rfl 24 (by decide) (hw _ q_1285) (fun _ h9 => h9) n317 dX10_planLine_271 ?_
              refine lv_iconst (v := 1) hx hb dX10_planLine_274 (by decide) ?_
              refine lv_aload_n hx hb dX10_planLine_275 rfl (lv_at hl 0 rfl) ?_
              refine get_f (D := D) (ci := 10) (v := .int y293) (C := RX10) (T := TX10) (N := 67) hx hb hw inAX10 hown hK hP 4 rfl rfl 14 (by decide) (hw _ q_1275) (fun _ h9 => h9) t304 dX10_planLine_276 ?_
              refine lv_ishl hx hb dX10_planLine_279 ?_
              refine lv_topi (fun v320 ev320 => ?_)
              refine lv_ior hx hb dX10_planLine_280 ?_
              refine lv_topi (fun v321 ev321 => ?_)
              refine put_f (D := D) (ci := 10) (v := .int v321) (ty := .int) (C := RX10) (T := TX10) (N := 67) hx hb hw inAX10 tyX10 tyX10_ok nmX10 hown hK hP hD hS 4 rfl rfl 24 (by decide) (hw _ q_1285) (fun _ h9 => h9) rfl (by decide +kernel) rfl rfl dX10_planLine_281 (fun H locs F322 eF322 hP hD hS => ?_)
              have hP : va_P D vwCl [(h_s, .inl (cI, 335, .inl f_s)), (h_names, .inl (cJ, 36, .inr (.inl f_names))), (h_reserved, .inl (cJ, 23, .inr (.inl f_reserved))), (h_planRead, .inl (cI, 24, .inl f_planRead)), (h0, .inr (10, vL 67 F322)), (h_tape, .inl (cB, 940, .inl f_tape))] H := hP
              have hD : va_D A [(h_s, .inl (cI, 335, .inl f_s)), (h_names, .inl (cJ, 36, .inr (.inl f_names))), (h_reserved, .inl (cJ, 23, .inr (.inl f_reserved))), (h_planRead, .inl (cI, 24, .inl f_planRead)), (h0, .inr (10, vL 67 F322)), (h_tape, .inl (cB, 940, .inl f_tape))] := hD
              refine lv_aload_n hx hb dX10_planLine_284 rfl (lv_at hl 0 rfl) ?_
              have n323 : F322 14 = .int y293 := (get_ne eF322 (by decide) t304)
              refine get_f (D := D) (ci := 10) (v := .int y293) (C := RX10) (T := TX10) (N := 67) hx hb hw inAX10 hown hK hP 4 rfl rfl 14 (by decide) (hw _ q_1275) (fun _ h9 => h9) n323 dX10_planLine_285 ?_
              refine lv_istore_n (lv' := [(1, .int y293), (0, .ref h0)]) hx hb dX10_planLine_288 rfl hl (by decide) rfl (fun ls hl => ?_)
              refine lv_aload_n hx hb dX10_planLine_289 rfl (lv_at hl 1 rfl) ?_
              have n324 : F288 1 = .ref h_tape := (SAME.at t295 (by decide) e_tape)
              have n325 : F322 1 = .ref h_tape := (get_ne eF322 (by decide) n324)
              have n326 : F288 3 = .int x_size := (SAME.at t295 (by decide) e_size)
              have n327 : F322 3 = .int x_size := (get_ne eF322 (by decide) n326)
              have n328 : F322 4 = .int y289 := (get_ne eF322 (by decide) t296)
              have n329 : F288 5 = .int x_limit := (SAME.at t295 (by decide) e_limit)
              have n330 : F322 5 = .int x_limit := (get_ne eF322 (by decide) n329)
              have n331 : F322 11 = .int y290 := (get_ne eF322 (by decide) t298)
              have n332 : F322 18 = .long y294 := (get_ne eF322 (by decide) t305)
              refine call_Vv (wr := [(h_s, .inl (cI, 335, .inl f_s)), (h_names, .inl (cJ, 36, .inr (.inl f_names))), (h_reserved, .inl (cJ, 23, .inr (.inl f_reserved))), (h_planRead, .inl (cI, 24, .inl f_planRead))]) (As := []) (rest := []) hx hb hml hown hw (m_X10_next l D cI cJ cB cP cM cZ h0 h_tape F322 x_size y289 x_limit y290 y293 y294 f_tape _ n325 n327 i_x_size n328 t297 n330 i_x_limit n331 (ir_wk k311 (by decide) (by decide)) n323 n332 (by omega)) wV_X10_208_X10_next dX10_planLine_290 hK hP hD hS hA [4, 5] [0, 1, 2, 3] rfl rfl (by decide) (by decide) (by decide) 0 10 rfl rfl GG.fb hG.at hl.1 rfl (Nat.le_of_ble_eq_true rfl) ⟨(Nat.le_of_ble_eq_true rfl), (Nat.le_of_ble_eq_true rfl)⟩ ⟨(Nat.le_of_ble_eq_true rfl), (Nat.le_of_ble_eq_true rfl)⟩ (fun u H locs hp hP hD hS => ?_)
              obtain ⟨F334, y335, y336, y337, y338, y339, y340, t341, t342, t343, t344, t345, t346, t347, t348, t349, t350, t351, t352, t353, t354, rfl⟩ := hp
              have hP : va_P D vwCl [(h_s, .inl (cI, 335, .inl f_s)), (h_names, .inl (cJ, 36, .inr (.inl f_names))), (h_reserved, .inl (cJ, 23, .inr (.inl f_reserved))), (h_planRead, .inl (cI, 24, .inl f_planRead)), (h0, .inr (10, vL 67 F334)), (h_tape, .inl (cB, 940, .inl f_tape))] H := hP
              have hD : va_D A [(h_s, .inl (cI, 335, .inl f_s)), (h_names, .inl (cJ, 36, .inr (.inl f_names))), (h_reserved, .inl (cJ, 23, .inr (.inl f_reserved))), (h_planRead, .inl (cI, 24, .inl f_planRead)), (h0, .inr (10, vL 67 F334)), (h_tape, .inl (cB, 940, .inl f_tape))] := hD
              refine W.widen (k := 0) (n := 0) (Nat.le_of_ble_eq_true rfl) (Nat.le_of_ble_eq_true rfl) ?_
              refine lv_aload_n hx hb dX10_planLine_293 rfl (lv_at hl 1 rfl) ?_
              refine lv_iconst (v := 0) hx hb dX10_planLine_294 (by decide) ?_
              refine lv_bipush (v := 9) hx hb dX10_planLine_295 (by decide) ?_
              have n356 : F334 1 = .ref h_tape := (SAME.at t341 (by decide) n325)
              have n357 : F334 3 = .int x_size := (SAME.at t341 (by decide) n327)
              have n358 : F334 5 = .int x_limit := (SAME.at t341 (by decide) n330)
              refine call_Vi (wr := [(h_s, .inl (cI, 335, .inl f_s)), (h_names, .inl (cJ, 36, .inr (.inl f_names))), (h_reserved, .inl (cJ, 23, .inr (.inl f_reserved))), (h_planRead, .inl (cI, 24, .inl f_planRead))]) (As := [.int 0, .int 9]) (rest := []) hx hb hml hown hw (m_X10_takes l D cI cJ cB cP cM cZ h0 h_tape F334 x_size y335 x_limit y336 y337 y339 y340 f_tape 0 9 _ n356 n357 i_x_size t342 t343 n358 i_x_limit t344 t345 t346 t350 t351 (by omega)) wV_X10_242_X10_takes dX10_planLine_297 hK hP hD hS hA [4, 5] [0, 1, 2, 3] rfl rfl (by decide) (by decide) (by decide) 0 10 rfl rfl GG.fb hG.at hl.1 rfl (Nat.le_of_ble_eq_true rfl) ⟨(Nat.le_of_ble_eq_true rfl), (Nat.le_of_ble_eq_true rfl)⟩ ⟨(Nat.le_of_ble_eq_true rfl), (Nat.le_of_ble_eq_true rfl)⟩ (fun r359 u H locs hp hP hD hS => ?_)
              have zl0 : (0 : Int32).toInt = 0 := by decide
              have zl9 : (9 : Int32).toInt = 9 := by decide
              rcases hp with hp | hp
              · obtain ⟨F360, y361, t362, t363, t364, t365, t366, rfl, rfl⟩ := hp
                have hP : va_P D vwCl [(h_s, .inl (cI, 335, .inl f_s)), (h_names, .inl (cJ, 36, .inr (.inl f_names))), (h_reserved, .inl (cJ, 23, .inr (.inl f_reserved))), (h_planRead, .inl (cI, 24, .inl f_planRead)), (h0, .inr (10, vL 67 F360)), (h_tape, .inl (cB, 940, .inl f_tape))] H := hP
                have hD : va_D A [(h_s, .inl (cI, 335, .inl f_s)), (h_names, .inl (cJ, 36, .inr (.inl f_names))), (h_reserved, .inl (cJ, 23, .inr (.inl f_reserved))), (h_planRead, .inl (cI, 24, .inl f_planRead)), (h0, .inr (10, vL 67 F360)), (h_tape, .inl (cB, 940, .inl f_tape))] := hD
                refine W.widen (k := 0) (n := 0) (Nat.le_of_ble_eq_true rfl) (Nat.le_of_ble_eq_true rfl) ?_
                refine lv_if_ne (tgt := 305) hx hb dX10_planLine_300 (by decide) (fun g => absurd (by decide) g) (fun _ => ?_)
                refine lv_iconst (v := 0) hx hb dX10_planLine_303 (by decide) ?_
                exact ret_i (v := 0) hx hb hr hlocks hS (hP.sub (ws' := [(h0, .inr (10, vL 67 F360)), (h_tape, .inl (cB, 940, .inl f_tape)), (h_s, .inl (cI, 335, .inl f_s)), (h_names, .inl (cJ, 36, .inr (.inl f_names))), (h_reserved, .inl (cJ, 23, .inr (.inl f_reserved))), (h_planRead, .inl (cI, 24, .inl f_planRead))]) [4, 5, 0, 1, 2, 3] rfl) (hD.sub (ws' := [(h0, .inr (10, vL 67 F360)), (h_tape, .inl (cB, 940, .inl f_tape)), (h_s, .inl (cI, 335, .inl f_s)), (h_names, .inl (cJ, 36, .inr (.inl f_names))), (h_reserved, .inl (cJ, 23, .inr (.inl f_reserved))), (h_planRead, .inl (cI, 24, .inl f_planRead))]) [4, 5, 0, 1, 2, 3] (by decide) rfl) dX10_planLine_304 rfl (Nat.le_of_ble_eq_true rfl) (Nat.le_of_ble_eq_true rfl) ⟨F360, y335, y336, y337, y338, y339, y361, y337, y340, x_got, x_onces, x_jumped, v321, f_planRead, (SAME.tr (SAME.tr (SAME.up eF322 (SAME.tr SAME.rf t295 (by decide)) (by decide)) t341 (by decide)) t362 (by decide)), (SAME.at t362 (by decide) t342), t343, (SAME.at t362 (by decide) t344), t345, (SAME.at t362 (by decide) t346), (SAME.at t362 (by decide) t348), (SAME.at t362 (by decide) t350), t363, t365, (SAME.at t362 (by decide) t351), (SAME.at t362 (by decide) (SAME.at t341 (by decide) (get_ne eF322 (by decide) (SAME.at t295 (by decide) e_got)))), (SAME.at t362 (by decide) (SAME.at t341 (by decide) (get_ne eF322 (by decide) (SAME.at t295 (by decide) e_onces)))), (SAME.at t362 (by decide) (SAME.at t341 (by decide) (get_ne eF322 (by decide) (SAME.at t295 (by decide) e_jumped)))), (SAME.at t362 (by decide) (SAME.at t341 (by decide) (get_eq eF322))), s_planRead_1, s_planRead_10, (show 0 ≤ (0 : Int32).toInt ∧ (0 : Int32).toInt ≤ 1 by decide), (by have zl0 : (0 : Int32).toInt = 0 := (by decide); omega), (by omega), rfl⟩
              · refine hp.elim (fun F367 h9z => h9z.elim (fun y368 h9z => h9z.elim (fun y369 h9z => h9z.elim (fun y370 h9z => h9z.elim (fun y371 h9z => h9z.elim (fun y372 h9z => h9z.elim (fun y373 h9z => h9z.elim (fun y374 h9z => h9z.elim (fun t375 h9z => h9z.elim (fun t376 h9z => h9z.elim (fun t377 h9z => h9z.elim (fun t378 h9z => h9z.elim (fun t379 h9z => h9z.elim (fun t380 h9z => h9z.elim (fun t381 h9z => h9z.elim (fun t382 h9z => h9z.elim (fun t383 h9z => h9z.elim (fun t384 h9z => h9z.elim (fun t385 h9z => h9z.elim (fun t386 h9z => h9z.elim (fun t387 h9z => h9z.elim (fun t388 h9z => h9z.elim (fun t389 h9z => h9z.elim (fun t390 h9z => h9z.elim (fun t391 h9z => h9z.elim (fun heq925 h9z => ?_))))))))))))))))))))))))))
                subst heq925
                subst h9z
                have hP : va_P D vwCl [(h_s, .inl (cI, 335, .inl f_s)), (h_names, .inl (cJ, 36, .inr (.inl f_names))), (h_reserved, .inl (cJ, 23, .inr (.inl f_reserved))), (h_planRead, .inl (cI, 24, .inl f_planRead)), (h0, .inr (10, vL 67 F367)), (h_tape, .inl (cB, 940, .inl f_tape))] H := hP
                have hD : va_D A [(h_s, .inl (cI, 335, .inl f_s)), (h_names, .inl (cJ, 36, .inr (.inl f_names))), (h_reserved, .inl (cJ, 23, .inr (.inl f_reserved))), (h_planRead, .inl (cI, 24, .inl f_planRead)), (h0, .inr (10, vL 67 F367)), (h_tape, .inl (cB, 940, .inl f_tape))] := hD
                refine W.widen (k := 0) (n := 0) (Nat.le_of_ble_eq_true rfl) (Nat.le_of_ble_eq_true rfl) ?_
                have k393 : 2 ≤ y336.toInt ∧ y336.toInt ≤ 2 := ⟨Int.le_trans (Int.le_refl _) (Int.le_of_eq t387.symm), Int.le_trans (Int.le_of_eq t387) (Int.le_refl _)⟩
                have k394 : 0 ≤ y339.toInt ∧ y339.toInt ≤ 2147483647 := ⟨Int.le_trans (Int.le_refl _) t388, (ir_any _).2⟩
                have k395 : 0 ≤ y339.toInt ∧ y339.toInt ≤ 9 := ⟨k394.1, Int.le_trans t389 (Int.le_refl _)⟩
                refine lv_if_ne (tgt := 305) hx hb dX10_planLine_300 (by decide) (fun _ => ?_) (fun g => absurd g (by decide))
                refine lv_aload_n hx hb dX10_planLine_305 rfl (lv_at hl 1 rfl) ?_
                have n396 : F288 22 = .ref h_planRead := (SAME.at t295 (by decide) e_planRead)
                have n397 : F322 22 = .ref h_planRead := (get_ne eF322 (by decide) n396)
                have n398 : F334 22 = .ref h_planRead := (SAME.at t341 (by decide) n397)
                have n399 : F367 22 = .ref h_planRead := (SAME.at t375 (by decide) n398)
                refine get_f (D := D) (ci := 10) (v := .ref h_planRead) (C := RX10) (T := TX10) (N := 67) hx hb hw inAX10 hown hK hP 4 rfl rfl 22 (by decide) (hw _ q_1283) (fun _ h9 => h9) n399 dX10_planLine_306 ?_
                refine lv_bipush (v := 12) hx hb dX10_planLine_309 (by decide) ?_
                refine lv_iload_n hx hb dX10_planLine_311 rfl (lv_at hl 0 rfl) ?_
                refine lv_iadd hx hb dX10_planLine_312 ?_
                refine lv_topi (fun v400 ev400 => ?_)
                have bv400 : v400.toInt = 12 + y293.toInt := by rw [ev400]; exact add_k rfl rfl ⟨Int.le_refl _, Int.le_refl _⟩ k316 (by decide)
                have k401 : (-2147483636) ≤ v400.toInt ∧ v400.toInt ≤ 23 := add_r bv400 ⟨Int.le_refl _, Int.le_refl _⟩ k316 (by decide)
                refine lv_aload_n hx hb dX10_planLine_313 rfl (lv_at hl 1 rfl) ?_
                refine get_f (D := D) (ci := 10) (v := .int y374) (C := RX10) (T := TX10) (N := 67) hx hb hw inAX10 hown hK hP 4 rfl rfl 19 (by decide) (hw _ q_1280) (fun _ h9 => h9) t386 dX10_planLine_314 ?_
                obtain ⟨g402, eg402⟩ : ∃ z : Nat → Int32, upd f_planRead v400.toNatClampNeg y374 = z := ⟨_, rfl⟩
                have r403 : SG 1 4 0 11 g402 := by rw [← eg402]; exact s_planRead_1.up (by omega) (by omega)
                have r404 : SG 10 10 0 5 g402 := by rw [← eg402]; exact s_planRead_10.up (by omega) (by omega)
                refine iast_g hx hb hK hP hD hS 3 0 rfl rfl (ix_i (by omega) (by omega)) eg402 dX10_planLine_317 (fun H locs hP hD hS => ?_)
                have hP : va_P D vwCl [(h_s, .inl (cI, 335, .inl f_s)), (h_names, .inl (cJ, 36, .inr (.inl f_names))), (h_reserved, .inl (cJ, 23, .inr (.inl f_reserved))), (h_planRead, .inl (cI, 24, .inl g402)), (h0, .inr (10, vL 67 F367)), (h_tape, .inl (cB, 940, .inl f_tape))] H := hP
                have hD : va_D A [(h_s, .inl (cI, 335, .inl f_s)), (h_names, .inl (cJ, 36, .inr (.inl f_names))), (h_reserved, .inl (cJ, 23, .inr (.inl f_reserved))), (h_planRead, .inl (cI, 24, .inl g402)), (h0, .inr (10, vL 67 F367)), (h_tape, .inl (cB, 940, .inl f_tape))] := hD
                refine lv_iconst (v := 1) hx hb dX10_planLine_318 (by decide) ?_
                exact ret_i (v := 1) hx hb hr hlocks hS (hP.sub (ws' := [(h0, .inr (10, vL 67 F367)), (h_tape, .inl (cB, 940, .inl f_tape)), (h_s, .inl (cI, 335, .inl f_s)), (h_names, .inl (cJ, 36, .inr (.inl f_names))), (h_reserved, .inl (cJ, 23, .inr (.inl f_reserved))), (h_planRead, .inl (cI, 24, .inl g402))]) [4, 5, 0, 1, 2, 3] rfl) (hD.sub (ws' := [(h0, .inr (10, vL 67 F367)), (h_tape, .inl (cB, 940, .inl f_tape)), (h_s, .inl (cI, 335, .inl f_s)), (h_names, .inl (cJ, 36, .inr (.inl f_names))), (h_reserved, .inl (cJ, 23, .inr (.inl f_reserved))), (h_planRead, .inl (cI, 24, .inl g402))]) [4, 5, 0, 1, 2, 3] (by decide) rfl) dX10_planLine_319 rfl (Nat.le_of_ble_eq_true rfl) (Nat.le_of_ble_eq_true rfl) ⟨F367, y368, y369, y370, y371, y372, x_fault, x_faultAt, y373, y374, x_onces, x_jumped, v321, g402, (SAME.tr (SAME.tr (SAME.up eF322 (SAME.tr SAME.rf t295 (by decide)) (by decide)) t341 (by decide)) t375 (by decide)), t376, t377, t378, t379, t380, t382, t384, (SAME.at t375 (by decide) (SAME.at t341 (by decide) (get_ne eF322 (by decide) (SAME.at t295 (by decide) e_fault)))), (SAME.at t375 (by decide) (SAME.at t341 (by decide) (get_ne eF322 (by decide) (SAME.at t295 (by decide) e_faultAt)))), t385, t386, (SAME.at t375 (by decide) (SAME.at t341 (by decide) (get_ne eF322 (by decide) (SAME.at t295 (by decide) e_onces)))), (SAME.at t375 (by decide) (SAME.at t341 (by decide) (get_ne eF322 (by decide) (SAME.at t295 (by decide) e_jumped)))), (SAME.at t375 (by decide) (SAME.at t341 (by decide) (get_eq eF322))), r403, r404, (show 0 ≤ (1 : Int32).toInt ∧ (1 : Int32).toInt ≤ 1 by decide), (by have zl1 : (1 : Int32).toInt = 1 := (by decide); omega), (by omega), rfl⟩
            · have hP : va_P D vwCl [(h_s, .inl (cI, 335, .inl f_s)), (h_names, .inl (cJ, 36, .inr (.inl f_names))), (h_reserved, .inl (cJ, 23, .inr (.inl f_reserved))), (h_planRead, .inl (cI, 24, .inl f_planRead)), (h0, .inr (10, vL 67 F288)), (h_tape, .inl (cB, 940, .inl f_tape))] H := hP
              have hD : va_D A [(h_s, .inl (cI, 335, .inl f_s)), (h_names, .inl (cJ, 36, .inr (.inl f_names))), (h_reserved, .inl (cJ, 23, .inr (.inl f_reserved))), (h_planRead, .inl (cI, 24, .inl f_planRead)), (h0, .inr (10, vL 67 F288)), (h_tape, .inl (cB, 940, .inl f_tape))] := hD
              refine W.widen (k := 0) (n := 0) (Nat.le_of_ble_eq_true rfl) (Nat.le_of_ble_eq_true rfl) ?_
              refine lv_if_eq (tgt := 269) hx hb dX10_planLine_260 (by decide) (fun g => absurd g (by decide)) (fun _ => ?_)
              refine lv_aload_n hx hb dX10_planLine_263 rfl (lv_at hl 0 rfl) ?_
              refine lv_iconst (v := 3) hx hb dX10_planLine_264 (by decide) ?_
              refine call_Vi (wr := [(h_s, .inl (cI, 335, .inl f_s)), (h_names, .inl (cJ, 36, .inr (.inl f_names))), (h_reserved, .inl (cJ, 23, .inr (.inl f_reserved))), (h_planRead, .inl (cI, 24, .inl f_planRead)), (h_tape, .inl (cB, 940, .inl f_tape))]) (As := [.int 3]) (rest := []) hx hb hml hown hw (m_X10_bad l D cI cJ cB cP cM cZ h0 F288 y291 3 _ t300) wV_X10_205_X10_bad dX10_planLine_265 hK hP hD hS hA [4] [0, 1, 2, 3, 5] rfl rfl (by decide) (by decide) (by decide) 0 10 rfl rfl GG.fb hG.at hl.1 rfl (Nat.le_of_ble_eq_true rfl) ⟨(Nat.le_of_ble_eq_true rfl), (Nat.le_of_ble_eq_true rfl)⟩ ⟨(Nat.le_of_ble_eq_true rfl), (Nat.le_of_ble_eq_true rfl)⟩ (fun r405 u H locs hp hP hD hS => ?_)
              have zl3 : (3 : Int32).toInt = 3 := by decide
              obtain ⟨F406, t407, t408, t409, rfl, rfl⟩ := hp
              have hP : va_P D vwCl [(h_s, .inl (cI, 335, .inl f_s)), (h_names, .inl (cJ, 36, .inr (.inl f_names))), (h_reserved, .inl (cJ, 23, .inr (.inl f_reserved))), (h_planRead, .inl (cI, 24, .inl f_planRead)), (h_tape, .inl (cB, 940, .inl f_tape)), (h0, .inr (10, vL 67 F406))] H := hP
              have hD : va_D A [(h_s, .inl (cI, 335, .inl f_s)), (h_names, .inl (cJ, 36, .inr (.inl f_names))), (h_reserved, .inl (cJ, 23, .inr (.inl f_reserved))), (h_planRead, .inl (cI, 24, .inl f_planRead)), (h_tape, .inl (cB, 940, .inl f_tape)), (h0, .inr (10, vL 67 F406))] := hD
              refine W.widen (k := 0) (n := 0) (Nat.le_of_ble_eq_true rfl) (Nat.le_of_ble_eq_true rfl) ?_
              exact ret_i (v := 0) hx hb hr hlocks hS (hP.sub (ws' := [(h0, .inr (10, vL 67 F406)), (h_tape, .inl (cB, 940, .inl f_tape)), (h_s, .inl (cI, 335, .inl f_s)), (h_names, .inl (cJ, 36, .inr (.inl f_names))), (h_reserved, .inl (cJ, 23, .inr (.inl f_reserved))), (h_planRead, .inl (cI, 24, .inl f_planRead))]) [5, 4, 0, 1, 2, 3] rfl) (hD.sub (ws' := [(h0, .inr (10, vL 67 F406)), (h_tape, .inl (cB, 940, .inl f_tape)), (h_s, .inl (cI, 335, .inl f_s)), (h_names, .inl (cJ, 36, .inr (.inl f_names))), (h_reserved, .inl (cJ, 23, .inr (.inl f_reserved))), (h_planRead, .inl (cI, 24, .inl f_planRead))]) [5, 4, 0, 1, 2, 3] (by decide) rfl) dX10_planLine_268 rfl (Nat.le_of_ble_eq_true rfl) (Nat.le_of_ble_eq_true rfl) ⟨F406, y289, y290, y291, y292, y293, 3, y291, y294, x_got, x_onces, x_jumped, x_heights, f_planRead, (SAME.tr (SAME.tr SAME.rf t295 (by decide)) t407 (by decide)), (SAME.at t407 (by decide) t296), t297, (SAME.at t407 (by decide) t298), (ir_wk k311 (by decide) (by decide)), (SAME.at t407 (by decide) t300), (SAME.at t407 (by decide) t302), (SAME.at t407 (by decide) t304), t408, t409, (SAME.at t407 (by decide) t305), (SAME.at t407 (by decide) (SAME.at t295 (by decide) e_got)), (SAME.at t407 (by decide) (SAME.at t295 (by decide) e_onces)), (SAME.at t407 (by decide) (SAME.at t295 (by decide) e_jumped)), (SAME.at t407 (by decide) n317), s_planRead_1, s_planRead_10, (show 0 ≤ (0 : Int32).toInt ∧ (0 : Int32).toInt ≤ 1 by decide), (by have zl0 : (0 : Int32).toInt = 0 := (by decide); omega), (by have zl3 : (3 : Int32).toInt = 3 := (by decide); omega), rfl⟩
          · have dc315 : v313.toInt ≤ y293.toInt := nlt_i (a := y293.toInt) (b := v313.toInt) rfl rfl c315
            have k411 : 0 ≤ y293.toInt ∧ y293.toInt ≤ 2147483647 := ⟨Int.le_trans k314.1 dc315, (ir_any _).2⟩
            refine lv_aload_n hx hb dX10_planLine_243 rfl (lv_at hl 0 rfl) ?_
            refine lv_iconst (v := 2) hx hb dX10_planLine_244 (by decide) ?_
            refine call_Vi (wr := [(h_s, .inl (cI, 335, .inl f_s)), (h_names, .inl (cJ, 36, .inr (.inl f_names))), (h_reserved, .inl (cJ, 23, .inr (.inl f_reserved))), (h_planRead, .inl (cI, 24, .inl f_planRead)), (h_tape, .inl (cB, 940, .inl f_tape))]) (As := [.int 2]) (rest := []) hx hb hml hown hw (m_X10_bad l D cI cJ cB cP cM cZ h0 F288 y291 2 _ t300) wV_X10_205_X10_bad dX10_planLine_245 hK hP hD hS hA [4] [0, 1, 2, 3, 5] rfl rfl (by decide) (by decide) (by decide) 0 10 rfl rfl GG.fb hG.at hl.1 rfl (Nat.le_of_ble_eq_true rfl) ⟨(Nat.le_of_ble_eq_true rfl), (Nat.le_of_ble_eq_true rfl)⟩ ⟨(Nat.le_of_ble_eq_true rfl), (Nat.le_of_ble_eq_true rfl)⟩ (fun r412 u H locs hp hP hD hS => ?_)
            have zl2 : (2 : Int32).toInt = 2 := by decide
            obtain ⟨F413, t414, t415, t416, rfl, rfl⟩ := hp
            have hP : va_P D vwCl [(h_s, .inl (cI, 335, .inl f_s)), (h_names, .inl (cJ, 36, .inr (.inl f_names))), (h_reserved, .inl (cJ, 23, .inr (.inl f_reserved))), (h_planRead, .inl (cI, 24, .inl f_planRead)), (h_tape, .inl (cB, 940, .inl f_tape)), (h0, .inr (10, vL 67 F413))] H := hP
            have hD : va_D A [(h_s, .inl (cI, 335, .inl f_s)), (h_names, .inl (cJ, 36, .inr (.inl f_names))), (h_reserved, .inl (cJ, 23, .inr (.inl f_reserved))), (h_planRead, .inl (cI, 24, .inl f_planRead)), (h_tape, .inl (cB, 940, .inl f_tape)), (h0, .inr (10, vL 67 F413))] := hD
            refine W.widen (k := 0) (n := 0) (Nat.le_of_ble_eq_true rfl) (Nat.le_of_ble_eq_true rfl) ?_
            exact ret_i (v := 0) hx hb hr hlocks hS (hP.sub (ws' := [(h0, .inr (10, vL 67 F413)), (h_tape, .inl (cB, 940, .inl f_tape)), (h_s, .inl (cI, 335, .inl f_s)), (h_names, .inl (cJ, 36, .inr (.inl f_names))), (h_reserved, .inl (cJ, 23, .inr (.inl f_reserved))), (h_planRead, .inl (cI, 24, .inl f_planRead))]) [5, 4, 0, 1, 2, 3] rfl) (hD.sub (ws' := [(h0, .inr (10, vL 67 F413)), (h_tape, .inl (cB, 940, .inl f_tape)), (h_s, .inl (cI, 335, .inl f_s)), (h_names, .inl (cJ, 36, .inr (.inl f_names))), (h_reserved, .inl (cJ, 23, .inr (.inl f_reserved))), (h_planRead, .inl (cI, 24, .inl f_planRead))]) [5, 4, 0, 1, 2, 3] (by decide) rfl) dX10_planLine_248 rfl (Nat.le_of_ble_eq_true rfl) (Nat.le_of_ble_eq_true rfl) ⟨F413, y289, y290, y291, y292, y293, 2, y291, y294, x_got, x_onces, x_jumped, x_heights, f_planRead, (SAME.tr (SAME.tr SAME.rf t295 (by decide)) t414 (by decide)), (SAME.at t414 (by decide) t296), t297, (SAME.at t414 (by decide) t298), (ir_wk k311 (by decide) (by decide)), (SAME.at t414 (by decide) t300), (SAME.at t414 (by decide) t302), (SAME.at t414 (by decide) t304), t415, t416, (SAME.at t414 (by decide) t305), (SAME.at t414 (by decide) (SAME.at t295 (by decide) e_got)), (SAME.at t414 (by decide) (SAME.at t295 (by decide) e_onces)), (SAME.at t414 (by decide) (SAME.at t295 (by decide) e_jumped)), (SAME.at t414 (by decide) (SAME.at t295 (by decide) e_heights)), s_planRead_1, s_planRead_10, (show 0 ≤ (0 : Int32).toInt ∧ (0 : Int32).toInt ≤ 1 by decide), (by have zl0 : (0 : Int32).toInt = 0 := (by decide); omega), (by have zl2 : (2 : Int32).toInt = 2 := (by decide); omega), rfl⟩
        · have dc310 : y290.toInt ≠ 2 := ne_i (a := y290.toInt) (b := 2) rfl rfl c310
          refine lv_aload_n hx hb dX10_planLine_223 rfl (lv_at hl 0 rfl) ?_
          refine lv_iconst (v := 1) hx hb dX10_planLine_224 (by decide) ?_
          refine call_Vi (wr := [(h_s, .inl (cI, 335, .inl f_s)), (h_names, .inl (cJ, 36, .inr (.inl f_names))), (h_reserved, .inl (cJ, 23, .inr (.inl f_reserved))), (h_planRead, .inl (cI, 24, .inl f_planRead)), (h_tape, .inl (cB, 940, .inl f_tape))]) (As := [.int 1]) (rest := []) hx hb hml hown hw (m_X10_bad l D cI cJ cB cP cM cZ h0 F288 y291 1 _ t300) wV_X10_205_X10_bad dX10_planLine_225 hK hP hD hS hA [4] [0, 1, 2, 3, 5] rfl rfl (by decide) (by decide) (by decide) 0 10 rfl rfl GG.fb hG.at hl.1 rfl (Nat.le_of_ble_eq_true rfl) ⟨(Nat.le_of_ble_eq_true rfl), (Nat.le_of_ble_eq_true rfl)⟩ ⟨(Nat.le_of_ble_eq_true rfl), (Nat.le_of_ble_eq_true rfl)⟩ (fun r418 u H locs hp hP hD hS => ?_)
          have zl1 : (1 : Int32).toInt = 1 := by decide
          obtain ⟨F419, t420, t421, t422, rfl, rfl⟩ := hp
          have hP : va_P D vwCl [(h_s, .inl (cI, 335, .inl f_s)), (h_names, .inl (cJ, 36, .inr (.inl f_names))), (h_reserved, .inl (cJ, 23, .inr (.inl f_reserved))), (h_planRead, .inl (cI, 24, .inl f_planRead)), (h_tape, .inl (cB, 940, .inl f_tape)), (h0, .inr (10, vL 67 F419))] H := hP
          have hD : va_D A [(h_s, .inl (cI, 335, .inl f_s)), (h_names, .inl (cJ, 36, .inr (.inl f_names))), (h_reserved, .inl (cJ, 23, .inr (.inl f_reserved))), (h_planRead, .inl (cI, 24, .inl f_planRead)), (h_tape, .inl (cB, 940, .inl f_tape)), (h0, .inr (10, vL 67 F419))] := hD
          refine W.widen (k := 0) (n := 0) (Nat.le_of_ble_eq_true rfl) (Nat.le_of_ble_eq_true rfl) ?_
          exact ret_i (v := 0) hx hb hr hlocks hS (hP.sub (ws' := [(h0, .inr (10, vL 67 F419)), (h_tape, .inl (cB, 940, .inl f_tape)), (h_s, .inl (cI, 335, .inl f_s)), (h_names, .inl (cJ, 36, .inr (.inl f_names))), (h_reserved, .inl (cJ, 23, .inr (.inl f_reserved))), (h_planRead, .inl (cI, 24, .inl f_planRead))]) [5, 4, 0, 1, 2, 3] rfl) (hD.sub (ws' := [(h0, .inr (10, vL 67 F419)), (h_tape, .inl (cB, 940, .inl f_tape)), (h_s, .inl (cI, 335, .inl f_s)), (h_names, .inl (cJ, 36, .inr (.inl f_names))), (h_reserved, .inl (cJ, 23, .inr (.inl f_reserved))), (h_planRead, .inl (cI, 24, .inl f_planRead))]) [5, 4, 0, 1, 2, 3] (by decide) rfl) dX10_planLine_228 rfl (Nat.le_of_ble_eq_true rfl) (Nat.le_of_ble_eq_true rfl) ⟨F419, y289, y290, y291, y292, y293, 1, y291, y294, x_got, x_onces, x_jumped, x_heights, f_planRead, (SAME.tr (SAME.tr SAME.rf t295 (by decide)) t420 (by decide)), (SAME.at t420 (by decide) t296), t297, (SAME.at t420 (by decide) t298), t299, (SAME.at t420 (by decide) t300), (SAME.at t420 (by decide) t302), (SAME.at t420 (by decide) t304), t421, t422, (SAME.at t420 (by decide) t305), (SAME.at t420 (by decide) (SAME.at t295 (by decide) e_got)), (SAME.at t420 (by decide) (SAME.at t295 (by decide) e_onces)), (SAME.at t420 (by decide) (SAME.at t295 (by decide) e_jumped)), (SAME.at t420 (by decide) (SAME.at t295 (by decide) e_heights)), s_planRead_1, s_planRead_10, (show 0 ≤ (0 : Int32).toInt ∧ (0 : Int32).toInt ≤ 1 by decide), (by have zl0 : (0 : Int32).toInt = 0 := (by decide); omega), (by have zl1 : (1 : Int32).toInt = 1 := (by decide); omega), rfl⟩
    · have dc11 : r7.toInt ≠ 0 := ne_i (a := r7.toInt) (b := 0) rfl rfl c11
      have k424 : 1 ≤ r7.toInt ∧ r7.toInt ≤ 1 := ⟨ne_lo dc11 t8.1 ⟨Int.le_refl _, Int.le_refl _⟩ (by decide), t8.2⟩
      refine lv_aload_n hx hb dX10_planLine_95 rfl (lv_at hl 0 rfl) ?_
      refine call_Vv (wr := [(h_s, .inl (cI, 335, .inl f_s)), (h_names, .inl (cJ, 36, .inr (.inl f_names))), (h_reserved, .inl (cJ, 23, .inr (.inl f_reserved))), (h_planRead, .inl (cI, 24, .inl f_planRead))]) (As := []) (rest := []) hx hb hml hown hw (m_X10_next l D cI cJ cB cP cM cZ h0 h_tape Fh x_size x_p x_limit x_token x_number x_word f_tape _ e_tape e_size i_x_size e_p i_x_p e_limit i_x_limit e_token i_x_token e_number e_word (by omega)) wV_X10_208_X10_next dX10_planLine_96 hK hP hD hS hA [5, 0] [1, 2, 3, 4] rfl rfl (by decide) (by decide) (by decide) 0 10 rfl rfl GG.fb hG.at hl.1 rfl (Nat.le_of_ble_eq_true rfl) ⟨(Nat.le_of_ble_eq_true rfl), (Nat.le_of_ble_eq_true rfl)⟩ ⟨(Nat.le_of_ble_eq_true rfl), (Nat.le_of_ble_eq_true rfl)⟩ (fun u H locs hp hP hD hS => ?_)
      obtain ⟨F426, y427, y428, y429, y430, y431, y432, t433, t434, t435, t436, t437, t438, t439, t440, t441, t442, t443, t444, t445, t446, rfl⟩ := hp
      have hP : va_P D vwCl [(h_s, .inl (cI, 335, .inl f_s)), (h_names, .inl (cJ, 36, .inr (.inl f_names))), (h_reserved, .inl (cJ, 23, .inr (.inl f_reserved))), (h_planRead, .inl (cI, 24, .inl f_planRead)), (h0, .inr (10, vL 67 F426)), (h_tape, .inl (cB, 940, .inl f_tape))] H := hP
      have hD : va_D A [(h_s, .inl (cI, 335, .inl f_s)), (h_names, .inl (cJ, 36, .inr (.inl f_names))), (h_reserved, .inl (cJ, 23, .inr (.inl f_reserved))), (h_planRead, .inl (cI, 24, .inl f_planRead)), (h0, .inr (10, vL 67 F426)), (h_tape, .inl (cB, 940, .inl f_tape))] := hD
      refine W.widen (k := 0) (n := 0) (Nat.le_of_ble_eq_true rfl) (Nat.le_of_ble_eq_true rfl) ?_
      refine lv_aload_n hx hb dX10_planLine_99 rfl (lv_at hl 0 rfl) ?_
      have n448 : F426 6 = .ref h_s := (SAME.at t433 (by decide) e_s)
      have n449 : F426 9 = .ref h_names := (SAME.at t433 (by decide) e_names)
      have n450 : F426 10 = .ref h_reserved := (SAME.at t433 (by decide) e_reserved)
      have n451 : F426 15 = .int x_fault := (SAME.at t433 (by decide) e_fault)
      have n452 : F426 16 = .int x_faultAt := (SAME.at t433 (by decide) e_faultAt)
      have n453 : F426 19 = .int x_got := (SAME.at t433 (by decide) e_got)
      refine call_Vi (wr := [(h_planRead, .inl (cI, 24, .inl f_planRead)), (h_tape, .inl (cB, 940, .inl f_tape))]) (As := []) (rest := []) hx hb hml hown hw (m_X10_looksAtMan l D cI cJ cB cP cM cZ h0 h_s h_names h_reserved F426 y428 y429 y431 x_fault x_faultAt y432 x_got f_s f_names f_reserved _ n448 n449 n450 t436 t437 t438 t442 n451 n452 t443 n453 s_s_K0 s_s_0 s_s_105 s_s_114 s_s_130 s_s_139 s_s_153 s_s_44 s_s_5 s_s_6 s_s_7 (by omega)) wV_X10_266_X10_looksAtMan dX10_planLine_100 hK hP hD hS hA [4, 0, 1, 2] [3, 5] rfl rfl (by decide) (by decide) (by decide) 0 10 rfl rfl GG.fb hG.at hl.1 rfl (Nat.le_of_ble_eq_true rfl) ⟨(Nat.le_of_ble_eq_true rfl), (Nat.le_of_ble_eq_true rfl)⟩ ⟨(Nat.le_of_ble_eq_true rfl), (Nat.le_of_ble_eq_true rfl)⟩ (fun r454 u H locs hp hP hD hS => ?_)
      obtain ⟨F455, y456, y457, y458, t459, t460, t461, t462, t463, rfl⟩ := hp
      have hP : va_P D vwCl [(h_planRead, .inl (cI, 24, .inl f_planRead)), (h_tape, .inl (cB, 940, .inl f_tape)), (h0, .inr (10, vL 67 F455)), (h_s, .inl (cI, 335, .inl f_s)), (h_names, .inl (cJ, 36, .inr (.inl f_names))), (h_reserved, .inl (cJ, 23, .inr (.inl f_reserved)))] H := hP
      have hD : va_D A [(h_planRead, .inl (cI, 24, .inl f_planRead)), (h_tape, .inl (cB, 940, .inl f_tape)), (h0, .inr (10, vL 67 F455)), (h_s, .inl (cI, 335, .inl f_s)), (h_names, .inl (cJ, 36, .inr (.inl f_names))), (h_reserved, .inl (cJ, 23, .inr (.inl f_reserved)))] := hD
      refine W.widen (k := 0) (n := 0) (Nat.le_of_ble_eq_true rfl) (Nat.le_of_ble_eq_true rfl) ?_
      refine lv_if_ne (tgt := 108) hx hb dX10_planLine_103 (by decide) (fun c465 => ?_) (fun c465 => ?_)
      · have dc465 : r454.toInt ≠ 0 := ne_i (a := r454.toInt) (b := 0) rfl rfl c465
        have k466 : 1 ≤ r454.toInt ∧ r454.toInt ≤ 1 := ⟨ne_lo dc465 t463.1 ⟨Int.le_refl _, Int.le_refl _⟩ (by decide), t463.2⟩
        refine lv_aload_n hx hb dX10_planLine_108 rfl (lv_at hl 0 rfl) ?_
        have n467 : F426 22 = .ref h_planRead := (SAME.at t433 (by decide) e_planRead)
        have n468 : F455 22 = .ref h_planRead := (SAME.at t459 (by decide) n467)
        refine get_f (D := D) (ci := 10) (v := .ref h_planRead) (C := RX10) (T := TX10) (N := 67) hx hb hw inAX10 hown hK hP 2 rfl rfl 22 (by decide) (hw _ q_1283) (fun _ h9 => h9) n468 dX10_planLine_109 ?_
        refine lv_iconst (v := 0) hx hb dX10_planLine_112 (by decide) ?_
        refine iald_n hx hb hK hP 0 0 rfl rfl 0 rfl (Nat.le_of_ble_eq_true rfl) (Nat.le_of_ble_eq_true rfl) rfl dX10_planLine_113 ?_
        refine lv_topi (fun v469 ev469 => ?_)
        refine lv_iconst (v := 1) hx hb dX10_planLine_114 (by decide) ?_
        refine lv_icmp_ne (tgt := 130) hx hb dX10_planLine_115 (by decide) (fun c470 => ?_) (fun c470 => ?_)
        · have dc470 : v469.toInt ≠ 1 := ne_i (a := v469.toInt) (b := 1) rfl rfl c470
          refine lv_iconst (v := (-1)) hx hb dX10_planLine_130 (by decide) ?_
          refine lv_istore_n (lv' := [(1, .int (-1)), (0, .ref h0)]) hx hb dX10_planLine_131 rfl hl (by decide) rfl (fun ls hl => ?_)
          refine lv_iload_n hx hb dX10_planLine_132 rfl (lv_at hl 0 rfl) ?_
          refine lv_if_lt (tgt := 147) hx hb dX10_planLine_133 (by decide) (fun _ => ?_) (fun g => absurd (by decide) g)
          refine lv_aload_n hx hb dX10_planLine_147 rfl (lv_at hl 1 rfl) ?_
          refine lv_iconst (v := 3) hx hb dX10_planLine_148 (by decide) ?_
          have n471 : F455 12 = .int y429 := (SAME.at t459 (by decide) t438)
          refine call_Vi (wr := [(h_planRead, .inl (cI, 24, .inl f_planRead)), (h_tape, .inl (cB, 940, .inl f_tape)), (h_s, .inl (cI, 335, .inl f_s)), (h_names, .inl (cJ, 36, .inr (.inl f_names))), (h_reserved, .inl (cJ, 23, .inr (.inl f_reserved)))]) (As := [.int 3]) (rest := []) hx hb hml hown hw (m_X10_bad l D cI cJ cB cP cM cZ h0 F455 y429 3 _ n471) wV_X10_205_X10_bad dX10_planLine_149 hK hP hD hS hA [2] [0, 1, 3, 4, 5] rfl rfl (by decide) (by decide) (by decide) 0 10 rfl rfl GG.fb hG.at hl.1 rfl (Nat.le_of_ble_eq_true rfl) ⟨(Nat.le_of_ble_eq_true rfl), (Nat.le_of_ble_eq_true rfl)⟩ ⟨(Nat.le_of_ble_eq_true rfl), (Nat.le_of_ble_eq_true rfl)⟩ (fun r472 u H locs hp hP hD hS => ?_)
          have zl3 : (3 : Int32).toInt = 3 := by decide
          obtain ⟨F473, t474, t475, t476, rfl, rfl⟩ := hp
          have hP : va_P D vwCl [(h_planRead, .inl (cI, 24, .inl f_planRead)), (h_tape, .inl (cB, 940, .inl f_tape)), (h_s, .inl (cI, 335, .inl f_s)), (h_names, .inl (cJ, 36, .inr (.inl f_names))), (h_reserved, .inl (cJ, 23, .inr (.inl f_reserved))), (h0, .inr (10, vL 67 F473))] H := hP
          have hD : va_D A [(h_planRead, .inl (cI, 24, .inl f_planRead)), (h_tape, .inl (cB, 940, .inl f_tape)), (h_s, .inl (cI, 335, .inl f_s)), (h_names, .inl (cJ, 36, .inr (.inl f_names))), (h_reserved, .inl (cJ, 23, .inr (.inl f_reserved))), (h0, .inr (10, vL 67 F473))] := hD
          refine W.widen (k := 0) (n := 0) (Nat.le_of_ble_eq_true rfl) (Nat.le_of_ble_eq_true rfl) ?_
          exact ret_i (v := 0) hx hb hr hlocks hS (hP.sub (ws' := [(h0, .inr (10, vL 67 F473)), (h_tape, .inl (cB, 940, .inl f_tape)), (h_s, .inl (cI, 335, .inl f_s)), (h_names, .inl (cJ, 36, .inr (.inl f_names))), (h_reserved, .inl (cJ, 23, .inr (.inl f_reserved))), (h_planRead, .inl (cI, 24, .inl f_planRead))]) [5, 1, 2, 3, 4, 0] rfl) (hD.sub (ws' := [(h0, .inr (10, vL 67 F473)), (h_tape, .inl (cB, 940, .inl f_tape)), (h_s, .inl (cI, 335, .inl f_s)), (h_names, .inl (cJ, 36, .inr (.inl f_names))), (h_reserved, .inl (cJ, 23, .inr (.inl f_reserved))), (h_planRead, .inl (cI, 24, .inl f_planRead))]) [5, 1, 2, 3, 4, 0] (by decide) rfl) dX10_planLine_152 rfl (Nat.le_of_ble_eq_true rfl) (Nat.le_of_ble_eq_true rfl) ⟨F473, y427, y428, y429, y430, y431, 3, y429, y432, y458, x_onces, x_jumped, x_heights, f_planRead, (SAME.tr (SAME.tr (SAME.tr SAME.rf t433 (by decide)) t459 (by decide)) t474 (by decide)), (SAME.at t474 (by decide) (SAME.at t459 (by decide) t434)), t435, (SAME.at t474 (by decide) (SAME.at t459 (by decide) t436)), t437, (SAME.at t474 (by decide) n471), (SAME.at t474 (by decide) (SAME.at t459 (by decide) t440)), (SAME.at t474 (by decide) (SAME.at t459 (by decide) t442)), t475, t476, (SAME.at t474 (by decide) (SAME.at t459 (by decide) t443)), (SAME.at t474 (by decide) t462), (SAME.at t474 (by decide) (SAME.at t459 (by decide) (SAME.at t433 (by decide) e_onces))), (SAME.at t474 (by decide) (SAME.at t459 (by decide) (SAME.at t433 (by decide) e_jumped))), (SAME.at t474 (by decide) (SAME.at t459 (by decide) (SAME.at t433 (by decide) e_heights))), s_planRead_1, s_planRead_10, (show 0 ≤ (0 : Int32).toInt ∧ (0 : Int32).toInt ≤ 1 by decide), (by have zl0 : (0 : Int32).toInt = 0 := (by decide); omega), (by have zl3 : (3 : Int32).toInt = 3 := (by decide); omega), rfl⟩
        · have dc470 : v469.toInt = 1 := eq_i (a := v469.toInt) (b := 1) rfl rfl c470
          have k478 : 1 ≤ v469.toInt ∧ v469.toInt ≤ 1 := ⟨Int.le_trans (Int.le_refl _) (Int.le_of_eq dc470.symm), Int.le_trans (Int.le_of_eq dc470) (Int.le_refl _)⟩
          refine lv_aload_n hx hb dX10_planLine_118 rfl (lv_at hl 0 rfl) ?_
          refine lv_aload_n hx hb dX10_planLine_119 rfl (lv_at hl 0 rfl) ?_
          refine get_f (D := D) (ci := 10) (v := .int y458) (C := RX10) (T := TX10) (N := 67) hx hb hw inAX10 hown hK hP 2 rfl rfl 19 (by decide) (hw _ q_1280) (fun _ h9 => h9) t462 dX10_planLine_120 ?_
          refine lv_iconst (v := 4) hx hb dX10_planLine_123 (by decide) ?_
          refine call_Vi (wr := [(h_tape, .inl (cB, 940, .inl f_tape)), (h_s, .inl (cI, 335, .inl f_s)), (h_names, .inl (cJ, 36, .inr (.inl f_names))), (h_reserved, .inl (cJ, 23, .inr (.inl f_reserved)))]) (As := [.int y458, .int 4]) (rest := []) hx hb hml hown hw (m_X10_placeIn l D cI cJ cB cP cM cZ h0 h_planRead F455 f_planRead y458 4 _ n468 s_planRead_1 s_planRead_10 (show 0 ≤ (4 : Int32).toInt ∧ (4 : Int32).toInt ≤ 4 by decide)) wV_X10_269_X10_placeIn dX10_planLine_124 hK hP hD hS hA [2, 0] [1, 3, 4, 5] rfl rfl (by decide) (by decide) (by decide) 0 10 rfl rfl GG.fb hG.at hl.1 rfl (Nat.le_of_ble_eq_true rfl) ⟨(Nat.le_of_ble_eq_true rfl), (Nat.le_of_ble_eq_true rfl)⟩ ⟨(Nat.le_of_ble_eq_true rfl), (Nat.le_of_ble_eq_true rfl)⟩ (fun r479 u H locs hp hP hD hS => ?_)
          have zl4 : (4 : Int32).toInt = 4 := by decide
          obtain ⟨t480, rfl⟩ := hp
          have hP : va_P D vwCl [(h_tape, .inl (cB, 940, .inl f_tape)), (h_s, .inl (cI, 335, .inl f_s)), (h_names, .inl (cJ, 36, .inr (.inl f_names))), (h_reserved, .inl (cJ, 23, .inr (.inl f_reserved))), (h0, .inr (10, vL 67 F455)), (h_planRead, .inl (cI, 24, .inl f_planRead))] H := hP
          have hD : va_D A [(h_tape, .inl (cB, 940, .inl f_tape)), (h_s, .inl (cI, 335, .inl f_s)), (h_names, .inl (cJ, 36, .inr (.inl f_names))), (h_reserved, .inl (cJ, 23, .inr (.inl f_reserved))), (h0, .inr (10, vL 67 F455)), (h_planRead, .inl (cI, 24, .inl f_planRead))] := hD
          refine W.widen (k := 0) (n := 0) (Nat.le_of_ble_eq_true rfl) (Nat.le_of_ble_eq_true rfl) ?_
          refine lv_goto (tgt := 131) hx hb dX10_planLine_127 (by decide) ?_
          refine lv_istore_n (lv' := [(1, .int r479), (0, .ref h0)]) hx hb dX10_planLine_131 rfl hl (by decide) rfl (fun ls hl => ?_)
          refine lv_iload_n hx hb dX10_planLine_132 rfl (lv_at hl 0 rfl) ?_
          refine lv_if_lt (tgt := 147) hx hb dX10_planLine_133 (by decide) (fun c482 => ?_) (fun c482 => ?_)
          · have dc482 : r479.toInt < 0 := lt_i (a := r479.toInt) (b := 0) rfl rfl c482
            have k483 : (-1) ≤ r479.toInt ∧ r479.toInt ≤ (-1) := ⟨t480.1, up_lt dc482 (Int.le_refl _) (by decide)⟩
            refine lv_aload_n hx hb dX10_planLine_147 rfl (lv_at hl 1 rfl) ?_
            refine lv_iconst (v := 3) hx hb dX10_planLine_148 (by decide) ?_
            have n484 : F455 12 = .int y429 := (SAME.at t459 (by decide) t438)
            refine call_Vi (wr := [(h_tape, .inl (cB, 940, .inl f_tape)), (h_s, .inl (cI, 335, .inl f_s)), (h_names, .inl (cJ, 36, .inr (.inl f_names))), (h_reserved, .inl (cJ, 23, .inr (.inl f_reserved))), (h_planRead, .inl (cI, 24, .inl f_planRead))]) (As := [.int 3]) (rest := []) hx hb hml hown hw (m_X10_bad l D cI cJ cB cP cM cZ h0 F455 y429 3 _ n484) wV_X10_205_X10_bad dX10_planLine_149 hK hP hD hS hA [4] [0, 1, 2, 3, 5] rfl rfl (by decide) (by decide) (by decide) 0 10 rfl rfl GG.fb hG.at hl.1 rfl (Nat.le_of_ble_eq_true rfl) ⟨(Nat.le_of_ble_eq_true rfl), (Nat.le_of_ble_eq_true rfl)⟩ ⟨(Nat.le_of_ble_eq_true rfl), (Nat.le_of_ble_eq_true rfl)⟩ (fun r485 u H locs hp hP hD hS => ?_)
            have zl3 : (3 : Int32).toInt = 3 := by decide
            obtain ⟨F486, t487, t488, t489, rfl, rfl⟩ := hp
            have hP : va_P D vwCl [(h_tape, .inl (cB, 940, .inl f_tape)), (h_s, .inl (cI, 335, .inl f_s)), (h_names, .inl (cJ, 36, .inr (.inl f_names))), (h_reserved, .inl (cJ, 23, .inr (.inl f_reserved))), (h_planRead, .inl (cI, 24, .inl f_planRead)), (h0, .inr (10, vL 67 F486))] H := hP
            have hD : va_D A [(h_tape, .inl (cB, 940, .inl f_tape)), (h_s, .inl (cI, 335, .inl f_s)), (h_names, .inl (cJ, 36, .inr (.inl f_names))), (h_reserved, .inl (cJ, 23, .inr (.inl f_reserved))), (h_planRead, .inl (cI, 24, .inl f_planRead)), (h0, .inr (10, vL 67 F486))] := hD
            refine W.widen (k := 0) (n := 0) (Nat.le_of_ble_eq_true rfl) (Nat.le_of_ble_eq_true rfl) ?_
            exact ret_i (v := 0) hx hb hr hlocks hS (hP.sub (ws' := [(h0, .inr (10, vL 67 F486)), (h_tape, .inl (cB, 940, .inl f_tape)), (h_s, .inl (cI, 335, .inl f_s)), (h_names, .inl (cJ, 36, .inr (.inl f_names))), (h_reserved, .inl (cJ, 23, .inr (.inl f_reserved))), (h_planRead, .inl (cI, 24, .inl f_planRead))]) [5, 0, 1, 2, 3, 4] rfl) (hD.sub (ws' := [(h0, .inr (10, vL 67 F486)), (h_tape, .inl (cB, 940, .inl f_tape)), (h_s, .inl (cI, 335, .inl f_s)), (h_names, .inl (cJ, 36, .inr (.inl f_names))), (h_reserved, .inl (cJ, 23, .inr (.inl f_reserved))), (h_planRead, .inl (cI, 24, .inl f_planRead))]) [5, 0, 1, 2, 3, 4] (by decide) rfl) dX10_planLine_152 rfl (Nat.le_of_ble_eq_true rfl) (Nat.le_of_ble_eq_true rfl) ⟨F486, y427, y428, y429, y430, y431, 3, y429, y432, y458, x_onces, x_jumped, x_heights, f_planRead, (SAME.tr (SAME.tr (SAME.tr SAME.rf t433 (by decide)) t459 (by decide)) t487 (by decide)), (SAME.at t487 (by decide) (SAME.at t459 (by decide) t434)), t435, (SAME.at t487 (by decide) (SAME.at t459 (by decide) t436)), t437, (SAME.at t487 (by decide) n484), (SAME.at t487 (by decide) (SAME.at t459 (by decide) t440)), (SAME.at t487 (by decide) (SAME.at t459 (by decide) t442)), t488, t489, (SAME.at t487 (by decide) (SAME.at t459 (by decide) t443)), (SAME.at t487 (by decide) t462), (SAME.at t487 (by decide) (SAME.at t459 (by decide) (SAME.at t433 (by decide) e_onces))), (SAME.at t487 (by decide) (SAME.at t459 (by decide) (SAME.at t433 (by decide) e_jumped))), (SAME.at t487 (by decide) (SAME.at t459 (by decide) (SAME.at t433 (by decide) e_heights))), s_planRead_1, s_planRead_10, (show 0 ≤ (0 : Int32).toInt ∧ (0 : Int32).toInt ≤ 1 by decide), (by have zl0 : (0 : Int32).toInt = 0 := (by decide); omega), (by have zl3 : (3 : Int32).toInt = 3 := (by decide); omega), rfl⟩
          · have dc482 : 0 ≤ r479.toInt := nlt_i (a := r479.toInt) (b := 0) rfl rfl c482
            have k491 : 0 ≤ r479.toInt ∧ r479.toInt ≤ 3 := ⟨Int.le_trans (Int.le_refl _) dc482, t480.2⟩
            refine lv_aload_n hx hb dX10_planLine_136 rfl (lv_at hl 1 rfl) ?_
            have n492 : F426 23 = .int x_jumped := (SAME.at t433 (by decide) e_jumped)
            have n493 : F455 23 = .int x_jumped := (SAME.at t459 (by decide) n492)
            refine get_f (D := D) (ci := 10) (v := .int x_jumped) (C := RX10) (T := TX10) (N := 67) hx hb hw inAX10 hown hK hP 4 rfl rfl 23 (by decide) (hw _ q_1284) (fun _ h9 => h9) n493 dX10_planLine_137 ?_
            refine lv_iload_n hx hb dX10_planLine_140 rfl (lv_at hl 0 rfl) ?_
            refine call_Si (wr := [(h_tape, .inl (cB, 940, .inl f_tape)), (h_s, .inl (cI, 335, .inl f_s)), (h_names, .inl (cJ, 36, .inr (.inl f_names))), (h_reserved, .inl (cJ, 23, .inr (.inl f_reserved))), (h0, .inr (10, vL 67 F455)), (h_planRead, .inl (cI, 24, .inl f_planRead))]) (As := [.int x_jumped, .int r479]) (rest := []) hx hb hml hown hw (m_X10_bitOf l D cI cJ cB cP cM cZ x_jumped r479 _ ) wS_X10_232_X10_bitOf dX10_planLine_141 hP hD hS hA [] [0, 1, 2, 3, 4, 5] rfl rfl (by decide) (by decide) (by decide) GG.fb hG.at hl.1 rfl (Nat.le_of_ble_eq_true rfl) ⟨(Nat.le_of_ble_eq_true rfl), (Nat.le_of_ble_eq_true rfl)⟩ ⟨(Nat.le_of_ble_eq_true rfl), (Nat.le_of_ble_eq_true rfl)⟩ (fun r494 u H locs hp hP hD hS => ?_)
            rcases hp with ⟨rfl, rfl⟩ | ⟨rfl, rfl⟩
            · have hP : va_P D vwCl [(h_tape, .inl (cB, 940, .inl f_tape)), (h_s, .inl (cI, 335, .inl f_s)), (h_names, .inl (cJ, 36, .inr (.inl f_names))), (h_reserved, .inl (cJ, 23, .inr (.inl f_reserved))), (h0, .inr (10, vL 67 F455)), (h_planRead, .inl (cI, 24, .inl f_planRead))] H := hP
              have hD : va_D A [(h_tape, .inl (cB, 940, .inl f_tape)), (h_s, .inl (cI, 335, .inl f_s)), (h_names, .inl (cJ, 36, .inr (.inl f_names))), (h_reserved, .inl (cJ, 23, .inr (.inl f_reserved))), (h0, .inr (10, vL 67 F455)), (h_planRead, .inl (cI, 24, .inl f_planRead))] := hD
              refine W.widen (k := 0) (n := 0) (Nat.le_of_ble_eq_true rfl) (Nat.le_of_ble_eq_true rfl) ?_
              refine lv_if_eq (tgt := 153) hx hb dX10_planLine_144 (by decide) (fun _ => ?_) (fun g => absurd (by decide) g)
              refine lv_aload_n hx hb dX10_planLine_153 rfl (lv_at hl 1 rfl) ?_
              refine lv_dup hx hb dX10_planLine_154 rfl ?_
              refine get_f (D := D) (ci := 10) (v := .int x_jumped) (C := RX10) (T := TX10) (N := 67) hx hb hw inAX10 hown hK hP 4 rfl rfl 23 (by decide) (hw _ q_1284) (fun _ h9 => h9) n493 dX10_planLine_155 ?_
              refine lv_iconst (v := 1) hx hb dX10_planLine_158 (by decide) ?_
              refine lv_iload_n hx hb dX10_planLine_159 rfl (lv_at hl 0 rfl) ?_
              refine lv_ishl hx hb dX10_planLine_160 ?_
              refine lv_topi (fun v496 ev496 => ?_)
              have k497 : 1 ≤ v496.toInt ∧ v496.toInt ≤ 8 := by rw [ev496]; exact shl1_i (Int.le_trans (by decide) k491.1) (Int.le_trans k491.2 (by decide))
              refine lv_ior hx hb dX10_planLine_161 ?_
              refine lv_topi (fun v498 ev498 => ?_)
              refine put_f (D := D) (ci := 10) (v := .int v498) (ty := .int) (C := RX10) (T := TX10) (N := 67) hx hb hw inAX10 tyX10 tyX10_ok nmX10 hown hK hP hD hS 4 rfl rfl 23 (by decide) (hw _ q_1284) (fun _ h9 => h9) rfl (by decide +kernel) rfl rfl dX10_planLine_162 (fun H locs F499 eF499 hP hD hS => ?_)
              have hP : va_P D vwCl [(h_tape, .inl (cB, 940, .inl f_tape)), (h_s, .inl (cI, 335, .inl f_s)), (h_names, .inl (cJ, 36, .inr (.inl f_names))), (h_reserved, .inl (cJ, 23, .inr (.inl f_reserved))), (h0, .inr (10, vL 67 F499)), (h_planRead, .inl (cI, 24, .inl f_planRead))] H := hP
              have hD : va_D A [(h_tape, .inl (cB, 940, .inl f_tape)), (h_s, .inl (cI, 335, .inl f_s)), (h_names, .inl (cJ, 36, .inr (.inl f_names))), (h_reserved, .inl (cJ, 23, .inr (.inl f_reserved))), (h0, .inr (10, vL 67 F499)), (h_planRead, .inl (cI, 24, .inl f_planRead))] := hD
              refine lv_aload_n hx hb dX10_planLine_165 rfl (lv_at hl 1 rfl) ?_
              have n500 : F426 1 = .ref h_tape := (SAME.at t433 (by decide) e_tape)
              have n501 : F455 1 = .ref h_tape := (SAME.at t459 (by decide) n500)
              have n502 : F499 1 = .ref h_tape := (get_ne eF499 (by decide) n501)
              have n503 : F426 3 = .int x_size := (SAME.at t433 (by decide) e_size)
              have n504 : F455 3 = .int x_size := (SAME.at t459 (by decide) n503)
              have n505 : F499 3 = .int x_size := (get_ne eF499 (by decide) n504)
              have n506 : F455 4 = .int y427 := (SAME.at t459 (by decide) t434)
              have n507 : F499 4 = .int y427 := (get_ne eF499 (by decide) n506)
              have n508 : F426 5 = .int x_limit := (SAME.at t433 (by decide) e_limit)
              have n509 : F455 5 = .int x_limit := (SAME.at t459 (by decide) n508)
              have n510 : F499 5 = .int x_limit := (get_ne eF499 (by decide) n509)
              have n511 : F455 11 = .int y428 := (SAME.at t459 (by decide) t436)
              have n512 : F499 11 = .int y428 := (get_ne eF499 (by decide) n511)
              have n513 : F455 14 = .int y431 := (SAME.at t459 (by decide) t442)
              have n514 : F499 14 = .int y431 := (get_ne eF499 (by decide) n513)
              have n515 : F455 18 = .long y432 := (SAME.at t459 (by decide) t443)
              have n516 : F499 18 = .long y432 := (get_ne eF499 (by decide) n515)
              refine call_Vv (wr := [(h_s, .inl (cI, 335, .inl f_s)), (h_names, .inl (cJ, 36, .inr (.inl f_names))), (h_reserved, .inl (cJ, 23, .inr (.inl f_reserved))), (h_planRead, .inl (cI, 24, .inl f_planRead))]) (As := []) (rest := []) hx hb hml hown hw (m_X10_next l D cI cJ cB cP cM cZ h0 h_tape F499 x_size y427 x_limit y428 y431 y432 f_tape _ n502 n505 i_x_size n507 t435 n510 i_x_limit n512 t437 n514 n516 (by omega)) wV_X10_208_X10_next dX10_planLine_166 hK hP hD hS hA [4, 0] [1, 2, 3, 5] rfl rfl (by decide) (by decide) (by decide) 0 10 rfl rfl GG.fb hG.at hl.1 rfl (Nat.le_of_ble_eq_true rfl) ⟨(Nat.le_of_ble_eq_true rfl), (Nat.le_of_ble_eq_true rfl)⟩ ⟨(Nat.le_of_ble_eq_true rfl), (Nat.le_of_ble_eq_true rfl)⟩ (fun u H locs hp hP hD hS => ?_)
              obtain ⟨F518, y519, y520, y521, y522, y523, y524, t525, t526, t527, t528, t529, t530, t531, t532, t533, t534, t535, t536, t537, t538, rfl⟩ := hp
              have hP : va_P D vwCl [(h_s, .inl (cI, 335, .inl f_s)), (h_names, .inl (cJ, 36, .inr (.inl f_names))), (h_reserved, .inl (cJ, 23, .inr (.inl f_reserved))), (h_planRead, .inl (cI, 24, .inl f_planRead)), (h0, .inr (10, vL 67 F518)), (h_tape, .inl (cB, 940, .inl f_tape))] H := hP
              have hD : va_D A [(h_s, .inl (cI, 335, .inl f_s)), (h_names, .inl (cJ, 36, .inr (.inl f_names))), (h_reserved, .inl (cJ, 23, .inr (.inl f_reserved))), (h_planRead, .inl (cI, 24, .inl f_planRead)), (h0, .inr (10, vL 67 F518)), (h_tape, .inl (cB, 940, .inl f_tape))] := hD
              refine W.widen (k := 0) (n := 0) (Nat.le_of_ble_eq_true rfl) (Nat.le_of_ble_eq_true rfl) ?_
              refine lv_aload_n hx hb dX10_planLine_169 rfl (lv_at hl 1 rfl) ?_
              refine lv_iconst (v := 0) hx hb dX10_planLine_170 (by decide) ?_
              refine lv_aload_n hx hb dX10_planLine_171 rfl (lv_at hl 1 rfl) ?_
              have n540 : F455 6 = .ref h_s := (SAME.at t459 (by decide) n448)
              have n541 : F499 6 = .ref h_s := (get_ne eF499 (by decide) n540)
              have n542 : F518 6 = .ref h_s := (SAME.at t525 (by decide) n541)
              refine get_f (D := D) (ci := 10) (v := .ref h_s) (C := RX10) (T := TX10) (N := 67) hx hb hw inAX10 hown hK hP 4 rfl rfl 6 (by decide) (hw _ q_1267) (fun _ h9 => h9) n542 dX10_planLine_172 ?_
              refine lv_iconst (v := 0) hx hb dX10_planLine_175 (by decide) ?_
              refine iald_n hx hb hK hP 0 0 rfl rfl 0 rfl (Nat.le_of_ble_eq_true rfl) (Nat.le_of_ble_eq_true rfl) rfl dX10_planLine_176 ?_
              refine lv_topi (fun v543 ev543 => ?_)
              have k544 : 0 ≤ v543.toInt ∧ v543.toInt ≤ 40 := by rw [ev543]; exact s_s_0.atN 0 (by decide) (by decide)
              refine lv_iconst (v := 1) hx hb dX10_planLine_177 (by decide) ?_
              refine lv_isub hx hb dX10_planLine_178 ?_
              refine lv_topi (fun v545 ev545 => ?_)
              have bv545 : v545.toInt = v543.toInt - 1 := by rw [ev545]; exact sub_k rfl rfl k544 ⟨Int.le_refl _, Int.le_refl _⟩ (by decide)
              have k546 : (-1) ≤ v545.toInt ∧ v545.toInt ≤ 39 := sub_r bv545 k544 ⟨Int.le_refl _, Int.le_refl _⟩ (by decide)
              have n547 : F518 1 = .ref h_tape := (SAME.at t525 (by decide) n502)
              have n548 : F518 3 = .int x_size := (SAME.at t525 (by decide) n505)
              have n549 : F518 5 = .int x_limit := (SAME.at t525 (by decide) n510)
              refine call_Vi (wr := [(h_s, .inl (cI, 335, .inl f_s)), (h_names, .inl (cJ, 36, .inr (.inl f_names))), (h_reserved, .inl (cJ, 23, .inr (.inl f_reserved))), (h_planRead, .inl (cI, 24, .inl f_planRead))]) (As := [.int 0, .int v545]) (rest := []) hx hb hml hown hw (m_X10_takes l D cI cJ cB cP cM cZ h0 h_tape F518 x_size y519 x_limit y520 y521 y523 y524 f_tape 0 v545 _ n547 n548 i_x_size t526 t527 n549 i_x_limit t528 t529 t530 t534 t535 (by omega)) wV_X10_242_X10_takes dX10_planLine_179 hK hP hD hS hA [4, 5] [0, 1, 2, 3] rfl rfl (by decide) (by decide) (by decide) 0 10 rfl rfl GG.fb hG.at hl.1 rfl (Nat.le_of_ble_eq_true rfl) ⟨(Nat.le_of_ble_eq_true rfl), (Nat.le_of_ble_eq_true rfl)⟩ ⟨(Nat.le_of_ble_eq_true rfl), (Nat.le_of_ble_eq_true rfl)⟩ (fun r550 u H locs hp hP hD hS => ?_)
              have zl0 : (0 : Int32).toInt = 0 := by decide
              rcases hp with hp | hp
              · obtain ⟨F551, y552, t553, t554, t555, t556, t557, rfl, rfl⟩ := hp
                have hP : va_P D vwCl [(h_s, .inl (cI, 335, .inl f_s)), (h_names, .inl (cJ, 36, .inr (.inl f_names))), (h_reserved, .inl (cJ, 23, .inr (.inl f_reserved))), (h_planRead, .inl (cI, 24, .inl f_planRead)), (h0, .inr (10, vL 67 F551)), (h_tape, .inl (cB, 940, .inl f_tape))] H := hP
                have hD : va_D A [(h_s, .inl (cI, 335, .inl f_s)), (h_names, .inl (cJ, 36, .inr (.inl f_names))), (h_reserved, .inl (cJ, 23, .inr (.inl f_reserved))), (h_planRead, .inl (cI, 24, .inl f_planRead)), (h0, .inr (10, vL 67 F551)), (h_tape, .inl (cB, 940, .inl f_tape))] := hD
                refine W.widen (k := 0) (n := 0) (Nat.le_of_ble_eq_true rfl) (Nat.le_of_ble_eq_true rfl) ?_
                refine lv_if_ne (tgt := 187) hx hb dX10_planLine_182 (by decide) (fun g => absurd (by decide) g) (fun _ => ?_)
                refine lv_iconst (v := 0) hx hb dX10_planLine_185 (by decide) ?_
                exact ret_i (v := 0) hx hb hr hlocks hS (hP.sub (ws' := [(h0, .inr (10, vL 67 F551)), (h_tape, .inl (cB, 940, .inl f_tape)), (h_s, .inl (cI, 335, .inl f_s)), (h_names, .inl (cJ, 36, .inr (.inl f_names))), (h_reserved, .inl (cJ, 23, .inr (.inl f_reserved))), (h_planRead, .inl (cI, 24, .inl f_planRead))]) [4, 5, 0, 1, 2, 3] rfl) (hD.sub (ws' := [(h0, .inr (10, vL 67 F551)), (h_tape, .inl (cB, 940, .inl f_tape)), (h_s, .inl (cI, 335, .inl f_s)), (h_names, .inl (cJ, 36, .inr (.inl f_names))), (h_reserved, .inl (cJ, 23, .inr (.inl f_reserved))), (h_planRead, .inl (cI, 24, .inl f_planRead))]) [4, 5, 0, 1, 2, 3] (by decide) rfl) dX10_planLine_186 rfl (Nat.le_of_ble_eq_true rfl) (Nat.le_of_ble_eq_true rfl) ⟨F551, y519, y520, y521, y522, y523, y552, y521, y524, y458, x_onces, v498, x_heights, f_planRead, (SAME.tr (SAME.tr (SAME.up eF499 (SAME.tr (SAME.tr SAME.rf t433 (by decide)) t459 (by decide)) (by decide)) t525 (by decide)) t553 (by decide)), (SAME.at t553 (by decide) t526), t527, (SAME.at t553 (by decide) t528), t529, (SAME.at t553 (by decide) t530), (SAME.at t553 (by decide) t532), (SAME.at t553 (by decide) t534), t554, t556, (SAME.at t553 (by decide) t535), (SAME.at t553 (by decide) (SAME.at t525 (by decide) (get_ne eF499 (by decide) t462))), (SAME.at t553 (by decide) (SAME.at t525 (by decide) (get_ne eF499 (by decide) (SAME.at t459 (by decide) (SAME.at t433 (by decide) e_onces))))), (SAME.at t553 (by decide) (SAME.at t525 (by decide) (get_eq eF499))), (SAME.at t553 (by decide) (SAME.at t525 (by decide) (get_ne eF499 (by decide) (SAME.at t459 (by decide) (SAME.at t433 (by decide) e_heights))))), s_planRead_1, s_planRead_10, (show 0 ≤ (0 : Int32).toInt ∧ (0 : Int32).toInt ≤ 1 by decide), (by have zl0 : (0 : Int32).toInt = 0 := (by decide); omega), (by omega), rfl⟩
              · refine hp.elim (fun F558 h9z => h9z.elim (fun y559 h9z => h9z.elim (fun y560 h9z => h9z.elim (fun y561 h9z => h9z.elim (fun y562 h9z => h9z.elim (fun y563 h9z => h9z.elim (fun y564 h9z => h9z.elim (fun y565 h9z => h9z.elim (fun t566 h9z => h9z.elim (fun t567 h9z => h9z.elim (fun t568 h9z => h9z.elim (fun t569 h9z => h9z.elim (fun t570 h9z => h9z.elim (fun t571 h9z => h9z.elim (fun t572 h9z => h9z.elim (fun t573 h9z => h9z.elim (fun t574 h9z => h9z.elim (fun t575 h9z => h9z.elim (fun t576 h9z => h9z.elim (fun t577 h9z => h9z.elim (fun t578 h9z => h9z.elim (fun t579 h9z => h9z.elim (fun t580 h9z => h9z.elim (fun t581 h9z => h9z.elim (fun t582 h9z => h9z.elim (fun heq925 h9z => ?_))))))))))))))))))))))))))
                subst heq925
                subst h9z
                have hP : va_P D vwCl [(h_s, .inl (cI, 335, .inl f_s)), (h_names, .inl (cJ, 36, .inr (.inl f_names))), (h_reserved, .inl (cJ, 23, .inr (.inl f_reserved))), (h_planRead, .inl (cI, 24, .inl f_planRead)), (h0, .inr (10, vL 67 F558)), (h_tape, .inl (cB, 940, .inl f_tape))] H := hP
                have hD : va_D A [(h_s, .inl (cI, 335, .inl f_s)), (h_names, .inl (cJ, 36, .inr (.inl f_names))), (h_reserved, .inl (cJ, 23, .inr (.inl f_reserved))), (h_planRead, .inl (cI, 24, .inl f_planRead)), (h0, .inr (10, vL 67 F558)), (h_tape, .inl (cB, 940, .inl f_tape))] := hD
                refine W.widen (k := 0) (n := 0) (Nat.le_of_ble_eq_true rfl) (Nat.le_of_ble_eq_true rfl) ?_
                have k584 : 2 ≤ y520.toInt ∧ y520.toInt ≤ 2 := ⟨Int.le_trans (Int.le_refl _) (Int.le_of_eq t578.symm), Int.le_trans (Int.le_of_eq t578) (Int.le_refl _)⟩
                have k585 : 0 ≤ y523.toInt ∧ y523.toInt ≤ 2147483647 := ⟨Int.le_trans (Int.le_refl _) t579, (ir_any _).2⟩
                have k586 : 0 ≤ y523.toInt ∧ y523.toInt ≤ 39 := ⟨k585.1, Int.le_trans t580 k546.2⟩
                have k587 : 0 ≤ v545.toInt ∧ v545.toInt ≤ 39 := ⟨Int.le_trans k585.1 t580, k546.2⟩
                have k588 : 1 ≤ v543.toInt ∧ v543.toInt ≤ 40 := ⟨lin_lo (lin_m bv545) k587.1 (by decide), k544.2⟩
                refine lv_if_ne (tgt := 187) hx hb dX10_planLine_182 (by decide) (fun _ => ?_) (fun g => absurd g (by decide))
                refine lv_aload_n hx hb dX10_planLine_187 rfl (lv_at hl 1 rfl) ?_
                have n589 : F499 22 = .ref h_planRead := (get_ne eF499 (by decide) n468)
                have n590 : F518 22 = .ref h_planRead := (SAME.at t525 (by decide) n589)
                have n591 : F558 22 = .ref h_planRead := (SAME.at t566 (by decide) n590)
                refine get_f (D := D) (ci := 10) (v := .ref h_planRead) (C := RX10) (T := TX10) (N := 67) hx hb hw inAX10 hown hK hP 4 rfl rfl 22 (by decide) (hw _ q_1283) (fun _ h9 => h9) n591 dX10_planLine_188 ?_
                refine lv_iconst (v := 5) hx hb dX10_planLine_191 (by decide) ?_
                refine lv_iload_n hx hb dX10_planLine_192 rfl (lv_at hl 0 rfl) ?_
                refine lv_iadd hx hb dX10_planLine_193 ?_
                refine lv_topi (fun v592 ev592 => ?_)
                have bv592 : v592.toInt = 5 + r479.toInt := by rw [ev592]; exact add_k rfl rfl ⟨Int.le_refl _, Int.le_refl _⟩ k491 (by decide)
                have k593 : 5 ≤ v592.toInt ∧ v592.toInt ≤ 8 := add_r bv592 ⟨Int.le_refl _, Int.le_refl _⟩ k491 (by decide)
                refine lv_aload_n hx hb dX10_planLine_194 rfl (lv_at hl 1 rfl) ?_
                refine get_f (D := D) (ci := 10) (v := .int y565) (C := RX10) (T := TX10) (N := 67) hx hb hw inAX10 hown hK hP 4 rfl rfl 19 (by decide) (hw _ q_1280) (fun _ h9 => h9) t577 dX10_planLine_195 ?_
                obtain ⟨g594, eg594⟩ : ∃ z : Nat → Int32, upd f_planRead v592.toNatClampNeg y565 = z := ⟨_, rfl⟩
                have r595 : SG 1 4 0 11 g594 := by rw [← eg594]; exact s_planRead_1.up (Int.le_trans (by decide) k593.1) (Or.inr (Or.inl (dec_lt k593.1 (by decide))))
                have r596 : SG 10 10 0 5 g594 := by rw [← eg594]; exact s_planRead_10.up (Int.le_trans (by decide) k593.1) (Or.inl (lt_dec k593.2 (by decide)))
                refine iast_g hx hb hK hP hD hS 3 0 rfl rfl (ix_k k593 (by decide) (by decide)) eg594 dX10_planLine_198 (fun H locs hP hD hS => ?_)
                have hP : va_P D vwCl [(h_s, .inl (cI, 335, .inl f_s)), (h_names, .inl (cJ, 36, .inr (.inl f_names))), (h_reserved, .inl (cJ, 23, .inr (.inl f_reserved))), (h_planRead, .inl (cI, 24, .inl g594)), (h0, .inr (10, vL 67 F558)), (h_tape, .inl (cB, 940, .inl f_tape))] H := hP
                have hD : va_D A [(h_s, .inl (cI, 335, .inl f_s)), (h_names, .inl (cJ, 36, .inr (.inl f_names))), (h_reserved, .inl (cJ, 23, .inr (.inl f_reserved))), (h_planRead, .inl (cI, 24, .inl g594)), (h0, .inr (10, vL 67 F558)), (h_tape, .inl (cB, 940, .inl f_tape))] := hD
                refine lv_iconst (v := 1) hx hb dX10_planLine_199 (by decide) ?_
                exact ret_i (v := 1) hx hb hr hlocks hS (hP.sub (ws' := [(h0, .inr (10, vL 67 F558)), (h_tape, .inl (cB, 940, .inl f_tape)), (h_s, .inl (cI, 335, .inl f_s)), (h_names, .inl (cJ, 36, .inr (.inl f_names))), (h_reserved, .inl (cJ, 23, .inr (.inl f_reserved))), (h_planRead, .inl (cI, 24, .inl g594))]) [4, 5, 0, 1, 2, 3] rfl) (hD.sub (ws' := [(h0, .inr (10, vL 67 F558)), (h_tape, .inl (cB, 940, .inl f_tape)), (h_s, .inl (cI, 335, .inl f_s)), (h_names, .inl (cJ, 36, .inr (.inl f_names))), (h_reserved, .inl (cJ, 23, .inr (.inl f_reserved))), (h_planRead, .inl (cI, 24, .inl g594))]) [4, 5, 0, 1, 2, 3] (by decide) rfl) dX10_planLine_200 rfl (Nat.le_of_ble_eq_true rfl) (Nat.le_of_ble_eq_true rfl) ⟨F558, y559, y560, y561, y562, y563, y456, y457, y564, y565, x_onces, v498, x_heights, g594, (SAME.tr (SAME.tr (SAME.up eF499 (SAME.tr (SAME.tr SAME.rf t433 (by decide)) t459 (by decide)) (by decide)) t525 (by decide)) t566 (by decide)), t567, t568, t569, t570, t571, t573, t575, (SAME.at t566 (by decide) (SAME.at t525 (by decide) (get_ne eF499 (by decide) t460))), (SAME.at t566 (by decide) (SAME.at t525 (by decide) (get_ne eF499 (by decide) t461))), t576, t577, (SAME.at t566 (by decide) (SAME.at t525 (by decide) (get_ne eF499 (by decide) (SAME.at t459 (by decide) (SAME.at t433 (by decide) e_onces))))), (SAME.at t566 (by decide) (SAME.at t525 (by decide) (get_eq eF499))), (SAME.at t566 (by decide) (SAME.at t525 (by decide) (get_ne eF499 (by decide) (SAME.at t459 (by decide) (SAME.at t433 (by decide) e_heights))))), r595, r596, (show 0 ≤ (1 : Int32).toInt ∧ (1 : Int32).toInt ≤ 1 by decide), (by have zl1 : (1 : Int32).toInt = 1 := (by decide); omega), (by omega), rfl⟩
            · have hP : va_P D vwCl [(h_tape, .inl (cB, 940, .inl f_tape)), (h_s, .inl (cI, 335, .inl f_s)), (h_names, .inl (cJ, 36, .inr (.inl f_names))), (h_reserved, .inl (cJ, 23, .inr (.inl f_reserved))), (h0, .inr (10, vL 67 F455)), (h_planRead, .inl (cI, 24, .inl f_planRead))] H := hP
              have hD : va_D A [(h_tape, .inl (cB, 940, .inl f_tape)), (h_s, .inl (cI, 335, .inl f_s)), (h_names, .inl (cJ, 36, .inr (.inl f_names))), (h_reserved, .inl (cJ, 23, .inr (.inl f_reserved))), (h0, .inr (10, vL 67 F455)), (h_planRead, .inl (cI, 24, .inl f_planRead))] := hD
              refine W.widen (k := 0) (n := 0) (Nat.le_of_ble_eq_true rfl) (Nat.le_of_ble_eq_true rfl) ?_
              refine lv_if_eq (tgt := 153) hx hb dX10_planLine_144 (by decide) (fun g => absurd g (by decide)) (fun _ => ?_)
              refine lv_aload_n hx hb dX10_planLine_147 rfl (lv_at hl 1 rfl) ?_
              refine lv_iconst (v := 3) hx hb dX10_planLine_148 (by decide) ?_
              have n597 : F455 12 = .int y429 := (SAME.at t459 (by decide) t438)
              refine call_Vi (wr := [(h_tape, .inl (cB, 940, .inl f_tape)), (h_s, .inl (cI, 335, .inl f_s)), (h_names, .inl (cJ, 36, .inr (.inl f_names))), (h_reserved, .inl (cJ, 23, .inr (.inl f_reserved))), (h_planRead, .inl (cI, 24, .inl f_planRead))]) (As := [.int 3]) (rest := []) hx hb hml hown hw (m_X10_bad l D cI cJ cB cP cM cZ h0 F455 y429 3 _ n597) wV_X10_205_X10_bad dX10_planLine_149 hK hP hD hS hA [4] [0, 1, 2, 3, 5] rfl rfl (by decide) (by decide) (by decide) 0 10 rfl rfl GG.fb hG.at hl.1 rfl (Nat.le_of_ble_eq_true rfl) ⟨(Nat.le_of_ble_eq_true rfl), (Nat.le_of_ble_eq_true rfl)⟩ ⟨(Nat.le_of_ble_eq_true rfl), (Nat.le_of_ble_eq_true rfl)⟩ (fun r598 u H locs hp hP hD hS => ?_)
              have zl3 : (3 : Int32).toInt = 3 := by decide
              obtain ⟨F599, t600, t601, t602, rfl, rfl⟩ := hp
              have hP : va_P D vwCl [(h_tape, .inl (cB, 940, .inl f_tape)), (h_s, .inl (cI, 335, .inl f_s)), (h_names, .inl (cJ, 36, .inr (.inl f_names))), (h_reserved, .inl (cJ, 23, .inr (.inl f_reserved))), (h_planRead, .inl (cI, 24, .inl f_planRead)), (h0, .inr (10, vL 67 F599))] H := hP
              have hD : va_D A [(h_tape, .inl (cB, 940, .inl f_tape)), (h_s, .inl (cI, 335, .inl f_s)), (h_names, .inl (cJ, 36, .inr (.inl f_names))), (h_reserved, .inl (cJ, 23, .inr (.inl f_reserved))), (h_planRead, .inl (cI, 24, .inl f_planRead)), (h0, .inr (10, vL 67 F599))] := hD
              refine W.widen (k := 0) (n := 0) (Nat.le_of_ble_eq_true rfl) (Nat.le_of_ble_eq_true rfl) ?_
              exact ret_i (v := 0) hx hb hr hlocks hS (hP.sub (ws' := [(h0, .inr (10, vL 67 F599)), (h_tape, .inl (cB, 940, .inl f_tape)), (h_s, .inl (cI, 335, .inl f_s)), (h_names, .inl (cJ, 36, .inr (.inl f_names))), (h_reserved, .inl (cJ, 23, .inr (.inl f_reserved))), (h_planRead, .inl (cI, 24, .inl f_planRead))]) [5, 0, 1, 2, 3, 4] rfl) (hD.sub (ws' := [(h0, .inr (10, vL 67 F599)), (h_tape, .inl (cB, 940, .inl f_tape)), (h_s, .inl (cI, 335, .inl f_s)), (h_names, .inl (cJ, 36, .inr (.inl f_names))), (h_reserved, .inl (cJ, 23, .inr (.inl f_reserved))), (h_planRead, .inl (cI, 24, .inl f_planRead))]) [5, 0, 1, 2, 3, 4] (by decide) rfl) dX10_planLine_152 rfl (Nat.le_of_ble_eq_true rfl) (Nat.le_of_ble_eq_true rfl) ⟨F599, y427, y428, y429, y430, y431, 3, y429, y432, y458, x_onces, x_jumped, x_heights, f_planRead, (SAME.tr (SAME.tr (SAME.tr SAME.rf t433 (by decide)) t459 (by decide)) t600 (by decide)), (SAME.at t600 (by decide) (SAME.at t459 (by decide) t434)), t435, (SAME.at t600 (by decide) (SAME.at t459 (by decide) t436)), t437, (SAME.at t600 (by decide) n597), (SAME.at t600 (by decide) (SAME.at t459 (by decide) t440)), (SAME.at t600 (by decide) (SAME.at t459 (by decide) t442)), t601, t602, (SAME.at t600 (by decide) (SAME.at t459 (by decide) t443)), (SAME.at t600 (by decide) t462), (SAME.at t600 (by decide) (SAME.at t459 (by decide) (SAME.at t433 (by decide) e_onces))), (SAME.at t600 (by decide) n493), (SAME.at t600 (by decide) (SAME.at t459 (by decide) (SAME.at t433 (by decide) e_heights))), s_planRead_1, s_planRead_10, (show 0 ≤ (0 : Int32).toInt ∧ (0 : Int32).toInt ≤ 1 by decide), (by have zl0 : (0 : Int32).toInt = 0 := (by decide); omega), (by have zl3 : (3 : Int32).toInt = 3 := (by decide); omega), rfl⟩
      · have dc465 : r454.toInt = 0 := eq_i (a := r454.toInt) (b := 0) rfl rfl c465
        have k604 : 0 ≤ r454.toInt ∧ r454.toInt ≤ 0 := ⟨t463.1, Int.le_trans (Int.le_of_eq dc465) (Int.le_refl _)⟩
        refine lv_iconst (v := 0) hx hb dX10_planLine_106 (by decide) ?_
        exact ret_i (v := 0) hx hb hr hlocks hS (hP.sub (ws' := [(h0, .inr (10, vL 67 F455)), (h_tape, .inl (cB, 940, .inl f_tape)), (h_s, .inl (cI, 335, .inl f_s)), (h_names, .inl (cJ, 36, .inr (.inl f_names))), (h_reserved, .inl (cJ, 23, .inr (.inl f_reserved))), (h_planRead, .inl (cI, 24, .inl f_planRead))]) [2, 1, 3, 4, 5, 0] rfl) (hD.sub (ws' := [(h0, .inr (10, vL 67 F455)), (h_tape, .inl (cB, 940, .inl f_tape)), (h_s, .inl (cI, 335, .inl f_s)), (h_names, .inl (cJ, 36, .inr (.inl f_names))), (h_reserved, .inl (cJ, 23, .inr (.inl f_reserved))), (h_planRead, .inl (cI, 24, .inl f_planRead))]) [2, 1, 3, 4, 5, 0] (by decide) rfl) dX10_planLine_107 rfl (Nat.le_of_ble_eq_true rfl) (Nat.le_of_ble_eq_true rfl) ⟨F455, y427, y428, y429, y430, y431, y456, y457, y432, y458, x_onces, x_jumped, x_heights, f_planRead, (SAME.tr (SAME.tr SAME.rf t433 (by decide)) t459 (by decide)), (SAME.at t459 (by decide) t434), t435, (SAME.at t459 (by decide) t436), t437, (SAME.at t459 (by decide) t438), (SAME.at t459 (by decide) t440), (SAME.at t459 (by decide) t442), t460, t461, (SAME.at t459 (by decide) t443), t462, (SAME.at t459 (by decide) (SAME.at t433 (by decide) e_onces)), (SAME.at t459 (by decide) (SAME.at t433 (by decide) e_jumped)), (SAME.at t459 (by decide) (SAME.at t433 (by decide) e_heights)), s_planRead_1, s_planRead_10, (show 0 ≤ (0 : Int32).toInt ∧ (0 : Int32).toInt ≤ 1 by decide), (by have zl0 : (0 : Int32).toInt = 0 := (by decide); omega), (by omega), rfl⟩
  · have dc5 : r1.toInt ≠ 0 := ne_i (a := r1.toInt) (b := 0) rfl rfl c5
    have k605 : 1 ≤ r1.toInt ∧ r1.toInt ≤ 1 := ⟨ne_lo dc5 t2.1 ⟨Int.le_refl _, Int.le_refl _⟩ (by decide), t2.2⟩
    refine lv_aload_n hx hb dX10_planLine_10 rfl (lv_at hl 0 rfl) ?_
    refine lv_iconst (v := 0) hx hb dX10_planLine_11 (by decide) ?_
    refine call_Vi (wr := [(h_s, .inl (cI, 335, .inl f_s)), (h_names, .inl (cJ, 36, .inr (.inl f_names))), (h_reserved, .inl (cJ, 23, .inr (.inl f_reserved))), (h_planRead, .inl (cI, 24, .inl f_planRead))]) (As := [.int 0]) (rest := []) hx hb hml hown hw (m_X10_isOnce l D cI cJ cB cP cM cZ h0 h_tape Fh x_size x_p x_limit x_token x_at x_span x_number x_fault x_faultAt x_word x_onces f_tape 0 _ e_tape e_size i_x_size e_p i_x_p e_limit i_x_limit e_token i_x_token e_at e_span e_number e_fault e_faultAt e_word e_onces (by omega)) wV_X10_239_X10_isOnce dX10_planLine_12 hK hP hD hS hA [5, 0] [1, 2, 3, 4] rfl rfl (by decide) (by decide) (by decide) 0 10 rfl rfl GG.fb hG.at hl.1 rfl (Nat.le_of_ble_eq_true rfl) ⟨(Nat.le_of_ble_eq_true rfl), (Nat.le_of_ble_eq_true rfl)⟩ ⟨(Nat.le_of_ble_eq_true rfl), (Nat.le_of_ble_eq_true rfl)⟩ (fun r606 u H locs hp hP hD hS => ?_)
    have zl0 : (0 : Int32).toInt = 0 := by decide
    refine hp.elim (fun F607 h9z => h9z.elim (fun y608 h9z => h9z.elim (fun y609 h9z => h9z.elim (fun y610 h9z => h9z.elim (fun y611 h9z => h9z.elim (fun y612 h9z => h9z.elim (fun y613 h9z => h9z.elim (fun y614 h9z => h9z.elim (fun y615 h9z => h9z.elim (fun y616 h9z => h9z.elim (fun t617 h9z => h9z.elim (fun t618 h9z => h9z.elim (fun t619 h9z => h9z.elim (fun t620 h9z => h9z.elim (fun t621 h9z => h9z.elim (fun t622 h9z => h9z.elim (fun t623 h9z => h9z.elim (fun t624 h9z => h9z.elim (fun t625 h9z => h9z.elim (fun t626 h9z => h9z.elim (fun t627 h9z => h9z.elim (fun t628 h9z => h9z.elim (fun t629 h9z => h9z.elim (fun t630 h9z => h9z.elim (fun t631 h9z => ?_)))))))))))))))))))))))))
    subst h9z
    have hP : va_P D vwCl [(h_s, .inl (cI, 335, .inl f_s)), (h_names, .inl (cJ, 36, .inr (.inl f_names))), (h_reserved, .inl (cJ, 23, .inr (.inl f_reserved))), (h_planRead, .inl (cI, 24, .inl f_planRead)), (h0, .inr (10, vL 67 F607)), (h_tape, .inl (cB, 940, .inl f_tape))] H := hP
    have hD : va_D A [(h_s, .inl (cI, 335, .inl f_s)), (h_names, .inl (cJ, 36, .inr (.inl f_names))), (h_reserved, .inl (cJ, 23, .inr (.inl f_reserved))), (h_planRead, .inl (cI, 24, .inl f_planRead)), (h0, .inr (10, vL 67 F607)), (h_tape, .inl (cB, 940, .inl f_tape))] := hD
    refine W.widen (k := 0) (n := 0) (Nat.le_of_ble_eq_true rfl) (Nat.le_of_ble_eq_true rfl) ?_
    refine lv_if_ne (tgt := 20) hx hb dX10_planLine_15 (by decide) (fun c633 => ?_) (fun c633 => ?_)
    · have dc633 : r606.toInt ≠ 0 := ne_i (a := r606.toInt) (b := 0) rfl rfl c633
      have k634 : 1 ≤ r606.toInt ∧ r606.toInt ≤ 1 := ⟨ne_lo dc633 t629.1 ⟨Int.le_refl _, Int.le_refl _⟩ (by decide), t629.2⟩
      refine lv_iconst (v := 0) hx hb dX10_planLine_20 (by decide) ?_
      refine lv_istore_n (lv' := [(1, .int 0), (0, .ref h0)]) hx hb dX10_planLine_21 rfl hl (by decide) rfl (fun ls hl => ?_)
      have n647 : F607 19 = .int x_got := (SAME.at t617 (by decide) e_got)
      refine mloop (α := (Int32) × (Nat → Int32) × (Nat → Value) × (Int32) × (Int32) × (Int32) × (Int32) × (Int32) × (Int32) × (Int32) × (Int64) × (Int32)) (nL := 2) (D := D) (A := A) (H0 := s.heap) (fun a => (4 - a.1.toInt).toNat) (fun a => IR 0 4 a.1 ∧ SG 1 4 0 11 a.2.1 ∧ SG 10 10 0 5 a.2.1 ∧ SAME [4, 11, 12, 13, 14, 15, 16, 18, 19] F607 a.2.2.1 ∧ a.2.2.1 4 = .int a.2.2.2.1 ∧ a.2.2.1 11 = .int a.2.2.2.2.1 ∧ a.2.2.1 12 = .int a.2.2.2.2.2.1 ∧ a.2.2.1 13 = .int a.2.2.2.2.2.2.1 ∧ a.2.2.1 14 = .int a.2.2.2.2.2.2.2.1 ∧ a.2.2.1 15 = .int a.2.2.2.2.2.2.2.2.1 ∧ a.2.2.1 16 = .int a.2.2.2.2.2.2.2.2.2.1 ∧ a.2.2.1 18 = .long a.2.2.2.2.2.2.2.2.2.2.1 ∧ a.2.2.1 19 = .int a.2.2.2.2.2.2.2.2.2.2.2 ∧ IR 0 940 a.2.2.2.1 ∧ IR 0 4 a.2.2.2.2.1 ∧ ((a.2.2.2.2.1.toInt = 2 → 0 ≤ a.2.2.2.2.2.2.2.1.toInt ∧ a.2.2.2.2.2.2.2.1.toInt ≤ 999))) (fun a => [(h_s, .inl (cI, 335, .inl f_s)), (h_names, .inl (cJ, 36, .inr (.inl f_names))), (h_reserved, .inl (cJ, 23, .inr (.inl f_reserved))), (h_planRead, .inl (cI, 24, .inl a.2.1)), (h0, .inr (10, vL 67 a.2.2.1)), (h_tape, .inl (cB, 940, .inl f_tape))]) (fun a => [(1, .int a.1), (0, .ref h0)]) (fun H locs ls => W p l e ({ frames := 3, cells := 0, slots := 0, locals := 65 } : Room) s m [.ref h0].toArray below meth c H locs 0 0 (MQ below (va_Qi (fun (r : Int32) (u : va_W) => ∃ (Gh : Nat → Value) (y_p : Int32) (y_token : Int32) (y_at : Int32) (y_span : Int32) (y_number : Int32) (y_fault : Int32) (y_faultAt : Int32) (y_word : Int64) (y_got : Int32) (y_onces : Int32) (y_jumped : Int32) (y_heights : Int32) (g_planRead : Nat → Int32), SAME [4, 11, 12, 13, 14, 15, 16, 18, 19, 21, 23, 24] Fh Gh ∧ Gh 4 = .int y_p ∧ IR 0 940 y_p ∧ Gh 11 = .int y_token ∧ IR 0 4 y_token ∧ Gh 12 = .int y_at ∧ Gh 13 = .int y_span ∧ Gh 14 = .int y_number ∧ Gh 15 = .int y_fault ∧ Gh 16 = .int y_faultAt ∧ Gh 18 = .long y_word ∧ Gh 19 = .int y_got ∧ Gh 21 = .int y_onces ∧ Gh 23 = .int y_jumped ∧ Gh 24 = .int y_heights ∧ SG 1 4 0 11 g_planRead ∧ SG 10 10 0 5 g_planRead ∧ IR 0 1 r ∧ ((r.toInt = 1 → (x_p.toInt ≤ y_p.toInt ∧ (y_token.toInt = 3 → x_p.toInt < y_p.toInt)))) ∧ ((y_token.toInt = 2 → 0 ≤ y_number.toInt ∧ y_number.toInt ≤ 999)) ∧ u = [(h0, .inr (10, vL 67 Gh)), (h_tape, .inl (cB, 940, .inl f_tape)), (h_s, .inl (cI, 335, .inl f_s)), (h_names, .inl (cJ, 36, .inr (.inl f_names))), (h_reserved, .inl (cJ, 23, .inr (.inl f_reserved))), (h_planRead, .inl (cI, 24, .inl g_planRead))]) (PO D A) A) [.ref h0].toArray s 0 0 A) (F0 m 22 ls [])) ?_ (0, f_planRead, F607, y608, y609, y610, y611, y612, y613, y614, y615, x_got) ⟨(show 0 ≤ (0 : Int32).toInt ∧ (0 : Int32).toInt ≤ 4 by decide), s_planRead_1, s_planRead_10, SAME.rf, t618, t620, t622, t623, t624, t625, t626, t627, n647, t619, t621, (by show (y609.toInt = 2 → 0 ≤ y612.toInt ∧ y612.toInt ≤ 999); omega)⟩ _ _ _ hP hD hS hl
      rintro ⟨u635, w636, G637, u638, u639, u640, u641, u642, u643, u644, u645, u646⟩ ⟨i648, i649, i650, i651, i652, i653, i654, i655, i656, i657, i658, i659, i660, i661, i662, i663⟩ ih H locs ls hP hD hS hl
      have i648 : 0 ≤ u635.toInt ∧ u635.toInt ≤ 4 := i648
      have i661 : 0 ≤ u638.toInt ∧ u638.toInt ≤ 940 := i661
      have i662 : 0 ≤ u639.toInt ∧ u639.toInt ≤ 4 := i662
      have i663 : (u639.toInt = 2 → 0 ≤ u642.toInt ∧ u642.toInt ≤ 999) := i663
      have hP : va_P D vwCl [(h_s, .inl (cI, 335, .inl f_s)), (h_names, .inl (cJ, 36, .inr (.inl f_names))), (h_reserved, .inl (cJ, 23, .inr (.inl f_reserved))), (h_planRead, .inl (cI, 24, .inl w636)), (h0, .inr (10, vL 67 G637)), (h_tape, .inl (cB, 940, .inl f_tape))] H := hP
      have hD : va_D A [(h_s, .inl (cI, 335, .inl f_s)), (h_names, .inl (cJ, 36, .inr (.inl f_names))), (h_reserved, .inl (cJ, 23, .inr (.inl f_reserved))), (h_planRead, .inl (cI, 24, .inl w636)), (h0, .inr (10, vL 67 G637)), (h_tape, .inl (cB, 940, .inl f_tape))] := hD
      have hl : lv_has ls 2 [(1, .int u635), (0, .ref h0)] := hl
      refine lv_iload_n hx hb dX10_planLine_22 rfl (lv_at hl 0 rfl) ?_
      refine lv_iconst (v := 4) hx hb dX10_planLine_23 (by decide) ?_
      refine lv_icmp_ge (tgt := 76) hx hb dX10_planLine_24 (by decide) (fun c664 => ?_) (fun c664 => ?_)
      · have dc664 : 4 ≤ u635.toInt := le_i (a := 4) (b := u635.toInt) rfl rfl c664
        have k665 : 4 ≤ u635.toInt ∧ u635.toInt ≤ 4 := ⟨Int.le_trans (Int.le_refl _) dc664, i648.2⟩
        refine lv_aload_n hx hb dX10_planLine_76 rfl (lv_at hl 1 rfl) ?_
        have n666 : F607 22 = .ref h_planRead := (SAME.at t617 (by decide) e_planRead)
        have n667 : G637 22 = .ref h_planRead := (SAME.at i651 (by decide) n666)
        refine get_f (D := D) (ci := 10) (v := .ref h_planRead) (C := RX10) (T := TX10) (N := 67) hx hb hw inAX10 hown hK hP 4 rfl rfl 22 (by decide) (hw _ q_1283) (fun _ h9 => h9) n667 dX10_planLine_77 ?_
        refine lv_iconst (v := 0) hx hb dX10_planLine_80 (by decide) ?_
        refine lv_iconst (v := 1) hx hb dX10_planLine_81 (by decide) ?_
        obtain ⟨g668, eg668⟩ : ∃ z : Nat → Int32, upd w636 0 1 = z := ⟨_, rfl⟩
        have r669 : SG 1 4 0 11 g668 := by rw [← eg668]; exact i649.upN (by decide)
        have r670 : SG 10 10 0 5 g668 := by rw [← eg668]; exact i650.upN (by decide)
        refine iast_n hx hb hK hP hD hS 3 0 rfl rfl 0 rfl (Nat.le_of_ble_eq_true rfl) (Nat.le_of_ble_eq_true rfl) eg668 dX10_planLine_82 (fun H locs hP hD hS => ?_)
        have hP : va_P D vwCl [(h_s, .inl (cI, 335, .inl f_s)), (h_names, .inl (cJ, 36, .inr (.inl f_names))), (h_reserved, .inl (cJ, 23, .inr (.inl f_reserved))), (h_planRead, .inl (cI, 24, .inl g668)), (h0, .inr (10, vL 67 G637)), (h_tape, .inl (cB, 940, .inl f_tape))] H := hP
        have hD : va_D A [(h_s, .inl (cI, 335, .inl f_s)), (h_names, .inl (cJ, 36, .inr (.inl f_names))), (h_reserved, .inl (cJ, 23, .inr (.inl f_reserved))), (h_planRead, .inl (cI, 24, .inl g668)), (h0, .inr (10, vL 67 G637)), (h_tape, .inl (cB, 940, .inl f_tape))] := hD
        refine lv_iconst (v := 1) hx hb dX10_planLine_83 (by decide) ?_
        exact ret_i (v := 1) hx hb hr hlocks hS (hP.sub (ws' := [(h0, .inr (10, vL 67 G637)), (h_tape, .inl (cB, 940, .inl f_tape)), (h_s, .inl (cI, 335, .inl f_s)), (h_names, .inl (cJ, 36, .inr (.inl f_names))), (h_reserved, .inl (cJ, 23, .inr (.inl f_reserved))), (h_planRead, .inl (cI, 24, .inl g668))]) [4, 5, 0, 1, 2, 3] rfl) (hD.sub (ws' := [(h0, .inr (10, vL 67 G637)), (h_tape, .inl (cB, 940, .inl f_tape)), (h_s, .inl (cI, 335, .inl f_s)), (h_names, .inl (cJ, 36, .inr (.inl f_names))), (h_reserved, .inl (cJ, 23, .inr (.inl f_reserved))), (h_planRead, .inl (cI, 24, .inl g668))]) [4, 5, 0, 1, 2, 3] (by decide) rfl) dX10_planLine_84 rfl (Nat.le_of_ble_eq_true rfl) (Nat.le_of_ble_eq_true rfl) ⟨G637, u638, u639, u640, u641, u642, u643, u644, u645, u646, y616, x_jumped, x_heights, g668, (SAME.tr (SAME.tr SAME.rf t617 (by decide)) i651 (by decide)), i652, i661, i653, i662, i654, i655, i656, i657, i658, i659, i660, (SAME.at i651 (by decide) t628), (SAME.at i651 (by decide) (SAME.at t617 (by decide) e_jumped)), (SAME.at i651 (by decide) (SAME.at t617 (by decide) e_heights)), r669, r670, (show 0 ≤ (1 : Int32).toInt ∧ (1 : Int32).toInt ≤ 1 by decide), (by have zl1 : (1 : Int32).toInt = 1 := (by decide); omega), (by omega), rfl⟩
      · have dc664 : u635.toInt < 4 := nle_i (a := 4) (b := u635.toInt) rfl rfl c664
        have k671 : 0 ≤ u635.toInt ∧ u635.toInt ≤ 3 := ⟨i648.1, up_lt dc664 (Int.le_refl _) (by decide)⟩
        refine lv_aload_n hx hb dX10_planLine_27 rfl (lv_at hl 1 rfl) ?_
        have n672 : F607 6 = .ref h_s := (SAME.at t617 (by decide) e_s)
        have n673 : G637 6 = .ref h_s := (SAME.at i651 (by decide) n672)
        have n674 : F607 9 = .ref h_names := (SAME.at t617 (by decide) e_names)
        have n675 : G637 9 = .ref h_names := (SAME.at i651 (by decide) n674)
        have n676 : F607 10 = .ref h_reserved := (SAME.at t617 (by decide) e_reserved)
        have n677 : G637 10 = .ref h_reserved := (SAME.at i651 (by decide) n676)
        refine call_Vi (wr := [(h_planRead, .inl (cI, 24, .inl w636)), (h_tape, .inl (cB, 940, .inl f_tape))]) (As := []) (rest := []) hx hb hml hown hw (m_X10_looksAtMan l D cI cJ cB cP cM cZ h0 h_s h_names h_reserved G637 u639 u640 u642 u643 u644 u645 u646 f_s f_names f_reserved _ n673 n675 n677 i653 i662 i654 i656 i657 i658 i659 i660 s_s_K0 s_s_0 s_s_105 s_s_114 s_s_130 s_s_139 s_s_153 s_s_44 s_s_5 s_s_6 s_s_7 (by omega)) wV_X10_266_X10_looksAtMan dX10_planLine_28 hK hP hD hS hA [4, 0, 1, 2] [3, 5] rfl rfl (by decide) (by decide) (by decide) 0 10 rfl rfl GG.fb hG.at hl.1 rfl (Nat.le_of_ble_eq_true rfl) ⟨(Nat.le_of_ble_eq_true rfl), (Nat.le_of_ble_eq_true rfl)⟩ ⟨(Nat.le_of_ble_eq_true rfl), (Nat.le_of_ble_eq_true rfl)⟩ (fun r678 u H locs hp hP hD hS => ?_)
        obtain ⟨F679, y680, y681, y682, t683, t684, t685, t686, t687, rfl⟩ := hp
        have hP : va_P D vwCl [(h_planRead, .inl (cI, 24, .inl w636)), (h_tape, .inl (cB, 940, .inl f_tape)), (h0, .inr (10, vL 67 F679)), (h_s, .inl (cI, 335, .inl f_s)), (h_names, .inl (cJ, 36, .inr (.inl f_names))), (h_reserved, .inl (cJ, 23, .inr (.inl f_reserved)))] H := hP
        have hD : va_D A [(h_planRead, .inl (cI, 24, .inl w636)), (h_tape, .inl (cB, 940, .inl f_tape)), (h0, .inr (10, vL 67 F679)), (h_s, .inl (cI, 335, .inl f_s)), (h_names, .inl (cJ, 36, .inr (.inl f_names))), (h_reserved, .inl (cJ, 23, .inr (.inl f_reserved)))] := hD
        refine W.widen (k := 0) (n := 0) (Nat.le_of_ble_eq_true rfl) (Nat.le_of_ble_eq_true rfl) ?_
        refine lv_if_ne (tgt := 36) hx hb dX10_planLine_31 (by decide) (fun c689 => ?_) (fun c689 => ?_)
        · have dc689 : r678.toInt ≠ 0 := ne_i (a := r678.toInt) (b := 0) rfl rfl c689
          have k690 : 1 ≤ r678.toInt ∧ r678.toInt ≤ 1 := ⟨ne_lo dc689 t687.1 ⟨Int.le_refl _, Int.le_refl _⟩ (by decide), t687.2⟩
          refine lv_aload_n hx hb dX10_planLine_36 rfl (lv_at hl 1 rfl) ?_
          refine lv_aload_n hx hb dX10_planLine_37 rfl (lv_at hl 1 rfl) ?_
          refine get_f (D := D) (ci := 10) (v := .int y682) (C := RX10) (T := TX10) (N := 67) hx hb hw inAX10 hown hK hP 2 rfl rfl 19 (by decide) (hw _ q_1280) (fun _ h9 => h9) t686 dX10_planLine_38 ?_
          refine lv_iload_n hx hb dX10_planLine_41 rfl (lv_at hl 0 rfl) ?_
          have n691 : F607 22 = .ref h_planRead := (SAME.at t617 (by decide) e_planRead)
          have n692 : G637 22 = .ref h_planRead := (SAME.at i651 (by decide) n691)
          have n693 : F679 22 = .ref h_planRead := (SAME.at t683 (by decide) n692)
          refine call_Vi (wr := [(h_tape, .inl (cB, 940, .inl f_tape)), (h_s, .inl (cI, 335, .inl f_s)), (h_names, .inl (cJ, 36, .inr (.inl f_names))), (h_reserved, .inl (cJ, 23, .inr (.inl f_reserved)))]) (As := [.int y682, .int u635]) (rest := []) hx hb hml hown hw (m_X10_placeIn l D cI cJ cB cP cM cZ h0 h_planRead F679 w636 y682 u635 _ n693 i649 i650 (ir_wk k671 (by decide) (by decide))) wV_X10_269_X10_placeIn dX10_planLine_42 hK hP hD hS hA [2, 0] [1, 3, 4, 5] rfl rfl (by decide) (by decide) (by decide) 0 10 rfl rfl GG.fb hG.at hl.1 rfl (Nat.le_of_ble_eq_true rfl) ⟨(Nat.le_of_ble_eq_true rfl), (Nat.le_of_ble_eq_true rfl)⟩ ⟨(Nat.le_of_ble_eq_true rfl), (Nat.le_of_ble_eq_true rfl)⟩ (fun r694 u H locs hp hP hD hS => ?_)
          obtain ⟨t695, rfl⟩ := hp
          have hP : va_P D vwCl [(h_tape, .inl (cB, 940, .inl f_tape)), (h_s, .inl (cI, 335, .inl f_s)), (h_names, .inl (cJ, 36, .inr (.inl f_names))), (h_reserved, .inl (cJ, 23, .inr (.inl f_reserved))), (h0, .inr (10, vL 67 F679)), (h_planRead, .inl (cI, 24, .inl w636))] H := hP
          have hD : va_D A [(h_tape, .inl (cB, 940, .inl f_tape)), (h_s, .inl (cI, 335, .inl f_s)), (h_names, .inl (cJ, 36, .inr (.inl f_names))), (h_reserved, .inl (cJ, 23, .inr (.inl f_reserved))), (h0, .inr (10, vL 67 F679)), (h_planRead, .inl (cI, 24, .inl w636))] := hD
          refine W.widen (k := 0) (n := 0) (Nat.le_of_ble_eq_true rfl) (Nat.le_of_ble_eq_true rfl) ?_
          refine lv_if_lt (tgt := 54) hx hb dX10_planLine_45 (by decide) (fun c697 => ?_) (fun c697 => ?_)
          · have dc697 : r694.toInt < 0 := lt_i (a := r694.toInt) (b := 0) rfl rfl c697
            have k698 : (-1) ≤ r694.toInt ∧ r694.toInt ≤ (-1) := ⟨t695.1, up_lt dc697 (Int.le_refl _) (by decide)⟩
            refine lv_aload_n hx hb dX10_planLine_54 rfl (lv_at hl 1 rfl) ?_
            refine get_f (D := D) (ci := 10) (v := .ref h_planRead) (C := RX10) (T := TX10) (N := 67) hx hb hw inAX10 hown hK hP 4 rfl rfl 22 (by decide) (hw _ q_1283) (fun _ h9 => h9) n693 dX10_planLine_55 ?_
            refine lv_iconst (v := 1) hx hb dX10_planLine_58 (by decide) ?_
            refine lv_iload_n hx hb dX10_planLine_59 rfl (lv_at hl 0 rfl) ?_
            refine lv_iadd hx hb dX10_planLine_60 ?_
            refine lv_topi (fun v699 ev699 => ?_)
            have bv699 : v699.toInt = 1 + u635.toInt := by rw [ev699]; exact add_k rfl rfl ⟨Int.le_refl _, Int.le_refl _⟩ k671 (by decide)
            have k700 : 1 ≤ v699.toInt ∧ v699.toInt ≤ 4 := add_r bv699 ⟨Int.le_refl _, Int.le_refl _⟩ k671 (by decide)
            refine lv_aload_n hx hb dX10_planLine_61 rfl (lv_at hl 1 rfl) ?_
            refine get_f (D := D) (ci := 10) (v := .int y682) (C := RX10) (T := TX10) (N := 67) hx hb hw inAX10 hown hK hP 4 rfl rfl 19 (by decide) (hw _ q_1280) (fun _ h9 => h9) t686 dX10_planLine_62 ?_
            obtain ⟨g701, eg701⟩ : ∃ z : Nat → Int32, upd w636 v699.toNatClampNeg y682 = z := ⟨_, rfl⟩
            have r702 : SG 1 4 0 11 g701 := by rw [← eg701]; exact i649.up (Int.le_trans (by decide) k700.1) (by omega)
            have r703 : SG 10 10 0 5 g701 := by rw [← eg701]; exact i650.up (Int.le_trans (by decide) k700.1) (Or.inl (lt_dec k700.2 (by decide)))
            refine iast_g hx hb hK hP hD hS 5 0 rfl rfl (ix_k k700 (by decide) (by decide)) eg701 dX10_planLine_65 (fun H locs hP hD hS => ?_)
            have hP : va_P D vwCl [(h_tape, .inl (cB, 940, .inl f_tape)), (h_s, .inl (cI, 335, .inl f_s)), (h_names, .inl (cJ, 36, .inr (.inl f_names))), (h_reserved, .inl (cJ, 23, .inr (.inl f_reserved))), (h0, .inr (10, vL 67 F679)), (h_planRead, .inl (cI, 24, .inl g701))] H := hP
            have hD : va_D A [(h_tape, .inl (cB, 940, .inl f_tape)), (h_s, .inl (cI, 335, .inl f_s)), (h_names, .inl (cJ, 36, .inr (.inl f_names))), (h_reserved, .inl (cJ, 23, .inr (.inl f_reserved))), (h0, .inr (10, vL 67 F679)), (h_planRead, .inl (cI, 24, .inl g701))] := hD
            refine lv_aload_n hx hb dX10_planLine_66 rfl (lv_at hl 1 rfl) ?_
            have n704 : F607 1 = .ref h_tape := (SAME.at t617 (by decide) e_tape)
            have n705 : G637 1 = .ref h_tape := (SAME.at i651 (by decide) n704)
            have n706 : F679 1 = .ref h_tape := (SAME.at t683 (by decide) n705)
            have n707 : F607 3 = .int x_size := (SAME.at t617 (by decide) e_size)
            have n708 : G637 3 = .int x_size := (SAME.at i651 (by decide) n707)
            have n709 : F679 3 = .int x_size := (SAME.at t683 (by decide) n708)
            have n710 : F679 4 = .int u638 := (SAME.at t683 (by decide) i652)
            have n711 : F607 5 = .int x_limit := (SAME.at t617 (by decide) e_limit)
            have n712 : G637 5 = .int x_limit := (SAME.at i651 (by decide) n711)
            have n713 : F679 5 = .int x_limit := (SAME.at t683 (by decide) n712)
            have n714 : F679 11 = .int u639 := (SAME.at t683 (by decide) i653)
            have n715 : F679 14 = .int u642 := (SAME.at t683 (by decide) i656)
            have n716 : F679 18 = .long u645 := (SAME.at t683 (by decide) i659)
            refine call_Vv (wr := [(h_s, .inl (cI, 335, .inl f_s)), (h_names, .inl (cJ, 36, .inr (.inl f_names))), (h_reserved, .inl (cJ, 23, .inr (.inl f_reserved))), (h_planRead, .inl (cI, 24, .inl g701))]) (As := []) (rest := []) hx hb hml hown hw (m_X10_next l D cI cJ cB cP cM cZ h0 h_tape F679 x_size u638 x_limit u639 u642 u645 f_tape _ n706 n709 i_x_size n710 i661 n713 i_x_limit n714 i662 n715 n716 (by omega)) wV_X10_208_X10_next dX10_planLine_67 hK hP hD hS hA [4, 0] [1, 2, 3, 5] rfl rfl (by decide) (by decide) (by decide) 0 10 rfl rfl GG.fb hG.at hl.1 rfl (Nat.le_of_ble_eq_true rfl) ⟨(Nat.le_of_ble_eq_true rfl), (Nat.le_of_ble_eq_true rfl)⟩ ⟨(Nat.le_of_ble_eq_true rfl), (Nat.le_of_ble_eq_true rfl)⟩ (fun u H locs hp hP hD hS => ?_)
            obtain ⟨F718, y719, y720, y721, y722, y723, y724, t725, t726, t727, t728, t729, t730, t731, t732, t733, t734, t735, t736, t737, t738, rfl⟩ := hp
            have hP : va_P D vwCl [(h_s, .inl (cI, 335, .inl f_s)), (h_names, .inl (cJ, 36, .inr (.inl f_names))), (h_reserved, .inl (cJ, 23, .inr (.inl f_reserved))), (h_planRead, .inl (cI, 24, .inl g701)), (h0, .inr (10, vL 67 F718)), (h_tape, .inl (cB, 940, .inl f_tape))] H := hP
            have hD : va_D A [(h_s, .inl (cI, 335, .inl f_s)), (h_names, .inl (cJ, 36, .inr (.inl f_names))), (h_reserved, .inl (cJ, 23, .inr (.inl f_reserved))), (h_planRead, .inl (cI, 24, .inl g701)), (h0, .inr (10, vL 67 F718)), (h_tape, .inl (cB, 940, .inl f_tape))] := hD
            refine W.widen (k := 0) (n := 0) (Nat.le_of_ble_eq_true rfl) (Nat.le_of_ble_eq_true rfl) ?_
            obtain ⟨v740, ev740⟩ : ∃ z : Int32, z = u635 + 1 := ⟨_, rfl⟩
            have bv740 : v740.toInt = u635.toInt + 1 := by rw [ev740]; exact add_k rfl rfl k671 ⟨Int.le_refl _, Int.le_refl _⟩ (by decide)
            have k741 : 1 ≤ v740.toInt ∧ v740.toInt ≤ 4 := add_r bv740 k671 ⟨Int.le_refl _, Int.le_refl _⟩ (by decide)
            refine lv_iinc (v := v740) (lv' := [(1, .int v740), (0, .ref h0)]) hx hb dX10_planLine_70 hl (k := 0) rfl (by rw [ev740]; rfl) (by decide) rfl (fun ls hl => ?_)
            refine lv_goto (tgt := 22) hx hb dX10_planLine_73 (by decide) ?_
            have n742 : F718 15 = .int y680 := (SAME.at t725 (by decide) t684)
            have n743 : F718 16 = .int y681 := (SAME.at t725 (by decide) t685)
            have n744 : F718 19 = .int y682 := (SAME.at t725 (by decide) t686)
            exact ih (v740, g701, F718, y719, y720, y721, y722, y723, y680, y681, y724, y682) ⟨(ir_wk k741 (by decide) (by decide)), r702, r703, (SAME.tr (SAME.tr (SAME.tr SAME.rf i651 (by decide)) t683 (by decide)) t725 (by decide)), t726, t728, t730, t732, t734, n742, n743, t735, n744, t727, t729, (by show (y720.toInt = 2 → 0 ≤ y723.toInt ∧ y723.toInt ≤ 999); omega)⟩ (by show (4 - v740.toInt).toNat < (4 - u635.toInt).toNat; omega) _ _ _ hP hD hS (lv_sub hl [0, 1] rfl)
          · have dc697 : 0 ≤ r694.toInt := nlt_i (a := r694.toInt) (b := 0) rfl rfl c697
            have k745 : 0 ≤ r694.toInt ∧ r694.toInt ≤ 3 := ⟨Int.le_trans (Int.le_refl _) dc697, t695.2⟩
            refine lv_aload_n hx hb dX10_planLine_48 rfl (lv_at hl 1 rfl) ?_
            refine lv_iconst (v := 3) hx hb dX10_planLine_49 (by decide) ?_
            have n746 : F679 12 = .int u640 := (SAME.at t683 (by decide) i654)
            refine call_Vi (wr := [(h_tape, .inl (cB, 940, .inl f_tape)), (h_s, .inl (cI, 335, .inl f_s)), (h_names, .inl (cJ, 36, .inr (.inl f_names))), (h_reserved, .inl (cJ, 23, .inr (.inl f_reserved))), (h_planRead, .inl (cI, 24, .inl w636))]) (As := [.int 3]) (rest := []) hx hb hml hown hw (m_X10_bad l D cI cJ cB cP cM cZ h0 F679 u640 3 _ n746) wV_X10_205_X10_bad dX10_planLine_50 hK hP hD hS hA [4] [0, 1, 2, 3, 5] rfl rfl (by decide) (by decide) (by decide) 0 10 rfl rfl GG.fb hG.at hl.1 rfl (Nat.le_of_ble_eq_true rfl) ⟨(Nat.le_of_ble_eq_true rfl), (Nat.le_of_ble_eq_true rfl)⟩ ⟨(Nat.le_of_ble_eq_true rfl), (Nat.le_of_ble_eq_true rfl)⟩ (fun r747 u H locs hp hP hD hS => ?_)
            have zl3 : (3 : Int32).toInt = 3 := by decide
            obtain ⟨F748, t749, t750, t751, rfl, rfl⟩ := hp
            have hP : va_P D vwCl [(h_tape, .inl (cB, 940, .inl f_tape)), (h_s, .inl (cI, 335, .inl f_s)), (h_names, .inl (cJ, 36, .inr (.inl f_names))), (h_reserved, .inl (cJ, 23, .inr (.inl f_reserved))), (h_planRead, .inl (cI, 24, .inl w636)), (h0, .inr (10, vL 67 F748))] H := hP
            have hD : va_D A [(h_tape, .inl (cB, 940, .inl f_tape)), (h_s, .inl (cI, 335, .inl f_s)), (h_names, .inl (cJ, 36, .inr (.inl f_names))), (h_reserved, .inl (cJ, 23, .inr (.inl f_reserved))), (h_planRead, .inl (cI, 24, .inl w636)), (h0, .inr (10, vL 67 F748))] := hD
            refine W.widen (k := 0) (n := 0) (Nat.le_of_ble_eq_true rfl) (Nat.le_of_ble_eq_true rfl) ?_
            exact ret_i (v := 0) hx hb hr hlocks hS (hP.sub (ws' := [(h0, .inr (10, vL 67 F748)), (h_tape, .inl (cB, 940, .inl f_tape)), (h_s, .inl (cI, 335, .inl f_s)), (h_names, .inl (cJ, 36, .inr (.inl f_names))), (h_reserved, .inl (cJ, 23, .inr (.inl f_reserved))), (h_planRead, .inl (cI, 24, .inl w636))]) [5, 0, 1, 2, 3, 4] rfl) (hD.sub (ws' := [(h0, .inr (10, vL 67 F748)), (h_tape, .inl (cB, 940, .inl f_tape)), (h_s, .inl (cI, 335, .inl f_s)), (h_names, .inl (cJ, 36, .inr (.inl f_names))), (h_reserved, .inl (cJ, 23, .inr (.inl f_reserved))), (h_planRead, .inl (cI, 24, .inl w636))]) [5, 0, 1, 2, 3, 4] (by decide) rfl) dX10_planLine_53 rfl (Nat.le_of_ble_eq_true rfl) (Nat.le_of_ble_eq_true rfl) ⟨F748, u638, u639, u640, u641, u642, 3, u640, u645, y682, y616, x_jumped, x_heights, w636, (SAME.tr (SAME.tr (SAME.tr (SAME.tr SAME.rf t617 (by decide)) i651 (by decide)) t683 (by decide)) t749 (by decide)), (SAME.at t749 (by decide) (SAME.at t683 (by decide) i652)), i661, (SAME.at t749 (by decide) (SAME.at t683 (by decide) i653)), i662, (SAME.at t749 (by decide) n746), (SAME.at t749 (by decide) (SAME.at t683 (by decide) i655)), (SAME.at t749 (by decide) (SAME.at t683 (by decide) i656)), t750, t751, (SAME.at t749 (by decide) (SAME.at t683 (by decide) i659)), (SAME.at t749 (by decide) t686), (SAME.at t749 (by decide) (SAME.at t683 (by decide) (SAME.at i651 (by decide) t628))), (SAME.at t749 (by decide) (SAME.at t683 (by decide) (SAME.at i651 (by decide) (SAME.at t617 (by decide) e_jumped)))), (SAME.at t749 (by decide) (SAME.at t683 (by decide) (SAME.at i651 (by decide) (SAME.at t617 (by decide) e_heights)))), i649, i650, (show 0 ≤ (0 : Int32).toInt ∧ (0 : Int32).toInt ≤ 1 by decide), (by have zl0 : (0 : Int32).toInt = 0 := (by decide); omega), (by have zl3 : (3 : Int32).toInt = 3 := (by decide); omega), rfl⟩
        · have dc689 : r678.toInt = 0 := eq_i (a := r678.toInt) (b := 0) rfl rfl c689
          have k753 : 0 ≤ r678.toInt ∧ r678.toInt ≤ 0 := ⟨t687.1, Int.le_trans (Int.le_of_eq dc689) (Int.le_refl _)⟩
          refine lv_iconst (v := 0) hx hb dX10_planLine_34 (by decide) ?_
          exact ret_i (v := 0) hx hb hr hlocks hS (hP.sub (ws' := [(h0, .inr (10, vL 67 F679)), (h_tape, .inl (cB, 940, .inl f_tape)), (h_s, .inl (cI, 335, .inl f_s)), (h_names, .inl (cJ, 36, .inr (.inl f_names))), (h_reserved, .inl (cJ, 23, .inr (.inl f_reserved))), (h_planRead, .inl (cI, 24, .inl w636))]) [2, 1, 3, 4, 5, 0] rfl) (hD.sub (ws' := [(h0, .inr (10, vL 67 F679)), (h_tape, .inl (cB, 940, .inl f_tape)), (h_s, .inl (cI, 335, .inl f_s)), (h_names, .inl (cJ, 36, .inr (.inl f_names))), (h_reserved, .inl (cJ, 23, .inr (.inl f_reserved))), (h_planRead, .inl (cI, 24, .inl w636))]) [2, 1, 3, 4, 5, 0] (by decide) rfl) dX10_planLine_35 rfl (Nat.le_of_ble_eq_true rfl) (Nat.le_of_ble_eq_true rfl) ⟨F679, u638, u639, u640, u641, u642, y680, y681, u645, y682, y616, x_jumped, x_heights, w636, (SAME.tr (SAME.tr (SAME.tr SAME.rf t617 (by decide)) i651 (by decide)) t683 (by decide)), (SAME.at t683 (by decide) i652), i661, (SAME.at t683 (by decide) i653), i662, (SAME.at t683 (by decide) i654), (SAME.at t683 (by decide) i655), (SAME.at t683 (by decide) i656), t684, t685, (SAME.at t683 (by decide) i659), t686, (SAME.at t683 (by decide) (SAME.at i651 (by decide) t628)), (SAME.at t683 (by decide) (SAME.at i651 (by decide) (SAME.at t617 (by decide) e_jumped))), (SAME.at t683 (by decide) (SAME.at i651 (by decide) (SAME.at t617 (by decide) e_heights))), i649, i650, (show 0 ≤ (0 : Int32).toInt ∧ (0 : Int32).toInt ≤ 1 by decide), (by have zl0 : (0 : Int32).toInt = 0 := (by decide); omega), (by omega), rfl⟩
    · have dc633 : r606.toInt = 0 := eq_i (a := r606.toInt) (b := 0) rfl rfl c633
      have k754 : 0 ≤ r606.toInt ∧ r606.toInt ≤ 0 := ⟨t629.1, Int.le_trans (Int.le_of_eq dc633) (Int.le_refl _)⟩
      refine lv_iconst (v := 0) hx hb dX10_planLine_18 (by decide) ?_
      exact ret_i (v := 0) hx hb hr hlocks hS (hP.sub (ws' := [(h0, .inr (10, vL 67 F607)), (h_tape, .inl (cB, 940, .inl f_tape)), (h_s, .inl (cI, 335, .inl f_s)), (h_names, .inl (cJ, 36, .inr (.inl f_names))), (h_reserved, .inl (cJ, 23, .inr (.inl f_reserved))), (h_planRead, .inl (cI, 24, .inl f_planRead))]) [4, 5, 0, 1, 2, 3] rfl) (hD.sub (ws' := [(h0, .inr (10, vL 67 F607)), (h_tape, .inl (cB, 940, .inl f_tape)), (h_s, .inl (cI, 335, .inl f_s)), (h_names, .inl (cJ, 36, .inr (.inl f_names))), (h_reserved, .inl (cJ, 23, .inr (.inl f_reserved))), (h_planRead, .inl (cI, 24, .inl f_planRead))]) [4, 5, 0, 1, 2, 3] (by decide) rfl) dX10_planLine_19 rfl (Nat.le_of_ble_eq_true rfl) (Nat.le_of_ble_eq_true rfl) ⟨F607, y608, y609, y610, y611, y612, y613, y614, y615, x_got, y616, x_jumped, x_heights, f_planRead, (SAME.tr SAME.rf t617 (by decide)), t618, t619, t620, t621, t622, t623, t624, t625, t626, t627, (SAME.at t617 (by decide) e_got), t628, (SAME.at t617 (by decide) e_jumped), (SAME.at t617 (by decide) e_heights), s_planRead_1, s_planRead_10, (show 0 ≤ (0 : Int32).toInt ∧ (0 : Int32).toInt ≤ 1 by decide), (by have zl0 : (0 : Int32).toInt = 0 := (by decide); omega), (by omega), rfl⟩
