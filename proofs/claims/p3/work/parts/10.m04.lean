set_option maxHeartbeats 4000000 in
set_option maxRecDepth 100000 in
theorem m_X10_bad (l : Launch) (D : va_G) (cI cJ cB cP cM cZ : ClassId) (h0 : Nat) (Fh : Nat → Value) (x_at : Int32) (p0 : Int32) (sz : Nat) (e_at : Fh 12 = .int x_at) : CI l yX10_bad cX10_bad 2 (some .boolean) { frames := 0, cells := 0, slots := 0, locals := 0 } (GG D cI cJ cB cP cM cZ) D [(h0, .inr (10, vL 67 Fh))] sz [.ref h0, .int p0] (fun (r : Int32) (u : va_W) => ∃ (Gh : Nat → Value), SAME [15, 16] Fh Gh ∧ Gh 15 = .int p0 ∧ Gh 16 = .int x_at ∧ r = 0 ∧ u = [(h0, .inr (10, vL 67 Gh))]) := by
  refine CI_mk (by decide) (Nat.le_of_ble_eq_true rfl) ?_
  intro p e s m below meth c A ls E hAe hG hsz hP hD hA hS hl
  obtain ⟨hx, hb, hr, hw, hown, hlocks, hml, hnm⟩ := E
  have hK := hG.1
  have hl : lv_has ls 2 [(0, .ref h0), (1, .int p0)] := hl
  refine lv_aload_n hx hb dX10_bad_0 rfl (lv_at hl 0 rfl) ?_
  refine lv_iload_n hx hb dX10_bad_1 rfl (lv_at hl 1 rfl) ?_
  refine put_f (D := D) (ci := 10) (v := .int p0) (ty := .int) (C := RX10) (T := TX10) (N := 67) hx hb hw inAX10 tyX10 tyX10_ok nmX10 hown hK hP hD hS 0 rfl rfl 15 (by decide) (hw _ q_1276) (fun _ h9 => h9) rfl (by decide +kernel) rfl rfl dX10_bad_2 (fun H locs F1 eF1 hP hD hS => ?_)
  have hP : va_P D vwCl [(h0, .inr (10, vL 67 F1))] H := hP
  have hD : va_D A [(h0, .inr (10, vL 67 F1))] := hD
  refine lv_aload_n hx hb dX10_bad_5 rfl (lv_at hl 0 rfl) ?_
  refine lv_aload_n hx hb dX10_bad_6 rfl (lv_at hl 0 rfl) ?_
  have n2 : F1 12 = .int x_at := (get_ne eF1 (by decide) e_at)
  refine get_f (D := D) (ci := 10) (v := .int x_at) (C := RX10) (T := TX10) (N := 67) hx hb hw inAX10 hown hK hP 0 rfl rfl 12 (by decide) (hw _ q_1273) (fun _ h9 => h9) n2 dX10_bad_7 ?_
  refine put_f (D := D) (ci := 10) (v := .int x_at) (ty := .int) (C := RX10) (T := TX10) (N := 67) hx hb hw inAX10 tyX10 tyX10_ok nmX10 hown hK hP hD hS 0 rfl rfl 16 (by decide) (hw _ q_1277) (fun _ h9 => h9) rfl (by decide +kernel) rfl rfl dX10_bad_10 (fun H locs F3 eF3 hP hD hS => ?_)
  have hP : va_P D vwCl [(h0, .inr (10, vL 67 F3))] H := hP
  have hD : va_D A [(h0, .inr (10, vL 67 F3))] := hD
  refine lv_iconst (v := 0) hx hb dX10_bad_13 (by decide) ?_
  exact ret_i (v := 0) hx hb hr hlocks hS hP hD dX10_bad_14 rfl (Nat.le_of_ble_eq_true rfl) (Nat.le_of_ble_eq_true rfl) ⟨F3, (SAME.up eF3 (SAME.up eF1 SAME.rf (by decide)) (by decide)), (get_ne eF3 (by decide) (get_eq eF1)), (get_eq eF3), rfl, rfl⟩
set_option maxHeartbeats 4000000 in
set_option maxRecDepth 100000 in
theorem m_X10_isWord (l : Launch) (D : va_G) (cI cJ cB cP cM cZ : ClassId) (h0 : Nat) (Fh : Nat → Value) (x_token : Int32) (x_number : Int32) (x_word : Int64) (p0 : Int64) (sz : Nat) (e_token : Fh 11 = .int x_token) (i_x_token : IR 0 4 x_token) (e_number : Fh 14 = .int x_number) (e_word : Fh 18 = .long x_word) (o_0 : (x_token.toInt = 2 → 0 ≤ x_number.toInt ∧ x_number.toInt ≤ 999)) : CI l yX10_isWord cX10_isWord 3 (some .boolean) { frames := 0, cells := 0, slots := 0, locals := 0 } (GG D cI cJ cB cP cM cZ) D [(h0, .inr (10, vL 67 Fh))] sz [.ref h0, .long p0] (fun (r : Int32) (u : va_W) => IR 0 1 r ∧ ((r.toInt = 1 → x_token.toInt = 1)) ∧ u = [(h0, .inr (10, vL 67 Fh))]) := by
  refine CI_mk (by decide) (Nat.le_of_ble_eq_true rfl) ?_
  intro p e s m below meth c A ls E hAe hG hsz hP hD hA hS hl
  obtain ⟨hx, hb, hr, hw, hown, hlocks, hml, hnm⟩ := E
  have hK := hG.1
  have i_x_token : 0 ≤ x_token.toInt ∧ x_token.toInt ≤ 4 := i_x_token
  have hl : lv_has ls 3 [(0, .ref h0), (1, .long p0)] := hl
  refine lv_aload_n hx hb dX10_isWord_0 rfl (lv_at hl 0 rfl) ?_
  refine get_f (D := D) (ci := 10) (v := .int x_token) (C := RX10) (T := TX10) (N := 67) hx hb hw inAX10 hown hK hP 0 rfl rfl 11 (by decide) (hw _ q_1272) (fun _ h9 => h9) e_token dX10_isWord_1 ?_
  refine lv_iconst (v := 1) hx hb dX10_isWord_4 (by decide) ?_
  refine lv_icmp_ne (tgt := 21) hx hb dX10_isWord_5 (by decide) (fun c1 => ?_) (fun c1 => ?_)
  · have dc1 : x_token.toInt ≠ 1 := ne_i (a := x_token.toInt) (b := 1) rfl rfl c1
    refine lv_iconst (v := 0) hx hb dX10_isWord_21 (by decide) ?_
    exact ret_i (v := 0) hx hb hr hlocks hS hP hD dX10_isWord_22 rfl (Nat.le_of_ble_eq_true rfl) (Nat.le_of_ble_eq_true rfl) ⟨(show 0 ≤ (0 : Int32).toInt ∧ (0 : Int32).toInt ≤ 1 by decide), (by have zl0 : (0 : Int32).toInt = 0 := (by decide); omega), rfl⟩
  · have dc1 : x_token.toInt = 1 := eq_i (a := x_token.toInt) (b := 1) rfl rfl c1
    have k2 : 1 ≤ x_token.toInt ∧ x_token.toInt ≤ 1 := ⟨Int.le_trans (Int.le_refl _) (Int.le_of_eq dc1.symm), Int.le_trans (Int.le_of_eq dc1) (Int.le_refl _)⟩
    refine lv_aload_n hx hb dX10_isWord_8 rfl (lv_at hl 0 rfl) ?_
    refine get_f (D := D) (ci := 10) (v := .long x_word) (C := RX10) (T := TX10) (N := 67) hx hb hw inAX10 hown hK hP 0 rfl rfl 18 (by decide) (hw _ q_1279) (fun _ h9 => h9) e_word dX10_isWord_9 ?_
    refine lv_lload_n hx hb dX10_isWord_12 rfl (lv_at hl 1 rfl) ?_
    refine W.lcmp hx hb dX10_isWord_13 ?_
    refine lv_topi (fun v3 ev3 => ?_)
    refine lv_if_ne (tgt := 21) hx hb dX10_isWord_14 (by decide) (fun c4 => ?_) (fun c4 => ?_)
    · have dc4 : v3.toInt ≠ 0 := ne_i (a := v3.toInt) (b := 0) rfl rfl c4
      refine lv_iconst (v := 0) hx hb dX10_isWord_21 (by decide) ?_
      exact ret_i (v := 0) hx hb hr hlocks hS hP hD dX10_isWord_22 rfl (Nat.le_of_ble_eq_true rfl) (Nat.le_of_ble_eq_true rfl) ⟨(show 0 ≤ (0 : Int32).toInt ∧ (0 : Int32).toInt ≤ 1 by decide), (by have zl0 : (0 : Int32).toInt = 0 := (by decide); omega), rfl⟩
    · have dc4 : v3.toInt = 0 := eq_i (a := v3.toInt) (b := 0) rfl rfl c4
      have k5 : 0 ≤ v3.toInt ∧ v3.toInt ≤ 0 := ⟨Int.le_trans (Int.le_refl _) (Int.le_of_eq dc4.symm), Int.le_trans (Int.le_of_eq dc4) (Int.le_refl _)⟩
      refine lv_iconst (v := 1) hx hb dX10_isWord_17 (by decide) ?_
      refine lv_goto (tgt := 22) hx hb dX10_isWord_18 (by decide) ?_
      exact ret_i (v := 1) hx hb hr hlocks hS hP hD dX10_isWord_22 rfl (Nat.le_of_ble_eq_true rfl) (Nat.le_of_ble_eq_true rfl) ⟨(show 0 ≤ (1 : Int32).toInt ∧ (1 : Int32).toInt ≤ 1 by decide), (by have zl1 : (1 : Int32).toInt = 1 := (by decide); omega), rfl⟩
set_option maxHeartbeats 4000000 in
set_option maxRecDepth 100000 in
theorem m_X10_isSign (l : Launch) (D : va_G) (cI cJ cB cP cM cZ : ClassId) (h0 : Nat) (Fh : Nat → Value) (x_token : Int32) (x_number : Int32) (p0 : Int32) (sz : Nat) (e_token : Fh 11 = .int x_token) (i_x_token : IR 0 4 x_token) (e_number : Fh 14 = .int x_number) (o_0 : (x_token.toInt = 2 → 0 ≤ x_number.toInt ∧ x_number.toInt ≤ 999)) : CI l yX10_isSign cX10_isSign 2 (some .boolean) { frames := 0, cells := 0, slots := 0, locals := 0 } (GG D cI cJ cB cP cM cZ) D [(h0, .inr (10, vL 67 Fh))] sz [.ref h0, .int p0] (fun (r : Int32) (u : va_W) => IR 0 1 r ∧ ((r.toInt = 1 → x_token.toInt = 3)) ∧ u = [(h0, .inr (10, vL 67 Fh))]) := by
  refine CI_mk (by decide) (Nat.le_of_ble_eq_true rfl) ?_
  intro p e s m below meth c A ls E hAe hG hsz hP hD hA hS hl
  obtain ⟨hx, hb, hr, hw, hown, hlocks, hml, hnm⟩ := E
  have hK := hG.1
  have i_x_token : 0 ≤ x_token.toInt ∧ x_token.toInt ≤ 4 := i_x_token
  have hl : lv_has ls 2 [(0, .ref h0), (1, .int p0)] := hl
  refine lv_aload_n hx hb dX10_isSign_0 rfl (lv_at hl 0 rfl) ?_
  refine get_f (D := D) (ci := 10) (v := .int x_token) (C := RX10) (T := TX10) (N := 67) hx hb hw inAX10 hown hK hP 0 rfl rfl 11 (by decide) (hw _ q_1272) (fun _ h9 => h9) e_token dX10_isSign_1 ?_
  refine lv_iconst (v := 3) hx hb dX10_isSign_4 (by decide) ?_
  refine lv_icmp_ne (tgt := 20) hx hb dX10_isSign_5 (by decide) (fun c1 => ?_) (fun c1 => ?_)
  · have dc1 : x_token.toInt ≠ 3 := ne_i (a := x_token.toInt) (b := 3) rfl rfl c1
    refine lv_iconst (v := 0) hx hb dX10_isSign_20 (by decide) ?_
    exact ret_i (v := 0) hx hb hr hlocks hS hP hD dX10_isSign_21 rfl (Nat.le_of_ble_eq_true rfl) (Nat.le_of_ble_eq_true rfl) ⟨(show 0 ≤ (0 : Int32).toInt ∧ (0 : Int32).toInt ≤ 1 by decide), (by have zl0 : (0 : Int32).toInt = 0 := (by decide); omega), rfl⟩
  · have dc1 : x_token.toInt = 3 := eq_i (a := x_token.toInt) (b := 3) rfl rfl c1
    have k2 : 3 ≤ x_token.toInt ∧ x_token.toInt ≤ 3 := ⟨Int.le_trans (Int.le_refl _) (Int.le_of_eq dc1.symm), Int.le_trans (Int.le_of_eq dc1) (Int.le_refl _)⟩
    refine lv_aload_n hx hb dX10_isSign_8 rfl (lv_at hl 0 rfl) ?_
    refine get_f (D := D) (ci := 10) (v := .int x_number) (C := RX10) (T := TX10) (N := 67) hx hb hw inAX10 hown hK hP 0 rfl rfl 14 (by decide) (hw _ q_1275) (fun _ h9 => h9) e_number dX10_isSign_9 ?_
    refine lv_iload_n hx hb dX10_isSign_12 rfl (lv_at hl 1 rfl) ?_
    refine lv_icmp_ne (tgt := 20) hx hb dX10_isSign_13 (by decide) (fun c3 => ?_) (fun c3 => ?_)
    · have dc3 : x_number.toInt ≠ p0.toInt := ne_i (a := x_number.toInt) (b := p0.toInt) rfl rfl c3
      refine lv_iconst (v := 0) hx hb dX10_isSign_20 (by decide) ?_
      exact ret_i (v := 0) hx hb hr hlocks hS hP hD dX10_isSign_21 rfl (Nat.le_of_ble_eq_true rfl) (Nat.le_of_ble_eq_true rfl) ⟨(show 0 ≤ (0 : Int32).toInt ∧ (0 : Int32).toInt ≤ 1 by decide), (by have zl0 : (0 : Int32).toInt = 0 := (by decide); omega), rfl⟩
    · have dc3 : x_number.toInt = p0.toInt := eq_i (a := x_number.toInt) (b := p0.toInt) rfl rfl c3
      refine lv_iconst (v := 1) hx hb dX10_isSign_16 (by decide) ?_
      refine lv_goto (tgt := 21) hx hb dX10_isSign_17 (by decide) ?_
      exact ret_i (v := 1) hx hb hr hlocks hS hP hD dX10_isSign_21 rfl (Nat.le_of_ble_eq_true rfl) (Nat.le_of_ble_eq_true rfl) ⟨(show 0 ≤ (1 : Int32).toInt ∧ (1 : Int32).toInt ≤ 1 by decide), (by have zl1 : (1 : Int32).toInt = 1 := (by decide); omega), rfl⟩
set_option maxHeartbeats 4000000 in
set_option maxRecDepth 100000 in
theorem m_X10_sign (l : Launch) (D : va_G) (cI cJ cB cP cM cZ : ClassId) (h0 : Nat) (h_tape : Nat) (Fh : Nat → Value) (x_size : Int32) (x_p : Int32) (x_limit : Int32) (x_token : Int32) (x_at : Int32) (x_number : Int32) (x_word : Int64) (f_tape : Nat → Int32) (p0 : Int32) (sz : Nat) (e_tape : Fh 1 = .ref h_tape) (e_size : Fh 3 = .int x_size) (i_x_size : IR 0 940 x_size) (e_p : Fh 4 = .int x_p) (i_x_p : IR 0 940 x_p) (e_limit : Fh 5 = .int x_limit) (i_x_limit : IR 200 940 x_limit) (e_token : Fh 11 = .int x_token) (i_x_token : IR 0 4 x_token) (e_at : Fh 12 = .int x_at) (e_number : Fh 14 = .int x_number) (e_word : Fh 18 = .long x_word) (o_0 : (x_token.toInt = 2 → 0 ≤ x_number.toInt ∧ x_number.toInt ≤ 999)) : CI l yX10_sign cX10_sign 2 (some .boolean) { frames := 2, cells := 0, slots := 0, locals := 43 } (GG D cI cJ cB cP cM cZ) D [(h0, .inr (10, vL 67 Fh)), (h_tape, .inl (cB, 940, .inl f_tape))] sz [.ref h0, .int p0] (fun (r : Int32) (u : va_W) => (∃ (Gh : Nat → Value) (y_p : Int32) (y_token : Int32) (y_at : Int32) (y_span : Int32) (y_number : Int32) (y_word : Int64), SAME [4, 11, 12, 13, 14, 18] Fh Gh ∧ Gh 4 = .int y_p ∧ IR 0 940 y_p ∧ Gh 11 = .int y_token ∧ IR 0 4 y_token ∧ Gh 12 = .int y_at ∧ IR 0 940 y_at ∧ Gh 13 = .int y_span ∧ IR 0 940 y_span ∧ Gh 14 = .int y_number ∧ Gh 18 = .long y_word ∧ (x_token.toInt = 3 ∧ x_p.toInt ≤ y_p.toInt) ∧ ((y_token.toInt = 2 → 0 ≤ y_number.toInt ∧ y_number.toInt ≤ 999)) ∧ r = 1 ∧ u = [(h0, .inr (10, vL 67 Gh)), (h_tape, .inl (cB, 940, .inl f_tape))]) ∨ (∃ (Gh : Nat → Value), SAME [15, 16] Fh Gh ∧ Gh 15 = .int 1 ∧ Gh 16 = .int x_at ∧ ((x_token.toInt = 2 → 0 ≤ x_number.toInt ∧ x_number.toInt ≤ 999)) ∧ r = 0 ∧ u = [(h0, .inr (10, vL 67 Gh)), (h_tape, .inl (cB, 940, .inl f_tape))])) := by
  refine CI_mk (by decide) (Nat.le_of_ble_eq_true rfl) ?_
  intro p e s m below meth c A ls E hAe hG hsz hP hD hA hS hl
  obtain ⟨hx, hb, hr, hw, hown, hlocks, hml, hnm⟩ := E
  have hK := hG.1
  have i_x_size : 0 ≤ x_size.toInt ∧ x_size.toInt ≤ 940 := i_x_size
  have i_x_p : 0 ≤ x_p.toInt ∧ x_p.toInt ≤ 940 := i_x_p
  have i_x_limit : 200 ≤ x_limit.toInt ∧ x_limit.toInt ≤ 940 := i_x_limit
  have i_x_token : 0 ≤ x_token.toInt ∧ x_token.toInt ≤ 4 := i_x_token
  have hl : lv_has ls 2 [(0, .ref h0), (1, .int p0)] := hl
  refine lv_aload_n hx hb dX10_sign_0 rfl (lv_at hl 0 rfl) ?_
  refine lv_iload_n hx hb dX10_sign_1 rfl (lv_at hl 1 rfl) ?_
  refine call_Vi (wr := [(h_tape, .inl (cB, 940, .inl f_tape))]) (As := [.int p0]) (rest := []) hx hb hml hown hw (m_X10_isSign l D cI cJ cB cP cM cZ h0 Fh x_token x_number p0 _ e_token i_x_token e_number (by omega)) wV_X10_202_X10_isSign dX10_sign_2 hK hP hD hS hA [0] [1] rfl rfl (by decide) (by decide) (by decide) 0 10 rfl rfl GG.fb hG.at hl.1 rfl (Nat.le_of_ble_eq_true rfl) ⟨(Nat.le_of_ble_eq_true rfl), (Nat.le_of_ble_eq_true rfl)⟩ ⟨(Nat.le_of_ble_eq_true rfl), (Nat.le_of_ble_eq_true rfl)⟩ (fun r1 u H locs hp hP hD hS => ?_)
  obtain ⟨t2, t3, rfl⟩ := hp
  have hP : va_P D vwCl [(h_tape, .inl (cB, 940, .inl f_tape)), (h0, .inr (10, vL 67 Fh))] H := hP
  have hD : va_D A [(h_tape, .inl (cB, 940, .inl f_tape)), (h0, .inr (10, vL 67 Fh))] := hD
  refine W.widen (k := 0) (n := 0) (Nat.le_of_ble_eq_true rfl) (Nat.le_of_ble_eq_true rfl) ?_
  refine lv_if_ne (tgt := 14) hx hb dX10_sign_5 (by decide) (fun c5 => ?_) (fun c5 => ?_)
  · have dc5 : r1.toInt ≠ 0 := ne_i (a := r1.toInt) (b := 0) rfl rfl c5
    have k6 : 1 ≤ r1.toInt ∧ r1.toInt ≤ 1 := ⟨ne_lo dc5 t2.1 ⟨Int.le_refl _, Int.le_refl _⟩ (by decide), t2.2⟩
    refine lv_aload_n hx hb dX10_sign_14 rfl (lv_at hl 0 rfl) ?_
    refine call_Vv (wr := []) (As := []) (rest := []) hx hb hml hown hw (m_X10_next l D cI cJ cB cP cM cZ h0 h_tape Fh x_size x_p x_limit x_token x_number x_word f_tape _ e_tape e_size i_x_size e_p i_x_p e_limit i_x_limit e_token i_x_token e_number e_word (by omega)) wV_X10_208_X10_next dX10_sign_15 hK hP hD hS hA [1, 0] [] rfl rfl (by decide) (by decide) (by decide) 0 10 rfl rfl GG.fb hG.at hl.1 rfl (Nat.le_of_ble_eq_true rfl) ⟨(Nat.le_of_ble_eq_true rfl), (Nat.le_of_ble_eq_true rfl)⟩ ⟨(Nat.le_of_ble_eq_true rfl), (Nat.le_of_ble_eq_true rfl)⟩ (fun u H locs hp hP hD hS => ?_)
    obtain ⟨F8, y9, y10, y11, y12, y13, y14, t15, t16, t17, t18, t19, t20, t21, t22, t23, t24, t25, t26, t27, t28, rfl⟩ := hp
    have hP : va_P D vwCl [(h0, .inr (10, vL 67 F8)), (h_tape, .inl (cB, 940, .inl f_tape))] H := hP
    have hD : va_D A [(h0, .inr (10, vL 67 F8)), (h_tape, .inl (cB, 940, .inl f_tape))] := hD
    refine W.widen (k := 0) (n := 0) (Nat.le_of_ble_eq_true rfl) (Nat.le_of_ble_eq_true rfl) ?_
    refine lv_iconst (v := 1) hx hb dX10_sign_18 (by decide) ?_
    exact ret_i (v := 1) hx hb hr hlocks hS hP hD dX10_sign_19 rfl (Nat.le_of_ble_eq_true rfl) (Nat.le_of_ble_eq_true rfl) (Or.inl ⟨F8, y9, y10, y11, y12, y13, y14, (SAME.tr SAME.rf t15 (by decide)), t16, t17, t18, t19, t20, t21, t22, t23, t24, t25, (by have zl1 : (1 : Int32).toInt = 1 := (by decide); omega), (by omega), rfl, rfl⟩)
  · have dc5 : r1.toInt = 0 := eq_i (a := r1.toInt) (b := 0) rfl rfl c5
    have k30 : 0 ≤ r1.toInt ∧ r1.toInt ≤ 0 := ⟨t2.1, Int.le_trans (Int.le_of_eq dc5) (Int.le_refl _)⟩
    refine lv_aload_n hx hb dX10_sign_8 rfl (lv_at hl 0 rfl) ?_
    refine lv_iconst (v := 1) hx hb dX10_sign_9 (by decide) ?_
    refine call_Vi (wr := [(h_tape, .inl (cB, 940, .inl f_tape))]) (As := [.int 1]) (rest := []) hx hb hml hown hw (m_X10_bad l D cI cJ cB cP cM cZ h0 Fh x_at 1 _ e_at) wV_X10_205_X10_bad dX10_sign_10 hK hP hD hS hA [1] [0] rfl rfl (by decide) (by decide) (by decide) 0 10 rfl rfl GG.fb hG.at hl.1 rfl (Nat.le_of_ble_eq_true rfl) ⟨(Nat.le_of_ble_eq_true rfl), (Nat.le_of_ble_eq_true rfl)⟩ ⟨(Nat.le_of_ble_eq_true rfl), (Nat.le_of_ble_eq_true rfl)⟩ (fun r31 u H locs hp hP hD hS => ?_)
    have zl1 : (1 : Int32).toInt = 1 := by decide
    obtain ⟨F32, t33, t34, t35, rfl, rfl⟩ := hp
    have hP : va_P D vwCl [(h_tape, .inl (cB, 940, .inl f_tape)), (h0, .inr (10, vL 67 F32))] H := hP
    have hD : va_D A [(h_tape, .inl (cB, 940, .inl f_tape)), (h0, .inr (10, vL 67 F32))] := hD
    refine W.widen (k := 0) (n := 0) (Nat.le_of_ble_eq_true rfl) (Nat.le_of_ble_eq_true rfl) ?_
    exact ret_i (v := 0) hx hb hr hlocks hS (hP.sub (ws' := [(h0, .inr (10, vL 67 F32)), (h_tape, .inl (cB, 940, .inl f_tape))]) [1, 0] rfl) (hD.sub (ws' := [(h0, .inr (10, vL 67 F32)), (h_tape, .inl (cB, 940, .inl f_tape))]) [1, 0] (by decide) rfl) dX10_sign_13 rfl (Nat.le_of_ble_eq_true rfl) (Nat.le_of_ble_eq_true rfl) (Or.inr ⟨F32, (SAME.tr SAME.rf t33 (by decide)), t34, t35, (by omega), rfl, rfl⟩)
set_option maxHeartbeats 4000000 in
set_option maxRecDepth 100000 in
theorem m_X10_isName (l : Launch) (D : va_G) (cI cJ cB cP cM cZ : ClassId) (h0 : Nat) (h_reserved : Nat) (Fh : Nat → Value) (x_token : Int32) (x_number : Int32) (x_word : Int64) (f_reserved : Nat → Int64) (sz : Nat) (e_reserved : Fh 10 = .ref h_reserved) (e_token : Fh 11 = .int x_token) (i_x_token : IR 0 4 x_token) (e_number : Fh 14 = .int x_number) (e_word : Fh 18 = .long x_word) (o_0 : (x_token.toInt = 2 → 0 ≤ x_number.toInt ∧ x_number.toInt ≤ 999)) : CI l yX10_isName cX10_isName 3 (some .boolean) { frames := 0, cells := 0, slots := 0, locals := 0 } (GG D cI cJ cB cP cM cZ) D [(h0, .inr (10, vL 67 Fh)), (h_reserved, .inl (cJ, 23, .inr (.inl f_reserved)))] sz [.ref h0] (fun (r : Int32) (u : va_W) => IR 0 1 r ∧ u = [(h0, .inr (10, vL 67 Fh)), (h_reserved, .inl (cJ, 23, .inr (.inl f_reserved)))]) := by
  refine CI_mk (by decide) (Nat.le_of_ble_eq_true rfl) ?_
  intro p e s m below meth c A ls E hAe hG hsz hP hD hA hS hl
  obtain ⟨hx, hb, hr, hw, hown, hlocks, hml, hnm⟩ := E
  have hK := hG.1
  have i_x_token : 0 ≤ x_token.toInt ∧ x_token.toInt ≤ 4 := i_x_token
  have hl : lv_has ls 3 [(0, .ref h0)] := hl
  refine lv_aload_n hx hb dX10_isName_0 rfl (lv_at hl 0 rfl) ?_
  refine get_f (D := D) (ci := 10) (v := .int x_token) (C := RX10) (T := TX10) (N := 67) hx hb hw inAX10 hown hK hP 0 rfl rfl 11 (by decide) (hw _ q_1272) (fun _ h9 => h9) e_token dX10_isName_1 ?_
  refine lv_iconst (v := 1) hx hb dX10_isName_4 (by decide) ?_
  refine lv_icmp_ne (tgt := 12) hx hb dX10_isName_5 (by decide) (fun c1 => ?_) (fun c1 => ?_)
  · have dc1 : x_token.toInt ≠ 1 := ne_i (a := x_token.toInt) (b := 1) rfl rfl c1
    refine lv_iconst (v := 0) hx hb dX10_isName_12 (by decide) ?_
    refine lv_istore_n (lv' := [(1, .int 0), (0, .ref h0)]) hx hb dX10_isName_13 rfl hl (by decide) rfl (fun ls hl => ?_)
    refine lv_iconst (v := 0) hx hb dX10_isName_14 (by decide) ?_
    refine lv_istore_n (lv' := [(2, .int 0), (1, .int 0), (0, .ref h0)]) hx hb dX10_isName_15 rfl hl (by decide) rfl (fun ls hl => ?_)
    refine mloop (α := (Int32) × (Int32)) (nL := 3) (D := D) (A := A) (H0 := s.heap) (fun a => (23 - a.1.toInt).toNat) (fun a => IR 0 23 a.1 ∧ IR 0 0 a.2) (fun a => [(h0, .inr (10, vL 67 Fh)), (h_reserved, .inl (cJ, 23, .inr (.inl f_reserved)))]) (fun a => [(2, .int a.1), (1, .int a.2), (0, .ref h0)]) (fun H locs ls => W p l e ({ frames := 0, cells := 0, slots := 0, locals := 0 } : Room) s m [.ref h0].toArray below meth c H locs 0 0 (MQ below (va_Qi (fun (r : Int32) (u : va_W) => IR 0 1 r ∧ u = [(h0, .inr (10, vL 67 Fh)), (h_reserved, .inl (cJ, 23, .inr (.inl f_reserved)))]) (PO D A) A) [.ref h0].toArray s 0 0 A) (F0 m 16 ls [])) ?_ (0, 0) ⟨(show 0 ≤ (0 : Int32).toInt ∧ (0 : Int32).toInt ≤ 23 by decide), (show 0 ≤ (0 : Int32).toInt ∧ (0 : Int32).toInt ≤ 0 by decide)⟩ _ _ _ hP hD hS hl
    rintro ⟨u2, u3⟩ ⟨i4, i5⟩ ih H locs ls hP hD hS hl
    have i4 : 0 ≤ u2.toInt ∧ u2.toInt ≤ 23 := i4
    have i5 : 0 ≤ u3.toInt ∧ u3.toInt ≤ 0 := i5
    have hP : va_P D vwCl [(h0, .inr (10, vL 67 Fh)), (h_reserved, .inl (cJ, 23, .inr (.inl f_reserved)))] H := hP
    have hD : va_D A [(h0, .inr (10, vL 67 Fh)), (h_reserved, .inl (cJ, 23, .inr (.inl f_reserved)))] := hD
    have hl : lv_has ls 3 [(2, .int u2), (1, .int u3), (0, .ref h0)] := hl
    refine lv_iload_n hx hb dX10_isName_16 rfl (lv_at hl 0 rfl) ?_
    refine lv_bipush (v := 23) hx hb dX10_isName_17 (by decide) ?_
    refine lv_icmp_ge (tgt := 52) hx hb dX10_isName_19 (by decide) (fun c6 => ?_) (fun c6 => ?_)
    · have dc6 : 23 ≤ u2.toInt := le_i (a := 23) (b := u2.toInt) rfl rfl c6
      have k7 : 23 ≤ u2.toInt ∧ u2.toInt ≤ 23 := ⟨Int.le_trans (Int.le_refl _) dc6, i4.2⟩
      refine lv_iload_n hx hb dX10_isName_52 rfl (lv_at hl 1 rfl) ?_
      exact ret_i (v := u3) hx hb hr hlocks hS hP hD dX10_isName_53 (nz_i (show 0 ≤ u3.toInt ∧ u3.toInt ≤ 1 from (ir_wk i5 (by decide) (by decide))).1 (show 0 ≤ u3.toInt ∧ u3.toInt ≤ 1 from (ir_wk i5 (by decide) (by decide))).2) (Nat.le_of_ble_eq_true rfl) (Nat.le_of_ble_eq_true rfl) ⟨(ir_wk i5 (by decide) (by decide)), rfl⟩
    · have dc6 : u2.toInt < 23 := nle_i (a := 23) (b := u2.toInt) rfl rfl c6
      have k8 : 0 ≤ u2.toInt ∧ u2.toInt ≤ 22 := ⟨i4.1, up_lt dc6 (Int.le_refl _) (by decide)⟩
      refine lv_iload_n hx hb dX10_isName_22 rfl (lv_at hl 1 rfl) ?_
      refine lv_if_eq (tgt := 44) hx hb dX10_isName_23 (by decide) (fun c9 => ?_) (fun c9 => False.elim (bad_ne (ne_i (a := u3.toInt) (b := 0) rfl rfl c9) i5 ⟨Int.le_refl _, Int.le_refl _⟩ (by decide)))
      have dc9 : u3.toInt = 0 := eq_i (a := u3.toInt) (b := 0) rfl rfl c9
      refine lv_iconst (v := 0) hx hb dX10_isName_44 (by decide) ?_
      refine lv_istore_n (lv' := [(1, .int 0), (2, .int u2), (0, .ref h0)]) hx hb dX10_isName_45 rfl hl (by decide) rfl (fun ls hl => ?_)
      obtain ⟨v10, ev10⟩ : ∃ z : Int32, z = u2 + 1 := ⟨_, rfl⟩
      have bv10 : v10.toInt = u2.toInt + 1 := by rw [ev10]; exact add_k rfl rfl k8 ⟨Int.le_refl _, Int.le_refl _⟩ (by decide)
      have k11 : 1 ≤ v10.toInt ∧ v10.toInt ≤ 23 := add_r bv10 k8 ⟨Int.le_refl _, Int.le_refl _⟩ (by decide)
      refine lv_iinc (v := v10) (lv' := [(2, .int v10), (1, .int 0), (0, .ref h0)]) hx hb dX10_isName_46 hl (k := 1) rfl (by rw [ev10]; rfl) (by decide) rfl (fun ls hl => ?_)
      refine lv_goto (tgt := 16) hx hb dX10_isName_49 (by decide) ?_
      exact ih (v10, 0) ⟨(ir_wk k11 (by decide) (by decide)), (show 0 ≤ (0 : Int32).toInt ∧ (0 : Int32).toInt ≤ 0 by decide)⟩ (by show (23 - v10.toInt).toNat < (23 - u2.toInt).toNat; omega) _ _ _ hP hD hS (lv_sub hl [0, 1, 2] rfl)
  · have dc1 : x_token.toInt = 1 := eq_i (a := x_token.toInt) (b := 1) rfl rfl c1
    have k12 : 1 ≤ x_token.toInt ∧ x_token.toInt ≤ 1 := ⟨Int.le_trans (Int.le_refl _) (Int.le_of_eq dc1.symm), Int.le_trans (Int.le_of_eq dc1) (Int.le_refl _)⟩
    refine lv_iconst (v := 1) hx hb dX10_isName_8 (by decide) ?_
    refine lv_goto (tgt := 13) hx hb dX10_isName_9 (by decide) ?_
    refine lv_istore_n (lv' := [(1, .int 1), (0, .ref h0)]) hx hb dX10_isName_13 rfl hl (by decide) rfl (fun ls hl => ?_)
    refine lv_iconst (v := 0) hx hb dX10_isName_14 (by decide) ?_
    refine lv_istore_n (lv' := [(2, .int 0), (1, .int 1), (0, .ref h0)]) hx hb dX10_isName_15 rfl hl (by decide) rfl (fun ls hl => ?_)
    refine mloop (α := (Int32) × (Int32)) (nL := 3) (D := D) (A := A) (H0 := s.heap) (fun a => (23 - a.1.toInt).toNat) (fun a => IR 0 23 a.1 ∧ IR 0 1 a.2) (fun a => [(h0, .inr (10, vL 67 Fh)), (h_reserved, .inl (cJ, 23, .inr (.inl f_reserved)))]) (fun a => [(2, .int a.1), (1, .int a.2), (0, .ref h0)]) (fun H locs ls => W p l e ({ frames := 0, cells := 0, slots := 0, locals := 0 } : Room) s m [.ref h0].toArray below meth c H locs 0 0 (MQ below (va_Qi (fun (r : Int32) (u : va_W) => IR 0 1 r ∧ u = [(h0, .inr (10, vL 67 Fh)), (h_reserved, .inl (cJ, 23, .inr (.inl f_reserved)))]) (PO D A) A) [.ref h0].toArray s 0 0 A) (F0 m 16 ls [])) ?_ (0, 1) ⟨(show 0 ≤ (0 : Int32).toInt ∧ (0 : Int32).toInt ≤ 23 by decide), (show 0 ≤ (1 : Int32).toInt ∧ (1 : Int32).toInt ≤ 1 by decide)⟩ _ _ _ hP hD hS hl
    rintro ⟨u13, u14⟩ ⟨i15, i16⟩ ih H locs ls hP hD hS hl
    have i15 : 0 ≤ u13.toInt ∧ u13.toInt ≤ 23 := i15
    have i16 : 0 ≤ u14.toInt ∧ u14.toInt ≤ 1 := i16
    have hP : va_P D vwCl [(h0, .inr (10, vL 67 Fh)), (h_reserved, .inl (cJ, 23, .inr (.inl f_reserved)))] H := hP
    have hD : va_D A [(h0, .inr (10, vL 67 Fh)), (h_reserved, .inl (cJ, 23, .inr (.inl f_reserved)))] := hD
    have hl : lv_has ls 3 [(2, .int u13), (1, .int u14), (0, .ref h0)] := hl
    refine lv_iload_n hx hb dX10_isName_16 rfl (lv_at hl 0 rfl) ?_
    refine lv_bipush (v := 23) hx hb dX10_isName_17 (by decide) ?_
    refine lv_icmp_ge (tgt := 52) hx hb dX10_isName_19 (by decide) (fun c17 => ?_) (fun c17 => ?_)
    · have dc17 : 23 ≤ u13.toInt := le_i (a := 23) (b := u13.toInt) rfl rfl c17
      have k18 : 23 ≤ u13.toInt ∧ u13.toInt ≤ 23 := ⟨Int.le_trans (Int.le_refl _) dc17, i15.2⟩
      refine lv_iload_n hx hb dX10_isName_52 rfl (lv_at hl 1 rfl) ?_
      exact ret_i (v := u14) hx hb hr hlocks hS hP hD dX10_isName_53 (nz_i i16.1 i16.2) (Nat.le_of_ble_eq_true rfl) (Nat.le_of_ble_eq_true rfl) ⟨i16, rfl⟩
    · have dc17 : u13.toInt < 23 := nle_i (a := 23) (b := u13.toInt) rfl rfl c17
      have k19 : 0 ≤ u13.toInt ∧ u13.toInt ≤ 22 := ⟨i15.1, up_lt dc17 (Int.le_refl _) (by decide)⟩
      refine lv_iload_n hx hb dX10_isName_22 rfl (lv_at hl 1 rfl) ?_
      refine lv_if_eq (tgt := 44) hx hb dX10_isName_23 (by decide) (fun c20 => ?_) (fun c20 => ?_)
      · have dc20 : u14.toInt = 0 := eq_i (a := u14.toInt) (b := 0) rfl rfl c20
        have k21 : 0 ≤ u14.toInt ∧ u14.toInt ≤ 0 := ⟨i16.1, Int.le_trans (Int.le_of_eq dc20) (Int.le_refl _)⟩
        refine lv_iconst (v := 0) hx hb dX10_isName_44 (by decide) ?_
        refine lv_istore_n (lv' := [(1, .int 0), (2, .int u13), (0, .ref h0)]) hx hb dX10_isName_45 rfl hl (by decide) rfl (fun ls hl => ?_)
        obtain ⟨v22, ev22⟩ : ∃ z : Int32, z = u13 + 1 := ⟨_, rfl⟩
        have bv22 : v22.toInt = u13.toInt + 1 := by rw [ev22]; exact add_k rfl rfl k19 ⟨Int.le_refl _, Int.le_refl _⟩ (by decide)
        have k23 : 1 ≤ v22.toInt ∧ v22.toInt ≤ 23 := add_r bv22 k19 ⟨Int.le_refl _, Int.le_refl _⟩ (by decide)
        refine lv_iinc (v := v22) (lv' := [(2, .int v22), (1, .int 0), (0, .ref h0)]) hx hb dX10_isName_46 hl (k := 1) rfl (by rw [ev22]; rfl) (by decide) rfl (fun ls hl => ?_)
        refine lv_goto (tgt := 16) hx hb dX10_isName_49 (by decide) ?_
        exact ih (v22, 0) ⟨(ir_wk k23 (by decide) (by decide)), (show 0 ≤ (0 : Int32).toInt ∧ (0 : Int32).toInt ≤ 1 by decide)⟩ (by show (23 - v22.toInt).toNat < (23 - u13.toInt).toNat; omega) _ _ _ hP hD hS (lv_sub hl [0, 1, 2] rfl)
      · have dc20 : u14.toInt ≠ 0 := ne_i (a := u14.toInt) (b := 0) rfl rfl c20
        have k24 : 1 ≤ u14.toInt ∧ u14.toInt ≤ 1 := ⟨ne_lo dc20 i16.1 ⟨Int.le_refl _, Int.le_refl _⟩ (by decide), i16.2⟩
        refine lv_aload_n hx hb dX10_isName_26 rfl (lv_at hl 2 rfl) ?_
        refine get_f (D := D) (ci := 10) (v := .long x_word) (C := RX10) (T := TX10) (N := 67) hx hb hw inAX10 hown hK hP 0 rfl rfl 18 (by decide) (hw _ q_1279) (fun _ h9 => h9) e_word dX10_isName_27 ?_
        refine lv_aload_n hx hb dX10_isName_30 rfl (lv_at hl 2 rfl) ?_
        refine get_f (D := D) (ci := 10) (v := .ref h_reserved) (C := RX10) (T := TX10) (N := 67) hx hb hw inAX10 hown hK hP 0 rfl rfl 10 (by decide) (hw _ q_1271) (fun _ h9 => h9) e_reserved dX10_isName_31 ?_
        refine lv_iload_n hx hb dX10_isName_34 rfl (lv_at hl 0 rfl) ?_
        refine va_lald hx hb hK hP 1 1 rfl rfl (ix_k k19 (by decide) (by decide)) dX10_isName_35 ?_
        refine lv_topl (fun v25 ev25 => ?_)
        refine W.lcmp hx hb dX10_isName_36 ?_
        refine lv_topi (fun v26 ev26 => ?_)
        refine lv_if_eq (tgt := 44) hx hb dX10_isName_37 (by decide) (fun c27 => ?_) (fun c27 => ?_)
        · have dc27 : v26.toInt = 0 := eq_i (a := v26.toInt) (b := 0) rfl rfl c27
          have k28 : 0 ≤ v26.toInt ∧ v26.toInt ≤ 0 := ⟨Int.le_trans (Int.le_refl _) (Int.le_of_eq dc27.symm), Int.le_trans (Int.le_of_eq dc27) (Int.le_refl _)⟩
          refine lv_iconst (v := 0) hx hb dX10_isName_44 (by decide) ?_
          refine lv_istore_n (lv' := [(1, .int 0), (2, .int u13), (0, .ref h0)]) hx hb dX10_isName_45 rfl hl (by decide) rfl (fun ls hl => ?_)
          obtain ⟨v29, ev29⟩ : ∃ z : Int32, z = u13 + 1 := ⟨_, rfl⟩
          have bv29 : v29.toInt = u13.toInt + 1 := by rw [ev29]; exact add_k rfl rfl k19 ⟨Int.le_refl _, Int.le_refl _⟩ (by decide)
          have k30 : 1 ≤ v29.toInt ∧ v29.toInt ≤ 23 := add_r bv29 k19 ⟨Int.le_refl _, Int.le_refl _⟩ (by decide)
          refine lv_iinc (v := v29) (lv' := [(2, .int v29), (1, .int 0), (0, .ref h0)]) hx hb dX10_isName_46 hl (k := 1) rfl (by rw [ev29]; rfl) (by decide) rfl (fun ls hl => ?_)
          refine lv_goto (tgt := 16) hx hb dX10_isName_49 (by decide) ?_
          exact ih (v29, 0) ⟨(ir_wk k30 (by decide) (by decide)), (show 0 ≤ (0 : Int32).toInt ∧ (0 : Int32).toInt ≤ 1 by decide)⟩ (by show (23 - v29.toInt).toNat < (23 - u13.toInt).toNat; omega) _ _ _ hP hD hS (lv_sub hl [0, 1, 2] rfl)
        · have dc27 : v26.toInt ≠ 0 := ne_i (a := v26.toInt) (b := 0) rfl rfl c27
          refine lv_iconst (v := 1) hx hb dX10_isName_40 (by decide) ?_
          refine lv_goto (tgt := 45) hx hb dX10_isName_41 (by decide) ?_
          refine lv_istore_n (lv' := [(1, .int 1), (2, .int u13), (0, .ref h0)]) hx hb dX10_isName_45 rfl hl (by decide) rfl (fun ls hl => ?_)
          obtain ⟨v31, ev31⟩ : ∃ z : Int32, z = u13 + 1 := ⟨_, rfl⟩
          have bv31 : v31.toInt = u13.toInt + 1 := by rw [ev31]; exact add_k rfl rfl k19 ⟨Int.le_refl _, Int.le_refl _⟩ (by decide)
          have k32 : 1 ≤ v31.toInt ∧ v31.toInt ≤ 23 := add_r bv31 k19 ⟨Int.le_refl _, Int.le_refl _⟩ (by decide)
          refine lv_iinc (v := v31) (lv' := [(2, .int v31), (1, .int 1), (0, .ref h0)]) hx hb dX10_isName_46 hl (k := 1) rfl (by rw [ev31]; rfl) (by decide) rfl (fun ls hl => ?_)
          refine lv_goto (tgt := 16) hx hb dX10_isName_49 (by decide) ?_
          exact ih (v31, 1) ⟨(ir_wk k32 (by decide) (by decide)), (show 0 ≤ (1 : Int32).toInt ∧ (1 : Int32).toInt ≤ 1 by decide)⟩ (by show (23 - v31.toInt).toNat < (23 - u13.toInt).toNat; omega) _ _ _ hP hD hS (lv_sub hl [0, 1, 2] rfl)
set_option maxHeartbeats 4000000 in
set_option maxRecDepth 100000 in
theorem m_X10_takes (l : Launch) (D : va_G) (cI cJ cB cP cM cZ : ClassId) (h0 : Nat) (h_tape : Nat) (Fh : Nat → Value) (x_size : Int32) (x_p : Int32) (x_limit : Int32) (x_token : Int32) (x_at : Int32) (x_number : Int32) (x_word : Int64) (x_got : Int32) (f_tape : Nat → Int32) (p0 : Int32) (p1 : Int32) (sz : Nat) (e_tape : Fh 1 = .ref h_tape) (e_size : Fh 3 = .int x_size) (i_x_size : IR 0 940 x_size) (e_p : Fh 4 = .int x_p) (i_x_p : IR 0 940 x_p) (e_limit : Fh 5 = .int x_limit) (i_x_limit : IR 200 940 x_limit) (e_token : Fh 11 = .int x_token) (i_x_token : IR 0 4 x_token) (e_at : Fh 12 = .int x_at) (e_number : Fh 14 = .int x_number) (e_word : Fh 18 = .long x_word) (e_got : Fh 19 = .int x_got) (o_0 : (x_token.toInt = 2 → 0 ≤ x_number.toInt ∧ x_number.toInt ≤ 999)) : CI l yX10_takes cX10_takes 3 (some .boolean) { frames := 2, cells := 0, slots := 0, locals := 43 } (GG D cI cJ cB cP cM cZ) D [(h0, .inr (10, vL 67 Fh)), (h_tape, .inl (cB, 940, .inl f_tape))] sz [.ref h0, .int p0, .int p1] (fun (r : Int32) (u : va_W) => (∃ (Gh : Nat → Value) (y_fault : Int32), SAME [15, 16] Fh Gh ∧ Gh 15 = .int y_fault ∧ IR 1 2 y_fault ∧ Gh 16 = .int x_at ∧ r = 0 ∧ u = [(h0, .inr (10, vL 67 Gh)), (h_tape, .inl (cB, 940, .inl f_tape))]) ∨ (∃ (Gh : Nat → Value) (y_p : Int32) (y_token : Int32) (y_at : Int32) (y_span : Int32) (y_number : Int32) (y_word : Int64) (y_got : Int32), SAME [4, 11, 12, 13, 14, 18, 19] Fh Gh ∧ Gh 4 = .int y_p ∧ IR 0 940 y_p ∧ Gh 11 = .int y_token ∧ IR 0 4 y_token ∧ Gh 12 = .int y_at ∧ IR 0 940 y_at ∧ Gh 13 = .int y_span ∧ IR 0 940 y_span ∧ Gh 14 = .int y_number ∧ Gh 18 = .long y_word ∧ Gh 19 = .int y_got ∧ x_token.toInt = 2 ∧ p0.toInt ≤ x_number.toInt ∧ x_number.toInt ≤ p1.toInt ∧ (p0.toInt ≤ y_got.toInt ∧ y_got.toInt ≤ p1.toInt) ∧ (x_p.toInt ≤ y_p.toInt) ∧ ((1 ≤ y_token.toInt → y_token.toInt ≤ 3 → x_p.toInt < y_p.toInt)) ∧ ((y_token.toInt = 2 → 0 ≤ y_number.toInt ∧ y_number.toInt ≤ 999)) ∧ r = 1 ∧ u = [(h0, .inr (10, vL 67 Gh)), (h_tape, .inl (cB, 940, .inl f_tape))])) := by
  refine CI_mk (by decide) (Nat.le_of_ble_eq_true rfl) ?_
  intro p e s m below meth c A ls E hAe hG hsz hP hD hA hS hl
  obtain ⟨hx, hb, hr, hw, hown, hlocks, hml, hnm⟩ := E
  have hK := hG.1
  have i_x_size : 0 ≤ x_size.toInt ∧ x_size.toInt ≤ 940 := i_x_size
  have i_x_p : 0 ≤ x_p.toInt ∧ x_p.toInt ≤ 940 := i_x_p
  have i_x_limit : 200 ≤ x_limit.toInt ∧ x_limit.toInt ≤ 940 := i_x_limit
  have i_x_token : 0 ≤ x_token.toInt ∧ x_token.toInt ≤ 4 := i_x_token
  have hl : lv_has ls 3 [(0, .ref h0), (1, .int p0), (2, .int p1)] := hl
  refine lv_aload_n hx hb dX10_takes_0 rfl (lv_at hl 0 rfl) ?_
  refine get_f (D := D) (ci := 10) (v := .int x_token) (C := RX10) (T := TX10) (N := 67) hx hb hw inAX10 hown hK hP 0 rfl rfl 11 (by decide) (hw _ q_1272) (fun _ h9 => h9) e_token dX10_takes_1 ?_
  refine lv_iconst (v := 2) hx hb dX10_takes_4 (by decide) ?_
  refine lv_icmp_eq (tgt := 14) hx hb dX10_takes_5 (by decide) (fun c1 => ?_) (fun c1 => ?_)
  · have dc1 : x_token.toInt = 2 := eq_i (a := x_token.toInt) (b := 2) rfl rfl c1
    have k2 : 2 ≤ x_token.toInt ∧ x_token.toInt ≤ 2 := ⟨Int.le_trans (Int.le_refl _) (Int.le_of_eq dc1.symm), Int.le_trans (Int.le_of_eq dc1) (Int.le_refl _)⟩
    refine lv_aload_n hx hb dX10_takes_14 rfl (lv_at hl 0 rfl) ?_
    refine get_f (D := D) (ci := 10) (v := .int x_number) (C := RX10) (T := TX10) (N := 67) hx hb hw inAX10 hown hK hP 0 rfl rfl 14 (by decide) (hw _ q_1275) (fun _ h9 => h9) e_number dX10_takes_15 ?_
    refine lv_iload_n hx hb dX10_takes_18 rfl (lv_at hl 1 rfl) ?_
    refine lv_iload_n hx hb dX10_takes_19 rfl (lv_at hl 2 rfl) ?_
    refine call_Si (wr := [(h0, .inr (10, vL 67 Fh)), (h_tape, .inl (cB, 940, .inl f_tape))]) (As := [.int x_number, .int p0, .int p1]) (rest := []) hx hb hml hown hw (m_X10_isIn l D cI cJ cB cP cM cZ x_number p0 p1 _ ) wS_X10_211_X10_isIn dX10_takes_20 hP hD hS hA [] [0, 1] rfl rfl (by decide) (by decide) (by decide) GG.fb hG.at hl.1 rfl (Nat.le_of_ble_eq_true rfl) ⟨(Nat.le_of_ble_eq_true rfl), (Nat.le_of_ble_eq_true rfl)⟩ ⟨(Nat.le_of_ble_eq_true rfl), (Nat.le_of_ble_eq_true rfl)⟩ (fun r3 u H locs hp hP hD hS => ?_)
    rcases hp with ⟨t4, rfl, rfl⟩ | ⟨t5, t6, rfl, rfl⟩ | ⟨t7, t8, rfl, rfl⟩
    · have hP : va_P D vwCl [(h0, .inr (10, vL 67 Fh)), (h_tape, .inl (cB, 940, .inl f_tape))] H := hP
      have hD : va_D A [(h0, .inr (10, vL 67 Fh)), (h_tape, .inl (cB, 940, .inl f_tape))] := hD
      refine W.widen (k := 0) (n := 0) (Nat.le_of_ble_eq_true rfl) (Nat.le_of_ble_eq_true rfl) ?_
      have k10 : (-2147483648) ≤ x_number.toInt ∧ x_number.toInt ≤ 2147483646 := ⟨(ir_any _).1, up_lt t4 (ir_any _).2 (by decide)⟩
      have k11 : (-2147483647) ≤ p0.toInt ∧ p0.toInt ≤ 2147483647 := ⟨lo_lt t4 (ir_any _).1 (by decide), (ir_any _).2⟩
      refine lv_if_ne (tgt := 32) hx hb dX10_takes_23 (by decide) (fun g => absurd (by decide) g) (fun _ => ?_)
      refine lv_aload_n hx hb dX10_takes_26 rfl (lv_at hl 0 rfl) ?_
      refine lv_iconst (v := 2) hx hb dX10_takes_27 (by decide) ?_
      refine call_Vi (wr := [(h_tape, .inl (cB, 940, .inl f_tape))]) (As := [.int 2]) (rest := []) hx hb hml hown hw (m_X10_bad l D cI cJ cB cP cM cZ h0 Fh x_at 2 _ e_at) wV_X10_205_X10_bad dX10_takes_28 hK hP hD hS hA [0] [1] rfl rfl (by decide) (by decide) (by decide) 0 10 rfl rfl GG.fb hG.at hl.1 rfl (Nat.le_of_ble_eq_true rfl) ⟨(Nat.le_of_ble_eq_true rfl), (Nat.le_of_ble_eq_true rfl)⟩ ⟨(Nat.le_of_ble_eq_true rfl), (Nat.le_of_ble_eq_true rfl)⟩ (fun r12 u H locs hp hP hD hS => ?_)
      have zl2 : (2 : Int32).toInt = 2 := by decide
      obtain ⟨F13, t14, t15, t16, rfl, rfl⟩ := hp
      have hP : va_P D vwCl [(h_tape, .inl (cB, 940, .inl f_tape)), (h0, .inr (10, vL 67 F13))] H := hP
      have hD : va_D A [(h_tape, .inl (cB, 940, .inl f_tape)), (h0, .inr (10, vL 67 F13))] := hD
      refine W.widen (k := 0) (n := 0) (Nat.le_of_ble_eq_true rfl) (Nat.le_of_ble_eq_true rfl) ?_
      exact ret_i (v := 0) hx hb hr hlocks hS (hP.sub (ws' := [(h0, .inr (10, vL 67 F13)), (h_tape, .inl (cB, 940, .inl f_tape))]) [1, 0] rfl) (hD.sub (ws' := [(h0, .inr (10, vL 67 F13)), (h_tape, .inl (cB, 940, .inl f_tape))]) [1, 0] (by decide) rfl) dX10_takes_31 rfl (Nat.le_of_ble_eq_true rfl) (Nat.le_of_ble_eq_true rfl) (Or.inl ⟨F13, 2, (SAME.tr SAME.rf t14 (by decide)), t15, (show 1 ≤ (2 : Int32).toInt ∧ (2 : Int32).toInt ≤ 2 by decide), t16, rfl, rfl⟩)
    · have hP : va_P D vwCl [(h0, .inr (10, vL 67 Fh)), (h_tape, .inl (cB, 940, .inl f_tape))] H := hP
      have hD : va_D A [(h0, .inr (10, vL 67 Fh)), (h_tape, .inl (cB, 940, .inl f_tape))] := hD
      refine W.widen (k := 0) (n := 0) (Nat.le_of_ble_eq_true rfl) (Nat.le_of_ble_eq_true rfl) ?_
      have k18 : (-2147483648) ≤ p1.toInt ∧ p1.toInt ≤ 2147483646 := ⟨(ir_any _).1, up_lt t6 (ir_any _).2 (by decide)⟩
      have k19 : (-2147483647) ≤ x_number.toInt ∧ x_number.toInt ≤ 2147483647 := ⟨lo_lt t6 (ir_any _).1 (by decide), (ir_any _).2⟩
      refine lv_if_ne (tgt := 32) hx hb dX10_takes_23 (by decide) (fun g => absurd (by decide) g) (fun _ => ?_)
      refine lv_aload_n hx hb dX10_takes_26 rfl (lv_at hl 0 rfl) ?_
      refine lv_iconst (v := 2) hx hb dX10_takes_27 (by decide) ?_
      refine call_Vi (wr := [(h_tape, .inl (cB, 940, .inl f_tape))]) (As := [.int 2]) (rest := []) hx hb hml hown hw (m_X10_bad l D cI cJ cB cP cM cZ h0 Fh x_at 2 _ e_at) wV_X10_205_X10_bad dX10_takes_28 hK hP hD hS hA [0] [1] rfl rfl (by decide) (by decide) (by decide) 0 10 rfl rfl GG.fb hG.at hl.1 rfl (Nat.le_of_ble_eq_true rfl) ⟨(Nat.le_of_ble_eq_true rfl), (Nat.le_of_ble_eq_true rfl)⟩ ⟨(Nat.le_of_ble_eq_true rfl), (Nat.le_of_ble_eq_true rfl)⟩ (fun r20 u H locs hp hP hD hS => ?_)
      have zl2 : (2 : Int32).toInt = 2 := by decide
      obtain ⟨F21, t22, t23, t24, rfl, rfl⟩ := hp
      have hP : va_P D vwCl [(h_tape, .inl (cB, 940, .inl f_tape)), (h0, .inr (10, vL 67 F21))] H := hP
      have hD : va_D A [(h_tape, .inl (cB, 940, .inl f_tape)), (h0, .inr (10, vL 67 F21))] := hD
      refine W.widen (k := 0) (n := 0) (Nat.le_of_ble_eq_true rfl) (Nat.le_of_ble_eq_true rfl) ?_
      exact ret_i (v := 0) hx hb hr hlocks hS (hP.sub (ws' := [(h0, .inr (10, vL 67 F21)), (h_tape, .inl (cB, 940, .inl f_tape))]) [1, 0] rfl) (hD.sub (ws' := [(h0, .inr (10, vL 67 F21)), (h_tape, .inl (cB, 940, .inl f_tape))]) [1, 0] (by decide) rfl) dX10_takes_31 rfl (Nat.le_of_ble_eq_true rfl) (Nat.le_of_ble_eq_true rfl) (Or.inl ⟨F21, 2, (SAME.tr SAME.rf t22 (by decide)), t23, (show 1 ≤ (2 : Int32).toInt ∧ (2 : Int32).toInt ≤ 2 by decide), t24, rfl, rfl⟩)
    · have hP : va_P D vwCl [(h0, .inr (10, vL 67 Fh)), (h_tape, .inl (cB, 940, .inl f_tape))] H := hP
      have hD : va_D A [(h0, .inr (10, vL 67 Fh)), (h_tape, .inl (cB, 940, .inl f_tape))] := hD
      refine W.widen (k := 0) (n := 0) (Nat.le_of_ble_eq_true rfl) (Nat.le_of_ble_eq_true rfl) ?_
      refine lv_if_ne (tgt := 32) hx hb dX10_takes_23 (by decide) (fun _ => ?_) (fun g => absurd g (by decide))
      refine lv_aload_n hx hb dX10_takes_32 rfl (lv_at hl 0 rfl) ?_
      refine lv_aload_n hx hb dX10_takes_33 rfl (lv_at hl 0 rfl) ?_
      refine get_f (D := D) (ci := 10) (v := .int x_number) (C := RX10) (T := TX10) (N := 67) hx hb hw inAX10 hown hK hP 0 rfl rfl 14 (by decide) (hw _ q_1275) (fun _ h9 => h9) e_number dX10_takes_34 ?_
      refine put_f (D := D) (ci := 10) (v := .int x_number) (ty := .int) (C := RX10) (T := TX10) (N := 67) hx hb hw inAX10 tyX10 tyX10_ok nmX10 hown hK hP hD hS 0 rfl rfl 19 (by decide) (hw _ q_1280) (fun _ h9 => h9) rfl (by decide +kernel) rfl rfl dX10_takes_37 (fun H locs F26 eF26 hP hD hS => ?_)
      have hP : va_P D vwCl [(h0, .inr (10, vL 67 F26)), (h_tape, .inl (cB, 940, .inl f_tape))] H := hP
      have hD : va_D A [(h0, .inr (10, vL 67 F26)), (h_tape, .inl (cB, 940, .inl f_tape))] := hD
      refine lv_aload_n hx hb dX10_takes_40 rfl (lv_at hl 0 rfl) ?_
      have n27 : F26 1 = .ref h_tape := (get_ne eF26 (by decide) e_tape)
      have n28 : F26 3 = .int x_size := (get_ne eF26 (by decide) e_size)
      have n29 : F26 4 = .int x_p := (get_ne eF26 (by decide) e_p)
      have n30 : F26 5 = .int x_limit := (get_ne eF26 (by decide) e_limit)
      have n31 : F26 11 = .int x_token := (get_ne eF26 (by decide) e_token)
      have n32 : F26 14 = .int x_number := (get_ne eF26 (by decide) e_number)
      have n33 : F26 18 = .long x_word := (get_ne eF26 (by decide) e_word)
      refine call_Vv (wr := []) (As := []) (rest := []) hx hb hml hown hw (m_X10_next l D cI cJ cB cP cM cZ h0 h_tape F26 x_size x_p x_limit x_token x_number x_word f_tape _ n27 n28 i_x_size n29 i_x_p n30 i_x_limit n31 (ir_wk k2 (by decide) (by decide)) n32 n33 (by omega)) wV_X10_208_X10_next dX10_takes_41 hK hP hD hS hA [0, 1] [] rfl rfl (by decide) (by decide) (by decide) 0 10 rfl rfl GG.fb hG.at hl.1 rfl (Nat.le_of_ble_eq_true rfl) ⟨(Nat.le_of_ble_eq_true rfl), (Nat.le_of_ble_eq_true rfl)⟩ ⟨(Nat.le_of_ble_eq_true rfl), (Nat.le_of_ble_eq_true rfl)⟩ (fun u H locs hp hP hD hS => ?_)
      obtain ⟨F35, y36, y37, y38, y39, y40, y41, t42, t43, t44, t45, t46, t47, t48, t49, t50, t51, t52, t53, t54, t55, rfl⟩ := hp
      have hP : va_P D vwCl [(h0, .inr (10, vL 67 F35)), (h_tape, .inl (cB, 940, .inl f_tape))] H := hP
      have hD : va_D A [(h0, .inr (10, vL 67 F35)), (h_tape, .inl (cB, 940, .inl f_tape))] := hD
      refine W.widen (k := 0) (n := 0) (Nat.le_of_ble_eq_true rfl) (Nat.le_of_ble_eq_true rfl) ?_
      refine lv_iconst (v := 1) hx hb dX10_takes_44 (by decide) ?_
      exact ret_i (v := 1) hx hb hr hlocks hS hP hD dX10_takes_45 rfl (Nat.le_of_ble_eq_true rfl) (Nat.le_of_ble_eq_true rfl) (Or.inr ⟨F35, y36, y37, y38, y39, y40, y41, x_number, (SAME.tr (SAME.up eF26 SAME.rf (by decide)) t42 (by decide)), t43, t44, t45, t46, t47, t48, t49, t50, t51, t52, (SAME.at t42 (by decide) (get_eq eF26)), dc1, t7, t8, (by have zl1 : (1 : Int32).toInt = 1 := (by decide); omega), (by have zl1 : (1 : Int32).toInt = 1 := (by decide); omega), (by have zl1 : (1 : Int32).toInt = 1 := (by decide); omega), (by omega), rfl, rfl⟩)
  · have dc1 : x_token.toInt ≠ 2 := ne_i (a := x_token.toInt) (b := 2) rfl rfl c1
    refine lv_aload_n hx hb dX10_takes_8 rfl (lv_at hl 0 rfl) ?_
    refine lv_iconst (v := 1) hx hb dX10_takes_9 (by decide) ?_
    refine call_Vi (wr := [(h_tape, .inl (cB, 940, .inl f_tape))]) (As := [.int 1]) (rest := []) hx hb hml hown hw (m_X10_bad l D cI cJ cB cP cM cZ h0 Fh x_at 1 _ e_at) wV_X10_205_X10_bad dX10_takes_10 hK hP hD hS hA [0] [1] rfl rfl (by decide) (by decide) (by decide) 0 10 rfl rfl GG.fb hG.at hl.1 rfl (Nat.le_of_ble_eq_true rfl) ⟨(Nat.le_of_ble_eq_true rfl), (Nat.le_of_ble_eq_true rfl)⟩ ⟨(Nat.le_of_ble_eq_true rfl), (Nat.le_of_ble_eq_true rfl)⟩ (fun r57 u H locs hp hP hD hS => ?_)
    have zl1 : (1 : Int32).toInt = 1 := by decide
    obtain ⟨F58, t59, t60, t61, rfl, rfl⟩ := hp
    have hP : va_P D vwCl [(h_tape, .inl (cB, 940, .inl f_tape)), (h0, .inr (10, vL 67 F58))] H := hP
    have hD : va_D A [(h_tape, .inl (cB, 940, .inl f_tape)), (h0, .inr (10, vL 67 F58))] := hD
    refine W.widen (k := 0) (n := 0) (Nat.le_of_ble_eq_true rfl) (Nat.le_of_ble_eq_true rfl) ?_
    exact ret_i (v := 0) hx hb hr hlocks hS (hP.sub (ws' := [(h0, .inr (10, vL 67 F58)), (h_tape, .inl (cB, 940, .inl f_tape))]) [1, 0] rfl) (hD.sub (ws' := [(h0, .inr (10, vL 67 F58)), (h_tape, .inl (cB, 940, .inl f_tape))]) [1, 0] (by decide) rfl) dX10_takes_13 rfl (Nat.le_of_ble_eq_true rfl) (Nat.le_of_ble_eq_true rfl) (Or.inl ⟨F58, 1, (SAME.tr SAME.rf t59 (by decide)), t60, (show 1 ≤ (1 : Int32).toInt ∧ (1 : Int32).toInt ≤ 2 by decide), t61, rfl, rfl⟩)
set_option maxHeartbeats 4000000 in
set_option maxRecDepth 100000 in
theorem m_X10_find (l : Launch) (D : va_G) (cI cJ cB cP cM cZ : ClassId) (h0 : Nat) (h_names : Nat) (Fh : Nat → Value) (x_word : Int64) (f_names : Nat → Int64) (p0 : Int32) (p1 : Int32) (sz : Nat) (e_names : Fh 9 = .ref h_names) (e_word : Fh 18 = .long x_word) (i_p0 : IR 0 30 p0) (i_p1 : IR 0 12 p1) (z_0 : p0.toInt + p1.toInt ≤ 36) : CI l yX10_find cX10_find 4 (some .int) { frames := 0, cells := 0, slots := 0, locals := 0 } (GG D cI cJ cB cP cM cZ) D [(h0, .inr (10, vL 67 Fh)), (h_names, .inl (cJ, 36, .inr (.inl f_names)))] sz [.ref h0, .int p0, .int p1] (fun (r : Int32) (u : va_W) => (p1.toInt ≤ 12 ∧ ((0 ≤ r.toInt → r.toInt < p1.toInt)) ∧ r = (-1) ∧ u = [(h0, .inr (10, vL 67 Fh)), (h_names, .inl (cJ, 36, .inr (.inl f_names)))]) ∨ (IR 0 11 r ∧ 0 < p1.toInt ∧ ((0 ≤ r.toInt → r.toInt < p1.toInt)) ∧ u = [(h0, .inr (10, vL 67 Fh)), (h_names, .inl (cJ, 36, .inr (.inl f_names)))])) := by
  refine CI_mk (by decide) (Nat.le_of_ble_eq_true rfl) ?_
  intro p e s m below meth c A ls E hAe hG hsz hP hD hA hS hl
  obtain ⟨hx, hb, hr, hw, hown, hlocks, hml, hnm⟩ := E
  have hK := hG.1
  have i_p0 : 0 ≤ p0.toInt ∧ p0.toInt ≤ 30 := i_p0
  have i_p1 : 0 ≤ p1.toInt ∧ p1.toInt ≤ 12 := i_p1
  have hl : lv_has ls 4 [(0, .ref h0), (1, .int p0), (2, .int p1)] := hl
  refine lv_iconst (v := 0) hx hb dX10_find_0 (by decide) ?_
  refine lv_istore_n (lv' := [(3, .int 0), (0, .ref h0), (1, .int p0), (2, .int p1)]) hx hb dX10_find_1 rfl hl (by decide) rfl (fun ls hl => ?_)
  refine mloop (α := (Int32)) (nL := 4) (D := D) (A := A) (H0 := s.heap) (fun a => (12 - a.toInt).toNat) (fun a => IR 0 12 a) (fun a => [(h0, .inr (10, vL 67 Fh)), (h_names, .inl (cJ, 36, .inr (.inl f_names)))]) (fun a => [(3, .int a), (0, .ref h0), (1, .int p0), (2, .int p1)]) (fun H locs ls => W p l e ({ frames := 0, cells := 0, slots := 0, locals := 0 } : Room) s m [.ref h0, .int p0, .int p1].toArray below meth c H locs 0 0 (MQ below (va_Qi (fun (r : Int32) (u : va_W) => (p1.toInt ≤ 12 ∧ ((0 ≤ r.toInt → r.toInt < p1.toInt)) ∧ r = (-1) ∧ u = [(h0, .inr (10, vL 67 Fh)), (h_names, .inl (cJ, 36, .inr (.inl f_names)))]) ∨ (IR 0 11 r ∧ 0 < p1.toInt ∧ ((0 ≤ r.toInt → r.toInt < p1.toInt)) ∧ u = [(h0, .inr (10, vL 67 Fh)), (h_names, .inl (cJ, 36, .inr (.inl f_names)))])) (PO D A) A) [.ref h0, .int p0, .int p1].toArray s 0 0 A) (F0 m 2 ls [])) ?_ (0) (show 0 ≤ (0 : Int32).toInt ∧ (0 : Int32).toInt ≤ 12 by decide) _ _ _ hP hD hS hl
  rintro u1 i2 ih H locs ls hP hD hS hl
  have i2 : 0 ≤ u1.toInt ∧ u1.toInt ≤ 12 := i2
  have hP : va_P D vwCl [(h0, .inr (10, vL 67 Fh)), (h_names, .inl (cJ, 36, .inr (.inl f_names)))] H := hP
  have hD : va_D A [(h0, .inr (10, vL 67 Fh)), (h_names, .inl (cJ, 36, .inr (.inl f_names)))] := hD
  have hl : lv_has ls 4 [(3, .int u1), (0, .ref h0), (1, .int p0), (2, .int p1)] := hl
  refine lv_iload_n hx hb dX10_find_2 rfl (lv_at hl 0 rfl) ?_
  refine lv_iload_n hx hb dX10_find_3 rfl (lv_at hl 3 rfl) ?_
  refine lv_icmp_ge (tgt := 31) hx hb dX10_find_4 (by decide) (fun c3 => ?_) (fun c3 => ?_)
  · have dc3 : p1.toInt ≤ u1.toInt := le_i (a := p1.toInt) (b := u1.toInt) rfl rfl c3
    refine lv_iconst (v := (-1)) hx hb dX10_find_31 (by decide) ?_
    exact ret_i (v := (-1)) hx hb hr hlocks hS hP hD dX10_find_32 rfl (Nat.le_of_ble_eq_true rfl) (Nat.le_of_ble_eq_true rfl) (Or.inl ⟨(by omega), (by have zlm1 : ((-1) : Int32).toInt = (-1) := (by decide); omega), rfl, rfl⟩)
  · have dc3 : u1.toInt < p1.toInt := nle_i (a := p1.toInt) (b := u1.toInt) rfl rfl c3
    have k4 : 0 ≤ u1.toInt ∧ u1.toInt ≤ 11 := ⟨i2.1, up_lt dc3 i_p1.2 (by decide)⟩
    have k5 : 1 ≤ p1.toInt ∧ p1.toInt ≤ 12 := ⟨lo_lt dc3 i2.1 (by decide), i_p1.2⟩
    refine lv_aload_n hx hb dX10_find_7 rfl (lv_at hl 1 rfl) ?_
    refine get_f (D := D) (ci := 10) (v := .ref h_names) (C := RX10) (T := TX10) (N := 67) hx hb hw inAX10 hown hK hP 0 rfl rfl 9 (by decide) (hw _ q_1270) (fun _ h9 => h9) e_names dX10_find_8 ?_
    refine lv_iload_n hx hb dX10_find_11 rfl (lv_at hl 2 rfl) ?_
    refine lv_iload_n hx hb dX10_find_12 rfl (lv_at hl 0 rfl) ?_
    refine lv_iadd hx hb dX10_find_13 ?_
    refine lv_topi (fun v6 ev6 => ?_)
    have bv6 : v6.toInt = p0.toInt + u1.toInt := by rw [ev6]; exact add_k rfl rfl i_p0 k4 (by decide)
    have k7 : 0 ≤ v6.toInt ∧ v6.toInt ≤ 41 := add_r bv6 i_p0 k4 (by decide)
    refine va_lald hx hb hK hP 1 1 rfl rfl (ix_i (by omega) (by omega)) dX10_find_14 ?_
    refine lv_topl (fun v8 ev8 => ?_)
    refine lv_aload_n hx hb dX10_find_15 rfl (lv_at hl 1 rfl) ?_
    refine get_f (D := D) (ci := 10) (v := .long x_word) (C := RX10) (T := TX10) (N := 67) hx hb hw inAX10 hown hK hP 0 rfl rfl 18 (by decide) (hw _ q_1279) (fun _ h9 => h9) e_word dX10_find_16 ?_
    refine W.lcmp hx hb dX10_find_19 ?_
    refine lv_topi (fun v9 ev9 => ?_)
    refine lv_if_ne (tgt := 25) hx hb dX10_find_20 (by decide) (fun c10 => ?_) (fun c10 => ?_)
    · have dc10 : v9.toInt ≠ 0 := ne_i (a := v9.toInt) (b := 0) rfl rfl c10
      obtain ⟨v11, ev11⟩ : ∃ z : Int32, z = u1 + 1 := ⟨_, rfl⟩
      have bv11 : v11.toInt = u1.toInt + 1 := by rw [ev11]; exact add_k rfl rfl k4 ⟨Int.le_refl _, Int.le_refl _⟩ (by decide)
      have k12 : 1 ≤ v11.toInt ∧ v11.toInt ≤ 12 := add_r bv11 k4 ⟨Int.le_refl _, Int.le_refl _⟩ (by decide)
      refine lv_iinc (v := v11) (lv' := [(3, .int v11), (0, .ref h0), (1, .int p0), (2, .int p1)]) hx hb dX10_find_25 hl (k := 0) rfl (by rw [ev11]; rfl) (by decide) rfl (fun ls hl => ?_)
      refine lv_goto (tgt := 2) hx hb dX10_find_28 (by decide) ?_
      exact ih (v11) (ir_wk k12 (by decide) (by decide)) (by show (12 - v11.toInt).toNat < (12 - u1.toInt).toNat; omega) _ _ _ hP hD hS (lv_sub hl [0, 1, 2, 3] rfl)
    · have dc10 : v9.toInt = 0 := eq_i (a := v9.toInt) (b := 0) rfl rfl c10
      have k13 : 0 ≤ v9.toInt ∧ v9.toInt ≤ 0 := ⟨Int.le_trans (Int.le_refl _) (Int.le_of_eq dc10.symm), Int.le_trans (Int.le_of_eq dc10) (Int.le_refl _)⟩
      refine lv_iload_n hx hb dX10_find_23 rfl (lv_at hl 0 rfl) ?_
      exact ret_i (v := u1) hx hb hr hlocks hS hP hD dX10_find_24 rfl (Nat.le_of_ble_eq_true rfl) (Nat.le_of_ble_eq_true rfl) (Or.inr ⟨k4, (by omega), (by omega), rfl⟩)
set_option maxHeartbeats 4000000 in
set_option maxRecDepth 100000 in
theorem m_X10_fresh (l : Launch) (D : va_G) (cI cJ cB cP cM cZ : ClassId) (h0 : Nat) (h_tape : Nat) (h_h : Nat) (h_names : Nat) (h_reserved : Nat) (Fh : Nat → Value) (x_size : Int32) (x_p : Int32) (x_limit : Int32) (x_token : Int32) (x_at : Int32) (x_number : Int32) (x_word : Int64) (f_tape : Nat → Int32) (f_h : Nat → Int32) (f_names : Nat → Int64) (f_reserved : Nat → Int64) (p0 : Int32) (sz : Nat) (e_tape : Fh 1 = .ref h_tape) (e_size : Fh 3 = .int x_size) (i_x_size : IR 0 940 x_size) (e_p : Fh 4 = .int x_p) (i_x_p : IR 0 940 x_p) (e_limit : Fh 5 = .int x_limit) (i_x_limit : IR 200 940 x_limit) (e_h : Fh 7 = .ref h_h) (e_names : Fh 9 = .ref h_names) (e_reserved : Fh 10 = .ref h_reserved) (e_token : Fh 11 = .int x_token) (i_x_token : IR 0 4 x_token) (e_at : Fh 12 = .int x_at) (e_number : Fh 14 = .int x_number) (e_word : Fh 18 = .long x_word) (s_h_0 : SG 0 0 0 40 f_h) (s_h_44 : SG 44 55 0 9 f_h) (s_h_5 : SG 5 5 0 12 f_h) (s_h_6 : SG 6 6 0 12 f_h) (s_h_7 : SG 7 7 0 6 f_h) (i_p0 : IR 0 35 p0) (o_0 : (x_token.toInt = 2 → 0 ≤ x_number.toInt ∧ x_number.toInt ≤ 999)) : CI l yX10_fresh cX10_fresh 2 (some .boolean) { frames := 2, cells := 0, slots := 0, locals := 43 } (GG D cI cJ cB cP cM cZ) D [(h0, .inr (10, vL 67 Fh)), (h_tape, .inl (cB, 940, .inl f_tape)), (h_h, .inl (cI, 104, .inl f_h)), (h_names, .inl (cJ, 36, .inr (.inl f_names))), (h_reserved, .inl (cJ, 23, .inr (.inl f_reserved)))] sz [.ref h0, .int p0] (fun (r : Int32) (u : va_W) => (∃ (Gh : Nat → Value) (y_p : Int32) (y_token : Int32) (y_at : Int32) (y_span : Int32) (y_number : Int32) (y_word : Int64) (g_names : Nat → Int64), SAME [4, 11, 12, 13, 14, 18] Fh Gh ∧ Gh 4 = .int y_p ∧ IR 0 940 y_p ∧ Gh 11 = .int y_token ∧ IR 0 4 y_token ∧ Gh 12 = .int y_at ∧ IR 0 940 y_at ∧ Gh 13 = .int y_span ∧ IR 0 940 y_span ∧ Gh 14 = .int y_number ∧ Gh 18 = .long y_word ∧ (x_p.toInt ≤ y_p.toInt) ∧ ((1 ≤ y_token.toInt → y_token.toInt ≤ 3 → x_p.toInt < y_p.toInt)) ∧ ((y_token.toInt = 2 → 0 ≤ y_number.toInt ∧ y_number.toInt ≤ 999)) ∧ r = 1 ∧ u = [(h0, .inr (10, vL 67 Gh)), (h_tape, .inl (cB, 940, .inl f_tape)), (h_h, .inl (cI, 104, .inl f_h)), (h_names, .inl (cJ, 36, .inr (.inl g_names))), (h_reserved, .inl (cJ, 23, .inr (.inl f_reserved)))]) ∨ (∃ (Gh : Nat → Value) (y_fault : Int32), SAME [15, 16] Fh Gh ∧ Gh 15 = .int y_fault ∧ IR 1 3 y_fault ∧ Gh 16 = .int x_at ∧ ((x_token.toInt = 2 → 0 ≤ x_number.toInt ∧ x_number.toInt ≤ 999)) ∧ r = 0 ∧ u = [(h0, .inr (10, vL 67 Gh)), (h_tape, .inl (cB, 940, .inl f_tape)), (h_h, .inl (cI, 104, .inl f_h)), (h_names, .inl (cJ, 36, .inr (.inl f_names))), (h_reserved, .inl (cJ, 23, .inr (.inl f_reserved)))])) := by
  refine CI_mk (by decide) (Nat.le_of_ble_eq_true rfl) ?_
  intro p e s m below meth c A ls E hAe hG hsz hP hD hA hS hl
  obtain ⟨hx, hb, hr, hw, hown, hlocks, hml, hnm⟩ := E
  have hK := hG.1
  have i_x_size : 0 ≤ x_size.toInt ∧ x_size.toInt ≤ 940 := i_x_size
  have i_x_p : 0 ≤ x_p.toInt ∧ x_p.toInt ≤ 940 := i_x_p
  have i_x_limit : 200 ≤ x_limit.toInt ∧ x_limit.toInt ≤ 940 := i_x_limit
  have i_x_token : 0 ≤ x_token.toInt ∧ x_token.toInt ≤ 4 := i_x_token
  have i_p0 : 0 ≤ p0.toInt ∧ p0.toInt ≤ 35 := i_p0
  have hl : lv_has ls 2 [(0, .ref h0), (1, .int p0)] := hl
  refine lv_aload_n hx hb dX10_fresh_0 rfl (lv_at hl 0 rfl) ?_
  refine call_Vi (wr := [(h_tape, .inl (cB, 940, .inl f_tape)), (h_h, .inl (cI, 104, .inl f_h)), (h_names, .inl (cJ, 36, .inr (.inl f_names)))]) (As := []) (rest := []) hx hb hml hown hw (m_X10_isName l D cI cJ cB cP cM cZ h0 h_reserved Fh x_token x_number x_word f_reserved _ e_reserved e_token i_x_token e_number e_word (by omega)) wV_X10_218_X10_isName dX10_fresh_1 hK hP hD hS hA [0, 4] [1, 2, 3] rfl rfl (by decide) (by decide) (by decide) 0 10 rfl rfl GG.fb hG.at hl.1 rfl (Nat.le_of_ble_eq_true rfl) ⟨(Nat.le_of_ble_eq_true rfl), (Nat.le_of_ble_eq_true rfl)⟩ ⟨(Nat.le_of_ble_eq_true rfl), (Nat.le_of_ble_eq_true rfl)⟩ (fun r1 u H locs hp hP hD hS => ?_)
  obtain ⟨t2, rfl⟩ := hp
  have hP : va_P D vwCl [(h_tape, .inl (cB, 940, .inl f_tape)), (h_h, .inl (cI, 104, .inl f_h)), (h_names, .inl (cJ, 36, .inr (.inl f_names))), (h0, .inr (10, vL 67 Fh)), (h_reserved, .inl (cJ, 23, .inr (.inl f_reserved)))] H := hP
  have hD : va_D A [(h_tape, .inl (cB, 940, .inl f_tape)), (h_h, .inl (cI, 104, .inl f_h)), (h_names, .inl (cJ, 36, .inr (.inl f_names))), (h0, .inr (10, vL 67 Fh)), (h_reserved, .inl (cJ, 23, .inr (.inl f_reserved)))] := hD
  refine W.widen (k := 0) (n := 0) (Nat.le_of_ble_eq_true rfl) (Nat.le_of_ble_eq_true rfl) ?_
  refine lv_if_ne (tgt := 13) hx hb dX10_fresh_4 (by decide) (fun c4 => ?_) (fun c4 => ?_)
  · have dc4 : r1.toInt ≠ 0 := ne_i (a := r1.toInt) (b := 0) rfl rfl c4
    have k5 : 1 ≤ r1.toInt ∧ r1.toInt ≤ 1 := ⟨ne_lo dc4 t2.1 ⟨Int.le_refl _, Int.le_refl _⟩ (by decide), t2.2⟩
    refine lv_aload_n hx hb dX10_fresh_13 rfl (lv_at hl 0 rfl) ?_
    refine lv_bipush (v := 18) hx hb dX10_fresh_14 (by decide) ?_
    refine lv_aload_n hx hb dX10_fresh_16 rfl (lv_at hl 0 rfl) ?_
    refine get_f (D := D) (ci := 10) (v := .ref h_h) (C := RX10) (T := TX10) (N := 67) hx hb hw inAX10 hown hK hP 3 rfl rfl 7 (by decide) (hw _ q_1268) (fun _ h9 => h9) e_h dX10_fresh_17 ?_
    refine lv_iconst (v := 5) hx hb dX10_fresh_20 (by decide) ?_
    refine iald_n hx hb hK hP 1 0 rfl rfl 5 rfl (Nat.le_of_ble_eq_true rfl) (Nat.le_of_ble_eq_true rfl) rfl dX10_fresh_21 ?_
    refine lv_topi (fun v6 ev6 => ?_)
    have k7 : 0 ≤ v6.toInt ∧ v6.toInt ≤ 12 := by rw [ev6]; exact s_h_5.atN 5 (by decide) (by decide)
    refine call_Vi (wr := [(h_tape, .inl (cB, 940, .inl f_tape)), (h_h, .inl (cI, 104, .inl f_h)), (h_reserved, .inl (cJ, 23, .inr (.inl f_reserved)))]) (As := [.int 18, .int v6]) (rest := []) hx hb hml hown hw (m_X10_find l D cI cJ cB cP cM cZ h0 h_names Fh x_word f_names 18 v6 _ e_names e_word (show 0 ≤ (18 : Int32).toInt ∧ (18 : Int32).toInt ≤ 30 by decide) k7 (by have z0 : (18 : Int32).toInt = 18 := rfl; omega)) wV_X10_222_X10_find dX10_fresh_22 hK hP hD hS hA [3, 2] [0, 1, 4] rfl rfl (by decide) (by decide) (by decide) 0 10 rfl rfl GG.fb hG.at hl.1 rfl (Nat.le_of_ble_eq_true rfl) ⟨(Nat.le_of_ble_eq_true rfl), (Nat.le_of_ble_eq_true rfl)⟩ ⟨(Nat.le_of_ble_eq_true rfl), (Nat.le_of_ble_eq_true rfl)⟩ (fun r8 u H locs hp hP hD hS => ?_)
    have zl18 : (18 : Int32).toInt = 18 := by decide
    rcases hp with ⟨t9, t10, rfl, rfl⟩ | ⟨t11, t12, t13, rfl⟩
    · have hP : va_P D vwCl [(h_tape, .inl (cB, 940, .inl f_tape)), (h_h, .inl (cI, 104, .inl f_h)), (h_reserved, .inl (cJ, 23, .inr (.inl f_reserved))), (h0, .inr (10, vL 67 Fh)), (h_names, .inl (cJ, 36, .inr (.inl f_names)))] H := hP
      have hD : va_D A [(h_tape, .inl (cB, 940, .inl f_tape)), (h_h, .inl (cI, 104, .inl f_h)), (h_reserved, .inl (cJ, 23, .inr (.inl f_reserved))), (h0, .inr (10, vL 67 Fh)), (h_names, .inl (cJ, 36, .inr (.inl f_names)))] := hD
      refine W.widen (k := 0) (n := 0) (Nat.le_of_ble_eq_true rfl) (Nat.le_of_ble_eq_true rfl) ?_
      refine lv_if_ge (tgt := 44) hx hb dX10_fresh_25 (by decide) (fun g => absurd g (by decide)) (fun _ => ?_)
      refine lv_aload_n hx hb dX10_fresh_28 rfl (lv_at hl 0 rfl) ?_
      refine lv_bipush (v := 30) hx hb dX10_fresh_29 (by decide) ?_
      refine lv_aload_n hx hb dX10_fresh_31 rfl (lv_at hl 0 rfl) ?_
      refine get_f (D := D) (ci := 10) (v := .ref h_h) (C := RX10) (T := TX10) (N := 67) hx hb hw inAX10 hown hK hP 3 rfl rfl 7 (by decide) (hw _ q_1268) (fun _ h9 => h9) e_h dX10_fresh_32 ?_
      refine lv_bipush (v := 7) hx hb dX10_fresh_35 (by decide) ?_
      refine iald_n hx hb hK hP 1 0 rfl rfl 7 rfl (Nat.le_of_ble_eq_true rfl) (Nat.le_of_ble_eq_true rfl) rfl dX10_fresh_37 ?_
      refine lv_topi (fun v15 ev15 => ?_)
      have k16 : 0 ≤ v15.toInt ∧ v15.toInt ≤ 6 := by rw [ev15]; exact s_h_7.atN 7 (by decide) (by decide)
      refine call_Vi (wr := [(h_tape, .inl (cB, 940, .inl f_tape)), (h_h, .inl (cI, 104, .inl f_h)), (h_reserved, .inl (cJ, 23, .inr (.inl f_reserved)))]) (As := [.int 30, .int v15]) (rest := []) hx hb hml hown hw (m_X10_find l D cI cJ cB cP cM cZ h0 h_names Fh x_word f_names 30 v15 _ e_names e_word (show 0 ≤ (30 : Int32).toInt ∧ (30 : Int32).toInt ≤ 30 by decide) (ir_wk k16 (by decide) (by decide)) (by have z0 : (30 : Int32).toInt = 30 := rfl; omega)) wV_X10_222_X10_find dX10_fresh_38 hK hP hD hS hA [3, 4] [0, 1, 2] rfl rfl (by decide) (by decide) (by decide) 0 10 rfl rfl GG.fb hG.at hl.1 rfl (Nat.le_of_ble_eq_true rfl) ⟨(Nat.le_of_ble_eq_true rfl), (Nat.le_of_ble_eq_true rfl)⟩ ⟨(Nat.le_of_ble_eq_true rfl), (Nat.le_of_ble_eq_true rfl)⟩ (fun r17 u H locs hp hP hD hS => ?_)
      have zl30 : (30 : Int32).toInt = 30 := by decide
      rcases hp with ⟨t18, t19, rfl, rfl⟩ | ⟨t20, t21, t22, rfl⟩
      · have hP : va_P D vwCl [(h_tape, .inl (cB, 940, .inl f_tape)), (h_h, .inl (cI, 104, .inl f_h)), (h_reserved, .inl (cJ, 23, .inr (.inl f_reserved))), (h0, .inr (10, vL 67 Fh)), (h_names, .inl (cJ, 36, .inr (.inl f_names)))] H := hP
        have hD : va_D A [(h_tape, .inl (cB, 940, .inl f_tape)), (h_h, .inl (cI, 104, .inl f_h)), (h_reserved, .inl (cJ, 23, .inr (.inl f_reserved))), (h0, .inr (10, vL 67 Fh)), (h_names, .inl (cJ, 36, .inr (.inl f_names)))] := hD
        refine W.widen (k := 0) (n := 0) (Nat.le_of_ble_eq_true rfl) (Nat.le_of_ble_eq_true rfl) ?_
        refine lv_if_lt (tgt := 50) hx hb dX10_fresh_41 (by decide) (fun _ => ?_) (fun g => absurd (by decide) g)
        refine lv_aload_n hx hb dX10_fresh_50 rfl (lv_at hl 0 rfl) ?_
        refine get_f (D := D) (ci := 10) (v := .ref h_names) (C := RX10) (T := TX10) (N := 67) hx hb hw inAX10 hown hK hP 3 rfl rfl 9 (by decide) (hw _ q_1270) (fun _ h9 => h9) e_names dX10_fresh_51 ?_
        refine lv_iload_n hx hb dX10_fresh_54 rfl (lv_at hl 1 rfl) ?_
        refine lv_aload_n hx hb dX10_fresh_55 rfl (lv_at hl 0 rfl) ?_
        refine get_f (D := D) (ci := 10) (v := .long x_word) (C := RX10) (T := TX10) (N := 67) hx hb hw inAX10 hown hK hP 3 rfl rfl 18 (by decide) (hw _ q_1279) (fun _ h9 => h9) e_word dX10_fresh_56 ?_
        obtain ⟨g24, eg24⟩ : ∃ z : Nat → Int64, vp_updL f_names p0.toNatClampNeg x_word = z := ⟨_, rfl⟩
        refine last_g hx hb hK hP hD hS 4 1 rfl rfl (ix_k i_p0 (by decide) (by decide)) eg24 dX10_fresh_59 (fun H locs hP hD hS => ?_)
        have hP : va_P D vwCl [(h_tape, .inl (cB, 940, .inl f_tape)), (h_h, .inl (cI, 104, .inl f_h)), (h_reserved, .inl (cJ, 23, .inr (.inl f_reserved))), (h0, .inr (10, vL 67 Fh)), (h_names, .inl (cJ, 36, .inr (.inl g24)))] H := hP
        have hD : va_D A [(h_tape, .inl (cB, 940, .inl f_tape)), (h_h, .inl (cI, 104, .inl f_h)), (h_reserved, .inl (cJ, 23, .inr (.inl f_reserved))), (h0, .inr (10, vL 67 Fh)), (h_names, .inl (cJ, 36, .inr (.inl g24)))] := hD
        refine lv_aload_n hx hb dX10_fresh_60 rfl (lv_at hl 0 rfl) ?_
        refine call_Vv (wr := [(h_h, .inl (cI, 104, .inl f_h)), (h_reserved, .inl (cJ, 23, .inr (.inl f_reserved))), (h_names, .inl (cJ, 36, .inr (.inl g24)))]) (As := []) (rest := []) hx hb hml hown hw (m_X10_next l D cI cJ cB cP cM cZ h0 h_tape Fh x_size x_p x_limit x_token x_number x_word f_tape _ e_tape e_size i_x_size e_p i_x_p e_limit i_x_limit e_token i_x_token e_number e_word (by omega)) wV_X10_208_X10_next dX10_fresh_61 hK hP hD hS hA [3, 0] [1, 2, 4] rfl rfl (by decide) (by decide) (by decide) 0 10 rfl rfl GG.fb hG.at hl.1 rfl (Nat.le_of_ble_eq_true rfl) ⟨(Nat.le_of_ble_eq_true rfl), (Nat.le_of_ble_eq_true rfl)⟩ ⟨(Nat.le_of_ble_eq_true rfl), (Nat.le_of_ble_eq_true rfl)⟩ (fun u H locs hp hP hD hS => ?_)
        obtain ⟨F26, y27, y28, y29, y30, y31, y32, t33, t34, t35, t36, t37, t38, t39, t40, t41, t42, t43, t44, t45, t46, rfl⟩ := hp
        have hP : va_P D vwCl [(h_h, .inl (cI, 104, .inl f_h)), (h_reserved, .inl (cJ, 23, .inr (.inl f_reserved))), (h_names, .inl (cJ, 36, .inr (.inl g24))), (h0, .inr (10, vL 67 F26)), (h_tape, .inl (cB, 940, .inl f_tape))] H := hP
        have hD : va_D A [(h_h, .inl (cI, 104, .inl f_h)), (h_reserved, .inl (cJ, 23, .inr (.inl f_reserved))), (h_names, .inl (cJ, 36, .inr (.inl g24))), (h0, .inr (10, vL 67 F26)), (h_tape, .inl (cB, 940, .inl f_tape))] := hD
        refine W.widen (k := 0) (n := 0) (Nat.le_of_ble_eq_true rfl) (Nat.le_of_ble_eq_true rfl) ?_
        refine lv_iconst (v := 1) hx hb dX10_fresh_64 (by decide) ?_
        exact ret_i (v := 1) hx hb hr hlocks hS (hP.sub (ws' := [(h0, .inr (10, vL 67 F26)), (h_tape, .inl (cB, 940, .inl f_tape)), (h_h, .inl (cI, 104, .inl f_h)), (h_names, .inl (cJ, 36, .inr (.inl g24))), (h_reserved, .inl (cJ, 23, .inr (.inl f_reserved)))]) [3, 4, 0, 2, 1] rfl) (hD.sub (ws' := [(h0, .inr (10, vL 67 F26)), (h_tape, .inl (cB, 940, .inl f_tape)), (h_h, .inl (cI, 104, .inl f_h)), (h_names, .inl (cJ, 36, .inr (.inl g24))), (h_reserved, .inl (cJ, 23, .inr (.inl f_reserved)))]) [3, 4, 0, 2, 1] (by decide) rfl) dX10_fresh_65 rfl (Nat.le_of_ble_eq_true rfl) (Nat.le_of_ble_eq_true rfl) (Or.inl ⟨F26, y27, y28, y29, y30, y31, y32, g24, (SAME.tr SAME.rf t33 (by decide)), t34, t35, t36, t37, t38, t39, t40, t41, t42, t43, (by have zl1 : (1 : Int32).toInt = 1 := (by decide); omega), (by have zl1 : (1 : Int32).toInt = 1 := (by decide); omega), (by omega), rfl, rfl⟩)
      · have hP : va_P D vwCl [(h_tape, .inl (cB, 940, .inl f_tape)), (h_h, .inl (cI, 104, .inl f_h)), (h_reserved, .inl (cJ, 23, .inr (.inl f_reserved))), (h0, .inr (10, vL 67 Fh)), (h_names, .inl (cJ, 36, .inr (.inl f_names)))] H := hP
        have hD : va_D A [(h_tape, .inl (cB, 940, .inl f_tape)), (h_h, .inl (cI, 104, .inl f_h)), (h_reserved, .inl (cJ, 23, .inr (.inl f_reserved))), (h0, .inr (10, vL 67 Fh)), (h_names, .inl (cJ, 36, .inr (.inl f_names)))] := hD
        refine W.widen (k := 0) (n := 0) (Nat.le_of_ble_eq_true rfl) (Nat.le_of_ble_eq_true rfl) ?_
        have k48 : 1 ≤ v15.toInt ∧ v15.toInt ≤ 6 := ⟨lo_lt t21 (Int.le_refl _) (by decide), k16.2⟩
        refine lv_if_lt (tgt := 50) hx hb dX10_fresh_41 (by decide) (fun c49 => False.elim (bad_lt (lt_i (a := r17.toInt) (b := 0) rfl rfl c49) t20.1 (Int.le_refl _) (by decide))) (fun c49 => ?_)
        have dc49 : 0 ≤ r17.toInt := nlt_i (a := r17.toInt) (b := 0) rfl rfl c49
        refine lv_aload_n hx hb dX10_fresh_44 rfl (lv_at hl 0 rfl) ?_
        refine lv_iconst (v := 3) hx hb dX10_fresh_45 (by decide) ?_
        refine call_Vi (wr := [(h_tape, .inl (cB, 940, .inl f_tape)), (h_h, .inl (cI, 104, .inl f_h)), (h_reserved, .inl (cJ, 23, .inr (.inl f_reserved))), (h_names, .inl (cJ, 36, .inr (.inl f_names)))]) (As := [.int 3]) (rest := []) hx hb hml hown hw (m_X10_bad l D cI cJ cB cP cM cZ h0 Fh x_at 3 _ e_at) wV_X10_205_X10_bad dX10_fresh_46 hK hP hD hS hA [3] [0, 1, 2, 4] rfl rfl (by decide) (by decide) (by decide) 0 10 rfl rfl GG.fb hG.at hl.1 rfl (Nat.le_of_ble_eq_true rfl) ⟨(Nat.le_of_ble_eq_true rfl), (Nat.le_of_ble_eq_true rfl)⟩ ⟨(Nat.le_of_ble_eq_true rfl), (Nat.le_of_ble_eq_true rfl)⟩ (fun r50 u H locs hp hP hD hS => ?_)
        have zl3 : (3 : Int32).toInt = 3 := by decide
        obtain ⟨F51, t52, t53, t54, rfl, rfl⟩ := hp
        have hP : va_P D vwCl [(h_tape, .inl (cB, 940, .inl f_tape)), (h_h, .inl (cI, 104, .inl f_h)), (h_reserved, .inl (cJ, 23, .inr (.inl f_reserved))), (h_names, .inl (cJ, 36, .inr (.inl f_names))), (h0, .inr (10, vL 67 F51))] H := hP
        have hD : va_D A [(h_tape, .inl (cB, 940, .inl f_tape)), (h_h, .inl (cI, 104, .inl f_h)), (h_reserved, .inl (cJ, 23, .inr (.inl f_reserved))), (h_names, .inl (cJ, 36, .inr (.inl f_names))), (h0, .inr (10, vL 67 F51))] := hD
        refine W.widen (k := 0) (n := 0) (Nat.le_of_ble_eq_true rfl) (Nat.le_of_ble_eq_true rfl) ?_
        exact ret_i (v := 0) hx hb hr hlocks hS (hP.sub (ws' := [(h0, .inr (10, vL 67 F51)), (h_tape, .inl (cB, 940, .inl f_tape)), (h_h, .inl (cI, 104, .inl f_h)), (h_names, .inl (cJ, 36, .inr (.inl f_names))), (h_reserved, .inl (cJ, 23, .inr (.inl f_reserved)))]) [4, 0, 1, 3, 2] rfl) (hD.sub (ws' := [(h0, .inr (10, vL 67 F51)), (h_tape, .inl (cB, 940, .inl f_tape)), (h_h, .inl (cI, 104, .inl f_h)), (h_names, .inl (cJ, 36, .inr (.inl f_names))), (h_reserved, .inl (cJ, 23, .inr (.inl f_reserved)))]) [4, 0, 1, 3, 2] (by decide) rfl) dX10_fresh_49 rfl (Nat.le_of_ble_eq_true rfl) (Nat.le_of_ble_eq_true rfl) (Or.inr ⟨F51, 3, (SAME.tr SAME.rf t52 (by decide)), t53, (show 1 ≤ (3 : Int32).toInt ∧ (3 : Int32).toInt ≤ 3 by decide), t54, (by have zl3 : (3 : Int32).toInt = 3 := (by decide); omega), rfl, rfl⟩)
    · have hP : va_P D vwCl [(h_tape, .inl (cB, 940, .inl f_tape)), (h_h, .inl (cI, 104, .inl f_h)), (h_reserved, .inl (cJ, 23, .inr (.inl f_reserved))), (h0, .inr (10, vL 67 Fh)), (h_names, .inl (cJ, 36, .inr (.inl f_names)))] H := hP
      have hD : va_D A [(h_tape, .inl (cB, 940, .inl f_tape)), (h_h, .inl (cI, 104, .inl f_h)), (h_reserved, .inl (cJ, 23, .inr (.inl f_reserved))), (h0, .inr (10, vL 67 Fh)), (h_names, .inl (cJ, 36, .inr (.inl f_names)))] := hD
      refine W.widen (k := 0) (n := 0) (Nat.le_of_ble_eq_true rfl) (Nat.le_of_ble_eq_true rfl) ?_
      have k56 : 1 ≤ v6.toInt ∧ v6.toInt ≤ 12 := ⟨lo_lt t12 (Int.le_refl _) (by decide), k7.2⟩
      refine lv_if_ge (tgt := 44) hx hb dX10_fresh_25 (by decide) (fun c57 => ?_) (fun c57 => False.elim (bad_lt (nle_i (a := 0) (b := r8.toInt) rfl rfl c57) t11.1 (Int.le_refl _) (by decide)))
      have dc57 : 0 ≤ r8.toInt := le_i (a := 0) (b := r8.toInt) rfl rfl c57
      refine lv_aload_n hx hb dX10_fresh_44 rfl (lv_at hl 0 rfl) ?_
      refine lv_iconst (v := 3) hx hb dX10_fresh_45 (by decide) ?_
      refine call_Vi (wr := [(h_tape, .inl (cB, 940, .inl f_tape)), (h_h, .inl (cI, 104, .inl f_h)), (h_reserved, .inl (cJ, 23, .inr (.inl f_reserved))), (h_names, .inl (cJ, 36, .inr (.inl f_names)))]) (As := [.int 3]) (rest := []) hx hb hml hown hw (m_X10_bad l D cI cJ cB cP cM cZ h0 Fh x_at 3 _ e_at) wV_X10_205_X10_bad dX10_fresh_46 hK hP hD hS hA [3] [0, 1, 2, 4] rfl rfl (by decide) (by decide) (by decide) 0 10 rfl rfl GG.fb hG.at hl.1 rfl (Nat.le_of_ble_eq_true rfl) ⟨(Nat.le_of_ble_eq_true rfl), (Nat.le_of_ble_eq_true rfl)⟩ ⟨(Nat.le_of_ble_eq_true rfl), (Nat.le_of_ble_eq_true rfl)⟩ (fun r58 u H locs hp hP hD hS => ?_)
      have zl3 : (3 : Int32).toInt = 3 := by decide
      obtain ⟨F59, t60, t61, t62, rfl, rfl⟩ := hp
      have hP : va_P D vwCl [(h_tape, .inl (cB, 940, .inl f_tape)), (h_h, .inl (cI, 104, .inl f_h)), (h_reserved, .inl (cJ, 23, .inr (.inl f_reserved))), (h_names, .inl (cJ, 36, .inr (.inl f_names))), (h0, .inr (10, vL 67 F59))] H := hP
      have hD : va_D A [(h_tape, .inl (cB, 940, .inl f_tape)), (h_h, .inl (cI, 104, .inl f_h)), (h_reserved, .inl (cJ, 23, .inr (.inl f_reserved))), (h_names, .inl (cJ, 36, .inr (.inl f_names))), (h0, .inr (10, vL 67 F59))] := hD
      refine W.widen (k := 0) (n := 0) (Nat.le_of_ble_eq_true rfl) (Nat.le_of_ble_eq_true rfl) ?_
      exact ret_i (v := 0) hx hb hr hlocks hS (hP.sub (ws' := [(h0, .inr (10, vL 67 F59)), (h_tape, .inl (cB, 940, .inl f_tape)), (h_h, .inl (cI, 104, .inl f_h)), (h_names, .inl (cJ, 36, .inr (.inl f_names))), (h_reserved, .inl (cJ, 23, .inr (.inl f_reserved)))]) [4, 0, 1, 3, 2] rfl) (hD.sub (ws' := [(h0, .inr (10, vL 67 F59)), (h_tape, .inl (cB, 940, .inl f_tape)), (h_h, .inl (cI, 104, .inl f_h)), (h_names, .inl (cJ, 36, .inr (.inl f_names))), (h_reserved, .inl (cJ, 23, .inr (.inl f_reserved)))]) [4, 0, 1, 3, 2] (by decide) rfl) dX10_fresh_49 rfl (Nat.le_of_ble_eq_true rfl) (Nat.le_of_ble_eq_true rfl) (Or.inr ⟨F59, 3, (SAME.tr SAME.rf t60 (by decide)), t61, (show 1 ≤ (3 : Int32).toInt ∧ (3 : Int32).toInt ≤ 3 by decide), t62, (by have zl3 : (3 : Int32).toInt = 3 := (by decide); omega), rfl, rfl⟩)
  · have dc4 : r1.toInt = 0 := eq_i (a := r1.toInt) (b := 0) rfl rfl c4
    have k64 : 0 ≤ r1.toInt ∧ r1.toInt ≤ 0 := ⟨t2.1, Int.le_trans (Int.le_of_eq dc4) (Int.le_refl _)⟩
    refine lv_aload_n hx hb dX10_fresh_7 rfl (lv_at hl 0 rfl) ?_
    refine lv_iconst (v := 1) hx hb dX10_fresh_8 (by decide) ?_
    refine call_Vi (wr := [(h_tape, .inl (cB, 940, .inl f_tape)), (h_h, .inl (cI, 104, .inl f_h)), (h_names, .inl (cJ, 36, .inr (.inl f_names))), (h_reserved, .inl (cJ, 23, .inr (.inl f_reserved)))]) (As := [.int 1]) (rest := []) hx hb hml hown hw (m_X10_bad l D cI cJ cB cP cM cZ h0 Fh x_at 1 _ e_at) wV_X10_205_X10_bad dX10_fresh_9 hK hP hD hS hA [3] [0, 1, 2, 4] rfl rfl (by decide) (by decide) (by decide) 0 10 rfl rfl GG.fb hG.at hl.1 rfl (Nat.le_of_ble_eq_true rfl) ⟨(Nat.le_of_ble_eq_true rfl), (Nat.le_of_ble_eq_true rfl)⟩ ⟨(Nat.le_of_ble_eq_true rfl), (Nat.le_of_ble_eq_true rfl)⟩ (fun r65 u H locs hp hP hD hS => ?_)
    have zl1 : (1 : Int32).toInt = 1 := by decide
    obtain ⟨F66, t67, t68, t69, rfl, rfl⟩ := hp
    have hP : va_P D vwCl [(h_tape, .inl (cB, 940, .inl f_tape)), (h_h, .inl (cI, 104, .inl f_h)), (h_names, .inl (cJ, 36, .inr (.inl f_names))), (h_reserved, .inl (cJ, 23, .inr (.inl f_reserved))), (h0, .inr (10, vL 67 F66))] H := hP
    have hD : va_D A [(h_tape, .inl (cB, 940, .inl f_tape)), (h_h, .inl (cI, 104, .inl f_h)), (h_names, .inl (cJ, 36, .inr (.inl f_names))), (h_reserved, .inl (cJ, 23, .inr (.inl f_reserved))), (h0, .inr (10, vL 67 F66))] := hD
    refine W.widen (k := 0) (n := 0) (Nat.le_of_ble_eq_true rfl) (Nat.le_of_ble_eq_true rfl) ?_
    exact ret_i (v := 0) hx hb hr hlocks hS (hP.sub (ws' := [(h0, .inr (10, vL 67 F66)), (h_tape, .inl (cB, 940, .inl f_tape)), (h_h, .inl (cI, 104, .inl f_h)), (h_names, .inl (cJ, 36, .inr (.inl f_names))), (h_reserved, .inl (cJ, 23, .inr (.inl f_reserved)))]) [4, 0, 1, 2, 3] rfl) (hD.sub (ws' := [(h0, .inr (10, vL 67 F66)), (h_tape, .inl (cB, 940, .inl f_tape)), (h_h, .inl (cI, 104, .inl f_h)), (h_names, .inl (cJ, 36, .inr (.inl f_names))), (h_reserved, .inl (cJ, 23, .inr (.inl f_reserved)))]) [4, 0, 1, 2, 3] (by decide) rfl) dX10_fresh_12 rfl (Nat.le_of_ble_eq_true rfl) (Nat.le_of_ble_eq_true rfl) (Or.inr ⟨F66, 1, (SAME.tr SAME.rf t67 (by decide)), t68, (show 1 ≤ (1 : Int32).toInt ∧ (1 : Int32).toInt ≤ 3 by decide), t69, (by have zl1 : (1 : Int32).toInt = 1 := (by decide); omega), rfl, rfl⟩)
set_option maxHeartbeats 4000000 in
set_option maxRecDepth 100000 in
theorem m_X10_onceOf (l : Launch) (D : va_G) (cI cJ cB cP cM cZ : ClassId) (h0 : Nat) (Fh : Nat → Value) (x_token : Int32) (x_number : Int32) (x_word : Int64) (sz : Nat) (e_token : Fh 11 = .int x_token) (i_x_token : IR 0 4 x_token) (e_number : Fh 14 = .int x_number) (e_word : Fh 18 = .long x_word) (o_0 : (x_token.toInt = 2 → 0 ≤ x_number.toInt ∧ x_number.toInt ≤ 999)) : CI l yX10_onceOf cX10_onceOf 1 (some .int) { frames := 1, cells := 0, slots := 0, locals := 22 } (GG D cI cJ cB cP cM cZ) D [(h0, .inr (10, vL 67 Fh))] sz [.ref h0] (fun (r : Int32) (u : va_W) => IR (-1) 4 r ∧ u = [(h0, .inr (10, vL 67 Fh))]) := by
  refine CI_mk (by decide) (Nat.le_of_ble_eq_true rfl) ?_
  intro p e s m below meth c A ls E hAe hG hsz hP hD hA hS hl
  obtain ⟨hx, hb, hr, hw, hown, hlocks, hml, hnm⟩ := E
  have hK := hG.1
  have i_x_token : 0 ≤ x_token.toInt ∧ x_token.toInt ≤ 4 := i_x_token
  have hl : lv_has ls 1 [(0, .ref h0)] := hl
  refine lv_aload_n hx hb dX10_onceOf_0 rfl (lv_at hl 0 rfl) ?_
  refine lv_ldc2 hx hb hown (hw _ q_1234) dX10_onceOf_1 ?_
  refine call_Vi (wr := []) (As := [.long 521325929587]) (rest := []) hx hb hml hown hw (m_X10_isWord l D cI cJ cB cP cM cZ h0 Fh x_token x_number x_word 521325929587 _ e_token i_x_token e_number e_word (by omega)) wV_X10_225_X10_isWord dX10_onceOf_4 hK hP hD hS hA [0] [] rfl rfl (by decide) (by decide) (by decide) 0 10 rfl rfl GG.fb hG.at hl.1 rfl (Nat.le_of_ble_eq_true rfl) ⟨(Nat.le_of_ble_eq_true rfl), (Nat.le_of_ble_eq_true rfl)⟩ ⟨(Nat.le_of_ble_eq_true rfl), (Nat.le_of_ble_eq_true rfl)⟩ (fun r1 u H locs hp hP hD hS => ?_)
  obtain ⟨t2, t3, rfl⟩ := hp
  have hP : va_P D vwCl [(h0, .inr (10, vL 67 Fh))] H := hP
  have hD : va_D A [(h0, .inr (10, vL 67 Fh))] := hD
  refine W.widen (k := 0) (n := 0) (Nat.le_of_ble_eq_true rfl) (Nat.le_of_ble_eq_true rfl) ?_
  refine lv_if_eq (tgt := 14) hx hb dX10_onceOf_7 (by decide) (fun c5 => ?_) (fun c5 => ?_)
  · have dc5 : r1.toInt = 0 := eq_i (a := r1.toInt) (b := 0) rfl rfl c5
    have k6 : 0 ≤ r1.toInt ∧ r1.toInt ≤ 0 := ⟨t2.1, Int.le_trans (Int.le_of_eq dc5) (Int.le_refl _)⟩
    refine lv_aload_n hx hb dX10_onceOf_14 rfl (lv_at hl 0 rfl) ?_
    refine lv_ldc2 hx hb hown (hw _ q_1235) dX10_onceOf_15 ?_
    refine call_Vi (wr := []) (As := [.long 126909394741093]) (rest := []) hx hb hml hown hw (m_X10_isWord l D cI cJ cB cP cM cZ h0 Fh x_token x_number x_word 126909394741093 _ e_token i_x_token e_number e_word (by omega)) wV_X10_225_X10_isWord dX10_onceOf_18 hK hP hD hS hA [0] [] rfl rfl (by decide) (by decide) (by decide) 0 10 rfl rfl GG.fb hG.at hl.1 rfl (Nat.le_of_ble_eq_true rfl) ⟨(Nat.le_of_ble_eq_true rfl), (Nat.le_of_ble_eq_true rfl)⟩ ⟨(Nat.le_of_ble_eq_true rfl), (Nat.le_of_ble_eq_true rfl)⟩ (fun r7 u H locs hp hP hD hS => ?_)
    obtain ⟨t8, t9, rfl⟩ := hp
    have hP : va_P D vwCl [(h0, .inr (10, vL 67 Fh))] H := hP
    have hD : va_D A [(h0, .inr (10, vL 67 Fh))] := hD
    refine W.widen (k := 0) (n := 0) (Nat.le_of_ble_eq_true rfl) (Nat.le_of_ble_eq_true rfl) ?_
    refine lv_if_eq (tgt := 28) hx hb dX10_onceOf_21 (by decide) (fun c11 => ?_) (fun c11 => ?_)
    · have dc11 : r7.toInt = 0 := eq_i (a := r7.toInt) (b := 0) rfl rfl c11
      have k12 : 0 ≤ r7.toInt ∧ r7.toInt ≤ 0 := ⟨t8.1, Int.le_trans (Int.le_of_eq dc11) (Int.le_refl _)⟩
      refine lv_aload_n hx hb dX10_onceOf_28 rfl (lv_at hl 0 rfl) ?_
      refine lv_ldc2 hx hb hown (hw _ q_1236) dX10_onceOf_29 ?_
      refine call_Vi (wr := []) (As := [.long 1836020596]) (rest := []) hx hb hml hown hw (m_X10_isWord l D cI cJ cB cP cM cZ h0 Fh x_token x_number x_word 1836020596 _ e_token i_x_token e_number e_word (by omega)) wV_X10_225_X10_isWord dX10_onceOf_32 hK hP hD hS hA [0] [] rfl rfl (by decide) (by decide) (by decide) 0 10 rfl rfl GG.fb hG.at hl.1 rfl (Nat.le_of_ble_eq_true rfl) ⟨(Nat.le_of_ble_eq_true rfl), (Nat.le_of_ble_eq_true rfl)⟩ ⟨(Nat.le_of_ble_eq_true rfl), (Nat.le_of_ble_eq_true rfl)⟩ (fun r13 u H locs hp hP hD hS => ?_)
      have zl1836020596 : (1836020596 : Int32).toInt = 1836020596 := by decide
      obtain ⟨t14, t15, rfl⟩ := hp
      have hP : va_P D vwCl [(h0, .inr (10, vL 67 Fh))] H := hP
      have hD : va_D A [(h0, .inr (10, vL 67 Fh))] := hD
      refine W.widen (k := 0) (n := 0) (Nat.le_of_ble_eq_true rfl) (Nat.le_of_ble_eq_true rfl) ?_
      refine lv_if_eq (tgt := 42) hx hb dX10_onceOf_35 (by decide) (fun c17 => ?_) (fun c17 => ?_)
      · have dc17 : r13.toInt = 0 := eq_i (a := r13.toInt) (b := 0) rfl rfl c17
        have k18 : 0 ≤ r13.toInt ∧ r13.toInt ≤ 0 := ⟨t14.1, Int.le_trans (Int.le_of_eq dc17) (Int.le_refl _)⟩
        refine lv_aload_n hx hb dX10_onceOf_42 rfl (lv_at hl 0 rfl) ?_
        refine lv_ldc2 hx hb hown (hw _ q_1237) dX10_onceOf_43 ?_
        refine call_Vi (wr := []) (As := [.long 6906725]) (rest := []) hx hb hml hown hw (m_X10_isWord l D cI cJ cB cP cM cZ h0 Fh x_token x_number x_word 6906725 _ e_token i_x_token e_number e_word (by omega)) wV_X10_225_X10_isWord dX10_onceOf_46 hK hP hD hS hA [0] [] rfl rfl (by decide) (by decide) (by decide) 0 10 rfl rfl GG.fb hG.at hl.1 rfl (Nat.le_of_ble_eq_true rfl) ⟨(Nat.le_of_ble_eq_true rfl), (Nat.le_of_ble_eq_true rfl)⟩ ⟨(Nat.le_of_ble_eq_true rfl), (Nat.le_of_ble_eq_true rfl)⟩ (fun r19 u H locs hp hP hD hS => ?_)
        have zl6906725 : (6906725 : Int32).toInt = 6906725 := by decide
        obtain ⟨t20, t21, rfl⟩ := hp
        have hP : va_P D vwCl [(h0, .inr (10, vL 67 Fh))] H := hP
        have hD : va_D A [(h0, .inr (10, vL 67 Fh))] := hD
        refine W.widen (k := 0) (n := 0) (Nat.le_of_ble_eq_true rfl) (Nat.le_of_ble_eq_true rfl) ?_
        refine lv_if_eq (tgt := 56) hx hb dX10_onceOf_49 (by decide) (fun c23 => ?_) (fun c23 => ?_)
        · have dc23 : r19.toInt = 0 := eq_i (a := r19.toInt) (b := 0) rfl rfl c23
          have k24 : 0 ≤ r19.toInt ∧ r19.toInt ≤ 0 := ⟨t20.1, Int.le_trans (Int.le_of_eq dc23) (Int.le_refl _)⟩
          refine lv_aload_n hx hb dX10_onceOf_56 rfl (lv_at hl 0 rfl) ?_
          refine lv_ldc2 hx hb hown (hw _ q_1238) dX10_onceOf_57 ?_
          refine call_Vi (wr := []) (As := [.long 2002874989]) (rest := []) hx hb hml hown hw (m_X10_isWord l D cI cJ cB cP cM cZ h0 Fh x_token x_number x_word 2002874989 _ e_token i_x_token e_number e_word (by omega)) wV_X10_225_X10_isWord dX10_onceOf_60 hK hP hD hS hA [0] [] rfl rfl (by decide) (by decide) (by decide) 0 10 rfl rfl GG.fb hG.at hl.1 rfl (Nat.le_of_ble_eq_true rfl) ⟨(Nat.le_of_ble_eq_true rfl), (Nat.le_of_ble_eq_true rfl)⟩ ⟨(Nat.le_of_ble_eq_true rfl), (Nat.le_of_ble_eq_true rfl)⟩ (fun r25 u H locs hp hP hD hS => ?_)
          have zl2002874989 : (2002874989 : Int32).toInt = 2002874989 := by decide
          obtain ⟨t26, t27, rfl⟩ := hp
          have hP : va_P D vwCl [(h0, .inr (10, vL 67 Fh))] H := hP
          have hD : va_D A [(h0, .inr (10, vL 67 Fh))] := hD
          refine W.widen (k := 0) (n := 0) (Nat.le_of_ble_eq_true rfl) (Nat.le_of_ble_eq_true rfl) ?_
          refine lv_if_eq (tgt := 70) hx hb dX10_onceOf_63 (by decide) (fun c29 => ?_) (fun c29 => ?_)
          · have dc29 : r25.toInt = 0 := eq_i (a := r25.toInt) (b := 0) rfl rfl c29
            have k30 : 0 ≤ r25.toInt ∧ r25.toInt ≤ 0 := ⟨t26.1, Int.le_trans (Int.le_of_eq dc29) (Int.le_refl _)⟩
            refine lv_iconst (v := (-1)) hx hb dX10_onceOf_70 (by decide) ?_
            exact ret_i (v := (-1)) hx hb hr hlocks hS hP hD dX10_onceOf_71 rfl (Nat.le_of_ble_eq_true rfl) (Nat.le_of_ble_eq_true rfl) ⟨(show (-1) ≤ ((-1) : Int32).toInt ∧ ((-1) : Int32).toInt ≤ 4 by decide), rfl⟩
          · have dc29 : r25.toInt ≠ 0 := ne_i (a := r25.toInt) (b := 0) rfl rfl c29
            have k31 : 1 ≤ r25.toInt ∧ r25.toInt ≤ 1 := ⟨ne_lo dc29 t26.1 ⟨Int.le_refl _, Int.le_refl _⟩ (by decide), t26.2⟩
            refine lv_iconst (v := 4) hx hb dX10_onceOf_66 (by decide) ?_
            refine lv_goto (tgt := 71) hx hb dX10_onceOf_67 (by decide) ?_
            exact ret_i (v := 4) hx hb hr hlocks hS hP hD dX10_onceOf_71 rfl (Nat.le_of_ble_eq_true rfl) (Nat.le_of_ble_eq_true rfl) ⟨(show (-1) ≤ (4 : Int32).toInt ∧ (4 : Int32).toInt ≤ 4 by decide), rfl⟩
        · have dc23 : r19.toInt ≠ 0 := ne_i (a := r19.toInt) (b := 0) rfl rfl c23
          have k32 : 1 ≤ r19.toInt ∧ r19.toInt ≤ 1 := ⟨ne_lo dc23 t20.1 ⟨Int.le_refl _, Int.le_refl _⟩ (by decide), t20.2⟩
          refine lv_iconst (v := 3) hx hb dX10_onceOf_52 (by decide) ?_
          refine lv_goto (tgt := 71) hx hb dX10_onceOf_53 (by decide) ?_
          exact ret_i (v := 3) hx hb hr hlocks hS hP hD dX10_onceOf_71 rfl (Nat.le_of_ble_eq_true rfl) (Nat.le_of_ble_eq_true rfl) ⟨(show (-1) ≤ (3 : Int32).toInt ∧ (3 : Int32).toInt ≤ 4 by decide), rfl⟩
      · have dc17 : r13.toInt ≠ 0 := ne_i (a := r13.toInt) (b := 0) rfl rfl c17
        have k33 : 1 ≤ r13.toInt ∧ r13.toInt ≤ 1 := ⟨ne_lo dc17 t14.1 ⟨Int.le_refl _, Int.le_refl _⟩ (by decide), t14.2⟩
        refine lv_iconst (v := 2) hx hb dX10_onceOf_38 (by decide) ?_
        refine lv_goto (tgt := 71) hx hb dX10_onceOf_39 (by decide) ?_
        exact ret_i (v := 2) hx hb hr hlocks hS hP hD dX10_onceOf_71 rfl (Nat.le_of_ble_eq_true rfl) (Nat.le_of_ble_eq_true rfl) ⟨(show (-1) ≤ (2 : Int32).toInt ∧ (2 : Int32).toInt ≤ 4 by decide), rfl⟩
    · have dc11 : r7.toInt ≠ 0 := ne_i (a := r7.toInt) (b := 0) rfl rfl c11
      have k34 : 1 ≤ r7.toInt ∧ r7.toInt ≤ 1 := ⟨ne_lo dc11 t8.1 ⟨Int.le_refl _, Int.le_refl _⟩ (by decide), t8.2⟩
      refine lv_iconst (v := 1) hx hb dX10_onceOf_24 (by decide) ?_
      refine lv_goto (tgt := 71) hx hb dX10_onceOf_25 (by decide) ?_
      exact ret_i (v := 1) hx hb hr hlocks hS hP hD dX10_onceOf_71 rfl (Nat.le_of_ble_eq_true rfl) (Nat.le_of_ble_eq_true rfl) ⟨(show (-1) ≤ (1 : Int32).toInt ∧ (1 : Int32).toInt ≤ 4 by decide), rfl⟩
  · have dc5 : r1.toInt ≠ 0 := ne_i (a := r1.toInt) (b := 0) rfl rfl c5
    have k35 : 1 ≤ r1.toInt ∧ r1.toInt ≤ 1 := ⟨ne_lo dc5 t2.1 ⟨Int.le_refl _, Int.le_refl _⟩ (by decide), t2.2⟩
    refine lv_iconst (v := 0) hx hb dX10_onceOf_10 (by decide) ?_
    refine lv_goto (tgt := 71) hx hb dX10_onceOf_11 (by decide) ?_
    exact ret_i (v := 0) hx hb hr hlocks hS hP hD dX10_onceOf_71 rfl (Nat.le_of_ble_eq_true rfl) (Nat.le_of_ble_eq_true rfl) ⟨(show (-1) ≤ (0 : Int32).toInt ∧ (0 : Int32).toInt ≤ 4 by decide), rfl⟩
set_option maxHeartbeats 4000000 in
set_option maxRecDepth 100000 in
theorem m_X10_isOnce (l : Launch) (D : va_G) (cI cJ cB cP cM cZ : ClassId) (h0 : Nat) (h_tape : Nat) (Fh : Nat → Value) (x_size : Int32) (x_p : Int32) (x_limit : Int32) (x_token : Int32) (x_at : Int32) (x_number : Int32) (x_word : Int64) (x_onces : Int32) (f_tape : Nat → Int32) (p0 : Int32) (sz : Nat) (e_tape : Fh 1 = .ref h_tape) (e_size : Fh 3 = .int x_size) (i_x_size : IR 0 940 x_size) (e_p : Fh 4 = .int x_p) (i_x_p : IR 0 940 x_p) (e_limit : Fh 5 = .int x_limit) (i_x_limit : IR 200 940 x_limit) (e_token : Fh 11 = .int x_token) (i_x_token : IR 0 4 x_token) (e_at : Fh 12 = .int x_at) (e_number : Fh 14 = .int x_number) (e_word : Fh 18 = .long x_word) (e_onces : Fh 21 = .int x_onces) (o_0 : (x_token.toInt = 2 → 0 ≤ x_number.toInt ∧ x_number.toInt ≤ 999)) : CI l yX10_isOnce cX10_isOnce 2 (some .boolean) { frames := 2, cells := 0, slots := 0, locals := 43 } (GG D cI cJ cB cP cM cZ) D [(h0, .inr (10, vL 67 Fh)), (h_tape, .inl (cB, 940, .inl f_tape))] sz [.ref h0, .int p0] (fun (r : Int32) (u : va_W) => (∃ (Gh : Nat → Value) (y_p : Int32) (y_token : Int32) (y_at : Int32) (y_span : Int32) (y_number : Int32) (y_word : Int64) (y_onces : Int32), SAME [4, 11, 12, 13, 14, 18, 21] Fh Gh ∧ Gh 4 = .int y_p ∧ IR 0 940 y_p ∧ Gh 11 = .int y_token ∧ IR 0 4 y_token ∧ Gh 12 = .int y_at ∧ IR 0 940 y_at ∧ Gh 13 = .int y_span ∧ IR 0 940 y_span ∧ Gh 14 = .int y_number ∧ Gh 18 = .long y_word ∧ Gh 21 = .int y_onces ∧ (x_p.toInt ≤ y_p.toInt) ∧ ((1 ≤ y_token.toInt → y_token.toInt ≤ 3 → x_p.toInt < y_p.toInt)) ∧ ((y_token.toInt = 2 → 0 ≤ y_number.toInt ∧ y_number.toInt ≤ 999)) ∧ r = 1 ∧ u = [(h0, .inr (10, vL 67 Gh)), (h_tape, .inl (cB, 940, .inl f_tape))]) ∨ (∃ (Gh : Nat → Value), SAME [15, 16] Fh Gh ∧ Gh 15 = .int 3 ∧ Gh 16 = .int x_at ∧ ((x_token.toInt = 2 → 0 ≤ x_number.toInt ∧ x_number.toInt ≤ 999)) ∧ r = 0 ∧ u = [(h0, .inr (10, vL 67 Gh)), (h_tape, .inl (cB, 940, .inl f_tape))])) := by
  refine CI_mk (by decide) (Nat.le_of_ble_eq_true rfl) ?_
  intro p e s m below meth c A ls E hAe hG hsz hP hD hA hS hl
  obtain ⟨hx, hb, hr, hw, hown, hlocks, hml, hnm⟩ := E
  have hK := hG.1
  have i_x_size : 0 ≤ x_size.toInt ∧ x_size.toInt ≤ 940 := i_x_size
  have i_x_p : 0 ≤ x_p.toInt ∧ x_p.toInt ≤ 940 := i_x_p
  have i_x_limit : 200 ≤ x_limit.toInt ∧ x_limit.toInt ≤ 940 := i_x_limit
  have i_x_token : 0 ≤ x_token.toInt ∧ x_token.toInt ≤ 4 := i_x_token
  have hl : lv_has ls 2 [(0, .ref h0), (1, .int p0)] := hl
  refine lv_aload_n hx hb dX10_isOnce_0 rfl (lv_at hl 0 rfl) ?_
  refine get_f (D := D) (ci := 10) (v := .int x_onces) (C := RX10) (T := TX10) (N := 67) hx hb hw inAX10 hown hK hP 0 rfl rfl 21 (by decide) (hw _ q_1282) (fun _ h9 => h9) e_onces dX10_isOnce_1 ?_
  refine lv_iload_n hx hb dX10_isOnce_4 rfl (lv_at hl 1 rfl) ?_
  refine call_Si (wr := [(h0, .inr (10, vL 67 Fh)), (h_tape, .inl (cB, 940, .inl f_tape))]) (As := [.int x_onces, .int p0]) (rest := []) hx hb hml hown hw (m_X10_bitOf l D cI cJ cB cP cM cZ x_onces p0 _ ) wS_X10_232_X10_bitOf dX10_isOnce_5 hP hD hS hA [] [0, 1] rfl rfl (by decide) (by decide) (by decide) GG.fb hG.at hl.1 rfl (Nat.le_of_ble_eq_true rfl) ⟨(Nat.le_of_ble_eq_true rfl), (Nat.le_of_ble_eq_true rfl)⟩ ⟨(Nat.le_of_ble_eq_true rfl), (Nat.le_of_ble_eq_true rfl)⟩ (fun r1 u H locs hp hP hD hS => ?_)
  rcases hp with ⟨rfl, rfl⟩ | ⟨rfl, rfl⟩
  · have hP : va_P D vwCl [(h0, .inr (10, vL 67 Fh)), (h_tape, .inl (cB, 940, .inl f_tape))] H := hP
    have hD : va_D A [(h0, .inr (10, vL 67 Fh)), (h_tape, .inl (cB, 940, .inl f_tape))] := hD
    refine W.widen (k := 0) (n := 0) (Nat.le_of_ble_eq_true rfl) (Nat.le_of_ble_eq_true rfl) ?_
    refine lv_if_eq (tgt := 17) hx hb dX10_isOnce_8 (by decide) (fun _ => ?_) (fun g => absurd (by decide) g)
    refine lv_aload_n hx hb dX10_isOnce_17 rfl (lv_at hl 0 rfl) ?_
    refine lv_dup hx hb dX10_isOnce_18 rfl ?_
    refine get_f (D := D) (ci := 10) (v := .int x_onces) (C := RX10) (T := TX10) (N := 67) hx hb hw inAX10 hown hK hP 0 rfl rfl 21 (by decide) (hw _ q_1282) (fun _ h9 => h9) e_onces dX10_isOnce_19 ?_
    refine lv_iconst (v := 1) hx hb dX10_isOnce_22 (by decide) ?_
    refine lv_iload_n hx hb dX10_isOnce_23 rfl (lv_at hl 1 rfl) ?_
    refine lv_ishl hx hb dX10_isOnce_24 ?_
    refine lv_topi (fun v3 ev3 => ?_)
    refine lv_ior hx hb dX10_isOnce_25 ?_
    refine lv_topi (fun v4 ev4 => ?_)
    refine put_f (D := D) (ci := 10) (v := .int v4) (ty := .int) (C := RX10) (T := TX10) (N := 67) hx hb hw inAX10 tyX10 tyX10_ok nmX10 hown hK hP hD hS 0 rfl rfl 21 (by decide) (hw _ q_1282) (fun _ h9 => h9) rfl (by decide +kernel) rfl rfl dX10_isOnce_26 (fun H locs F5 eF5 hP hD hS => ?_)
    have hP : va_P D vwCl [(h0, .inr (10, vL 67 F5)), (h_tape, .inl (cB, 940, .inl f_tape))] H := hP
    have hD : va_D A [(h0, .inr (10, vL 67 F5)), (h_tape, .inl (cB, 940, .inl f_tape))] := hD
    refine lv_aload_n hx hb dX10_isOnce_29 rfl (lv_at hl 0 rfl) ?_
    have n6 : F5 1 = .ref h_tape := (get_ne eF5 (by decide) e_tape)
    have n7 : F5 3 = .int x_size := (get_ne eF5 (by decide) e_size)
    have n8 : F5 4 = .int x_p := (get_ne eF5 (by decide) e_p)
    have n9 : F5 5 = .int x_limit := (get_ne eF5 (by decide) e_limit)
    have n10 : F5 11 = .int x_token := (get_ne eF5 (by decide) e_token)
    have n11 : F5 14 = .int x_number := (get_ne eF5 (by decide) e_number)
    have n12 : F5 18 = .long x_word := (get_ne eF5 (by decide) e_word)
    refine call_Vv (wr := []) (As := []) (rest := []) hx hb hml hown hw (m_X10_next l D cI cJ cB cP cM cZ h0 h_tape F5 x_size x_p x_limit x_token x_number x_word f_tape _ n6 n7 i_x_size n8 i_x_p n9 i_x_limit n10 i_x_token n11 n12 (by omega)) wV_X10_208_X10_next dX10_isOnce_30 hK hP hD hS hA [0, 1] [] rfl rfl (by decide) (by decide) (by decide) 0 10 rfl rfl GG.fb hG.at hl.1 rfl (Nat.le_of_ble_eq_true rfl) ⟨(Nat.le_of_ble_eq_true rfl), (Nat.le_of_ble_eq_true rfl)⟩ ⟨(Nat.le_of_ble_eq_true rfl), (Nat.le_of_ble_eq_true rfl)⟩ (fun u H locs hp hP hD hS => ?_)
    obtain ⟨F14, y15, y16, y17, y18, y19, y20, t21, t22, t23, t24, t25, t26, t27, t28, t29, t30, t31, t32, t33, t34, rfl⟩ := hp
    have hP : va_P D vwCl [(h0, .inr (10, vL 67 F14)), (h_tape, .inl (cB, 940, .inl f_tape))] H := hP
    have hD : va_D A [(h0, .inr (10, vL 67 F14)), (h_tape, .inl (cB, 940, .inl f_tape))] := hD
    refine W.widen (k := 0) (n := 0) (Nat.le_of_ble_eq_true rfl) (Nat.le_of_ble_eq_true rfl) ?_
    refine lv_iconst (v := 1) hx hb dX10_isOnce_33 (by decide) ?_
    exact ret_i (v := 1) hx hb hr hlocks hS hP hD dX10_isOnce_34 rfl (Nat.le_of_ble_eq_true rfl) (Nat.le_of_ble_eq_true rfl) (Or.inl ⟨F14, y15, y16, y17, y18, y19, y20, v4, (SAME.tr (SAME.up eF5 SAME.rf (by decide)) t21 (by decide)), t22, t23, t24, t25, t26, t27, t28, t29, t30, t31, (SAME.at t21 (by decide) (get_eq eF5)), (by have zl1 : (1 : Int32).toInt = 1 := (by decide); omega), (by have zl1 : (1 : Int32).toInt = 1 := (by decide); omega), (by omega), rfl, rfl⟩)
  · have hP : va_P D vwCl [(h0, .inr (10, vL 67 Fh)), (h_tape, .inl (cB, 940, .inl f_tape))] H := hP
    have hD : va_D A [(h0, .inr (10, vL 67 Fh)), (h_tape, .inl (cB, 940, .inl f_tape))] := hD
    refine W.widen (k := 0) (n := 0) (Nat.le_of_ble_eq_true rfl) (Nat.le_of_ble_eq_true rfl) ?_
    refine lv_if_eq (tgt := 17) hx hb dX10_isOnce_8 (by decide) (fun g => absurd g (by decide)) (fun _ => ?_)
    refine lv_aload_n hx hb dX10_isOnce_11 rfl (lv_at hl 0 rfl) ?_
    refine lv_iconst (v := 3) hx hb dX10_isOnce_12 (by decide) ?_
    refine call_Vi (wr := [(h_tape, .inl (cB, 940, .inl f_tape))]) (As := [.int 3]) (rest := []) hx hb hml hown hw (m_X10_bad l D cI cJ cB cP cM cZ h0 Fh x_at 3 _ e_at) wV_X10_205_X10_bad dX10_isOnce_13 hK hP hD hS hA [0] [1] rfl rfl (by decide) (by decide) (by decide) 0 10 rfl rfl GG.fb hG.at hl.1 rfl (Nat.le_of_ble_eq_true rfl) ⟨(Nat.le_of_ble_eq_true rfl), (Nat.le_of_ble_eq_true rfl)⟩ ⟨(Nat.le_of_ble_eq_true rfl), (Nat.le_of_ble_eq_true rfl)⟩ (fun r36 u H locs hp hP hD hS => ?_)
    have zl3 : (3 : Int32).toInt = 3 := by decide
    obtain ⟨F37, t38, t39, t40, rfl, rfl⟩ := hp
    have hP : va_P D vwCl [(h_tape, .inl (cB, 940, .inl f_tape)), (h0, .inr (10, vL 67 F37))] H := hP
    have hD : va_D A [(h_tape, .inl (cB, 940, .inl f_tape)), (h0, .inr (10, vL 67 F37))] := hD
    refine W.widen (k := 0) (n := 0) (Nat.le_of_ble_eq_true rfl) (Nat.le_of_ble_eq_true rfl) ?_
    exact ret_i (v := 0) hx hb hr hlocks hS (hP.sub (ws' := [(h0, .inr (10, vL 67 F37)), (h_tape, .inl (cB, 940, .inl f_tape))]) [1, 0] rfl) (hD.sub (ws' := [(h0, .inr (10, vL 67 F37)), (h_tape, .inl (cB, 940, .inl f_tape))]) [1, 0] (by decide) rfl) dX10_isOnce_16 rfl (Nat.le_of_ble_eq_true rfl) (Nat.le_of_ble_eq_true rfl) (Or.inr ⟨F37, (SAME.tr SAME.rf t38 (by decide)), t39, t40, (by omega), rfl, rfl⟩)
set_option maxHeartbeats 4000000 in
set_option maxRecDepth 100000 in
theorem m_X10_line0 (l : Launch) (D : va_G) (cI cJ cB cP cM cZ : ClassId) (h0 : Nat) (h_tape : Nat) (h_h : Nat) (h_names : Nat) (h_reserved : Nat) (Fh : Nat → Value) (x_size : Int32) (x_p : Int32) (x_limit : Int32) (x_token : Int32) (x_at : Int32) (x_span : Int32) (x_number : Int32) (x_word : Int64) (x_got : Int32) (x_onces : Int32) (f_tape : Nat → Int32) (f_h : Nat → Int32) (f_names : Nat → Int64) (f_reserved : Nat → Int64) (sz : Nat) (e_tape : Fh 1 = .ref h_tape) (e_size : Fh 3 = .int x_size) (i_x_size : IR 0 940 x_size) (e_p : Fh 4 = .int x_p) (i_x_p : IR 0 940 x_p) (e_limit : Fh 5 = .int x_limit) (i_x_limit : IR 200 940 x_limit) (e_h : Fh 7 = .ref h_h) (e_names : Fh 9 = .ref h_names) (e_reserved : Fh 10 = .ref h_reserved) (e_token : Fh 11 = .int x_token) (i_x_token : IR 0 4 x_token) (e_at : Fh 12 = .int x_at) (e_span : Fh 13 = .int x_span) (e_number : Fh 14 = .int x_number) (e_word : Fh 18 = .long x_word) (e_got : Fh 19 = .int x_got) (e_onces : Fh 21 = .int x_onces) (s_h_0 : SG 0 0 0 40 f_h) (s_h_44 : SG 44 55 0 9 f_h) (s_h_5 : SG 5 5 0 12 f_h) (s_h_6 : SG 6 6 0 12 f_h) (s_h_7 : SG 7 7 0 6 f_h) (o_0 : (x_token.toInt = 2 → 0 ≤ x_number.toInt ∧ x_number.toInt ≤ 999)) : CI l yX10_line0 cX10_line0 3 (some .boolean) { frames := 3, cells := 0, slots := 0, locals := 65 } (GG D cI cJ cB cP cM cZ) D [(h0, .inr (10, vL 67 Fh)), (h_tape, .inl (cB, 940, .inl f_tape)), (h_h, .inl (cI, 104, .inl f_h)), (h_names, .inl (cJ, 36, .inr (.inl f_names))), (h_reserved, .inl (cJ, 23, .inr (.inl f_reserved)))] sz [.ref h0] (fun (r : Int32) (u : va_W) => (∃ (Gh : Nat → Value) (y_p : Int32) (y_token : Int32) (y_at : Int32) (y_span : Int32) (y_number : Int32) (y_fault : Int32) (y_faultAt : Int32) (y_word : Int64) (y_got : Int32) (y_onces : Int32) (g_h : Nat → Int32) (g_names : Nat → Int64), SAME [4, 11, 12, 13, 14, 15, 16, 18, 19, 21] Fh Gh ∧ Gh 4 = .int y_p ∧ IR 0 940 y_p ∧ Gh 11 = .int y_token ∧ IR 0 4 y_token ∧ Gh 12 = .int y_at ∧ Gh 13 = .int y_span ∧ Gh 14 = .int y_number ∧ Gh 15 = .int y_fault ∧ IR 1 4 y_fault ∧ Gh 16 = .int y_faultAt ∧ Gh 18 = .long y_word ∧ Gh 19 = .int y_got ∧ Gh 21 = .int y_onces ∧ SG 0 0 0 40 g_h ∧ SG 5 5 0 12 g_h ∧ SG 6 6 0 12 g_h ∧ SG 7 7 0 6 g_h ∧ SG 44 55 0 9 g_h ∧ ((y_token.toInt = 2 → 0 ≤ y_number.toInt ∧ y_number.toInt ≤ 999)) ∧ r = 0 ∧ u = [(h0, .inr (10, vL 67 Gh)), (h_tape, .inl (cB, 940, .inl f_tape)), (h_h, .inl (cI, 104, .inl g_h)), (h_names, .inl (cJ, 36, .inr (.inl g_names))), (h_reserved, .inl (cJ, 23, .inr (.inl f_reserved)))]) ∨ (∃ (Gh : Nat → Value) (y_p : Int32) (y_token : Int32) (y_at : Int32) (y_span : Int32) (y_number : Int32) (y_word : Int64) (y_got : Int32) (y_onces : Int32) (g_h : Nat → Int32) (g_names : Nat → Int64), SAME [4, 11, 12, 13, 14, 18, 19, 21] Fh Gh ∧ Gh 4 = .int y_p ∧ IR 0 940 y_p ∧ Gh 11 = .int y_token ∧ IR 0 4 y_token ∧ Gh 12 = .int y_at ∧ IR 0 940 y_at ∧ Gh 13 = .int y_span ∧ IR 0 940 y_span ∧ Gh 14 = .int y_number ∧ Gh 18 = .long y_word ∧ Gh 19 = .int y_got ∧ Gh 21 = .int y_onces ∧ SG 0 0 0 40 g_h ∧ SG 5 5 0 12 g_h ∧ SG 6 6 0 12 g_h ∧ SG 7 7 0 6 g_h ∧ SG 44 55 0 9 g_h ∧ (x_p.toInt ≤ y_p.toInt) ∧ ((1 ≤ y_token.toInt → y_token.toInt ≤ 3 → x_p.toInt < y_p.toInt)) ∧ ((y_token.toInt = 2 → 0 ≤ y_number.toInt ∧ y_number.toInt ≤ 999)) ∧ r = 1 ∧ u = [(h0, .inr (10, vL 67 Gh)), (h_tape, .inl (cB, 940, .inl f_tape)), (h_h, .inl (cI, 104, .inl g_h)), (h_names, .inl (cJ, 36, .inr (.inl g_names))), (h_reserved, .inl (cJ, 23, .inr (.inl f_reserved)))])) := by
  refine CI_mk (by decide) (Nat.le_of_ble_eq_true rfl) ?_
  intro p e s m below meth c A ls E hAe hG hsz hP hD hA hS hl
  obtain ⟨hx, hb, hr, hw, hown, hlocks, hml, hnm⟩ := E
  have hK := hG.1
  have i_x_size : 0 ≤ x_size.toInt ∧ x_size.toInt ≤ 940 := i_x_size
  have i_x_p : 0 ≤ x_p.toInt ∧ x_p.toInt ≤ 940 := i_x_p
  have i_x_limit : 200 ≤ x_limit.toInt ∧ x_limit.toInt ≤ 940 := i_x_limit
  have i_x_token : 0 ≤ x_token.toInt ∧ x_token.toInt ≤ 4 := i_x_token
  have hl : lv_has ls 3 [(0, .ref h0)] := hl
  refine lv_aload_n hx hb dX10_line0_0 rfl (lv_at hl 0 rfl) ?_
  refine call_Vi (wr := [(h_tape, .inl (cB, 940, .inl f_tape)), (h_h, .inl (cI, 104, .inl f_h)), (h_names, .inl (cJ, 36, .inr (.inl f_names))), (h_reserved, .inl (cJ, 23, .inr (.inl f_reserved)))]) (As := []) (rest := []) hx hb hml hown hw (m_X10_onceOf l D cI cJ cB cP cM cZ h0 Fh x_token x_number x_word _ e_token i_x_token e_number e_word (by omega)) wV_X10_236_X10_onceOf dX10_line0_1 hK hP hD hS hA [0] [1, 2, 3, 4] rfl rfl (by decide) (by decide) (by decide) 0 10 rfl rfl GG.fb hG.at hl.1 rfl (Nat.le_of_ble_eq_true rfl) ⟨(Nat.le_of_ble_eq_true rfl), (Nat.le_of_ble_eq_true rfl)⟩ ⟨(Nat.le_of_ble_eq_true rfl), (Nat.le_of_ble_eq_true rfl)⟩ (fun r1 u H locs hp hP hD hS => ?_)
  obtain ⟨t2, rfl⟩ := hp
  have hP : va_P D vwCl [(h_tape, .inl (cB, 940, .inl f_tape)), (h_h, .inl (cI, 104, .inl f_h)), (h_names, .inl (cJ, 36, .inr (.inl f_names))), (h_reserved, .inl (cJ, 23, .inr (.inl f_reserved))), (h0, .inr (10, vL 67 Fh))] H := hP
  have hD : va_D A [(h_tape, .inl (cB, 940, .inl f_tape)), (h_h, .inl (cI, 104, .inl f_h)), (h_names, .inl (cJ, 36, .inr (.inl f_names))), (h_reserved, .inl (cJ, 23, .inr (.inl f_reserved))), (h0, .inr (10, vL 67 Fh))] := hD
  refine W.widen (k := 0) (n := 0) (Nat.le_of_ble_eq_true rfl) (Nat.le_of_ble_eq_true rfl) ?_
  refine lv_istore_n (lv' := [(1, .int r1), (0, .ref h0)]) hx hb dX10_line0_4 rfl hl (by decide) rfl (fun ls hl => ?_)
  refine lv_iload_n hx hb dX10_line0_5 rfl (lv_at hl 0 rfl) ?_
  refine lv_if_lt (tgt := 113) hx hb dX10_line0_6 (by decide) (fun c4 => ?_) (fun c4 => ?_)
  · have dc4 : r1.toInt < 0 := lt_i (a := r1.toInt) (b := 0) rfl rfl c4
    have k5 : (-1) ≤ r1.toInt ∧ r1.toInt ≤ (-1) := ⟨t2.1, up_lt dc4 (Int.le_refl _) (by decide)⟩
    refine lv_aload_n hx hb dX10_line0_113 rfl (lv_at hl 1 rfl) ?_
    refine lv_ldc2 hx hb hown (hw _ q_1239) dX10_line0_114 ?_
    refine call_Vi (wr := [(h_tape, .inl (cB, 940, .inl f_tape)), (h_h, .inl (cI, 104, .inl f_h)), (h_names, .inl (cJ, 36, .inr (.inl f_names))), (h_reserved, .inl (cJ, 23, .inr (.inl f_reserved)))]) (As := [.long 7168366]) (rest := []) hx hb hml hown hw (m_X10_isWord l D cI cJ cB cP cM cZ h0 Fh x_token x_number x_word 7168366 _ e_token i_x_token e_number e_word (by omega)) wV_X10_225_X10_isWord dX10_line0_117 hK hP hD hS hA [4] [0, 1, 2, 3] rfl rfl (by decide) (by decide) (by decide) 0 10 rfl rfl GG.fb hG.at hl.1 rfl (Nat.le_of_ble_eq_true rfl) ⟨(Nat.le_of_ble_eq_true rfl), (Nat.le_of_ble_eq_true rfl)⟩ ⟨(Nat.le_of_ble_eq_true rfl), (Nat.le_of_ble_eq_true rfl)⟩ (fun r6 u H locs hp hP hD hS => ?_)
    have zl7168366 : (7168366 : Int32).toInt = 7168366 := by decide
    obtain ⟨t7, t8, rfl⟩ := hp
    have hP : va_P D vwCl [(h_tape, .inl (cB, 940, .inl f_tape)), (h_h, .inl (cI, 104, .inl f_h)), (h_names, .inl (cJ, 36, .inr (.inl f_names))), (h_reserved, .inl (cJ, 23, .inr (.inl f_reserved))), (h0, .inr (10, vL 67 Fh))] H := hP
    have hD : va_D A [(h_tape, .inl (cB, 940, .inl f_tape)), (h_h, .inl (cI, 104, .inl f_h)), (h_names, .inl (cJ, 36, .inr (.inl f_names))), (h_reserved, .inl (cJ, 23, .inr (.inl f_reserved))), (h0, .inr (10, vL 67 Fh))] := hD
    refine W.widen (k := 0) (n := 0) (Nat.le_of_ble_eq_true rfl) (Nat.le_of_ble_eq_true rfl) ?_
    refine lv_if_eq (tgt := 248) hx hb dX10_line0_120 (by decide) (fun c10 => ?_) (fun c10 => ?_)
    · have dc10 : r6.toInt = 0 := eq_i (a := r6.toInt) (b := 0) rfl rfl c10
      have k11 : 0 ≤ r6.toInt ∧ r6.toInt ≤ 0 := ⟨t7.1, Int.le_trans (Int.le_of_eq dc10) (Int.le_refl _)⟩
      refine lv_aload_n hx hb dX10_line0_248 rfl (lv_at hl 1 rfl) ?_
      refine lv_ldc2 hx hb hown (hw _ q_1240) dX10_line0_249 ?_
      refine call_Vi (wr := [(h_tape, .inl (cB, 940, .inl f_tape)), (h_h, .inl (cI, 104, .inl f_h)), (h_names, .inl (cJ, 36, .inr (.inl f_names))), (h_reserved, .inl (cJ, 23, .inr (.inl f_reserved)))]) (As := [.long 1650814564]) (rest := []) hx hb hml hown hw (m_X10_isWord l D cI cJ cB cP cM cZ h0 Fh x_token x_number x_word 1650814564 _ e_token i_x_token e_number e_word (by omega)) wV_X10_225_X10_isWord dX10_line0_252 hK hP hD hS hA [4] [0, 1, 2, 3] rfl rfl (by decide) (by decide) (by decide) 0 10 rfl rfl GG.fb hG.at hl.1 rfl (Nat.le_of_ble_eq_true rfl) ⟨(Nat.le_of_ble_eq_true rfl), (Nat.le_of_ble_eq_true rfl)⟩ ⟨(Nat.le_of_ble_eq_true rfl), (Nat.le_of_ble_eq_true rfl)⟩ (fun r12 u H locs hp hP hD hS => ?_)
      have zl1650814564 : (1650814564 : Int32).toInt = 1650814564 := by decide
      obtain ⟨t13, t14, rfl⟩ := hp
      have hP : va_P D vwCl [(h_tape, .inl (cB, 940, .inl f_tape)), (h_h, .inl (cI, 104, .inl f_h)), (h_names, .inl (cJ, 36, .inr (.inl f_names))), (h_reserved, .inl (cJ, 23, .inr (.inl f_reserved))), (h0, .inr (10, vL 67 Fh))] H := hP
      have hD : va_D A [(h_tape, .inl (cB, 940, .inl f_tape)), (h_h, .inl (cI, 104, .inl f_h)), (h_names, .inl (cJ, 36, .inr (.inl f_names))), (h_reserved, .inl (cJ, 23, .inr (.inl f_reserved))), (h0, .inr (10, vL 67 Fh))] := hD
      refine W.widen (k := 0) (n := 0) (Nat.le_of_ble_eq_true rfl) (Nat.le_of_ble_eq_true rfl) ?_
      refine lv_if_eq (tgt := 395) hx hb dX10_line0_255 (by decide) (fun c16 => ?_) (fun c16 => ?_)
      · have dc16 : r12.toInt = 0 := eq_i (a := r12.toInt) (b := 0) rfl rfl c16
        have k17 : 0 ≤ r12.toInt ∧ r12.toInt ≤ 0 := ⟨t13.1, Int.le_trans (Int.le_of_eq dc16) (Int.le_refl _)⟩
        refine lv_aload_n hx hb dX10_line0_395 rfl (lv_at hl 1 rfl) ?_
        refine lv_ldc2 hx hb hown (hw _ q_1241) dX10_line0_396 ?_
        refine call_Vi (wr := [(h_tape, .inl (cB, 940, .inl f_tape)), (h_h, .inl (cI, 104, .inl f_h)), (h_names, .inl (cJ, 36, .inr (.inl f_names))), (h_reserved, .inl (cJ, 23, .inr (.inl f_reserved)))]) (As := [.long 125848689468786]) (rest := []) hx hb hml hown hw (m_X10_isWord l D cI cJ cB cP cM cZ h0 Fh x_token x_number x_word 125848689468786 _ e_token i_x_token e_number e_word (by omega)) wV_X10_225_X10_isWord dX10_line0_399 hK hP hD hS hA [4] [0, 1, 2, 3] rfl rfl (by decide) (by decide) (by decide) 0 10 rfl rfl GG.fb hG.at hl.1 rfl (Nat.le_of_ble_eq_true rfl) ⟨(Nat.le_of_ble_eq_true rfl), (Nat.le_of_ble_eq_true rfl)⟩ ⟨(Nat.le_of_ble_eq_true rfl), (Nat.le_of_ble_eq_true rfl)⟩ (fun r18 u H locs hp hP hD hS => ?_)
        obtain ⟨t19, t20, rfl⟩ := hp
        have hP : va_P D vwCl [(h_tape, .inl (cB, 940, .inl f_tape)), (h_h, .inl (cI, 104, .inl f_h)), (h_names, .inl (cJ, 36, .inr (.inl f_names))), (h_reserved, .inl (cJ, 23, .inr (.inl f_reserved))), (h0, .inr (10, vL 67 Fh))] H := hP
        have hD : va_D A [(h_tape, .inl (cB, 940, .inl f_tape)), (h_h, .inl (cI, 104, .inl f_h)), (h_names, .inl (cJ, 36, .inr (.inl f_names))), (h_reserved, .inl (cJ, 23, .inr (.inl f_reserved))), (h0, .inr (10, vL 67 Fh))] := hD
        refine W.widen (k := 0) (n := 0) (Nat.le_of_ble_eq_true rfl) (Nat.le_of_ble_eq_true rfl) ?_
        refine lv_if_ne (tgt := 411) hx hb dX10_line0_402 (by decide) (fun c22 => ?_) (fun c22 => ?_)
        · have dc22 : r18.toInt ≠ 0 := ne_i (a := r18.toInt) (b := 0) rfl rfl c22
          have k23 : 1 ≤ r18.toInt ∧ r18.toInt ≤ 1 := ⟨ne_lo dc22 t19.1 ⟨Int.le_refl _, Int.le_refl _⟩ (by decide), t19.2⟩
          refine lv_aload_n hx hb dX10_line0_411 rfl (lv_at hl 1 rfl) ?_
          refine get_f (D := D) (ci := 10) (v := .ref h_h) (C := RX10) (T := TX10) (N := 67) hx hb hw inAX10 hown hK hP 4 rfl rfl 7 (by decide) (hw _ q_1268) (fun _ h9 => h9) e_h dX10_line0_412 ?_
          refine lv_bipush (v := 7) hx hb dX10_line0_415 (by decide) ?_
          refine iald_n hx hb hK hP 1 0 rfl rfl 7 rfl (Nat.le_of_ble_eq_true rfl) (Nat.le_of_ble_eq_true rfl) rfl dX10_line0_417 ?_
          refine lv_topi (fun v24 ev24 => ?_)
          have k25 : 0 ≤ v24.toInt ∧ v24.toInt ≤ 6 := by rw [ev24]; exact s_h_7.atN 7 (by decide) (by decide)
          refine lv_istore_n (lv' := [(2, .int v24), (1, .int r1), (0, .ref h0)]) hx hb dX10_line0_418 rfl hl (by decide) rfl (fun ls hl => ?_)
          refine lv_iload_n hx hb dX10_line0_419 rfl (lv_at hl 0 rfl) ?_
          refine lv_bipush (v := 6) hx hb dX10_line0_420 (by decide) ?_
          refine lv_icmp_ne (tgt := 431) hx hb dX10_line0_422 (by decide) (fun c26 => ?_) (fun c26 => ?_)
          · have dc26 : v24.toInt ≠ 6 := ne_i (a := v24.toInt) (b := 6) rfl rfl c26
            have k27 : 0 ≤ v24.toInt ∧ v24.toInt ≤ 5 := ⟨k25.1, ne_hi dc26 k25.2 ⟨Int.le_refl _, Int.le_refl _⟩ (by decide)⟩
            have r28 : SG 7 7 0 5 f_h := SG.one ev24 k27
            refine lv_aload_n hx hb dX10_line0_431 rfl (lv_at hl 2 rfl) ?_
            refine call_Vv (wr := [(h_h, .inl (cI, 104, .inl f_h)), (h_names, .inl (cJ, 36, .inr (.inl f_names))), (h_reserved, .inl (cJ, 23, .inr (.inl f_reserved)))]) (As := []) (rest := []) hx hb hml hown hw (m_X10_next l D cI cJ cB cP cM cZ h0 h_tape Fh x_size x_p x_limit x_token x_number x_word f_tape _ e_tape e_size i_x_size e_p i_x_p e_limit i_x_limit e_token i_x_token e_number e_word (by omega)) wV_X10_208_X10_next dX10_line0_432 hK hP hD hS hA [4, 0] [1, 2, 3] rfl rfl (by decide) (by decide) (by decide) 0 10 rfl rfl GG.fb hG.at hl.1 rfl (Nat.le_of_ble_eq_true rfl) ⟨(Nat.le_of_ble_eq_true rfl), (Nat.le_of_ble_eq_true rfl)⟩ ⟨(Nat.le_of_ble_eq_true rfl), (Nat.le_of_ble_eq_true rfl)⟩ (fun u H locs hp hP hD hS => ?_)
            obtain ⟨F30, y31, y32, y33, y34, y35, y36, t37, t38, t39, t40, t41, t42, t43, t44, t45, t46, t47, t48, t49, t50, rfl⟩ := hp
            have hP : va_P D vwCl [(h_h, .inl (cI, 104, .inl f_h)), (h_names, .inl (cJ, 36, .inr (.inl f_names))), (h_reserved, .inl (cJ, 23, .inr (.inl f_reserved))), (h0, .inr (10, vL 67 F30)), (h_tape, .inl (cB, 940, .inl f_tape))] H := hP
            have hD : va_D A [(h_h, .inl (cI, 104, .inl f_h)), (h_names, .inl (cJ, 36, .inr (.inl f_names))), (h_reserved, .inl (cJ, 23, .inr (.inl f_reserved))), (h0, .inr (10, vL 67 F30)), (h_tape, .inl (cB, 940, .inl f_tape))] := hD
            refine W.widen (k := 0) (n := 0) (Nat.le_of_ble_eq_true rfl) (Nat.le_of_ble_eq_true rfl) ?_
            refine lv_aload_n hx hb dX10_line0_435 rfl (lv_at hl 2 rfl) ?_
            refine lv_bipush (v := 30) hx hb dX10_line0_436 (by decide) ?_
            refine lv_iload_n hx hb dX10_line0_438 rfl (lv_at hl 0 rfl) ?_
            refine lv_iadd hx hb dX10_line0_439 ?_
            refine lv_topi (fun v52 ev52 => ?_)
            have bv52 : v52.toInt = 30 + v24.toInt := by rw [ev52]; exact add_k rfl rfl ⟨Int.le_refl _, Int.le_refl _⟩ k27 (by decide)
            have k53 : 30 ≤ v52.toInt ∧ v52.toInt ≤ 35 := add_r bv52 ⟨Int.le_refl _, Int.le_refl _⟩ k27 (by decide)
            have n54 : F30 1 = .ref h_tape := (SAME.at t37 (by decide) e_tape)
            have n55 : F30 3 = .int x_size := (SAME.at t37 (by decide) e_size)
            have n56 : F30 5 = .int x_limit := (SAME.at t37 (by decide) e_limit)
            have n57 : F30 7 = .ref h_h := (SAME.at t37 (by decide) e_h)
            have n58 : F30 9 = .ref h_names := (SAME.at t37 (by decide) e_names)
            have n59 : F30 10 = .ref h_reserved := (SAME.at t37 (by decide) e_reserved)
            refine call_Vi (wr := []) (As := [.int v52]) (rest := []) hx hb hml hown hw (m_X10_fresh l D cI cJ cB cP cM cZ h0 h_tape h_h h_names h_reserved F30 x_size y31 x_limit y32 y33 y35 y36 f_tape f_h f_names f_reserved v52 _ n54 n55 i_x_size t38 t39 n56 i_x_limit n57 n58 n59 t40 t41 t42 t46 t47 s_h_0 s_h_44 s_h_5 s_h_6 (SG.wk r28 (by decide) (by decide)) (ir_wk k53 (by decide) (by decide)) (by omega)) wV_X10_245_X10_fresh dX10_line0_440 hK hP hD hS hA [3, 4, 0, 1, 2] [] rfl rfl (by decide) (by decide) (by decide) 0 10 rfl rfl GG.fb hG.at hl.1 rfl (Nat.le_of_ble_eq_true rfl) ⟨(Nat.le_of_ble_eq_true rfl), (Nat.le_of_ble_eq_true rfl)⟩ ⟨(Nat.le_of_ble_eq_true rfl), (Nat.le_of_ble_eq_true rfl)⟩ (fun r60 u H locs hp hP hD hS => ?_)
            rcases hp with ⟨F61, y62, y63, y64, y65, y66, y67, g68, t69, t70, t71, t72, t73, t74, t75, t76, t77, t78, t79, t80, t81, t82, rfl, rfl⟩ | ⟨F83, y84, t85, t86, t87, t88, t89, rfl, rfl⟩
            · clear t49 t50
              have hP : va_P D vwCl [(h0, .inr (10, vL 67 F61)), (h_tape, .inl (cB, 940, .inl f_tape)), (h_h, .inl (cI, 104, .inl f_h)), (h_names, .inl (cJ, 36, .inr (.inl g68))), (h_reserved, .inl (cJ, 23, .inr (.inl f_reserved)))] H := hP
              have hD : va_D A [(h0, .inr (10, vL 67 F61)), (h_tape, .inl (cB, 940, .inl f_tape)), (h_h, .inl (cI, 104, .inl f_h)), (h_names, .inl (cJ, 36, .inr (.inl g68))), (h_reserved, .inl (cJ, 23, .inr (.inl f_reserved)))] := hD
              refine W.widen (k := 0) (n := 0) (Nat.le_of_ble_eq_true rfl) (Nat.le_of_ble_eq_true rfl) ?_
              refine lv_if_ne (tgt := 448) hx hb dX10_line0_443 (by decide) (fun _ => ?_) (fun g => absurd g (by decide))
              refine lv_aload_n hx hb dX10_line0_448 rfl (lv_at hl 2 rfl) ?_
              refine lv_iconst (v := 0) hx hb dX10_line0_449 (by decide) ?_
              refine lv_bipush (v := 20) hx hb dX10_line0_450 (by decide) ?_
              have n91 : F61 1 = .ref h_tape := (SAME.at t69 (by decide) n54)
              have n92 : F61 3 = .int x_size := (SAME.at t69 (by decide) n55)
              have n93 : F61 5 = .int x_limit := (SAME.at t69 (by decide) n56)
              have n94 : F30 19 = .int x_got := (SAME.at t37 (by decide) e_got)
              have n95 : F61 19 = .int x_got := (SAME.at t69 (by decide) n94)
              refine call_Vi (wr := [(h_h, .inl (cI, 104, .inl f_h)), (h_names, .inl (cJ, 36, .inr (.inl g68))), (h_reserved, .inl (cJ, 23, .inr (.inl f_reserved)))]) (As := [.int 0, .int 20]) (rest := []) hx hb hml hown hw (m_X10_takes l D cI cJ cB cP cM cZ h0 h_tape F61 x_size y62 x_limit y63 y64 y66 y67 x_got f_tape 0 20 _ n91 n92 i_x_size t70 t71 n93 i_x_limit t72 t73 t74 t78 t79 n95 (by omega)) wV_X10_242_X10_takes dX10_line0_452 hK hP hD hS hA [0, 1] [2, 3, 4] rfl rfl (by decide) (by decide) (by decide) 0 10 rfl rfl GG.fb hG.at hl.1 rfl (Nat.le_of_ble_eq_true rfl) ⟨(Nat.le_of_ble_eq_true rfl), (Nat.le_of_ble_eq_true rfl)⟩ ⟨(Nat.le_of_ble_eq_true rfl), (Nat.le_of_ble_eq_true rfl)⟩ (fun r96 u H locs hp hP hD hS => ?_)
              have zl0 : (0 : Int32).toInt = 0 := by decide
              have zl20 : (20 : Int32).toInt = 20 := by decide
              rcases hp with hp | hp
              · obtain ⟨F97, y98, t99, t100, t101, t102, rfl, rfl⟩ := hp
                have hP : va_P D vwCl [(h_h, .inl (cI, 104, .inl f_h)), (h_names, .inl (cJ, 36, .inr (.inl g68))), (h_reserved, .inl (cJ, 23, .inr (.inl f_reserved))), (h0, .inr (10, vL 67 F97)), (h_tape, .inl (cB, 940, .inl f_tape))] H := hP
                have hD : va_D A [(h_h, .inl (cI, 104, .inl f_h)), (h_names, .inl (cJ, 36, .inr (.inl g68))), (h_reserved, .inl (cJ, 23, .inr (.inl f_reserved))), (h0, .inr (10, vL 67 F97)), (h_tape, .inl (cB, 940, .inl f_tape))] := hD
                refine W.widen (k := 0) (n := 0) (Nat.le_of_ble_eq_true rfl) (Nat.le_of_ble_eq_true rfl) ?_
                refine lv_if_ne (tgt := 460) hx hb dX10_line0_455 (by decide) (fun g => absurd (by decide) g) (fun _ => ?_)
                refine lv_iconst (v := 0) hx hb dX10_line0_458 (by decide) ?_
                exact ret_i (v := 0) hx hb hr hlocks hS (hP.sub (ws' := [(h0, .inr (10, vL 67 F97)), (h_tape, .inl (cB, 940, .inl f_tape)), (h_h, .inl (cI, 104, .inl f_h)), (h_names, .inl (cJ, 36, .inr (.inl g68))), (h_reserved, .inl (cJ, 23, .inr (.inl f_reserved)))]) [3, 4, 0, 1, 2] rfl) (hD.sub (ws' := [(h0, .inr (10, vL 67 F97)), (h_tape, .inl (cB, 940, .inl f_tape)), (h_h, .inl (cI, 104, .inl f_h)), (h_names, .inl (cJ, 36, .inr (.inl g68))), (h_reserved, .inl (cJ, 23, .inr (.inl f_reserved)))]) [3, 4, 0, 1, 2] (by decide) rfl) dX10_line0_459 rfl (Nat.le_of_ble_eq_true rfl) (Nat.le_of_ble_eq_true rfl) (Or.inl ⟨F97, y62, y63, y64, y65, y66, y98, y64, y67, x_got, x_onces, f_h, g68, (SAME.tr (SAME.tr (SAME.tr SAME.rf t37 (by decide)) t69 (by decide)) t99 (by decide)), (SAME.at t99 (by decide) t70), t71, (SAME.at t99 (by decide) t72), t73, (SAME.at t99 (by decide) t74), (SAME.at t99 (by decide) t76), (SAME.at t99 (by decide) t78), t100, (ir_wk t101 (by decide) (by decide)), t102, (SAME.at t99 (by decide) t79), (SAME.at t99 (by decide) n95), (SAME.at t99 (by decide) (SAME.at t69 (by decide) (SAME.at t37 (by decide) e_onces))), s_h_0, s_h_5, s_h_6, (SG.wk r28 (by decide) (by decide)), s_h_44, (by omega), rfl, rfl⟩)
              · refine hp.elim (fun F103 h9z0 => h9z0.elim (fun y104 h9z1 => h9z1.elim (fun y105 h9z2 => h9z2.elim (fun y106 h9z3 => h9z3.elim (fun y107 h9z4 => h9z4.elim (fun y108 h9z5 => h9z5.elim (fun y109 h9z6 => h9z6.elim (fun y110 h9z7 => h9z7.elim (fun t111 h9z8 => h9z8.elim (fun t112 h9z9 => h9z9.elim (fun t113 h9z10 => h9z10.elim (fun t114 h9z11 => h9z11.elim (fun t115 h9z12 => h9z12.elim (fun t116 h9z13 => h9z13.elim (fun t117 h9z14 => h9z14.elim (fun t118 h9z15 => h9z15.elim (fun t119 h9z16 => h9z16.elim (fun t120 h9z17 => h9z17.elim (fun t121 h9z18 => h9z18.elim (fun t122 h9z19 => h9z19.elim (fun t123 h9z20 => h9z20.elim (fun t124 h9z21 => h9z21.elim (fun t125 h9z22 => h9z22.elim (fun t126 h9z23 => h9z23.elim (fun t127 h9z24 => h9z24.elim (fun t128 h9z25 => h9z25.elim (fun t129 h9z26 => h9z26.elim (fun heq927 h9z27 => ?_))))))))))))))))))))))))))))
                clear h9z0 h9z1 h9z2 h9z3 h9z4 h9z5 h9z6 h9z7 h9z8 h9z9 h9z10 h9z11 h9z12 h9z13 h9z14 h9z15 h9z16 h9z17 h9z18 h9z19 h9z20 h9z21 h9z22 h9z23 h9z24 h9z25 h9z26
                subst heq927
                subst h9z27
                clear t81 t82
                have hP : va_P D vwCl [(h_h, .inl (cI, 104, .inl f_h)), (h_names, .inl (cJ, 36, .inr (.inl g68))), (h_reserved, .inl (cJ, 23, .inr (.inl f_reserved))), (h0, .inr (10, vL 67 F103)), (h_tape, .inl (cB, 940, .inl f_tape))] H := hP
                have hD : va_D A [(h_h, .inl (cI, 104, .inl f_h)), (h_names, .inl (cJ, 36, .inr (.inl g68))), (h_reserved, .inl (cJ, 23, .inr (.inl f_reserved))), (h0, .inr (10, vL 67 F103)), (h_tape, .inl (cB, 940, .inl f_tape))] := hD
                refine W.widen (k := 0) (n := 0) (Nat.le_of_ble_eq_true rfl) (Nat.le_of_ble_eq_true rfl) ?_
                have k131 : 2 ≤ y63.toInt ∧ y63.toInt ≤ 2 := ⟨Int.le_trans (Int.le_refl _) (Int.le_of_eq t123.symm), Int.le_trans (Int.le_of_eq t123) (Int.le_refl _)⟩
                have k132 : 0 ≤ y66.toInt ∧ y66.toInt ≤ 2147483647 := ⟨Int.le_trans (Int.le_refl _) t124, (ir_any _).2⟩
                have k133 : 0 ≤ y66.toInt ∧ y66.toInt ≤ 20 := ⟨k132.1, Int.le_trans t125 (Int.le_refl _)⟩
                refine lv_if_ne (tgt := 460) hx hb dX10_line0_455 (by decide) (fun _ => ?_) (fun g => absurd g (by decide))
                refine lv_aload_n hx hb dX10_line0_460 rfl (lv_at hl 2 rfl) ?_
                have n134 : F61 7 = .ref h_h := (SAME.at t69 (by decide) n57)
                have n135 : F103 7 = .ref h_h := (SAME.at t111 (by decide) n134)
                refine get_f (D := D) (ci := 10) (v := .ref h_h) (C := RX10) (T := TX10) (N := 67) hx hb hw inAX10 hown hK hP 3 rfl rfl 7 (by decide) (hw _ q_1268) (fun _ h9 => h9) n135 dX10_line0_461 ?_
                refine lv_bipush (v := 92) hx hb dX10_line0_464 (by decide) ?_
                refine lv_iload_n hx hb dX10_line0_466 rfl (lv_at hl 0 rfl) ?_
                refine lv_iadd hx hb dX10_line0_467 ?_
                refine lv_topi (fun v136 ev136 => ?_)
                have bv136 : v136.toInt = 92 + v24.toInt := by rw [ev136]; exact add_k rfl rfl ⟨Int.le_refl _, Int.le_refl _⟩ k27 (by decide)
                have k137 : 92 ≤ v136.toInt ∧ v136.toInt ≤ 97 := add_r bv136 ⟨Int.le_refl _, Int.le_refl _⟩ k27 (by decide)
                refine lv_aload_n hx hb dX10_line0_468 rfl (lv_at hl 2 rfl) ?_
                refine get_f (D := D) (ci := 10) (v := .int y110) (C := RX10) (T := TX10) (N := 67) hx hb hw inAX10 hown hK hP 3 rfl rfl 19 (by decide) (hw _ q_1280) (fun _ h9 => h9) t122 dX10_line0_469 ?_
                obtain ⟨g138, eg138⟩ : ∃ z : Nat → Int32, upd f_h v136.toNatClampNeg y110 = z := ⟨_, rfl⟩
                have r139 : SG 0 0 0 40 g138 := by rw [← eg138]; exact s_h_0.up (Int.le_trans (by decide) k137.1) (Or.inr (Or.inl (dec_lt k137.1 (by decide))))
                have r140 : SG 44 55 0 9 g138 := by rw [← eg138]; exact s_h_44.up (Int.le_trans (by decide) k137.1) (Or.inr (Or.inl (dec_lt k137.1 (by decide))))
                have r141 : SG 5 5 0 12 g138 := by rw [← eg138]; exact s_h_5.up (Int.le_trans (by decide) k137.1) (Or.inr (Or.inl (dec_lt k137.1 (by decide))))
                have r142 : SG 6 6 0 12 g138 := by rw [← eg138]; exact s_h_6.up (Int.le_trans (by decide) k137.1) (Or.inr (Or.inl (dec_lt k137.1 (by decide))))
                have r143 : SG 7 7 0 5 g138 := by rw [← eg138]; exact r28.up (Int.le_trans (by decide) k137.1) (Or.inr (Or.inl (dec_lt k137.1 (by decide))))
                refine iast_g hx hb hK hP hD hS 0 0 rfl rfl (ix_k k137 (by decide) (by decide)) eg138 dX10_line0_472 (fun H locs hP hD hS => ?_)
                have hP : va_P D vwCl [(h_h, .inl (cI, 104, .inl g138)), (h_names, .inl (cJ, 36, .inr (.inl g68))), (h_reserved, .inl (cJ, 23, .inr (.inl f_reserved))), (h0, .inr (10, vL 67 F103)), (h_tape, .inl (cB, 940, .inl f_tape))] H := hP
                have hD : va_D A [(h_h, .inl (cI, 104, .inl g138)), (h_names, .inl (cJ, 36, .inr (.inl g68))), (h_reserved, .inl (cJ, 23, .inr (.inl f_reserved))), (h0, .inr (10, vL 67 F103)), (h_tape, .inl (cB, 940, .inl f_tape))] := hD
                refine lv_aload_n hx hb dX10_line0_473 rfl (lv_at hl 2 rfl) ?_
                refine lv_iconst (v := 0) hx hb dX10_line0_474 (by decide) ?_
                refine lv_bipush (v := 9) hx hb dX10_line0_475 (by decide) ?_
                have n144 : F103 1 = .ref h_tape := (SAME.at t111 (by decide) n91)
                have n145 : F103 3 = .int x_size := (SAME.at t111 (by decide) n92)
                have n146 : F103 5 = .int x_limit := (SAME.at t111 (by decide) n93)
                refine call_Vi (wr := [(h_h, .inl (cI, 104, .inl g138)), (h_names, .inl (cJ, 36, .inr (.inl g68))), (h_reserved, .inl (cJ, 23, .inr (.inl f_reserved)))]) (As := [.int 0, .int 9]) (rest := []) hx hb hml hown hw (m_X10_takes l D cI cJ cB cP cM cZ h0 h_tape F103 x_size y104 x_limit y105 y106 y108 y109 y110 f_tape 0 9 _ n144 n145 i_x_size t112 t113 n146 i_x_limit t114 t115 t116 t120 t121 t122 (by omega)) wV_X10_242_X10_takes dX10_line0_477 hK hP hD hS hA [3, 4] [0, 1, 2] rfl rfl (by decide) (by decide) (by decide) 0 10 rfl rfl GG.fb hG.at hl.1 rfl (Nat.le_of_ble_eq_true rfl) ⟨(Nat.le_of_ble_eq_true rfl), (Nat.le_of_ble_eq_true rfl)⟩ ⟨(Nat.le_of_ble_eq_true rfl), (Nat.le_of_ble_eq_true rfl)⟩ (fun r147 u H locs hp hP hD hS => ?_)
                have zl9 : (9 : Int32).toInt = 9 := by decide
                rcases hp with hp | hp
                · obtain ⟨F148, y149, t150, t151, t152, t153, rfl, rfl⟩ := hp
                  have hP : va_P D vwCl [(h_h, .inl (cI, 104, .inl g138)), (h_names, .inl (cJ, 36, .inr (.inl g68))), (h_reserved, .inl (cJ, 23, .inr (.inl f_reserved))), (h0, .inr (10, vL 67 F148)), (h_tape, .inl (cB, 940, .inl f_tape))] H := hP
                  have hD : va_D A [(h_h, .inl (cI, 104, .inl g138)), (h_names, .inl (cJ, 36, .inr (.inl g68))), (h_reserved, .inl (cJ, 23, .inr (.inl f_reserved))), (h0, .inr (10, vL 67 F148)), (h_tape, .inl (cB, 940, .inl f_tape))] := hD
                  refine W.widen (k := 0) (n := 0) (Nat.le_of_ble_eq_true rfl) (Nat.le_of_ble_eq_true rfl) ?_
                  refine lv_if_ne (tgt := 485) hx hb dX10_line0_480 (by decide) (fun g => absurd (by decide) g) (fun _ => ?_)
                  refine lv_iconst (v := 0) hx hb dX10_line0_483 (by decide) ?_
                  exact ret_i (v := 0) hx hb hr hlocks hS (hP.sub (ws' := [(h0, .inr (10, vL 67 F148)), (h_tape, .inl (cB, 940, .inl f_tape)), (h_h, .inl (cI, 104, .inl g138)), (h_names, .inl (cJ, 36, .inr (.inl g68))), (h_reserved, .inl (cJ, 23, .inr (.inl f_reserved)))]) [3, 4, 0, 1, 2] rfl) (hD.sub (ws' := [(h0, .inr (10, vL 67 F148)), (h_tape, .inl (cB, 940, .inl f_tape)), (h_h, .inl (cI, 104, .inl g138)), (h_names, .inl (cJ, 36, .inr (.inl g68))), (h_reserved, .inl (cJ, 23, .inr (.inl f_reserved)))]) [3, 4, 0, 1, 2] (by decide) rfl) dX10_line0_484 rfl (Nat.le_of_ble_eq_true rfl) (Nat.le_of_ble_eq_true rfl) (Or.inl ⟨F148, y104, y105, y106, y107, y108, y149, y106, y109, y110, x_onces, g138, g68, (SAME.tr (SAME.tr (SAME.tr (SAME.tr SAME.rf t37 (by decide)) t69 (by decide)) t111 (by decide)) t150 (by decide)), (SAME.at t150 (by decide) t112), t113, (SAME.at t150 (by decide) t114), t115, (SAME.at t150 (by decide) t116), (SAME.at t150 (by decide) t118), (SAME.at t150 (by decide) t120), t151, (ir_wk t152 (by decide) (by decide)), t153, (SAME.at t150 (by decide) t121), (SAME.at t150 (by decide) t122), (SAME.at t150 (by decide) (SAME.at t111 (by decide) (SAME.at t69 (by decide) (SAME.at t37 (by decide) e_onces)))), r139, r141, r142, (SG.wk r143 (by decide) (by decide)), r140, (by omega), rfl, rfl⟩)
                · refine hp.elim (fun F154 h9z0 => h9z0.elim (fun y155 h9z1 => h9z1.elim (fun y156 h9z2 => h9z2.elim (fun y157 h9z3 => h9z3.elim (fun y158 h9z4 => h9z4.elim (fun y159 h9z5 => h9z5.elim (fun y160 h9z6 => h9z6.elim (fun y161 h9z7 => h9z7.elim (fun t162 h9z8 => h9z8.elim (fun t163 h9z9 => h9z9.elim (fun t164 h9z10 => h9z10.elim (fun t165 h9z11 => h9z11.elim (fun t166 h9z12 => h9z12.elim (fun t167 h9z13 => h9z13.elim (fun t168 h9z14 => h9z14.elim (fun t169 h9z15 => h9z15.elim (fun t170 h9z16 => h9z16.elim (fun t171 h9z17 => h9z17.elim (fun t172 h9z18 => h9z18.elim (fun t173 h9z19 => h9z19.elim (fun t174 h9z20 => h9z20.elim (fun t175 h9z21 => h9z21.elim (fun t176 h9z22 => h9z22.elim (fun t177 h9z23 => h9z23.elim (fun t178 h9z24 => h9z24.elim (fun t179 h9z25 => h9z25.elim (fun t180 h9z26 => h9z26.elim (fun heq927 h9z27 => ?_))))))))))))))))))))))))))))
                  clear h9z0 h9z1 h9z2 h9z3 h9z4 h9z5 h9z6 h9z7 h9z8 h9z9 h9z10 h9z11 h9z12 h9z13 h9z14 h9z15 h9z16 h9z17 h9z18 h9z19 h9z20 h9z21 h9z22 h9z23 h9z24 h9z25 h9z26
                  subst heq927
                  subst h9z27
                  clear t128 t129
                  have hP : va_P D vwCl [(h_h, .inl (cI, 104, .inl g138)), (h_names, .inl (cJ, 36, .inr (.inl g68))), (h_reserved, .inl (cJ, 23, .inr (.inl f_reserved))), (h0, .inr (10, vL 67 F154)), (h_tape, .inl (cB, 940, .inl f_tape))] H := hP
                  have hD : va_D A [(h_h, .inl (cI, 104, .inl g138)), (h_names, .inl (cJ, 36, .inr (.inl g68))), (h_reserved, .inl (cJ, 23, .inr (.inl f_reserved))), (h0, .inr (10, vL 67 F154)), (h_tape, .inl (cB, 940, .inl f_tape))] := hD
                  refine W.widen (k := 0) (n := 0) (Nat.le_of_ble_eq_true rfl) (Nat.le_of_ble_eq_true rfl) ?_
                  have k182 : 2 ≤ y105.toInt ∧ y105.toInt ≤ 2 := ⟨Int.le_trans (Int.le_refl _) (Int.le_of_eq t174.symm), Int.le_trans (Int.le_of_eq t174) (Int.le_refl _)⟩
                  have k183 : 0 ≤ y108.toInt ∧ y108.toInt ≤ 2147483647 := ⟨Int.le_trans (Int.le_refl _) t175, (ir_any _).2⟩
                  have k184 : 0 ≤ y108.toInt ∧ y108.toInt ≤ 9 := ⟨k183.1, Int.le_trans t176 (Int.le_refl _)⟩
                  refine lv_if_ne (tgt := 485) hx hb dX10_line0_480 (by decide) (fun _ => ?_) (fun g => absurd g (by decide))
                  refine lv_aload_n hx hb dX10_line0_485 rfl (lv_at hl 2 rfl) ?_
                  have n185 : F154 7 = .ref h_h := (SAME.at t162 (by decide) n135)
                  refine get_f (D := D) (ci := 10) (v := .ref h_h) (C := RX10) (T := TX10) (N := 67) hx hb hw inAX10 hown hK hP 3 rfl rfl 7 (by decide) (hw _ q_1268) (fun _ h9 => h9) n185 dX10_line0_486 ?_
                  refine lv_bipush (v := 98) hx hb dX10_line0_489 (by decide) ?_
                  refine lv_iload_n hx hb dX10_line0_491 rfl (lv_at hl 0 rfl) ?_
                  refine lv_iadd hx hb dX10_line0_492 ?_
                  refine lv_topi (fun v186 ev186 => ?_)
                  have bv186 : v186.toInt = 98 + v24.toInt := by rw [ev186]; exact add_k rfl rfl ⟨Int.le_refl _, Int.le_refl _⟩ k27 (by decide)
                  have k187 : 98 ≤ v186.toInt ∧ v186.toInt ≤ 103 := add_r bv186 ⟨Int.le_refl _, Int.le_refl _⟩ k27 (by decide)
                  refine lv_aload_n hx hb dX10_line0_493 rfl (lv_at hl 2 rfl) ?_
                  refine get_f (D := D) (ci := 10) (v := .int y161) (C := RX10) (T := TX10) (N := 67) hx hb hw inAX10 hown hK hP 3 rfl rfl 19 (by decide) (hw _ q_1280) (fun _ h9 => h9) t173 dX10_line0_494 ?_
                  obtain ⟨g188, eg188⟩ : ∃ z : Nat → Int32, upd g138 v186.toNatClampNeg y161 = z := ⟨_, rfl⟩
                  have r189 : SG 0 0 0 40 g188 := by rw [← eg188]; exact r139.up (Int.le_trans (by decide) k187.1) (Or.inr (Or.inl (dec_lt k187.1 (by decide))))
                  have r190 : SG 44 55 0 9 g188 := by rw [← eg188]; exact r140.up (Int.le_trans (by decide) k187.1) (Or.inr (Or.inl (dec_lt k187.1 (by decide))))
                  have r191 : SG 5 5 0 12 g188 := by rw [← eg188]; exact r141.up (Int.le_trans (by decide) k187.1) (Or.inr (Or.inl (dec_lt k187.1 (by decide))))
                  have r192 : SG 6 6 0 12 g188 := by rw [← eg188]; exact r142.up (Int.le_trans (by decide) k187.1) (Or.inr (Or.inl (dec_lt k187.1 (by decide))))
                  have r193 : SG 7 7 0 5 g188 := by rw [← eg188]; exact r143.up (Int.le_trans (by decide) k187.1) (Or.inr (Or.inl (dec_lt k187.1 (by decide))))
                  refine iast_g hx hb hK hP hD hS 0 0 rfl rfl (ix_k k187 (by decide) (by decide)) eg188 dX10_line0_497 (fun H locs hP hD hS => ?_)
                  have hP : va_P D vwCl [(h_h, .inl (cI, 104, .inl g188)), (h_names, .inl (cJ, 36, .inr (.inl g68))), (h_reserved, .inl (cJ, 23, .inr (.inl f_reserved))), (h0, .inr (10, vL 67 F154)), (h_tape, .inl (cB, 940, .inl f_tape))] H := hP
                  have hD : va_D A [(h_h, .inl (cI, 104, .inl g188)), (h_names, .inl (cJ, 36, .inr (.inl g68))), (h_reserved, .inl (cJ, 23, .inr (.inl f_reserved))), (h0, .inr (10, vL 67 F154)), (h_tape, .inl (cB, 940, .inl f_tape))] := hD
                  refine lv_aload_n hx hb dX10_line0_498 rfl (lv_at hl 2 rfl) ?_
                  refine get_f (D := D) (ci := 10) (v := .ref h_h) (C := RX10) (T := TX10) (N := 67) hx hb hw inAX10 hown hK hP 3 rfl rfl 7 (by decide) (hw _ q_1268) (fun _ h9 => h9) n185 dX10_line0_499 ?_
                  refine lv_bipush (v := 7) hx hb dX10_line0_502 (by decide) ?_
                  refine lv_dup2_11 hx hb dX10_line0_504 rfl rfl ?_
                  refine iald_n hx hb hK hP 0 0 rfl rfl 7 rfl (Nat.le_of_ble_eq_true rfl) (Nat.le_of_ble_eq_true rfl) rfl dX10_line0_505 ?_
                  refine lv_topi (fun v194 ev194 => ?_)
                  have k195 : 0 ≤ v194.toInt ∧ v194.toInt ≤ 5 := by rw [ev194]; exact r193.atN 7 (by decide) (by decide)
                  refine lv_iconst (v := 1) hx hb dX10_line0_506 (by decide) ?_
                  refine lv_iadd hx hb dX10_line0_507 ?_
                  refine lv_topi (fun v196 ev196 => ?_)
                  have bv196 : v196.toInt = v194.toInt + 1 := by rw [ev196]; exact add_k rfl rfl k195 ⟨Int.le_refl _, Int.le_refl _⟩ (by decide)
                  have k197 : 1 ≤ v196.toInt ∧ v196.toInt ≤ 6 := add_r bv196 k195 ⟨Int.le_refl _, Int.le_refl _⟩ (by decide)
                  obtain ⟨g198, eg198⟩ : ∃ z : Nat → Int32, upd g188 7 v196 = z := ⟨_, rfl⟩
                  have r199 : SG 0 0 0 40 g198 := by rw [← eg198]; exact r189.upN (Or.inr (Or.inl (by decide)))
                  have r200 : SG 44 55 0 9 g198 := by rw [← eg198]; exact r190.upN (Or.inl (by decide))
                  have r201 : SG 5 5 0 12 g198 := by rw [← eg198]; exact r191.upN (Or.inr (Or.inl (by decide)))
                  have r202 : SG 6 6 0 12 g198 := by rw [← eg198]; exact r192.upN (Or.inr (Or.inl (by decide)))
                  have r203 : SG 7 7 0 6 g198 := by rw [← eg198]; exact SG.new1 (ir_wk k197 (by decide) (by decide))
                  refine iast_n hx hb hK hP hD hS 0 0 rfl rfl 7 rfl (Nat.le_of_ble_eq_true rfl) (Nat.le_of_ble_eq_true rfl) eg198 dX10_line0_508 (fun H locs hP hD hS => ?_)
                  have hP : va_P D vwCl [(h_h, .inl (cI, 104, .inl g198)), (h_names, .inl (cJ, 36, .inr (.inl g68))), (h_reserved, .inl (cJ, 23, .inr (.inl f_reserved))), (h0, .inr (10, vL 67 F154)), (h_tape, .inl (cB, 940, .inl f_tape))] H := hP
                  have hD : va_D A [(h_h, .inl (cI, 104, .inl g198)), (h_names, .inl (cJ, 36, .inr (.inl g68))), (h_reserved, .inl (cJ, 23, .inr (.inl f_reserved))), (h0, .inr (10, vL 67 F154)), (h_tape, .inl (cB, 940, .inl f_tape))] := hD
                  refine lv_iconst (v := 1) hx hb dX10_line0_509 (by decide) ?_
                  exact ret_i (v := 1) hx hb hr hlocks hS (hP.sub (ws' := [(h0, .inr (10, vL 67 F154)), (h_tape, .inl (cB, 940, .inl f_tape)), (h_h, .inl (cI, 104, .inl g198)), (h_names, .inl (cJ, 36, .inr (.inl g68))), (h_reserved, .inl (cJ, 23, .inr (.inl f_reserved)))]) [3, 4, 0, 1, 2] rfl) (hD.sub (ws' := [(h0, .inr (10, vL 67 F154)), (h_tape, .inl (cB, 940, .inl f_tape)), (h_h, .inl (cI, 104, .inl g198)), (h_names, .inl (cJ, 36, .inr (.inl g68))), (h_reserved, .inl (cJ, 23, .inr (.inl f_reserved)))]) [3, 4, 0, 1, 2] (by decide) rfl) dX10_line0_510 rfl (Nat.le_of_ble_eq_true rfl) (Nat.le_of_ble_eq_true rfl) (Or.inr ⟨F154, y155, y156, y157, y158, y159, y160, y161, x_onces, g198, g68, (SAME.tr (SAME.tr (SAME.tr (SAME.tr SAME.rf t37 (by decide)) t69 (by decide)) t111 (by decide)) t162 (by decide)), t163, t164, t165, t166, t167, t168, t169, t170, t171, t172, t173, (SAME.at t162 (by decide) (SAME.at t111 (by decide) (SAME.at t69 (by decide) (SAME.at t37 (by decide) e_onces)))), r199, r201, r202, r203, r200, (by have zl1 : (1 : Int32).toInt = 1 := (by decide); omega), (by have zl1 : (1 : Int32).toInt = 1 := (by decide); omega), (by omega), rfl, rfl⟩)
            · have hP : va_P D vwCl [(h0, .inr (10, vL 67 F83)), (h_tape, .inl (cB, 940, .inl f_tape)), (h_h, .inl (cI, 104, .inl f_h)), (h_names, .inl (cJ, 36, .inr (.inl f_names))), (h_reserved, .inl (cJ, 23, .inr (.inl f_reserved)))] H := hP
              have hD : va_D A [(h0, .inr (10, vL 67 F83)), (h_tape, .inl (cB, 940, .inl f_tape)), (h_h, .inl (cI, 104, .inl f_h)), (h_names, .inl (cJ, 36, .inr (.inl f_names))), (h_reserved, .inl (cJ, 23, .inr (.inl f_reserved)))] := hD
              refine W.widen (k := 0) (n := 0) (Nat.le_of_ble_eq_true rfl) (Nat.le_of_ble_eq_true rfl) ?_
              refine lv_if_ne (tgt := 448) hx hb dX10_line0_443 (by decide) (fun g => absurd (by decide) g) (fun _ => ?_)
              refine lv_iconst (v := 0) hx hb dX10_line0_446 (by decide) ?_
              exact ret_i (v := 0) hx hb hr hlocks hS hP hD dX10_line0_447 rfl (Nat.le_of_ble_eq_true rfl) (Nat.le_of_ble_eq_true rfl) (Or.inl ⟨F83, y31, y32, y33, y34, y35, y84, y33, y36, x_got, x_onces, f_h, f_names, (SAME.tr (SAME.tr SAME.rf t37 (by decide)) t85 (by decide)), (SAME.at t85 (by decide) t38), t39, (SAME.at t85 (by decide) t40), t41, (SAME.at t85 (by decide) t42), (SAME.at t85 (by decide) t44), (SAME.at t85 (by decide) t46), t86, (ir_wk t87 (by decide) (by decide)), t88, (SAME.at t85 (by decide) t47), (SAME.at t85 (by decide) (SAME.at t37 (by decide) e_got)), (SAME.at t85 (by decide) (SAME.at t37 (by decide) e_onces)), s_h_0, s_h_5, s_h_6, (SG.wk r28 (by decide) (by decide)), s_h_44, (by omega), rfl, rfl⟩)
          · have dc26 : v24.toInt = 6 := eq_i (a := v24.toInt) (b := 6) rfl rfl c26
            have k204 : 6 ≤ v24.toInt ∧ v24.toInt ≤ 6 := ⟨Int.le_trans (Int.le_refl _) (Int.le_of_eq dc26.symm), k25.2⟩
            refine lv_aload_n hx hb dX10_line0_425 rfl (lv_at hl 2 rfl) ?_
            refine lv_iconst (v := 4) hx hb dX10_line0_426 (by decide) ?_
            refine call_Vi (wr := [(h_tape, .inl (cB, 940, .inl f_tape)), (h_h, .inl (cI, 104, .inl f_h)), (h_names, .inl (cJ, 36, .inr (.inl f_names))), (h_reserved, .inl (cJ, 23, .inr (.inl f_reserved)))]) (As := [.int 4]) (rest := []) hx hb hml hown hw (m_X10_bad l D cI cJ cB cP cM cZ h0 Fh x_at 4 _ e_at) wV_X10_205_X10_bad dX10_line0_427 hK hP hD hS hA [4] [0, 1, 2, 3] rfl rfl (by decide) (by decide) (by decide) 0 10 rfl rfl GG.fb hG.at hl.1 rfl (Nat.le_of_ble_eq_true rfl) ⟨(Nat.le_of_ble_eq_true rfl), (Nat.le_of_ble_eq_true rfl)⟩ ⟨(Nat.le_of_ble_eq_true rfl), (Nat.le_of_ble_eq_true rfl)⟩ (fun r205 u H locs hp hP hD hS => ?_)
            have zl4 : (4 : Int32).toInt = 4 := by decide
            obtain ⟨F206, t207, t208, t209, rfl, rfl⟩ := hp
            have hP : va_P D vwCl [(h_tape, .inl (cB, 940, .inl f_tape)), (h_h, .inl (cI, 104, .inl f_h)), (h_names, .inl (cJ, 36, .inr (.inl f_names))), (h_reserved, .inl (cJ, 23, .inr (.inl f_reserved))), (h0, .inr (10, vL 67 F206))] H := hP
            have hD : va_D A [(h_tape, .inl (cB, 940, .inl f_tape)), (h_h, .inl (cI, 104, .inl f_h)), (h_names, .inl (cJ, 36, .inr (.inl f_names))), (h_reserved, .inl (cJ, 23, .inr (.inl f_reserved))), (h0, .inr (10, vL 67 F206))] := hD
            refine W.widen (k := 0) (n := 0) (Nat.le_of_ble_eq_true rfl) (Nat.le_of_ble_eq_true rfl) ?_
            exact ret_i (v := 0) hx hb hr hlocks hS (hP.sub (ws' := [(h0, .inr (10, vL 67 F206)), (h_tape, .inl (cB, 940, .inl f_tape)), (h_h, .inl (cI, 104, .inl f_h)), (h_names, .inl (cJ, 36, .inr (.inl f_names))), (h_reserved, .inl (cJ, 23, .inr (.inl f_reserved)))]) [4, 0, 1, 2, 3] rfl) (hD.sub (ws' := [(h0, .inr (10, vL 67 F206)), (h_tape, .inl (cB, 940, .inl f_tape)), (h_h, .inl (cI, 104, .inl f_h)), (h_names, .inl (cJ, 36, .inr (.inl f_names))), (h_reserved, .inl (cJ, 23, .inr (.inl f_reserved)))]) [4, 0, 1, 2, 3] (by decide) rfl) dX10_line0_430 rfl (Nat.le_of_ble_eq_true rfl) (Nat.le_of_ble_eq_true rfl) (Or.inl ⟨F206, x_p, x_token, x_at, x_span, x_number, 4, x_at, x_word, x_got, x_onces, f_h, f_names, (SAME.tr SAME.rf t207 (by decide)), (SAME.at t207 (by decide) e_p), i_x_p, (SAME.at t207 (by decide) e_token), i_x_token, (SAME.at t207 (by decide) e_at), (SAME.at t207 (by decide) e_span), (SAME.at t207 (by decide) e_number), t208, (show 1 ≤ (4 : Int32).toInt ∧ (4 : Int32).toInt ≤ 4 by decide), t209, (SAME.at t207 (by decide) e_word), (SAME.at t207 (by decide) e_got), (SAME.at t207 (by decide) e_onces), s_h_0, s_h_5, s_h_6, s_h_7, s_h_44, (by have zl4 : (4 : Int32).toInt = 4 := (by decide); omega), rfl, rfl⟩)
        · have dc22 : r18.toInt = 0 := eq_i (a := r18.toInt) (b := 0) rfl rfl c22
          have k211 : 0 ≤ r18.toInt ∧ r18.toInt ≤ 0 := ⟨t19.1, Int.le_trans (Int.le_of_eq dc22) (Int.le_refl _)⟩
          refine lv_aload_n hx hb dX10_line0_405 rfl (lv_at hl 1 rfl) ?_
          refine lv_iconst (v := 1) hx hb dX10_line0_406 (by decide) ?_
          refine call_Vi (wr := [(h_tape, .inl (cB, 940, .inl f_tape)), (h_h, .inl (cI, 104, .inl f_h)), (h_names, .inl (cJ, 36, .inr (.inl f_names))), (h_reserved, .inl (cJ, 23, .inr (.inl f_reserved)))]) (As := [.int 1]) (rest := []) hx hb hml hown hw (m_X10_bad l D cI cJ cB cP cM cZ h0 Fh x_at 1 _ e_at) wV_X10_205_X10_bad dX10_line0_407 hK hP hD hS hA [4] [0, 1, 2, 3] rfl rfl (by decide) (by decide) (by decide) 0 10 rfl rfl GG.fb hG.at hl.1 rfl (Nat.le_of_ble_eq_true rfl) ⟨(Nat.le_of_ble_eq_true rfl), (Nat.le_of_ble_eq_true rfl)⟩ ⟨(Nat.le_of_ble_eq_true rfl), (Nat.le_of_ble_eq_true rfl)⟩ (fun r212 u H locs hp hP hD hS => ?_)
          have zl1 : (1 : Int32).toInt = 1 := by decide
          obtain ⟨F213, t214, t215, t216, rfl, rfl⟩ := hp
          have hP : va_P D vwCl [(h_tape, .inl (cB, 940, .inl f_tape)), (h_h, .inl (cI, 104, .inl f_h)), (h_names, .inl (cJ, 36, .inr (.inl f_names))), (h_reserved, .inl (cJ, 23, .inr (.inl f_reserved))), (h0, .inr (10, vL 67 F213))] H := hP
          have hD : va_D A [(h_tape, .inl (cB, 940, .inl f_tape)), (h_h, .inl (cI, 104, .inl f_h)), (h_names, .inl (cJ, 36, .inr (.inl f_names))), (h_reserved, .inl (cJ, 23, .inr (.inl f_reserved))), (h0, .inr (10, vL 67 F213))] := hD
          refine W.widen (k := 0) (n := 0) (Nat.le_of_ble_eq_true rfl) (Nat.le_of_ble_eq_true rfl) ?_
          exact ret_i (v := 0) hx hb hr hlocks hS (hP.sub (ws' := [(h0, .inr (10, vL 67 F213)), (h_tape, .inl (cB, 940, .inl f_tape)), (h_h, .inl (cI, 104, .inl f_h)), (h_names, .inl (cJ, 36, .inr (.inl f_names))), (h_reserved, .inl (cJ, 23, .inr (.inl f_reserved)))]) [4, 0, 1, 2, 3] rfl) (hD.sub (ws' := [(h0, .inr (10, vL 67 F213)), (h_tape, .inl (cB, 940, .inl f_tape)), (h_h, .inl (cI, 104, .inl f_h)), (h_names, .inl (cJ, 36, .inr (.inl f_names))), (h_reserved, .inl (cJ, 23, .inr (.inl f_reserved)))]) [4, 0, 1, 2, 3] (by decide) rfl) dX10_line0_410 rfl (Nat.le_of_ble_eq_true rfl) (Nat.le_of_ble_eq_true rfl) (Or.inl ⟨F213, x_p, x_token, x_at, x_span, x_number, 1, x_at, x_word, x_got, x_onces, f_h, f_names, (SAME.tr SAME.rf t214 (by decide)), (SAME.at t214 (by decide) e_p), i_x_p, (SAME.at t214 (by decide) e_token), i_x_token, (SAME.at t214 (by decide) e_at), (SAME.at t214 (by decide) e_span), (SAME.at t214 (by decide) e_number), t215, (show 1 ≤ (1 : Int32).toInt ∧ (1 : Int32).toInt ≤ 4 by decide), t216, (SAME.at t214 (by decide) e_word), (SAME.at t214 (by decide) e_got), (SAME.at t214 (by decide) e_onces), s_h_0, s_h_5, s_h_6, s_h_7, s_h_44, (by have zl1 : (1 : Int32).toInt = 1 := (by decide); omega), rfl, rfl⟩)
      · have dc16 : r12.toInt ≠ 0 := ne_i (a := r12.toInt) (b := 0) rfl rfl c16
        have k218 : 1 ≤ r12.toInt ∧ r12.toInt ≤ 1 := ⟨ne_lo dc16 t13.1 ⟨Int.le_refl _, Int.le_refl _⟩ (by decide), t13.2⟩
        refine lv_aload_n hx hb dX10_line0_258 rfl (lv_at hl 1 rfl) ?_
        refine get_f (D := D) (ci := 10) (v := .ref h_h) (C := RX10) (T := TX10) (N := 67) hx hb hw inAX10 hown hK hP 4 rfl rfl 7 (by decide) (hw _ q_1268) (fun _ h9 => h9) e_h dX10_line0_259 ?_
        refine lv_bipush (v := 6) hx hb dX10_line0_262 (by decide) ?_
        refine iald_n hx hb hK hP 1 0 rfl rfl 6 rfl (Nat.le_of_ble_eq_true rfl) (Nat.le_of_ble_eq_true rfl) rfl dX10_line0_264 ?_
        refine lv_topi (fun v219 ev219 => ?_)
        have k220 : 0 ≤ v219.toInt ∧ v219.toInt ≤ 12 := by rw [ev219]; exact s_h_6.atN 6 (by decide) (by decide)
        refine lv_istore_n (lv' := [(2, .int v219), (1, .int r1), (0, .ref h0)]) hx hb dX10_line0_265 rfl hl (by decide) rfl (fun ls hl => ?_)
        refine lv_iload_n hx hb dX10_line0_266 rfl (lv_at hl 0 rfl) ?_
        refine lv_bipush (v := 12) hx hb dX10_line0_267 (by decide) ?_
        refine lv_icmp_ne (tgt := 278) hx hb dX10_line0_269 (by decide) (fun c221 => ?_) (fun c221 => ?_)
        · have dc221 : v219.toInt ≠ 12 := ne_i (a := v219.toInt) (b := 12) rfl rfl c221
          have k222 : 0 ≤ v219.toInt ∧ v219.toInt ≤ 11 := ⟨k220.1, ne_hi dc221 k220.2 ⟨Int.le_refl _, Int.le_refl _⟩ (by decide)⟩
          have r223 : SG 6 6 0 11 f_h := SG.one ev219 k222
          refine lv_aload_n hx hb dX10_line0_278 rfl (lv_at hl 2 rfl) ?_
          refine call_Vv (wr := [(h_h, .inl (cI, 104, .inl f_h)), (h_names, .inl (cJ, 36, .inr (.inl f_names))), (h_reserved, .inl (cJ, 23, .inr (.inl f_reserved)))]) (As := []) (rest := []) hx hb hml hown hw (m_X10_next l D cI cJ cB cP cM cZ h0 h_tape Fh x_size x_p x_limit x_token x_number x_word f_tape _ e_tape e_size i_x_size e_p i_x_p e_limit i_x_limit e_token i_x_token e_number e_word (by omega)) wV_X10_208_X10_next dX10_line0_279 hK hP hD hS hA [4, 0] [1, 2, 3] rfl rfl (by decide) (by decide) (by decide) 0 10 rfl rfl GG.fb hG.at hl.1 rfl (Nat.le_of_ble_eq_true rfl) ⟨(Nat.le_of_ble_eq_true rfl), (Nat.le_of_ble_eq_true rfl)⟩ ⟨(Nat.le_of_ble_eq_true rfl), (Nat.le_of_ble_eq_true rfl)⟩ (fun u H locs hp hP hD hS => ?_)
          obtain ⟨F225, y226, y227, y228, y229, y230, y231, t232, t233, t234, t235, t236, t237, t238, t239, t240, t241, t242, t243, t244, t245, rfl⟩ := hp
          have hP : va_P D vwCl [(h_h, .inl (cI, 104, .inl f_h)), (h_names, .inl (cJ, 36, .inr (.inl f_names))), (h_reserved, .inl (cJ, 23, .inr (.inl f_reserved))), (h0, .inr (10, vL 67 F225)), (h_tape, .inl (cB, 940, .inl f_tape))] H := hP
          have hD : va_D A [(h_h, .inl (cI, 104, .inl f_h)), (h_names, .inl (cJ, 36, .inr (.inl f_names))), (h_reserved, .inl (cJ, 23, .inr (.inl f_reserved))), (h0, .inr (10, vL 67 F225)), (h_tape, .inl (cB, 940, .inl f_tape))] := hD
          refine W.widen (k := 0) (n := 0) (Nat.le_of_ble_eq_true rfl) (Nat.le_of_ble_eq_true rfl) ?_
          refine lv_aload_n hx hb dX10_line0_282 rfl (lv_at hl 2 rfl) ?_
          refine lv_iconst (v := 1) hx hb dX10_line0_283 (by decide) ?_
          refine lv_bipush (v := 9) hx hb dX10_line0_284 (by decide) ?_
          have n247 : F225 1 = .ref h_tape := (SAME.at t232 (by decide) e_tape)
          have n248 : F225 3 = .int x_size := (SAME.at t232 (by decide) e_size)
          have n249 : F225 5 = .int x_limit := (SAME.at t232 (by decide) e_limit)
          have n250 : F225 19 = .int x_got := (SAME.at t232 (by decide) e_got)
          refine call_Vi (wr := [(h_h, .inl (cI, 104, .inl f_h)), (h_names, .inl (cJ, 36, .inr (.inl f_names))), (h_reserved, .inl (cJ, 23, .inr (.inl f_reserved)))]) (As := [.int 1, .int 9]) (rest := []) hx hb hml hown hw (m_X10_takes l D cI cJ cB cP cM cZ h0 h_tape F225 x_size y226 x_limit y227 y228 y230 y231 x_got f_tape 1 9 _ n247 n248 i_x_size t233 t234 n249 i_x_limit t235 t236 t237 t241 t242 n250 (by omega)) wV_X10_242_X10_takes dX10_line0_286 hK hP hD hS hA [3, 4] [0, 1, 2] rfl rfl (by decide) (by decide) (by decide) 0 10 rfl rfl GG.fb hG.at hl.1 rfl (Nat.le_of_ble_eq_true rfl) ⟨(Nat.le_of_ble_eq_true rfl), (Nat.le_of_ble_eq_true rfl)⟩ ⟨(Nat.le_of_ble_eq_true rfl), (Nat.le_of_ble_eq_true rfl)⟩ (fun r251 u H locs hp hP hD hS => ?_)
          have zl1 : (1 : Int32).toInt = 1 := by decide
          have zl9 : (9 : Int32).toInt = 9 := by decide
          rcases hp with hp | hp
          · obtain ⟨F252, y253, t254, t255, t256, t257, rfl, rfl⟩ := hp
            have hP : va_P D vwCl [(h_h, .inl (cI, 104, .inl f_h)), (h_names, .inl (cJ, 36, .inr (.inl f_names))), (h_reserved, .inl (cJ, 23, .inr (.inl f_reserved))), (h0, .inr (10, vL 67 F252)), (h_tape, .inl (cB, 940, .inl f_tape))] H := hP
            have hD : va_D A [(h_h, .inl (cI, 104, .inl f_h)), (h_names, .inl (cJ, 36, .inr (.inl f_names))), (h_reserved, .inl (cJ, 23, .inr (.inl f_reserved))), (h0, .inr (10, vL 67 F252)), (h_tape, .inl (cB, 940, .inl f_tape))] := hD
            refine W.widen (k := 0) (n := 0) (Nat.le_of_ble_eq_true rfl) (Nat.le_of_ble_eq_true rfl) ?_
            refine lv_if_ne (tgt := 294) hx hb dX10_line0_289 (by decide) (fun g => absurd (by decide) g) (fun _ => ?_)
            refine lv_iconst (v := 0) hx hb dX10_line0_292 (by decide) ?_
            exact ret_i (v := 0) hx hb hr hlocks hS (hP.sub (ws' := [(h0, .inr (10, vL 67 F252)), (h_tape, .inl (cB, 940, .inl f_tape)), (h_h, .inl (cI, 104, .inl f_h)), (h_names, .inl (cJ, 36, .inr (.inl f_names))), (h_reserved, .inl (cJ, 23, .inr (.inl f_reserved)))]) [3, 4, 0, 1, 2] rfl) (hD.sub (ws' := [(h0, .inr (10, vL 67 F252)), (h_tape, .inl (cB, 940, .inl f_tape)), (h_h, .inl (cI, 104, .inl f_h)), (h_names, .inl (cJ, 36, .inr (.inl f_names))), (h_reserved, .inl (cJ, 23, .inr (.inl f_reserved)))]) [3, 4, 0, 1, 2] (by decide) rfl) dX10_line0_293 rfl (Nat.le_of_ble_eq_true rfl) (Nat.le_of_ble_eq_true rfl) (Or.inl ⟨F252, y226, y227, y228, y229, y230, y253, y228, y231, x_got, x_onces, f_h, f_names, (SAME.tr (SAME.tr SAME.rf t232 (by decide)) t254 (by decide)), (SAME.at t254 (by decide) t233), t234, (SAME.at t254 (by decide) t235), t236, (SAME.at t254 (by decide) t237), (SAME.at t254 (by decide) t239), (SAME.at t254 (by decide) t241), t255, (ir_wk t256 (by decide) (by decide)), t257, (SAME.at t254 (by decide) t242), (SAME.at t254 (by decide) n250), (SAME.at t254 (by decide) (SAME.at t232 (by decide) e_onces)), s_h_0, s_h_5, (SG.wk r223 (by decide) (by decide)), s_h_7, s_h_44, (by omega), rfl, rfl⟩)
          · refine hp.elim (fun F258 h9z0 => h9z0.elim (fun y259 h9z1 => h9z1.elim (fun y260 h9z2 => h9z2.elim (fun y261 h9z3 => h9z3.elim (fun y262 h9z4 => h9z4.elim (fun y263 h9z5 => h9z5.elim (fun y264 h9z6 => h9z6.elim (fun y265 h9z7 => h9z7.elim (fun t266 h9z8 => h9z8.elim (fun t267 h9z9 => h9z9.elim (fun t268 h9z10 => h9z10.elim (fun t269 h9z11 => h9z11.elim (fun t270 h9z12 => h9z12.elim (fun t271 h9z13 => h9z13.elim (fun t272 h9z14 => h9z14.elim (fun t273 h9z15 => h9z15.elim (fun t274 h9z16 => h9z16.elim (fun t275 h9z17 => h9z17.elim (fun t276 h9z18 => h9z18.elim (fun t277 h9z19 => h9z19.elim (fun t278 h9z20 => h9z20.elim (fun t279 h9z21 => h9z21.elim (fun t280 h9z22 => h9z22.elim (fun t281 h9z23 => h9z23.elim (fun t282 h9z24 => h9z24.elim (fun t283 h9z25 => h9z25.elim (fun t284 h9z26 => h9z26.elim (fun heq927 h9z27 => ?_))))))))))))))))))))))))))))
            clear h9z0 h9z1 h9z2 h9z3 h9z4 h9z5 h9z6 h9z7 h9z8 h9z9 h9z10 h9z11 h9z12 h9z13 h9z14 h9z15 h9z16 h9z17 h9z18 h9z19 h9z20 h9z21 h9z22 h9z23 h9z24 h9z25 h9z26
            subst heq927
            subst h9z27
            clear t244 t245
            have hP : va_P D vwCl [(h_h, .inl (cI, 104, .inl f_h)), (h_names, .inl (cJ, 36, .inr (.inl f_names))), (h_reserved, .inl (cJ, 23, .inr (.inl f_reserved))), (h0, .inr (10, vL 67 F258)), (h_tape, .inl (cB, 940, .inl f_tape))] H := hP
            have hD : va_D A [(h_h, .inl (cI, 104, .inl f_h)), (h_names, .inl (cJ, 36, .inr (.inl f_names))), (h_reserved, .inl (cJ, 23, .inr (.inl f_reserved))), (h0, .inr (10, vL 67 F258)), (h_tape, .inl (cB, 940, .inl f_tape))] := hD
            refine W.widen (k := 0) (n := 0) (Nat.le_of_ble_eq_true rfl) (Nat.le_of_ble_eq_true rfl) ?_
            have k286 : 2 ≤ y227.toInt ∧ y227.toInt ≤ 2 := ⟨Int.le_trans (Int.le_refl _) (Int.le_of_eq t278.symm), Int.le_trans (Int.le_of_eq t278) (Int.le_refl _)⟩
            have k287 : 1 ≤ y230.toInt ∧ y230.toInt ≤ 2147483647 := ⟨Int.le_trans (Int.le_refl _) t279, (ir_any _).2⟩
            have k288 : 1 ≤ y230.toInt ∧ y230.toInt ≤ 9 := ⟨k287.1, Int.le_trans t280 (Int.le_refl _)⟩
            refine lv_if_ne (tgt := 294) hx hb dX10_line0_289 (by decide) (fun _ => ?_) (fun g => absurd g (by decide))
            refine lv_aload_n hx hb dX10_line0_294 rfl (lv_at hl 2 rfl) ?_
            have n289 : F225 7 = .ref h_h := (SAME.at t232 (by decide) e_h)
            have n290 : F258 7 = .ref h_h := (SAME.at t266 (by decide) n289)
            refine get_f (D := D) (ci := 10) (v := .ref h_h) (C := RX10) (T := TX10) (N := 67) hx hb hw inAX10 hown hK hP 3 rfl rfl 7 (by decide) (hw _ q_1268) (fun _ h9 => h9) n290 dX10_line0_295 ?_
            refine lv_bipush (v := 44) hx hb dX10_line0_298 (by decide) ?_
            refine lv_iload_n hx hb dX10_line0_300 rfl (lv_at hl 0 rfl) ?_
            refine lv_iadd hx hb dX10_line0_301 ?_
            refine lv_topi (fun v291 ev291 => ?_)
            have bv291 : v291.toInt = 44 + v219.toInt := by rw [ev291]; exact add_k rfl rfl ⟨Int.le_refl _, Int.le_refl _⟩ k222 (by decide)
            have k292 : 44 ≤ v291.toInt ∧ v291.toInt ≤ 55 := add_r bv291 ⟨Int.le_refl _, Int.le_refl _⟩ k222 (by decide)
            refine lv_aload_n hx hb dX10_line0_302 rfl (lv_at hl 2 rfl) ?_
            refine get_f (D := D) (ci := 10) (v := .int y265) (C := RX10) (T := TX10) (N := 67) hx hb hw inAX10 hown hK hP 3 rfl rfl 19 (by decide) (hw _ q_1280) (fun _ h9 => h9) t277 dX10_line0_303 ?_
            obtain ⟨g293, eg293⟩ : ∃ z : Nat → Int32, upd f_h v291.toNatClampNeg y265 = z := ⟨_, rfl⟩
            have r294 : SG 0 0 0 40 g293 := by rw [← eg293]; exact s_h_0.up (Int.le_trans (by decide) k292.1) (Or.inr (Or.inl (dec_lt k292.1 (by decide))))
            have r295 : SG 44 55 0 9 g293 := by rw [← eg293]; exact s_h_44.up (Int.le_trans (by decide) k292.1) (by omega)
            have r296 : SG 5 5 0 12 g293 := by rw [← eg293]; exact s_h_5.up (Int.le_trans (by decide) k292.1) (Or.inr (Or.inl (dec_lt k292.1 (by decide))))
            have r297 : SG 6 6 0 11 g293 := by rw [← eg293]; exact r223.up (Int.le_trans (by decide) k292.1) (Or.inr (Or.inl (dec_lt k292.1 (by decide))))
            have r298 : SG 7 7 0 6 g293 := by rw [← eg293]; exact s_h_7.up (Int.le_trans (by decide) k292.1) (Or.inr (Or.inl (dec_lt k292.1 (by decide))))
            refine iast_g hx hb hK hP hD hS 0 0 rfl rfl (ix_k k292 (by decide) (by decide)) eg293 dX10_line0_306 (fun H locs hP hD hS => ?_)
            have hP : va_P D vwCl [(h_h, .inl (cI, 104, .inl g293)), (h_names, .inl (cJ, 36, .inr (.inl f_names))), (h_reserved, .inl (cJ, 23, .inr (.inl f_reserved))), (h0, .inr (10, vL 67 F258)), (h_tape, .inl (cB, 940, .inl f_tape))] H := hP
            have hD : va_D A [(h_h, .inl (cI, 104, .inl g293)), (h_names, .inl (cJ, 36, .inr (.inl f_names))), (h_reserved, .inl (cJ, 23, .inr (.inl f_reserved))), (h0, .inr (10, vL 67 F258)), (h_tape, .inl (cB, 940, .inl f_tape))] := hD
            refine lv_aload_n hx hb dX10_line0_307 rfl (lv_at hl 2 rfl) ?_
            refine lv_iconst (v := 0) hx hb dX10_line0_308 (by decide) ?_
            refine lv_bipush (v := 9) hx hb dX10_line0_309 (by decide) ?_
            have n299 : F258 1 = .ref h_tape := (SAME.at t266 (by decide) n247)
            have n300 : F258 3 = .int x_size := (SAME.at t266 (by decide) n248)
            have n301 : F258 5 = .int x_limit := (SAME.at t266 (by decide) n249)
            refine call_Vi (wr := [(h_h, .inl (cI, 104, .inl g293)), (h_names, .inl (cJ, 36, .inr (.inl f_names))), (h_reserved, .inl (cJ, 23, .inr (.inl f_reserved)))]) (As := [.int 0, .int 9]) (rest := []) hx hb hml hown hw (m_X10_takes l D cI cJ cB cP cM cZ h0 h_tape F258 x_size y259 x_limit y260 y261 y263 y264 y265 f_tape 0 9 _ n299 n300 i_x_size t267 t268 n301 i_x_limit t269 t270 t271 t275 t276 t277 (by omega)) wV_X10_242_X10_takes dX10_line0_311 hK hP hD hS hA [3, 4] [0, 1, 2] rfl rfl (by decide) (by decide) (by decide) 0 10 rfl rfl GG.fb hG.at hl.1 rfl (Nat.le_of_ble_eq_true rfl) ⟨(Nat.le_of_ble_eq_true rfl), (Nat.le_of_ble_eq_true rfl)⟩ ⟨(Nat.le_of_ble_eq_true rfl), (Nat.le_of_ble_eq_true rfl)⟩ (fun r302 u H locs hp hP hD hS => ?_)
            have zl0 : (0 : Int32).toInt = 0 := by decide
            rcases hp with hp | hp
            · obtain ⟨F303, y304, t305, t306, t307, t308, rfl, rfl⟩ := hp
              have hP : va_P D vwCl [(h_h, .inl (cI, 104, .inl g293)), (h_names, .inl (cJ, 36, .inr (.inl f_names))), (h_reserved, .inl (cJ, 23, .inr (.inl f_reserved))), (h0, .inr (10, vL 67 F303)), (h_tape, .inl (cB, 940, .inl f_tape))] H := hP
              have hD : va_D A [(h_h, .inl (cI, 104, .inl g293)), (h_names, .inl (cJ, 36, .inr (.inl f_names))), (h_reserved, .inl (cJ, 23, .inr (.inl f_reserved))), (h0, .inr (10, vL 67 F303)), (h_tape, .inl (cB, 940, .inl f_tape))] := hD
              refine W.widen (k := 0) (n := 0) (Nat.le_of_ble_eq_true rfl) (Nat.le_of_ble_eq_true rfl) ?_
              refine lv_if_ne (tgt := 319) hx hb dX10_line0_314 (by decide) (fun g => absurd (by decide) g) (fun _ => ?_)
              refine lv_iconst (v := 0) hx hb dX10_line0_317 (by decide) ?_
              exact ret_i (v := 0) hx hb hr hlocks hS (hP.sub (ws' := [(h0, .inr (10, vL 67 F303)), (h_tape, .inl (cB, 940, .inl f_tape)), (h_h, .inl (cI, 104, .inl g293)), (h_names, .inl (cJ, 36, .inr (.inl f_names))), (h_reserved, .inl (cJ, 23, .inr (.inl f_reserved)))]) [3, 4, 0, 1, 2] rfl) (hD.sub (ws' := [(h0, .inr (10, vL 67 F303)), (h_tape, .inl (cB, 940, .inl f_tape)), (h_h, .inl (cI, 104, .inl g293)), (h_names, .inl (cJ, 36, .inr (.inl f_names))), (h_reserved, .inl (cJ, 23, .inr (.inl f_reserved)))]) [3, 4, 0, 1, 2] (by decide) rfl) dX10_line0_318 rfl (Nat.le_of_ble_eq_true rfl) (Nat.le_of_ble_eq_true rfl) (Or.inl ⟨F303, y259, y260, y261, y262, y263, y304, y261, y264, y265, x_onces, g293, f_names, (SAME.tr (SAME.tr (SAME.tr SAME.rf t232 (by decide)) t266 (by decide)) t305 (by decide)), (SAME.at t305 (by decide) t267), t268, (SAME.at t305 (by decide) t269), t270, (SAME.at t305 (by decide) t271), (SAME.at t305 (by decide) t273), (SAME.at t305 (by decide) t275), t306, (ir_wk t307 (by decide) (by decide)), t308, (SAME.at t305 (by decide) t276), (SAME.at t305 (by decide) t277), (SAME.at t305 (by decide) (SAME.at t266 (by decide) (SAME.at t232 (by decide) e_onces))), r294, r296, (SG.wk r297 (by decide) (by decide)), r298, r295, (by omega), rfl, rfl⟩)
            · refine hp.elim (fun F309 h9z0 => h9z0.elim (fun y310 h9z1 => h9z1.elim (fun y311 h9z2 => h9z2.elim (fun y312 h9z3 => h9z3.elim (fun y313 h9z4 => h9z4.elim (fun y314 h9z5 => h9z5.elim (fun y315 h9z6 => h9z6.elim (fun y316 h9z7 => h9z7.elim (fun t317 h9z8 => h9z8.elim (fun t318 h9z9 => h9z9.elim (fun t319 h9z10 => h9z10.elim (fun t320 h9z11 => h9z11.elim (fun t321 h9z12 => h9z12.elim (fun t322 h9z13 => h9z13.elim (fun t323 h9z14 => h9z14.elim (fun t324 h9z15 => h9z15.elim (fun t325 h9z16 => h9z16.elim (fun t326 h9z17 => h9z17.elim (fun t327 h9z18 => h9z18.elim (fun t328 h9z19 => h9z19.elim (fun t329 h9z20 => h9z20.elim (fun t330 h9z21 => h9z21.elim (fun t331 h9z22 => h9z22.elim (fun t332 h9z23 => h9z23.elim (fun t333 h9z24 => h9z24.elim (fun t334 h9z25 => h9z25.elim (fun t335 h9z26 => h9z26.elim (fun heq927 h9z27 => ?_))))))))))))))))))))))))))))
              clear h9z0 h9z1 h9z2 h9z3 h9z4 h9z5 h9z6 h9z7 h9z8 h9z9 h9z10 h9z11 h9z12 h9z13 h9z14 h9z15 h9z16 h9z17 h9z18 h9z19 h9z20 h9z21 h9z22 h9z23 h9z24 h9z25 h9z26
              subst heq927
              subst h9z27
              clear t283 t284
              have hP : va_P D vwCl [(h_h, .inl (cI, 104, .inl g293)), (h_names, .inl (cJ, 36, .inr (.inl f_names))), (h_reserved, .inl (cJ, 23, .inr (.inl f_reserved))), (h0, .inr (10, vL 67 F309)), (h_tape, .inl (cB, 940, .inl f_tape))] H := hP
              have hD : va_D A [(h_h, .inl (cI, 104, .inl g293)), (h_names, .inl (cJ, 36, .inr (.inl f_names))), (h_reserved, .inl (cJ, 23, .inr (.inl f_reserved))), (h0, .inr (10, vL 67 F309)), (h_tape, .inl (cB, 940, .inl f_tape))] := hD
              refine W.widen (k := 0) (n := 0) (Nat.le_of_ble_eq_true rfl) (Nat.le_of_ble_eq_true rfl) ?_
              have k337 : 2 ≤ y260.toInt ∧ y260.toInt ≤ 2 := ⟨Int.le_trans (Int.le_refl _) (Int.le_of_eq t329.symm), Int.le_trans (Int.le_of_eq t329) (Int.le_refl _)⟩
              have k338 : 0 ≤ y263.toInt ∧ y263.toInt ≤ 2147483647 := ⟨Int.le_trans (Int.le_refl _) t330, (ir_any _).2⟩
              have k339 : 0 ≤ y263.toInt ∧ y263.toInt ≤ 9 := ⟨k338.1, Int.le_trans t331 (Int.le_refl _)⟩
              refine lv_if_ne (tgt := 319) hx hb dX10_line0_314 (by decide) (fun _ => ?_) (fun g => absurd g (by decide))
              refine lv_aload_n hx hb dX10_line0_319 rfl (lv_at hl 2 rfl) ?_
              have n340 : F309 7 = .ref h_h := (SAME.at t317 (by decide) n290)
              refine get_f (D := D) (ci := 10) (v := .ref h_h) (C := RX10) (T := TX10) (N := 67) hx hb hw inAX10 hown hK hP 3 rfl rfl 7 (by decide) (hw _ q_1268) (fun _ h9 => h9) n340 dX10_line0_320 ?_
              refine lv_bipush (v := 56) hx hb dX10_line0_323 (by decide) ?_
              refine lv_iload_n hx hb dX10_line0_325 rfl (lv_at hl 0 rfl) ?_
              refine lv_iadd hx hb dX10_line0_326 ?_
              refine lv_topi (fun v341 ev341 => ?_)
              have bv341 : v341.toInt = 56 + v219.toInt := by rw [ev341]; exact add_k rfl rfl ⟨Int.le_refl _, Int.le_refl _⟩ k222 (by decide)
              have k342 : 56 ≤ v341.toInt ∧ v341.toInt ≤ 67 := add_r bv341 ⟨Int.le_refl _, Int.le_refl _⟩ k222 (by decide)
              refine lv_aload_n hx hb dX10_line0_327 rfl (lv_at hl 2 rfl) ?_
              refine get_f (D := D) (ci := 10) (v := .int y316) (C := RX10) (T := TX10) (N := 67) hx hb hw inAX10 hown hK hP 3 rfl rfl 19 (by decide) (hw _ q_1280) (fun _ h9 => h9) t328 dX10_line0_328 ?_
              obtain ⟨g343, eg343⟩ : ∃ z : Nat → Int32, upd g293 v341.toNatClampNeg y316 = z := ⟨_, rfl⟩
              have r344 : SG 0 0 0 40 g343 := by rw [← eg343]; exact r294.up (Int.le_trans (by decide) k342.1) (Or.inr (Or.inl (dec_lt k342.1 (by decide))))
              have r345 : SG 44 55 0 9 g343 := by rw [← eg343]; exact r295.up (Int.le_trans (by decide) k342.1) (Or.inr (Or.inl (dec_lt k342.1 (by decide))))
              have r346 : SG 5 5 0 12 g343 := by rw [← eg343]; exact r296.up (Int.le_trans (by decide) k342.1) (Or.inr (Or.inl (dec_lt k342.1 (by decide))))
              have r347 : SG 6 6 0 11 g343 := by rw [← eg343]; exact r297.up (Int.le_trans (by decide) k342.1) (Or.inr (Or.inl (dec_lt k342.1 (by decide))))
              have r348 : SG 7 7 0 6 g343 := by rw [← eg343]; exact r298.up (Int.le_trans (by decide) k342.1) (Or.inr (Or.inl (dec_lt k342.1 (by decide))))
              refine iast_g hx hb hK hP hD hS 0 0 rfl rfl (ix_k k342 (by decide) (by decide)) eg343 dX10_line0_331 (fun H locs hP hD hS => ?_)
              have hP : va_P D vwCl [(h_h, .inl (cI, 104, .inl g343)), (h_names, .inl (cJ, 36, .inr (.inl f_names))), (h_reserved, .inl (cJ, 23, .inr (.inl f_reserved))), (h0, .inr (10, vL 67 F309)), (h_tape, .inl (cB, 940, .inl f_tape))] H := hP
              have hD : va_D A [(h_h, .inl (cI, 104, .inl g343)), (h_names, .inl (cJ, 36, .inr (.inl f_names))), (h_reserved, .inl (cJ, 23, .inr (.inl f_reserved))), (h0, .inr (10, vL 67 F309)), (h_tape, .inl (cB, 940, .inl f_tape))] := hD
              refine lv_aload_n hx hb dX10_line0_332 rfl (lv_at hl 2 rfl) ?_
              refine lv_iconst (v := 0) hx hb dX10_line0_333 (by decide) ?_
              refine lv_bipush (v := 9) hx hb dX10_line0_334 (by decide) ?_
              have n349 : F309 1 = .ref h_tape := (SAME.at t317 (by decide) n299)
              have n350 : F309 3 = .int x_size := (SAME.at t317 (by decide) n300)
              have n351 : F309 5 = .int x_limit := (SAME.at t317 (by decide) n301)
              refine call_Vi (wr := [(h_h, .inl (cI, 104, .inl g343)), (h_names, .inl (cJ, 36, .inr (.inl f_names))), (h_reserved, .inl (cJ, 23, .inr (.inl f_reserved)))]) (As := [.int 0, .int 9]) (rest := []) hx hb hml hown hw (m_X10_takes l D cI cJ cB cP cM cZ h0 h_tape F309 x_size y310 x_limit y311 y312 y314 y315 y316 f_tape 0 9 _ n349 n350 i_x_size t318 t319 n351 i_x_limit t320 t321 t322 t326 t327 t328 (by omega)) wV_X10_242_X10_takes dX10_line0_336 hK hP hD hS hA [3, 4] [0, 1, 2] rfl rfl (by decide) (by decide) (by decide) 0 10 rfl rfl GG.fb hG.at hl.1 rfl (Nat.le_of_ble_eq_true rfl) ⟨(Nat.le_of_ble_eq_true rfl), (Nat.le_of_ble_eq_true rfl)⟩ ⟨(Nat.le_of_ble_eq_true rfl), (Nat.le_of_ble_eq_true rfl)⟩ (fun r352 u H locs hp hP hD hS => ?_)
              rcases hp with hp | hp
              · obtain ⟨F353, y354, t355, t356, t357, t358, rfl, rfl⟩ := hp
                have hP : va_P D vwCl [(h_h, .inl (cI, 104, .inl g343)), (h_names, .inl (cJ, 36, .inr (.inl f_names))), (h_reserved, .inl (cJ, 23, .inr (.inl f_reserved))), (h0, .inr (10, vL 67 F353)), (h_tape, .inl (cB, 940, .inl f_tape))] H := hP
                have hD : va_D A [(h_h, .inl (cI, 104, .inl g343)), (h_names, .inl (cJ, 36, .inr (.inl f_names))), (h_reserved, .inl (cJ, 23, .inr (.inl f_reserved))), (h0, .inr (10, vL 67 F353)), (h_tape, .inl (cB, 940, .inl f_tape))] := hD
                refine W.widen (k := 0) (n := 0) (Nat.le_of_ble_eq_true rfl) (Nat.le_of_ble_eq_true rfl) ?_
                refine lv_if_ne (tgt := 344) hx hb dX10_line0_339 (by decide) (fun g => absurd (by decide) g) (fun _ => ?_)
                refine lv_iconst (v := 0) hx hb dX10_line0_342 (by decide) ?_
                exact ret_i (v := 0) hx hb hr hlocks hS (hP.sub (ws' := [(h0, .inr (10, vL 67 F353)), (h_tape, .inl (cB, 940, .inl f_tape)), (h_h, .inl (cI, 104, .inl g343)), (h_names, .inl (cJ, 36, .inr (.inl f_names))), (h_reserved, .inl (cJ, 23, .inr (.inl f_reserved)))]) [3, 4, 0, 1, 2] rfl) (hD.sub (ws' := [(h0, .inr (10, vL 67 F353)), (h_tape, .inl (cB, 940, .inl f_tape)), (h_h, .inl (cI, 104, .inl g343)), (h_names, .inl (cJ, 36, .inr (.inl f_names))), (h_reserved, .inl (cJ, 23, .inr (.inl f_reserved)))]) [3, 4, 0, 1, 2] (by decide) rfl) dX10_line0_343 rfl (Nat.le_of_ble_eq_true rfl) (Nat.le_of_ble_eq_true rfl) (Or.inl ⟨F353, y310, y311, y312, y313, y314, y354, y312, y315, y316, x_onces, g343, f_names, (SAME.tr (SAME.tr (SAME.tr (SAME.tr SAME.rf t232 (by decide)) t266 (by decide)) t317 (by decide)) t355 (by decide)), (SAME.at t355 (by decide) t318), t319, (SAME.at t355 (by decide) t320), t321, (SAME.at t355 (by decide) t322), (SAME.at t355 (by decide) t324), (SAME.at t355 (by decide) t326), t356, (ir_wk t357 (by decide) (by decide)), t358, (SAME.at t355 (by decide) t327), (SAME.at t355 (by decide) t328), (SAME.at t355 (by decide) (SAME.at t317 (by decide) (SAME.at t266 (by decide) (SAME.at t232 (by decide) e_onces)))), r344, r346, (SG.wk r347 (by decide) (by decide)), r348, r345, (by omega), rfl, rfl⟩)
              · refine hp.elim (fun F359 h9z0 => h9z0.elim (fun y360 h9z1 => h9z1.elim (fun y361 h9z2 => h9z2.elim (fun y362 h9z3 => h9z3.elim (fun y363 h9z4 => h9z4.elim (fun y364 h9z5 => h9z5.elim (fun y365 h9z6 => h9z6.elim (fun y366 h9z7 => h9z7.elim (fun t367 h9z8 => h9z8.elim (fun t368 h9z9 => h9z9.elim (fun t369 h9z10 => h9z10.elim (fun t370 h9z11 => h9z11.elim (fun t371 h9z12 => h9z12.elim (fun t372 h9z13 => h9z13.elim (fun t373 h9z14 => h9z14.elim (fun t374 h9z15 => h9z15.elim (fun t375 h9z16 => h9z16.elim (fun t376 h9z17 => h9z17.elim (fun t377 h9z18 => h9z18.elim (fun t378 h9z19 => h9z19.elim (fun t379 h9z20 => h9z20.elim (fun t380 h9z21 => h9z21.elim (fun t381 h9z22 => h9z22.elim (fun t382 h9z23 => h9z23.elim (fun t383 h9z24 => h9z24.elim (fun t384 h9z25 => h9z25.elim (fun t385 h9z26 => h9z26.elim (fun heq927 h9z27 => ?_))))))))))))))))))))))))))))
                clear h9z0 h9z1 h9z2 h9z3 h9z4 h9z5 h9z6 h9z7 h9z8 h9z9 h9z10 h9z11 h9z12 h9z13 h9z14 h9z15 h9z16 h9z17 h9z18 h9z19 h9z20 h9z21 h9z22 h9z23 h9z24 h9z25 h9z26
                subst heq927
                subst h9z27
                clear t334 t335
                have hP : va_P D vwCl [(h_h, .inl (cI, 104, .inl g343)), (h_names, .inl (cJ, 36, .inr (.inl f_names))), (h_reserved, .inl (cJ, 23, .inr (.inl f_reserved))), (h0, .inr (10, vL 67 F359)), (h_tape, .inl (cB, 940, .inl f_tape))] H := hP
                have hD : va_D A [(h_h, .inl (cI, 104, .inl g343)), (h_names, .inl (cJ, 36, .inr (.inl f_names))), (h_reserved, .inl (cJ, 23, .inr (.inl f_reserved))), (h0, .inr (10, vL 67 F359)), (h_tape, .inl (cB, 940, .inl f_tape))] := hD
                refine W.widen (k := 0) (n := 0) (Nat.le_of_ble_eq_true rfl) (Nat.le_of_ble_eq_true rfl) ?_
                have k387 : 2 ≤ y311.toInt ∧ y311.toInt ≤ 2 := ⟨Int.le_trans (Int.le_refl _) (Int.le_of_eq t379.symm), Int.le_trans (Int.le_of_eq t379) (Int.le_refl _)⟩
                have k388 : 0 ≤ y314.toInt ∧ y314.toInt ≤ 2147483647 := ⟨Int.le_trans (Int.le_refl _) t380, (ir_any _).2⟩
                have k389 : 0 ≤ y314.toInt ∧ y314.toInt ≤ 9 := ⟨k388.1, Int.le_trans t381 (Int.le_refl _)⟩
                refine lv_if_ne (tgt := 344) hx hb dX10_line0_339 (by decide) (fun _ => ?_) (fun g => absurd g (by decide))
                refine lv_aload_n hx hb dX10_line0_344 rfl (lv_at hl 2 rfl) ?_
                have n390 : F359 7 = .ref h_h := (SAME.at t367 (by decide) n340)
                refine get_f (D := D) (ci := 10) (v := .ref h_h) (C := RX10) (T := TX10) (N := 67) hx hb hw inAX10 hown hK hP 3 rfl rfl 7 (by decide) (hw _ q_1268) (fun _ h9 => h9) n390 dX10_line0_345 ?_
                refine lv_bipush (v := 68) hx hb dX10_line0_348 (by decide) ?_
                refine lv_iload_n hx hb dX10_line0_350 rfl (lv_at hl 0 rfl) ?_
                refine lv_iadd hx hb dX10_line0_351 ?_
                refine lv_topi (fun v391 ev391 => ?_)
                have bv391 : v391.toInt = 68 + v219.toInt := by rw [ev391]; exact add_k rfl rfl ⟨Int.le_refl _, Int.le_refl _⟩ k222 (by decide)
                have k392 : 68 ≤ v391.toInt ∧ v391.toInt ≤ 79 := add_r bv391 ⟨Int.le_refl _, Int.le_refl _⟩ k222 (by decide)
                refine lv_aload_n hx hb dX10_line0_352 rfl (lv_at hl 2 rfl) ?_
                refine get_f (D := D) (ci := 10) (v := .int y366) (C := RX10) (T := TX10) (N := 67) hx hb hw inAX10 hown hK hP 3 rfl rfl 19 (by decide) (hw _ q_1280) (fun _ h9 => h9) t378 dX10_line0_353 ?_
                obtain ⟨g393, eg393⟩ : ∃ z : Nat → Int32, upd g343 v391.toNatClampNeg y366 = z := ⟨_, rfl⟩
                have r394 : SG 0 0 0 40 g393 := by rw [← eg393]; exact r344.up (Int.le_trans (by decide) k392.1) (Or.inr (Or.inl (dec_lt k392.1 (by decide))))
                have r395 : SG 44 55 0 9 g393 := by rw [← eg393]; exact r345.up (Int.le_trans (by decide) k392.1) (Or.inr (Or.inl (dec_lt k392.1 (by decide))))
                have r396 : SG 5 5 0 12 g393 := by rw [← eg393]; exact r346.up (Int.le_trans (by decide) k392.1) (Or.inr (Or.inl (dec_lt k392.1 (by decide))))
                have r397 : SG 6 6 0 11 g393 := by rw [← eg393]; exact r347.up (Int.le_trans (by decide) k392.1) (Or.inr (Or.inl (dec_lt k392.1 (by decide))))
                have r398 : SG 7 7 0 6 g393 := by rw [← eg393]; exact r348.up (Int.le_trans (by decide) k392.1) (Or.inr (Or.inl (dec_lt k392.1 (by decide))))
                refine iast_g hx hb hK hP hD hS 0 0 rfl rfl (ix_k k392 (by decide) (by decide)) eg393 dX10_line0_356 (fun H locs hP hD hS => ?_)
                have hP : va_P D vwCl [(h_h, .inl (cI, 104, .inl g393)), (h_names, .inl (cJ, 36, .inr (.inl f_names))), (h_reserved, .inl (cJ, 23, .inr (.inl f_reserved))), (h0, .inr (10, vL 67 F359)), (h_tape, .inl (cB, 940, .inl f_tape))] H := hP
                have hD : va_D A [(h_h, .inl (cI, 104, .inl g393)), (h_names, .inl (cJ, 36, .inr (.inl f_names))), (h_reserved, .inl (cJ, 23, .inr (.inl f_reserved))), (h0, .inr (10, vL 67 F359)), (h_tape, .inl (cB, 940, .inl f_tape))] := hD
                refine lv_aload_n hx hb dX10_line0_357 rfl (lv_at hl 2 rfl) ?_
                refine lv_iconst (v := 1) hx hb dX10_line0_358 (by decide) ?_
                refine lv_bipush (v := 99) hx hb dX10_line0_359 (by decide) ?_
                have n399 : F359 1 = .ref h_tape := (SAME.at t367 (by decide) n349)
                have n400 : F359 3 = .int x_size := (SAME.at t367 (by decide) n350)
                have n401 : F359 5 = .int x_limit := (SAME.at t367 (by decide) n351)
                refine call_Vi (wr := [(h_h, .inl (cI, 104, .inl g393)), (h_names, .inl (cJ, 36, .inr (.inl f_names))), (h_reserved, .inl (cJ, 23, .inr (.inl f_reserved)))]) (As := [.int 1, .int 99]) (rest := []) hx hb hml hown hw (m_X10_takes l D cI cJ cB cP cM cZ h0 h_tape F359 x_size y360 x_limit y361 y362 y364 y365 y366 f_tape 1 99 _ n399 n400 i_x_size t368 t369 n401 i_x_limit t370 t371 t372 t376 t377 t378 (by omega)) wV_X10_242_X10_takes dX10_line0_361 hK hP hD hS hA [3, 4] [0, 1, 2] rfl rfl (by decide) (by decide) (by decide) 0 10 rfl rfl GG.fb hG.at hl.1 rfl (Nat.le_of_ble_eq_true rfl) ⟨(Nat.le_of_ble_eq_true rfl), (Nat.le_of_ble_eq_true rfl)⟩ ⟨(Nat.le_of_ble_eq_true rfl), (Nat.le_of_ble_eq_true rfl)⟩ (fun r402 u H locs hp hP hD hS => ?_)
                have zl99 : (99 : Int32).toInt = 99 := by decide
                rcases hp with hp | hp
                · obtain ⟨F403, y404, t405, t406, t407, t408, rfl, rfl⟩ := hp
                  have hP : va_P D vwCl [(h_h, .inl (cI, 104, .inl g393)), (h_names, .inl (cJ, 36, .inr (.inl f_names))), (h_reserved, .inl (cJ, 23, .inr (.inl f_reserved))), (h0, .inr (10, vL 67 F403)), (h_tape, .inl (cB, 940, .inl f_tape))] H := hP
                  have hD : va_D A [(h_h, .inl (cI, 104, .inl g393)), (h_names, .inl (cJ, 36, .inr (.inl f_names))), (h_reserved, .inl (cJ, 23, .inr (.inl f_reserved))), (h0, .inr (10, vL 67 F403)), (h_tape, .inl (cB, 940, .inl f_tape))] := hD
                  refine W.widen (k := 0) (n := 0) (Nat.le_of_ble_eq_true rfl) (Nat.le_of_ble_eq_true rfl) ?_
                  refine lv_if_ne (tgt := 369) hx hb dX10_line0_364 (by decide) (fun g => absurd (by decide) g) (fun _ => ?_)
                  refine lv_iconst (v := 0) hx hb dX10_line0_367 (by decide) ?_
                  exact ret_i (v := 0) hx hb hr hlocks hS (hP.sub (ws' := [(h0, .inr (10, vL 67 F403)), (h_tape, .inl (cB, 940, .inl f_tape)), (h_h, .inl (cI, 104, .inl g393)), (h_names, .inl (cJ, 36, .inr (.inl f_names))), (h_reserved, .inl (cJ, 23, .inr (.inl f_reserved)))]) [3, 4, 0, 1, 2] rfl) (hD.sub (ws' := [(h0, .inr (10, vL 67 F403)), (h_tape, .inl (cB, 940, .inl f_tape)), (h_h, .inl (cI, 104, .inl g393)), (h_names, .inl (cJ, 36, .inr (.inl f_names))), (h_reserved, .inl (cJ, 23, .inr (.inl f_reserved)))]) [3, 4, 0, 1, 2] (by decide) rfl) dX10_line0_368 rfl (Nat.le_of_ble_eq_true rfl) (Nat.le_of_ble_eq_true rfl) (Or.inl ⟨F403, y360, y361, y362, y363, y364, y404, y362, y365, y366, x_onces, g393, f_names, (SAME.tr (SAME.tr (SAME.tr (SAME.tr (SAME.tr SAME.rf t232 (by decide)) t266 (by decide)) t317 (by decide)) t367 (by decide)) t405 (by decide)), (SAME.at t405 (by decide) t368), t369, (SAME.at t405 (by decide) t370), t371, (SAME.at t405 (by decide) t372), (SAME.at t405 (by decide) t374), (SAME.at t405 (by decide) t376), t406, (ir_wk t407 (by decide) (by decide)), t408, (SAME.at t405 (by decide) t377), (SAME.at t405 (by decide) t378), (SAME.at t405 (by decide) (SAME.at t367 (by decide) (SAME.at t317 (by decide) (SAME.at t266 (by decide) (SAME.at t232 (by decide) e_onces))))), r394, r396, (SG.wk r397 (by decide) (by decide)), r398, r395, (by omega), rfl, rfl⟩)
                · refine hp.elim (fun F409 h9z0 => h9z0.elim (fun y410 h9z1 => h9z1.elim (fun y411 h9z2 => h9z2.elim (fun y412 h9z3 => h9z3.elim (fun y413 h9z4 => h9z4.elim (fun y414 h9z5 => h9z5.elim (fun y415 h9z6 => h9z6.elim (fun y416 h9z7 => h9z7.elim (fun t417 h9z8 => h9z8.elim (fun t418 h9z9 => h9z9.elim (fun t419 h9z10 => h9z10.elim (fun t420 h9z11 => h9z11.elim (fun t421 h9z12 => h9z12.elim (fun t422 h9z13 => h9z13.elim (fun t423 h9z14 => h9z14.elim (fun t424 h9z15 => h9z15.elim (fun t425 h9z16 => h9z16.elim (fun t426 h9z17 => h9z17.elim (fun t427 h9z18 => h9z18.elim (fun t428 h9z19 => h9z19.elim (fun t429 h9z20 => h9z20.elim (fun t430 h9z21 => h9z21.elim (fun t431 h9z22 => h9z22.elim (fun t432 h9z23 => h9z23.elim (fun t433 h9z24 => h9z24.elim (fun t434 h9z25 => h9z25.elim (fun t435 h9z26 => h9z26.elim (fun heq927 h9z27 => ?_))))))))))))))))))))))))))))
                  clear h9z0 h9z1 h9z2 h9z3 h9z4 h9z5 h9z6 h9z7 h9z8 h9z9 h9z10 h9z11 h9z12 h9z13 h9z14 h9z15 h9z16 h9z17 h9z18 h9z19 h9z20 h9z21 h9z22 h9z23 h9z24 h9z25 h9z26
                  subst heq927
                  subst h9z27
                  clear t384 t385
                  have hP : va_P D vwCl [(h_h, .inl (cI, 104, .inl g393)), (h_names, .inl (cJ, 36, .inr (.inl f_names))), (h_reserved, .inl (cJ, 23, .inr (.inl f_reserved))), (h0, .inr (10, vL 67 F409)), (h_tape, .inl (cB, 940, .inl f_tape))] H := hP
                  have hD : va_D A [(h_h, .inl (cI, 104, .inl g393)), (h_names, .inl (cJ, 36, .inr (.inl f_names))), (h_reserved, .inl (cJ, 23, .inr (.inl f_reserved))), (h0, .inr (10, vL 67 F409)), (h_tape, .inl (cB, 940, .inl f_tape))] := hD
                  refine W.widen (k := 0) (n := 0) (Nat.le_of_ble_eq_true rfl) (Nat.le_of_ble_eq_true rfl) ?_
                  have k437 : 2 ≤ y361.toInt ∧ y361.toInt ≤ 2 := ⟨Int.le_trans (Int.le_refl _) (Int.le_of_eq t429.symm), Int.le_trans (Int.le_of_eq t429) (Int.le_refl _)⟩
                  have k438 : 1 ≤ y364.toInt ∧ y364.toInt ≤ 2147483647 := ⟨Int.le_trans (Int.le_refl _) t430, (ir_any _).2⟩
                  have k439 : 1 ≤ y364.toInt ∧ y364.toInt ≤ 99 := ⟨k438.1, Int.le_trans t431 (Int.le_refl _)⟩
                  refine lv_if_ne (tgt := 369) hx hb dX10_line0_364 (by decide) (fun _ => ?_) (fun g => absurd g (by decide))
                  refine lv_aload_n hx hb dX10_line0_369 rfl (lv_at hl 2 rfl) ?_
                  have n440 : F409 7 = .ref h_h := (SAME.at t417 (by decide) n390)
                  refine get_f (D := D) (ci := 10) (v := .ref h_h) (C := RX10) (T := TX10) (N := 67) hx hb hw inAX10 hown hK hP 3 rfl rfl 7 (by decide) (hw _ q_1268) (fun _ h9 => h9) n440 dX10_line0_370 ?_
                  refine lv_bipush (v := 80) hx hb dX10_line0_373 (by decide) ?_
                  refine lv_iload_n hx hb dX10_line0_375 rfl (lv_at hl 0 rfl) ?_
                  refine lv_iadd hx hb dX10_line0_376 ?_
                  refine lv_topi (fun v441 ev441 => ?_)
                  have bv441 : v441.toInt = 80 + v219.toInt := by rw [ev441]; exact add_k rfl rfl ⟨Int.le_refl _, Int.le_refl _⟩ k222 (by decide)
                  have k442 : 80 ≤ v441.toInt ∧ v441.toInt ≤ 91 := add_r bv441 ⟨Int.le_refl _, Int.le_refl _⟩ k222 (by decide)
                  refine lv_aload_n hx hb dX10_line0_377 rfl (lv_at hl 2 rfl) ?_
                  refine get_f (D := D) (ci := 10) (v := .int y416) (C := RX10) (T := TX10) (N := 67) hx hb hw inAX10 hown hK hP 3 rfl rfl 19 (by decide) (hw _ q_1280) (fun _ h9 => h9) t428 dX10_line0_378 ?_
                  obtain ⟨g443, eg443⟩ : ∃ z : Nat → Int32, upd g393 v441.toNatClampNeg y416 = z := ⟨_, rfl⟩
                  have r444 : SG 0 0 0 40 g443 := by rw [← eg443]; exact r394.up (Int.le_trans (by decide) k442.1) (Or.inr (Or.inl (dec_lt k442.1 (by decide))))
                  have r445 : SG 44 55 0 9 g443 := by rw [← eg443]; exact r395.up (Int.le_trans (by decide) k442.1) (Or.inr (Or.inl (dec_lt k442.1 (by decide))))
                  have r446 : SG 5 5 0 12 g443 := by rw [← eg443]; exact r396.up (Int.le_trans (by decide) k442.1) (Or.inr (Or.inl (dec_lt k442.1 (by decide))))
                  have r447 : SG 6 6 0 11 g443 := by rw [← eg443]; exact r397.up (Int.le_trans (by decide) k442.1) (Or.inr (Or.inl (dec_lt k442.1 (by decide))))
                  have r448 : SG 7 7 0 6 g443 := by rw [← eg443]; exact r398.up (Int.le_trans (by decide) k442.1) (Or.inr (Or.inl (dec_lt k442.1 (by decide))))
                  refine iast_g hx hb hK hP hD hS 0 0 rfl rfl (ix_k k442 (by decide) (by decide)) eg443 dX10_line0_381 (fun H locs hP hD hS => ?_)
                  have hP : va_P D vwCl [(h_h, .inl (cI, 104, .inl g443)), (h_names, .inl (cJ, 36, .inr (.inl f_names))), (h_reserved, .inl (cJ, 23, .inr (.inl f_reserved))), (h0, .inr (10, vL 67 F409)), (h_tape, .inl (cB, 940, .inl f_tape))] H := hP
                  have hD : va_D A [(h_h, .inl (cI, 104, .inl g443)), (h_names, .inl (cJ, 36, .inr (.inl f_names))), (h_reserved, .inl (cJ, 23, .inr (.inl f_reserved))), (h0, .inr (10, vL 67 F409)), (h_tape, .inl (cB, 940, .inl f_tape))] := hD
                  refine lv_aload_n hx hb dX10_line0_382 rfl (lv_at hl 2 rfl) ?_
                  refine get_f (D := D) (ci := 10) (v := .ref h_h) (C := RX10) (T := TX10) (N := 67) hx hb hw inAX10 hown hK hP 3 rfl rfl 7 (by decide) (hw _ q_1268) (fun _ h9 => h9) n440 dX10_line0_383 ?_
                  refine lv_bipush (v := 6) hx hb dX10_line0_386 (by decide) ?_
                  refine lv_dup2_11 hx hb dX10_line0_388 rfl rfl ?_
                  refine iald_n hx hb hK hP 0 0 rfl rfl 6 rfl (Nat.le_of_ble_eq_true rfl) (Nat.le_of_ble_eq_true rfl) rfl dX10_line0_389 ?_
                  refine lv_topi (fun v449 ev449 => ?_)
                  have k450 : 0 ≤ v449.toInt ∧ v449.toInt ≤ 11 := by rw [ev449]; exact r447.atN 6 (by decide) (by decide)
                  refine lv_iconst (v := 1) hx hb dX10_line0_390 (by decide) ?_
                  refine lv_iadd hx hb dX10_line0_391 ?_
                  refine lv_topi (fun v451 ev451 => ?_)
                  have bv451 : v451.toInt = v449.toInt + 1 := by rw [ev451]; exact add_k rfl rfl k450 ⟨Int.le_refl _, Int.le_refl _⟩ (by decide)
                  have k452 : 1 ≤ v451.toInt ∧ v451.toInt ≤ 12 := add_r bv451 k450 ⟨Int.le_refl _, Int.le_refl _⟩ (by decide)
                  obtain ⟨g453, eg453⟩ : ∃ z : Nat → Int32, upd g443 6 v451 = z := ⟨_, rfl⟩
                  have r454 : SG 0 0 0 40 g453 := by rw [← eg453]; exact r444.upN (Or.inr (Or.inl (by decide)))
                  have r455 : SG 44 55 0 9 g453 := by rw [← eg453]; exact r445.upN (Or.inl (by decide))
                  have r456 : SG 5 5 0 12 g453 := by rw [← eg453]; exact r446.upN (Or.inr (Or.inl (by decide)))
                  have r457 : SG 7 7 0 6 g453 := by rw [← eg453]; exact r448.upN (Or.inl (by decide))
                  have r458 : SG 6 6 0 12 g453 := by rw [← eg453]; exact SG.new1 (ir_wk k452 (by decide) (by decide))
                  refine iast_n hx hb hK hP hD hS 0 0 rfl rfl 6 rfl (Nat.le_of_ble_eq_true rfl) (Nat.le_of_ble_eq_true rfl) eg453 dX10_line0_392 (fun H locs hP hD hS => ?_)
                  have hP : va_P D vwCl [(h_h, .inl (cI, 104, .inl g453)), (h_names, .inl (cJ, 36, .inr (.inl f_names))), (h_reserved, .inl (cJ, 23, .inr (.inl f_reserved))), (h0, .inr (10, vL 67 F409)), (h_tape, .inl (cB, 940, .inl f_tape))] H := hP
                  have hD : va_D A [(h_h, .inl (cI, 104, .inl g453)), (h_names, .inl (cJ, 36, .inr (.inl f_names))), (h_reserved, .inl (cJ, 23, .inr (.inl f_reserved))), (h0, .inr (10, vL 67 F409)), (h_tape, .inl (cB, 940, .inl f_tape))] := hD
                  refine lv_iconst (v := 1) hx hb dX10_line0_393 (by decide) ?_
                  exact ret_i (v := 1) hx hb hr hlocks hS (hP.sub (ws' := [(h0, .inr (10, vL 67 F409)), (h_tape, .inl (cB, 940, .inl f_tape)), (h_h, .inl (cI, 104, .inl g453)), (h_names, .inl (cJ, 36, .inr (.inl f_names))), (h_reserved, .inl (cJ, 23, .inr (.inl f_reserved)))]) [3, 4, 0, 1, 2] rfl) (hD.sub (ws' := [(h0, .inr (10, vL 67 F409)), (h_tape, .inl (cB, 940, .inl f_tape)), (h_h, .inl (cI, 104, .inl g453)), (h_names, .inl (cJ, 36, .inr (.inl f_names))), (h_reserved, .inl (cJ, 23, .inr (.inl f_reserved)))]) [3, 4, 0, 1, 2] (by decide) rfl) dX10_line0_394 rfl (Nat.le_of_ble_eq_true rfl) (Nat.le_of_ble_eq_true rfl) (Or.inr ⟨F409, y410, y411, y412, y413, y414, y415, y416, x_onces, g453, f_names, (SAME.tr (SAME.tr (SAME.tr (SAME.tr (SAME.tr SAME.rf t232 (by decide)) t266 (by decide)) t317 (by decide)) t367 (by decide)) t417 (by decide)), t418, t419, t420, t421, t422, t423, t424, t425, t426, t427, t428, (SAME.at t417 (by decide) (SAME.at t367 (by decide) (SAME.at t317 (by decide) (SAME.at t266 (by decide) (SAME.at t232 (by decide) e_onces))))), r454, r456, r458, r457, r455, (by have zl1 : (1 : Int32).toInt = 1 := (by decide); omega), (by have zl1 : (1 : Int32).toInt = 1 := (by decide); omega), (by omega), rfl, rfl⟩)
        · have dc221 : v219.toInt = 12 := eq_i (a := v219.toInt) (b := 12) rfl rfl c221
          have k459 : 12 ≤ v219.toInt ∧ v219.toInt ≤ 12 := ⟨Int.le_trans (Int.le_refl _) (Int.le_of_eq dc221.symm), k220.2⟩
          refine lv_aload_n hx hb dX10_line0_272 rfl (lv_at hl 2 rfl) ?_
          refine lv_iconst (v := 4) hx hb dX10_line0_273 (by decide) ?_
          refine call_Vi (wr := [(h_tape, .inl (cB, 940, .inl f_tape)), (h_h, .inl (cI, 104, .inl f_h)), (h_names, .inl (cJ, 36, .inr (.inl f_names))), (h_reserved, .inl (cJ, 23, .inr (.inl f_reserved)))]) (As := [.int 4]) (rest := []) hx hb hml hown hw (m_X10_bad l D cI cJ cB cP cM cZ h0 Fh x_at 4 _ e_at) wV_X10_205_X10_bad dX10_line0_274 hK hP hD hS hA [4] [0, 1, 2, 3] rfl rfl (by decide) (by decide) (by decide) 0 10 rfl rfl GG.fb hG.at hl.1 rfl (Nat.le_of_ble_eq_true rfl) ⟨(Nat.le_of_ble_eq_true rfl), (Nat.le_of_ble_eq_true rfl)⟩ ⟨(Nat.le_of_ble_eq_true rfl), (Nat.le_of_ble_eq_true rfl)⟩ (fun r460 u H locs hp hP hD hS => ?_)
          have zl4 : (4 : Int32).toInt = 4 := by decide
          obtain ⟨F461, t462, t463, t464, rfl, rfl⟩ := hp
          have hP : va_P D vwCl [(h_tape, .inl (cB, 940, .inl f_tape)), (h_h, .inl (cI, 104, .inl f_h)), (h_names, .inl (cJ, 36, .inr (.inl f_names))), (h_reserved, .inl (cJ, 23, .inr (.inl f_reserved))), (h0, .inr (10, vL 67 F461))] H := hP
          have hD : va_D A [(h_tape, .inl (cB, 940, .inl f_tape)), (h_h, .inl (cI, 104, .inl f_h)), (h_names, .inl (cJ, 36, .inr (.inl f_names))), (h_reserved, .inl (cJ, 23, .inr (.inl f_reserved))), (h0, .inr (10, vL 67 F461))] := hD
          refine W.widen (k := 0) (n := 0) (Nat.le_of_ble_eq_true rfl) (Nat.le_of_ble_eq_true rfl) ?_
          exact ret_i (v := 0) hx hb hr hlocks hS (hP.sub (ws' := [(h0, .inr (10, vL 67 F461)), (h_tape, .inl (cB, 940, .inl f_tape)), (h_h, .inl (cI, 104, .inl f_h)), (h_names, .inl (cJ, 36, .inr (.inl f_names))), (h_reserved, .inl (cJ, 23, .inr (.inl f_reserved)))]) [4, 0, 1, 2, 3] rfl) (hD.sub (ws' := [(h0, .inr (10, vL 67 F461)), (h_tape, .inl (cB, 940, .inl f_tape)), (h_h, .inl (cI, 104, .inl f_h)), (h_names, .inl (cJ, 36, .inr (.inl f_names))), (h_reserved, .inl (cJ, 23, .inr (.inl f_reserved)))]) [4, 0, 1, 2, 3] (by decide) rfl) dX10_line0_277 rfl (Nat.le_of_ble_eq_true rfl) (Nat.le_of_ble_eq_true rfl) (Or.inl ⟨F461, x_p, x_token, x_at, x_span, x_number, 4, x_at, x_word, x_got, x_onces, f_h, f_names, (SAME.tr SAME.rf t462 (by decide)), (SAME.at t462 (by decide) e_p), i_x_p, (SAME.at t462 (by decide) e_token), i_x_token, (SAME.at t462 (by decide) e_at), (SAME.at t462 (by decide) e_span), (SAME.at t462 (by decide) e_number), t463, (show 1 ≤ (4 : Int32).toInt ∧ (4 : Int32).toInt ≤ 4 by decide), t464, (SAME.at t462 (by decide) e_word), (SAME.at t462 (by decide) e_got), (SAME.at t462 (by decide) e_onces), s_h_0, s_h_5, s_h_6, s_h_7, s_h_44, (by have zl4 : (4 : Int32).toInt = 4 := (by decide); omega), rfl, rfl⟩)
    · have dc10 : r6.toInt ≠ 0 := ne_i (a := r6.toInt) (b := 0) rfl rfl c10
      have k466 : 1 ≤ r6.toInt ∧ r6.toInt ≤ 1 := ⟨ne_lo dc10 t7.1 ⟨Int.le_refl _, Int.le_refl _⟩ (by decide), t7.2⟩
      refine lv_aload_n hx hb dX10_line0_123 rfl (lv_at hl 1 rfl) ?_
      refine get_f (D := D) (ci := 10) (v := .ref h_h) (C := RX10) (T := TX10) (N := 67) hx hb hw inAX10 hown hK hP 4 rfl rfl 7 (by decide) (hw _ q_1268) (fun _ h9 => h9) e_h dX10_line0_124 ?_
      refine lv_iconst (v := 5) hx hb dX10_line0_127 (by decide) ?_
      refine iald_n hx hb hK hP 1 0 rfl rfl 5 rfl (Nat.le_of_ble_eq_true rfl) (Nat.le_of_ble_eq_true rfl) rfl dX10_line0_128 ?_
      refine lv_topi (fun v467 ev467 => ?_)
      have k468 : 0 ≤ v467.toInt ∧ v467.toInt ≤ 12 := by rw [ev467]; exact s_h_5.atN 5 (by decide) (by decide)
      refine lv_istore_n (lv' := [(2, .int v467), (1, .int r1), (0, .ref h0)]) hx hb dX10_line0_129 rfl hl (by decide) rfl (fun ls hl => ?_)
      refine lv_iload_n hx hb dX10_line0_130 rfl (lv_at hl 0 rfl) ?_
      refine lv_bipush (v := 12) hx hb dX10_line0_131 (by decide) ?_
      refine lv_icmp_ne (tgt := 142) hx hb dX10_line0_133 (by decide) (fun c469 => ?_) (fun c469 => ?_)
      · have dc469 : v467.toInt ≠ 12 := ne_i (a := v467.toInt) (b := 12) rfl rfl c469
        have k470 : 0 ≤ v467.toInt ∧ v467.toInt ≤ 11 := ⟨k468.1, ne_hi dc469 k468.2 ⟨Int.le_refl _, Int.le_refl _⟩ (by decide)⟩
        have r471 : SG 5 5 0 11 f_h := SG.one ev467 k470
        refine lv_aload_n hx hb dX10_line0_142 rfl (lv_at hl 2 rfl) ?_
        refine call_Vv (wr := [(h_h, .inl (cI, 104, .inl f_h)), (h_names, .inl (cJ, 36, .inr (.inl f_names))), (h_reserved, .inl (cJ, 23, .inr (.inl f_reserved)))]) (As := []) (rest := []) hx hb hml hown hw (m_X10_next l D cI cJ cB cP cM cZ h0 h_tape Fh x_size x_p x_limit x_token x_number x_word f_tape _ e_tape e_size i_x_size e_p i_x_p e_limit i_x_limit e_token i_x_token e_number e_word (by omega)) wV_X10_208_X10_next dX10_line0_143 hK hP hD hS hA [4, 0] [1, 2, 3] rfl rfl (by decide) (by decide) (by decide) 0 10 rfl rfl GG.fb hG.at hl.1 rfl (Nat.le_of_ble_eq_true rfl) ⟨(Nat.le_of_ble_eq_true rfl), (Nat.le_of_ble_eq_true rfl)⟩ ⟨(Nat.le_of_ble_eq_true rfl), (Nat.le_of_ble_eq_true rfl)⟩ (fun u H locs hp hP hD hS => ?_)
        obtain ⟨F473, y474, y475, y476, y477, y478, y479, t480, t481, t482, t483, t484, t485, t486, t487, t488, t489, t490, t491, t492, t493, rfl⟩ := hp
        have hP : va_P D vwCl [(h_h, .inl (cI, 104, .inl f_h)), (h_names, .inl (cJ, 36, .inr (.inl f_names))), (h_reserved, .inl (cJ, 23, .inr (.inl f_reserved))), (h0, .inr (10, vL 67 F473)), (h_tape, .inl (cB, 940, .inl f_tape))] H := hP
        have hD : va_D A [(h_h, .inl (cI, 104, .inl f_h)), (h_names, .inl (cJ, 36, .inr (.inl f_names))), (h_reserved, .inl (cJ, 23, .inr (.inl f_reserved))), (h0, .inr (10, vL 67 F473)), (h_tape, .inl (cB, 940, .inl f_tape))] := hD
        refine W.widen (k := 0) (n := 0) (Nat.le_of_ble_eq_true rfl) (Nat.le_of_ble_eq_true rfl) ?_
        refine lv_aload_n hx hb dX10_line0_146 rfl (lv_at hl 2 rfl) ?_
        refine lv_bipush (v := 18) hx hb dX10_line0_147 (by decide) ?_
        refine lv_iload_n hx hb dX10_line0_149 rfl (lv_at hl 0 rfl) ?_
        refine lv_iadd hx hb dX10_line0_150 ?_
        refine lv_topi (fun v495 ev495 => ?_)
        have bv495 : v495.toInt = 18 + v467.toInt := by rw [ev495]; exact add_k rfl rfl ⟨Int.le_refl _, Int.le_refl _⟩ k470 (by decide)
        have k496 : 18 ≤ v495.toInt ∧ v495.toInt ≤ 29 := add_r bv495 ⟨Int.le_refl _, Int.le_refl _⟩ k470 (by decide)
        have n497 : F473 1 = .ref h_tape := (SAME.at t480 (by decide) e_tape)
        have n498 : F473 3 = .int x_size := (SAME.at t480 (by decide) e_size)
        have n499 : F473 5 = .int x_limit := (SAME.at t480 (by decide) e_limit)
        have n500 : F473 7 = .ref h_h := (SAME.at t480 (by decide) e_h)
        have n501 : F473 9 = .ref h_names := (SAME.at t480 (by decide) e_names)
        have n502 : F473 10 = .ref h_reserved := (SAME.at t480 (by decide) e_reserved)
        refine call_Vi (wr := []) (As := [.int v495]) (rest := []) hx hb hml hown hw (m_X10_fresh l D cI cJ cB cP cM cZ h0 h_tape h_h h_names h_reserved F473 x_size y474 x_limit y475 y476 y478 y479 f_tape f_h f_names f_reserved v495 _ n497 n498 i_x_size t481 t482 n499 i_x_limit n500 n501 n502 t483 t484 t485 t489 t490 s_h_0 s_h_44 (SG.wk r471 (by decide) (by decide)) s_h_6 s_h_7 (ir_wk k496 (by decide) (by decide)) (by omega)) wV_X10_245_X10_fresh dX10_line0_151 hK hP hD hS hA [3, 4, 0, 1, 2] [] rfl rfl (by decide) (by decide) (by decide) 0 10 rfl rfl GG.fb hG.at hl.1 rfl (Nat.le_of_ble_eq_true rfl) ⟨(Nat.le_of_ble_eq_true rfl), (Nat.le_of_ble_eq_true rfl)⟩ ⟨(Nat.le_of_ble_eq_true rfl), (Nat.le_of_ble_eq_true rfl)⟩ (fun r503 u H locs hp hP hD hS => ?_)
        rcases hp with ⟨F504, y505, y506, y507, y508, y509, y510, g511, t512, t513, t514, t515, t516, t517, t518, t519, t520, t521, t522, t523, t524, t525, rfl, rfl⟩ | ⟨F526, y527, t528, t529, t530, t531, t532, rfl, rfl⟩
        · clear t492 t493
          have hP : va_P D vwCl [(h0, .inr (10, vL 67 F504)), (h_tape, .inl (cB, 940, .inl f_tape)), (h_h, .inl (cI, 104, .inl f_h)), (h_names, .inl (cJ, 36, .inr (.inl g511))), (h_reserved, .inl (cJ, 23, .inr (.inl f_reserved)))] H := hP
          have hD : va_D A [(h0, .inr (10, vL 67 F504)), (h_tape, .inl (cB, 940, .inl f_tape)), (h_h, .inl (cI, 104, .inl f_h)), (h_names, .inl (cJ, 36, .inr (.inl g511))), (h_reserved, .inl (cJ, 23, .inr (.inl f_reserved)))] := hD
          refine W.widen (k := 0) (n := 0) (Nat.le_of_ble_eq_true rfl) (Nat.le_of_ble_eq_true rfl) ?_
          refine lv_if_ne (tgt := 159) hx hb dX10_line0_154 (by decide) (fun _ => ?_) (fun g => absurd g (by decide))
          refine lv_aload_n hx hb dX10_line0_159 rfl (lv_at hl 2 rfl) ?_
          refine lv_iconst (v := 1) hx hb dX10_line0_160 (by decide) ?_
          refine lv_bipush (v := 9) hx hb dX10_line0_161 (by decide) ?_
          have n534 : F504 1 = .ref h_tape := (SAME.at t512 (by decide) n497)
          have n535 : F504 3 = .int x_size := (SAME.at t512 (by decide) n498)
          have n536 : F504 5 = .int x_limit := (SAME.at t512 (by decide) n499)
          have n537 : F473 19 = .int x_got := (SAME.at t480 (by decide) e_got)
          have n538 : F504 19 = .int x_got := (SAME.at t512 (by decide) n537)
          refine call_Vi (wr := [(h_h, .inl (cI, 104, .inl f_h)), (h_names, .inl (cJ, 36, .inr (.inl g511))), (h_reserved, .inl (cJ, 23, .inr (.inl f_reserved)))]) (As := [.int 1, .int 9]) (rest := []) hx hb hml hown hw (m_X10_takes l D cI cJ cB cP cM cZ h0 h_tape F504 x_size y505 x_limit y506 y507 y509 y510 x_got f_tape 1 9 _ n534 n535 i_x_size t513 t514 n536 i_x_limit t515 t516 t517 t521 t522 n538 (by omega)) wV_X10_242_X10_takes dX10_line0_163 hK hP hD hS hA [0, 1] [2, 3, 4] rfl rfl (by decide) (by decide) (by decide) 0 10 rfl rfl GG.fb hG.at hl.1 rfl (Nat.le_of_ble_eq_true rfl) ⟨(Nat.le_of_ble_eq_true rfl), (Nat.le_of_ble_eq_true rfl)⟩ ⟨(Nat.le_of_ble_eq_true rfl), (Nat.le_of_ble_eq_true rfl)⟩ (fun r539 u H locs hp hP hD hS => ?_)
          have zl1 : (1 : Int32).toInt = 1 := by decide
          have zl9 : (9 : Int32).toInt = 9 := by decide
          rcases hp with hp | hp
          · obtain ⟨F540, y541, t542, t543, t544, t545, rfl, rfl⟩ := hp
            have hP : va_P D vwCl [(h_h, .inl (cI, 104, .inl f_h)), (h_names, .inl (cJ, 36, .inr (.inl g511))), (h_reserved, .inl (cJ, 23, .inr (.inl f_reserved))), (h0, .inr (10, vL 67 F540)), (h_tape, .inl (cB, 940, .inl f_tape))] H := hP
            have hD : va_D A [(h_h, .inl (cI, 104, .inl f_h)), (h_names, .inl (cJ, 36, .inr (.inl g511))), (h_reserved, .inl (cJ, 23, .inr (.inl f_reserved))), (h0, .inr (10, vL 67 F540)), (h_tape, .inl (cB, 940, .inl f_tape))] := hD
            refine W.widen (k := 0) (n := 0) (Nat.le_of_ble_eq_true rfl) (Nat.le_of_ble_eq_true rfl) ?_
            refine lv_if_ne (tgt := 171) hx hb dX10_line0_166 (by decide) (fun g => absurd (by decide) g) (fun _ => ?_)
            refine lv_iconst (v := 0) hx hb dX10_line0_169 (by decide) ?_
            exact ret_i (v := 0) hx hb hr hlocks hS (hP.sub (ws' := [(h0, .inr (10, vL 67 F540)), (h_tape, .inl (cB, 940, .inl f_tape)), (h_h, .inl (cI, 104, .inl f_h)), (h_names, .inl (cJ, 36, .inr (.inl g511))), (h_reserved, .inl (cJ, 23, .inr (.inl f_reserved)))]) [3, 4, 0, 1, 2] rfl) (hD.sub (ws' := [(h0, .inr (10, vL 67 F540)), (h_tape, .inl (cB, 940, .inl f_tape)), (h_h, .inl (cI, 104, .inl f_h)), (h_names, .inl (cJ, 36, .inr (.inl g511))), (h_reserved, .inl (cJ, 23, .inr (.inl f_reserved)))]) [3, 4, 0, 1, 2] (by decide) rfl) dX10_line0_170 rfl (Nat.le_of_ble_eq_true rfl) (Nat.le_of_ble_eq_true rfl) (Or.inl ⟨F540, y505, y506, y507, y508, y509, y541, y507, y510, x_got, x_onces, f_h, g511, (SAME.tr (SAME.tr (SAME.tr SAME.rf t480 (by decide)) t512 (by decide)) t542 (by decide)), (SAME.at t542 (by decide) t513), t514, (SAME.at t542 (by decide) t515), t516, (SAME.at t542 (by decide) t517), (SAME.at t542 (by decide) t519), (SAME.at t542 (by decide) t521), t543, (ir_wk t544 (by decide) (by decide)), t545, (SAME.at t542 (by decide) t522), (SAME.at t542 (by decide) n538), (SAME.at t542 (by decide) (SAME.at t512 (by decide) (SAME.at t480 (by decide) e_onces))), s_h_0, (SG.wk r471 (by decide) (by decide)), s_h_6, s_h_7, s_h_44, (by omega), rfl, rfl⟩)
          · refine hp.elim (fun F546 h9z0 => h9z0.elim (fun y547 h9z1 => h9z1.elim (fun y548 h9z2 => h9z2.elim (fun y549 h9z3 => h9z3.elim (fun y550 h9z4 => h9z4.elim (fun y551 h9z5 => h9z5.elim (fun y552 h9z6 => h9z6.elim (fun y553 h9z7 => h9z7.elim (fun t554 h9z8 => h9z8.elim (fun t555 h9z9 => h9z9.elim (fun t556 h9z10 => h9z10.elim (fun t557 h9z11 => h9z11.elim (fun t558 h9z12 => h9z12.elim (fun t559 h9z13 => h9z13.elim (fun t560 h9z14 => h9z14.elim (fun t561 h9z15 => h9z15.elim (fun t562 h9z16 => h9z16.elim (fun t563 h9z17 => h9z17.elim (fun t564 h9z18 => h9z18.elim (fun t565 h9z19 => h9z19.elim (fun t566 h9z20 => h9z20.elim (fun t567 h9z21 => h9z21.elim (fun t568 h9z22 => h9z22.elim (fun t569 h9z23 => h9z23.elim (fun t570 h9z24 => h9z24.elim (fun t571 h9z25 => h9z25.elim (fun t572 h9z26 => h9z26.elim (fun heq927 h9z27 => ?_))))))))))))))))))))))))))))
            clear h9z0 h9z1 h9z2 h9z3 h9z4 h9z5 h9z6 h9z7 h9z8 h9z9 h9z10 h9z11 h9z12 h9z13 h9z14 h9z15 h9z16 h9z17 h9z18 h9z19 h9z20 h9z21 h9z22 h9z23 h9z24 h9z25 h9z26
            subst heq927
            subst h9z27
            clear t524 t525
            have hP : va_P D vwCl [(h_h, .inl (cI, 104, .inl f_h)), (h_names, .inl (cJ, 36, .inr (.inl g511))), (h_reserved, .inl (cJ, 23, .inr (.inl f_reserved))), (h0, .inr (10, vL 67 F546)), (h_tape, .inl (cB, 940, .inl f_tape))] H := hP
            have hD : va_D A [(h_h, .inl (cI, 104, .inl f_h)), (h_names, .inl (cJ, 36, .inr (.inl g511))), (h_reserved, .inl (cJ, 23, .inr (.inl f_reserved))), (h0, .inr (10, vL 67 F546)), (h_tape, .inl (cB, 940, .inl f_tape))] := hD
            refine W.widen (k := 0) (n := 0) (Nat.le_of_ble_eq_true rfl) (Nat.le_of_ble_eq_true rfl) ?_
            have k574 : 2 ≤ y506.toInt ∧ y506.toInt ≤ 2 := ⟨Int.le_trans (Int.le_refl _) (Int.le_of_eq t566.symm), Int.le_trans (Int.le_of_eq t566) (Int.le_refl _)⟩
            have k575 : 1 ≤ y509.toInt ∧ y509.toInt ≤ 2147483647 := ⟨Int.le_trans (Int.le_refl _) t567, (ir_any _).2⟩
            have k576 : 1 ≤ y509.toInt ∧ y509.toInt ≤ 9 := ⟨k575.1, Int.le_trans t568 (Int.le_refl _)⟩
            refine lv_if_ne (tgt := 171) hx hb dX10_line0_166 (by decide) (fun _ => ?_) (fun g => absurd g (by decide))
            refine lv_aload_n hx hb dX10_line0_171 rfl (lv_at hl 2 rfl) ?_
            have n577 : F504 7 = .ref h_h := (SAME.at t512 (by decide) n500)
            have n578 : F546 7 = .ref h_h := (SAME.at t554 (by decide) n577)
            refine get_f (D := D) (ci := 10) (v := .ref h_h) (C := RX10) (T := TX10) (N := 67) hx hb hw inAX10 hown hK hP 3 rfl rfl 7 (by decide) (hw _ q_1268) (fun _ h9 => h9) n578 dX10_line0_172 ?_
            refine lv_bipush (v := 8) hx hb dX10_line0_175 (by decide) ?_
            refine lv_iload_n hx hb dX10_line0_177 rfl (lv_at hl 0 rfl) ?_
            refine lv_iadd hx hb dX10_line0_178 ?_
            refine lv_topi (fun v579 ev579 => ?_)
            have bv579 : v579.toInt = 8 + v467.toInt := by rw [ev579]; exact add_k rfl rfl ⟨Int.le_refl _, Int.le_refl _⟩ k470 (by decide)
            have k580 : 8 ≤ v579.toInt ∧ v579.toInt ≤ 19 := add_r bv579 ⟨Int.le_refl _, Int.le_refl _⟩ k470 (by decide)
            refine lv_aload_n hx hb dX10_line0_179 rfl (lv_at hl 2 rfl) ?_
            refine get_f (D := D) (ci := 10) (v := .int y553) (C := RX10) (T := TX10) (N := 67) hx hb hw inAX10 hown hK hP 3 rfl rfl 19 (by decide) (hw _ q_1280) (fun _ h9 => h9) t565 dX10_line0_180 ?_
            obtain ⟨g581, eg581⟩ : ∃ z : Nat → Int32, upd f_h v579.toNatClampNeg y553 = z := ⟨_, rfl⟩
            have r582 : SG 0 0 0 40 g581 := by rw [← eg581]; exact s_h_0.up (Int.le_trans (by decide) k580.1) (Or.inr (Or.inl (dec_lt k580.1 (by decide))))
            have r583 : SG 44 55 0 9 g581 := by rw [← eg581]; exact s_h_44.up (Int.le_trans (by decide) k580.1) (Or.inl (lt_dec k580.2 (by decide)))
            have r584 : SG 5 5 0 11 g581 := by rw [← eg581]; exact r471.up (Int.le_trans (by decide) k580.1) (Or.inr (Or.inl (dec_lt k580.1 (by decide))))
            have r585 : SG 6 6 0 12 g581 := by rw [← eg581]; exact s_h_6.up (Int.le_trans (by decide) k580.1) (Or.inr (Or.inl (dec_lt k580.1 (by decide))))
            have r586 : SG 7 7 0 6 g581 := by rw [← eg581]; exact s_h_7.up (Int.le_trans (by decide) k580.1) (Or.inr (Or.inl (dec_lt k580.1 (by decide))))
            refine iast_g hx hb hK hP hD hS 0 0 rfl rfl (ix_k k580 (by decide) (by decide)) eg581 dX10_line0_183 (fun H locs hP hD hS => ?_)
            have hP : va_P D vwCl [(h_h, .inl (cI, 104, .inl g581)), (h_names, .inl (cJ, 36, .inr (.inl g511))), (h_reserved, .inl (cJ, 23, .inr (.inl f_reserved))), (h0, .inr (10, vL 67 F546)), (h_tape, .inl (cB, 940, .inl f_tape))] H := hP
            have hD : va_D A [(h_h, .inl (cI, 104, .inl g581)), (h_names, .inl (cJ, 36, .inr (.inl g511))), (h_reserved, .inl (cJ, 23, .inr (.inl f_reserved))), (h0, .inr (10, vL 67 F546)), (h_tape, .inl (cB, 940, .inl f_tape))] := hD
            refine lv_aload_n hx hb dX10_line0_184 rfl (lv_at hl 2 rfl) ?_
            refine lv_iconst (v := 1) hx hb dX10_line0_185 (by decide) ?_
            refine lv_bipush (v := 9) hx hb dX10_line0_186 (by decide) ?_
            have n587 : F546 1 = .ref h_tape := (SAME.at t554 (by decide) n534)
            have n588 : F546 3 = .int x_size := (SAME.at t554 (by decide) n535)
            have n589 : F546 5 = .int x_limit := (SAME.at t554 (by decide) n536)
            refine call_Vi (wr := [(h_h, .inl (cI, 104, .inl g581)), (h_names, .inl (cJ, 36, .inr (.inl g511))), (h_reserved, .inl (cJ, 23, .inr (.inl f_reserved)))]) (As := [.int 1, .int 9]) (rest := []) hx hb hml hown hw (m_X10_takes l D cI cJ cB cP cM cZ h0 h_tape F546 x_size y547 x_limit y548 y549 y551 y552 y553 f_tape 1 9 _ n587 n588 i_x_size t555 t556 n589 i_x_limit t557 t558 t559 t563 t564 t565 (by omega)) wV_X10_242_X10_takes dX10_line0_188 hK hP hD hS hA [3, 4] [0, 1, 2] rfl rfl (by decide) (by decide) (by decide) 0 10 rfl rfl GG.fb hG.at hl.1 rfl (Nat.le_of_ble_eq_true rfl) ⟨(Nat.le_of_ble_eq_true rfl), (Nat.le_of_ble_eq_true rfl)⟩ ⟨(Nat.le_of_ble_eq_true rfl), (Nat.le_of_ble_eq_true rfl)⟩ (fun r590 u H locs hp hP hD hS => ?_)
            rcases hp with hp | hp
            · obtain ⟨F591, y592, t593, t594, t595, t596, rfl, rfl⟩ := hp
              have hP : va_P D vwCl [(h_h, .inl (cI, 104, .inl g581)), (h_names, .inl (cJ, 36, .inr (.inl g511))), (h_reserved, .inl (cJ, 23, .inr (.inl f_reserved))), (h0, .inr (10, vL 67 F591)), (h_tape, .inl (cB, 940, .inl f_tape))] H := hP
              have hD : va_D A [(h_h, .inl (cI, 104, .inl g581)), (h_names, .inl (cJ, 36, .inr (.inl g511))), (h_reserved, .inl (cJ, 23, .inr (.inl f_reserved))), (h0, .inr (10, vL 67 F591)), (h_tape, .inl (cB, 940, .inl f_tape))] := hD
              refine W.widen (k := 0) (n := 0) (Nat.le_of_ble_eq_true rfl) (Nat.le_of_ble_eq_true rfl) ?_
              refine lv_if_ne (tgt := 196) hx hb dX10_line0_191 (by decide) (fun g => absurd (by decide) g) (fun _ => ?_)
              refine lv_iconst (v := 0) hx hb dX10_line0_194 (by decide) ?_
              exact ret_i (v := 0) hx hb hr hlocks hS (hP.sub (ws' := [(h0, .inr (10, vL 67 F591)), (h_tape, .inl (cB, 940, .inl f_tape)), (h_h, .inl (cI, 104, .inl g581)), (h_names, .inl (cJ, 36, .inr (.inl g511))), (h_reserved, .inl (cJ, 23, .inr (.inl f_reserved)))]) [3, 4, 0, 1, 2] rfl) (hD.sub (ws' := [(h0, .inr (10, vL 67 F591)), (h_tape, .inl (cB, 940, .inl f_tape)), (h_h, .inl (cI, 104, .inl g581)), (h_names, .inl (cJ, 36, .inr (.inl g511))), (h_reserved, .inl (cJ, 23, .inr (.inl f_reserved)))]) [3, 4, 0, 1, 2] (by decide) rfl) dX10_line0_195 rfl (Nat.le_of_ble_eq_true rfl) (Nat.le_of_ble_eq_true rfl) (Or.inl ⟨F591, y547, y548, y549, y550, y551, y592, y549, y552, y553, x_onces, g581, g511, (SAME.tr (SAME.tr (SAME.tr (SAME.tr SAME.rf t480 (by decide)) t512 (by decide)) t554 (by decide)) t593 (by decide)), (SAME.at t593 (by decide) t555), t556, (SAME.at t593 (by decide) t557), t558, (SAME.at t593 (by decide) t559), (SAME.at t593 (by decide) t561), (SAME.at t593 (by decide) t563), t594, (ir_wk t595 (by decide) (by decide)), t596, (SAME.at t593 (by decide) t564), (SAME.at t593 (by decide) t565), (SAME.at t593 (by decide) (SAME.at t554 (by decide) (SAME.at t512 (by decide) (SAME.at t480 (by decide) e_onces)))), r582, (SG.wk r584 (by decide) (by decide)), r585, r586, r583, (by omega), rfl, rfl⟩)
            · refine hp.elim (fun F597 h9z0 => h9z0.elim (fun y598 h9z1 => h9z1.elim (fun y599 h9z2 => h9z2.elim (fun y600 h9z3 => h9z3.elim (fun y601 h9z4 => h9z4.elim (fun y602 h9z5 => h9z5.elim (fun y603 h9z6 => h9z6.elim (fun y604 h9z7 => h9z7.elim (fun t605 h9z8 => h9z8.elim (fun t606 h9z9 => h9z9.elim (fun t607 h9z10 => h9z10.elim (fun t608 h9z11 => h9z11.elim (fun t609 h9z12 => h9z12.elim (fun t610 h9z13 => h9z13.elim (fun t611 h9z14 => h9z14.elim (fun t612 h9z15 => h9z15.elim (fun t613 h9z16 => h9z16.elim (fun t614 h9z17 => h9z17.elim (fun t615 h9z18 => h9z18.elim (fun t616 h9z19 => h9z19.elim (fun t617 h9z20 => h9z20.elim (fun t618 h9z21 => h9z21.elim (fun t619 h9z22 => h9z22.elim (fun t620 h9z23 => h9z23.elim (fun t621 h9z24 => h9z24.elim (fun t622 h9z25 => h9z25.elim (fun t623 h9z26 => h9z26.elim (fun heq927 h9z27 => ?_))))))))))))))))))))))))))))
              clear h9z0 h9z1 h9z2 h9z3 h9z4 h9z5 h9z6 h9z7 h9z8 h9z9 h9z10 h9z11 h9z12 h9z13 h9z14 h9z15 h9z16 h9z17 h9z18 h9z19 h9z20 h9z21 h9z22 h9z23 h9z24 h9z25 h9z26
              subst heq927
              subst h9z27
              clear t571 t572
              have hP : va_P D vwCl [(h_h, .inl (cI, 104, .inl g581)), (h_names, .inl (cJ, 36, .inr (.inl g511))), (h_reserved, .inl (cJ, 23, .inr (.inl f_reserved))), (h0, .inr (10, vL 67 F597)), (h_tape, .inl (cB, 940, .inl f_tape))] H := hP
              have hD : va_D A [(h_h, .inl (cI, 104, .inl g581)), (h_names, .inl (cJ, 36, .inr (.inl g511))), (h_reserved, .inl (cJ, 23, .inr (.inl f_reserved))), (h0, .inr (10, vL 67 F597)), (h_tape, .inl (cB, 940, .inl f_tape))] := hD
              refine W.widen (k := 0) (n := 0) (Nat.le_of_ble_eq_true rfl) (Nat.le_of_ble_eq_true rfl) ?_
              have k625 : 2 ≤ y548.toInt ∧ y548.toInt ≤ 2 := ⟨Int.le_trans (Int.le_refl _) (Int.le_of_eq t617.symm), Int.le_trans (Int.le_of_eq t617) (Int.le_refl _)⟩
              have k626 : 1 ≤ y551.toInt ∧ y551.toInt ≤ 2147483647 := ⟨Int.le_trans (Int.le_refl _) t618, (ir_any _).2⟩
              have k627 : 1 ≤ y551.toInt ∧ y551.toInt ≤ 9 := ⟨k626.1, Int.le_trans t619 (Int.le_refl _)⟩
              refine lv_if_ne (tgt := 196) hx hb dX10_line0_191 (by decide) (fun _ => ?_) (fun g => absurd g (by decide))
              refine lv_aload_n hx hb dX10_line0_196 rfl (lv_at hl 2 rfl) ?_
              have n628 : F597 7 = .ref h_h := (SAME.at t605 (by decide) n578)
              refine get_f (D := D) (ci := 10) (v := .ref h_h) (C := RX10) (T := TX10) (N := 67) hx hb hw inAX10 hown hK hP 3 rfl rfl 7 (by decide) (hw _ q_1268) (fun _ h9 => h9) n628 dX10_line0_197 ?_
              refine lv_bipush (v := 20) hx hb dX10_line0_200 (by decide) ?_
              refine lv_iload_n hx hb dX10_line0_202 rfl (lv_at hl 0 rfl) ?_
              refine lv_iadd hx hb dX10_line0_203 ?_
              refine lv_topi (fun v629 ev629 => ?_)
              have bv629 : v629.toInt = 20 + v467.toInt := by rw [ev629]; exact add_k rfl rfl ⟨Int.le_refl _, Int.le_refl _⟩ k470 (by decide)
              have k630 : 20 ≤ v629.toInt ∧ v629.toInt ≤ 31 := add_r bv629 ⟨Int.le_refl _, Int.le_refl _⟩ k470 (by decide)
              refine lv_aload_n hx hb dX10_line0_204 rfl (lv_at hl 2 rfl) ?_
              refine get_f (D := D) (ci := 10) (v := .int y604) (C := RX10) (T := TX10) (N := 67) hx hb hw inAX10 hown hK hP 3 rfl rfl 19 (by decide) (hw _ q_1280) (fun _ h9 => h9) t616 dX10_line0_205 ?_
              obtain ⟨g631, eg631⟩ : ∃ z : Nat → Int32, upd g581 v629.toNatClampNeg y604 = z := ⟨_, rfl⟩
              have r632 : SG 0 0 0 40 g631 := by rw [← eg631]; exact r582.up (Int.le_trans (by decide) k630.1) (Or.inr (Or.inl (dec_lt k630.1 (by decide))))
              have r633 : SG 44 55 0 9 g631 := by rw [← eg631]; exact r583.up (Int.le_trans (by decide) k630.1) (Or.inl (lt_dec k630.2 (by decide)))
              have r634 : SG 5 5 0 11 g631 := by rw [← eg631]; exact r584.up (Int.le_trans (by decide) k630.1) (Or.inr (Or.inl (dec_lt k630.1 (by decide))))
              have r635 : SG 6 6 0 12 g631 := by rw [← eg631]; exact r585.up (Int.le_trans (by decide) k630.1) (Or.inr (Or.inl (dec_lt k630.1 (by decide))))
              have r636 : SG 7 7 0 6 g631 := by rw [← eg631]; exact r586.up (Int.le_trans (by decide) k630.1) (Or.inr (Or.inl (dec_lt k630.1 (by decide))))
              refine iast_g hx hb hK hP hD hS 0 0 rfl rfl (ix_k k630 (by decide) (by decide)) eg631 dX10_line0_208 (fun H locs hP hD hS => ?_)
              have hP : va_P D vwCl [(h_h, .inl (cI, 104, .inl g631)), (h_names, .inl (cJ, 36, .inr (.inl g511))), (h_reserved, .inl (cJ, 23, .inr (.inl f_reserved))), (h0, .inr (10, vL 67 F597)), (h_tape, .inl (cB, 940, .inl f_tape))] H := hP
              have hD : va_D A [(h_h, .inl (cI, 104, .inl g631)), (h_names, .inl (cJ, 36, .inr (.inl g511))), (h_reserved, .inl (cJ, 23, .inr (.inl f_reserved))), (h0, .inr (10, vL 67 F597)), (h_tape, .inl (cB, 940, .inl f_tape))] := hD
              refine lv_aload_n hx hb dX10_line0_209 rfl (lv_at hl 2 rfl) ?_
              refine lv_bipush (v := 50) hx hb dX10_line0_210 (by decide) ?_
              refine lv_sipush (v := 150) hx hb dX10_line0_212 (by decide) ?_
              have n637 : F597 1 = .ref h_tape := (SAME.at t605 (by decide) n587)
              have n638 : F597 3 = .int x_size := (SAME.at t605 (by decide) n588)
              have n639 : F597 5 = .int x_limit := (SAME.at t605 (by decide) n589)
              refine call_Vi (wr := [(h_h, .inl (cI, 104, .inl g631)), (h_names, .inl (cJ, 36, .inr (.inl g511))), (h_reserved, .inl (cJ, 23, .inr (.inl f_reserved)))]) (As := [.int 50, .int 150]) (rest := []) hx hb hml hown hw (m_X10_takes l D cI cJ cB cP cM cZ h0 h_tape F597 x_size y598 x_limit y599 y600 y602 y603 y604 f_tape 50 150 _ n637 n638 i_x_size t606 t607 n639 i_x_limit t608 t609 t610 t614 t615 t616 (by omega)) wV_X10_242_X10_takes dX10_line0_215 hK hP hD hS hA [3, 4] [0, 1, 2] rfl rfl (by decide) (by decide) (by decide) 0 10 rfl rfl GG.fb hG.at hl.1 rfl (Nat.le_of_ble_eq_true rfl) ⟨(Nat.le_of_ble_eq_true rfl), (Nat.le_of_ble_eq_true rfl)⟩ ⟨(Nat.le_of_ble_eq_true rfl), (Nat.le_of_ble_eq_true rfl)⟩ (fun r640 u H locs hp hP hD hS => ?_)
              have zl50 : (50 : Int32).toInt = 50 := by decide
              have zl150 : (150 : Int32).toInt = 150 := by decide
              rcases hp with hp | hp
              · obtain ⟨F641, y642, t643, t644, t645, t646, rfl, rfl⟩ := hp
                have hP : va_P D vwCl [(h_h, .inl (cI, 104, .inl g631)), (h_names, .inl (cJ, 36, .inr (.inl g511))), (h_reserved, .inl (cJ, 23, .inr (.inl f_reserved))), (h0, .inr (10, vL 67 F641)), (h_tape, .inl (cB, 940, .inl f_tape))] H := hP
                have hD : va_D A [(h_h, .inl (cI, 104, .inl g631)), (h_names, .inl (cJ, 36, .inr (.inl g511))), (h_reserved, .inl (cJ, 23, .inr (.inl f_reserved))), (h0, .inr (10, vL 67 F641)), (h_tape, .inl (cB, 940, .inl f_tape))] := hD
                refine W.widen (k := 0) (n := 0) (Nat.le_of_ble_eq_true rfl) (Nat.le_of_ble_eq_true rfl) ?_
                refine lv_if_ne (tgt := 223) hx hb dX10_line0_218 (by decide) (fun g => absurd (by decide) g) (fun _ => ?_)
                refine lv_iconst (v := 0) hx hb dX10_line0_221 (by decide) ?_
                exact ret_i (v := 0) hx hb hr hlocks hS (hP.sub (ws' := [(h0, .inr (10, vL 67 F641)), (h_tape, .inl (cB, 940, .inl f_tape)), (h_h, .inl (cI, 104, .inl g631)), (h_names, .inl (cJ, 36, .inr (.inl g511))), (h_reserved, .inl (cJ, 23, .inr (.inl f_reserved)))]) [3, 4, 0, 1, 2] rfl) (hD.sub (ws' := [(h0, .inr (10, vL 67 F641)), (h_tape, .inl (cB, 940, .inl f_tape)), (h_h, .inl (cI, 104, .inl g631)), (h_names, .inl (cJ, 36, .inr (.inl g511))), (h_reserved, .inl (cJ, 23, .inr (.inl f_reserved)))]) [3, 4, 0, 1, 2] (by decide) rfl) dX10_line0_222 rfl (Nat.le_of_ble_eq_true rfl) (Nat.le_of_ble_eq_true rfl) (Or.inl ⟨F641, y598, y599, y600, y601, y602, y642, y600, y603, y604, x_onces, g631, g511, (SAME.tr (SAME.tr (SAME.tr (SAME.tr (SAME.tr SAME.rf t480 (by decide)) t512 (by decide)) t554 (by decide)) t605 (by decide)) t643 (by decide)), (SAME.at t643 (by decide) t606), t607, (SAME.at t643 (by decide) t608), t609, (SAME.at t643 (by decide) t610), (SAME.at t643 (by decide) t612), (SAME.at t643 (by decide) t614), t644, (ir_wk t645 (by decide) (by decide)), t646, (SAME.at t643 (by decide) t615), (SAME.at t643 (by decide) t616), (SAME.at t643 (by decide) (SAME.at t605 (by decide) (SAME.at t554 (by decide) (SAME.at t512 (by decide) (SAME.at t480 (by decide) e_onces))))), r632, (SG.wk r634 (by decide) (by decide)), r635, r636, r633, (by omega), rfl, rfl⟩)
              · refine hp.elim (fun F647 h9z0 => h9z0.elim (fun y648 h9z1 => h9z1.elim (fun y649 h9z2 => h9z2.elim (fun y650 h9z3 => h9z3.elim (fun y651 h9z4 => h9z4.elim (fun y652 h9z5 => h9z5.elim (fun y653 h9z6 => h9z6.elim (fun y654 h9z7 => h9z7.elim (fun t655 h9z8 => h9z8.elim (fun t656 h9z9 => h9z9.elim (fun t657 h9z10 => h9z10.elim (fun t658 h9z11 => h9z11.elim (fun t659 h9z12 => h9z12.elim (fun t660 h9z13 => h9z13.elim (fun t661 h9z14 => h9z14.elim (fun t662 h9z15 => h9z15.elim (fun t663 h9z16 => h9z16.elim (fun t664 h9z17 => h9z17.elim (fun t665 h9z18 => h9z18.elim (fun t666 h9z19 => h9z19.elim (fun t667 h9z20 => h9z20.elim (fun t668 h9z21 => h9z21.elim (fun t669 h9z22 => h9z22.elim (fun t670 h9z23 => h9z23.elim (fun t671 h9z24 => h9z24.elim (fun t672 h9z25 => h9z25.elim (fun t673 h9z26 => h9z26.elim (fun heq927 h9z27 => ?_))))))))))))))))))))))))))))
                clear h9z0 h9z1 h9z2 h9z3 h9z4 h9z5 h9z6 h9z7 h9z8 h9z9 h9z10 h9z11 h9z12 h9z13 h9z14 h9z15 h9z16 h9z17 h9z18 h9z19 h9z20 h9z21 h9z22 h9z23 h9z24 h9z25 h9z26
                subst heq927
                subst h9z27
                clear t622 t623
                have hP : va_P D vwCl [(h_h, .inl (cI, 104, .inl g631)), (h_names, .inl (cJ, 36, .inr (.inl g511))), (h_reserved, .inl (cJ, 23, .inr (.inl f_reserved))), (h0, .inr (10, vL 67 F647)), (h_tape, .inl (cB, 940, .inl f_tape))] H := hP
                have hD : va_D A [(h_h, .inl (cI, 104, .inl g631)), (h_names, .inl (cJ, 36, .inr (.inl g511))), (h_reserved, .inl (cJ, 23, .inr (.inl f_reserved))), (h0, .inr (10, vL 67 F647)), (h_tape, .inl (cB, 940, .inl f_tape))] := hD
                refine W.widen (k := 0) (n := 0) (Nat.le_of_ble_eq_true rfl) (Nat.le_of_ble_eq_true rfl) ?_
                have k675 : 2 ≤ y599.toInt ∧ y599.toInt ≤ 2 := ⟨Int.le_trans (Int.le_refl _) (Int.le_of_eq t667.symm), Int.le_trans (Int.le_of_eq t667) (Int.le_refl _)⟩
                have k676 : 50 ≤ y602.toInt ∧ y602.toInt ≤ 2147483647 := ⟨Int.le_trans (Int.le_refl _) t668, (ir_any _).2⟩
                have k677 : 50 ≤ y602.toInt ∧ y602.toInt ≤ 150 := ⟨k676.1, Int.le_trans t669 (Int.le_refl _)⟩
                refine lv_if_ne (tgt := 223) hx hb dX10_line0_218 (by decide) (fun _ => ?_) (fun g => absurd g (by decide))
                refine lv_aload_n hx hb dX10_line0_223 rfl (lv_at hl 2 rfl) ?_
                have n678 : F647 7 = .ref h_h := (SAME.at t655 (by decide) n628)
                refine get_f (D := D) (ci := 10) (v := .ref h_h) (C := RX10) (T := TX10) (N := 67) hx hb hw inAX10 hown hK hP 3 rfl rfl 7 (by decide) (hw _ q_1268) (fun _ h9 => h9) n678 dX10_line0_224 ?_
                refine lv_bipush (v := 32) hx hb dX10_line0_227 (by decide) ?_
                refine lv_iload_n hx hb dX10_line0_229 rfl (lv_at hl 0 rfl) ?_
                refine lv_iadd hx hb dX10_line0_230 ?_
                refine lv_topi (fun v679 ev679 => ?_)
                have bv679 : v679.toInt = 32 + v467.toInt := by rw [ev679]; exact add_k rfl rfl ⟨Int.le_refl _, Int.le_refl _⟩ k470 (by decide)
                have k680 : 32 ≤ v679.toInt ∧ v679.toInt ≤ 43 := add_r bv679 ⟨Int.le_refl _, Int.le_refl _⟩ k470 (by decide)
                refine lv_aload_n hx hb dX10_line0_231 rfl (lv_at hl 2 rfl) ?_
                refine get_f (D := D) (ci := 10) (v := .int y654) (C := RX10) (T := TX10) (N := 67) hx hb hw inAX10 hown hK hP 3 rfl rfl 19 (by decide) (hw _ q_1280) (fun _ h9 => h9) t666 dX10_line0_232 ?_
                obtain ⟨g681, eg681⟩ : ∃ z : Nat → Int32, upd g631 v679.toNatClampNeg y654 = z := ⟨_, rfl⟩
                have r682 : SG 0 0 0 40 g681 := by rw [← eg681]; exact r632.up (Int.le_trans (by decide) k680.1) (Or.inr (Or.inl (dec_lt k680.1 (by decide))))
                have r683 : SG 44 55 0 9 g681 := by rw [← eg681]; exact r633.up (Int.le_trans (by decide) k680.1) (Or.inl (lt_dec k680.2 (by decide)))
                have r684 : SG 5 5 0 11 g681 := by rw [← eg681]; exact r634.up (Int.le_trans (by decide) k680.1) (Or.inr (Or.inl (dec_lt k680.1 (by decide))))
                have r685 : SG 6 6 0 12 g681 := by rw [← eg681]; exact r635.up (Int.le_trans (by decide) k680.1) (Or.inr (Or.inl (dec_lt k680.1 (by decide))))
                have r686 : SG 7 7 0 6 g681 := by rw [← eg681]; exact r636.up (Int.le_trans (by decide) k680.1) (Or.inr (Or.inl (dec_lt k680.1 (by decide))))
                refine iast_g hx hb hK hP hD hS 0 0 rfl rfl (ix_k k680 (by decide) (by decide)) eg681 dX10_line0_235 (fun H locs hP hD hS => ?_)
                have hP : va_P D vwCl [(h_h, .inl (cI, 104, .inl g681)), (h_names, .inl (cJ, 36, .inr (.inl g511))), (h_reserved, .inl (cJ, 23, .inr (.inl f_reserved))), (h0, .inr (10, vL 67 F647)), (h_tape, .inl (cB, 940, .inl f_tape))] H := hP
                have hD : va_D A [(h_h, .inl (cI, 104, .inl g681)), (h_names, .inl (cJ, 36, .inr (.inl g511))), (h_reserved, .inl (cJ, 23, .inr (.inl f_reserved))), (h0, .inr (10, vL 67 F647)), (h_tape, .inl (cB, 940, .inl f_tape))] := hD
                refine lv_aload_n hx hb dX10_line0_236 rfl (lv_at hl 2 rfl) ?_
                refine get_f (D := D) (ci := 10) (v := .ref h_h) (C := RX10) (T := TX10) (N := 67) hx hb hw inAX10 hown hK hP 3 rfl rfl 7 (by decide) (hw _ q_1268) (fun _ h9 => h9) n678 dX10_line0_237 ?_
                refine lv_iconst (v := 5) hx hb dX10_line0_240 (by decide) ?_
                refine lv_dup2_11 hx hb dX10_line0_241 rfl rfl ?_
                refine iald_n hx hb hK hP 0 0 rfl rfl 5 rfl (Nat.le_of_ble_eq_true rfl) (Nat.le_of_ble_eq_true rfl) rfl dX10_line0_242 ?_
                refine lv_topi (fun v687 ev687 => ?_)
                have k688 : 0 ≤ v687.toInt ∧ v687.toInt ≤ 11 := by rw [ev687]; exact r684.atN 5 (by decide) (by decide)
                refine lv_iconst (v := 1) hx hb dX10_line0_243 (by decide) ?_
                refine lv_iadd hx hb dX10_line0_244 ?_
                refine lv_topi (fun v689 ev689 => ?_)
                have bv689 : v689.toInt = v687.toInt + 1 := by rw [ev689]; exact add_k rfl rfl k688 ⟨Int.le_refl _, Int.le_refl _⟩ (by decide)
                have k690 : 1 ≤ v689.toInt ∧ v689.toInt ≤ 12 := add_r bv689 k688 ⟨Int.le_refl _, Int.le_refl _⟩ (by decide)
                obtain ⟨g691, eg691⟩ : ∃ z : Nat → Int32, upd g681 5 v689 = z := ⟨_, rfl⟩
                have r692 : SG 0 0 0 40 g691 := by rw [← eg691]; exact r682.upN (Or.inr (Or.inl (by decide)))
                have r693 : SG 44 55 0 9 g691 := by rw [← eg691]; exact r683.upN (Or.inl (by decide))
                have r694 : SG 6 6 0 12 g691 := by rw [← eg691]; exact r685.upN (Or.inl (by decide))
                have r695 : SG 7 7 0 6 g691 := by rw [← eg691]; exact r686.upN (Or.inl (by decide))
                have r696 : SG 5 5 0 12 g691 := by rw [← eg691]; exact SG.new1 (ir_wk k690 (by decide) (by decide))
                refine iast_n hx hb hK hP hD hS 0 0 rfl rfl 5 rfl (Nat.le_of_ble_eq_true rfl) (Nat.le_of_ble_eq_true rfl) eg691 dX10_line0_245 (fun H locs hP hD hS => ?_)
                have hP : va_P D vwCl [(h_h, .inl (cI, 104, .inl g691)), (h_names, .inl (cJ, 36, .inr (.inl g511))), (h_reserved, .inl (cJ, 23, .inr (.inl f_reserved))), (h0, .inr (10, vL 67 F647)), (h_tape, .inl (cB, 940, .inl f_tape))] H := hP
                have hD : va_D A [(h_h, .inl (cI, 104, .inl g691)), (h_names, .inl (cJ, 36, .inr (.inl g511))), (h_reserved, .inl (cJ, 23, .inr (.inl f_reserved))), (h0, .inr (10, vL 67 F647)), (h_tape, .inl (cB, 940, .inl f_tape))] := hD
                refine lv_iconst (v := 1) hx hb dX10_line0_246 (by decide) ?_
                exact ret_i (v := 1) hx hb hr hlocks hS (hP.sub (ws' := [(h0, .inr (10, vL 67 F647)), (h_tape, .inl (cB, 940, .inl f_tape)), (h_h, .inl (cI, 104, .inl g691)), (h_names, .inl (cJ, 36, .inr (.inl g511))), (h_reserved, .inl (cJ, 23, .inr (.inl f_reserved)))]) [3, 4, 0, 1, 2] rfl) (hD.sub (ws' := [(h0, .inr (10, vL 67 F647)), (h_tape, .inl (cB, 940, .inl f_tape)), (h_h, .inl (cI, 104, .inl g691)), (h_names, .inl (cJ, 36, .inr (.inl g511))), (h_reserved, .inl (cJ, 23, .inr (.inl f_reserved)))]) [3, 4, 0, 1, 2] (by decide) rfl) dX10_line0_247 rfl (Nat.le_of_ble_eq_true rfl) (Nat.le_of_ble_eq_true rfl) (Or.inr ⟨F647, y648, y649, y650, y651, y652, y653, y654, x_onces, g691, g511, (SAME.tr (SAME.tr (SAME.tr (SAME.tr (SAME.tr SAME.rf t480 (by decide)) t512 (by decide)) t554 (by decide)) t605 (by decide)) t655 (by decide)), t656, t657, t658, t659, t660, t661, t662, t663, t664, t665, t666, (SAME.at t655 (by decide) (SAME.at t605 (by decide) (SAME.at t554 (by decide) (SAME.at t512 (by decide) (SAME.at t480 (by decide) e_onces))))), r692, r696, r694, r695, r693, (by have zl1 : (1 : Int32).toInt = 1 := (by decide); omega), (by have zl1 : (1 : Int32).toInt = 1 := (by decide); omega), (by omega), rfl, rfl⟩)
        · have hP : va_P D vwCl [(h0, .inr (10, vL 67 F526)), (h_tape, .inl (cB, 940, .inl f_tape)), (h_h, .inl (cI, 104, .inl f_h)), (h_names, .inl (cJ, 36, .inr (.inl f_names))), (h_reserved, .inl (cJ, 23, .inr (.inl f_reserved)))] H := hP
          have hD : va_D A [(h0, .inr (10, vL 67 F526)), (h_tape, .inl (cB, 940, .inl f_tape)), (h_h, .inl (cI, 104, .inl f_h)), (h_names, .inl (cJ, 36, .inr (.inl f_names))), (h_reserved, .inl (cJ, 23, .inr (.inl f_reserved)))] := hD
          refine W.widen (k := 0) (n := 0) (Nat.le_of_ble_eq_true rfl) (Nat.le_of_ble_eq_true rfl) ?_
          refine lv_if_ne (tgt := 159) hx hb dX10_line0_154 (by decide) (fun g => absurd (by decide) g) (fun _ => ?_)
          refine lv_iconst (v := 0) hx hb dX10_line0_157 (by decide) ?_
          exact ret_i (v := 0) hx hb hr hlocks hS hP hD dX10_line0_158 rfl (Nat.le_of_ble_eq_true rfl) (Nat.le_of_ble_eq_true rfl) (Or.inl ⟨F526, y474, y475, y476, y477, y478, y527, y476, y479, x_got, x_onces, f_h, f_names, (SAME.tr (SAME.tr SAME.rf t480 (by decide)) t528 (by decide)), (SAME.at t528 (by decide) t481), t482, (SAME.at t528 (by decide) t483), t484, (SAME.at t528 (by decide) t485), (SAME.at t528 (by decide) t487), (SAME.at t528 (by decide) t489), t529, (ir_wk t530 (by decide) (by decide)), t531, (SAME.at t528 (by decide) t490), (SAME.at t528 (by decide) (SAME.at t480 (by decide) e_got)), (SAME.at t528 (by decide) (SAME.at t480 (by decide) e_onces)), s_h_0, (SG.wk r471 (by decide) (by decide)), s_h_6, s_h_7, s_h_44, (by omega), rfl, rfl⟩)
      · have dc469 : v467.toInt = 12 := eq_i (a := v467.toInt) (b := 12) rfl rfl c469
        have k697 : 12 ≤ v467.toInt ∧ v467.toInt ≤ 12 := ⟨Int.le_trans (Int.le_refl _) (Int.le_of_eq dc469.symm), k468.2⟩
        refine lv_aload_n hx hb dX10_line0_136 rfl (lv_at hl 2 rfl) ?_
        refine lv_iconst (v := 4) hx hb dX10_line0_137 (by decide) ?_
        refine call_Vi (wr := [(h_tape, .inl (cB, 940, .inl f_tape)), (h_h, .inl (cI, 104, .inl f_h)), (h_names, .inl (cJ, 36, .inr (.inl f_names))), (h_reserved, .inl (cJ, 23, .inr (.inl f_reserved)))]) (As := [.int 4]) (rest := []) hx hb hml hown hw (m_X10_bad l D cI cJ cB cP cM cZ h0 Fh x_at 4 _ e_at) wV_X10_205_X10_bad dX10_line0_138 hK hP hD hS hA [4] [0, 1, 2, 3] rfl rfl (by decide) (by decide) (by decide) 0 10 rfl rfl GG.fb hG.at hl.1 rfl (Nat.le_of_ble_eq_true rfl) ⟨(Nat.le_of_ble_eq_true rfl), (Nat.le_of_ble_eq_true rfl)⟩ ⟨(Nat.le_of_ble_eq_true rfl), (Nat.le_of_ble_eq_true rfl)⟩ (fun r698 u H locs hp hP hD hS => ?_)
        have zl4 : (4 : Int32).toInt = 4 := by decide
        obtain ⟨F699, t700, t701, t702, rfl, rfl⟩ := hp
        have hP : va_P D vwCl [(h_tape, .inl (cB, 940, .inl f_tape)), (h_h, .inl (cI, 104, .inl f_h)), (h_names, .inl (cJ, 36, .inr (.inl f_names))), (h_reserved, .inl (cJ, 23, .inr (.inl f_reserved))), (h0, .inr (10, vL 67 F699))] H := hP
        have hD : va_D A [(h_tape, .inl (cB, 940, .inl f_tape)), (h_h, .inl (cI, 104, .inl f_h)), (h_names, .inl (cJ, 36, .inr (.inl f_names))), (h_reserved, .inl (cJ, 23, .inr (.inl f_reserved))), (h0, .inr (10, vL 67 F699))] := hD
        refine W.widen (k := 0) (n := 0) (Nat.le_of_ble_eq_true rfl) (Nat.le_of_ble_eq_true rfl) ?_
        exact ret_i (v := 0) hx hb hr hlocks hS (hP.sub (ws' := [(h0, .inr (10, vL 67 F699)), (h_tape, .inl (cB, 940, .inl f_tape)), (h_h, .inl (cI, 104, .inl f_h)), (h_names, .inl (cJ, 36, .inr (.inl f_names))), (h_reserved, .inl (cJ, 23, .inr (.inl f_reserved)))]) [4, 0, 1, 2, 3] rfl) (hD.sub (ws' := [(h0, .inr (10, vL 67 F699)), (h_tape, .inl (cB, 940, .inl f_tape)), (h_h, .inl (cI, 104, .inl f_h)), (h_names, .inl (cJ, 36, .inr (.inl f_names))), (h_reserved, .inl (cJ, 23, .inr (.inl f_reserved)))]) [4, 0, 1, 2, 3] (by decide) rfl) dX10_line0_141 rfl (Nat.le_of_ble_eq_true rfl) (Nat.le_of_ble_eq_true rfl) (Or.inl ⟨F699, x_p, x_token, x_at, x_span, x_number, 4, x_at, x_word, x_got, x_onces, f_h, f_names, (SAME.tr SAME.rf t700 (by decide)), (SAME.at t700 (by decide) e_p), i_x_p, (SAME.at t700 (by decide) e_token), i_x_token, (SAME.at t700 (by decide) e_at), (SAME.at t700 (by decide) e_span), (SAME.at t700 (by decide) e_number), t701, (show 1 ≤ (4 : Int32).toInt ∧ (4 : Int32).toInt ≤ 4 by decide), t702, (SAME.at t700 (by decide) e_word), (SAME.at t700 (by decide) e_got), (SAME.at t700 (by decide) e_onces), s_h_0, s_h_5, s_h_6, s_h_7, s_h_44, (by have zl4 : (4 : Int32).toInt = 4 := (by decide); omega), rfl, rfl⟩)
  · have dc4 : 0 ≤ r1.toInt := nlt_i (a := r1.toInt) (b := 0) rfl rfl c4
    have k704 : 0 ≤ r1.toInt ∧ r1.toInt ≤ 4 := ⟨Int.le_trans (Int.le_refl _) dc4, t2.2⟩
    refine lv_aload_n hx hb dX10_line0_9 rfl (lv_at hl 1 rfl) ?_
    refine lv_iload_n hx hb dX10_line0_10 rfl (lv_at hl 0 rfl) ?_
    refine call_Vi (wr := [(h_h, .inl (cI, 104, .inl f_h)), (h_names, .inl (cJ, 36, .inr (.inl f_names))), (h_reserved, .inl (cJ, 23, .inr (.inl f_reserved)))]) (As := [.int r1]) (rest := []) hx hb hml hown hw (m_X10_isOnce l D cI cJ cB cP cM cZ h0 h_tape Fh x_size x_p x_limit x_token x_at x_number x_word x_onces f_tape r1 _ e_tape e_size i_x_size e_p i_x_p e_limit i_x_limit e_token i_x_token e_at e_number e_word e_onces (by omega)) wV_X10_239_X10_isOnce dX10_line0_11 hK hP hD hS hA [4, 0] [1, 2, 3] rfl rfl (by decide) (by decide) (by decide) 0 10 rfl rfl GG.fb hG.at hl.1 rfl (Nat.le_of_ble_eq_true rfl) ⟨(Nat.le_of_ble_eq_true rfl), (Nat.le_of_ble_eq_true rfl)⟩ ⟨(Nat.le_of_ble_eq_true rfl), (Nat.le_of_ble_eq_true rfl)⟩ (fun r705 u H locs hp hP hD hS => ?_)
    rcases hp with hp | hp
    · refine hp.elim (fun F706 h9z0 => h9z0.elim (fun y707 h9z1 => h9z1.elim (fun y708 h9z2 => h9z2.elim (fun y709 h9z3 => h9z3.elim (fun y710 h9z4 => h9z4.elim (fun y711 h9z5 => h9z5.elim (fun y712 h9z6 => h9z6.elim (fun y713 h9z7 => h9z7.elim (fun t714 h9z8 => h9z8.elim (fun t715 h9z9 => h9z9.elim (fun t716 h9z10 => h9z10.elim (fun t717 h9z11 => h9z11.elim (fun t718 h9z12 => h9z12.elim (fun t719 h9z13 => h9z13.elim (fun t720 h9z14 => h9z14.elim (fun t721 h9z15 => h9z15.elim (fun t722 h9z16 => h9z16.elim (fun t723 h9z17 => h9z17.elim (fun t724 h9z18 => h9z18.elim (fun t725 h9z19 => h9z19.elim (fun t726 h9z20 => h9z20.elim (fun t727 h9z21 => h9z21.elim (fun t728 h9z22 => h9z22.elim (fun heq923 h9z23 => ?_))))))))))))))))))))))))
      clear h9z0 h9z1 h9z2 h9z3 h9z4 h9z5 h9z6 h9z7 h9z8 h9z9 h9z10 h9z11 h9z12 h9z13 h9z14 h9z15 h9z16 h9z17 h9z18 h9z19 h9z20 h9z21 h9z22
      subst heq923
      subst h9z23
      have hP : va_P D vwCl [(h_h, .inl (cI, 104, .inl f_h)), (h_names, .inl (cJ, 36, .inr (.inl f_names))), (h_reserved, .inl (cJ, 23, .inr (.inl f_reserved))), (h0, .inr (10, vL 67 F706)), (h_tape, .inl (cB, 940, .inl f_tape))] H := hP
      have hD : va_D A [(h_h, .inl (cI, 104, .inl f_h)), (h_names, .inl (cJ, 36, .inr (.inl f_names))), (h_reserved, .inl (cJ, 23, .inr (.inl f_reserved))), (h0, .inr (10, vL 67 F706)), (h_tape, .inl (cB, 940, .inl f_tape))] := hD
      refine W.widen (k := 0) (n := 0) (Nat.le_of_ble_eq_true rfl) (Nat.le_of_ble_eq_true rfl) ?_
      refine lv_if_ne (tgt := 19) hx hb dX10_line0_14 (by decide) (fun _ => ?_) (fun g => absurd g (by decide))
      refine lv_aload_n hx hb dX10_line0_19 rfl (lv_at hl 1 rfl) ?_
      refine lv_iload_n hx hb dX10_line0_20 rfl (lv_at hl 0 rfl) ?_
      refine lv_if_ne (tgt := 28) hx hb dX10_line0_21 (by decide) (fun c735 => ?_) (fun c735 => ?_)
      · have dc735 : r1.toInt ≠ 0 := ne_i (a := r1.toInt) (b := 0) rfl rfl c735
        have k736 : 1 ≤ r1.toInt ∧ r1.toInt ≤ 4 := ⟨ne_lo dc735 k704.1 ⟨Int.le_refl _, Int.le_refl _⟩ (by decide), k704.2⟩
        refine lv_iload_n hx hb dX10_line0_28 rfl (lv_at hl 0 rfl) ?_
        refine lv_iconst (v := 1) hx hb dX10_line0_29 (by decide) ?_
        refine lv_icmp_ne (tgt := 38) hx hb dX10_line0_30 (by decide) (fun c737 => ?_) (fun c737 => ?_)
        · have dc737 : r1.toInt ≠ 1 := ne_i (a := r1.toInt) (b := 1) rfl rfl c737
          have k738 : 2 ≤ r1.toInt ∧ r1.toInt ≤ 4 := ⟨ne_lo dc737 k736.1 ⟨Int.le_refl _, Int.le_refl _⟩ (by decide), k736.2⟩
          refine lv_iload_n hx hb dX10_line0_38 rfl (lv_at hl 0 rfl) ?_
          refine lv_iconst (v := 2) hx hb dX10_line0_39 (by decide) ?_
          refine lv_icmp_ne (tgt := 49) hx hb dX10_line0_40 (by decide) (fun c739 => ?_) (fun c739 => ?_)
          · have dc739 : r1.toInt ≠ 2 := ne_i (a := r1.toInt) (b := 2) rfl rfl c739
            have k740 : 3 ≤ r1.toInt ∧ r1.toInt ≤ 4 := ⟨ne_lo dc739 k738.1 ⟨Int.le_refl _, Int.le_refl _⟩ (by decide), k738.2⟩
            refine lv_iconst (v := 0) hx hb dX10_line0_49 (by decide) ?_
            refine lv_iload_n hx hb dX10_line0_50 rfl (lv_at hl 0 rfl) ?_
            refine lv_if_ne (tgt := 59) hx hb dX10_line0_51 (by decide) (fun c741 => ?_) (fun c741 => False.elim (bad_le (Int.le_of_eq (eq_i (a := r1.toInt) (b := 0) rfl rfl c741)) k740.1 (Int.le_refl _) (by decide)))
            have dc741 : r1.toInt ≠ 0 := ne_i (a := r1.toInt) (b := 0) rfl rfl c741
            refine lv_iload_n hx hb dX10_line0_59 rfl (lv_at hl 0 rfl) ?_
            refine lv_iconst (v := 1) hx hb dX10_line0_60 (by decide) ?_
            refine lv_icmp_ne (tgt := 70) hx hb dX10_line0_61 (by decide) (fun c742 => ?_) (fun c742 => False.elim (bad_le (Int.le_of_eq (eq_i (a := r1.toInt) (b := 1) rfl rfl c742)) k740.1 (Int.le_refl _) (by decide)))
            have dc742 : r1.toInt ≠ 1 := ne_i (a := r1.toInt) (b := 1) rfl rfl c742
            refine lv_iload_n hx hb dX10_line0_70 rfl (lv_at hl 0 rfl) ?_
            refine lv_iconst (v := 2) hx hb dX10_line0_71 (by decide) ?_
            refine lv_icmp_ne (tgt := 81) hx hb dX10_line0_72 (by decide) (fun c743 => ?_) (fun c743 => False.elim (bad_le (Int.le_of_eq (eq_i (a := r1.toInt) (b := 2) rfl rfl c743)) k740.1 (Int.le_refl _) (by decide)))
            have dc743 : r1.toInt ≠ 2 := ne_i (a := r1.toInt) (b := 2) rfl rfl c743
            refine lv_iload_n hx hb dX10_line0_81 rfl (lv_at hl 0 rfl) ?_
            refine lv_iconst (v := 3) hx hb dX10_line0_82 (by decide) ?_
            refine lv_icmp_ne (tgt := 91) hx hb dX10_line0_83 (by decide) (fun c744 => ?_) (fun c744 => ?_)
            · have dc744 : r1.toInt ≠ 3 := ne_i (a := r1.toInt) (b := 3) rfl rfl c744
              have k745 : 4 ≤ r1.toInt ∧ r1.toInt ≤ 4 := ⟨ne_lo dc744 k740.1 ⟨Int.le_refl _, Int.le_refl _⟩ (by decide), k740.2⟩
              refine lv_bipush (v := 20) hx hb dX10_line0_91 (by decide) ?_
              have n746 : F706 1 = .ref h_tape := (SAME.at t714 (by decide) e_tape)
              have n747 : F706 3 = .int x_size := (SAME.at t714 (by decide) e_size)
              have n748 : F706 5 = .int x_limit := (SAME.at t714 (by decide) e_limit)
              have n749 : F706 19 = .int x_got := (SAME.at t714 (by decide) e_got)
              refine call_Vi (wr := [(h_h, .inl (cI, 104, .inl f_h)), (h_names, .inl (cJ, 36, .inr (.inl f_names))), (h_reserved, .inl (cJ, 23, .inr (.inl f_reserved)))]) (As := [.int 0, .int 20]) (rest := []) hx hb hml hown hw (m_X10_takes l D cI cJ cB cP cM cZ h0 h_tape F706 x_size y707 x_limit y708 y709 y711 y712 x_got f_tape 0 20 _ n746 n747 i_x_size t715 t716 n748 i_x_limit t717 t718 t719 t723 t724 n749 (by omega)) wV_X10_242_X10_takes dX10_line0_93 hK hP hD hS hA [3, 4] [0, 1, 2] rfl rfl (by decide) (by decide) (by decide) 0 10 rfl rfl GG.fb hG.at hl.1 rfl (Nat.le_of_ble_eq_true rfl) ⟨(Nat.le_of_ble_eq_true rfl), (Nat.le_of_ble_eq_true rfl)⟩ ⟨(Nat.le_of_ble_eq_true rfl), (Nat.le_of_ble_eq_true rfl)⟩ (fun r750 u H locs hp hP hD hS => ?_)
              have zl0 : (0 : Int32).toInt = 0 := by decide
              have zl20 : (20 : Int32).toInt = 20 := by decide
              rcases hp with hp | hp
              · obtain ⟨F751, y752, t753, t754, t755, t756, rfl, rfl⟩ := hp
                have hP : va_P D vwCl [(h_h, .inl (cI, 104, .inl f_h)), (h_names, .inl (cJ, 36, .inr (.inl f_names))), (h_reserved, .inl (cJ, 23, .inr (.inl f_reserved))), (h0, .inr (10, vL 67 F751)), (h_tape, .inl (cB, 940, .inl f_tape))] H := hP
                have hD : va_D A [(h_h, .inl (cI, 104, .inl f_h)), (h_names, .inl (cJ, 36, .inr (.inl f_names))), (h_reserved, .inl (cJ, 23, .inr (.inl f_reserved))), (h0, .inr (10, vL 67 F751)), (h_tape, .inl (cB, 940, .inl f_tape))] := hD
                refine W.widen (k := 0) (n := 0) (Nat.le_of_ble_eq_true rfl) (Nat.le_of_ble_eq_true rfl) ?_
                refine lv_if_ne (tgt := 101) hx hb dX10_line0_96 (by decide) (fun g => absurd (by decide) g) (fun _ => ?_)
                refine lv_iconst (v := 0) hx hb dX10_line0_99 (by decide) ?_
                exact ret_i (v := 0) hx hb hr hlocks hS (hP.sub (ws' := [(h0, .inr (10, vL 67 F751)), (h_tape, .inl (cB, 940, .inl f_tape)), (h_h, .inl (cI, 104, .inl f_h)), (h_names, .inl (cJ, 36, .inr (.inl f_names))), (h_reserved, .inl (cJ, 23, .inr (.inl f_reserved)))]) [3, 4, 0, 1, 2] rfl) (hD.sub (ws' := [(h0, .inr (10, vL 67 F751)), (h_tape, .inl (cB, 940, .inl f_tape)), (h_h, .inl (cI, 104, .inl f_h)), (h_names, .inl (cJ, 36, .inr (.inl f_names))), (h_reserved, .inl (cJ, 23, .inr (.inl f_reserved)))]) [3, 4, 0, 1, 2] (by decide) rfl) dX10_line0_100 rfl (Nat.le_of_ble_eq_true rfl) (Nat.le_of_ble_eq_true rfl) (Or.inl ⟨F751, y707, y708, y709, y710, y711, y752, y709, y712, x_got, y713, f_h, f_names, (SAME.tr (SAME.tr SAME.rf t714 (by decide)) t753 (by decide)), (SAME.at t753 (by decide) t715), t716, (SAME.at t753 (by decide) t717), t718, (SAME.at t753 (by decide) t719), (SAME.at t753 (by decide) t721), (SAME.at t753 (by decide) t723), t754, (ir_wk t755 (by decide) (by decide)), t756, (SAME.at t753 (by decide) t724), (SAME.at t753 (by decide) n749), (SAME.at t753 (by decide) t725), s_h_0, s_h_5, s_h_6, s_h_7, s_h_44, (by omega), rfl, rfl⟩)
              · refine hp.elim (fun F757 h9z0 => h9z0.elim (fun y758 h9z1 => h9z1.elim (fun y759 h9z2 => h9z2.elim (fun y760 h9z3 => h9z3.elim (fun y761 h9z4 => h9z4.elim (fun y762 h9z5 => h9z5.elim (fun y763 h9z6 => h9z6.elim (fun y764 h9z7 => h9z7.elim (fun t765 h9z8 => h9z8.elim (fun t766 h9z9 => h9z9.elim (fun t767 h9z10 => h9z10.elim (fun t768 h9z11 => h9z11.elim (fun t769 h9z12 => h9z12.elim (fun t770 h9z13 => h9z13.elim (fun t771 h9z14 => h9z14.elim (fun t772 h9z15 => h9z15.elim (fun t773 h9z16 => h9z16.elim (fun t774 h9z17 => h9z17.elim (fun t775 h9z18 => h9z18.elim (fun t776 h9z19 => h9z19.elim (fun t777 h9z20 => h9z20.elim (fun t778 h9z21 => h9z21.elim (fun t779 h9z22 => h9z22.elim (fun t780 h9z23 => h9z23.elim (fun t781 h9z24 => h9z24.elim (fun t782 h9z25 => h9z25.elim (fun t783 h9z26 => h9z26.elim (fun heq927 h9z27 => ?_))))))))))))))))))))))))))))
                clear h9z0 h9z1 h9z2 h9z3 h9z4 h9z5 h9z6 h9z7 h9z8 h9z9 h9z10 h9z11 h9z12 h9z13 h9z14 h9z15 h9z16 h9z17 h9z18 h9z19 h9z20 h9z21 h9z22 h9z23 h9z24 h9z25 h9z26
                subst heq927
                subst h9z27
                clear t727 t728
                have hP : va_P D vwCl [(h_h, .inl (cI, 104, .inl f_h)), (h_names, .inl (cJ, 36, .inr (.inl f_names))), (h_reserved, .inl (cJ, 23, .inr (.inl f_reserved))), (h0, .inr (10, vL 67 F757)), (h_tape, .inl (cB, 940, .inl f_tape))] H := hP
                have hD : va_D A [(h_h, .inl (cI, 104, .inl f_h)), (h_names, .inl (cJ, 36, .inr (.inl f_names))), (h_reserved, .inl (cJ, 23, .inr (.inl f_reserved))), (h0, .inr (10, vL 67 F757)), (h_tape, .inl (cB, 940, .inl f_tape))] := hD
                refine W.widen (k := 0) (n := 0) (Nat.le_of_ble_eq_true rfl) (Nat.le_of_ble_eq_true rfl) ?_
                have k785 : 2 ≤ y708.toInt ∧ y708.toInt ≤ 2 := ⟨Int.le_trans (Int.le_refl _) (Int.le_of_eq t777.symm), Int.le_trans (Int.le_of_eq t777) (Int.le_refl _)⟩
                have k786 : 0 ≤ y711.toInt ∧ y711.toInt ≤ 2147483647 := ⟨Int.le_trans (Int.le_refl _) t778, (ir_any _).2⟩
                have k787 : 0 ≤ y711.toInt ∧ y711.toInt ≤ 20 := ⟨k786.1, Int.le_trans t779 (Int.le_refl _)⟩
                refine lv_if_ne (tgt := 101) hx hb dX10_line0_96 (by decide) (fun _ => ?_) (fun g => absurd g (by decide))
                refine lv_aload_n hx hb dX10_line0_101 rfl (lv_at hl 1 rfl) ?_
                have n788 : F706 7 = .ref h_h := (SAME.at t714 (by decide) e_h)
                have n789 : F757 7 = .ref h_h := (SAME.at t765 (by decide) n788)
                refine get_f (D := D) (ci := 10) (v := .ref h_h) (C := RX10) (T := TX10) (N := 67) hx hb hw inAX10 hown hK hP 3 rfl rfl 7 (by decide) (hw _ q_1268) (fun _ h9 => h9) n789 dX10_line0_102 ?_
                refine lv_iload_n hx hb dX10_line0_105 rfl (lv_at hl 0 rfl) ?_
                refine lv_aload_n hx hb dX10_line0_106 rfl (lv_at hl 1 rfl) ?_
                refine get_f (D := D) (ci := 10) (v := .int y764) (C := RX10) (T := TX10) (N := 67) hx hb hw inAX10 hown hK hP 3 rfl rfl 19 (by decide) (hw _ q_1280) (fun _ h9 => h9) t776 dX10_line0_107 ?_
                obtain ⟨g790, eg790⟩ : ∃ z : Nat → Int32, upd f_h r1.toNatClampNeg y764 = z := ⟨_, rfl⟩
                have r791 : SG 0 0 0 40 g790 := by rw [← eg790]; exact s_h_0.up (Int.le_trans (by decide) k745.1) (Or.inr (Or.inl (dec_lt k745.1 (by decide))))
                have r792 : SG 44 55 0 9 g790 := by rw [← eg790]; exact s_h_44.up (Int.le_trans (by decide) k745.1) (Or.inl (lt_dec k745.2 (by decide)))
                have r793 : SG 5 5 0 12 g790 := by rw [← eg790]; exact s_h_5.up (Int.le_trans (by decide) k745.1) (Or.inl (lt_dec k745.2 (by decide)))
                have r794 : SG 6 6 0 12 g790 := by rw [← eg790]; exact s_h_6.up (Int.le_trans (by decide) k745.1) (Or.inl (lt_dec k745.2 (by decide)))
                have r795 : SG 7 7 0 6 g790 := by rw [← eg790]; exact s_h_7.up (Int.le_trans (by decide) k745.1) (Or.inl (lt_dec k745.2 (by decide)))
                refine iast_g hx hb hK hP hD hS 0 0 rfl rfl (ix_k k745 (by decide) (by decide)) eg790 dX10_line0_110 (fun H locs hP hD hS => ?_)
                have hP : va_P D vwCl [(h_h, .inl (cI, 104, .inl g790)), (h_names, .inl (cJ, 36, .inr (.inl f_names))), (h_reserved, .inl (cJ, 23, .inr (.inl f_reserved))), (h0, .inr (10, vL 67 F757)), (h_tape, .inl (cB, 940, .inl f_tape))] H := hP
                have hD : va_D A [(h_h, .inl (cI, 104, .inl g790)), (h_names, .inl (cJ, 36, .inr (.inl f_names))), (h_reserved, .inl (cJ, 23, .inr (.inl f_reserved))), (h0, .inr (10, vL 67 F757)), (h_tape, .inl (cB, 940, .inl f_tape))] := hD
                refine lv_iconst (v := 1) hx hb dX10_line0_111 (by decide) ?_
                exact ret_i (v := 1) hx hb hr hlocks hS (hP.sub (ws' := [(h0, .inr (10, vL 67 F757)), (h_tape, .inl (cB, 940, .inl f_tape)), (h_h, .inl (cI, 104, .inl g790)), (h_names, .inl (cJ, 36, .inr (.inl f_names))), (h_reserved, .inl (cJ, 23, .inr (.inl f_reserved)))]) [3, 4, 0, 1, 2] rfl) (hD.sub (ws' := [(h0, .inr (10, vL 67 F757)), (h_tape, .inl (cB, 940, .inl f_tape)), (h_h, .inl (cI, 104, .inl g790)), (h_names, .inl (cJ, 36, .inr (.inl f_names))), (h_reserved, .inl (cJ, 23, .inr (.inl f_reserved)))]) [3, 4, 0, 1, 2] (by decide) rfl) dX10_line0_112 rfl (Nat.le_of_ble_eq_true rfl) (Nat.le_of_ble_eq_true rfl) (Or.inr ⟨F757, y758, y759, y760, y761, y762, y763, y764, y713, g790, f_names, (SAME.tr (SAME.tr SAME.rf t714 (by decide)) t765 (by decide)), t766, t767, t768, t769, t770, t771, t772, t773, t774, t775, t776, (SAME.at t765 (by decide) t725), r791, r793, r794, r795, r792, (by have zl1 : (1 : Int32).toInt = 1 := (by decide); omega), (by have zl1 : (1 : Int32).toInt = 1 := (by decide); omega), (by omega), rfl, rfl⟩)
            · have dc744 : r1.toInt = 3 := eq_i (a := r1.toInt) (b := 3) rfl rfl c744
              have k796 : 3 ≤ r1.toInt ∧ r1.toInt ≤ 3 := ⟨k740.1, Int.le_trans (Int.le_of_eq dc744) (Int.le_refl _)⟩
              refine lv_bipush (v := 9) hx hb dX10_line0_86 (by decide) ?_
              refine lv_goto (tgt := 93) hx hb dX10_line0_88 (by decide) ?_
              have n797 : F706 1 = .ref h_tape := (SAME.at t714 (by decide) e_tape)
              have n798 : F706 3 = .int x_size := (SAME.at t714 (by decide) e_size)
              have n799 : F706 5 = .int x_limit := (SAME.at t714 (by decide) e_limit)
              have n800 : F706 19 = .int x_got := (SAME.at t714 (by decide) e_got)
              refine call_Vi (wr := [(h_h, .inl (cI, 104, .inl f_h)), (h_names, .inl (cJ, 36, .inr (.inl f_names))), (h_reserved, .inl (cJ, 23, .inr (.inl f_reserved)))]) (As := [.int 0, .int 9]) (rest := []) hx hb hml hown hw (m_X10_takes l D cI cJ cB cP cM cZ h0 h_tape F706 x_size y707 x_limit y708 y709 y711 y712 x_got f_tape 0 9 _ n797 n798 i_x_size t715 t716 n799 i_x_limit t717 t718 t719 t723 t724 n800 (by omega)) wV_X10_242_X10_takes dX10_line0_93 hK hP hD hS hA [3, 4] [0, 1, 2] rfl rfl (by decide) (by decide) (by decide) 0 10 rfl rfl GG.fb hG.at hl.1 rfl (Nat.le_of_ble_eq_true rfl) ⟨(Nat.le_of_ble_eq_true rfl), (Nat.le_of_ble_eq_true rfl)⟩ ⟨(Nat.le_of_ble_eq_true rfl), (Nat.le_of_ble_eq_true rfl)⟩ (fun r801 u H locs hp hP hD hS => ?_)
              have zl0 : (0 : Int32).toInt = 0 := by decide
              have zl9 : (9 : Int32).toInt = 9 := by decide
              rcases hp with hp | hp
              · obtain ⟨F802, y803, t804, t805, t806, t807, rfl, rfl⟩ := hp
                have hP : va_P D vwCl [(h_h, .inl (cI, 104, .inl f_h)), (h_names, .inl (cJ, 36, .inr (.inl f_names))), (h_reserved, .inl (cJ, 23, .inr (.inl f_reserved))), (h0, .inr (10, vL 67 F802)), (h_tape, .inl (cB, 940, .inl f_tape))] H := hP
                have hD : va_D A [(h_h, .inl (cI, 104, .inl f_h)), (h_names, .inl (cJ, 36, .inr (.inl f_names))), (h_reserved, .inl (cJ, 23, .inr (.inl f_reserved))), (h0, .inr (10, vL 67 F802)), (h_tape, .inl (cB, 940, .inl f_tape))] := hD
                refine W.widen (k := 0) (n := 0) (Nat.le_of_ble_eq_true rfl) (Nat.le_of_ble_eq_true rfl) ?_
                refine lv_if_ne (tgt := 101) hx hb dX10_line0_96 (by decide) (fun g => absurd (by decide) g) (fun _ => ?_)
                refine lv_iconst (v := 0) hx hb dX10_line0_99 (by decide) ?_
                exact ret_i (v := 0) hx hb hr hlocks hS (hP.sub (ws' := [(h0, .inr (10, vL 67 F802)), (h_tape, .inl (cB, 940, .inl f_tape)), (h_h, .inl (cI, 104, .inl f_h)), (h_names, .inl (cJ, 36, .inr (.inl f_names))), (h_reserved, .inl (cJ, 23, .inr (.inl f_reserved)))]) [3, 4, 0, 1, 2] rfl) (hD.sub (ws' := [(h0, .inr (10, vL 67 F802)), (h_tape, .inl (cB, 940, .inl f_tape)), (h_h, .inl (cI, 104, .inl f_h)), (h_names, .inl (cJ, 36, .inr (.inl f_names))), (h_reserved, .inl (cJ, 23, .inr (.inl f_reserved)))]) [3, 4, 0, 1, 2] (by decide) rfl) dX10_line0_100 rfl (Nat.le_of_ble_eq_true rfl) (Nat.le_of_ble_eq_true rfl) (Or.inl ⟨F802, y707, y708, y709, y710, y711, y803, y709, y712, x_got, y713, f_h, f_names, (SAME.tr (SAME.tr SAME.rf t714 (by decide)) t804 (by decide)), (SAME.at t804 (by decide) t715), t716, (SAME.at t804 (by decide) t717), t718, (SAME.at t804 (by decide) t719), (SAME.at t804 (by decide) t721), (SAME.at t804 (by decide) t723), t805, (ir_wk t806 (by decide) (by decide)), t807, (SAME.at t804 (by decide) t724), (SAME.at t804 (by decide) n800), (SAME.at t804 (by decide) t725), s_h_0, s_h_5, s_h_6, s_h_7, s_h_44, (by omega), rfl, rfl⟩)
              · refine hp.elim (fun F808 h9z0 => h9z0.elim (fun y809 h9z1 => h9z1.elim (fun y810 h9z2 => h9z2.elim (fun y811 h9z3 => h9z3.elim (fun y812 h9z4 => h9z4.elim (fun y813 h9z5 => h9z5.elim (fun y814 h9z6 => h9z6.elim (fun y815 h9z7 => h9z7.elim (fun t816 h9z8 => h9z8.elim (fun t817 h9z9 => h9z9.elim (fun t818 h9z10 => h9z10.elim (fun t819 h9z11 => h9z11.elim (fun t820 h9z12 => h9z12.elim (fun t821 h9z13 => h9z13.elim (fun t822 h9z14 => h9z14.elim (fun t823 h9z15 => h9z15.elim (fun t824 h9z16 => h9z16.elim (fun t825 h9z17 => h9z17.elim (fun t826 h9z18 => h9z18.elim (fun t827 h9z19 => h9z19.elim (fun t828 h9z20 => h9z20.elim (fun t829 h9z21 => h9z21.elim (fun t830 h9z22 => h9z22.elim (fun t831 h9z23 => h9z23.elim (fun t832 h9z24 => h9z24.elim (fun t833 h9z25 => h9z25.elim (fun t834 h9z26 => h9z26.elim (fun heq927 h9z27 => ?_))))))))))))))))))))))))))))
                clear h9z0 h9z1 h9z2 h9z3 h9z4 h9z5 h9z6 h9z7 h9z8 h9z9 h9z10 h9z11 h9z12 h9z13 h9z14 h9z15 h9z16 h9z17 h9z18 h9z19 h9z20 h9z21 h9z22 h9z23 h9z24 h9z25 h9z26
                subst heq927
                subst h9z27
                clear t727 t728
                have hP : va_P D vwCl [(h_h, .inl (cI, 104, .inl f_h)), (h_names, .inl (cJ, 36, .inr (.inl f_names))), (h_reserved, .inl (cJ, 23, .inr (.inl f_reserved))), (h0, .inr (10, vL 67 F808)), (h_tape, .inl (cB, 940, .inl f_tape))] H := hP
                have hD : va_D A [(h_h, .inl (cI, 104, .inl f_h)), (h_names, .inl (cJ, 36, .inr (.inl f_names))), (h_reserved, .inl (cJ, 23, .inr (.inl f_reserved))), (h0, .inr (10, vL 67 F808)), (h_tape, .inl (cB, 940, .inl f_tape))] := hD
                refine W.widen (k := 0) (n := 0) (Nat.le_of_ble_eq_true rfl) (Nat.le_of_ble_eq_true rfl) ?_
                have k836 : 2 ≤ y708.toInt ∧ y708.toInt ≤ 2 := ⟨Int.le_trans (Int.le_refl _) (Int.le_of_eq t828.symm), Int.le_trans (Int.le_of_eq t828) (Int.le_refl _)⟩
                have k837 : 0 ≤ y711.toInt ∧ y711.toInt ≤ 2147483647 := ⟨Int.le_trans (Int.le_refl _) t829, (ir_any _).2⟩
                have k838 : 0 ≤ y711.toInt ∧ y711.toInt ≤ 9 := ⟨k837.1, Int.le_trans t830 (Int.le_refl _)⟩
                refine lv_if_ne (tgt := 101) hx hb dX10_line0_96 (by decide) (fun _ => ?_) (fun g => absurd g (by decide))
                refine lv_aload_n hx hb dX10_line0_101 rfl (lv_at hl 1 rfl) ?_
                have n839 : F706 7 = .ref h_h := (SAME.at t714 (by decide) e_h)
                have n840 : F808 7 = .ref h_h := (SAME.at t816 (by decide) n839)
                refine get_f (D := D) (ci := 10) (v := .ref h_h) (C := RX10) (T := TX10) (N := 67) hx hb hw inAX10 hown hK hP 3 rfl rfl 7 (by decide) (hw _ q_1268) (fun _ h9 => h9) n840 dX10_line0_102 ?_
                refine lv_iload_n hx hb dX10_line0_105 rfl (lv_at hl 0 rfl) ?_
                refine lv_aload_n hx hb dX10_line0_106 rfl (lv_at hl 1 rfl) ?_
                refine get_f (D := D) (ci := 10) (v := .int y815) (C := RX10) (T := TX10) (N := 67) hx hb hw inAX10 hown hK hP 3 rfl rfl 19 (by decide) (hw _ q_1280) (fun _ h9 => h9) t827 dX10_line0_107 ?_
                obtain ⟨g841, eg841⟩ : ∃ z : Nat → Int32, upd f_h r1.toNatClampNeg y815 = z := ⟨_, rfl⟩
                have r842 : SG 0 0 0 40 g841 := by rw [← eg841]; exact s_h_0.up (Int.le_trans (by decide) k796.1) (Or.inr (Or.inl (dec_lt k796.1 (by decide))))
                have r843 : SG 44 55 0 9 g841 := by rw [← eg841]; exact s_h_44.up (Int.le_trans (by decide) k796.1) (Or.inl (lt_dec k796.2 (by decide)))
                have r844 : SG 5 5 0 12 g841 := by rw [← eg841]; exact s_h_5.up (Int.le_trans (by decide) k796.1) (Or.inl (lt_dec k796.2 (by decide)))
                have r845 : SG 6 6 0 12 g841 := by rw [← eg841]; exact s_h_6.up (Int.le_trans (by decide) k796.1) (Or.inl (lt_dec k796.2 (by decide)))
                have r846 : SG 7 7 0 6 g841 := by rw [← eg841]; exact s_h_7.up (Int.le_trans (by decide) k796.1) (Or.inl (lt_dec k796.2 (by decide)))
                refine iast_g hx hb hK hP hD hS 0 0 rfl rfl (ix_k k796 (by decide) (by decide)) eg841 dX10_line0_110 (fun H locs hP hD hS => ?_)
                have hP : va_P D vwCl [(h_h, .inl (cI, 104, .inl g841)), (h_names, .inl (cJ, 36, .inr (.inl f_names))), (h_reserved, .inl (cJ, 23, .inr (.inl f_reserved))), (h0, .inr (10, vL 67 F808)), (h_tape, .inl (cB, 940, .inl f_tape))] H := hP
                have hD : va_D A [(h_h, .inl (cI, 104, .inl g841)), (h_names, .inl (cJ, 36, .inr (.inl f_names))), (h_reserved, .inl (cJ, 23, .inr (.inl f_reserved))), (h0, .inr (10, vL 67 F808)), (h_tape, .inl (cB, 940, .inl f_tape))] := hD
                refine lv_iconst (v := 1) hx hb dX10_line0_111 (by decide) ?_
                exact ret_i (v := 1) hx hb hr hlocks hS (hP.sub (ws' := [(h0, .inr (10, vL 67 F808)), (h_tape, .inl (cB, 940, .inl f_tape)), (h_h, .inl (cI, 104, .inl g841)), (h_names, .inl (cJ, 36, .inr (.inl f_names))), (h_reserved, .inl (cJ, 23, .inr (.inl f_reserved)))]) [3, 4, 0, 1, 2] rfl) (hD.sub (ws' := [(h0, .inr (10, vL 67 F808)), (h_tape, .inl (cB, 940, .inl f_tape)), (h_h, .inl (cI, 104, .inl g841)), (h_names, .inl (cJ, 36, .inr (.inl f_names))), (h_reserved, .inl (cJ, 23, .inr (.inl f_reserved)))]) [3, 4, 0, 1, 2] (by decide) rfl) dX10_line0_112 rfl (Nat.le_of_ble_eq_true rfl) (Nat.le_of_ble_eq_true rfl) (Or.inr ⟨F808, y809, y810, y811, y812, y813, y814, y815, y713, g841, f_names, (SAME.tr (SAME.tr SAME.rf t714 (by decide)) t816 (by decide)), t817, t818, t819, t820, t821, t822, t823, t824, t825, t826, t827, (SAME.at t816 (by decide) t725), r842, r844, r845, r846, r843, (by have zl1 : (1 : Int32).toInt = 1 := (by decide); omega), (by have zl1 : (1 : Int32).toInt = 1 := (by decide); omega), (by omega), rfl, rfl⟩)
          · have dc739 : r1.toInt = 2 := eq_i (a := r1.toInt) (b := 2) rfl rfl c739
            have k847 : 2 ≤ r1.toInt ∧ r1.toInt ≤ 2 := ⟨k738.1, Int.le_trans (Int.le_of_eq dc739) (Int.le_refl _)⟩
            refine lv_sipush (v := 300) hx hb dX10_line0_43 (by decide) ?_
            refine lv_goto (tgt := 50) hx hb dX10_line0_46 (by decide) ?_
            refine lv_iload_n hx hb dX10_line0_50 rfl (lv_at hl 0 rfl) ?_
            refine lv_if_ne (tgt := 59) hx hb dX10_line0_51 (by decide) (fun c848 => ?_) (fun c848 => False.elim (bad_le (Int.le_of_eq (eq_i (a := r1.toInt) (b := 0) rfl rfl c848)) k847.1 (Int.le_refl _) (by decide)))
            have dc848 : r1.toInt ≠ 0 := ne_i (a := r1.toInt) (b := 0) rfl rfl c848
            refine lv_iload_n hx hb dX10_line0_59 rfl (lv_at hl 0 rfl) ?_
            refine lv_iconst (v := 1) hx hb dX10_line0_60 (by decide) ?_
            refine lv_icmp_ne (tgt := 70) hx hb dX10_line0_61 (by decide) (fun c849 => ?_) (fun c849 => False.elim (bad_le (Int.le_of_eq (eq_i (a := r1.toInt) (b := 1) rfl rfl c849)) k847.1 (Int.le_refl _) (by decide)))
            have dc849 : r1.toInt ≠ 1 := ne_i (a := r1.toInt) (b := 1) rfl rfl c849
            refine lv_iload_n hx hb dX10_line0_70 rfl (lv_at hl 0 rfl) ?_
            refine lv_iconst (v := 2) hx hb dX10_line0_71 (by decide) ?_
            refine lv_icmp_ne (tgt := 81) hx hb dX10_line0_72 (by decide) (fun c850 => False.elim (bad_ne (ne_i (a := r1.toInt) (b := 2) rfl rfl c850) k847 ⟨Int.le_refl _, Int.le_refl _⟩ (by decide))) (fun c850 => ?_)
            have dc850 : r1.toInt = 2 := eq_i (a := r1.toInt) (b := 2) rfl rfl c850
            refine lv_sipush (v := 900) hx hb dX10_line0_75 (by decide) ?_
            refine lv_goto (tgt := 93) hx hb dX10_line0_78 (by decide) ?_
            have n851 : F706 1 = .ref h_tape := (SAME.at t714 (by decide) e_tape)
            have n852 : F706 3 = .int x_size := (SAME.at t714 (by decide) e_size)
            have n853 : F706 5 = .int x_limit := (SAME.at t714 (by decide) e_limit)
            have n854 : F706 19 = .int x_got := (SAME.at t714 (by decide) e_got)
            refine call_Vi (wr := [(h_h, .inl (cI, 104, .inl f_h)), (h_names, .inl (cJ, 36, .inr (.inl f_names))), (h_reserved, .inl (cJ, 23, .inr (.inl f_reserved)))]) (As := [.int 300, .int 900]) (rest := []) hx hb hml hown hw (m_X10_takes l D cI cJ cB cP cM cZ h0 h_tape F706 x_size y707 x_limit y708 y709 y711 y712 x_got f_tape 300 900 _ n851 n852 i_x_size t715 t716 n853 i_x_limit t717 t718 t719 t723 t724 n854 (by omega)) wV_X10_242_X10_takes dX10_line0_93 hK hP hD hS hA [3, 4] [0, 1, 2] rfl rfl (by decide) (by decide) (by decide) 0 10 rfl rfl GG.fb hG.at hl.1 rfl (Nat.le_of_ble_eq_true rfl) ⟨(Nat.le_of_ble_eq_true rfl), (Nat.le_of_ble_eq_true rfl)⟩ ⟨(Nat.le_of_ble_eq_true rfl), (Nat.le_of_ble_eq_true rfl)⟩ (fun r855 u H locs hp hP hD hS => ?_)
            have zl300 : (300 : Int32).toInt = 300 := by decide
            have zl900 : (900 : Int32).toInt = 900 := by decide
            rcases hp with hp | hp
            · obtain ⟨F856, y857, t858, t859, t860, t861, rfl, rfl⟩ := hp
              have hP : va_P D vwCl [(h_h, .inl (cI, 104, .inl f_h)), (h_names, .inl (cJ, 36, .inr (.inl f_names))), (h_reserved, .inl (cJ, 23, .inr (.inl f_reserved))), (h0, .inr (10, vL 67 F856)), (h_tape, .inl (cB, 940, .inl f_tape))] H := hP
              have hD : va_D A [(h_h, .inl (cI, 104, .inl f_h)), (h_names, .inl (cJ, 36, .inr (.inl f_names))), (h_reserved, .inl (cJ, 23, .inr (.inl f_reserved))), (h0, .inr (10, vL 67 F856)), (h_tape, .inl (cB, 940, .inl f_tape))] := hD
              refine W.widen (k := 0) (n := 0) (Nat.le_of_ble_eq_true rfl) (Nat.le_of_ble_eq_true rfl) ?_
              refine lv_if_ne (tgt := 101) hx hb dX10_line0_96 (by decide) (fun g => absurd (by decide) g) (fun _ => ?_)
              refine lv_iconst (v := 0) hx hb dX10_line0_99 (by decide) ?_
              exact ret_i (v := 0) hx hb hr hlocks hS (hP.sub (ws' := [(h0, .inr (10, vL 67 F856)), (h_tape, .inl (cB, 940, .inl f_tape)), (h_h, .inl (cI, 104, .inl f_h)), (h_names, .inl (cJ, 36, .inr (.inl f_names))), (h_reserved, .inl (cJ, 23, .inr (.inl f_reserved)))]) [3, 4, 0, 1, 2] rfl) (hD.sub (ws' := [(h0, .inr (10, vL 67 F856)), (h_tape, .inl (cB, 940, .inl f_tape)), (h_h, .inl (cI, 104, .inl f_h)), (h_names, .inl (cJ, 36, .inr (.inl f_names))), (h_reserved, .inl (cJ, 23, .inr (.inl f_reserved)))]) [3, 4, 0, 1, 2] (by decide) rfl) dX10_line0_100 rfl (Nat.le_of_ble_eq_true rfl) (Nat.le_of_ble_eq_true rfl) (Or.inl ⟨F856, y707, y708, y709, y710, y711, y857, y709, y712, x_got, y713, f_h, f_names, (SAME.tr (SAME.tr SAME.rf t714 (by decide)) t858 (by decide)), (SAME.at t858 (by decide) t715), t716, (SAME.at t858 (by decide) t717), t718, (SAME.at t858 (by decide) t719), (SAME.at t858 (by decide) t721), (SAME.at t858 (by decide) t723), t859, (ir_wk t860 (by decide) (by decide)), t861, (SAME.at t858 (by decide) t724), (SAME.at t858 (by decide) n854), (SAME.at t858 (by decide) t725), s_h_0, s_h_5, s_h_6, s_h_7, s_h_44, (by omega), rfl, rfl⟩)
            · refine hp.elim (fun F862 h9z0 => h9z0.elim (fun y863 h9z1 => h9z1.elim (fun y864 h9z2 => h9z2.elim (fun y865 h9z3 => h9z3.elim (fun y866 h9z4 => h9z4.elim (fun y867 h9z5 => h9z5.elim (fun y868 h9z6 => h9z6.elim (fun y869 h9z7 => h9z7.elim (fun t870 h9z8 => h9z8.elim (fun t871 h9z9 => h9z9.elim (fun t872 h9z10 => h9z10.elim (fun t873 h9z11 => h9z11.elim (fun t874 h9z12 => h9z12.elim (fun t875 h9z13 => h9z13.elim (fun t876 h9z14 => h9z14.elim (fun t877 h9z15 => h9z15.elim (fun t878 h9z16 => h9z16.elim (fun t879 h9z17 => h9z17.elim (fun t880 h9z18 => h9z18.elim (fun t881 h9z19 => h9z19.elim (fun t882 h9z20 => h9z20.elim (fun t883 h9z21 => h9z21.elim (fun t884 h9z22 => h9z22.elim (fun t885 h9z23 => h9z23.elim (fun t886 h9z24 => h9z24.elim (fun t887 h9z25 => h9z25.elim (fun t888 h9z26 => h9z26.elim (fun heq927 h9z27 => ?_))))))))))))))))))))))))))))
              clear h9z0 h9z1 h9z2 h9z3 h9z4 h9z5 h9z6 h9z7 h9z8 h9z9 h9z10 h9z11 h9z12 h9z13 h9z14 h9z15 h9z16 h9z17 h9z18 h9z19 h9z20 h9z21 h9z22 h9z23 h9z24 h9z25 h9z26
              subst heq927
              subst h9z27
              clear t727 t728
              have hP : va_P D vwCl [(h_h, .inl (cI, 104, .inl f_h)), (h_names, .inl (cJ, 36, .inr (.inl f_names))), (h_reserved, .inl (cJ, 23, .inr (.inl f_reserved))), (h0, .inr (10, vL 67 F862)), (h_tape, .inl (cB, 940, .inl f_tape))] H := hP
              have hD : va_D A [(h_h, .inl (cI, 104, .inl f_h)), (h_names, .inl (cJ, 36, .inr (.inl f_names))), (h_reserved, .inl (cJ, 23, .inr (.inl f_reserved))), (h0, .inr (10, vL 67 F862)), (h_tape, .inl (cB, 940, .inl f_tape))] := hD
              refine W.widen (k := 0) (n := 0) (Nat.le_of_ble_eq_true rfl) (Nat.le_of_ble_eq_true rfl) ?_
              have k890 : 2 ≤ y708.toInt ∧ y708.toInt ≤ 2 := ⟨Int.le_trans (Int.le_refl _) (Int.le_of_eq t882.symm), Int.le_trans (Int.le_of_eq t882) (Int.le_refl _)⟩
              have k891 : 300 ≤ y711.toInt ∧ y711.toInt ≤ 2147483647 := ⟨Int.le_trans (Int.le_refl _) t883, (ir_any _).2⟩
              have k892 : 300 ≤ y711.toInt ∧ y711.toInt ≤ 900 := ⟨k891.1, Int.le_trans t884 (Int.le_refl _)⟩
              refine lv_if_ne (tgt := 101) hx hb dX10_line0_96 (by decide) (fun _ => ?_) (fun g => absurd g (by decide))
              refine lv_aload_n hx hb dX10_line0_101 rfl (lv_at hl 1 rfl) ?_
              have n893 : F706 7 = .ref h_h := (SAME.at t714 (by decide) e_h)
              have n894 : F862 7 = .ref h_h := (SAME.at t870 (by decide) n893)
              refine get_f (D := D) (ci := 10) (v := .ref h_h) (C := RX10) (T := TX10) (N := 67) hx hb hw inAX10 hown hK hP 3 rfl rfl 7 (by decide) (hw _ q_1268) (fun _ h9 => h9) n894 dX10_line0_102 ?_
              refine lv_iload_n hx hb dX10_line0_105 rfl (lv_at hl 0 rfl) ?_
              refine lv_aload_n hx hb dX10_line0_106 rfl (lv_at hl 1 rfl) ?_
              refine get_f (D := D) (ci := 10) (v := .int y869) (C := RX10) (T := TX10) (N := 67) hx hb hw inAX10 hown hK hP 3 rfl rfl 19 (by decide) (hw _ q_1280) (fun _ h9 => h9) t881 dX10_line0_107 ?_
              obtain ⟨g895, eg895⟩ : ∃ z : Nat → Int32, upd f_h r1.toNatClampNeg y869 = z := ⟨_, rfl⟩
              have r896 : SG 0 0 0 40 g895 := by rw [← eg895]; exact s_h_0.up (Int.le_trans (by decide) k847.1) (Or.inr (Or.inl (dec_lt k847.1 (by decide))))
              have r897 : SG 44 55 0 9 g895 := by rw [← eg895]; exact s_h_44.up (Int.le_trans (by decide) k847.1) (Or.inl (lt_dec k847.2 (by decide)))
              have r898 : SG 5 5 0 12 g895 := by rw [← eg895]; exact s_h_5.up (Int.le_trans (by decide) k847.1) (Or.inl (lt_dec k847.2 (by decide)))
              have r899 : SG 6 6 0 12 g895 := by rw [← eg895]; exact s_h_6.up (Int.le_trans (by decide) k847.1) (Or.inl (lt_dec k847.2 (by decide)))
              have r900 : SG 7 7 0 6 g895 := by rw [← eg895]; exact s_h_7.up (Int.le_trans (by decide) k847.1) (Or.inl (lt_dec k847.2 (by decide)))
              refine iast_g hx hb hK hP hD hS 0 0 rfl rfl (ix_k k847 (by decide) (by decide)) eg895 dX10_line0_110 (fun H locs hP hD hS => ?_)
              have hP : va_P D vwCl [(h_h, .inl (cI, 104, .inl g895)), (h_names, .inl (cJ, 36, .inr (.inl f_names))), (h_reserved, .inl (cJ, 23, .inr (.inl f_reserved))), (h0, .inr (10, vL 67 F862)), (h_tape, .inl (cB, 940, .inl f_tape))] H := hP
              have hD : va_D A [(h_h, .inl (cI, 104, .inl g895)), (h_names, .inl (cJ, 36, .inr (.inl f_names))), (h_reserved, .inl (cJ, 23, .inr (.inl f_reserved))), (h0, .inr (10, vL 67 F862)), (h_tape, .inl (cB, 940, .inl f_tape))] := hD
              refine lv_iconst (v := 1) hx hb dX10_line0_111 (by decide) ?_
              exact ret_i (v := 1) hx hb hr hlocks hS (hP.sub (ws' := [(h0, .inr (10, vL 67 F862)), (h_tape, .inl (cB, 940, .inl f_tape)), (h_h, .inl (cI, 104, .inl g895)), (h_names, .inl (cJ, 36, .inr (.inl f_names))), (h_reserved, .inl (cJ, 23, .inr (.inl f_reserved)))]) [3, 4, 0, 1, 2] rfl) (hD.sub (ws' := [(h0, .inr (10, vL 67 F862)), (h_tape, .inl (cB, 940, .inl f_tape)), (h_h, .inl (cI, 104, .inl g895)), (h_names, .inl (cJ, 36, .inr (.inl f_names))), (h_reserved, .inl (cJ, 23, .inr (.inl f_reserved)))]) [3, 4, 0, 1, 2] (by decide) rfl) dX10_line0_112 rfl (Nat.le_of_ble_eq_true rfl) (Nat.le_of_ble_eq_true rfl) (Or.inr ⟨F862, y863, y864, y865, y866, y867, y868, y869, y713, g895, f_names, (SAME.tr (SAME.tr SAME.rf t714 (by decide)) t870 (by decide)), t871, t872, t873, t874, t875, t876, t877, t878, t879, t880, t881, (SAME.at t870 (by decide) t725), r896, r898, r899, r900, r897, (by have zl1 : (1 : Int32).toInt = 1 := (by decide); omega), (by have zl1 : (1 : Int32).toInt = 1 := (by decide); omega), (by omega), rfl, rfl⟩)
        · have dc737 : r1.toInt = 1 := eq_i (a := r1.toInt) (b := 1) rfl rfl c737
          have k901 : 1 ≤ r1.toInt ∧ r1.toInt ≤ 1 := ⟨k736.1, Int.le_trans (Int.le_of_eq dc737) (Int.le_refl _)⟩
          refine lv_bipush (v := 100) hx hb dX10_line0_33 (by decide) ?_
          refine lv_goto (tgt := 50) hx hb dX10_line0_35 (by decide) ?_
          refine lv_iload_n hx hb dX10_line0_50 rfl (lv_at hl 0 rfl) ?_
          refine lv_if_ne (tgt := 59) hx hb dX10_line0_51 (by decide) (fun c902 => ?_) (fun c902 => False.elim (bad_le (Int.le_of_eq (eq_i (a := r1.toInt) (b := 0) rfl rfl c902)) k901.1 (Int.le_refl _) (by decide)))
          have dc902 : r1.toInt ≠ 0 := ne_i (a := r1.toInt) (b := 0) rfl rfl c902
          refine lv_iload_n hx hb dX10_line0_59 rfl (lv_at hl 0 rfl) ?_
          refine lv_iconst (v := 1) hx hb dX10_line0_60 (by decide) ?_
          refine lv_icmp_ne (tgt := 70) hx hb dX10_line0_61 (by decide) (fun c903 => False.elim (bad_ne (ne_i (a := r1.toInt) (b := 1) rfl rfl c903) k901 ⟨Int.le_refl _, Int.le_refl _⟩ (by decide))) (fun c903 => ?_)
          have dc903 : r1.toInt = 1 := eq_i (a := r1.toInt) (b := 1) rfl rfl c903
          refine lv_sipush (v := 300) hx hb dX10_line0_64 (by decide) ?_
          refine lv_goto (tgt := 93) hx hb dX10_line0_67 (by decide) ?_
          have n904 : F706 1 = .ref h_tape := (SAME.at t714 (by decide) e_tape)
          have n905 : F706 3 = .int x_size := (SAME.at t714 (by decide) e_size)
          have n906 : F706 5 = .int x_limit := (SAME.at t714 (by decide) e_limit)
          have n907 : F706 19 = .int x_got := (SAME.at t714 (by decide) e_got)
          refine call_Vi (wr := [(h_h, .inl (cI, 104, .inl f_h)), (h_names, .inl (cJ, 36, .inr (.inl f_names))), (h_reserved, .inl (cJ, 23, .inr (.inl f_reserved)))]) (As := [.int 100, .int 300]) (rest := []) hx hb hml hown hw (m_X10_takes l D cI cJ cB cP cM cZ h0 h_tape F706 x_size y707 x_limit y708 y709 y711 y712 x_got f_tape 100 300 _ n904 n905 i_x_size t715 t716 n906 i_x_limit t717 t718 t719 t723 t724 n907 (by omega)) wV_X10_242_X10_takes dX10_line0_93 hK hP hD hS hA [3, 4] [0, 1, 2] rfl rfl (by decide) (by decide) (by decide) 0 10 rfl rfl GG.fb hG.at hl.1 rfl (Nat.le_of_ble_eq_true rfl) ⟨(Nat.le_of_ble_eq_true rfl), (Nat.le_of_ble_eq_true rfl)⟩ ⟨(Nat.le_of_ble_eq_true rfl), (Nat.le_of_ble_eq_true rfl)⟩ (fun r908 u H locs hp hP hD hS => ?_)
          have zl100 : (100 : Int32).toInt = 100 := by decide
          have zl300 : (300 : Int32).toInt = 300 := by decide
          rcases hp with hp | hp
          · obtain ⟨F909, y910, t911, t912, t913, t914, rfl, rfl⟩ := hp
            have hP : va_P D vwCl [(h_h, .inl (cI, 104, .inl f_h)), (h_names, .inl (cJ, 36, .inr (.inl f_names))), (h_reserved, .inl (cJ, 23, .inr (.inl f_reserved))), (h0, .inr (10, vL 67 F909)), (h_tape, .inl (cB, 940, .inl f_tape))] H := hP
            have hD : va_D A [(h_h, .inl (cI, 104, .inl f_h)), (h_names, .inl (cJ, 36, .inr (.inl f_names))), (h_reserved, .inl (cJ, 23, .inr (.inl f_reserved))), (h0, .inr (10, vL 67 F909)), (h_tape, .inl (cB, 940, .inl f_tape))] := hD
            refine W.widen (k := 0) (n := 0) (Nat.le_of_ble_eq_true rfl) (Nat.le_of_ble_eq_true rfl) ?_
            refine lv_if_ne (tgt := 101) hx hb dX10_line0_96 (by decide) (fun g => absurd (by decide) g) (fun _ => ?_)
            refine lv_iconst (v := 0) hx hb dX10_line0_99 (by decide) ?_
            exact ret_i (v := 0) hx hb hr hlocks hS (hP.sub (ws' := [(h0, .inr (10, vL 67 F909)), (h_tape, .inl (cB, 940, .inl f_tape)), (h_h, .inl (cI, 104, .inl f_h)), (h_names, .inl (cJ, 36, .inr (.inl f_names))), (h_reserved, .inl (cJ, 23, .inr (.inl f_reserved)))]) [3, 4, 0, 1, 2] rfl) (hD.sub (ws' := [(h0, .inr (10, vL 67 F909)), (h_tape, .inl (cB, 940, .inl f_tape)), (h_h, .inl (cI, 104, .inl f_h)), (h_names, .inl (cJ, 36, .inr (.inl f_names))), (h_reserved, .inl (cJ, 23, .inr (.inl f_reserved)))]) [3, 4, 0, 1, 2] (by decide) rfl) dX10_line0_100 rfl (Nat.le_of_ble_eq_true rfl) (Nat.le_of_ble_eq_true rfl) (Or.inl ⟨F909, y707, y708, y709, y710, y711, y910, y709, y712, x_got, y713, f_h, f_names, (SAME.tr (SAME.tr SAME.rf t714 (by decide)) t911 (by decide)), (SAME.at t911 (by decide) t715), t716, (SAME.at t911 (by decide) t717), t718, (SAME.at t911 (by decide) t719), (SAME.at t911 (by decide) t721), (SAME.at t911 (by decide) t723), t912, (ir_wk t913 (by decide) (by decide)), t914, (SAME.at t911 (by decide) t724), (SAME.at t911 (by decide) n907), (SAME.at t911 (by decide) t725), s_h_0, s_h_5, s_h_6, s_h_7, s_h_44, (by omega), rfl, rfl⟩)
          · refine hp.elim (fun F915 h9z0 => h9z0.elim (fun y916 h9z1 => h9z1.elim (fun y917 h9z2 => h9z2.elim (fun y918 h9z3 => h9z3.elim (fun y919 h9z4 => h9z4.elim (fun y920 h9z5 => h9z5.elim (fun y921 h9z6 => h9z6.elim (fun y922 h9z7 => h9z7.elim (fun t923 h9z8 => h9z8.elim (fun t924 h9z9 => h9z9.elim (fun t925 h9z10 => h9z10.elim (fun t926 h9z11 => h9z11.elim (fun t927 h9z12 => h9z12.elim (fun t928 h9z13 => h9z13.elim (fun t929 h9z14 => h9z14.elim (fun t930 h9z15 => h9z15.elim (fun t931 h9z16 => h9z16.elim (fun t932 h9z17 => h9z17.elim (fun t933 h9z18 => h9z18.elim (fun t934 h9z19 => h9z19.elim (fun t935 h9z20 => h9z20.elim (fun t936 h9z21 => h9z21.elim (fun t937 h9z22 => h9z22.elim (fun t938 h9z23 => h9z23.elim (fun t939 h9z24 => h9z24.elim (fun t940 h9z25 => h9z25.elim (fun t941 h9z26 => h9z26.elim (fun heq927 h9z27 => ?_))))))))))))))))))))))))))))
            clear h9z0 h9z1 h9z2 h9z3 h9z4 h9z5 h9z6 h9z7 h9z8 h9z9 h9z10 h9z11 h9z12 h9z13 h9z14 h9z15 h9z16 h9z17 h9z18 h9z19 h9z20 h9z21 h9z22 h9z23 h9z24 h9z25 h9z26
            subst heq927
            subst h9z27
            clear t727 t728
            have hP : va_P D vwCl [(h_h, .inl (cI, 104, .inl f_h)), (h_names, .inl (cJ, 36, .inr (.inl f_names))), (h_reserved, .inl (cJ, 23, .inr (.inl f_reserved))), (h0, .inr (10, vL 67 F915)), (h_tape, .inl (cB, 940, .inl f_tape))] H := hP
            have hD : va_D A [(h_h, .inl (cI, 104, .inl f_h)), (h_names, .inl (cJ, 36, .inr (.inl f_names))), (h_reserved, .inl (cJ, 23, .inr (.inl f_reserved))), (h0, .inr (10, vL 67 F915)), (h_tape, .inl (cB, 940, .inl f_tape))] := hD
            refine W.widen (k := 0) (n := 0) (Nat.le_of_ble_eq_true rfl) (Nat.le_of_ble_eq_true rfl) ?_
            have k943 : 2 ≤ y708.toInt ∧ y708.toInt ≤ 2 := ⟨Int.le_trans (Int.le_refl _) (Int.le_of_eq t935.symm), Int.le_trans (Int.le_of_eq t935) (Int.le_refl _)⟩
            have k944 : 100 ≤ y711.toInt ∧ y711.toInt ≤ 2147483647 := ⟨Int.le_trans (Int.le_refl _) t936, (ir_any _).2⟩
            have k945 : 100 ≤ y711.toInt ∧ y711.toInt ≤ 300 := ⟨k944.1, Int.le_trans t937 (Int.le_refl _)⟩
            refine lv_if_ne (tgt := 101) hx hb dX10_line0_96 (by decide) (fun _ => ?_) (fun g => absurd g (by decide))
            refine lv_aload_n hx hb dX10_line0_101 rfl (lv_at hl 1 rfl) ?_
            have n946 : F706 7 = .ref h_h := (SAME.at t714 (by decide) e_h)
            have n947 : F915 7 = .ref h_h := (SAME.at t923 (by decide) n946)
            refine get_f (D := D) (ci := 10) (v := .ref h_h) (C := RX10) (T := TX10) (N := 67) hx hb hw inAX10 hown hK hP 3 rfl rfl 7 (by decide) (hw _ q_1268) (fun _ h9 => h9) n947 dX10_line0_102 ?_
            refine lv_iload_n hx hb dX10_line0_105 rfl (lv_at hl 0 rfl) ?_
            refine lv_aload_n hx hb dX10_line0_106 rfl (lv_at hl 1 rfl) ?_
            refine get_f (D := D) (ci := 10) (v := .int y922) (C := RX10) (T := TX10) (N := 67) hx hb hw inAX10 hown hK hP 3 rfl rfl 19 (by decide) (hw _ q_1280) (fun _ h9 => h9) t934 dX10_line0_107 ?_
            obtain ⟨g948, eg948⟩ : ∃ z : Nat → Int32, upd f_h r1.toNatClampNeg y922 = z := ⟨_, rfl⟩
            have r949 : SG 0 0 0 40 g948 := by rw [← eg948]; exact s_h_0.up (Int.le_trans (by decide) k901.1) (Or.inr (Or.inl (dec_lt k901.1 (by decide))))
            have r950 : SG 44 55 0 9 g948 := by rw [← eg948]; exact s_h_44.up (Int.le_trans (by decide) k901.1) (Or.inl (lt_dec k901.2 (by decide)))
            have r951 : SG 5 5 0 12 g948 := by rw [← eg948]; exact s_h_5.up (Int.le_trans (by decide) k901.1) (Or.inl (lt_dec k901.2 (by decide)))
            have r952 : SG 6 6 0 12 g948 := by rw [← eg948]; exact s_h_6.up (Int.le_trans (by decide) k901.1) (Or.inl (lt_dec k901.2 (by decide)))
            have r953 : SG 7 7 0 6 g948 := by rw [← eg948]; exact s_h_7.up (Int.le_trans (by decide) k901.1) (Or.inl (lt_dec k901.2 (by decide)))
            refine iast_g hx hb hK hP hD hS 0 0 rfl rfl (ix_k k901 (by decide) (by decide)) eg948 dX10_line0_110 (fun H locs hP hD hS => ?_)
            have hP : va_P D vwCl [(h_h, .inl (cI, 104, .inl g948)), (h_names, .inl (cJ, 36, .inr (.inl f_names))), (h_reserved, .inl (cJ, 23, .inr (.inl f_reserved))), (h0, .inr (10, vL 67 F915)), (h_tape, .inl (cB, 940, .inl f_tape))] H := hP
            have hD : va_D A [(h_h, .inl (cI, 104, .inl g948)), (h_names, .inl (cJ, 36, .inr (.inl f_names))), (h_reserved, .inl (cJ, 23, .inr (.inl f_reserved))), (h0, .inr (10, vL 67 F915)), (h_tape, .inl (cB, 940, .inl f_tape))] := hD
            refine lv_iconst (v := 1) hx hb dX10_line0_111 (by decide) ?_
            exact ret_i (v := 1) hx hb hr hlocks hS (hP.sub (ws' := [(h0, .inr (10, vL 67 F915)), (h_tape, .inl (cB, 940, .inl f_tape)), (h_h, .inl (cI, 104, .inl g948)), (h_names, .inl (cJ, 36, .inr (.inl f_names))), (h_reserved, .inl (cJ, 23, .inr (.inl f_reserved)))]) [3, 4, 0, 1, 2] rfl) (hD.sub (ws' := [(h0, .inr (10, vL 67 F915)), (h_tape, .inl (cB, 940, .inl f_tape)), (h_h, .inl (cI, 104, .inl g948)), (h_names, .inl (cJ, 36, .inr (.inl f_names))), (h_reserved, .inl (cJ, 23, .inr (.inl f_reserved)))]) [3, 4, 0, 1, 2] (by decide) rfl) dX10_line0_112 rfl (Nat.le_of_ble_eq_true rfl) (Nat.le_of_ble_eq_true rfl) (Or.inr ⟨F915, y916, y917, y918, y919, y920, y921, y922, y713, g948, f_names, (SAME.tr (SAME.tr SAME.rf t714 (by decide)) t923 (by decide)), t924, t925, t926, t927, t928, t929, t930, t931, t932, t933, t934, (SAME.at t923 (by decide) t725), r949, r951, r952, r953, r950, (by have zl1 : (1 : Int32).toInt = 1 := (by decide); omega), (by have zl1 : (1 : Int32).toInt = 1 := (by decide); omega), (by omega), rfl, rfl⟩)
      · have dc735 : r1.toInt = 0 := eq_i (a := r1.toInt) (b := 0) rfl rfl c735
        have k954 : 0 ≤ r1.toInt ∧ r1.toInt ≤ 0 := ⟨k704.1, Int.le_trans (Int.le_of_eq dc735) (Int.le_refl _)⟩
        refine lv_iconst (v := 5) hx hb dX10_line0_24 (by decide) ?_
        refine lv_goto (tgt := 50) hx hb dX10_line0_25 (by decide) ?_
        refine lv_iload_n hx hb dX10_line0_50 rfl (lv_at hl 0 rfl) ?_
        refine lv_if_ne (tgt := 59) hx hb dX10_line0_51 (by decide) (fun c955 => False.elim (bad_ne (ne_i (a := r1.toInt) (b := 0) rfl rfl c955) k954 ⟨Int.le_refl _, Int.le_refl _⟩ (by decide))) (fun c955 => ?_)
        have dc955 : r1.toInt = 0 := eq_i (a := r1.toInt) (b := 0) rfl rfl c955
        refine lv_bipush (v := 40) hx hb dX10_line0_54 (by decide) ?_
        refine lv_goto (tgt := 93) hx hb dX10_line0_56 (by decide) ?_
        have n956 : F706 1 = .ref h_tape := (SAME.at t714 (by decide) e_tape)
        have n957 : F706 3 = .int x_size := (SAME.at t714 (by decide) e_size)
        have n958 : F706 5 = .int x_limit := (SAME.at t714 (by decide) e_limit)
        have n959 : F706 19 = .int x_got := (SAME.at t714 (by decide) e_got)
        refine call_Vi (wr := [(h_h, .inl (cI, 104, .inl f_h)), (h_names, .inl (cJ, 36, .inr (.inl f_names))), (h_reserved, .inl (cJ, 23, .inr (.inl f_reserved)))]) (As := [.int 5, .int 40]) (rest := []) hx hb hml hown hw (m_X10_takes l D cI cJ cB cP cM cZ h0 h_tape F706 x_size y707 x_limit y708 y709 y711 y712 x_got f_tape 5 40 _ n956 n957 i_x_size t715 t716 n958 i_x_limit t717 t718 t719 t723 t724 n959 (by omega)) wV_X10_242_X10_takes dX10_line0_93 hK hP hD hS hA [3, 4] [0, 1, 2] rfl rfl (by decide) (by decide) (by decide) 0 10 rfl rfl GG.fb hG.at hl.1 rfl (Nat.le_of_ble_eq_true rfl) ⟨(Nat.le_of_ble_eq_true rfl), (Nat.le_of_ble_eq_true rfl)⟩ ⟨(Nat.le_of_ble_eq_true rfl), (Nat.le_of_ble_eq_true rfl)⟩ (fun r960 u H locs hp hP hD hS => ?_)
        have zl5 : (5 : Int32).toInt = 5 := by decide
        have zl40 : (40 : Int32).toInt = 40 := by decide
        rcases hp with hp | hp
        · obtain ⟨F961, y962, t963, t964, t965, t966, rfl, rfl⟩ := hp
          have hP : va_P D vwCl [(h_h, .inl (cI, 104, .inl f_h)), (h_names, .inl (cJ, 36, .inr (.inl f_names))), (h_reserved, .inl (cJ, 23, .inr (.inl f_reserved))), (h0, .inr (10, vL 67 F961)), (h_tape, .inl (cB, 940, .inl f_tape))] H := hP
          have hD : va_D A [(h_h, .inl (cI, 104, .inl f_h)), (h_names, .inl (cJ, 36, .inr (.inl f_names))), (h_reserved, .inl (cJ, 23, .inr (.inl f_reserved))), (h0, .inr (10, vL 67 F961)), (h_tape, .inl (cB, 940, .inl f_tape))] := hD
          refine W.widen (k := 0) (n := 0) (Nat.le_of_ble_eq_true rfl) (Nat.le_of_ble_eq_true rfl) ?_
          refine lv_if_ne (tgt := 101) hx hb dX10_line0_96 (by decide) (fun g => absurd (by decide) g) (fun _ => ?_)
          refine lv_iconst (v := 0) hx hb dX10_line0_99 (by decide) ?_
          exact ret_i (v := 0) hx hb hr hlocks hS (hP.sub (ws' := [(h0, .inr (10, vL 67 F961)), (h_tape, .inl (cB, 940, .inl f_tape)), (h_h, .inl (cI, 104, .inl f_h)), (h_names, .inl (cJ, 36, .inr (.inl f_names))), (h_reserved, .inl (cJ, 23, .inr (.inl f_reserved)))]) [3, 4, 0, 1, 2] rfl) (hD.sub (ws' := [(h0, .inr (10, vL 67 F961)), (h_tape, .inl (cB, 940, .inl f_tape)), (h_h, .inl (cI, 104, .inl f_h)), (h_names, .inl (cJ, 36, .inr (.inl f_names))), (h_reserved, .inl (cJ, 23, .inr (.inl f_reserved)))]) [3, 4, 0, 1, 2] (by decide) rfl) dX10_line0_100 rfl (Nat.le_of_ble_eq_true rfl) (Nat.le_of_ble_eq_true rfl) (Or.inl ⟨F961, y707, y708, y709, y710, y711, y962, y709, y712, x_got, y713, f_h, f_names, (SAME.tr (SAME.tr SAME.rf t714 (by decide)) t963 (by decide)), (SAME.at t963 (by decide) t715), t716, (SAME.at t963 (by decide) t717), t718, (SAME.at t963 (by decide) t719), (SAME.at t963 (by decide) t721), (SAME.at t963 (by decide) t723), t964, (ir_wk t965 (by decide) (by decide)), t966, (SAME.at t963 (by decide) t724), (SAME.at t963 (by decide) n959), (SAME.at t963 (by decide) t725), s_h_0, s_h_5, s_h_6, s_h_7, s_h_44, (by omega), rfl, rfl⟩)
        · refine hp.elim (fun F967 h9z0 => h9z0.elim (fun y968 h9z1 => h9z1.elim (fun y969 h9z2 => h9z2.elim (fun y970 h9z3 => h9z3.elim (fun y971 h9z4 => h9z4.elim (fun y972 h9z5 => h9z5.elim (fun y973 h9z6 => h9z6.elim (fun y974 h9z7 => h9z7.elim (fun t975 h9z8 => h9z8.elim (fun t976 h9z9 => h9z9.elim (fun t977 h9z10 => h9z10.elim (fun t978 h9z11 => h9z11.elim (fun t979 h9z12 => h9z12.elim (fun t980 h9z13 => h9z13.elim (fun t981 h9z14 => h9z14.elim (fun t982 h9z15 => h9z15.elim (fun t983 h9z16 => h9z16.elim (fun t984 h9z17 => h9z17.elim (fun t985 h9z18 => h9z18.elim (fun t986 h9z19 => h9z19.elim (fun t987 h9z20 => h9z20.elim (fun t988 h9z21 => h9z21.elim (fun t989 h9z22 => h9z22.elim (fun t990 h9z23 => h9z23.elim (fun t991 h9z24 => h9z24.elim (fun t992 h9z25 => h9z25.elim (fun t993 h9z26 => h9z26.elim (fun heq927 h9z27 => ?_))))))))))))))))))))))))))))
          clear h9z0 h9z1 h9z2 h9z3 h9z4 h9z5 h9z6 h9z7 h9z8 h9z9 h9z10 h9z11 h9z12 h9z13 h9z14 h9z15 h9z16 h9z17 h9z18 h9z19 h9z20 h9z21 h9z22 h9z23 h9z24 h9z25 h9z26
          subst heq927
          subst h9z27
          clear t727 t728
          have hP : va_P D vwCl [(h_h, .inl (cI, 104, .inl f_h)), (h_names, .inl (cJ, 36, .inr (.inl f_names))), (h_reserved, .inl (cJ, 23, .inr (.inl f_reserved))), (h0, .inr (10, vL 67 F967)), (h_tape, .inl (cB, 940, .inl f_tape))] H := hP
          have hD : va_D A [(h_h, .inl (cI, 104, .inl f_h)), (h_names, .inl (cJ, 36, .inr (.inl f_names))), (h_reserved, .inl (cJ, 23, .inr (.inl f_reserved))), (h0, .inr (10, vL 67 F967)), (h_tape, .inl (cB, 940, .inl f_tape))] := hD
          refine W.widen (k := 0) (n := 0) (Nat.le_of_ble_eq_true rfl) (Nat.le_of_ble_eq_true rfl) ?_
          have k995 : 2 ≤ y708.toInt ∧ y708.toInt ≤ 2 := ⟨Int.le_trans (Int.le_refl _) (Int.le_of_eq t987.symm), Int.le_trans (Int.le_of_eq t987) (Int.le_refl _)⟩
          have k996 : 5 ≤ y711.toInt ∧ y711.toInt ≤ 2147483647 := ⟨Int.le_trans (Int.le_refl _) t988, (ir_any _).2⟩
          have k997 : 5 ≤ y711.toInt ∧ y711.toInt ≤ 40 := ⟨k996.1, Int.le_trans t989 (Int.le_refl _)⟩
          refine lv_if_ne (tgt := 101) hx hb dX10_line0_96 (by decide) (fun _ => ?_) (fun g => absurd g (by decide))
          refine lv_aload_n hx hb dX10_line0_101 rfl (lv_at hl 1 rfl) ?_
          have n998 : F706 7 = .ref h_h := (SAME.at t714 (by decide) e_h)
          have n999 : F967 7 = .ref h_h := (SAME.at t975 (by decide) n998)
          refine get_f (D := D) (ci := 10) (v := .ref h_h) (C := RX10) (T := TX10) (N := 67) hx hb hw inAX10 hown hK hP 3 rfl rfl 7 (by decide) (hw _ q_1268) (fun _ h9 => h9) n999 dX10_line0_102 ?_
          refine lv_iload_n hx hb dX10_line0_105 rfl (lv_at hl 0 rfl) ?_
          refine lv_aload_n hx hb dX10_line0_106 rfl (lv_at hl 1 rfl) ?_
          refine get_f (D := D) (ci := 10) (v := .int y974) (C := RX10) (T := TX10) (N := 67) hx hb hw inAX10 hown hK hP 3 rfl rfl 19 (by decide) (hw _ q_1280) (fun _ h9 => h9) t986 dX10_line0_107 ?_
          obtain ⟨g1000, eg1000⟩ : ∃ z : Nat → Int32, upd f_h r1.toNatClampNeg y974 = z := ⟨_, rfl⟩
          have r1001 : SG 0 0 0 40 g1000 := by rw [← eg1000]; exact s_h_0.up (Int.le_trans (by decide) k954.1) (by omega)
          have r1002 : SG 44 55 0 9 g1000 := by rw [← eg1000]; exact s_h_44.up (Int.le_trans (by decide) k954.1) (Or.inl (lt_dec k954.2 (by decide)))
          have r1003 : SG 5 5 0 12 g1000 := by rw [← eg1000]; exact s_h_5.up (Int.le_trans (by decide) k954.1) (Or.inl (lt_dec k954.2 (by decide)))
          have r1004 : SG 6 6 0 12 g1000 := by rw [← eg1000]; exact s_h_6.up (Int.le_trans (by decide) k954.1) (Or.inl (lt_dec k954.2 (by decide)))
          have r1005 : SG 7 7 0 6 g1000 := by rw [← eg1000]; exact s_h_7.up (Int.le_trans (by decide) k954.1) (Or.inl (lt_dec k954.2 (by decide)))
          refine iast_g hx hb hK hP hD hS 0 0 rfl rfl (ix_k k954 (by decide) (by decide)) eg1000 dX10_line0_110 (fun H locs hP hD hS => ?_)
          have hP : va_P D vwCl [(h_h, .inl (cI, 104, .inl g1000)), (h_names, .inl (cJ, 36, .inr (.inl f_names))), (h_reserved, .inl (cJ, 23, .inr (.inl f_reserved))), (h0, .inr (10, vL 67 F967)), (h_tape, .inl (cB, 940, .inl f_tape))] H := hP
          have hD : va_D A [(h_h, .inl (cI, 104, .inl g1000)), (h_names, .inl (cJ, 36, .inr (.inl f_names))), (h_reserved, .inl (cJ, 23, .inr (.inl f_reserved))), (h0, .inr (10, vL 67 F967)), (h_tape, .inl (cB, 940, .inl f_tape))] := hD
          refine lv_iconst (v := 1) hx hb dX10_line0_111 (by decide) ?_
          exact ret_i (v := 1) hx hb hr hlocks hS (hP.sub (ws' := [(h0, .inr (10, vL 67 F967)), (h_tape, .inl (cB, 940, .inl f_tape)), (h_h, .inl (cI, 104, .inl g1000)), (h_names, .inl (cJ, 36, .inr (.inl f_names))), (h_reserved, .inl (cJ, 23, .inr (.inl f_reserved)))]) [3, 4, 0, 1, 2] rfl) (hD.sub (ws' := [(h0, .inr (10, vL 67 F967)), (h_tape, .inl (cB, 940, .inl f_tape)), (h_h, .inl (cI, 104, .inl g1000)), (h_names, .inl (cJ, 36, .inr (.inl f_names))), (h_reserved, .inl (cJ, 23, .inr (.inl f_reserved)))]) [3, 4, 0, 1, 2] (by decide) rfl) dX10_line0_112 rfl (Nat.le_of_ble_eq_true rfl) (Nat.le_of_ble_eq_true rfl) (Or.inr ⟨F967, y968, y969, y970, y971, y972, y973, y974, y713, g1000, f_names, (SAME.tr (SAME.tr SAME.rf t714 (by decide)) t975 (by decide)), t976, t977, t978, t979, t980, t981, t982, t983, t984, t985, t986, (SAME.at t975 (by decide) t725), r1001, r1003, r1004, r1005, r1002, (by have zl1 : (1 : Int32).toInt = 1 := (by decide); omega), (by have zl1 : (1 : Int32).toInt = 1 := (by decide); omega), (by omega), rfl, rfl⟩)
    · obtain ⟨F729, t730, t731, t732, t733, rfl, rfl⟩ := hp
      have hP : va_P D vwCl [(h_h, .inl (cI, 104, .inl f_h)), (h_names, .inl (cJ, 36, .inr (.inl f_names))), (h_reserved, .inl (cJ, 23, .inr (.inl f_reserved))), (h0, .inr (10, vL 67 F729)), (h_tape, .inl (cB, 940, .inl f_tape))] H := hP
      have hD : va_D A [(h_h, .inl (cI, 104, .inl f_h)), (h_names, .inl (cJ, 36, .inr (.inl f_names))), (h_reserved, .inl (cJ, 23, .inr (.inl f_reserved))), (h0, .inr (10, vL 67 F729)), (h_tape, .inl (cB, 940, .inl f_tape))] := hD
      refine W.widen (k := 0) (n := 0) (Nat.le_of_ble_eq_true rfl) (Nat.le_of_ble_eq_true rfl) ?_
      refine lv_if_ne (tgt := 19) hx hb dX10_line0_14 (by decide) (fun g => absurd (by decide) g) (fun _ => ?_)
      refine lv_iconst (v := 0) hx hb dX10_line0_17 (by decide) ?_
      exact ret_i (v := 0) hx hb hr hlocks hS (hP.sub (ws' := [(h0, .inr (10, vL 67 F729)), (h_tape, .inl (cB, 940, .inl f_tape)), (h_h, .inl (cI, 104, .inl f_h)), (h_names, .inl (cJ, 36, .inr (.inl f_names))), (h_reserved, .inl (cJ, 23, .inr (.inl f_reserved)))]) [3, 4, 0, 1, 2] rfl) (hD.sub (ws' := [(h0, .inr (10, vL 67 F729)), (h_tape, .inl (cB, 940, .inl f_tape)), (h_h, .inl (cI, 104, .inl f_h)), (h_names, .inl (cJ, 36, .inr (.inl f_names))), (h_reserved, .inl (cJ, 23, .inr (.inl f_reserved)))]) [3, 4, 0, 1, 2] (by decide) rfl) dX10_line0_18 rfl (Nat.le_of_ble_eq_true rfl) (Nat.le_of_ble_eq_true rfl) (Or.inl ⟨F729, x_p, x_token, x_at, x_span, x_number, 3, x_at, x_word, x_got, x_onces, f_h, f_names, (SAME.tr SAME.rf t730 (by decide)), (SAME.at t730 (by decide) e_p), i_x_p, (SAME.at t730 (by decide) e_token), i_x_token, (SAME.at t730 (by decide) e_at), (SAME.at t730 (by decide) e_span), (SAME.at t730 (by decide) e_number), t731, (show 1 ≤ (3 : Int32).toInt ∧ (3 : Int32).toInt ≤ 4 by decide), t732, (SAME.at t730 (by decide) e_word), (SAME.at t730 (by decide) e_got), (SAME.at t730 (by decide) e_onces), s_h_0, s_h_5, s_h_6, s_h_7, s_h_44, (by have zl3 : (3 : Int32).toInt = 3 := (by decide); omega), rfl, rfl⟩)
