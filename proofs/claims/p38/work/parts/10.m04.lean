set_option maxHeartbeats 4000000 in
set_option maxRecDepth 100000 in
theorem m_X10_bad (l : Launch) (D : va_G) (cI cJ cB cP cM cZ : ClassId) (h0 : Nat) (Fh : Nat → Value) (x_at : Int32) (p0 : Int32) (sz : Nat) (e_at : Fh 12 = .int x_at) : CI l yX10_bad cX10_bad 2 (some .boolean) { frames := 0, cells := 0, slots := 0, locals := 0 } (GG D cI cJ cB cP cM cZ) D [(h0, .inr (10, vL 67 Fh))] sz [.ref h0, .int p0] (fun (r : Int32) (u : va_W) => ∃ (Gh : Nat → Value), SAME [15, 16] Fh Gh ∧ Gh 15 = .int p0 ∧ Gh 16 = .int x_at ∧ r = 0 ∧ u = [(h0, .inr (10, vL 67 Gh))]) := by
  refine CI_mk (by decide) (Nat.le_of_ble_eq_true rfl) ?_
  intro p e s m below meth c A ls E hAe hG hsz hP hD hA hS hl
  obtain ⟨hx, hb, hr, hw, hown, hlocks, hml, hnm⟩ := E
  have hK := hG.1
  have hl : lv_has ls 2 [(0, .ref h0), (1, .int p0)] := hl
  refine lv_aload_n hx hb dX10_bad_0 rfl (lv_at hl 0 rfl) ?_
  refine lv_iload_n hx hb dX10_bad_1 rfl (lv_at hl 1 rfl) ?_
  refine put_f (D := D) (ci := 10) (v := .int p0) (ty := .int) (C := RX10) (T := TX10) (N := 67) hx hb hw inAX10 tyX10 tyX10_ok nmX10 hown hK hP hD hS 0 rfl rfl 15 (by decide) (hw _ q_1276) (fun _ h9 => h9) rfl (by decide +kernel) rfl rfl dX10_bad_2 (fun H locs F1 eF1 hP hD hS => ?_)
  have hP : va_P D vwCl [(h0, .inr (10, vL 67 F1))] H := hP
  have hD : va_D A [(h0, .inr (10, vL 67 F1))] := hD
  refine lv_aload_n hx hb dX10_bad_5 rfl (lv_at hl 0 rfl) ?_
  refine lv_aload_n hx hb dX10_bad_6 rfl (lv_at hl 0 rfl) ?_
  have n2 : F1 12 = .int x_at := (get_ne eF1 (by decide) e_at)
  refine get_f (D := D) (ci := 10) (v := .int x_at) (C := RX10) (T := TX10) (N := 67) hx hb hw inAX10 hown hK hP 0 rfl rfl 12 (by decide) (hw _ q_1273) (fun _ h9 => h9) n2 dX10_bad_7 ?_
  refine put_f (D := D) (ci := 10) (v := .int x_at) (ty := .int) (C := RX10) (T := TX10) (N := 67) hx hb hw inAX10 tyX10 tyX10_ok nmX10 hown hK hP hD hS 0 rfl rfl 16 (by decide) (hw _ q_1277) (fun _ h9 => h9) rfl (by decide +kernel) rfl rfl dX10_bad_10 (fun H locs F3 eF3 hP hD hS => ?_)
  have hP : va_P D vwCl [(h0, .inr (10, vL 67 F3))] H := hP
  have hD : va_D A [(h0, .inr (10, vL 67 F3))] := hD
  refine lv_iconst (v := 0) hx hb dX10_bad_13 (by decide) ?_
  exact ret_i (v := 0) hx hb hr hlocks hS hP hD dX10_bad_14 rfl (Nat.le_of_ble_eq_true rfl) (Nat.le_of_ble_eq_true rfl) ⟨F3, (SAME.up eF3 (SAME.up eF1 SAME.rf (by decide)) (by decide)), (get_ne eF3 (by decide) (get_eq eF1)), (get_eq eF3), rfl, rfl⟩
set_option maxHeartbeats 4000000 in
set_option maxRecDepth 100000 in
theorem m_X10_isWord (l : Launch) (D : va_G) (cI cJ cB cP cM cZ : ClassId) (h0 : Nat) (Fh : Nat → Value) (x_token : Int32) (x_number : Int32) (x_word : Int64) (p0 : Int64) (sz : Nat) (e_token : Fh 11 = .int x_token) (i_x_token : IR 0 4 x_token) (e_number : Fh 14 = .int x_number) (e_word : Fh 18 = .long x_word) (o_0 : (x_token.toInt = 2 → 0 ≤ x_number.toInt ∧ x_number.toInt ≤ 999)) : CI l yX10_isWord cX10_isWord 3 (some .boolean) { frames := 0, cells := 0, slots := 0, locals := 0 } (GG D cI cJ cB cP cM cZ) D [(h0, .inr (10, vL 67 Fh))] sz [.ref h0, .long p0] (fun (r : Int32) (u : va_W) => IR 0 1 r ∧ ((r.toInt = 1 → x_token.toInt = 1)) ∧ u = [(h0, .inr (10, vL 67 Fh))]) := by
  refine CI_mk (by decide) (Nat.le_of_ble_eq_true rfl) ?_
  intro p e s m below meth c A ls E hAe hG hsz hP hD hA hS hl
  obtain ⟨hx, hb, hr, hw, hown, hlocks, hml, hnm⟩ := E
  have hK := hG.1
  have i_x_token : 0 ≤ x_token.toInt ∧ x_token.toInt ≤ 4 := i_x_token
  have hl : lv_has ls 3 [(0, .ref h0), (1, .long p0)] := hl
  refine lv_aload_n hx hb dX10_isWord_0 rfl (lv_at hl 0 rfl) ?_
  refine get_f (D := D) (ci := 10) (v := .int x_token) (C := RX10) (T := TX10) (N := 67) hx hb hw inAX10 hown hK hP 0 rfl rfl 11 (by decide) (hw _ q_1272) (fun _ h9 => h9) e_token dX10_isWord_1 ?_
  refine lv_iconst (v := 1) hx hb dX10_isWord_4 (by decide) ?_
  refine lv_icmp_ne (tgt := 21) hx hb dX10_isWord_5 (by decide) (fun c1 => ?_) (fun c1 => ?_)
  · have dc1 : x_token.toInt ≠ 1 := ne_i (a := x_token.toInt) (b := 1) rfl rfl c1
    refine lv_iconst (v := 0) hx hb dX10_isWord_21 (by decide) ?_
    exact ret_i (v := 0) hx hb hr hlocks hS hP hD dX10_isWord_22 rfl (Nat.le_of_ble_eq_true rfl) (Nat.le_of_ble_eq_true rfl) ⟨(show 0 ≤ (0 : Int32).toInt ∧ (0 : Int32).toInt ≤ 1 by decide), (by have zl0 : (0 : Int32).toInt = 0 := (by decide); omega), rfl⟩
  · have dc1 : x_token.toInt = 1 := eq_i (a := x_token.toInt) (b := 1) rfl rfl c1
    have k2 : 1 ≤ x_token.toInt ∧ x_token.toInt ≤ 1 := ⟨Int.le_trans (Int.le_refl _) (Int.le_of_eq dc1.symm), Int.le_trans (Int.le_of_eq dc1) (Int.le_refl _)⟩
    refine lv_aload_n hx hb dX10_isWord_8 rfl (lv_at hl 0 rfl) ?_
    refine get_f (D := D) (ci := 10) (v := .long x_word) (C := RX10) (T := TX10) (N := 67) hx hb hw inAX10 hown hK hP 0 rfl rfl 18 (by decide) (hw _ q_1279) (fun _ h9 => h9) e_word dX10_isWord_9 ?_
    refine lv_lload_n hx hb dX10_isWord_12 rfl (lv_at hl 1 rfl) ?_
    refine W.lcmp hx hb dX10_isWord_13 ?_
    refine lv_topi (fun v3 ev3 => ?_)
    refine lv_if_ne (tgt := 21) hx hb dX10_isWord_14 (by decide) (fun c4 => ?_) (fun c4 => ?_)
    · have dc4 : v3.toInt ≠ 0 := ne_i (a := v3.toInt) (b := 0) rfl rfl c4
      refine lv_iconst (v := 0) hx hb dX10_isWord_21 (by decide) ?_
      exact ret_i (v := 0) hx hb hr hlocks hS hP hD dX10_isWord_22 rfl (Nat.le_of_ble_eq_true rfl) (Nat.le_of_ble_eq_true rfl) ⟨(show 0 ≤ (0 : Int32).toInt ∧ (0 : Int32).toInt ≤ 1 by decide), (by have zl0 : (0 : Int32).toInt = 0 := (by decide); omega), rfl⟩
    · have dc4 : v3.toInt = 0 := eq_i (a := v3.toInt) (b := 0) rfl rfl c4
      have k5 : 0 ≤ v3.toInt ∧ v3.toInt ≤ 0 := ⟨Int.le_trans (Int.le_refl _) (Int.le_of_eq dc4.symm), Int.le_trans (Int.le_of_eq dc4) (Int.le_refl _)⟩
      refine lv_iconst (v := 1) hx hb dX10_isWord_17 (by decide) ?_
      refine lv_goto (tgt := 22) hx hb dX10_isWord_18 (by decide) ?_
      exact ret_i (v := 1) hx hb hr hlocks hS hP hD dX10_isWord_22 rfl (Nat.le_of_ble_eq_true rfl) (Nat.le_of_ble_eq_true rfl) ⟨(show 0 ≤ (1 : Int32).toInt ∧ (1 : Int32).toInt ≤ 1 by decide), (by have zl1 : (1 : Int32).toInt = 1 := (by decide); omega), rfl⟩
set_option maxHeartbeats 4000000 in
set_option maxRecDepth 100000 in
theorem m_X10_isSign (l : Launch) (D : va_G) (cI cJ cB cP cM cZ : ClassId) (h0 : Nat) (Fh : Nat → Value) (x_token : Int32) (x_number : Int32) (p0 : Int32) (sz : Nat) (e_token : Fh 11 = .int x_token) (i_x_token : IR 0 4 x_token) (e_number : Fh 14 = .int x_number) (o_0 : (x_token.toInt = 2 → 0 ≤ x_number.toInt ∧ x_number.toInt ≤ 999)) : CI l yX10_isSign cX10_isSign 2 (some .boolean) { frames := 0, cells := 0, slots := 0, locals := 0 } (GG D cI cJ cB cP cM cZ) D [(h0, .inr (10, vL 67 Fh))] sz [.ref h0, .int p0] (fun (r : Int32) (u : va_W) => IR 0 1 r ∧ ((r.toInt = 1 → x_token.toInt = 3)) ∧ u = [(h0, .inr (10, vL 67 Fh))]) := by
  refine CI_mk (by decide) (Nat.le_of_ble_eq_true rfl) ?_
  intro p e s m below meth c A ls E hAe hG hsz hP hD hA hS hl
  obtain ⟨hx, hb, hr, hw, hown, hlocks, hml, hnm⟩ := E
  have hK := hG.1
  have i_x_token : 0 ≤ x_token.toInt ∧ x_token.toInt ≤ 4 := i_x_token
  have hl : lv_has ls 2 [(0, .ref h0), (1, .int p0)] := hl
  refine lv_aload_n hx hb dX10_isSign_0 rfl (lv_at hl 0 rfl) ?_
  refine get_f (D := D) (ci := 10) (v := .int x_token) (C := RX10) (T := TX10) (N := 67) hx hb hw inAX10 hown hK hP 0 rfl rfl 11 (by decide) (hw _ q_1272) (fun _ h9 => h9) e_token dX10_isSign_1 ?_
  refine lv_iconst (v := 3) hx hb dX10_isSign_4 (by decide) ?_
  refine lv_icmp_ne (tgt := 20) hx hb dX10_isSign_5 (by decide) (fun c1 => ?_) (fun c1 => ?_)
  · have dc1 : x_token.toInt ≠ 3 := ne_i (a := x_token.toInt) (b := 3) rfl rfl c1
    refine lv_iconst (v := 0) hx hb dX10_isSign_20 (by decide) ?_
    exact ret_i (v := 0) hx hb hr hlocks hS hP hD dX10_isSign_21 rfl (Nat.le_of_ble_eq_true rfl) (Nat.le_of_ble_eq_true rfl) ⟨(show 0 ≤ (0 : Int32).toInt ∧ (0 : Int32).toInt ≤ 1 by decide), (by have zl0 : (0 : Int32).toInt = 0 := (by decide); omega), rfl⟩
  · have dc1 : x_token.toInt = 3 := eq_i (a := x_token.toInt) (b := 3) rfl rfl c1
    have k2 : 3 ≤ x_token.toInt ∧ x_token.toInt ≤ 3 := ⟨Int.le_trans (Int.le_refl _) (Int.le_of_eq dc1.symm), Int.le_trans (Int.le_of_eq dc1) (Int.le_refl _)⟩
    refine lv_aload_n hx hb dX10_isSign_8 rfl (lv_at hl 0 rfl) ?_
    refine get_f (D := D) (ci := 10) (v := .int x_number) (C := RX10) (T := TX10) (N := 67) hx hb hw inAX10 hown hK hP 0 rfl rfl 14 (by decide) (hw _ q_1275) (fun _ h9 => h9) e_number dX10_isSign_9 ?_
    refine lv_iload_n hx hb dX10_isSign_12 rfl (lv_at hl 1 rfl) ?_
    refine lv_icmp_ne (tgt := 20) hx hb dX10_isSign_13 (by decide) (fun c3 => ?_) (fun c3 => ?_)
    · have dc3 : x_number.toInt ≠ p0.toInt := ne_i (a := x_number.toInt) (b := p0.toInt) rfl rfl c3
      refine lv_iconst (v := 0) hx hb dX10_isSign_20 (by decide) ?_
      exact ret_i (v := 0) hx hb hr hlocks hS hP hD dX10_isSign_21 rfl (Nat.le_of_ble_eq_true rfl) (Nat.le_of_ble_eq_true rfl) ⟨(show 0 ≤ (0 : Int32).toInt ∧ (0 : Int32).toInt ≤ 1 by decide), (by have zl0 : (0 : Int32).toInt = 0 := (by decide); omega), rfl⟩
    · have dc3 : x_number.toInt = p0.toInt := eq_i (a := x_number.toInt) (b := p0.toInt) rfl rfl c3
      refine lv_iconst (v := 1) hx hb dX10_isSign_16 (by decide) ?_
      refine lv_goto (tgt := 21) hx hb dX10_isSign_17 (by decide) ?_
      exact ret_i (v := 1) hx hb hr hlocks hS hP hD dX10_isSign_21 rfl (Nat.le_of_ble_eq_true rfl) (Nat.le_of_ble_eq_true rfl) ⟨(show 0 ≤ (1 : Int32).toInt ∧ (1 : Int32).toInt ≤ 1 by decide), (by have zl1 : (1 : Int32).toInt = 1 := (by decide); omega), rfl⟩
set_option maxHeartbeats 4000000 in
set_option maxRecDepth 100000 in
theorem m_X10_sign (l : Launch) (D : va_G) (cI cJ cB cP cM cZ : ClassId) (h0 : Nat) (h_tape : Nat) (Fh : Nat → Value) (x_size : Int32) (x_p : Int32) (x_limit : Int32) (x_token : Int32) (x_at : Int32) (x_span : Int32) (x_number : Int32) (x_fault : Int32) (x_faultAt : Int32) (x_word : Int64) (f_tape : Nat → Int32) (p0 : Int32) (sz : Nat) (e_tape : Fh 1 = .ref h_tape) (e_size : Fh 3 = .int x_size) (i_x_size : IR 0 940 x_size) (e_p : Fh 4 = .int x_p) (i_x_p : IR 0 940 x_p) (e_limit : Fh 5 = .int x_limit) (i_x_limit : IR 200 940 x_limit) (e_token : Fh 11 = .int x_token) (i_x_token : IR 0 4 x_token) (e_at : Fh 12 = .int x_at) (e_span : Fh 13 = .int x_span) (e_number : Fh 14 = .int x_number) (e_fault : Fh 15 = .int x_fault) (e_faultAt : Fh 16 = .int x_faultAt) (e_word : Fh 18 = .long x_word) (o_0 : (x_token.toInt = 2 → 0 ≤ x_number.toInt ∧ x_number.toInt ≤ 999)) : CI l yX10_sign cX10_sign 2 (some .boolean) { frames := 2, cells := 0, slots := 0, locals := 43 } (GG D cI cJ cB cP cM cZ) D [(h0, .inr (10, vL 67 Fh)), (h_tape, .inl (cB, 940, .inl f_tape))] sz [.ref h0, .int p0] (fun (r : Int32) (u : va_W) => ∃ (Gh : Nat → Value) (y_p : Int32) (y_token : Int32) (y_at : Int32) (y_span : Int32) (y_number : Int32) (y_fault : Int32) (y_faultAt : Int32) (y_word : Int64), SAME [4, 11, 12, 13, 14, 15, 16, 18] Fh Gh ∧ Gh 4 = .int y_p ∧ IR 0 940 y_p ∧ Gh 11 = .int y_token ∧ IR 0 4 y_token ∧ Gh 12 = .int y_at ∧ Gh 13 = .int y_span ∧ Gh 14 = .int y_number ∧ Gh 15 = .int y_fault ∧ Gh 16 = .int y_faultAt ∧ Gh 18 = .long y_word ∧ IR 0 1 r ∧ ((r.toInt = 1 → (x_token.toInt = 3 ∧ x_p.toInt ≤ y_p.toInt))) ∧ ((y_token.toInt = 2 → 0 ≤ y_number.toInt ∧ y_number.toInt ≤ 999)) ∧ u = [(h0, .inr (10, vL 67 Gh)), (h_tape, .inl (cB, 940, .inl f_tape))]) := by
  refine CI_mk (by decide) (Nat.le_of_ble_eq_true rfl) ?_
  intro p e s m below meth c A ls E hAe hG hsz hP hD hA hS hl
  obtain ⟨hx, hb, hr, hw, hown, hlocks, hml, hnm⟩ := E
  have hK := hG.1
  have i_x_size : 0 ≤ x_size.toInt ∧ x_size.toInt ≤ 940 := i_x_size
  have i_x_p : 0 ≤ x_p.toInt ∧ x_p.toInt ≤ 940 := i_x_p
  have i_x_limit : 200 ≤ x_limit.toInt ∧ x_limit.toInt ≤ 940 := i_x_limit
  have i_x_token : 0 ≤ x_token.toInt ∧ x_token.toInt ≤ 4 := i_x_token
  have hl : lv_has ls 2 [(0, .ref h0), (1, .int p0)] := hl
  refine lv_aload_n hx hb dX10_sign_0 rfl (lv_at hl 0 rfl) ?_
  refine lv_iload_n hx hb dX10_sign_1 rfl (lv_at hl 1 rfl) ?_
  refine call_Vi (wr := [(h_tape, .inl (cB, 940, .inl f_tape))]) (As := [.int p0]) (rest := []) hx hb hml hown hw (m_X10_isSign l D cI cJ cB cP cM cZ h0 Fh x_token x_number p0 _ e_token i_x_token e_number (by omega)) wV_X10_202_X10_isSign dX10_sign_2 hK hP hD hS hA [0] [1] rfl rfl (by decide) (by decide) (by decide) 0 10 rfl rfl GG.fb hG.at hl.1 rfl (Nat.le_of_ble_eq_true rfl) ⟨(Nat.le_of_ble_eq_true rfl), (Nat.le_of_ble_eq_true rfl)⟩ ⟨(Nat.le_of_ble_eq_true rfl), (Nat.le_of_ble_eq_true rfl)⟩ (fun r1 u H locs hp hP hD hS => ?_)
  obtain ⟨t2, t3, rfl⟩ := hp
  have hP : va_P D vwCl [(h_tape, .inl (cB, 940, .inl f_tape)), (h0, .inr (10, vL 67 Fh))] H := hP
  have hD : va_D A [(h_tape, .inl (cB, 940, .inl f_tape)), (h0, .inr (10, vL 67 Fh))] := hD
  refine W.widen (k := 0) (n := 0) (Nat.le_of_ble_eq_true rfl) (Nat.le_of_ble_eq_true rfl) ?_
  refine lv_if_ne (tgt := 14) hx hb dX10_sign_5 (by decide) (fun c5 => ?_) (fun c5 => ?_)
  · have dc5 : r1.toInt ≠ 0 := ne_i (a := r1.toInt) (b := 0) rfl rfl c5
    have k6 : 1 ≤ r1.toInt ∧ r1.toInt ≤ 1 := ⟨ne_lo dc5 t2.1 ⟨Int.le_refl _, Int.le_refl _⟩ (by decide), t2.2⟩
    refine lv_aload_n hx hb dX10_sign_14 rfl (lv_at hl 0 rfl) ?_
    refine call_Vv (wr := []) (As := []) (rest := []) hx hb hml hown hw (m_X10_next l D cI cJ cB cP cM cZ h0 h_tape Fh x_size x_p x_limit x_token x_number x_word f_tape _ e_tape e_size i_x_size e_p i_x_p e_limit i_x_limit e_token i_x_token e_number e_word (by omega)) wV_X10_208_X10_next dX10_sign_15 hK hP hD hS hA [1, 0] [] rfl rfl (by decide) (by decide) (by decide) 0 10 rfl rfl GG.fb hG.at hl.1 rfl (Nat.le_of_ble_eq_true rfl) ⟨(Nat.le_of_ble_eq_true rfl), (Nat.le_of_ble_eq_true rfl)⟩ ⟨(Nat.le_of_ble_eq_true rfl), (Nat.le_of_ble_eq_true rfl)⟩ (fun u H locs hp hP hD hS => ?_)
    obtain ⟨F8, y9, y10, y11, y12, y13, y14, t15, t16, t17, t18, t19, t20, t21, t22, t23, t24, t25, t26, t27, t28, rfl⟩ := hp
    have hP : va_P D vwCl [(h0, .inr (10, vL 67 F8)), (h_tape, .inl (cB, 940, .inl f_tape))] H := hP
    have hD : va_D A [(h0, .inr (10, vL 67 F8)), (h_tape, .inl (cB, 940, .inl f_tape))] := hD
    refine W.widen (k := 0) (n := 0) (Nat.le_of_ble_eq_true rfl) (Nat.le_of_ble_eq_true rfl) ?_
    refine lv_iconst (v := 1) hx hb dX10_sign_18 (by decide) ?_
    exact ret_i (v := 1) hx hb hr hlocks hS hP hD dX10_sign_19 rfl (Nat.le_of_ble_eq_true rfl) (Nat.le_of_ble_eq_true rfl) ⟨F8, y9, y10, y11, y12, y13, x_fault, x_faultAt, y14, (SAME.tr SAME.rf t15 (by decide)), t16, t17, t18, t19, t20, t22, t24, (SAME.at t15 (by decide) e_fault), (SAME.at t15 (by decide) e_faultAt), t25, (show 0 ≤ (1 : Int32).toInt ∧ (1 : Int32).toInt ≤ 1 by decide), (by have zl1 : (1 : Int32).toInt = 1 := (by decide); omega), (by omega), rfl⟩
  · have dc5 : r1.toInt = 0 := eq_i (a := r1.toInt) (b := 0) rfl rfl c5
    have k30 : 0 ≤ r1.toInt ∧ r1.toInt ≤ 0 := ⟨t2.1, Int.le_trans (Int.le_of_eq dc5) (Int.le_refl _)⟩
    refine lv_aload_n hx hb dX10_sign_8 rfl (lv_at hl 0 rfl) ?_
    refine lv_iconst (v := 1) hx hb dX10_sign_9 (by decide) ?_
    refine call_Vi (wr := [(h_tape, .inl (cB, 940, .inl f_tape))]) (As := [.int 1]) (rest := []) hx hb hml hown hw (m_X10_bad l D cI cJ cB cP cM cZ h0 Fh x_at 1 _ e_at) wV_X10_205_X10_bad dX10_sign_10 hK hP hD hS hA [1] [0] rfl rfl (by decide) (by decide) (by decide) 0 10 rfl rfl GG.fb hG.at hl.1 rfl (Nat.le_of_ble_eq_true rfl) ⟨(Nat.le_of_ble_eq_true rfl), (Nat.le_of_ble_eq_true rfl)⟩ ⟨(Nat.le_of_ble_eq_true rfl), (Nat.le_of_ble_eq_true rfl)⟩ (fun r31 u H locs hp hP hD hS => ?_)
    have zl1 : (1 : Int32).toInt = 1 := by decide
    obtain ⟨F32, t33, t34, t35, rfl, rfl⟩ := hp
    have hP : va_P D vwCl [(h_tape, .inl (cB, 940, .inl f_tape)), (h0, .inr (10, vL 67 F32))] H := hP
    have hD : va_D A [(h_tape, .inl (cB, 940, .inl f_tape)), (h0, .inr (10, vL 67 F32))] := hD
    refine W.widen (k := 0) (n := 0) (Nat.le_of_ble_eq_true rfl) (Nat.le_of_ble_eq_true rfl) ?_
    exact ret_i (v := 0) hx hb hr hlocks hS (hP.sub (ws' := [(h0, .inr (10, vL 67 F32)), (h_tape, .inl (cB, 940, .inl f_tape))]) [1, 0] rfl) (hD.sub (ws' := [(h0, .inr (10, vL 67 F32)), (h_tape, .inl (cB, 940, .inl f_tape))]) [1, 0] (by decide) rfl) dX10_sign_13 rfl (Nat.le_of_ble_eq_true rfl) (Nat.le_of_ble_eq_true rfl) ⟨F32, x_p, x_token, x_at, x_span, x_number, 1, x_at, x_word, (SAME.tr SAME.rf t33 (by decide)), (SAME.at t33 (by decide) e_p), i_x_p, (SAME.at t33 (by decide) e_token), i_x_token, (SAME.at t33 (by decide) e_at), (SAME.at t33 (by decide) e_span), (SAME.at t33 (by decide) e_number), t34, t35, (SAME.at t33 (by decide) e_word), (show 0 ≤ (0 : Int32).toInt ∧ (0 : Int32).toInt ≤ 1 by decide), (by have zl0 : (0 : Int32).toInt = 0 := (by decide); have zl1 : (1 : Int32).toInt = 1 := (by decide); omega), (by have zl1 : (1 : Int32).toInt = 1 := (by decide); omega), rfl⟩
set_option maxHeartbeats 4000000 in
set_option maxRecDepth 100000 in
theorem m_X10_isName (l : Launch) (D : va_G) (cI cJ cB cP cM cZ : ClassId) (h0 : Nat) (h_reserved : Nat) (Fh : Nat → Value) (x_token : Int32) (x_number : Int32) (x_word : Int64) (f_reserved : Nat → Int64) (sz : Nat) (e_reserved : Fh 10 = .ref h_reserved) (e_token : Fh 11 = .int x_token) (i_x_token : IR 0 4 x_token) (e_number : Fh 14 = .int x_number) (e_word : Fh 18 = .long x_word) (o_0 : (x_token.toInt = 2 → 0 ≤ x_number.toInt ∧ x_number.toInt ≤ 999)) : CI l yX10_isName cX10_isName 3 (some .boolean) { frames := 0, cells := 0, slots := 0, locals := 0 } (GG D cI cJ cB cP cM cZ) D [(h0, .inr (10, vL 67 Fh)), (h_reserved, .inl (cJ, 23, .inr (.inl f_reserved)))] sz [.ref h0] (fun (r : Int32) (u : va_W) => IR 0 1 r ∧ u = [(h0, .inr (10, vL 67 Fh)), (h_reserved, .inl (cJ, 23, .inr (.inl f_reserved)))]) := by
  refine CI_mk (by decide) (Nat.le_of_ble_eq_true rfl) ?_
  intro p e s m below meth c A ls E hAe hG hsz hP hD hA hS hl
  obtain ⟨hx, hb, hr, hw, hown, hlocks, hml, hnm⟩ := E
  have hK := hG.1
  have i_x_token : 0 ≤ x_token.toInt ∧ x_token.toInt ≤ 4 := i_x_token
  have hl : lv_has ls 3 [(0, .ref h0)] := hl
  refine lv_aload_n hx hb dX10_isName_0 rfl (lv_at hl 0 rfl) ?_
  refine get_f (D := D) (ci := 10) (v := .int x_token) (C := RX10) (T := TX10) (N := 67) hx hb hw inAX10 hown hK hP 0 rfl rfl 11 (by decide) (hw _ q_1272) (fun _ h9 => h9) e_token dX10_isName_1 ?_
  refine lv_iconst (v := 1) hx hb dX10_isName_4 (by decide) ?_
  refine lv_icmp_ne (tgt := 12) hx hb dX10_isName_5 (by decide) (fun c1 => ?_) (fun c1 => ?_)
  · have dc1 : x_token.toInt ≠ 1 := ne_i (a := x_token.toInt) (b := 1) rfl rfl c1
    refine lv_iconst (v := 0) hx hb dX10_isName_12 (by decide) ?_
    refine lv_istore_n (lv' := [(1, .int 0), (0, .ref h0)]) hx hb dX10_isName_13 rfl hl (by decide) rfl (fun ls hl => ?_)
    refine lv_iconst (v := 0) hx hb dX10_isName_14 (by decide) ?_
    refine lv_istore_n (lv' := [(2, .int 0), (1, .int 0), (0, .ref h0)]) hx hb dX10_isName_15 rfl hl (by decide) rfl (fun ls hl => ?_)
    refine mloop (α := (Int32) × (Int32)) (nL := 3) (D := D) (A := A) (H0 := s.heap) (fun a => (23 - a.1.toInt).toNat) (fun a => IR 0 23 a.1 ∧ IR 0 0 a.2) (fun a => [(h0, .inr (10, vL 67 Fh)), (h_reserved, .inl (cJ, 23, .inr (.inl f_reserved)))]) (fun a => [(2, .int a.1), (1, .int a.2), (0, .ref h0)]) (fun H locs ls => W p l e ({ frames := 0, cells := 0, slots := 0, locals := 0 } : Room) s m [.ref h0].toArray below meth c H locs 0 0 (MQ below (va_Qi (fun (r : Int32) (u : va_W) => IR 0 1 r ∧ u = [(h0, .inr (10, vL 67 Fh)), (h_reserved, .inl (cJ, 23, .inr (.inl f_reserved)))]) (PO D A) A) [.ref h0].toArray s 0 0 A) (F0 m 16 ls [])) ?_ (0, 0) ⟨(show 0 ≤ (0 : Int32).toInt ∧ (0 : Int32).toInt ≤ 23 by decide), (show 0 ≤ (0 : Int32).toInt ∧ (0 : Int32).toInt ≤ 0 by decide)⟩ _ _ _ hP hD hS hl
    rintro ⟨u2, u3⟩ ⟨i4, i5⟩ ih H locs ls hP hD hS hl
    have i4 : 0 ≤ u2.toInt ∧ u2.toInt ≤ 23 := i4
    have i5 : 0 ≤ u3.toInt ∧ u3.toInt ≤ 0 := i5
    have hP : va_P D vwCl [(h0, .inr (10, vL 67 Fh)), (h_reserved, .inl (cJ, 23, .inr (.inl f_reserved)))] H := hP
    have hD : va_D A [(h0, .inr (10, vL 67 Fh)), (h_reserved, .inl (cJ, 23, .inr (.inl f_reserved)))] := hD
    have hl : lv_has ls 3 [(2, .int u2), (1, .int u3), (0, .ref h0)] := hl
    refine lv_iload_n hx hb dX10_isName_16 rfl (lv_at hl 0 rfl) ?_
    refine lv_bipush (v := 23) hx hb dX10_isName_17 (by decide) ?_
    refine lv_icmp_ge (tgt := 52) hx hb dX10_isName_19 (by decide) (fun c6 => ?_) (fun c6 => ?_)
    · have dc6 : 23 ≤ u2.toInt := le_i (a := 23) (b := u2.toInt) rfl rfl c6
      have k7 : 23 ≤ u2.toInt ∧ u2.toInt ≤ 23 := ⟨Int.le_trans (Int.le_refl _) dc6, i4.2⟩
      refine lv_iload_n hx hb dX10_isName_52 rfl (lv_at hl 1 rfl) ?_
      exact ret_i (v := u3) hx hb hr hlocks hS hP hD dX10_isName_53 (nz_i (show 0 ≤ u3.toInt ∧ u3.toInt ≤ 1 from (ir_wk i5 (by decide) (by decide))).1 (show 0 ≤ u3.toInt ∧ u3.toInt ≤ 1 from (ir_wk i5 (by decide) (by decide))).2) (Nat.le_of_ble_eq_true rfl) (Nat.le_of_ble_eq_true rfl) ⟨(ir_wk i5 (by decide) (by decide)), rfl⟩
    · have dc6 : u2.toInt < 23 := nle_i (a := 23) (b := u2.toInt) rfl rfl c6
      have k8 : 0 ≤ u2.toInt ∧ u2.toInt ≤ 22 := ⟨i4.1, up_lt dc6 (Int.le_refl _) (by decide)⟩
      refine lv_iload_n hx hb dX10_isName_22 rfl (lv_at hl 1 rfl) ?_
      refine lv_if_eq (tgt := 44) hx hb dX10_isName_23 (by decide) (fun c9 => ?_) (fun c9 => False.elim (bad_ne (ne_i (a := u3.toInt) (b := 0) rfl rfl c9) i5 ⟨Int.le_refl _, Int.le_refl _⟩ (by decide)))
      have dc9 : u3.toInt = 0 := eq_i (a := u3.toInt) (b := 0) rfl rfl c9
      refine lv_iconst (v := 0) hx hb dX10_isName_44 (by decide) ?_
      refine lv_istore_n (lv' := [(1, .int 0), (2, .int u2), (0, .ref h0)]) hx hb dX10_isName_45 rfl hl (by decide) rfl (fun ls hl => ?_)
      obtain ⟨v10, ev10⟩ : ∃ z : Int32, z = u2 + 1 := ⟨_, rfl⟩
      have bv10 : v10.toInt = u2.toInt + 1 := by rw [ev10]; exact add_k rfl rfl k8 ⟨Int.le_refl _, Int.le_refl _⟩ (by decide)
      have k11 : 1 ≤ v10.toInt ∧ v10.toInt ≤ 23 := add_r bv10 k8 ⟨Int.le_refl _, Int.le_refl _⟩ (by decide)
      refine lv_iinc (v := v10) (lv' := [(2, .int v10), (1, .int 0), (0, .ref h0)]) hx hb dX10_isName_46 hl (k := 1) rfl (by rw [ev10]; rfl) (by decide) rfl (fun ls hl => ?_)
      refine lv_goto (tgt := 16) hx hb dX10_isName_49 (by decide) ?_
      exact ih (v10, 0) ⟨(ir_wk k11 (by decide) (by decide)), (show 0 ≤ (0 : Int32).toInt ∧ (0 : Int32).toInt ≤ 0 by decide)⟩ (by show (23 - v10.toInt).toNat < (23 - u2.toInt).toNat; omega) _ _ _ hP hD hS (lv_sub hl [0, 1, 2] rfl)
  · have dc1 : x_token.toInt = 1 := eq_i (a := x_token.toInt) (b := 1) rfl rfl c1
    have k12 : 1 ≤ x_token.toInt ∧ x_token.toInt ≤ 1 := ⟨Int.le_trans (Int.le_refl _) (Int.le_of_eq dc1.symm), Int.le_trans (Int.le_of_eq dc1) (Int.le_refl _)⟩
    refine lv_iconst (v := 1) hx hb dX10_isName_8 (by decide) ?_
    refine lv_goto (tgt := 13) hx hb dX10_isName_9 (by decide) ?_
    refine lv_istore_n (lv' := [(1, .int 1), (0, .ref h0)]) hx hb dX10_isName_13 rfl hl (by decide) rfl (fun ls hl => ?_)
    refine lv_iconst (v := 0) hx hb dX10_isName_14 (by decide) ?_
    refine lv_istore_n (lv' := [(2, .int 0), (1, .int 1), (0, .ref h0)]) hx hb dX10_isName_15 rfl hl (by decide) rfl (fun ls hl => ?_)
    refine mloop (α := (Int32) × (Int32)) (nL := 3) (D := D) (A := A) (H0 := s.heap) (fun a => (23 - a.1.toInt).toNat) (fun a => IR 0 23 a.1 ∧ IR 0 1 a.2) (fun a => [(h0, .inr (10, vL 67 Fh)), (h_reserved, .inl (cJ, 23, .inr (.inl f_reserved)))]) (fun a => [(2, .int a.1), (1, .int a.2), (0, .ref h0)]) (fun H locs ls => W p l e ({ frames := 0, cells := 0, slots := 0, locals := 0 } : Room) s m [.ref h0].toArray below meth c H locs 0 0 (MQ below (va_Qi (fun (r : Int32) (u : va_W) => IR 0 1 r ∧ u = [(h0, .inr (10, vL 67 Fh)), (h_reserved, .inl (cJ, 23, .inr (.inl f_reserved)))]) (PO D A) A) [.ref h0].toArray s 0 0 A) (F0 m 16 ls [])) ?_ (0, 1) ⟨(show 0 ≤ (0 : Int32).toInt ∧ (0 : Int32).toInt ≤ 23 by decide), (show 0 ≤ (1 : Int32).toInt ∧ (1 : Int32).toInt ≤ 1 by decide)⟩ _ _ _ hP hD hS hl
    rintro ⟨u13, u14⟩ ⟨i15, i16⟩ ih H locs ls hP hD hS hl
    have i15 : 0 ≤ u13.toInt ∧ u13.toInt ≤ 23 := i15
    have i16 : 0 ≤ u14.toInt ∧ u14.toInt ≤ 1 := i16
    have hP : va_P D vwCl [(h0, .inr (10, vL 67 Fh)), (h_reserved, .inl (cJ, 23, .inr (.inl f_reserved)))] H := hP
    have hD : va_D A [(h0, .inr (10, vL 67 Fh)), (h_reserved, .inl (cJ, 23, .inr (.inl f_reserved)))] := hD
    have hl : lv_has ls 3 [(2, .int u13), (1, .int u14), (0, .ref h0)] := hl
    refine lv_iload_n hx hb dX10_isName_16 rfl (lv_at hl 0 rfl) ?_
    refine lv_bipush (v := 23) hx hb dX10_isName_17 (by decide) ?_
    refine lv_icmp_ge (tgt := 52) hx hb dX10_isName_19 (by decide) (fun c17 => ?_) (fun c17 => ?_)
    · have dc17 : 23 ≤ u13.toInt := le_i (a := 23) (b := u13.toInt) rfl rfl c17
      have k18 : 23 ≤ u13.toInt ∧ u13.toInt ≤ 23 := ⟨Int.le_trans (Int.le_refl _) dc17, i15.2⟩
      refine lv_iload_n hx hb dX10_isName_52 rfl (lv_at hl 1 rfl) ?_
      exact ret_i (v := u14) hx hb hr hlocks hS hP hD dX10_isName_53 (nz_i i16.1 i16.2) (Nat.le_of_ble_eq_true rfl) (Nat.le_of_ble_eq_true rfl) ⟨i16, rfl⟩
    · have dc17 : u13.toInt < 23 := nle_i (a := 23) (b := u13.toInt) rfl rfl c17
      have k19 : 0 ≤ u13.toInt ∧ u13.toInt ≤ 22 := ⟨i15.1, up_lt dc17 (Int.le_refl _) (by decide)⟩
      refine lv_iload_n hx hb dX10_isName_22 rfl (lv_at hl 1 rfl) ?_
      refine lv_if_eq (tgt := 44) hx hb dX10_isName_23 (by decide) (fun c20 => ?_) (fun c20 => ?_)
      · have dc20 : u14.toInt = 0 := eq_i (a := u14.toInt) (b := 0) rfl rfl c20
        have k21 : 0 ≤ u14.toInt ∧ u14.toInt ≤ 0 := ⟨i16.1, Int.le_trans (Int.le_of_eq dc20) (Int.le_refl _)⟩
        refine lv_iconst (v := 0) hx hb dX10_isName_44 (by decide) ?_
        refine lv_istore_n (lv' := [(1, .int 0), (2, .int u13), (0, .ref h0)]) hx hb dX10_isName_45 rfl hl (by decide) rfl (fun ls hl => ?_)
        obtain ⟨v22, ev22⟩ : ∃ z : Int32, z = u13 + 1 := ⟨_, rfl⟩
        have bv22 : v22.toInt = u13.toInt + 1 := by rw [ev22]; exact add_k rfl rfl k19 ⟨Int.le_refl _, Int.le_refl _⟩ (by decide)
        have k23 : 1 ≤ v22.toInt ∧ v22.toInt ≤ 23 := add_r bv22 k19 ⟨Int.le_refl _, Int.le_refl _⟩ (by decide)
        refine lv_iinc (v := v22) (lv' := [(2, .int v22), (1, .int 0), (0, .ref h0)]) hx hb dX10_isName_46 hl (k := 1) rfl (by rw [ev22]; rfl) (by decide) rfl (fun ls hl => ?_)
        refine lv_goto (tgt := 16) hx hb dX10_isName_49 (by decide) ?_
        exact ih (v22, 0) ⟨(ir_wk k23 (by decide) (by decide)), (show 0 ≤ (0 : Int32).toInt ∧ (0 : Int32).toInt ≤ 1 by decide)⟩ (by show (23 - v22.toInt).toNat < (23 - u13.toInt).toNat; omega) _ _ _ hP hD hS (lv_sub hl [0, 1, 2] rfl)
      · have dc20 : u14.toInt ≠ 0 := ne_i (a := u14.toInt) (b := 0) rfl rfl c20
        have k24 : 1 ≤ u14.toInt ∧ u14.toInt ≤ 1 := ⟨ne_lo dc20 i16.1 ⟨Int.le_refl _, Int.le_refl _⟩ (by decide), i16.2⟩
        refine lv_aload_n hx hb dX10_isName_26 rfl (lv_at hl 2 rfl) ?_
        refine get_f (D := D) (ci := 10) (v := .long x_word) (C := RX10) (T := TX10) (N := 67) hx hb hw inAX10 hown hK hP 0 rfl rfl 18 (by decide) (hw _ q_1279) (fun _ h9 => h9) e_word dX10_isName_27 ?_
        refine lv_aload_n hx hb dX10_isName_30 rfl (lv_at hl 2 rfl) ?_
        refine get_f (D := D) (ci := 10) (v := .ref h_reserved) (C := RX10) (T := TX10) (N := 67) hx hb hw inAX10 hown hK hP 0 rfl rfl 10 (by decide) (hw _ q_1271) (fun _ h9 => h9) e_reserved dX10_isName_31 ?_
        refine lv_iload_n hx hb dX10_isName_34 rfl (lv_at hl 0 rfl) ?_
        refine va_lald hx hb hK hP 1 1 rfl rfl (ix_k k19 (by decide) (by decide)) dX10_isName_35 ?_
        refine lv_topl (fun v25 ev25 => ?_)
        refine W.lcmp hx hb dX10_isName_36 ?_
        refine lv_topi (fun v26 ev26 => ?_)
        refine lv_if_eq (tgt := 44) hx hb dX10_isName_37 (by decide) (fun c27 => ?_) (fun c27 => ?_)
        · have dc27 : v26.toInt = 0 := eq_i (a := v26.toInt) (b := 0) rfl rfl c27
          have k28 : 0 ≤ v26.toInt ∧ v26.toInt ≤ 0 := ⟨Int.le_trans (Int.le_refl _) (Int.le_of_eq dc27.symm), Int.le_trans (Int.le_of_eq dc27) (Int.le_refl _)⟩
          refine lv_iconst (v := 0) hx hb dX10_isName_44 (by decide) ?_
          refine lv_istore_n (lv' := [(1, .int 0), (2, .int u13), (0, .ref h0)]) hx hb dX10_isName_45 rfl hl (by decide) rfl (fun ls hl => ?_)
          obtain ⟨v29, ev29⟩ : ∃ z : Int32, z = u13 + 1 := ⟨_, rfl⟩
          have bv29 : v29.toInt = u13.toInt + 1 := by rw [ev29]; exact add_k rfl rfl k19 ⟨Int.le_refl _, Int.le_refl _⟩ (by decide)
          have k30 : 1 ≤ v29.toInt ∧ v29.toInt ≤ 23 := add_r bv29 k19 ⟨Int.le_refl _, Int.le_refl _⟩ (by decide)
          refine lv_iinc (v := v29) (lv' := [(2, .int v29), (1, .int 0), (0, .ref h0)]) hx hb dX10_isName_46 hl (k := 1) rfl (by rw [ev29]; rfl) (by decide) rfl (fun ls hl => ?_)
          refine lv_goto (tgt := 16) hx hb dX10_isName_49 (by decide) ?_
          exact ih (v29, 0) ⟨(ir_wk k30 (by decide) (by decide)), (show 0 ≤ (0 : Int32).toInt ∧ (0 : Int32).toInt ≤ 1 by decide)⟩ (by show (23 - v29.toInt).toNat < (23 - u13.toInt).toNat; omega) _ _ _ hP hD hS (lv_sub hl [0, 1, 2] rfl)
        · have dc27 : v26.toInt ≠ 0 := ne_i (a := v26.toInt) (b := 0) rfl rfl c27
          refine lv_iconst (v := 1) hx hb dX10_isName_40 (by decide) ?_
          refine lv_goto (tgt := 45) hx hb dX10_isName_41 (by decide) ?_
          refine lv_istore_n (lv' := [(1, .int 1), (2, .int u13), (0, .ref h0)]) hx hb dX10_isName_45 rfl hl (by decide) rfl (fun ls hl => ?_)
          obtain ⟨v31, ev31⟩ : ∃ z : Int32, z = u13 + 1 := ⟨_, rfl⟩
          have bv31 : v31.toInt = u13.toInt + 1 := by rw [ev31]; exact add_k rfl rfl k19 ⟨Int.le_refl _, Int.le_refl _⟩ (by decide)
          have k32 : 1 ≤ v31.toInt ∧ v31.toInt ≤ 23 := add_r bv31 k19 ⟨Int.le_refl _, Int.le_refl _⟩ (by decide)
          refine lv_iinc (v := v31) (lv' := [(2, .int v31), (1, .int 1), (0, .ref h0)]) hx hb dX10_isName_46 hl (k := 1) rfl (by rw [ev31]; rfl) (by decide) rfl (fun ls hl => ?_)
          refine lv_goto (tgt := 16) hx hb dX10_isName_49 (by decide) ?_
          exact ih (v31, 1) ⟨(ir_wk k32 (by decide) (by decide)), (show 0 ≤ (1 : Int32).toInt ∧ (1 : Int32).toInt ≤ 1 by decide)⟩ (by show (23 - v31.toInt).toNat < (23 - u13.toInt).toNat; omega) _ _ _ hP hD hS (lv_sub hl [0, 1, 2] rfl)
set_option maxHeartbeats 4000000 in
set_option maxRecDepth 100000 in
theorem m_X10_takes (l : Launch) (D : va_G) (cI cJ cB cP cM cZ : ClassId) (h0 : Nat) (h_tape : Nat) (Fh : Nat → Value) (x_size : Int32) (x_p : Int32) (x_limit : Int32) (x_token : Int32) (x_at : Int32) (x_number : Int32) (x_word : Int64) (x_got : Int32) (f_tape : Nat → Int32) (p0 : Int32) (p1 : Int32) (sz : Nat) (e_tape : Fh 1 = .ref h_tape) (e_size : Fh 3 = .int x_size) (i_x_size : IR 0 940 x_size) (e_p : Fh 4 = .int x_p) (i_x_p : IR 0 940 x_p) (e_limit : Fh 5 = .int x_limit) (i_x_limit : IR 200 940 x_limit) (e_token : Fh 11 = .int x_token) (i_x_token : IR 0 4 x_token) (e_at : Fh 12 = .int x_at) (e_number : Fh 14 = .int x_number) (e_word : Fh 18 = .long x_word) (e_got : Fh 19 = .int x_got) (o_0 : (x_token.toInt = 2 → 0 ≤ x_number.toInt ∧ x_number.toInt ≤ 999)) : CI l yX10_takes cX10_takes 3 (some .boolean) { frames := 2, cells := 0, slots := 0, locals := 43 } (GG D cI cJ cB cP cM cZ) D [(h0, .inr (10, vL 67 Fh)), (h_tape, .inl (cB, 940, .inl f_tape))] sz [.ref h0, .int p0, .int p1] (fun (r : Int32) (u : va_W) => (∃ (Gh : Nat → Value) (y_fault : Int32), SAME [15, 16] Fh Gh ∧ Gh 15 = .int y_fault ∧ IR 1 2 y_fault ∧ Gh 16 = .int x_at ∧ ((r.toInt = 1 → (p0.toInt ≤ x_got.toInt ∧ x_got.toInt ≤ p1.toInt ∧ x_p.toInt ≤ x_p.toInt))) ∧ r = 0 ∧ u = [(h0, .inr (10, vL 67 Gh)), (h_tape, .inl (cB, 940, .inl f_tape))]) ∨ (∃ (Gh : Nat → Value) (y_p : Int32) (y_token : Int32) (y_at : Int32) (y_span : Int32) (y_number : Int32) (y_word : Int64) (y_got : Int32), SAME [4, 11, 12, 13, 14, 18, 19] Fh Gh ∧ Gh 4 = .int y_p ∧ IR 0 940 y_p ∧ Gh 11 = .int y_token ∧ IR 0 4 y_token ∧ Gh 12 = .int y_at ∧ IR 0 940 y_at ∧ Gh 13 = .int y_span ∧ IR 0 940 y_span ∧ Gh 14 = .int y_number ∧ Gh 18 = .long y_word ∧ Gh 19 = .int y_got ∧ x_token.toInt = 2 ∧ p0.toInt ≤ x_number.toInt ∧ x_number.toInt ≤ p1.toInt ∧ ((r.toInt = 1 → (p0.toInt ≤ y_got.toInt ∧ y_got.toInt ≤ p1.toInt ∧ x_p.toInt ≤ y_p.toInt))) ∧ ((y_token.toInt = 2 → 0 ≤ y_number.toInt ∧ y_number.toInt ≤ 999)) ∧ r = 1 ∧ u = [(h0, .inr (10, vL 67 Gh)), (h_tape, .inl (cB, 940, .inl f_tape))])) := by
  refine CI_mk (by decide) (Nat.le_of_ble_eq_true rfl) ?_
  intro p e s m below meth c A ls E hAe hG hsz hP hD hA hS hl
  obtain ⟨hx, hb, hr, hw, hown, hlocks, hml, hnm⟩ := E
  have hK := hG.1
  have i_x_size : 0 ≤ x_size.toInt ∧ x_size.toInt ≤ 940 := i_x_size
  have i_x_p : 0 ≤ x_p.toInt ∧ x_p.toInt ≤ 940 := i_x_p
  have i_x_limit : 200 ≤ x_limit.toInt ∧ x_limit.toInt ≤ 940 := i_x_limit
  have i_x_token : 0 ≤ x_token.toInt ∧ x_token.toInt ≤ 4 := i_x_token
  have hl : lv_has ls 3 [(0, .ref h0), (1, .int p0), (2, .int p1)] := hl
  refine lv_aload_n hx hb dX10_takes_0 rfl (lv_at hl 0 rfl) ?_
  refine get_f (D := D) (ci := 10) (v := .int x_token) (C := RX10) (T := TX10) (N := 67) hx hb hw inAX10 hown hK hP 0 rfl rfl 11 (by decide) (hw _ q_1272) (fun _ h9 => h9) e_token dX10_takes_1 ?_
  refine lv_iconst (v := 2) hx hb dX10_takes_4 (by decide) ?_
  refine lv_icmp_eq (tgt := 14) hx hb dX10_takes_5 (by decide) (fun c1 => ?_) (fun c1 => ?_)
  · have dc1 : x_token.toInt = 2 := eq_i (a := x_token.toInt) (b := 2) rfl rfl c1
    have k2 : 2 ≤ x_token.toInt ∧ x_token.toInt ≤ 2 := ⟨Int.le_trans (Int.le_refl _) (Int.le_of_eq dc1.symm), Int.le_trans (Int.le_of_eq dc1) (Int.le_refl _)⟩
    refine lv_aload_n hx hb dX10_takes_14 rfl (lv_at hl 0 rfl) ?_
    refine get_f (D := D) (ci := 10) (v := .int x_number) (C := RX10) (T := TX10) (N := 67) hx hb hw inAX10 hown hK hP 0 rfl rfl 14 (by decide) (hw _ q_1275) (fun _ h9 => h9) e_number dX10_takes_15 ?_
    refine lv_iload_n hx hb dX10_takes_18 rfl (lv_at hl 1 rfl) ?_
    refine lv_iload_n hx hb dX10_takes_19 rfl (lv_at hl 2 rfl) ?_
    refine call_Si (wr := [(h0, .inr (10, vL 67 Fh)), (h_tape, .inl (cB, 940, .inl f_tape))]) (As := [.int x_number, .int p0, .int p1]) (rest := []) hx hb hml hown hw (m_X10_isIn l D cI cJ cB cP cM cZ x_number p0 p1 _ ) wS_X10_211_X10_isIn dX10_takes_20 hP hD hS hA [] [0, 1] rfl rfl (by decide) (by decide) (by decide) GG.fb hG.at hl.1 rfl (Nat.le_of_ble_eq_true rfl) ⟨(Nat.le_of_ble_eq_true rfl), (Nat.le_of_ble_eq_true rfl)⟩ ⟨(Nat.le_of_ble_eq_true rfl), (Nat.le_of_ble_eq_true rfl)⟩ (fun r3 u H locs hp hP hD hS => ?_)
    rcases hp with ⟨t4, rfl, rfl⟩ | ⟨t5, t6, rfl, rfl⟩ | ⟨t7, t8, rfl, rfl⟩
    · have hP : va_P D vwCl [(h0, .inr (10, vL 67 Fh)), (h_tape, .inl (cB, 940, .inl f_tape))] H := hP
      have hD : va_D A [(h0, .inr (10, vL 67 Fh)), (h_tape, .inl (cB, 940, .inl f_tape))] := hD
      refine W.widen (k := 0) (n := 0) (Nat.le_of_ble_eq_true rfl) (Nat.le_of_ble_eq_true rfl) ?_
      have k10 : (-2147483648) ≤ x_number.toInt ∧ x_number.toInt ≤ 2147483646 := ⟨(ir_any _).1, up_lt t4 (ir_any _).2 (by decide)⟩
      have k11 : (-2147483647) ≤ p0.toInt ∧ p0.toInt ≤ 2147483647 := ⟨lo_lt t4 (ir_any _).1 (by decide), (ir_any _).2⟩
      refine lv_if_ne (tgt := 32) hx hb dX10_takes_23 (by decide) (fun g => absurd (by decide) g) (fun _ => ?_)
      refine lv_aload_n hx hb dX10_takes_26 rfl (lv_at hl 0 rfl) ?_
      refine lv_iconst (v := 2) hx hb dX10_takes_27 (by decide) ?_
      refine call_Vi (wr := [(h_tape, .inl (cB, 940, .inl f_tape))]) (As := [.int 2]) (rest := []) hx hb hml hown hw (m_X10_bad l D cI cJ cB cP cM cZ h0 Fh x_at 2 _ e_at) wV_X10_205_X10_bad dX10_takes_28 hK hP hD hS hA [0] [1] rfl rfl (by decide) (by decide) (by decide) 0 10 rfl rfl GG.fb hG.at hl.1 rfl (Nat.le_of_ble_eq_true rfl) ⟨(Nat.le_of_ble_eq_true rfl), (Nat.le_of_ble_eq_true rfl)⟩ ⟨(Nat.le_of_ble_eq_true rfl), (Nat.le_of_ble_eq_true rfl)⟩ (fun r12 u H locs hp hP hD hS => ?_)
      have zl2 : (2 : Int32).toInt = 2 := by decide
      obtain ⟨F13, t14, t15, t16, rfl, rfl⟩ := hp
      have hP : va_P D vwCl [(h_tape, .inl (cB, 940, .inl f_tape)), (h0, .inr (10, vL 67 F13))] H := hP
      have hD : va_D A [(h_tape, .inl (cB, 940, .inl f_tape)), (h0, .inr (10, vL 67 F13))] := hD
      refine W.widen (k := 0) (n := 0) (Nat.le_of_ble_eq_true rfl) (Nat.le_of_ble_eq_true rfl) ?_
      exact ret_i (v := 0) hx hb hr hlocks hS (hP.sub (ws' := [(h0, .inr (10, vL 67 F13)), (h_tape, .inl (cB, 940, .inl f_tape))]) [1, 0] rfl) (hD.sub (ws' := [(h0, .inr (10, vL 67 F13)), (h_tape, .inl (cB, 940, .inl f_tape))]) [1, 0] (by decide) rfl) dX10_takes_31 rfl (Nat.le_of_ble_eq_true rfl) (Nat.le_of_ble_eq_true rfl) (Or.inl ⟨F13, 2, (SAME.tr SAME.rf t14 (by decide)), t15, (show 1 ≤ (2 : Int32).toInt ∧ (2 : Int32).toInt ≤ 2 by decide), t16, (by have zl0 : (0 : Int32).toInt = 0 := (by decide); have zl1 : (1 : Int32).toInt = 1 := (by decide); omega), rfl, rfl⟩)
    · have hP : va_P D vwCl [(h0, .inr (10, vL 67 Fh)), (h_tape, .inl (cB, 940, .inl f_tape))] H := hP
      have hD : va_D A [(h0, .inr (10, vL 67 Fh)), (h_tape, .inl (cB, 940, .inl f_tape))] := hD
      refine W.widen (k := 0) (n := 0) (Nat.le_of_ble_eq_true rfl) (Nat.le_of_ble_eq_true rfl) ?_
      have k18 : (-2147483648) ≤ p1.toInt ∧ p1.toInt ≤ 2147483646 := ⟨(ir_any _).1, up_lt t6 (ir_any _).2 (by decide)⟩
      have k19 : (-2147483647) ≤ x_number.toInt ∧ x_number.toInt ≤ 2147483647 := ⟨lo_lt t6 (ir_any _).1 (by decide), (ir_any _).2⟩
      refine lv_if_ne (tgt := 32) hx hb dX10_takes_23 (by decide) (fun g => absurd (by decide) g) (fun _ => ?_)
      refine lv_aload_n hx hb dX10_takes_26 rfl (lv_at hl 0 rfl) ?_
      refine lv_iconst (v := 2) hx hb dX10_takes_27 (by decide) ?_
      refine call_Vi (wr := [(h_tape, .inl (cB, 940, .inl f_tape))]) (As := [.int 2]) (rest := []) hx hb hml hown hw (m_X10_bad l D cI cJ cB cP cM cZ h0 Fh x_at 2 _ e_at) wV_X10_205_X10_bad dX10_takes_28 hK hP hD hS hA [0] [1] rfl rfl (by decide) (by decide) (by decide) 0 10 rfl rfl GG.fb hG.at hl.1 rfl (Nat.le_of_ble_eq_true rfl) ⟨(Nat.le_of_ble_eq_true rfl), (Nat.le_of_ble_eq_true rfl)⟩ ⟨(Nat.le_of_ble_eq_true rfl), (Nat.le_of_ble_eq_true rfl)⟩ (fun r20 u H locs hp hP hD hS => ?_)
      have zl2 : (2 : Int32).toInt = 2 := by decide
      obtain ⟨F21, t22, t23, t24, rfl, rfl⟩ := hp
      have hP : va_P D vwCl [(h_tape, .inl (cB, 940, .inl f_tape)), (h0, .inr (10, vL 67 F21))] H := hP
      have hD : va_D A [(h_tape, .inl (cB, 940, .inl f_tape)), (h0, .inr (10, vL 67 F21))] := hD
      refine W.widen (k := 0) (n := 0) (Nat.le_of_ble_eq_true rfl) (Nat.le_of_ble_eq_true rfl) ?_
      exact ret_i (v := 0) hx hb hr hlocks hS (hP.sub (ws' := [(h0, .inr (10, vL 67 F21)), (h_tape, .inl (cB, 940, .inl f_tape))]) [1, 0] rfl) (hD.sub (ws' := [(h0, .inr (10, vL 67 F21)), (h_tape, .inl (cB, 940, .inl f_tape))]) [1, 0] (by decide) rfl) dX10_takes_31 rfl (Nat.le_of_ble_eq_true rfl) (Nat.le_of_ble_eq_true rfl) (Or.inl ⟨F21, 2, (SAME.tr SAME.rf t22 (by decide)), t23, (show 1 ≤ (2 : Int32).toInt ∧ (2 : Int32).toInt ≤ 2 by decide), t24, (by have zl0 : (0 : Int32).toInt = 0 := (by decide); have zl1 : (1 : Int32).toInt = 1 := (by decide); omega), rfl, rfl⟩)
    · have hP : va_P D vwCl [(h0, .inr (10, vL 67 Fh)), (h_tape, .inl (cB, 940, .inl f_tape))] H := hP
      have hD : va_D A [(h0, .inr (10, vL 67 Fh)), (h_tape, .inl (cB, 940, .inl f_tape))] := hD
      refine W.widen (k := 0) (n := 0) (Nat.le_of_ble_eq_true rfl) (Nat.le_of_ble_eq_true rfl) ?_
      refine lv_if_ne (tgt := 32) hx hb dX10_takes_23 (by decide) (fun _ => ?_) (fun g => absurd g (by decide))
      refine lv_aload_n hx hb dX10_takes_32 rfl (lv_at hl 0 rfl) ?_
      refine lv_aload_n hx hb dX10_takes_33 rfl (lv_at hl 0 rfl) ?_
      refine get_f (D := D) (ci := 10) (v := .int x_number) (C := RX10) (T := TX10) (N := 67) hx hb hw inAX10 hown hK hP 0 rfl rfl 14 (by decide) (hw _ q_1275) (fun _ h9 => h9) e_number dX10_takes_34 ?_
      refine put_f (D := D) (ci := 10) (v := .int x_number) (ty := .int) (C := RX10) (T := TX10) (N := 67) hx hb hw inAX10 tyX10 tyX10_ok nmX10 hown hK hP hD hS 0 rfl rfl 19 (by decide) (hw _ q_1280) (fun _ h9 => h9) rfl (by decide +kernel) rfl rfl dX10_takes_37 (fun H locs F26 eF26 hP hD hS => ?_)
      have hP : va_P D vwCl [(h0, .inr (10, vL 67 F26)), (h_tape, .inl (cB, 940, .inl f_tape))] H := hP
      have hD : va_D A [(h0, .inr (10, vL 67 F26)), (h_tape, .inl (cB, 940, .inl f_tape))] := hD
      refine lv_aload_n hx hb dX10_takes_40 rfl (lv_at hl 0 rfl) ?_
      have n27 : F26 1 = .ref h_tape := (get_ne eF26 (by decide) e_tape)
      have n28 : F26 3 = .int x_size := (get_ne eF26 (by decide) e_size)
      have n29 : F26 4 = .int x_p := (get_ne eF26 (by decide) e_p)
      have n30 : F26 5 = .int x_limit := (get_ne eF26 (by decide) e_limit)
      have n31 : F26 11 = .int x_token := (get_ne eF26 (by decide) e_token)
      have n32 : F26 14 = .int x_number := (get_ne eF26 (by decide) e_number)
      have n33 : F26 18 = .long x_word := (get_ne eF26 (by decide) e_word)
      refine call_Vv (wr := []) (As := []) (rest := []) hx hb hml hown hw (m_X10_next l D cI cJ cB cP cM cZ h0 h_tape F26 x_size x_p x_limit x_token x_number x_word f_tape _ n27 n28 i_x_size n29 i_x_p n30 i_x_limit n31 (ir_wk k2 (by decide) (by decide)) n32 n33 (by omega)) wV_X10_208_X10_next dX10_takes_41 hK hP hD hS hA [0, 1] [] rfl rfl (by decide) (by decide) (by decide) 0 10 rfl rfl GG.fb hG.at hl.1 rfl (Nat.le_of_ble_eq_true rfl) ⟨(Nat.le_of_ble_eq_true rfl), (Nat.le_of_ble_eq_true rfl)⟩ ⟨(Nat.le_of_ble_eq_true rfl), (Nat.le_of_ble_eq_true rfl)⟩ (fun u H locs hp hP hD hS => ?_)
      obtain ⟨F35, y36, y37, y38, y39, y40, y41, t42, t43, t44, t45, t46, t47, t48, t49, t50, t51, t52, t53, t54, t55, rfl⟩ := hp
      have hP : va_P D vwCl [(h0, .inr (10, vL 67 F35)), (h_tape, .inl (cB, 940, .inl f_tape))] H := hP
      have hD : va_D A [(h0, .inr (10, vL 67 F35)), (h_tape, .inl (cB, 940, .inl f_tape))] := hD
      refine W.widen (k := 0) (n := 0) (Nat.le_of_ble_eq_true rfl) (Nat.le_of_ble_eq_true rfl) ?_
      refine lv_iconst (v := 1) hx hb dX10_takes_44 (by decide) ?_
      exact ret_i (v := 1) hx hb hr hlocks hS hP hD dX10_takes_45 rfl (Nat.le_of_ble_eq_true rfl) (Nat.le_of_ble_eq_true rfl) (Or.inr ⟨F35, y36, y37, y38, y39, y40, y41, x_number, (SAME.tr (SAME.up eF26 SAME.rf (by decide)) t42 (by decide)), t43, t44, t45, t46, t47, t48, t49, t50, t51, t52, (SAME.at t42 (by decide) (get_eq eF26)), dc1, t7, t8, (by have zl1 : (1 : Int32).toInt = 1 := (by decide); omega), (by omega), rfl, rfl⟩)
  · have dc1 : x_token.toInt ≠ 2 := ne_i (a := x_token.toInt) (b := 2) rfl rfl c1
    refine lv_aload_n hx hb dX10_takes_8 rfl (lv_at hl 0 rfl) ?_
    refine lv_iconst (v := 1) hx hb dX10_takes_9 (by decide) ?_
    refine call_Vi (wr := [(h_tape, .inl (cB, 940, .inl f_tape))]) (As := [.int 1]) (rest := []) hx hb hml hown hw (m_X10_bad l D cI cJ cB cP cM cZ h0 Fh x_at 1 _ e_at) wV_X10_205_X10_bad dX10_takes_10 hK hP hD hS hA [0] [1] rfl rfl (by decide) (by decide) (by decide) 0 10 rfl rfl GG.fb hG.at hl.1 rfl (Nat.le_of_ble_eq_true rfl) ⟨(Nat.le_of_ble_eq_true rfl), (Nat.le_of_ble_eq_true rfl)⟩ ⟨(Nat.le_of_ble_eq_true rfl), (Nat.le_of_ble_eq_true rfl)⟩ (fun r57 u H locs hp hP hD hS => ?_)
    have zl1 : (1 : Int32).toInt = 1 := by decide
    obtain ⟨F58, t59, t60, t61, rfl, rfl⟩ := hp
    have hP : va_P D vwCl [(h_tape, .inl (cB, 940, .inl f_tape)), (h0, .inr (10, vL 67 F58))] H := hP
    have hD : va_D A [(h_tape, .inl (cB, 940, .inl f_tape)), (h0, .inr (10, vL 67 F58))] := hD
    refine W.widen (k := 0) (n := 0) (Nat.le_of_ble_eq_true rfl) (Nat.le_of_ble_eq_true rfl) ?_
    exact ret_i (v := 0) hx hb hr hlocks hS (hP.sub (ws' := [(h0, .inr (10, vL 67 F58)), (h_tape, .inl (cB, 940, .inl f_tape))]) [1, 0] rfl) (hD.sub (ws' := [(h0, .inr (10, vL 67 F58)), (h_tape, .inl (cB, 940, .inl f_tape))]) [1, 0] (by decide) rfl) dX10_takes_13 rfl (Nat.le_of_ble_eq_true rfl) (Nat.le_of_ble_eq_true rfl) (Or.inl ⟨F58, 1, (SAME.tr SAME.rf t59 (by decide)), t60, (show 1 ≤ (1 : Int32).toInt ∧ (1 : Int32).toInt ≤ 2 by decide), t61, (by have zl0 : (0 : Int32).toInt = 0 := (by decide); have zl1 : (1 : Int32).toInt = 1 := (by decide); omega), rfl, rfl⟩)
set_option maxHeartbeats 4000000 in
set_option maxRecDepth 100000 in
theorem m_X10_find (l : Launch) (D : va_G) (cI cJ cB cP cM cZ : ClassId) (h0 : Nat) (h_names : Nat) (Fh : Nat → Value) (x_word : Int64) (f_names : Nat → Int64) (p0 : Int32) (p1 : Int32) (sz : Nat) (e_names : Fh 9 = .ref h_names) (e_word : Fh 18 = .long x_word) (i_p0 : IR 0 30 p0) (i_p1 : IR 0 12 p1) (z_0 : p0.toInt + p1.toInt ≤ 36) : CI l yX10_find cX10_find 4 (some .int) { frames := 0, cells := 0, slots := 0, locals := 0 } (GG D cI cJ cB cP cM cZ) D [(h0, .inr (10, vL 67 Fh)), (h_names, .inl (cJ, 36, .inr (.inl f_names)))] sz [.ref h0, .int p0, .int p1] (fun (r : Int32) (u : va_W) => (p1.toInt ≤ 12 ∧ r = (-1) ∧ u = [(h0, .inr (10, vL 67 Fh)), (h_names, .inl (cJ, 36, .inr (.inl f_names)))]) ∨ (IR 0 11 r ∧ 0 < p1.toInt ∧ u = [(h0, .inr (10, vL 67 Fh)), (h_names, .inl (cJ, 36, .inr (.inl f_names)))])) := by
  refine CI_mk (by decide) (Nat.le_of_ble_eq_true rfl) ?_
  intro p e s m below meth c A ls E hAe hG hsz hP hD hA hS hl
  obtain ⟨hx, hb, hr, hw, hown, hlocks, hml, hnm⟩ := E
  have hK := hG.1
  have i_p0 : 0 ≤ p0.toInt ∧ p0.toInt ≤ 30 := i_p0
  have i_p1 : 0 ≤ p1.toInt ∧ p1.toInt ≤ 12 := i_p1
  have hl : lv_has ls 4 [(0, .ref h0), (1, .int p0), (2, .int p1)] := hl
  refine lv_iconst (v := 0) hx hb dX10_find_0 (by decide) ?_
  refine lv_istore_n (lv' := [(3, .int 0), (0, .ref h0), (1, .int p0), (2, .int p1)]) hx hb dX10_find_1 rfl hl (by decide) rfl (fun ls hl => ?_)
  refine mloop (α := (Int32)) (nL := 4) (D := D) (A := A) (H0 := s.heap) (fun a => (12 - a.toInt).toNat) (fun a => IR 0 12 a) (fun a => [(h0, .inr (10, vL 67 Fh)), (h_names, .inl (cJ, 36, .inr (.inl f_names)))]) (fun a => [(3, .int a), (0, .ref h0), (1, .int p0), (2, .int p1)]) (fun H locs ls => W p l e ({ frames := 0, cells := 0, slots := 0, locals := 0 } : Room) s m [.ref h0, .int p0, .int p1].toArray below meth c H locs 0 0 (MQ below (va_Qi (fun (r : Int32) (u : va_W) => (p1.toInt ≤ 12 ∧ r = (-1) ∧ u = [(h0, .inr (10, vL 67 Fh)), (h_names, .inl (cJ, 36, .inr (.inl f_names)))]) ∨ (IR 0 11 r ∧ 0 < p1.toInt ∧ u = [(h0, .inr (10, vL 67 Fh)), (h_names, .inl (cJ, 36, .inr (.inl f_names)))])) (PO D A) A) [.ref h0, .int p0, .int p1].toArray s 0 0 A) (F0 m 2 ls [])) ?_ (0) (show 0 ≤ (0 : Int32).toInt ∧ (0 : Int32).toInt ≤ 12 by decide) _ _ _ hP hD hS hl
  rintro u1 i2 ih H locs ls hP hD hS hl
  have i2 : 0 ≤ u1.toInt ∧ u1.toInt ≤ 12 := i2
  have hP : va_P D vwCl [(h0, .inr (10, vL 67 Fh)), (h_names, .inl (cJ, 36, .inr (.inl f_names)))] H := hP
  have hD : va_D A [(h0, .inr (10, vL 67 Fh)), (h_names, .inl (cJ, 36, .inr (.inl f_names)))] := hD
  have hl : lv_has ls 4 [(3, .int u1), (0, .ref h0), (1, .int p0), (2, .int p1)] := hl
  refine lv_iload_n hx hb dX10_find_2 rfl (lv_at hl 0 rfl) ?_
  refine lv_iload_n hx hb dX10_find_3 rfl (lv_at hl 3 rfl) ?_
  refine lv_icmp_ge (tgt := 31) hx hb dX10_find_4 (by decide) (fun c3 => ?_) (fun c3 => ?_)
  · have dc3 : p1.toInt ≤ u1.toInt := le_i (a := p1.toInt) (b := u1.toInt) rfl rfl c3
    refine lv_iconst (v := (-1)) hx hb dX10_find_31 (by decide) ?_
    exact ret_i (v := (-1)) hx hb hr hlocks hS hP hD dX10_find_32 rfl (Nat.le_of_ble_eq_true rfl) (Nat.le_of_ble_eq_true rfl) (Or.inl ⟨(by omega), rfl, rfl⟩)
  · have dc3 : u1.toInt < p1.toInt := nle_i (a := p1.toInt) (b := u1.toInt) rfl rfl c3
    have k4 : 0 ≤ u1.toInt ∧ u1.toInt ≤ 11 := ⟨i2.1, up_lt dc3 i_p1.2 (by decide)⟩
    have k5 : 1 ≤ p1.toInt ∧ p1.toInt ≤ 12 := ⟨lo_lt dc3 i2.1 (by decide), i_p1.2⟩
    refine lv_aload_n hx hb dX10_find_7 rfl (lv_at hl 1 rfl) ?_
    refine get_f (D := D) (ci := 10) (v := .ref h_names) (C := RX10) (T := TX10) (N := 67) hx hb hw inAX10 hown hK hP 0 rfl rfl 9 (by decide) (hw _ q_1270) (fun _ h9 => h9) e_names dX10_find_8 ?_
    refine lv_iload_n hx hb dX10_find_11 rfl (lv_at hl 2 rfl) ?_
    refine lv_iload_n hx hb dX10_find_12 rfl (lv_at hl 0 rfl) ?_
    refine lv_iadd hx hb dX10_find_13 ?_
    refine lv_topi (fun v6 ev6 => ?_)
    have bv6 : v6.toInt = p0.toInt + u1.toInt := by rw [ev6]; exact add_k rfl rfl i_p0 k4 (by decide)
    have k7 : 0 ≤ v6.toInt ∧ v6.toInt ≤ 41 := add_r bv6 i_p0 k4 (by decide)
    refine va_lald hx hb hK hP 1 1 rfl rfl (ix_i (by omega) (by omega)) dX10_find_14 ?_
    refine lv_topl (fun v8 ev8 => ?_)
    refine lv_aload_n hx hb dX10_find_15 rfl (lv_at hl 1 rfl) ?_
    refine get_f (D := D) (ci := 10) (v := .long x_word) (C := RX10) (T := TX10) (N := 67) hx hb hw inAX10 hown hK hP 0 rfl rfl 18 (by decide) (hw _ q_1279) (fun _ h9 => h9) e_word dX10_find_16 ?_
    refine W.lcmp hx hb dX10_find_19 ?_
    refine lv_topi (fun v9 ev9 => ?_)
    refine lv_if_ne (tgt := 25) hx hb dX10_find_20 (by decide) (fun c10 => ?_) (fun c10 => ?_)
    · have dc10 : v9.toInt ≠ 0 := ne_i (a := v9.toInt) (b := 0) rfl rfl c10
      obtain ⟨v11, ev11⟩ : ∃ z : Int32, z = u1 + 1 := ⟨_, rfl⟩
      have bv11 : v11.toInt = u1.toInt + 1 := by rw [ev11]; exact add_k rfl rfl k4 ⟨Int.le_refl _, Int.le_refl _⟩ (by decide)
      have k12 : 1 ≤ v11.toInt ∧ v11.toInt ≤ 12 := add_r bv11 k4 ⟨Int.le_refl _, Int.le_refl _⟩ (by decide)
      refine lv_iinc (v := v11) (lv' := [(3, .int v11), (0, .ref h0), (1, .int p0), (2, .int p1)]) hx hb dX10_find_25 hl (k := 0) rfl (by rw [ev11]; rfl) (by decide) rfl (fun ls hl => ?_)
      refine lv_goto (tgt := 2) hx hb dX10_find_28 (by decide) ?_
      exact ih (v11) (ir_wk k12 (by decide) (by decide)) (by show (12 - v11.toInt).toNat < (12 - u1.toInt).toNat; omega) _ _ _ hP hD hS (lv_sub hl [0, 1, 2, 3] rfl)
    · have dc10 : v9.toInt = 0 := eq_i (a := v9.toInt) (b := 0) rfl rfl c10
      have k13 : 0 ≤ v9.toInt ∧ v9.toInt ≤ 0 := ⟨Int.le_trans (Int.le_refl _) (Int.le_of_eq dc10.symm), Int.le_trans (Int.le_of_eq dc10) (Int.le_refl _)⟩
      refine lv_iload_n hx hb dX10_find_23 rfl (lv_at hl 0 rfl) ?_
      exact ret_i (v := u1) hx hb hr hlocks hS hP hD dX10_find_24 rfl (Nat.le_of_ble_eq_true rfl) (Nat.le_of_ble_eq_true rfl) (Or.inr ⟨k4, (by omega), rfl⟩)
set_option maxHeartbeats 4000000 in
set_option maxRecDepth 100000 in
theorem m_X10_fresh (l : Launch) (D : va_G) (cI cJ cB cP cM cZ : ClassId) (h0 : Nat) (h_tape : Nat) (h_h : Nat) (h_names : Nat) (h_reserved : Nat) (Fh : Nat → Value) (x_size : Int32) (x_p : Int32) (x_limit : Int32) (x_token : Int32) (x_at : Int32) (x_span : Int32) (x_number : Int32) (x_fault : Int32) (x_faultAt : Int32) (x_word : Int64) (f_tape : Nat → Int32) (f_h : Nat → Int32) (f_names : Nat → Int64) (f_reserved : Nat → Int64) (p0 : Int32) (sz : Nat) (e_tape : Fh 1 = .ref h_tape) (e_size : Fh 3 = .int x_size) (i_x_size : IR 0 940 x_size) (e_p : Fh 4 = .int x_p) (i_x_p : IR 0 940 x_p) (e_limit : Fh 5 = .int x_limit) (i_x_limit : IR 200 940 x_limit) (e_h : Fh 7 = .ref h_h) (e_names : Fh 9 = .ref h_names) (e_reserved : Fh 10 = .ref h_reserved) (e_token : Fh 11 = .int x_token) (i_x_token : IR 0 4 x_token) (e_at : Fh 12 = .int x_at) (e_span : Fh 13 = .int x_span) (e_number : Fh 14 = .int x_number) (e_fault : Fh 15 = .int x_fault) (e_faultAt : Fh 16 = .int x_faultAt) (e_word : Fh 18 = .long x_word) (s_h_0 : SG 0 0 0 40 f_h) (s_h_44 : SG 44 55 0 9 f_h) (s_h_5 : SG 5 5 0 12 f_h) (s_h_6 : SG 6 6 0 12 f_h) (s_h_7 : SG 7 7 0 6 f_h) (i_p0 : IR 0 35 p0) (o_0 : (x_token.toInt = 2 → 0 ≤ x_number.toInt ∧ x_number.toInt ≤ 999)) : CI l yX10_fresh cX10_fresh 2 (some .boolean) { frames := 2, cells := 0, slots := 0, locals := 43 } (GG D cI cJ cB cP cM cZ) D [(h0, .inr (10, vL 67 Fh)), (h_tape, .inl (cB, 940, .inl f_tape)), (h_h, .inl (cI, 104, .inl f_h)), (h_names, .inl (cJ, 36, .inr (.inl f_names))), (h_reserved, .inl (cJ, 23, .inr (.inl f_reserved)))] sz [.ref h0, .int p0] (fun (r : Int32) (u : va_W) => ∃ (Gh : Nat → Value) (y_p : Int32) (y_token : Int32) (y_at : Int32) (y_span : Int32) (y_number : Int32) (y_fault : Int32) (y_faultAt : Int32) (y_word : Int64) (g_names : Nat → Int64), SAME [4, 11, 12, 13, 14, 15, 16, 18] Fh Gh ∧ Gh 4 = .int y_p ∧ IR 0 940 y_p ∧ Gh 11 = .int y_token ∧ IR 0 4 y_token ∧ Gh 12 = .int y_at ∧ Gh 13 = .int y_span ∧ Gh 14 = .int y_number ∧ Gh 15 = .int y_fault ∧ Gh 16 = .int y_faultAt ∧ Gh 18 = .long y_word ∧ IR 0 1 r ∧ ((r.toInt = 1 → (x_p.toInt ≤ y_p.toInt ∧ (y_token.toInt = 3 → x_p.toInt < y_p.toInt)))) ∧ ((y_token.toInt = 2 → 0 ≤ y_number.toInt ∧ y_number.toInt ≤ 999)) ∧ u = [(h0, .inr (10, vL 67 Gh)), (h_tape, .inl (cB, 940, .inl f_tape)), (h_h, .inl (cI, 104, .inl f_h)), (h_names, .inl (cJ, 36, .inr (.inl g_names))), (h_reserved, .inl (cJ, 23, .inr (.inl f_reserved)))]) := by
  refine CI_mk (by decide) (Nat.le_of_ble_eq_true rfl) ?_
  intro p e s m below meth c A ls E hAe hG hsz hP hD hA hS hl
  obtain ⟨hx, hb, hr, hw, hown, hlocks, hml, hnm⟩ := E
  have hK := hG.1
  have i_x_size : 0 ≤ x_size.toInt ∧ x_size.toInt ≤ 940 := i_x_size
  have i_x_p : 0 ≤ x_p.toInt ∧ x_p.toInt ≤ 940 := i_x_p
  have i_x_limit : 200 ≤ x_limit.toInt ∧ x_limit.toInt ≤ 940 := i_x_limit
  have i_x_token : 0 ≤ x_token.toInt ∧ x_token.toInt ≤ 4 := i_x_token
  have i_p0 : 0 ≤ p0.toInt ∧ p0.toInt ≤ 35 := i_p0
  have hl : lv_has ls 2 [(0, .ref h0), (1, .int p0)] := hl
  refine lv_aload_n hx hb dX10_fresh_0 rfl (lv_at hl 0 rfl) ?_
  refine call_Vi (wr := [(h_tape, .inl (cB, 940, .inl f_tape)), (h_h, .inl (cI, 104, .inl f_h)), (h_names, .inl (cJ, 36, .inr (.inl f_names)))]) (As := []) (rest := []) hx hb hml hown hw (m_X10_isName l D cI cJ cB cP cM cZ h0 h_reserved Fh x_token x_number x_word f_reserved _ e_reserved e_token i_x_token e_number e_word (by omega)) wV_X10_218_X10_isName dX10_fresh_1 hK hP hD hS hA [0, 4] [1, 2, 3] rfl rfl (by decide) (by decide) (by decide) 0 10 rfl rfl GG.fb hG.at hl.1 rfl (Nat.le_of_ble_eq_true rfl) ⟨(Nat.le_of_ble_eq_true rfl), (Nat.le_of_ble_eq_true rfl)⟩ ⟨(Nat.le_of_ble_eq_true rfl), (Nat.le_of_ble_eq_true rfl)⟩ (fun r1 u H locs hp hP hD hS => ?_)
  obtain ⟨t2, rfl⟩ := hp
  have hP : va_P D vwCl [(h_tape, .inl (cB, 940, .inl f_tape)), (h_h, .inl (cI, 104, .inl f_h)), (h_names, .inl (cJ, 36, .inr (.inl f_names))), (h0, .inr (10, vL 67 Fh)), (h_reserved, .inl (cJ, 23, .inr (.inl f_reserved)))] H := hP
  have hD : va_D A [(h_tape, .inl (cB, 940, .inl f_tape)), (h_h, .inl (cI, 104, .inl f_h)), (h_names, .inl (cJ, 36, .inr (.inl f_names))), (h0, .inr (10, vL 67 Fh)), (h_reserved, .inl (cJ, 23, .inr (.inl f_reserved)))] := hD
  refine W.widen (k := 0) (n := 0) (Nat.le_of_ble_eq_true rfl) (Nat.le_of_ble_eq_true rfl) ?_
  refine lv_if_ne (tgt := 13) hx hb dX10_fresh_4 (by decide) (fun c4 => ?_) (fun c4 => ?_)
  · have dc4 : r1.toInt ≠ 0 := ne_i (a := r1.toInt) (b := 0) rfl rfl c4
    have k5 : 1 ≤ r1.toInt ∧ r1.toInt ≤ 1 := ⟨ne_lo dc4 t2.1 ⟨Int.le_refl _, Int.le_refl _⟩ (by decide), t2.2⟩
    refine lv_aload_n hx hb dX10_fresh_13 rfl (lv_at hl 0 rfl) ?_
    refine lv_bipush (v := 18) hx hb dX10_fresh_14 (by decide) ?_
    refine lv_aload_n hx hb dX10_fresh_16 rfl (lv_at hl 0 rfl) ?_
    refine get_f (D := D) (ci := 10) (v := .ref h_h) (C := RX10) (T := TX10) (N := 67) hx hb hw inAX10 hown hK hP 3 rfl rfl 7 (by decide) (hw _ q_1268) (fun _ h9 => h9) e_h dX10_fresh_17 ?_
    refine lv_iconst (v := 5) hx hb dX10_fresh_20 (by decide) ?_
    refine iald_n hx hb hK hP 1 0 rfl rfl 5 rfl (Nat.le_of_ble_eq_true rfl) (Nat.le_of_ble_eq_true rfl) rfl dX10_fresh_21 ?_
    refine lv_topi (fun v6 ev6 => ?_)
    have k7 : 0 ≤ v6.toInt ∧ v6.toInt ≤ 12 := by rw [ev6]; exact s_h_5.atN 5 (by decide) (by decide)
    refine call_Vi (wr := [(h_tape, .inl (cB, 940, .inl f_tape)), (h_h, .inl (cI, 104, .inl f_h)), (h_reserved, .inl (cJ, 23, .inr (.inl f_reserved)))]) (As := [.int 18, .int v6]) (rest := []) hx hb hml hown hw (m_X10_find l D cI cJ cB cP cM cZ h0 h_names Fh x_word f_names 18 v6 _ e_names e_word (show 0 ≤ (18 : Int32).toInt ∧ (18 : Int32).toInt ≤ 30 by decide) k7 (by have z0 : (18 : Int32).toInt = 18 := rfl; omega)) wV_X10_222_X10_find dX10_fresh_22 hK hP hD hS hA [3, 2] [0, 1, 4] rfl rfl (by decide) (by decide) (by decide) 0 10 rfl rfl GG.fb hG.at hl.1 rfl (Nat.le_of_ble_eq_true rfl) ⟨(Nat.le_of_ble_eq_true rfl), (Nat.le_of_ble_eq_true rfl)⟩ ⟨(Nat.le_of_ble_eq_true rfl), (Nat.le_of_ble_eq_true rfl)⟩ (fun r8 u H locs hp hP hD hS => ?_)
    have zl18 : (18 : Int32).toInt = 18 := by decide
    rcases hp with ⟨t9, rfl, rfl⟩ | ⟨t10, t11, rfl⟩
    · have hP : va_P D vwCl [(h_tape, .inl (cB, 940, .inl f_tape)), (h_h, .inl (cI, 104, .inl f_h)), (h_reserved, .inl (cJ, 23, .inr (.inl f_reserved))), (h0, .inr (10, vL 67 Fh)), (h_names, .inl (cJ, 36, .inr (.inl f_names)))] H := hP
      have hD : va_D A [(h_tape, .inl (cB, 940, .inl f_tape)), (h_h, .inl (cI, 104, .inl f_h)), (h_reserved, .inl (cJ, 23, .inr (.inl f_reserved))), (h0, .inr (10, vL 67 Fh)), (h_names, .inl (cJ, 36, .inr (.inl f_names)))] := hD
      refine W.widen (k := 0) (n := 0) (Nat.le_of_ble_eq_true rfl) (Nat.le_of_ble_eq_true rfl) ?_
      refine lv_if_ge (tgt := 44) hx hb dX10_fresh_25 (by decide) (fun g => absurd g (by decide)) (fun _ => ?_)
      refine lv_aload_n hx hb dX10_fresh_28 rfl (lv_at hl 0 rfl) ?_
      refine lv_bipush (v := 30) hx hb dX10_fresh_29 (by decide) ?_
      refine lv_aload_n hx hb dX10_fresh_31 rfl (lv_at hl 0 rfl) ?_
      refine get_f (D := D) (ci := 10) (v := .ref h_h) (C := RX10) (T := TX10) (N := 67) hx hb hw inAX10 hown hK hP 3 rfl rfl 7 (by decide) (hw _ q_1268) (fun _ h9 => h9) e_h dX10_fresh_32 ?_
      refine lv_bipush (v := 7) hx hb dX10_fresh_35 (by decide) ?_
      refine iald_n hx hb hK hP 1 0 rfl rfl 7 rfl (Nat.le_of_ble_eq_true rfl) (Nat.le_of_ble_eq_true rfl) rfl dX10_fresh_37 ?_
      refine lv_topi (fun v13 ev13 => ?_)
      have k14 : 0 ≤ v13.toInt ∧ v13.toInt ≤ 6 := by rw [ev13]; exact s_h_7.atN 7 (by decide) (by decide)
      refine call_Vi (wr := [(h_tape, .inl (cB, 940, .inl f_tape)), (h_h, .inl (cI, 104, .inl f_h)), (h_reserved, .inl (cJ, 23, .inr (.inl f_reserved)))]) (As := [.int 30, .int v13]) (rest := []) hx hb hml hown hw (m_X10_find l D cI cJ cB cP cM cZ h0 h_names Fh x_word f_names 30 v13 _ e_names e_word (show 0 ≤ (30 : Int32).toInt ∧ (30 : Int32).toInt ≤ 30 by decide) (ir_wk k14 (by decide) (by decide)) (by have z0 : (30 : Int32).toInt = 30 := rfl; omega)) wV_X10_222_X10_find dX10_fresh_38 hK hP hD hS hA [3, 4] [0, 1, 2] rfl rfl (by decide) (by decide) (by decide) 0 10 rfl rfl GG.fb hG.at hl.1 rfl (Nat.le_of_ble_eq_true rfl) ⟨(Nat.le_of_ble_eq_true rfl), (Nat.le_of_ble_eq_true rfl)⟩ ⟨(Nat.le_of_ble_eq_true rfl), (Nat.le_of_ble_eq_true rfl)⟩ (fun r15 u H locs hp hP hD hS => ?_)
      have zl30 : (30 : Int32).toInt = 30 := by decide
      rcases hp with ⟨t16, rfl, rfl⟩ | ⟨t17, t18, rfl⟩
      · have hP : va_P D vwCl [(h_tape, .inl (cB, 940, .inl f_tape)), (h_h, .inl (cI, 104, .inl f_h)), (h_reserved, .inl (cJ, 23, .inr (.inl f_reserved))), (h0, .inr (10, vL 67 Fh)), (h_names, .inl (cJ, 36, .inr (.inl f_names)))] H := hP
        have hD : va_D A [(h_tape, .inl (cB, 940, .inl f_tape)), (h_h, .inl (cI, 104, .inl f_h)), (h_reserved, .inl (cJ, 23, .inr (.inl f_reserved))), (h0, .inr (10, vL 67 Fh)), (h_names, .inl (cJ, 36, .inr (.inl f_names)))] := hD
        refine W.widen (k := 0) (n := 0) (Nat.le_of_ble_eq_true rfl) (Nat.le_of_ble_eq_true rfl) ?_
        refine lv_if_lt (tgt := 50) hx hb dX10_fresh_41 (by decide) (fun _ => ?_) (fun g => absurd (by decide) g)
        refine lv_aload_n hx hb dX10_fresh_50 rfl (lv_at hl 0 rfl) ?_
        refine get_f (D := D) (ci := 10) (v := .ref h_names) (C := RX10) (T := TX10) (N := 67) hx hb hw inAX10 hown hK hP 3 rfl rfl 9 (by decide) (hw _ q_1270) (fun _ h9 => h9) e_names dX10_fresh_51 ?_
        refine lv_iload_n hx hb dX10_fresh_54 rfl (lv_at hl 1 rfl) ?_
        refine lv_aload_n hx hb dX10_fresh_55 rfl (lv_at hl 0 rfl) ?_
        refine get_f (D := D) (ci := 10) (v := .long x_word) (C := RX10) (T := TX10) (N := 67) hx hb hw inAX10 hown hK hP 3 rfl rfl 18 (by decide) (hw _ q_1279) (fun _ h9 => h9) e_word dX10_fresh_56 ?_
        obtain ⟨g20, eg20⟩ : ∃ z : Nat → Int64, vp_updL f_names p0.toNatClampNeg x_word = z := ⟨_, rfl⟩
        refine last_g hx hb hK hP hD hS 4 1 rfl rfl (ix_k i_p0 (by decide) (by decide)) eg20 dX10_fresh_59 (fun H locs hP hD hS => ?_)
        have hP : va_P D vwCl [(h_tape, .inl (cB, 940, .inl f_tape)), (h_h, .inl (cI, 104, .inl f_h)), (h_reserved, .inl (cJ, 23, .inr (.inl f_reserved))), (h0, .inr (10, vL 67 Fh)), (h_names, .inl (cJ, 36, .inr (.inl g20)))] H := hP
        have hD : va_D A [(h_tape, .inl (cB, 940, .inl f_tape)), (h_h, .inl (cI, 104, .inl f_h)), (h_reserved, .inl (cJ, 23, .inr (.inl f_reserved))), (h0, .inr (10, vL 67 Fh)), (h_names, .inl (cJ, 36, .inr (.inl g20)))] := hD
        refine lv_aload_n hx hb dX10_fresh_60 rfl (lv_at hl 0 rfl) ?_
        refine call_Vv (wr := [(h_h, .inl (cI, 104, .inl f_h)), (h_reserved, .inl (cJ, 23, .inr (.inl f_reserved))), (h_names, .inl (cJ, 36, .inr (.inl g20)))]) (As := []) (rest := []) hx hb hml hown hw (m_X10_next l D cI cJ cB cP cM cZ h0 h_tape Fh x_size x_p x_limit x_token x_number x_word f_tape _ e_tape e_size i_x_size e_p i_x_p e_limit i_x_limit e_token i_x_token e_number e_word (by omega)) wV_X10_208_X10_next dX10_fresh_61 hK hP hD hS hA [3, 0] [1, 2, 4] rfl rfl (by decide) (by decide) (by decide) 0 10 rfl rfl GG.fb hG.at hl.1 rfl (Nat.le_of_ble_eq_true rfl) ⟨(Nat.le_of_ble_eq_true rfl), (Nat.le_of_ble_eq_true rfl)⟩ ⟨(Nat.le_of_ble_eq_true rfl), (Nat.le_of_ble_eq_true rfl)⟩ (fun u H locs hp hP hD hS => ?_)
        obtain ⟨F22, y23, y24, y25, y26, y27, y28, t29, t30, t31, t32, t33, t34, t35, t36, t37, t38, t39, t40, t41, t42, rfl⟩ := hp
        have hP : va_P D vwCl [(h_h, .inl (cI, 104, .inl f_h)), (h_reserved, .inl (cJ, 23, .inr (.inl f_reserved))), (h_names, .inl (cJ, 36, .inr (.inl g20))), (h0, .inr (10, vL 67 F22)), (h_tape, .inl (cB, 940, .inl f_tape))] H := hP
        have hD : va_D A [(h_h, .inl (cI, 104, .inl f_h)), (h_reserved, .inl (cJ, 23, .inr (.inl f_reserved))), (h_names, .inl (cJ, 36, .inr (.inl g20))), (h0, .inr (10, vL 67 F22)), (h_tape, .inl (cB, 940, .inl f_tape))] := hD
        refine W.widen (k := 0) (n := 0) (Nat.le_of_ble_eq_true rfl) (Nat.le_of_ble_eq_true rfl) ?_
        refine lv_iconst (v := 1) hx hb dX10_fresh_64 (by decide) ?_
        exact ret_i (v := 1) hx hb hr hlocks hS (hP.sub (ws' := [(h0, .inr (10, vL 67 F22)), (h_tape, .inl (cB, 940, .inl f_tape)), (h_h, .inl (cI, 104, .inl f_h)), (h_names, .inl (cJ, 36, .inr (.inl g20))), (h_reserved, .inl (cJ, 23, .inr (.inl f_reserved)))]) [3, 4, 0, 2, 1] rfl) (hD.sub (ws' := [(h0, .inr (10, vL 67 F22)), (h_tape, .inl (cB, 940, .inl f_tape)), (h_h, .inl (cI, 104, .inl f_h)), (h_names, .inl (cJ, 36, .inr (.inl g20))), (h_reserved, .inl (cJ, 23, .inr (.inl f_reserved)))]) [3, 4, 0, 2, 1] (by decide) rfl) dX10_fresh_65 rfl (Nat.le_of_ble_eq_true rfl) (Nat.le_of_ble_eq_true rfl) ⟨F22, y23, y24, y25, y26, y27, x_fault, x_faultAt, y28, g20, (SAME.tr SAME.rf t29 (by decide)), t30, t31, t32, t33, t34, t36, t38, (SAME.at t29 (by decide) e_fault), (SAME.at t29 (by decide) e_faultAt), t39, (show 0 ≤ (1 : Int32).toInt ∧ (1 : Int32).toInt ≤ 1 by decide), (by have zl1 : (1 : Int32).toInt = 1 := (by decide); omega), (by omega), rfl⟩
      · have hP : va_P D vwCl [(h_tape, .inl (cB, 940, .inl f_tape)), (h_h, .inl (cI, 104, .inl f_h)), (h_reserved, .inl (cJ, 23, .inr (.inl f_reserved))), (h0, .inr (10, vL 67 Fh)), (h_names, .inl (cJ, 36, .inr (.inl f_names)))] H := hP
        have hD : va_D A [(h_tape, .inl (cB, 940, .inl f_tape)), (h_h, .inl (cI, 104, .inl f_h)), (h_reserved, .inl (cJ, 23, .inr (.inl f_reserved))), (h0, .inr (10, vL 67 Fh)), (h_names, .inl (cJ, 36, .inr (.inl f_names)))] := hD
        refine W.widen (k := 0) (n := 0) (Nat.le_of_ble_eq_true rfl) (Nat.le_of_ble_eq_true rfl) ?_
        have k44 : 1 ≤ v13.toInt ∧ v13.toInt ≤ 6 := ⟨lo_lt t18 (Int.le_refl _) (by decide), k14.2⟩
        refine lv_if_lt (tgt := 50) hx hb dX10_fresh_41 (by decide) (fun c45 => False.elim (bad_lt (lt_i (a := r15.toInt) (b := 0) rfl rfl c45) t17.1 (Int.le_refl _) (by decide))) (fun c45 => ?_)
        have dc45 : 0 ≤ r15.toInt := nlt_i (a := r15.toInt) (b := 0) rfl rfl c45
        refine lv_aload_n hx hb dX10_fresh_44 rfl (lv_at hl 0 rfl) ?_
        refine lv_iconst (v := 3) hx hb dX10_fresh_45 (by decide) ?_
        refine call_Vi (wr := [(h_tape, .inl (cB, 940, .inl f_tape)), (h_h, .inl (cI, 104, .inl f_h)), (h_reserved, .inl (cJ, 23, .inr (.inl f_reserved))), (h_names, .inl (cJ, 36, .inr (.inl f_names)))]) (As := [.int 3]) (rest := []) hx hb hml hown hw (m_X10_bad l D cI cJ cB cP cM cZ h0 Fh x_at 3 _ e_at) wV_X10_205_X10_bad dX10_fresh_46 hK hP hD hS hA [3] [0, 1, 2, 4] rfl rfl (by decide) (by decide) (by decide) 0 10 rfl rfl GG.fb hG.at hl.1 rfl (Nat.le_of_ble_eq_true rfl) ⟨(Nat.le_of_ble_eq_true rfl), (Nat.le_of_ble_eq_true rfl)⟩ ⟨(Nat.le_of_ble_eq_true rfl), (Nat.le_of_ble_eq_true rfl)⟩ (fun r46 u H locs hp hP hD hS => ?_)
        have zl3 : (3 : Int32).toInt = 3 := by decide
        obtain ⟨F47, t48, t49, t50, rfl, rfl⟩ := hp
        have hP : va_P D vwCl [(h_tape, .inl (cB, 940, .inl f_tape)), (h_h, .inl (cI, 104, .inl f_h)), (h_reserved, .inl (cJ, 23, .inr (.inl f_reserved))), (h_names, .inl (cJ, 36, .inr (.inl f_names))), (h0, .inr (10, vL 67 F47))] H := hP
        have hD : va_D A [(h_tape, .inl (cB, 940, .inl f_tape)), (h_h, .inl (cI, 104, .inl f_h)), (h_reserved, .inl (cJ, 23, .inr (.inl f_reserved))), (h_names, .inl (cJ, 36, .inr (.inl f_names))), (h0, .inr (10, vL 67 F47))] := hD
        refine W.widen (k := 0) (n := 0) (Nat.le_of_ble_eq_true rfl) (Nat.le_of_ble_eq_true rfl) ?_
        exact ret_i (v := 0) hx hb hr hlocks hS (hP.sub (ws' := [(h0, .inr (10, vL 67 F47)), (h_tape, .inl (cB, 940, .inl f_tape)), (h_h, .inl (cI, 104, .inl f_h)), (h_names, .inl (cJ, 36, .inr (.inl f_names))), (h_reserved, .inl (cJ, 23, .inr (.inl f_reserved)))]) [4, 0, 1, 3, 2] rfl) (hD.sub (ws' := [(h0, .inr (10, vL 67 F47)), (h_tape, .inl (cB, 940, .inl f_tape)), (h_h, .inl (cI, 104, .inl f_h)), (h_names, .inl (cJ, 36, .inr (.inl f_names))), (h_reserved, .inl (cJ, 23, .inr (.inl f_reserved)))]) [4, 0, 1, 3, 2] (by decide) rfl) dX10_fresh_49 rfl (Nat.le_of_ble_eq_true rfl) (Nat.le_of_ble_eq_true rfl) ⟨F47, x_p, x_token, x_at, x_span, x_number, 3, x_at, x_word, f_names, (SAME.tr SAME.rf t48 (by decide)), (SAME.at t48 (by decide) e_p), i_x_p, (SAME.at t48 (by decide) e_token), i_x_token, (SAME.at t48 (by decide) e_at), (SAME.at t48 (by decide) e_span), (SAME.at t48 (by decide) e_number), t49, t50, (SAME.at t48 (by decide) e_word), (show 0 ≤ (0 : Int32).toInt ∧ (0 : Int32).toInt ≤ 1 by decide), (by have zl0 : (0 : Int32).toInt = 0 := (by decide); have zl1 : (1 : Int32).toInt = 1 := (by decide); omega), (by have zl3 : (3 : Int32).toInt = 3 := (by decide); omega), rfl⟩
    · have hP : va_P D vwCl [(h_tape, .inl (cB, 940, .inl f_tape)), (h_h, .inl (cI, 104, .inl f_h)), (h_reserved, .inl (cJ, 23, .inr (.inl f_reserved))), (h0, .inr (10, vL 67 Fh)), (h_names, .inl (cJ, 36, .inr (.inl f_names)))] H := hP
      have hD : va_D A [(h_tape, .inl (cB, 940, .inl f_tape)), (h_h, .inl (cI, 104, .inl f_h)), (h_reserved, .inl (cJ, 23, .inr (.inl f_reserved))), (h0, .inr (10, vL 67 Fh)), (h_names, .inl (cJ, 36, .inr (.inl f_names)))] := hD
      refine W.widen (k := 0) (n := 0) (Nat.le_of_ble_eq_true rfl) (Nat.le_of_ble_eq_true rfl) ?_
      have k52 : 1 ≤ v6.toInt ∧ v6.toInt ≤ 12 := ⟨lo_lt t11 (Int.le_refl _) (by decide), k7.2⟩
      refine lv_if_ge (tgt := 44) hx hb dX10_fresh_25 (by decide) (fun c53 => ?_) (fun c53 => False.elim (bad_lt (nle_i (a := 0) (b := r8.toInt) rfl rfl c53) t10.1 (Int.le_refl _) (by decide)))
      have dc53 : 0 ≤ r8.toInt := le_i (a := 0) (b := r8.toInt) rfl rfl c53
      refine lv_aload_n hx hb dX10_fresh_44 rfl (lv_at hl 0 rfl) ?_
      refine lv_iconst (v := 3) hx hb dX10_fresh_45 (by decide) ?_
      refine call_Vi (wr := [(h_tape, .inl (cB, 940, .inl f_tape)), (h_h, .inl (cI, 104, .inl f_h)), (h_reserved, .inl (cJ, 23, .inr (.inl f_reserved))), (h_names, .inl (cJ, 36, .inr (.inl f_names)))]) (As := [.int 3]) (rest := []) hx hb hml hown hw (m_X10_bad l D cI cJ cB cP cM cZ h0 Fh x_at 3 _ e_at) wV_X10_205_X10_bad dX10_fresh_46 hK hP hD hS hA [3] [0, 1, 2, 4] rfl rfl (by decide) (by decide) (by decide) 0 10 rfl rfl GG.fb hG.at hl.1 rfl (Nat.le_of_ble_eq_true rfl) ⟨(Nat.le_of_ble_eq_true rfl), (Nat.le_of_ble_eq_true rfl)⟩ ⟨(Nat.le_of_ble_eq_true rfl), (Nat.le_of_ble_eq_true rfl)⟩ (fun r54 u H locs hp hP hD hS => ?_)
      have zl3 : (3 : Int32).toInt = 3 := by decide
      obtain ⟨F55, t56, t57, t58, rfl, rfl⟩ := hp
      have hP : va_P D vwCl [(h_tape, .inl (cB, 940, .inl f_tape)), (h_h, .inl (cI, 104, .inl f_h)), (h_reserved, .inl (cJ, 23, .inr (.inl f_reserved))), (h_names, .inl (cJ, 36, .inr (.inl f_names))), (h0, .inr (10, vL 67 F55))] H := hP
      have hD : va_D A [(h_tape, .inl (cB, 940, .inl f_tape)), (h_h, .inl (cI, 104, .inl f_h)), (h_reserved, .inl (cJ, 23, .inr (.inl f_reserved))), (h_names, .inl (cJ, 36, .inr (.inl f_names))), (h0, .inr (10, vL 67 F55))] := hD
      refine W.widen (k := 0) (n := 0) (Nat.le_of_ble_eq_true rfl) (Nat.le_of_ble_eq_true rfl) ?_
      exact ret_i (v := 0) hx hb hr hlocks hS (hP.sub (ws' := [(h0, .inr (10, vL 67 F55)), (h_tape, .inl (cB, 940, .inl f_tape)), (h_h, .inl (cI, 104, .inl f_h)), (h_names, .inl (cJ, 36, .inr (.inl f_names))), (h_reserved, .inl (cJ, 23, .inr (.inl f_reserved)))]) [4, 0, 1, 3, 2] rfl) (hD.sub (ws' := [(h0, .inr (10, vL 67 F55)), (h_tape, .inl (cB, 940, .inl f_tape)), (h_h, .inl (cI, 104, .inl f_h)), (h_names, .inl (cJ, 36, .inr (.inl f_names))), (h_reserved, .inl (cJ, 23, .inr (.inl f_reserved)))]) [4, 0, 1, 3, 2] (by decide) rfl) dX10_fresh_49 rfl (Nat.le_of_ble_eq_true rfl) (Nat.le_of_ble_eq_true rfl) ⟨F55, x_p, x_token, x_at, x_span, x_number, 3, x_at, x_word, f_names, (SAME.tr SAME.rf t56 (by decide)), (SAME.at t56 (by decide) e_p), i_x_p, (SAME.at t56 (by decide) e_token), i_x_token, (SAME.at t56 (by decide) e_at), (SAME.at t56 (by decide) e_span), (SAME.at t56 (by decide) e_number), t57, t58, (SAME.at t56 (by decide) e_word), (show 0 ≤ (0 : Int32).toInt ∧ (0 : Int32).toInt ≤ 1 by decide), (by have zl0 : (0 : Int32).toInt = 0 := (by decide); have zl1 : (1 : Int32).toInt = 1 := (by decide); omega), (by have zl3 : (3 : Int32).toInt = 3 := (by decide); omega), rfl⟩
  · have dc4 : r1.toInt = 0 := eq_i (a := r1.toInt) (b := 0) rfl rfl c4
    have k60 : 0 ≤ r1.toInt ∧ r1.toInt ≤ 0 := ⟨t2.1, Int.le_trans (Int.le_of_eq dc4) (Int.le_refl _)⟩
    refine lv_aload_n hx hb dX10_fresh_7 rfl (lv_at hl 0 rfl) ?_
    refine lv_iconst (v := 1) hx hb dX10_fresh_8 (by decide) ?_
    refine call_Vi (wr := [(h_tape, .inl (cB, 940, .inl f_tape)), (h_h, .inl (cI, 104, .inl f_h)), (h_names, .inl (cJ, 36, .inr (.inl f_names))), (h_reserved, .inl (cJ, 23, .inr (.inl f_reserved)))]) (As := [.int 1]) (rest := []) hx hb hml hown hw (m_X10_bad l D cI cJ cB cP cM cZ h0 Fh x_at 1 _ e_at) wV_X10_205_X10_bad dX10_fresh_9 hK hP hD hS hA [3] [0, 1, 2, 4] rfl rfl (by decide) (by decide) (by decide) 0 10 rfl rfl GG.fb hG.at hl.1 rfl (Nat.le_of_ble_eq_true rfl) ⟨(Nat.le_of_ble_eq_true rfl), (Nat.le_of_ble_eq_true rfl)⟩ ⟨(Nat.le_of_ble_eq_true rfl), (Nat.le_of_ble_eq_true rfl)⟩ (fun r61 u H locs hp hP hD hS => ?_)
    have zl1 : (1 : Int32).toInt = 1 := by decide
    obtain ⟨F62, t63, t64, t65, rfl, rfl⟩ := hp
    have hP : va_P D vwCl [(h_tape, .inl (cB, 940, .inl f_tape)), (h_h, .inl (cI, 104, .inl f_h)), (h_names, .inl (cJ, 36, .inr (.inl f_names))), (h_reserved, .inl (cJ, 23, .inr (.inl f_reserved))), (h0, .inr (10, vL 67 F62))] H := hP
    have hD : va_D A [(h_tape, .inl (cB, 940, .inl f_tape)), (h_h, .inl (cI, 104, .inl f_h)), (h_names, .inl (cJ, 36, .inr (.inl f_names))), (h_reserved, .inl (cJ, 23, .inr (.inl f_reserved))), (h0, .inr (10, vL 67 F62))] := hD
    refine W.widen (k := 0) (n := 0) (Nat.le_of_ble_eq_true rfl) (Nat.le_of_ble_eq_true rfl) ?_
    exact ret_i (v := 0) hx hb hr hlocks hS (hP.sub (ws' := [(h0, .inr (10, vL 67 F62)), (h_tape, .inl (cB, 940, .inl f_tape)), (h_h, .inl (cI, 104, .inl f_h)), (h_names, .inl (cJ, 36, .inr (.inl f_names))), (h_reserved, .inl (cJ, 23, .inr (.inl f_reserved)))]) [4, 0, 1, 2, 3] rfl) (hD.sub (ws' := [(h0, .inr (10, vL 67 F62)), (h_tape, .inl (cB, 940, .inl f_tape)), (h_h, .inl (cI, 104, .inl f_h)), (h_names, .inl (cJ, 36, .inr (.inl f_names))), (h_reserved, .inl (cJ, 23, .inr (.inl f_reserved)))]) [4, 0, 1, 2, 3] (by decide) rfl) dX10_fresh_12 rfl (Nat.le_of_ble_eq_true rfl) (Nat.le_of_ble_eq_true rfl) ⟨F62, x_p, x_token, x_at, x_span, x_number, 1, x_at, x_word, f_names, (SAME.tr SAME.rf t63 (by decide)), (SAME.at t63 (by decide) e_p), i_x_p, (SAME.at t63 (by decide) e_token), i_x_token, (SAME.at t63 (by decide) e_at), (SAME.at t63 (by decide) e_span), (SAME.at t63 (by decide) e_number), t64, t65, (SAME.at t63 (by decide) e_word), (show 0 ≤ (0 : Int32).toInt ∧ (0 : Int32).toInt ≤ 1 by decide), (by have zl0 : (0 : Int32).toInt = 0 := (by decide); have zl1 : (1 : Int32).toInt = 1 := (by decide); omega), (by have zl1 : (1 : Int32).toInt = 1 := (by decide); omega), rfl⟩
set_option maxHeartbeats 4000000 in
set_option maxRecDepth 100000 in
theorem m_X10_onceOf (l : Launch) (D : va_G) (cI cJ cB cP cM cZ : ClassId) (h0 : Nat) (Fh : Nat → Value) (x_token : Int32) (x_number : Int32) (x_word : Int64) (sz : Nat) (e_token : Fh 11 = .int x_token) (i_x_token : IR 0 4 x_token) (e_number : Fh 14 = .int x_number) (e_word : Fh 18 = .long x_word) (o_0 : (x_token.toInt = 2 → 0 ≤ x_number.toInt ∧ x_number.toInt ≤ 999)) : CI l yX10_onceOf cX10_onceOf 1 (some .int) { frames := 1, cells := 0, slots := 0, locals := 22 } (GG D cI cJ cB cP cM cZ) D [(h0, .inr (10, vL 67 Fh))] sz [.ref h0] (fun (r : Int32) (u : va_W) => IR (-1) 4 r ∧ u = [(h0, .inr (10, vL 67 Fh))]) := by
  refine CI_mk (by decide) (Nat.le_of_ble_eq_true rfl) ?_
  intro p e s m below meth c A ls E hAe hG hsz hP hD hA hS hl
  obtain ⟨hx, hb, hr, hw, hown, hlocks, hml, hnm⟩ := E
  have hK := hG.1
  have i_x_token : 0 ≤ x_token.toInt ∧ x_token.toInt ≤ 4 := i_x_token
  have hl : lv_has ls 1 [(0, .ref h0)] := hl
  refine lv_aload_n hx hb dX10_onceOf_0 rfl (lv_at hl 0 rfl) ?_
  refine lv_ldc2 hx hb hown (hw _ q_1234) dX10_onceOf_1 ?_
  refine call_Vi (wr := []) (As := [.long 521325929587]) (rest := []) hx hb hml hown hw (m_X10_isWord l D cI cJ cB cP cM cZ h0 Fh x_token x_number x_word 521325929587 _ e_token i_x_token e_number e_word (by omega)) wV_X10_225_X10_isWord dX10_onceOf_4 hK hP hD hS hA [0] [] rfl rfl (by decide) (by decide) (by decide) 0 10 rfl rfl GG.fb hG.at hl.1 rfl (Nat.le_of_ble_eq_true rfl) ⟨(Nat.le_of_ble_eq_true rfl), (Nat.le_of_ble_eq_true rfl)⟩ ⟨(Nat.le_of_ble_eq_true rfl), (Nat.le_of_ble_eq_true rfl)⟩ (fun r1 u H locs hp hP hD hS => ?_)
  have zl521325929587 : (521325929587 : Int32).toInt = 521325929587 := by decide
  obtain ⟨t2, t3, rfl⟩ := hp
  have hP : va_P D vwCl [(h0, .inr (10, vL 67 Fh))] H := hP
  have hD : va_D A [(h0, .inr (10, vL 67 Fh))] := hD
  refine W.widen (k := 0) (n := 0) (Nat.le_of_ble_eq_true rfl) (Nat.le_of_ble_eq_true rfl) ?_
  refine lv_if_eq (tgt := 14) hx hb dX10_onceOf_7 (by decide) (fun c5 => ?_) (fun c5 => ?_)
  · have dc5 : r1.toInt = 0 := eq_i (a := r1.toInt) (b := 0) rfl rfl c5
    have k6 : 0 ≤ r1.toInt ∧ r1.toInt ≤ 0 := ⟨t2.1, Int.le_trans (Int.le_of_eq dc5) (Int.le_refl _)⟩
    refine lv_aload_n hx hb dX10_onceOf_14 rfl (lv_at hl 0 rfl) ?_
    refine lv_ldc2 hx hb hown (hw _ q_1235) dX10_onceOf_15 ?_
    refine call_Vi (wr := []) (As := [.long 126909394741093]) (rest := []) hx hb hml hown hw (m_X10_isWord l D cI cJ cB cP cM cZ h0 Fh x_token x_number x_word 126909394741093 _ e_token i_x_token e_number e_word (by omega)) wV_X10_225_X10_isWord dX10_onceOf_18 hK hP hD hS hA [0] [] rfl rfl (by decide) (by decide) (by decide) 0 10 rfl rfl GG.fb hG.at hl.1 rfl (Nat.le_of_ble_eq_true rfl) ⟨(Nat.le_of_ble_eq_true rfl), (Nat.le_of_ble_eq_true rfl)⟩ ⟨(Nat.le_of_ble_eq_true rfl), (Nat.le_of_ble_eq_true rfl)⟩ (fun r7 u H locs hp hP hD hS => ?_)
    have zl126909394741093 : (126909394741093 : Int32).toInt = 126909394741093 := by decide
    obtain ⟨t8, t9, rfl⟩ := hp
    have hP : va_P D vwCl [(h0, .inr (10, vL 67 Fh))] H := hP
    have hD : va_D A [(h0, .inr (10, vL 67 Fh))] := hD
    refine W.widen (k := 0) (n := 0) (Nat.le_of_ble_eq_true rfl) (Nat.le_of_ble_eq_true rfl) ?_
    refine lv_if_eq (tgt := 28) hx hb dX10_onceOf_21 (by decide) (fun c11 => ?_) (fun c11 => ?_)
    · have dc11 : r7.toInt = 0 := eq_i (a := r7.toInt) (b := 0) rfl rfl c11
      have k12 : 0 ≤ r7.toInt ∧ r7.toInt ≤ 0 := ⟨t8.1, Int.le_trans (Int.le_of_eq dc11) (Int.le_refl _)⟩
      refine lv_aload_n hx hb dX10_onceOf_28 rfl (lv_at hl 0 rfl) ?_
      refine lv_ldc2 hx hb hown (hw _ q_1236) dX10_onceOf_29 ?_
      refine call_Vi (wr := []) (As := [.long 1836020596]) (rest := []) hx hb hml hown hw (m_X10_isWord l D cI cJ cB cP cM cZ h0 Fh x_token x_number x_word 1836020596 _ e_token i_x_token e_number e_word (by omega)) wV_X10_225_X10_isWord dX10_onceOf_32 hK hP hD hS hA [0] [] rfl rfl (by decide) (by decide) (by decide) 0 10 rfl rfl GG.fb hG.at hl.1 rfl (Nat.le_of_ble_eq_true rfl) ⟨(Nat.le_of_ble_eq_true rfl), (Nat.le_of_ble_eq_true rfl)⟩ ⟨(Nat.le_of_ble_eq_true rfl), (Nat.le_of_ble_eq_true rfl)⟩ (fun r13 u H locs hp hP hD hS => ?_)
      have zl1836020596 : (1836020596 : Int32).toInt = 1836020596 := by decide
      obtain ⟨t14, t15, rfl⟩ := hp
      have hP : va_P D vwCl [(h0, .inr (10, vL 67 Fh))] H := hP
      have hD : va_D A [(h0, .inr (10, vL 67 Fh))] := hD
      refine W.widen (k := 0) (n := 0) (Nat.le_of_ble_eq_true rfl) (Nat.le_of_ble_eq_true rfl) ?_
      refine lv_if_eq (tgt := 42) hx hb dX10_onceOf_35 (by decide) (fun c17 => ?_) (fun c17 => ?_)
      · have dc17 : r13.toInt = 0 := eq_i (a := r13.toInt) (b := 0) rfl rfl c17
        have k18 : 0 ≤ r13.toInt ∧ r13.toInt ≤ 0 := ⟨t14.1, Int.le_trans (Int.le_of_eq dc17) (Int.le_refl _)⟩
        refine lv_aload_n hx hb dX10_onceOf_42 rfl (lv_at hl 0 rfl) ?_
        refine lv_ldc2 hx hb hown (hw _ q_1237) dX10_onceOf_43 ?_
        refine call_Vi (wr := []) (As := [.long 6906725]) (rest := []) hx hb hml hown hw (m_X10_isWord l D cI cJ cB cP cM cZ h0 Fh x_token x_number x_word 6906725 _ e_token i_x_token e_number e_word (by omega)) wV_X10_225_X10_isWord dX10_onceOf_46 hK hP hD hS hA [0] [] rfl rfl (by decide) (by decide) (by decide) 0 10 rfl rfl GG.fb hG.at hl.1 rfl (Nat.le_of_ble_eq_true rfl) ⟨(Nat.le_of_ble_eq_true rfl), (Nat.le_of_ble_eq_true rfl)⟩ ⟨(Nat.le_of_ble_eq_true rfl), (Nat.le_of_ble_eq_true rfl)⟩ (fun r19 u H locs hp hP hD hS => ?_)
        have zl6906725 : (6906725 : Int32).toInt = 6906725 := by decide
        obtain ⟨t20, t21, rfl⟩ := hp
        have hP : va_P D vwCl [(h0, .inr (10, vL 67 Fh))] H := hP
        have hD : va_D A [(h0, .inr (10, vL 67 Fh))] := hD
        refine W.widen (k := 0) (n := 0) (Nat.le_of_ble_eq_true rfl) (Nat.le_of_ble_eq_true rfl) ?_
        refine lv_if_eq (tgt := 56) hx hb dX10_onceOf_49 (by decide) (fun c23 => ?_) (fun c23 => ?_)
        · have dc23 : r19.toInt = 0 := eq_i (a := r19.toInt) (b := 0) rfl rfl c23
          have k24 : 0 ≤ r19.toInt ∧ r19.toInt ≤ 0 := ⟨t20.1, Int.le_trans (Int.le_of_eq dc23) (Int.le_refl _)⟩
          refine lv_aload_n hx hb dX10_onceOf_56 rfl (lv_at hl 0 rfl) ?_
          refine lv_ldc2 hx hb hown (hw _ q_1238) dX10_onceOf_57 ?_
          refine call_Vi (wr := []) (As := [.long 2002874989]) (rest := []) hx hb hml hown hw (m_X10_isWord l D cI cJ cB cP cM cZ h0 Fh x_token x_number x_word 2002874989 _ e_token i_x_token e_number e_word (by omega)) wV_X10_225_X10_isWord dX10_onceOf_60 hK hP hD hS hA [0] [] rfl rfl (by decide) (by decide) (by decide) 0 10 rfl rfl GG.fb hG.at hl.1 rfl (Nat.le_of_ble_eq_true rfl) ⟨(Nat.le_of_ble_eq_true rfl), (Nat.le_of_ble_eq_true rfl)⟩ ⟨(Nat.le_of_ble_eq_true rfl), (Nat.le_of_ble_eq_true rfl)⟩ (fun r25 u H locs hp hP hD hS => ?_)
          have zl2002874989 : (2002874989 : Int32).toInt = 2002874989 := by decide
          obtain ⟨t26, t27, rfl⟩ := hp
          have hP : va_P D vwCl [(h0, .inr (10, vL 67 Fh))] H := hP
          have hD : va_D A [(h0, .inr (10, vL 67 Fh))] := hD
          refine W.widen (k := 0) (n := 0) (Nat.le_of_ble_eq_true rfl) (Nat.le_of_ble_eq_true rfl) ?_
          refine lv_if_eq (tgt := 70) hx hb dX10_onceOf_63 (by decide) (fun c29 => ?_) (fun c29 => ?_)
          · have dc29 : r25.toInt = 0 := eq_i (a := r25.toInt) (b := 0) rfl rfl c29
            have k30 : 0 ≤ r25.toInt ∧ r25.toInt ≤ 0 := ⟨t26.1, Int.le_trans (Int.le_of_eq dc29) (Int.le_refl _)⟩
            refine lv_iconst (v := (-1)) hx hb dX10_onceOf_70 (by decide) ?_
            exact ret_i (v := (-1)) hx hb hr hlocks hS hP hD dX10_onceOf_71 rfl (Nat.le_of_ble_eq_true rfl) (Nat.le_of_ble_eq_true rfl) ⟨(show (-1) ≤ ((-1) : Int32).toInt ∧ ((-1) : Int32).toInt ≤ 4 by decide), rfl⟩
          · have dc29 : r25.toInt ≠ 0 := ne_i (a := r25.toInt) (b := 0) rfl rfl c29
            have k31 : 1 ≤ r25.toInt ∧ r25.toInt ≤ 1 := ⟨ne_lo dc29 t26.1 ⟨Int.le_refl _, Int.le_refl _⟩ (by decide), t26.2⟩
            refine lv_iconst (v := 4) hx hb dX10_onceOf_66 (by decide) ?_
            refine lv_goto (tgt := 71) hx hb dX10_onceOf_67 (by decide) ?_
            exact ret_i (v := 4) hx hb hr hlocks hS hP hD dX10_onceOf_71 rfl (Nat.le_of_ble_eq_true rfl) (Nat.le_of_ble_eq_true rfl) ⟨(show (-1) ≤ (4 : Int32).toInt ∧ (4 : Int32).toInt ≤ 4 by decide), rfl⟩
        · have dc23 : r19.toInt ≠ 0 := ne_i (a := r19.toInt) (b := 0) rfl rfl c23
          have k32 : 1 ≤ r19.toInt ∧ r19.toInt ≤ 1 := ⟨ne_lo dc23 t20.1 ⟨Int.le_refl _, Int.le_refl _⟩ (by decide), t20.2⟩
          refine lv_iconst (v := 3) hx hb dX10_onceOf_52 (by decide) ?_
          refine lv_goto (tgt := 71) hx hb dX10_onceOf_53 (by decide) ?_
          exact ret_i (v := 3) hx hb hr hlocks hS hP hD dX10_onceOf_71 rfl (Nat.le_of_ble_eq_true rfl) (Nat.le_of_ble_eq_true rfl) ⟨(show (-1) ≤ (3 : Int32).toInt ∧ (3 : Int32).toInt ≤ 4 by decide), rfl⟩
      · have dc17 : r13.toInt ≠ 0 := ne_i (a := r13.toInt) (b := 0) rfl rfl c17
        have k33 : 1 ≤ r13.toInt ∧ r13.toInt ≤ 1 := ⟨ne_lo dc17 t14.1 ⟨Int.le_refl _, Int.le_refl _⟩ (by decide), t14.2⟩
        refine lv_iconst (v := 2) hx hb dX10_onceOf_38 (by decide) ?_
        refine lv_goto (tgt := 71) hx hb dX10_onceOf_39 (by decide) ?_
        exact ret_i (v := 2) hx hb hr hlocks hS hP hD dX10_onceOf_71 rfl (Nat.le_of_ble_eq_true rfl) (Nat.le_of_ble_eq_true rfl) ⟨(show (-1) ≤ (2 : Int32).toInt ∧ (2 : Int32).toInt ≤ 4 by decide), rfl⟩
    · have dc11 : r7.toInt ≠ 0 := ne_i (a := r7.toInt) (b := 0) rfl rfl c11
      have k34 : 1 ≤ r7.toInt ∧ r7.toInt ≤ 1 := ⟨ne_lo dc11 t8.1 ⟨Int.le_refl _, Int.le_refl _⟩ (by decide), t8.2⟩
      refine lv_iconst (v := 1) hx hb dX10_onceOf_24 (by decide) ?_
      refine lv_goto (tgt := 71) hx hb dX10_onceOf_25 (by decide) ?_
      exact ret_i (v := 1) hx hb hr hlocks hS hP hD dX10_onceOf_71 rfl (Nat.le_of_ble_eq_true rfl) (Nat.le_of_ble_eq_true rfl) ⟨(show (-1) ≤ (1 : Int32).toInt ∧ (1 : Int32).toInt ≤ 4 by decide), rfl⟩
  · have dc5 : r1.toInt ≠ 0 := ne_i (a := r1.toInt) (b := 0) rfl rfl c5
    have k35 : 1 ≤ r1.toInt ∧ r1.toInt ≤ 1 := ⟨ne_lo dc5 t2.1 ⟨Int.le_refl _, Int.le_refl _⟩ (by decide), t2.2⟩
    refine lv_iconst (v := 0) hx hb dX10_onceOf_10 (by decide) ?_
    refine lv_goto (tgt := 71) hx hb dX10_onceOf_11 (by decide) ?_
    exact ret_i (v := 0) hx hb hr hlocks hS hP hD dX10_onceOf_71 rfl (Nat.le_of_ble_eq_true rfl) (Nat.le_of_ble_eq_true rfl) ⟨(show (-1) ≤ (0 : Int32).toInt ∧ (0 : Int32).toInt ≤ 4 by decide), rfl⟩
set_option maxHeartbeats 4000000 in
set_option maxRecDepth 100000 in
theorem m_X10_isOnce (l : Launch) (D : va_G) (cI cJ cB cP cM cZ : ClassId) (h0 : Nat) (h_tape : Nat) (Fh : Nat → Value) (x_size : Int32) (x_p : Int32) (x_limit : Int32) (x_token : Int32) (x_at : Int32) (x_span : Int32) (x_number : Int32) (x_fault : Int32) (x_faultAt : Int32) (x_word : Int64) (x_onces : Int32) (f_tape : Nat → Int32) (p0 : Int32) (sz : Nat) (e_tape : Fh 1 = .ref h_tape) (e_size : Fh 3 = .int x_size) (i_x_size : IR 0 940 x_size) (e_p : Fh 4 = .int x_p) (i_x_p : IR 0 940 x_p) (e_limit : Fh 5 = .int x_limit) (i_x_limit : IR 200 940 x_limit) (e_token : Fh 11 = .int x_token) (i_x_token : IR 0 4 x_token) (e_at : Fh 12 = .int x_at) (e_span : Fh 13 = .int x_span) (e_number : Fh 14 = .int x_number) (e_fault : Fh 15 = .int x_fault) (e_faultAt : Fh 16 = .int x_faultAt) (e_word : Fh 18 = .long x_word) (e_onces : Fh 21 = .int x_onces) (o_0 : (x_token.toInt = 2 → 0 ≤ x_number.toInt ∧ x_number.toInt ≤ 999)) : CI l yX10_isOnce cX10_isOnce 2 (some .boolean) { frames := 2, cells := 0, slots := 0, locals := 43 } (GG D cI cJ cB cP cM cZ) D [(h0, .inr (10, vL 67 Fh)), (h_tape, .inl (cB, 940, .inl f_tape))] sz [.ref h0, .int p0] (fun (r : Int32) (u : va_W) => ∃ (Gh : Nat → Value) (y_p : Int32) (y_token : Int32) (y_at : Int32) (y_span : Int32) (y_number : Int32) (y_fault : Int32) (y_faultAt : Int32) (y_word : Int64) (y_onces : Int32), SAME [4, 11, 12, 13, 14, 15, 16, 18, 21] Fh Gh ∧ Gh 4 = .int y_p ∧ IR 0 940 y_p ∧ Gh 11 = .int y_token ∧ IR 0 4 y_token ∧ Gh 12 = .int y_at ∧ Gh 13 = .int y_span ∧ Gh 14 = .int y_number ∧ Gh 15 = .int y_fault ∧ Gh 16 = .int y_faultAt ∧ Gh 18 = .long y_word ∧ Gh 21 = .int y_onces ∧ IR 0 1 r ∧ ((r.toInt = 1 → (x_p.toInt ≤ y_p.toInt ∧ (y_token.toInt = 3 → x_p.toInt < y_p.toInt)))) ∧ ((y_token.toInt = 2 → 0 ≤ y_number.toInt ∧ y_number.toInt ≤ 999)) ∧ u = [(h0, .inr (10, vL 67 Gh)), (h_tape, .inl (cB, 940, .inl f_tape))]) := by
  refine CI_mk (by decide) (Nat.le_of_ble_eq_true rfl) ?_
  intro p e s m below meth c A ls E hAe hG hsz hP hD hA hS hl
  obtain ⟨hx, hb, hr, hw, hown, hlocks, hml, hnm⟩ := E
  have hK := hG.1
  have i_x_size : 0 ≤ x_size.toInt ∧ x_size.toInt ≤ 940 := i_x_size
  have i_x_p : 0 ≤ x_p.toInt ∧ x_p.toInt ≤ 940 := i_x_p
  have i_x_limit : 200 ≤ x_limit.toInt ∧ x_limit.toInt ≤ 940 := i_x_limit
  have i_x_token : 0 ≤ x_token.toInt ∧ x_token.toInt ≤ 4 := i_x_token
  have hl : lv_has ls 2 [(0, .ref h0), (1, .int p0)] := hl
  refine lv_aload_n hx hb dX10_isOnce_0 rfl (lv_at hl 0 rfl) ?_
  refine get_f (D := D) (ci := 10) (v := .int x_onces) (C := RX10) (T := TX10) (N := 67) hx hb hw inAX10 hown hK hP 0 rfl rfl 21 (by decide) (hw _ q_1282) (fun _ h9 => h9) e_onces dX10_isOnce_1 ?_
  refine lv_iload_n hx hb dX10_isOnce_4 rfl (lv_at hl 1 rfl) ?_
  refine call_Si (wr := [(h0, .inr (10, vL 67 Fh)), (h_tape, .inl (cB, 940, .inl f_tape))]) (As := [.int x_onces, .int p0]) (rest := []) hx hb hml hown hw (m_X10_bitOf l D cI cJ cB cP cM cZ x_onces p0 _ ) wS_X10_232_X10_bitOf dX10_isOnce_5 hP hD hS hA [] [0, 1] rfl rfl (by decide) (by decide) (by decide) GG.fb hG.at hl.1 rfl (Nat.le_of_ble_eq_true rfl) ⟨(Nat.le_of_ble_eq_true rfl), (Nat.le_of_ble_eq_true rfl)⟩ ⟨(Nat.le_of_ble_eq_true rfl), (Nat.le_of_ble_eq_true rfl)⟩ (fun r1 u H locs hp hP hD hS => ?_)
  rcases hp with ⟨rfl, rfl⟩ | ⟨rfl, rfl⟩
  · have hP : va_P D vwCl [(h0, .inr (10, vL 67 Fh)), (h_tape, .inl (cB, 940, .inl f_tape))] H := hP
    have hD : va_D A [(h0, .inr (10, vL 67 Fh)), (h_tape, .inl (cB, 940, .inl f_tape))] := hD
    refine W.widen (k := 0) (n := 0) (Nat.le_of_ble_eq_true rfl) (Nat.le_of_ble_eq_true rfl) ?_
    refine lv_if_eq (tgt := 17) hx hb dX10_isOnce_8 (by decide) (fun _ => ?_) (fun g => absurd (by decide) g)
    refine lv_aload_n hx hb dX10_isOnce_17 rfl (lv_at hl 0 rfl) ?_
    refine lv_dup hx hb dX10_isOnce_18 rfl ?_
    refine get_f (D := D) (ci := 10) (v := .int x_onces) (C := RX10) (T := TX10) (N := 67) hx hb hw inAX10 hown hK hP 0 rfl rfl 21 (by decide) (hw _ q_1282) (fun _ h9 => h9) e_onces dX10_isOnce_19 ?_
    refine lv_iconst (v := 1) hx hb dX10_isOnce_22 (by decide) ?_
    refine lv_iload_n hx hb dX10_isOnce_23 rfl (lv_at hl 1 rfl) ?_
    refine lv_ishl hx hb dX10_isOnce_24 ?_
    refine lv_topi (fun v3 ev3 => ?_)
    refine lv_ior hx hb dX10_isOnce_25 ?_
    refine lv_topi (fun v4 ev4 => ?_)
    refine put_f (D := D) (ci := 10) (v := .int v4) (ty := .int) (C := RX10) (T := TX10) (N := 67) hx hb hw inAX10 tyX10 tyX10_ok nmX10 hown hK hP hD hS 0 rfl rfl 21 (by decide) (hw _ q_1282) (fun _ h9 => h9) rfl (by decide +kernel) rfl rfl dX10_isOnce_26 (fun H locs F5 eF5 hP hD hS => ?_)
    have hP : va_P D vwCl [(h0, .inr (10, vL 67 F5)), (h_tape, .inl (cB, 940, .inl f_tape))] H := hP
    have hD : va_D A [(h0, .inr (10, vL 67 F5)), (h_tape, .inl (cB, 940, .inl f_tape))] := hD
    refine lv_aload_n hx hb dX10_isOnce_29 rfl (lv_at hl 0 rfl) ?_
    have n6 : F5 1 = .ref h_tape := (get_ne eF5 (by decide) e_tape)
    have n7 : F5 3 = .int x_size := (get_ne eF5 (by decide) e_size)
    have n8 : F5 4 = .int x_p := (get_ne eF5 (by decide) e_p)
    have n9 : F5 5 = .int x_limit := (get_ne eF5 (by decide) e_limit)
    have n10 : F5 11 = .int x_token := (get_ne eF5 (by decide) e_token)
    have n11 : F5 14 = .int x_number := (get_ne eF5 (by decide) e_number)
    have n12 : F5 18 = .long x_word := (get_ne eF5 (by decide) e_word)
    refine call_Vv (wr := []) (As := []) (rest := []) hx hb hml hown hw (m_X10_next l D cI cJ cB cP cM cZ h0 h_tape F5 x_size x_p x_limit x_token x_number x_word f_tape _ n6 n7 i_x_size n8 i_x_p n9 i_x_limit n10 i_x_token n11 n12 (by omega)) wV_X10_208_X10_next dX10_isOnce_30 hK hP hD hS hA [0, 1] [] rfl rfl (by decide) (by decide) (by decide) 0 10 rfl rfl GG.fb hG.at hl.1 rfl (Nat.le_of_ble_eq_true rfl) ⟨(Nat.le_of_ble_eq_true rfl), (Nat.le_of_ble_eq_true rfl)⟩ ⟨(Nat.le_of_ble_eq_true rfl), (Nat.le_of_ble_eq_true rfl)⟩ (fun u H locs hp hP hD hS => ?_)
    obtain ⟨F14, y15, y16, y17, y18, y19, y20, t21, t22, t23, t24, t25, t26, t27, t28, t29, t30, t31, t32, t33, t34, rfl⟩ := hp
    have hP : va_P D vwCl [(h0, .inr (10, vL 67 F14)), (h_tape, .inl (cB, 940, .inl f_tape))] H := hP
    have hD : va_D A [(h0, .inr (10, vL 67 F14)), (h_tape, .inl (cB, 940, .inl f_tape))] := hD
    refine W.widen (k := 0) (n := 0) (Nat.le_of_ble_eq_true rfl) (Nat.le_of_ble_eq_true rfl) ?_
    refine lv_iconst (v := 1) hx hb dX10_isOnce_33 (by decide) ?_
    exact ret_i (v := 1) hx hb hr hlocks hS hP hD dX10_isOnce_34 rfl (Nat.le_of_ble_eq_true rfl) (Nat.le_of_ble_eq_true rfl) ⟨F14, y15, y16, y17, y18, y19, x_fault, x_faultAt, y20, v4, (SAME.tr (SAME.up eF5 SAME.rf (by decide)) t21 (by decide)), t22, t23, t24, t25, t26, t28, t30, (SAME.at t21 (by decide) (get_ne eF5 (by decide) e_fault)), (SAME.at t21 (by decide) (get_ne eF5 (by decide) e_faultAt)), t31, (SAME.at t21 (by decide) (get_eq eF5)), (show 0 ≤ (1 : Int32).toInt ∧ (1 : Int32).toInt ≤ 1 by decide), (by have zl1 : (1 : Int32).toInt = 1 := (by decide); have zl3 : (3 : Int32).toInt = 3 := (by decide); omega), (by omega), rfl⟩
  · have hP : va_P D vwCl [(h0, .inr (10, vL 67 Fh)), (h_tape, .inl (cB, 940, .inl f_tape))] H := hP
    have hD : va_D A [(h0, .inr (10, vL 67 Fh)), (h_tape, .inl (cB, 940, .inl f_tape))] := hD
    refine W.widen (k := 0) (n := 0) (Nat.le_of_ble_eq_true rfl) (Nat.le_of_ble_eq_true rfl) ?_
    refine lv_if_eq (tgt := 17) hx hb dX10_isOnce_8 (by decide) (fun g => absurd g (by decide)) (fun _ => ?_)
    refine lv_aload_n hx hb dX10_isOnce_11 rfl (lv_at hl 0 rfl) ?_
    refine lv_iconst (v := 3) hx hb dX10_isOnce_12 (by decide) ?_
    refine call_Vi (wr := [(h_tape, .inl (cB, 940, .inl f_tape))]) (As := [.int 3]) (rest := []) hx hb hml hown hw (m_X10_bad l D cI cJ cB cP cM cZ h0 Fh x_at 3 _ e_at) wV_X10_205_X10_bad dX10_isOnce_13 hK hP hD hS hA [0] [1] rfl rfl (by decide) (by decide) (by decide) 0 10 rfl rfl GG.fb hG.at hl.1 rfl (Nat.le_of_ble_eq_true rfl) ⟨(Nat.le_of_ble_eq_true rfl), (Nat.le_of_ble_eq_true rfl)⟩ ⟨(Nat.le_of_ble_eq_true rfl), (Nat.le_of_ble_eq_true rfl)⟩ (fun r36 u H locs hp hP hD hS => ?_)
    have zl3 : (3 : Int32).toInt = 3 := by decide
    obtain ⟨F37, t38, t39, t40, rfl, rfl⟩ := hp
    have hP : va_P D vwCl [(h_tape, .inl (cB, 940, .inl f_tape)), (h0, .inr (10, vL 67 F37))] H := hP
    have hD : va_D A [(h_tape, .inl (cB, 940, .inl f_tape)), (h0, .inr (10, vL 67 F37))] := hD
    refine W.widen (k := 0) (n := 0) (Nat.le_of_ble_eq_true rfl) (Nat.le_of_ble_eq_true rfl) ?_
    exact ret_i (v := 0) hx hb hr hlocks hS (hP.sub (ws' := [(h0, .inr (10, vL 67 F37)), (h_tape, .inl (cB, 940, .inl f_tape))]) [1, 0] rfl) (hD.sub (ws' := [(h0, .inr (10, vL 67 F37)), (h_tape, .inl (cB, 940, .inl f_tape))]) [1, 0] (by decide) rfl) dX10_isOnce_16 rfl (Nat.le_of_ble_eq_true rfl) (Nat.le_of_ble_eq_true rfl) ⟨F37, x_p, x_token, x_at, x_span, x_number, 3, x_at, x_word, x_onces, (SAME.tr SAME.rf t38 (by decide)), (SAME.at t38 (by decide) e_p), i_x_p, (SAME.at t38 (by decide) e_token), i_x_token, (SAME.at t38 (by decide) e_at), (SAME.at t38 (by decide) e_span), (SAME.at t38 (by decide) e_number), t39, t40, (SAME.at t38 (by decide) e_word), (SAME.at t38 (by decide) e_onces), (show 0 ≤ (0 : Int32).toInt ∧ (0 : Int32).toInt ≤ 1 by decide), (by have zl0 : (0 : Int32).toInt = 0 := (by decide); have zl3 : (3 : Int32).toInt = 3 := (by decide); omega), (by have zl3 : (3 : Int32).toInt = 3 := (by decide); omega), rfl⟩
set_option maxHeartbeats 4000000 in
set_option maxRecDepth 100000 in
theorem m_X10_line0 (l : Launch) (D : va_G) (cI cJ cB cP cM cZ : ClassId) (h0 : Nat) (h_tape : Nat) (h_h : Nat) (h_names : Nat) (h_reserved : Nat) (Fh : Nat → Value) (x_size : Int32) (x_p : Int32) (x_limit : Int32) (x_token : Int32) (x_at : Int32) (x_span : Int32) (x_number : Int32) (x_fault : Int32) (x_faultAt : Int32) (x_word : Int64) (x_got : Int32) (x_onces : Int32) (f_tape : Nat → Int32) (f_h : Nat → Int32) (f_names : Nat → Int64) (f_reserved : Nat → Int64) (sz : Nat) (e_tape : Fh 1 = .ref h_tape) (e_size : Fh 3 = .int x_size) (i_x_size : IR 0 940 x_size) (e_p : Fh 4 = .int x_p) (i_x_p : IR 0 940 x_p) (e_limit : Fh 5 = .int x_limit) (i_x_limit : IR 200 940 x_limit) (e_h : Fh 7 = .ref h_h) (e_names : Fh 9 = .ref h_names) (e_reserved : Fh 10 = .ref h_reserved) (e_token : Fh 11 = .int x_token) (i_x_token : IR 0 4 x_token) (e_at : Fh 12 = .int x_at) (e_span : Fh 13 = .int x_span) (e_number : Fh 14 = .int x_number) (e_fault : Fh 15 = .int x_fault) (e_faultAt : Fh 16 = .int x_faultAt) (e_word : Fh 18 = .long x_word) (e_got : Fh 19 = .int x_got) (e_onces : Fh 21 = .int x_onces) (s_h_0 : SG 0 0 0 40 f_h) (s_h_44 : SG 44 55 0 9 f_h) (s_h_5 : SG 5 5 0 12 f_h) (s_h_6 : SG 6 6 0 12 f_h) (s_h_7 : SG 7 7 0 6 f_h) (o_0 : (x_token.toInt = 2 → 0 ≤ x_number.toInt ∧ x_number.toInt ≤ 999)) : CI l yX10_line0 cX10_line0 3 (some .boolean) { frames := 3, cells := 0, slots := 0, locals := 65 } (GG D cI cJ cB cP cM cZ) D [(h0, .inr (10, vL 67 Fh)), (h_tape, .inl (cB, 940, .inl f_tape)), (h_h, .inl (cI, 104, .inl f_h)), (h_names, .inl (cJ, 36, .inr (.inl f_names))), (h_reserved, .inl (cJ, 23, .inr (.inl f_reserved)))] sz [.ref h0] (fun (r : Int32) (u : va_W) => ∃ (Gh : Nat → Value) (y_p : Int32) (y_token : Int32) (y_at : Int32) (y_span : Int32) (y_number : Int32) (y_fault : Int32) (y_faultAt : Int32) (y_word : Int64) (y_got : Int32) (y_onces : Int32) (g_h : Nat → Int32) (g_names : Nat → Int64), SAME [4, 11, 12, 13, 14, 15, 16, 18, 19, 21] Fh Gh ∧ Gh 4 = .int y_p ∧ IR 0 940 y_p ∧ Gh 11 = .int y_token ∧ IR 0 4 y_token ∧ Gh 12 = .int y_at ∧ Gh 13 = .int y_span ∧ Gh 14 = .int y_number ∧ Gh 15 = .int y_fault ∧ Gh 16 = .int y_faultAt ∧ Gh 18 = .long y_word ∧ Gh 19 = .int y_got ∧ Gh 21 = .int y_onces ∧ SG 0 0 0 40 g_h ∧ SG 5 5 0 12 g_h ∧ SG 6 6 0 12 g_h ∧ SG 7 7 0 6 g_h ∧ SG 44 55 0 9 g_h ∧ IR 0 1 r ∧ ((r.toInt = 1 → (x_p.toInt ≤ y_p.toInt ∧ (y_token.toInt = 3 → x_p.toInt < y_p.toInt)))) ∧ ((y_token.toInt = 2 → 0 ≤ y_number.toInt ∧ y_number.toInt ≤ 999)) ∧ u = [(h0, .inr (10, vL 67 Gh)), (h_tape, .inl (cB, 940, .inl f_tape)), (h_h, .inl (cI, 104, .inl g_h)), (h_names, .inl (cJ, 36, .inr (.inl g_names))), (h_reserved, .inl (cJ, 23, .inr (.inl f_reserved)))]) := by
  refine CI_mk (by decide) (Nat.le_of_ble_eq_true rfl) ?_
  intro p e s m below meth c A ls E hAe hG hsz hP hD hA hS hl
  obtain ⟨hx, hb, hr, hw, hown, hlocks, hml, hnm⟩ := E
  have hK := hG.1
  have i_x_size : 0 ≤ x_size.toInt ∧ x_size.toInt ≤ 940 := i_x_size
  have i_x_p : 0 ≤ x_p.toInt ∧ x_p.toInt ≤ 940 := i_x_p
  have i_x_limit : 200 ≤ x_limit.toInt ∧ x_limit.toInt ≤ 940 := i_x_limit
  have i_x_token : 0 ≤ x_token.toInt ∧ x_token.toInt ≤ 4 := i_x_token
  have hl : lv_has ls 3 [(0, .ref h0)] := hl
  refine lv_aload_n hx hb dX10_line0_0 rfl (lv_at hl 0 rfl) ?_
  refine call_Vi (wr := [(h_tape, .inl (cB, 940, .inl f_tape)), (h_h, .inl (cI, 104, .inl f_h)), (h_names, .inl (cJ, 36, .inr (.inl f_names))), (h_reserved, .inl (cJ, 23, .inr (.inl f_reserved)))]) (As := []) (rest := []) hx hb hml hown hw (m_X10_onceOf l D cI cJ cB cP cM cZ h0 Fh x_token x_number x_word _ e_token i_x_token e_number e_word (by omega)) wV_X10_236_X10_onceOf dX10_line0_1 hK hP hD hS hA [0] [1, 2, 3, 4] rfl rfl (by decide) (by decide) (by decide) 0 10 rfl rfl GG.fb hG.at hl.1 rfl (Nat.le_of_ble_eq_true rfl) ⟨(Nat.le_of_ble_eq_true rfl), (Nat.le_of_ble_eq_true rfl)⟩ ⟨(Nat.le_of_ble_eq_true rfl), (Nat.le_of_ble_eq_true rfl)⟩ (fun r1 u H locs hp hP hD hS => ?_)
  obtain ⟨t2, rfl⟩ := hp
  have hP : va_P D vwCl [(h_tape, .inl (cB, 940, .inl f_tape)), (h_h, .inl (cI, 104, .inl f_h)), (h_names, .inl (cJ, 36, .inr (.inl f_names))), (h_reserved, .inl (cJ, 23, .inr (.inl f_reserved))), (h0, .inr (10, vL 67 Fh))] H := hP
  have hD : va_D A [(h_tape, .inl (cB, 940, .inl f_tape)), (h_h, .inl (cI, 104, .inl f_h)), (h_names, .inl (cJ, 36, .inr (.inl f_names))), (h_reserved, .inl (cJ, 23, .inr (.inl f_reserved))), (h0, .inr (10, vL 67 Fh))] := hD
  refine W.widen (k := 0) (n := 0) (Nat.le_of_ble_eq_true rfl) (Nat.le_of_ble_eq_true rfl) ?_
  refine lv_istore_n (lv' := [(1, .int r1), (0, .ref h0)]) hx hb dX10_line0_4 rfl hl (by decide) rfl (fun ls hl => ?_)
  refine lv_iload_n hx hb dX10_line0_5 rfl (lv_at hl 0 rfl) ?_
  refine lv_if_lt (tgt := 113) hx hb dX10_line0_6 (by decide) (fun c4 => ?_) (fun c4 => ?_)
  · have dc4 : r1.toInt < 0 := lt_i (a := r1.toInt) (b := 0) rfl rfl c4
    have k5 : (-1) ≤ r1.toInt ∧ r1.toInt ≤ (-1) := ⟨t2.1, up_lt dc4 (Int.le_refl _) (by decide)⟩
    refine lv_aload_n hx hb dX10_line0_113 rfl (lv_at hl 1 rfl) ?_
    refine lv_ldc2 hx hb hown (hw _ q_1239) dX10_line0_114 ?_
    refine call_Vi (wr := [(h_tape, .inl (cB, 940, .inl f_tape)), (h_h, .inl (cI, 104, .inl f_h)), (h_names, .inl (cJ, 36, .inr (.inl f_names))), (h_reserved, .inl (cJ, 23, .inr (.inl f_reserved)))]) (As := [.long 7168366]) (rest := []) hx hb hml hown hw (m_X10_isWord l D cI cJ cB cP cM cZ h0 Fh x_token x_number x_word 7168366 _ e_token i_x_token e_number e_word (by omega)) wV_X10_225_X10_isWord dX10_line0_117 hK hP hD hS hA [4] [0, 1, 2, 3] rfl rfl (by decide) (by decide) (by decide) 0 10 rfl rfl GG.fb hG.at hl.1 rfl (Nat.le_of_ble_eq_true rfl) ⟨(Nat.le_of_ble_eq_true rfl), (Nat.le_of_ble_eq_true rfl)⟩ ⟨(Nat.le_of_ble_eq_true rfl), (Nat.le_of_ble_eq_true rfl)⟩ (fun r6 u H locs hp hP hD hS => ?_)
    have zl7168366 : (7168366 : Int32).toInt = 7168366 := by decide
    obtain ⟨t7, t8, rfl⟩ := hp
    have hP : va_P D vwCl [(h_tape, .inl (cB, 940, .inl f_tape)), (h_h, .inl (cI, 104, .inl f_h)), (h_names, .inl (cJ, 36, .inr (.inl f_names))), (h_reserved, .inl (cJ, 23, .inr (.inl f_reserved))), (h0, .inr (10, vL 67 Fh))] H := hP
    have hD : va_D A [(h_tape, .inl (cB, 940, .inl f_tape)), (h_h, .inl (cI, 104, .inl f_h)), (h_names, .inl (cJ, 36, .inr (.inl f_names))), (h_reserved, .inl (cJ, 23, .inr (.inl f_reserved))), (h0, .inr (10, vL 67 Fh))] := hD
    refine W.widen (k := 0) (n := 0) (Nat.le_of_ble_eq_true rfl) (Nat.le_of_ble_eq_true rfl) ?_
    refine lv_if_eq (tgt := 248) hx hb dX10_line0_120 (by decide) (fun c10 => ?_) (fun c10 => ?_)
    · have dc10 : r6.toInt = 0 := eq_i (a := r6.toInt) (b := 0) rfl rfl c10
      have k11 : 0 ≤ r6.toInt ∧ r6.toInt ≤ 0 := ⟨t7.1, Int.le_trans (Int.le_of_eq dc10) (Int.le_refl _)⟩
      refine lv_aload_n hx hb dX10_line0_248 rfl (lv_at hl 1 rfl) ?_
      refine lv_ldc2 hx hb hown (hw _ q_1240) dX10_line0_249 ?_
      refine call_Vi (wr := [(h_tape, .inl (cB, 940, .inl f_tape)), (h_h, .inl (cI, 104, .inl f_h)), (h_names, .inl (cJ, 36, .inr (.inl f_names))), (h_reserved, .inl (cJ, 23, .inr (.inl f_reserved)))]) (As := [.long 1650814564]) (rest := []) hx hb hml hown hw (m_X10_isWord l D cI cJ cB cP cM cZ h0 Fh x_token x_number x_word 1650814564 _ e_token i_x_token e_number e_word (by omega)) wV_X10_225_X10_isWord dX10_line0_252 hK hP hD hS hA [4] [0, 1, 2, 3] rfl rfl (by decide) (by decide) (by decide) 0 10 rfl rfl GG.fb hG.at hl.1 rfl (Nat.le_of_ble_eq_true rfl) ⟨(Nat.le_of_ble_eq_true rfl), (Nat.le_of_ble_eq_true rfl)⟩ ⟨(Nat.le_of_ble_eq_true rfl), (Nat.le_of_ble_eq_true rfl)⟩ (fun r12 u H locs hp hP hD hS => ?_)
      have zl1650814564 : (1650814564 : Int32).toInt = 1650814564 := by decide
      obtain ⟨t13, t14, rfl⟩ := hp
      have hP : va_P D vwCl [(h_tape, .inl (cB, 940, .inl f_tape)), (h_h, .inl (cI, 104, .inl f_h)), (h_names, .inl (cJ, 36, .inr (.inl f_names))), (h_reserved, .inl (cJ, 23, .inr (.inl f_reserved))), (h0, .inr (10, vL 67 Fh))] H := hP
      have hD : va_D A [(h_tape, .inl (cB, 940, .inl f_tape)), (h_h, .inl (cI, 104, .inl f_h)), (h_names, .inl (cJ, 36, .inr (.inl f_names))), (h_reserved, .inl (cJ, 23, .inr (.inl f_reserved))), (h0, .inr (10, vL 67 Fh))] := hD
      refine W.widen (k := 0) (n := 0) (Nat.le_of_ble_eq_true rfl) (Nat.le_of_ble_eq_true rfl) ?_
      refine lv_if_eq (tgt := 395) hx hb dX10_line0_255 (by decide) (fun c16 => ?_) (fun c16 => ?_)
      · have dc16 : r12.toInt = 0 := eq_i (a := r12.toInt) (b := 0) rfl rfl c16
        have k17 : 0 ≤ r12.toInt ∧ r12.toInt ≤ 0 := ⟨t13.1, Int.le_trans (Int.le_of_eq dc16) (Int.le_refl _)⟩
        refine lv_aload_n hx hb dX10_line0_395 rfl (lv_at hl 1 rfl) ?_
        refine lv_ldc2 hx hb hown (hw _ q_1241) dX10_line0_396 ?_
        refine call_Vi (wr := [(h_tape, .inl (cB, 940, .inl f_tape)), (h_h, .inl (cI, 104, .inl f_h)), (h_names, .inl (cJ, 36, .inr (.inl f_names))), (h_reserved, .inl (cJ, 23, .inr (.inl f_reserved)))]) (As := [.long 125848689468786]) (rest := []) hx hb hml hown hw (m_X10_isWord l D cI cJ cB cP cM cZ h0 Fh x_token x_number x_word 125848689468786 _ e_token i_x_token e_number e_word (by omega)) wV_X10_225_X10_isWord dX10_line0_399 hK hP hD hS hA [4] [0, 1, 2, 3] rfl rfl (by decide) (by decide) (by decide) 0 10 rfl rfl GG.fb hG.at hl.1 rfl (Nat.le_of_ble_eq_true rfl) ⟨(Nat.le_of_ble_eq_true rfl), (Nat.le_of_ble_eq_true rfl)⟩ ⟨(Nat.le_of_ble_eq_true rfl), (Nat.le_of_ble_eq_true rfl)⟩ (fun r18 u H locs hp hP hD hS => ?_)
        have zl125848689468786 : (125848689468786 : Int32).toInt = 125848689468786 := by decide
        obtain ⟨t19, t20, rfl⟩ := hp
        have hP : va_P D vwCl [(h_tape, .inl (cB, 940, .inl f_tape)), (h_h, .inl (cI, 104, .inl f_h)), (h_names, .inl (cJ, 36, .inr (.inl f_names))), (h_reserved, .inl (cJ, 23, .inr (.inl f_reserved))), (h0, .inr (10, vL 67 Fh))] H := hP
        have hD : va_D A [(h_tape, .inl (cB, 940, .inl f_tape)), (h_h, .inl (cI, 104, .inl f_h)), (h_names, .inl (cJ, 36, .inr (.inl f_names))), (h_reserved, .inl (cJ, 23, .inr (.inl f_reserved))), (h0, .inr (10, vL 67 Fh))] := hD
        refine W.widen (k := 0) (n := 0) (Nat.le_of_ble_eq_true rfl) (Nat.le_of_ble_eq_true rfl) ?_
        refine lv_if_ne (tgt := 411) hx hb dX10_line0_402 (by decide) (fun c22 => ?_) (fun c22 => ?_)
        · have dc22 : r18.toInt ≠ 0 := ne_i (a := r18.toInt) (b := 0) rfl rfl c22
          have k23 : 1 ≤ r18.toInt ∧ r18.toInt ≤ 1 := ⟨ne_lo dc22 t19.1 ⟨Int.le_refl _, Int.le_refl _⟩ (by decide), t19.2⟩
          refine lv_aload_n hx hb dX10_line0_411 rfl (lv_at hl 1 rfl) ?_
          refine get_f (D := D) (ci := 10) (v := .ref h_h) (C := RX10) (T := TX10) (N := 67) hx hb hw inAX10 hown hK hP 4 rfl rfl 7 (by decide) (hw _ q_1268) (fun _ h9 => h9) e_h dX10_line0_412 ?_
          refine lv_bipush (v := 7) hx hb dX10_line0_415 (by decide) ?_
          refine iald_n hx hb hK hP 1 0 rfl rfl 7 rfl (Nat.le_of_ble_eq_true rfl) (Nat.le_of_ble_eq_true rfl) rfl dX10_line0_417 ?_
          refine lv_topi (fun v24 ev24 => ?_)
          have k25 : 0 ≤ v24.toInt ∧ v24.toInt ≤ 6 := by rw [ev24]; exact s_h_7.atN 7 (by decide) (by decide)
          refine lv_istore_n (lv' := [(2, .int v24), (1, .int r1), (0, .ref h0)]) hx hb dX10_line0_418 rfl hl (by decide) rfl (fun ls hl => ?_)
          refine lv_iload_n hx hb dX10_line0_419 rfl (lv_at hl 0 rfl) ?_
          refine lv_bipush (v := 6) hx hb dX10_line0_420 (by decide) ?_
          refine lv_icmp_ne (tgt := 431) hx hb dX10_line0_422 (by decide) (fun c26 => ?_) (fun c26 => ?_)
          · have dc26 : v24.toInt ≠ 6 := ne_i (a := v24.toInt) (b := 6) rfl rfl c26
            have k27 : 0 ≤ v24.toInt ∧ v24.toInt ≤ 5 := ⟨k25.1, ne_hi dc26 k25.2 ⟨Int.le_refl _, Int.le_refl _⟩ (by decide)⟩
            refine lv_aload_n hx hb dX10_line0_431 rfl (lv_at hl 2 rfl) ?_
            refine call_Vv (wr := [(h_h, .inl (cI, 104, .inl f_h)), (h_names, .inl (cJ, 36, .inr (.inl f_names))), (h_reserved, .inl (cJ, 23, .inr (.inl f_reserved)))]) (As := []) (rest := []) hx hb hml hown hw (m_X10_next l D cI cJ cB cP cM cZ h0 h_tape Fh x_size x_p x_limit x_token x_number x_word f_tape _ e_tape e_size i_x_size e_p i_x_p e_limit i_x_limit e_token i_x_token e_number e_word (by omega)) wV_X10_208_X10_next dX10_line0_432 hK hP hD hS hA [4, 0] [1, 2, 3] rfl rfl (by decide) (by decide) (by decide) 0 10 rfl rfl GG.fb hG.at hl.1 rfl (Nat.le_of_ble_eq_true rfl) ⟨(Nat.le_of_ble_eq_true rfl), (Nat.le_of_ble_eq_true rfl)⟩ ⟨(Nat.le_of_ble_eq_true rfl), (Nat.le_of_ble_eq_true rfl)⟩ (fun u H locs hp hP hD hS => ?_)
            obtain ⟨F29, y30, y31, y32, y33, y34, y35, t36, t37, t38, t39, t40, t41, t42, t43, t44, t45, t46, t47, t48, t49, rfl⟩ := hp
            have hP : va_P D vwCl [(h_h, .inl (cI, 104, .inl f_h)), (h_names, .inl (cJ, 36, .inr (.inl f_names))), (h_reserved, .inl (cJ, 23, .inr (.inl f_reserved))), (h0, .inr (10, vL 67 F29)), (h_tape, .inl (cB, 940, .inl f_tape))] H := hP
            have hD : va_D A [(h_h, .inl (cI, 104, .inl f_h)), (h_names, .inl (cJ, 36, .inr (.inl f_names))), (h_reserved, .inl (cJ, 23, .inr (.inl f_reserved))), (h0, .inr (10, vL 67 F29)), (h_tape, .inl (cB, 940, .inl f_tape))] := hD
            refine W.widen (k := 0) (n := 0) (Nat.le_of_ble_eq_true rfl) (Nat.le_of_ble_eq_true rfl) ?_
            refine lv_aload_n hx hb dX10_line0_435 rfl (lv_at hl 2 rfl) ?_
            refine lv_bipush (v := 30) hx hb dX10_line0_436 (by decide) ?_
            refine lv_iload_n hx hb dX10_line0_438 rfl (lv_at hl 0 rfl) ?_
            refine lv_iadd hx hb dX10_line0_439 ?_
            refine lv_topi (fun v51 ev51 => ?_)
            have bv51 : v51.toInt = 30 + v24.toInt := by rw [ev51]; exact add_k rfl rfl ⟨Int.le_refl _, Int.le_refl _⟩ k27 (by decide)
            have k52 : 30 ≤ v51.toInt ∧ v51.toInt ≤ 35 := add_r bv51 ⟨Int.le_refl _, Int.le_refl _⟩ k27 (by decide)
            have n53 : F29 1 = .ref h_tape := (SAME.at t36 (by decide) e_tape)
            have n54 : F29 3 = .int x_size := (SAME.at t36 (by decide) e_size)
            have n55 : F29 5 = .int x_limit := (SAME.at t36 (by decide) e_limit)
            have n56 : F29 7 = .ref h_h := (SAME.at t36 (by decide) e_h)
            have n57 : F29 9 = .ref h_names := (SAME.at t36 (by decide) e_names)
            have n58 : F29 10 = .ref h_reserved := (SAME.at t36 (by decide) e_reserved)
            have n59 : F29 15 = .int x_fault := (SAME.at t36 (by decide) e_fault)
            have n60 : F29 16 = .int x_faultAt := (SAME.at t36 (by decide) e_faultAt)
            refine call_Vi (wr := []) (As := [.int v51]) (rest := []) hx hb hml hown hw (m_X10_fresh l D cI cJ cB cP cM cZ h0 h_tape h_h h_names h_reserved F29 x_size y30 x_limit y31 y32 y33 y34 x_fault x_faultAt y35 f_tape f_h f_names f_reserved v51 _ n53 n54 i_x_size t37 t38 n55 i_x_limit n56 n57 n58 t39 t40 t41 t43 t45 n59 n60 t46 s_h_0 s_h_44 s_h_5 s_h_6 s_h_7 (ir_wk k52 (by decide) (by decide)) (by omega)) wV_X10_245_X10_fresh dX10_line0_440 hK hP hD hS hA [3, 4, 0, 1, 2] [] rfl rfl (by decide) (by decide) (by decide) 0 10 rfl rfl GG.fb hG.at hl.1 rfl (Nat.le_of_ble_eq_true rfl) ⟨(Nat.le_of_ble_eq_true rfl), (Nat.le_of_ble_eq_true rfl)⟩ ⟨(Nat.le_of_ble_eq_true rfl), (Nat.le_of_ble_eq_true rfl)⟩ (fun r61 u H locs hp hP hD hS => ?_)
            refine hp.elim (fun F62 h9z => h9z.elim (fun y63 h9z => h9z.elim (fun y64 h9z => h9z.elim (fun y65 h9z => h9z.elim (fun y66 h9z => h9z.elim (fun y67 h9z => h9z.elim (fun y68 h9z => h9z.elim (fun y69 h9z => h9z.elim (fun y70 h9z => h9z.elim (fun g71 h9z => h9z.elim (fun t72 h9z => h9z.elim (fun t73 h9z => h9z.elim (fun t74 h9z => h9z.elim (fun t75 h9z => h9z.elim (fun t76 h9z => h9z.elim (fun t77 h9z => h9z.elim (fun t78 h9z => h9z.elim (fun t79 h9z => h9z.elim (fun t80 h9z => h9z.elim (fun t81 h9z => h9z.elim (fun t82 h9z => h9z.elim (fun t83 h9z => h9z.elim (fun t84 h9z => h9z.elim (fun t85 h9z => ?_))))))))))))))))))))))))
            subst h9z
            have hP : va_P D vwCl [(h0, .inr (10, vL 67 F62)), (h_tape, .inl (cB, 940, .inl f_tape)), (h_h, .inl (cI, 104, .inl f_h)), (h_names, .inl (cJ, 36, .inr (.inl g71))), (h_reserved, .inl (cJ, 23, .inr (.inl f_reserved)))] H := hP
            have hD : va_D A [(h0, .inr (10, vL 67 F62)), (h_tape, .inl (cB, 940, .inl f_tape)), (h_h, .inl (cI, 104, .inl f_h)), (h_names, .inl (cJ, 36, .inr (.inl g71))), (h_reserved, .inl (cJ, 23, .inr (.inl f_reserved)))] := hD
            refine W.widen (k := 0) (n := 0) (Nat.le_of_ble_eq_true rfl) (Nat.le_of_ble_eq_true rfl) ?_
            refine lv_if_ne (tgt := 448) hx hb dX10_line0_443 (by decide) (fun c87 => ?_) (fun c87 => ?_)
            · have dc87 : r61.toInt ≠ 0 := ne_i (a := r61.toInt) (b := 0) rfl rfl c87
              have k88 : 1 ≤ r61.toInt ∧ r61.toInt ≤ 1 := ⟨ne_lo dc87 t83.1 ⟨Int.le_refl _, Int.le_refl _⟩ (by decide), t83.2⟩
              refine lv_aload_n hx hb dX10_line0_448 rfl (lv_at hl 2 rfl) ?_
              refine lv_iconst (v := 0) hx hb dX10_line0_449 (by decide) ?_
              refine lv_bipush (v := 20) hx hb dX10_line0_450 (by decide) ?_
              have n89 : F62 1 = .ref h_tape := (SAME.at t72 (by decide) n53)
              have n90 : F62 3 = .int x_size := (SAME.at t72 (by decide) n54)
              have n91 : F62 5 = .int x_limit := (SAME.at t72 (by decide) n55)
              have n92 : F29 19 = .int x_got := (SAME.at t36 (by decide) e_got)
              have n93 : F62 19 = .int x_got := (SAME.at t72 (by decide) n92)
              refine call_Vi (wr := [(h_h, .inl (cI, 104, .inl f_h)), (h_names, .inl (cJ, 36, .inr (.inl g71))), (h_reserved, .inl (cJ, 23, .inr (.inl f_reserved)))]) (As := [.int 0, .int 20]) (rest := []) hx hb hml hown hw (m_X10_takes l D cI cJ cB cP cM cZ h0 h_tape F62 x_size y63 x_limit y64 y65 y67 y70 x_got f_tape 0 20 _ n89 n90 i_x_size t73 t74 n91 i_x_limit t75 t76 t77 t79 t82 n93 (by omega)) wV_X10_242_X10_takes dX10_line0_452 hK hP hD hS hA [0, 1] [2, 3, 4] rfl rfl (by decide) (by decide) (by decide) 0 10 rfl rfl GG.fb hG.at hl.1 rfl (Nat.le_of_ble_eq_true rfl) ⟨(Nat.le_of_ble_eq_true rfl), (Nat.le_of_ble_eq_true rfl)⟩ ⟨(Nat.le_of_ble_eq_true rfl), (Nat.le_of_ble_eq_true rfl)⟩ (fun r94 u H locs hp hP hD hS => ?_)
              have zl0 : (0 : Int32).toInt = 0 := by decide
              have zl20 : (20 : Int32).toInt = 20 := by decide
              rcases hp with hp | hp
              · obtain ⟨F95, y96, t97, t98, t99, t100, t101, rfl, rfl⟩ := hp
                have hP : va_P D vwCl [(h_h, .inl (cI, 104, .inl f_h)), (h_names, .inl (cJ, 36, .inr (.inl g71))), (h_reserved, .inl (cJ, 23, .inr (.inl f_reserved))), (h0, .inr (10, vL 67 F95)), (h_tape, .inl (cB, 940, .inl f_tape))] H := hP
                have hD : va_D A [(h_h, .inl (cI, 104, .inl f_h)), (h_names, .inl (cJ, 36, .inr (.inl g71))), (h_reserved, .inl (cJ, 23, .inr (.inl f_reserved))), (h0, .inr (10, vL 67 F95)), (h_tape, .inl (cB, 940, .inl f_tape))] := hD
                refine W.widen (k := 0) (n := 0) (Nat.le_of_ble_eq_true rfl) (Nat.le_of_ble_eq_true rfl) ?_
                refine lv_if_ne (tgt := 460) hx hb dX10_line0_455 (by decide) (fun g => absurd (by decide) g) (fun _ => ?_)
                refine lv_iconst (v := 0) hx hb dX10_line0_458 (by decide) ?_
                exact ret_i (v := 0) hx hb hr hlocks hS (hP.sub (ws' := [(h0, .inr (10, vL 67 F95)), (h_tape, .inl (cB, 940, .inl f_tape)), (h_h, .inl (cI, 104, .inl f_h)), (h_names, .inl (cJ, 36, .inr (.inl g71))), (h_reserved, .inl (cJ, 23, .inr (.inl f_reserved)))]) [3, 4, 0, 1, 2] rfl) (hD.sub (ws' := [(h0, .inr (10, vL 67 F95)), (h_tape, .inl (cB, 940, .inl f_tape)), (h_h, .inl (cI, 104, .inl f_h)), (h_names, .inl (cJ, 36, .inr (.inl g71))), (h_reserved, .inl (cJ, 23, .inr (.inl f_reserved)))]) [3, 4, 0, 1, 2] (by decide) rfl) dX10_line0_459 rfl (Nat.le_of_ble_eq_true rfl) (Nat.le_of_ble_eq_true rfl) ⟨F95, y63, y64, y65, y66, y67, y96, y65, y70, x_got, x_onces, f_h, g71, (SAME.tr (SAME.tr (SAME.tr SAME.rf t36 (by decide)) t72 (by decide)) t97 (by decide)), (SAME.at t97 (by decide) t73), t74, (SAME.at t97 (by decide) t75), t76, (SAME.at t97 (by decide) t77), (SAME.at t97 (by decide) t78), (SAME.at t97 (by decide) t79), t98, t100, (SAME.at t97 (by decide) t82), (SAME.at t97 (by decide) n93), (SAME.at t97 (by decide) (SAME.at t72 (by decide) (SAME.at t36 (by decide) e_onces))), s_h_0, s_h_5, s_h_6, s_h_7, s_h_44, (show 0 ≤ (0 : Int32).toInt ∧ (0 : Int32).toInt ≤ 1 by decide), (by have zl0 : (0 : Int32).toInt = 0 := (by decide); omega), (by omega), rfl⟩
              · refine hp.elim (fun F102 h9z => h9z.elim (fun y103 h9z => h9z.elim (fun y104 h9z => h9z.elim (fun y105 h9z => h9z.elim (fun y106 h9z => h9z.elim (fun y107 h9z => h9z.elim (fun y108 h9z => h9z.elim (fun y109 h9z => h9z.elim (fun t110 h9z => h9z.elim (fun t111 h9z => h9z.elim (fun t112 h9z => h9z.elim (fun t113 h9z => h9z.elim (fun t114 h9z => h9z.elim (fun t115 h9z => h9z.elim (fun t116 h9z => h9z.elim (fun t117 h9z => h9z.elim (fun t118 h9z => h9z.elim (fun t119 h9z => h9z.elim (fun t120 h9z => h9z.elim (fun t121 h9z => h9z.elim (fun t122 h9z => h9z.elim (fun t123 h9z => h9z.elim (fun t124 h9z => h9z.elim (fun t125 h9z => h9z.elim (fun t126 h9z => h9z.elim (fun heq925 h9z => ?_))))))))))))))))))))))))))
                subst heq925
                subst h9z
                have hP : va_P D vwCl [(h_h, .inl (cI, 104, .inl f_h)), (h_names, .inl (cJ, 36, .inr (.inl g71))), (h_reserved, .inl (cJ, 23, .inr (.inl f_reserved))), (h0, .inr (10, vL 67 F102)), (h_tape, .inl (cB, 940, .inl f_tape))] H := hP
                have hD : va_D A [(h_h, .inl (cI, 104, .inl f_h)), (h_names, .inl (cJ, 36, .inr (.inl g71))), (h_reserved, .inl (cJ, 23, .inr (.inl f_reserved))), (h0, .inr (10, vL 67 F102)), (h_tape, .inl (cB, 940, .inl f_tape))] := hD
                refine W.widen (k := 0) (n := 0) (Nat.le_of_ble_eq_true rfl) (Nat.le_of_ble_eq_true rfl) ?_
                have k128 : 2 ≤ y64.toInt ∧ y64.toInt ≤ 2 := ⟨Int.le_trans (Int.le_refl _) (Int.le_of_eq t122.symm), Int.le_trans (Int.le_of_eq t122) (Int.le_refl _)⟩
                have k129 : 0 ≤ y67.toInt ∧ y67.toInt ≤ 2147483647 := ⟨Int.le_trans (Int.le_refl _) t123, (ir_any _).2⟩
                have k130 : 0 ≤ y67.toInt ∧ y67.toInt ≤ 20 := ⟨k129.1, Int.le_trans t124 (Int.le_refl _)⟩
                refine lv_if_ne (tgt := 460) hx hb dX10_line0_455 (by decide) (fun _ => ?_) (fun g => absurd g (by decide))
                refine lv_aload_n hx hb dX10_line0_460 rfl (lv_at hl 2 rfl) ?_
                have n131 : F62 7 = .ref h_h := (SAME.at t72 (by decide) n56)
                have n132 : F102 7 = .ref h_h := (SAME.at t110 (by decide) n131)
                refine get_f (D := D) (ci := 10) (v := .ref h_h) (C := RX10) (T := TX10) (N := 67) hx hb hw inAX10 hown hK hP 3 rfl rfl 7 (by decide) (hw _ q_1268) (fun _ h9 => h9) n132 dX10_line0_461 ?_
                refine lv_bipush (v := 92) hx hb dX10_line0_464 (by decide) ?_
                refine lv_iload_n hx hb dX10_line0_466 rfl (lv_at hl 0 rfl) ?_
                refine lv_iadd hx hb dX10_line0_467 ?_
                refine lv_topi (fun v133 ev133 => ?_)
                have bv133 : v133.toInt = 92 + v24.toInt := by rw [ev133]; exact add_k rfl rfl ⟨Int.le_refl _, Int.le_refl _⟩ k27 (by decide)
                have k134 : 92 ≤ v133.toInt ∧ v133.toInt ≤ 97 := add_r bv133 ⟨Int.le_refl _, Int.le_refl _⟩ k27 (by decide)
                refine lv_aload_n hx hb dX10_line0_468 rfl (lv_at hl 2 rfl) ?_
                refine get_f (D := D) (ci := 10) (v := .int y109) (C := RX10) (T := TX10) (N := 67) hx hb hw inAX10 hown hK hP 3 rfl rfl 19 (by decide) (hw _ q_1280) (fun _ h9 => h9) t121 dX10_line0_469 ?_
                obtain ⟨g135, eg135⟩ : ∃ z : Nat → Int32, upd f_h v133.toNatClampNeg y109 = z := ⟨_, rfl⟩
                have r136 : SG 0 0 0 40 g135 := by rw [← eg135]; exact s_h_0.up (Int.le_trans (by decide) k134.1) (Or.inr (Or.inl (dec_lt k134.1 (by decide))))
                have r137 : SG 44 55 0 9 g135 := by rw [← eg135]; exact s_h_44.up (Int.le_trans (by decide) k134.1) (Or.inr (Or.inl (dec_lt k134.1 (by decide))))
                have r138 : SG 5 5 0 12 g135 := by rw [← eg135]; exact s_h_5.up (Int.le_trans (by decide) k134.1) (Or.inr (Or.inl (dec_lt k134.1 (by decide))))
                have r139 : SG 6 6 0 12 g135 := by rw [← eg135]; exact s_h_6.up (Int.le_trans (by decide) k134.1) (Or.inr (Or.inl (dec_lt k134.1 (by decide))))
                have r140 : SG 7 7 0 6 g135 := by rw [← eg135]; exact s_h_7.up (Int.le_trans (by decide) k134.1) (Or.inr (Or.inl (dec_lt k134.1 (by decide))))
                refine iast_g hx hb hK hP hD hS 0 0 rfl rfl (ix_k k134 (by decide) (by decide)) eg135 dX10_line0_472 (fun H locs hP hD hS => ?_)
                have hP : va_P D vwCl [(h_h, .inl (cI, 104, .inl g135)), (h_names, .inl (cJ, 36, .inr (.inl g71))), (h_reserved, .inl (cJ, 23, .inr (.inl f_reserved))), (h0, .inr (10, vL 67 F102)), (h_tape, .inl (cB, 940, .inl f_tape))] H := hP
                have hD : va_D A [(h_h, .inl (cI, 104, .inl g135)), (h_names, .inl (cJ, 36, .inr (.inl g71))), (h_reserved, .inl (cJ, 23, .inr (.inl f_reserved))), (h0, .inr (10, vL 67 F102)), (h_tape, .inl (cB, 940, .inl f_tape))] := hD
                refine lv_aload_n hx hb dX10_line0_473 rfl (lv_at hl 2 rfl) ?_
                refine lv_iconst (v := 0) hx hb dX10_line0_474 (by decide) ?_
                refine lv_bipush (v := 9) hx hb dX10_line0_475 (by decide) ?_
                have n141 : F102 1 = .ref h_tape := (SAME.at t110 (by decide) n89)
                have n142 : F102 3 = .int x_size := (SAME.at t110 (by decide) n90)
                have n143 : F102 5 = .int x_limit := (SAME.at t110 (by decide) n91)
                refine call_Vi (wr := [(h_h, .inl (cI, 104, .inl g135)), (h_names, .inl (cJ, 36, .inr (.inl g71))), (h_reserved, .inl (cJ, 23, .inr (.inl f_reserved)))]) (As := [.int 0, .int 9]) (rest := []) hx hb hml hown hw (m_X10_takes l D cI cJ cB cP cM cZ h0 h_tape F102 x_size y103 x_limit y104 y105 y107 y108 y109 f_tape 0 9 _ n141 n142 i_x_size t111 t112 n143 i_x_limit t113 t114 t115 t119 t120 t121 (by omega)) wV_X10_242_X10_takes dX10_line0_477 hK hP hD hS hA [3, 4] [0, 1, 2] rfl rfl (by decide) (by decide) (by decide) 0 10 rfl rfl GG.fb hG.at hl.1 rfl (Nat.le_of_ble_eq_true rfl) ⟨(Nat.le_of_ble_eq_true rfl), (Nat.le_of_ble_eq_true rfl)⟩ ⟨(Nat.le_of_ble_eq_true rfl), (Nat.le_of_ble_eq_true rfl)⟩ (fun r144 u H locs hp hP hD hS => ?_)
                have zl9 : (9 : Int32).toInt = 9 := by decide
                rcases hp with hp | hp
                · obtain ⟨F145, y146, t147, t148, t149, t150, t151, rfl, rfl⟩ := hp
                  have hP : va_P D vwCl [(h_h, .inl (cI, 104, .inl g135)), (h_names, .inl (cJ, 36, .inr (.inl g71))), (h_reserved, .inl (cJ, 23, .inr (.inl f_reserved))), (h0, .inr (10, vL 67 F145)), (h_tape, .inl (cB, 940, .inl f_tape))] H := hP
                  have hD : va_D A [(h_h, .inl (cI, 104, .inl g135)), (h_names, .inl (cJ, 36, .inr (.inl g71))), (h_reserved, .inl (cJ, 23, .inr (.inl f_reserved))), (h0, .inr (10, vL 67 F145)), (h_tape, .inl (cB, 940, .inl f_tape))] := hD
                  refine W.widen (k := 0) (n := 0) (Nat.le_of_ble_eq_true rfl) (Nat.le_of_ble_eq_true rfl) ?_
                  refine lv_if_ne (tgt := 485) hx hb dX10_line0_480 (by decide) (fun g => absurd (by decide) g) (fun _ => ?_)
                  refine lv_iconst (v := 0) hx hb dX10_line0_483 (by decide) ?_
                  exact ret_i (v := 0) hx hb hr hlocks hS (hP.sub (ws' := [(h0, .inr (10, vL 67 F145)), (h_tape, .inl (cB, 940, .inl f_tape)), (h_h, .inl (cI, 104, .inl g135)), (h_names, .inl (cJ, 36, .inr (.inl g71))), (h_reserved, .inl (cJ, 23, .inr (.inl f_reserved)))]) [3, 4, 0, 1, 2] rfl) (hD.sub (ws' := [(h0, .inr (10, vL 67 F145)), (h_tape, .inl (cB, 940, .inl f_tape)), (h_h, .inl (cI, 104, .inl g135)), (h_names, .inl (cJ, 36, .inr (.inl g71))), (h_reserved, .inl (cJ, 23, .inr (.inl f_reserved)))]) [3, 4, 0, 1, 2] (by decide) rfl) dX10_line0_484 rfl (Nat.le_of_ble_eq_true rfl) (Nat.le_of_ble_eq_true rfl) ⟨F145, y103, y104, y105, y106, y107, y146, y105, y108, y109, x_onces, g135, g71, (SAME.tr (SAME.tr (SAME.tr (SAME.tr SAME.rf t36 (by decide)) t72 (by decide)) t110 (by decide)) t147 (by decide)), (SAME.at t147 (by decide) t111), t112, (SAME.at t147 (by decide) t113), t114, (SAME.at t147 (by decide) t115), (SAME.at t147 (by decide) t117), (SAME.at t147 (by decide) t119), t148, t150, (SAME.at t147 (by decide) t120), (SAME.at t147 (by decide) t121), (SAME.at t147 (by decide) (SAME.at t110 (by decide) (SAME.at t72 (by decide) (SAME.at t36 (by decide) e_onces)))), r136, r138, r139, r140, r137, (show 0 ≤ (0 : Int32).toInt ∧ (0 : Int32).toInt ≤ 1 by decide), (by have zl0 : (0 : Int32).toInt = 0 := (by decide); omega), (by omega), rfl⟩
                · refine hp.elim (fun F152 h9z => h9z.elim (fun y153 h9z => h9z.elim (fun y154 h9z => h9z.elim (fun y155 h9z => h9z.elim (fun y156 h9z => h9z.elim (fun y157 h9z => h9z.elim (fun y158 h9z => h9z.elim (fun y159 h9z => h9z.elim (fun t160 h9z => h9z.elim (fun t161 h9z => h9z.elim (fun t162 h9z => h9z.elim (fun t163 h9z => h9z.elim (fun t164 h9z => h9z.elim (fun t165 h9z => h9z.elim (fun t166 h9z => h9z.elim (fun t167 h9z => h9z.elim (fun t168 h9z => h9z.elim (fun t169 h9z => h9z.elim (fun t170 h9z => h9z.elim (fun t171 h9z => h9z.elim (fun t172 h9z => h9z.elim (fun t173 h9z => h9z.elim (fun t174 h9z => h9z.elim (fun t175 h9z => h9z.elim (fun t176 h9z => h9z.elim (fun heq925 h9z => ?_))))))))))))))))))))))))))
                  subst heq925
                  subst h9z
                  have hP : va_P D vwCl [(h_h, .inl (cI, 104, .inl g135)), (h_names, .inl (cJ, 36, .inr (.inl g71))), (h_reserved, .inl (cJ, 23, .inr (.inl f_reserved))), (h0, .inr (10, vL 67 F152)), (h_tape, .inl (cB, 940, .inl f_tape))] H := hP
                  have hD : va_D A [(h_h, .inl (cI, 104, .inl g135)), (h_names, .inl (cJ, 36, .inr (.inl g71))), (h_reserved, .inl (cJ, 23, .inr (.inl f_reserved))), (h0, .inr (10, vL 67 F152)), (h_tape, .inl (cB, 940, .inl f_tape))] := hD
                  refine W.widen (k := 0) (n := 0) (Nat.le_of_ble_eq_true rfl) (Nat.le_of_ble_eq_true rfl) ?_
                  have k178 : 2 ≤ y104.toInt ∧ y104.toInt ≤ 2 := ⟨Int.le_trans (Int.le_refl _) (Int.le_of_eq t172.symm), Int.le_trans (Int.le_of_eq t172) (Int.le_refl _)⟩
                  have k179 : 0 ≤ y107.toInt ∧ y107.toInt ≤ 2147483647 := ⟨Int.le_trans (Int.le_refl _) t173, (ir_any _).2⟩
                  have k180 : 0 ≤ y107.toInt ∧ y107.toInt ≤ 9 := ⟨k179.1, Int.le_trans t174 (Int.le_refl _)⟩
                  refine lv_if_ne (tgt := 485) hx hb dX10_line0_480 (by decide) (fun _ => ?_) (fun g => absurd g (by decide))
                  refine lv_aload_n hx hb dX10_line0_485 rfl (lv_at hl 2 rfl) ?_
                  have n181 : F152 7 = .ref h_h := (SAME.at t160 (by decide) n132)
                  refine get_f (D := D) (ci := 10) (v := .ref h_h) (C := RX10) (T := TX10) (N := 67) hx hb hw inAX10 hown hK hP 3 rfl rfl 7 (by decide) (hw _ q_1268) (fun _ h9 => h9) n181 dX10_line0_486 ?_
                  refine lv_bipush (v := 98) hx hb dX10_line0_489 (by decide) ?_
                  refine lv_iload_n hx hb dX10_line0_491 rfl (lv_at hl 0 rfl) ?_
                  refine lv_iadd hx hb dX10_line0_492 ?_
                  refine lv_topi (fun v182 ev182 => ?_)
                  have bv182 : v182.toInt = 98 + v24.toInt := by rw [ev182]; exact add_k rfl rfl ⟨Int.le_refl _, Int.le_refl _⟩ k27 (by decide)
                  have k183 : 98 ≤ v182.toInt ∧ v182.toInt ≤ 103 := add_r bv182 ⟨Int.le_refl _, Int.le_refl _⟩ k27 (by decide)
                  refine lv_aload_n hx hb dX10_line0_493 rfl (lv_at hl 2 rfl) ?_
                  refine get_f (D := D) (ci := 10) (v := .int y159) (C := RX10) (T := TX10) (N := 67) hx hb hw inAX10 hown hK hP 3 rfl rfl 19 (by decide) (hw _ q_1280) (fun _ h9 => h9) t171 dX10_line0_494 ?_
                  obtain ⟨g184, eg184⟩ : ∃ z : Nat → Int32, upd g135 v182.toNatClampNeg y159 = z := ⟨_, rfl⟩
                  have r185 : SG 0 0 0 40 g184 := by rw [← eg184]; exact r136.up (Int.le_trans (by decide) k183.1) (Or.inr (Or.inl (dec_lt k183.1 (by decide))))
                  have r186 : SG 44 55 0 9 g184 := by rw [← eg184]; exact r137.up (Int.le_trans (by decide) k183.1) (Or.inr (Or.inl (dec_lt k183.1 (by decide))))
                  have r187 : SG 5 5 0 12 g184 := by rw [← eg184]; exact r138.up (Int.le_trans (by decide) k183.1) (Or.inr (Or.inl (dec_lt k183.1 (by decide))))
                  have r188 : SG 6 6 0 12 g184 := by rw [← eg184]; exact r139.up (Int.le_trans (by decide) k183.1) (Or.inr (Or.inl (dec_lt k183.1 (by decide))))
                  have r189 : SG 7 7 0 6 g184 := by rw [← eg184]; exact r140.up (Int.le_trans (by decide) k183.1) (Or.inr (Or.inl (dec_lt k183.1 (by decide))))
                  refine iast_g hx hb hK hP hD hS 0 0 rfl rfl (ix_k k183 (by decide) (by decide)) eg184 dX10_line0_497 (fun H locs hP hD hS => ?_)
                  have hP : va_P D vwCl [(h_h, .inl (cI, 104, .inl g184)), (h_names, .inl (cJ, 36, .inr (.inl g71))), (h_reserved, .inl (cJ, 23, .inr (.inl f_reserved))), (h0, .inr (10, vL 67 F152)), (h_tape, .inl (cB, 940, .inl f_tape))] H := hP
                  have hD : va_D A [(h_h, .inl (cI, 104, .inl g184)), (h_names, .inl (cJ, 36, .inr (.inl g71))), (h_reserved, .inl (cJ, 23, .inr (.inl f_reserved))), (h0, .inr (10, vL 67 F152)), (h_tape, .inl (cB, 940, .inl f_tape))] := hD
                  refine lv_aload_n hx hb dX10_line0_498 rfl (lv_at hl 2 rfl) ?_
                  refine get_f (D := D) (ci := 10) (v := .ref h_h) (C := RX10) (T := TX10) (N := 67) hx hb hw inAX10 hown hK hP 3 rfl rfl 7 (by decide) (hw _ q_1268) (fun _ h9 => h9) n181 dX10_line0_499 ?_
                  refine lv_bipush (v := 7) hx hb dX10_line0_502 (by decide) ?_
                  refine lv_dup2_11 hx hb dX10_line0_504 rfl rfl ?_
                  refine iald_n hx hb hK hP 0 0 rfl rfl 7 rfl (Nat.le_of_ble_eq_true rfl) (Nat.le_of_ble_eq_true rfl) rfl dX10_line0_505 ?_
                  refine lv_topi (fun v190 ev190 => ?_)
                  have k191 : 0 ≤ v190.toInt ∧ v190.toInt ≤ 6 := by rw [ev190]; exact r189.atN 7 (by decide) (by decide)
                  refine lv_iconst (v := 1) hx hb dX10_line0_506 (by decide) ?_
                  refine lv_iadd hx hb dX10_line0_507 ?_
                  refine lv_topi (fun v192 ev192 => ?_)
                  have bv192 : v192.toInt = v190.toInt + 1 := by rw [ev192]; exact add_k rfl rfl k191 ⟨Int.le_refl _, Int.le_refl _⟩ (by decide)
                  have k193 : 1 ≤ v192.toInt ∧ v192.toInt ≤ 7 := add_r bv192 k191 ⟨Int.le_refl _, Int.le_refl _⟩ (by decide)
                  obtain ⟨g194, eg194⟩ : ∃ z : Nat → Int32, upd g184 7 v192 = z := ⟨_, rfl⟩
                  have r195 : SG 0 0 0 40 g194 := by rw [← eg194]; exact r185.upN (by decide)
                  have r196 : SG 44 55 0 9 g194 := by rw [← eg194]; exact r186.upN (by decide)
                  have r197 : SG 5 5 0 12 g194 := by rw [← eg194]; exact r187.upN (by decide)
                  have r198 : SG 6 6 0 12 g194 := by rw [← eg194]; exact r188.upN (by decide)
                  have r199 : SG 7 7 0 6 g194 := by rw [← eg194]; exact r189.upN (by omega)
                  refine iast_n hx hb hK hP hD hS 0 0 rfl rfl 7 rfl (Nat.le_of_ble_eq_true rfl) (Nat.le_of_ble_eq_true rfl) eg194 dX10_line0_508 (fun H locs hP hD hS => ?_)
                  have hP : va_P D vwCl [(h_h, .inl (cI, 104, .inl g194)), (h_names, .inl (cJ, 36, .inr (.inl g71))), (h_reserved, .inl (cJ, 23, .inr (.inl f_reserved))), (h0, .inr (10, vL 67 F152)), (h_tape, .inl (cB, 940, .inl f_tape))] H := hP
                  have hD : va_D A [(h_h, .inl (cI, 104, .inl g194)), (h_names, .inl (cJ, 36, .inr (.inl g71))), (h_reserved, .inl (cJ, 23, .inr (.inl f_reserved))), (h0, .inr (10, vL 67 F152)), (h_tape, .inl (cB, 940, .inl f_tape))] := hD
                  refine lv_iconst (v := 1) hx hb dX10_line0_509 (by decide) ?_
                  exact ret_i (v := 1) hx hb hr hlocks hS (hP.sub (ws' := [(h0, .inr (10, vL 67 F152)), (h_tape, .inl (cB, 940, .inl f_tape)), (h_h, .inl (cI, 104, .inl g194)), (h_names, .inl (cJ, 36, .inr (.inl g71))), (h_reserved, .inl (cJ, 23, .inr (.inl f_reserved)))]) [3, 4, 0, 1, 2] rfl) (hD.sub (ws' := [(h0, .inr (10, vL 67 F152)), (h_tape, .inl (cB, 940, .inl f_tape)), (h_h, .inl (cI, 104, .inl g194)), (h_names, .inl (cJ, 36, .inr (.inl g71))), (h_reserved, .inl (cJ, 23, .inr (.inl f_reserved)))]) [3, 4, 0, 1, 2] (by decide) rfl) dX10_line0_510 rfl (Nat.le_of_ble_eq_true rfl) (Nat.le_of_ble_eq_true rfl) ⟨F152, y153, y154, y155, y156, y157, y68, y69, y158, y159, x_onces, g194, g71, (SAME.tr (SAME.tr (SAME.tr (SAME.tr SAME.rf t36 (by decide)) t72 (by decide)) t110 (by decide)) t160 (by decide)), t161, t162, t163, t164, t165, t167, t169, (SAME.at t160 (by decide) (SAME.at t110 (by decide) t80)), (SAME.at t160 (by decide) (SAME.at t110 (by decide) t81)), t170, t171, (SAME.at t160 (by decide) (SAME.at t110 (by decide) (SAME.at t72 (by decide) (SAME.at t36 (by decide) e_onces)))), r195, r197, r198, r199, r196, (show 0 ≤ (1 : Int32).toInt ∧ (1 : Int32).toInt ≤ 1 by decide), (by have zl1 : (1 : Int32).toInt = 1 := (by decide); omega), (by omega), rfl⟩
            · have dc87 : r61.toInt = 0 := eq_i (a := r61.toInt) (b := 0) rfl rfl c87
              have k200 : 0 ≤ r61.toInt ∧ r61.toInt ≤ 0 := ⟨t83.1, Int.le_trans (Int.le_of_eq dc87) (Int.le_refl _)⟩
              refine lv_iconst (v := 0) hx hb dX10_line0_446 (by decide) ?_
              exact ret_i (v := 0) hx hb hr hlocks hS hP hD dX10_line0_447 rfl (Nat.le_of_ble_eq_true rfl) (Nat.le_of_ble_eq_true rfl) ⟨F62, y63, y64, y65, y66, y67, y68, y69, y70, x_got, x_onces, f_h, g71, (SAME.tr (SAME.tr SAME.rf t36 (by decide)) t72 (by decide)), t73, t74, t75, t76, t77, t78, t79, t80, t81, t82, (SAME.at t72 (by decide) (SAME.at t36 (by decide) e_got)), (SAME.at t72 (by decide) (SAME.at t36 (by decide) e_onces)), s_h_0, s_h_5, s_h_6, s_h_7, s_h_44, (show 0 ≤ (0 : Int32).toInt ∧ (0 : Int32).toInt ≤ 1 by decide), (by have zl0 : (0 : Int32).toInt = 0 := (by decide); omega), (by omega), rfl⟩
          · have dc26 : v24.toInt = 6 := eq_i (a := v24.toInt) (b := 6) rfl rfl c26
            have k201 : 6 ≤ v24.toInt ∧ v24.toInt ≤ 6 := ⟨Int.le_trans (Int.le_refl _) (Int.le_of_eq dc26.symm), k25.2⟩
            refine lv_aload_n hx hb dX10_line0_425 rfl (lv_at hl 2 rfl) ?_
            refine lv_iconst (v := 4) hx hb dX10_line0_426 (by decide) ?_
            refine call_Vi (wr := [(h_tape, .inl (cB, 940, .inl f_tape)), (h_h, .inl (cI, 104, .inl f_h)), (h_names, .inl (cJ, 36, .inr (.inl f_names))), (h_reserved, .inl (cJ, 23, .inr (.inl f_reserved)))]) (As := [.int 4]) (rest := []) hx hb hml hown hw (m_X10_bad l D cI cJ cB cP cM cZ h0 Fh x_at 4 _ e_at) wV_X10_205_X10_bad dX10_line0_427 hK hP hD hS hA [4] [0, 1, 2, 3] rfl rfl (by decide) (by decide) (by decide) 0 10 rfl rfl GG.fb hG.at hl.1 rfl (Nat.le_of_ble_eq_true rfl) ⟨(Nat.le_of_ble_eq_true rfl), (Nat.le_of_ble_eq_true rfl)⟩ ⟨(Nat.le_of_ble_eq_true rfl), (Nat.le_of_ble_eq_true rfl)⟩ (fun r202 u H locs hp hP hD hS => ?_)
            have zl4 : (4 : Int32).toInt = 4 := by decide
            obtain ⟨F203, t204, t205, t206, rfl, rfl⟩ := hp
            have hP : va_P D vwCl [(h_tape, .inl (cB, 940, .inl f_tape)), (h_h, .inl (cI, 104, .inl f_h)), (h_names, .inl (cJ, 36, .inr (.inl f_names))), (h_reserved, .inl (cJ, 23, .inr (.inl f_reserved))), (h0, .inr (10, vL 67 F203))] H := hP
            have hD : va_D A [(h_tape, .inl (cB, 940, .inl f_tape)), (h_h, .inl (cI, 104, .inl f_h)), (h_names, .inl (cJ, 36, .inr (.inl f_names))), (h_reserved, .inl (cJ, 23, .inr (.inl f_reserved))), (h0, .inr (10, vL 67 F203))] := hD
            refine W.widen (k := 0) (n := 0) (Nat.le_of_ble_eq_true rfl) (Nat.le_of_ble_eq_true rfl) ?_
            exact ret_i (v := 0) hx hb hr hlocks hS (hP.sub (ws' := [(h0, .inr (10, vL 67 F203)), (h_tape, .inl (cB, 940, .inl f_tape)), (h_h, .inl (cI, 104, .inl f_h)), (h_names, .inl (cJ, 36, .inr (.inl f_names))), (h_reserved, .inl (cJ, 23, .inr (.inl f_reserved)))]) [4, 0, 1, 2, 3] rfl) (hD.sub (ws' := [(h0, .inr (10, vL 67 F203)), (h_tape, .inl (cB, 940, .inl f_tape)), (h_h, .inl (cI, 104, .inl f_h)), (h_names, .inl (cJ, 36, .inr (.inl f_names))), (h_reserved, .inl (cJ, 23, .inr (.inl f_reserved)))]) [4, 0, 1, 2, 3] (by decide) rfl) dX10_line0_430 rfl (Nat.le_of_ble_eq_true rfl) (Nat.le_of_ble_eq_true rfl) ⟨F203, x_p, x_token, x_at, x_span, x_number, 4, x_at, x_word, x_got, x_onces, f_h, f_names, (SAME.tr SAME.rf t204 (by decide)), (SAME.at t204 (by decide) e_p), i_x_p, (SAME.at t204 (by decide) e_token), i_x_token, (SAME.at t204 (by decide) e_at), (SAME.at t204 (by decide) e_span), (SAME.at t204 (by decide) e_number), t205, t206, (SAME.at t204 (by decide) e_word), (SAME.at t204 (by decide) e_got), (SAME.at t204 (by decide) e_onces), s_h_0, s_h_5, s_h_6, s_h_7, s_h_44, (show 0 ≤ (0 : Int32).toInt ∧ (0 : Int32).toInt ≤ 1 by decide), (by have zl0 : (0 : Int32).toInt = 0 := (by decide); omega), (by have zl4 : (4 : Int32).toInt = 4 := (by decide); omega), rfl⟩
        · have dc22 : r18.toInt = 0 := eq_i (a := r18.toInt) (b := 0) rfl rfl c22
          have k208 : 0 ≤ r18.toInt ∧ r18.toInt ≤ 0 := ⟨t19.1, Int.le_trans (Int.le_of_eq dc22) (Int.le_refl _)⟩
          refine lv_aload_n hx hb dX10_line0_405 rfl (lv_at hl 1 rfl) ?_
          refine lv_iconst (v := 1) hx hb dX10_line0_406 (by decide) ?_
          refine call_Vi (wr := [(h_tape, .inl (cB, 940, .inl f_tape)), (h_h, .inl (cI, 104, .inl f_h)), (h_names, .inl (cJ, 36, .inr (.inl f_names))), (h_reserved, .inl (cJ, 23, .inr (.inl f_reserved)))]) (As := [.int 1]) (rest := []) hx hb hml hown hw (m_X10_bad l D cI cJ cB cP cM cZ h0 Fh x_at 1 _ e_at) wV_X10_205_X10_bad dX10_line0_407 hK hP hD hS hA [4] [0, 1, 2, 3] rfl rfl (by decide) (by decide) (by decide) 0 10 rfl rfl GG.fb hG.at hl.1 rfl (Nat.le_of_ble_eq_true rfl) ⟨(Nat.le_of_ble_eq_true rfl), (Nat.le_of_ble_eq_true rfl)⟩ ⟨(Nat.le_of_ble_eq_true rfl), (Nat.le_of_ble_eq_true rfl)⟩ (fun r209 u H locs hp hP hD hS => ?_)
          have zl1 : (1 : Int32).toInt = 1 := by decide
          obtain ⟨F210, t211, t212, t213, rfl, rfl⟩ := hp
          have hP : va_P D vwCl [(h_tape, .inl (cB, 940, .inl f_tape)), (h_h, .inl (cI, 104, .inl f_h)), (h_names, .inl (cJ, 36, .inr (.inl f_names))), (h_reserved, .inl (cJ, 23, .inr (.inl f_reserved))), (h0, .inr (10, vL 67 F210))] H := hP
          have hD : va_D A [(h_tape, .inl (cB, 940, .inl f_tape)), (h_h, .inl (cI, 104, .inl f_h)), (h_names, .inl (cJ, 36, .inr (.inl f_names))), (h_reserved, .inl (cJ, 23, .inr (.inl f_reserved))), (h0, .inr (10, vL 67 F210))] := hD
          refine W.widen (k := 0) (n := 0) (Nat.le_of_ble_eq_true rfl) (Nat.le_of_ble_eq_true rfl) ?_
          exact ret_i (v := 0) hx hb hr hlocks hS (hP.sub (ws' := [(h0, .inr (10, vL 67 F210)), (h_tape, .inl (cB, 940, .inl f_tape)), (h_h, .inl (cI, 104, .inl f_h)), (h_names, .inl (cJ, 36, .inr (.inl f_names))), (h_reserved, .inl (cJ, 23, .inr (.inl f_reserved)))]) [4, 0, 1, 2, 3] rfl) (hD.sub (ws' := [(h0, .inr (10, vL 67 F210)), (h_tape, .inl (cB, 940, .inl f_tape)), (h_h, .inl (cI, 104, .inl f_h)), (h_names, .inl (cJ, 36, .inr (.inl f_names))), (h_reserved, .inl (cJ, 23, .inr (.inl f_reserved)))]) [4, 0, 1, 2, 3] (by decide) rfl) dX10_line0_410 rfl (Nat.le_of_ble_eq_true rfl) (Nat.le_of_ble_eq_true rfl) ⟨F210, x_p, x_token, x_at, x_span, x_number, 1, x_at, x_word, x_got, x_onces, f_h, f_names, (SAME.tr SAME.rf t211 (by decide)), (SAME.at t211 (by decide) e_p), i_x_p, (SAME.at t211 (by decide) e_token), i_x_token, (SAME.at t211 (by decide) e_at), (SAME.at t211 (by decide) e_span), (SAME.at t211 (by decide) e_number), t212, t213, (SAME.at t211 (by decide) e_word), (SAME.at t211 (by decide) e_got), (SAME.at t211 (by decide) e_onces), s_h_0, s_h_5, s_h_6, s_h_7, s_h_44, (show 0 ≤ (0 : Int32).toInt ∧ (0 : Int32).toInt ≤ 1 by decide), (by have zl0 : (0 : Int32).toInt = 0 := (by decide); omega), (by have zl1 : (1 : Int32).toInt = 1 := (by decide); omega), rfl⟩
      · have dc16 : r12.toInt ≠ 0 := ne_i (a := r12.toInt) (b := 0) rfl rfl c16
        have k215 : 1 ≤ r12.toInt ∧ r12.toInt ≤ 1 := ⟨ne_lo dc16 t13.1 ⟨Int.le_refl _, Int.le_refl _⟩ (by decide), t13.2⟩
        refine lv_aload_n hx hb dX10_line0_258 rfl (lv_at hl 1 rfl) ?_
        refine get_f (D := D) (ci := 10) (v := .ref h_h) (C := RX10) (T := TX10) (N := 67) hx hb hw inAX10 hown hK hP 4 rfl rfl 7 (by decide) (hw _ q_1268) (fun _ h9 => h9) e_h dX10_line0_259 ?_
        refine lv_bipush (v := 6) hx hb dX10_line0_262 (by decide) ?_
        refine iald_n hx hb hK hP 1 0 rfl rfl 6 rfl (Nat.le_of_ble_eq_true rfl) (Nat.le_of_ble_eq_true rfl) rfl dX10_line0_264 ?_
        refine lv_topi (fun v216 ev216 => ?_)
        have k217 : 0 ≤ v216.toInt ∧ v216.toInt ≤ 12 := by rw [ev216]; exact s_h_6.atN 6 (by decide) (by decide)
        refine lv_istore_n (lv' := [(2, .int v216), (1, .int r1), (0, .ref h0)]) hx hb dX10_line0_265 rfl hl (by decide) rfl (fun ls hl => ?_)
        refine lv_iload_n hx hb dX10_line0_266 rfl (lv_at hl 0 rfl) ?_
        refine lv_bipush (v := 12) hx hb dX10_line0_267 (by decide) ?_
        refine lv_icmp_ne (tgt := 278) hx hb dX10_line0_269 (by decide) (fun c218 => ?_) (fun c218 => ?_)
        · have dc218 : v216.toInt ≠ 12 := ne_i (a := v216.toInt) (b := 12) rfl rfl c218
          have k219 : 0 ≤ v216.toInt ∧ v216.toInt ≤ 11 := ⟨k217.1, ne_hi dc218 k217.2 ⟨Int.le_refl _, Int.le_refl _⟩ (by decide)⟩
          refine lv_aload_n hx hb dX10_line0_278 rfl (lv_at hl 2 rfl) ?_
          refine call_Vv (wr := [(h_h, .inl (cI, 104, .inl f_h)), (h_names, .inl (cJ, 36, .inr (.inl f_names))), (h_reserved, .inl (cJ, 23, .inr (.inl f_reserved)))]) (As := []) (rest := []) hx hb hml hown hw (m_X10_next l D cI cJ cB cP cM cZ h0 h_tape Fh x_size x_p x_limit x_token x_number x_word f_tape _ e_tape e_size i_x_size e_p i_x_p e_limit i_x_limit e_token i_x_token e_number e_word (by omega)) wV_X10_208_X10_next dX10_line0_279 hK hP hD hS hA [4, 0] [1, 2, 3] rfl rfl (by decide) (by decide) (by decide) 0 10 rfl rfl GG.fb hG.at hl.1 rfl (Nat.le_of_ble_eq_true rfl) ⟨(Nat.le_of_ble_eq_true rfl), (Nat.le_of_ble_eq_true rfl)⟩ ⟨(Nat.le_of_ble_eq_true rfl), (Nat.le_of_ble_eq_true rfl)⟩ (fun u H locs hp hP hD hS => ?_)
          obtain ⟨F221, y222, y223, y224, y225, y226, y227, t228, t229, t230, t231, t232, t233, t234, t235, t236, t237, t238, t239, t240, t241, rfl⟩ := hp
          have hP : va_P D vwCl [(h_h, .inl (cI, 104, .inl f_h)), (h_names, .inl (cJ, 36, .inr (.inl f_names))), (h_reserved, .inl (cJ, 23, .inr (.inl f_reserved))), (h0, .inr (10, vL 67 F221)), (h_tape, .inl (cB, 940, .inl f_tape))] H := hP
          have hD : va_D A [(h_h, .inl (cI, 104, .inl f_h)), (h_names, .inl (cJ, 36, .inr (.inl f_names))), (h_reserved, .inl (cJ, 23, .inr (.inl f_reserved))), (h0, .inr (10, vL 67 F221)), (h_tape, .inl (cB, 940, .inl f_tape))] := hD
          refine W.widen (k := 0) (n := 0) (Nat.le_of_ble_eq_true rfl) (Nat.le_of_ble_eq_true rfl) ?_
          refine lv_aload_n hx hb dX10_line0_282 rfl (lv_at hl 2 rfl) ?_
          refine lv_iconst (v := 1) hx hb dX10_line0_283 (by decide) ?_
          refine lv_bipush (v := 9) hx hb dX10_line0_284 (by decide) ?_
          have n243 : F221 1 = .ref h_tape := (SAME.at t228 (by decide) e_tape)
          have n244 : F221 3 = .int x_size := (SAME.at t228 (by decide) e_size)
          have n245 : F221 5 = .int x_limit := (SAME.at t228 (by decide) e_limit)
          have n246 : F221 19 = .int x_got := (SAME.at t228 (by decide) e_got)
          refine call_Vi (wr := [(h_h, .inl (cI, 104, .inl f_h)), (h_names, .inl (cJ, 36, .inr (.inl f_names))), (h_reserved, .inl (cJ, 23, .inr (.inl f_reserved)))]) (As := [.int 1, .int 9]) (rest := []) hx hb hml hown hw (m_X10_takes l D cI cJ cB cP cM cZ h0 h_tape F221 x_size y222 x_limit y223 y224 y226 y227 x_got f_tape 1 9 _ n243 n244 i_x_size t229 t230 n245 i_x_limit t231 t232 t233 t237 t238 n246 (by omega)) wV_X10_242_X10_takes dX10_line0_286 hK hP hD hS hA [3, 4] [0, 1, 2] rfl rfl (by decide) (by decide) (by decide) 0 10 rfl rfl GG.fb hG.at hl.1 rfl (Nat.le_of_ble_eq_true rfl) ⟨(Nat.le_of_ble_eq_true rfl), (Nat.le_of_ble_eq_true rfl)⟩ ⟨(Nat.le_of_ble_eq_true rfl), (Nat.le_of_ble_eq_true rfl)⟩ (fun r247 u H locs hp hP hD hS => ?_)
          have zl1 : (1 : Int32).toInt = 1 := by decide
          have zl9 : (9 : Int32).toInt = 9 := by decide
          rcases hp with hp | hp
          · obtain ⟨F248, y249, t250, t251, t252, t253, t254, rfl, rfl⟩ := hp
            have hP : va_P D vwCl [(h_h, .inl (cI, 104, .inl f_h)), (h_names, .inl (cJ, 36, .inr (.inl f_names))), (h_reserved, .inl (cJ, 23, .inr (.inl f_reserved))), (h0, .inr (10, vL 67 F248)), (h_tape, .inl (cB, 940, .inl f_tape))] H := hP
            have hD : va_D A [(h_h, .inl (cI, 104, .inl f_h)), (h_names, .inl (cJ, 36, .inr (.inl f_names))), (h_reserved, .inl (cJ, 23, .inr (.inl f_reserved))), (h0, .inr (10, vL 67 F248)), (h_tape, .inl (cB, 940, .inl f_tape))] := hD
            refine W.widen (k := 0) (n := 0) (Nat.le_of_ble_eq_true rfl) (Nat.le_of_ble_eq_true rfl) ?_
            refine lv_if_ne (tgt := 294) hx hb dX10_line0_289 (by decide) (fun g => absurd (by decide) g) (fun _ => ?_)
            refine lv_iconst (v := 0) hx hb dX10_line0_292 (by decide) ?_
            exact ret_i (v := 0) hx hb hr hlocks hS (hP.sub (ws' := [(h0, .inr (10, vL 67 F248)), (h_tape, .inl (cB, 940, .inl f_tape)), (h_h, .inl (cI, 104, .inl f_h)), (h_names, .inl (cJ, 36, .inr (.inl f_names))), (h_reserved, .inl (cJ, 23, .inr (.inl f_reserved)))]) [3, 4, 0, 1, 2] rfl) (hD.sub (ws' := [(h0, .inr (10, vL 67 F248)), (h_tape, .inl (cB, 940, .inl f_tape)), (h_h, .inl (cI, 104, .inl f_h)), (h_names, .inl (cJ, 36, .inr (.inl f_names))), (h_reserved, .inl (cJ, 23, .inr (.inl f_reserved)))]) [3, 4, 0, 1, 2] (by decide) rfl) dX10_line0_293 rfl (Nat.le_of_ble_eq_true rfl) (Nat.le_of_ble_eq_true rfl) ⟨F248, y222, y223, y224, y225, y226, y249, y224, y227, x_got, x_onces, f_h, f_names, (SAME.tr (SAME.tr SAME.rf t228 (by decide)) t250 (by decide)), (SAME.at t250 (by decide) t229), t230, (SAME.at t250 (by decide) t231), t232, (SAME.at t250 (by decide) t233), (SAME.at t250 (by decide) t235), (SAME.at t250 (by decide) t237), t251, t253, (SAME.at t250 (by decide) t238), (SAME.at t250 (by decide) n246), (SAME.at t250 (by decide) (SAME.at t228 (by decide) e_onces)), s_h_0, s_h_5, s_h_6, s_h_7, s_h_44, (show 0 ≤ (0 : Int32).toInt ∧ (0 : Int32).toInt ≤ 1 by decide), (by have zl0 : (0 : Int32).toInt = 0 := (by decide); omega), (by omega), rfl⟩
          · refine hp.elim (fun F255 h9z => h9z.elim (fun y256 h9z => h9z.elim (fun y257 h9z => h9z.elim (fun y258 h9z => h9z.elim (fun y259 h9z => h9z.elim (fun y260 h9z => h9z.elim (fun y261 h9z => h9z.elim (fun y262 h9z => h9z.elim (fun t263 h9z => h9z.elim (fun t264 h9z => h9z.elim (fun t265 h9z => h9z.elim (fun t266 h9z => h9z.elim (fun t267 h9z => h9z.elim (fun t268 h9z => h9z.elim (fun t269 h9z => h9z.elim (fun t270 h9z => h9z.elim (fun t271 h9z => h9z.elim (fun t272 h9z => h9z.elim (fun t273 h9z => h9z.elim (fun t274 h9z => h9z.elim (fun t275 h9z => h9z.elim (fun t276 h9z => h9z.elim (fun t277 h9z => h9z.elim (fun t278 h9z => h9z.elim (fun t279 h9z => h9z.elim (fun heq925 h9z => ?_))))))))))))))))))))))))))
            subst heq925
            subst h9z
            have hP : va_P D vwCl [(h_h, .inl (cI, 104, .inl f_h)), (h_names, .inl (cJ, 36, .inr (.inl f_names))), (h_reserved, .inl (cJ, 23, .inr (.inl f_reserved))), (h0, .inr (10, vL 67 F255)), (h_tape, .inl (cB, 940, .inl f_tape))] H := hP
            have hD : va_D A [(h_h, .inl (cI, 104, .inl f_h)), (h_names, .inl (cJ, 36, .inr (.inl f_names))), (h_reserved, .inl (cJ, 23, .inr (.inl f_reserved))), (h0, .inr (10, vL 67 F255)), (h_tape, .inl (cB, 940, .inl f_tape))] := hD
            refine W.widen (k := 0) (n := 0) (Nat.le_of_ble_eq_true rfl) (Nat.le_of_ble_eq_true rfl) ?_
            have k281 : 2 ≤ y223.toInt ∧ y223.toInt ≤ 2 := ⟨Int.le_trans (Int.le_refl _) (Int.le_of_eq t275.symm), Int.le_trans (Int.le_of_eq t275) (Int.le_refl _)⟩
            have k282 : 1 ≤ y226.toInt ∧ y226.toInt ≤ 2147483647 := ⟨Int.le_trans (Int.le_refl _) t276, (ir_any _).2⟩
            have k283 : 1 ≤ y226.toInt ∧ y226.toInt ≤ 9 := ⟨k282.1, Int.le_trans t277 (Int.le_refl _)⟩
            refine lv_if_ne (tgt := 294) hx hb dX10_line0_289 (by decide) (fun _ => ?_) (fun g => absurd g (by decide))
            refine lv_aload_n hx hb dX10_line0_294 rfl (lv_at hl 2 rfl) ?_
            have n284 : F221 7 = .ref h_h := (SAME.at t228 (by decide) e_h)
            have n285 : F255 7 = .ref h_h := (SAME.at t263 (by decide) n284)
            refine get_f (D := D) (ci := 10) (v := .ref h_h) (C := RX10) (T := TX10) (N := 67) hx hb hw inAX10 hown hK hP 3 rfl rfl 7 (by decide) (hw _ q_1268) (fun _ h9 => h9) n285 dX10_line0_295 ?_
            refine lv_bipush (v := 44) hx hb dX10_line0_298 (by decide) ?_
            refine lv_iload_n hx hb dX10_line0_300 rfl (lv_at hl 0 rfl) ?_
            refine lv_iadd hx hb dX10_line0_301 ?_
            refine lv_topi (fun v286 ev286 => ?_)
            have bv286 : v286.toInt = 44 + v216.toInt := by rw [ev286]; exact add_k rfl rfl ⟨Int.le_refl _, Int.le_refl _⟩ k219 (by decide)
            have k287 : 44 ≤ v286.toInt ∧ v286.toInt ≤ 55 := add_r bv286 ⟨Int.le_refl _, Int.le_refl _⟩ k219 (by decide)
            refine lv_aload_n hx hb dX10_line0_302 rfl (lv_at hl 2 rfl) ?_
            refine get_f (D := D) (ci := 10) (v := .int y262) (C := RX10) (T := TX10) (N := 67) hx hb hw inAX10 hown hK hP 3 rfl rfl 19 (by decide) (hw _ q_1280) (fun _ h9 => h9) t274 dX10_line0_303 ?_
            obtain ⟨g288, eg288⟩ : ∃ z : Nat → Int32, upd f_h v286.toNatClampNeg y262 = z := ⟨_, rfl⟩
            have r289 : SG 0 0 0 40 g288 := by rw [← eg288]; exact s_h_0.up (Int.le_trans (by decide) k287.1) (Or.inr (Or.inl (dec_lt k287.1 (by decide))))
            have r290 : SG 44 55 0 9 g288 := by rw [← eg288]; exact s_h_44.up (Int.le_trans (by decide) k287.1) (by omega)
            have r291 : SG 5 5 0 12 g288 := by rw [← eg288]; exact s_h_5.up (Int.le_trans (by decide) k287.1) (Or.inr (Or.inl (dec_lt k287.1 (by decide))))
            have r292 : SG 6 6 0 12 g288 := by rw [← eg288]; exact s_h_6.up (Int.le_trans (by decide) k287.1) (Or.inr (Or.inl (dec_lt k287.1 (by decide))))
            have r293 : SG 7 7 0 6 g288 := by rw [← eg288]; exact s_h_7.up (Int.le_trans (by decide) k287.1) (Or.inr (Or.inl (dec_lt k287.1 (by decide))))
            refine iast_g hx hb hK hP hD hS 0 0 rfl rfl (ix_k k287 (by decide) (by decide)) eg288 dX10_line0_306 (fun H locs hP hD hS => ?_)
            have hP : va_P D vwCl [(h_h, .inl (cI, 104, .inl g288)), (h_names, .inl (cJ, 36, .inr (.inl f_names))), (h_reserved, .inl (cJ, 23, .inr (.inl f_reserved))), (h0, .inr (10, vL 67 F255)), (h_tape, .inl (cB, 940, .inl f_tape))] H := hP
            have hD : va_D A [(h_h, .inl (cI, 104, .inl g288)), (h_names, .inl (cJ, 36, .inr (.inl f_names))), (h_reserved, .inl (cJ, 23, .inr (.inl f_reserved))), (h0, .inr (10, vL 67 F255)), (h_tape, .inl (cB, 940, .inl f_tape))] := hD
            refine lv_aload_n hx hb dX10_line0_307 rfl (lv_at hl 2 rfl) ?_
            refine lv_iconst (v := 0) hx hb dX10_line0_308 (by decide) ?_
            refine lv_bipush (v := 9) hx hb dX10_line0_309 (by decide) ?_
            have n294 : F255 1 = .ref h_tape := (SAME.at t263 (by decide) n243)
            have n295 : F255 3 = .int x_size := (SAME.at t263 (by decide) n244)
            have n296 : F255 5 = .int x_limit := (SAME.at t263 (by decide) n245)
            refine call_Vi (wr := [(h_h, .inl (cI, 104, .inl g288)), (h_names, .inl (cJ, 36, .inr (.inl f_names))), (h_reserved, .inl (cJ, 23, .inr (.inl f_reserved)))]) (As := [.int 0, .int 9]) (rest := []) hx hb hml hown hw (m_X10_takes l D cI cJ cB cP cM cZ h0 h_tape F255 x_size y256 x_limit y257 y258 y260 y261 y262 f_tape 0 9 _ n294 n295 i_x_size t264 t265 n296 i_x_limit t266 t267 t268 t272 t273 t274 (by omega)) wV_X10_242_X10_takes dX10_line0_311 hK hP hD hS hA [3, 4] [0, 1, 2] rfl rfl (by decide) (by decide) (by decide) 0 10 rfl rfl GG.fb hG.at hl.1 rfl (Nat.le_of_ble_eq_true rfl) ⟨(Nat.le_of_ble_eq_true rfl), (Nat.le_of_ble_eq_true rfl)⟩ ⟨(Nat.le_of_ble_eq_true rfl), (Nat.le_of_ble_eq_true rfl)⟩ (fun r297 u H locs hp hP hD hS => ?_)
            have zl0 : (0 : Int32).toInt = 0 := by decide
            rcases hp with hp | hp
            · obtain ⟨F298, y299, t300, t301, t302, t303, t304, rfl, rfl⟩ := hp
              have hP : va_P D vwCl [(h_h, .inl (cI, 104, .inl g288)), (h_names, .inl (cJ, 36, .inr (.inl f_names))), (h_reserved, .inl (cJ, 23, .inr (.inl f_reserved))), (h0, .inr (10, vL 67 F298)), (h_tape, .inl (cB, 940, .inl f_tape))] H := hP
              have hD : va_D A [(h_h, .inl (cI, 104, .inl g288)), (h_names, .inl (cJ, 36, .inr (.inl f_names))), (h_reserved, .inl (cJ, 23, .inr (.inl f_reserved))), (h0, .inr (10, vL 67 F298)), (h_tape, .inl (cB, 940, .inl f_tape))] := hD
              refine W.widen (k := 0) (n := 0) (Nat.le_of_ble_eq_true rfl) (Nat.le_of_ble_eq_true rfl) ?_
              refine lv_if_ne (tgt := 319) hx hb dX10_line0_314 (by decide) (fun g => absurd (by decide) g) (fun _ => ?_)
              refine lv_iconst (v := 0) hx hb dX10_line0_317 (by decide) ?_
              exact ret_i (v := 0) hx hb hr hlocks hS (hP.sub (ws' := [(h0, .inr (10, vL 67 F298)), (h_tape, .inl (cB, 940, .inl f_tape)), (h_h, .inl (cI, 104, .inl g288)), (h_names, .inl (cJ, 36, .inr (.inl f_names))), (h_reserved, .inl (cJ, 23, .inr (.inl f_reserved)))]) [3, 4, 0, 1, 2] rfl) (hD.sub (ws' := [(h0, .inr (10, vL 67 F298)), (h_tape, .inl (cB, 940, .inl f_tape)), (h_h, .inl (cI, 104, .inl g288)), (h_names, .inl (cJ, 36, .inr (.inl f_names))), (h_reserved, .inl (cJ, 23, .inr (.inl f_reserved)))]) [3, 4, 0, 1, 2] (by decide) rfl) dX10_line0_318 rfl (Nat.le_of_ble_eq_true rfl) (Nat.le_of_ble_eq_true rfl) ⟨F298, y256, y257, y258, y259, y260, y299, y258, y261, y262, x_onces, g288, f_names, (SAME.tr (SAME.tr (SAME.tr SAME.rf t228 (by decide)) t263 (by decide)) t300 (by decide)), (SAME.at t300 (by decide) t264), t265, (SAME.at t300 (by decide) t266), t267, (SAME.at t300 (by decide) t268), (SAME.at t300 (by decide) t270), (SAME.at t300 (by decide) t272), t301, t303, (SAME.at t300 (by decide) t273), (SAME.at t300 (by decide) t274), (SAME.at t300 (by decide) (SAME.at t263 (by decide) (SAME.at t228 (by decide) e_onces))), r289, r291, r292, r293, r290, (show 0 ≤ (0 : Int32).toInt ∧ (0 : Int32).toInt ≤ 1 by decide), (by have zl0 : (0 : Int32).toInt = 0 := (by decide); omega), (by omega), rfl⟩
            · refine hp.elim (fun F305 h9z => h9z.elim (fun y306 h9z => h9z.elim (fun y307 h9z => h9z.elim (fun y308 h9z => h9z.elim (fun y309 h9z => h9z.elim (fun y310 h9z => h9z.elim (fun y311 h9z => h9z.elim (fun y312 h9z => h9z.elim (fun t313 h9z => h9z.elim (fun t314 h9z => h9z.elim (fun t315 h9z => h9z.elim (fun t316 h9z => h9z.elim (fun t317 h9z => h9z.elim (fun t318 h9z => h9z.elim (fun t319 h9z => h9z.elim (fun t320 h9z => h9z.elim (fun t321 h9z => h9z.elim (fun t322 h9z => h9z.elim (fun t323 h9z => h9z.elim (fun t324 h9z => h9z.elim (fun t325 h9z => h9z.elim (fun t326 h9z => h9z.elim (fun t327 h9z => h9z.elim (fun t328 h9z => h9z.elim (fun t329 h9z => h9z.elim (fun heq925 h9z => ?_))))))))))))))))))))))))))
              subst heq925
              subst h9z
              have hP : va_P D vwCl [(h_h, .inl (cI, 104, .inl g288)), (h_names, .inl (cJ, 36, .inr (.inl f_names))), (h_reserved, .inl (cJ, 23, .inr (.inl f_reserved))), (h0, .inr (10, vL 67 F305)), (h_tape, .inl (cB, 940, .inl f_tape))] H := hP
              have hD : va_D A [(h_h, .inl (cI, 104, .inl g288)), (h_names, .inl (cJ, 36, .inr (.inl f_names))), (h_reserved, .inl (cJ, 23, .inr (.inl f_reserved))), (h0, .inr (10, vL 67 F305)), (h_tape, .inl (cB, 940, .inl f_tape))] := hD
              refine W.widen (k := 0) (n := 0) (Nat.le_of_ble_eq_true rfl) (Nat.le_of_ble_eq_true rfl) ?_
              have k331 : 2 ≤ y257.toInt ∧ y257.toInt ≤ 2 := ⟨Int.le_trans (Int.le_refl _) (Int.le_of_eq t325.symm), Int.le_trans (Int.le_of_eq t325) (Int.le_refl _)⟩
              have k332 : 0 ≤ y260.toInt ∧ y260.toInt ≤ 2147483647 := ⟨Int.le_trans (Int.le_refl _) t326, (ir_any _).2⟩
              have k333 : 0 ≤ y260.toInt ∧ y260.toInt ≤ 9 := ⟨k332.1, Int.le_trans t327 (Int.le_refl _)⟩
              refine lv_if_ne (tgt := 319) hx hb dX10_line0_314 (by decide) (fun _ => ?_) (fun g => absurd g (by decide))
              refine lv_aload_n hx hb dX10_line0_319 rfl (lv_at hl 2 rfl) ?_
              have n334 : F305 7 = .ref h_h := (SAME.at t313 (by decide) n285)
              refine get_f (D := D) (ci := 10) (v := .ref h_h) (C := RX10) (T := TX10) (N := 67) hx hb hw inAX10 hown hK hP 3 rfl rfl 7 (by decide) (hw _ q_1268) (fun _ h9 => h9) n334 dX10_line0_320 ?_
              refine lv_bipush (v := 56) hx hb dX10_line0_323 (by decide) ?_
              refine lv_iload_n hx hb dX10_line0_325 rfl (lv_at hl 0 rfl) ?_
              refine lv_iadd hx hb dX10_line0_326 ?_
              refine lv_topi (fun v335 ev335 => ?_)
              have bv335 : v335.toInt = 56 + v216.toInt := by rw [ev335]; exact add_k rfl rfl ⟨Int.le_refl _, Int.le_refl _⟩ k219 (by decide)
              have k336 : 56 ≤ v335.toInt ∧ v335.toInt ≤ 67 := add_r bv335 ⟨Int.le_refl _, Int.le_refl _⟩ k219 (by decide)
              refine lv_aload_n hx hb dX10_line0_327 rfl (lv_at hl 2 rfl) ?_
              refine get_f (D := D) (ci := 10) (v := .int y312) (C := RX10) (T := TX10) (N := 67) hx hb hw inAX10 hown hK hP 3 rfl rfl 19 (by decide) (hw _ q_1280) (fun _ h9 => h9) t324 dX10_line0_328 ?_
              obtain ⟨g337, eg337⟩ : ∃ z : Nat → Int32, upd g288 v335.toNatClampNeg y312 = z := ⟨_, rfl⟩
              have r338 : SG 0 0 0 40 g337 := by rw [← eg337]; exact r289.up (Int.le_trans (by decide) k336.1) (Or.inr (Or.inl (dec_lt k336.1 (by decide))))
              have r339 : SG 44 55 0 9 g337 := by rw [← eg337]; exact r290.up (Int.le_trans (by decide) k336.1) (Or.inr (Or.inl (dec_lt k336.1 (by decide))))
              have r340 : SG 5 5 0 12 g337 := by rw [← eg337]; exact r291.up (Int.le_trans (by decide) k336.1) (Or.inr (Or.inl (dec_lt k336.1 (by decide))))
              have r341 : SG 6 6 0 12 g337 := by rw [← eg337]; exact r292.up (Int.le_trans (by decide) k336.1) (Or.inr (Or.inl (dec_lt k336.1 (by decide))))
              have r342 : SG 7 7 0 6 g337 := by rw [← eg337]; exact r293.up (Int.le_trans (by decide) k336.1) (Or.inr (Or.inl (dec_lt k336.1 (by decide))))
              refine iast_g hx hb hK hP hD hS 0 0 rfl rfl (ix_k k336 (by decide) (by decide)) eg337 dX10_line0_331 (fun H locs hP hD hS => ?_)
              have hP : va_P D vwCl [(h_h, .inl (cI, 104, .inl g337)), (h_names, .inl (cJ, 36, .inr (.inl f_names))), (h_reserved, .inl (cJ, 23, .inr (.inl f_reserved))), (h0, .inr (10, vL 67 F305)), (h_tape, .inl (cB, 940, .inl f_tape))] H := hP
              have hD : va_D A [(h_h, .inl (cI, 104, .inl g337)), (h_names, .inl (cJ, 36, .inr (.inl f_names))), (h_reserved, .inl (cJ, 23, .inr (.inl f_reserved))), (h0, .inr (10, vL 67 F305)), (h_tape, .inl (cB, 940, .inl f_tape))] := hD
              refine lv_aload_n hx hb dX10_line0_332 rfl (lv_at hl 2 rfl) ?_
              refine lv_iconst (v := 0) hx hb dX10_line0_333 (by decide) ?_
              refine lv_bipush (v := 9) hx hb dX10_line0_334 (by decide) ?_
              have n343 : F305 1 = .ref h_tape := (SAME.at t313 (by decide) n294)
              have n344 : F305 3 = .int x_size := (SAME.at t313 (by decide) n295)
              have n345 : F305 5 = .int x_limit := (SAME.at t313 (by decide) n296)
              refine call_Vi (wr := [(h_h, .inl (cI, 104, .inl g337)), (h_names, .inl (cJ, 36, .inr (.inl f_names))), (h_reserved, .inl (cJ, 23, .inr (.inl f_reserved)))]) (As := [.int 0, .int 9]) (rest := []) hx hb hml hown hw (m_X10_takes l D cI cJ cB cP cM cZ h0 h_tape F305 x_size y306 x_limit y307 y308 y310 y311 y312 f_tape 0 9 _ n343 n344 i_x_size t314 t315 n345 i_x_limit t316 t317 t318 t322 t323 t324 (by omega)) wV_X10_242_X10_takes dX10_line0_336 hK hP hD hS hA [3, 4] [0, 1, 2] rfl rfl (by decide) (by decide) (by decide) 0 10 rfl rfl GG.fb hG.at hl.1 rfl (Nat.le_of_ble_eq_true rfl) ⟨(Nat.le_of_ble_eq_true rfl), (Nat.le_of_ble_eq_true rfl)⟩ ⟨(Nat.le_of_ble_eq_true rfl), (Nat.le_of_ble_eq_true rfl)⟩ (fun r346 u H locs hp hP hD hS => ?_)
              rcases hp with hp | hp
              · obtain ⟨F347, y348, t349, t350, t351, t352, t353, rfl, rfl⟩ := hp
                have hP : va_P D vwCl [(h_h, .inl (cI, 104, .inl g337)), (h_names, .inl (cJ, 36, .inr (.inl f_names))), (h_reserved, .inl (cJ, 23, .inr (.inl f_reserved))), (h0, .inr (10, vL 67 F347)), (h_tape, .inl (cB, 940, .inl f_tape))] H := hP
                have hD : va_D A [(h_h, .inl (cI, 104, .inl g337)), (h_names, .inl (cJ, 36, .inr (.inl f_names))), (h_reserved, .inl (cJ, 23, .inr (.inl f_reserved))), (h0, .inr (10, vL 67 F347)), (h_tape, .inl (cB, 940, .inl f_tape))] := hD
                refine W.widen (k := 0) (n := 0) (Nat.le_of_ble_eq_true rfl) (Nat.le_of_ble_eq_true rfl) ?_
                refine lv_if_ne (tgt := 344) hx hb dX10_line0_339 (by decide) (fun g => absurd (by decide) g) (fun _ => ?_)
                refine lv_iconst (v := 0) hx hb dX10_line0_342 (by decide) ?_
                exact ret_i (v := 0) hx hb hr hlocks hS (hP.sub (ws' := [(h0, .inr (10, vL 67 F347)), (h_tape, .inl (cB, 940, .inl f_tape)), (h_h, .inl (cI, 104, .inl g337)), (h_names, .inl (cJ, 36, .inr (.inl f_names))), (h_reserved, .inl (cJ, 23, .inr (.inl f_reserved)))]) [3, 4, 0, 1, 2] rfl) (hD.sub (ws' := [(h0, .inr (10, vL 67 F347)), (h_tape, .inl (cB, 940, .inl f_tape)), (h_h, .inl (cI, 104, .inl g337)), (h_names, .inl (cJ, 36, .inr (.inl f_names))), (h_reserved, .inl (cJ, 23, .inr (.inl f_reserved)))]) [3, 4, 0, 1, 2] (by decide) rfl) dX10_line0_343 rfl (Nat.le_of_ble_eq_true rfl) (Nat.le_of_ble_eq_true rfl) ⟨F347, y306, y307, y308, y309, y310, y348, y308, y311, y312, x_onces, g337, f_names, (SAME.tr (SAME.tr (SAME.tr (SAME.tr SAME.rf t228 (by decide)) t263 (by decide)) t313 (by decide)) t349 (by decide)), (SAME.at t349 (by decide) t314), t315, (SAME.at t349 (by decide) t316), t317, (SAME.at t349 (by decide) t318), (SAME.at t349 (by decide) t320), (SAME.at t349 (by decide) t322), t350, t352, (SAME.at t349 (by decide) t323), (SAME.at t349 (by decide) t324), (SAME.at t349 (by decide) (SAME.at t313 (by decide) (SAME.at t263 (by decide) (SAME.at t228 (by decide) e_onces)))), r338, r340, r341, r342, r339, (show 0 ≤ (0 : Int32).toInt ∧ (0 : Int32).toInt ≤ 1 by decide), (by have zl0 : (0 : Int32).toInt = 0 := (by decide); omega), (by omega), rfl⟩
              · refine hp.elim (fun F354 h9z => h9z.elim (fun y355 h9z => h9z.elim (fun y356 h9z => h9z.elim (fun y357 h9z => h9z.elim (fun y358 h9z => h9z.elim (fun y359 h9z => h9z.elim (fun y360 h9z => h9z.elim (fun y361 h9z => h9z.elim (fun t362 h9z => h9z.elim (fun t363 h9z => h9z.elim (fun t364 h9z => h9z.elim (fun t365 h9z => h9z.elim (fun t366 h9z => h9z.elim (fun t367 h9z => h9z.elim (fun t368 h9z => h9z.elim (fun t369 h9z => h9z.elim (fun t370 h9z => h9z.elim (fun t371 h9z => h9z.elim (fun t372 h9z => h9z.elim (fun t373 h9z => h9z.elim (fun t374 h9z => h9z.elim (fun t375 h9z => h9z.elim (fun t376 h9z => h9z.elim (fun t377 h9z => h9z.elim (fun t378 h9z => h9z.elim (fun heq925 h9z => ?_))))))))))))))))))))))))))
                subst heq925
                subst h9z
                have hP : va_P D vwCl [(h_h, .inl (cI, 104, .inl g337)), (h_names, .inl (cJ, 36, .inr (.inl f_names))), (h_reserved, .inl (cJ, 23, .inr (.inl f_reserved))), (h0, .inr (10, vL 67 F354)), (h_tape, .inl (cB, 940, .inl f_tape))] H := hP
                have hD : va_D A [(h_h, .inl (cI, 104, .inl g337)), (h_names, .inl (cJ, 36, .inr (.inl f_names))), (h_reserved, .inl (cJ, 23, .inr (.inl f_reserved))), (h0, .inr (10, vL 67 F354)), (h_tape, .inl (cB, 940, .inl f_tape))] := hD
                refine W.widen (k := 0) (n := 0) (Nat.le_of_ble_eq_true rfl) (Nat.le_of_ble_eq_true rfl) ?_
                have k380 : 2 ≤ y307.toInt ∧ y307.toInt ≤ 2 := ⟨Int.le_trans (Int.le_refl _) (Int.le_of_eq t374.symm), Int.le_trans (Int.le_of_eq t374) (Int.le_refl _)⟩
                have k381 : 0 ≤ y310.toInt ∧ y310.toInt ≤ 2147483647 := ⟨Int.le_trans (Int.le_refl _) t375, (ir_any _).2⟩
                have k382 : 0 ≤ y310.toInt ∧ y310.toInt ≤ 9 := ⟨k381.1, Int.le_trans t376 (Int.le_refl _)⟩
                refine lv_if_ne (tgt := 344) hx hb dX10_line0_339 (by decide) (fun _ => ?_) (fun g => absurd g (by decide))
                refine lv_aload_n hx hb dX10_line0_344 rfl (lv_at hl 2 rfl) ?_
                have n383 : F354 7 = .ref h_h := (SAME.at t362 (by decide) n334)
                refine get_f (D := D) (ci := 10) (v := .ref h_h) (C := RX10) (T := TX10) (N := 67) hx hb hw inAX10 hown hK hP 3 rfl rfl 7 (by decide) (hw _ q_1268) (fun _ h9 => h9) n383 dX10_line0_345 ?_
                refine lv_bipush (v := 68) hx hb dX10_line0_348 (by decide) ?_
                refine lv_iload_n hx hb dX10_line0_350 rfl (lv_at hl 0 rfl) ?_
                refine lv_iadd hx hb dX10_line0_351 ?_
                refine lv_topi (fun v384 ev384 => ?_)
                have bv384 : v384.toInt = 68 + v216.toInt := by rw [ev384]; exact add_k rfl rfl ⟨Int.le_refl _, Int.le_refl _⟩ k219 (by decide)
                have k385 : 68 ≤ v384.toInt ∧ v384.toInt ≤ 79 := add_r bv384 ⟨Int.le_refl _, Int.le_refl _⟩ k219 (by decide)
                refine lv_aload_n hx hb dX10_line0_352 rfl (lv_at hl 2 rfl) ?_
                refine get_f (D := D) (ci := 10) (v := .int y361) (C := RX10) (T := TX10) (N := 67) hx hb hw inAX10 hown hK hP 3 rfl rfl 19 (by decide) (hw _ q_1280) (fun _ h9 => h9) t373 dX10_line0_353 ?_
                obtain ⟨g386, eg386⟩ : ∃ z : Nat → Int32, upd g337 v384.toNatClampNeg y361 = z := ⟨_, rfl⟩
                have r387 : SG 0 0 0 40 g386 := by rw [← eg386]; exact r338.up (Int.le_trans (by decide) k385.1) (Or.inr (Or.inl (dec_lt k385.1 (by decide))))
                have r388 : SG 44 55 0 9 g386 := by rw [← eg386]; exact r339.up (Int.le_trans (by decide) k385.1) (Or.inr (Or.inl (dec_lt k385.1 (by decide))))
                have r389 : SG 5 5 0 12 g386 := by rw [← eg386]; exact r340.up (Int.le_trans (by decide) k385.1) (Or.inr (Or.inl (dec_lt k385.1 (by decide))))
                have r390 : SG 6 6 0 12 g386 := by rw [← eg386]; exact r341.up (Int.le_trans (by decide) k385.1) (Or.inr (Or.inl (dec_lt k385.1 (by decide))))
                have r391 : SG 7 7 0 6 g386 := by rw [← eg386]; exact r342.up (Int.le_trans (by decide) k385.1) (Or.inr (Or.inl (dec_lt k385.1 (by decide))))
                refine iast_g hx hb hK hP hD hS 0 0 rfl rfl (ix_k k385 (by decide) (by decide)) eg386 dX10_line0_356 (fun H locs hP hD hS => ?_)
                have hP : va_P D vwCl [(h_h, .inl (cI, 104, .inl g386)), (h_names, .inl (cJ, 36, .inr (.inl f_names))), (h_reserved, .inl (cJ, 23, .inr (.inl f_reserved))), (h0, .inr (10, vL 67 F354)), (h_tape, .inl (cB, 940, .inl f_tape))] H := hP
                have hD : va_D A [(h_h, .inl (cI, 104, .inl g386)), (h_names, .inl (cJ, 36, .inr (.inl f_names))), (h_reserved, .inl (cJ, 23, .inr (.inl f_reserved))), (h0, .inr (10, vL 67 F354)), (h_tape, .inl (cB, 940, .inl f_tape))] := hD
                refine lv_aload_n hx hb dX10_line0_357 rfl (lv_at hl 2 rfl) ?_
                refine lv_iconst (v := 1) hx hb dX10_line0_358 (by decide) ?_
                refine lv_bipush (v := 99) hx hb dX10_line0_359 (by decide) ?_
                have n392 : F354 1 = .ref h_tape := (SAME.at t362 (by decide) n343)
                have n393 : F354 3 = .int x_size := (SAME.at t362 (by decide) n344)
                have n394 : F354 5 = .int x_limit := (SAME.at t362 (by decide) n345)
                refine call_Vi (wr := [(h_h, .inl (cI, 104, .inl g386)), (h_names, .inl (cJ, 36, .inr (.inl f_names))), (h_reserved, .inl (cJ, 23, .inr (.inl f_reserved)))]) (As := [.int 1, .int 99]) (rest := []) hx hb hml hown hw (m_X10_takes l D cI cJ cB cP cM cZ h0 h_tape F354 x_size y355 x_limit y356 y357 y359 y360 y361 f_tape 1 99 _ n392 n393 i_x_size t363 t364 n394 i_x_limit t365 t366 t367 t371 t372 t373 (by omega)) wV_X10_242_X10_takes dX10_line0_361 hK hP hD hS hA [3, 4] [0, 1, 2] rfl rfl (by decide) (by decide) (by decide) 0 10 rfl rfl GG.fb hG.at hl.1 rfl (Nat.le_of_ble_eq_true rfl) ⟨(Nat.le_of_ble_eq_true rfl), (Nat.le_of_ble_eq_true rfl)⟩ ⟨(Nat.le_of_ble_eq_true rfl), (Nat.le_of_ble_eq_true rfl)⟩ (fun r395 u H locs hp hP hD hS => ?_)
                have zl99 : (99 : Int32).toInt = 99 := by decide
                rcases hp with hp | hp
                · obtain ⟨F396, y397, t398, t399, t400, t401, t402, rfl, rfl⟩ := hp
                  have hP : va_P D vwCl [(h_h, .inl (cI, 104, .inl g386)), (h_names, .inl (cJ, 36, .inr (.inl f_names))), (h_reserved, .inl (cJ, 23, .inr (.inl f_reserved))), (h0, .inr (10, vL 67 F396)), (h_tape, .inl (cB, 940, .inl f_tape))] H := hP
                  have hD : va_D A [(h_h, .inl (cI, 104, .inl g386)), (h_names, .inl (cJ, 36, .inr (.inl f_names))), (h_reserved, .inl (cJ, 23, .inr (.inl f_reserved))), (h0, .inr (10, vL 67 F396)), (h_tape, .inl (cB, 940, .inl f_tape))] := hD
                  refine W.widen (k := 0) (n := 0) (Nat.le_of_ble_eq_true rfl) (Nat.le_of_ble_eq_true rfl) ?_
                  refine lv_if_ne (tgt := 369) hx hb dX10_line0_364 (by decide) (fun g => absurd (by decide) g) (fun _ => ?_)
                  refine lv_iconst (v := 0) hx hb dX10_line0_367 (by decide) ?_
                  exact ret_i (v := 0) hx hb hr hlocks hS (hP.sub (ws' := [(h0, .inr (10, vL 67 F396)), (h_tape, .inl (cB, 940, .inl f_tape)), (h_h, .inl (cI, 104, .inl g386)), (h_names, .inl (cJ, 36, .inr (.inl f_names))), (h_reserved, .inl (cJ, 23, .inr (.inl f_reserved)))]) [3, 4, 0, 1, 2] rfl) (hD.sub (ws' := [(h0, .inr (10, vL 67 F396)), (h_tape, .inl (cB, 940, .inl f_tape)), (h_h, .inl (cI, 104, .inl g386)), (h_names, .inl (cJ, 36, .inr (.inl f_names))), (h_reserved, .inl (cJ, 23, .inr (.inl f_reserved)))]) [3, 4, 0, 1, 2] (by decide) rfl) dX10_line0_368 rfl (Nat.le_of_ble_eq_true rfl) (Nat.le_of_ble_eq_true rfl) ⟨F396, y355, y356, y357, y358, y359, y397, y357, y360, y361, x_onces, g386, f_names, (SAME.tr (SAME.tr (SAME.tr (SAME.tr (SAME.tr SAME.rf t228 (by decide)) t263 (by decide)) t313 (by decide)) t362 (by decide)) t398 (by decide)), (SAME.at t398 (by decide) t363), t364, (SAME.at t398 (by decide) t365), t366, (SAME.at t398 (by decide) t367), (SAME.at t398 (by decide) t369), (SAME.at t398 (by decide) t371), t399, t401, (SAME.at t398 (by decide) t372), (SAME.at t398 (by decide) t373), (SAME.at t398 (by decide) (SAME.at t362 (by decide) (SAME.at t313 (by decide) (SAME.at t263 (by decide) (SAME.at t228 (by decide) e_onces))))), r387, r389, r390, r391, r388, (show 0 ≤ (0 : Int32).toInt ∧ (0 : Int32).toInt ≤ 1 by decide), (by have zl0 : (0 : Int32).toInt = 0 := (by decide); omega), (by omega), rfl⟩
                · refine hp.elim (fun F403 h9z => h9z.elim (fun y404 h9z => h9z.elim (fun y405 h9z => h9z.elim (fun y406 h9z => h9z.elim (fun y407 h9z => h9z.elim (fun y408 h9z => h9z.elim (fun y409 h9z => h9z.elim (fun y410 h9z => h9z.elim (fun t411 h9z => h9z.elim (fun t412 h9z => h9z.elim (fun t413 h9z => h9z.elim (fun t414 h9z => h9z.elim (fun t415 h9z => h9z.elim (fun t416 h9z => h9z.elim (fun t417 h9z => h9z.elim (fun t418 h9z => h9z.elim (fun t419 h9z => h9z.elim (fun t420 h9z => h9z.elim (fun t421 h9z => h9z.elim (fun t422 h9z => h9z.elim (fun t423 h9z => h9z.elim (fun t424 h9z => h9z.elim (fun t425 h9z => h9z.elim (fun t426 h9z => h9z.elim (fun t427 h9z => h9z.elim (fun heq925 h9z => ?_))))))))))))))))))))))))))
                  subst heq925
                  subst h9z
                  have hP : va_P D vwCl [(h_h, .inl (cI, 104, .inl g386)), (h_names, .inl (cJ, 36, .inr (.inl f_names))), (h_reserved, .inl (cJ, 23, .inr (.inl f_reserved))), (h0, .inr (10, vL 67 F403)), (h_tape, .inl (cB, 940, .inl f_tape))] H := hP
                  have hD : va_D A [(h_h, .inl (cI, 104, .inl g386)), (h_names, .inl (cJ, 36, .inr (.inl f_names))), (h_reserved, .inl (cJ, 23, .inr (.inl f_reserved))), (h0, .inr (10, vL 67 F403)), (h_tape, .inl (cB, 940, .inl f_tape))] := hD
                  refine W.widen (k := 0) (n := 0) (Nat.le_of_ble_eq_true rfl) (Nat.le_of_ble_eq_true rfl) ?_
                  have k429 : 2 ≤ y356.toInt ∧ y356.toInt ≤ 2 := ⟨Int.le_trans (Int.le_refl _) (Int.le_of_eq t423.symm), Int.le_trans (Int.le_of_eq t423) (Int.le_refl _)⟩
                  have k430 : 1 ≤ y359.toInt ∧ y359.toInt ≤ 2147483647 := ⟨Int.le_trans (Int.le_refl _) t424, (ir_any _).2⟩
                  have k431 : 1 ≤ y359.toInt ∧ y359.toInt ≤ 99 := ⟨k430.1, Int.le_trans t425 (Int.le_refl _)⟩
                  refine lv_if_ne (tgt := 369) hx hb dX10_line0_364 (by decide) (fun _ => ?_) (fun g => absurd g (by decide))
                  refine lv_aload_n hx hb dX10_line0_369 rfl (lv_at hl 2 rfl) ?_
                  have n432 : F403 7 = .ref h_h := (SAME.at t411 (by decide) n383)
                  refine get_f (D := D) (ci := 10) (v := .ref h_h) (C := RX10) (T := TX10) (N := 67) hx hb hw inAX10 hown hK hP 3 rfl rfl 7 (by decide) (hw _ q_1268) (fun _ h9 => h9) n432 dX10_line0_370 ?_
                  refine lv_bipush (v := 80) hx hb dX10_line0_373 (by decide) ?_
                  refine lv_iload_n hx hb dX10_line0_375 rfl (lv_at hl 0 rfl) ?_
                  refine lv_iadd hx hb dX10_line0_376 ?_
                  refine lv_topi (fun v433 ev433 => ?_)
                  have bv433 : v433.toInt = 80 + v216.toInt := by rw [ev433]; exact add_k rfl rfl ⟨Int.le_refl _, Int.le_refl _⟩ k219 (by decide)
                  have k434 : 80 ≤ v433.toInt ∧ v433.toInt ≤ 91 := add_r bv433 ⟨Int.le_refl _, Int.le_refl _⟩ k219 (by decide)
                  refine lv_aload_n hx hb dX10_line0_377 rfl (lv_at hl 2 rfl) ?_
                  refine get_f (D := D) (ci := 10) (v := .int y410) (C := RX10) (T := TX10) (N := 67) hx hb hw inAX10 hown hK hP 3 rfl rfl 19 (by decide) (hw _ q_1280) (fun _ h9 => h9) t422 dX10_line0_378 ?_
                  obtain ⟨g435, eg435⟩ : ∃ z : Nat → Int32, upd g386 v433.toNatClampNeg y410 = z := ⟨_, rfl⟩
                  have r436 : SG 0 0 0 40 g435 := by rw [← eg435]; exact r387.up (Int.le_trans (by decide) k434.1) (Or.inr (Or.inl (dec_lt k434.1 (by decide))))
                  have r437 : SG 44 55 0 9 g435 := by rw [← eg435]; exact r388.up (Int.le_trans (by decide) k434.1) (Or.inr (Or.inl (dec_lt k434.1 (by decide))))
                  have r438 : SG 5 5 0 12 g435 := by rw [← eg435]; exact r389.up (Int.le_trans (by decide) k434.1) (Or.inr (Or.inl (dec_lt k434.1 (by decide))))
                  have r439 : SG 6 6 0 12 g435 := by rw [← eg435]; exact r390.up (Int.le_trans (by decide) k434.1) (Or.inr (Or.inl (dec_lt k434.1 (by decide))))
                  have r440 : SG 7 7 0 6 g435 := by rw [← eg435]; exact r391.up (Int.le_trans (by decide) k434.1) (Or.inr (Or.inl (dec_lt k434.1 (by decide))))
                  refine iast_g hx hb hK hP hD hS 0 0 rfl rfl (ix_k k434 (by decide) (by decide)) eg435 dX10_line0_381 (fun H locs hP hD hS => ?_)
                  have hP : va_P D vwCl [(h_h, .inl (cI, 104, .inl g435)), (h_names, .inl (cJ, 36, .inr (.inl f_names))), (h_reserved, .inl (cJ, 23, .inr (.inl f_reserved))), (h0, .inr (10, vL 67 F403)), (h_tape, .inl (cB, 940, .inl f_tape))] H := hP
                  have hD : va_D A [(h_h, .inl (cI, 104, .inl g435)), (h_names, .inl (cJ, 36, .inr (.inl f_names))), (h_reserved, .inl (cJ, 23, .inr (.inl f_reserved))), (h0, .inr (10, vL 67 F403)), (h_tape, .inl (cB, 940, .inl f_tape))] := hD
                  refine lv_aload_n hx hb dX10_line0_382 rfl (lv_at hl 2 rfl) ?_
                  refine get_f (D := D) (ci := 10) (v := .ref h_h) (C := RX10) (T := TX10) (N := 67) hx hb hw inAX10 hown hK hP 3 rfl rfl 7 (by decide) (hw _ q_1268) (fun _ h9 => h9) n432 dX10_line0_383 ?_
                  refine lv_bipush (v := 6) hx hb dX10_line0_386 (by decide) ?_
                  refine lv_dup2_11 hx hb dX10_line0_388 rfl rfl ?_
                  refine iald_n hx hb hK hP 0 0 rfl rfl 6 rfl (Nat.le_of_ble_eq_true rfl) (Nat.le_of_ble_eq_true rfl) rfl dX10_line0_389 ?_
                  refine lv_topi (fun v441 ev441 => ?_)
                  have k442 : 0 ≤ v441.toInt ∧ v441.toInt ≤ 12 := by rw [ev441]; exact r439.atN 6 (by decide) (by decide)
                  refine lv_iconst (v := 1) hx hb dX10_line0_390 (by decide) ?_
                  refine lv_iadd hx hb dX10_line0_391 ?_
                  refine lv_topi (fun v443 ev443 => ?_)
                  have bv443 : v443.toInt = v441.toInt + 1 := by rw [ev443]; exact add_k rfl rfl k442 ⟨Int.le_refl _, Int.le_refl _⟩ (by decide)
                  have k444 : 1 ≤ v443.toInt ∧ v443.toInt ≤ 13 := add_r bv443 k442 ⟨Int.le_refl _, Int.le_refl _⟩ (by decide)
                  obtain ⟨g445, eg445⟩ : ∃ z : Nat → Int32, upd g435 6 v443 = z := ⟨_, rfl⟩
                  have r446 : SG 0 0 0 40 g445 := by rw [← eg445]; exact r436.upN (by decide)
                  have r447 : SG 44 55 0 9 g445 := by rw [← eg445]; exact r437.upN (by decide)
                  have r448 : SG 5 5 0 12 g445 := by rw [← eg445]; exact r438.upN (by decide)
                  have r449 : SG 6 6 0 12 g445 := by rw [← eg445]; exact r439.upN (by omega)
                  have r450 : SG 7 7 0 6 g445 := by rw [← eg445]; exact r440.upN (by decide)
                  refine iast_n hx hb hK hP hD hS 0 0 rfl rfl 6 rfl (Nat.le_of_ble_eq_true rfl) (Nat.le_of_ble_eq_true rfl) eg445 dX10_line0_392 (fun H locs hP hD hS => ?_)
                  have hP : va_P D vwCl [(h_h, .inl (cI, 104, .inl g445)), (h_names, .inl (cJ, 36, .inr (.inl f_names))), (h_reserved, .inl (cJ, 23, .inr (.inl f_reserved))), (h0, .inr (10, vL 67 F403)), (h_tape, .inl (cB, 940, .inl f_tape))] H := hP
                  have hD : va_D A [(h_h, .inl (cI, 104, .inl g445)), (h_names, .inl (cJ, 36, .inr (.inl f_names))), (h_reserved, .inl (cJ, 23, .inr (.inl f_reserved))), (h0, .inr (10, vL 67 F403)), (h_tape, .inl (cB, 940, .inl f_tape))] := hD
                  refine lv_iconst (v := 1) hx hb dX10_line0_393 (by decide) ?_
                  exact ret_i (v := 1) hx hb hr hlocks hS (hP.sub (ws' := [(h0, .inr (10, vL 67 F403)), (h_tape, .inl (cB, 940, .inl f_tape)), (h_h, .inl (cI, 104, .inl g445)), (h_names, .inl (cJ, 36, .inr (.inl f_names))), (h_reserved, .inl (cJ, 23, .inr (.inl f_reserved)))]) [3, 4, 0, 1, 2] rfl) (hD.sub (ws' := [(h0, .inr (10, vL 67 F403)), (h_tape, .inl (cB, 940, .inl f_tape)), (h_h, .inl (cI, 104, .inl g445)), (h_names, .inl (cJ, 36, .inr (.inl f_names))), (h_reserved, .inl (cJ, 23, .inr (.inl f_reserved)))]) [3, 4, 0, 1, 2] (by decide) rfl) dX10_line0_394 rfl (Nat.le_of_ble_eq_true rfl) (Nat.le_of_ble_eq_true rfl) ⟨F403, y404, y405, y406, y407, y408, x_fault, x_faultAt, y409, y410, x_onces, g445, f_names, (SAME.tr (SAME.tr (SAME.tr (SAME.tr (SAME.tr SAME.rf t228 (by decide)) t263 (by decide)) t313 (by decide)) t362 (by decide)) t411 (by decide)), t412, t413, t414, t415, t416, t418, t420, (SAME.at t411 (by decide) (SAME.at t362 (by decide) (SAME.at t313 (by decide) (SAME.at t263 (by decide) (SAME.at t228 (by decide) e_fault))))), (SAME.at t411 (by decide) (SAME.at t362 (by decide) (SAME.at t313 (by decide) (SAME.at t263 (by decide) (SAME.at t228 (by decide) e_faultAt))))), t421, t422, (SAME.at t411 (by decide) (SAME.at t362 (by decide) (SAME.at t313 (by decide) (SAME.at t263 (by decide) (SAME.at t228 (by decide) e_onces))))), r446, r448, r449, r450, r447, (show 0 ≤ (1 : Int32).toInt ∧ (1 : Int32).toInt ≤ 1 by decide), (by have zl1 : (1 : Int32).toInt = 1 := (by decide); omega), (by omega), rfl⟩
        · have dc218 : v216.toInt = 12 := eq_i (a := v216.toInt) (b := 12) rfl rfl c218
          have k451 : 12 ≤ v216.toInt ∧ v216.toInt ≤ 12 := ⟨Int.le_trans (Int.le_refl _) (Int.le_of_eq dc218.symm), k217.2⟩
          refine lv_aload_n hx hb dX10_line0_272 rfl (lv_at hl 2 rfl) ?_
          refine lv_iconst (v := 4) hx hb dX10_line0_273 (by decide) ?_
          refine call_Vi (wr := [(h_tape, .inl (cB, 940, .inl f_tape)), (h_h, .inl (cI, 104, .inl f_h)), (h_names, .inl (cJ, 36, .inr (.inl f_names))), (h_reserved, .inl (cJ, 23, .inr (.inl f_reserved)))]) (As := [.int 4]) (rest := []) hx hb hml hown hw (m_X10_bad l D cI cJ cB cP cM cZ h0 Fh x_at 4 _ e_at) wV_X10_205_X10_bad dX10_line0_274 hK hP hD hS hA [4] [0, 1, 2, 3] rfl rfl (by decide) (by decide) (by decide) 0 10 rfl rfl GG.fb hG.at hl.1 rfl (Nat.le_of_ble_eq_true rfl) ⟨(Nat.le_of_ble_eq_true rfl), (Nat.le_of_ble_eq_true rfl)⟩ ⟨(Nat.le_of_ble_eq_true rfl), (Nat.le_of_ble_eq_true rfl)⟩ (fun r452 u H locs hp hP hD hS => ?_)
          have zl4 : (4 : Int32).toInt = 4 := by decide
          obtain ⟨F453, t454, t455, t456, rfl, rfl⟩ := hp
          have hP : va_P D vwCl [(h_tape, .inl (cB, 940, .inl f_tape)), (h_h, .inl (cI, 104, .inl f_h)), (h_names, .inl (cJ, 36, .inr (.inl f_names))), (h_reserved, .inl (cJ, 23, .inr (.inl f_reserved))), (h0, .inr (10, vL 67 F453))] H := hP
          have hD : va_D A [(h_tape, .inl (cB, 940, .inl f_tape)), (h_h, .inl (cI, 104, .inl f_h)), (h_names, .inl (cJ, 36, .inr (.inl f_names))), (h_reserved, .inl (cJ, 23, .inr (.inl f_reserved))), (h0, .inr (10, vL 67 F453))] := hD
          refine W.widen (k := 0) (n := 0) (Nat.le_of_ble_eq_true rfl) (Nat.le_of_ble_eq_true rfl) ?_
          exact ret_i (v := 0) hx hb hr hlocks hS (hP.sub (ws' := [(h0, .inr (10, vL 67 F453)), (h_tape, .inl (cB, 940, .inl f_tape)), (h_h, .inl (cI, 104, .inl f_h)), (h_names, .inl (cJ, 36, .inr (.inl f_names))), (h_reserved, .inl (cJ, 23, .inr (.inl f_reserved)))]) [4, 0, 1, 2, 3] rfl) (hD.sub (ws' := [(h0, .inr (10, vL 67 F453)), (h_tape, .inl (cB, 940, .inl f_tape)), (h_h, .inl (cI, 104, .inl f_h)), (h_names, .inl (cJ, 36, .inr (.inl f_names))), (h_reserved, .inl (cJ, 23, .inr (.inl f_reserved)))]) [4, 0, 1, 2, 3] (by decide) rfl) dX10_line0_277 rfl (Nat.le_of_ble_eq_true rfl) (Nat.le_of_ble_eq_true rfl) ⟨F453, x_p, x_token, x_at, x_span, x_number, 4, x_at, x_word, x_got, x_onces, f_h, f_names, (SAME.tr SAME.rf t454 (by decide)), (SAME.at t454 (by decide) e_p), i_x_p, (SAME.at t454 (by decide) e_token), i_x_token, (SAME.at t454 (by decide) e_at), (SAME.at t454 (by decide) e_span), (SAME.at t454 (by decide) e_number), t455, t456, (SAME.at t454 (by decide) e_word), (SAME.at t454 (by decide) e_got), (SAME.at t454 (by decide) e_onces), s_h_0, s_h_5, s_h_6, s_h_7, s_h_44, (show 0 ≤ (0 : Int32).toInt ∧ (0 : Int32).toInt ≤ 1 by decide), (by have zl0 : (0 : Int32).toInt = 0 := (by decide); omega), (by have zl4 : (4 : Int32).toInt = 4 := (by decide); omega), rfl⟩
    · have dc10 : r6.toInt ≠ 0 := ne_i (a := r6.toInt) (b := 0) rfl rfl c10
      have k458 : 1 ≤ r6.toInt ∧ r6.toInt ≤ 1 := ⟨ne_lo dc10 t7.1 ⟨Int.le_refl _, Int.le_refl _⟩ (by decide), t7.2⟩
      refine lv_aload_n hx hb dX10_line0_123 rfl (lv_at hl 1 rfl) ?_
      refine get_f (D := D) (ci := 10) (v := .ref h_h) (C := RX10) (T := TX10) (N := 67) hx hb hw inAX10 hown hK hP 4 rfl rfl 7 (by decide) (hw _ q_1268) (fun _ h9 => h9) e_h dX10_line0_124 ?_
      refine lv_iconst (v := 5) hx hb dX10_line0_127 (by decide) ?_
      refine iald_n hx hb hK hP 1 0 rfl rfl 5 rfl (Nat.le_of_ble_eq_true rfl) (Nat.le_of_ble_eq_true rfl) rfl dX10_line0_128 ?_
      refine lv_topi (fun v459 ev459 => ?_)
      have k460 : 0 ≤ v459.toInt ∧ v459.toInt ≤ 12 := by rw [ev459]; exact s_h_5.atN 5 (by decide) (by decide)
      refine lv_istore_n (lv' := [(2, .int v459), (1, .int r1), (0, .ref h0)]) hx hb dX10_line0_129 rfl hl (by decide) rfl (fun ls hl => ?_)
      refine lv_iload_n hx hb dX10_line0_130 rfl (lv_at hl 0 rfl) ?_
      refine lv_bipush (v := 12) hx hb dX10_line0_131 (by decide) ?_
      refine lv_icmp_ne (tgt := 142) hx hb dX10_line0_133 (by decide) (fun c461 => ?_) (fun c461 => ?_)
      · have dc461 : v459.toInt ≠ 12 := ne_i (a := v459.toInt) (b := 12) rfl rfl c461
        have k462 : 0 ≤ v459.toInt ∧ v459.toInt ≤ 11 := ⟨k460.1, ne_hi dc461 k460.2 ⟨Int.le_refl _, Int.le_refl _⟩ (by decide)⟩
        refine lv_aload_n hx hb dX10_line0_142 rfl (lv_at hl 2 rfl) ?_
        refine call_Vv (wr := [(h_h, .inl (cI, 104, .inl f_h)), (h_names, .inl (cJ, 36, .inr (.inl f_names))), (h_reserved, .inl (cJ, 23, .inr (.inl f_reserved)))]) (As := []) (rest := []) hx hb hml hown hw (m_X10_next l D cI cJ cB cP cM cZ h0 h_tape Fh x_size x_p x_limit x_token x_number x_word f_tape _ e_tape e_size i_x_size e_p i_x_p e_limit i_x_limit e_token i_x_token e_number e_word (by omega)) wV_X10_208_X10_next dX10_line0_143 hK hP hD hS hA [4, 0] [1, 2, 3] rfl rfl (by decide) (by decide) (by decide) 0 10 rfl rfl GG.fb hG.at hl.1 rfl (Nat.le_of_ble_eq_true rfl) ⟨(Nat.le_of_ble_eq_true rfl), (Nat.le_of_ble_eq_true rfl)⟩ ⟨(Nat.le_of_ble_eq_true rfl), (Nat.le_of_ble_eq_true rfl)⟩ (fun u H locs hp hP hD hS => ?_)
        obtain ⟨F464, y465, y466, y467, y468, y469, y470, t471, t472, t473, t474, t475, t476, t477, t478, t479, t480, t481, t482, t483, t484, rfl⟩ := hp
        have hP : va_P D vwCl [(h_h, .inl (cI, 104, .inl f_h)), (h_names, .inl (cJ, 36, .inr (.inl f_names))), (h_reserved, .inl (cJ, 23, .inr (.inl f_reserved))), (h0, .inr (10, vL 67 F464)), (h_tape, .inl (cB, 940, .inl f_tape))] H := hP
        have hD : va_D A [(h_h, .inl (cI, 104, .inl f_h)), (h_names, .inl (cJ, 36, .inr (.inl f_names))), (h_reserved, .inl (cJ, 23, .inr (.inl f_reserved))), (h0, .inr (10, vL 67 F464)), (h_tape, .inl (cB, 940, .inl f_tape))] := hD
        refine W.widen (k := 0) (n := 0) (Nat.le_of_ble_eq_true rfl) (Nat.le_of_ble_eq_true rfl) ?_
        refine lv_aload_n hx hb dX10_line0_146 rfl (lv_at hl 2 rfl) ?_
        refine lv_bipush (v := 18) hx hb dX10_line0_147 (by decide) ?_
        refine lv_iload_n hx hb dX10_line0_149 rfl (lv_at hl 0 rfl) ?_
        refine lv_iadd hx hb dX10_line0_150 ?_
        refine lv_topi (fun v486 ev486 => ?_)
        have bv486 : v486.toInt = 18 + v459.toInt := by rw [ev486]; exact add_k rfl rfl ⟨Int.le_refl _, Int.le_refl _⟩ k462 (by decide)
        have k487 : 18 ≤ v486.toInt ∧ v486.toInt ≤ 29 := add_r bv486 ⟨Int.le_refl _, Int.le_refl _⟩ k462 (by decide)
        have n488 : F464 1 = .ref h_tape := (SAME.at t471 (by decide) e_tape)
        have n489 : F464 3 = .int x_size := (SAME.at t471 (by decide) e_size)
        have n490 : F464 5 = .int x_limit := (SAME.at t471 (by decide) e_limit)
        have n491 : F464 7 = .ref h_h := (SAME.at t471 (by decide) e_h)
        have n492 : F464 9 = .ref h_names := (SAME.at t471 (by decide) e_names)
        have n493 : F464 10 = .ref h_reserved := (SAME.at t471 (by decide) e_reserved)
        have n494 : F464 15 = .int x_fault := (SAME.at t471 (by decide) e_fault)
        have n495 : F464 16 = .int x_faultAt := (SAME.at t471 (by decide) e_faultAt)
        refine call_Vi (wr := []) (As := [.int v486]) (rest := []) hx hb hml hown hw (m_X10_fresh l D cI cJ cB cP cM cZ h0 h_tape h_h h_names h_reserved F464 x_size y465 x_limit y466 y467 y468 y469 x_fault x_faultAt y470 f_tape f_h f_names f_reserved v486 _ n488 n489 i_x_size t472 t473 n490 i_x_limit n491 n492 n493 t474 t475 t476 t478 t480 n494 n495 t481 s_h_0 s_h_44 s_h_5 s_h_6 s_h_7 (ir_wk k487 (by decide) (by decide)) (by omega)) wV_X10_245_X10_fresh dX10_line0_151 hK hP hD hS hA [3, 4, 0, 1, 2] [] rfl rfl (by decide) (by decide) (by decide) 0 10 rfl rfl GG.fb hG.at hl.1 rfl (Nat.le_of_ble_eq_true rfl) ⟨(Nat.le_of_ble_eq_true rfl), (Nat.le_of_ble_eq_true rfl)⟩ ⟨(Nat.le_of_ble_eq_true rfl), (Nat.le_of_ble_eq_true rfl)⟩ (fun r496 u H locs hp hP hD hS => ?_)
        refine hp.elim (fun F497 h9z => h9z.elim (fun y498 h9z => h9z.elim (fun y499 h9z => h9z.elim (fun y500 h9z => h9z.elim (fun y501 h9z => h9z.elim (fun y502 h9z => h9z.elim (fun y503 h9z => h9z.elim (fun y504 h9z => h9z.elim (fun y505 h9z => h9z.elim (fun g506 h9z => h9z.elim (fun t507 h9z => h9z.elim (fun t508 h9z => h9z.elim (fun t509 h9z => h9z.elim (fun t510 h9z => h9z.elim (fun t511 h9z => h9z.elim (fun t512 h9z => h9z.elim (fun t513 h9z => h9z.elim (fun t514 h9z => h9z.elim (fun t515 h9z => h9z.elim (fun t516 h9z => h9z.elim (fun t517 h9z => h9z.elim (fun t518 h9z => h9z.elim (fun t519 h9z => h9z.elim (fun t520 h9z => ?_))))))))))))))))))))))))
        subst h9z
        have hP : va_P D vwCl [(h0, .inr (10, vL 67 F497)), (h_tape, .inl (cB, 940, .inl f_tape)), (h_h, .inl (cI, 104, .inl f_h)), (h_names, .inl (cJ, 36, .inr (.inl g506))), (h_reserved, .inl (cJ, 23, .inr (.inl f_reserved)))] H := hP
        have hD : va_D A [(h0, .inr (10, vL 67 F497)), (h_tape, .inl (cB, 940, .inl f_tape)), (h_h, .inl (cI, 104, .inl f_h)), (h_names, .inl (cJ, 36, .inr (.inl g506))), (h_reserved, .inl (cJ, 23, .inr (.inl f_reserved)))] := hD
        refine W.widen (k := 0) (n := 0) (Nat.le_of_ble_eq_true rfl) (Nat.le_of_ble_eq_true rfl) ?_
        refine lv_if_ne (tgt := 159) hx hb dX10_line0_154 (by decide) (fun c522 => ?_) (fun c522 => ?_)
        · have dc522 : r496.toInt ≠ 0 := ne_i (a := r496.toInt) (b := 0) rfl rfl c522
          have k523 : 1 ≤ r496.toInt ∧ r496.toInt ≤ 1 := ⟨ne_lo dc522 t518.1 ⟨Int.le_refl _, Int.le_refl _⟩ (by decide), t518.2⟩
          refine lv_aload_n hx hb dX10_line0_159 rfl (lv_at hl 2 rfl) ?_
          refine lv_iconst (v := 1) hx hb dX10_line0_160 (by decide) ?_
          refine lv_bipush (v := 9) hx hb dX10_line0_161 (by decide) ?_
          have n524 : F497 1 = .ref h_tape := (SAME.at t507 (by decide) n488)
          have n525 : F497 3 = .int x_size := (SAME.at t507 (by decide) n489)
          have n526 : F497 5 = .int x_limit := (SAME.at t507 (by decide) n490)
          have n527 : F464 19 = .int x_got := (SAME.at t471 (by decide) e_got)
          have n528 : F497 19 = .int x_got := (SAME.at t507 (by decide) n527)
          refine call_Vi (wr := [(h_h, .inl (cI, 104, .inl f_h)), (h_names, .inl (cJ, 36, .inr (.inl g506))), (h_reserved, .inl (cJ, 23, .inr (.inl f_reserved)))]) (As := [.int 1, .int 9]) (rest := []) hx hb hml hown hw (m_X10_takes l D cI cJ cB cP cM cZ h0 h_tape F497 x_size y498 x_limit y499 y500 y502 y505 x_got f_tape 1 9 _ n524 n525 i_x_size t508 t509 n526 i_x_limit t510 t511 t512 t514 t517 n528 (by omega)) wV_X10_242_X10_takes dX10_line0_163 hK hP hD hS hA [0, 1] [2, 3, 4] rfl rfl (by decide) (by decide) (by decide) 0 10 rfl rfl GG.fb hG.at hl.1 rfl (Nat.le_of_ble_eq_true rfl) ⟨(Nat.le_of_ble_eq_true rfl), (Nat.le_of_ble_eq_true rfl)⟩ ⟨(Nat.le_of_ble_eq_true rfl), (Nat.le_of_ble_eq_true rfl)⟩ (fun r529 u H locs hp hP hD hS => ?_)
          have zl1 : (1 : Int32).toInt = 1 := by decide
          have zl9 : (9 : Int32).toInt = 9 := by decide
          rcases hp with hp | hp
          · obtain ⟨F530, y531, t532, t533, t534, t535, t536, rfl, rfl⟩ := hp
            have hP : va_P D vwCl [(h_h, .inl (cI, 104, .inl f_h)), (h_names, .inl (cJ, 36, .inr (.inl g506))), (h_reserved, .inl (cJ, 23, .inr (.inl f_reserved))), (h0, .inr (10, vL 67 F530)), (h_tape, .inl (cB, 940, .inl f_tape))] H := hP
            have hD : va_D A [(h_h, .inl (cI, 104, .inl f_h)), (h_names, .inl (cJ, 36, .inr (.inl g506))), (h_reserved, .inl (cJ, 23, .inr (.inl f_reserved))), (h0, .inr (10, vL 67 F530)), (h_tape, .inl (cB, 940, .inl f_tape))] := hD
            refine W.widen (k := 0) (n := 0) (Nat.le_of_ble_eq_true rfl) (Nat.le_of_ble_eq_true rfl) ?_
            refine lv_if_ne (tgt := 171) hx hb dX10_line0_166 (by decide) (fun g => absurd (by decide) g) (fun _ => ?_)
            refine lv_iconst (v := 0) hx hb dX10_line0_169 (by decide) ?_
            exact ret_i (v := 0) hx hb hr hlocks hS (hP.sub (ws' := [(h0, .inr (10, vL 67 F530)), (h_tape, .inl (cB, 940, .inl f_tape)), (h_h, .inl (cI, 104, .inl f_h)), (h_names, .inl (cJ, 36, .inr (.inl g506))), (h_reserved, .inl (cJ, 23, .inr (.inl f_reserved)))]) [3, 4, 0, 1, 2] rfl) (hD.sub (ws' := [(h0, .inr (10, vL 67 F530)), (h_tape, .inl (cB, 940, .inl f_tape)), (h_h, .inl (cI, 104, .inl f_h)), (h_names, .inl (cJ, 36, .inr (.inl g506))), (h_reserved, .inl (cJ, 23, .inr (.inl f_reserved)))]) [3, 4, 0, 1, 2] (by decide) rfl) dX10_line0_170 rfl (Nat.le_of_ble_eq_true rfl) (Nat.le_of_ble_eq_true rfl) ⟨F530, y498, y499, y500, y501, y502, y531, y500, y505, x_got, x_onces, f_h, g506, (SAME.tr (SAME.tr (SAME.tr SAME.rf t471 (by decide)) t507 (by decide)) t532 (by decide)), (SAME.at t532 (by decide) t508), t509, (SAME.at t532 (by decide) t510), t511, (SAME.at t532 (by decide) t512), (SAME.at t532 (by decide) t513), (SAME.at t532 (by decide) t514), t533, t535, (SAME.at t532 (by decide) t517), (SAME.at t532 (by decide) n528), (SAME.at t532 (by decide) (SAME.at t507 (by decide) (SAME.at t471 (by decide) e_onces))), s_h_0, s_h_5, s_h_6, s_h_7, s_h_44, (show 0 ≤ (0 : Int32).toInt ∧ (0 : Int32).toInt ≤ 1 by decide), (by have zl0 : (0 : Int32).toInt = 0 := (by decide); omega), (by omega), rfl⟩
          · refine hp.elim (fun F537 h9z => h9z.elim (fun y538 h9z => h9z.elim (fun y539 h9z => h9z.elim (fun y540 h9z => h9z.elim (fun y541 h9z => h9z.elim (fun y542 h9z => h9z.elim (fun y543 h9z => h9z.elim (fun y544 h9z => h9z.elim (fun t545 h9z => h9z.elim (fun t546 h9z => h9z.elim (fun t547 h9z => h9z.elim (fun t548 h9z => h9z.elim (fun t549 h9z => h9z.elim (fun t550 h9z => h9z.elim (fun t551 h9z => h9z.elim (fun t552 h9z => h9z.elim (fun t553 h9z => h9z.elim (fun t554 h9z => h9z.elim (fun t555 h9z => h9z.elim (fun t556 h9z => h9z.elim (fun t557 h9z => h9z.elim (fun t558 h9z => h9z.elim (fun t559 h9z => h9z.elim (fun t560 h9z => h9z.elim (fun t561 h9z => h9z.elim (fun heq925 h9z => ?_))))))))))))))))))))))))))
            subst heq925
            subst h9z
            have hP : va_P D vwCl [(h_h, .inl (cI, 104, .inl f_h)), (h_names, .inl (cJ, 36, .inr (.inl g506))), (h_reserved, .inl (cJ, 23, .inr (.inl f_reserved))), (h0, .inr (10, vL 67 F537)), (h_tape, .inl (cB, 940, .inl f_tape))] H := hP
            have hD : va_D A [(h_h, .inl (cI, 104, .inl f_h)), (h_names, .inl (cJ, 36, .inr (.inl g506))), (h_reserved, .inl (cJ, 23, .inr (.inl f_reserved))), (h0, .inr (10, vL 67 F537)), (h_tape, .inl (cB, 940, .inl f_tape))] := hD
            refine W.widen (k := 0) (n := 0) (Nat.le_of_ble_eq_true rfl) (Nat.le_of_ble_eq_true rfl) ?_
            have k563 : 2 ≤ y499.toInt ∧ y499.toInt ≤ 2 := ⟨Int.le_trans (Int.le_refl _) (Int.le_of_eq t557.symm), Int.le_trans (Int.le_of_eq t557) (Int.le_refl _)⟩
            have k564 : 1 ≤ y502.toInt ∧ y502.toInt ≤ 2147483647 := ⟨Int.le_trans (Int.le_refl _) t558, (ir_any _).2⟩
            have k565 : 1 ≤ y502.toInt ∧ y502.toInt ≤ 9 := ⟨k564.1, Int.le_trans t559 (Int.le_refl _)⟩
            refine lv_if_ne (tgt := 171) hx hb dX10_line0_166 (by decide) (fun _ => ?_) (fun g => absurd g (by decide))
            refine lv_aload_n hx hb dX10_line0_171 rfl (lv_at hl 2 rfl) ?_
            have n566 : F497 7 = .ref h_h := (SAME.at t507 (by decide) n491)
            have n567 : F537 7 = .ref h_h := (SAME.at t545 (by decide) n566)
            refine get_f (D := D) (ci := 10) (v := .ref h_h) (C := RX10) (T := TX10) (N := 67) hx hb hw inAX10 hown hK hP 3 rfl rfl 7 (by decide) (hw _ q_1268) (fun _ h9 => h9) n567 dX10_line0_172 ?_
            refine lv_bipush (v := 8) hx hb dX10_line0_175 (by decide) ?_
            refine lv_iload_n hx hb dX10_line0_177 rfl (lv_at hl 0 rfl) ?_
            refine lv_iadd hx hb dX10_line0_178 ?_
            refine lv_topi (fun v568 ev568 => ?_)
            have bv568 : v568.toInt = 8 + v459.toInt := by rw [ev568]; exact add_k rfl rfl ⟨Int.le_refl _, Int.le_refl _⟩ k462 (by decide)
            have k569 : 8 ≤ v568.toInt ∧ v568.toInt ≤ 19 := add_r bv568 ⟨Int.le_refl _, Int.le_refl _⟩ k462 (by decide)
            refine lv_aload_n hx hb dX10_line0_179 rfl (lv_at hl 2 rfl) ?_
            refine get_f (D := D) (ci := 10) (v := .int y544) (C := RX10) (T := TX10) (N := 67) hx hb hw inAX10 hown hK hP 3 rfl rfl 19 (by decide) (hw _ q_1280) (fun _ h9 => h9) t556 dX10_line0_180 ?_
            obtain ⟨g570, eg570⟩ : ∃ z : Nat → Int32, upd f_h v568.toNatClampNeg y544 = z := ⟨_, rfl⟩
            have r571 : SG 0 0 0 40 g570 := by rw [← eg570]; exact s_h_0.up (Int.le_trans (by decide) k569.1) (Or.inr (Or.inl (dec_lt k569.1 (by decide))))
            have r572 : SG 44 55 0 9 g570 := by rw [← eg570]; exact s_h_44.up (Int.le_trans (by decide) k569.1) (Or.inl (lt_dec k569.2 (by decide)))
            have r573 : SG 5 5 0 12 g570 := by rw [← eg570]; exact s_h_5.up (Int.le_trans (by decide) k569.1) (Or.inr (Or.inl (dec_lt k569.1 (by decide))))
            have r574 : SG 6 6 0 12 g570 := by rw [← eg570]; exact s_h_6.up (Int.le_trans (by decide) k569.1) (Or.inr (Or.inl (dec_lt k569.1 (by decide))))
            have r575 : SG 7 7 0 6 g570 := by rw [← eg570]; exact s_h_7.up (Int.le_trans (by decide) k569.1) (Or.inr (Or.inl (dec_lt k569.1 (by decide))))
            refine iast_g hx hb hK hP hD hS 0 0 rfl rfl (ix_k k569 (by decide) (by decide)) eg570 dX10_line0_183 (fun H locs hP hD hS => ?_)
            have hP : va_P D vwCl [(h_h, .inl (cI, 104, .inl g570)), (h_names, .inl (cJ, 36, .inr (.inl g506))), (h_reserved, .inl (cJ, 23, .inr (.inl f_reserved))), (h0, .inr (10, vL 67 F537)), (h_tape, .inl (cB, 940, .inl f_tape))] H := hP
            have hD : va_D A [(h_h, .inl (cI, 104, .inl g570)), (h_names, .inl (cJ, 36, .inr (.inl g506))), (h_reserved, .inl (cJ, 23, .inr (.inl f_reserved))), (h0, .inr (10, vL 67 F537)), (h_tape, .inl (cB, 940, .inl f_tape))] := hD
            refine lv_aload_n hx hb dX10_line0_184 rfl (lv_at hl 2 rfl) ?_
            refine lv_iconst (v := 1) hx hb dX10_line0_185 (by decide) ?_
            refine lv_bipush (v := 9) hx hb dX10_line0_186 (by decide) ?_
            have n576 : F537 1 = .ref h_tape := (SAME.at t545 (by decide) n524)
            have n577 : F537 3 = .int x_size := (SAME.at t545 (by decide) n525)
            have n578 : F537 5 = .int x_limit := (SAME.at t545 (by decide) n526)
            refine call_Vi (wr := [(h_h, .inl (cI, 104, .inl g570)), (h_names, .inl (cJ, 36, .inr (.inl g506))), (h_reserved, .inl (cJ, 23, .inr (.inl f_reserved)))]) (As := [.int 1, .int 9]) (rest := []) hx hb hml hown hw (m_X10_takes l D cI cJ cB cP cM cZ h0 h_tape F537 x_size y538 x_limit y539 y540 y542 y543 y544 f_tape 1 9 _ n576 n577 i_x_size t546 t547 n578 i_x_limit t548 t549 t550 t554 t555 t556 (by omega)) wV_X10_242_X10_takes dX10_line0_188 hK hP hD hS hA [3, 4] [0, 1, 2] rfl rfl (by decide) (by decide) (by decide) 0 10 rfl rfl GG.fb hG.at hl.1 rfl (Nat.le_of_ble_eq_true rfl) ⟨(Nat.le_of_ble_eq_true rfl), (Nat.le_of_ble_eq_true rfl)⟩ ⟨(Nat.le_of_ble_eq_true rfl), (Nat.le_of_ble_eq_true rfl)⟩ (fun r579 u H locs hp hP hD hS => ?_)
            rcases hp with hp | hp
            · obtain ⟨F580, y581, t582, t583, t584, t585, t586, rfl, rfl⟩ := hp
              have hP : va_P D vwCl [(h_h, .inl (cI, 104, .inl g570)), (h_names, .inl (cJ, 36, .inr (.inl g506))), (h_reserved, .inl (cJ, 23, .inr (.inl f_reserved))), (h0, .inr (10, vL 67 F580)), (h_tape, .inl (cB, 940, .inl f_tape))] H := hP
              have hD : va_D A [(h_h, .inl (cI, 104, .inl g570)), (h_names, .inl (cJ, 36, .inr (.inl g506))), (h_reserved, .inl (cJ, 23, .inr (.inl f_reserved))), (h0, .inr (10, vL 67 F580)), (h_tape, .inl (cB, 940, .inl f_tape))] := hD
              refine W.widen (k := 0) (n := 0) (Nat.le_of_ble_eq_true rfl) (Nat.le_of_ble_eq_true rfl) ?_
              refine lv_if_ne (tgt := 196) hx hb dX10_line0_191 (by decide) (fun g => absurd (by decide) g) (fun _ => ?_)
              refine lv_iconst (v := 0) hx hb dX10_line0_194 (by decide) ?_
              exact ret_i (v := 0) hx hb hr hlocks hS (hP.sub (ws' := [(h0, .inr (10, vL 67 F580)), (h_tape, .inl (cB, 940, .inl f_tape)), (h_h, .inl (cI, 104, .inl g570)), (h_names, .inl (cJ, 36, .inr (.inl g506))), (h_reserved, .inl (cJ, 23, .inr (.inl f_reserved)))]) [3, 4, 0, 1, 2] rfl) (hD.sub (ws' := [(h0, .inr (10, vL 67 F580)), (h_tape, .inl (cB, 940, .inl f_tape)), (h_h, .inl (cI, 104, .inl g570)), (h_names, .inl (cJ, 36, .inr (.inl g506))), (h_reserved, .inl (cJ, 23, .inr (.inl f_reserved)))]) [3, 4, 0, 1, 2] (by decide) rfl) dX10_line0_195 rfl (Nat.le_of_ble_eq_true rfl) (Nat.le_of_ble_eq_true rfl) ⟨F580, y538, y539, y540, y541, y542, y581, y540, y543, y544, x_onces, g570, g506, (SAME.tr (SAME.tr (SAME.tr (SAME.tr SAME.rf t471 (by decide)) t507 (by decide)) t545 (by decide)) t582 (by decide)), (SAME.at t582 (by decide) t546), t547, (SAME.at t582 (by decide) t548), t549, (SAME.at t582 (by decide) t550), (SAME.at t582 (by decide) t552), (SAME.at t582 (by decide) t554), t583, t585, (SAME.at t582 (by decide) t555), (SAME.at t582 (by decide) t556), (SAME.at t582 (by decide) (SAME.at t545 (by decide) (SAME.at t507 (by decide) (SAME.at t471 (by decide) e_onces)))), r571, r573, r574, r575, r572, (show 0 ≤ (0 : Int32).toInt ∧ (0 : Int32).toInt ≤ 1 by decide), (by have zl0 : (0 : Int32).toInt = 0 := (by decide); omega), (by omega), rfl⟩
            · refine hp.elim (fun F587 h9z => h9z.elim (fun y588 h9z => h9z.elim (fun y589 h9z => h9z.elim (fun y590 h9z => h9z.elim (fun y591 h9z => h9z.elim (fun y592 h9z => h9z.elim (fun y593 h9z => h9z.elim (fun y594 h9z => h9z.elim (fun t595 h9z => h9z.elim (fun t596 h9z => h9z.elim (fun t597 h9z => h9z.elim (fun t598 h9z => h9z.elim (fun t599 h9z => h9z.elim (fun t600 h9z => h9z.elim (fun t601 h9z => h9z.elim (fun t602 h9z => h9z.elim (fun t603 h9z => h9z.elim (fun t604 h9z => h9z.elim (fun t605 h9z => h9z.elim (fun t606 h9z => h9z.elim (fun t607 h9z => h9z.elim (fun t608 h9z => h9z.elim (fun t609 h9z => h9z.elim (fun t610 h9z => h9z.elim (fun t611 h9z => h9z.elim (fun heq925 h9z => ?_))))))))))))))))))))))))))
              subst heq925
              subst h9z
              have hP : va_P D vwCl [(h_h, .inl (cI, 104, .inl g570)), (h_names, .inl (cJ, 36, .inr (.inl g506))), (h_reserved, .inl (cJ, 23, .inr (.inl f_reserved))), (h0, .inr (10, vL 67 F587)), (h_tape, .inl (cB, 940, .inl f_tape))] H := hP
              have hD : va_D A [(h_h, .inl (cI, 104, .inl g570)), (h_names, .inl (cJ, 36, .inr (.inl g506))), (h_reserved, .inl (cJ, 23, .inr (.inl f_reserved))), (h0, .inr (10, vL 67 F587)), (h_tape, .inl (cB, 940, .inl f_tape))] := hD
              refine W.widen (k := 0) (n := 0) (Nat.le_of_ble_eq_true rfl) (Nat.le_of_ble_eq_true rfl) ?_
              have k613 : 2 ≤ y539.toInt ∧ y539.toInt ≤ 2 := ⟨Int.le_trans (Int.le_refl _) (Int.le_of_eq t607.symm), Int.le_trans (Int.le_of_eq t607) (Int.le_refl _)⟩
              have k614 : 1 ≤ y542.toInt ∧ y542.toInt ≤ 2147483647 := ⟨Int.le_trans (Int.le_refl _) t608, (ir_any _).2⟩
              have k615 : 1 ≤ y542.toInt ∧ y542.toInt ≤ 9 := ⟨k614.1, Int.le_trans t609 (Int.le_refl _)⟩
              refine lv_if_ne (tgt := 196) hx hb dX10_line0_191 (by decide) (fun _ => ?_) (fun g => absurd g (by decide))
              refine lv_aload_n hx hb dX10_line0_196 rfl (lv_at hl 2 rfl) ?_
              have n616 : F587 7 = .ref h_h := (SAME.at t595 (by decide) n567)
              refine get_f (D := D) (ci := 10) (v := .ref h_h) (C := RX10) (T := TX10) (N := 67) hx hb hw inAX10 hown hK hP 3 rfl rfl 7 (by decide) (hw _ q_1268) (fun _ h9 => h9) n616 dX10_line0_197 ?_
              refine lv_bipush (v := 20) hx hb dX10_line0_200 (by decide) ?_
              refine lv_iload_n hx hb dX10_line0_202 rfl (lv_at hl 0 rfl) ?_
              refine lv_iadd hx hb dX10_line0_203 ?_
              refine lv_topi (fun v617 ev617 => ?_)
              have bv617 : v617.toInt = 20 + v459.toInt := by rw [ev617]; exact add_k rfl rfl ⟨Int.le_refl _, Int.le_refl _⟩ k462 (by decide)
              have k618 : 20 ≤ v617.toInt ∧ v617.toInt ≤ 31 := add_r bv617 ⟨Int.le_refl _, Int.le_refl _⟩ k462 (by decide)
              refine lv_aload_n hx hb dX10_line0_204 rfl (lv_at hl 2 rfl) ?_
              refine get_f (D := D) (ci := 10) (v := .int y594) (C := RX10) (T := TX10) (N := 67) hx hb hw inAX10 hown hK hP 3 rfl rfl 19 (by decide) (hw _ q_1280) (fun _ h9 => h9) t606 dX10_line0_205 ?_
              obtain ⟨g619, eg619⟩ : ∃ z : Nat → Int32, upd g570 v617.toNatClampNeg y594 = z := ⟨_, rfl⟩
              have r620 : SG 0 0 0 40 g619 := by rw [← eg619]; exact r571.up (Int.le_trans (by decide) k618.1) (Or.inr (Or.inl (dec_lt k618.1 (by decide))))
              have r621 : SG 44 55 0 9 g619 := by rw [← eg619]; exact r572.up (Int.le_trans (by decide) k618.1) (Or.inl (lt_dec k618.2 (by decide)))
              have r622 : SG 5 5 0 12 g619 := by rw [← eg619]; exact r573.up (Int.le_trans (by decide) k618.1) (Or.inr (Or.inl (dec_lt k618.1 (by decide))))
              have r623 : SG 6 6 0 12 g619 := by rw [← eg619]; exact r574.up (Int.le_trans (by decide) k618.1) (Or.inr (Or.inl (dec_lt k618.1 (by decide))))
              have r624 : SG 7 7 0 6 g619 := by rw [← eg619]; exact r575.up (Int.le_trans (by decide) k618.1) (Or.inr (Or.inl (dec_lt k618.1 (by decide))))
              refine iast_g hx hb hK hP hD hS 0 0 rfl rfl (ix_k k618 (by decide) (by decide)) eg619 dX10_line0_208 (fun H locs hP hD hS => ?_)
              have hP : va_P D vwCl [(h_h, .inl (cI, 104, .inl g619)), (h_names, .inl (cJ, 36, .inr (.inl g506))), (h_reserved, .inl (cJ, 23, .inr (.inl f_reserved))), (h0, .inr (10, vL 67 F587)), (h_tape, .inl (cB, 940, .inl f_tape))] H := hP
              have hD : va_D A [(h_h, .inl (cI, 104, .inl g619)), (h_names, .inl (cJ, 36, .inr (.inl g506))), (h_reserved, .inl (cJ, 23, .inr (.inl f_reserved))), (h0, .inr (10, vL 67 F587)), (h_tape, .inl (cB, 940, .inl f_tape))] := hD
              refine lv_aload_n hx hb dX10_line0_209 rfl (lv_at hl 2 rfl) ?_
              refine lv_bipush (v := 50) hx hb dX10_line0_210 (by decide) ?_
              refine lv_sipush (v := 150) hx hb dX10_line0_212 (by decide) ?_
              have n625 : F587 1 = .ref h_tape := (SAME.at t595 (by decide) n576)
              have n626 : F587 3 = .int x_size := (SAME.at t595 (by decide) n577)
              have n627 : F587 5 = .int x_limit := (SAME.at t595 (by decide) n578)
              refine call_Vi (wr := [(h_h, .inl (cI, 104, .inl g619)), (h_names, .inl (cJ, 36, .inr (.inl g506))), (h_reserved, .inl (cJ, 23, .inr (.inl f_reserved)))]) (As := [.int 50, .int 150]) (rest := []) hx hb hml hown hw (m_X10_takes l D cI cJ cB cP cM cZ h0 h_tape F587 x_size y588 x_limit y589 y590 y592 y593 y594 f_tape 50 150 _ n625 n626 i_x_size t596 t597 n627 i_x_limit t598 t599 t600 t604 t605 t606 (by omega)) wV_X10_242_X10_takes dX10_line0_215 hK hP hD hS hA [3, 4] [0, 1, 2] rfl rfl (by decide) (by decide) (by decide) 0 10 rfl rfl GG.fb hG.at hl.1 rfl (Nat.le_of_ble_eq_true rfl) ⟨(Nat.le_of_ble_eq_true rfl), (Nat.le_of_ble_eq_true rfl)⟩ ⟨(Nat.le_of_ble_eq_true rfl), (Nat.le_of_ble_eq_true rfl)⟩ (fun r628 u H locs hp hP hD hS => ?_)
              have zl50 : (50 : Int32).toInt = 50 := by decide
              have zl150 : (150 : Int32).toInt = 150 := by decide
              rcases hp with hp | hp
              · obtain ⟨F629, y630, t631, t632, t633, t634, t635, rfl, rfl⟩ := hp
                have hP : va_P D vwCl [(h_h, .inl (cI, 104, .inl g619)), (h_names, .inl (cJ, 36, .inr (.inl g506))), (h_reserved, .inl (cJ, 23, .inr (.inl f_reserved))), (h0, .inr (10, vL 67 F629)), (h_tape, .inl (cB, 940, .inl f_tape))] H := hP
                have hD : va_D A [(h_h, .inl (cI, 104, .inl g619)), (h_names, .inl (cJ, 36, .inr (.inl g506))), (h_reserved, .inl (cJ, 23, .inr (.inl f_reserved))), (h0, .inr (10, vL 67 F629)), (h_tape, .inl (cB, 940, .inl f_tape))] := hD
                refine W.widen (k := 0) (n := 0) (Nat.le_of_ble_eq_true rfl) (Nat.le_of_ble_eq_true rfl) ?_
                refine lv_if_ne (tgt := 223) hx hb dX10_line0_218 (by decide) (fun g => absurd (by decide) g) (fun _ => ?_)
                refine lv_iconst (v := 0) hx hb dX10_line0_221 (by decide) ?_
                exact ret_i (v := 0) hx hb hr hlocks hS (hP.sub (ws' := [(h0, .inr (10, vL 67 F629)), (h_tape, .inl (cB, 940, .inl f_tape)), (h_h, .inl (cI, 104, .inl g619)), (h_names, .inl (cJ, 36, .inr (.inl g506))), (h_reserved, .inl (cJ, 23, .inr (.inl f_reserved)))]) [3, 4, 0, 1, 2] rfl) (hD.sub (ws' := [(h0, .inr (10, vL 67 F629)), (h_tape, .inl (cB, 940, .inl f_tape)), (h_h, .inl (cI, 104, .inl g619)), (h_names, .inl (cJ, 36, .inr (.inl g506))), (h_reserved, .inl (cJ, 23, .inr (.inl f_reserved)))]) [3, 4, 0, 1, 2] (by decide) rfl) dX10_line0_222 rfl (Nat.le_of_ble_eq_true rfl) (Nat.le_of_ble_eq_true rfl) ⟨F629, y588, y589, y590, y591, y592, y630, y590, y593, y594, x_onces, g619, g506, (SAME.tr (SAME.tr (SAME.tr (SAME.tr (SAME.tr SAME.rf t471 (by decide)) t507 (by decide)) t545 (by decide)) t595 (by decide)) t631 (by decide)), (SAME.at t631 (by decide) t596), t597, (SAME.at t631 (by decide) t598), t599, (SAME.at t631 (by decide) t600), (SAME.at t631 (by decide) t602), (SAME.at t631 (by decide) t604), t632, t634, (SAME.at t631 (by decide) t605), (SAME.at t631 (by decide) t606), (SAME.at t631 (by decide) (SAME.at t595 (by decide) (SAME.at t545 (by decide) (SAME.at t507 (by decide) (SAME.at t471 (by decide) e_onces))))), r620, r622, r623, r624, r621, (show 0 ≤ (0 : Int32).toInt ∧ (0 : Int32).toInt ≤ 1 by decide), (by have zl0 : (0 : Int32).toInt = 0 := (by decide); omega), (by omega), rfl⟩
              · refine hp.elim (fun F636 h9z => h9z.elim (fun y637 h9z => h9z.elim (fun y638 h9z => h9z.elim (fun y639 h9z => h9z.elim (fun y640 h9z => h9z.elim (fun y641 h9z => h9z.elim (fun y642 h9z => h9z.elim (fun y643 h9z => h9z.elim (fun t644 h9z => h9z.elim (fun t645 h9z => h9z.elim (fun t646 h9z => h9z.elim (fun t647 h9z => h9z.elim (fun t648 h9z => h9z.elim (fun t649 h9z => h9z.elim (fun t650 h9z => h9z.elim (fun t651 h9z => h9z.elim (fun t652 h9z => h9z.elim (fun t653 h9z => h9z.elim (fun t654 h9z => h9z.elim (fun t655 h9z => h9z.elim (fun t656 h9z => h9z.elim (fun t657 h9z => h9z.elim (fun t658 h9z => h9z.elim (fun t659 h9z => h9z.elim (fun t660 h9z => h9z.elim (fun heq925 h9z => ?_))))))))))))))))))))))))))
                subst heq925
                subst h9z
                have hP : va_P D vwCl [(h_h, .inl (cI, 104, .inl g619)), (h_names, .inl (cJ, 36, .inr (.inl g506))), (h_reserved, .inl (cJ, 23, .inr (.inl f_reserved))), (h0, .inr (10, vL 67 F636)), (h_tape, .inl (cB, 940, .inl f_tape))] H := hP
                have hD : va_D A [(h_h, .inl (cI, 104, .inl g619)), (h_names, .inl (cJ, 36, .inr (.inl g506))), (h_reserved, .inl (cJ, 23, .inr (.inl f_reserved))), (h0, .inr (10, vL 67 F636)), (h_tape, .inl (cB, 940, .inl f_tape))] := hD
                refine W.widen (k := 0) (n := 0) (Nat.le_of_ble_eq_true rfl) (Nat.le_of_ble_eq_true rfl) ?_
                have k662 : 2 ≤ y589.toInt ∧ y589.toInt ≤ 2 := ⟨Int.le_trans (Int.le_refl _) (Int.le_of_eq t656.symm), Int.le_trans (Int.le_of_eq t656) (Int.le_refl _)⟩
                have k663 : 50 ≤ y592.toInt ∧ y592.toInt ≤ 2147483647 := ⟨Int.le_trans (Int.le_refl _) t657, (ir_any _).2⟩
                have k664 : 50 ≤ y592.toInt ∧ y592.toInt ≤ 150 := ⟨k663.1, Int.le_trans t658 (Int.le_refl _)⟩
                refine lv_if_ne (tgt := 223) hx hb dX10_line0_218 (by decide) (fun _ => ?_) (fun g => absurd g (by decide))
                refine lv_aload_n hx hb dX10_line0_223 rfl (lv_at hl 2 rfl) ?_
                have n665 : F636 7 = .ref h_h := (SAME.at t644 (by decide) n616)
                refine get_f (D := D) (ci := 10) (v := .ref h_h) (C := RX10) (T := TX10) (N := 67) hx hb hw inAX10 hown hK hP 3 rfl rfl 7 (by decide) (hw _ q_1268) (fun _ h9 => h9) n665 dX10_line0_224 ?_
                refine lv_bipush (v := 32) hx hb dX10_line0_227 (by decide) ?_
                refine lv_iload_n hx hb dX10_line0_229 rfl (lv_at hl 0 rfl) ?_
                refine lv_iadd hx hb dX10_line0_230 ?_
                refine lv_topi (fun v666 ev666 => ?_)
                have bv666 : v666.toInt = 32 + v459.toInt := by rw [ev666]; exact add_k rfl rfl ⟨Int.le_refl _, Int.le_refl _⟩ k462 (by decide)
                have k667 : 32 ≤ v666.toInt ∧ v666.toInt ≤ 43 := add_r bv666 ⟨Int.le_refl _, Int.le_refl _⟩ k462 (by decide)
                refine lv_aload_n hx hb dX10_line0_231 rfl (lv_at hl 2 rfl) ?_
                refine get_f (D := D) (ci := 10) (v := .int y643) (C := RX10) (T := TX10) (N := 67) hx hb hw inAX10 hown hK hP 3 rfl rfl 19 (by decide) (hw _ q_1280) (fun _ h9 => h9) t655 dX10_line0_232 ?_
                obtain ⟨g668, eg668⟩ : ∃ z : Nat → Int32, upd g619 v666.toNatClampNeg y643 = z := ⟨_, rfl⟩
                have r669 : SG 0 0 0 40 g668 := by rw [← eg668]; exact r620.up (Int.le_trans (by decide) k667.1) (Or.inr (Or.inl (dec_lt k667.1 (by decide))))
                have r670 : SG 44 55 0 9 g668 := by rw [← eg668]; exact r621.up (Int.le_trans (by decide) k667.1) (Or.inl (lt_dec k667.2 (by decide)))
                have r671 : SG 5 5 0 12 g668 := by rw [← eg668]; exact r622.up (Int.le_trans (by decide) k667.1) (Or.inr (Or.inl (dec_lt k667.1 (by decide))))
                have r672 : SG 6 6 0 12 g668 := by rw [← eg668]; exact r623.up (Int.le_trans (by decide) k667.1) (Or.inr (Or.inl (dec_lt k667.1 (by decide))))
                have r673 : SG 7 7 0 6 g668 := by rw [← eg668]; exact r624.up (Int.le_trans (by decide) k667.1) (Or.inr (Or.inl (dec_lt k667.1 (by decide))))
                refine iast_g hx hb hK hP hD hS 0 0 rfl rfl (ix_k k667 (by decide) (by decide)) eg668 dX10_line0_235 (fun H locs hP hD hS => ?_)
                have hP : va_P D vwCl [(h_h, .inl (cI, 104, .inl g668)), (h_names, .inl (cJ, 36, .inr (.inl g506))), (h_reserved, .inl (cJ, 23, .inr (.inl f_reserved))), (h0, .inr (10, vL 67 F636)), (h_tape, .inl (cB, 940, .inl f_tape))] H := hP
                have hD : va_D A [(h_h, .inl (cI, 104, .inl g668)), (h_names, .inl (cJ, 36, .inr (.inl g506))), (h_reserved, .inl (cJ, 23, .inr (.inl f_reserved))), (h0, .inr (10, vL 67 F636)), (h_tape, .inl (cB, 940, .inl f_tape))] := hD
                refine lv_aload_n hx hb dX10_line0_236 rfl (lv_at hl 2 rfl) ?_
                refine get_f (D := D) (ci := 10) (v := .ref h_h) (C := RX10) (T := TX10) (N := 67) hx hb hw inAX10 hown hK hP 3 rfl rfl 7 (by decide) (hw _ q_1268) (fun _ h9 => h9) n665 dX10_line0_237 ?_
                refine lv_iconst (v := 5) hx hb dX10_line0_240 (by decide) ?_
                refine lv_dup2_11 hx hb dX10_line0_241 rfl rfl ?_
                refine iald_n hx hb hK hP 0 0 rfl rfl 5 rfl (Nat.le_of_ble_eq_true rfl) (Nat.le_of_ble_eq_true rfl) rfl dX10_line0_242 ?_
                refine lv_topi (fun v674 ev674 => ?_)
                have k675 : 0 ≤ v674.toInt ∧ v674.toInt ≤ 12 := by rw [ev674]; exact r671.atN 5 (by decide) (by decide)
                refine lv_iconst (v := 1) hx hb dX10_line0_243 (by decide) ?_
                refine lv_iadd hx hb dX10_line0_244 ?_
                refine lv_topi (fun v676 ev676 => ?_)
                have bv676 : v676.toInt = v674.toInt + 1 := by rw [ev676]; exact add_k rfl rfl k675 ⟨Int.le_refl _, Int.le_refl _⟩ (by decide)
                have k677 : 1 ≤ v676.toInt ∧ v676.toInt ≤ 13 := add_r bv676 k675 ⟨Int.le_refl _, Int.le_refl _⟩ (by decide)
                obtain ⟨g678, eg678⟩ : ∃ z : Nat → Int32, upd g668 5 v676 = z := ⟨_, rfl⟩
                have r679 : SG 0 0 0 40 g678 := by rw [← eg678]; exact r669.upN (by decide)
                have r680 : SG 44 55 0 9 g678 := by rw [← eg678]; exact r670.upN (by decide)
                have r681 : SG 5 5 0 12 g678 := by rw [← eg678]; exact r671.upN (by omega)
                have r682 : SG 6 6 0 12 g678 := by rw [← eg678]; exact r672.upN (by decide)
                have r683 : SG 7 7 0 6 g678 := by rw [← eg678]; exact r673.upN (by decide)
                refine iast_n hx hb hK hP hD hS 0 0 rfl rfl 5 rfl (Nat.le_of_ble_eq_true rfl) (Nat.le_of_ble_eq_true rfl) eg678 dX10_line0_245 (fun H locs hP hD hS => ?_)
                have hP : va_P D vwCl [(h_h, .inl (cI, 104, .inl g678)), (h_names, .inl (cJ, 36, .inr (.inl g506))), (h_reserved, .inl (cJ, 23, .inr (.inl f_reserved))), (h0, .inr (10, vL 67 F636)), (h_tape, .inl (cB, 940, .inl f_tape))] H := hP
                have hD : va_D A [(h_h, .inl (cI, 104, .inl g678)), (h_names, .inl (cJ, 36, .inr (.inl g506))), (h_reserved, .inl (cJ, 23, .inr (.inl f_reserved))), (h0, .inr (10, vL 67 F636)), (h_tape, .inl (cB, 940, .inl f_tape))] := hD
                refine lv_iconst (v := 1) hx hb dX10_line0_246 (by decide) ?_
                exact ret_i (v := 1) hx hb hr hlocks hS (hP.sub (ws' := [(h0, .inr (10, vL 67 F636)), (h_tape, .inl (cB, 940, .inl f_tape)), (h_h, .inl (cI, 104, .inl g678)), (h_names, .inl (cJ, 36, .inr (.inl g506))), (h_reserved, .inl (cJ, 23, .inr (.inl f_reserved)))]) [3, 4, 0, 1, 2] rfl) (hD.sub (ws' := [(h0, .inr (10, vL 67 F636)), (h_tape, .inl (cB, 940, .inl f_tape)), (h_h, .inl (cI, 104, .inl g678)), (h_names, .inl (cJ, 36, .inr (.inl g506))), (h_reserved, .inl (cJ, 23, .inr (.inl f_reserved)))]) [3, 4, 0, 1, 2] (by decide) rfl) dX10_line0_247 rfl (Nat.le_of_ble_eq_true rfl) (Nat.le_of_ble_eq_true rfl) ⟨F636, y637, y638, y639, y640, y641, y503, y504, y642, y643, x_onces, g678, g506, (SAME.tr (SAME.tr (SAME.tr (SAME.tr (SAME.tr SAME.rf t471 (by decide)) t507 (by decide)) t545 (by decide)) t595 (by decide)) t644 (by decide)), t645, t646, t647, t648, t649, t651, t653, (SAME.at t644 (by decide) (SAME.at t595 (by decide) (SAME.at t545 (by decide) t515))), (SAME.at t644 (by decide) (SAME.at t595 (by decide) (SAME.at t545 (by decide) t516))), t654, t655, (SAME.at t644 (by decide) (SAME.at t595 (by decide) (SAME.at t545 (by decide) (SAME.at t507 (by decide) (SAME.at t471 (by decide) e_onces))))), r679, r681, r682, r683, r680, (show 0 ≤ (1 : Int32).toInt ∧ (1 : Int32).toInt ≤ 1 by decide), (by have zl1 : (1 : Int32).toInt = 1 := (by decide); omega), (by omega), rfl⟩
        · have dc522 : r496.toInt = 0 := eq_i (a := r496.toInt) (b := 0) rfl rfl c522
          have k684 : 0 ≤ r496.toInt ∧ r496.toInt ≤ 0 := ⟨t518.1, Int.le_trans (Int.le_of_eq dc522) (Int.le_refl _)⟩
          refine lv_iconst (v := 0) hx hb dX10_line0_157 (by decide) ?_
          exact ret_i (v := 0) hx hb hr hlocks hS hP hD dX10_line0_158 rfl (Nat.le_of_ble_eq_true rfl) (Nat.le_of_ble_eq_true rfl) ⟨F497, y498, y499, y500, y501, y502, y503, y504, y505, x_got, x_onces, f_h, g506, (SAME.tr (SAME.tr SAME.rf t471 (by decide)) t507 (by decide)), t508, t509, t510, t511, t512, t513, t514, t515, t516, t517, (SAME.at t507 (by decide) (SAME.at t471 (by decide) e_got)), (SAME.at t507 (by decide) (SAME.at t471 (by decide) e_onces)), s_h_0, s_h_5, s_h_6, s_h_7, s_h_44, (show 0 ≤ (0 : Int32).toInt ∧ (0 : Int32).toInt ≤ 1 by decide), (by have zl0 : (0 : Int32).toInt = 0 := (by decide); omega), (by omega), rfl⟩
      · have dc461 : v459.toInt = 12 := eq_i (a := v459.toInt) (b := 12) rfl rfl c461
        have k685 : 12 ≤ v459.toInt ∧ v459.toInt ≤ 12 := ⟨Int.le_trans (Int.le_refl _) (Int.le_of_eq dc461.symm), k460.2⟩
        refine lv_aload_n hx hb dX10_line0_136 rfl (lv_at hl 2 rfl) ?_
        refine lv_iconst (v := 4) hx hb dX10_line0_137 (by decide) ?_
        refine call_Vi (wr := [(h_tape, .inl (cB, 940, .inl f_tape)), (h_h, .inl (cI, 104, .inl f_h)), (h_names, .inl (cJ, 36, .inr (.inl f_names))), (h_reserved, .inl (cJ, 23, .inr (.inl f_reserved)))]) (As := [.int 4]) (rest := []) hx hb hml hown hw (m_X10_bad l D cI cJ cB cP cM cZ h0 Fh x_at 4 _ e_at) wV_X10_205_X10_bad dX10_line0_138 hK hP hD hS hA [4] [0, 1, 2, 3] rfl rfl (by decide) (by decide) (by decide) 0 10 rfl rfl GG.fb hG.at hl.1 rfl (Nat.le_of_ble_eq_true rfl) ⟨(Nat.le_of_ble_eq_true rfl), (Nat.le_of_ble_eq_true rfl)⟩ ⟨(Nat.le_of_ble_eq_true rfl), (Nat.le_of_ble_eq_true rfl)⟩ (fun r686 u H locs hp hP hD hS => ?_)
        have zl4 : (4 : Int32).toInt = 4 := by decide
        obtain ⟨F687, t688, t689, t690, rfl, rfl⟩ := hp
        have hP : va_P D vwCl [(h_tape, .inl (cB, 940, .inl f_tape)), (h_h, .inl (cI, 104, .inl f_h)), (h_names, .inl (cJ, 36, .inr (.inl f_names))), (h_reserved, .inl (cJ, 23, .inr (.inl f_reserved))), (h0, .inr (10, vL 67 F687))] H := hP
        have hD : va_D A [(h_tape, .inl (cB, 940, .inl f_tape)), (h_h, .inl (cI, 104, .inl f_h)), (h_names, .inl (cJ, 36, .inr (.inl f_names))), (h_reserved, .inl (cJ, 23, .inr (.inl f_reserved))), (h0, .inr (10, vL 67 F687))] := hD
        refine W.widen (k := 0) (n := 0) (Nat.le_of_ble_eq_true rfl) (Nat.le_of_ble_eq_true rfl) ?_
        exact ret_i (v := 0) hx hb hr hlocks hS (hP.sub (ws' := [(h0, .inr (10, vL 67 F687)), (h_tape, .inl (cB, 940, .inl f_tape)), (h_h, .inl (cI, 104, .inl f_h)), (h_names, .inl (cJ, 36, .inr (.inl f_names))), (h_reserved, .inl (cJ, 23, .inr (.inl f_reserved)))]) [4, 0, 1, 2, 3] rfl) (hD.sub (ws' := [(h0, .inr (10, vL 67 F687)), (h_tape, .inl (cB, 940, .inl f_tape)), (h_h, .inl (cI, 104, .inl f_h)), (h_names, .inl (cJ, 36, .inr (.inl f_names))), (h_reserved, .inl (cJ, 23, .inr (.inl f_reserved)))]) [4, 0, 1, 2, 3] (by decide) rfl) dX10_line0_141 rfl (Nat.le_of_ble_eq_true rfl) (Nat.le_of_ble_eq_true rfl) ⟨F687, x_p, x_token, x_at, x_span, x_number, 4, x_at, x_word, x_got, x_onces, f_h, f_names, (SAME.tr SAME.rf t688 (by decide)), (SAME.at t688 (by decide) e_p), i_x_p, (SAME.at t688 (by decide) e_token), i_x_token, (SAME.at t688 (by decide) e_at), (SAME.at t688 (by decide) e_span), (SAME.at t688 (by decide) e_number), t689, t690, (SAME.at t688 (by decide) e_word), (SAME.at t688 (by decide) e_got), (SAME.at t688 (by decide) e_onces), s_h_0, s_h_5, s_h_6, s_h_7, s_h_44, (show 0 ≤ (0 : Int32).toInt ∧ (0 : Int32).toInt ≤ 1 by decide), (by have zl0 : (0 : Int32).toInt = 0 := (by decide); omega), (by have zl4 : (4 : Int32).toInt = 4 := (by decide); omega), rfl⟩
  · have dc4 : 0 ≤ r1.toInt := nlt_i (a := r1.toInt) (b := 0) rfl rfl c4
    have k692 : 0 ≤ r1.toInt ∧ r1.toInt ≤ 4 := ⟨Int.le_trans (Int.le_refl _) dc4, t2.2⟩
    refine lv_aload_n hx hb dX10_line0_9 rfl (lv_at hl 1 rfl) ?_
    refine lv_iload_n hx hb dX10_line0_10 rfl (lv_at hl 0 rfl) ?_
    refine call_Vi (wr := [(h_h, .inl (cI, 104, .inl f_h)), (h_names, .inl (cJ, 36, .inr (.inl f_names))), (h_reserved, .inl (cJ, 23, .inr (.inl f_reserved)))]) (As := [.int r1]) (rest := []) hx hb hml hown hw (m_X10_isOnce l D cI cJ cB cP cM cZ h0 h_tape Fh x_size x_p x_limit x_token x_at x_span x_number x_fault x_faultAt x_word x_onces f_tape r1 _ e_tape e_size i_x_size e_p i_x_p e_limit i_x_limit e_token i_x_token e_at e_span e_number e_fault e_faultAt e_word e_onces (by omega)) wV_X10_239_X10_isOnce dX10_line0_11 hK hP hD hS hA [4, 0] [1, 2, 3] rfl rfl (by decide) (by decide) (by decide) 0 10 rfl rfl GG.fb hG.at hl.1 rfl (Nat.le_of_ble_eq_true rfl) ⟨(Nat.le_of_ble_eq_true rfl), (Nat.le_of_ble_eq_true rfl)⟩ ⟨(Nat.le_of_ble_eq_true rfl), (Nat.le_of_ble_eq_true rfl)⟩ (fun r693 u H locs hp hP hD hS => ?_)
    refine hp.elim (fun F694 h9z => h9z.elim (fun y695 h9z => h9z.elim (fun y696 h9z => h9z.elim (fun y697 h9z => h9z.elim (fun y698 h9z => h9z.elim (fun y699 h9z => h9z.elim (fun y700 h9z => h9z.elim (fun y701 h9z => h9z.elim (fun y702 h9z => h9z.elim (fun y703 h9z => h9z.elim (fun t704 h9z => h9z.elim (fun t705 h9z => h9z.elim (fun t706 h9z => h9z.elim (fun t707 h9z => h9z.elim (fun t708 h9z => h9z.elim (fun t709 h9z => h9z.elim (fun t710 h9z => h9z.elim (fun t711 h9z => h9z.elim (fun t712 h9z => h9z.elim (fun t713 h9z => h9z.elim (fun t714 h9z => h9z.elim (fun t715 h9z => h9z.elim (fun t716 h9z => h9z.elim (fun t717 h9z => h9z.elim (fun t718 h9z => ?_)))))))))))))))))))))))))
    subst h9z
    have hP : va_P D vwCl [(h_h, .inl (cI, 104, .inl f_h)), (h_names, .inl (cJ, 36, .inr (.inl f_names))), (h_reserved, .inl (cJ, 23, .inr (.inl f_reserved))), (h0, .inr (10, vL 67 F694)), (h_tape, .inl (cB, 940, .inl f_tape))] H := hP
    have hD : va_D A [(h_h, .inl (cI, 104, .inl f_h)), (h_names, .inl (cJ, 36, .inr (.inl f_names))), (h_reserved, .inl (cJ, 23, .inr (.inl f_reserved))), (h0, .inr (10, vL 67 F694)), (h_tape, .inl (cB, 940, .inl f_tape))] := hD
    refine W.widen (k := 0) (n := 0) (Nat.le_of_ble_eq_true rfl) (Nat.le_of_ble_eq_true rfl) ?_
    refine lv_if_ne (tgt := 19) hx hb dX10_line0_14 (by decide) (fun c720 => ?_) (fun c720 => ?_)
    · have dc720 : r693.toInt ≠ 0 := ne_i (a := r693.toInt) (b := 0) rfl rfl c720
      have k721 : 1 ≤ r693.toInt ∧ r693.toInt ≤ 1 := ⟨ne_lo dc720 t716.1 ⟨Int.le_refl _, Int.le_refl _⟩ (by decide), t716.2⟩
      refine lv_aload_n hx hb dX10_line0_19 rfl (lv_at hl 1 rfl) ?_
      refine lv_iload_n hx hb dX10_line0_20 rfl (lv_at hl 0 rfl) ?_
      refine lv_if_ne (tgt := 28) hx hb dX10_line0_21 (by decide) (fun c722 => ?_) (fun c722 => ?_)
      · have dc722 : r1.toInt ≠ 0 := ne_i (a := r1.toInt) (b := 0) rfl rfl c722
        have k723 : 1 ≤ r1.toInt ∧ r1.toInt ≤ 4 := ⟨ne_lo dc722 k692.1 ⟨Int.le_refl _, Int.le_refl _⟩ (by decide), k692.2⟩
        refine lv_iload_n hx hb dX10_line0_28 rfl (lv_at hl 0 rfl) ?_
        refine lv_iconst (v := 1) hx hb dX10_line0_29 (by decide) ?_
        refine lv_icmp_ne (tgt := 38) hx hb dX10_line0_30 (by decide) (fun c724 => ?_) (fun c724 => ?_)
        · have dc724 : r1.toInt ≠ 1 := ne_i (a := r1.toInt) (b := 1) rfl rfl c724
          have k725 : 2 ≤ r1.toInt ∧ r1.toInt ≤ 4 := ⟨ne_lo dc724 k723.1 ⟨Int.le_refl _, Int.le_refl _⟩ (by decide), k723.2⟩
          refine lv_iload_n hx hb dX10_line0_38 rfl (lv_at hl 0 rfl) ?_
          refine lv_iconst (v := 2) hx hb dX10_line0_39 (by decide) ?_
          refine lv_icmp_ne (tgt := 49) hx hb dX10_line0_40 (by decide) (fun c726 => ?_) (fun c726 => ?_)
          · have dc726 : r1.toInt ≠ 2 := ne_i (a := r1.toInt) (b := 2) rfl rfl c726
            have k727 : 3 ≤ r1.toInt ∧ r1.toInt ≤ 4 := ⟨ne_lo dc726 k725.1 ⟨Int.le_refl _, Int.le_refl _⟩ (by decide), k725.2⟩
            refine lv_iconst (v := 0) hx hb dX10_line0_49 (by decide) ?_
            refine lv_iload_n hx hb dX10_line0_50 rfl (lv_at hl 0 rfl) ?_
            refine lv_if_ne (tgt := 59) hx hb dX10_line0_51 (by decide) (fun c728 => ?_) (fun c728 => False.elim (bad_le (Int.le_of_eq (eq_i (a := r1.toInt) (b := 0) rfl rfl c728)) k727.1 (Int.le_refl _) (by decide)))
            have dc728 : r1.toInt ≠ 0 := ne_i (a := r1.toInt) (b := 0) rfl rfl c728
            refine lv_iload_n hx hb dX10_line0_59 rfl (lv_at hl 0 rfl) ?_
            refine lv_iconst (v := 1) hx hb dX10_line0_60 (by decide) ?_
            refine lv_icmp_ne (tgt := 70) hx hb dX10_line0_61 (by decide) (fun c729 => ?_) (fun c729 => False.elim (bad_le (Int.le_of_eq (eq_i (a := r1.toInt) (b := 1) rfl rfl c729)) k727.1 (Int.le_refl _) (by decide)))
            have dc729 : r1.toInt ≠ 1 := ne_i (a := r1.toInt) (b := 1) rfl rfl c729
            refine lv_iload_n hx hb dX10_line0_70 rfl (lv_at hl 0 rfl) ?_
            refine lv_iconst (v := 2) hx hb dX10_line0_71 (by decide) ?_
            refine lv_icmp_ne (tgt := 81) hx hb dX10_line0_72 (by decide) (fun c730 => ?_) (fun c730 => False.elim (bad_le (Int.le_of_eq (eq_i (a := r1.toInt) (b := 2) rfl rfl c730)) k727.1 (Int.le_refl _) (by decide)))
            have dc730 : r1.toInt ≠ 2 := ne_i (a := r1.toInt) (b := 2) rfl rfl c730
            refine lv_iload_n hx hb dX10_line0_81 rfl (lv_at hl 0 rfl) ?_
            refine lv_iconst (v := 3) hx hb dX10_line0_82 (by decide) ?_
            refine lv_icmp_ne (tgt := 91) hx hb dX10_line0_83 (by decide) (fun c731 => ?_) (fun c731 => ?_)
            · have dc731 : r1.toInt ≠ 3 := ne_i (a := r1.toInt) (b := 3) rfl rfl c731
              have k732 : 4 ≤ r1.toInt ∧ r1.toInt ≤ 4 := ⟨ne_lo dc731 k727.1 ⟨Int.le_refl _, Int.le_refl _⟩ (by decide), k727.2⟩
              refine lv_bipush (v := 20) hx hb dX10_line0_91 (by decide) ?_
              have n733 : F694 1 = .ref h_tape := (SAME.at t704 (by decide) e_tape)
              have n734 : F694 3 = .int x_size := (SAME.at t704 (by decide) e_size)
              have n735 : F694 5 = .int x_limit := (SAME.at t704 (by decide) e_limit)
              have n736 : F694 19 = .int x_got := (SAME.at t704 (by decide) e_got)
              refine call_Vi (wr := [(h_h, .inl (cI, 104, .inl f_h)), (h_names, .inl (cJ, 36, .inr (.inl f_names))), (h_reserved, .inl (cJ, 23, .inr (.inl f_reserved)))]) (As := [.int 0, .int 20]) (rest := []) hx hb hml hown hw (m_X10_takes l D cI cJ cB cP cM cZ h0 h_tape F694 x_size y695 x_limit y696 y697 y699 y702 x_got f_tape 0 20 _ n733 n734 i_x_size t705 t706 n735 i_x_limit t707 t708 t709 t711 t714 n736 (by omega)) wV_X10_242_X10_takes dX10_line0_93 hK hP hD hS hA [3, 4] [0, 1, 2] rfl rfl (by decide) (by decide) (by decide) 0 10 rfl rfl GG.fb hG.at hl.1 rfl (Nat.le_of_ble_eq_true rfl) ⟨(Nat.le_of_ble_eq_true rfl), (Nat.le_of_ble_eq_true rfl)⟩ ⟨(Nat.le_of_ble_eq_true rfl), (Nat.le_of_ble_eq_true rfl)⟩ (fun r737 u H locs hp hP hD hS => ?_)
              have zl0 : (0 : Int32).toInt = 0 := by decide
              have zl20 : (20 : Int32).toInt = 20 := by decide
              rcases hp with hp | hp
              · obtain ⟨F738, y739, t740, t741, t742, t743, t744, rfl, rfl⟩ := hp
                have hP : va_P D vwCl [(h_h, .inl (cI, 104, .inl f_h)), (h_names, .inl (cJ, 36, .inr (.inl f_names))), (h_reserved, .inl (cJ, 23, .inr (.inl f_reserved))), (h0, .inr (10, vL 67 F738)), (h_tape, .inl (cB, 940, .inl f_tape))] H := hP
                have hD : va_D A [(h_h, .inl (cI, 104, .inl f_h)), (h_names, .inl (cJ, 36, .inr (.inl f_names))), (h_reserved, .inl (cJ, 23, .inr (.inl f_reserved))), (h0, .inr (10, vL 67 F738)), (h_tape, .inl (cB, 940, .inl f_tape))] := hD
                refine W.widen (k := 0) (n := 0) (Nat.le_of_ble_eq_true rfl) (Nat.le_of_ble_eq_true rfl) ?_
                refine lv_if_ne (tgt := 101) hx hb dX10_line0_96 (by decide) (fun g => absurd (by decide) g) (fun _ => ?_)
                refine lv_iconst (v := 0) hx hb dX10_line0_99 (by decide) ?_
                exact ret_i (v := 0) hx hb hr hlocks hS (hP.sub (ws' := [(h0, .inr (10, vL 67 F738)), (h_tape, .inl (cB, 940, .inl f_tape)), (h_h, .inl (cI, 104, .inl f_h)), (h_names, .inl (cJ, 36, .inr (.inl f_names))), (h_reserved, .inl (cJ, 23, .inr (.inl f_reserved)))]) [3, 4, 0, 1, 2] rfl) (hD.sub (ws' := [(h0, .inr (10, vL 67 F738)), (h_tape, .inl (cB, 940, .inl f_tape)), (h_h, .inl (cI, 104, .inl f_h)), (h_names, .inl (cJ, 36, .inr (.inl f_names))), (h_reserved, .inl (cJ, 23, .inr (.inl f_reserved)))]) [3, 4, 0, 1, 2] (by decide) rfl) dX10_line0_100 rfl (Nat.le_of_ble_eq_true rfl) (Nat.le_of_ble_eq_true rfl) ⟨F738, y695, y696, y697, y698, y699, y739, y697, y702, x_got, y703, f_h, f_names, (SAME.tr (SAME.tr SAME.rf t704 (by decide)) t740 (by decide)), (SAME.at t740 (by decide) t705), t706, (SAME.at t740 (by decide) t707), t708, (SAME.at t740 (by decide) t709), (SAME.at t740 (by decide) t710), (SAME.at t740 (by decide) t711), t741, t743, (SAME.at t740 (by decide) t714), (SAME.at t740 (by decide) n736), (SAME.at t740 (by decide) t715), s_h_0, s_h_5, s_h_6, s_h_7, s_h_44, (show 0 ≤ (0 : Int32).toInt ∧ (0 : Int32).toInt ≤ 1 by decide), (by have zl0 : (0 : Int32).toInt = 0 := (by decide); omega), (by omega), rfl⟩
              · refine hp.elim (fun F745 h9z => h9z.elim (fun y746 h9z => h9z.elim (fun y747 h9z => h9z.elim (fun y748 h9z => h9z.elim (fun y749 h9z => h9z.elim (fun y750 h9z => h9z.elim (fun y751 h9z => h9z.elim (fun y752 h9z => h9z.elim (fun t753 h9z => h9z.elim (fun t754 h9z => h9z.elim (fun t755 h9z => h9z.elim (fun t756 h9z => h9z.elim (fun t757 h9z => h9z.elim (fun t758 h9z => h9z.elim (fun t759 h9z => h9z.elim (fun t760 h9z => h9z.elim (fun t761 h9z => h9z.elim (fun t762 h9z => h9z.elim (fun t763 h9z => h9z.elim (fun t764 h9z => h9z.elim (fun t765 h9z => h9z.elim (fun t766 h9z => h9z.elim (fun t767 h9z => h9z.elim (fun t768 h9z => h9z.elim (fun t769 h9z => h9z.elim (fun heq925 h9z => ?_))))))))))))))))))))))))))
                subst heq925
                subst h9z
                have hP : va_P D vwCl [(h_h, .inl (cI, 104, .inl f_h)), (h_names, .inl (cJ, 36, .inr (.inl f_names))), (h_reserved, .inl (cJ, 23, .inr (.inl f_reserved))), (h0, .inr (10, vL 67 F745)), (h_tape, .inl (cB, 940, .inl f_tape))] H := hP
                have hD : va_D A [(h_h, .inl (cI, 104, .inl f_h)), (h_names, .inl (cJ, 36, .inr (.inl f_names))), (h_reserved, .inl (cJ, 23, .inr (.inl f_reserved))), (h0, .inr (10, vL 67 F745)), (h_tape, .inl (cB, 940, .inl f_tape))] := hD
                refine W.widen (k := 0) (n := 0) (Nat.le_of_ble_eq_true rfl) (Nat.le_of_ble_eq_true rfl) ?_
                have k771 : 2 ≤ y696.toInt ∧ y696.toInt ≤ 2 := ⟨Int.le_trans (Int.le_refl _) (Int.le_of_eq t765.symm), Int.le_trans (Int.le_of_eq t765) (Int.le_refl _)⟩
                have k772 : 0 ≤ y699.toInt ∧ y699.toInt ≤ 2147483647 := ⟨Int.le_trans (Int.le_refl _) t766, (ir_any _).2⟩
                have k773 : 0 ≤ y699.toInt ∧ y699.toInt ≤ 20 := ⟨k772.1, Int.le_trans t767 (Int.le_refl _)⟩
                refine lv_if_ne (tgt := 101) hx hb dX10_line0_96 (by decide) (fun _ => ?_) (fun g => absurd g (by decide))
                refine lv_aload_n hx hb dX10_line0_101 rfl (lv_at hl 1 rfl) ?_
                have n774 : F694 7 = .ref h_h := (SAME.at t704 (by decide) e_h)
                have n775 : F745 7 = .ref h_h := (SAME.at t753 (by decide) n774)
                refine get_f (D := D) (ci := 10) (v := .ref h_h) (C := RX10) (T := TX10) (N := 67) hx hb hw inAX10 hown hK hP 3 rfl rfl 7 (by decide) (hw _ q_1268) (fun _ h9 => h9) n775 dX10_line0_102 ?_
                refine lv_iload_n hx hb dX10_line0_105 rfl (lv_at hl 0 rfl) ?_
                refine lv_aload_n hx hb dX10_line0_106 rfl (lv_at hl 1 rfl) ?_
                refine get_f (D := D) (ci := 10) (v := .int y752) (C := RX10) (T := TX10) (N := 67) hx hb hw inAX10 hown hK hP 3 rfl rfl 19 (by decide) (hw _ q_1280) (fun _ h9 => h9) t764 dX10_line0_107 ?_
                obtain ⟨g776, eg776⟩ : ∃ z : Nat → Int32, upd f_h r1.toNatClampNeg y752 = z := ⟨_, rfl⟩
                have r777 : SG 0 0 0 40 g776 := by rw [← eg776]; exact s_h_0.up (Int.le_trans (by decide) k732.1) (Or.inr (Or.inl (dec_lt k732.1 (by decide))))
                have r778 : SG 44 55 0 9 g776 := by rw [← eg776]; exact s_h_44.up (Int.le_trans (by decide) k732.1) (Or.inl (lt_dec k732.2 (by decide)))
                have r779 : SG 5 5 0 12 g776 := by rw [← eg776]; exact s_h_5.up (Int.le_trans (by decide) k732.1) (Or.inl (lt_dec k732.2 (by decide)))
                have r780 : SG 6 6 0 12 g776 := by rw [← eg776]; exact s_h_6.up (Int.le_trans (by decide) k732.1) (Or.inl (lt_dec k732.2 (by decide)))
                have r781 : SG 7 7 0 6 g776 := by rw [← eg776]; exact s_h_7.up (Int.le_trans (by decide) k732.1) (Or.inl (lt_dec k732.2 (by decide)))
                refine iast_g hx hb hK hP hD hS 0 0 rfl rfl (ix_k k732 (by decide) (by decide)) eg776 dX10_line0_110 (fun H locs hP hD hS => ?_)
                have hP : va_P D vwCl [(h_h, .inl (cI, 104, .inl g776)), (h_names, .inl (cJ, 36, .inr (.inl f_names))), (h_reserved, .inl (cJ, 23, .inr (.inl f_reserved))), (h0, .inr (10, vL 67 F745)), (h_tape, .inl (cB, 940, .inl f_tape))] H := hP
                have hD : va_D A [(h_h, .inl (cI, 104, .inl g776)), (h_names, .inl (cJ, 36, .inr (.inl f_names))), (h_reserved, .inl (cJ, 23, .inr (.inl f_reserved))), (h0, .inr (10, vL 67 F745)), (h_tape, .inl (cB, 940, .inl f_tape))] := hD
                refine lv_iconst (v := 1) hx hb dX10_line0_111 (by decide) ?_
                exact ret_i (v := 1) hx hb hr hlocks hS (hP.sub (ws' := [(h0, .inr (10, vL 67 F745)), (h_tape, .inl (cB, 940, .inl f_tape)), (h_h, .inl (cI, 104, .inl g776)), (h_names, .inl (cJ, 36, .inr (.inl f_names))), (h_reserved, .inl (cJ, 23, .inr (.inl f_reserved)))]) [3, 4, 0, 1, 2] rfl) (hD.sub (ws' := [(h0, .inr (10, vL 67 F745)), (h_tape, .inl (cB, 940, .inl f_tape)), (h_h, .inl (cI, 104, .inl g776)), (h_names, .inl (cJ, 36, .inr (.inl f_names))), (h_reserved, .inl (cJ, 23, .inr (.inl f_reserved)))]) [3, 4, 0, 1, 2] (by decide) rfl) dX10_line0_112 rfl (Nat.le_of_ble_eq_true rfl) (Nat.le_of_ble_eq_true rfl) ⟨F745, y746, y747, y748, y749, y750, y700, y701, y751, y752, y703, g776, f_names, (SAME.tr (SAME.tr SAME.rf t704 (by decide)) t753 (by decide)), t754, t755, t756, t757, t758, t760, t762, (SAME.at t753 (by decide) t712), (SAME.at t753 (by decide) t713), t763, t764, (SAME.at t753 (by decide) t715), r777, r779, r780, r781, r778, (show 0 ≤ (1 : Int32).toInt ∧ (1 : Int32).toInt ≤ 1 by decide), (by have zl1 : (1 : Int32).toInt = 1 := (by decide); omega), (by omega), rfl⟩
            · have dc731 : r1.toInt = 3 := eq_i (a := r1.toInt) (b := 3) rfl rfl c731
              have k782 : 3 ≤ r1.toInt ∧ r1.toInt ≤ 3 := ⟨k727.1, Int.le_trans (Int.le_of_eq dc731) (Int.le_refl _)⟩
              refine lv_bipush (v := 9) hx hb dX10_line0_86 (by decide) ?_
              refine lv_goto (tgt := 93) hx hb dX10_line0_88 (by decide) ?_
              have n783 : F694 1 = .ref h_tape := (SAME.at t704 (by decide) e_tape)
              have n784 : F694 3 = .int x_size := (SAME.at t704 (by decide) e_size)
              have n785 : F694 5 = .int x_limit := (SAME.at t704 (by decide) e_limit)
              have n786 : F694 19 = .int x_got := (SAME.at t704 (by decide) e_got)
              refine call_Vi (wr := [(h_h, .inl (cI, 104, .inl f_h)), (h_names, .inl (cJ, 36, .inr (.inl f_names))), (h_reserved, .inl (cJ, 23, .inr (.inl f_reserved)))]) (As := [.int 0, .int 9]) (rest := []) hx hb hml hown hw (m_X10_takes l D cI cJ cB cP cM cZ h0 h_tape F694 x_size y695 x_limit y696 y697 y699 y702 x_got f_tape 0 9 _ n783 n784 i_x_size t705 t706 n785 i_x_limit t707 t708 t709 t711 t714 n786 (by omega)) wV_X10_242_X10_takes dX10_line0_93 hK hP hD hS hA [3, 4] [0, 1, 2] rfl rfl (by decide) (by decide) (by decide) 0 10 rfl rfl GG.fb hG.at hl.1 rfl (Nat.le_of_ble_eq_true rfl) ⟨(Nat.le_of_ble_eq_true rfl), (Nat.le_of_ble_eq_true rfl)⟩ ⟨(Nat.le_of_ble_eq_true rfl), (Nat.le_of_ble_eq_true rfl)⟩ (fun r787 u H locs hp hP hD hS => ?_)
              have zl0 : (0 : Int32).toInt = 0 := by decide
              have zl9 : (9 : Int32).toInt = 9 := by decide
              rcases hp with hp | hp
              · obtain ⟨F788, y789, t790, t791, t792, t793, t794, rfl, rfl⟩ := hp
                have hP : va_P D vwCl [(h_h, .inl (cI, 104, .inl f_h)), (h_names, .inl (cJ, 36, .inr (.inl f_names))), (h_reserved, .inl (cJ, 23, .inr (.inl f_reserved))), (h0, .inr (10, vL 67 F788)), (h_tape, .inl (cB, 940, .inl f_tape))] H := hP
                have hD : va_D A [(h_h, .inl (cI, 104, .inl f_h)), (h_names, .inl (cJ, 36, .inr (.inl f_names))), (h_reserved, .inl (cJ, 23, .inr (.inl f_reserved))), (h0, .inr (10, vL 67 F788)), (h_tape, .inl (cB, 940, .inl f_tape))] := hD
                refine W.widen (k := 0) (n := 0) (Nat.le_of_ble_eq_true rfl) (Nat.le_of_ble_eq_true rfl) ?_
                refine lv_if_ne (tgt := 101) hx hb dX10_line0_96 (by decide) (fun g => absurd (by decide) g) (fun _ => ?_)
                refine lv_iconst (v := 0) hx hb dX10_line0_99 (by decide) ?_
                exact ret_i (v := 0) hx hb hr hlocks hS (hP.sub (ws' := [(h0, .inr (10, vL 67 F788)), (h_tape, .inl (cB, 940, .inl f_tape)), (h_h, .inl (cI, 104, .inl f_h)), (h_names, .inl (cJ, 36, .inr (.inl f_names))), (h_reserved, .inl (cJ, 23, .inr (.inl f_reserved)))]) [3, 4, 0, 1, 2] rfl) (hD.sub (ws' := [(h0, .inr (10, vL 67 F788)), (h_tape, .inl (cB, 940, .inl f_tape)), (h_h, .inl (cI, 104, .inl f_h)), (h_names, .inl (cJ, 36, .inr (.inl f_names))), (h_reserved, .inl (cJ, 23, .inr (.inl f_reserved)))]) [3, 4, 0, 1, 2] (by decide) rfl) dX10_line0_100 rfl (Nat.le_of_ble_eq_true rfl) (Nat.le_of_ble_eq_true rfl) ⟨F788, y695, y696, y697, y698, y699, y789, y697, y702, x_got, y703, f_h, f_names, (SAME.tr (SAME.tr SAME.rf t704 (by decide)) t790 (by decide)), (SAME.at t790 (by decide) t705), t706, (SAME.at t790 (by decide) t707), t708, (SAME.at t790 (by decide) t709), (SAME.at t790 (by decide) t710), (SAME.at t790 (by decide) t711), t791, t793, (SAME.at t790 (by decide) t714), (SAME.at t790 (by decide) n786), (SAME.at t790 (by decide) t715), s_h_0, s_h_5, s_h_6, s_h_7, s_h_44, (show 0 ≤ (0 : Int32).toInt ∧ (0 : Int32).toInt ≤ 1 by decide), (by have zl0 : (0 : Int32).toInt = 0 := (by decide); omega), (by omega), rfl⟩
              · refine hp.elim (fun F795 h9z => h9z.elim (fun y796 h9z => h9z.elim (fun y797 h9z => h9z.elim (fun y798 h9z => h9z.elim (fun y799 h9z => h9z.elim (fun y800 h9z => h9z.elim (fun y801 h9z => h9z.elim (fun y802 h9z => h9z.elim (fun t803 h9z => h9z.elim (fun t804 h9z => h9z.elim (fun t805 h9z => h9z.elim (fun t806 h9z => h9z.elim (fun t807 h9z => h9z.elim (fun t808 h9z => h9z.elim (fun t809 h9z => h9z.elim (fun t810 h9z => h9z.elim (fun t811 h9z => h9z.elim (fun t812 h9z => h9z.elim (fun t813 h9z => h9z.elim (fun t814 h9z => h9z.elim (fun t815 h9z => h9z.elim (fun t816 h9z => h9z.elim (fun t817 h9z => h9z.elim (fun t818 h9z => h9z.elim (fun t819 h9z => h9z.elim (fun heq925 h9z => ?_))))))))))))))))))))))))))
                subst heq925
                subst h9z
                have hP : va_P D vwCl [(h_h, .inl (cI, 104, .inl f_h)), (h_names, .inl (cJ, 36, .inr (.inl f_names))), (h_reserved, .inl (cJ, 23, .inr (.inl f_reserved))), (h0, .inr (10, vL 67 F795)), (h_tape, .inl (cB, 940, .inl f_tape))] H := hP
                have hD : va_D A [(h_h, .inl (cI, 104, .inl f_h)), (h_names, .inl (cJ, 36, .inr (.inl f_names))), (h_reserved, .inl (cJ, 23, .inr (.inl f_reserved))), (h0, .inr (10, vL 67 F795)), (h_tape, .inl (cB, 940, .inl f_tape))] := hD
                refine W.widen (k := 0) (n := 0) (Nat.le_of_ble_eq_true rfl) (Nat.le_of_ble_eq_true rfl) ?_
                have k821 : 2 ≤ y696.toInt ∧ y696.toInt ≤ 2 := ⟨Int.le_trans (Int.le_refl _) (Int.le_of_eq t815.symm), Int.le_trans (Int.le_of_eq t815) (Int.le_refl _)⟩
                have k822 : 0 ≤ y699.toInt ∧ y699.toInt ≤ 2147483647 := ⟨Int.le_trans (Int.le_refl _) t816, (ir_any _).2⟩
                have k823 : 0 ≤ y699.toInt ∧ y699.toInt ≤ 9 := ⟨k822.1, Int.le_trans t817 (Int.le_refl _)⟩
                refine lv_if_ne (tgt := 101) hx hb dX10_line0_96 (by decide) (fun _ => ?_) (fun g => absurd g (by decide))
                refine lv_aload_n hx hb dX10_line0_101 rfl (lv_at hl 1 rfl) ?_
                have n824 : F694 7 = .ref h_h := (SAME.at t704 (by decide) e_h)
                have n825 : F795 7 = .ref h_h := (SAME.at t803 (by decide) n824)
                refine get_f (D := D) (ci := 10) (v := .ref h_h) (C := RX10) (T := TX10) (N := 67) hx hb hw inAX10 hown hK hP 3 rfl rfl 7 (by decide) (hw _ q_1268) (fun _ h9 => h9) n825 dX10_line0_102 ?_
                refine lv_iload_n hx hb dX10_line0_105 rfl (lv_at hl 0 rfl) ?_
                refine lv_aload_n hx hb dX10_line0_106 rfl (lv_at hl 1 rfl) ?_
                refine get_f (D := D) (ci := 10) (v := .int y802) (C := RX10) (T := TX10) (N := 67) hx hb hw inAX10 hown hK hP 3 rfl rfl 19 (by decide) (hw _ q_1280) (fun _ h9 => h9) t814 dX10_line0_107 ?_
                obtain ⟨g826, eg826⟩ : ∃ z : Nat → Int32, upd f_h r1.toNatClampNeg y802 = z := ⟨_, rfl⟩
                have r827 : SG 0 0 0 40 g826 := by rw [← eg826]; exact s_h_0.up (Int.le_trans (by decide) k782.1) (Or.inr (Or.inl (dec_lt k782.1 (by decide))))
                have r828 : SG 44 55 0 9 g826 := by rw [← eg826]; exact s_h_44.up (Int.le_trans (by decide) k782.1) (Or.inl (lt_dec k782.2 (by decide)))
                have r829 : SG 5 5 0 12 g826 := by rw [← eg826]; exact s_h_5.up (Int.le_trans (by decide) k782.1) (Or.inl (lt_dec k782.2 (by decide)))
                have r830 : SG 6 6 0 12 g826 := by rw [← eg826]; exact s_h_6.up (Int.le_trans (by decide) k782.1) (Or.inl (lt_dec k782.2 (by decide)))
                have r831 : SG 7 7 0 6 g826 := by rw [← eg826]; exact s_h_7.up (Int.le_trans (by decide) k782.1) (Or.inl (lt_dec k782.2 (by decide)))
                refine iast_g hx hb hK hP hD hS 0 0 rfl rfl (ix_k k782 (by decide) (by decide)) eg826 dX10_line0_110 (fun H locs hP hD hS => ?_)
                have hP : va_P D vwCl [(h_h, .inl (cI, 104, .inl g826)), (h_names, .inl (cJ, 36, .inr (.inl f_names))), (h_reserved, .inl (cJ, 23, .inr (.inl f_reserved))), (h0, .inr (10, vL 67 F795)), (h_tape, .inl (cB, 940, .inl f_tape))] H := hP
                have hD : va_D A [(h_h, .inl (cI, 104, .inl g826)), (h_names, .inl (cJ, 36, .inr (.inl f_names))), (h_reserved, .inl (cJ, 23, .inr (.inl f_reserved))), (h0, .inr (10, vL 67 F795)), (h_tape, .inl (cB, 940, .inl f_tape))] := hD
                refine lv_iconst (v := 1) hx hb dX10_line0_111 (by decide) ?_
                exact ret_i (v := 1) hx hb hr hlocks hS (hP.sub (ws' := [(h0, .inr (10, vL 67 F795)), (h_tape, .inl (cB, 940, .inl f_tape)), (h_h, .inl (cI, 104, .inl g826)), (h_names, .inl (cJ, 36, .inr (.inl f_names))), (h_reserved, .inl (cJ, 23, .inr (.inl f_reserved)))]) [3, 4, 0, 1, 2] rfl) (hD.sub (ws' := [(h0, .inr (10, vL 67 F795)), (h_tape, .inl (cB, 940, .inl f_tape)), (h_h, .inl (cI, 104, .inl g826)), (h_names, .inl (cJ, 36, .inr (.inl f_names))), (h_reserved, .inl (cJ, 23, .inr (.inl f_reserved)))]) [3, 4, 0, 1, 2] (by decide) rfl) dX10_line0_112 rfl (Nat.le_of_ble_eq_true rfl) (Nat.le_of_ble_eq_true rfl) ⟨F795, y796, y797, y798, y799, y800, y700, y701, y801, y802, y703, g826, f_names, (SAME.tr (SAME.tr SAME.rf t704 (by decide)) t803 (by decide)), t804, t805, t806, t807, t808, t810, t812, (SAME.at t803 (by decide) t712), (SAME.at t803 (by decide) t713), t813, t814, (SAME.at t803 (by decide) t715), r827, r829, r830, r831, r828, (show 0 ≤ (1 : Int32).toInt ∧ (1 : Int32).toInt ≤ 1 by decide), (by have zl1 : (1 : Int32).toInt = 1 := (by decide); omega), (by omega), rfl⟩
          · have dc726 : r1.toInt = 2 := eq_i (a := r1.toInt) (b := 2) rfl rfl c726
            have k832 : 2 ≤ r1.toInt ∧ r1.toInt ≤ 2 := ⟨k725.1, Int.le_trans (Int.le_of_eq dc726) (Int.le_refl _)⟩
            refine lv_sipush (v := 300) hx hb dX10_line0_43 (by decide) ?_
            refine lv_goto (tgt := 50) hx hb dX10_line0_46 (by decide) ?_
            refine lv_iload_n hx hb dX10_line0_50 rfl (lv_at hl 0 rfl) ?_
            refine lv_if_ne (tgt := 59) hx hb dX10_line0_51 (by decide) (fun c833 => ?_) (fun c833 => False.elim (bad_le (Int.le_of_eq (eq_i (a := r1.toInt) (b := 0) rfl rfl c833)) k832.1 (Int.le_refl _) (by decide)))
            have dc833 : r1.toInt ≠ 0 := ne_i (a := r1.toInt) (b := 0) rfl rfl c833
            refine lv_iload_n hx hb dX10_line0_59 rfl (lv_at hl 0 rfl) ?_
            refine lv_iconst (v := 1) hx hb dX10_line0_60 (by decide) ?_
            refine lv_icmp_ne (tgt := 70) hx hb dX10_line0_61 (by decide) (fun c834 => ?_) (fun c834 => False.elim (bad_le (Int.le_of_eq (eq_i (a := r1.toInt) (b := 1) rfl rfl c834)) k832.1 (Int.le_refl _) (by decide)))
            have dc834 : r1.toInt ≠ 1 := ne_i (a := r1.toInt) (b := 1) rfl rfl c834
            refine lv_iload_n hx hb dX10_line0_70 rfl (lv_at hl 0 rfl) ?_
            refine lv_iconst (v := 2) hx hb dX10_line0_71 (by decide) ?_
            refine lv_icmp_ne (tgt := 81) hx hb dX10_line0_72 (by decide) (fun c835 => False.elim (bad_ne (ne_i (a := r1.toInt) (b := 2) rfl rfl c835) k832 ⟨Int.le_refl _, Int.le_refl _⟩ (by decide))) (fun c835 => ?_)
            have dc835 : r1.toInt = 2 := eq_i (a := r1.toInt) (b := 2) rfl rfl c835
            refine lv_sipush (v := 900) hx hb dX10_line0_75 (by decide) ?_
            refine lv_goto (tgt := 93) hx hb dX10_line0_78 (by decide) ?_
            have n836 : F694 1 = .ref h_tape := (SAME.at t704 (by decide) e_tape)
            have n837 : F694 3 = .int x_size := (SAME.at t704 (by decide) e_size)
            have n838 : F694 5 = .int x_limit := (SAME.at t704 (by decide) e_limit)
            have n839 : F694 19 = .int x_got := (SAME.at t704 (by decide) e_got)
            refine call_Vi (wr := [(h_h, .inl (cI, 104, .inl f_h)), (h_names, .inl (cJ, 36, .inr (.inl f_names))), (h_reserved, .inl (cJ, 23, .inr (.inl f_reserved)))]) (As := [.int 300, .int 900]) (rest := []) hx hb hml hown hw (m_X10_takes l D cI cJ cB cP cM cZ h0 h_tape F694 x_size y695 x_limit y696 y697 y699 y702 x_got f_tape 300 900 _ n836 n837 i_x_size t705 t706 n838 i_x_limit t707 t708 t709 t711 t714 n839 (by omega)) wV_X10_242_X10_takes dX10_line0_93 hK hP hD hS hA [3, 4] [0, 1, 2] rfl rfl (by decide) (by decide) (by decide) 0 10 rfl rfl GG.fb hG.at hl.1 rfl (Nat.le_of_ble_eq_true rfl) ⟨(Nat.le_of_ble_eq_true rfl), (Nat.le_of_ble_eq_true rfl)⟩ ⟨(Nat.le_of_ble_eq_true rfl), (Nat.le_of_ble_eq_true rfl)⟩ (fun r840 u H locs hp hP hD hS => ?_)
            have zl300 : (300 : Int32).toInt = 300 := by decide
            have zl900 : (900 : Int32).toInt = 900 := by decide
            rcases hp with hp | hp
            · obtain ⟨F841, y842, t843, t844, t845, t846, t847, rfl, rfl⟩ := hp
              have hP : va_P D vwCl [(h_h, .inl (cI, 104, .inl f_h)), (h_names, .inl (cJ, 36, .inr (.inl f_names))), (h_reserved, .inl (cJ, 23, .inr (.inl f_reserved))), (h0, .inr (10, vL 67 F841)), (h_tape, .inl (cB, 940, .inl f_tape))] H := hP
              have hD : va_D A [(h_h, .inl (cI, 104, .inl f_h)), (h_names, .inl (cJ, 36, .inr (.inl f_names))), (h_reserved, .inl (cJ, 23, .inr (.inl f_reserved))), (h0, .inr (10, vL 67 F841)), (h_tape, .inl (cB, 940, .inl f_tape))] := hD
              refine W.widen (k := 0) (n := 0) (Nat.le_of_ble_eq_true rfl) (Nat.le_of_ble_eq_true rfl) ?_
              refine lv_if_ne (tgt := 101) hx hb dX10_line0_96 (by decide) (fun g => absurd (by decide) g) (fun _ => ?_)
              refine lv_iconst (v := 0) hx hb dX10_line0_99 (by decide) ?_
              exact ret_i (v := 0) hx hb hr hlocks hS (hP.sub (ws' := [(h0, .inr (10, vL 67 F841)), (h_tape, .inl (cB, 940, .inl f_tape)), (h_h, .inl (cI, 104, .inl f_h)), (h_names, .inl (cJ, 36, .inr (.inl f_names))), (h_reserved, .inl (cJ, 23, .inr (.inl f_reserved)))]) [3, 4, 0, 1, 2] rfl) (hD.sub (ws' := [(h0, .inr (10, vL 67 F841)), (h_tape, .inl (cB, 940, .inl f_tape)), (h_h, .inl (cI, 104, .inl f_h)), (h_names, .inl (cJ, 36, .inr (.inl f_names))), (h_reserved, .inl (cJ, 23, .inr (.inl f_reserved)))]) [3, 4, 0, 1, 2] (by decide) rfl) dX10_line0_100 rfl (Nat.le_of_ble_eq_true rfl) (Nat.le_of_ble_eq_true rfl) ⟨F841, y695, y696, y697, y698, y699, y842, y697, y702, x_got, y703, f_h, f_names, (SAME.tr (SAME.tr SAME.rf t704 (by decide)) t843 (by decide)), (SAME.at t843 (by decide) t705), t706, (SAME.at t843 (by decide) t707), t708, (SAME.at t843 (by decide) t709), (SAME.at t843 (by decide) t710), (SAME.at t843 (by decide) t711), t844, t846, (SAME.at t843 (by decide) t714), (SAME.at t843 (by decide) n839), (SAME.at t843 (by decide) t715), s_h_0, s_h_5, s_h_6, s_h_7, s_h_44, (show 0 ≤ (0 : Int32).toInt ∧ (0 : Int32).toInt ≤ 1 by decide), (by have zl0 : (0 : Int32).toInt = 0 := (by decide); omega), (by omega), rfl⟩
            · refine hp.elim (fun F848 h9z => h9z.elim (fun y849 h9z => h9z.elim (fun y850 h9z => h9z.elim (fun y851 h9z => h9z.elim (fun y852 h9z => h9z.elim (fun y853 h9z => h9z.elim (fun y854 h9z => h9z.elim (fun y855 h9z => h9z.elim (fun t856 h9z => h9z.elim (fun t857 h9z => h9z.elim (fun t858 h9z => h9z.elim (fun t859 h9z => h9z.elim (fun t860 h9z => h9z.elim (fun t861 h9z => h9z.elim (fun t862 h9z => h9z.elim (fun t863 h9z => h9z.elim (fun t864 h9z => h9z.elim (fun t865 h9z => h9z.elim (fun t866 h9z => h9z.elim (fun t867 h9z => h9z.elim (fun t868 h9z => h9z.elim (fun t869 h9z => h9z.elim (fun t870 h9z => h9z.elim (fun t871 h9z => h9z.elim (fun t872 h9z => h9z.elim (fun heq925 h9z => ?_))))))))))))))))))))))))))
              subst heq925
              subst h9z
              have hP : va_P D vwCl [(h_h, .inl (cI, 104, .inl f_h)), (h_names, .inl (cJ, 36, .inr (.inl f_names))), (h_reserved, .inl (cJ, 23, .inr (.inl f_reserved))), (h0, .inr (10, vL 67 F848)), (h_tape, .inl (cB, 940, .inl f_tape))] H := hP
              have hD : va_D A [(h_h, .inl (cI, 104, .inl f_h)), (h_names, .inl (cJ, 36, .inr (.inl f_names))), (h_reserved, .inl (cJ, 23, .inr (.inl f_reserved))), (h0, .inr (10, vL 67 F848)), (h_tape, .inl (cB, 940, .inl f_tape))] := hD
              refine W.widen (k := 0) (n := 0) (Nat.le_of_ble_eq_true rfl) (Nat.le_of_ble_eq_true rfl) ?_
              have k874 : 2 ≤ y696.toInt ∧ y696.toInt ≤ 2 := ⟨Int.le_trans (Int.le_refl _) (Int.le_of_eq t868.symm), Int.le_trans (Int.le_of_eq t868) (Int.le_refl _)⟩
              have k875 : 300 ≤ y699.toInt ∧ y699.toInt ≤ 2147483647 := ⟨Int.le_trans (Int.le_refl _) t869, (ir_any _).2⟩
              have k876 : 300 ≤ y699.toInt ∧ y699.toInt ≤ 900 := ⟨k875.1, Int.le_trans t870 (Int.le_refl _)⟩
              refine lv_if_ne (tgt := 101) hx hb dX10_line0_96 (by decide) (fun _ => ?_) (fun g => absurd g (by decide))
              refine lv_aload_n hx hb dX10_line0_101 rfl (lv_at hl 1 rfl) ?_
              have n877 : F694 7 = .ref h_h := (SAME.at t704 (by decide) e_h)
              have n878 : F848 7 = .ref h_h := (SAME.at t856 (by decide) n877)
              refine get_f (D := D) (ci := 10) (v := .ref h_h) (C := RX10) (T := TX10) (N := 67) hx hb hw inAX10 hown hK hP 3 rfl rfl 7 (by decide) (hw _ q_1268) (fun _ h9 => h9) n878 dX10_line0_102 ?_
              refine lv_iload_n hx hb dX10_line0_105 rfl (lv_at hl 0 rfl) ?_
              refine lv_aload_n hx hb dX10_line0_106 rfl (lv_at hl 1 rfl) ?_
              refine get_f (D := D) (ci := 10) (v := .int y855) (C := RX10) (T := TX10) (N := 67) hx hb hw inAX10 hown hK hP 3 rfl rfl 19 (by decide) (hw _ q_1280) (fun _ h9 => h9) t867 dX10_line0_107 ?_
              obtain ⟨g879, eg879⟩ : ∃ z : Nat → Int32, upd f_h r1.toNatClampNeg y855 = z := ⟨_, rfl⟩
              have r880 : SG 0 0 0 40 g879 := by rw [← eg879]; exact s_h_0.up (Int.le_trans (by decide) k832.1) (Or.inr (Or.inl (dec_lt k832.1 (by decide))))
              have r881 : SG 44 55 0 9 g879 := by rw [← eg879]; exact s_h_44.up (Int.le_trans (by decide) k832.1) (Or.inl (lt_dec k832.2 (by decide)))
              have r882 : SG 5 5 0 12 g879 := by rw [← eg879]; exact s_h_5.up (Int.le_trans (by decide) k832.1) (Or.inl (lt_dec k832.2 (by decide)))
              have r883 : SG 6 6 0 12 g879 := by rw [← eg879]; exact s_h_6.up (Int.le_trans (by decide) k832.1) (Or.inl (lt_dec k832.2 (by decide)))
              have r884 : SG 7 7 0 6 g879 := by rw [← eg879]; exact s_h_7.up (Int.le_trans (by decide) k832.1) (Or.inl (lt_dec k832.2 (by decide)))
              refine iast_g hx hb hK hP hD hS 0 0 rfl rfl (ix_k k832 (by decide) (by decide)) eg879 dX10_line0_110 (fun H locs hP hD hS => ?_)
              have hP : va_P D vwCl [(h_h, .inl (cI, 104, .inl g879)), (h_names, .inl (cJ, 36, .inr (.inl f_names))), (h_reserved, .inl (cJ, 23, .inr (.inl f_reserved))), (h0, .inr (10, vL 67 F848)), (h_tape, .inl (cB, 940, .inl f_tape))] H := hP
              have hD : va_D A [(h_h, .inl (cI, 104, .inl g879)), (h_names, .inl (cJ, 36, .inr (.inl f_names))), (h_reserved, .inl (cJ, 23, .inr (.inl f_reserved))), (h0, .inr (10, vL 67 F848)), (h_tape, .inl (cB, 940, .inl f_tape))] := hD
              refine lv_iconst (v := 1) hx hb dX10_line0_111 (by decide) ?_
              exact ret_i (v := 1) hx hb hr hlocks hS (hP.sub (ws' := [(h0, .inr (10, vL 67 F848)), (h_tape, .inl (cB, 940, .inl f_tape)), (h_h, .inl (cI, 104, .inl g879)), (h_names, .inl (cJ, 36, .inr (.inl f_names))), (h_reserved, .inl (cJ, 23, .inr (.inl f_reserved)))]) [3, 4, 0, 1, 2] rfl) (hD.sub (ws' := [(h0, .inr (10, vL 67 F848)), (h_tape, .inl (cB, 940, .inl f_tape)), (h_h, .inl (cI, 104, .inl g879)), (h_names, .inl (cJ, 36, .inr (.inl f_names))), (h_reserved, .inl (cJ, 23, .inr (.inl f_reserved)))]) [3, 4, 0, 1, 2] (by decide) rfl) dX10_line0_112 rfl (Nat.le_of_ble_eq_true rfl) (Nat.le_of_ble_eq_true rfl) ⟨F848, y849, y850, y851, y852, y853, y700, y701, y854, y855, y703, g879, f_names, (SAME.tr (SAME.tr SAME.rf t704 (by decide)) t856 (by decide)), t857, t858, t859, t860, t861, t863, t865, (SAME.at t856 (by decide) t712), (SAME.at t856 (by decide) t713), t866, t867, (SAME.at t856 (by decide) t715), r880, r882, r883, r884, r881, (show 0 ≤ (1 : Int32).toInt ∧ (1 : Int32).toInt ≤ 1 by decide), (by have zl1 : (1 : Int32).toInt = 1 := (by decide); omega), (by omega), rfl⟩
        · have dc724 : r1.toInt = 1 := eq_i (a := r1.toInt) (b := 1) rfl rfl c724
          have k885 : 1 ≤ r1.toInt ∧ r1.toInt ≤ 1 := ⟨k723.1, Int.le_trans (Int.le_of_eq dc724) (Int.le_refl _)⟩
          refine lv_bipush (v := 100) hx hb dX10_line0_33 (by decide) ?_
          refine lv_goto (tgt := 50) hx hb dX10_line0_35 (by decide) ?_
          refine lv_iload_n hx hb dX10_line0_50 rfl (lv_at hl 0 rfl) ?_
          refine lv_if_ne (tgt := 59) hx hb dX10_line0_51 (by decide) (fun c886 => ?_) (fun c886 => False.elim (bad_le (Int.le_of_eq (eq_i (a := r1.toInt) (b := 0) rfl rfl c886)) k885.1 (Int.le_refl _) (by decide)))
          have dc886 : r1.toInt ≠ 0 := ne_i (a := r1.toInt) (b := 0) rfl rfl c886
          refine lv_iload_n hx hb dX10_line0_59 rfl (lv_at hl 0 rfl) ?_
          refine lv_iconst (v := 1) hx hb dX10_line0_60 (by decide) ?_
          refine lv_icmp_ne (tgt := 70) hx hb dX10_line0_61 (by decide) (fun c887 => False.elim (bad_ne (ne_i (a := r1.toInt) (b := 1) rfl rfl c887) k885 ⟨Int.le_refl _, Int.le_refl _⟩ (by decide))) (fun c887 => ?_)
          have dc887 : r1.toInt = 1 := eq_i (a := r1.toInt) (b := 1) rfl rfl c887
          refine lv_sipush (v := 300) hx hb dX10_line0_64 (by decide) ?_
          refine lv_goto (tgt := 93) hx hb dX10_line0_67 (by decide) ?_
          have n888 : F694 1 = .ref h_tape := (SAME.at t704 (by decide) e_tape)
          have n889 : F694 3 = .int x_size := (SAME.at t704 (by decide) e_size)
          have n890 : F694 5 = .int x_limit := (SAME.at t704 (by decide) e_limit)
          have n891 : F694 19 = .int x_got := (SAME.at t704 (by decide) e_got)
          refine call_Vi (wr := [(h_h, .inl (cI, 104, .inl f_h)), (h_names, .inl (cJ, 36, .inr (.inl f_names))), (h_reserved, .inl (cJ, 23, .inr (.inl f_reserved)))]) (As := [.int 100, .int 300]) (rest := []) hx hb hml hown hw (m_X10_takes l D cI cJ cB cP cM cZ h0 h_tape F694 x_size y695 x_limit y696 y697 y699 y702 x_got f_tape 100 300 _ n888 n889 i_x_size t705 t706 n890 i_x_limit t707 t708 t709 t711 t714 n891 (by omega)) wV_X10_242_X10_takes dX10_line0_93 hK hP hD hS hA [3, 4] [0, 1, 2] rfl rfl (by decide) (by decide) (by decide) 0 10 rfl rfl GG.fb hG.at hl.1 rfl (Nat.le_of_ble_eq_true rfl) ⟨(Nat.le_of_ble_eq_true rfl), (Nat.le_of_ble_eq_true rfl)⟩ ⟨(Nat.le_of_ble_eq_true rfl), (Nat.le_of_ble_eq_true rfl)⟩ (fun r892 u H locs hp hP hD hS => ?_)
          have zl100 : (100 : Int32).toInt = 100 := by decide
          have zl300 : (300 : Int32).toInt = 300 := by decide
          rcases hp with hp | hp
          · obtain ⟨F893, y894, t895, t896, t897, t898, t899, rfl, rfl⟩ := hp
            have hP : va_P D vwCl [(h_h, .inl (cI, 104, .inl f_h)), (h_names, .inl (cJ, 36, .inr (.inl f_names))), (h_reserved, .inl (cJ, 23, .inr (.inl f_reserved))), (h0, .inr (10, vL 67 F893)), (h_tape, .inl (cB, 940, .inl f_tape))] H := hP
            have hD : va_D A [(h_h, .inl (cI, 104, .inl f_h)), (h_names, .inl (cJ, 36, .inr (.inl f_names))), (h_reserved, .inl (cJ, 23, .inr (.inl f_reserved))), (h0, .inr (10, vL 67 F893)), (h_tape, .inl (cB, 940, .inl f_tape))] := hD
            refine W.widen (k := 0) (n := 0) (Nat.le_of_ble_eq_true rfl) (Nat.le_of_ble_eq_true rfl) ?_
            refine lv_if_ne (tgt := 101) hx hb dX10_line0_96 (by decide) (fun g => absurd (by decide) g) (fun _ => ?_)
            refine lv_iconst (v := 0) hx hb dX10_line0_99 (by decide) ?_
            exact ret_i (v := 0) hx hb hr hlocks hS (hP.sub (ws' := [(h0, .inr (10, vL 67 F893)), (h_tape, .inl (cB, 940, .inl f_tape)), (h_h, .inl (cI, 104, .inl f_h)), (h_names, .inl (cJ, 36, .inr (.inl f_names))), (h_reserved, .inl (cJ, 23, .inr (.inl f_reserved)))]) [3, 4, 0, 1, 2] rfl) (hD.sub (ws' := [(h0, .inr (10, vL 67 F893)), (h_tape, .inl (cB, 940, .inl f_tape)), (h_h, .inl (cI, 104, .inl f_h)), (h_names, .inl (cJ, 36, .inr (.inl f_names))), (h_reserved, .inl (cJ, 23, .inr (.inl f_reserved)))]) [3, 4, 0, 1, 2] (by decide) rfl) dX10_line0_100 rfl (Nat.le_of_ble_eq_true rfl) (Nat.le_of_ble_eq_true rfl) ⟨F893, y695, y696, y697, y698, y699, y894, y697, y702, x_got, y703, f_h, f_names, (SAME.tr (SAME.tr SAME.rf t704 (by decide)) t895 (by decide)), (SAME.at t895 (by decide) t705), t706, (SAME.at t895 (by decide) t707), t708, (SAME.at t895 (by decide) t709), (SAME.at t895 (by decide) t710), (SAME.at t895 (by decide) t711), t896, t898, (SAME.at t895 (by decide) t714), (SAME.at t895 (by decide) n891), (SAME.at t895 (by decide) t715), s_h_0, s_h_5, s_h_6, s_h_7, s_h_44, (show 0 ≤ (0 : Int32).toInt ∧ (0 : Int32).toInt ≤ 1 by decide), (by have zl0 : (0 : Int32).toInt = 0 := (by decide); omega), (by omega), rfl⟩
          · refine hp.elim (fun F900 h9z => h9z.elim (fun y901 h9z => h9z.elim (fun y902 h9z => h9z.elim (fun y903 h9z => h9z.elim (fun y904 h9z => h9z.elim (fun y905 h9z => h9z.elim (fun y906 h9z => h9z.elim (fun y907 h9z => h9z.elim (fun t908 h9z => h9z.elim (fun t909 h9z => h9z.elim (fun t910 h9z => h9z.elim (fun t911 h9z => h9z.elim (fun t912 h9z => h9z.elim (fun t913 h9z => h9z.elim (fun t914 h9z => h9z.elim (fun t915 h9z => h9z.elim (fun t916 h9z => h9z.elim (fun t917 h9z => h9z.elim (fun t918 h9z => h9z.elim (fun t919 h9z => h9z.elim (fun t920 h9z => h9z.elim (fun t921 h9z => h9z.elim (fun t922 h9z => h9z.elim (fun t923 h9z => h9z.elim (fun t924 h9z => h9z.elim (fun heq925 h9z => ?_))))))))))))))))))))))))))
            subst heq925
            subst h9z
            have hP : va_P D vwCl [(h_h, .inl (cI, 104, .inl f_h)), (h_names, .inl (cJ, 36, .inr (.inl f_names))), (h_reserved, .inl (cJ, 23, .inr (.inl f_reserved))), (h0, .inr (10, vL 67 F900)), (h_tape, .inl (cB, 940, .inl f_tape))] H := hP
            have hD : va_D A [(h_h, .inl (cI, 104, .inl f_h)), (h_names, .inl (cJ, 36, .inr (.inl f_names))), (h_reserved, .inl (cJ, 23, .inr (.inl f_reserved))), (h0, .inr (10, vL 67 F900)), (h_tape, .inl (cB, 940, .inl f_tape))] := hD
            refine W.widen (k := 0) (n := 0) (Nat.le_of_ble_eq_true rfl) (Nat.le_of_ble_eq_true rfl) ?_
            have k926 : 2 ≤ y696.toInt ∧ y696.toInt ≤ 2 := ⟨Int.le_trans (Int.le_refl _) (Int.le_of_eq t920.symm), Int.le_trans (Int.le_of_eq t920) (Int.le_refl _)⟩
            have k927 : 100 ≤ y699.toInt ∧ y699.toInt ≤ 2147483647 := ⟨Int.le_trans (Int.le_refl _) t921, (ir_any _).2⟩
            have k928 : 100 ≤ y699.toInt ∧ y699.toInt ≤ 300 := ⟨k927.1, Int.le_trans t922 (Int.le_refl _)⟩
            refine lv_if_ne (tgt := 101) hx hb dX10_line0_96 (by decide) (fun _ => ?_) (fun g => absurd g (by decide))
            refine lv_aload_n hx hb dX10_line0_101 rfl (lv_at hl 1 rfl) ?_
            have n929 : F694 7 = .ref h_h := (SAME.at t704 (by decide) e_h)
            have n930 : F900 7 = .ref h_h := (SAME.at t908 (by decide) n929)
            refine get_f (D := D) (ci := 10) (v := .ref h_h) (C := RX10) (T := TX10) (N := 67) hx hb hw inAX10 hown hK hP 3 rfl rfl 7 (by decide) (hw _ q_1268) (fun _ h9 => h9) n930 dX10_line0_102 ?_
            refine lv_iload_n hx hb dX10_line0_105 rfl (lv_at hl 0 rfl) ?_
            refine lv_aload_n hx hb dX10_line0_106 rfl (lv_at hl 1 rfl) ?_
            refine get_f (D := D) (ci := 10) (v := .int y907) (C := RX10) (T := TX10) (N := 67) hx hb hw inAX10 hown hK hP 3 rfl rfl 19 (by decide) (hw _ q_1280) (fun _ h9 => h9) t919 dX10_line0_107 ?_
            obtain ⟨g931, eg931⟩ : ∃ z : Nat → Int32, upd f_h r1.toNatClampNeg y907 = z := ⟨_, rfl⟩
            have r932 : SG 0 0 0 40 g931 := by rw [← eg931]; exact s_h_0.up (Int.le_trans (by decide) k885.1) (Or.inr (Or.inl (dec_lt k885.1 (by decide))))
            have r933 : SG 44 55 0 9 g931 := by rw [← eg931]; exact s_h_44.up (Int.le_trans (by decide) k885.1) (Or.inl (lt_dec k885.2 (by decide)))
            have r934 : SG 5 5 0 12 g931 := by rw [← eg931]; exact s_h_5.up (Int.le_trans (by decide) k885.1) (Or.inl (lt_dec k885.2 (by decide)))
            have r935 : SG 6 6 0 12 g931 := by rw [← eg931]; exact s_h_6.up (Int.le_trans (by decide) k885.1) (Or.inl (lt_dec k885.2 (by decide)))
            have r936 : SG 7 7 0 6 g931 := by rw [← eg931]; exact s_h_7.up (Int.le_trans (by decide) k885.1) (Or.inl (lt_dec k885.2 (by decide)))
            refine iast_g hx hb hK hP hD hS 0 0 rfl rfl (ix_k k885 (by decide) (by decide)) eg931 dX10_line0_110 (fun H locs hP hD hS => ?_)
            have hP : va_P D vwCl [(h_h, .inl (cI, 104, .inl g931)), (h_names, .inl (cJ, 36, .inr (.inl f_names))), (h_reserved, .inl (cJ, 23, .inr (.inl f_reserved))), (h0, .inr (10, vL 67 F900)), (h_tape, .inl (cB, 940, .inl f_tape))] H := hP
            have hD : va_D A [(h_h, .inl (cI, 104, .inl g931)), (h_names, .inl (cJ, 36, .inr (.inl f_names))), (h_reserved, .inl (cJ, 23, .inr (.inl f_reserved))), (h0, .inr (10, vL 67 F900)), (h_tape, .inl (cB, 940, .inl f_tape))] := hD
            refine lv_iconst (v := 1) hx hb dX10_line0_111 (by decide) ?_
            exact ret_i (v := 1) hx hb hr hlocks hS (hP.sub (ws' := [(h0, .inr (10, vL 67 F900)), (h_tape, .inl (cB, 940, .inl f_tape)), (h_h, .inl (cI, 104, .inl g931)), (h_names, .inl (cJ, 36, .inr (.inl f_names))), (h_reserved, .inl (cJ, 23, .inr (.inl f_reserved)))]) [3, 4, 0, 1, 2] rfl) (hD.sub (ws' := [(h0, .inr (10, vL 67 F900)), (h_tape, .inl (cB, 940, .inl f_tape)), (h_h, .inl (cI, 104, .inl g931)), (h_names, .inl (cJ, 36, .inr (.inl f_names))), (h_reserved, .inl (cJ, 23, .inr (.inl f_reserved)))]) [3, 4, 0, 1, 2] (by decide) rfl) dX10_line0_112 rfl (Nat.le_of_ble_eq_true rfl) (Nat.le_of_ble_eq_true rfl) ⟨F900, y901, y902, y903, y904, y905, y700, y701, y906, y907, y703, g931, f_names, (SAME.tr (SAME.tr SAME.rf t704 (by decide)) t908 (by decide)), t909, t910, t911, t912, t913, t915, t917, (SAME.at t908 (by decide) t712), (SAME.at t908 (by decide) t713), t918, t919, (SAME.at t908 (by decide) t715), r932, r934, r935, r936, r933, (show 0 ≤ (1 : Int32).toInt ∧ (1 : Int32).toInt ≤ 1 by decide), (by have zl1 : (1 : Int32).toInt = 1 := (by decide); omega), (by omega), rfl⟩
      · have dc722 : r1.toInt = 0 := eq_i (a := r1.toInt) (b := 0) rfl rfl c722
        have k937 : 0 ≤ r1.toInt ∧ r1.toInt ≤ 0 := ⟨k692.1, Int.le_trans (Int.le_of_eq dc722) (Int.le_refl _)⟩
        refine lv_iconst (v := 5) hx hb dX10_line0_24 (by decide) ?_
        refine lv_goto (tgt := 50) hx hb dX10_line0_25 (by decide) ?_
        refine lv_iload_n hx hb dX10_line0_50 rfl (lv_at hl 0 rfl) ?_
        refine lv_if_ne (tgt := 59) hx hb dX10_line0_51 (by decide) (fun c938 => False.elim (bad_ne (ne_i (a := r1.toInt) (b := 0) rfl rfl c938) k937 ⟨Int.le_refl _, Int.le_refl _⟩ (by decide))) (fun c938 => ?_)
        have dc938 : r1.toInt = 0 := eq_i (a := r1.toInt) (b := 0) rfl rfl c938
        refine lv_bipush (v := 40) hx hb dX10_line0_54 (by decide) ?_
        refine lv_goto (tgt := 93) hx hb dX10_line0_56 (by decide) ?_
        have n939 : F694 1 = .ref h_tape := (SAME.at t704 (by decide) e_tape)
        have n940 : F694 3 = .int x_size := (SAME.at t704 (by decide) e_size)
        have n941 : F694 5 = .int x_limit := (SAME.at t704 (by decide) e_limit)
        have n942 : F694 19 = .int x_got := (SAME.at t704 (by decide) e_got)
        refine call_Vi (wr := [(h_h, .inl (cI, 104, .inl f_h)), (h_names, .inl (cJ, 36, .inr (.inl f_names))), (h_reserved, .inl (cJ, 23, .inr (.inl f_reserved)))]) (As := [.int 5, .int 40]) (rest := []) hx hb hml hown hw (m_X10_takes l D cI cJ cB cP cM cZ h0 h_tape F694 x_size y695 x_limit y696 y697 y699 y702 x_got f_tape 5 40 _ n939 n940 i_x_size t705 t706 n941 i_x_limit t707 t708 t709 t711 t714 n942 (by omega)) wV_X10_242_X10_takes dX10_line0_93 hK hP hD hS hA [3, 4] [0, 1, 2] rfl rfl (by decide) (by decide) (by decide) 0 10 rfl rfl GG.fb hG.at hl.1 rfl (Nat.le_of_ble_eq_true rfl) ⟨(Nat.le_of_ble_eq_true rfl), (Nat.le_of_ble_eq_true rfl)⟩ ⟨(Nat.le_of_ble_eq_true rfl), (Nat.le_of_ble_eq_true rfl)⟩ (fun r943 u H locs hp hP hD hS => ?_)
        have zl5 : (5 : Int32).toInt = 5 := by decide
        have zl40 : (40 : Int32).toInt = 40 := by decide
        rcases hp with hp | hp
        · obtain ⟨F944, y945, t946, t947, t948, t949, t950, rfl, rfl⟩ := hp
          have hP : va_P D vwCl [(h_h, .inl (cI, 104, .inl f_h)), (h_names, .inl (cJ, 36, .inr (.inl f_names))), (h_reserved, .inl (cJ, 23, .inr (.inl f_reserved))), (h0, .inr (10, vL 67 F944)), (h_tape, .inl (cB, 940, .inl f_tape))] H := hP
          have hD : va_D A [(h_h, .inl (cI, 104, .inl f_h)), (h_names, .inl (cJ, 36, .inr (.inl f_names))), (h_reserved, .inl (cJ, 23, .inr (.inl f_reserved))), (h0, .inr (10, vL 67 F944)), (h_tape, .inl (cB, 940, .inl f_tape))] := hD
          refine W.widen (k := 0) (n := 0) (Nat.le_of_ble_eq_true rfl) (Nat.le_of_ble_eq_true rfl) ?_
          refine lv_if_ne (tgt := 101) hx hb dX10_line0_96 (by decide) (fun g => absurd (by decide) g) (fun _ => ?_)
          refine lv_iconst (v := 0) hx hb dX10_line0_99 (by decide) ?_
          exact ret_i (v := 0) hx hb hr hlocks hS (hP.sub (ws' := [(h0, .inr (10, vL 67 F944)), (h_tape, .inl (cB, 940, .inl f_tape)), (h_h, .inl (cI, 104, .inl f_h)), (h_names, .inl (cJ, 36, .inr (.inl f_names))), (h_reserved, .inl (cJ, 23, .inr (.inl f_reserved)))]) [3, 4, 0, 1, 2] rfl) (hD.sub (ws' := [(h0, .inr (10, vL 67 F944)), (h_tape, .inl (cB, 940, .inl f_tape)), (h_h, .inl (cI, 104, .inl f_h)), (h_names, .inl (cJ, 36, .inr (.inl f_names))), (h_reserved, .inl (cJ, 23, .inr (.inl f_reserved)))]) [3, 4, 0, 1, 2] (by decide) rfl) dX10_line0_100 rfl (Nat.le_of_ble_eq_true rfl) (Nat.le_of_ble_eq_true rfl) ⟨F944, y695, y696, y697, y698, y699, y945, y697, y702, x_got, y703, f_h, f_names, (SAME.tr (SAME.tr SAME.rf t704 (by decide)) t946 (by decide)), (SAME.at t946 (by decide) t705), t706, (SAME.at t946 (by decide) t707), t708, (SAME.at t946 (by decide) t709), (SAME.at t946 (by decide) t710), (SAME.at t946 (by decide) t711), t947, t949, (SAME.at t946 (by decide) t714), (SAME.at t946 (by decide) n942), (SAME.at t946 (by decide) t715), s_h_0, s_h_5, s_h_6, s_h_7, s_h_44, (show 0 ≤ (0 : Int32).toInt ∧ (0 : Int32).toInt ≤ 1 by decide), (by have zl0 : (0 : Int32).toInt = 0 := (by decide); omega), (by omega), rfl⟩
        · refine hp.elim (fun F951 h9z => h9z.elim (fun y952 h9z => h9z.elim (fun y953 h9z => h9z.elim (fun y954 h9z => h9z.elim (fun y955 h9z => h9z.elim (fun y956 h9z => h9z.elim (fun y957 h9z => h9z.elim (fun y958 h9z => h9z.elim (fun t959 h9z => h9z.elim (fun t960 h9z => h9z.elim (fun t961 h9z => h9z.elim (fun t962 h9z => h9z.elim (fun t963 h9z => h9z.elim (fun t964 h9z => h9z.elim (fun t965 h9z => h9z.elim (fun t966 h9z => h9z.elim (fun t967 h9z => h9z.elim (fun t968 h9z => h9z.elim (fun t969 h9z => h9z.elim (fun t970 h9z => h9z.elim (fun t971 h9z => h9z.elim (fun t972 h9z => h9z.elim (fun t973 h9z => h9z.elim (fun t974 h9z => h9z.elim (fun t975 h9z => h9z.elim (fun heq925 h9z => ?_))))))))))))))))))))))))))
          subst heq925
          subst h9z
          have hP : va_P D vwCl [(h_h, .inl (cI, 104, .inl f_h)), (h_names, .inl (cJ, 36, .inr (.inl f_names))), (h_reserved, .inl (cJ, 23, .inr (.inl f_reserved))), (h0, .inr (10, vL 67 F951)), (h_tape, .inl (cB, 940, .inl f_tape))] H := hP
          have hD : va_D A [(h_h, .inl (cI, 104, .inl f_h)), (h_names, .inl (cJ, 36, .inr (.inl f_names))), (h_reserved, .inl (cJ, 23, .inr (.inl f_reserved))), (h0, .inr (10, vL 67 F951)), (h_tape, .inl (cB, 940, .inl f_tape))] := hD
          refine W.widen (k := 0) (n := 0) (Nat.le_of_ble_eq_true rfl) (Nat.le_of_ble_eq_true rfl) ?_
          have k977 : 2 ≤ y696.toInt ∧ y696.toInt ≤ 2 := ⟨Int.le_trans (Int.le_refl _) (Int.le_of_eq t971.symm), Int.le_trans (Int.le_of_eq t971) (Int.le_refl _)⟩
          have k978 : 5 ≤ y699.toInt ∧ y699.toInt ≤ 2147483647 := ⟨Int.le_trans (Int.le_refl _) t972, (ir_any _).2⟩
          have k979 : 5 ≤ y699.toInt ∧ y699.toInt ≤ 40 := ⟨k978.1, Int.le_trans t973 (Int.le_refl _)⟩
          refine lv_if_ne (tgt := 101) hx hb dX10_line0_96 (by decide) (fun _ => ?_) (fun g => absurd g (by decide))
          refine lv_aload_n hx hb dX10_line0_101 rfl (lv_at hl 1 rfl) ?_
          have n980 : F694 7 = .ref h_h := (SAME.at t704 (by decide) e_h)
          have n981 : F951 7 = .ref h_h := (SAME.at t959 (by decide) n980)
          refine get_f (D := D) (ci := 10) (v := .ref h_h) (C := RX10) (T := TX10) (N := 67) hx hb hw inAX10 hown hK hP 3 rfl rfl 7 (by decide) (hw _ q_1268) (fun _ h9 => h9) n981 dX10_line0_102 ?_
          refine lv_iload_n hx hb dX10_line0_105 rfl (lv_at hl 0 rfl) ?_
          refine lv_aload_n hx hb dX10_line0_106 rfl (lv_at hl 1 rfl) ?_
          refine get_f (D := D) (ci := 10) (v := .int y958) (C := RX10) (T := TX10) (N := 67) hx hb hw inAX10 hown hK hP 3 rfl rfl 19 (by decide) (hw _ q_1280) (fun _ h9 => h9) t970 dX10_line0_107 ?_
          obtain ⟨g982, eg982⟩ : ∃ z : Nat → Int32, upd f_h r1.toNatClampNeg y958 = z := ⟨_, rfl⟩
          have r983 : SG 0 0 0 40 g982 := by rw [← eg982]; exact s_h_0.up (Int.le_trans (by decide) k937.1) (by omega)
          have r984 : SG 44 55 0 9 g982 := by rw [← eg982]; exact s_h_44.up (Int.le_trans (by decide) k937.1) (Or.inl (lt_dec k937.2 (by decide)))
          have r985 : SG 5 5 0 12 g982 := by rw [← eg982]; exact s_h_5.up (Int.le_trans (by decide) k937.1) (Or.inl (lt_dec k937.2 (by decide)))
          have r986 : SG 6 6 0 12 g982 := by rw [← eg982]; exact s_h_6.up (Int.le_trans (by decide) k937.1) (Or.inl (lt_dec k937.2 (by decide)))
          have r987 : SG 7 7 0 6 g982 := by rw [← eg982]; exact s_h_7.up (Int.le_trans (by decide) k937.1) (Or.inl (lt_dec k937.2 (by decide)))
          refine iast_g hx hb hK hP hD hS 0 0 rfl rfl (ix_k k937 (by decide) (by decide)) eg982 dX10_line0_110 (fun H locs hP hD hS => ?_)
          have hP : va_P D vwCl [(h_h, .inl (cI, 104, .inl g982)), (h_names, .inl (cJ, 36, .inr (.inl f_names))), (h_reserved, .inl (cJ, 23, .inr (.inl f_reserved))), (h0, .inr (10, vL 67 F951)), (h_tape, .inl (cB, 940, .inl f_tape))] H := hP
          have hD : va_D A [(h_h, .inl (cI, 104, .inl g982)), (h_names, .inl (cJ, 36, .inr (.inl f_names))), (h_reserved, .inl (cJ, 23, .inr (.inl f_reserved))), (h0, .inr (10, vL 67 F951)), (h_tape, .inl (cB, 940, .inl f_tape))] := hD
          refine lv_iconst (v := 1) hx hb dX10_line0_111 (by decide) ?_
          exact ret_i (v := 1) hx hb hr hlocks hS (hP.sub (ws' := [(h0, .inr (10, vL 67 F951)), (h_tape, .inl (cB, 940, .inl f_tape)), (h_h, .inl (cI, 104, .inl g982)), (h_names, .inl (cJ, 36, .inr (.inl f_names))), (h_reserved, .inl (cJ, 23, .inr (.inl f_reserved)))]) [3, 4, 0, 1, 2] rfl) (hD.sub (ws' := [(h0, .inr (10, vL 67 F951)), (h_tape, .inl (cB, 940, .inl f_tape)), (h_h, .inl (cI, 104, .inl g982)), (h_names, .inl (cJ, 36, .inr (.inl f_names))), (h_reserved, .inl (cJ, 23, .inr (.inl f_reserved)))]) [3, 4, 0, 1, 2] (by decide) rfl) dX10_line0_112 rfl (Nat.le_of_ble_eq_true rfl) (Nat.le_of_ble_eq_true rfl) ⟨F951, y952, y953, y954, y955, y956, y700, y701, y957, y958, y703, g982, f_names, (SAME.tr (SAME.tr SAME.rf t704 (by decide)) t959 (by decide)), t960, t961, t962, t963, t964, t966, t968, (SAME.at t959 (by decide) t712), (SAME.at t959 (by decide) t713), t969, t970, (SAME.at t959 (by decide) t715), r983, r985, r986, r987, r984, (show 0 ≤ (1 : Int32).toInt ∧ (1 : Int32).toInt ≤ 1 by decide), (by have zl1 : (1 : Int32).toInt = 1 := (by decide); omega), (by omega), rfl⟩
    · have dc720 : r693.toInt = 0 := eq_i (a := r693.toInt) (b := 0) rfl rfl c720
      have k988 : 0 ≤ r693.toInt ∧ r693.toInt ≤ 0 := ⟨t716.1, Int.le_trans (Int.le_of_eq dc720) (Int.le_refl _)⟩
      refine lv_iconst (v := 0) hx hb dX10_line0_17 (by decide) ?_
      exact ret_i (v := 0) hx hb hr hlocks hS (hP.sub (ws' := [(h0, .inr (10, vL 67 F694)), (h_tape, .inl (cB, 940, .inl f_tape)), (h_h, .inl (cI, 104, .inl f_h)), (h_names, .inl (cJ, 36, .inr (.inl f_names))), (h_reserved, .inl (cJ, 23, .inr (.inl f_reserved)))]) [3, 4, 0, 1, 2] rfl) (hD.sub (ws' := [(h0, .inr (10, vL 67 F694)), (h_tape, .inl (cB, 940, .inl f_tape)), (h_h, .inl (cI, 104, .inl f_h)), (h_names, .inl (cJ, 36, .inr (.inl f_names))), (h_reserved, .inl (cJ, 23, .inr (.inl f_reserved)))]) [3, 4, 0, 1, 2] (by decide) rfl) dX10_line0_18 rfl (Nat.le_of_ble_eq_true rfl) (Nat.le_of_ble_eq_true rfl) ⟨F694, y695, y696, y697, y698, y699, y700, y701, y702, x_got, y703, f_h, f_names, (SAME.tr SAME.rf t704 (by decide)), t705, t706, t707, t708, t709, t710, t711, t712, t713, t714, (SAME.at t704 (by decide) e_got), t715, s_h_0, s_h_5, s_h_6, s_h_7, s_h_44, (show 0 ≤ (0 : Int32).toInt ∧ (0 : Int32).toInt ≤ 1 by decide), (by have zl0 : (0 : Int32).toInt = 0 := (by decide); omega), (by omega), rfl⟩
