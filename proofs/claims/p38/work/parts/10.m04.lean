set_option maxHeartbeats 4000000 in
set_option maxRecDepth 100000 in
theorem m_X10_bad (l : Launch) (D : va_G) (cI cJ cB cP cM cZ : ClassId) (h0 : Nat) (Fh : Nat → Value) (x_at : Int32) (p0 : Int32) (sz : Nat) (e_at : Fh 12 = .int x_at) : CI l yX10_bad cX10_bad 2 (some .boolean) { frames := 0, cells := 0, slots := 0, locals := 0 } (GG D cI cJ cB cP cM cZ) D [(h0, .inr (10, vL 67 Fh))] sz [.ref h0, .int p0] (fun (r : Int32) (u : va_W) => ∃ (Gh : Nat → Value), SAME [15, 16] Fh Gh ∧ Gh 15 = .int p0 ∧ Gh 16 = .int x_at ∧ r = 0 ∧ u = [(h0, .inr (10, vL 67 Gh))]) := by
  refine CI_mk (by decide) (Nat.le_of_ble_eq_true rfl) ?_
  intro p e s m below meth c A ls E hAe hG hsz hP hD hA hS hl
  obtain ⟨hx, hb, hr, hw, hown, hlocks, hml, hnm⟩ := E
  have hK := hG.1
  have hl : lv_has ls 2 [(0, .ref h0), (1, .int p0)] := hl
  refine lv_aload_n hx hb dX10_bad_0 rfl (lv_at hl 0 rfl) ?_
  refine lv_iload_n hx hb dX10_bad_1 rfl (lv_at hl 1 rfl) ?_
  refine put_f (D := D) (ci := 10) (v := .int p0) (ty := .int) (C := RX10) (T := TX10) (N := 67) hx hb hw inAX10 tyX10 tyX10_ok nmX10 hown hK hP hD hS 0 rfl rfl 15 (by decide) (hw _ q_1276) (fun _ h9 => h9) rfl (by decide +kernel) rfl rfl dX10_bad_2 (fun H locs F1 eF1 hP hD hS => ?_)
  have hP : va_P D vwCl [(h0, .inr (10, vL 67 F1))] H := hP
  have hD : va_D A [(h0, .inr (10, vL 67 F1))] := hD
  refine lv_aload_n hx hb dX10_bad_5 rfl (lv_at hl 0 rfl) ?_
  refine lv_aload_n hx hb dX10_bad_6 rfl (lv_at hl 0 rfl) ?_
  have n2 : F1 12 = .int x_at := (get_ne eF1 (by decide) e_at)
  refine get_f (D := D) (ci := 10) (v := .int x_at) (C := RX10) (T := TX10) (N := 67) hx hb hw inAX10 hown hK hP 0 rfl rfl 12 (by decide) (hw _ q_1273) (fun _ h9 => h9) n2 dX10_bad_7 ?_
  refine put_f (D := D) (ci := 10) (v := .int x_at) (ty := .int) (C := RX10) (T := TX10) (N := 67) hx hb hw inAX10 tyX10 tyX10_ok nmX10 hown hK hP hD hS 0 rfl rfl 16 (by decide) (hw _ q_1277) (fun _ h9 => h9) rfl (by decide +kernel) rfl rfl dX10_bad_10 (fun H locs F3 eF3 hP hD hS => ?_)
  have hP : va_P D vwCl [(h0, .inr (10, vL 67 F3))] H := hP
  have hD : va_D A [(h0, .inr (10, vL 67 F3))] := hD
  refine lv_iconst (v := 0) hx hb dX10_bad_13 (by decide) ?_
  exact ret_i (v := 0) hx hb hr hlocks hS hP hD dX10_bad_14 rfl (Nat.le_of_ble_eq_true rfl) (Nat.le_of_ble_eq_true rfl) ⟨F3, (SAME.up eF3 (SAME.up eF1 SAME.rf (by decide)) (by decide)), (get_ne eF3 (by decide) (get_eq eF1)), (get_eq eF3), rfl, rfl⟩
set_option maxHeartbeats 4000000 in
set_option maxRecDepth 100000 in
theorem m_X10_isWord (l : Launch) (D : va_G) (cI cJ cB cP cM cZ : ClassId) (h0 : Nat) (Fh : Nat → Value) (x_token : Int32) (x_number : Int32) (x_word : Int64) (p0 : Int64) (sz : Nat) (e_token : Fh 11 = .int x_token) (i_x_token : IR 0 4 x_token) (e_number : Fh 14 = .int x_number) (e_word : Fh 18 = .long x_word) (o_0 : (x_token.toInt = 2 → 0 ≤ x_number.toInt ∧ x_number.toInt ≤ 999)) : CI l yX10_isWord cX10_isWord 3 (some .boolean) { frames := 0, cells := 0, slots := 0, locals := 0 } (GG D cI cJ cB cP cM cZ) D [(h0, .inr (10, vL 67 Fh))] sz [.ref h0, .long p0] (fun (r : Int32) (u : va_W) => IR 0 1 r ∧ ((r.toInt = 1 → x_token.toInt = 1)) ∧ u = [(h0, .inr (10, vL 67 Fh))]) := by
  refine CI_mk (by decide) (Nat.le_of_ble_eq_true rfl) ?_
  intro p e s m below meth c A ls E hAe hG hsz hP hD hA hS hl
  obtain ⟨hx, hb, hr, hw, hown, hlocks, hml, hnm⟩ := E
  have hK := hG.1
  have i_x_token : 0 ≤ x_token.toInt ∧ x_token.toInt ≤ 4 := i_x_token
  have hl : lv_has ls 3 [(0, .ref h0), (1, .long p0)] := hl
  refine lv_aload_n hx hb dX10_isWord_0 rfl (lv_at hl 0 rfl) ?_
  refine get_f (D := D) (ci := 10) (v := .int x_token) (C := RX10) (T := TX10) (N := 67) hx hb hw inAX10 hown hK hP 0 rfl rfl 11 (by decide) (hw _ q_1272) (fun _ h9 => h9) e_token dX10_isWord_1 ?_
  refine lv_iconst (v := 1) hx hb dX10_isWord_4 (by decide) ?_
  refine lv_icmp_ne (tgt := 21) hx hb dX10_isWord_5 (by decide) (fun c1 => ?_) (fun c1 => ?_)
  · have dc1 : x_token.toInt ≠ 1 := ne_i (a := x_token.toInt) (b := 1) rfl rfl c1
    refine lv_iconst (v := 0) hx hb dX10_isWord_21 (by decide) ?_
    exact ret_i (v := 0) hx hb hr hlocks hS hP hD dX10_isWord_22 rfl (Nat.le_of_ble_eq_true rfl) (Nat.le_of_ble_eq_true rfl) ⟨(show 0 ≤ (0 : Int32).toInt ∧ (0 : Int32).toInt ≤ 1 by decide), (by have zl0 : (0 : Int32).toInt = 0 := (by decide); omega), rfl⟩
  · have dc1 : x_token.toInt = 1 := eq_i (a := x_token.toInt) (b := 1) rfl rfl c1
    have k2 : 1 ≤ x_token.toInt ∧ x_token.toInt ≤ 1 := ⟨Int.le_trans (Int.le_refl _) (Int.le_of_eq dc1.symm), Int.le_trans (Int.le_of_eq dc1) (Int.le_refl _)⟩
    refine lv_aload_n hx hb dX10_isWord_8 rfl (lv_at hl 0 rfl) ?_
    refine get_f (D := D) (ci := 10) (v := .long x_word) (C := RX10) (T := TX10) (N := 67) hx hb hw inAX10 hown hK hP 0 rfl rfl 18 (by decide) (hw _ q_1279) (fun _ h9 => h9) e_word dX10_isWord_9 ?_
    refine lv_lload_n hx hb dX10_isWord_12 rfl (lv_at hl 1 rfl) ?_
    refine W.lcmp hx hb dX10_isWord_13 ?_
    refine lv_topi (fun v3 ev3 => ?_)
    refine lv_if_ne (tgt := 21) hx hb dX10_isWord_14 (by decide) (fun c4 => ?_) (fun c4 => ?_)
    · have dc4 : v3.toInt ≠ 0 := ne_i (a := v3.toInt) (b := 0) rfl rfl c4
      refine lv_iconst (v := 0) hx hb dX10_isWord_21 (by decide) ?_
      exact ret_i (v := 0) hx hb hr hlocks hS hP hD dX10_isWord_22 rfl (Nat.le_of_ble_eq_true rfl) (Nat.le_of_ble_eq_true rfl) ⟨(show 0 ≤ (0 : Int32).toInt ∧ (0 : Int32).toInt ≤ 1 by decide), (by have zl0 : (0 : Int32).toInt = 0 := (by decide); omega), rfl⟩
    · have dc4 : v3.toInt = 0 := eq_i (a := v3.toInt) (b := 0) rfl rfl c4
      have k5 : 0 ≤ v3.toInt ∧ v3.toInt ≤ 0 := ⟨Int.le_trans (Int.le_refl _) (Int.le_of_eq dc4.symm), Int.le_trans (Int.le_of_eq dc4) (Int.le_refl _)⟩
      refine lv_iconst (v := 1) hx hb dX10_isWord_17 (by decide) ?_
      refine lv_goto (tgt := 22) hx hb dX10_isWord_18 (by decide) ?_
      exact ret_i (v := 1) hx hb hr hlocks hS hP hD dX10_isWord_22 rfl (Nat.le_of_ble_eq_true rfl) (Nat.le_of_ble_eq_true rfl) ⟨(show 0 ≤ (1 : Int32).toInt ∧ (1 : Int32).toInt ≤ 1 by decide), (by have zl1 : (1 : Int32).toInt = 1 := (by decide); omega), rfl⟩
set_option maxHeartbeats 4000000 in
set_option maxRecDepth 100000 in
theorem m_X10_isSign (l : Launch) (D : va_G) (cI cJ cB cP cM cZ : ClassId) (h0 : Nat) (Fh : Nat → Value) (x_token : Int32) (x_number : Int32) (p0 : Int32) (sz : Nat) (e_token : Fh 11 = .int x_token) (i_x_token : IR 0 4 x_token) (e_number : Fh 14 = .int x_number) (o_0 : (x_token.toInt = 2 → 0 ≤ x_number.toInt ∧ x_number.toInt ≤ 999)) : CI l yX10_isSign cX10_isSign 2 (some .boolean) { frames := 0, cells := 0, slots := 0, locals := 0 } (GG D cI cJ cB cP cM cZ) D [(h0, .inr (10, vL 67 Fh))] sz [.ref h0, .int p0] (fun (r : Int32) (u : va_W) => IR 0 1 r ∧ ((r.toInt = 1 → x_token.toInt = 3)) ∧ u = [(h0, .inr (10, vL 67 Fh))]) := by
  refine CI_mk (by decide) (Nat.le_of_ble_eq_true rfl) ?_
  intro p e s m below meth c A ls E hAe hG hsz hP hD hA hS hl
  obtain ⟨hx, hb, hr, hw, hown, hlocks, hml, hnm⟩ := E
  have hK := hG.1
  have i_x_token : 0 ≤ x_token.toInt ∧ x_token.toInt ≤ 4 := i_x_token
  have hl : lv_has ls 2 [(0, .ref h0), (1, .int p0)] := hl
  refine lv_aload_n hx hb dX10_isSign_0 rfl (lv_at hl 0 rfl) ?_
  refine get_f (D := D) (ci := 10) (v := .int x_token) (C := RX10) (T := TX10) (N := 67) hx hb hw inAX10 hown hK hP 0 rfl rfl 11 (by decide) (hw _ q_1272) (fun _ h9 => h9) e_token dX10_isSign_1 ?_
  refine lv_iconst (v := 3) hx hb dX10_isSign_4 (by decide) ?_
  refine lv_icmp_ne (tgt := 20) hx hb dX10_isSign_5 (by decide) (fun c1 => ?_) (fun c1 => ?_)
  · have dc1 : x_token.toInt ≠ 3 := ne_i (a := x_token.toInt) (b := 3) rfl rfl c1
    refine lv_iconst (v := 0) hx hb dX10_isSign_20 (by decide) ?_
    exact ret_i (v := 0) hx hb hr hlocks hS hP hD dX10_isSign_21 rfl (Nat.le_of_ble_eq_true rfl) (Nat.le_of_ble_eq_true rfl) ⟨(show 0 ≤ (0 : Int32).toInt ∧ (0 : Int32).toInt ≤ 1 by decide), (by have zl0 : (0 : Int32).toInt = 0 := (by decide); omega), rfl⟩
  · have dc1 : x_token.toInt = 3 := eq_i (a := x_token.toInt) (b := 3) rfl rfl c1
    have k2 : 3 ≤ x_token.toInt ∧ x_token.toInt ≤ 3 := ⟨Int.le_trans (Int.le_refl _) (Int.le_of_eq dc1.symm), Int.le_trans (Int.le_of_eq dc1) (Int.le_refl _)⟩
    refine lv_aload_n hx hb dX10_isSign_8 rfl (lv_at hl 0 rfl) ?_
    refine get_f (D := D) (ci := 10) (v := .int x_number) (C := RX10) (T := TX10) (N := 67) hx hb hw inAX10 hown hK hP 0 rfl rfl 14 (by decide) (hw _ q_1275) (fun _ h9 => h9) e_number dX10_isSign_9 ?_
    refine lv_iload_n hx hb dX10_isSign_12 rfl (lv_at hl 1 rfl) ?_
    refine lv_icmp_ne (tgt := 20) hx hb dX10_isSign_13 (by decide) (fun c3 => ?_) (fun c3 => ?_)
    · have dc3 : x_number.toInt ≠ p0.toInt := ne_i (a := x_number.toInt) (b := p0.toInt) rfl rfl c3
      refine lv_iconst (v := 0) hx hb dX10_isSign_20 (by decide) ?_
      exact ret_i (v := 0) hx hb hr hlocks hS hP hD dX10_isSign_21 rfl (Nat.le_of_ble_eq_true rfl) (Nat.le_of_ble_eq_true rfl) ⟨(show 0 ≤ (0 : Int32).toInt ∧ (0 : Int32).toInt ≤ 1 by decide), (by have zl0 : (0 : Int32).toInt = 0 := (by decide); omega), rfl⟩
    · have dc3 : x_number.toInt = p0.toInt := eq_i (a := x_number.toInt) (b := p0.toInt) rfl rfl c3
      refine lv_iconst (v := 1) hx hb dX10_isSign_16 (by decide) ?_
      refine lv_goto (tgt := 21) hx hb dX10_isSign_17 (by decide) ?_
      exact ret_i (v := 1) hx hb hr hlocks hS hP hD dX10_isSign_21 rfl (Nat.le_of_ble_eq_true rfl) (Nat.le_of_ble_eq_true rfl) ⟨(show 0 ≤ (1 : Int32).toInt ∧ (1 : Int32).toInt ≤ 1 by decide), (by have zl1 : (1 : Int32).toInt = 1 := (by decide); omega), rfl⟩
set_option maxHeartbeats 4000000 in
set_option maxRecDepth 100000 in
theorem m_X10_sign (l : Launch) (D : va_G) (cI cJ cB cP cM cZ : ClassId) (h0 : Nat) (h_tape : Nat) (Fh : Nat → Value) (x_size : Int32) (x_p : Int32) (x_limit : Int32) (x_token : Int32) (x_at : Int32) (x_span : Int32) (x_number : Int32) (x_fault : Int32) (x_faultAt : Int32) (x_word : Int64) (f_tape : Nat → Int32) (p0 : Int32) (sz : Nat) (e_tape : Fh 1 = .ref h_tape) (e_size : Fh 3 = .int x_size) (i_x_size : IR 0 940 x_size) (e_p : Fh 4 = .int x_p) (i_x_p : IR 0 940 x_p) (e_limit : Fh 5 = .int x_limit) (i_x_limit : IR 200 940 x_limit) (e_token : Fh 11 = .int x_token) (i_x_token : IR 0 4 x_token) (e_at : Fh 12 = .int x_at) (e_span : Fh 13 = .int x_span) (e_number : Fh 14 = .int x_number) (e_fault : Fh 15 = .int x_fault) (e_faultAt : Fh 16 = .int x_faultAt) (e_word : Fh 18 = .long x_word) (o_0 : (x_token.toInt = 2 → 0 ≤ x_number.toInt ∧ x_number.toInt ≤ 999)) : CI l yX10_sign cX10_sign 2 (some .boolean) { frames := 2, cells := 0, slots := 0, locals := 43 } (GG D cI cJ cB cP cM cZ) D [(h0, .inr (10, vL 67 Fh)), (h_tape, .inl (cB, 940, .inl f_tape))] sz [.ref h0, .int p0] (fun (r : Int32) (u : va_W) => ∃ (Gh : Nat → Value) (y_p : Int32) (y_token : Int32) (y_at : Int32) (y_span : Int32) (y_number : Int32) (y_fault : Int32) (y_faultAt : Int32) (y_word : Int64), SAME [4, 11, 12, 13, 14, 15, 16, 18] Fh Gh ∧ Gh 4 = .int y_p ∧ IR 0 940 y_p ∧ Gh 11 = .int y_token ∧ IR 0 4 y_token ∧ Gh 12 = .int y_at ∧ Gh 13 = .int y_span ∧ Gh 14 = .int y_number ∧ Gh 15 = .int y_fault ∧ Gh 16 = .int y_faultAt ∧ Gh 18 = .long y_word ∧ IR 0 1 r ∧ ((r.toInt = 1 → (x_token.toInt = 3 ∧ x_p.toInt ≤ y_p.toInt))) ∧ ((y_token.toInt = 2 → 0 ≤ y_number.toInt ∧ y_number.toInt ≤ 999)) ∧ u = [(h0, .inr (10, vL 67 Gh)), (h_tape, .inl (cB, 940, .inl f_tape))]) := by
  refine CI_mk (by decide) (Nat.le_of_ble_eq_true rfl) ?_
  intro p e s m below meth c A ls E hAe hG hsz hP hD hA hS hl
  obtain ⟨hx, hb, hr, hw, hown, hlocks, hml, hnm⟩ := E
  have hK := hG.1
  have i_x_size : 0 ≤ x_size.toInt ∧ x_size.toInt ≤ 940 := i_x_size
  have i_x_p : 0 ≤ x_p.toInt ∧ x_p.toInt ≤ 940 := i_x_p
  have i_x_limit : 200 ≤ x_limit.toInt ∧ x_limit.toInt ≤ 940 := i_x_limit
  have i_x_token : 0 ≤ x_token.toInt ∧ x_token.toInt ≤ 4 := i_x_token
  have hl : lv_has ls 2 [(0, .ref h0), (1, .int p0)] := hl
  refine lv_aload_n hx hb dX10_sign_0 rfl (lv_at hl 0 rfl) ?_
  refine lv_iload_n hx hb dX10_sign_1 rfl (lv_at hl 1 rfl) ?_
  refine call_Vi (wr := [(h_tape, .inl (cB, 940, .inl f_tape))]) (As := [.int p0]) (rest := []) hx hb hml hown hw (m_X10_isSign l D cI cJ cB cP cM cZ h0 Fh x_token x_number p0 _ e_token i_x_token e_number (by omega)) wV_X10_202_X10_isSign dX10_sign_2 hK hP hD hS hA [0] [1] rfl rfl (by decide) (by decide) (by decide) 0 10 rfl rfl GG.fb hG.at hl.1 rfl (Nat.le_of_ble_eq_true rfl) ⟨(Nat.le_of_ble_eq_true rfl), (Nat.le_of_ble_eq_true rfl)⟩ ⟨(Nat.le_of_ble_eq_true rfl), (Nat.le_of_ble_eq_true rfl)⟩ (fun r1 u H locs hp hP hD hS => ?_)
  obtain ⟨t2, t3, rfl⟩ := hp
  have hP : va_P D vwCl [(h_tape, .inl (cB, 940, .inl f_tape)), (h0, .inr (10, vL 67 Fh))] H := hP
  have hD : va_D A [(h_tape, .inl (cB, 940, .inl f_tape)), (h0, .inr (10, vL 67 Fh))] := hD
  refine W.widen (k := 0) (n := 0) (Nat.le_of_ble_eq_true rfl) (Nat.le_of_ble_eq_true rfl) ?_
  refine lv_if_ne (tgt := 14) hx hb dX10_sign_5 (by decide) (fun c5 => ?_) (fun c5 => ?_)
  · have dc5 : r1.toInt ≠ 0 := ne_i (a := r1.toInt) (b := 0) rfl rfl c5
    have k6 : 1 ≤ r1.toInt ∧ r1.toInt ≤ 1 := ⟨ne_lo dc5 t2.1 ⟨Int.le_refl _, Int.le_refl _⟩ (by decide), t2.2⟩
    refine lv_aload_n hx hb dX10_sign_14 rfl (lv_at hl 0 rfl) ?_
    refine call_Vv (wr := []) (As := []) (rest := []) hx hb hml hown hw (m_X10_next l D cI cJ cB cP cM cZ h0 h_tape Fh x_size x_p x_limit x_token x_number x_word f_tape _ e_tape e_size i_x_size e_p i_x_p e_limit i_x_limit e_token i_x_token e_number e_word (by omega)) wV_X10_208_X10_next dX10_sign_15 hK hP hD hS hA [1, 0] [] rfl rfl (by decide) (by decide) (by decide) 0 10 rfl rfl GG.fb hG.at hl.1 rfl (Nat.le_of_ble_eq_true rfl) ⟨(Nat.le_of_ble_eq_true rfl), (Nat.le_of_ble_eq_true rfl)⟩ ⟨(Nat.le_of_ble_eq_true rfl), (Nat.le_of_ble_eq_true rfl)⟩ (fun u H locs hp hP hD hS => ?_)
    obtain ⟨F8, y9, y10, y11, y12, y13, y14, t15, t16, t17, t18, t19, t20, t21, t22, t23, t24, t25, t26, t27, t28, rfl⟩ := hp
    have hP : va_P D vwCl [(h0, .inr (10, vL 67 F8)), (h_tape, .inl (cB, 940, .inl f_tape))] H := hP
    have hD : va_D A [(h0, .inr (10, vL 67 F8)), (h_tape, .inl (cB, 940, .inl f_tape))] := hD
    refine W.widen (k := 0) (n := 0) (Nat.le_of_ble_eq_true rfl) (Nat.le_of_ble_eq_true rfl) ?_
    refine lv_iconst (v := 1) hx hb dX10_sign_18 (by decide) ?_
    exact ret_i (v := 1) hx hb hr hlocks hS hP hD dX10_sign_19 rfl (Nat.le_of_ble_eq_true rfl) (Nat.le_of_ble_eq_true rfl) ⟨F8, y9, y10, y11, y12, y13, x_fault, x_faultAt, y14, (SAME.tr SAME.rf t15 (by decide)), t16, t17, t18, t19, t20, t22, t24, (SAME.at t15 (by decide) e_fault), (SAME.at t15 (by decide) e_faultAt), t25, (show 0 ≤ (1 : Int32).toInt ∧ (1 : Int32).toInt ≤ 1 by decide), (by have zl1 : (1 : Int32).toInt = 1 := (by decide); omega), (by omega), rfl⟩
  · have dc5 : r1.toInt = 0 := eq_i (a := r1.toInt) (b := 0) rfl rfl c5
    have k30 : 0 ≤ r1.toInt ∧ r1.toInt ≤ 0 := ⟨t2.1, Int.le_trans (Int.le_of_eq dc5) (Int.le_refl _)⟩
    refine lv_aload_n hx hb dX10_sign_8 rfl (lv_at hl 0 rfl) ?_
    refine lv_iconst (v := 1) hx hb dX10_sign_9 (by decide) ?_
    refine call_Vi (wr := [(h_tape, .inl (cB, 940, .inl f_tape))]) (As := [.int 1]) (rest := []) hx hb hml hown hw (m_X10_bad l D cI cJ cB cP cM cZ h0 Fh x_at 1 _ e_at) wV_X10_205_X10_bad dX10_sign_10 hK hP hD hS hA [1] [0] rfl rfl (by decide) (by decide) (by decide) 0 10 rfl rfl GG.fb hG.at hl.1 rfl (Nat.le_of_ble_eq_true rfl) ⟨(Nat.le_of_ble_eq_true rfl), (Nat.le_of_ble_eq_true rfl)⟩ ⟨(Nat.le_of_ble_eq_true rfl), (Nat.le_of_ble_eq_true rfl)⟩ (fun r31 u H locs hp hP hD hS => ?_)
    have zl1 : (1 : Int32).toInt = 1 := by decide
    obtain ⟨F32, t33, t34, t35, rfl, rfl⟩ := hp
    have hP : va_P D vwCl [(h_tape, .inl (cB, 940, .inl f_tape)), (h0, .inr (10, vL 67 F32))] H := hP
    have hD : va_D A [(h_tape, .inl (cB, 940, .inl f_tape)), (h0, .inr (10, vL 67 F32))] := hD
    refine W.widen (k := 0) (n := 0) (Nat.le_of_ble_eq_true rfl) (Nat.le_of_ble_eq_true rfl) ?_
    exact ret_i (v := 0) hx hb hr hlocks hS (hP.sub (ws' := [(h0, .inr (10, vL 67 F32)), (h_tape, .inl (cB, 940, .inl f_tape))]) [1, 0] rfl) (hD.sub (ws' := [(h0, .inr (10, vL 67 F32)), (h_tape, .inl (cB, 940, .inl f_tape))]) [1, 0] (by decide) rfl) dX10_sign_13 rfl (Nat.le_of_ble_eq_true rfl) (Nat.le_of_ble_eq_true rfl) ⟨F32, x_p, x_token, x_at, x_span, x_number, 1, x_at, x_word, (SAME.tr SAME.rf t33 (by decide)), (SAME.at t33 (by decide) e_p), i_x_p, (SAME.at t33 (by decide) e_token), i_x_token, (SAME.at t33 (by decide) e_at), (SAME.at t33 (by decide) e_span), (SAME.at t33 (by decide) e_number), t34, t35, (SAME.at t33 (by decide) e_word), (show 0 ≤ (0 : Int32).toInt ∧ (0 : Int32).toInt ≤ 1 by decide), (by have zl0 : (0 : Int32).toInt = 0 := (by decide); have zl1 : (1 : Int32).toInt = 1 := (by decide); omega), (by have zl1 : (1 : Int32).toInt = 1 := (by decide); omega), rfl⟩
set_option maxHeartbeats 4000000 in
set_option maxRecDepth 100000 in
theorem m_X10_isName (l : Launch) (D : va_G) (cI cJ cB cP cM cZ : ClassId) (h0 : Nat) (h_reserved : Nat) (Fh : Nat → Value) (x_token : Int32) (x_number : Int32) (x_word : Int64) (f_reserved : Nat → Int64) (sz : Nat) (e_reserved : Fh 10 = .ref h_reserved) (e_token : Fh 11 = .int x_token) (i_x_token : IR 0 4 x_token) (e_number : Fh 14 = .int x_number) (e_word : Fh 18 = .long x_word) (o_0 : (x_token.toInt = 2 → 0 ≤ x_number.toInt ∧ x_number.toInt ≤ 999)) : CI l yX10_isName cX10_isName 3 (some .boolean) { frames := 0, cells := 0, slots := 0, locals := 0 } (GG D cI cJ cB cP cM cZ) D [(h0, .inr (10, vL 67 Fh)), (h_reserved, .inl (cJ, 23, .inr (.inl f_reserved)))] sz [.ref h0] (fun (r : Int32) (u : va_W) => IR 0 1 r ∧ u = [(h0, .inr (10, vL 67 Fh)), (h_reserved, .inl (cJ, 23, .inr (.inl f_reserved)))]) := by
  refine CI_mk (by decide) (Nat.le_of_ble_eq_true rfl) ?_
  intro p e s m below meth c A ls E hAe hG hsz hP hD hA hS hl
  obtain ⟨hx, hb, hr, hw, hown, hlocks, hml, hnm⟩ := E
  have hK := hG.1
  have i_x_token : 0 ≤ x_token.toInt ∧ x_token.toInt ≤ 4 := i_x_token
  have hl : lv_has ls 3 [(0, .ref h0)] := hl
  refine lv_aload_n hx hb dX10_isName_0 rfl (lv_at hl 0 rfl) ?_
  refine get_f (D := D) (ci := 10) (v := .int x_token) (C := RX10) (T := TX10) (N := 67) hx hb hw inAX10 hown hK hP 0 rfl rfl 11 (by decide) (hw _ q_1272) (fun _ h9 => h9) e_token dX10_isName_1 ?_
  refine lv_iconst (v := 1) hx hb dX10_isName_4 (by decide) ?_
  refine lv_icmp_ne (tgt := 12) hx hb dX10_isName_5 (by decide) (fun c1 => ?_) (fun c1 => ?_)
  · have dc1 : x_token.toInt ≠ 1 := ne_i (a := x_token.toInt) (b := 1) rfl rfl c1
    refine lv_iconst (v := 0) hx hb dX10_isName_12 (by decide) ?_
    refine lv_istore_n (lv' := [(1, .int 0), (0, .ref h0)]) hx hb dX10_isName_13 rfl hl (by decide) rfl (fun ls hl => ?_)
    refine lv_iconst (v := 0) hx hb dX10_isName_14 (by decide) ?_
    refine lv_istore_n (lv' := [(2, .int 0), (1, .int 0), (0, .ref h0)]) hx hb dX10_isName_15 rfl hl (by decide) rfl (fun ls hl => ?_)
    refine mloop (α := (Int32) × (Int32)) (nL := 3) (D := D) (A := A) (H0 := s.heap) (fun a => (23 - a.1.toInt).toNat) (fun a => IR 0 23 a.1 ∧ IR 0 0 a.2) (fun a => [(h0, .inr (10, vL 67 Fh)), (h_reserved, .inl (cJ, 23, .inr (.inl f_reserved)))]) (fun a => [(2, .int a.1), (1, .int a.2), (0, .ref h0)]) (fun H locs ls => W p l e ({ frames := 0, cells := 0, slots := 0, locals := 0 } : Room) s m [.ref h0].toArray below meth c H locs 0 0 (MQ below (va_Qi (fun (r : Int32) (u : va_W) => IR 0 1 r ∧ u = [(h0, .inr (10, vL 67 Fh)), (h_reserved, .inl (cJ, 23, .inr (.inl f_reserved)))]) (PO D A) A) [.ref h0].toArray s 0 0 A) (F0 m 16 ls [])) ?_ (0, 0) ⟨(show 0 ≤ (0 : Int32).toInt ∧ (0 : Int32).toInt ≤ 23 by decide), (show 0 ≤ (0 : Int32).toInt ∧ (0 : Int32).toInt ≤ 0 by decide)⟩ _ _ _ hP hD hS hl
    rintro ⟨u2, u3⟩ ⟨i4, i5⟩ ih H locs ls hP hD hS hl
    have i4 : 0 ≤ u2.toInt ∧ u2.toInt ≤ 23 := i4
    have i5 : 0 ≤ u3.toInt ∧ u3.toInt ≤ 0 := i5
    have hP : va_P D vwCl [(h0, .inr (10, vL 67 Fh)), (h_reserved, .inl (cJ, 23, .inr (.inl f_reserved)))] H := hP
    have hD : va_D A [(h0, .inr (10, vL 67 Fh)), (h_reserved, .inl (cJ, 23, .inr (.inl f_reserved)))] := hD
    have hl : lv_has ls 3 [(2, .int u2), (1, .int u3), (0, .ref h0)] := hl
    refine lv_iload_n hx hb dX10_isName_16 rfl (lv_at hl 0 rfl) ?_
    refine lv_bipush (v := 23) hx hb dX10_isName_17 (by decide) ?_
    refine lv_icmp_ge (tgt := 52) hx hb dX10_isName_19 (by decide) (fun c6 => ?_) (fun c6 => ?_)
    · have dc6 : 23 ≤ u2.toInt := le_i (a := 23) (b := u2.toInt) rfl rfl c6
      have k7 : 23 ≤ u2.toInt ∧ u2.toInt ≤ 23 := ⟨Int.le_trans (Int.le_refl _) dc6, i4.2⟩
      refine lv_iload_n hx hb dX10_isName_52 rfl (lv_at hl 1 rfl) ?_
      exact ret_i (v := u3) hx hb hr hlocks hS hP hD dX10_isName_53 (nz_i (show 0 ≤ u3.toInt ∧ u3.toInt ≤ 1 from (ir_wk i5 (by decide) (by decide))).1 (show 0 ≤ u3.toInt ∧ u3.toInt ≤ 1 from (ir_wk i5 (by decide) (by decide))).2) (Nat.le_of_ble_eq_true rfl) (Nat.le_of_ble_eq_true rfl) ⟨(ir_wk i5 (by decide) (by decide)), rfl⟩
    · have dc6 : u2.toInt < 23 := nle_i (a := 23) (b := u2.toInt) rfl rfl c6
      have k8 : 0 ≤ u2.toInt ∧ u2.toInt ≤ 22 := ⟨i4.1, up_lt dc6 (Int.le_refl _) (by decide)⟩
      refine lv_iload_n hx hb dX10_isName_22 rfl (lv_at hl 1 rfl) ?_
      refine lv_if_eq (tgt := 44) hx hb dX10_isName_23 (by decide) (fun c9 => ?_) (fun c9 => False.elim (bad_ne (ne_i (a := u3.toInt) (b := 0) rfl rfl c9) i5 ⟨Int.le_refl _, Int.le_refl _⟩ (by decide)))
      have dc9 : u3.toInt = 0 := eq_i (a := u3.toInt) (b := 0) rfl rfl c9
      refine lv_iconst (v := 0) hx hb dX10_isName_44 (by decide) ?_
      refine lv_istore_n (lv' := [(1, .int 0), (2, .int u2), (0, .ref h0)]) hx hb dX10_isName_45 rfl hl (by decide) rfl (fun ls hl => ?_)
      obtain ⟨v10, ev10⟩ : ∃ z : Int32, z = u2 + 1 := ⟨_, rfl⟩
      have bv10 : v10.toInt = u2.toInt + 1 := by rw [ev10]; exact add_k rfl rfl k8 ⟨Int.le_refl _, Int.le_refl _⟩ (by decide)
      have k11 : 1 ≤ v10.toInt ∧ v10.toInt ≤ 23 := add_r bv10 k8 ⟨Int.le_refl _, Int.le_refl _⟩ (by decide)
      refine lv_iinc (v := v10) (lv' := [(2, .int v10), (1, .int 0), (0, .ref h0)]) hx hb dX10_isName_46 hl (k := 1) rfl (by rw [ev10]; rfl) (by decide) rfl (fun ls hl => ?_)
      refine lv_goto (tgt := 16) hx hb dX10_isName_49 (by decide) ?_
      exact ih (v10, 0) ⟨(ir_wk k11 (by decide) (by decide)), (show 0 ≤ (0 : Int32).toInt ∧ (0 : Int32).toInt ≤ 0 by decide)⟩ (by show (23 - v10.toInt).toNat < (23 - u2.toInt).toNat; omega) _ _ _ hP hD hS (lv_sub hl [0, 1, 2] rfl)
  · have dc1 : x_token.toInt = 1 := eq_i (a := x_token.toInt) (b := 1) rfl rfl c1
    have k12 : 1 ≤ x_token.toInt ∧ x_token.toInt ≤ 1 := ⟨Int.le_trans (Int.le_refl _) (Int.le_of_eq dc1.symm), Int.le_trans (Int.le_of_eq dc1) (Int.le_refl _)⟩
    refine lv_iconst (v := 1) hx hb dX10_isName_8 (by decide) ?_
    refine lv_goto (tgt := 13) hx hb dX10_isName_9 (by decide) ?_
    refine lv_istore_n (lv' := [(1, .int 1), (0, .ref h0)]) hx hb dX10_isName_13 rfl hl (by decide) rfl (fun ls hl => ?_)
    refine lv_iconst (v := 0) hx hb dX10_isName_14 (by decide) ?_
    refine lv_istore_n (lv' := [(2, .int 0), (1, .int 1), (0, .ref h0)]) hx hb dX10_isName_15 rfl hl (by decide) rfl (fun ls hl => ?_)
    refine mloop (α := (Int32) × (Int32)) (nL := 3) (D := D) (A := A) (H0 := s.heap) (fun a => (23 - a.1.toInt).toNat) (fun a => IR 0 23 a.1 ∧ IR 0 1 a.2) (fun a => [(h0, .inr (10, vL 67 Fh)), (h_reserved, .inl (cJ, 23, .inr (.inl f_reserved)))]) (fun a => [(2, .int a.1), (1, .int a.2), (0, .ref h0)]) (fun H locs ls => W p l e ({ frames := 0, cells := 0, slots := 0, locals := 0 } : Room) s m [.ref h0].toArray below meth c H locs 0 0 (MQ below (va_Qi (fun (r : Int32) (u : va_W) => IR 0 1 r ∧ u = [(h0, .inr (10, vL 67 Fh)), (h_reserved, .inl (cJ, 23, .inr (.inl f_reserved)))]) (PO D A) A) [.ref h0].toArray s 0 0 A) (F0 m 16 ls [])) ?_ (0, 1) ⟨(show 0 ≤ (0 : Int32).toInt ∧ (0 : Int32).toInt ≤ 23 by decide), (show 0 ≤ (1 : Int32).toInt ∧ (1 : Int32).toInt ≤ 1 by decide)⟩ _ _ _ hP hD hS hl
    rintro ⟨u13, u14⟩ ⟨i15, i16⟩ ih H locs ls hP hD hS hl
    have i15 : 0 ≤ u13.toInt ∧ u13.toInt ≤ 23 := i15
    have i16 : 0 ≤ u14.toInt ∧ u14.toInt ≤ 1 := i16
    have hP : va_P D vwCl [(h0, .inr (10, vL 67 Fh)), (h_reserved, .inl (cJ, 23, .inr (.inl f_reserved)))] H := hP
    have hD : va_D A [(h0, .inr (10, vL 67 Fh)), (h_reserved, .inl (cJ, 23, .inr (.inl f_reserved)))] := hD
    have hl : lv_has ls 3 [(2, .int u13), (1, .int u14), (0, .ref h0)] := hl
    refine lv_iload_n hx hb dX10_isName_16 rfl (lv_at hl 0 rfl) ?_
    refine lv_bipush (v := 23) hx hb dX10_isName_17 (by decide) ?_
    refine lv_icmp_ge (tgt := 52) hx hb dX10_isName_19 (by decide) (fun c17 => ?_) (fun c17 => ?_)
    · have dc17 : 23 ≤ u13.toInt := le_i (a := 23) (b := u13.toInt) rfl rfl c17
      have k18 : 23 ≤ u13.toInt ∧ u13.toInt ≤ 23 := ⟨Int.le_trans (Int.le_refl _) dc17, i15.2⟩
      refine lv_iload_n hx hb dX10_isName_52 rfl (lv_at hl 1 rfl) ?_
      exact ret_i (v := u14) hx hb hr hlocks hS hP hD dX10_isName_53 (nz_i i16.1 i16.2) (Nat.le_of_ble_eq_true rfl) (Nat.le_of_ble_eq_true rfl) ⟨i16, rfl⟩
    · have dc17 : u13.toInt < 23 := nle_i (a := 23) (b := u13.toInt) rfl rfl c17
      have k19 : 0 ≤ u13.toInt ∧ u13.toInt ≤ 22 := ⟨i15.1, up_lt dc17 (Int.le_refl _) (by decide)⟩
      refine lv_iload_n hx hb dX10_isName_22 rfl (lv_at hl 1 rfl) ?_
      refine lv_if_eq (tgt := 44) hx hb dX10_isName_23 (by decide) (fun c20 => ?_) (fun c20 => ?_)
      · have dc20 : u14.toInt = 0 := eq_i (a := u14.toInt) (b := 0) rfl rfl c20
        have k21 : 0 ≤ u14.toInt ∧ u14.toInt ≤ 0 := ⟨i16.1, Int.le_trans (Int.le_of_eq dc20) (Int.le_refl _)⟩
        refine lv_iconst (v := 0) hx hb dX10_isName_44 (by decide) ?_
        refine lv_istore_n (lv' := [(1, .int 0), (2, .int u13), (0, .ref h0)]) hx hb dX10_isName_45 rfl hl (by decide) rfl (fun ls hl => ?_)
        obtain ⟨v22, ev22⟩ : ∃ z : Int32, z = u13 + 1 := ⟨_, rfl⟩
        have bv22 : v22.toInt = u13.toInt + 1 := by rw [ev22]; exact add_k rfl rfl k19 ⟨Int.le_refl _, Int.le_refl _⟩ (by decide)
        have k23 : 1 ≤ v22.toInt ∧ v22.toInt ≤ 23 := add_r bv22 k19 ⟨Int.le_refl _, Int.le_refl _⟩ (by decide)
        refine lv_iinc (v := v22) (lv' := [(2, .int v22), (1, .int 0), (0, .ref h0)]) hx hb dX10_isName_46 hl (k := 1) rfl (by rw [ev22]; rfl) (by decide) rfl (fun ls hl => ?_)
        refine lv_goto (tgt := 16) hx hb dX10_isName_49 (by decide) ?_
        exact ih (v22, 0) ⟨(ir_wk k23 (by decide) (by decide)), (show 0 ≤ (0 : Int32).toInt ∧ (0 : Int32).toInt ≤ 1 by decide)⟩ (by show (23 - v22.toInt).toNat < (23 - u13.toInt).toNat; omega) _ _ _ hP hD hS (lv_sub hl [0, 1, 2] rfl)
      · have dc20 : u14.toInt ≠ 0 := ne_i (a := u14.toInt) (b := 0) rfl rfl c20
        have k24 : 1 ≤ u14.toInt ∧ u14.toInt ≤ 1 := ⟨ne_lo dc20 i16.1 ⟨Int.le_refl _, Int.le_refl _⟩ (by decide), i16.2⟩
        refine lv_aload_n hx hb dX10_isName_26 rfl (lv_at hl 2 rfl) ?_
        refine get_f (D := D) (ci := 10) (v := .long x_word) (C := RX10) (T := TX10) (N := 67) hx hb hw inAX10 hown hK hP 0 rfl rfl 18 (by decide) (hw _ q_1279) (fun _ h9 => h9) e_word dX10_isName_27 ?_
        refine lv_aload_n hx hb dX10_isName_30 rfl (lv_at hl 2 rfl) ?_
        refine get_f (D := D) (ci := 10) (v := .ref h_reserved) (C := RX10) (T := TX10) (N := 67) hx hb hw inAX10 hown hK hP 0 rfl rfl 10 (by decide) (hw _ q_1271) (fun _ h9 => h9) e_reserved dX10_isName_31 ?_
        refine lv_iload_n hx hb dX10_isName_34 rfl (lv_at hl 0 rfl) ?_
        refine va_lald hx hb hK hP 1 1 rfl rfl (ix_k k19 (by decide) (by decide)) dX10_isName_35 ?_
        refine lv_topl (fun v25 ev25 => ?_)
        refine W.lcmp hx hb dX10_isName_36 ?_
        refine lv_topi (fun v26 ev26 => ?_)
        refine lv_if_eq (tgt := 44) hx hb dX10_isName_37 (by decide) (fun c27 => ?_) (fun c27 => ?_)
        · have dc27 : v26.toInt = 0 := eq_i (a := v26.toInt) (b := 0) rfl rfl c27
          have k28 : 0 ≤ v26.toInt ∧ v26.toInt ≤ 0 := ⟨Int.le_trans (Int.le_refl _) (Int.le_of_eq dc27.symm), Int.le_trans (Int.le_of_eq dc27) (Int.le_refl _)⟩
          refine lv_iconst (v := 0) hx hb dX10_isName_44 (by decide) ?_
          refine lv_istore_n (lv' := [(1, .int 0), (2, .int u13), (0, .ref h0)]) hx hb dX10_isName_45 rfl hl (by decide) rfl (fun ls hl => ?_)
          obtain ⟨v29, ev29⟩ : ∃ z : Int32, z = u13 + 1 := ⟨_, rfl⟩
          have bv29 : v29.toInt = u13.toInt + 1 := by rw [ev29]; exact add_k rfl rfl k19 ⟨Int.le_refl _, Int.le_refl _⟩ (by decide)
          have k30 : 1 ≤ v29.toInt ∧ v29.toInt ≤ 23 := add_r bv29 k19 ⟨Int.le_refl _, Int.le_refl _⟩ (by decide)
          refine lv_iinc (v := v29) (lv' := [(2, .int v29), (1, .int 0), (0, .ref h0)]) hx hb dX10_isName_46 hl (k := 1) rfl (by rw [ev29]; rfl) (by decide) rfl (fun ls hl => ?_)
          refine lv_goto (tgt := 16) hx hb dX10_isName_49 (by decide) ?_
          exact ih (v29, 0) ⟨(ir_wk k30 (by decide) (by decide)), (show 0 ≤ (0 : Int32).toInt ∧ (0 : Int32).toInt ≤ 1 by decide)⟩ (by show (23 - v29.toInt).toNat < (23 - u13.toInt).toNat; omega) _ _ _ hP hD hS (lv_sub hl [0, 1, 2] rfl)
        · have dc27 : v26.toInt ≠ 0 := ne_i (a := v26.toInt) (b := 0) rfl rfl c27
          refine lv_iconst (v := 1) hx hb dX10_isName_40 (by decide) ?_
          refine lv_goto (tgt := 45) hx hb dX10_isName_41 (by decide) ?_
          refine lv_istore_n (lv' := [(1, .int 1), (2, .int u13), (0, .ref h0)]) hx hb dX10_isName_45 rfl hl (by decide) rfl (fun ls hl => ?_)
          obtain ⟨v31, ev31⟩ : ∃ z : Int32, z = u13 + 1 := ⟨_, rfl⟩
          have bv31 : v31.toInt = u13.toInt + 1 := by rw [ev31]; exact add_k rfl rfl k19 ⟨Int.le_refl _, Int.le_refl _⟩ (by decide)
          have k32 : 1 ≤ v31.toInt ∧ v31.toInt ≤ 23 := add_r bv31 k19 ⟨Int.le_refl _, Int.le_refl _⟩ (by decide)
          refine lv_iinc (v := v31) (lv' := [(2, .int v31), (1, .int 1), (0, .ref h0)]) hx hb dX10_isName_46 hl (k := 1) rfl (by rw [ev31]; rfl) (by decide) rfl (fun ls hl => ?_)
          refine lv_goto (tgt := 16) hx hb dX10_isName_49 (by decide) ?_
          exact ih (v31, 1) ⟨(ir_wk k32 (by decide) (by decide)), (show 0 ≤ (1 : Int32).toInt ∧ (1 : Int32).toInt ≤ 1 by decide)⟩ (by show (23 - v31.toInt).toNat < (23 - u13.toInt).toNat; omega) _ _ _ hP hD hS (lv_sub hl [0, 1, 2] rfl)
set_option maxHeartbeats 4000000 in
set_option maxRecDepth 100000 in
theorem m_X10_takes (l : Launch) (D : va_G) (cI cJ cB cP cM cZ : ClassId) (h0 : Nat) (h_tape : Nat) (Fh : Nat → Value) (x_size : Int32) (x_p : Int32) (x_limit : Int32) (x_token : Int32) (x_at : Int32) (x_number : Int32) (x_word : Int64) (f_tape : Nat → Int32) (p0 : Int32) (p1 : Int32) (sz : Nat) (e_tape : Fh 1 = .ref h_tape) (e_size : Fh 3 = .int x_size) (i_x_size : IR 0 940 x_size) (e_p : Fh 4 = .int x_p) (i_x_p : IR 0 940 x_p) (e_limit : Fh 5 = .int x_limit) (i_x_limit : IR 200 940 x_limit) (e_token : Fh 11 = .int x_token) (i_x_token : IR 0 4 x_token) (e_at : Fh 12 = .int x_at) (e_number : Fh 14 = .int x_number) (e_word : Fh 18 = .long x_word) (o_0 : (x_token.toInt = 2 → 0 ≤ x_number.toInt ∧ x_number.toInt ≤ 999)) : CI l yX10_takes cX10_takes 3 (some .boolean) { frames := 2, cells := 0, slots := 0, locals := 43 } (GG D cI cJ cB cP cM cZ) D [(h0, .inr (10, vL 67 Fh)), (h_tape, .inl (cB, 940, .inl f_tape))] sz [.ref h0, .int p0, .int p1] (fun (r : Int32) (u : va_W) => (∃ (Gh : Nat → Value) (y_fault : Int32), SAME [15, 16] Fh Gh ∧ Gh 15 = .int y_fault ∧ IR 1 2 y_fault ∧ Gh 16 = .int x_at ∧ ((r.toInt = 1 → (p0.toInt ≤ x_got.toInt ∧ x_got.toInt ≤ p1.toInt ∧ x_p.toInt ≤ x_p.toInt))) ∧ r = 0 ∧ u = [(h0, .inr (10, vL 67 Gh)), (h_tape, .inl (cB, 940, .inl f_tape))]) ∨ (∃ (Gh : Nat → Value) (y_p : Int32) (y_token : Int32) (y_at : Int32) (y_span : Int32) (y_number : Int32) (y_word : Int64) (y_got : Int32), SAME [4, 11, 12, 13, 14, 18, 19] Fh Gh ∧ Gh 4 = .int y_p ∧ IR 0 940 y_p ∧ Gh 11 = .int y_token ∧ IR 0 4 y_token ∧ Gh 12 = .int y_at ∧ IR 0 940 y_at ∧ Gh 13 = .int y_span ∧ IR 0 940 y_span ∧ Gh 14 = .int y_number ∧ Gh 18 = .long y_word ∧ Gh 19 = .int y_got ∧ x_token.toInt = 2 ∧ p0.toInt ≤ x_number.toInt ∧ x_number.toInt ≤ p1.toInt ∧ ((r.toInt = 1 → (p0.toInt ≤ y_got.toInt ∧ y_got.toInt ≤ p1.toInt ∧ x_p.toInt ≤ y_p.toInt))) ∧ ((y_token.toInt = 2 → 0 ≤ y_number.toInt ∧ y_number.toInt ≤ 999)) ∧ r = 1 ∧ u = [(h0, .inr (10, vL 67 Gh)), (h_tape, .inl (cB, 940, .inl f_tape))])) := by
  refine CI_mk (by decide) (Nat.le_of_ble_eq_true rfl) ?_
  intro p e s m below meth c A ls E hAe hG hsz hP hD hA hS hl
  obtain ⟨hx, hb, hr, hw, hown, hlocks, hml, hnm⟩ := E
  have hK := hG.1
  have i_x_size : 0 ≤ x_size.toInt ∧ x_size.toInt ≤ 940 := i_x_size
  have i_x_p : 0 ≤ x_p.toInt ∧ x_p.toInt ≤ 940 := i_x_p
  have i_x_limit : 200 ≤ x_limit.toInt ∧ x_limit.toInt ≤ 940 := i_x_limit
  have i_x_token : 0 ≤ x_token.toInt ∧ x_token.toInt ≤ 4 := i_x_token
  have hl : lv_has ls 3 [(0, .ref h0), (1, .int p0), (2, .int p1)] := hl
  refine lv_aload_n hx hb dX10_takes_0 rfl (lv_at hl 0 rfl) ?_
  refine get_f (D := D) (ci := 10) (v := .int x_token) (C := RX10) (T := TX10) (N := 67) hx hb hw inAX10 hown hK hP 0 rfl rfl 11 (by decide) (hw _ q_1272) (fun _ h9 => h9) e_token dX10_takes_1 ?_
  refine lv_iconst (v := 2) hx hb dX10_takes_4 (by decide) ?_
  refine lv_icmp_eq (tgt := 14) hx hb dX10_takes_5 (by decide) (fun c1 => ?_) (fun c1 => ?_)
  · have dc1 : x_token.toInt = 2 := eq_i (a := x_token.toInt) (b := 2) rfl rfl c1
    have k2 : 2 ≤ x_token.toInt ∧ x_token.toInt ≤ 2 := ⟨Int.le_trans (Int.le_refl _) (Int.le_of_eq dc1.symm), Int.le_trans (Int.le_of_eq dc1) (Int.le_refl _)⟩
    refine lv_aload_n hx hb dX10_takes_14 rfl (lv_at hl 0 rfl) ?_
    refine get_f (D := D) (ci := 10) (v := .int x_number) (C := RX10) (T := TX10) (N := 67) hx hb hw inAX10 hown hK hP 0 rfl rfl 14 (by decide) (hw _ q_1275) (fun _ h9 => h9) e_number dX10_takes_15 ?_
    refine lv_iload_n hx hb dX10_takes_18 rfl (lv_at hl 1 rfl) ?_
    refine lv_iload_n hx hb dX10_takes_19 rfl (lv_at hl 2 rfl) ?_
    refine call_Si (wr := [(h0, .inr (10, vL 67 Fh)), (h_tape, .inl (cB, 940, .inl f_tape))]) (As := [.int x_number, .int p0, .int p1]) (rest := []) hx hb hml hown hw (m_X10_isIn l D cI cJ cB cP cM cZ x_number p0 p1 _ ) wS_X10_211_X10_isIn dX10_takes_20 hP hD hS hA [] [0, 1] rfl rfl (by decide) (by decide) (by decide) GG.fb hG.at hl.1 rfl (Nat.le_of_ble_eq_true rfl) ⟨(Nat.le_of_ble_eq_true rfl), (Nat.le_of_ble_eq_true rfl)⟩ ⟨(Nat.le_of_ble_eq_true rfl), (Nat.le_of_ble_eq_true rfl)⟩ (fun r3 u H locs hp hP hD hS => ?_)
    rcases hp with ⟨t4, rfl, rfl⟩ | ⟨t5, t6, rfl, rfl⟩ | ⟨t7, t8, rfl, rfl⟩
    · have hP : va_P D vwCl [(h0, .inr (10, vL 67 Fh)), (h_tape, .inl (cB, 940, .inl f_tape))] H := hP
      have hD : va_D A [(h0, .inr (10, vL 67 Fh)), (h_tape, .inl (cB, 940, .inl f_tape))] := hD
      refine W.widen (k := 0) (n := 0) (Nat.le_of_ble_eq_true rfl) (Nat.le_of_ble_eq_true rfl) ?_
      have k10 : (-2147483648) ≤ x_number.toInt ∧ x_number.toInt ≤ 2147483646 := ⟨(ir_any _).1, up_lt t4 (ir_any _).2 (by decide)⟩
      have k11 : (-2147483647) ≤ p0.toInt ∧ p0.toInt ≤ 2147483647 := ⟨lo_lt t4 (ir_any _).1 (by decide), (ir_any _).2⟩
      refine lv_if_ne (tgt := 32) hx hb dX10_takes_23 (by decide) (fun g => absurd (by decide) g) (fun _ => ?_)
      refine lv_aload_n hx hb dX10_takes_26 rfl (lv_at hl 0 rfl) ?_
      refine lv_iconst (v := 2) hx hb dX10_takes_27 (by decide) ?_
      refine call_Vi (wr := [(h_tape, .inl (cB, 940, .inl f_tape))]) (As := [.int 2]) (rest := []) hx hb hml hown hw (m_X10_bad l D cI cJ cB cP cM cZ h0 Fh x_at 2 _ e_at) wV_X10_205_X10_bad dX10_takes_28 hK hP hD hS hA [0] [1] rfl rfl (by decide) (by decide) (by decide) 0 10 rfl rfl GG.fb hG.at hl.1 rfl (Nat.le_of_ble_eq_true rfl) ⟨(Nat.le_of_ble_eq_true rfl), (Nat.le_of_ble_eq_true rfl)⟩ ⟨(Nat.le_of_ble_eq_true rfl), (Nat.le_of_ble_eq_true rfl)⟩ (fun r12 u H locs hp hP hD hS => ?_)
      have zl2 : (2 : Int32).toInt = 2 := by decide
      obtain ⟨F13, t14, t15, t16, rfl, rfl⟩ := hp
      have hP : va_P D vwCl [(h_tape, .inl (cB, 940, .inl f_tape)), (h0, .inr (10, vL 67 F13))] H := hP
      have hD : va_D A [(h_tape, .inl (cB, 940, .inl f_tape)), (h0, .inr (10, vL 67 F13))] := hD
      refine W.widen (k := 0) (n := 0) (Nat.le_of_ble_eq_true rfl) (Nat.le_of_ble_eq_true rfl) ?_
      exact ret_i (v := 0) hx hb hr hlocks hS (hP.sub (ws' := [(h0, .inr (10, vL 67 F13)), (h_tape, .inl (cB, 940, .inl f_tape))]) [1, 0] rfl) (hD.sub (ws' := [(h0, .inr (10, vL 67 F13)), (h_tape, .inl (cB, 940, .inl f_tape))]) [1, 0] (by decide) rfl) dX10_takes_31 rfl (Nat.le_of_ble_eq_true rfl) (Nat.le_of_ble_eq_true rfl) (Or.inl ⟨F13, 2, (SAME.tr SAME.rf t14 (by decide)), t15, (show 1 ≤ (2 : Int32).toInt ∧ (2 : Int32).toInt ≤ 2 by decide), t16, (by have zl0 : (0 : Int32).toInt = 0 := (by decide); have zl1 : (1 : Int32).toInt = 1 := (by decide); omega), rfl, rfl⟩)
    · have hP : va_P D vwCl [(h0, .inr (10, vL 67 Fh)), (h_tape, .inl (cB, 940, .inl f_tape))] H := hP
      have hD : va_D A [(h0, .inr (10, vL 67 Fh)), (h_tape, .inl (cB, 940, .inl f_tape))] := hD
      refine W.widen (k := 0) (n := 0) (Nat.le_of_ble_eq_true rfl) (Nat.le_of_ble_eq_true rfl) ?_
      have k18 : (-2147483648) ≤ p1.toInt ∧ p1.toInt ≤ 2147483646 := ⟨(ir_any _).1, up_lt t6 (ir_any _).2 (by decide)⟩
      have k19 : (-2147483647) ≤ x_number.toInt ∧ x_number.toInt ≤ 2147483647 := ⟨lo_lt t6 (ir_any _).1 (by decide), (ir_any _).2⟩
      refine lv_if_ne (tgt := 32) hx hb dX10_takes_23 (by decide) (fun g => absurd (by decide) g) (fun _ => ?_)
      refine lv_aload_n hx hb dX10_takes_26 rfl (lv_at hl 0 rfl) ?_
      refine lv_iconst (v := 2) hx hb dX10_takes_27 (by decide) ?_
      refine call_Vi (wr := [(h_tape, .inl (cB, 940, .inl f_tape))]) (As := [.int 2]) (rest := []) hx hb hml hown hw (m_X10_bad l D cI cJ cB cP cM cZ h0 Fh x_at 2 _ e_at) wV_X10_205_X10_bad dX10_takes_28 hK hP hD hS hA [0] [1] rfl rfl (by decide) (by decide) (by decide) 0 10 rfl rfl GG.fb hG.at hl.1 rfl (Nat.le_of_ble_eq_true rfl) ⟨(Nat.le_of_ble_eq_true rfl), (Nat.le_of_ble_eq_true rfl)⟩ ⟨(Nat.le_of_ble_eq_true rfl), (Nat.le_of_ble_eq_true rfl)⟩ (fun r20 u H locs hp hP hD hS => ?_)
      have zl2 : (2 : Int32).toInt = 2 := by decide
      obtain ⟨F21, t22, t23, t24, rfl, rfl⟩ := hp
      have hP : va_P D vwCl [(h_tape, .inl (cB, 940, .inl f_tape)), (h0, .inr (10, vL 67 F21))] H := hP
      have hD : va_D A [(h_tape, .inl (cB, 940, .inl f_tape)), (h0, .inr (10, vL 67 F21))] := hD
      refine W.widen (k := 0) (n := 0) (Nat.le_of_ble_eq_true rfl) (Nat.le_of_ble_eq_true rfl) ?_
      exact ret_i (v := 0) hx hb hr hlocks hS (hP.sub (ws' := [(h0, .inr (10, vL 67 F21)), (h_tape, .inl (cB, 940, .inl f_tape))]) [1, 0] rfl) (hD.sub (ws' := [(h0, .inr (10, vL 67 F21)), (h_tape, .inl (cB, 940, .inl f_tape))]) [1, 0] (by decide) rfl) dX10_takes_31 rfl (Nat.le_of_ble_eq_true rfl) (Nat.le_of_ble_eq_true rfl) (Or.inl ⟨F21, 2, (SAME.tr SAME.rf t22 (by decide)), t23, (show 1 ≤ (2 : Int32).toInt ∧ (2 : Int32).toInt ≤ 2 by decide), t24, (by have zl0 : (0 : Int32).toInt = 0 := (by decide); have zl1 : (1 : Int32).toInt = 1 := (by decide); omega), rfl, rfl⟩)
    · have hP : va_P D vwCl [(h0, .inr (10, vL 67 Fh)), (h_tape, .inl (cB, 940, .inl f_tape))] H := hP
      have hD : va_D A [(h0, .inr (10, vL 67 Fh)), (h_tape, .inl (cB, 940, .inl f_tape))] := hD
      refine W.widen (k := 0) (n := 0) (Nat.le_of_ble_eq_true rfl) (Nat.le_of_ble_eq_true rfl) ?_
      refine lv_if_ne (tgt := 32) hx hb dX10_takes_23 (by decide) (fun _ => ?_) (fun g => absurd g (by decide))
      refine lv_aload_n hx hb dX10_takes_32 rfl (lv_at hl 0 rfl) ?_
      refine lv_aload_n hx hb dX10_takes_33 rfl (lv_at hl 0 rfl) ?_
      refine get_f (D := D) (ci := 10) (v := .int x_number) (C := RX10) (T := TX10) (N := 67) hx hb hw inAX10 hown hK hP 0 rfl rfl 14 (by decide) (hw _ q_1275) (fun _ h9 => h9) e_number dX10_takes_34 ?_
      refine put_f (D := D) (ci := 10) (v := .int x_number) (ty := .int) (C := RX10) (T := TX10) (N := 67) hx hb hw inAX10 tyX10 tyX10_ok nmX10 hown hK hP hD hS 0 rfl rfl 19 (by decide) (hw _ q_1280) (fun _ h9 => h9) rfl (by decide +kernel) rfl rfl dX10_takes_37 (fun H locs F26 eF26 hP hD hS => ?_)
      have hP : va_P D vwCl [(h0, .inr (10, vL 67 F26)), (h_tape, .inl (cB, 940, .inl f_tape))] H := hP
      have hD : va_D A [(h0, .inr (10, vL 67 F26)), (h_tape, .inl (cB, 940, .inl f_tape))] := hD
      refine lv_aload_n hx hb dX10_takes_40 rfl (lv_at hl 0 rfl) ?_
      have n27 : F26 1 = .ref h_tape := (get_ne eF26 (by decide) e_tape)
      have n28 : F26 3 = .int x_size := (get_ne eF26 (by decide) e_size)
      have n29 : F26 4 = .int x_p := (get_ne eF26 (by decide) e_p)
      have n30 : F26 5 = .int x_limit := (get_ne eF26 (by decide) e_limit)
      have n31 : F26 11 = .int x_token := (get_ne eF26 (by decide) e_token)
      have n32 : F26 14 = .int x_number := (get_ne eF26 (by decide) e_number)
      have n33 : F26 18 = .long x_word := (get_ne eF26 (by decide) e_word)
      refine call_Vv (wr := []) (As := []) (rest := []) hx hb hml hown hw (m_X10_next l D cI cJ cB cP cM cZ h0 h_tape F26 x_size x_p x_limit x_token x_number x_word f_tape _ n27 n28 i_x_size n29 i_x_p n30 i_x_limit n31 (ir_wk k2 (by decide) (by decide)) n32 n33 (by omega)) wV_X10_208_X10_next dX10_takes_41 hK hP hD hS hA [0, 1] [] rfl rfl (by decide) (by decide) (by decide) 0 10 rfl rfl GG.fb hG.at hl.1 rfl (Nat.le_of_ble_eq_true rfl) ⟨(Nat.le_of_ble_eq_true rfl), (Nat.le_of_ble_eq_true rfl)⟩ ⟨(Nat.le_of_ble_eq_true rfl), (Nat.le_of_ble_eq_true rfl)⟩ (fun u H locs hp hP hD hS => ?_)
      obtain ⟨F35, y36, y37, y38, y39, y40, y41, t42, t43, t44, t45, t46, t47, t48, t49, t50, t51, t52, t53, t54, t55, rfl⟩ := hp
      have hP : va_P D vwCl [(h0, .inr (10, vL 67 F35)), (h_tape, .inl (cB, 940, .inl f_tape))] H := hP
      have hD : va_D A [(h0, .inr (10, vL 67 F35)), (h_tape, .inl (cB, 940, .inl f_tape))] := hD
      refine W.widen (k := 0) (n := 0) (Nat.le_of_ble_eq_true rfl) (Nat.le_of_ble_eq_true rfl) ?_
      refine lv_iconst (v := 1) hx hb dX10_takes_44 (by decide) ?_
      exact ret_i (v := 1) hx hb hr hlocks hS hP hD dX10_takes_45 rfl (Nat.le_of_ble_eq_true rfl) (Nat.le_of_ble_eq_true rfl) (Or.inr ⟨F35, y36, y37, y38, y39, y40, y41, x_number, (SAME.tr (SAME.up eF26 SAME.rf (by decide)) t42 (by decide)), t43, t44, t45, t46, t47, t48, t49, t50, t51, t52, (SAME.at t42 (by decide) (get_eq eF26)), dc1, t7, t8, (by have zl1 : (1 : Int32).toInt = 1 := (by decide); omega), (by omega), rfl, rfl⟩)
  · have dc1 : x_token.toInt ≠ 2 := ne_i (a := x_token.toInt) (b := 2) rfl rfl c1
    refine lv_aload_n hx hb dX10_takes_8 rfl (lv_at hl 0 rfl) ?_
    refine lv_iconst (v := 1) hx hb dX10_takes_9 (by decide) ?_
    refine call_Vi (wr := [(h_tape, .inl (cB, 940, .inl f_tape))]) (As := [.int 1]) (rest := []) hx hb hml hown hw (m_X10_bad l D cI cJ cB cP cM cZ h0 Fh x_at 1 _ e_at) wV_X10_205_X10_bad dX10_takes_10 hK hP hD hS hA [0] [1] rfl rfl (by decide) (by decide) (by decide) 0 10 rfl rfl GG.fb hG.at hl.1 rfl (Nat.le_of_ble_eq_true rfl) ⟨(Nat.le_of_ble_eq_true rfl), (Nat.le_of_ble_eq_true rfl)⟩ ⟨(Nat.le_of_ble_eq_true rfl), (Nat.le_of_ble_eq_true rfl)⟩ (fun r57 u H locs hp hP hD hS => ?_)
    have zl1 : (1 : Int32).toInt = 1 := by decide
    obtain ⟨F58, t59, t60, t61, rfl, rfl⟩ := hp
    have hP : va_P D vwCl [(h_tape, .inl (cB, 940, .inl f_tape)), (h0, .inr (10, vL 67 F58))] H := hP
    have hD : va_D A [(h_tape, .inl (cB, 940, .inl f_tape)), (h0, .inr (10, vL 67 F58))] := hD
    refine W.widen (k := 0) (n := 0) (Nat.le_of_ble_eq_true rfl) (Nat.le_of_ble_eq_true rfl) ?_
    exact ret_i (v := 0) hx hb hr hlocks hS (hP.sub (ws' := [(h0, .inr (10, vL 67 F58)), (h_tape, .inl (cB, 940, .inl f_tape))]) [1, 0] rfl) (hD.sub (ws' := [(h0, .inr (10, vL 67 F58)), (h_tape, .inl (cB, 940, .inl f_tape))]) [1, 0] (by decide) rfl) dX10_takes_13 rfl (Nat.le_of_ble_eq_true rfl) (Nat.le_of_ble_eq_true rfl) (Or.inl ⟨F58, 1, (SAME.tr SAME.rf t59 (by decide)), t60, (show 1 ≤ (1 : Int32).toInt ∧ (1 : Int32).toInt ≤ 2 by decide), t61, (by have zl0 : (0 : Int32).toInt = 0 := (by decide); have zl1 : (1 : Int32).toInt = 1 := (by decide); omega), rfl, rfl⟩)
set_option maxHeartbeats 4000000 in
set_option maxRecDepth 100000 in
theorem m_X10_find (l : Launch) (D : va_G) (cI cJ cB cP cM cZ : ClassId) (h0 : Nat) (h_names : Nat) (Fh : Nat → Value) (x_word : Int64) (f_names : Nat → Int64) (p0 : Int32) (p1 : Int32) (sz : Nat) (e_names : Fh 9 = .ref h_names) (e_word : Fh 18 = .long x_word) (i_p0 : IR 0 30 p0) (i_p1 : IR 0 12 p1) (z_0 : p0.toInt + p1.toInt ≤ 36) : CI l yX10_find cX10_find 4 (some .int) { frames := 0, cells := 0, slots := 0, locals := 0 } (GG D cI cJ cB cP cM cZ) D [(h0, .inr (10, vL 67 Fh)), (h_names, .inl (cJ, 36, .inr (.inl f_names)))] sz [.ref h0, .int p0, .int p1] (fun (r : Int32) (u : va_W) => (p1.toInt ≤ 12 ∧ r = (-1) ∧ u = [(h0, .inr (10, vL 67 Fh)), (h_names, .inl (cJ, 36, .inr (.inl f_names)))]) ∨ (IR 0 11 r ∧ 0 < p1.toInt ∧ u = [(h0, .inr (10, vL 67 Fh)), (h_names, .inl (cJ, 36, .inr (.inl f_names)))])) := by
  refine CI_mk (by decide) (Nat.le_of_ble_eq_true rfl) ?_
  intro p e s m below meth c A ls E hAe hG hsz hP hD hA hS hl
  obtain ⟨hx, hb, hr, hw, hown, hlocks, hml, hnm⟩ := E
  have hK := hG.1
  have i_p0 : 0 ≤ p0.toInt ∧ p0.toInt ≤ 30 := i_p0
  have i_p1 : 0 ≤ p1.toInt ∧ p1.toInt ≤ 12 := i_p1
  have hl : lv_has ls 4 [(0, .ref h0), (1, .int p0), (2, .int p1)] := hl
  refine lv_iconst (v := 0) hx hb dX10_find_0 (by decide) ?_
  refine lv_istore_n (lv' := [(3, .int 0), (0, .ref h0), (1, .int p0), (2, .int p1)]) hx hb dX10_find_1 rfl hl (by decide) rfl (fun ls hl => ?_)
  refine mloop (α := (Int32)) (nL := 4) (D := D) (A := A) (H0 := s.heap) (fun a => (12 - a.toInt).toNat) (fun a => IR 0 12 a) (fun a => [(h0, .inr (10, vL 67 Fh)), (h_names, .inl (cJ, 36, .inr (.inl f_names)))]) (fun a => [(3, .int a), (0, .ref h0), (1, .int p0), (2, .int p1)]) (fun H locs ls => W p l e ({ frames := 0, cells := 0, slots := 0, locals := 0 } : Room) s m [.ref h0, .int p0, .int p1].toArray below meth c H locs 0 0 (MQ below (va_Qi (fun (r : Int32) (u : va_W) => (p1.toInt ≤ 12 ∧ r = (-1) ∧ u = [(h0, .inr (10, vL 67 Fh)), (h_names, .inl (cJ, 36, .inr (.inl f_names)))]) ∨ (IR 0 11 r ∧ 0 < p1.toInt ∧ u = [(h0, .inr (10, vL 67 Fh)), (h_names, .inl (cJ, 36, .inr (.inl f_names)))])) (PO D A) A) [.ref h0, .int p0, .int p1].toArray s 0 0 A) (F0 m 2 ls [])) ?_ (0) (show 0 ≤ (0 : Int32).toInt ∧ (0 : Int32).toInt ≤ 12 by decide) _ _ _ hP hD hS hl
  rintro u1 i2 ih H locs ls hP hD hS hl
  have i2 : 0 ≤ u1.toInt ∧ u1.toInt ≤ 12 := i2
  have hP : va_P D vwCl [(h0, .inr (10, vL 67 Fh)), (h_names, .inl (cJ, 36, .inr (.inl f_names)))] H := hP
  have hD : va_D A [(h0, .inr (10, vL 67 Fh)), (h_names, .inl (cJ, 36, .inr (.inl f_names)))] := hD
  have hl : lv_has ls 4 [(3, .int u1), (0, .ref h0), (1, .int p0), (2, .int p1)] := hl
  refine lv_iload_n hx hb dX10_find_2 rfl (lv_at hl 0 rfl) ?_
  refine lv_iload_n hx hb dX10_find_3 rfl (lv_at hl 3 rfl) ?_
  refine lv_icmp_ge (tgt := 31) hx hb dX10_find_4 (by decide) (fun c3 => ?_) (fun c3 => ?_)
  · have dc3 : p1.toInt ≤ u1.toInt := le_i (a := p1.toInt) (b := u1.toInt) rfl rfl c3
    refine lv_iconst (v := (-1)) hx hb dX10_find_31 (by decide) ?_
    exact ret_i (v := (-1)) hx hb hr hlocks hS hP hD dX10_find_32 rfl (Nat.le_of_ble_eq_true rfl) (Nat.le_of_ble_eq_true rfl) (Or.inl ⟨(by omega), rfl, rfl⟩)
  · have dc3 : u1.toInt < p1.toInt := nle_i (a := p1.toInt) (b := u1.toInt) rfl rfl c3
    have k4 : 0 ≤ u1.toInt ∧ u1.toInt ≤ 11 := ⟨i2.1, up_lt dc3 i_p1.2 (by decide)⟩
    have k5 : 1 ≤ p1.toInt ∧ p1.toInt ≤ 12 := ⟨lo_lt dc3 i2.1 (by decide), i_p1.2⟩
    refine lv_aload_n hx hb dX10_find_7 rfl (lv_at hl 1 rfl) ?_
    refine get_f (D := D) (ci := 10) (v := .ref h_names) (C := RX10) (T := TX10) (N := 67) hx hb hw inAX10 hown hK hP 0 rfl rfl 9 (by decide) (hw _ q_1270) (fun _ h9 => h9) e_names dX10_find_8 ?_
    refine lv_iload_n hx hb dX10_find_11 rfl (lv_at hl 2 rfl) ?_
    refine lv_iload_n hx hb dX10_find_12 rfl (lv_at hl 0 rfl) ?_
    refine lv_iadd hx hb dX10_find_13 ?_
    refine lv_topi (fun v6 ev6 => ?_)
    have bv6 : v6.toInt = p0.toInt + u1.toInt := by rw [ev6]; exact add_k rfl rfl i_p0 k4 (by decide)
    have k7 : 0 ≤ v6.toInt ∧ v6.toInt ≤ 41 := add_r bv6 i_p0 k4 (by decide)
    refine va_lald hx hb hK hP 1 1 rfl rfl (ix_i (by omega) (by omega)) dX10_find_14 ?_
    refine lv_topl (fun v8 ev8 => ?_)
    refine lv_aload_n hx hb dX10_find_15 rfl (lv_at hl 1 rfl) ?_
    refine get_f (D := D) (ci := 10) (v := .long x_word) (C := RX10) (T := TX10) (N := 67) hx hb hw inAX10 hown hK hP 0 rfl rfl 18 (by decide) (hw _ q_1279) (fun _ h9 => h9) e_word dX10_find_16 ?_
    refine W.lcmp hx hb dX10_find_19 ?_
    refine lv_topi (fun v9 ev9 => ?_)
    refine lv_if_ne (tgt := 25) hx hb dX10_find_20 (by decide) (fun c10 => ?_) (fun c10 => ?_)
    · have dc10 : v9.toInt ≠ 0 := ne_i (a := v9.toInt) (b := 0) rfl rfl c10
      obtain ⟨v11, ev11⟩ : ∃ z : Int32, z = u1 + 1 := ⟨_, rfl⟩
      have bv11 : v11.toInt = u1.toInt + 1 := by rw [ev11]; exact add_k rfl rfl k4 ⟨Int.le_refl _, Int.le_refl _⟩ (by decide)
      have k12 : 1 ≤ v11.toInt ∧ v11.toInt ≤ 12 := add_r bv11 k4 ⟨Int.le_refl _, Int.le_refl _⟩ (by decide)
      refine lv_iinc (v := v11) (lv' := [(3, .int v11), (0, .ref h0), (1, .int p0), (2, .int p1)]) hx hb dX10_find_25 hl (k := 0) rfl (by rw [ev11]; rfl) (by decide) rfl (fun ls hl => ?_)
      refine lv_goto (tgt := 2) hx hb dX10_find_28 (by decide) ?_
      exact ih (v11) (ir_wk k12 (by decide) (by decide)) (by show (12 - v11.toInt).toNat < (12 - u1.toInt).toNat; omega) _ _ _ hP hD hS (lv_sub hl [0, 1, 2, 3] rfl)
    · have dc10 : v9.toInt = 0 := eq_i (a := v9.toInt) (b := 0) rfl rfl c10
      have k13 : 0 ≤ v9.toInt ∧ v9.toInt ≤ 0 := ⟨Int.le_trans (Int.le_refl _) (Int.le_of_eq dc10.symm), Int.le_trans (Int.le_of_eq dc10) (Int.le_refl _)⟩
      refine lv_iload_n hx hb dX10_find_23 rfl (lv_at hl 0 rfl) ?_
      exact ret_i (v := u1) hx hb hr hlocks hS hP hD dX10_find_24 rfl (Nat.le_of_ble_eq_true rfl) (Nat.le_of_ble_eq_true rfl) (Or.inr ⟨k4, (by omega), rfl⟩)
set_option maxHeartbeats 4000000 in
set_option maxRecDepth 100000 in
theorem m_X10_fresh (l : Launch) (D : va_G) (cI cJ cB cP cM cZ : ClassId) (h0 : Nat) (h_tape : Nat) (h_h : Nat) (h_names : Nat) (h_reserved : Nat) (Fh : Nat → Value) (x_size : Int32) (x_p : Int32) (x_limit : Int32) (x_token : Int32) (x_at : Int32) (x_span : Int32) (x_number : Int32) (x_fault : Int32) (x_faultAt : Int32) (x_word : Int64) (f_tape : Nat → Int32) (f_h : Nat → Int32) (f_names : Nat → Int64) (f_reserved : Nat → Int64) (p0 : Int32) (sz : Nat) (e_tape : Fh 1 = .ref h_tape) (e_size : Fh 3 = .int x_size) (i_x_size : IR 0 940 x_size) (e_p : Fh 4 = .int x_p) (i_x_p : IR 0 940 x_p) (e_limit : Fh 5 = .int x_limit) (i_x_limit : IR 200 940 x_limit) (e_h : Fh 7 = .ref h_h) (e_names : Fh 9 = .ref h_names) (e_reserved : Fh 10 = .ref h_reserved) (e_token : Fh 11 = .int x_token) (i_x_token : IR 0 4 x_token) (e_at : Fh 12 = .int x_at) (e_span : Fh 13 = .int x_span) (e_number : Fh 14 = .int x_number) (e_fault : Fh 15 = .int x_fault) (e_faultAt : Fh 16 = .int x_faultAt) (e_word : Fh 18 = .long x_word) (s_h_0 : SG 0 0 0 40 f_h) (s_h_44 : SG 44 55 0 9 f_h) (s_h_5 : SG 5 5 0 12 f_h) (s_h_6 : SG 6 6 0 12 f_h) (s_h_7 : SG 7 7 0 6 f_h) (i_p0 : IR 0 35 p0) (o_0 : (x_token.toInt = 2 → 0 ≤ x_number.toInt ∧ x_number.toInt ≤ 999)) : CI l yX10_fresh cX10_fresh 2 (some .boolean) { frames := 2, cells := 0, slots := 0, locals := 43 } (GG D cI cJ cB cP cM cZ) D [(h0, .inr (10, vL 67 Fh)), (h_tape, .inl (cB, 940, .inl f_tape)), (h_h, .inl (cI, 104, .inl f_h)), (h_names, .inl (cJ, 36, .inr (.inl f_names))), (h_reserved, .inl (cJ, 23, .inr (.inl f_reserved)))] sz [.ref h0, .int p0] (fun (r : Int32) (u : va_W) => ∃ (Gh : Nat → Value) (y_p : Int32) (y_token : Int32) (y_at : Int32) (y_span : Int32) (y_number : Int32) (y_fault : Int32) (y_faultAt : Int32) (y_word : Int64) (g_names : Nat → Int64), SAME [4, 11, 12, 13, 14, 15, 16, 18] Fh Gh ∧ Gh 4 = .int y_p ∧ IR 0 940 y_p ∧ Gh 11 = .int y_token ∧ IR 0 4 y_token ∧ Gh 12 = .int y_at ∧ Gh 13 = .int y_span ∧ Gh 14 = .int y_number ∧ Gh 15 = .int y_fault ∧ Gh 16 = .int y_faultAt ∧ Gh 18 = .long y_word ∧ IR 0 1 r ∧ ((r.toInt = 1 → (x_p.toInt ≤ y_p.toInt ∧ (y_token.toInt = 3 → x_p.toInt < y_p.toInt)))) ∧ ((y_token.toInt = 2 → 0 ≤ y_number.toInt ∧ y_number.toInt ≤ 999)) ∧ u = [(h0, .inr (10, vL 67 Gh)), (h_tape, .inl (cB, 940, .inl f_tape)), (h_h, .inl (cI, 104, .inl f_h)), (h_names, .inl (cJ, 36, .inr (.inl g_names))), (h_reserved, .inl (cJ, 23, .inr (.inl f_reserved)))]) := by
  refine CI_mk (by decide) (Nat.le_of_ble_eq_true rfl) ?_
  intro p e s m below meth c A ls E hAe hG hsz hP hD hA hS hl
  obtain ⟨hx, hb, hr, hw, hown, hlocks, hml, hnm⟩ := E
  have hK := hG.1
  have i_x_size : 0 ≤ x_size.toInt ∧ x_size.toInt ≤ 940 := i_x_size
  have i_x_p : 0 ≤ x_p.toInt ∧ x_p.toInt ≤ 940 := i_x_p
  have i_x_limit : 200 ≤ x_limit.toInt ∧ x_limit.toInt ≤ 940 := i_x_limit
  have i_x_token : 0 ≤ x_token.toInt ∧ x_token.toInt ≤ 4 := i_x_token
  have i_p0 : 0 ≤ p0.toInt ∧ p0.toInt ≤ 35 := i_p0
  have hl : lv_has ls 2 [(0, .ref h0), (1, .int p0)] := hl
  refine lv_aload_n hx hb dX10_fresh_0 rfl (lv_at hl 0 rfl) ?_
  refine call_Vi (wr := [(h_tape, .inl (cB, 940, .inl f_tape)), (h_h, .inl (cI, 104, .inl f_h)), (h_names, .inl (cJ, 36, .inr (.inl f_names)))]) (As := []) (rest := []) hx hb hml hown hw (m_X10_isName l D cI cJ cB cP cM cZ h0 h_reserved Fh x_token x_number x_word f_reserved _ e_reserved e_token i_x_token e_number e_word (by omega)) wV_X10_218_X10_isName dX10_fresh_1 hK hP hD hS hA [0, 4] [1, 2, 3] rfl rfl (by decide) (by decide) (by decide) 0 10 rfl rfl GG.fb hG.at hl.1 rfl (Nat.le_of_ble_eq_true rfl) ⟨(Nat.le_of_ble_eq_true rfl), (Nat.le_of_ble_eq_true rfl)⟩ ⟨(Nat.le_of_ble_eq_true rfl), (Nat.le_of_ble_eq_true rfl)⟩ (fun r1 u H locs hp hP hD hS => ?_)
  obtain ⟨t2, rfl⟩ := hp
  have hP : va_P D vwCl [(h_tape, .inl (cB, 940, .inl f_tape)), (h_h, .inl (cI, 104, .inl f_h)), (h_names, .inl (cJ, 36, .inr (.inl f_names))), (h0, .inr (10, vL 67 Fh)), (h_reserved, .inl (cJ, 23, .inr (.inl f_reserved)))] H := hP
  have hD : va_D A [(h_tape, .inl (cB, 940, .inl f_tape)), (h_h, .inl (cI, 104, .inl f_h)), (h_names, .inl (cJ, 36, .inr (.inl f_names))), (h0, .inr (10, vL 67 Fh)), (h_reserved, .inl (cJ, 23, .inr (.inl f_reserved)))] := hD
  refine W.widen (k := 0) (n := 0) (Nat.le_of_ble_eq_true rfl) (Nat.le_of_ble_eq_true rfl) ?_
  refine lv_if_ne (tgt := 13) hx hb dX10_fresh_4 (by decide) (fun c4 => ?_) (fun c4 => ?_)
  · have dc4 : r1.toInt ≠ 0 := ne_i (a := r1.toInt) (b := 0) rfl rfl c4
    have k5 : 1 ≤ r1.toInt ∧ r1.toInt ≤ 1 := ⟨ne_lo dc4 t2.1 ⟨Int.le_refl _, Int.le_refl _⟩ (by decide), t2.2⟩
    refine lv_aload_n hx hb dX10_fresh_13 rfl (lv_at hl 0 rfl) ?_
    refine lv_bipush (v := 18) hx hb dX10_fresh_14 (by decide) ?_
    refine lv_aload_n hx hb dX10_fresh_16 rfl (lv_at hl 0 rfl) ?_
    refine get_f (D := D) (ci := 10) (v := .ref h_h) (C := RX10) (T := TX10) (N := 67) hx hb hw inAX10 hown hK hP 3 rfl rfl 7 (by decide) (hw _ q_1268) (fun _ h9 => h9) e_h dX10_fresh_17 ?_
    refine lv_iconst (v := 5) hx hb dX10_fresh_20 (by decide) ?_
    refine iald_n hx hb hK hP 1 0 rfl rfl 5 rfl (Nat.le_of_ble_eq_true rfl) (Nat.le_of_ble_eq_true rfl) rfl dX10_fresh_21 ?_
    refine lv_topi (fun v6 ev6 => ?_)
    have k7 : 0 ≤ v6.toInt ∧ v6.toInt ≤ 12 := by rw [ev6]; exact s_h_5.atN 5 (by decide) (by decide)
    refine call_Vi (wr := [(h_tape, .inl (cB, 940, .inl f_tape)), (h_h, .inl (cI, 104, .inl f_h)), (h_reserved, .inl (cJ, 23, .inr (.inl f_reserved)))]) (As := [.int 18, .int v6]) (rest := []) hx hb hml hown hw (m_X10_find l D cI cJ cB cP cM cZ h0 h_names Fh x_word f_names 18 v6 _ e_names e_word (show 0 ≤ (18 : Int32).toInt ∧ (18 : Int32).toInt ≤ 30 by decide) k7 (by have z0 : (18 : Int32).toInt = 18 := rfl; omega)) wV_X10_222_X10_find dX10_fresh_22 hK hP hD hS hA [3, 2] [0, 1, 4] rfl rfl (by decide) (by decide) (by decide) 0 10 rfl rfl GG.fb hG.at hl.1 rfl (Nat.le_of_ble_eq_true rfl) ⟨(Nat.le_of_ble_eq_true rfl), (Nat.le_of_ble_eq_true rfl)⟩ ⟨(Nat.le_of_ble_eq_true rfl), (Nat.le_of_ble_eq_true rfl)⟩ (fun r8 u H locs hp hP hD hS => ?_)
    have zl18 : (18 : Int32).toInt = 18 := by decide
    rcases hp with ⟨t9, rfl, rfl⟩ | ⟨t10, t11, rfl⟩
    · have hP : va_P D vwCl [(h_tape, .inl (cB, 940, .inl f_tape)), (h_h, .inl (cI, 104, .inl f_h)), (h_reserved, .inl (cJ, 23, .inr (.inl f_reserved))), (h0, .inr (10, vL 67 Fh)), (h_names, .inl (cJ, 36, .inr (.inl f_names)))] H := hP
      have hD : va_D A [(h_tape, .inl (cB, 940, .inl f_tape)), (h_h, .inl (cI, 104, .inl f_h)), (h_reserved, .inl (cJ, 23, .inr (.inl f_reserved))), (h0, .inr (10, vL 67 Fh)), (h_names, .inl (cJ, 36, .inr (.inl f_names)))] := hD
      refine W.widen (k := 0) (n := 0) (Nat.le_of_ble_eq_true rfl) (Nat.le_of_ble_eq_true rfl) ?_
      refine lv_if_ge (tgt := 44) hx hb dX10_fresh_25 (by decide) (fun g => absurd g (by decide)) (fun _ => ?_)
      refine lv_aload_n hx hb dX10_fresh_28 rfl (lv_at hl 0 rfl) ?_
      refine lv_bipush (v := 30) hx hb dX10_fresh_29 (by decide) ?_
      refine lv_aload_n hx hb dX10_fresh_31 rfl (lv_at hl 0 rfl) ?_
      refine get_f (D := D) (ci := 10) (v := .ref h_h) (C := RX10) (T := TX10) (N := 67) hx hb hw inAX10 hown hK hP 3 rfl rfl 7 (by decide) (hw _ q_1268) (fun _ h9 => h9) e_h dX10_fresh_32 ?_
      refine lv_bipush (v := 7) hx hb dX10_fresh_35 (by decide) ?_
      refine iald_n hx hb hK hP 1 0 rfl rfl 7 rfl (Nat.le_of_ble_eq_true rfl) (Nat.le_of_ble_eq_true rfl) rfl dX10_fresh_37 ?_
      refine lv_topi (fun v13 ev13 => ?_)
      have k14 : 0 ≤ v13.toInt ∧ v13.toInt ≤ 6 := by rw [ev13]; exact s_h_7.atN 7 (by decide) (by decide)
      refine call_Vi (wr := [(h_tape, .inl (cB, 940, .inl f_tape)), (h_h, .inl (cI, 104, .inl f_h)), (h_reserved, .inl (cJ, 23, .inr (.inl f_reserved)))]) (As := [.int 30, .int v13]) (rest := []) hx hb hml hown hw (m_X10_find l D cI cJ cB cP cM cZ h0 h_names Fh x_word f_names 30 v13 _ e_names e_word (show 0 ≤ (30 : Int32).toInt ∧ (30 : Int32).toInt ≤ 30 by decide) (ir_wk k14 (by decide) (by decide)) (by have z0 : (30 : Int32).toInt = 30 := rfl; omega)) wV_X10_222_X10_find dX10_fresh_38 hK hP hD hS hA [3, 4] [0, 1, 2] rfl rfl (by decide) (by decide) (by decide) 0 10 rfl rfl GG.fb hG.at hl.1 rfl (Nat.le_of_ble_eq_true rfl) ⟨(Nat.le_of_ble_eq_true rfl), (Nat.le_of_ble_eq_true rfl)⟩ ⟨(Nat.le_of_ble_eq_true rfl), (Nat.le_of_ble_eq_true rfl)⟩ (fun r15 u H locs hp hP hD hS => ?_)
      have zl30 : (30 : Int32).toInt = 30 := by decide
      rcases hp with ⟨t16, rfl, rfl⟩ | ⟨t17, t18, rfl⟩
      · have hP : va_P D vwCl [(h_tape, .inl (cB, 940, .inl f_tape)), (h_h, .inl (cI, 104, .inl f_h)), (h_reserved, .inl (cJ, 23, .inr (.inl f_reserved))), (h0, .inr (10, vL 67 Fh)), (h_names, .inl (cJ, 36, .inr (.inl f_names)))] H := hP
        have hD : va_D A [(h_tape, .inl (cB, 940, .inl f_tape)), (h_h, .inl (cI, 104, .inl f_h)), (h_reserved, .inl (cJ, 23, .inr (.inl f_reserved))), (h0, .inr (10, vL 67 Fh)), (h_names, .inl (cJ, 36, .inr (.inl f_names)))] := hD
        refine W.widen (k := 0) (n := 0) (Nat.le_of_ble_eq_true rfl) (Nat.le_of_ble_eq_true rfl) ?_
        refine lv_if_lt (tgt := 50) hx hb dX10_fresh_41 (by decide) (fun _ => ?_) (fun g => absurd (by decide) g)
        refine lv_aload_n hx hb dX10_fresh_50 rfl (lv_at hl 0 rfl) ?_
        refine get_f (D := D) (ci := 10) (v := .ref h_names) (C := RX10) (T := TX10) (N := 67) hx hb hw inAX10 hown hK hP 3 rfl rfl 9 (by decide) (hw _ q_1270) (fun _ h9 => h9) e_names dX10_fresh_51 ?_
        refine lv_iload_n hx hb dX10_fresh_54 rfl (lv_at hl 1 rfl) ?_
        refine lv_aload_n hx hb dX10_fresh_55 rfl (lv_at hl 0 rfl) ?_
        refine get_f (D := D) (ci := 10) (v := .long x_word) (C := RX10) (T := TX10) (N := 67) hx hb hw inAX10 hown hK hP 3 rfl rfl 18 (by decide) (hw _ q_1279) (fun _ h9 => h9) e_word dX10_fresh_56 ?_
        obtain ⟨g20, eg20⟩ : ∃ z : Nat → Int64, vp_updL f_names p0.toNatClampNeg x_word = z := ⟨_, rfl⟩
        refine last_g hx hb hK hP hD hS 4 1 rfl rfl (ix_k i_p0 (by decide) (by decide)) eg20 dX10_fresh_59 (fun H locs hP hD hS => ?_)
        have hP : va_P D vwCl [(h_tape, .inl (cB, 940, .inl f_tape)), (h_h, .inl (cI, 104, .inl f_h)), (h_reserved, .inl (cJ, 23, .inr (.inl f_reserved))), (h0, .inr (10, vL 67 Fh)), (h_names, .inl (cJ, 36, .inr (.inl g20)))] H := hP
        have hD : va_D A [(h_tape, .inl (cB, 940, .inl f_tape)), (h_h, .inl (cI, 104, .inl f_h)), (h_reserved, .inl (cJ, 23, .inr (.inl f_reserved))), (h0, .inr (10, vL 67 Fh)), (h_names, .inl (cJ, 36, .inr (.inl g20)))] := hD
        refine lv_aload_n hx hb dX10_fresh_60 rfl (lv_at hl 0 rfl) ?_
        refine call_Vv (wr := [(h_h, .inl (cI, 104, .inl f_h)), (h_reserved, .inl (cJ, 23, .inr (.inl f_reserved))), (h_names, .inl (cJ, 36, .inr (.inl g20)))]) (As := []) (rest := []) hx hb hml hown hw (m_X10_next l D cI cJ cB cP cM cZ h0 h_tape Fh x_size x_p x_limit x_token x_number x_word f_tape _ e_tape e_size i_x_size e_p i_x_p e_limit i_x_limit e_token i_x_token e_number e_word (by omega)) wV_X10_208_X10_next dX10_fresh_61 hK hP hD hS hA [3, 0] [1, 2, 4] rfl rfl (by decide) (by decide) (by decide) 0 10 rfl rfl GG.fb hG.at hl.1 rfl (Nat.le_of_ble_eq_true rfl) ⟨(Nat.le_of_ble_eq_true rfl), (Nat.le_of_ble_eq_true rfl)⟩ ⟨(Nat.le_of_ble_eq_true rfl), (Nat.le_of_ble_eq_true rfl)⟩ (fun u H locs hp hP hD hS => ?_)
        obtain ⟨F22, y23, y24, y25, y26, y27, y28, t29, t30, t31, t32, t33, t34, t35, t36, t37, t38, t39, t40, t41, t42, rfl⟩ := hp
        have hP : va_P D vwCl [(h_h, .inl (cI, 104, .inl f_h)), (h_reserved, .inl (cJ, 23, .inr (.inl f_reserved))), (h_names, .inl (cJ, 36, .inr (.inl g20))), (h0, .inr (10, vL 67 F22)), (h_tape, .inl (cB, 940, .inl f_tape))] H := hP
        have hD : va_D A [(h_h, .inl (cI, 104, .inl f_h)), (h_reserved, .inl (cJ, 23, .inr (.inl f_reserved))), (h_names, .inl (cJ, 36, .inr (.inl g20))), (h0, .inr (10, vL 67 F22)), (h_tape, .inl (cB, 940, .inl f_tape))] := hD
        refine W.widen (k := 0) (n := 0) (Nat.le_of_ble_eq_true rfl) (Nat.le_of_ble_eq_true rfl) ?_
        refine lv_iconst (v := 1) hx hb dX10_fresh_64 (by decide) ?_
        exact ret_i (v := 1) hx hb hr hlocks hS (hP.sub (ws' := [(h0, .inr (10, vL 67 F22)), (h_tape, .inl (cB, 940, .inl f_tape)), (h_h, .inl (cI, 104, .inl f_h)), (h_names, .inl (cJ, 36, .inr (.inl g20))), (h_reserved, .inl (cJ, 23, .inr (.inl f_reserved)))]) [3, 4, 0, 2, 1] rfl) (hD.sub (ws' := [(h0, .inr (10, vL 67 F22)), (h_tape, .inl (cB, 940, .inl f_tape)), (h_h, .inl (cI, 104, .inl f_h)), (h_names, .inl (cJ, 36, .inr (.inl g20))), (h_reserved, .inl (cJ, 23, .inr (.inl f_reserved)))]) [3, 4, 0, 2, 1] (by decide) rfl) dX10_fresh_65 rfl (Nat.le_of_ble_eq_true rfl) (Nat.le_of_ble_eq_true rfl) ⟨F22, y23, y24, y25, y26, y27, x_fault, x_faultAt, y28, g20, (SAME.tr SAME.rf t29 (by decide)), t30, t31, t32, t33, t34, t36, t38, (SAME.at t29 (by decide) e_fault), (SAME.at t29 (by decide) e_faultAt), t39, (show 0 ≤ (1 : Int32).toInt ∧ (1 : Int32).toInt ≤ 1 by decide), (by have zl1 : (1 : Int32).toInt = 1 := (by decide); omega), (by omega), rfl⟩
      · have hP : va_P D vwCl [(h_tape, .inl (cB, 940, .inl f_tape)), (h_h, .inl (cI, 104, .inl f_h)), (h_reserved, .inl (cJ, 23, .inr (.inl f_reserved))), (h0, .inr (10, vL 67 Fh)), (h_names, .inl (cJ, 36, .inr (.inl f_names)))] H := hP
        have hD : va_D A [(h_tape, .inl (cB, 940, .inl f_tape)), (h_h, .inl (cI, 104, .inl f_h)), (h_reserved, .inl (cJ, 23, .inr (.inl f_reserved))), (h0, .inr (10, vL 67 Fh)), (h_names, .inl (cJ, 36, .inr (.inl f_names)))] := hD
        refine W.widen (k := 0) (n := 0) (Nat.le_of_ble_eq_true rfl) (Nat.le_of_ble_eq_true rfl) ?_
        have k44 : 1 ≤ v13.toInt ∧ v13.toInt ≤ 6 := ⟨lo_lt t18 (Int.le_refl _) (by decide), k14.2⟩
        refine lv_if_lt (tgt := 50) hx hb dX10_fresh_41 (by decide) (fun c45 => False.elim (bad_lt (lt_i (a := r15.toInt) (b := 0) rfl rfl c45) t17.1 (Int.le_refl _) (by decide))) (fun c45 => ?_)
        have dc45 : 0 ≤ r15.toInt := nlt_i (a := r15.toInt) (b := 0) rfl rfl c45
        refine lv_aload_n hx hb dX10_fresh_44 rfl (lv_at hl 0 rfl) ?_
        refine lv_iconst (v := 3) hx hb dX10_fresh_45 (by decide) ?_
        refine call_Vi (wr := [(h_tape, .inl (cB, 940, .inl f_tape)), (h_h, .inl (cI, 104, .inl f_h)), (h_reserved, .inl (cJ, 23, .inr (.inl f_reserved))), (h_names, .inl (cJ, 36, .inr (.inl f_names)))]) (As := [.int 3]) (rest := []) hx hb hml hown hw (m_X10_bad l D cI cJ cB cP cM cZ h0 Fh x_at 3 _ e_at) wV_X10_205_X10_bad dX10_fresh_46 hK hP hD hS hA [3] [0, 1, 2, 4] rfl rfl (by decide) (by decide) (by decide) 0 10 rfl rfl GG.fb hG.at hl.1 rfl (Nat.le_of_ble_eq_true rfl) ⟨(Nat.le_of_ble_eq_true rfl), (Nat.le_of_ble_eq_true rfl)⟩ ⟨(Nat.le_of_ble_eq_true rfl), (Nat.le_of_ble_eq_true rfl)⟩ (fun r46 u H locs hp hP hD hS => ?_)
        have zl3 : (3 : Int32).toInt = 3 := by decide
        obtain ⟨F47, t48, t49, t50, rfl, rfl⟩ := hp
        have hP : va_P D vwCl [(h_tape, .inl (cB, 940, .inl f_tape)), (h_h, .inl (cI, 104, .inl f_h)), (h_reserved, .inl (cJ, 23, .inr (.inl f_reserved))), (h_names, .inl (cJ, 36, .inr (.inl f_names))), (h0, .inr (10, vL 67 F47))] H := hP
        have hD : va_D A [(h_tape, .inl (cB, 940, .inl f_tape)), (h_h, .inl (cI, 104, .inl f_h)), (h_reserved, .inl (cJ, 23, .inr (.inl f_reserved))), (h_names, .inl (cJ, 36, .inr (.inl f_names))), (h0, .inr (10, vL 67 F47))] := hD
        refine W.widen (k := 0) (n := 0) (Nat.le_of_ble_eq_true rfl) (Nat.le_of_ble_eq_true rfl) ?_
        exact ret_i (v := 0) hx hb hr hlocks hS (hP.sub (ws' := [(h0, .inr (10, vL 67 F47)), (h_tape, .inl (cB, 940, .inl f_tape)), (h_h, .inl (cI, 104, .inl f_h)), (h_names, .inl (cJ, 36, .inr (.inl f_names))), (h_reserved, .inl (cJ, 23, .inr (.inl f_reserved)))]) [4, 0, 1, 3, 2] rfl) (hD.sub (ws' := [(h0, .inr (10, vL 67 F47)), (h_tape, .inl (cB, 940, .inl f_tape)), (h_h, .inl (cI, 104, .inl f_h)), (h_names, .inl (cJ, 36, .inr (.inl f_names))), (h_reserved, .inl (cJ, 23, .inr (.inl f_reserved)))]) [4, 0, 1, 3, 2] (by decide) rfl) dX10_fresh_49 rfl (Nat.le_of_ble_eq_true rfl) (Nat.le_of_ble_eq_true rfl) ⟨F47, x_p, x_token, x_at, x_span, x_number, 3, x_at, x_word, f_names, (SAME.tr SAME.rf t48 (by decide)), (SAME.at t48 (by decide) e_p), i_x_p, (SAME.at t48 (by decide) e_token), i_x_token, (SAME.at t48 (by decide) e_at), (SAME.at t48 (by decide) e_span), (SAME.at t48 (by decide) e_number), t49, t50, (SAME.at t48 (by decide) e_word), (show 0 ≤ (0 : Int32).toInt ∧ (0 : Int32).toInt ≤ 1 by decide), (by have zl0 : (0 : Int32).toInt = 0 := (by decide); have zl1 : (1 : Int32).toInt = 1 := (by decide); omega), (by have zl3 : (3 : Int32).toInt = 3 := (by decide); omega), rfl⟩
    · have hP : va_P D vwCl [(h_tape, .inl (cB, 940, .inl f_tape)), (h_h, .inl (cI, 104, .inl f_h)), (h_reserved, .inl (cJ, 23, .inr (.inl f_reserved))), (h0, .inr (10, vL 67 Fh)), (h_names, .inl (cJ, 36, .inr (.inl f_names)))] H := hP
      have hD : va_D A [(h_tape, .inl (cB, 940, .inl f_tape)), (h_h, .inl (cI, 104, .inl f_h)), (h_reserved, .inl (cJ, 23, .inr (.inl f_reserved))), (h0, .inr (10, vL 67 Fh)), (h_names, .inl (cJ, 36, .inr (.inl f_names)))] := hD
      refine W.widen (k := 0) (n := 0) (Nat.le_of_ble_eq_true rfl) (Nat.le_of_ble_eq_true rfl) ?_
      have k52 : 1 ≤ v6.toInt ∧ v6.toInt ≤ 12 := ⟨lo_lt t11 (Int.le_refl _) (by decide), k7.2⟩
      refine lv_if_ge (tgt := 44) hx hb dX10_fresh_25 (by decide) (fun c53 => ?_) (fun c53 => False.elim (bad_lt (nle_i (a := 0) (b := r8.toInt) rfl rfl c53) t10.1 (Int.le_refl _) (by decide)))
      have dc53 : 0 ≤ r8.toInt := le_i (a := 0) (b := r8.toInt) rfl rfl c53
      refine lv_aload_n hx hb dX10_fresh_44 rfl (lv_at hl 0 rfl) ?_
      refine lv_iconst (v := 3) hx hb dX10_fresh_45 (by decide) ?_
      refine call_Vi (wr := [(h_tape, .inl (cB, 940, .inl f_tape)), (h_h, .inl (cI, 104, .inl f_h)), (h_reserved, .inl (cJ, 23, .inr (.inl f_reserved))), (h_names, .inl (cJ, 36, .inr (.inl f_names)))]) (As := [.int 3]) (rest := []) hx hb hml hown hw (m_X10_bad l D cI cJ cB cP cM cZ h0 Fh x_at 3 _ e_at) wV_X10_205_X10_bad dX10_fresh_46 hK hP hD hS hA [3] [0, 1, 2, 4] rfl rfl (by decide) (by decide) (by decide) 0 10 rfl rfl GG.fb hG.at hl.1 rfl (Nat.le_of_ble_eq_true rfl) ⟨(Nat.le_of_ble_eq_true rfl), (Nat.le_of_ble_eq_true rfl)⟩ ⟨(Nat.le_of_ble_eq_true rfl), (Nat.le_of_ble_eq_true rfl)⟩ (fun r54 u H locs hp hP hD hS => ?_)
      have zl3 : (3 : Int32).toInt = 3 := by decide
      obtain ⟨F55, t56, t57, t58, rfl, rfl⟩ := hp
      have hP : va_P D vwCl [(h_tape, .inl (cB, 940, .inl f_tape)), (h_h, .inl (cI, 104, .inl f_h)), (h_reserved, .inl (cJ, 23, .inr (.inl f_reserved))), (h_names, .inl (cJ, 36, .inr (.inl f_names))), (h0, .inr (10, vL 67 F55))] H := hP
      have hD : va_D A [(h_tape, .inl (cB, 940, .inl f_tape)), (h_h, .inl (cI, 104, .inl f_h)), (h_reserved, .inl (cJ, 23, .inr (.inl f_reserved))), (h_names, .inl (cJ, 36, .inr (.inl f_names))), (h0, .inr (10, vL 67 F55))] := hD
      refine W.widen (k := 0) (n := 0) (Nat.le_of_ble_eq_true rfl) (Nat.le_of_ble_eq_true rfl) ?_
      exact ret_i (v := 0) hx hb hr hlocks hS (hP.sub (ws' := [(h0, .inr (10, vL 67 F55)), (h_tape, .inl (cB, 940, .inl f_tape)), (h_h, .inl (cI, 104, .inl f_h)), (h_names, .inl (cJ, 36, .inr (.inl f_names))), (h_reserved, .inl (cJ, 23, .inr (.inl f_reserved)))]) [4, 0, 1, 3, 2] rfl) (hD.sub (ws' := [(h0, .inr (10, vL 67 F55)), (h_tape, .inl (cB, 940, .inl f_tape)), (h_h, .inl (cI, 104, .inl f_h)), (h_names, .inl (cJ, 36, .inr (.inl f_names))), (h_reserved, .inl (cJ, 23, .inr (.inl f_reserved)))]) [4, 0, 1, 3, 2] (by decide) rfl) dX10_fresh_49 rfl (Nat.le_of_ble_eq_true rfl) (Nat.le_of_ble_eq_true rfl) ⟨F55, x_p, x_token, x_at, x_span, x_number, 3, x_at, x_word, f_names, (SAME.tr SAME.rf t56 (by decide)), (SAME.at t56 (by decide) e_p), i_x_p, (SAME.at t56 (by decide) e_token), i_x_token, (SAME.at t56 (by decide) e_at), (SAME.at t56 (by decide) e_span), (SAME.at t56 (by decide) e_number), t57, t58, (SAME.at t56 (by decide) e_word), (show 0 ≤ (0 : Int32).toInt ∧ (0 : Int32).toInt ≤ 1 by decide), (by have zl0 : (0 : Int32).toInt = 0 := (by decide); have zl1 : (1 : Int32).toInt = 1 := (by decide); omega), (by have zl3 : (3 : Int32).toInt = 3 := (by decide); omega), rfl⟩
  · have dc4 : r1.toInt = 0 := eq_i (a := r1.toInt) (b := 0) rfl rfl c4
    have k60 : 0 ≤ r1.toInt ∧ r1.toInt ≤ 0 := ⟨t2.1, Int.le_trans (Int.le_of_eq dc4) (Int.le_refl _)⟩
    refine lv_aload_n hx hb dX10_fresh_7 rfl (lv_at hl 0 rfl) ?_
    refine lv_iconst (v := 1) hx hb dX10_fresh_8 (by decide) ?_
    refine call_Vi (wr := [(h_tape, .inl (cB, 940, .inl f_tape)), (h_h, .inl (cI, 104, .inl f_h)), (h_names, .inl (cJ, 36, .inr (.inl f_names))), (h_reserved, .inl (cJ, 23, .inr (.inl f_reserved)))]) (As := [.int 1]) (rest := []) hx hb hml hown hw (m_X10_bad l D cI cJ cB cP cM cZ h0 Fh x_at 1 _ e_at) wV_X10_205_X10_bad dX10_fresh_9 hK hP hD hS hA [3] [0, 1, 2, 4] rfl rfl (by decide) (by decide) (by decide) 0 10 rfl rfl GG.fb hG.at hl.1 rfl (Nat.le_of_ble_eq_true rfl) ⟨(Nat.le_of_ble_eq_true rfl), (Nat.le_of_ble_eq_true rfl)⟩ ⟨(Nat.le_of_ble_eq_true rfl), (Nat.le_of_ble_eq_true rfl)⟩ (fun r61 u H locs hp hP hD hS => ?_)
    have zl1 : (1 : Int32).toInt = 1 := by decide
    obtain ⟨F62, t63, t64, t65, rfl, rfl⟩ := hp
    have hP : va_P D vwCl [(h_tape, .inl (cB, 940, .inl f_tape)), (h_h, .inl (cI, 104, .inl f_h)), (h_names, .inl (cJ, 36, .inr (.inl f_names))), (h_reserved, .inl (cJ, 23, .inr (.inl f_reserved))), (h0, .inr (10, vL 67 F62))] H := hP
    have hD : va_D A [(h_tape, .inl (cB, 940, .inl f_tape)), (h_h, .inl (cI, 104, .inl f_h)), (h_names, .inl (cJ, 36, .inr (.inl f_names))), (h_reserved, .inl (cJ, 23, .inr (.inl f_reserved))), (h0, .inr (10, vL 67 F62))] := hD
    refine W.widen (k := 0) (n := 0) (Nat.le_of_ble_eq_true rfl) (Nat.le_of_ble_eq_true rfl) ?_
    exact ret_i (v := 0) hx hb hr hlocks hS (hP.sub (ws' := [(h0, .inr (10, vL 67 F62)), (h_tape, .inl (cB, 940, .inl f_tape)), (h_h, .inl (cI, 104, .inl f_h)), (h_names, .inl (cJ, 36, .inr (.inl f_names))), (h_reserved, .inl (cJ, 23, .inr (.inl f_reserved)))]) [4, 0, 1, 2, 3] rfl) (hD.sub (ws' := [(h0, .inr (10, vL 67 F62)), (h_tape, .inl (cB, 940, .inl f_tape)), (h_h, .inl (cI, 104, .inl f_h)), (h_names, .inl (cJ, 36, .inr (.inl f_names))), (h_reserved, .inl (cJ, 23, .inr (.inl f_reserved)))]) [4, 0, 1, 2, 3] (by decide) rfl) dX10_fresh_12 rfl (Nat.le_of_ble_eq_true rfl) (Nat.le_of_ble_eq_true rfl) ⟨F62, x_p, x_token, x_at, x_span, x_number, 1, x_at, x_word, f_names, (SAME.tr SAME.rf t63 (by decide)), (SAME.at t63 (by decide) e_p), i_x_p, (SAME.at t63 (by decide) e_token), i_x_token, (SAME.at t63 (by decide) e_at), (SAME.at t63 (by decide) e_span), (SAME.at t63 (by decide) e_number), t64, t65, (SAME.at t63 (by decide) e_word), (show 0 ≤ (0 : Int32).toInt ∧ (0 : Int32).toInt ≤ 1 by decide), (by have zl0 : (0 : Int32).toInt = 0 := (by decide); have zl1 : (1 : Int32).toInt = 1 := (by decide); omega), (by have zl1 : (1 : Int32).toInt = 1 := (by decide); omega), rfl⟩
set_option maxHeartbeats 4000000 in
set_option maxRecDepth 100000 in
theorem m_X10_onceOf (l : Launch) (D : va_G) (cI cJ cB cP cM cZ : ClassId) (h0 : Nat) (Fh : Nat → Value) (x_token : Int32) (x_number : Int32) (x_word : Int64) (sz : Nat) (e_token : Fh 11 = .int x_token) (i_x_token : IR 0 4 x_token) (e_number : Fh 14 = .int x_number) (e_word : Fh 18 = .long x_word) (o_0 : (x_token.toInt = 2 → 0 ≤ x_number.toInt ∧ x_number.toInt ≤ 999)) : CI l yX10_onceOf cX10_onceOf 1 (some .int) { frames := 1, cells := 0, slots := 0, locals := 22 } (GG D cI cJ cB cP cM cZ) D [(h0, .inr (10, vL 67 Fh))] sz [.ref h0] (fun (r : Int32) (u : va_W) => IR (-1) 4 r ∧ u = [(h0, .inr (10, vL 67 Fh))]) := by
  refine CI_mk (by decide) (Nat.le_of_ble_eq_true rfl) ?_
  intro p e s m below meth c A ls E hAe hG hsz hP hD hA hS hl
  obtain ⟨hx, hb, hr, hw, hown, hlocks, hml, hnm⟩ := E
  have hK := hG.1
  have i_x_token : 0 ≤ x_token.toInt ∧ x_token.toInt ≤ 4 := i_x_token
  have hl : lv_has ls 1 [(0, .ref h0)] := hl
  refine lv_aload_n hx hb dX10_onceOf_0 rfl (lv_at hl 0 rfl) ?_
  refine lv_ldc2 hx hb hown (hw _ q_1234) dX10_onceOf_1 ?_
  refine call_Vi (wr := []) (As := [.long 521325929587]) (rest := []) hx hb hml hown hw (m_X10_isWord l D cI cJ cB cP cM cZ h0 Fh x_token x_number x_word 521325929587 _ e_token i_x_token e_number e_word (by omega)) wV_X10_225_X10_isWord dX10_onceOf_4 hK hP hD hS hA [0] [] rfl rfl (by decide) (by decide) (by decide) 0 10 rfl rfl GG.fb hG.at hl.1 rfl (Nat.le_of_ble_eq_true rfl) ⟨(Nat.le_of_ble_eq_true rfl), (Nat.le_of_ble_eq_true rfl)⟩ ⟨(Nat.le_of_ble_eq_true rfl), (Nat.le_of_ble_eq_true rfl)⟩ (fun r1 u H locs hp hP hD hS => ?_)
  have zl521325929587 : (521325929587 : Int32).toInt = 521325929587 := by decide
  obtain ⟨t2, t3, rfl⟩ := hp
  have hP : va_P D vwCl [(h0, .inr (10, vL 67 Fh))] H := hP
  have hD : va_D A [(h0, .inr (10, vL 67 Fh))] := hD
  refine W.widen (k := 0) (n := 0) (Nat.le_of_ble_eq_true rfl) (Nat.le_of_ble_eq_true rfl) ?_
  refine lv_if_eq (tgt := 14) hx hb dX10_onceOf_7 (by decide) (fun c5 => ?_) (fun c5 => ?_)
  · have dc5 : r1.toInt = 0 := eq_i (a := r1.toInt) (b := 0) rfl rfl c5
    have k6 : 0 ≤ r1.toInt ∧ r1.toInt ≤ 0 := ⟨t2.1, Int.le_trans (Int.le_of_eq dc5) (Int.le_refl _)⟩
    refine lv_aload_n hx hb dX10_onceOf_14 rfl (lv_at hl 0 rfl) ?_
    refine lv_ldc2 hx hb hown (hw _ q_1235) dX10_onceOf_15 ?_
    refine call_Vi (wr := []) (As := [.long 126909394741093]) (rest := []) hx hb hml hown hw (m_X10_isWord l D cI cJ cB cP cM cZ h0 Fh x_token x_number x_word 126909394741093 _ e_token i_x_token e_number e_word (by omega)) wV_X10_225_X10_isWord dX10_onceOf_18 hK hP hD hS hA [0] [] rfl rfl (by decide) (by decide) (by decide) 0 10 rfl rfl GG.fb hG.at hl.1 rfl (Nat.le_of_ble_eq_true rfl) ⟨(Nat.le_of_ble_eq_true rfl), (Nat.le_of_ble_eq_true rfl)⟩ ⟨(Nat.le_of_ble_eq_true rfl), (Nat.le_of_ble_eq_true rfl)⟩ (fun r7 u H locs hp hP hD hS => ?_)
    have zl126909394741093 : (126909394741093 : Int32).toInt = 126909394741093 := by decide
    obtain ⟨t8, t9, rfl⟩ := hp
    have hP : va_P D vwCl [(h0, .inr (10, vL 67 Fh))] H := hP
    have hD : va_D A [(h0, .inr (10, vL 67 Fh))] := hD
    refine W.widen (k := 0) (n := 0) (Nat.le_of_ble_eq_true rfl) (Nat.le_of_ble_eq_true rfl) ?_
    refine lv_if_eq (tgt := 28) hx hb dX10_onceOf_21 (by decide) (fun c11 => ?_) (fun c11 => ?_)
    · have dc11 : r7.toInt = 0 := eq_i (a := r7.toInt) (b := 0) rfl rfl c11
      have k12 : 0 ≤ r7.toInt ∧ r7.toInt ≤ 0 := ⟨t8.1, Int.le_trans (Int.le_of_eq dc11) (Int.le_refl _)⟩
      refine lv_aload_n hx hb dX10_onceOf_28 rfl (lv_at hl 0 rfl) ?_
      refine lv_ldc2 hx hb hown (hw _ q_1236) dX10_onceOf_29 ?_
      refine call_Vi (wr := []) (As := [.long 1836020596]) (rest := []) hx hb hml hown hw (m_X10_isWord l D cI cJ cB cP cM cZ h0 Fh x_token x_number x_word 1836020596 _ e_token i_x_token e_number e_word (by omega)) wV_X10_225_X10_isWord dX10_onceOf_32 hK hP hD hS hA [0] [] rfl rfl (by decide) (by decide) (by decide) 0 10 rfl rfl GG.fb hG.at hl.1 rfl (Nat.le_of_ble_eq_true rfl) ⟨(Nat.le_of_ble_eq_true rfl), (Nat.le_of_ble_eq_true rfl)⟩ ⟨(Nat.le_of_ble_eq_true rfl), (Nat.le_of_ble_eq_true rfl)⟩ (fun r13 u H locs hp hP hD hS => ?_)
      have zl1836020596 : (1836020596 : Int32).toInt = 1836020596 := by decide
      obtain ⟨t14, t15, rfl⟩ := hp
      have hP : va_P D vwCl [(h0, .inr (10, vL 67 Fh))] H := hP
      have hD : va_D A [(h0, .inr (10, vL 67 Fh))] := hD
      refine W.widen (k := 0) (n := 0) (Nat.le_of_ble_eq_true rfl) (Nat.le_of_ble_eq_true rfl) ?_
      refine lv_if_eq (tgt := 42) hx hb dX10_onceOf_35 (by decide) (fun c17 => ?_) (fun c17 => ?_)
      · have dc17 : r13.toInt = 0 := eq_i (a := r13.toInt) (b := 0) rfl rfl c17
        have k18 : 0 ≤ r13.toInt ∧ r13.toInt ≤ 0 := ⟨t14.1, Int.le_trans (Int.le_of_eq dc17) (Int.le_refl _)⟩
        refine lv_aload_n hx hb dX10_onceOf_42 rfl (lv_at hl 0 rfl) ?_
        refine lv_ldc2 hx hb hown (hw _ q_1237) dX10_onceOf_43 ?_
        refine call_Vi (wr := []) (As := [.long 6906725]) (rest := []) hx hb hml hown hw (m_X10_isWord l D cI cJ cB cP cM cZ h0 Fh x_token x_number x_word 6906725 _ e_token i_x_token e_number e_word (by omega)) wV_X10_225_X10_isWord dX10_onceOf_46 hK hP hD hS hA [0] [] rfl rfl (by decide) (by decide) (by decide) 0 10 rfl rfl GG.fb hG.at hl.1 rfl (Nat.le_of_ble_eq_true rfl) ⟨(Nat.le_of_ble_eq_true rfl), (Nat.le_of_ble_eq_true rfl)⟩ ⟨(Nat.le_of_ble_eq_true rfl), (Nat.le_of_ble_eq_true rfl)⟩ (fun r19 u H locs hp hP hD hS => ?_)
        have zl6906725 : (6906725 : Int32).toInt = 6906725 := by decide
        obtain ⟨t20, t21, rfl⟩ := hp
        have hP : va_P D vwCl [(h0, .inr (10, vL 67 Fh))] H := hP
        have hD : va_D A [(h0, .inr (10, vL 67 Fh))] := hD
        refine W.widen (k := 0) (n := 0) (Nat.le_of_ble_eq_true rfl) (Nat.le_of_ble_eq_true rfl) ?_
        refine lv_if_eq (tgt := 56) hx hb dX10_onceOf_49 (by decide) (fun c23 => ?_) (fun c23 => ?_)
        · have dc23 : r19.toInt = 0 := eq_i (a := r19.toInt) (b := 0) rfl rfl c23
          have k24 : 0 ≤ r19.toInt ∧ r19.toInt ≤ 0 := ⟨t20.1, Int.le_trans (Int.le_of_eq dc23) (Int.le_refl _)⟩
          refine lv_aload_n hx hb dX10_onceOf_56 rfl (lv_at hl 0 rfl) ?_
          refine lv_ldc2 hx hb hown (hw _ q_1238) dX10_onceOf_57 ?_
          refine call_Vi (wr := []) (As := [.long 2002874989]) (rest := []) hx hb hml hown hw (m_X10_isWord l D cI cJ cB cP cM cZ h0 Fh x_token x_number x_word 2002874989 _ e_token i_x_token e_number e_word (by omega)) wV_X10_225_X10_isWord dX10_onceOf_60 hK hP hD hS hA [0] [] rfl rfl (by decide) (by decide) (by decide) 0 10 rfl rfl GG.fb hG.at hl.1 rfl (Nat.le_of_ble_eq_true rfl) ⟨(Nat.le_of_ble_eq_true rfl), (Nat.le_of_ble_eq_true rfl)⟩ ⟨(Nat.le_of_ble_eq_true rfl), (Nat.le_of_ble_eq_true rfl)⟩ (fun r25 u H locs hp hP hD hS => ?_)
          have zl2002874989 : (2002874989 : Int32).toInt = 2002874989 := by decide
          obtain ⟨t26, t27, rfl⟩ := hp
          have hP : va_P D vwCl [(h0, .inr (10, vL 67 Fh))] H := hP
          have hD : va_D A [(h0, .inr (10, vL 67 Fh))] := hD
          refine W.widen (k := 0) (n := 0) (Nat.le_of_ble_eq_true rfl) (Nat.le_of_ble_eq_true rfl) ?_
          refine lv_if_eq (tgt := 70) hx hb dX10_onceOf_63 (by decide) (fun c29 => ?_) (fun c29 => ?_)
          · have dc29 : r25.toInt = 0 := eq_i (a := r25.toInt) (b := 0) rfl rfl c29
            have k30 : 0 ≤ r25.toInt ∧ r25.toInt ≤ 0 := ⟨t26.1, Int.le_trans (Int.le_of_eq dc29) (Int.le_refl _)⟩
            refine lv_iconst (v := (-1)) hx hb dX10_onceOf_70 (by decide) ?_
            exact ret_i (v := (-1)) hx hb hr hlocks hS hP hD dX10_onceOf_71 rfl (Nat.le_of_ble_eq_true rfl) (Nat.le_of_ble_eq_true rfl) ⟨(show (-1) ≤ ((-1) : Int32).toInt ∧ ((-1) : Int32).toInt ≤ 4 by decide), rfl⟩
          · have dc29 : r25.toInt ≠ 0 := ne_i (a := r25.toInt) (b := 0) rfl rfl c29
            have k31 : 1 ≤ r25.toInt ∧ r25.toInt ≤ 1 := ⟨ne_lo dc29 t26.1 ⟨Int.le_refl _, Int.le_refl _⟩ (by decide), t26.2⟩
            refine lv_iconst (v := 4) hx hb dX10_onceOf_66 (by decide) ?_
            refine lv_goto (tgt := 71) hx hb dX10_onceOf_67 (by decide) ?_
            exact ret_i (v := 4) hx hb hr hlocks hS hP hD dX10_onceOf_71 rfl (Nat.le_of_ble_eq_true rfl) (Nat.le_of_ble_eq_true rfl) ⟨(show (-1) ≤ (4 : Int32).toInt ∧ (4 : Int32).toInt ≤ 4 by decide), rfl⟩
        · have dc23 : r19.toInt ≠ 0 := ne_i (a := r19.toInt) (b := 0) rfl rfl c23
          have k32 : 1 ≤ r19.toInt ∧ r19.toInt ≤ 1 := ⟨ne_lo dc23 t20.1 ⟨Int.le_refl _, Int.le_refl _⟩ (by decide), t20.2⟩
          refine lv_iconst (v := 3) hx hb dX10_onceOf_52 (by decide) ?_
          refine lv_goto (tgt := 71) hx hb dX10_onceOf_53 (by decide) ?_
          exact ret_i (v := 3) hx hb hr hlocks hS hP hD dX10_onceOf_71 rfl (Nat.le_of_ble_eq_true rfl) (Nat.le_of_ble_eq_true rfl) ⟨(show (-1) ≤ (3 : Int32).toInt ∧ (3 : Int32).toInt ≤ 4 by decide), rfl⟩
      · have dc17 : r13.toInt ≠ 0 := ne_i (a := r13.toInt) (b := 0) rfl rfl c17
        have k33 : 1 ≤ r13.toInt ∧ r13.toInt ≤ 1 := ⟨ne_lo dc17 t14.1 ⟨Int.le_refl _, Int.le_refl _⟩ (by decide), t14.2⟩
        refine lv_iconst (v := 2) hx hb dX10_onceOf_38 (by decide) ?_
        refine lv_goto (tgt := 71) hx hb dX10_onceOf_39 (by decide) ?_
        exact ret_i (v := 2) hx hb hr hlocks hS hP hD dX10_onceOf_71 rfl (Nat.le_of_ble_eq_true rfl) (Nat.le_of_ble_eq_true rfl) ⟨(show (-1) ≤ (2 : Int32).toInt ∧ (2 : Int32).toInt ≤ 4 by decide), rfl⟩
    · have dc11 : r7.toInt ≠ 0 := ne_i (a := r7.toInt) (b := 0) rfl rfl c11
      have k34 : 1 ≤ r7.toInt ∧ r7.toInt ≤ 1 := ⟨ne_lo dc11 t8.1 ⟨Int.le_refl _, Int.le_refl _⟩ (by decide), t8.2⟩
      refine lv_iconst (v := 1) hx hb dX10_onceOf_24 (by decide) ?_
      refine lv_goto (tgt := 71) hx hb dX10_onceOf_25 (by decide) ?_
      exact ret_i (v := 1) hx hb hr hlocks hS hP hD dX10_onceOf_71 rfl (Nat.le_of_ble_eq_true rfl) (Nat.le_of_ble_eq_true rfl) ⟨(show (-1) ≤ (1 : Int32).toInt ∧ (1 : Int32).toInt ≤ 4 by decide), rfl⟩
  · have dc5 : r1.toInt ≠ 0 := ne_i (a := r1.toInt) (b := 0) rfl rfl c5
    have k35 : 1 ≤ r1.toInt ∧ r1.toInt ≤ 1 := ⟨ne_lo dc5 t2.1 ⟨Int.le_refl _, Int.le_refl _⟩ (by decide), t2.2⟩
    refine lv_iconst (v := 0) hx hb dX10_onceOf_10 (by decide) ?_
    refine lv_goto (tgt := 71) hx hb dX10_onceOf_11 (by decide) ?_
    exact ret_i (v := 0) hx hb hr hlocks hS hP hD dX10_onceOf_71 rfl (Nat.le_of_ble_eq_true rfl) (Nat.le_of_ble_eq_true rfl) ⟨(show (-1) ≤ (0 : Int32).toInt ∧ (0 : Int32).toInt ≤ 4 by decide), rfl⟩
set_option maxHeartbeats 4000000 in
set_option maxRecDepth 100000 in
theorem m_X10_isOnce (l : Launch) (D : va_G) (cI cJ cB cP cM cZ : ClassId) (h0 : Nat) (h_tape : Nat) (Fh : Nat → Value) (x_size : Int32) (x_p : Int32) (x_limit : Int32) (x_token : Int32) (x_at : Int32) (x_span : Int32) (x_number : Int32) (x_fault : Int32) (x_faultAt : Int32) (x_word : Int64) (x_onces : Int32) (f_tape : Nat → Int32) (p0 : Int32) (sz : Nat) (e_tape : Fh 1 = .ref h_tape) (e_size : Fh 3 = .int x_size) (i_x_size : IR 0 940 x_size) (e_p : Fh 4 = .int x_p) (i_x_p : IR 0 940 x_p) (e_limit : Fh 5 = .int x_limit) (i_x_limit : IR 200 940 x_limit) (e_token : Fh 11 = .int x_token) (i_x_token : IR 0 4 x_token) (e_at : Fh 12 = .int x_at) (e_span : Fh 13 = .int x_span) (e_number : Fh 14 = .int x_number) (e_fault : Fh 15 = .int x_fault) (e_faultAt : Fh 16 = .int x_faultAt) (e_word : Fh 18 = .long x_word) (e_onces : Fh 21 = .int x_onces) (o_0 : (x_token.toInt = 2 → 0 ≤ x_number.toInt ∧ x_number.toInt ≤ 999)) : CI l yX10_isOnce cX10_isOnce 2 (some .boolean) { frames := 2, cells := 0, slots := 0, locals := 43 } (GG D cI cJ cB cP cM cZ) D [(h0, .inr (10, vL 67 Fh)), (h_tape, .inl (cB, 940, .inl f_tape))] sz [.ref h0, .int p0] (fun (r : Int32) (u : va_W) => ∃ (Gh : Nat → Value) (y_p : Int32) (y_token : Int32) (y_at : Int32) (y_span : Int32) (y_number : Int32) (y_fault : Int32) (y_faultAt : Int32) (y_word : Int64) (y_onces : Int32), SAME [4, 11, 12, 13, 14, 15, 16, 18, 21] Fh Gh ∧ Gh 4 = .int y_p ∧ IR 0 940 y_p ∧ Gh 11 = .int y_token ∧ IR 0 4 y_token ∧ Gh 12 = .int y_at ∧ Gh 13 = .int y_span ∧ Gh 14 = .int y_number ∧ Gh 15 = .int y_fault ∧ Gh 16 = .int y_faultAt ∧ Gh 18 = .long y_word ∧ Gh 21 = .int y_onces ∧ IR 0 1 r ∧ ((r.toInt = 1 → (x_p.toInt ≤ y_p.toInt ∧ (y_token.toInt = 3 → x_p.toInt < y_p.toInt)))) ∧ ((y_token.toInt = 2 → 0 ≤ y_number.toInt ∧ y_number.toInt ≤ 999)) ∧ u = [(h0, .inr (10, vL 67 Gh)), (h_tape, .inl (cB, 940, .inl f_tape))]) := by
  refine CI_mk (by decide) (Nat.le_of_ble_eq_true rfl) ?_
  intro p e s m below meth c A ls E hAe hG hsz hP hD hA hS hl
  obtain ⟨hx, hb, hr, hw, hown, hlocks, hml, hnm⟩ := E
  have hK := hG.1
  have i_x_size : 0 ≤ x_size.toInt ∧ x_size.toInt ≤ 940 := i_x_size
  have i_x_p : 0 ≤ x_p.toInt ∧ x_p.toInt ≤ 940 := i_x_p
  have i_x_limit : 200 ≤ x_limit.toInt ∧ x_limit.toInt ≤ 940 := i_x_limit
  have i_x_token : 0 ≤ x_token.toInt ∧ x_token.toInt ≤ 4 := i_x_token
  have hl : lv_has ls 2 [(0, .ref h0), (1, .int p0)] := hl
  refine lv_aload_n hx hb dX10_isOnce_0 rfl (lv_at hl 0 rfl) ?_
  refine get_f (D := D) (ci := 10) (v := .int x_onces) (C := RX10) (T := TX10) (N := 67) hx hb hw inAX10 hown hK hP 0 rfl rfl 21 (by decide) (hw _ q_1282) (fun _ h9 => h9) e_onces dX10_isOnce_1 ?_
  refine lv_iload_n hx hb dX10_isOnce_4 rfl (lv_at hl 1 rfl) ?_
  refine call_Si (wr := [(h0, .inr (10, vL 67 Fh)), (h_tape, .inl (cB, 940, .inl f_tape))]) (As := [.int x_onces, .int p0]) (rest := []) hx hb hml hown hw (m_X10_bitOf l D cI cJ cB cP cM cZ x_onces p0 _ ) wS_X10_232_X10_bitOf dX10_isOnce_5 hP hD hS hA [] [0, 1] rfl rfl (by decide) (by decide) (by decide) GG.fb hG.at hl.1 rfl (Nat.le_of_ble_eq_true rfl) ⟨(Nat.le_of_ble_eq_true rfl), (Nat.le_of_ble_eq_true rfl)⟩ ⟨(Nat.le_of_ble_eq_true rfl), (Nat.le_of_ble_eq_true rfl)⟩ (fun r1 u H locs hp hP hD hS => ?_)
  rcases hp with ⟨rfl, rfl⟩ | ⟨rfl, rfl⟩
  · have hP : va_P D vwCl [(h0, .inr (10, vL 67 Fh)), (h_tape, .inl (cB, 940, .inl f_tape))] H := hP
    have hD : va_D A [(h0, .inr (10, vL 67 Fh)), (h_tape, .inl (cB, 940, .inl f_tape))] := hD
    refine W.widen (k := 0) (n := 0) (Nat.le_of_ble_eq_true rfl) (Nat.le_of_ble_eq_true rfl) ?_
    refine lv_if_eq (tgt := 17) hx hb dX10_isOnce_8 (by decide) (fun _ => ?_) (fun g => absurd (by decide) g)
    refine lv_aload_n hx hb dX10_isOnce_17 rfl (lv_at hl 0 rfl) ?_
    refine lv_dup hx hb dX10_isOnce_18 rfl ?_
    refine get_f (D := D) (ci := 10) (v := .int x_onces) (C := RX10) (T := TX10) (N := 67) hx hb hw inAX10 hown hK hP 0 rfl rfl 21 (by decide) (hw _ q_1282) (fun _ h9 => h9) e_onces dX10_isOnce_19 ?_
    refine lv_iconst (v := 1) hx hb dX10_isOnce_22 (by decide) ?_
    refine lv_iload_n hx hb dX10_isOnce_23 rfl (lv_at hl 1 rfl) ?_
    refine lv_ishl hx hb dX10_isOnce_24 ?_
    refine lv_topi (fun v3 ev3 => ?_)
    refine lv_ior hx hb dX10_isOnce_25 ?_
    refine lv_topi (fun v4 ev4 => ?_)
    refine put_f (D := D) (ci := 10) (v := .int v4) (ty := .int) (C := RX10) (T := TX10) (N := 67) hx hb hw inAX10 tyX10 tyX10_ok nmX10 hown hK hP hD hS 0 rfl rfl 21 (by decide) (hw _ q_1282) (fun _ h9 => h9) rfl (by decide +kernel) rfl rfl dX10_isOnce_26 (fun H locs F5 eF5 hP hD hS => ?_)
    have hP : va_P D vwCl [(h0, .inr (10, vL 67 F5)), (h_tape, .inl (cB, 940, .inl f_tape))] H := hP
    have hD : va_D A [(h0, .inr (10, vL 67 F5)), (h_tape, .inl (cB, 940, .inl f_tape))] := hD
    refine lv_aload_n hx hb dX10_isOnce_29 rfl (lv_at hl 0 rfl) ?_
    have n6 : F5 1 = .ref h_tape := (get_ne eF5 (by decide) e_tape)
    have n7 : F5 3 = .int x_size := (get_ne eF5 (by decide) e_size)
    have n8 : F5 4 = .int x_p := (get_ne eF5 (by decide) e_p)
    have n9 : F5 5 = .int x_limit := (get_ne eF5 (by decide) e_limit)
    have n10 : F5 11 = .int x_token := (get_ne eF5 (by decide) e_token)
    have n11 : F5 14 = .int x_number := (get_ne eF5 (by decide) e_number)
    have n12 : F5 18 = .long x_word := (get_ne eF5 (by decide) e_word)
    refine call_Vv (wr := []) (As := []) (rest := []) hx hb hml hown hw (m_X10_next l D cI cJ cB cP cM cZ h0 h_tape F5 x_size x_p x_limit x_token x_number x_word f_tape _ n6 n7 i_x_size n8 i_x_p n9 i_x_limit n10 i_x_token n11 n12 (by omega)) wV_X10_208_X10_next dX10_isOnce_30 hK hP hD hS hA [0, 1] [] rfl rfl (by decide) (by decide) (by decide) 0 10 rfl rfl GG.fb hG.at hl.1 rfl (Nat.le_of_ble_eq_true rfl) ⟨(Nat.le_of_ble_eq_true rfl), (Nat.le_of_ble_eq_true rfl)⟩ ⟨(Nat.le_of_ble_eq_true rfl), (Nat.le_of_ble_eq_true rfl)⟩ (fun u H locs hp hP hD hS => ?_)
    obtain ⟨F14, y15, y16, y17, y18, y19, y20, t21, t22, t23, t24, t25, t26, t27, t28, t29, t30, t31, t32, t33, t34, rfl⟩ := hp
    have hP : va_P D vwCl [(h0, .inr (10, vL 67 F14)), (h_tape, .inl (cB, 940, .inl f_tape))] H := hP
    have hD : va_D A [(h0, .inr (10, vL 67 F14)), (h_tape, .inl (cB, 940, .inl f_tape))] := hD
    refine W.widen (k := 0) (n := 0) (Nat.le_of_ble_eq_true rfl) (Nat.le_of_ble_eq_true rfl) ?_
    refine lv_iconst (v := 1) hx hb dX10_isOnce_33 (by decide) ?_
    exact ret_i (v := 1) hx hb hr hlocks hS hP hD dX10_isOnce_34 rfl (Nat.le_of_ble_eq_true rfl) (Nat.le_of_ble_eq_true rfl) ⟨F14, y15, y16, y17, y18, y19, x_fault, x_faultAt, y20, v4, (SAME.tr (SAME.up eF5 SAME.rf (by decide)) t21 (by decide)), t22, t23, t24, t25, t26, t28, t30, (SAME.at t21 (by decide) (get_ne eF5 (by decide) e_fault)), (SAME.at t21 (by decide) (get_ne eF5 (by decide) e_faultAt)), t31, (SAME.at t21 (by decide) (get_eq eF5)), (show 0 ≤ (1 : Int32).toInt ∧ (1 : Int32).toInt ≤ 1 by decide), (by have zl1 : (1 : Int32).toInt = 1 := (by decide); have zl3 : (3 : Int32).toInt = 3 := (by decide); omega), (by omega), rfl⟩
  · have hP : va_P D vwCl [(h0, .inr (10, vL 67 Fh)), (h_tape, .inl (cB, 940, .inl f_tape))] H := hP
    have hD : va_D A [(h0, .inr (10, vL 67 Fh)), (h_tape, .inl (cB, 940, .inl f_tape))] := hD
    refine W.widen (k := 0) (n := 0) (Nat.le_of_ble_eq_true rfl) (Nat.le_of_ble_eq_true rfl) ?_
    refine lv_if_eq (tgt := 17) hx hb dX10_isOnce_8 (by decide) (fun g => absurd g (by decide)) (fun _ => ?_)
    refine lv_aload_n hx hb dX10_isOnce_11 rfl (lv_at hl 0 rfl) ?_
    refine lv_iconst (v := 3) hx hb dX10_isOnce_12 (by decide) ?_
    refine call_Vi (wr := [(h_tape, .inl (cB, 940, .inl f_tape))]) (As := [.int 3]) (rest := []) hx hb hml hown hw (m_X10_bad l D cI cJ cB cP cM cZ h0 Fh x_at 3 _ e_at) wV_X10_205_X10_bad dX10_isOnce_13 hK hP hD hS hA [0] [1] rfl rfl (by decide) (by decide) (by decide) 0 10 rfl rfl GG.fb hG.at hl.1 rfl (Nat.le_of_ble_eq_true rfl) ⟨(Nat.le_of_ble_eq_true rfl), (Nat.le_of_ble_eq_true rfl)⟩ ⟨(Nat.le_of_ble_eq_true rfl), (Nat.le_of_ble_eq_true rfl)⟩ (fun r36 u H locs hp hP hD hS => ?_)
    have zl3 : (3 : Int32).toInt = 3 := by decide
    obtain ⟨F37, t38, t39, t40, rfl, rfl⟩ := hp
    have hP : va_P D vwCl [(h_tape, .inl (cB, 940, .inl f_tape)), (h0, .inr (10, vL 67 F37))] H := hP
    have hD : va_D A [(h_tape, .inl (cB, 940, .inl f_tape)), (h0, .inr (10, vL 67 F37))] := hD
    refine W.widen (k := 0) (n := 0) (Nat.le_of_ble_eq_true rfl) (Nat.le_of_ble_eq_true rfl) ?_
    exact ret_i (v := 0) hx hb hr hlocks hS (hP.sub (ws' := [(h0, .inr (10, vL 67 F37)), (h_tape, .inl (cB, 940, .inl f_tape))]) [1, 0] rfl) (hD.sub (ws' := [(h0, .inr (10, vL 67 F37)), (h_tape, .inl (cB, 940, .inl f_tape))]) [1, 0] (by decide) rfl) dX10_isOnce_16 rfl (Nat.le_of_ble_eq_true rfl) (Nat.le_of_ble_eq_true rfl) ⟨F37, x_p, x_token, x_at, x_span, x_number, 3, x_at, x_word, x_onces, (SAME.tr SAME.rf t38 (by decide)), (SAME.at t38 (by decide) e_p), i_x_p, (SAME.at t38 (by decide) e_token), i_x_token, (SAME.at t38 (by decide) e_at), (SAME.at t38 (by decide) e_span), (SAME.at t38 (by decide) e_number), t39, t40, (SAME.at t38 (by decide) e_word), (SAME.at t38 (by decide) e_onces), (show 0 ≤ (0 : Int32).toInt ∧ (0 : Int32).toInt ≤ 1 by decide), (by have zl0 : (0 : Int32).toInt = 0 := (by decide); have zl3 : (3 : Int32).toInt = 3 := (by decide); omega), (by have zl3 : (3 : Int32).toInt = 3 := (by decide); omega), rfl⟩
set_option maxHeartbeats 4000000 in
set_option maxRecDepth 100000 in
theorem m_X10_line0 (l : Launch) (D : va_G) (cI cJ cB cP cM cZ : ClassId) (h0 : Nat) (h_tape : Nat) (h_h : Nat) (h_names : Nat) (h_reserved : Nat) (Fh : Nat → Value) (x_size : Int32) (x_p : Int32) (x_limit : Int32) (x_token : Int32) (x_at : Int32) (x_span : Int32) (x_number : Int32) (x_fault : Int32) (x_faultAt : Int32) (x_word : Int64) (x_got : Int32) (x_onces : Int32) (f_tape : Nat → Int32) (f_h : Nat → Int32) (f_names : Nat → Int64) (f_reserved : Nat → Int64) (sz : Nat) (e_tape : Fh 1 = .ref h_tape) (e_size : Fh 3 = .int x_size) (i_x_size : IR 0 940 x_size) (e_p : Fh 4 = .int x_p) (i_x_p : IR 0 940 x_p) (e_limit : Fh 5 = .int x_limit) (i_x_limit : IR 200 940 x_limit) (e_h : Fh 7 = .ref h_h) (e_names : Fh 9 = .ref h_names) (e_reserved : Fh 10 = .ref h_reserved) (e_token : Fh 11 = .int x_token) (i_x_token : IR 0 4 x_token) (e_at : Fh 12 = .int x_at) (e_span : Fh 13 = .int x_span) (e_number : Fh 14 = .int x_number) (e_fault : Fh 15 = .int x_fault) (e_faultAt : Fh 16 = .int x_faultAt) (e_word : Fh 18 = .long x_word) (e_got : Fh 19 = .int x_got) (e_onces : Fh 21 = .int x_onces) (s_h_0 : SG 0 0 0 40 f_h) (s_h_44 : SG 44 55 0 9 f_h) (s_h_5 : SG 5 5 0 12 f_h) (s_h_6 : SG 6 6 0 12 f_h) (s_h_7 : SG 7 7 0 6 f_h) (o_0 : (x_token.toInt = 2 → 0 ≤ x_number.toInt ∧ x_number.toInt ≤ 999)) : CI l yX10_line0 cX10_line0 3 (some .boolean) { frames := 3, cells := 0, slots := 0, locals := 65 } (GG D cI cJ cB cP cM cZ) D [(h0, .inr (10, vL 67 Fh)), (h_tape, .inl (cB, 940, .inl f_tape)), (h_h, .inl (cI, 104, .inl f_h)), (h_names, .inl (cJ, 36, .inr (.inl f_names))), (h_reserved, .inl (cJ, 23, .inr (.inl f_reserved)))] sz [.ref h0] (fun (r : Int32) (u : va_W) => ∃ (Gh : Nat → Value) (y_p : Int32) (y_token : Int32) (y_at : Int32) (y_span : Int32) (y_number : Int32) (y_fault : Int32) (y_faultAt : Int32) (y_word : Int64) (y_got : Int32) (y_onces : Int32) (g_h : Nat → Int32) (g_names : Nat → Int64), SAME [4, 11, 12, 13, 14, 15, 16, 18, 19, 21] Fh Gh ∧ Gh 4 = .int y_p ∧ IR 0 940 y_p ∧ Gh 11 = .int y_token ∧ IR 0 4 y_token ∧ Gh 12 = .int y_at ∧ Gh 13 = .int y_span ∧ Gh 14 = .int y_number ∧ Gh 15 = .int y_fault ∧ Gh 16 = .int y_faultAt ∧ Gh 18 = .long y_word ∧ Gh 19 = .int y_got ∧ Gh 21 = .int y_onces ∧ SG 0 0 0 40 g_h ∧ SG 5 5 0 12 g_h ∧ SG 6 6 0 12 g_h ∧ SG 7 7 0 6 g_h ∧ SG 44 55 0 9 g_h ∧ IR 0 1 r ∧ ((r.toInt = 1 → (x_p.toInt ≤ y_p.toInt ∧ (y_token.toInt = 3 → x_p.toInt < y_p.toInt)))) ∧ ((y_token.toInt = 2 → 0 ≤ y_number.toInt ∧ y_number.toInt ≤ 999)) ∧ u = [(h0, .inr (10, vL 67 Gh)), (h_tape, .inl (cB, 940, .inl f_tape)), (h_h, .inl (cI, 104, .inl g_h)), (h_names, .inl (cJ, 36, .inr (.inl g_names))), (h_reserved, .inl (cJ, 23, .inr (.inl f_reserved)))]) := by
  refine CI_mk (by decide) (Nat.le_of_ble_eq_true rfl) ?_
  intro p e s m below meth c A ls E hAe hG hsz hP hD hA hS hl
  obtain ⟨hx, hb, hr, hw, hown, hlocks, hml, hnm⟩ := E
  have hK := hG.1
  have i_x_size : 0 ≤ x_size.toInt ∧ x_size.toInt ≤ 940 := i_x_size
  have i_x_p : 0 ≤ x_p.toInt ∧ x_p.toInt ≤ 940 := i_x_p
  have i_x_limit : 200 ≤ x_limit.toInt ∧ x_limit.toInt ≤ 940 := i_x_limit
  have i_x_token : 0 ≤ x_token.toInt ∧ x_token.toInt ≤ 4 := i_x_token
  have hl : lv_has ls 3 [(0, .ref h0)] := hl
  refine lv_aload_n hx hb dX10_line0_0 rfl (lv_at hl 0 rfl) ?_
  refine call_Vi (wr := [(h_tape, .inl (cB, 940, .inl f_tape)), (h_h, .inl (cI, 104, .inl f_h)), (h_names, .inl (cJ, 36, .inr (.inl f_names))), (h_reserved, .inl (cJ, 23, .inr (.inl f_reserved)))]) (As := []) (rest := []) hx hb hml hown hw (m_X10_onceOf l D cI cJ cB cP cM cZ h0 Fh x_token x_number x_word _ e_token i_x_token e_number e_word (by omega)) wV_X10_236_X10_onceOf dX10_line0_1 hK hP hD hS hA [0] [1, 2, 3, 4] rfl rfl (by decide) (by decide) (by decide) 0 10 rfl rfl GG.fb hG.at hl.1 rfl (Nat.le_of_ble_eq_true rfl) ⟨(Nat.le_of_ble_eq_true rfl), (Nat.le_of_ble_eq_true rfl)⟩ ⟨(Nat.le_of_ble_eq_true rfl), (Nat.le_of_ble_eq_true rfl)⟩ (fun r1 u H locs hp hP hD hS => ?_)
  obtain ⟨t2, rfl⟩ := hp
  have hP : va_P D vwCl [(h_tape, .inl (cB, 940, .inl f_tape)), (h_h, .inl (cI, 104, .inl f_h)), (h_names, .inl (cJ, 36, .inr (.inl f_names))), (h_reserved, .inl (cJ, 23, .inr (.inl f_reserved))), (h0, .inr (10, vL 67 Fh))] H := hP
  have hD : va_D A [(h_tape, .inl (cB, 940, .inl f_tape)), (h_h, .inl (cI, 104, .inl f_h)), (h_names, .inl (cJ, 36, .inr (.inl f_names))), (h_reserved, .inl (cJ, 23, .inr (.inl f_reserved))), (h0, .inr (10, vL 67 Fh))] := hD
  refine W.widen (k := 0) (n := 0) (Nat.le_of_ble_eq_true rfl) (Nat.le_of_ble_eq_true rfl) ?_
  refine lv_istore_n (lv' := [(1, .int r1), (0, .ref h0)]) hx hb dX10_line0_4 rfl hl (by decide) rfl (fun ls hl => ?_)
  refine lv_iload_n hx hb dX10_line0_5 rfl (lv_at hl 0 rfl) ?_
  refine lv_if_lt (tgt := 113) hx hb dX10_line0_6 (by decide) (fun c4 => ?_) (fun c4 => ?_)
  · have dc4 : r1.toInt < 0 := lt_i (a := r1.toInt) (b := 0) rfl rfl c4
    have k5 : (-1) ≤ r1.toInt ∧ r1.toInt ≤ (-1) := ⟨t2.1, up_lt dc4 (Int.le_refl _) (by decide)⟩
    refine lv_aload_n hx hb dX10_line0_113 rfl (lv_at hl 1 rfl) ?_
    refine lv_ldc2 hx hb hown (hw _ q_1239) dX10_line0_114 ?_
    refine call_Vi (wr := [(h_tape, .inl (cB, 940, .inl f_tape)), (h_h, .inl (cI, 104, .inl f_h)), (h_names, .inl (cJ, 36, .inr (.inl f_names))), (h_reserved, .inl (cJ, 23, .inr (.inl f_reserved)))]) (As := [.long 7168366]) (rest := []) hx hb hml hown hw (m_X10_isWord l D cI cJ cB cP cM cZ h0 Fh x_token x_number x_word 7168366 _ e_token i_x_token e_number e_word (by omega)) wV_X10_225_X10_isWord dX10_line0_117 hK hP hD hS hA [4] [0, 1, 2, 3] rfl rfl (by decide) (by decide) (by decide) 0 10 rfl rfl GG.fb hG.at hl.1 rfl (Nat.le_of_ble_eq_true rfl) ⟨(Nat.le_of_ble_eq_true rfl), (Nat.le_of_ble_eq_true rfl)⟩ ⟨(Nat.le_of_ble_eq_true rfl), (Nat.le_of_ble_eq_true rfl)⟩ (fun r6 u H locs hp hP hD hS => ?_)
    have zl7168366 : (7168366 : Int32).toInt = 7168366 := by decide
    obtain ⟨t7, t8, rfl⟩ := hp
    have hP : va_P D vwCl [(h_tape, .inl (cB, 940, .inl f_tape)), (h_h, .inl (cI, 104, .inl f_h)), (h_names, .inl (cJ, 36, .inr (.inl f_names))), (h_reserved, .inl (cJ, 23, .inr (.inl f_reserved))), (h0, .inr (10, vL 67 Fh))] H := hP
    have hD : va_D A [(h_tape, .inl (cB, 940, .inl f_tape)), (h_h, .inl (cI, 104, .inl f_h)), (h_names, .inl (cJ, 36, .inr (.inl f_names))), (h_reserved, .inl (cJ, 23, .inr (.inl f_reserved))), (h0, .inr (10, vL 67 Fh))] := hD
    refine W.widen (k := 0) (n := 0) (Nat.le_of_ble_eq_true rfl) (Nat.le_of_ble_eq_true rfl) ?_
    refine lv_if_eq (tgt := 248) hx hb dX10_line0_120 (by decide) (fun c10 => ?_) (fun c10 => ?_)
    · have dc10 : r6.toInt = 0 := eq_i (a := r6.toInt) (b := 0) rfl rfl c10
      have k11 : 0 ≤ r6.toInt ∧ r6.toInt ≤ 0 := ⟨t7.1, Int.le_trans (Int.le_of_eq dc10) (Int.le_refl _)⟩
      refine lv_aload_n hx hb dX10_line0_248 rfl (lv_at hl 1 rfl) ?_
      refine lv_ldc2 hx hb hown (hw _ q_1240) dX10_line0_249 ?_
      refine call_Vi (wr := [(h_tape, .inl (cB, 940, .inl f_tape)), (h_h, .inl (cI, 104, .inl f_h)), (h_names, .inl (cJ, 36, .inr (.inl f_names))), (h_reserved, .inl (cJ, 23, .inr (.inl f_reserved)))]) (As := [.long 1650814564]) (rest := []) hx hb hml hown hw (m_X10_isWord l D cI cJ cB cP cM cZ h0 Fh x_token x_number x_word 1650814564 _ e_token i_x_token e_number e_word (by omega)) wV_X10_225_X10_isWord dX10_line0_252 hK hP hD hS hA [4] [0, 1, 2, 3] rfl rfl (by decide) (by decide) (by decide) 0 10 rfl rfl GG.fb hG.at hl.1 rfl (Nat.le_of_ble_eq_true rfl) ⟨(Nat.le_of_ble_eq_true rfl), (Nat.le_of_ble_eq_true rfl)⟩ ⟨(Nat.le_of_ble_eq_true rfl), (Nat.le_of_ble_eq_true rfl)⟩ (fun r12 u H locs hp hP hD hS => ?_)
      have zl1650814564 : (1650814564 : Int32).toInt = 1650814564 := by decide
      obtain ⟨t13, t14, rfl⟩ := hp
      have hP : va_P D vwCl [(h_tape, .inl (cB, 940, .inl f_tape)), (h_h, .inl (cI, 104, .inl f_h)), (h_names, .inl (cJ, 36, .inr (.inl f_names))), (h_reserved, .inl (cJ, 23, .inr (.inl f_reserved))), (h0, .inr (10, vL 67 Fh))] H := hP
      have hD : va_D A [(h_tape, .inl (cB, 940, .inl f_tape)), (h_h, .inl (cI, 104, .inl f_h)), (h_names, .inl (cJ, 36, .inr (.inl f_names))), (h_reserved, .inl (cJ, 23, .inr (.inl f_reserved))), (h0, .inr (10, vL 67 Fh))] := hD
      refine W.widen (k := 0) (n := 0) (Nat.le_of_ble_eq_true rfl) (Nat.le_of_ble_eq_true rfl) ?_
      refine lv_if_eq (tgt := 395) hx hb dX10_line0_255 (by decide) (fun c16 => ?_) (fun c16 => ?_)
      · have dc16 : r12.toInt = 0 := eq_i (a := r12.toInt) (b := 0) rfl rfl c16
        have k17 : 0 ≤ r12.toInt ∧ r12.toInt ≤ 0 := ⟨t13.1, Int.le_trans (Int.le_of_eq dc16) (Int.le_refl _)⟩
        refine lv_aload_n hx hb dX10_line0_395 rfl (lv_at hl 1 rfl) ?_
        refine lv_ldc2 hx hb hown (hw _ q_1241) dX10_line0_396 ?_
        refine call_Vi (wr := [(h_tape, .inl (cB, 940, .inl f_tape)), (h_h, .inl (cI, 104, .inl f_h)), (h_names, .inl (cJ, 36, .inr (.inl f_names))), (h_reserved, .inl (cJ, 23, .inr (.inl f_reserved)))]) (As := [.long 125848689468786]) (rest := []) hx hb hml hown hw (m_X10_isWord l D cI cJ cB cP cM cZ h0 Fh x_token x_number x_word 125848689468786 _ e_token i_x_token e_number e_word (by omega)) wV_X10_225_X10_isWord dX10_line0_399 hK hP hD hS hA [4] [0, 1, 2, 3] rfl rfl (by decide) (by decide) (by decide) 0 10 rfl rfl GG.fb hG.at hl.1 rfl (Nat.le_of_ble_eq_true rfl) ⟨(Nat.le_of_ble_eq_true rfl), (Nat.le_of_ble_eq_true rfl)⟩ ⟨(Nat.le_of_ble_eq_true rfl), (Nat.le_of_ble_eq_true rfl)⟩ (fun r18 u H locs hp hP hD hS => ?_)
        have zl125848689468786 : (125848689468786 : Int32).toInt = 125848689468786 := by decide
        obtain ⟨t19, t20, rfl⟩ := hp
        have hP : va_P D vwCl [(h_tape, .inl (cB, 940, .inl f_tape)), (h_h, .inl (cI, 104, .inl f_h)), (h_names, .inl (cJ, 36, .inr (.inl f_names))), (h_reserved, .inl (cJ, 23, .inr (.inl f_reserved))), (h0, .inr (10, vL 67 Fh))] H := hP
        have hD : va_D A [(h_tape, .inl (cB, 940, .inl f_tape)), (h_h, .inl (cI, 104, .inl f_h)), (h_names, .inl (cJ, 36, .inr (.inl f_names))), (h_reserved, .inl (cJ, 23, .inr (.inl f_reserved))), (h0, .inr (10, vL 67 Fh))] := hD
        refine W.widen (k := 0) (n := 0) (Nat.le_of_ble_eq_true rfl) (Nat.le_of_ble_eq_true rfl) ?_
        refine lv_if_ne (tgt := 411) hx hb dX10_line0_402 (by decide) (fun c22 => ?_) (fun c22 => ?_)
        · have dc22 : r18.toInt ≠ 0 := ne_i (a := r18.toInt) (b := 0) rfl rfl c22
          have k23 : 1 ≤ r18.toInt ∧ r18.toInt ≤ 1 := ⟨ne_lo dc22 t19.1 ⟨Int.le_refl _, Int.le_refl _⟩ (by decide), t19.2⟩
          refine lv_aload_n hx hb dX10_line0_411 rfl (lv_at hl 1 rfl) ?_
          refine get_f (D := D) (ci := 10) (v := .ref h_h) (C := RX10) (T := TX10) (N := 67) hx hb hw inAX10 hown hK hP 4 rfl rfl 7 (by decide) (hw _ q_1268) (fun _ h9 => h9) e_h dX10_line0_412 ?_
          refine lv_bipush (v := 7) hx hb dX10_line0_415 (by decide) ?_
          refine iald_n hx hb hK hP 1 0 rfl rfl 7 rfl (Nat.le_of_ble_eq_true rfl) (Nat.le_of_ble_eq_true rfl) rfl dX10_line0_417 ?_
          refine lv_topi (fun v24 ev24 => ?_)
          have k25 : 0 ≤ v24.toInt ∧ v24.toInt ≤ 6 := by rw [ev24]; exact s_h_7.atN 7 (by decide) (by decide)
          refine lv_istore_n (lv' := [(2, .int v24), (1, .int r1), (0, .ref h0)]) hx hb dX10_line0_418 rfl hl (by decide) rfl (fun ls hl => ?_)
          refine lv_iload_n hx hb dX10_line0_419 rfl (lv_at hl 0 rfl) ?_
          refine lv_bipush (v := 6) hx hb dX10_line0_420 (by decide) ?_
          refine lv_icmp_ne (tgt := 431) hx hb dX10_line0_422 (by decide) (fun c26 => ?_) (fun c26 => ?_)
          · have dc26 : v24.toInt ≠ 6 := ne_i (a := v24.toInt) (b := 6) rfl rfl c26
            have k27 : 0 ≤ v24.toInt ∧ v24.toInt ≤ 5 := ⟨k25.1, ne_hi dc26 k25.2 ⟨Int.le_refl _, Int.le_refl _⟩ (by decide)⟩
            refine lv_aload_n hx hb dX10_line0_431 rfl (lv_at hl 2 rfl) ?_
            refine call_Vv (wr := [(h_h, .inl (cI, 104, .inl f_h)), (h_names, .inl (cJ, 36, .inr (.inl f_names))), (h_reserved, .inl (cJ, 23, .inr (.inl f_reserved)))]) (As := []) (rest := []) hx hb hml hown hw (m_X10_next l D cI cJ cB cP cM cZ h0 h_tape Fh x_size x_p x_limit x_token x_number x_word f_tape _ e_tape e_size i_x_size e_p i_x_p e_limit i_x_limit e_token i_x_token e_number e_word (by omega)) wV_X10_208_X10_next dX10_line0_432 hK hP hD hS hA [4, 0] [1, 2, 3] rfl rfl (by decide) (by decide) (by decide) 0 10 rfl rfl GG.fb hG.at hl.1 rfl (Nat.le_of_ble_eq_true rfl) ⟨(Nat.le_of_ble_eq_true rfl), (Nat.le_of_ble_eq_true rfl)⟩ ⟨(Nat.le_of_ble_eq_true rfl), (Nat.le_of_ble_eq_true rfl)⟩ (fun u H locs hp hP hD hS => ?_)
            obtain ⟨F29, y30, y31, y32, y33, y34, y35, t36, t37, t38, t39, t40, t41, t42, t43, t44, t45, t46, t47, t48, t49, rfl⟩ := hp
            have hP : va_P D vwCl [(h_h, .inl (cI, 104, .inl f_h)), (h_names, .inl (cJ, 36, .inr (.inl f_names))), (h_reserved, .inl (cJ, 23, .inr (.inl f_reserved))), (h0, .inr (10, vL 67 F29)), (h_tape, .inl (cB, 940, .inl f_tape))] H := hP
            have hD : va_D A [(h_h, .inl (cI, 104, .inl f_h)), (h_names, .inl (cJ, 36, .inr (.inl f_names))), (h_reserved, .inl (cJ, 23, .inr (.inl f_reserved))), (h0, .inr (10, vL 67 F29)), (h_tape, .inl (cB, 940, .inl f_tape))] := hD
            refine W.widen (k := 0) (n := 0) (Nat.le_of_ble_eq_true rfl) (Nat.le_of_ble_eq_true rfl) ?_
            refine lv_aload_n hx hb dX10_line0_435 rfl (lv_at hl 2 rfl) ?_
            refine lv_bipush (v := 30) hx hb dX10_line0_436 (by decide) ?_
            refine lv_iload_n hx hb dX10_line0_438 rfl (lv_at hl 0 rfl) ?_
            refine lv_iadd hx hb dX10_line0_439 ?_
            refine lv_topi (fun v51 ev51 => ?_)
            have bv51 : v51.toInt = 30 + v24.toInt := by rw [ev51]; exact add_k rfl rfl ⟨Int.le_refl _, Int.le_refl _⟩ k27 (by decide)
            have k52 : 30 ≤ v51.toInt ∧ v51.toInt ≤ 35 := add_r bv51 ⟨Int.le_refl _, Int.le_refl _⟩ k27 (by decide)
            have n53 : F29 1 = .ref h_tape := (SAME.at t36 (by decide) e_tape)
            have n54 : F29 3 = .int x_size := (SAME.at t36 (by decide) e_size)
            have n55 : F29 5 = .int x_limit := (SAME.at t36 (by decide) e_limit)
            have n56 : F29 7 = .ref h_h := (SAME.at t36 (by decide) e_h)
            have n57 : F29 9 = .ref h_names := (SAME.at t36 (by decide) e_names)
            have n58 : F29 10 = .ref h_reserved := (SAME.at t36 (by decide) e_reserved)
            have n59 : F29 15 = .int x_fault := (SAME.at t36 (by decide) e_fault)
            have n60 : F29 16 = .int x_faultAt := (SAME.at t36 (by decide) e_faultAt)
            refine call_Vi (wr := []) (As := [.int v51]) (rest := []) hx hb hml hown hw (m_X10_fresh l D cI cJ cB cP cM cZ h0 h_tape h_h h_names h_reserved F29 x_size y30 x_limit y31 y32 y33 y34 x_fault x_faultAt y35 f_tape f_h f_names f_reserved v51 _ n53 n54 i_x_size t37 t38 n55 i_x_limit n56 n57 n58 t39 t40 t41 t43 t45 n59 n60 t46 s_h_0 s_h_44 s_h_5 s_h_6 s_h_7 (ir_wk k52 (by decide) (by decide)) (by omega)) wV_X10_245_X10_fresh dX10_line0_440 hK hP hD hS hA [3, 4, 0, 1, 2] [] rfl rfl (by decide) (by decide) (by decide) 0 10 rfl rfl GG.fb hG.at hl.1 rfl (Nat.le_of_ble_eq_true rfl) ⟨(Nat.le_of_ble_eq_true rfl), (Nat.le_of_ble_eq_true rfl)⟩ ⟨(Nat.le_of_ble_eq_true rfl), (Nat.le_of_ble_eq_true rfl)⟩ (fun r61 u H locs hp hP hD hS => ?_)
            refine hp.elim (fun F62 h9z => h9z.elim (fun y63 h9z => h9z.elim (fun y64 h9z => h9z.elim (fun y65 h9z => h9z.elim (fun y66 h9z => h9z.elim (fun y67 h9z => h9z.elim (fun y68 h9z => h9z.elim (fun y69 h9z => h9z.elim (fun y70 h9z => h9z.elim (fun g71 h9z => h9z.elim (fun t72 h9z => h9z.elim (fun t73 h9z => h9z.elim (fun t74 h9z => h9z.elim (fun t75 h9z => h9z.elim (fun t76 h9z => h9z.elim (fun t77 h9z => h9z.elim (fun t78 h9z => h9z.elim (fun t79 h9z => h9z.elim (fun t80 h9z => h9z.elim (fun t81 h9z => h9z.elim (fun t82 h9z => h9z.elim (fun t83 h9z => h9z.elim (fun t84 h9z => h9z.elim (fun t85 h9z => ?_))))))))))))))))))))))))
            subst h9z
            have hP : va_P D vwCl [(h0, .inr (10, vL 67 F62)), (h_tape, .inl (cB, 940, .inl f_tape)), (h_h, .inl (cI, 104, .inl f_h)), (h_names, .inl (cJ, 36, .inr (.inl g71))), (h_reserved, .inl (cJ, 23, .inr (.inl f_reserved)))] H := hP
            have hD : va_D A [(h0, .inr (10, vL 67 F62)), (h_tape, .inl (cB, 940, .inl f_tape)), (h_h, .inl (cI, 104, .inl f_h)), (h_names, .inl (cJ, 36, .inr (.inl g71))), (h_reserved, .inl (cJ, 23, .inr (.inl f_reserved)))] := hD
            refine W.widen (k := 0) (n := 0) (Nat.le_of_ble_eq_true rfl) (Nat.le_of_ble_eq_true rfl) ?_
            refine lv_if_ne (tgt := 448) hx hb dX10_line0_443 (by decide) (fun c87 => ?_) (fun c87 => ?_)
            · have dc87 : r61.toInt ≠ 0 := ne_i (a := r61.toInt) (b := 0) rfl rfl c87
              have k88 : 1 ≤ r61.toInt ∧ r61.toInt ≤ 1 := ⟨ne_lo dc87 t83.1 ⟨Int.le_refl _, Int.le_refl _⟩ (by decide), t83.2⟩
              refine lv_aload_n hx hb dX10_line0_448 rfl (lv_at hl 2 rfl) ?_
              refine lv_iconst (v := 0) hx hb dX10_line0_449 (by decide) ?_
              refine lv_bipush (v := 20) hx hb dX10_line0_450 (by decide) ?_
              have n89 : F62 1 = .ref h_tape := (SAME.at t72 (by decide) n53)
              have n90 : F62 3 = .int x_size := (SAME.at t72 (by decide) n54)
              have n91 : F62 5 = .int x_limit := (SAME.at t72 (by decide) n55)
              refine call_Vi (wr := [(h_h, .inl (cI, 104, .inl f_h)), (h_names, .inl (cJ, 36, .inr (.inl g71))), (h_reserved, .inl (cJ, 23, .inr (.inl f_reserved)))]) (As := [.int 0, .int 20]) (rest := []) hx hb hml hown hw (m_X10_takes l D cI cJ cB cP cM cZ h0 h_tape F62 x_size y63 x_limit y64 y65 y67 y70 f_tape 0 20 _ n89 n90 i_x_size t73 t74 n91 i_x_limit t75 t76 t77 t79 t82 (by omega)) wV_X10_242_X10_takes dX10_line0_452 hK hP hD hS hA [0, 1] [2, 3, 4] rfl rfl (by decide) (by decide) (by decide) 0 10 rfl rfl GG.fb hG.at hl.1 rfl (Nat.le_of_ble_eq_true rfl) ⟨(Nat.le_of_ble_eq_true rfl), (Nat.le_of_ble_eq_true rfl)⟩ ⟨(Nat.le_of_ble_eq_true rfl), (Nat.le_of_ble_eq_true rfl)⟩ (fun r92 u H locs hp hP hD hS => ?_)
              have zl0 : (0 : Int32).toInt = 0 := by decide
              have zl20 : (20 : Int32).toInt = 20 := by decide
              rcases hp with hp | hp
              · obtain ⟨F93, y94, t95, t96, t97, t98, t99, rfl, rfl⟩ := hp
                have hP : va_P D vwCl [(h_h, .inl (cI, 104, .inl f_h)), (h_names, .inl (cJ, 36, .inr (.inl g71))), (h_reserved, .inl (cJ, 23, .inr (.inl f_reserved))), (h0, .inr (10, vL 67 F93)), (h_tape, .inl (cB, 940, .inl f_tape))] H := hP
                have hD : va_D A [(h_h, .inl (cI, 104, .inl f_h)), (h_names, .inl (cJ, 36, .inr (.inl g71))), (h_reserved, .inl (cJ, 23, .inr (.inl f_reserved))), (h0, .inr (10, vL 67 F93)), (h_tape, .inl (cB, 940, .inl f_tape))] := hD
                refine W.widen (k := 0) (n := 0) (Nat.le_of_ble_eq_true rfl) (Nat.le_of_ble_eq_true rfl) ?_
                refine lv_if_ne (tgt := 460) hx hb dX10_line0_455 (by decide) (fun g => absurd (by decide) g) (fun _ => ?_)
                refine lv_iconst (v := 0) hx hb dX10_line0_458 (by decide) ?_
                exact ret_i (v := 0) hx hb hr hlocks hS (hP.sub (ws' := [(h0, .inr (10, vL 67 F93)), (h_tape, .inl (cB, 940, .inl f_tape)), (h_h, .inl (cI, 104, .inl f_h)), (h_names, .inl (cJ, 36, .inr (.inl g71))), (h_reserved, .inl (cJ, 23, .inr (.inl f_reserved)))]) [3, 4, 0, 1, 2] rfl) (hD.sub (ws' := [(h0, .inr (10, vL 67 F93)), (h_tape, .inl (cB, 940, .inl f_tape)), (h_h, .inl (cI, 104, .inl f_h)), (h_names, .inl (cJ, 36, .inr (.inl g71))), (h_reserved, .inl (cJ, 23, .inr (.inl f_reserved)))]) [3, 4, 0, 1, 2] (by decide) rfl) dX10_line0_459 rfl (Nat.le_of_ble_eq_true rfl) (Nat.le_of_ble_eq_true rfl) ⟨F93, y63, y64, y65, y66, y67, y94, y65, y70, x_got, x_onces, f_h, g71, (SAME.tr (SAME.tr (SAME.tr SAME.rf t36 (by decide)) t72 (by decide)) t95 (by decide)), (SAME.at t95 (by decide) t73), t74, (SAME.at t95 (by decide) t75), t76, (SAME.at t95 (by decide) t77), (SAME.at t95 (by decide) t78), (SAME.at t95 (by decide) t79), t96, t98, (SAME.at t95 (by decide) t82), (SAME.at t95 (by decide) (SAME.at t72 (by decide) (SAME.at t36 (by decide) e_got))), (SAME.at t95 (by decide) (SAME.at t72 (by decide) (SAME.at t36 (by decide) e_onces))), s_h_0, s_h_5, s_h_6, s_h_7, s_h_44, (show 0 ≤ (0 : Int32).toInt ∧ (0 : Int32).toInt ≤ 1 by decide), (by have zl0 : (0 : Int32).toInt = 0 := (by decide); omega), (by omega), rfl⟩
              · refine hp.elim (fun F100 h9z => h9z.elim (fun y101 h9z => h9z.elim (fun y102 h9z => h9z.elim (fun y103 h9z => h9z.elim (fun y104 h9z => h9z.elim (fun y105 h9z => h9z.elim (fun y106 h9z => h9z.elim (fun y107 h9z => h9z.elim (fun t108 h9z => h9z.elim (fun t109 h9z => h9z.elim (fun t110 h9z => h9z.elim (fun t111 h9z => h9z.elim (fun t112 h9z => h9z.elim (fun t113 h9z => h9z.elim (fun t114 h9z => h9z.elim (fun t115 h9z => h9z.elim (fun t116 h9z => h9z.elim (fun t117 h9z => h9z.elim (fun t118 h9z => h9z.elim (fun t119 h9z => h9z.elim (fun t120 h9z => h9z.elim (fun t121 h9z => h9z.elim (fun t122 h9z => h9z.elim (fun t123 h9z => h9z.elim (fun t124 h9z => h9z.elim (fun heq925 h9z => ?_))))))))))))))))))))))))))
                subst heq925
                subst h9z
                have hP : va_P D vwCl [(h_h, .inl (cI, 104, .inl f_h)), (h_names, .inl (cJ, 36, .inr (.inl g71))), (h_reserved, .inl (cJ, 23, .inr (.inl f_reserved))), (h0, .inr (10, vL 67 F100)), (h_tape, .inl (cB, 940, .inl f_tape))] H := hP
                have hD : va_D A [(h_h, .inl (cI, 104, .inl f_h)), (h_names, .inl (cJ, 36, .inr (.inl g71))), (h_reserved, .inl (cJ, 23, .inr (.inl f_reserved))), (h0, .inr (10, vL 67 F100)), (h_tape, .inl (cB, 940, .inl f_tape))] := hD
                refine W.widen (k := 0) (n := 0) (Nat.le_of_ble_eq_true rfl) (Nat.le_of_ble_eq_true rfl) ?_
                have k126 : 2 ≤ y64.toInt ∧ y64.toInt ≤ 2 := ⟨Int.le_trans (Int.le_refl _) (Int.le_of_eq t120.symm), Int.le_trans (Int.le_of_eq t120) (Int.le_refl _)⟩
                have k127 : 0 ≤ y67.toInt ∧ y67.toInt ≤ 2147483647 := ⟨Int.le_trans (Int.le_refl _) t121, (ir_any _).2⟩
                have k128 : 0 ≤ y67.toInt ∧ y67.toInt ≤ 20 := ⟨k127.1, Int.le_trans t122 (Int.le_refl _)⟩
                refine lv_if_ne (tgt := 460) hx hb dX10_line0_455 (by decide) (fun _ => ?_) (fun g => absurd g (by decide))
                refine lv_aload_n hx hb dX10_line0_460 rfl (lv_at hl 2 rfl) ?_
                have n129 : F62 7 = .ref h_h := (SAME.at t72 (by decide) n56)
                have n130 : F100 7 = .ref h_h := (SAME.at t108 (by decide) n129)
                refine get_f (D := D) (ci := 10) (v := .ref h_h) (C := RX10) (T := TX10) (N := 67) hx hb hw inAX10 hown hK hP 3 rfl rfl 7 (by decide) (hw _ q_1268) (fun _ h9 => h9) n130 dX10_line0_461 ?_
                refine lv_bipush (v := 92) hx hb dX10_line0_464 (by decide) ?_
                refine lv_iload_n hx hb dX10_line0_466 rfl (lv_at hl 0 rfl) ?_
                refine lv_iadd hx hb dX10_line0_467 ?_
                refine lv_topi (fun v131 ev131 => ?_)
                have bv131 : v131.toInt = 92 + v24.toInt := by rw [ev131]; exact add_k rfl rfl ⟨Int.le_refl _, Int.le_refl _⟩ k27 (by decide)
                have k132 : 92 ≤ v131.toInt ∧ v131.toInt ≤ 97 := add_r bv131 ⟨Int.le_refl _, Int.le_refl _⟩ k27 (by decide)
                refine lv_aload_n hx hb dX10_line0_468 rfl (lv_at hl 2 rfl) ?_
                refine get_f (D := D) (ci := 10) (v := .int y107) (C := RX10) (T := TX10) (N := 67) hx hb hw inAX10 hown hK hP 3 rfl rfl 19 (by decide) (hw _ q_1280) (fun _ h9 => h9) t119 dX10_line0_469 ?_
                obtain ⟨g133, eg133⟩ : ∃ z : Nat → Int32, upd f_h v131.toNatClampNeg y107 = z := ⟨_, rfl⟩
                have r134 : SG 0 0 0 40 g133 := by rw [← eg133]; exact s_h_0.up (Int.le_trans (by decide) k132.1) (Or.inr (Or.inl (dec_lt k132.1 (by decide))))
                have r135 : SG 44 55 0 9 g133 := by rw [← eg133]; exact s_h_44.up (Int.le_trans (by decide) k132.1) (Or.inr (Or.inl (dec_lt k132.1 (by decide))))
                have r136 : SG 5 5 0 12 g133 := by rw [← eg133]; exact s_h_5.up (Int.le_trans (by decide) k132.1) (Or.inr (Or.inl (dec_lt k132.1 (by decide))))
                have r137 : SG 6 6 0 12 g133 := by rw [← eg133]; exact s_h_6.up (Int.le_trans (by decide) k132.1) (Or.inr (Or.inl (dec_lt k132.1 (by decide))))
                have r138 : SG 7 7 0 6 g133 := by rw [← eg133]; exact s_h_7.up (Int.le_trans (by decide) k132.1) (Or.inr (Or.inl (dec_lt k132.1 (by decide))))
                refine iast_g hx hb hK hP hD hS 0 0 rfl rfl (ix_k k132 (by decide) (by decide)) eg133 dX10_line0_472 (fun H locs hP hD hS => ?_)
                have hP : va_P D vwCl [(h_h, .inl (cI, 104, .inl g133)), (h_names, .inl (cJ, 36, .inr (.inl g71))), (h_reserved, .inl (cJ, 23, .inr (.inl f_reserved))), (h0, .inr (10, vL 67 F100)), (h_tape, .inl (cB, 940, .inl f_tape))] H := hP
                have hD : va_D A [(h_h, .inl (cI, 104, .inl g133)), (h_names, .inl (cJ, 36, .inr (.inl g71))), (h_reserved, .inl (cJ, 23, .inr (.inl f_reserved))), (h0, .inr (10, vL 67 F100)), (h_tape, .inl (cB, 940, .inl f_tape))] := hD
                refine lv_aload_n hx hb dX10_line0_473 rfl (lv_at hl 2 rfl) ?_
                refine lv_iconst (v := 0) hx hb dX10_line0_474 (by decide) ?_
                refine lv_bipush (v := 9) hx hb dX10_line0_475 (by decide) ?_
                have n139 : F100 1 = .ref h_tape := (SAME.at t108 (by decide) n89)
                have n140 : F100 3 = .int x_size := (SAME.at t108 (by decide) n90)
                have n141 : F100 5 = .int x_limit := (SAME.at t108 (by decide) n91)
                refine call_Vi (wr := [(h_h, .inl (cI, 104, .inl g133)), (h_names, .inl (cJ, 36, .inr (.inl g71))), (h_reserved, .inl (cJ, 23, .inr (.inl f_reserved)))]) (As := [.int 0, .int 9]) (rest := []) hx hb hml hown hw (m_X10_takes l D cI cJ cB cP cM cZ h0 h_tape F100 x_size y101 x_limit y102 y103 y105 y106 f_tape 0 9 _ n139 n140 i_x_size t109 t110 n141 i_x_limit t111 t112 t113 t117 t118 (by omega)) wV_X10_242_X10_takes dX10_line0_477 hK hP hD hS hA [3, 4] [0, 1, 2] rfl rfl (by decide) (by decide) (by decide) 0 10 rfl rfl GG.fb hG.at hl.1 rfl (Nat.le_of_ble_eq_true rfl) ⟨(Nat.le_of_ble_eq_true rfl), (Nat.le_of_ble_eq_true rfl)⟩ ⟨(Nat.le_of_ble_eq_true rfl), (Nat.le_of_ble_eq_true rfl)⟩ (fun r142 u H locs hp hP hD hS => ?_)
                have zl9 : (9 : Int32).toInt = 9 := by decide
                rcases hp with hp | hp
                · obtain ⟨F143, y144, t145, t146, t147, t148, t149, rfl, rfl⟩ := hp
                  have hP : va_P D vwCl [(h_h, .inl (cI, 104, .inl g133)), (h_names, .inl (cJ, 36, .inr (.inl g71))), (h_reserved, .inl (cJ, 23, .inr (.inl f_reserved))), (h0, .inr (10, vL 67 F143)), (h_tape, .inl (cB, 940, .inl f_tape))] H := hP
                  have hD : va_D A [(h_h, .inl (cI, 104, .inl g133)), (h_names, .inl (cJ, 36, .inr (.inl g71))), (h_reserved, .inl (cJ, 23, .inr (.inl f_reserved))), (h0, .inr (10, vL 67 F143)), (h_tape, .inl (cB, 940, .inl f_tape))] := hD
                  refine W.widen (k := 0) (n := 0) (Nat.le_of_ble_eq_true rfl) (Nat.le_of_ble_eq_true rfl) ?_
                  refine lv_if_ne (tgt := 485) hx hb dX10_line0_480 (by decide) (fun g => absurd (by decide) g) (fun _ => ?_)
                  refine lv_iconst (v := 0) hx hb dX10_line0_483 (by decide) ?_
                  exact ret_i (v := 0) hx hb hr hlocks hS (hP.sub (ws' := [(h0, .inr (10, vL 67 F143)), (h_tape, .inl (cB, 940, .inl f_tape)), (h_h, .inl (cI, 104, .inl g133)), (h_names, .inl (cJ, 36, .inr (.inl g71))), (h_reserved, .inl (cJ, 23, .inr (.inl f_reserved)))]) [3, 4, 0, 1, 2] rfl) (hD.sub (ws' := [(h0, .inr (10, vL 67 F143)), (h_tape, .inl (cB, 940, .inl f_tape)), (h_h, .inl (cI, 104, .inl g133)), (h_names, .inl (cJ, 36, .inr (.inl g71))), (h_reserved, .inl (cJ, 23, .inr (.inl f_reserved)))]) [3, 4, 0, 1, 2] (by decide) rfl) dX10_line0_484 rfl (Nat.le_of_ble_eq_true rfl) (Nat.le_of_ble_eq_true rfl) ⟨F143, y101, y102, y103, y104, y105, y144, y103, y106, y107, x_onces, g133, g71, (SAME.tr (SAME.tr (SAME.tr (SAME.tr SAME.rf t36 (by decide)) t72 (by decide)) t108 (by decide)) t145 (by decide)), (SAME.at t145 (by decide) t109), t110, (SAME.at t145 (by decide) t111), t112, (SAME.at t145 (by decide) t113), (SAME.at t145 (by decide) t115), (SAME.at t145 (by decide) t117), t146, t148, (SAME.at t145 (by decide) t118), (SAME.at t145 (by decide) t119), (SAME.at t145 (by decide) (SAME.at t108 (by decide) (SAME.at t72 (by decide) (SAME.at t36 (by decide) e_onces)))), r134, r136, r137, r138, r135, (show 0 ≤ (0 : Int32).toInt ∧ (0 : Int32).toInt ≤ 1 by decide), (by have zl0 : (0 : Int32).toInt = 0 := (by decide); omega), (by omega), rfl⟩
                · refine hp.elim (fun F150 h9z => h9z.elim (fun y151 h9z => h9z.elim (fun y152 h9z => h9z.elim (fun y153 h9z => h9z.elim (fun y154 h9z => h9z.elim (fun y155 h9z => h9z.elim (fun y156 h9z => h9z.elim (fun y157 h9z => h9z.elim (fun t158 h9z => h9z.elim (fun t159 h9z => h9z.elim (fun t160 h9z => h9z.elim (fun t161 h9z => h9z.elim (fun t162 h9z => h9z.elim (fun t163 h9z => h9z.elim (fun t164 h9z => h9z.elim (fun t165 h9z => h9z.elim (fun t166 h9z => h9z.elim (fun t167 h9z => h9z.elim (fun t168 h9z => h9z.elim (fun t169 h9z => h9z.elim (fun t170 h9z => h9z.elim (fun t171 h9z => h9z.elim (fun t172 h9z => h9z.elim (fun t173 h9z => h9z.elim (fun t174 h9z => h9z.elim (fun heq925 h9z => ?_))))))))))))))))))))))))))
                  subst heq925
                  subst h9z
                  have hP : va_P D vwCl [(h_h, .inl (cI, 104, .inl g133)), (h_names, .inl (cJ, 36, .inr (.inl g71))), (h_reserved, .inl (cJ, 23, .inr (.inl f_reserved))), (h0, .inr (10, vL 67 F150)), (h_tape, .inl (cB, 940, .inl f_tape))] H := hP
                  have hD : va_D A [(h_h, .inl (cI, 104, .inl g133)), (h_names, .inl (cJ, 36, .inr (.inl g71))), (h_reserved, .inl (cJ, 23, .inr (.inl f_reserved))), (h0, .inr (10, vL 67 F150)), (h_tape, .inl (cB, 940, .inl f_tape))] := hD
                  refine W.widen (k := 0) (n := 0) (Nat.le_of_ble_eq_true rfl) (Nat.le_of_ble_eq_true rfl) ?_
                  have k176 : 2 ≤ y102.toInt ∧ y102.toInt ≤ 2 := ⟨Int.le_trans (Int.le_refl _) (Int.le_of_eq t170.symm), Int.le_trans (Int.le_of_eq t170) (Int.le_refl _)⟩
                  have k177 : 0 ≤ y105.toInt ∧ y105.toInt ≤ 2147483647 := ⟨Int.le_trans (Int.le_refl _) t171, (ir_any _).2⟩
                  have k178 : 0 ≤ y105.toInt ∧ y105.toInt ≤ 9 := ⟨k177.1, Int.le_trans t172 (Int.le_refl _)⟩
                  refine lv_if_ne (tgt := 485) hx hb dX10_line0_480 (by decide) (fun _ => ?_) (fun g => absurd g (by decide))
                  refine lv_aload_n hx hb dX10_line0_485 rfl (lv_at hl 2 rfl) ?_
                  have n179 : F150 7 = .ref h_h := (SAME.at t158 (by decide) n130)
                  refine get_f (D := D) (ci := 10) (v := .ref h_h) (C := RX10) (T := TX10) (N := 67) hx hb hw inAX10 hown hK hP 3 rfl rfl 7 (by decide) (hw _ q_1268) (fun _ h9 => h9) n179 dX10_line0_486 ?_
                  refine lv_bipush (v := 98) hx hb dX10_line0_489 (by decide) ?_
                  refine lv_iload_n hx hb dX10_line0_491 rfl (lv_at hl 0 rfl) ?_
                  refine lv_iadd hx hb dX10_line0_492 ?_
                  refine lv_topi (fun v180 ev180 => ?_)
                  have bv180 : v180.toInt = 98 + v24.toInt := by rw [ev180]; exact add_k rfl rfl ⟨Int.le_refl _, Int.le_refl _⟩ k27 (by decide)
                  have k181 : 98 ≤ v180.toInt ∧ v180.toInt ≤ 103 := add_r bv180 ⟨Int.le_refl _, Int.le_refl _⟩ k27 (by decide)
                  refine lv_aload_n hx hb dX10_line0_493 rfl (lv_at hl 2 rfl) ?_
                  refine get_f (D := D) (ci := 10) (v := .int y157) (C := RX10) (T := TX10) (N := 67) hx hb hw inAX10 hown hK hP 3 rfl rfl 19 (by decide) (hw _ q_1280) (fun _ h9 => h9) t169 dX10_line0_494 ?_
                  obtain ⟨g182, eg182⟩ : ∃ z : Nat → Int32, upd g133 v180.toNatClampNeg y157 = z := ⟨_, rfl⟩
                  have r183 : SG 0 0 0 40 g182 := by rw [← eg182]; exact r134.up (Int.le_trans (by decide) k181.1) (Or.inr (Or.inl (dec_lt k181.1 (by decide))))
                  have r184 : SG 44 55 0 9 g182 := by rw [← eg182]; exact r135.up (Int.le_trans (by decide) k181.1) (Or.inr (Or.inl (dec_lt k181.1 (by decide))))
                  have r185 : SG 5 5 0 12 g182 := by rw [← eg182]; exact r136.up (Int.le_trans (by decide) k181.1) (Or.inr (Or.inl (dec_lt k181.1 (by decide))))
                  have r186 : SG 6 6 0 12 g182 := by rw [← eg182]; exact r137.up (Int.le_trans (by decide) k181.1) (Or.inr (Or.inl (dec_lt k181.1 (by decide))))
                  have r187 : SG 7 7 0 6 g182 := by rw [← eg182]; exact r138.up (Int.le_trans (by decide) k181.1) (Or.inr (Or.inl (dec_lt k181.1 (by decide))))
                  refine iast_g hx hb hK hP hD hS 0 0 rfl rfl (ix_k k181 (by decide) (by decide)) eg182 dX10_line0_497 (fun H locs hP hD hS => ?_)
                  have hP : va_P D vwCl [(h_h, .inl (cI, 104, .inl g182)), (h_names, .inl (cJ, 36, .inr (.inl g71))), (h_reserved, .inl (cJ, 23, .inr (.inl f_reserved))), (h0, .inr (10, vL 67 F150)), (h_tape, .inl (cB, 940, .inl f_tape))] H := hP
                  have hD : va_D A [(h_h, .inl (cI, 104, .inl g182)), (h_names, .inl (cJ, 36, .inr (.inl g71))), (h_reserved, .inl (cJ, 23, .inr (.inl f_reserved))), (h0, .inr (10, vL 67 F150)), (h_tape, .inl (cB, 940, .inl f_tape))] := hD
                  refine lv_aload_n hx hb dX10_line0_498 rfl (lv_at hl 2 rfl) ?_
                  refine get_f (D := D) (ci := 10) (v := .ref h_h) (C := RX10) (T := TX10) (N := 67) hx hb hw inAX10 hown hK hP 3 rfl rfl 7 (by decide) (hw _ q_1268) (fun _ h9 => h9) n179 dX10_line0_499 ?_
                  refine lv_bipush (v := 7) hx hb dX10_line0_502 (by decide) ?_
                  refine lv_dup2_11 hx hb dX10_line0_504 rfl rfl ?_
                  refine iald_n hx hb hK hP 0 0 rfl rfl 7 rfl (Nat.le_of_ble_eq_true rfl) (Nat.le_of_ble_eq_true rfl) rfl dX10_line0_505 ?_
                  refine lv_topi (fun v188 ev188 => ?_)
                  have k189 : 0 ≤ v188.toInt ∧ v188.toInt ≤ 6 := by rw [ev188]; exact r187.atN 7 (by decide) (by decide)
                  refine lv_iconst (v := 1) hx hb dX10_line0_506 (by decide) ?_
                  refine lv_iadd hx hb dX10_line0_507 ?_
                  refine lv_topi (fun v190 ev190 => ?_)
                  have bv190 : v190.toInt = v188.toInt + 1 := by rw [ev190]; exact add_k rfl rfl k189 ⟨Int.le_refl _, Int.le_refl _⟩ (by decide)
                  have k191 : 1 ≤ v190.toInt ∧ v190.toInt ≤ 7 := add_r bv190 k189 ⟨Int.le_refl _, Int.le_refl _⟩ (by decide)
                  obtain ⟨g192, eg192⟩ : ∃ z : Nat → Int32, upd g182 7 v190 = z := ⟨_, rfl⟩
                  have r193 : SG 0 0 0 40 g192 := by rw [← eg192]; exact r183.upN (by decide)
                  have r194 : SG 44 55 0 9 g192 := by rw [← eg192]; exact r184.upN (by decide)
                  have r195 : SG 5 5 0 12 g192 := by rw [← eg192]; exact r185.upN (by decide)
                  have r196 : SG 6 6 0 12 g192 := by rw [← eg192]; exact r186.upN (by decide)
                  have r197 : SG 7 7 0 6 g192 := by rw [← eg192]; exact r187.upN (by omega)
                  refine iast_n hx hb hK hP hD hS 0 0 rfl rfl 7 rfl (Nat.le_of_ble_eq_true rfl) (Nat.le_of_ble_eq_true rfl) eg192 dX10_line0_508 (fun H locs hP hD hS => ?_)
                  have hP : va_P D vwCl [(h_h, .inl (cI, 104, .inl g192)), (h_names, .inl (cJ, 36, .inr (.inl g71))), (h_reserved, .inl (cJ, 23, .inr (.inl f_reserved))), (h0, .inr (10, vL 67 F150)), (h_tape, .inl (cB, 940, .inl f_tape))] H := hP
                  have hD : va_D A [(h_h, .inl (cI, 104, .inl g192)), (h_names, .inl (cJ, 36, .inr (.inl g71))), (h_reserved, .inl (cJ, 23, .inr (.inl f_reserved))), (h0, .inr (10, vL 67 F150)), (h_tape, .inl (cB, 940, .inl f_tape))] := hD
                  refine lv_iconst (v := 1) hx hb dX10_line0_509 (by decide) ?_
                  exact ret_i (v := 1) hx hb hr hlocks hS (hP.sub (ws' := [(h0, .inr (10, vL 67 F150)), (h_tape, .inl (cB, 940, .inl f_tape)), (h_h, .inl (cI, 104, .inl g192)), (h_names, .inl (cJ, 36, .inr (.inl g71))), (h_reserved, .inl (cJ, 23, .inr (.inl f_reserved)))]) [3, 4, 0, 1, 2] rfl) (hD.sub (ws' := [(h0, .inr (10, vL 67 F150)), (h_tape, .inl (cB, 940, .inl f_tape)), (h_h, .inl (cI, 104, .inl g192)), (h_names, .inl (cJ, 36, .inr (.inl g71))), (h_reserved, .inl (cJ, 23, .inr (.inl f_reserved)))]) [3, 4, 0, 1, 2] (by decide) rfl) dX10_line0_510 rfl (Nat.le_of_ble_eq_true rfl) (Nat.le_of_ble_eq_true rfl) ⟨F150, y151, y152, y153, y154, y155, y68, y69, y156, y157, x_onces, g192, g71, (SAME.tr (SAME.tr (SAME.tr (SAME.tr SAME.rf t36 (by decide)) t72 (by decide)) t108 (by decide)) t158 (by decide)), t159, t160, t161, t162, t163, t165, t167, (SAME.at t158 (by decide) (SAME.at t108 (by decide) t80)), (SAME.at t158 (by decide) (SAME.at t108 (by decide) t81)), t168, t169, (SAME.at t158 (by decide) (SAME.at t108 (by decide) (SAME.at t72 (by decide) (SAME.at t36 (by decide) e_onces)))), r193, r195, r196, r197, r194, (show 0 ≤ (1 : Int32).toInt ∧ (1 : Int32).toInt ≤ 1 by decide), (by have zl1 : (1 : Int32).toInt = 1 := (by decide); omega), (by omega), rfl⟩
            · have dc87 : r61.toInt = 0 := eq_i (a := r61.toInt) (b := 0) rfl rfl c87
              have k198 : 0 ≤ r61.toInt ∧ r61.toInt ≤ 0 := ⟨t83.1, Int.le_trans (Int.le_of_eq dc87) (Int.le_refl _)⟩
              refine lv_iconst (v := 0) hx hb dX10_line0_446 (by decide) ?_
              exact ret_i (v := 0) hx hb hr hlocks hS hP hD dX10_line0_447 rfl (Nat.le_of_ble_eq_true rfl) (Nat.le_of_ble_eq_true rfl) ⟨F62, y63, y64, y65, y66, y67, y68, y69, y70, x_got, x_onces, f_h, g71, (SAME.tr (SAME.tr SAME.rf t36 (by decide)) t72 (by decide)), t73, t74, t75, t76, t77, t78, t79, t80, t81, t82, (SAME.at t72 (by decide) (SAME.at t36 (by decide) e_got)), (SAME.at t72 (by decide) (SAME.at t36 (by decide) e_onces)), s_h_0, s_h_5, s_h_6, s_h_7, s_h_44, (show 0 ≤ (0 : Int32).toInt ∧ (0 : Int32).toInt ≤ 1 by decide), (by have zl0 : (0 : Int32).toInt = 0 := (by decide); omega), (by omega), rfl⟩
          · have dc26 : v24.toInt = 6 := eq_i (a := v24.toInt) (b := 6) rfl rfl c26
            have k199 : 6 ≤ v24.toInt ∧ v24.toInt ≤ 6 := ⟨Int.le_trans (Int.le_refl _) (Int.le_of_eq dc26.symm), k25.2⟩
            refine lv_aload_n hx hb dX10_line0_425 rfl (lv_at hl 2 rfl) ?_
            refine lv_iconst (v := 4) hx hb dX10_line0_426 (by decide) ?_
            refine call_Vi (wr := [(h_tape, .inl (cB, 940, .inl f_tape)), (h_h, .inl (cI, 104, .inl f_h)), (h_names, .inl (cJ, 36, .inr (.inl f_names))), (h_reserved, .inl (cJ, 23, .inr (.inl f_reserved)))]) (As := [.int 4]) (rest := []) hx hb hml hown hw (m_X10_bad l D cI cJ cB cP cM cZ h0 Fh x_at 4 _ e_at) wV_X10_205_X10_bad dX10_line0_427 hK hP hD hS hA [4] [0, 1, 2, 3] rfl rfl (by decide) (by decide) (by decide) 0 10 rfl rfl GG.fb hG.at hl.1 rfl (Nat.le_of_ble_eq_true rfl) ⟨(Nat.le_of_ble_eq_true rfl), (Nat.le_of_ble_eq_true rfl)⟩ ⟨(Nat.le_of_ble_eq_true rfl), (Nat.le_of_ble_eq_true rfl)⟩ (fun r200 u H locs hp hP hD hS => ?_)
            have zl4 : (4 : Int32).toInt = 4 := by decide
            obtain ⟨F201, t202, t203, t204, rfl, rfl⟩ := hp
            have hP : va_P D vwCl [(h_tape, .inl (cB, 940, .inl f_tape)), (h_h, .inl (cI, 104, .inl f_h)), (h_names, .inl (cJ, 36, .inr (.inl f_names))), (h_reserved, .inl (cJ, 23, .inr (.inl f_reserved))), (h0, .inr (10, vL 67 F201))] H := hP
            have hD : va_D A [(h_tape, .inl (cB, 940, .inl f_tape)), (h_h, .inl (cI, 104, .inl f_h)), (h_names, .inl (cJ, 36, .inr (.inl f_names))), (h_reserved, .inl (cJ, 23, .inr (.inl f_reserved))), (h0, .inr (10, vL 67 F201))] := hD
            refine W.widen (k := 0) (n := 0) (Nat.le_of_ble_eq_true rfl) (Nat.le_of_ble_eq_true rfl) ?_
            exact ret_i (v := 0) hx hb hr hlocks hS (hP.sub (ws' := [(h0, .inr (10, vL 67 F201)), (h_tape, .inl (cB, 940, .inl f_tape)), (h_h, .inl (cI, 104, .inl f_h)), (h_names, .inl (cJ, 36, .inr (.inl f_names))), (h_reserved, .inl (cJ, 23, .inr (.inl f_reserved)))]) [4, 0, 1, 2, 3] rfl) (hD.sub (ws' := [(h0, .inr (10, vL 67 F201)), (h_tape, .inl (cB, 940, .inl f_tape)), (h_h, .inl (cI, 104, .inl f_h)), (h_names, .inl (cJ, 36, .inr (.inl f_names))), (h_reserved, .inl (cJ, 23, .inr (.inl f_reserved)))]) [4, 0, 1, 2, 3] (by decide) rfl) dX10_line0_430 rfl (Nat.le_of_ble_eq_true rfl) (Nat.le_of_ble_eq_true rfl) ⟨F201, x_p, x_token, x_at, x_span, x_number, 4, x_at, x_word, x_got, x_onces, f_h, f_names, (SAME.tr SAME.rf t202 (by decide)), (SAME.at t202 (by decide) e_p), i_x_p, (SAME.at t202 (by decide) e_token), i_x_token, (SAME.at t202 (by decide) e_at), (SAME.at t202 (by decide) e_span), (SAME.at t202 (by decide) e_number), t203, t204, (SAME.at t202 (by decide) e_word), (SAME.at t202 (by decide) e_got), (SAME.at t202 (by decide) e_onces), s_h_0, s_h_5, s_h_6, s_h_7, s_h_44, (show 0 ≤ (0 : Int32).toInt ∧ (0 : Int32).toInt ≤ 1 by decide), (by have zl0 : (0 : Int32).toInt = 0 := (by decide); omega), (by have zl4 : (4 : Int32).toInt = 4 := (by decide); omega), rfl⟩
        · have dc22 : r18.toInt = 0 := eq_i (a := r18.toInt) (b := 0) rfl rfl c22
          have k206 : 0 ≤ r18.toInt ∧ r18.toInt ≤ 0 := ⟨t19.1, Int.le_trans (Int.le_of_eq dc22) (Int.le_refl _)⟩
          refine lv_aload_n hx hb dX10_line0_405 rfl (lv_at hl 1 rfl) ?_
          refine lv_iconst (v := 1) hx hb dX10_line0_406 (by decide) ?_
          refine call_Vi (wr := [(h_tape, .inl (cB, 940, .inl f_tape)), (h_h, .inl (cI, 104, .inl f_h)), (h_names, .inl (cJ, 36, .inr (.inl f_names))), (h_reserved, .inl (cJ, 23, .inr (.inl f_reserved)))]) (As := [.int 1]) (rest := []) hx hb hml hown hw (m_X10_bad l D cI cJ cB cP cM cZ h0 Fh x_at 1 _ e_at) wV_X10_205_X10_bad dX10_line0_407 hK hP hD hS hA [4] [0, 1, 2, 3] rfl rfl (by decide) (by decide) (by decide) 0 10 rfl rfl GG.fb hG.at hl.1 rfl (Nat.le_of_ble_eq_true rfl) ⟨(Nat.le_of_ble_eq_true rfl), (Nat.le_of_ble_eq_true rfl)⟩ ⟨(Nat.le_of_ble_eq_true rfl), (Nat.le_of_ble_eq_true rfl)⟩ (fun r207 u H locs hp hP hD hS => ?_)
          have zl1 : (1 : Int32).toInt = 1 := by decide
          obtain ⟨F208, t209, t210, t211, rfl, rfl⟩ := hp
          have hP : va_P D vwCl [(h_tape, .inl (cB, 940, .inl f_tape)), (h_h, .inl (cI, 104, .inl f_h)), (h_names, .inl (cJ, 36, .inr (.inl f_names))), (h_reserved, .inl (cJ, 23, .inr (.inl f_reserved))), (h0, .inr (10, vL 67 F208))] H := hP
          have hD : va_D A [(h_tape, .inl (cB, 940, .inl f_tape)), (h_h, .inl (cI, 104, .inl f_h)), (h_names, .inl (cJ, 36, .inr (.inl f_names))), (h_reserved, .inl (cJ, 23, .inr (.inl f_reserved))), (h0, .inr (10, vL 67 F208))] := hD
          refine W.widen (k := 0) (n := 0) (Nat.le_of_ble_eq_true rfl) (Nat.le_of_ble_eq_true rfl) ?_
          exact ret_i (v := 0) hx hb hr hlocks hS (hP.sub (ws' := [(h0, .inr (10, vL 67 F208)), (h_tape, .inl (cB, 940, .inl f_tape)), (h_h, .inl (cI, 104, .inl f_h)), (h_names, .inl (cJ, 36, .inr (.inl f_names))), (h_reserved, .inl (cJ, 23, .inr (.inl f_reserved)))]) [4, 0, 1, 2, 3] rfl) (hD.sub (ws' := [(h0, .inr (10, vL 67 F208)), (h_tape, .inl (cB, 940, .inl f_tape)), (h_h, .inl (cI, 104, .inl f_h)), (h_names, .inl (cJ, 36, .inr (.inl f_names))), (h_reserved, .inl (cJ, 23, .inr (.inl f_reserved)))]) [4, 0, 1, 2, 3] (by decide) rfl) dX10_line0_410 rfl (Nat.le_of_ble_eq_true rfl) (Nat.le_of_ble_eq_true rfl) ⟨F208, x_p, x_token, x_at, x_span, x_number, 1, x_at, x_word, x_got, x_onces, f_h, f_names, (SAME.tr SAME.rf t209 (by decide)), (SAME.at t209 (by decide) e_p), i_x_p, (SAME.at t209 (by decide) e_token), i_x_token, (SAME.at t209 (by decide) e_at), (SAME.at t209 (by decide) e_span), (SAME.at t209 (by decide) e_number), t210, t211, (SAME.at t209 (by decide) e_word), (SAME.at t209 (by decide) e_got), (SAME.at t209 (by decide) e_onces), s_h_0, s_h_5, s_h_6, s_h_7, s_h_44, (show 0 ≤ (0 : Int32).toInt ∧ (0 : Int32).toInt ≤ 1 by decide), (by have zl0 : (0 : Int32).toInt = 0 := (by decide); omega), (by have zl1 : (1 : Int32).toInt = 1 := (by decide); omega), rfl⟩
      · have dc16 : r12.toInt ≠ 0 := ne_i (a := r12.toInt) (b := 0) rfl rfl c16
        have k213 : 1 ≤ r12.toInt ∧ r12.toInt ≤ 1 := ⟨ne_lo dc16 t13.1 ⟨Int.le_refl _, Int.le_refl _⟩ (by decide), t13.2⟩
        refine lv_aload_n hx hb dX10_line0_258 rfl (lv_at hl 1 rfl) ?_
        refine get_f (D := D) (ci := 10) (v := .ref h_h) (C := RX10) (T := TX10) (N := 67) hx hb hw inAX10 hown hK hP 4 rfl rfl 7 (by decide) (hw _ q_1268) (fun _ h9 => h9) e_h dX10_line0_259 ?_
        refine lv_bipush (v := 6) hx hb dX10_line0_262 (by decide) ?_
        refine iald_n hx hb hK hP 1 0 rfl rfl 6 rfl (Nat.le_of_ble_eq_true rfl) (Nat.le_of_ble_eq_true rfl) rfl dX10_line0_264 ?_
        refine lv_topi (fun v214 ev214 => ?_)
        have k215 : 0 ≤ v214.toInt ∧ v214.toInt ≤ 12 := by rw [ev214]; exact s_h_6.atN 6 (by decide) (by decide)
        refine lv_istore_n (lv' := [(2, .int v214), (1, .int r1), (0, .ref h0)]) hx hb dX10_line0_265 rfl hl (by decide) rfl (fun ls hl => ?_)
        refine lv_iload_n hx hb dX10_line0_266 rfl (lv_at hl 0 rfl) ?_
        refine lv_bipush (v := 12) hx hb dX10_line0_267 (by decide) ?_
        refine lv_icmp_ne (tgt := 278) hx hb dX10_line0_269 (by decide) (fun c216 => ?_) (fun c216 => ?_)
        · have dc216 : v214.toInt ≠ 12 := ne_i (a := v214.toInt) (b := 12) rfl rfl c216
          have k217 : 0 ≤ v214.toInt ∧ v214.toInt ≤ 11 := ⟨k215.1, ne_hi dc216 k215.2 ⟨Int.le_refl _, Int.le_refl _⟩ (by decide)⟩
          refine lv_aload_n hx hb dX10_line0_278 rfl (lv_at hl 2 rfl) ?_
          refine call_Vv (wr := [(h_h, .inl (cI, 104, .inl f_h)), (h_names, .inl (cJ, 36, .inr (.inl f_names))), (h_reserved, .inl (cJ, 23, .inr (.inl f_reserved)))]) (As := []) (rest := []) hx hb hml hown hw (m_X10_next l D cI cJ cB cP cM cZ h0 h_tape Fh x_size x_p x_limit x_token x_number x_word f_tape _ e_tape e_size i_x_size e_p i_x_p e_limit i_x_limit e_token i_x_token e_number e_word (by omega)) wV_X10_208_X10_next dX10_line0_279 hK hP hD hS hA [4, 0] [1, 2, 3] rfl rfl (by decide) (by decide) (by decide) 0 10 rfl rfl GG.fb hG.at hl.1 rfl (Nat.le_of_ble_eq_true rfl) ⟨(Nat.le_of_ble_eq_true rfl), (Nat.le_of_ble_eq_true rfl)⟩ ⟨(Nat.le_of_ble_eq_true rfl), (Nat.le_of_ble_eq_true rfl)⟩ (fun u H locs hp hP hD hS => ?_)
          obtain ⟨F219, y220, y221, y222, y223, y224, y225, t226, t227, t228, t229, t230, t231, t232, t233, t234, t235, t236, t237, t238, t239, rfl⟩ := hp
          have hP : va_P D vwCl [(h_h, .inl (cI, 104, .inl f_h)), (h_names, .inl (cJ, 36, .inr (.inl f_names))), (h_reserved, .inl (cJ, 23, .inr (.inl f_reserved))), (h0, .inr (10, vL 67 F219)), (h_tape, .inl (cB, 940, .inl f_tape))] H := hP
          have hD : va_D A [(h_h, .inl (cI, 104, .inl f_h)), (h_names, .inl (cJ, 36, .inr (.inl f_names))), (h_reserved, .inl (cJ, 23, .inr (.inl f_reserved))), (h0, .inr (10, vL 67 F219)), (h_tape, .inl (cB, 940, .inl f_tape))] := hD
          refine W.widen (k := 0) (n := 0) (Nat.le_of_ble_eq_true rfl) (Nat.le_of_ble_eq_true rfl) ?_
          refine lv_aload_n hx hb dX10_line0_282 rfl (lv_at hl 2 rfl) ?_
          refine lv_iconst (v := 1) hx hb dX10_line0_283 (by decide) ?_
          refine lv_bipush (v := 9) hx hb dX10_line0_284 (by decide) ?_
          have n241 : F219 1 = .ref h_tape := (SAME.at t226 (by decide) e_tape)
          have n242 : F219 3 = .int x_size := (SAME.at t226 (by decide) e_size)
          have n243 : F219 5 = .int x_limit := (SAME.at t226 (by decide) e_limit)
          refine call_Vi (wr := [(h_h, .inl (cI, 104, .inl f_h)), (h_names, .inl (cJ, 36, .inr (.inl f_names))), (h_reserved, .inl (cJ, 23, .inr (.inl f_reserved)))]) (As := [.int 1, .int 9]) (rest := []) hx hb hml hown hw (m_X10_takes l D cI cJ cB cP cM cZ h0 h_tape F219 x_size y220 x_limit y221 y222 y224 y225 f_tape 1 9 _ n241 n242 i_x_size t227 t228 n243 i_x_limit t229 t230 t231 t235 t236 (by omega)) wV_X10_242_X10_takes dX10_line0_286 hK hP hD hS hA [3, 4] [0, 1, 2] rfl rfl (by decide) (by decide) (by decide) 0 10 rfl rfl GG.fb hG.at hl.1 rfl (Nat.le_of_ble_eq_true rfl) ⟨(Nat.le_of_ble_eq_true rfl), (Nat.le_of_ble_eq_true rfl)⟩ ⟨(Nat.le_of_ble_eq_true rfl), (Nat.le_of_ble_eq_true rfl)⟩ (fun r244 u H locs hp hP hD hS => ?_)
          have zl1 : (1 : Int32).toInt = 1 := by decide
          have zl9 : (9 : Int32).toInt = 9 := by decide
          rcases hp with hp | hp
          · obtain ⟨F245, y246, t247, t248, t249, t250, t251, rfl, rfl⟩ := hp
            have hP : va_P D vwCl [(h_h, .inl (cI, 104, .inl f_h)), (h_names, .inl (cJ, 36, .inr (.inl f_names))), (h_reserved, .inl (cJ, 23, .inr (.inl f_reserved))), (h0, .inr (10, vL 67 F245)), (h_tape, .inl (cB, 940, .inl f_tape))] H := hP
            have hD : va_D A [(h_h, .inl (cI, 104, .inl f_h)), (h_names, .inl (cJ, 36, .inr (.inl f_names))), (h_reserved, .inl (cJ, 23, .inr (.inl f_reserved))), (h0, .inr (10, vL 67 F245)), (h_tape, .inl (cB, 940, .inl f_tape))] := hD
            refine W.widen (k := 0) (n := 0) (Nat.le_of_ble_eq_true rfl) (Nat.le_of_ble_eq_true rfl) ?_
            refine lv_if_ne (tgt := 294) hx hb dX10_line0_289 (by decide) (fun g => absurd (by decide) g) (fun _ => ?_)
            refine lv_iconst (v := 0) hx hb dX10_line0_292 (by decide) ?_
            exact ret_i (v := 0) hx hb hr hlocks hS (hP.sub (ws' := [(h0, .inr (10, vL 67 F245)), (h_tape, .inl (cB, 940, .inl f_tape)), (h_h, .inl (cI, 104, .inl f_h)), (h_names, .inl (cJ, 36, .inr (.inl f_names))), (h_reserved, .inl (cJ, 23, .inr (.inl f_reserved)))]) [3, 4, 0, 1, 2] rfl) (hD.sub (ws' := [(h0, .inr (10, vL 67 F245)), (h_tape, .inl (cB, 940, .inl f_tape)), (h_h, .inl (cI, 104, .inl f_h)), (h_names, .inl (cJ, 36, .inr (.inl f_names))), (h_reserved, .inl (cJ, 23, .inr (.inl f_reserved)))]) [3, 4, 0, 1, 2] (by decide) rfl) dX10_line0_293 rfl (Nat.le_of_ble_eq_true rfl) (Nat.le_of_ble_eq_true rfl) ⟨F245, y220, y221, y222, y223, y224, y246, y222, y225, x_got, x_onces, f_h, f_names, (SAME.tr (SAME.tr SAME.rf t226 (by decide)) t247 (by decide)), (SAME.at t247 (by decide) t227), t228, (SAME.at t247 (by decide) t229), t230, (SAME.at t247 (by decide) t231), (SAME.at t247 (by decide) t233), (SAME.at t247 (by decide) t235), t248, t250, (SAME.at t247 (by decide) t236), (SAME.at t247 (by decide) (SAME.at t226 (by decide) e_got)), (SAME.at t247 (by decide) (SAME.at t226 (by decide) e_onces)), s_h_0, s_h_5, s_h_6, s_h_7, s_h_44, (show 0 ≤ (0 : Int32).toInt ∧ (0 : Int32).toInt ≤ 1 by decide), (by have zl0 : (0 : Int32).toInt = 0 := (by decide); omega), (by omega), rfl⟩
          · refine hp.elim (fun F252 h9z => h9z.elim (fun y253 h9z => h9z.elim (fun y254 h9z => h9z.elim (fun y255 h9z => h9z.elim (fun y256 h9z => h9z.elim (fun y257 h9z => h9z.elim (fun y258 h9z => h9z.elim (fun y259 h9z => h9z.elim (fun t260 h9z => h9z.elim (fun t261 h9z => h9z.elim (fun t262 h9z => h9z.elim (fun t263 h9z => h9z.elim (fun t264 h9z => h9z.elim (fun t265 h9z => h9z.elim (fun t266 h9z => h9z.elim (fun t267 h9z => h9z.elim (fun t268 h9z => h9z.elim (fun t269 h9z => h9z.elim (fun t270 h9z => h9z.elim (fun t271 h9z => h9z.elim (fun t272 h9z => h9z.elim (fun t273 h9z => h9z.elim (fun t274 h9z => h9z.elim (fun t275 h9z => h9z.elim (fun t276 h9z => h9z.elim (fun heq925 h9z => ?_))))))))))))))))))))))))))
            subst heq925
            subst h9z
            have hP : va_P D vwCl [(h_h, .inl (cI, 104, .inl f_h)), (h_names, .inl (cJ, 36, .inr (.inl f_names))), (h_reserved, .inl (cJ, 23, .inr (.inl f_reserved))), (h0, .inr (10, vL 67 F252)), (h_tape, .inl (cB, 940, .inl f_tape))] H := hP
            have hD : va_D A [(h_h, .inl (cI, 104, .inl f_h)), (h_names, .inl (cJ, 36, .inr (.inl f_names))), (h_reserved, .inl (cJ, 23, .inr (.inl f_reserved))), (h0, .inr (10, vL 67 F252)), (h_tape, .inl (cB, 940, .inl f_tape))] := hD
            refine W.widen (k := 0) (n := 0) (Nat.le_of_ble_eq_true rfl) (Nat.le_of_ble_eq_true rfl) ?_
            have k278 : 2 ≤ y221.toInt ∧ y221.toInt ≤ 2 := ⟨Int.le_trans (Int.le_refl _) (Int.le_of_eq t272.symm), Int.le_trans (Int.le_of_eq t272) (Int.le_refl _)⟩
            have k279 : 1 ≤ y224.toInt ∧ y224.toInt ≤ 2147483647 := ⟨Int.le_trans (Int.le_refl _) t273, (ir_any _).2⟩
            have k280 : 1 ≤ y224.toInt ∧ y224.toInt ≤ 9 := ⟨k279.1, Int.le_trans t274 (Int.le_refl _)⟩
            refine lv_if_ne (tgt := 294) hx hb dX10_line0_289 (by decide) (fun _ => ?_) (fun g => absurd g (by decide))
            refine lv_aload_n hx hb dX10_line0_294 rfl (lv_at hl 2 rfl) ?_
            have n281 : F219 7 = .ref h_h := (SAME.at t226 (by decide) e_h)
            have n282 : F252 7 = .ref h_h := (SAME.at t260 (by decide) n281)
            refine get_f (D := D) (ci := 10) (v := .ref h_h) (C := RX10) (T := TX10) (N := 67) hx hb hw inAX10 hown hK hP 3 rfl rfl 7 (by decide) (hw _ q_1268) (fun _ h9 => h9) n282 dX10_line0_295 ?_
            refine lv_bipush (v := 44) hx hb dX10_line0_298 (by decide) ?_
            refine lv_iload_n hx hb dX10_line0_300 rfl (lv_at hl 0 rfl) ?_
            refine lv_iadd hx hb dX10_line0_301 ?_
            refine lv_topi (fun v283 ev283 => ?_)
            have bv283 : v283.toInt = 44 + v214.toInt := by rw [ev283]; exact add_k rfl rfl ⟨Int.le_refl _, Int.le_refl _⟩ k217 (by decide)
            have k284 : 44 ≤ v283.toInt ∧ v283.toInt ≤ 55 := add_r bv283 ⟨Int.le_refl _, Int.le_refl _⟩ k217 (by decide)
            refine lv_aload_n hx hb dX10_line0_302 rfl (lv_at hl 2 rfl) ?_
            refine get_f (D := D) (ci := 10) (v := .int y259) (C := RX10) (T := TX10) (N := 67) hx hb hw inAX10 hown hK hP 3 rfl rfl 19 (by decide) (hw _ q_1280) (fun _ h9 => h9) t271 dX10_line0_303 ?_
            obtain ⟨g285, eg285⟩ : ∃ z : Nat → Int32, upd f_h v283.toNatClampNeg y259 = z := ⟨_, rfl⟩
            have r286 : SG 0 0 0 40 g285 := by rw [← eg285]; exact s_h_0.up (Int.le_trans (by decide) k284.1) (Or.inr (Or.inl (dec_lt k284.1 (by decide))))
            have r287 : SG 44 55 0 9 g285 := by rw [← eg285]; exact s_h_44.up (Int.le_trans (by decide) k284.1) (by omega)
            have r288 : SG 5 5 0 12 g285 := by rw [← eg285]; exact s_h_5.up (Int.le_trans (by decide) k284.1) (Or.inr (Or.inl (dec_lt k284.1 (by decide))))
            have r289 : SG 6 6 0 12 g285 := by rw [← eg285]; exact s_h_6.up (Int.le_trans (by decide) k284.1) (Or.inr (Or.inl (dec_lt k284.1 (by decide))))
            have r290 : SG 7 7 0 6 g285 := by rw [← eg285]; exact s_h_7.up (Int.le_trans (by decide) k284.1) (Or.inr (Or.inl (dec_lt k284.1 (by decide))))
            refine iast_g hx hb hK hP hD hS 0 0 rfl rfl (ix_k k284 (by decide) (by decide)) eg285 dX10_line0_306 (fun H locs hP hD hS => ?_)
            have hP : va_P D vwCl [(h_h, .inl (cI, 104, .inl g285)), (h_names, .inl (cJ, 36, .inr (.inl f_names))), (h_reserved, .inl (cJ, 23, .inr (.inl f_reserved))), (h0, .inr (10, vL 67 F252)), (h_tape, .inl (cB, 940, .inl f_tape))] H := hP
            have hD : va_D A [(h_h, .inl (cI, 104, .inl g285)), (h_names, .inl (cJ, 36, .inr (.inl f_names))), (h_reserved, .inl (cJ, 23, .inr (.inl f_reserved))), (h0, .inr (10, vL 67 F252)), (h_tape, .inl (cB, 940, .inl f_tape))] := hD
            refine lv_aload_n hx hb dX10_line0_307 rfl (lv_at hl 2 rfl) ?_
            refine lv_iconst (v := 0) hx hb dX10_line0_308 (by decide) ?_
            refine lv_bipush (v := 9) hx hb dX10_line0_309 (by decide) ?_
            have n291 : F252 1 = .ref h_tape := (SAME.at t260 (by decide) n241)
            have n292 : F252 3 = .int x_size := (SAME.at t260 (by decide) n242)
            have n293 : F252 5 = .int x_limit := (SAME.at t260 (by decide) n243)
            refine call_Vi (wr := [(h_h, .inl (cI, 104, .inl g285)), (h_names, .inl (cJ, 36, .inr (.inl f_names))), (h_reserved, .inl (cJ, 23, .inr (.inl f_reserved)))]) (As := [.int 0, .int 9]) (rest := []) hx hb hml hown hw (m_X10_takes l D cI cJ cB cP cM cZ h0 h_tape F252 x_size y253 x_limit y254 y255 y257 y258 f_tape 0 9 _ n291 n292 i_x_size t261 t262 n293 i_x_limit t263 t264 t265 t269 t270 (by omega)) wV_X10_242_X10_takes dX10_line0_311 hK hP hD hS hA [3, 4] [0, 1, 2] rfl rfl (by decide) (by decide) (by decide) 0 10 rfl rfl GG.fb hG.at hl.1 rfl (Nat.le_of_ble_eq_true rfl) ⟨(Nat.le_of_ble_eq_true rfl), (Nat.le_of_ble_eq_true rfl)⟩ ⟨(Nat.le_of_ble_eq_true rfl), (Nat.le_of_ble_eq_true rfl)⟩ (fun r294 u H locs hp hP hD hS => ?_)
            have zl0 : (0 : Int32).toInt = 0 := by decide
            rcases hp with hp | hp
            · obtain ⟨F295, y296, t297, t298, t299, t300, t301, rfl, rfl⟩ := hp
              have hP : va_P D vwCl [(h_h, .inl (cI, 104, .inl g285)), (h_names, .inl (cJ, 36, .inr (.inl f_names))), (h_reserved, .inl (cJ, 23, .inr (.inl f_reserved))), (h0, .inr (10, vL 67 F295)), (h_tape, .inl (cB, 940, .inl f_tape))] H := hP
              have hD : va_D A [(h_h, .inl (cI, 104, .inl g285)), (h_names, .inl (cJ, 36, .inr (.inl f_names))), (h_reserved, .inl (cJ, 23, .inr (.inl f_reserved))), (h0, .inr (10, vL 67 F295)), (h_tape, .inl (cB, 940, .inl f_tape))] := hD
              refine W.widen (k := 0) (n := 0) (Nat.le_of_ble_eq_true rfl) (Nat.le_of_ble_eq_true rfl) ?_
              refine lv_if_ne (tgt := 319) hx hb dX10_line0_314 (by decide) (fun g => absurd (by decide) g) (fun _ => ?_)
              refine lv_iconst (v := 0) hx hb dX10_line0_317 (by decide) ?_
              exact ret_i (v := 0) hx hb hr hlocks hS (hP.sub (ws' := [(h0, .inr (10, vL 67 F295)), (h_tape, .inl (cB, 940, .inl f_tape)), (h_h, .inl (cI, 104, .inl g285)), (h_names, .inl (cJ, 36, .inr (.inl f_names))), (h_reserved, .inl (cJ, 23, .inr (.inl f_reserved)))]) [3, 4, 0, 1, 2] rfl) (hD.sub (ws' := [(h0, .inr (10, vL 67 F295)), (h_tape, .inl (cB, 940, .inl f_tape)), (h_h, .inl (cI, 104, .inl g285)), (h_names, .inl (cJ, 36, .inr (.inl f_names))), (h_reserved, .inl (cJ, 23, .inr (.inl f_reserved)))]) [3, 4, 0, 1, 2] (by decide) rfl) dX10_line0_318 rfl (Nat.le_of_ble_eq_true rfl) (Nat.le_of_ble_eq_true rfl) ⟨F295, y253, y254, y255, y256, y257, y296, y255, y258, y259, x_onces, g285, f_names, (SAME.tr (SAME.tr (SAME.tr SAME.rf t226 (by decide)) t260 (by decide)) t297 (by decide)), (SAME.at t297 (by decide) t261), t262, (SAME.at t297 (by decide) t263), t264, (SAME.at t297 (by decide) t265), (SAME.at t297 (by decide) t267), (SAME.at t297 (by decide) t269), t298, t300, (SAME.at t297 (by decide) t270), (SAME.at t297 (by decide) t271), (SAME.at t297 (by decide) (SAME.at t260 (by decide) (SAME.at t226 (by decide) e_onces))), r286, r288, r289, r290, r287, (show 0 ≤ (0 : Int32).toInt ∧ (0 : Int32).toInt ≤ 1 by decide), (by have zl0 : (0 : Int32).toInt = 0 := (by decide); omega), (by omega), rfl⟩
            · refine hp.elim (fun F302 h9z => h9z.elim (fun y303 h9z => h9z.elim (fun y304 h9z => h9z.elim (fun y305 h9z => h9z.elim (fun y306 h9z => h9z.elim (fun y307 h9z => h9z.elim (fun y308 h9z => h9z.elim (fun y309 h9z => h9z.elim (fun t310 h9z => h9z.elim (fun t311 h9z => h9z.elim (fun t312 h9z => h9z.elim (fun t313 h9z => h9z.elim (fun t314 h9z => h9z.elim (fun t315 h9z => h9z.elim (fun t316 h9z => h9z.elim (fun t317 h9z => h9z.elim (fun t318 h9z => h9z.elim (fun t319 h9z => h9z.elim (fun t320 h9z => h9z.elim (fun t321 h9z => h9z.elim (fun t322 h9z => h9z.elim (fun t323 h9z => h9z.elim (fun t324 h9z => h9z.elim (fun t325 h9z => h9z.elim (fun t326 h9z => h9z.elim (fun heq925 h9z => ?_))))))))))))))))))))))))))
              subst heq925
              subst h9z
              have hP : va_P D vwCl [(h_h, .inl (cI, 104, .inl g285)), (h_names, .inl (cJ, 36, .inr (.inl f_names))), (h_reserved, .inl (cJ, 23, .inr (.inl f_reserved))), (h0, .inr (10, vL 67 F302)), (h_tape, .inl (cB, 940, .inl f_tape))] H := hP
              have hD : va_D A [(h_h, .inl (cI, 104, .inl g285)), (h_names, .inl (cJ, 36, .inr (.inl f_names))), (h_reserved, .inl (cJ, 23, .inr (.inl f_reserved))), (h0, .inr (10, vL 67 F302)), (h_tape, .inl (cB, 940, .inl f_tape))] := hD
              refine W.widen (k := 0) (n := 0) (Nat.le_of_ble_eq_true rfl) (Nat.le_of_ble_eq_true rfl) ?_
              have k328 : 2 ≤ y254.toInt ∧ y254.toInt ≤ 2 := ⟨Int.le_trans (Int.le_refl _) (Int.le_of_eq t322.symm), Int.le_trans (Int.le_of_eq t322) (Int.le_refl _)⟩
              have k329 : 0 ≤ y257.toInt ∧ y257.toInt ≤ 2147483647 := ⟨Int.le_trans (Int.le_refl _) t323, (ir_any _).2⟩
              have k330 : 0 ≤ y257.toInt ∧ y257.toInt ≤ 9 := ⟨k329.1, Int.le_trans t324 (Int.le_refl _)⟩
              refine lv_if_ne (tgt := 319) hx hb dX10_line0_314 (by decide) (fun _ => ?_) (fun g => absurd g (by decide))
              refine lv_aload_n hx hb dX10_line0_319 rfl (lv_at hl 2 rfl) ?_
              have n331 : F302 7 = .ref h_h := (SAME.at t310 (by decide) n282)
              refine get_f (D := D) (ci := 10) (v := .ref h_h) (C := RX10) (T := TX10) (N := 67) hx hb hw inAX10 hown hK hP 3 rfl rfl 7 (by decide) (hw _ q_1268) (fun _ h9 => h9) n331 dX10_line0_320 ?_
              refine lv_bipush (v := 56) hx hb dX10_line0_323 (by decide) ?_
              refine lv_iload_n hx hb dX10_line0_325 rfl (lv_at hl 0 rfl) ?_
              refine lv_iadd hx hb dX10_line0_326 ?_
              refine lv_topi (fun v332 ev332 => ?_)
              have bv332 : v332.toInt = 56 + v214.toInt := by rw [ev332]; exact add_k rfl rfl ⟨Int.le_refl _, Int.le_refl _⟩ k217 (by decide)
              have k333 : 56 ≤ v332.toInt ∧ v332.toInt ≤ 67 := add_r bv332 ⟨Int.le_refl _, Int.le_refl _⟩ k217 (by decide)
              refine lv_aload_n hx hb dX10_line0_327 rfl (lv_at hl 2 rfl) ?_
              refine get_f (D := D) (ci := 10) (v := .int y309) (C := RX10) (T := TX10) (N := 67) hx hb hw inAX10 hown hK hP 3 rfl rfl 19 (by decide) (hw _ q_1280) (fun _ h9 => h9) t321 dX10_line0_328 ?_
              obtain ⟨g334, eg334⟩ : ∃ z : Nat → Int32, upd g285 v332.toNatClampNeg y309 = z := ⟨_, rfl⟩
              have r335 : SG 0 0 0 40 g334 := by rw [← eg334]; exact r286.up (Int.le_trans (by decide) k333.1) (Or.inr (Or.inl (dec_lt k333.1 (by decide))))
              have r336 : SG 44 55 0 9 g334 := by rw [← eg334]; exact r287.up (Int.le_trans (by decide) k333.1) (Or.inr (Or.inl (dec_lt k333.1 (by decide))))
              have r337 : SG 5 5 0 12 g334 := by rw [← eg334]; exact r288.up (Int.le_trans (by decide) k333.1) (Or.inr (Or.inl (dec_lt k333.1 (by decide))))
              have r338 : SG 6 6 0 12 g334 := by rw [← eg334]; exact r289.up (Int.le_trans (by decide) k333.1) (Or.inr (Or.inl (dec_lt k333.1 (by decide))))
              have r339 : SG 7 7 0 6 g334 := by rw [← eg334]; exact r290.up (Int.le_trans (by decide) k333.1) (Or.inr (Or.inl (dec_lt k333.1 (by decide))))
              refine iast_g hx hb hK hP hD hS 0 0 rfl rfl (ix_k k333 (by decide) (by decide)) eg334 dX10_line0_331 (fun H locs hP hD hS => ?_)
              have hP : va_P D vwCl [(h_h, .inl (cI, 104, .inl g334)), (h_names, .inl (cJ, 36, .inr (.inl f_names))), (h_reserved, .inl (cJ, 23, .inr (.inl f_reserved))), (h0, .inr (10, vL 67 F302)), (h_tape, .inl (cB, 940, .inl f_tape))] H := hP
              have hD : va_D A [(h_h, .inl (cI, 104, .inl g334)), (h_names, .inl (cJ, 36, .inr (.inl f_names))), (h_reserved, .inl (cJ, 23, .inr (.inl f_reserved))), (h0, .inr (10, vL 67 F302)), (h_tape, .inl (cB, 940, .inl f_tape))] := hD
              refine lv_aload_n hx hb dX10_line0_332 rfl (lv_at hl 2 rfl) ?_
              refine lv_iconst (v := 0) hx hb dX10_line0_333 (by decide) ?_
              refine lv_bipush (v := 9) hx hb dX10_line0_334 (by decide) ?_
              have n340 : F302 1 = .ref h_tape := (SAME.at t310 (by decide) n291)
              have n341 : F302 3 = .int x_size := (SAME.at t310 (by decide) n292)
              have n342 : F302 5 = .int x_limit := (SAME.at t310 (by decide) n293)
              refine call_Vi (wr := [(h_h, .inl (cI, 104, .inl g334)), (h_names, .inl (cJ, 36, .inr (.inl f_names))), (h_reserved, .inl (cJ, 23, .inr (.inl f_reserved)))]) (As := [.int 0, .int 9]) (rest := []) hx hb hml hown hw (m_X10_takes l D cI cJ cB cP cM cZ h0 h_tape F302 x_size y303 x_limit y304 y305 y307 y308 f_tape 0 9 _ n340 n341 i_x_size t311 t312 n342 i_x_limit t313 t314 t315 t319 t320 (by omega)) wV_X10_242_X10_takes dX10_line0_336 hK hP hD hS hA [3, 4] [0, 1, 2] rfl rfl (by decide) (by decide) (by decide) 0 10 rfl rfl GG.fb hG.at hl.1 rfl (Nat.le_of_ble_eq_true rfl) ⟨(Nat.le_of_ble_eq_true rfl), (Nat.le_of_ble_eq_true rfl)⟩ ⟨(Nat.le_of_ble_eq_true rfl), (Nat.le_of_ble_eq_true rfl)⟩ (fun r343 u H locs hp hP hD hS => ?_)
              rcases hp with hp | hp
              · obtain ⟨F344, y345, t346, t347, t348, t349, t350, rfl, rfl⟩ := hp
                have hP : va_P D vwCl [(h_h, .inl (cI, 104, .inl g334)), (h_names, .inl (cJ, 36, .inr (.inl f_names))), (h_reserved, .inl (cJ, 23, .inr (.inl f_reserved))), (h0, .inr (10, vL 67 F344)), (h_tape, .inl (cB, 940, .inl f_tape))] H := hP
                have hD : va_D A [(h_h, .inl (cI, 104, .inl g334)), (h_names, .inl (cJ, 36, .inr (.inl f_names))), (h_reserved, .inl (cJ, 23, .inr (.inl f_reserved))), (h0, .inr (10, vL 67 F344)), (h_tape, .inl (cB, 940, .inl f_tape))] := hD
                refine W.widen (k := 0) (n := 0) (Nat.le_of_ble_eq_true rfl) (Nat.le_of_ble_eq_true rfl) ?_
                refine lv_if_ne (tgt := 344) hx hb dX10_line0_339 (by decide) (fun g => absurd (by decide) g) (fun _ => ?_)
                refine lv_iconst (v := 0) hx hb dX10_line0_342 (by decide) ?_
                exact ret_i (v := 0) hx hb hr hlocks hS (hP.sub (ws' := [(h0, .inr (10, vL 67 F344)), (h_tape, .inl (cB, 940, .inl f_tape)), (h_h, .inl (cI, 104, .inl g334)), (h_names, .inl (cJ, 36, .inr (.inl f_names))), (h_reserved, .inl (cJ, 23, .inr (.inl f_reserved)))]) [3, 4, 0, 1, 2] rfl) (hD.sub (ws' := [(h0, .inr (10, vL 67 F344)), (h_tape, .inl (cB, 940, .inl f_tape)), (h_h, .inl (cI, 104, .inl g334)), (h_names, .inl (cJ, 36, .inr (.inl f_names))), (h_reserved, .inl (cJ, 23, .inr (.inl f_reserved)))]) [3, 4, 0, 1, 2] (by decide) rfl) dX10_line0_343 rfl (Nat.le_of_ble_eq_true rfl) (Nat.le_of_ble_eq_true rfl) ⟨F344, y303, y304, y305, y306, y307, y345, y305, y308, y309, x_onces, g334, f_names, (SAME.tr (SAME.tr (SAME.tr (SAME.tr SAME.rf t226 (by decide)) t260 (by decide)) t310 (by decide)) t346 (by decide)), (SAME.at t346 (by decide) t311), t312, (SAME.at t346 (by decide) t313), t314, (SAME.at t346 (by decide) t315), (SAME.at t346 (by decide) t317), (SAME.at t346 (by decide) t319), t347, t349, (SAME.at t346 (by decide) t320), (SAME.at t346 (by decide) t321), (SAME.at t346 (by decide) (SAME.at t310 (by decide) (SAME.at t260 (by decide) (SAME.at t226 (by decide) e_onces)))), r335, r337, r338, r339, r336, (show 0 ≤ (0 : Int32).toInt ∧ (0 : Int32).toInt ≤ 1 by decide), (by have zl0 : (0 : Int32).toInt = 0 := (by decide); omega), (by omega), rfl⟩
              · refine hp.elim (fun F351 h9z => h9z.elim (fun y352 h9z => h9z.elim (fun y353 h9z => h9z.elim (fun y354 h9z => h9z.elim (fun y355 h9z => h9z.elim (fun y356 h9z => h9z.elim (fun y357 h9z => h9z.elim (fun y358 h9z => h9z.elim (fun t359 h9z => h9z.elim (fun t360 h9z => h9z.elim (fun t361 h9z => h9z.elim (fun t362 h9z => h9z.elim (fun t363 h9z => h9z.elim (fun t364 h9z => h9z.elim (fun t365 h9z => h9z.elim (fun t366 h9z => h9z.elim (fun t367 h9z => h9z.elim (fun t368 h9z => h9z.elim (fun t369 h9z => h9z.elim (fun t370 h9z => h9z.elim (fun t371 h9z => h9z.elim (fun t372 h9z => h9z.elim (fun t373 h9z => h9z.elim (fun t374 h9z => h9z.elim (fun t375 h9z => h9z.elim (fun heq925 h9z => ?_))))))))))))))))))))))))))
                subst heq925
                subst h9z
                have hP : va_P D vwCl [(h_h, .inl (cI, 104, .inl g334)), (h_names, .inl (cJ, 36, .inr (.inl f_names))), (h_reserved, .inl (cJ, 23, .inr (.inl f_reserved))), (h0, .inr (10, vL 67 F351)), (h_tape, .inl (cB, 940, .inl f_tape))] H := hP
                have hD : va_D A [(h_h, .inl (cI, 104, .inl g334)), (h_names, .inl (cJ, 36, .inr (.inl f_names))), (h_reserved, .inl (cJ, 23, .inr (.inl f_reserved))), (h0, .inr (10, vL 67 F351)), (h_tape, .inl (cB, 940, .inl f_tape))] := hD
                refine W.widen (k := 0) (n := 0) (Nat.le_of_ble_eq_true rfl) (Nat.le_of_ble_eq_true rfl) ?_
                have k377 : 2 ≤ y304.toInt ∧ y304.toInt ≤ 2 := ⟨Int.le_trans (Int.le_refl _) (Int.le_of_eq t371.symm), Int.le_trans (Int.le_of_eq t371) (Int.le_refl _)⟩
                have k378 : 0 ≤ y307.toInt ∧ y307.toInt ≤ 2147483647 := ⟨Int.le_trans (Int.le_refl _) t372, (ir_any _).2⟩
                have k379 : 0 ≤ y307.toInt ∧ y307.toInt ≤ 9 := ⟨k378.1, Int.le_trans t373 (Int.le_refl _)⟩
                refine lv_if_ne (tgt := 344) hx hb dX10_line0_339 (by decide) (fun _ => ?_) (fun g => absurd g (by decide))
                refine lv_aload_n hx hb dX10_line0_344 rfl (lv_at hl 2 rfl) ?_
                have n380 : F351 7 = .ref h_h := (SAME.at t359 (by decide) n331)
                refine get_f (D := D) (ci := 10) (v := .ref h_h) (C := RX10) (T := TX10) (N := 67) hx hb hw inAX10 hown hK hP 3 rfl rfl 7 (by decide) (hw _ q_1268) (fun _ h9 => h9) n380 dX10_line0_345 ?_
                refine lv_bipush (v := 68) hx hb dX10_line0_348 (by decide) ?_
                refine lv_iload_n hx hb dX10_line0_350 rfl (lv_at hl 0 rfl) ?_
                refine lv_iadd hx hb dX10_line0_351 ?_
                refine lv_topi (fun v381 ev381 => ?_)
                have bv381 : v381.toInt = 68 + v214.toInt := by rw [ev381]; exact add_k rfl rfl ⟨Int.le_refl _, Int.le_refl _⟩ k217 (by decide)
                have k382 : 68 ≤ v381.toInt ∧ v381.toInt ≤ 79 := add_r bv381 ⟨Int.le_refl _, Int.le_refl _⟩ k217 (by decide)
                refine lv_aload_n hx hb dX10_line0_352 rfl (lv_at hl 2 rfl) ?_
                refine get_f (D := D) (ci := 10) (v := .int y358) (C := RX10) (T := TX10) (N := 67) hx hb hw inAX10 hown hK hP 3 rfl rfl 19 (by decide) (hw _ q_1280) (fun _ h9 => h9) t370 dX10_line0_353 ?_
                obtain ⟨g383, eg383⟩ : ∃ z : Nat → Int32, upd g334 v381.toNatClampNeg y358 = z := ⟨_, rfl⟩
                have r384 : SG 0 0 0 40 g383 := by rw [← eg383]; exact r335.up (Int.le_trans (by decide) k382.1) (Or.inr (Or.inl (dec_lt k382.1 (by decide))))
                have r385 : SG 44 55 0 9 g383 := by rw [← eg383]; exact r336.up (Int.le_trans (by decide) k382.1) (Or.inr (Or.inl (dec_lt k382.1 (by decide))))
                have r386 : SG 5 5 0 12 g383 := by rw [← eg383]; exact r337.up (Int.le_trans (by decide) k382.1) (Or.inr (Or.inl (dec_lt k382.1 (by decide))))
                have r387 : SG 6 6 0 12 g383 := by rw [← eg383]; exact r338.up (Int.le_trans (by decide) k382.1) (Or.inr (Or.inl (dec_lt k382.1 (by decide))))
                have r388 : SG 7 7 0 6 g383 := by rw [← eg383]; exact r339.up (Int.le_trans (by decide) k382.1) (Or.inr (Or.inl (dec_lt k382.1 (by decide))))
                refine iast_g hx hb hK hP hD hS 0 0 rfl rfl (ix_k k382 (by decide) (by decide)) eg383 dX10_line0_356 (fun H locs hP hD hS => ?_)
                have hP : va_P D vwCl [(h_h, .inl (cI, 104, .inl g383)), (h_names, .inl (cJ, 36, .inr (.inl f_names))), (h_reserved, .inl (cJ, 23, .inr (.inl f_reserved))), (h0, .inr (10, vL 67 F351)), (h_tape, .inl (cB, 940, .inl f_tape))] H := hP
                have hD : va_D A [(h_h, .inl (cI, 104, .inl g383)), (h_names, .inl (cJ, 36, .inr (.inl f_names))), (h_reserved, .inl (cJ, 23, .inr (.inl f_reserved))), (h0, .inr (10, vL 67 F351)), (h_tape, .inl (cB, 940, .inl f_tape))] := hD
                refine lv_aload_n hx hb dX10_line0_357 rfl (lv_at hl 2 rfl) ?_
                refine lv_iconst (v := 1) hx hb dX10_line0_358 (by decide) ?_
                refine lv_bipush (v := 99) hx hb dX10_line0_359 (by decide) ?_
                have n389 : F351 1 = .ref h_tape := (SAME.at t359 (by decide) n340)
                have n390 : F351 3 = .int x_size := (SAME.at t359 (by decide) n341)
                have n391 : F351 5 = .int x_limit := (SAME.at t359 (by decide) n342)
                refine call_Vi (wr := [(h_h, .inl (cI, 104, .inl g383)), (h_names, .inl (cJ, 36, .inr (.inl f_names))), (h_reserved, .inl (cJ, 23, .inr (.inl f_reserved)))]) (As := [.int 1, .int 99]) (rest := []) hx hb hml hown hw (m_X10_takes l D cI cJ cB cP cM cZ h0 h_tape F351 x_size y352 x_limit y353 y354 y356 y357 f_tape 1 99 _ n389 n390 i_x_size t360 t361 n391 i_x_limit t362 t363 t364 t368 t369 (by omega)) wV_X10_242_X10_takes dX10_line0_361 hK hP hD hS hA [3, 4] [0, 1, 2] rfl rfl (by decide) (by decide) (by decide) 0 10 rfl rfl GG.fb hG.at hl.1 rfl (Nat.le_of_ble_eq_true rfl) ⟨(Nat.le_of_ble_eq_true rfl), (Nat.le_of_ble_eq_true rfl)⟩ ⟨(Nat.le_of_ble_eq_true rfl), (Nat.le_of_ble_eq_true rfl)⟩ (fun r392 u H locs hp hP hD hS => ?_)
                have zl99 : (99 : Int32).toInt = 99 := by decide
                rcases hp with hp | hp
                · obtain ⟨F393, y394, t395, t396, t397, t398, t399, rfl, rfl⟩ := hp
                  have hP : va_P D vwCl [(h_h, .inl (cI, 104, .inl g383)), (h_names, .inl (cJ, 36, .inr (.inl f_names))), (h_reserved, .inl (cJ, 23, .inr (.inl f_reserved))), (h0, .inr (10, vL 67 F393)), (h_tape, .inl (cB, 940, .inl f_tape))] H := hP
                  have hD : va_D A [(h_h, .inl (cI, 104, .inl g383)), (h_names, .inl (cJ, 36, .inr (.inl f_names))), (h_reserved, .inl (cJ, 23, .inr (.inl f_reserved))), (h0, .inr (10, vL 67 F393)), (h_tape, .inl (cB, 940, .inl f_tape))] := hD
                  refine W.widen (k := 0) (n := 0) (Nat.le_of_ble_eq_true rfl) (Nat.le_of_ble_eq_true rfl) ?_
                  refine lv_if_ne (tgt := 369) hx hb dX10_line0_364 (by decide) (fun g => absurd (by decide) g) (fun _ => ?_)
                  refine lv_iconst (v := 0) hx hb dX10_line0_367 (by decide) ?_
                  exact ret_i (v := 0) hx hb hr hlocks hS (hP.sub (ws' := [(h0, .inr (10, vL 67 F393)), (h_tape, .inl (cB, 940, .inl f_tape)), (h_h, .inl (cI, 104, .inl g383)), (h_names, .inl (cJ, 36, .inr (.inl f_names))), (h_reserved, .inl (cJ, 23, .inr (.inl f_reserved)))]) [3, 4, 0, 1, 2] rfl) (hD.sub (ws' := [(h0, .inr (10, vL 67 F393)), (h_tape, .inl (cB, 940, .inl f_tape)), (h_h, .inl (cI, 104, .inl g383)), (h_names, .inl (cJ, 36, .inr (.inl f_names))), (h_reserved, .inl (cJ, 23, .inr (.inl f_reserved)))]) [3, 4, 0, 1, 2] (by decide) rfl) dX10_line0_368 rfl (Nat.le_of_ble_eq_true rfl) (Nat.le_of_ble_eq_true rfl) ⟨F393, y352, y353, y354, y355, y356, y394, y354, y357, y358, x_onces, g383, f_names, (SAME.tr (SAME.tr (SAME.tr (SAME.tr (SAME.tr SAME.rf t226 (by decide)) t260 (by decide)) t310 (by decide)) t359 (by decide)) t395 (by decide)), (SAME.at t395 (by decide) t360), t361, (SAME.at t395 (by decide) t362), t363, (SAME.at t395 (by decide) t364), (SAME.at t395 (by decide) t366), (SAME.at t395 (by decide) t368), t396, t398, (SAME.at t395 (by decide) t369), (SAME.at t395 (by decide) t370), (SAME.at t395 (by decide) (SAME.at t359 (by decide) (SAME.at t310 (by decide) (SAME.at t260 (by decide) (SAME.at t226 (by decide) e_onces))))), r384, r386, r387, r388, r385, (show 0 ≤ (0 : Int32).toInt ∧ (0 : Int32).toInt ≤ 1 by decide), (by have zl0 : (0 : Int32).toInt = 0 := (by decide); omega), (by omega), rfl⟩
                · refine hp.elim (fun F400 h9z => h9z.elim (fun y401 h9z => h9z.elim (fun y402 h9z => h9z.elim (fun y403 h9z => h9z.elim (fun y404 h9z => h9z.elim (fun y405 h9z => h9z.elim (fun y406 h9z => h9z.elim (fun y407 h9z => h9z.elim (fun t408 h9z => h9z.elim (fun t409 h9z => h9z.elim (fun t410 h9z => h9z.elim (fun t411 h9z => h9z.elim (fun t412 h9z => h9z.elim (fun t413 h9z => h9z.elim (fun t414 h9z => h9z.elim (fun t415 h9z => h9z.elim (fun t416 h9z => h9z.elim (fun t417 h9z => h9z.elim (fun t418 h9z => h9z.elim (fun t419 h9z => h9z.elim (fun t420 h9z => h9z.elim (fun t421 h9z => h9z.elim (fun t422 h9z => h9z.elim (fun t423 h9z => h9z.elim (fun t424 h9z => h9z.elim (fun heq925 h9z => ?_))))))))))))))))))))))))))
                  subst heq925
                  subst h9z
                  have hP : va_P D vwCl [(h_h, .inl (cI, 104, .inl g383)), (h_names, .inl (cJ, 36, .inr (.inl f_names))), (h_reserved, .inl (cJ, 23, .inr (.inl f_reserved))), (h0, .inr (10, vL 67 F400)), (h_tape, .inl (cB, 940, .inl f_tape))] H := hP
                  have hD : va_D A [(h_h, .inl (cI, 104, .inl g383)), (h_names, .inl (cJ, 36, .inr (.inl f_names))), (h_reserved, .inl (cJ, 23, .inr (.inl f_reserved))), (h0, .inr (10, vL 67 F400)), (h_tape, .inl (cB, 940, .inl f_tape))] := hD
                  refine W.widen (k := 0) (n := 0) (Nat.le_of_ble_eq_true rfl) (Nat.le_of_ble_eq_true rfl) ?_
                  have k426 : 2 ≤ y353.toInt ∧ y353.toInt ≤ 2 := ⟨Int.le_trans (Int.le_refl _) (Int.le_of_eq t420.symm), Int.le_trans (Int.le_of_eq t420) (Int.le_refl _)⟩
                  have k427 : 1 ≤ y356.toInt ∧ y356.toInt ≤ 2147483647 := ⟨Int.le_trans (Int.le_refl _) t421, (ir_any _).2⟩
                  have k428 : 1 ≤ y356.toInt ∧ y356.toInt ≤ 99 := ⟨k427.1, Int.le_trans t422 (Int.le_refl _)⟩
                  refine lv_if_ne (tgt := 369) hx hb dX10_line0_364 (by decide) (fun _ => ?_) (fun g => absurd g (by decide))
                  refine lv_aload_n hx hb dX10_line0_369 rfl (lv_at hl 2 rfl) ?_
                  have n429 : F400 7 = .ref h_h := (SAME.at t408 (by decide) n380)
                  refine get_f (D := D) (ci := 10) (v := .ref h_h) (C := RX10) (T := TX10) (N := 67) hx hb hw inAX10 hown hK hP 3 rfl rfl 7 (by decide) (hw _ q_1268) (fun _ h9 => h9) n429 dX10_line0_370 ?_
                  refine lv_bipush (v := 80) hx hb dX10_line0_373 (by decide) ?_
                  refine lv_iload_n hx hb dX10_line0_375 rfl (lv_at hl 0 rfl) ?_
                  refine lv_iadd hx hb dX10_line0_376 ?_
                  refine lv_topi (fun v430 ev430 => ?_)
                  have bv430 : v430.toInt = 80 + v214.toInt := by rw [ev430]; exact add_k rfl rfl ⟨Int.le_refl _, Int.le_refl _⟩ k217 (by decide)
                  have k431 : 80 ≤ v430.toInt ∧ v430.toInt ≤ 91 := add_r bv430 ⟨Int.le_refl _, Int.le_refl _⟩ k217 (by decide)
                  refine lv_aload_n hx hb dX10_line0_377 rfl (lv_at hl 2 rfl) ?_
                  refine get_f (D := D) (ci := 10) (v := .int y407) (C := RX10) (T := TX10) (N := 67) hx hb hw inAX10 hown hK hP 3 rfl rfl 19 (by decide) (hw _ q_1280) (fun _ h9 => h9) t419 dX10_line0_378 ?_
                  obtain ⟨g432, eg432⟩ : ∃ z : Nat → Int32, upd g383 v430.toNatClampNeg y407 = z := ⟨_, rfl⟩
                  have r433 : SG 0 0 0 40 g432 := by rw [← eg432]; exact r384.up (Int.le_trans (by decide) k431.1) (Or.inr (Or.inl (dec_lt k431.1 (by decide))))
                  have r434 : SG 44 55 0 9 g432 := by rw [← eg432]; exact r385.up (Int.le_trans (by decide) k431.1) (Or.inr (Or.inl (dec_lt k431.1 (by decide))))
                  have r435 : SG 5 5 0 12 g432 := by rw [← eg432]; exact r386.up (Int.le_trans (by decide) k431.1) (Or.inr (Or.inl (dec_lt k431.1 (by decide))))
                  have r436 : SG 6 6 0 12 g432 := by rw [← eg432]; exact r387.up (Int.le_trans (by decide) k431.1) (Or.inr (Or.inl (dec_lt k431.1 (by decide))))
                  have r437 : SG 7 7 0 6 g432 := by rw [← eg432]; exact r388.up (Int.le_trans (by decide) k431.1) (Or.inr (Or.inl (dec_lt k431.1 (by decide))))
                  refine iast_g hx hb hK hP hD hS 0 0 rfl rfl (ix_k k431 (by decide) (by decide)) eg432 dX10_line0_381 (fun H locs hP hD hS => ?_)
                  have hP : va_P D vwCl [(h_h, .inl (cI, 104, .inl g432)), (h_names, .inl (cJ, 36, .inr (.inl f_names))), (h_reserved, .inl (cJ, 23, .inr (.inl f_reserved))), (h0, .inr (10, vL 67 F400)), (h_tape, .inl (cB, 940, .inl f_tape))] H := hP
                  have hD : va_D A [(h_h, .inl (cI, 104, .inl g432)), (h_names, .inl (cJ, 36, .inr (.inl f_names))), (h_reserved, .inl (cJ, 23, .inr (.inl f_reserved))), (h0, .inr (10, vL 67 F400)), (h_tape, .inl (cB, 940, .inl f_tape))] := hD
                  refine lv_aload_n hx hb dX10_line0_382 rfl (lv_at hl 2 rfl) ?_
                  refine get_f (D := D) (ci := 10) (v := .ref h_h) (C := RX10) (T := TX10) (N := 67) hx hb hw inAX10 hown hK hP 3 rfl rfl 7 (by decide) (hw _ q_1268) (fun _ h9 => h9) n429 dX10_line0_383 ?_
                  refine lv_bipush (v := 6) hx hb dX10_line0_386 (by decide) ?_
                  refine lv_dup2_11 hx hb dX10_line0_388 rfl rfl ?_
                  refine iald_n hx hb hK hP 0 0 rfl rfl 6 rfl (Nat.le_of_ble_eq_true rfl) (Nat.le_of_ble_eq_true rfl) rfl dX10_line0_389 ?_
                  refine lv_topi (fun v438 ev438 => ?_)
                  have k439 : 0 ≤ v438.toInt ∧ v438.toInt ≤ 12 := by rw [ev438]; exact r436.atN 6 (by decide) (by decide)
                  refine lv_iconst (v := 1) hx hb dX10_line0_390 (by decide) ?_
                  refine lv_iadd hx hb dX10_line0_391 ?_
                  refine lv_topi (fun v440 ev440 => ?_)
                  have bv440 : v440.toInt = v438.toInt + 1 := by rw [ev440]; exact add_k rfl rfl k439 ⟨Int.le_refl _, Int.le_refl _⟩ (by decide)
                  have k441 : 1 ≤ v440.toInt ∧ v440.toInt ≤ 13 := add_r bv440 k439 ⟨Int.le_refl _, Int.le_refl _⟩ (by decide)
                  obtain ⟨g442, eg442⟩ : ∃ z : Nat → Int32, upd g432 6 v440 = z := ⟨_, rfl⟩
                  have r443 : SG 0 0 0 40 g442 := by rw [← eg442]; exact r433.upN (by decide)
                  have r444 : SG 44 55 0 9 g442 := by rw [← eg442]; exact r434.upN (by decide)
                  have r445 : SG 5 5 0 12 g442 := by rw [← eg442]; exact r435.upN (by decide)
                  have r446 : SG 6 6 0 12 g442 := by rw [← eg442]; exact r436.upN (by omega)
                  have r447 : SG 7 7 0 6 g442 := by rw [← eg442]; exact r437.upN (by decide)
                  refine iast_n hx hb hK hP hD hS 0 0 rfl rfl 6 rfl (Nat.le_of_ble_eq_true rfl) (Nat.le_of_ble_eq_true rfl) eg442 dX10_line0_392 (fun H locs hP hD hS => ?_)
                  have hP : va_P D vwCl [(h_h, .inl (cI, 104, .inl g442)), (h_names, .inl (cJ, 36, .inr (.inl f_names))), (h_reserved, .inl (cJ, 23, .inr (.inl f_reserved))), (h0, .inr (10, vL 67 F400)), (h_tape, .inl (cB, 940, .inl f_tape))] H := hP
                  have hD : va_D A [(h_h, .inl (cI, 104, .inl g442)), (h_names, .inl (cJ, 36, .inr (.inl f_names))), (h_reserved, .inl (cJ, 23, .inr (.inl f_reserved))), (h0, .inr (10, vL 67 F400)), (h_tape, .inl (cB, 940, .inl f_tape))] := hD
                  refine lv_iconst (v := 1) hx hb dX10_line0_393 (by decide) ?_
                  exact ret_i (v := 1) hx hb hr hlocks hS (hP.sub (ws' := [(h0, .inr (10, vL 67 F400)), (h_tape, .inl (cB, 940, .inl f_tape)), (h_h, .inl (cI, 104, .inl g442)), (h_names, .inl (cJ, 36, .inr (.inl f_names))), (h_reserved, .inl (cJ, 23, .inr (.inl f_reserved)))]) [3, 4, 0, 1, 2] rfl) (hD.sub (ws' := [(h0, .inr (10, vL 67 F400)), (h_tape, .inl (cB, 940, .inl f_tape)), (h_h, .inl (cI, 104, .inl g442)), (h_names, .inl (cJ, 36, .inr (.inl f_names))), (h_reserved, .inl (cJ, 23, .inr (.inl f_reserved)))]) [3, 4, 0, 1, 2] (by decide) rfl) dX10_line0_394 rfl (Nat.le_of_ble_eq_true rfl) (Nat.le_of_ble_eq_true rfl) ⟨F400, y401, y402, y403, y404, y405, x_fault, x_faultAt, y406, y407, x_onces, g442, f_names, (SAME.tr (SAME.tr (SAME.tr (SAME.tr (SAME.tr SAME.rf t226 (by decide)) t260 (by decide)) t310 (by decide)) t359 (by decide)) t408 (by decide)), t409, t410, t411, t412, t413, t415, t417, (SAME.at t408 (by decide) (SAME.at t359 (by decide) (SAME.at t310 (by decide) (SAME.at t260 (by decide) (SAME.at t226 (by decide) e_fault))))), (SAME.at t408 (by decide) (SAME.at t359 (by decide) (SAME.at t310 (by decide) (SAME.at t260 (by decide) (SAME.at t226 (by decide) e_faultAt))))), t418, t419, (SAME.at t408 (by decide) (SAME.at t359 (by decide) (SAME.at t310 (by decide) (SAME.at t260 (by decide) (SAME.at t226 (by decide) e_onces))))), r443, r445, r446, r447, r444, (show 0 ≤ (1 : Int32).toInt ∧ (1 : Int32).toInt ≤ 1 by decide), (by have zl1 : (1 : Int32).toInt = 1 := (by decide); omega), (by omega), rfl⟩
        · have dc216 : v214.toInt = 12 := eq_i (a := v214.toInt) (b := 12) rfl rfl c216
          have k448 : 12 ≤ v214.toInt ∧ v214.toInt ≤ 12 := ⟨Int.le_trans (Int.le_refl _) (Int.le_of_eq dc216.symm), k215.2⟩
          refine lv_aload_n hx hb dX10_line0_272 rfl (lv_at hl 2 rfl) ?_
          refine lv_iconst (v := 4) hx hb dX10_line0_273 (by decide) ?_
          refine call_Vi (wr := [(h_tape, .inl (cB, 940, .inl f_tape)), (h_h, .inl (cI, 104, .inl f_h)), (h_names, .inl (cJ, 36, .inr (.inl f_names))), (h_reserved, .inl (cJ, 23, .inr (.inl f_reserved)))]) (As := [.int 4]) (rest := []) hx hb hml hown hw (m_X10_bad l D cI cJ cB cP cM cZ h0 Fh x_at 4 _ e_at) wV_X10_205_X10_bad dX10_line0_274 hK hP hD hS hA [4] [0, 1, 2, 3] rfl rfl (by decide) (by decide) (by decide) 0 10 rfl rfl GG.fb hG.at hl.1 rfl (Nat.le_of_ble_eq_true rfl) ⟨(Nat.le_of_ble_eq_true rfl), (Nat.le_of_ble_eq_true rfl)⟩ ⟨(Nat.le_of_ble_eq_true rfl), (Nat.le_of_ble_eq_true rfl)⟩ (fun r449 u H locs hp hP hD hS => ?_)
          have zl4 : (4 : Int32).toInt = 4 := by decide
          obtain ⟨F450, t451, t452, t453, rfl, rfl⟩ := hp
          have hP : va_P D vwCl [(h_tape, .inl (cB, 940, .inl f_tape)), (h_h, .inl (cI, 104, .inl f_h)), (h_names, .inl (cJ, 36, .inr (.inl f_names))), (h_reserved, .inl (cJ, 23, .inr (.inl f_reserved))), (h0, .inr (10, vL 67 F450))] H := hP
          have hD : va_D A [(h_tape, .inl (cB, 940, .inl f_tape)), (h_h, .inl (cI, 104, .inl f_h)), (h_names, .inl (cJ, 36, .inr (.inl f_names))), (h_reserved, .inl (cJ, 23, .inr (.inl f_reserved))), (h0, .inr (10, vL 67 F450))] := hD
          refine W.widen (k := 0) (n := 0) (Nat.le_of_ble_eq_true rfl) (Nat.le_of_ble_eq_true rfl) ?_
          exact ret_i (v := 0) hx hb hr hlocks hS (hP.sub (ws' := [(h0, .inr (10, vL 67 F450)), (h_tape, .inl (cB, 940, .inl f_tape)), (h_h, .inl (cI, 104, .inl f_h)), (h_names, .inl (cJ, 36, .inr (.inl f_names))), (h_reserved, .inl (cJ, 23, .inr (.inl f_reserved)))]) [4, 0, 1, 2, 3] rfl) (hD.sub (ws' := [(h0, .inr (10, vL 67 F450)), (h_tape, .inl (cB, 940, .inl f_tape)), (h_h, .inl (cI, 104, .inl f_h)), (h_names, .inl (cJ, 36, .inr (.inl f_names))), (h_reserved, .inl (cJ, 23, .inr (.inl f_reserved)))]) [4, 0, 1, 2, 3] (by decide) rfl) dX10_line0_277 rfl (Nat.le_of_ble_eq_true rfl) (Nat.le_of_ble_eq_true rfl) ⟨F450, x_p, x_token, x_at, x_span, x_number, 4, x_at, x_word, x_got, x_onces, f_h, f_names, (SAME.tr SAME.rf t451 (by decide)), (SAME.at t451 (by decide) e_p), i_x_p, (SAME.at t451 (by decide) e_token), i_x_token, (SAME.at t451 (by decide) e_at), (SAME.at t451 (by decide) e_span), (SAME.at t451 (by decide) e_number), t452, t453, (SAME.at t451 (by decide) e_word), (SAME.at t451 (by decide) e_got), (SAME.at t451 (by decide) e_onces), s_h_0, s_h_5, s_h_6, s_h_7, s_h_44, (show 0 ≤ (0 : Int32).toInt ∧ (0 : Int32).toInt ≤ 1 by decide), (by have zl0 : (0 : Int32).toInt = 0 := (by decide); omega), (by have zl4 : (4 : Int32).toInt = 4 := (by decide); omega), rfl⟩
    · have dc10 : r6.toInt ≠ 0 := ne_i (a := r6.toInt) (b := 0) rfl rfl c10
      have k455 : 1 ≤ r6.toInt ∧ r6.toInt ≤ 1 := ⟨ne_lo dc10 t7.1 ⟨Int.le_refl _, Int.le_refl _⟩ (by decide), t7.2⟩
      refine lv_aload_n hx hb dX10_line0_123 rfl (lv_at hl 1 rfl) ?_
      refine get_f (D := D) (ci := 10) (v := .ref h_h) (C := RX10) (T := TX10) (N := 67) hx hb hw inAX10 hown hK hP 4 rfl rfl 7 (by decide) (hw _ q_1268) (fun _ h9 => h9) e_h dX10_line0_124 ?_
      refine lv_iconst (v := 5) hx hb dX10_line0_127 (by decide) ?_
      refine iald_n hx hb hK hP 1 0 rfl rfl 5 rfl (Nat.le_of_ble_eq_true rfl) (Nat.le_of_ble_eq_true rfl) rfl dX10_line0_128 ?_
      refine lv_topi (fun v456 ev456 => ?_)
      have k457 : 0 ≤ v456.toInt ∧ v456.toInt ≤ 12 := by rw [ev456]; exact s_h_5.atN 5 (by decide) (by decide)
      refine lv_istore_n (lv' := [(2, .int v456), (1, .int r1), (0, .ref h0)]) hx hb dX10_line0_129 rfl hl (by decide) rfl (fun ls hl => ?_)
      refine lv_iload_n hx hb dX10_line0_130 rfl (lv_at hl 0 rfl) ?_
      refine lv_bipush (v := 12) hx hb dX10_line0_131 (by decide) ?_
      refine lv_icmp_ne (tgt := 142) hx hb dX10_line0_133 (by decide) (fun c458 => ?_) (fun c458 => ?_)
      · have dc458 : v456.toInt ≠ 12 := ne_i (a := v456.toInt) (b := 12) rfl rfl c458
        have k459 : 0 ≤ v456.toInt ∧ v456.toInt ≤ 11 := ⟨k457.1, ne_hi dc458 k457.2 ⟨Int.le_refl _, Int.le_refl _⟩ (by decide)⟩
        refine lv_aload_n hx hb dX10_line0_142 rfl (lv_at hl 2 rfl) ?_
        refine call_Vv (wr := [(h_h, .inl (cI, 104, .inl f_h)), (h_names, .inl (cJ, 36, .inr (.inl f_names))), (h_reserved, .inl (cJ, 23, .inr (.inl f_reserved)))]) (As := []) (rest := []) hx hb hml hown hw (m_X10_next l D cI cJ cB cP cM cZ h0 h_tape Fh x_size x_p x_limit x_token x_number x_word f_tape _ e_tape e_size i_x_size e_p i_x_p e_limit i_x_limit e_token i_x_token e_number e_word (by omega)) wV_X10_208_X10_next dX10_line0_143 hK hP hD hS hA [4, 0] [1, 2, 3] rfl rfl (by decide) (by decide) (by decide) 0 10 rfl rfl GG.fb hG.at hl.1 rfl (Nat.le_of_ble_eq_true rfl) ⟨(Nat.le_of_ble_eq_true rfl), (Nat.le_of_ble_eq_true rfl)⟩ ⟨(Nat.le_of_ble_eq_true rfl), (Nat.le_of_ble_eq_true rfl)⟩ (fun u H locs hp hP hD hS => ?_)
        obtain ⟨F461, y462, y463, y464, y465, y466, y467, t468, t469, t470, t471, t472, t473, t474, t475, t476, t477, t478, t479, t480, t481, rfl⟩ := hp
        have hP : va_P D vwCl [(h_h, .inl (cI, 104, .inl f_h)), (h_names, .inl (cJ, 36, .inr (.inl f_names))), (h_reserved, .inl (cJ, 23, .inr (.inl f_reserved))), (h0, .inr (10, vL 67 F461)), (h_tape, .inl (cB, 940, .inl f_tape))] H := hP
        have hD : va_D A [(h_h, .inl (cI, 104, .inl f_h)), (h_names, .inl (cJ, 36, .inr (.inl f_names))), (h_reserved, .inl (cJ, 23, .inr (.inl f_reserved))), (h0, .inr (10, vL 67 F461)), (h_tape, .inl (cB, 940, .inl f_tape))] := hD
        refine W.widen (k := 0) (n := 0) (Nat.le_of_ble_eq_true rfl) (Nat.le_of_ble_eq_true rfl) ?_
        refine lv_aload_n hx hb dX10_line0_146 rfl (lv_at hl 2 rfl) ?_
        refine lv_bipush (v := 18) hx hb dX10_line0_147 (by decide) ?_
        refine lv_iload_n hx hb dX10_line0_149 rfl (lv_at hl 0 rfl) ?_
        refine lv_iadd hx hb dX10_line0_150 ?_
        refine lv_topi (fun v483 ev483 => ?_)
        have bv483 : v483.toInt = 18 + v456.toInt := by rw [ev483]; exact add_k rfl rfl ⟨Int.le_refl _, Int.le_refl _⟩ k459 (by decide)
        have k484 : 18 ≤ v483.toInt ∧ v483.toInt ≤ 29 := add_r bv483 ⟨Int.le_refl _, Int.le_refl _⟩ k459 (by decide)
        have n485 : F461 1 = .ref h_tape := (SAME.at t468 (by decide) e_tape)
        have n486 : F461 3 = .int x_size := (SAME.at t468 (by decide) e_size)
        have n487 : F461 5 = .int x_limit := (SAME.at t468 (by decide) e_limit)
        have n488 : F461 7 = .ref h_h := (SAME.at t468 (by decide) e_h)
        have n489 : F461 9 = .ref h_names := (SAME.at t468 (by decide) e_names)
        have n490 : F461 10 = .ref h_reserved := (SAME.at t468 (by decide) e_reserved)
        have n491 : F461 15 = .int x_fault := (SAME.at t468 (by decide) e_fault)
        have n492 : F461 16 = .int x_faultAt := (SAME.at t468 (by decide) e_faultAt)
        refine call_Vi (wr := []) (As := [.int v483]) (rest := []) hx hb hml hown hw (m_X10_fresh l D cI cJ cB cP cM cZ h0 h_tape h_h h_names h_reserved F461 x_size y462 x_limit y463 y464 y465 y466 x_fault x_faultAt y467 f_tape f_h f_names f_reserved v483 _ n485 n486 i_x_size t469 t470 n487 i_x_limit n488 n489 n490 t471 t472 t473 t475 t477 n491 n492 t478 s_h_0 s_h_44 s_h_5 s_h_6 s_h_7 (ir_wk k484 (by decide) (by decide)) (by omega)) wV_X10_245_X10_fresh dX10_line0_151 hK hP hD hS hA [3, 4, 0, 1, 2] [] rfl rfl (by decide) (by decide) (by decide) 0 10 rfl rfl GG.fb hG.at hl.1 rfl (Nat.le_of_ble_eq_true rfl) ⟨(Nat.le_of_ble_eq_true rfl), (Nat.le_of_ble_eq_true rfl)⟩ ⟨(Nat.le_of_ble_eq_true rfl), (Nat.le_of_ble_eq_true rfl)⟩ (fun r493 u H locs hp hP hD hS => ?_)
        refine hp.elim (fun F494 h9z => h9z.elim (fun y495 h9z => h9z.elim (fun y496 h9z => h9z.elim (fun y497 h9z => h9z.elim (fun y498 h9z => h9z.elim (fun y499 h9z => h9z.elim (fun y500 h9z => h9z.elim (fun y501 h9z => h9z.elim (fun y502 h9z => h9z.elim (fun g503 h9z => h9z.elim (fun t504 h9z => h9z.elim (fun t505 h9z => h9z.elim (fun t506 h9z => h9z.elim (fun t507 h9z => h9z.elim (fun t508 h9z => h9z.elim (fun t509 h9z => h9z.elim (fun t510 h9z => h9z.elim (fun t511 h9z => h9z.elim (fun t512 h9z => h9z.elim (fun t513 h9z => h9z.elim (fun t514 h9z => h9z.elim (fun t515 h9z => h9z.elim (fun t516 h9z => h9z.elim (fun t517 h9z => ?_))))))))))))))))))))))))
        subst h9z
        have hP : va_P D vwCl [(h0, .inr (10, vL 67 F494)), (h_tape, .inl (cB, 940, .inl f_tape)), (h_h, .inl (cI, 104, .inl f_h)), (h_names, .inl (cJ, 36, .inr (.inl g503))), (h_reserved, .inl (cJ, 23, .inr (.inl f_reserved)))] H := hP
        have hD : va_D A [(h0, .inr (10, vL 67 F494)), (h_tape, .inl (cB, 940, .inl f_tape)), (h_h, .inl (cI, 104, .inl f_h)), (h_names, .inl (cJ, 36, .inr (.inl g503))), (h_reserved, .inl (cJ, 23, .inr (.inl f_reserved)))] := hD
        refine W.widen (k := 0) (n := 0) (Nat.le_of_ble_eq_true rfl) (Nat.le_of_ble_eq_true rfl) ?_
        refine lv_if_ne (tgt := 159) hx hb dX10_line0_154 (by decide) (fun c519 => ?_) (fun c519 => ?_)
        · have dc519 : r493.toInt ≠ 0 := ne_i (a := r493.toInt) (b := 0) rfl rfl c519
          have k520 : 1 ≤ r493.toInt ∧ r493.toInt ≤ 1 := ⟨ne_lo dc519 t515.1 ⟨Int.le_refl _, Int.le_refl _⟩ (by decide), t515.2⟩
          refine lv_aload_n hx hb dX10_line0_159 rfl (lv_at hl 2 rfl) ?_
          refine lv_iconst (v := 1) hx hb dX10_line0_160 (by decide) ?_
          refine lv_bipush (v := 9) hx hb dX10_line0_161 (by decide) ?_
          have n521 : F494 1 = .ref h_tape := (SAME.at t504 (by decide) n485)
          have n522 : F494 3 = .int x_size := (SAME.at t504 (by decide) n486)
          have n523 : F494 5 = .int x_limit := (SAME.at t504 (by decide) n487)
          refine call_Vi (wr := [(h_h, .inl (cI, 104, .inl f_h)), (h_names, .inl (cJ, 36, .inr (.inl g503))), (h_reserved, .inl (cJ, 23, .inr (.inl f_reserved)))]) (As := [.int 1, .int 9]) (rest := []) hx hb hml hown hw (m_X10_takes l D cI cJ cB cP cM cZ h0 h_tape F494 x_size y495 x_limit y496 y497 y499 y502 f_tape 1 9 _ n521 n522 i_x_size t505 t506 n523 i_x_limit t507 t508 t509 t511 t514 (by omega)) wV_X10_242_X10_takes dX10_line0_163 hK hP hD hS hA [0, 1] [2, 3, 4] rfl rfl (by decide) (by decide) (by decide) 0 10 rfl rfl GG.fb hG.at hl.1 rfl (Nat.le_of_ble_eq_true rfl) ⟨(Nat.le_of_ble_eq_true rfl), (Nat.le_of_ble_eq_true rfl)⟩ ⟨(Nat.le_of_ble_eq_true rfl), (Nat.le_of_ble_eq_true rfl)⟩ (fun r524 u H locs hp hP hD hS => ?_)
          have zl1 : (1 : Int32).toInt = 1 := by decide
          have zl9 : (9 : Int32).toInt = 9 := by decide
          rcases hp with hp | hp
          · obtain ⟨F525, y526, t527, t528, t529, t530, t531, rfl, rfl⟩ := hp
            have hP : va_P D vwCl [(h_h, .inl (cI, 104, .inl f_h)), (h_names, .inl (cJ, 36, .inr (.inl g503))), (h_reserved, .inl (cJ, 23, .inr (.inl f_reserved))), (h0, .inr (10, vL 67 F525)), (h_tape, .inl (cB, 940, .inl f_tape))] H := hP
            have hD : va_D A [(h_h, .inl (cI, 104, .inl f_h)), (h_names, .inl (cJ, 36, .inr (.inl g503))), (h_reserved, .inl (cJ, 23, .inr (.inl f_reserved))), (h0, .inr (10, vL 67 F525)), (h_tape, .inl (cB, 940, .inl f_tape))] := hD
            refine W.widen (k := 0) (n := 0) (Nat.le_of_ble_eq_true rfl) (Nat.le_of_ble_eq_true rfl) ?_
            refine lv_if_ne (tgt := 171) hx hb dX10_line0_166 (by decide) (fun g => absurd (by decide) g) (fun _ => ?_)
            refine lv_iconst (v := 0) hx hb dX10_line0_169 (by decide) ?_
            exact ret_i (v := 0) hx hb hr hlocks hS (hP.sub (ws' := [(h0, .inr (10, vL 67 F525)), (h_tape, .inl (cB, 940, .inl f_tape)), (h_h, .inl (cI, 104, .inl f_h)), (h_names, .inl (cJ, 36, .inr (.inl g503))), (h_reserved, .inl (cJ, 23, .inr (.inl f_reserved)))]) [3, 4, 0, 1, 2] rfl) (hD.sub (ws' := [(h0, .inr (10, vL 67 F525)), (h_tape, .inl (cB, 940, .inl f_tape)), (h_h, .inl (cI, 104, .inl f_h)), (h_names, .inl (cJ, 36, .inr (.inl g503))), (h_reserved, .inl (cJ, 23, .inr (.inl f_reserved)))]) [3, 4, 0, 1, 2] (by decide) rfl) dX10_line0_170 rfl (Nat.le_of_ble_eq_true rfl) (Nat.le_of_ble_eq_true rfl) ⟨F525, y495, y496, y497, y498, y499, y526, y497, y502, x_got, x_onces, f_h, g503, (SAME.tr (SAME.tr (SAME.tr SAME.rf t468 (by decide)) t504 (by decide)) t527 (by decide)), (SAME.at t527 (by decide) t505), t506, (SAME.at t527 (by decide) t507), t508, (SAME.at t527 (by decide) t509), (SAME.at t527 (by decide) t510), (SAME.at t527 (by decide) t511), t528, t530, (SAME.at t527 (by decide) t514), (SAME.at t527 (by decide) (SAME.at t504 (by decide) (SAME.at t468 (by decide) e_got))), (SAME.at t527 (by decide) (SAME.at t504 (by decide) (SAME.at t468 (by decide) e_onces))), s_h_0, s_h_5, s_h_6, s_h_7, s_h_44, (show 0 ≤ (0 : Int32).toInt ∧ (0 : Int32).toInt ≤ 1 by decide), (by have zl0 : (0 : Int32).toInt = 0 := (by decide); omega), (by omega), rfl⟩
          · refine hp.elim (fun F532 h9z => h9z.elim (fun y533 h9z => h9z.elim (fun y534 h9z => h9z.elim (fun y535 h9z => h9z.elim (fun y536 h9z => h9z.elim (fun y537 h9z => h9z.elim (fun y538 h9z => h9z.elim (fun y539 h9z => h9z.elim (fun t540 h9z => h9z.elim (fun t541 h9z => h9z.elim (fun t542 h9z => h9z.elim (fun t543 h9z => h9z.elim (fun t544 h9z => h9z.elim (fun t545 h9z => h9z.elim (fun t546 h9z => h9z.elim (fun t547 h9z => h9z.elim (fun t548 h9z => h9z.elim (fun t549 h9z => h9z.elim (fun t550 h9z => h9z.elim (fun t551 h9z => h9z.elim (fun t552 h9z => h9z.elim (fun t553 h9z => h9z.elim (fun t554 h9z => h9z.elim (fun t555 h9z => h9z.elim (fun t556 h9z => h9z.elim (fun heq925 h9z => ?_))))))))))))))))))))))))))
            subst heq925
            subst h9z
            have hP : va_P D vwCl [(h_h, .inl (cI, 104, .inl f_h)), (h_names, .inl (cJ, 36, .inr (.inl g503))), (h_reserved, .inl (cJ, 23, .inr (.inl f_reserved))), (h0, .inr (10, vL 67 F532)), (h_tape, .inl (cB, 940, .inl f_tape))] H := hP
            have hD : va_D A [(h_h, .inl (cI, 104, .inl f_h)), (h_names, .inl (cJ, 36, .inr (.inl g503))), (h_reserved, .inl (cJ, 23, .inr (.inl f_reserved))), (h0, .inr (10, vL 67 F532)), (h_tape, .inl (cB, 940, .inl f_tape))] := hD
            refine W.widen (k := 0) (n := 0) (Nat.le_of_ble_eq_true rfl) (Nat.le_of_ble_eq_true rfl) ?_
            have k558 : 2 ≤ y496.toInt ∧ y496.toInt ≤ 2 := ⟨Int.le_trans (Int.le_refl _) (Int.le_of_eq t552.symm), Int.le_trans (Int.le_of_eq t552) (Int.le_refl _)⟩
            have k559 : 1 ≤ y499.toInt ∧ y499.toInt ≤ 2147483647 := ⟨Int.le_trans (Int.le_refl _) t553, (ir_any _).2⟩
            have k560 : 1 ≤ y499.toInt ∧ y499.toInt ≤ 9 := ⟨k559.1, Int.le_trans t554 (Int.le_refl _)⟩
            refine lv_if_ne (tgt := 171) hx hb dX10_line0_166 (by decide) (fun _ => ?_) (fun g => absurd g (by decide))
            refine lv_aload_n hx hb dX10_line0_171 rfl (lv_at hl 2 rfl) ?_
            have n561 : F494 7 = .ref h_h := (SAME.at t504 (by decide) n488)
            have n562 : F532 7 = .ref h_h := (SAME.at t540 (by decide) n561)
            refine get_f (D := D) (ci := 10) (v := .ref h_h) (C := RX10) (T := TX10) (N := 67) hx hb hw inAX10 hown hK hP 3 rfl rfl 7 (by decide) (hw _ q_1268) (fun _ h9 => h9) n562 dX10_line0_172 ?_
            refine lv_bipush (v := 8) hx hb dX10_line0_175 (by decide) ?_
            refine lv_iload_n hx hb dX10_line0_177 rfl (lv_at hl 0 rfl) ?_
            refine lv_iadd hx hb dX10_line0_178 ?_
            refine lv_topi (fun v563 ev563 => ?_)
            have bv563 : v563.toInt = 8 + v456.toInt := by rw [ev563]; exact add_k rfl rfl ⟨Int.le_refl _, Int.le_refl _⟩ k459 (by decide)
            have k564 : 8 ≤ v563.toInt ∧ v563.toInt ≤ 19 := add_r bv563 ⟨Int.le_refl _, Int.le_refl _⟩ k459 (by decide)
            refine lv_aload_n hx hb dX10_line0_179 rfl (lv_at hl 2 rfl) ?_
            refine get_f (D := D) (ci := 10) (v := .int y539) (C := RX10) (T := TX10) (N := 67) hx hb hw inAX10 hown hK hP 3 rfl rfl 19 (by decide) (hw _ q_1280) (fun _ h9 => h9) t551 dX10_line0_180 ?_
            obtain ⟨g565, eg565⟩ : ∃ z : Nat → Int32, upd f_h v563.toNatClampNeg y539 = z := ⟨_, rfl⟩
            have r566 : SG 0 0 0 40 g565 := by rw [← eg565]; exact s_h_0.up (Int.le_trans (by decide) k564.1) (Or.inr (Or.inl (dec_lt k564.1 (by decide))))
            have r567 : SG 44 55 0 9 g565 := by rw [← eg565]; exact s_h_44.up (Int.le_trans (by decide) k564.1) (Or.inl (lt_dec k564.2 (by decide)))
            have r568 : SG 5 5 0 12 g565 := by rw [← eg565]; exact s_h_5.up (Int.le_trans (by decide) k564.1) (Or.inr (Or.inl (dec_lt k564.1 (by decide))))
            have r569 : SG 6 6 0 12 g565 := by rw [← eg565]; exact s_h_6.up (Int.le_trans (by decide) k564.1) (Or.inr (Or.inl (dec_lt k564.1 (by decide))))
            have r570 : SG 7 7 0 6 g565 := by rw [← eg565]; exact s_h_7.up (Int.le_trans (by decide) k564.1) (Or.inr (Or.inl (dec_lt k564.1 (by decide))))
            refine iast_g hx hb hK hP hD hS 0 0 rfl rfl (ix_k k564 (by decide) (by decide)) eg565 dX10_line0_183 (fun H locs hP hD hS => ?_)
            have hP : va_P D vwCl [(h_h, .inl (cI, 104, .inl g565)), (h_names, .inl (cJ, 36, .inr (.inl g503))), (h_reserved, .inl (cJ, 23, .inr (.inl f_reserved))), (h0, .inr (10, vL 67 F532)), (h_tape, .inl (cB, 940, .inl f_tape))] H := hP
            have hD : va_D A [(h_h, .inl (cI, 104, .inl g565)), (h_names, .inl (cJ, 36, .inr (.inl g503))), (h_reserved, .inl (cJ, 23, .inr (.inl f_reserved))), (h0, .inr (10, vL 67 F532)), (h_tape, .inl (cB, 940, .inl f_tape))] := hD
            refine lv_aload_n hx hb dX10_line0_184 rfl (lv_at hl 2 rfl) ?_
            refine lv_iconst (v := 1) hx hb dX10_line0_185 (by decide) ?_
            refine lv_bipush (v := 9) hx hb dX10_line0_186 (by decide) ?_
            have n571 : F532 1 = .ref h_tape := (SAME.at t540 (by decide) n521)
            have n572 : F532 3 = .int x_size := (SAME.at t540 (by decide) n522)
            have n573 : F532 5 = .int x_limit := (SAME.at t540 (by decide) n523)
            refine call_Vi (wr := [(h_h, .inl (cI, 104, .inl g565)), (h_names, .inl (cJ, 36, .inr (.inl g503))), (h_reserved, .inl (cJ, 23, .inr (.inl f_reserved)))]) (As := [.int 1, .int 9]) (rest := []) hx hb hml hown hw (m_X10_takes l D cI cJ cB cP cM cZ h0 h_tape F532 x_size y533 x_limit y534 y535 y537 y538 f_tape 1 9 _ n571 n572 i_x_size t541 t542 n573 i_x_limit t543 t544 t545 t549 t550 (by omega)) wV_X10_242_X10_takes dX10_line0_188 hK hP hD hS hA [3, 4] [0, 1, 2] rfl rfl (by decide) (by decide) (by decide) 0 10 rfl rfl GG.fb hG.at hl.1 rfl (Nat.le_of_ble_eq_true rfl) ⟨(Nat.le_of_ble_eq_true rfl), (Nat.le_of_ble_eq_true rfl)⟩ ⟨(Nat.le_of_ble_eq_true rfl), (Nat.le_of_ble_eq_true rfl)⟩ (fun r574 u H locs hp hP hD hS => ?_)
            rcases hp with hp | hp
            · obtain ⟨F575, y576, t577, t578, t579, t580, t581, rfl, rfl⟩ := hp
              have hP : va_P D vwCl [(h_h, .inl (cI, 104, .inl g565)), (h_names, .inl (cJ, 36, .inr (.inl g503))), (h_reserved, .inl (cJ, 23, .inr (.inl f_reserved))), (h0, .inr (10, vL 67 F575)), (h_tape, .inl (cB, 940, .inl f_tape))] H := hP
              have hD : va_D A [(h_h, .inl (cI, 104, .inl g565)), (h_names, .inl (cJ, 36, .inr (.inl g503))), (h_reserved, .inl (cJ, 23, .inr (.inl f_reserved))), (h0, .inr (10, vL 67 F575)), (h_tape, .inl (cB, 940, .inl f_tape))] := hD
              refine W.widen (k := 0) (n := 0) (Nat.le_of_ble_eq_true rfl) (Nat.le_of_ble_eq_true rfl) ?_
              refine lv_if_ne (tgt := 196) hx hb dX10_line0_191 (by decide) (fun g => absurd (by decide) g) (fun _ => ?_)
              refine lv_iconst (v := 0) hx hb dX10_line0_194 (by decide) ?_
              exact ret_i (v := 0) hx hb hr hlocks hS (hP.sub (ws' := [(h0, .inr (10, vL 67 F575)), (h_tape, .inl (cB, 940, .inl f_tape)), (h_h, .inl (cI, 104, .inl g565)), (h_names, .inl (cJ, 36, .inr (.inl g503))), (h_reserved, .inl (cJ, 23, .inr (.inl f_reserved)))]) [3, 4, 0, 1, 2] rfl) (hD.sub (ws' := [(h0, .inr (10, vL 67 F575)), (h_tape, .inl (cB, 940, .inl f_tape)), (h_h, .inl (cI, 104, .inl g565)), (h_names, .inl (cJ, 36, .inr (.inl g503))), (h_reserved, .inl (cJ, 23, .inr (.inl f_reserved)))]) [3, 4, 0, 1, 2] (by decide) rfl) dX10_line0_195 rfl (Nat.le_of_ble_eq_true rfl) (Nat.le_of_ble_eq_true rfl) ⟨F575, y533, y534, y535, y536, y537, y576, y535, y538, y539, x_onces, g565, g503, (SAME.tr (SAME.tr (SAME.tr (SAME.tr SAME.rf t468 (by decide)) t504 (by decide)) t540 (by decide)) t577 (by decide)), (SAME.at t577 (by decide) t541), t542, (SAME.at t577 (by decide) t543), t544, (SAME.at t577 (by decide) t545), (SAME.at t577 (by decide) t547), (SAME.at t577 (by decide) t549), t578, t580, (SAME.at t577 (by decide) t550), (SAME.at t577 (by decide) t551), (SAME.at t577 (by decide) (SAME.at t540 (by decide) (SAME.at t504 (by decide) (SAME.at t468 (by decide) e_onces)))), r566, r568, r569, r570, r567, (show 0 ≤ (0 : Int32).toInt ∧ (0 : Int32).toInt ≤ 1 by decide), (by have zl0 : (0 : Int32).toInt = 0 := (by decide); omega), (by omega), rfl⟩
            · refine hp.elim (fun F582 h9z => h9z.elim (fun y583 h9z => h9z.elim (fun y584 h9z => h9z.elim (fun y585 h9z => h9z.elim (fun y586 h9z => h9z.elim (fun y587 h9z => h9z.elim (fun y588 h9z => h9z.elim (fun y589 h9z => h9z.elim (fun t590 h9z => h9z.elim (fun t591 h9z => h9z.elim (fun t592 h9z => h9z.elim (fun t593 h9z => h9z.elim (fun t594 h9z => h9z.elim (fun t595 h9z => h9z.elim (fun t596 h9z => h9z.elim (fun t597 h9z => h9z.elim (fun t598 h9z => h9z.elim (fun t599 h9z => h9z.elim (fun t600 h9z => h9z.elim (fun t601 h9z => h9z.elim (fun t602 h9z => h9z.elim (fun t603 h9z => h9z.elim (fun t604 h9z => h9z.elim (fun t605 h9z => h9z.elim (fun t606 h9z => h9z.elim (fun heq925 h9z => ?_))))))))))))))))))))))))))
              subst heq925
              subst h9z
              have hP : va_P D vwCl [(h_h, .inl (cI, 104, .inl g565)), (h_names, .inl (cJ, 36, .inr (.inl g503))), (h_reserved, .inl (cJ, 23, .inr (.inl f_reserved))), (h0, .inr (10, vL 67 F582)), (h_tape, .inl (cB, 940, .inl f_tape))] H := hP
              have hD : va_D A [(h_h, .inl (cI, 104, .inl g565)), (h_names, .inl (cJ, 36, .inr (.inl g503))), (h_reserved, .inl (cJ, 23, .inr (.inl f_reserved))), (h0, .inr (10, vL 67 F582)), (h_tape, .inl (cB, 940, .inl f_tape))] := hD
              refine W.widen (k := 0) (n := 0) (Nat.le_of_ble_eq_true rfl) (Nat.le_of_ble_eq_true rfl) ?_
              have k608 : 2 ≤ y534.toInt ∧ y534.toInt ≤ 2 := ⟨Int.le_trans (Int.le_refl _) (Int.le_of_eq t602.symm), Int.le_trans (Int.le_of_eq t602) (Int.le_refl _)⟩
              have k609 : 1 ≤ y537.toInt ∧ y537.toInt ≤ 2147483647 := ⟨Int.le_trans (Int.le_refl _) t603, (ir_any _).2⟩
              have k610 : 1 ≤ y537.toInt ∧ y537.toInt ≤ 9 := ⟨k609.1, Int.le_trans t604 (Int.le_refl _)⟩
              refine lv_if_ne (tgt := 196) hx hb dX10_line0_191 (by decide) (fun _ => ?_) (fun g => absurd g (by decide))
              refine lv_aload_n hx hb dX10_line0_196 rfl (lv_at hl 2 rfl) ?_
              have n611 : F582 7 = .ref h_h := (SAME.at t590 (by decide) n562)
              refine get_f (D := D) (ci := 10) (v := .ref h_h) (C := RX10) (T := TX10) (N := 67) hx hb hw inAX10 hown hK hP 3 rfl rfl 7 (by decide) (hw _ q_1268) (fun _ h9 => h9) n611 dX10_line0_197 ?_
              refine lv_bipush (v := 20) hx hb dX10_line0_200 (by decide) ?_
              refine lv_iload_n hx hb dX10_line0_202 rfl (lv_at hl 0 rfl) ?_
              refine lv_iadd hx hb dX10_line0_203 ?_
              refine lv_topi (fun v612 ev612 => ?_)
              have bv612 : v612.toInt = 20 + v456.toInt := by rw [ev612]; exact add_k rfl rfl ⟨Int.le_refl _, Int.le_refl _⟩ k459 (by decide)
              have k613 : 20 ≤ v612.toInt ∧ v612.toInt ≤ 31 := add_r bv612 ⟨Int.le_refl _, Int.le_refl _⟩ k459 (by decide)
              refine lv_aload_n hx hb dX10_line0_204 rfl (lv_at hl 2 rfl) ?_
              refine get_f (D := D) (ci := 10) (v := .int y589) (C := RX10) (T := TX10) (N := 67) hx hb hw inAX10 hown hK hP 3 rfl rfl 19 (by decide) (hw _ q_1280) (fun _ h9 => h9) t601 dX10_line0_205 ?_
              obtain ⟨g614, eg614⟩ : ∃ z : Nat → Int32, upd g565 v612.toNatClampNeg y589 = z := ⟨_, rfl⟩
              have r615 : SG 0 0 0 40 g614 := by rw [← eg614]; exact r566.up (Int.le_trans (by decide) k613.1) (Or.inr (Or.inl (dec_lt k613.1 (by decide))))
              have r616 : SG 44 55 0 9 g614 := by rw [← eg614]; exact r567.up (Int.le_trans (by decide) k613.1) (Or.inl (lt_dec k613.2 (by decide)))
              have r617 : SG 5 5 0 12 g614 := by rw [← eg614]; exact r568.up (Int.le_trans (by decide) k613.1) (Or.inr (Or.inl (dec_lt k613.1 (by decide))))
              have r618 : SG 6 6 0 12 g614 := by rw [← eg614]; exact r569.up (Int.le_trans (by decide) k613.1) (Or.inr (Or.inl (dec_lt k613.1 (by decide))))
              have r619 : SG 7 7 0 6 g614 := by rw [← eg614]; exact r570.up (Int.le_trans (by decide) k613.1) (Or.inr (Or.inl (dec_lt k613.1 (by decide))))
              refine iast_g hx hb hK hP hD hS 0 0 rfl rfl (ix_k k613 (by decide) (by decide)) eg614 dX10_line0_208 (fun H locs hP hD hS => ?_)
              have hP : va_P D vwCl [(h_h, .inl (cI, 104, .inl g614)), (h_names, .inl (cJ, 36, .inr (.inl g503))), (h_reserved, .inl (cJ, 23, .inr (.inl f_reserved))), (h0, .inr (10, vL 67 F582)), (h_tape, .inl (cB, 940, .inl f_tape))] H := hP
              have hD : va_D A [(h_h, .inl (cI, 104, .inl g614)), (h_names, .inl (cJ, 36, .inr (.inl g503))), (h_reserved, .inl (cJ, 23, .inr (.inl f_reserved))), (h0, .inr (10, vL 67 F582)), (h_tape, .inl (cB, 940, .inl f_tape))] := hD
              refine lv_aload_n hx hb dX10_line0_209 rfl (lv_at hl 2 rfl) ?_
              refine lv_bipush (v := 50) hx hb dX10_line0_210 (by decide) ?_
              refine lv_sipush (v := 150) hx hb dX10_line0_212 (by decide) ?_
              have n620 : F582 1 = .ref h_tape := (SAME.at t590 (by decide) n571)
              have n621 : F582 3 = .int x_size := (SAME.at t590 (by decide) n572)
              have n622 : F582 5 = .int x_limit := (SAME.at t590 (by decide) n573)
              refine call_Vi (wr := [(h_h, .inl (cI, 104, .inl g614)), (h_names, .inl (cJ, 36, .inr (.inl g503))), (h_reserved, .inl (cJ, 23, .inr (.inl f_reserved)))]) (As := [.int 50, .int 150]) (rest := []) hx hb hml hown hw (m_X10_takes l D cI cJ cB cP cM cZ h0 h_tape F582 x_size y583 x_limit y584 y585 y587 y588 f_tape 50 150 _ n620 n621 i_x_size t591 t592 n622 i_x_limit t593 t594 t595 t599 t600 (by omega)) wV_X10_242_X10_takes dX10_line0_215 hK hP hD hS hA [3, 4] [0, 1, 2] rfl rfl (by decide) (by decide) (by decide) 0 10 rfl rfl GG.fb hG.at hl.1 rfl (Nat.le_of_ble_eq_true rfl) ⟨(Nat.le_of_ble_eq_true rfl), (Nat.le_of_ble_eq_true rfl)⟩ ⟨(Nat.le_of_ble_eq_true rfl), (Nat.le_of_ble_eq_true rfl)⟩ (fun r623 u H locs hp hP hD hS => ?_)
              have zl50 : (50 : Int32).toInt = 50 := by decide
              have zl150 : (150 : Int32).toInt = 150 := by decide
              rcases hp with hp | hp
              · obtain ⟨F624, y625, t626, t627, t628, t629, t630, rfl, rfl⟩ := hp
                have hP : va_P D vwCl [(h_h, .inl (cI, 104, .inl g614)), (h_names, .inl (cJ, 36, .inr (.inl g503))), (h_reserved, .inl (cJ, 23, .inr (.inl f_reserved))), (h0, .inr (10, vL 67 F624)), (h_tape, .inl (cB, 940, .inl f_tape))] H := hP
                have hD : va_D A [(h_h, .inl (cI, 104, .inl g614)), (h_names, .inl (cJ, 36, .inr (.inl g503))), (h_reserved, .inl (cJ, 23, .inr (.inl f_reserved))), (h0, .inr (10, vL 67 F624)), (h_tape, .inl (cB, 940, .inl f_tape))] := hD
                refine W.widen (k := 0) (n := 0) (Nat.le_of_ble_eq_true rfl) (Nat.le_of_ble_eq_true rfl) ?_
                refine lv_if_ne (tgt := 223) hx hb dX10_line0_218 (by decide) (fun g => absurd (by decide) g) (fun _ => ?_)
                refine lv_iconst (v := 0) hx hb dX10_line0_221 (by decide) ?_
                exact ret_i (v := 0) hx hb hr hlocks hS (hP.sub (ws' := [(h0, .inr (10, vL 67 F624)), (h_tape, .inl (cB, 940, .inl f_tape)), (h_h, .inl (cI, 104, .inl g614)), (h_names, .inl (cJ, 36, .inr (.inl g503))), (h_reserved, .inl (cJ, 23, .inr (.inl f_reserved)))]) [3, 4, 0, 1, 2] rfl) (hD.sub (ws' := [(h0, .inr (10, vL 67 F624)), (h_tape, .inl (cB, 940, .inl f_tape)), (h_h, .inl (cI, 104, .inl g614)), (h_names, .inl (cJ, 36, .inr (.inl g503))), (h_reserved, .inl (cJ, 23, .inr (.inl f_reserved)))]) [3, 4, 0, 1, 2] (by decide) rfl) dX10_line0_222 rfl (Nat.le_of_ble_eq_true rfl) (Nat.le_of_ble_eq_true rfl) ⟨F624, y583, y584, y585, y586, y587, y625, y585, y588, y589, x_onces, g614, g503, (SAME.tr (SAME.tr (SAME.tr (SAME.tr (SAME.tr SAME.rf t468 (by decide)) t504 (by decide)) t540 (by decide)) t590 (by decide)) t626 (by decide)), (SAME.at t626 (by decide) t591), t592, (SAME.at t626 (by decide) t593), t594, (SAME.at t626 (by decide) t595), (SAME.at t626 (by decide) t597), (SAME.at t626 (by decide) t599), t627, t629, (SAME.at t626 (by decide) t600), (SAME.at t626 (by decide) t601), (SAME.at t626 (by decide) (SAME.at t590 (by decide) (SAME.at t540 (by decide) (SAME.at t504 (by decide) (SAME.at t468 (by decide) e_onces))))), r615, r617, r618, r619, r616, (show 0 ≤ (0 : Int32).toInt ∧ (0 : Int32).toInt ≤ 1 by decide), (by have zl0 : (0 : Int32).toInt = 0 := (by decide); omega), (by omega), rfl⟩
              · refine hp.elim (fun F631 h9z => h9z.elim (fun y632 h9z => h9z.elim (fun y633 h9z => h9z.elim (fun y634 h9z => h9z.elim (fun y635 h9z => h9z.elim (fun y636 h9z => h9z.elim (fun y637 h9z => h9z.elim (fun y638 h9z => h9z.elim (fun t639 h9z => h9z.elim (fun t640 h9z => h9z.elim (fun t641 h9z => h9z.elim (fun t642 h9z => h9z.elim (fun t643 h9z => h9z.elim (fun t644 h9z => h9z.elim (fun t645 h9z => h9z.elim (fun t646 h9z => h9z.elim (fun t647 h9z => h9z.elim (fun t648 h9z => h9z.elim (fun t649 h9z => h9z.elim (fun t650 h9z => h9z.elim (fun t651 h9z => h9z.elim (fun t652 h9z => h9z.elim (fun t653 h9z => h9z.elim (fun t654 h9z => h9z.elim (fun t655 h9z => h9z.elim (fun heq925 h9z => ?_))))))))))))))))))))))))))
                subst heq925
                subst h9z
                have hP : va_P D vwCl [(h_h, .inl (cI, 104, .inl g614)), (h_names, .inl (cJ, 36, .inr (.inl g503))), (h_reserved, .inl (cJ, 23, .inr (.inl f_reserved))), (h0, .inr (10, vL 67 F631)), (h_tape, .inl (cB, 940, .inl f_tape))] H := hP
                have hD : va_D A [(h_h, .inl (cI, 104, .inl g614)), (h_names, .inl (cJ, 36, .inr (.inl g503))), (h_reserved, .inl (cJ, 23, .inr (.inl f_reserved))), (h0, .inr (10, vL 67 F631)), (h_tape, .inl (cB, 940, .inl f_tape))] := hD
                refine W.widen (k := 0) (n := 0) (Nat.le_of_ble_eq_true rfl) (Nat.le_of_ble_eq_true rfl) ?_
                have k657 : 2 ≤ y584.toInt ∧ y584.toInt ≤ 2 := ⟨Int.le_trans (Int.le_refl _) (Int.le_of_eq t651.symm), Int.le_trans (Int.le_of_eq t651) (Int.le_refl _)⟩
                have k658 : 50 ≤ y587.toInt ∧ y587.toInt ≤ 2147483647 := ⟨Int.le_trans (Int.le_refl _) t652, (ir_any _).2⟩
                have k659 : 50 ≤ y587.toInt ∧ y587.toInt ≤ 150 := ⟨k658.1, Int.le_trans t653 (Int.le_refl _)⟩
                refine lv_if_ne (tgt := 223) hx hb dX10_line0_218 (by decide) (fun _ => ?_) (fun g => absurd g (by decide))
                refine lv_aload_n hx hb dX10_line0_223 rfl (lv_at hl 2 rfl) ?_
                have n660 : F631 7 = .ref h_h := (SAME.at t639 (by decide) n611)
                refine get_f (D := D) (ci := 10) (v := .ref h_h) (C := RX10) (T := TX10) (N := 67) hx hb hw inAX10 hown hK hP 3 rfl rfl 7 (by decide) (hw _ q_1268) (fun _ h9 => h9) n660 dX10_line0_224 ?_
                refine lv_bipush (v := 32) hx hb dX10_line0_227 (by decide) ?_
                refine lv_iload_n hx hb dX10_line0_229 rfl (lv_at hl 0 rfl) ?_
                refine lv_iadd hx hb dX10_line0_230 ?_
                refine lv_topi (fun v661 ev661 => ?_)
                have bv661 : v661.toInt = 32 + v456.toInt := by rw [ev661]; exact add_k rfl rfl ⟨Int.le_refl _, Int.le_refl _⟩ k459 (by decide)
                have k662 : 32 ≤ v661.toInt ∧ v661.toInt ≤ 43 := add_r bv661 ⟨Int.le_refl _, Int.le_refl _⟩ k459 (by decide)
                refine lv_aload_n hx hb dX10_line0_231 rfl (lv_at hl 2 rfl) ?_
                refine get_f (D := D) (ci := 10) (v := .int y638) (C := RX10) (T := TX10) (N := 67) hx hb hw inAX10 hown hK hP 3 rfl rfl 19 (by decide) (hw _ q_1280) (fun _ h9 => h9) t650 dX10_line0_232 ?_
                obtain ⟨g663, eg663⟩ : ∃ z : Nat → Int32, upd g614 v661.toNatClampNeg y638 = z := ⟨_, rfl⟩
                have r664 : SG 0 0 0 40 g663 := by rw [← eg663]; exact r615.up (Int.le_trans (by decide) k662.1) (Or.inr (Or.inl (dec_lt k662.1 (by decide))))
                have r665 : SG 44 55 0 9 g663 := by rw [← eg663]; exact r616.up (Int.le_trans (by decide) k662.1) (Or.inl (lt_dec k662.2 (by decide)))
                have r666 : SG 5 5 0 12 g663 := by rw [← eg663]; exact r617.up (Int.le_trans (by decide) k662.1) (Or.inr (Or.inl (dec_lt k662.1 (by decide))))
                have r667 : SG 6 6 0 12 g663 := by rw [← eg663]; exact r618.up (Int.le_trans (by decide) k662.1) (Or.inr (Or.inl (dec_lt k662.1 (by decide))))
                have r668 : SG 7 7 0 6 g663 := by rw [← eg663]; exact r619.up (Int.le_trans (by decide) k662.1) (Or.inr (Or.inl (dec_lt k662.1 (by decide))))
                refine iast_g hx hb hK hP hD hS 0 0 rfl rfl (ix_k k662 (by decide) (by decide)) eg663 dX10_line0_235 (fun H locs hP hD hS => ?_)
                have hP : va_P D vwCl [(h_h, .inl (cI, 104, .inl g663)), (h_names, .inl (cJ, 36, .inr (.inl g503))), (h_reserved, .inl (cJ, 23, .inr (.inl f_reserved))), (h0, .inr (10, vL 67 F631)), (h_tape, .inl (cB, 940, .inl f_tape))] H := hP
                have hD : va_D A [(h_h, .inl (cI, 104, .inl g663)), (h_names, .inl (cJ, 36, .inr (.inl g503))), (h_reserved, .inl (cJ, 23, .inr (.inl f_reserved))), (h0, .inr (10, vL 67 F631)), (h_tape, .inl (cB, 940, .inl f_tape))] := hD
                refine lv_aload_n hx hb dX10_line0_236 rfl (lv_at hl 2 rfl) ?_
                refine get_f (D := D) (ci := 10) (v := .ref h_h) (C := RX10) (T := TX10) (N := 67) hx hb hw inAX10 hown hK hP 3 rfl rfl 7 (by decide) (hw _ q_1268) (fun _ h9 => h9) n660 dX10_line0_237 ?_
                refine lv_iconst (v := 5) hx hb dX10_line0_240 (by decide) ?_
                refine lv_dup2_11 hx hb dX10_line0_241 rfl rfl ?_
                refine iald_n hx hb hK hP 0 0 rfl rfl 5 rfl (Nat.le_of_ble_eq_true rfl) (Nat.le_of_ble_eq_true rfl) rfl dX10_line0_242 ?_
                refine lv_topi (fun v669 ev669 => ?_)
                have k670 : 0 ≤ v669.toInt ∧ v669.toInt ≤ 12 := by rw [ev669]; exact r666.atN 5 (by decide) (by decide)
                refine lv_iconst (v := 1) hx hb dX10_line0_243 (by decide) ?_
                refine lv_iadd hx hb dX10_line0_244 ?_
                refine lv_topi (fun v671 ev671 => ?_)
                have bv671 : v671.toInt = v669.toInt + 1 := by rw [ev671]; exact add_k rfl rfl k670 ⟨Int.le_refl _, Int.le_refl _⟩ (by decide)
                have k672 : 1 ≤ v671.toInt ∧ v671.toInt ≤ 13 := add_r bv671 k670 ⟨Int.le_refl _, Int.le_refl _⟩ (by decide)
                obtain ⟨g673, eg673⟩ : ∃ z : Nat → Int32, upd g663 5 v671 = z := ⟨_, rfl⟩
                have r674 : SG 0 0 0 40 g673 := by rw [← eg673]; exact r664.upN (by decide)
                have r675 : SG 44 55 0 9 g673 := by rw [← eg673]; exact r665.upN (by decide)
                have r676 : SG 5 5 0 12 g673 := by rw [← eg673]; exact r666.upN (by omega)
                have r677 : SG 6 6 0 12 g673 := by rw [← eg673]; exact r667.upN (by decide)
                have r678 : SG 7 7 0 6 g673 := by rw [← eg673]; exact r668.upN (by decide)
                refine iast_n hx hb hK hP hD hS 0 0 rfl rfl 5 rfl (Nat.le_of_ble_eq_true rfl) (Nat.le_of_ble_eq_true rfl) eg673 dX10_line0_245 (fun H locs hP hD hS => ?_)
                have hP : va_P D vwCl [(h_h, .inl (cI, 104, .inl g673)), (h_names, .inl (cJ, 36, .inr (.inl g503))), (h_reserved, .inl (cJ, 23, .inr (.inl f_reserved))), (h0, .inr (10, vL 67 F631)), (h_tape, .inl (cB, 940, .inl f_tape))] H := hP
                have hD : va_D A [(h_h, .inl (cI, 104, .inl g673)), (h_names, .inl (cJ, 36, .inr (.inl g503))), (h_reserved, .inl (cJ, 23, .inr (.inl f_reserved))), (h0, .inr (10, vL 67 F631)), (h_tape, .inl (cB, 940, .inl f_tape))] := hD
                refine lv_iconst (v := 1) hx hb dX10_line0_246 (by decide) ?_
                exact ret_i (v := 1) hx hb hr hlocks hS (hP.sub (ws' := [(h0, .inr (10, vL 67 F631)), (h_tape, .inl (cB, 940, .inl f_tape)), (h_h, .inl (cI, 104, .inl g673)), (h_names, .inl (cJ, 36, .inr (.inl g503))), (h_reserved, .inl (cJ, 23, .inr (.inl f_reserved)))]) [3, 4, 0, 1, 2] rfl) (hD.sub (ws' := [(h0, .inr (10, vL 67 F631)), (h_tape, .inl (cB, 940, .inl f_tape)), (h_h, .inl (cI, 104, .inl g673)), (h_names, .inl (cJ, 36, .inr (.inl g503))), (h_reserved, .inl (cJ, 23, .inr (.inl f_reserved)))]) [3, 4, 0, 1, 2] (by decide) rfl) dX10_line0_247 rfl (Nat.le_of_ble_eq_true rfl) (Nat.le_of_ble_eq_true rfl) ⟨F631, y632, y633, y634, y635, y636, y500, y501, y637, y638, x_onces, g673, g503, (SAME.tr (SAME.tr (SAME.tr (SAME.tr (SAME.tr SAME.rf t468 (by decide)) t504 (by decide)) t540 (by decide)) t590 (by decide)) t639 (by decide)), t640, t641, t642, t643, t644, t646, t648, (SAME.at t639 (by decide) (SAME.at t590 (by decide) (SAME.at t540 (by decide) t512))), (SAME.at t639 (by decide) (SAME.at t590 (by decide) (SAME.at t540 (by decide) t513))), t649, t650, (SAME.at t639 (by decide) (SAME.at t590 (by decide) (SAME.at t540 (by decide) (SAME.at t504 (by decide) (SAME.at t468 (by decide) e_onces))))), r674, r676, r677, r678, r675, (show 0 ≤ (1 : Int32).toInt ∧ (1 : Int32).toInt ≤ 1 by decide), (by have zl1 : (1 : Int32).toInt = 1 := (by decide); omega), (by omega), rfl⟩
        · have dc519 : r493.toInt = 0 := eq_i (a := r493.toInt) (b := 0) rfl rfl c519
          have k679 : 0 ≤ r493.toInt ∧ r493.toInt ≤ 0 := ⟨t515.1, Int.le_trans (Int.le_of_eq dc519) (Int.le_refl _)⟩
          refine lv_iconst (v := 0) hx hb dX10_line0_157 (by decide) ?_
          exact ret_i (v := 0) hx hb hr hlocks hS hP hD dX10_line0_158 rfl (Nat.le_of_ble_eq_true rfl) (Nat.le_of_ble_eq_true rfl) ⟨F494, y495, y496, y497, y498, y499, y500, y501, y502, x_got, x_onces, f_h, g503, (SAME.tr (SAME.tr SAME.rf t468 (by decide)) t504 (by decide)), t505, t506, t507, t508, t509, t510, t511, t512, t513, t514, (SAME.at t504 (by decide) (SAME.at t468 (by decide) e_got)), (SAME.at t504 (by decide) (SAME.at t468 (by decide) e_onces)), s_h_0, s_h_5, s_h_6, s_h_7, s_h_44, (show 0 ≤ (0 : Int32).toInt ∧ (0 : Int32).toInt ≤ 1 by decide), (by have zl0 : (0 : Int32).toInt = 0 := (by decide); omega), (by omega), rfl⟩
      · have dc458 : v456.toInt = 12 := eq_i (a := v456.toInt) (b := 12) rfl rfl c458
        have k680 : 12 ≤ v456.toInt ∧ v456.toInt ≤ 12 := ⟨Int.le_trans (Int.le_refl _) (Int.le_of_eq dc458.symm), k457.2⟩
        refine lv_aload_n hx hb dX10_line0_136 rfl (lv_at hl 2 rfl) ?_
        refine lv_iconst (v := 4) hx hb dX10_line0_137 (by decide) ?_
        refine call_Vi (wr := [(h_tape, .inl (cB, 940, .inl f_tape)), (h_h, .inl (cI, 104, .inl f_h)), (h_names, .inl (cJ, 36, .inr (.inl f_names))), (h_reserved, .inl (cJ, 23, .inr (.inl f_reserved)))]) (As := [.int 4]) (rest := []) hx hb hml hown hw (m_X10_bad l D cI cJ cB cP cM cZ h0 Fh x_at 4 _ e_at) wV_X10_205_X10_bad dX10_line0_138 hK hP hD hS hA [4] [0, 1, 2, 3] rfl rfl (by decide) (by decide) (by decide) 0 10 rfl rfl GG.fb hG.at hl.1 rfl (Nat.le_of_ble_eq_true rfl) ⟨(Nat.le_of_ble_eq_true rfl), (Nat.le_of_ble_eq_true rfl)⟩ ⟨(Nat.le_of_ble_eq_true rfl), (Nat.le_of_ble_eq_true rfl)⟩ (fun r681 u H locs hp hP hD hS => ?_)
        have zl4 : (4 : Int32).toInt = 4 := by decide
        obtain ⟨F682, t683, t684, t685, rfl, rfl⟩ := hp
        have hP : va_P D vwCl [(h_tape, .inl (cB, 940, .inl f_tape)), (h_h, .inl (cI, 104, .inl f_h)), (h_names, .inl (cJ, 36, .inr (.inl f_names))), (h_reserved, .inl (cJ, 23, .inr (.inl f_reserved))), (h0, .inr (10, vL 67 F682))] H := hP
        have hD : va_D A [(h_tape, .inl (cB, 940, .inl f_tape)), (h_h, .inl (cI, 104, .inl f_h)), (h_names, .inl (cJ, 36, .inr (.inl f_names))), (h_reserved, .inl (cJ, 23, .inr (.inl f_reserved))), (h0, .inr (10, vL 67 F682))] := hD
        refine W.widen (k := 0) (n := 0) (Nat.le_of_ble_eq_true rfl) (Nat.le_of_ble_eq_true rfl) ?_
        exact ret_i (v := 0) hx hb hr hlocks hS (hP.sub (ws' := [(h0, .inr (10, vL 67 F682)), (h_tape, .inl (cB, 940, .inl f_tape)), (h_h, .inl (cI, 104, .inl f_h)), (h_names, .inl (cJ, 36, .inr (.inl f_names))), (h_reserved, .inl (cJ, 23, .inr (.inl f_reserved)))]) [4, 0, 1, 2, 3] rfl) (hD.sub (ws' := [(h0, .inr (10, vL 67 F682)), (h_tape, .inl (cB, 940, .inl f_tape)), (h_h, .inl (cI, 104, .inl f_h)), (h_names, .inl (cJ, 36, .inr (.inl f_names))), (h_reserved, .inl (cJ, 23, .inr (.inl f_reserved)))]) [4, 0, 1, 2, 3] (by decide) rfl) dX10_line0_141 rfl (Nat.le_of_ble_eq_true rfl) (Nat.le_of_ble_eq_true rfl) ⟨F682, x_p, x_token, x_at, x_span, x_number, 4, x_at, x_word, x_got, x_onces, f_h, f_names, (SAME.tr SAME.rf t683 (by decide)), (SAME.at t683 (by decide) e_p), i_x_p, (SAME.at t683 (by decide) e_token), i_x_token, (SAME.at t683 (by decide) e_at), (SAME.at t683 (by decide) e_span), (SAME.at t683 (by decide) e_number), t684, t685, (SAME.at t683 (by decide) e_word), (SAME.at t683 (by decide) e_got), (SAME.at t683 (by decide) e_onces), s_h_0, s_h_5, s_h_6, s_h_7, s_h_44, (show 0 ≤ (0 : Int32).toInt ∧ (0 : Int32).toInt ≤ 1 by decide), (by have zl0 : (0 : Int32).toInt = 0 := (by decide); omega), (by have zl4 : (4 : Int32).toInt = 4 := (by decide); omega), rfl⟩
  · have dc4 : 0 ≤ r1.toInt := nlt_i (a := r1.toInt) (b := 0) rfl rfl c4
    have k687 : 0 ≤ r1.toInt ∧ r1.toInt ≤ 4 := ⟨Int.le_trans (Int.le_refl _) dc4, t2.2⟩
    refine lv_aload_n hx hb dX10_line0_9 rfl (lv_at hl 1 rfl) ?_
    refine lv_iload_n hx hb dX10_line0_10 rfl (lv_at hl 0 rfl) ?_
    refine call_Vi (wr := [(h_h, .inl (cI, 104, .inl f_h)), (h_names, .inl (cJ, 36, .inr (.inl f_names))), (h_reserved, .inl (cJ, 23, .inr (.inl f_reserved)))]) (As := [.int r1]) (rest := []) hx hb hml hown hw (m_X10_isOnce l D cI cJ cB cP cM cZ h0 h_tape Fh x_size x_p x_limit x_token x_at x_span x_number x_fault x_faultAt x_word x_onces f_tape r1 _ e_tape e_size i_x_size e_p i_x_p e_limit i_x_limit e_token i_x_token e_at e_span e_number e_fault e_faultAt e_word e_onces (by omega)) wV_X10_239_X10_isOnce dX10_line0_11 hK hP hD hS hA [4, 0] [1, 2, 3] rfl rfl (by decide) (by decide) (by decide) 0 10 rfl rfl GG.fb hG.at hl.1 rfl (Nat.le_of_ble_eq_true rfl) ⟨(Nat.le_of_ble_eq_true rfl), (Nat.le_of_ble_eq_true rfl)⟩ ⟨(Nat.le_of_ble_eq_true rfl), (Nat.le_of_ble_eq_true rfl)⟩ (fun r688 u H locs hp hP hD hS => ?_)
    refine hp.elim (fun F689 h9z => h9z.elim (fun y690 h9z => h9z.elim (fun y691 h9z => h9z.elim (fun y692 h9z => h9z.elim (fun y693 h9z => h9z.elim (fun y694 h9z => h9z.elim (fun y695 h9z => h9z.elim (fun y696 h9z => h9z.elim (fun y697 h9z => h9z.elim (fun y698 h9z => h9z.elim (fun t699 h9z => h9z.elim (fun t700 h9z => h9z.elim (fun t701 h9z => h9z.elim (fun t702 h9z => h9z.elim (fun t703 h9z => h9z.elim (fun t704 h9z => h9z.elim (fun t705 h9z => h9z.elim (fun t706 h9z => h9z.elim (fun t707 h9z => h9z.elim (fun t708 h9z => h9z.elim (fun t709 h9z => h9z.elim (fun t710 h9z => h9z.elim (fun t711 h9z => h9z.elim (fun t712 h9z => h9z.elim (fun t713 h9z => ?_)))))))))))))))))))))))))
    subst h9z
    have hP : va_P D vwCl [(h_h, .inl (cI, 104, .inl f_h)), (h_names, .inl (cJ, 36, .inr (.inl f_names))), (h_reserved, .inl (cJ, 23, .inr (.inl f_reserved))), (h0, .inr (10, vL 67 F689)), (h_tape, .inl (cB, 940, .inl f_tape))] H := hP
    have hD : va_D A [(h_h, .inl (cI, 104, .inl f_h)), (h_names, .inl (cJ, 36, .inr (.inl f_names))), (h_reserved, .inl (cJ, 23, .inr (.inl f_reserved))), (h0, .inr (10, vL 67 F689)), (h_tape, .inl (cB, 940, .inl f_tape))] := hD
    refine W.widen (k := 0) (n := 0) (Nat.le_of_ble_eq_true rfl) (Nat.le_of_ble_eq_true rfl) ?_
    refine lv_if_ne (tgt := 19) hx hb dX10_line0_14 (by decide) (fun c715 => ?_) (fun c715 => ?_)
    · have dc715 : r688.toInt ≠ 0 := ne_i (a := r688.toInt) (b := 0) rfl rfl c715
      have k716 : 1 ≤ r688.toInt ∧ r688.toInt ≤ 1 := ⟨ne_lo dc715 t711.1 ⟨Int.le_refl _, Int.le_refl _⟩ (by decide), t711.2⟩
      refine lv_aload_n hx hb dX10_line0_19 rfl (lv_at hl 1 rfl) ?_
      refine lv_iload_n hx hb dX10_line0_20 rfl (lv_at hl 0 rfl) ?_
      refine lv_if_ne (tgt := 28) hx hb dX10_line0_21 (by decide) (fun c717 => ?_) (fun c717 => ?_)
      · have dc717 : r1.toInt ≠ 0 := ne_i (a := r1.toInt) (b := 0) rfl rfl c717
        have k718 : 1 ≤ r1.toInt ∧ r1.toInt ≤ 4 := ⟨ne_lo dc717 k687.1 ⟨Int.le_refl _, Int.le_refl _⟩ (by decide), k687.2⟩
        refine lv_iload_n hx hb dX10_line0_28 rfl (lv_at hl 0 rfl) ?_
        refine lv_iconst (v := 1) hx hb dX10_line0_29 (by decide) ?_
        refine lv_icmp_ne (tgt := 38) hx hb dX10_line0_30 (by decide) (fun c719 => ?_) (fun c719 => ?_)
        · have dc719 : r1.toInt ≠ 1 := ne_i (a := r1.toInt) (b := 1) rfl rfl c719
          have k720 : 2 ≤ r1.toInt ∧ r1.toInt ≤ 4 := ⟨ne_lo dc719 k718.1 ⟨Int.le_refl _, Int.le_refl _⟩ (by decide), k718.2⟩
          refine lv_iload_n hx hb dX10_line0_38 rfl (lv_at hl 0 rfl) ?_
          refine lv_iconst (v := 2) hx hb dX10_line0_39 (by decide) ?_
          refine lv_icmp_ne (tgt := 49) hx hb dX10_line0_40 (by decide) (fun c721 => ?_) (fun c721 => ?_)
          · have dc721 : r1.toInt ≠ 2 := ne_i (a := r1.toInt) (b := 2) rfl rfl c721
            have k722 : 3 ≤ r1.toInt ∧ r1.toInt ≤ 4 := ⟨ne_lo dc721 k720.1 ⟨Int.le_refl _, Int.le_refl _⟩ (by decide), k720.2⟩
            refine lv_iconst (v := 0) hx hb dX10_line0_49 (by decide) ?_
            refine lv_iload_n hx hb dX10_line0_50 rfl (lv_at hl 0 rfl) ?_
            refine lv_if_ne (tgt := 59) hx hb dX10_line0_51 (by decide) (fun c723 => ?_) (fun c723 => False.elim (bad_le (Int.le_of_eq (eq_i (a := r1.toInt) (b := 0) rfl rfl c723)) k722.1 (Int.le_refl _) (by decide)))
            have dc723 : r1.toInt ≠ 0 := ne_i (a := r1.toInt) (b := 0) rfl rfl c723
            refine lv_iload_n hx hb dX10_line0_59 rfl (lv_at hl 0 rfl) ?_
            refine lv_iconst (v := 1) hx hb dX10_line0_60 (by decide) ?_
            refine lv_icmp_ne (tgt := 70) hx hb dX10_line0_61 (by decide) (fun c724 => ?_) (fun c724 => False.elim (bad_le (Int.le_of_eq (eq_i (a := r1.toInt) (b := 1) rfl rfl c724)) k722.1 (Int.le_refl _) (by decide)))
            have dc724 : r1.toInt ≠ 1 := ne_i (a := r1.toInt) (b := 1) rfl rfl c724
            refine lv_iload_n hx hb dX10_line0_70 rfl (lv_at hl 0 rfl) ?_
            refine lv_iconst (v := 2) hx hb dX10_line0_71 (by decide) ?_
            refine lv_icmp_ne (tgt := 81) hx hb dX10_line0_72 (by decide) (fun c725 => ?_) (fun c725 => False.elim (bad_le (Int.le_of_eq (eq_i (a := r1.toInt) (b := 2) rfl rfl c725)) k722.1 (Int.le_refl _) (by decide)))
            have dc725 : r1.toInt ≠ 2 := ne_i (a := r1.toInt) (b := 2) rfl rfl c725
            refine lv_iload_n hx hb dX10_line0_81 rfl (lv_at hl 0 rfl) ?_
            refine lv_iconst (v := 3) hx hb dX10_line0_82 (by decide) ?_
            refine lv_icmp_ne (tgt := 91) hx hb dX10_line0_83 (by decide) (fun c726 => ?_) (fun c726 => ?_)
            · have dc726 : r1.toInt ≠ 3 := ne_i (a := r1.toInt) (b := 3) rfl rfl c726
              have k727 : 4 ≤ r1.toInt ∧ r1.toInt ≤ 4 := ⟨ne_lo dc726 k722.1 ⟨Int.le_refl _, Int.le_refl _⟩ (by decide), k722.2⟩
              refine lv_bipush (v := 20) hx hb dX10_line0_91 (by decide) ?_
              have n728 : F689 1 = .ref h_tape := (SAME.at t699 (by decide) e_tape)
              have n729 : F689 3 = .int x_size := (SAME.at t699 (by decide) e_size)
              have n730 : F689 5 = .int x_limit := (SAME.at t699 (by decide) e_limit)
              refine call_Vi (wr := [(h_h, .inl (cI, 104, .inl f_h)), (h_names, .inl (cJ, 36, .inr (.inl f_names))), (h_reserved, .inl (cJ, 23, .inr (.inl f_reserved)))]) (As := [.int 0, .int 20]) (rest := []) hx hb hml hown hw (m_X10_takes l D cI cJ cB cP cM cZ h0 h_tape F689 x_size y690 x_limit y691 y692 y694 y697 f_tape 0 20 _ n728 n729 i_x_size t700 t701 n730 i_x_limit t702 t703 t704 t706 t709 (by omega)) wV_X10_242_X10_takes dX10_line0_93 hK hP hD hS hA [3, 4] [0, 1, 2] rfl rfl (by decide) (by decide) (by decide) 0 10 rfl rfl GG.fb hG.at hl.1 rfl (Nat.le_of_ble_eq_true rfl) ⟨(Nat.le_of_ble_eq_true rfl), (Nat.le_of_ble_eq_true rfl)⟩ ⟨(Nat.le_of_ble_eq_true rfl), (Nat.le_of_ble_eq_true rfl)⟩ (fun r731 u H locs hp hP hD hS => ?_)
              have zl0 : (0 : Int32).toInt = 0 := by decide
              have zl20 : (20 : Int32).toInt = 20 := by decide
              rcases hp with hp | hp
              · obtain ⟨F732, y733, t734, t735, t736, t737, t738, rfl, rfl⟩ := hp
                have hP : va_P D vwCl [(h_h, .inl (cI, 104, .inl f_h)), (h_names, .inl (cJ, 36, .inr (.inl f_names))), (h_reserved, .inl (cJ, 23, .inr (.inl f_reserved))), (h0, .inr (10, vL 67 F732)), (h_tape, .inl (cB, 940, .inl f_tape))] H := hP
                have hD : va_D A [(h_h, .inl (cI, 104, .inl f_h)), (h_names, .inl (cJ, 36, .inr (.inl f_names))), (h_reserved, .inl (cJ, 23, .inr (.inl f_reserved))), (h0, .inr (10, vL 67 F732)), (h_tape, .inl (cB, 940, .inl f_tape))] := hD
                refine W.widen (k := 0) (n := 0) (Nat.le_of_ble_eq_true rfl) (Nat.le_of_ble_eq_true rfl) ?_
                refine lv_if_ne (tgt := 101) hx hb dX10_line0_96 (by decide) (fun g => absurd (by decide) g) (fun _ => ?_)
                refine lv_iconst (v := 0) hx hb dX10_line0_99 (by decide) ?_
                exact ret_i (v := 0) hx hb hr hlocks hS (hP.sub (ws' := [(h0, .inr (10, vL 67 F732)), (h_tape, .inl (cB, 940, .inl f_tape)), (h_h, .inl (cI, 104, .inl f_h)), (h_names, .inl (cJ, 36, .inr (.inl f_names))), (h_reserved, .inl (cJ, 23, .inr (.inl f_reserved)))]) [3, 4, 0, 1, 2] rfl) (hD.sub (ws' := [(h0, .inr (10, vL 67 F732)), (h_tape, .inl (cB, 940, .inl f_tape)), (h_h, .inl (cI, 104, .inl f_h)), (h_names, .inl (cJ, 36, .inr (.inl f_names))), (h_reserved, .inl (cJ, 23, .inr (.inl f_reserved)))]) [3, 4, 0, 1, 2] (by decide) rfl) dX10_line0_100 rfl (Nat.le_of_ble_eq_true rfl) (Nat.le_of_ble_eq_true rfl) ⟨F732, y690, y691, y692, y693, y694, y733, y692, y697, x_got, y698, f_h, f_names, (SAME.tr (SAME.tr SAME.rf t699 (by decide)) t734 (by decide)), (SAME.at t734 (by decide) t700), t701, (SAME.at t734 (by decide) t702), t703, (SAME.at t734 (by decide) t704), (SAME.at t734 (by decide) t705), (SAME.at t734 (by decide) t706), t735, t737, (SAME.at t734 (by decide) t709), (SAME.at t734 (by decide) (SAME.at t699 (by decide) e_got)), (SAME.at t734 (by decide) t710), s_h_0, s_h_5, s_h_6, s_h_7, s_h_44, (show 0 ≤ (0 : Int32).toInt ∧ (0 : Int32).toInt ≤ 1 by decide), (by have zl0 : (0 : Int32).toInt = 0 := (by decide); omega), (by omega), rfl⟩
              · refine hp.elim (fun F739 h9z => h9z.elim (fun y740 h9z => h9z.elim (fun y741 h9z => h9z.elim (fun y742 h9z => h9z.elim (fun y743 h9z => h9z.elim (fun y744 h9z => h9z.elim (fun y745 h9z => h9z.elim (fun y746 h9z => h9z.elim (fun t747 h9z => h9z.elim (fun t748 h9z => h9z.elim (fun t749 h9z => h9z.elim (fun t750 h9z => h9z.elim (fun t751 h9z => h9z.elim (fun t752 h9z => h9z.elim (fun t753 h9z => h9z.elim (fun t754 h9z => h9z.elim (fun t755 h9z => h9z.elim (fun t756 h9z => h9z.elim (fun t757 h9z => h9z.elim (fun t758 h9z => h9z.elim (fun t759 h9z => h9z.elim (fun t760 h9z => h9z.elim (fun t761 h9z => h9z.elim (fun t762 h9z => h9z.elim (fun t763 h9z => h9z.elim (fun heq925 h9z => ?_))))))))))))))))))))))))))
                subst heq925
                subst h9z
                have hP : va_P D vwCl [(h_h, .inl (cI, 104, .inl f_h)), (h_names, .inl (cJ, 36, .inr (.inl f_names))), (h_reserved, .inl (cJ, 23, .inr (.inl f_reserved))), (h0, .inr (10, vL 67 F739)), (h_tape, .inl (cB, 940, .inl f_tape))] H := hP
                have hD : va_D A [(h_h, .inl (cI, 104, .inl f_h)), (h_names, .inl (cJ, 36, .inr (.inl f_names))), (h_reserved, .inl (cJ, 23, .inr (.inl f_reserved))), (h0, .inr (10, vL 67 F739)), (h_tape, .inl (cB, 940, .inl f_tape))] := hD
                refine W.widen (k := 0) (n := 0) (Nat.le_of_ble_eq_true rfl) (Nat.le_of_ble_eq_true rfl) ?_
                have k765 : 2 ≤ y691.toInt ∧ y691.toInt ≤ 2 := ⟨Int.le_trans (Int.le_refl _) (Int.le_of_eq t759.symm), Int.le_trans (Int.le_of_eq t759) (Int.le_refl _)⟩
                have k766 : 0 ≤ y694.toInt ∧ y694.toInt ≤ 2147483647 := ⟨Int.le_trans (Int.le_refl _) t760, (ir_any _).2⟩
                have k767 : 0 ≤ y694.toInt ∧ y694.toInt ≤ 20 := ⟨k766.1, Int.le_trans t761 (Int.le_refl _)⟩
                refine lv_if_ne (tgt := 101) hx hb dX10_line0_96 (by decide) (fun _ => ?_) (fun g => absurd g (by decide))
                refine lv_aload_n hx hb dX10_line0_101 rfl (lv_at hl 1 rfl) ?_
                have n768 : F689 7 = .ref h_h := (SAME.at t699 (by decide) e_h)
                have n769 : F739 7 = .ref h_h := (SAME.at t747 (by decide) n768)
                refine get_f (D := D) (ci := 10) (v := .ref h_h) (C := RX10) (T := TX10) (N := 67) hx hb hw inAX10 hown hK hP 3 rfl rfl 7 (by decide) (hw _ q_1268) (fun _ h9 => h9) n769 dX10_line0_102 ?_
                refine lv_iload_n hx hb dX10_line0_105 rfl (lv_at hl 0 rfl) ?_
                refine lv_aload_n hx hb dX10_line0_106 rfl (lv_at hl 1 rfl) ?_
                refine get_f (D := D) (ci := 10) (v := .int y746) (C := RX10) (T := TX10) (N := 67) hx hb hw inAX10 hown hK hP 3 rfl rfl 19 (by decide) (hw _ q_1280) (fun _ h9 => h9) t758 dX10_line0_107 ?_
                obtain ⟨g770, eg770⟩ : ∃ z : Nat → Int32, upd f_h r1.toNatClampNeg y746 = z := ⟨_, rfl⟩
                have r771 : SG 0 0 0 40 g770 := by rw [← eg770]; exact s_h_0.up (Int.le_trans (by decide) k727.1) (Or.inr (Or.inl (dec_lt k727.1 (by decide))))
                have r772 : SG 44 55 0 9 g770 := by rw [← eg770]; exact s_h_44.up (Int.le_trans (by decide) k727.1) (Or.inl (lt_dec k727.2 (by decide)))
                have r773 : SG 5 5 0 12 g770 := by rw [← eg770]; exact s_h_5.up (Int.le_trans (by decide) k727.1) (Or.inl (lt_dec k727.2 (by decide)))
                have r774 : SG 6 6 0 12 g770 := by rw [← eg770]; exact s_h_6.up (Int.le_trans (by decide) k727.1) (Or.inl (lt_dec k727.2 (by decide)))
                have r775 : SG 7 7 0 6 g770 := by rw [← eg770]; exact s_h_7.up (Int.le_trans (by decide) k727.1) (Or.inl (lt_dec k727.2 (by decide)))
                refine iast_g hx hb hK hP hD hS 0 0 rfl rfl (ix_k k727 (by decide) (by decide)) eg770 dX10_line0_110 (fun H locs hP hD hS => ?_)
                have hP : va_P D vwCl [(h_h, .inl (cI, 104, .inl g770)), (h_names, .inl (cJ, 36, .inr (.inl f_names))), (h_reserved, .inl (cJ, 23, .inr (.inl f_reserved))), (h0, .inr (10, vL 67 F739)), (h_tape, .inl (cB, 940, .inl f_tape))] H := hP
                have hD : va_D A [(h_h, .inl (cI, 104, .inl g770)), (h_names, .inl (cJ, 36, .inr (.inl f_names))), (h_reserved, .inl (cJ, 23, .inr (.inl f_reserved))), (h0, .inr (10, vL 67 F739)), (h_tape, .inl (cB, 940, .inl f_tape))] := hD
                refine lv_iconst (v := 1) hx hb dX10_line0_111 (by decide) ?_
                exact ret_i (v := 1) hx hb hr hlocks hS (hP.sub (ws' := [(h0, .inr (10, vL 67 F739)), (h_tape, .inl (cB, 940, .inl f_tape)), (h_h, .inl (cI, 104, .inl g770)), (h_names, .inl (cJ, 36, .inr (.inl f_names))), (h_reserved, .inl (cJ, 23, .inr (.inl f_reserved)))]) [3, 4, 0, 1, 2] rfl) (hD.sub (ws' := [(h0, .inr (10, vL 67 F739)), (h_tape, .inl (cB, 940, .inl f_tape)), (h_h, .inl (cI, 104, .inl g770)), (h_names, .inl (cJ, 36, .inr (.inl f_names))), (h_reserved, .inl (cJ, 23, .inr (.inl f_reserved)))]) [3, 4, 0, 1, 2] (by decide) rfl) dX10_line0_112 rfl (Nat.le_of_ble_eq_true rfl) (Nat.le_of_ble_eq_true rfl) ⟨F739, y740, y741, y742, y743, y744, y695, y696, y745, y746, y698, g770, f_names, (SAME.tr (SAME.tr SAME.rf t699 (by decide)) t747 (by decide)), t748, t749, t750, t751, t752, t754, t756, (SAME.at t747 (by decide) t707), (SAME.at t747 (by decide) t708), t757, t758, (SAME.at t747 (by decide) t710), r771, r773, r774, r775, r772, (show 0 ≤ (1 : Int32).toInt ∧ (1 : Int32).toInt ≤ 1 by decide), (by have zl1 : (1 : Int32).toInt = 1 := (by decide); omega), (by omega), rfl⟩
            · have dc726 : r1.toInt = 3 := eq_i (a := r1.toInt) (b := 3) rfl rfl c726
              have k776 : 3 ≤ r1.toInt ∧ r1.toInt ≤ 3 := ⟨k722.1, Int.le_trans (Int.le_of_eq dc726) (Int.le_refl _)⟩
              refine lv_bipush (v := 9) hx hb dX10_line0_86 (by decide) ?_
              refine lv_goto (tgt := 93) hx hb dX10_line0_88 (by decide) ?_
              have n777 : F689 1 = .ref h_tape := (SAME.at t699 (by decide) e_tape)
              have n778 : F689 3 = .int x_size := (SAME.at t699 (by decide) e_size)
              have n779 : F689 5 = .int x_limit := (SAME.at t699 (by decide) e_limit)
              refine call_Vi (wr := [(h_h, .inl (cI, 104, .inl f_h)), (h_names, .inl (cJ, 36, .inr (.inl f_names))), (h_reserved, .inl (cJ, 23, .inr (.inl f_reserved)))]) (As := [.int 0, .int 9]) (rest := []) hx hb hml hown hw (m_X10_takes l D cI cJ cB cP cM cZ h0 h_tape F689 x_size y690 x_limit y691 y692 y694 y697 f_tape 0 9 _ n777 n778 i_x_size t700 t701 n779 i_x_limit t702 t703 t704 t706 t709 (by omega)) wV_X10_242_X10_takes dX10_line0_93 hK hP hD hS hA [3, 4] [0, 1, 2] rfl rfl (by decide) (by decide) (by decide) 0 10 rfl rfl GG.fb hG.at hl.1 rfl (Nat.le_of_ble_eq_true rfl) ⟨(Nat.le_of_ble_eq_true rfl), (Nat.le_of_ble_eq_true rfl)⟩ ⟨(Nat.le_of_ble_eq_true rfl), (Nat.le_of_ble_eq_true rfl)⟩ (fun r780 u H locs hp hP hD hS => ?_)
              have zl0 : (0 : Int32).toInt = 0 := by decide
              have zl9 : (9 : Int32).toInt = 9 := by decide
              rcases hp with hp | hp
              · obtain ⟨F781, y782, t783, t784, t785, t786, t787, rfl, rfl⟩ := hp
                have hP : va_P D vwCl [(h_h, .inl (cI, 104, .inl f_h)), (h_names, .inl (cJ, 36, .inr (.inl f_names))), (h_reserved, .inl (cJ, 23, .inr (.inl f_reserved))), (h0, .inr (10, vL 67 F781)), (h_tape, .inl (cB, 940, .inl f_tape))] H := hP
                have hD : va_D A [(h_h, .inl (cI, 104, .inl f_h)), (h_names, .inl (cJ, 36, .inr (.inl f_names))), (h_reserved, .inl (cJ, 23, .inr (.inl f_reserved))), (h0, .inr (10, vL 67 F781)), (h_tape, .inl (cB, 940, .inl f_tape))] := hD
                refine W.widen (k := 0) (n := 0) (Nat.le_of_ble_eq_true rfl) (Nat.le_of_ble_eq_true rfl) ?_
                refine lv_if_ne (tgt := 101) hx hb dX10_line0_96 (by decide) (fun g => absurd (by decide) g) (fun _ => ?_)
                refine lv_iconst (v := 0) hx hb dX10_line0_99 (by decide) ?_
                exact ret_i (v := 0) hx hb hr hlocks hS (hP.sub (ws' := [(h0, .inr (10, vL 67 F781)), (h_tape, .inl (cB, 940, .inl f_tape)), (h_h, .inl (cI, 104, .inl f_h)), (h_names, .inl (cJ, 36, .inr (.inl f_names))), (h_reserved, .inl (cJ, 23, .inr (.inl f_reserved)))]) [3, 4, 0, 1, 2] rfl) (hD.sub (ws' := [(h0, .inr (10, vL 67 F781)), (h_tape, .inl (cB, 940, .inl f_tape)), (h_h, .inl (cI, 104, .inl f_h)), (h_names, .inl (cJ, 36, .inr (.inl f_names))), (h_reserved, .inl (cJ, 23, .inr (.inl f_reserved)))]) [3, 4, 0, 1, 2] (by decide) rfl) dX10_line0_100 rfl (Nat.le_of_ble_eq_true rfl) (Nat.le_of_ble_eq_true rfl) ⟨F781, y690, y691, y692, y693, y694, y782, y692, y697, x_got, y698, f_h, f_names, (SAME.tr (SAME.tr SAME.rf t699 (by decide)) t783 (by decide)), (SAME.at t783 (by decide) t700), t701, (SAME.at t783 (by decide) t702), t703, (SAME.at t783 (by decide) t704), (SAME.at t783 (by decide) t705), (SAME.at t783 (by decide) t706), t784, t786, (SAME.at t783 (by decide) t709), (SAME.at t783 (by decide) (SAME.at t699 (by decide) e_got)), (SAME.at t783 (by decide) t710), s_h_0, s_h_5, s_h_6, s_h_7, s_h_44, (show 0 ≤ (0 : Int32).toInt ∧ (0 : Int32).toInt ≤ 1 by decide), (by have zl0 : (0 : Int32).toInt = 0 := (by decide); omega), (by omega), rfl⟩
              · refine hp.elim (fun F788 h9z => h9z.elim (fun y789 h9z => h9z.elim (fun y790 h9z => h9z.elim (fun y791 h9z => h9z.elim (fun y792 h9z => h9z.elim (fun y793 h9z => h9z.elim (fun y794 h9z => h9z.elim (fun y795 h9z => h9z.elim (fun t796 h9z => h9z.elim (fun t797 h9z => h9z.elim (fun t798 h9z => h9z.elim (fun t799 h9z => h9z.elim (fun t800 h9z => h9z.elim (fun t801 h9z => h9z.elim (fun t802 h9z => h9z.elim (fun t803 h9z => h9z.elim (fun t804 h9z => h9z.elim (fun t805 h9z => h9z.elim (fun t806 h9z => h9z.elim (fun t807 h9z => h9z.elim (fun t808 h9z => h9z.elim (fun t809 h9z => h9z.elim (fun t810 h9z => h9z.elim (fun t811 h9z => h9z.elim (fun t812 h9z => h9z.elim (fun heq925 h9z => ?_))))))))))))))))))))))))))
                subst heq925
                subst h9z
                have hP : va_P D vwCl [(h_h, .inl (cI, 104, .inl f_h)), (h_names, .inl (cJ, 36, .inr (.inl f_names))), (h_reserved, .inl (cJ, 23, .inr (.inl f_reserved))), (h0, .inr (10, vL 67 F788)), (h_tape, .inl (cB, 940, .inl f_tape))] H := hP
                have hD : va_D A [(h_h, .inl (cI, 104, .inl f_h)), (h_names, .inl (cJ, 36, .inr (.inl f_names))), (h_reserved, .inl (cJ, 23, .inr (.inl f_reserved))), (h0, .inr (10, vL 67 F788)), (h_tape, .inl (cB, 940, .inl f_tape))] := hD
                refine W.widen (k := 0) (n := 0) (Nat.le_of_ble_eq_true rfl) (Nat.le_of_ble_eq_true rfl) ?_
                have k814 : 2 ≤ y691.toInt ∧ y691.toInt ≤ 2 := ⟨Int.le_trans (Int.le_refl _) (Int.le_of_eq t808.symm), Int.le_trans (Int.le_of_eq t808) (Int.le_refl _)⟩
                have k815 : 0 ≤ y694.toInt ∧ y694.toInt ≤ 2147483647 := ⟨Int.le_trans (Int.le_refl _) t809, (ir_any _).2⟩
                have k816 : 0 ≤ y694.toInt ∧ y694.toInt ≤ 9 := ⟨k815.1, Int.le_trans t810 (Int.le_refl _)⟩
                refine lv_if_ne (tgt := 101) hx hb dX10_line0_96 (by decide) (fun _ => ?_) (fun g => absurd g (by decide))
                refine lv_aload_n hx hb dX10_line0_101 rfl (lv_at hl 1 rfl) ?_
                have n817 : F689 7 = .ref h_h := (SAME.at t699 (by decide) e_h)
                have n818 : F788 7 = .ref h_h := (SAME.at t796 (by decide) n817)
                refine get_f (D := D) (ci := 10) (v := .ref h_h) (C := RX10) (T := TX10) (N := 67) hx hb hw inAX10 hown hK hP 3 rfl rfl 7 (by decide) (hw _ q_1268) (fun _ h9 => h9) n818 dX10_line0_102 ?_
                refine lv_iload_n hx hb dX10_line0_105 rfl (lv_at hl 0 rfl) ?_
                refine lv_aload_n hx hb dX10_line0_106 rfl (lv_at hl 1 rfl) ?_
                refine get_f (D := D) (ci := 10) (v := .int y795) (C := RX10) (T := TX10) (N := 67) hx hb hw inAX10 hown hK hP 3 rfl rfl 19 (by decide) (hw _ q_1280) (fun _ h9 => h9) t807 dX10_line0_107 ?_
                obtain ⟨g819, eg819⟩ : ∃ z : Nat → Int32, upd f_h r1.toNatClampNeg y795 = z := ⟨_, rfl⟩
                have r820 : SG 0 0 0 40 g819 := by rw [← eg819]; exact s_h_0.up (Int.le_trans (by decide) k776.1) (Or.inr (Or.inl (dec_lt k776.1 (by decide))))
                have r821 : SG 44 55 0 9 g819 := by rw [← eg819]; exact s_h_44.up (Int.le_trans (by decide) k776.1) (Or.inl (lt_dec k776.2 (by decide)))
                have r822 : SG 5 5 0 12 g819 := by rw [← eg819]; exact s_h_5.up (Int.le_trans (by decide) k776.1) (Or.inl (lt_dec k776.2 (by decide)))
                have r823 : SG 6 6 0 12 g819 := by rw [← eg819]; exact s_h_6.up (Int.le_trans (by decide) k776.1) (Or.inl (lt_dec k776.2 (by decide)))
                have r824 : SG 7 7 0 6 g819 := by rw [← eg819]; exact s_h_7.up (Int.le_trans (by decide) k776.1) (Or.inl (lt_dec k776.2 (by decide)))
                refine iast_g hx hb hK hP hD hS 0 0 rfl rfl (ix_k k776 (by decide) (by decide)) eg819 dX10_line0_110 (fun H locs hP hD hS => ?_)
                have hP : va_P D vwCl [(h_h, .inl (cI, 104, .inl g819)), (h_names, .inl (cJ, 36, .inr (.inl f_names))), (h_reserved, .inl (cJ, 23, .inr (.inl f_reserved))), (h0, .inr (10, vL 67 F788)), (h_tape, .inl (cB, 940, .inl f_tape))] H := hP
                have hD : va_D A [(h_h, .inl (cI, 104, .inl g819)), (h_names, .inl (cJ, 36, .inr (.inl f_names))), (h_reserved, .inl (cJ, 23, .inr (.inl f_reserved))), (h0, .inr (10, vL 67 F788)), (h_tape, .inl (cB, 940, .inl f_tape))] := hD
                refine lv_iconst (v := 1) hx hb dX10_line0_111 (by decide) ?_
                exact ret_i (v := 1) hx hb hr hlocks hS (hP.sub (ws' := [(h0, .inr (10, vL 67 F788)), (h_tape, .inl (cB, 940, .inl f_tape)), (h_h, .inl (cI, 104, .inl g819)), (h_names, .inl (cJ, 36, .inr (.inl f_names))), (h_reserved, .inl (cJ, 23, .inr (.inl f_reserved)))]) [3, 4, 0, 1, 2] rfl) (hD.sub (ws' := [(h0, .inr (10, vL 67 F788)), (h_tape, .inl (cB, 940, .inl f_tape)), (h_h, .inl (cI, 104, .inl g819)), (h_names, .inl (cJ, 36, .inr (.inl f_names))), (h_reserved, .inl (cJ, 23, .inr (.inl f_reserved)))]) [3, 4, 0, 1, 2] (by decide) rfl) dX10_line0_112 rfl (Nat.le_of_ble_eq_true rfl) (Nat.le_of_ble_eq_true rfl) ⟨F788, y789, y790, y791, y792, y793, y695, y696, y794, y795, y698, g819, f_names, (SAME.tr (SAME.tr SAME.rf t699 (by decide)) t796 (by decide)), t797, t798, t799, t800, t801, t803, t805, (SAME.at t796 (by decide) t707), (SAME.at t796 (by decide) t708), t806, t807, (SAME.at t796 (by decide) t710), r820, r822, r823, r824, r821, (show 0 ≤ (1 : Int32).toInt ∧ (1 : Int32).toInt ≤ 1 by decide), (by have zl1 : (1 : Int32).toInt = 1 := (by decide); omega), (by omega), rfl⟩
          · have dc721 : r1.toInt = 2 := eq_i (a := r1.toInt) (b := 2) rfl rfl c721
            have k825 : 2 ≤ r1.toInt ∧ r1.toInt ≤ 2 := ⟨k720.1, Int.le_trans (Int.le_of_eq dc721) (Int.le_refl _)⟩
            refine lv_sipush (v := 300) hx hb dX10_line0_43 (by decide) ?_
            refine lv_goto (tgt := 50) hx hb dX10_line0_46 (by decide) ?_
            refine lv_iload_n hx hb dX10_line0_50 rfl (lv_at hl 0 rfl) ?_
            refine lv_if_ne (tgt := 59) hx hb dX10_line0_51 (by decide) (fun c826 => ?_) (fun c826 => False.elim (bad_le (Int.le_of_eq (eq_i (a := r1.toInt) (b := 0) rfl rfl c826)) k825.1 (Int.le_refl _) (by decide)))
            have dc826 : r1.toInt ≠ 0 := ne_i (a := r1.toInt) (b := 0) rfl rfl c826
            refine lv_iload_n hx hb dX10_line0_59 rfl (lv_at hl 0 rfl) ?_
            refine lv_iconst (v := 1) hx hb dX10_line0_60 (by decide) ?_
            refine lv_icmp_ne (tgt := 70) hx hb dX10_line0_61 (by decide) (fun c827 => ?_) (fun c827 => False.elim (bad_le (Int.le_of_eq (eq_i (a := r1.toInt) (b := 1) rfl rfl c827)) k825.1 (Int.le_refl _) (by decide)))
            have dc827 : r1.toInt ≠ 1 := ne_i (a := r1.toInt) (b := 1) rfl rfl c827
            refine lv_iload_n hx hb dX10_line0_70 rfl (lv_at hl 0 rfl) ?_
            refine lv_iconst (v := 2) hx hb dX10_line0_71 (by decide) ?_
            refine lv_icmp_ne (tgt := 81) hx hb dX10_line0_72 (by decide) (fun c828 => False.elim (bad_ne (ne_i (a := r1.toInt) (b := 2) rfl rfl c828) k825 ⟨Int.le_refl _, Int.le_refl _⟩ (by decide))) (fun c828 => ?_)
            have dc828 : r1.toInt = 2 := eq_i (a := r1.toInt) (b := 2) rfl rfl c828
            refine lv_sipush (v := 900) hx hb dX10_line0_75 (by decide) ?_
            refine lv_goto (tgt := 93) hx hb dX10_line0_78 (by decide) ?_
            have n829 : F689 1 = .ref h_tape := (SAME.at t699 (by decide) e_tape)
            have n830 : F689 3 = .int x_size := (SAME.at t699 (by decide) e_size)
            have n831 : F689 5 = .int x_limit := (SAME.at t699 (by decide) e_limit)
            refine call_Vi (wr := [(h_h, .inl (cI, 104, .inl f_h)), (h_names, .inl (cJ, 36, .inr (.inl f_names))), (h_reserved, .inl (cJ, 23, .inr (.inl f_reserved)))]) (As := [.int 300, .int 900]) (rest := []) hx hb hml hown hw (m_X10_takes l D cI cJ cB cP cM cZ h0 h_tape F689 x_size y690 x_limit y691 y692 y694 y697 f_tape 300 900 _ n829 n830 i_x_size t700 t701 n831 i_x_limit t702 t703 t704 t706 t709 (by omega)) wV_X10_242_X10_takes dX10_line0_93 hK hP hD hS hA [3, 4] [0, 1, 2] rfl rfl (by decide) (by decide) (by decide) 0 10 rfl rfl GG.fb hG.at hl.1 rfl (Nat.le_of_ble_eq_true rfl) ⟨(Nat.le_of_ble_eq_true rfl), (Nat.le_of_ble_eq_true rfl)⟩ ⟨(Nat.le_of_ble_eq_true rfl), (Nat.le_of_ble_eq_true rfl)⟩ (fun r832 u H locs hp hP hD hS => ?_)
            have zl300 : (300 : Int32).toInt = 300 := by decide
            have zl900 : (900 : Int32).toInt = 900 := by decide
            rcases hp with hp | hp
            · obtain ⟨F833, y834, t835, t836, t837, t838, t839, rfl, rfl⟩ := hp
              have hP : va_P D vwCl [(h_h, .inl (cI, 104, .inl f_h)), (h_names, .inl (cJ, 36, .inr (.inl f_names))), (h_reserved, .inl (cJ, 23, .inr (.inl f_reserved))), (h0, .inr (10, vL 67 F833)), (h_tape, .inl (cB, 940, .inl f_tape))] H := hP
              have hD : va_D A [(h_h, .inl (cI, 104, .inl f_h)), (h_names, .inl (cJ, 36, .inr (.inl f_names))), (h_reserved, .inl (cJ, 23, .inr (.inl f_reserved))), (h0, .inr (10, vL 67 F833)), (h_tape, .inl (cB, 940, .inl f_tape))] := hD
              refine W.widen (k := 0) (n := 0) (Nat.le_of_ble_eq_true rfl) (Nat.le_of_ble_eq_true rfl) ?_
              refine lv_if_ne (tgt := 101) hx hb dX10_line0_96 (by decide) (fun g => absurd (by decide) g) (fun _ => ?_)
              refine lv_iconst (v := 0) hx hb dX10_line0_99 (by decide) ?_
              exact ret_i (v := 0) hx hb hr hlocks hS (hP.sub (ws' := [(h0, .inr (10, vL 67 F833)), (h_tape, .inl (cB, 940, .inl f_tape)), (h_h, .inl (cI, 104, .inl f_h)), (h_names, .inl (cJ, 36, .inr (.inl f_names))), (h_reserved, .inl (cJ, 23, .inr (.inl f_reserved)))]) [3, 4, 0, 1, 2] rfl) (hD.sub (ws' := [(h0, .inr (10, vL 67 F833)), (h_tape, .inl (cB, 940, .inl f_tape)), (h_h, .inl (cI, 104, .inl f_h)), (h_names, .inl (cJ, 36, .inr (.inl f_names))), (h_reserved, .inl (cJ, 23, .inr (.inl f_reserved)))]) [3, 4, 0, 1, 2] (by decide) rfl) dX10_line0_100 rfl (Nat.le_of_ble_eq_true rfl) (Nat.le_of_ble_eq_true rfl) ⟨F833, y690, y691, y692, y693, y694, y834, y692, y697, x_got, y698, f_h, f_names, (SAME.tr (SAME.tr SAME.rf t699 (by decide)) t835 (by decide)), (SAME.at t835 (by decide) t700), t701, (SAME.at t835 (by decide) t702), t703, (SAME.at t835 (by decide) t704), (SAME.at t835 (by decide) t705), (SAME.at t835 (by decide) t706), t836, t838, (SAME.at t835 (by decide) t709), (SAME.at t835 (by decide) (SAME.at t699 (by decide) e_got)), (SAME.at t835 (by decide) t710), s_h_0, s_h_5, s_h_6, s_h_7, s_h_44, (show 0 ≤ (0 : Int32).toInt ∧ (0 : Int32).toInt ≤ 1 by decide), (by have zl0 : (0 : Int32).toInt = 0 := (by decide); omega), (by omega), rfl⟩
            · refine hp.elim (fun F840 h9z => h9z.elim (fun y841 h9z => h9z.elim (fun y842 h9z => h9z.elim (fun y843 h9z => h9z.elim (fun y844 h9z => h9z.elim (fun y845 h9z => h9z.elim (fun y846 h9z => h9z.elim (fun y847 h9z => h9z.elim (fun t848 h9z => h9z.elim (fun t849 h9z => h9z.elim (fun t850 h9z => h9z.elim (fun t851 h9z => h9z.elim (fun t852 h9z => h9z.elim (fun t853 h9z => h9z.elim (fun t854 h9z => h9z.elim (fun t855 h9z => h9z.elim (fun t856 h9z => h9z.elim (fun t857 h9z => h9z.elim (fun t858 h9z => h9z.elim (fun t859 h9z => h9z.elim (fun t860 h9z => h9z.elim (fun t861 h9z => h9z.elim (fun t862 h9z => h9z.elim (fun t863 h9z => h9z.elim (fun t864 h9z => h9z.elim (fun heq925 h9z => ?_))))))))))))))))))))))))))
              subst heq925
              subst h9z
              have hP : va_P D vwCl [(h_h, .inl (cI, 104, .inl f_h)), (h_names, .inl (cJ, 36, .inr (.inl f_names))), (h_reserved, .inl (cJ, 23, .inr (.inl f_reserved))), (h0, .inr (10, vL 67 F840)), (h_tape, .inl (cB, 940, .inl f_tape))] H := hP
              have hD : va_D A [(h_h, .inl (cI, 104, .inl f_h)), (h_names, .inl (cJ, 36, .inr (.inl f_names))), (h_reserved, .inl (cJ, 23, .inr (.inl f_reserved))), (h0, .inr (10, vL 67 F840)), (h_tape, .inl (cB, 940, .inl f_tape))] := hD
              refine W.widen (k := 0) (n := 0) (Nat.le_of_ble_eq_true rfl) (Nat.le_of_ble_eq_true rfl) ?_
              have k866 : 2 ≤ y691.toInt ∧ y691.toInt ≤ 2 := ⟨Int.le_trans (Int.le_refl _) (Int.le_of_eq t860.symm), Int.le_trans (Int.le_of_eq t860) (Int.le_refl _)⟩
              have k867 : 300 ≤ y694.toInt ∧ y694.toInt ≤ 2147483647 := ⟨Int.le_trans (Int.le_refl _) t861, (ir_any _).2⟩
              have k868 : 300 ≤ y694.toInt ∧ y694.toInt ≤ 900 := ⟨k867.1, Int.le_trans t862 (Int.le_refl _)⟩
              refine lv_if_ne (tgt := 101) hx hb dX10_line0_96 (by decide) (fun _ => ?_) (fun g => absurd g (by decide))
              refine lv_aload_n hx hb dX10_line0_101 rfl (lv_at hl 1 rfl) ?_
              have n869 : F689 7 = .ref h_h := (SAME.at t699 (by decide) e_h)
              have n870 : F840 7 = .ref h_h := (SAME.at t848 (by decide) n869)
              refine get_f (D := D) (ci := 10) (v := .ref h_h) (C := RX10) (T := TX10) (N := 67) hx hb hw inAX10 hown hK hP 3 rfl rfl 7 (by decide) (hw _ q_1268) (fun _ h9 => h9) n870 dX10_line0_102 ?_
              refine lv_iload_n hx hb dX10_line0_105 rfl (lv_at hl 0 rfl) ?_
              refine lv_aload_n hx hb dX10_line0_106 rfl (lv_at hl 1 rfl) ?_
              refine get_f (D := D) (ci := 10) (v := .int y847) (C := RX10) (T := TX10) (N := 67) hx hb hw inAX10 hown hK hP 3 rfl rfl 19 (by decide) (hw _ q_1280) (fun _ h9 => h9) t859 dX10_line0_107 ?_
              obtain ⟨g871, eg871⟩ : ∃ z : Nat → Int32, upd f_h r1.toNatClampNeg y847 = z := ⟨_, rfl⟩
              have r872 : SG 0 0 0 40 g871 := by rw [← eg871]; exact s_h_0.up (Int.le_trans (by decide) k825.1) (Or.inr (Or.inl (dec_lt k825.1 (by decide))))
              have r873 : SG 44 55 0 9 g871 := by rw [← eg871]; exact s_h_44.up (Int.le_trans (by decide) k825.1) (Or.inl (lt_dec k825.2 (by decide)))
              have r874 : SG 5 5 0 12 g871 := by rw [← eg871]; exact s_h_5.up (Int.le_trans (by decide) k825.1) (Or.inl (lt_dec k825.2 (by decide)))
              have r875 : SG 6 6 0 12 g871 := by rw [← eg871]; exact s_h_6.up (Int.le_trans (by decide) k825.1) (Or.inl (lt_dec k825.2 (by decide)))
              have r876 : SG 7 7 0 6 g871 := by rw [← eg871]; exact s_h_7.up (Int.le_trans (by decide) k825.1) (Or.inl (lt_dec k825.2 (by decide)))
              refine iast_g hx hb hK hP hD hS 0 0 rfl rfl (ix_k k825 (by decide) (by decide)) eg871 dX10_line0_110 (fun H locs hP hD hS => ?_)
              have hP : va_P D vwCl [(h_h, .inl (cI, 104, .inl g871)), (h_names, .inl (cJ, 36, .inr (.inl f_names))), (h_reserved, .inl (cJ, 23, .inr (.inl f_reserved))), (h0, .inr (10, vL 67 F840)), (h_tape, .inl (cB, 940, .inl f_tape))] H := hP
              have hD : va_D A [(h_h, .inl (cI, 104, .inl g871)), (h_names, .inl (cJ, 36, .inr (.inl f_names))), (h_reserved, .inl (cJ, 23, .inr (.inl f_reserved))), (h0, .inr (10, vL 67 F840)), (h_tape, .inl (cB, 940, .inl f_tape))] := hD
              refine lv_iconst (v := 1) hx hb dX10_line0_111 (by decide) ?_
              exact ret_i (v := 1) hx hb hr hlocks hS (hP.sub (ws' := [(h0, .inr (10, vL 67 F840)), (h_tape, .inl (cB, 940, .inl f_tape)), (h_h, .inl (cI, 104, .inl g871)), (h_names, .inl (cJ, 36, .inr (.inl f_names))), (h_reserved, .inl (cJ, 23, .inr (.inl f_reserved)))]) [3, 4, 0, 1, 2] rfl) (hD.sub (ws' := [(h0, .inr (10, vL 67 F840)), (h_tape, .inl (cB, 940, .inl f_tape)), (h_h, .inl (cI, 104, .inl g871)), (h_names, .inl (cJ, 36, .inr (.inl f_names))), (h_reserved, .inl (cJ, 23, .inr (.inl f_reserved)))]) [3, 4, 0, 1, 2] (by decide) rfl) dX10_line0_112 rfl (Nat.le_of_ble_eq_true rfl) (Nat.le_of_ble_eq_true rfl) ⟨F840, y841, y842, y843, y844, y845, y695, y696, y846, y847, y698, g871, f_names, (SAME.tr (SAME.tr SAME.rf t699 (by decide)) t848 (by decide)), t849, t850, t851, t852, t853, t855, t857, (SAME.at t848 (by decide) t707), (SAME.at t848 (by decide) t708), t858, t859, (SAME.at t848 (by decide) t710), r872, r874, r875, r876, r873, (show 0 ≤ (1 : Int32).toInt ∧ (1 : Int32).toInt ≤ 1 by decide), (by have zl1 : (1 : Int32).toInt = 1 := (by decide); omega), (by omega), rfl⟩
        · have dc719 : r1.toInt = 1 := eq_i (a := r1.toInt) (b := 1) rfl rfl c719
          have k877 : 1 ≤ r1.toInt ∧ r1.toInt ≤ 1 := ⟨k718.1, Int.le_trans (Int.le_of_eq dc719) (Int.le_refl _)⟩
          refine lv_bipush (v := 100) hx hb dX10_line0_33 (by decide) ?_
          refine lv_goto (tgt := 50) hx hb dX10_line0_35 (by decide) ?_
          refine lv_iload_n hx hb dX10_line0_50 rfl (lv_at hl 0 rfl) ?_
          refine lv_if_ne (tgt := 59) hx hb dX10_line0_51 (by decide) (fun c878 => ?_) (fun c878 => False.elim (bad_le (Int.le_of_eq (eq_i (a := r1.toInt) (b := 0) rfl rfl c878)) k877.1 (Int.le_refl _) (by decide)))
          have dc878 : r1.toInt ≠ 0 := ne_i (a := r1.toInt) (b := 0) rfl rfl c878
          refine lv_iload_n hx hb dX10_line0_59 rfl (lv_at hl 0 rfl) ?_
          refine lv_iconst (v := 1) hx hb dX10_line0_60 (by decide) ?_
          refine lv_icmp_ne (tgt := 70) hx hb dX10_line0_61 (by decide) (fun c879 => False.elim (bad_ne (ne_i (a := r1.toInt) (b := 1) rfl rfl c879) k877 ⟨Int.le_refl _, Int.le_refl _⟩ (by decide))) (fun c879 => ?_)
          have dc879 : r1.toInt = 1 := eq_i (a := r1.toInt) (b := 1) rfl rfl c879
          refine lv_sipush (v := 300) hx hb dX10_line0_64 (by decide) ?_
          refine lv_goto (tgt := 93) hx hb dX10_line0_67 (by decide) ?_
          have n880 : F689 1 = .ref h_tape := (SAME.at t699 (by decide) e_tape)
          have n881 : F689 3 = .int x_size := (SAME.at t699 (by decide) e_size)
          have n882 : F689 5 = .int x_limit := (SAME.at t699 (by decide) e_limit)
          refine call_Vi (wr := [(h_h, .inl (cI, 104, .inl f_h)), (h_names, .inl (cJ, 36, .inr (.inl f_names))), (h_reserved, .inl (cJ, 23, .inr (.inl f_reserved)))]) (As := [.int 100, .int 300]) (rest := []) hx hb hml hown hw (m_X10_takes l D cI cJ cB cP cM cZ h0 h_tape F689 x_size y690 x_limit y691 y692 y694 y697 f_tape 100 300 _ n880 n881 i_x_size t700 t701 n882 i_x_limit t702 t703 t704 t706 t709 (by omega)) wV_X10_242_X10_takes dX10_line0_93 hK hP hD hS hA [3, 4] [0, 1, 2] rfl rfl (by decide) (by decide) (by decide) 0 10 rfl rfl GG.fb hG.at hl.1 rfl (Nat.le_of_ble_eq_true rfl) ⟨(Nat.le_of_ble_eq_true rfl), (Nat.le_of_ble_eq_true rfl)⟩ ⟨(Nat.le_of_ble_eq_true rfl), (Nat.le_of_ble_eq_true rfl)⟩ (fun r883 u H locs hp hP hD hS => ?_)
          have zl100 : (100 : Int32).toInt = 100 := by decide
          have zl300 : (300 : Int32).toInt = 300 := by decide
          rcases hp with hp | hp
          · obtain ⟨F884, y885, t886, t887, t888, t889, t890, rfl, rfl⟩ := hp
            have hP : va_P D vwCl [(h_h, .inl (cI, 104, .inl f_h)), (h_names, .inl (cJ, 36, .inr (.inl f_names))), (h_reserved, .inl (cJ, 23, .inr (.inl f_reserved))), (h0, .inr (10, vL 67 F884)), (h_tape, .inl (cB, 940, .inl f_tape))] H := hP
            have hD : va_D A [(h_h, .inl (cI, 104, .inl f_h)), (h_names, .inl (cJ, 36, .inr (.inl f_names))), (h_reserved, .inl (cJ, 23, .inr (.inl f_reserved))), (h0, .inr (10, vL 67 F884)), (h_tape, .inl (cB, 940, .inl f_tape))] := hD
            refine W.widen (k := 0) (n := 0) (Nat.le_of_ble_eq_true rfl) (Nat.le_of_ble_eq_true rfl) ?_
            refine lv_if_ne (tgt := 101) hx hb dX10_line0_96 (by decide) (fun g => absurd (by decide) g) (fun _ => ?_)
            refine lv_iconst (v := 0) hx hb dX10_line0_99 (by decide) ?_
            exact ret_i (v := 0) hx hb hr hlocks hS (hP.sub (ws' := [(h0, .inr (10, vL 67 F884)), (h_tape, .inl (cB, 940, .inl f_tape)), (h_h, .inl (cI, 104, .inl f_h)), (h_names, .inl (cJ, 36, .inr (.inl f_names))), (h_reserved, .inl (cJ, 23, .inr (.inl f_reserved)))]) [3, 4, 0, 1, 2] rfl) (hD.sub (ws' := [(h0, .inr (10, vL 67 F884)), (h_tape, .inl (cB, 940, .inl f_tape)), (h_h, .inl (cI, 104, .inl f_h)), (h_names, .inl (cJ, 36, .inr (.inl f_names))), (h_reserved, .inl (cJ, 23, .inr (.inl f_reserved)))]) [3, 4, 0, 1, 2] (by decide) rfl) dX10_line0_100 rfl (Nat.le_of_ble_eq_true rfl) (Nat.le_of_ble_eq_true rfl) ⟨F884, y690, y691, y692, y693, y694, y885, y692, y697, x_got, y698, f_h, f_names, (SAME.tr (SAME.tr SAME.rf t699 (by decide)) t886 (by decide)), (SAME.at t886 (by decide) t700), t701, (SAME.at t886 (by decide) t702), t703, (SAME.at t886 (by decide) t704), (SAME.at t886 (by decide) t705), (SAME.at t886 (by decide) t706), t887, t889, (SAME.at t886 (by decide) t709), (SAME.at t886 (by decide) (SAME.at t699 (by decide) e_got)), (SAME.at t886 (by decide) t710), s_h_0, s_h_5, s_h_6, s_h_7, s_h_44, (show 0 ≤ (0 : Int32).toInt ∧ (0 : Int32).toInt ≤ 1 by decide), (by have zl0 : (0 : Int32).toInt = 0 := (by decide); omega), (by omega), rfl⟩
          · refine hp.elim (fun F891 h9z => h9z.elim (fun y892 h9z => h9z.elim (fun y893 h9z => h9z.elim (fun y894 h9z => h9z.elim (fun y895 h9z => h9z.elim (fun y896 h9z => h9z.elim (fun y897 h9z => h9z.elim (fun y898 h9z => h9z.elim (fun t899 h9z => h9z.elim (fun t900 h9z => h9z.elim (fun t901 h9z => h9z.elim (fun t902 h9z => h9z.elim (fun t903 h9z => h9z.elim (fun t904 h9z => h9z.elim (fun t905 h9z => h9z.elim (fun t906 h9z => h9z.elim (fun t907 h9z => h9z.elim (fun t908 h9z => h9z.elim (fun t909 h9z => h9z.elim (fun t910 h9z => h9z.elim (fun t911 h9z => h9z.elim (fun t912 h9z => h9z.elim (fun t913 h9z => h9z.elim (fun t914 h9z => h9z.elim (fun t915 h9z => h9z.elim (fun heq925 h9z => ?_))))))))))))))))))))))))))
            subst heq925
            subst h9z
            have hP : va_P D vwCl [(h_h, .inl (cI, 104, .inl f_h)), (h_names, .inl (cJ, 36, .inr (.inl f_names))), (h_reserved, .inl (cJ, 23, .inr (.inl f_reserved))), (h0, .inr (10, vL 67 F891)), (h_tape, .inl (cB, 940, .inl f_tape))] H := hP
            have hD : va_D A [(h_h, .inl (cI, 104, .inl f_h)), (h_names, .inl (cJ, 36, .inr (.inl f_names))), (h_reserved, .inl (cJ, 23, .inr (.inl f_reserved))), (h0, .inr (10, vL 67 F891)), (h_tape, .inl (cB, 940, .inl f_tape))] := hD
            refine W.widen (k := 0) (n := 0) (Nat.le_of_ble_eq_true rfl) (Nat.le_of_ble_eq_true rfl) ?_
            have k917 : 2 ≤ y691.toInt ∧ y691.toInt ≤ 2 := ⟨Int.le_trans (Int.le_refl _) (Int.le_of_eq t911.symm), Int.le_trans (Int.le_of_eq t911) (Int.le_refl _)⟩
            have k918 : 100 ≤ y694.toInt ∧ y694.toInt ≤ 2147483647 := ⟨Int.le_trans (Int.le_refl _) t912, (ir_any _).2⟩
            have k919 : 100 ≤ y694.toInt ∧ y694.toInt ≤ 300 := ⟨k918.1, Int.le_trans t913 (Int.le_refl _)⟩
            refine lv_if_ne (tgt := 101) hx hb dX10_line0_96 (by decide) (fun _ => ?_) (fun g => absurd g (by decide))
            refine lv_aload_n hx hb dX10_line0_101 rfl (lv_at hl 1 rfl) ?_
            have n920 : F689 7 = .ref h_h := (SAME.at t699 (by decide) e_h)
            have n921 : F891 7 = .ref h_h := (SAME.at t899 (by decide) n920)
            refine get_f (D := D) (ci := 10) (v := .ref h_h) (C := RX10) (T := TX10) (N := 67) hx hb hw inAX10 hown hK hP 3 rfl rfl 7 (by decide) (hw _ q_1268) (fun _ h9 => h9) n921 dX10_line0_102 ?_
            refine lv_iload_n hx hb dX10_line0_105 rfl (lv_at hl 0 rfl) ?_
            refine lv_aload_n hx hb dX10_line0_106 rfl (lv_at hl 1 rfl) ?_
            refine get_f (D := D) (ci := 10) (v := .int y898) (C := RX10) (T := TX10) (N := 67) hx hb hw inAX10 hown hK hP 3 rfl rfl 19 (by decide) (hw _ q_1280) (fun _ h9 => h9) t910 dX10_line0_107 ?_
            obtain ⟨g922, eg922⟩ : ∃ z : Nat → Int32, upd f_h r1.toNatClampNeg y898 = z := ⟨_, rfl⟩
            have r923 : SG 0 0 0 40 g922 := by rw [← eg922]; exact s_h_0.up (Int.le_trans (by decide) k877.1) (Or.inr (Or.inl (dec_lt k877.1 (by decide))))
            have r924 : SG 44 55 0 9 g922 := by rw [← eg922]; exact s_h_44.up (Int.le_trans (by decide) k877.1) (Or.inl (lt_dec k877.2 (by decide)))
            have r925 : SG 5 5 0 12 g922 := by rw [← eg922]; exact s_h_5.up (Int.le_trans (by decide) k877.1) (Or.inl (lt_dec k877.2 (by decide)))
            have r926 : SG 6 6 0 12 g922 := by rw [← eg922]; exact s_h_6.up (Int.le_trans (by decide) k877.1) (Or.inl (lt_dec k877.2 (by decide)))
            have r927 : SG 7 7 0 6 g922 := by rw [← eg922]; exact s_h_7.up (Int.le_trans (by decide) k877.1) (Or.inl (lt_dec k877.2 (by decide)))
            refine iast_g hx hb hK hP hD hS 0 0 rfl rfl (ix_k k877 (by decide) (by decide)) eg922 dX10_line0_110 (fun H locs hP hD hS => ?_)
            have hP : va_P D vwCl [(h_h, .inl (cI, 104, .inl g922)), (h_names, .inl (cJ, 36, .inr (.inl f_names))), (h_reserved, .inl (cJ, 23, .inr (.inl f_reserved))), (h0, .inr (10, vL 67 F891)), (h_tape, .inl (cB, 940, .inl f_tape))] H := hP
            have hD : va_D A [(h_h, .inl (cI, 104, .inl g922)), (h_names, .inl (cJ, 36, .inr (.inl f_names))), (h_reserved, .inl (cJ, 23, .inr (.inl f_reserved))), (h0, .inr (10, vL 67 F891)), (h_tape, .inl (cB, 940, .inl f_tape))] := hD
            refine lv_iconst (v := 1) hx hb dX10_line0_111 (by decide) ?_
            exact ret_i (v := 1) hx hb hr hlocks hS (hP.sub (ws' := [(h0, .inr (10, vL 67 F891)), (h_tape, .inl (cB, 940, .inl f_tape)), (h_h, .inl (cI, 104, .inl g922)), (h_names, .inl (cJ, 36, .inr (.inl f_names))), (h_reserved, .inl (cJ, 23, .inr (.inl f_reserved)))]) [3, 4, 0, 1, 2] rfl) (hD.sub (ws' := [(h0, .inr (10, vL 67 F891)), (h_tape, .inl (cB, 940, .inl f_tape)), (h_h, .inl (cI, 104, .inl g922)), (h_names, .inl (cJ, 36, .inr (.inl f_names))), (h_reserved, .inl (cJ, 23, .inr (.inl f_reserved)))]) [3, 4, 0, 1, 2] (by decide) rfl) dX10_line0_112 rfl (Nat.le_of_ble_eq_true rfl) (Nat.le_of_ble_eq_true rfl) ⟨F891, y892, y893, y894, y895, y896, y695, y696, y897, y898, y698, g922, f_names, (SAME.tr (SAME.tr SAME.rf t699 (by decide)) t899 (by decide)), t900, t901, t902, t903, t904, t906, t908, (SAME.at t899 (by decide) t707), (SAME.at t899 (by decide) t708), t909, t910, (SAME.at t899 (by decide) t710), r923, r925, r926, r927, r924, (show 0 ≤ (1 : Int32).toInt ∧ (1 : Int32).toInt ≤ 1 by decide), (by have zl1 : (1 : Int32).toInt = 1 := (by decide); omega), (by omega), rfl⟩
      · have dc717 : r1.toInt = 0 := eq_i (a := r1.toInt) (b := 0) rfl rfl c717
        have k928 : 0 ≤ r1.toInt ∧ r1.toInt ≤ 0 := ⟨k687.1, Int.le_trans (Int.le_of_eq dc717) (Int.le_refl _)⟩
        refine lv_iconst (v := 5) hx hb dX10_line0_24 (by decide) ?_
        refine lv_goto (tgt := 50) hx hb dX10_line0_25 (by decide) ?_
        refine lv_iload_n hx hb dX10_line0_50 rfl (lv_at hl 0 rfl) ?_
        refine lv_if_ne (tgt := 59) hx hb dX10_line0_51 (by decide) (fun c929 => False.elim (bad_ne (ne_i (a := r1.toInt) (b := 0) rfl rfl c929) k928 ⟨Int.le_refl _, Int.le_refl _⟩ (by decide))) (fun c929 => ?_)
        have dc929 : r1.toInt = 0 := eq_i (a := r1.toInt) (b := 0) rfl rfl c929
        refine lv_bipush (v := 40) hx hb dX10_line0_54 (by decide) ?_
        refine lv_goto (tgt := 93) hx hb dX10_line0_56 (by decide) ?_
        have n930 : F689 1 = .ref h_tape := (SAME.at t699 (by decide) e_tape)
        have n931 : F689 3 = .int x_size := (SAME.at t699 (by decide) e_size)
        have n932 : F689 5 = .int x_limit := (SAME.at t699 (by decide) e_limit)
        refine call_Vi (wr := [(h_h, .inl (cI, 104, .inl f_h)), (h_names, .inl (cJ, 36, .inr (.inl f_names))), (h_reserved, .inl (cJ, 23, .inr (.inl f_reserved)))]) (As := [.int 5, .int 40]) (rest := []) hx hb hml hown hw (m_X10_takes l D cI cJ cB cP cM cZ h0 h_tape F689 x_size y690 x_limit y691 y692 y694 y697 f_tape 5 40 _ n930 n931 i_x_size t700 t701 n932 i_x_limit t702 t703 t704 t706 t709 (by omega)) wV_X10_242_X10_takes dX10_line0_93 hK hP hD hS hA [3, 4] [0, 1, 2] rfl rfl (by decide) (by decide) (by decide) 0 10 rfl rfl GG.fb hG.at hl.1 rfl (Nat.le_of_ble_eq_true rfl) ⟨(Nat.le_of_ble_eq_true rfl), (Nat.le_of_ble_eq_true rfl)⟩ ⟨(Nat.le_of_ble_eq_true rfl), (Nat.le_of_ble_eq_true rfl)⟩ (fun r933 u H locs hp hP hD hS => ?_)
        have zl5 : (5 : Int32).toInt = 5 := by decide
        have zl40 : (40 : Int32).toInt = 40 := by decide
        rcases hp with hp | hp
        · obtain ⟨F934, y935, t936, t937, t938, t939, t940, rfl, rfl⟩ := hp
          have hP : va_P D vwCl [(h_h, .inl (cI, 104, .inl f_h)), (h_names, .inl (cJ, 36, .inr (.inl f_names))), (h_reserved, .inl (cJ, 23, .inr (.inl f_reserved))), (h0, .inr (10, vL 67 F934)), (h_tape, .inl (cB, 940, .inl f_tape))] H := hP
          have hD : va_D A [(h_h, .inl (cI, 104, .inl f_h)), (h_names, .inl (cJ, 36, .inr (.inl f_names))), (h_reserved, .inl (cJ, 23, .inr (.inl f_reserved))), (h0, .inr (10, vL 67 F934)), (h_tape, .inl (cB, 940, .inl f_tape))] := hD
          refine W.widen (k := 0) (n := 0) (Nat.le_of_ble_eq_true rfl) (Nat.le_of_ble_eq_true rfl) ?_
          refine lv_if_ne (tgt := 101) hx hb dX10_line0_96 (by decide) (fun g => absurd (by decide) g) (fun _ => ?_)
          refine lv_iconst (v := 0) hx hb dX10_line0_99 (by decide) ?_
          exact ret_i (v := 0) hx hb hr hlocks hS (hP.sub (ws' := [(h0, .inr (10, vL 67 F934)), (h_tape, .inl (cB, 940, .inl f_tape)), (h_h, .inl (cI, 104, .inl f_h)), (h_names, .inl (cJ, 36, .inr (.inl f_names))), (h_reserved, .inl (cJ, 23, .inr (.inl f_reserved)))]) [3, 4, 0, 1, 2] rfl) (hD.sub (ws' := [(h0, .inr (10, vL 67 F934)), (h_tape, .inl (cB, 940, .inl f_tape)), (h_h, .inl (cI, 104, .inl f_h)), (h_names, .inl (cJ, 36, .inr (.inl f_names))), (h_reserved, .inl (cJ, 23, .inr (.inl f_reserved)))]) [3, 4, 0, 1, 2] (by decide) rfl) dX10_line0_100 rfl (Nat.le_of_ble_eq_true rfl) (Nat.le_of_ble_eq_true rfl) ⟨F934, y690, y691, y692, y693, y694, y935, y692, y697, x_got, y698, f_h, f_names, (SAME.tr (SAME.tr SAME.rf t699 (by decide)) t936 (by decide)), (SAME.at t936 (by decide) t700), t701, (SAME.at t936 (by decide) t702), t703, (SAME.at t936 (by decide) t704), (SAME.at t936 (by decide) t705), (SAME.at t936 (by decide) t706), t937, t939, (SAME.at t936 (by decide) t709), (SAME.at t936 (by decide) (SAME.at t699 (by decide) e_got)), (SAME.at t936 (by decide) t710), s_h_0, s_h_5, s_h_6, s_h_7, s_h_44, (show 0 ≤ (0 : Int32).toInt ∧ (0 : Int32).toInt ≤ 1 by decide), (by have zl0 : (0 : Int32).toInt = 0 := (by decide); omega), (by omega), rfl⟩
        · refine hp.elim (fun F941 h9z => h9z.elim (fun y942 h9z => h9z.elim (fun y943 h9z => h9z.elim (fun y944 h9z => h9z.elim (fun y945 h9z => h9z.elim (fun y946 h9z => h9z.elim (fun y947 h9z => h9z.elim (fun y948 h9z => h9z.elim (fun t949 h9z => h9z.elim (fun t950 h9z => h9z.elim (fun t951 h9z => h9z.elim (fun t952 h9z => h9z.elim (fun t953 h9z => h9z.elim (fun t954 h9z => h9z.elim (fun t955 h9z => h9z.elim (fun t956 h9z => h9z.elim (fun t957 h9z => h9z.elim (fun t958 h9z => h9z.elim (fun t959 h9z => h9z.elim (fun t960 h9z => h9z.elim (fun t961 h9z => h9z.elim (fun t962 h9z => h9z.elim (fun t963 h9z => h9z.elim (fun t964 h9z => h9z.elim (fun t965 h9z => h9z.elim (fun heq925 h9z => ?_))))))))))))))))))))))))))
          subst heq925
          subst h9z
          have hP : va_P D vwCl [(h_h, .inl (cI, 104, .inl f_h)), (h_names, .inl (cJ, 36, .inr (.inl f_names))), (h_reserved, .inl (cJ, 23, .inr (.inl f_reserved))), (h0, .inr (10, vL 67 F941)), (h_tape, .inl (cB, 940, .inl f_tape))] H := hP
          have hD : va_D A [(h_h, .inl (cI, 104, .inl f_h)), (h_names, .inl (cJ, 36, .inr (.inl f_names))), (h_reserved, .inl (cJ, 23, .inr (.inl f_reserved))), (h0, .inr (10, vL 67 F941)), (h_tape, .inl (cB, 940, .inl f_tape))] := hD
          refine W.widen (k := 0) (n := 0) (Nat.le_of_ble_eq_true rfl) (Nat.le_of_ble_eq_true rfl) ?_
          have k967 : 2 ≤ y691.toInt ∧ y691.toInt ≤ 2 := ⟨Int.le_trans (Int.le_refl _) (Int.le_of_eq t961.symm), Int.le_trans (Int.le_of_eq t961) (Int.le_refl _)⟩
          have k968 : 5 ≤ y694.toInt ∧ y694.toInt ≤ 2147483647 := ⟨Int.le_trans (Int.le_refl _) t962, (ir_any _).2⟩
          have k969 : 5 ≤ y694.toInt ∧ y694.toInt ≤ 40 := ⟨k968.1, Int.le_trans t963 (Int.le_refl _)⟩
          refine lv_if_ne (tgt := 101) hx hb dX10_line0_96 (by decide) (fun _ => ?_) (fun g => absurd g (by decide))
          refine lv_aload_n hx hb dX10_line0_101 rfl (lv_at hl 1 rfl) ?_
          have n970 : F689 7 = .ref h_h := (SAME.at t699 (by decide) e_h)
          have n971 : F941 7 = .ref h_h := (SAME.at t949 (by decide) n970)
          refine get_f (D := D) (ci := 10) (v := .ref h_h) (C := RX10) (T := TX10) (N := 67) hx hb hw inAX10 hown hK hP 3 rfl rfl 7 (by decide) (hw _ q_1268) (fun _ h9 => h9) n971 dX10_line0_102 ?_
          refine lv_iload_n hx hb dX10_line0_105 rfl (lv_at hl 0 rfl) ?_
          refine lv_aload_n hx hb dX10_line0_106 rfl (lv_at hl 1 rfl) ?_
          refine get_f (D := D) (ci := 10) (v := .int y948) (C := RX10) (T := TX10) (N := 67) hx hb hw inAX10 hown hK hP 3 rfl rfl 19 (by decide) (hw _ q_1280) (fun _ h9 => h9) t960 dX10_line0_107 ?_
          obtain ⟨g972, eg972⟩ : ∃ z : Nat → Int32, upd f_h r1.toNatClampNeg y948 = z := ⟨_, rfl⟩
          have r973 : SG 0 0 0 40 g972 := by rw [← eg972]; exact s_h_0.up (Int.le_trans (by decide) k928.1) (by omega)
          have r974 : SG 44 55 0 9 g972 := by rw [← eg972]; exact s_h_44.up (Int.le_trans (by decide) k928.1) (Or.inl (lt_dec k928.2 (by decide)))
          have r975 : SG 5 5 0 12 g972 := by rw [← eg972]; exact s_h_5.up (Int.le_trans (by decide) k928.1) (Or.inl (lt_dec k928.2 (by decide)))
          have r976 : SG 6 6 0 12 g972 := by rw [← eg972]; exact s_h_6.up (Int.le_trans (by decide) k928.1) (Or.inl (lt_dec k928.2 (by decide)))
          have r977 : SG 7 7 0 6 g972 := by rw [← eg972]; exact s_h_7.up (Int.le_trans (by decide) k928.1) (Or.inl (lt_dec k928.2 (by decide)))
          refine iast_g hx hb hK hP hD hS 0 0 rfl rfl (ix_k k928 (by decide) (by decide)) eg972 dX10_line0_110 (fun H locs hP hD hS => ?_)
          have hP : va_P D vwCl [(h_h, .inl (cI, 104, .inl g972)), (h_names, .inl (cJ, 36, .inr (.inl f_names))), (h_reserved, .inl (cJ, 23, .inr (.inl f_reserved))), (h0, .inr (10, vL 67 F941)), (h_tape, .inl (cB, 940, .inl f_tape))] H := hP
          have hD : va_D A [(h_h, .inl (cI, 104, .inl g972)), (h_names, .inl (cJ, 36, .inr (.inl f_names))), (h_reserved, .inl (cJ, 23, .inr (.inl f_reserved))), (h0, .inr (10, vL 67 F941)), (h_tape, .inl (cB, 940, .inl f_tape))] := hD
          refine lv_iconst (v := 1) hx hb dX10_line0_111 (by decide) ?_
          exact ret_i (v := 1) hx hb hr hlocks hS (hP.sub (ws' := [(h0, .inr (10, vL 67 F941)), (h_tape, .inl (cB, 940, .inl f_tape)), (h_h, .inl (cI, 104, .inl g972)), (h_names, .inl (cJ, 36, .inr (.inl f_names))), (h_reserved, .inl (cJ, 23, .inr (.inl f_reserved)))]) [3, 4, 0, 1, 2] rfl) (hD.sub (ws' := [(h0, .inr (10, vL 67 F941)), (h_tape, .inl (cB, 940, .inl f_tape)), (h_h, .inl (cI, 104, .inl g972)), (h_names, .inl (cJ, 36, .inr (.inl f_names))), (h_reserved, .inl (cJ, 23, .inr (.inl f_reserved)))]) [3, 4, 0, 1, 2] (by decide) rfl) dX10_line0_112 rfl (Nat.le_of_ble_eq_true rfl) (Nat.le_of_ble_eq_true rfl) ⟨F941, y942, y943, y944, y945, y946, y695, y696, y947, y948, y698, g972, f_names, (SAME.tr (SAME.tr SAME.rf t699 (by decide)) t949 (by decide)), t950, t951, t952, t953, t954, t956, t958, (SAME.at t949 (by decide) t707), (SAME.at t949 (by decide) t708), t959, t960, (SAME.at t949 (by decide) t710), r973, r975, r976, r977, r974, (show 0 ≤ (1 : Int32).toInt ∧ (1 : Int32).toInt ≤ 1 by decide), (by have zl1 : (1 : Int32).toInt = 1 := (by decide); omega), (by omega), rfl⟩
    · have dc715 : r688.toInt = 0 := eq_i (a := r688.toInt) (b := 0) rfl rfl c715
      have k978 : 0 ≤ r688.toInt ∧ r688.toInt ≤ 0 := ⟨t711.1, Int.le_trans (Int.le_of_eq dc715) (Int.le_refl _)⟩
      refine lv_iconst (v := 0) hx hb dX10_line0_17 (by decide) ?_
      exact ret_i (v := 0) hx hb hr hlocks hS (hP.sub (ws' := [(h0, .inr (10, vL 67 F689)), (h_tape, .inl (cB, 940, .inl f_tape)), (h_h, .inl (cI, 104, .inl f_h)), (h_names, .inl (cJ, 36, .inr (.inl f_names))), (h_reserved, .inl (cJ, 23, .inr (.inl f_reserved)))]) [3, 4, 0, 1, 2] rfl) (hD.sub (ws' := [(h0, .inr (10, vL 67 F689)), (h_tape, .inl (cB, 940, .inl f_tape)), (h_h, .inl (cI, 104, .inl f_h)), (h_names, .inl (cJ, 36, .inr (.inl f_names))), (h_reserved, .inl (cJ, 23, .inr (.inl f_reserved)))]) [3, 4, 0, 1, 2] (by decide) rfl) dX10_line0_18 rfl (Nat.le_of_ble_eq_true rfl) (Nat.le_of_ble_eq_true rfl) ⟨F689, y690, y691, y692, y693, y694, y695, y696, y697, x_got, y698, f_h, f_names, (SAME.tr SAME.rf t699 (by decide)), t700, t701, t702, t703, t704, t705, t706, t707, t708, t709, (SAME.at t699 (by decide) e_got), t710, s_h_0, s_h_5, s_h_6, s_h_7, s_h_44, (show 0 ≤ (0 : Int32).toInt ∧ (0 : Int32).toInt ≤ 1 by decide), (by have zl0 : (0 : Int32).toInt = 0 := (by decide); omega), (by omega), rfl⟩
