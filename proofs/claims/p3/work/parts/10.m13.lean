set_option maxHeartbeats 4000000 in
set_option maxRecDepth 100000 in
theorem m_X10_behind_ (l : Launch) (D : va_G) (cI cJ cB cP cM cZ : ClassId) (h0 : Nat) (h_tape : Nat) (h_read : Nat) (h_stack : Nat) (Fh : Nat → Value) (x_size : Int32) (x_p : Int32) (x_limit : Int32) (x_token : Int32) (x_at : Int32) (x_span : Int32) (x_number : Int32) (x_fault : Int32) (x_faultAt : Int32) (x_word : Int64) (x_codes : Int32) (x_ones : Int32) (x_top : Int32) (x_deep : Int32) (x_isWhole : Int32) (f_tape : Nat → Int32) (f_read : Nat → Int32) (f_stack : Nat → Int32) (sz : Nat) (e_tape : Fh 1 = .ref h_tape) (e_size : Fh 3 = .int x_size) (i_x_size : IR 0 940 x_size) (e_p : Fh 4 = .int x_p) (i_x_p : IR 0 940 x_p) (e_limit : Fh 5 = .int x_limit) (i_x_limit : IR 200 940 x_limit) (e_read : Fh 8 = .ref h_read) (e_token : Fh 11 = .int x_token) (i_x_token : IR 0 4 x_token) (e_at : Fh 12 = .int x_at) (e_span : Fh 13 = .int x_span) (e_number : Fh 14 = .int x_number) (e_fault : Fh 15 = .int x_fault) (e_faultAt : Fh 16 = .int x_faultAt) (e_word : Fh 18 = .long x_word) (e_stack : Fh 57 = .ref h_stack) (e_codes : Fh 58 = .int x_codes) (i_x_codes : IR 0 45 x_codes) (e_ones : Fh 59 = .int x_ones) (i_x_ones : IR 0 20 x_ones) (e_top : Fh 60 = .int x_top) (i_x_top : IR 0 45 x_top) (e_deep : Fh 61 = .int x_deep) (e_isWhole : Fh 62 = .int x_isWhole) (i_x_isWhole : IR 0 1 x_isWhole) (z_0 : x_isWhole.toInt = 1) (z_1 : SMI f_read f_stack x_codes.toInt x_top.toInt 1) (o_0 : (x_token.toInt = 2 → 0 ≤ x_number.toInt ∧ x_number.toInt ≤ 999)) (o_1 : x_top.toInt + x_codes.toInt + x_isWhole.toInt ≤ 2 * x_ones.toInt) : CI l yX10_behind_ cX10_behind_ 1 (some .boolean) { frames := 2, cells := 0, slots := 0, locals := 44 } (GG D cI cJ cB cP cM cZ) D [(h0, .inr (10, vL 67 Fh)), (h_tape, .inl (cB, 940, .inl f_tape)), (h_read, .inl (cI, 135, .inl f_read)), (h_stack, .inl (cI, 45, .inl f_stack))] sz [.ref h0] (fun (r : Int32) (u : va_W) => ∃ (Gh : Nat → Value) (y_p : Int32) (y_token : Int32) (y_at : Int32) (y_span : Int32) (y_number : Int32) (y_fault : Int32) (y_faultAt : Int32) (y_word : Int64) (y_codes : Int32) (y_top : Int32) (y_deep : Int32) (y_isWhole : Int32) (g_read : Nat → Int32) (g_stack : Nat → Int32), SAME [4, 11, 12, 13, 14, 15, 16, 18, 58, 60, 61, 62] Fh Gh ∧ Gh 4 = .int y_p ∧ IR 0 940 y_p ∧ Gh 11 = .int y_token ∧ IR 0 4 y_token ∧ Gh 12 = .int y_at ∧ Gh 13 = .int y_span ∧ Gh 14 = .int y_number ∧ Gh 15 = .int y_fault ∧ Gh 16 = .int y_faultAt ∧ Gh 18 = .long y_word ∧ Gh 58 = .int y_codes ∧ IR 0 45 y_codes ∧ Gh 60 = .int y_top ∧ IR 0 45 y_top ∧ Gh 61 = .int y_deep ∧ Gh 62 = .int y_isWhole ∧ IR 0 1 y_isWhole ∧ IR 0 1 r ∧ ((r.toInt = 1 → (1 ≤ x_token.toInt ∧ x_token.toInt ≤ 3 ∧ x_p.toInt ≤ y_p.toInt ∧ (1 ≤ y_token.toInt → y_token.toInt ≤ 3 → x_p.toInt < y_p.toInt)))) ∧ ((r.toInt = 1 → SMI g_read g_stack y_codes.toInt y_top.toInt y_isWhole.toInt)) ∧ ((y_token.toInt = 2 → 0 ≤ y_number.toInt ∧ y_number.toInt ≤ 999)) ∧ (y_top.toInt + y_codes.toInt + y_isWhole.toInt ≤ 2 * x_ones.toInt) ∧ u = [(h0, .inr (10, vL 67 Gh)), (h_tape, .inl (cB, 940, .inl f_tape)), (h_read, .inl (cI, 135, .inl g_read)), (h_stack, .inl (cI, 45, .inl g_stack))]) := by
  refine CI_mk (by decide) (Nat.le_of_ble_eq_true rfl) ?_
  intro p e s m below meth c A ls E hAe hG hsz hP hD hA hS hl
  obtain ⟨hx, hb, hr, hw, hown, hlocks, hml, hnm⟩ := E
  have hK := hG.1
  have i_x_size : 0 ≤ x_size.toInt ∧ x_size.toInt ≤ 940 := i_x_size
  have i_x_p : 0 ≤ x_p.toInt ∧ x_p.toInt ≤ 940 := i_x_p
  have i_x_limit : 200 ≤ x_limit.toInt ∧ x_limit.toInt ≤ 940 := i_x_limit
  have i_x_token : 0 ≤ x_token.toInt ∧ x_token.toInt ≤ 4 := i_x_token
  have i_x_codes : 0 ≤ x_codes.toInt ∧ x_codes.toInt ≤ 45 := i_x_codes
  have i_x_ones : 0 ≤ x_ones.toInt ∧ x_ones.toInt ≤ 20 := i_x_ones
  have i_x_top : 0 ≤ x_top.toInt ∧ x_top.toInt ≤ 45 := i_x_top
  have i_x_isWhole : 0 ≤ x_isWhole.toInt ∧ x_isWhole.toInt ≤ 1 := i_x_isWhole
  have hl : lv_has ls 1 [(0, .ref h0)] := hl
  refine lv_aload_n hx hb dX10_behind__0 rfl (lv_at hl 0 rfl) ?_
  refine call_Vv (wr := [(h_tape, .inl (cB, 940, .inl f_tape))]) (As := []) (rest := []) hx hb hml hown hw (m_X10_nots l D cI cJ cB cP cM cZ h0 h_read h_stack Fh x_codes x_ones x_top x_deep x_isWhole f_read f_stack _ e_read e_stack e_codes i_x_codes e_ones i_x_ones e_top i_x_top e_deep e_isWhole i_x_isWhole (by omega) (SMI.w z_1 (by omega)) (by omega)) wV_X10_463_X10_nots dX10_behind__1 hK hP hD hS hA [0, 2, 3] [1] rfl rfl (by decide) (by decide) (by decide) 0 10 rfl rfl GG.fb hG.at hl.1 rfl (Nat.le_of_ble_eq_true rfl) ⟨(Nat.le_of_ble_eq_true rfl), (Nat.le_of_ble_eq_true rfl)⟩ ⟨(Nat.le_of_ble_eq_true rfl), (Nat.le_of_ble_eq_true rfl)⟩ (fun u H locs hp hP hD hS => ?_)
  obtain ⟨F2, y3, y4, y5, g6, t7, t8, t9, t10, t11, t12, t13, t14, rfl⟩ := hp
  have hP : va_P D vwCl [(h_tape, .inl (cB, 940, .inl f_tape)), (h0, .inr (10, vL 67 F2)), (h_read, .inl (cI, 135, .inl g6)), (h_stack, .inl (cI, 45, .inl f_stack))] H := hP
  have hD : va_D A [(h_tape, .inl (cB, 940, .inl f_tape)), (h0, .inr (10, vL 67 F2)), (h_read, .inl (cI, 135, .inl g6)), (h_stack, .inl (cI, 45, .inl f_stack))] := hD
  refine W.widen (k := 0) (n := 0) (Nat.le_of_ble_eq_true rfl) (Nat.le_of_ble_eq_true rfl) ?_
  refine lv_aload_n hx hb dX10_behind__4 rfl (lv_at hl 0 rfl) ?_
  refine lv_ldc2 hx hb hown (hw _ q_1249) dX10_behind__5 ?_
  have n16 : F2 11 = .int x_token := (SAME.at t7 (by decide) e_token)
  have n17 : F2 14 = .int x_number := (SAME.at t7 (by decide) e_number)
  have n18 : F2 18 = .long x_word := (SAME.at t7 (by decide) e_word)
  refine call_Vi (wr := [(h_tape, .inl (cB, 940, .inl f_tape)), (h_read, .inl (cI, 135, .inl g6)), (h_stack, .inl (cI, 45, .inl f_stack))]) (As := [.long 6385252]) (rest := []) hx hb hml hown hw (m_X10_isWord l D cI cJ cB cP cM cZ h0 F2 x_token x_number x_word 6385252 _ n16 i_x_token n17 n18 (by omega)) wV_X10_225_X10_isWord dX10_behind__8 hK hP hD hS hA [1] [0, 2, 3] rfl rfl (by decide) (by decide) (by decide) 0 10 rfl rfl GG.fb hG.at hl.1 rfl (Nat.le_of_ble_eq_true rfl) ⟨(Nat.le_of_ble_eq_true rfl), (Nat.le_of_ble_eq_true rfl)⟩ ⟨(Nat.le_of_ble_eq_true rfl), (Nat.le_of_ble_eq_true rfl)⟩ (fun r19 u H locs hp hP hD hS => ?_)
  have zl6385252 : (6385252 : Int32).toInt = 6385252 := by decide
  obtain ⟨t20, t21, rfl⟩ := hp
  have hP : va_P D vwCl [(h_tape, .inl (cB, 940, .inl f_tape)), (h_read, .inl (cI, 135, .inl g6)), (h_stack, .inl (cI, 45, .inl f_stack)), (h0, .inr (10, vL 67 F2))] H := hP
  have hD : va_D A [(h_tape, .inl (cB, 940, .inl f_tape)), (h_read, .inl (cI, 135, .inl g6)), (h_stack, .inl (cI, 45, .inl f_stack)), (h0, .inr (10, vL 67 F2))] := hD
  refine W.widen (k := 0) (n := 0) (Nat.le_of_ble_eq_true rfl) (Nat.le_of_ble_eq_true rfl) ?_
  refine lv_if_ne (tgt := 24) hx hb dX10_behind__11 (by decide) (fun c23 => ?_) (fun c23 => ?_)
  · have dc23 : r19.toInt ≠ 0 := ne_i (a := r19.toInt) (b := 0) rfl rfl c23
    have k24 : 1 ≤ r19.toInt ∧ r19.toInt ≤ 1 := ⟨ne_lo dc23 t20.1 ⟨Int.le_refl _, Int.le_refl _⟩ (by decide), t20.2⟩
    refine lv_aload_n hx hb dX10_behind__24 rfl (lv_at hl 0 rfl) ?_
    refine lv_aload_n hx hb dX10_behind__25 rfl (lv_at hl 0 rfl) ?_
    refine lv_ldc2 hx hb hown (hw _ q_1249) dX10_behind__26 ?_
    refine call_Vi (wr := [(h_tape, .inl (cB, 940, .inl f_tape)), (h_read, .inl (cI, 135, .inl g6)), (h_stack, .inl (cI, 45, .inl f_stack))]) (As := [.long 6385252]) (rest := [.ref h0]) hx hb hml hown hw (m_X10_isWord l D cI cJ cB cP cM cZ h0 F2 x_token x_number x_word 6385252 _ n16 i_x_token n17 n18 (by omega)) wV_X10_225_X10_isWord dX10_behind__29 hK hP hD hS hA [3] [0, 1, 2] rfl rfl (by decide) (by decide) (by decide) 0 10 rfl rfl GG.fb hG.at hl.1 rfl (Nat.le_of_ble_eq_true rfl) ⟨(Nat.le_of_ble_eq_true rfl), (Nat.le_of_ble_eq_true rfl)⟩ ⟨(Nat.le_of_ble_eq_true rfl), (Nat.le_of_ble_eq_true rfl)⟩ (fun r25 u H locs hp hP hD hS => ?_)
    obtain ⟨t26, t27, rfl⟩ := hp
    have hP : va_P D vwCl [(h_tape, .inl (cB, 940, .inl f_tape)), (h_read, .inl (cI, 135, .inl g6)), (h_stack, .inl (cI, 45, .inl f_stack)), (h0, .inr (10, vL 67 F2))] H := hP
    have hD : va_D A [(h_tape, .inl (cB, 940, .inl f_tape)), (h_read, .inl (cI, 135, .inl g6)), (h_stack, .inl (cI, 45, .inl f_stack)), (h0, .inr (10, vL 67 F2))] := hD
    refine W.widen (k := 0) (n := 0) (Nat.le_of_ble_eq_true rfl) (Nat.le_of_ble_eq_true rfl) ?_
    refine lv_if_eq (tgt := 40) hx hb dX10_behind__32 (by decide) (fun c29 => ?_) (fun c29 => ?_)
    · have dc29 : r25.toInt = 0 := eq_i (a := r25.toInt) (b := 0) rfl rfl c29
      have k30 : 0 ≤ r25.toInt ∧ r25.toInt ≤ 0 := ⟨t26.1, Int.le_trans (Int.le_of_eq dc29) (Int.le_refl _)⟩
      refine lv_bipush (v := 22) hx hb dX10_behind__40 (by decide) ?_
      have n31 : F2 8 = .ref h_read := (SAME.at t7 (by decide) e_read)
      have n32 : F2 57 = .ref h_stack := (SAME.at t7 (by decide) e_stack)
      have n33 : F2 59 = .int x_ones := (SAME.at t7 (by decide) e_ones)
      have n34 : F2 62 = .int x_isWhole := (SAME.at t7 (by decide) e_isWhole)
      refine call_Vv (wr := [(h_tape, .inl (cB, 940, .inl f_tape))]) (As := [.int 22]) (rest := []) hx hb hml hown hw (m_X10_joins l D cI cJ cB cP cM cZ h0 h_read h_stack F2 y3 x_ones y4 x_isWhole g6 f_stack 22 _ n31 n32 t8 t9 n33 i_x_ones t10 t11 n34 i_x_isWhole (by omega) (SMI.w t13 (by omega)) (by omega)) wV_X10_466_X10_joins dX10_behind__42 hK hP hD hS hA [3, 1, 2] [0] rfl rfl (by decide) (by decide) (by decide) 0 10 rfl rfl GG.fb hG.at hl.1 rfl (Nat.le_of_ble_eq_true rfl) ⟨(Nat.le_of_ble_eq_true rfl), (Nat.le_of_ble_eq_true rfl)⟩ ⟨(Nat.le_of_ble_eq_true rfl), (Nat.le_of_ble_eq_true rfl)⟩ (fun u H locs hp hP hD hS => ?_)
      have zl22 : (22 : Int32).toInt = 22 := by decide
      obtain ⟨F36, y37, y38, g39, t40, t41, t42, t43, t44, t45, t46, t47, rfl⟩ := hp
      have hP : va_P D vwCl [(h_tape, .inl (cB, 940, .inl f_tape)), (h0, .inr (10, vL 67 F36)), (h_read, .inl (cI, 135, .inl g39)), (h_stack, .inl (cI, 45, .inl f_stack))] H := hP
      have hD : va_D A [(h_tape, .inl (cB, 940, .inl f_tape)), (h0, .inr (10, vL 67 F36)), (h_read, .inl (cI, 135, .inl g39)), (h_stack, .inl (cI, 45, .inl f_stack))] := hD
      refine W.widen (k := 0) (n := 0) (Nat.le_of_ble_eq_true rfl) (Nat.le_of_ble_eq_true rfl) ?_
      refine lv_aload_n hx hb dX10_behind__45 rfl (lv_at hl 0 rfl) ?_
      have n49 : F36 57 = .ref h_stack := (SAME.at t40 (by decide) n32)
      refine get_f (D := D) (ci := 10) (v := .ref h_stack) (C := RX10) (T := TX10) (N := 67) hx hb hw inAX10 hown hK hP 1 rfl rfl 57 (by decide) (hw _ q_1318) (fun _ h9 => h9) n49 dX10_behind__46 ?_
      refine lv_aload_n hx hb dX10_behind__49 rfl (lv_at hl 0 rfl) ?_
      refine get_f (D := D) (ci := 10) (v := .int y38) (C := RX10) (T := TX10) (N := 67) hx hb hw inAX10 hown hK hP 1 rfl rfl 60 (by decide) (hw _ q_1321) (fun _ h9 => h9) t43 dX10_behind__50 ?_
      refine lv_aload_n hx hb dX10_behind__53 rfl (lv_at hl 0 rfl) ?_
      refine lv_ldc2 hx hb hown (hw _ q_1249) dX10_behind__54 ?_
      have n50 : F36 11 = .int x_token := (SAME.at t40 (by decide) n16)
      have n51 : F36 14 = .int x_number := (SAME.at t40 (by decide) n17)
      have n52 : F36 18 = .long x_word := (SAME.at t40 (by decide) n18)
      refine call_Vi (wr := [(h_tape, .inl (cB, 940, .inl f_tape)), (h_read, .inl (cI, 135, .inl g39)), (h_stack, .inl (cI, 45, .inl f_stack))]) (As := [.long 6385252]) (rest := [.int y38, .ref h_stack]) hx hb hml hown hw (m_X10_isWord l D cI cJ cB cP cM cZ h0 F36 x_token x_number x_word 6385252 _ n50 i_x_token n51 n52 (by omega)) wV_X10_225_X10_isWord dX10_behind__57 hK hP hD hS hA [1] [0, 2, 3] rfl rfl (by decide) (by decide) (by decide) 0 10 rfl rfl GG.fb hG.at hl.1 rfl (Nat.le_of_ble_eq_true rfl) ⟨(Nat.le_of_ble_eq_true rfl), (Nat.le_of_ble_eq_true rfl)⟩ ⟨(Nat.le_of_ble_eq_true rfl), (Nat.le_of_ble_eq_true rfl)⟩ (fun r53 u H locs hp hP hD hS => ?_)
      obtain ⟨t54, t55, rfl⟩ := hp
      have hP : va_P D vwCl [(h_tape, .inl (cB, 940, .inl f_tape)), (h_read, .inl (cI, 135, .inl g39)), (h_stack, .inl (cI, 45, .inl f_stack)), (h0, .inr (10, vL 67 F36))] H := hP
      have hD : va_D A [(h_tape, .inl (cB, 940, .inl f_tape)), (h_read, .inl (cI, 135, .inl g39)), (h_stack, .inl (cI, 45, .inl f_stack)), (h0, .inr (10, vL 67 F36))] := hD
      refine W.widen (k := 0) (n := 0) (Nat.le_of_ble_eq_true rfl) (Nat.le_of_ble_eq_true rfl) ?_
      refine lv_if_eq (tgt := 68) hx hb dX10_behind__60 (by decide) (fun c57 => ?_) (fun c57 => ?_)
      · have dc57 : r53.toInt = 0 := eq_i (a := r53.toInt) (b := 0) rfl rfl c57
        have k58 : 0 ≤ r53.toInt ∧ r53.toInt ≤ 0 := ⟨t54.1, Int.le_trans (Int.le_of_eq dc57) (Int.le_refl _)⟩
        refine lv_bipush (v := 22) hx hb dX10_behind__68 (by decide) ?_
        obtain ⟨g59, eg59⟩ : ∃ z : Nat → Int32, upd f_stack y38.toNatClampNeg 22 = z := ⟨_, rfl⟩
        refine iast_g hx hb hK hP hD hS 2 0 rfl rfl (ix_i (by omega) (by omega)) eg59 dX10_behind__70 (fun H locs hP hD hS => ?_)
        have hP : va_P D vwCl [(h_tape, .inl (cB, 940, .inl f_tape)), (h_read, .inl (cI, 135, .inl g39)), (h_stack, .inl (cI, 45, .inl g59)), (h0, .inr (10, vL 67 F36))] H := hP
        have hD : va_D A [(h_tape, .inl (cB, 940, .inl f_tape)), (h_read, .inl (cI, 135, .inl g39)), (h_stack, .inl (cI, 45, .inl g59)), (h0, .inr (10, vL 67 F36))] := hD
        refine lv_aload_n hx hb dX10_behind__71 rfl (lv_at hl 0 rfl) ?_
        refine lv_dup hx hb dX10_behind__72 rfl ?_
        refine get_f (D := D) (ci := 10) (v := .int y38) (C := RX10) (T := TX10) (N := 67) hx hb hw inAX10 hown hK hP 3 rfl rfl 60 (by decide) (hw _ q_1321) (fun _ h9 => h9) t43 dX10_behind__73 ?_
        refine lv_iconst (v := 1) hx hb dX10_behind__76 (by decide) ?_
        refine lv_iadd hx hb dX10_behind__77 ?_
        refine lv_topi (fun v60 ev60 => ?_)
        have bv60 : v60.toInt = y38.toInt + 1 := by rw [ev60]; exact add_k rfl rfl t44 ⟨Int.le_refl _, Int.le_refl _⟩ (by decide)
        have k61 : 1 ≤ v60.toInt ∧ v60.toInt ≤ 46 := add_r bv60 t44 ⟨Int.le_refl _, Int.le_refl _⟩ (by decide)
        refine put_f (D := D) (ci := 10) (v := .int v60) (ty := .int) (C := RX10) (T := TX10) (N := 67) hx hb hw inAX10 tyX10 tyX10_ok nmX10 hown hK hP hD hS 3 rfl rfl 60 (by decide) (hw _ q_1321) (fun _ h9 => h9) rfl (by decide +kernel) rfl rfl dX10_behind__78 (fun H locs F62 eF62 hP hD hS => ?_)
        have hP : va_P D vwCl [(h_tape, .inl (cB, 940, .inl f_tape)), (h_read, .inl (cI, 135, .inl g39)), (h_stack, .inl (cI, 45, .inl g59)), (h0, .inr (10, vL 67 F62))] H := hP
        have hD : va_D A [(h_tape, .inl (cB, 940, .inl f_tape)), (h_read, .inl (cI, 135, .inl g39)), (h_stack, .inl (cI, 45, .inl g59)), (h0, .inr (10, vL 67 F62))] := hD
        refine lv_aload_n hx hb dX10_behind__81 rfl (lv_at hl 0 rfl) ?_
        refine lv_iconst (v := 0) hx hb dX10_behind__82 (by decide) ?_
        refine put_f (D := D) (ci := 10) (v := .int 0) (ty := .boolean) (C := RX10) (T := TX10) (N := 67) hx hb hw inAX10 tyX10 tyX10_ok nmX10 hown hK hP hD hS 3 rfl rfl 62 (by decide) (hw _ q_1323) (fun _ h9 => h9) rfl (by decide +kernel) rfl rfl dX10_behind__83 (fun H locs F63 eF63 hP hD hS => ?_)
        have hP : va_P D vwCl [(h_tape, .inl (cB, 940, .inl f_tape)), (h_read, .inl (cI, 135, .inl g39)), (h_stack, .inl (cI, 45, .inl g59)), (h0, .inr (10, vL 67 F63))] H := hP
        have hD : va_D A [(h_tape, .inl (cB, 940, .inl f_tape)), (h_read, .inl (cI, 135, .inl g39)), (h_stack, .inl (cI, 45, .inl g59)), (h0, .inr (10, vL 67 F63))] := hD
        refine lv_aload_n hx hb dX10_behind__86 rfl (lv_at hl 0 rfl) ?_
        have n64 : F2 1 = .ref h_tape := (SAME.at t7 (by decide) e_tape)
        have n65 : F36 1 = .ref h_tape := (SAME.at t40 (by decide) n64)
        have n66 : F62 1 = .ref h_tape := (get_ne eF62 (by decide) n65)
        have n67 : F63 1 = .ref h_tape := (get_ne eF63 (by decide) n66)
        have n68 : F2 3 = .int x_size := (SAME.at t7 (by decide) e_size)
        have n69 : F36 3 = .int x_size := (SAME.at t40 (by decide) n68)
        have n70 : F62 3 = .int x_size := (get_ne eF62 (by decide) n69)
        have n71 : F63 3 = .int x_size := (get_ne eF63 (by decide) n70)
        have n72 : F2 4 = .int x_p := (SAME.at t7 (by decide) e_p)
        have n73 : F36 4 = .int x_p := (SAME.at t40 (by decide) n72)
        have n74 : F62 4 = .int x_p := (get_ne eF62 (by decide) n73)
        have n75 : F63 4 = .int x_p := (get_ne eF63 (by decide) n74)
        have n76 : F2 5 = .int x_limit := (SAME.at t7 (by decide) e_limit)
        have n77 : F36 5 = .int x_limit := (SAME.at t40 (by decide) n76)
        have n78 : F62 5 = .int x_limit := (get_ne eF62 (by decide) n77)
        have n79 : F63 5 = .int x_limit := (get_ne eF63 (by decide) n78)
        have n80 : F62 11 = .int x_token := (get_ne eF62 (by decide) n50)
        have n81 : F63 11 = .int x_token := (get_ne eF63 (by decide) n80)
        have n82 : F62 14 = .int x_number := (get_ne eF62 (by decide) n51)
        have n83 : F63 14 = .int x_number := (get_ne eF63 (by decide) n82)
        have n84 : F62 18 = .long x_word := (get_ne eF62 (by decide) n52)
        have n85 : F63 18 = .long x_word := (get_ne eF63 (by decide) n84)
        refine call_Vv (wr := [(h_read, .inl (cI, 135, .inl g39)), (h_stack, .inl (cI, 45, .inl g59))]) (As := []) (rest := []) hx hb hml hown hw (m_X10_next l D cI cJ cB cP cM cZ h0 h_tape F63 x_size x_p x_limit x_token x_number x_word f_tape _ n67 n71 i_x_size n75 i_x_p n79 i_x_limit n81 i_x_token n83 n85 (by omega)) wV_X10_208_X10_next dX10_behind__87 hK hP hD hS hA [3, 0] [1, 2] rfl rfl (by decide) (by decide) (by decide) 0 10 rfl rfl GG.fb hG.at hl.1 rfl (Nat.le_of_ble_eq_true rfl) ⟨(Nat.le_of_ble_eq_true rfl), (Nat.le_of_ble_eq_true rfl)⟩ ⟨(Nat.le_of_ble_eq_true rfl), (Nat.le_of_ble_eq_true rfl)⟩ (fun u H locs hp hP hD hS => ?_)
        obtain ⟨F87, y88, y89, y90, y91, y92, y93, t94, t95, t96, t97, t98, t99, t100, t101, t102, t103, t104, t105, t106, t107, rfl⟩ := hp
        have hP : va_P D vwCl [(h_read, .inl (cI, 135, .inl g39)), (h_stack, .inl (cI, 45, .inl g59)), (h0, .inr (10, vL 67 F87)), (h_tape, .inl (cB, 940, .inl f_tape))] H := hP
        have hD : va_D A [(h_read, .inl (cI, 135, .inl g39)), (h_stack, .inl (cI, 45, .inl g59)), (h0, .inr (10, vL 67 F87)), (h_tape, .inl (cB, 940, .inl f_tape))] := hD
        refine W.widen (k := 0) (n := 0) (Nat.le_of_ble_eq_true rfl) (Nat.le_of_ble_eq_true rfl) ?_
        refine lv_iconst (v := 1) hx hb dX10_behind__90 (by decide) ?_
        exact ret_i (v := 1) hx hb hr hlocks hS (hP.sub (ws' := [(h0, .inr (10, vL 67 F87)), (h_tape, .inl (cB, 940, .inl f_tape)), (h_read, .inl (cI, 135, .inl g39)), (h_stack, .inl (cI, 45, .inl g59))]) [2, 3, 0, 1] rfl) (hD.sub (ws' := [(h0, .inr (10, vL 67 F87)), (h_tape, .inl (cB, 940, .inl f_tape)), (h_read, .inl (cI, 135, .inl g39)), (h_stack, .inl (cI, 45, .inl g59))]) [2, 3, 0, 1] (by decide) rfl) dX10_behind__91 rfl (Nat.le_of_ble_eq_true rfl) (Nat.le_of_ble_eq_true rfl) ⟨F87, y88, y89, y90, y91, y92, x_fault, x_faultAt, y93, y37, v60, y5, 0, g39, g59, (SAME.tr (SAME.up eF63 (SAME.up eF62 (SAME.tr (SAME.tr SAME.rf t7 (by decide)) t40 (by decide)) (by decide)) (by decide)) t94 (by decide)), t95, t96, t97, t98, t99, t101, t103, (SAME.at t94 (by decide) (get_ne eF63 (by decide) (get_ne eF62 (by decide) (SAME.at t40 (by decide) (SAME.at t7 (by decide) e_fault))))), (SAME.at t94 (by decide) (get_ne eF63 (by decide) (get_ne eF62 (by decide) (SAME.at t40 (by decide) (SAME.at t7 (by decide) e_faultAt))))), t104, (SAME.at t94 (by decide) (get_ne eF63 (by decide) (get_ne eF62 (by decide) t41))), t42, (SAME.at t94 (by decide) (get_ne eF63 (by decide) (get_eq eF62))), (show 0 ≤ v60.toInt ∧ v60.toInt ≤ 45 from ⟨by omega, by omega⟩), (SAME.at t94 (by decide) (get_ne eF63 (by decide) (get_ne eF62 (by decide) (SAME.at t40 (by decide) t12)))), (SAME.at t94 (by decide) (get_eq eF63)), (show 0 ≤ (0 : Int32).toInt ∧ (0 : Int32).toInt ≤ 1 by decide), (show 0 ≤ (1 : Int32).toInt ∧ (1 : Int32).toInt ≤ 1 by decide), (by have zl0 : (0 : Int32).toInt = 0 := (by decide); have zl1 : (1 : Int32).toInt = 1 := (by decide); omega), (fun _ => SMI.w (SMI.pushb t45 eg59 (by omega) (by decide) (by omega)) (by decide)), (by have zl0 : (0 : Int32).toInt = 0 := (by decide); omega), (by have zl0 : (0 : Int32).toInt = 0 := (by decide); omega), rfl⟩
      · have dc57 : r53.toInt ≠ 0 := ne_i (a := r53.toInt) (b := 0) rfl rfl c57
        have k109 : 1 ≤ r53.toInt ∧ r53.toInt ≤ 1 := ⟨ne_lo dc57 t54.1 ⟨Int.le_refl _, Int.le_refl _⟩ (by decide), t54.2⟩
        refine lv_bipush (v := 21) hx hb dX10_behind__63 (by decide) ?_
        refine lv_goto (tgt := 70) hx hb dX10_behind__65 (by decide) ?_
        obtain ⟨g110, eg110⟩ : ∃ z : Nat → Int32, upd f_stack y38.toNatClampNeg 21 = z := ⟨_, rfl⟩
        refine iast_g hx hb hK hP hD hS 2 0 rfl rfl (ix_i (by omega) (by omega)) eg110 dX10_behind__70 (fun H locs hP hD hS => ?_)
        have hP : va_P D vwCl [(h_tape, .inl (cB, 940, .inl f_tape)), (h_read, .inl (cI, 135, .inl g39)), (h_stack, .inl (cI, 45, .inl g110)), (h0, .inr (10, vL 67 F36))] H := hP
        have hD : va_D A [(h_tape, .inl (cB, 940, .inl f_tape)), (h_read, .inl (cI, 135, .inl g39)), (h_stack, .inl (cI, 45, .inl g110)), (h0, .inr (10, vL 67 F36))] := hD
        refine lv_aload_n hx hb dX10_behind__71 rfl (lv_at hl 0 rfl) ?_
        refine lv_dup hx hb dX10_behind__72 rfl ?_
        refine get_f (D := D) (ci := 10) (v := .int y38) (C := RX10) (T := TX10) (N := 67) hx hb hw inAX10 hown hK hP 3 rfl rfl 60 (by decide) (hw _ q_1321) (fun _ h9 => h9) t43 dX10_behind__73 ?_
        refine lv_iconst (v := 1) hx hb dX10_behind__76 (by decide) ?_
        refine lv_iadd hx hb dX10_behind__77 ?_
        refine lv_topi (fun v111 ev111 => ?_)
        have bv111 : v111.toInt = y38.toInt + 1 := by rw [ev111]; exact add_k rfl rfl t44 ⟨Int.le_refl _, Int.le_refl _⟩ (by decide)
        have k112 : 1 ≤ v111.toInt ∧ v111.toInt ≤ 46 := add_r bv111 t44 ⟨Int.le_refl _, Int.le_refl _⟩ (by decide)
        refine put_f (D := D) (ci := 10) (v := .int v111) (ty := .int) (C := RX10) (T := TX10) (N := 67) hx hb hw inAX10 tyX10 tyX10_ok nmX10 hown hK hP hD hS 3 rfl rfl 60 (by decide) (hw _ q_1321) (fun _ h9 => h9) rfl (by decide +kernel) rfl rfl dX10_behind__78 (fun H locs F113 eF113 hP hD hS => ?_)
        have hP : va_P D vwCl [(h_tape, .inl (cB, 940, .inl f_tape)), (h_read, .inl (cI, 135, .inl g39)), (h_stack, .inl (cI, 45, .inl g110)), (h0, .inr (10, vL 67 F113))] H := hP
        have hD : va_D A [(h_tape, .inl (cB, 940, .inl f_tape)), (h_read, .inl (cI, 135, .inl g39)), (h_stack, .inl (cI, 45, .inl g110)), (h0, .inr (10, vL 67 F113))] := hD
        refine lv_aload_n hx hb dX10_behind__81 rfl (lv_at hl 0 rfl) ?_
        refine lv_iconst (v := 0) hx hb dX10_behind__82 (by decide) ?_
        refine put_f (D := D) (ci := 10) (v := .int 0) (ty := .boolean) (C := RX10) (T := TX10) (N := 67) hx hb hw inAX10 tyX10 tyX10_ok nmX10 hown hK hP hD hS 3 rfl rfl 62 (by decide) (hw _ q_1323) (fun _ h9 => h9) rfl (by decide +kernel) rfl rfl dX10_behind__83 (fun H locs F114 eF114 hP hD hS => ?_)
        have hP : va_P D vwCl [(h_tape, .inl (cB, 940, .inl f_tape)), (h_read, .inl (cI, 135, .inl g39)), (h_stack, .inl (cI, 45, .inl g110)), (h0, .inr (10, vL 67 F114))] H := hP
        have hD : va_D A [(h_tape, .inl (cB, 940, .inl f_tape)), (h_read, .inl (cI, 135, .inl g39)), (h_stack, .inl (cI, 45, .inl g110)), (h0, .inr (10, vL 67 F114))] := hD
        refine lv_aload_n hx hb dX10_behind__86 rfl (lv_at hl 0 rfl) ?_
        have n115 : F2 1 = .ref h_tape := (SAME.at t7 (by decide) e_tape)
        have n116 : F36 1 = .ref h_tape := (SAME.at t40 (by decide) n115)
        have n117 : F113 1 = .ref h_tape := (get_ne eF113 (by decide) n116)
        have n118 : F114 1 = .ref h_tape := (get_ne eF114 (by decide) n117)
        have n119 : F2 3 = .int x_size := (SAME.at t7 (by decide) e_size)
        have n120 : F36 3 = .int x_size := (SAME.at t40 (by decide) n119)
        have n121 : F113 3 = .int x_size := (get_ne eF113 (by decide) n120)
        have n122 : F114 3 = .int x_size := (get_ne eF114 (by decide) n121)
        have n123 : F2 4 = .int x_p := (SAME.at t7 (by decide) e_p)
        have n124 : F36 4 = .int x_p := (SAME.at t40 (by decide) n123)
        have n125 : F113 4 = .int x_p := (get_ne eF113 (by decide) n124)
        have n126 : F114 4 = .int x_p := (get_ne eF114 (by decide) n125)
        have n127 : F2 5 = .int x_limit := (SAME.at t7 (by decide) e_limit)
        have n128 : F36 5 = .int x_limit := (SAME.at t40 (by decide) n127)
        have n129 : F113 5 = .int x_limit := (get_ne eF113 (by decide) n128)
        have n130 : F114 5 = .int x_limit := (get_ne eF114 (by decide) n129)
        have n131 : F113 11 = .int x_token := (get_ne eF113 (by decide) n50)
        have n132 : F114 11 = .int x_token := (get_ne eF114 (by decide) n131)
        have n133 : F113 14 = .int x_number := (get_ne eF113 (by decide) n51)
        have n134 : F114 14 = .int x_number := (get_ne eF114 (by decide) n133)
        have n135 : F113 18 = .long x_word := (get_ne eF113 (by decide) n52)
        have n136 : F114 18 = .long x_word := (get_ne eF114 (by decide) n135)
        refine call_Vv (wr := [(h_read, .inl (cI, 135, .inl g39)), (h_stack, .inl (cI, 45, .inl g110))]) (As := []) (rest := []) hx hb hml hown hw (m_X10_next l D cI cJ cB cP cM cZ h0 h_tape F114 x_size x_p x_limit x_token x_number x_word f_tape _ n118 n122 i_x_size n126 i_x_p n130 i_x_limit n132 i_x_token n134 n136 (by omega)) wV_X10_208_X10_next dX10_behind__87 hK hP hD hS hA [3, 0] [1, 2] rfl rfl (by decide) (by decide) (by decide) 0 10 rfl rfl GG.fb hG.at hl.1 rfl (Nat.le_of_ble_eq_true rfl) ⟨(Nat.le_of_ble_eq_true rfl), (Nat.le_of_ble_eq_true rfl)⟩ ⟨(Nat.le_of_ble_eq_true rfl), (Nat.le_of_ble_eq_true rfl)⟩ (fun u H locs hp hP hD hS => ?_)
        obtain ⟨F138, y139, y140, y141, y142, y143, y144, t145, t146, t147, t148, t149, t150, t151, t152, t153, t154, t155, t156, t157, t158, rfl⟩ := hp
        have hP : va_P D vwCl [(h_read, .inl (cI, 135, .inl g39)), (h_stack, .inl (cI, 45, .inl g110)), (h0, .inr (10, vL 67 F138)), (h_tape, .inl (cB, 940, .inl f_tape))] H := hP
        have hD : va_D A [(h_read, .inl (cI, 135, .inl g39)), (h_stack, .inl (cI, 45, .inl g110)), (h0, .inr (10, vL 67 F138)), (h_tape, .inl (cB, 940, .inl f_tape))] := hD
        refine W.widen (k := 0) (n := 0) (Nat.le_of_ble_eq_true rfl) (Nat.le_of_ble_eq_true rfl) ?_
        refine lv_iconst (v := 1) hx hb dX10_behind__90 (by decide) ?_
        exact ret_i (v := 1) hx hb hr hlocks hS (hP.sub (ws' := [(h0, .inr (10, vL 67 F138)), (h_tape, .inl (cB, 940, .inl f_tape)), (h_read, .inl (cI, 135, .inl g39)), (h_stack, .inl (cI, 45, .inl g110))]) [2, 3, 0, 1] rfl) (hD.sub (ws' := [(h0, .inr (10, vL 67 F138)), (h_tape, .inl (cB, 940, .inl f_tape)), (h_read, .inl (cI, 135, .inl g39)), (h_stack, .inl (cI, 45, .inl g110))]) [2, 3, 0, 1] (by decide) rfl) dX10_behind__91 rfl (Nat.le_of_ble_eq_true rfl) (Nat.le_of_ble_eq_true rfl) ⟨F138, y139, y140, y141, y142, y143, x_fault, x_faultAt, y144, y37, v111, y5, 0, g39, g110, (SAME.tr (SAME.up eF114 (SAME.up eF113 (SAME.tr (SAME.tr SAME.rf t7 (by decide)) t40 (by decide)) (by decide)) (by decide)) t145 (by decide)), t146, t147, t148, t149, t150, t152, t154, (SAME.at t145 (by decide) (get_ne eF114 (by decide) (get_ne eF113 (by decide) (SAME.at t40 (by decide) (SAME.at t7 (by decide) e_fault))))), (SAME.at t145 (by decide) (get_ne eF114 (by decide) (get_ne eF113 (by decide) (SAME.at t40 (by decide) (SAME.at t7 (by decide) e_faultAt))))), t155, (SAME.at t145 (by decide) (get_ne eF114 (by decide) (get_ne eF113 (by decide) t41))), t42, (SAME.at t145 (by decide) (get_ne eF114 (by decide) (get_eq eF113))), (show 0 ≤ v111.toInt ∧ v111.toInt ≤ 45 from ⟨by omega, by omega⟩), (SAME.at t145 (by decide) (get_ne eF114 (by decide) (get_ne eF113 (by decide) (SAME.at t40 (by decide) t12)))), (SAME.at t145 (by decide) (get_eq eF114)), (show 0 ≤ (0 : Int32).toInt ∧ (0 : Int32).toInt ≤ 1 by decide), (show 0 ≤ (1 : Int32).toInt ∧ (1 : Int32).toInt ≤ 1 by decide), (by have zl0 : (0 : Int32).toInt = 0 := (by decide); have zl1 : (1 : Int32).toInt = 1 := (by decide); omega), (fun _ => SMI.w (SMI.pushb t45 eg110 (by omega) (by decide) (by omega)) (by decide)), (by have zl0 : (0 : Int32).toInt = 0 := (by decide); omega), (by have zl0 : (0 : Int32).toInt = 0 := (by decide); omega), rfl⟩
    · have dc29 : r25.toInt ≠ 0 := ne_i (a := r25.toInt) (b := 0) rfl rfl c29
      have k160 : 1 ≤ r25.toInt ∧ r25.toInt ≤ 1 := ⟨ne_lo dc29 t26.1 ⟨Int.le_refl _, Int.le_refl _⟩ (by decide), t26.2⟩
      refine lv_bipush (v := 21) hx hb dX10_behind__35 (by decide) ?_
      refine lv_goto (tgt := 42) hx hb dX10_behind__37 (by decide) ?_
      have n161 : F2 8 = .ref h_read := (SAME.at t7 (by decide) e_read)
      have n162 : F2 57 = .ref h_stack := (SAME.at t7 (by decide) e_stack)
      have n163 : F2 59 = .int x_ones := (SAME.at t7 (by decide) e_ones)
      have n164 : F2 62 = .int x_isWhole := (SAME.at t7 (by decide) e_isWhole)
      refine call_Vv (wr := [(h_tape, .inl (cB, 940, .inl f_tape))]) (As := [.int 21]) (rest := []) hx hb hml hown hw (m_X10_joins l D cI cJ cB cP cM cZ h0 h_read h_stack F2 y3 x_ones y4 x_isWhole g6 f_stack 21 _ n161 n162 t8 t9 n163 i_x_ones t10 t11 n164 i_x_isWhole (by omega) (SMI.w t13 (by omega)) (by omega)) wV_X10_466_X10_joins dX10_behind__42 hK hP hD hS hA [3, 1, 2] [0] rfl rfl (by decide) (by decide) (by decide) 0 10 rfl rfl GG.fb hG.at hl.1 rfl (Nat.le_of_ble_eq_true rfl) ⟨(Nat.le_of_ble_eq_true rfl), (Nat.le_of_ble_eq_true rfl)⟩ ⟨(Nat.le_of_ble_eq_true rfl), (Nat.le_of_ble_eq_true rfl)⟩ (fun u H locs hp hP hD hS => ?_)
      have zl21 : (21 : Int32).toInt = 21 := by decide
      obtain ⟨F166, y167, y168, g169, t170, t171, t172, t173, t174, t175, t176, t177, rfl⟩ := hp
      have hP : va_P D vwCl [(h_tape, .inl (cB, 940, .inl f_tape)), (h0, .inr (10, vL 67 F166)), (h_read, .inl (cI, 135, .inl g169)), (h_stack, .inl (cI, 45, .inl f_stack))] H := hP
      have hD : va_D A [(h_tape, .inl (cB, 940, .inl f_tape)), (h0, .inr (10, vL 67 F166)), (h_read, .inl (cI, 135, .inl g169)), (h_stack, .inl (cI, 45, .inl f_stack))] := hD
      refine W.widen (k := 0) (n := 0) (Nat.le_of_ble_eq_true rfl) (Nat.le_of_ble_eq_true rfl) ?_
      refine lv_aload_n hx hb dX10_behind__45 rfl (lv_at hl 0 rfl) ?_
      have n179 : F166 57 = .ref h_stack := (SAME.at t170 (by decide) n162)
      refine get_f (D := D) (ci := 10) (v := .ref h_stack) (C := RX10) (T := TX10) (N := 67) hx hb hw inAX10 hown hK hP 1 rfl rfl 57 (by decide) (hw _ q_1318) (fun _ h9 => h9) n179 dX10_behind__46 ?_
      refine lv_aload_n hx hb dX10_behind__49 rfl (lv_at hl 0 rfl) ?_
      refine get_f (D := D) (ci := 10) (v := .int y168) (C := RX10) (T := TX10) (N := 67) hx hb hw inAX10 hown hK hP 1 rfl rfl 60 (by decide) (hw _ q_1321) (fun _ h9 => h9) t173 dX10_behind__50 ?_
      refine lv_aload_n hx hb dX10_behind__53 rfl (lv_at hl 0 rfl) ?_
      refine lv_ldc2 hx hb hown (hw _ q_1249) dX10_behind__54 ?_
      have n180 : F166 11 = .int x_token := (SAME.at t170 (by decide) n16)
      have n181 : F166 14 = .int x_number := (SAME.at t170 (by decide) n17)
      have n182 : F166 18 = .long x_word := (SAME.at t170 (by decide) n18)
      refine call_Vi (wr := [(h_tape, .inl (cB, 940, .inl f_tape)), (h_read, .inl (cI, 135, .inl g169)), (h_stack, .inl (cI, 45, .inl f_stack))]) (As := [.long 6385252]) (rest := [.int y168, .ref h_stack]) hx hb hml hown hw (m_X10_isWord l D cI cJ cB cP cM cZ h0 F166 x_token x_number x_word 6385252 _ n180 i_x_token n181 n182 (by omega)) wV_X10_225_X10_isWord dX10_behind__57 hK hP hD hS hA [1] [0, 2, 3] rfl rfl (by decide) (by decide) (by decide) 0 10 rfl rfl GG.fb hG.at hl.1 rfl (Nat.le_of_ble_eq_true rfl) ⟨(Nat.le_of_ble_eq_true rfl), (Nat.le_of_ble_eq_true rfl)⟩ ⟨(Nat.le_of_ble_eq_true rfl), (Nat.le_of_ble_eq_true rfl)⟩ (fun r183 u H locs hp hP hD hS => ?_)
      obtain ⟨t184, t185, rfl⟩ := hp
      have hP : va_P D vwCl [(h_tape, .inl (cB, 940, .inl f_tape)), (h_read, .inl (cI, 135, .inl g169)), (h_stack, .inl (cI, 45, .inl f_stack)), (h0, .inr (10, vL 67 F166))] H := hP
      have hD : va_D A [(h_tape, .inl (cB, 940, .inl f_tape)), (h_read, .inl (cI, 135, .inl g169)), (h_stack, .inl (cI, 45, .inl f_stack)), (h0, .inr (10, vL 67 F166))] := hD
      refine W.widen (k := 0) (n := 0) (Nat.le_of_ble_eq_true rfl) (Nat.le_of_ble_eq_true rfl) ?_
      refine lv_if_eq (tgt := 68) hx hb dX10_behind__60 (by decide) (fun c187 => ?_) (fun c187 => ?_)
      · have dc187 : r183.toInt = 0 := eq_i (a := r183.toInt) (b := 0) rfl rfl c187
        have k188 : 0 ≤ r183.toInt ∧ r183.toInt ≤ 0 := ⟨t184.1, Int.le_trans (Int.le_of_eq dc187) (Int.le_refl _)⟩
        refine lv_bipush (v := 22) hx hb dX10_behind__68 (by decide) ?_
        obtain ⟨g189, eg189⟩ : ∃ z : Nat → Int32, upd f_stack y168.toNatClampNeg 22 = z := ⟨_, rfl⟩
        refine iast_g hx hb hK hP hD hS 2 0 rfl rfl (ix_i (by omega) (by omega)) eg189 dX10_behind__70 (fun H locs hP hD hS => ?_)
        have hP : va_P D vwCl [(h_tape, .inl (cB, 940, .inl f_tape)), (h_read, .inl (cI, 135, .inl g169)), (h_stack, .inl (cI, 45, .inl g189)), (h0, .inr (10, vL 67 F166))] H := hP
        have hD : va_D A [(h_tape, .inl (cB, 940, .inl f_tape)), (h_read, .inl (cI, 135, .inl g169)), (h_stack, .inl (cI, 45, .inl g189)), (h0, .inr (10, vL 67 F166))] := hD
        refine lv_aload_n hx hb dX10_behind__71 rfl (lv_at hl 0 rfl) ?_
        refine lv_dup hx hb dX10_behind__72 rfl ?_
        refine get_f (D := D) (ci := 10) (v := .int y168) (C := RX10) (T := TX10) (N := 67) hx hb hw inAX10 hown hK hP 3 rfl rfl 60 (by decide) (hw _ q_1321) (fun _ h9 => h9) t173 dX10_behind__73 ?_
        refine lv_iconst (v := 1) hx hb dX10_behind__76 (by decide) ?_
        refine lv_iadd hx hb dX10_behind__77 ?_
        refine lv_topi (fun v190 ev190 => ?_)
        have bv190 : v190.toInt = y168.toInt + 1 := by rw [ev190]; exact add_k rfl rfl t174 ⟨Int.le_refl _, Int.le_refl _⟩ (by decide)
        have k191 : 1 ≤ v190.toInt ∧ v190.toInt ≤ 46 := add_r bv190 t174 ⟨Int.le_refl _, Int.le_refl _⟩ (by decide)
        refine put_f (D := D) (ci := 10) (v := .int v190) (ty := .int) (C := RX10) (T := TX10) (N := 67) hx hb hw inAX10 tyX10 tyX10_ok nmX10 hown hK hP hD hS 3 rfl rfl 60 (by decide) (hw _ q_1321) (fun _ h9 => h9) rfl (by decide +kernel) rfl rfl dX10_behind__78 (fun H locs F192 eF192 hP hD hS => ?_)
        have hP : va_P D vwCl [(h_tape, .inl (cB, 940, .inl f_tape)), (h_read, .inl (cI, 135, .inl g169)), (h_stack, .inl (cI, 45, .inl g189)), (h0, .inr (10, vL 67 F192))] H := hP
        have hD : va_D A [(h_tape, .inl (cB, 940, .inl f_tape)), (h_read, .inl (cI, 135, .inl g169)), (h_stack, .inl (cI, 45, .inl g189)), (h0, .inr (10, vL 67 F192))] := hD
        refine lv_aload_n hx hb dX10_behind__81 rfl (lv_at hl 0 rfl) ?_
        refine lv_iconst (v := 0) hx hb dX10_behind__82 (by decide) ?_
        refine put_f (D := D) (ci := 10) (v := .int 0) (ty := .boolean) (C := RX10) (T := TX10) (N := 67) hx hb hw inAX10 tyX10 tyX10_ok nmX10 hown hK hP hD hS 3 rfl rfl 62 (by decide) (hw _ q_1323) (fun _ h9 => h9) rfl (by decide +kernel) rfl rfl dX10_behind__83 (fun H locs F193 eF193 hP hD hS => ?_)
        have hP : va_P D vwCl [(h_tape, .inl (cB, 940, .inl f_tape)), (h_read, .inl (cI, 135, .inl g169)), (h_stack, .inl (cI, 45, .inl g189)), (h0, .inr (10, vL 67 F193))] H := hP
        have hD : va_D A [(h_tape, .inl (cB, 940, .inl f_tape)), (h_read, .inl (cI, 135, .inl g169)), (h_stack, .inl (cI, 45, .inl g189)), (h0, .inr (10, vL 67 F193))] := hD
        refine lv_aload_n hx hb dX10_behind__86 rfl (lv_at hl 0 rfl) ?_
        have n194 : F2 1 = .ref h_tape := (SAME.at t7 (by decide) e_tape)
        have n195 : F166 1 = .ref h_tape := (SAME.at t170 (by decide) n194)
        have n196 : F192 1 = .ref h_tape := (get_ne eF192 (by decide) n195)
        have n197 : F193 1 = .ref h_tape := (get_ne eF193 (by decide) n196)
        have n198 : F2 3 = .int x_size := (SAME.at t7 (by decide) e_size)
        have n199 : F166 3 = .int x_size := (SAME.at t170 (by decide) n198)
        have n200 : F192 3 = .int x_size := (get_ne eF192 (by decide) n199)
        have n201 : F193 3 = .int x_size := (get_ne eF193 (by decide) n200)
        have n202 : F2 4 = .int x_p := (SAME.at t7 (by decide) e_p)
        have n203 : F166 4 = .int x_p := (SAME.at t170 (by decide) n202)
        have n204 : F192 4 = .int x_p := (get_ne eF192 (by decide) n203)
        have n205 : F193 4 = .int x_p := (get_ne eF193 (by decide) n204)
        have n206 : F2 5 = .int x_limit := (SAME.at t7 (by decide) e_limit)
        have n207 : F166 5 = .int x_limit := (SAME.at t170 (by decide) n206)
        have n208 : F192 5 = .int x_limit := (get_ne eF192 (by decide) n207)
        have n209 : F193 5 = .int x_limit := (get_ne eF193 (by decide) n208)
        have n210 : F192 11 = .int x_token := (get_ne eF192 (by decide) n180)
        have n211 : F193 11 = .int x_token := (get_ne eF193 (by decide) n210)
        have n212 : F192 14 = .int x_number := (get_ne eF192 (by decide) n181)
        have n213 : F193 14 = .int x_number := (get_ne eF193 (by decide) n212)
        have n214 : F192 18 = .long x_word := (get_ne eF192 (by decide) n182)
        have n215 : F193 18 = .long x_word := (get_ne eF193 (by decide) n214)
        refine call_Vv (wr := [(h_read, .inl (cI, 135, .inl g169)), (h_stack, .inl (cI, 45, .inl g189))]) (As := []) (rest := []) hx hb hml hown hw (m_X10_next l D cI cJ cB cP cM cZ h0 h_tape F193 x_size x_p x_limit x_token x_number x_word f_tape _ n197 n201 i_x_size n205 i_x_p n209 i_x_limit n211 i_x_token n213 n215 (by omega)) wV_X10_208_X10_next dX10_behind__87 hK hP hD hS hA [3, 0] [1, 2] rfl rfl (by decide) (by decide) (by decide) 0 10 rfl rfl GG.fb hG.at hl.1 rfl (Nat.le_of_ble_eq_true rfl) ⟨(Nat.le_of_ble_eq_true rfl), (Nat.le_of_ble_eq_true rfl)⟩ ⟨(Nat.le_of_ble_eq_true rfl), (Nat.le_of_ble_eq_true rfl)⟩ (fun u H locs hp hP hD hS => ?_)
        obtain ⟨F217, y218, y219, y220, y221, y222, y223, t224, t225, t226, t227, t228, t229, t230, t231, t232, t233, t234, t235, t236, t237, rfl⟩ := hp
        have hP : va_P D vwCl [(h_read, .inl (cI, 135, .inl g169)), (h_stack, .inl (cI, 45, .inl g189)), (h0, .inr (10, vL 67 F217)), (h_tape, .inl (cB, 940, .inl f_tape))] H := hP
        have hD : va_D A [(h_read, .inl (cI, 135, .inl g169)), (h_stack, .inl (cI, 45, .inl g189)), (h0, .inr (10, vL 67 F217)), (h_tape, .inl (cB, 940, .inl f_tape))] := hD
        refine W.widen (k := 0) (n := 0) (Nat.le_of_ble_eq_true rfl) (Nat.le_of_ble_eq_true rfl) ?_
        refine lv_iconst (v := 1) hx hb dX10_behind__90 (by decide) ?_
        exact ret_i (v := 1) hx hb hr hlocks hS (hP.sub (ws' := [(h0, .inr (10, vL 67 F217)), (h_tape, .inl (cB, 940, .inl f_tape)), (h_read, .inl (cI, 135, .inl g169)), (h_stack, .inl (cI, 45, .inl g189))]) [2, 3, 0, 1] rfl) (hD.sub (ws' := [(h0, .inr (10, vL 67 F217)), (h_tape, .inl (cB, 940, .inl f_tape)), (h_read, .inl (cI, 135, .inl g169)), (h_stack, .inl (cI, 45, .inl g189))]) [2, 3, 0, 1] (by decide) rfl) dX10_behind__91 rfl (Nat.le_of_ble_eq_true rfl) (Nat.le_of_ble_eq_true rfl) ⟨F217, y218, y219, y220, y221, y222, x_fault, x_faultAt, y223, y167, v190, y5, 0, g169, g189, (SAME.tr (SAME.up eF193 (SAME.up eF192 (SAME.tr (SAME.tr SAME.rf t7 (by decide)) t170 (by decide)) (by decide)) (by decide)) t224 (by decide)), t225, t226, t227, t228, t229, t231, t233, (SAME.at t224 (by decide) (get_ne eF193 (by decide) (get_ne eF192 (by decide) (SAME.at t170 (by decide) (SAME.at t7 (by decide) e_fault))))), (SAME.at t224 (by decide) (get_ne eF193 (by decide) (get_ne eF192 (by decide) (SAME.at t170 (by decide) (SAME.at t7 (by decide) e_faultAt))))), t234, (SAME.at t224 (by decide) (get_ne eF193 (by decide) (get_ne eF192 (by decide) t171))), t172, (SAME.at t224 (by decide) (get_ne eF193 (by decide) (get_eq eF192))), (show 0 ≤ v190.toInt ∧ v190.toInt ≤ 45 from ⟨by omega, by omega⟩), (SAME.at t224 (by decide) (get_ne eF193 (by decide) (get_ne eF192 (by decide) (SAME.at t170 (by decide) t12)))), (SAME.at t224 (by decide) (get_eq eF193)), (show 0 ≤ (0 : Int32).toInt ∧ (0 : Int32).toInt ≤ 1 by decide), (show 0 ≤ (1 : Int32).toInt ∧ (1 : Int32).toInt ≤ 1 by decide), (by have zl0 : (0 : Int32).toInt = 0 := (by decide); have zl1 : (1 : Int32).toInt = 1 := (by decide); omega), (fun _ => SMI.w (SMI.pushb t175 eg189 (by omega) (by decide) (by omega)) (by decide)), (by have zl0 : (0 : Int32).toInt = 0 := (by decide); omega), (by have zl0 : (0 : Int32).toInt = 0 := (by decide); omega), rfl⟩
      · have dc187 : r183.toInt ≠ 0 := ne_i (a := r183.toInt) (b := 0) rfl rfl c187
        have k239 : 1 ≤ r183.toInt ∧ r183.toInt ≤ 1 := ⟨ne_lo dc187 t184.1 ⟨Int.le_refl _, Int.le_refl _⟩ (by decide), t184.2⟩
        refine lv_bipush (v := 21) hx hb dX10_behind__63 (by decide) ?_
        refine lv_goto (tgt := 70) hx hb dX10_behind__65 (by decide) ?_
        obtain ⟨g240, eg240⟩ : ∃ z : Nat → Int32, upd f_stack y168.toNatClampNeg 21 = z := ⟨_, rfl⟩
        refine iast_g hx hb hK hP hD hS 2 0 rfl rfl (ix_i (by omega) (by omega)) eg240 dX10_behind__70 (fun H locs hP hD hS => ?_)
        have hP : va_P D vwCl [(h_tape, .inl (cB, 940, .inl f_tape)), (h_read, .inl (cI, 135, .inl g169)), (h_stack, .inl (cI, 45, .inl g240)), (h0, .inr (10, vL 67 F166))] H := hP
        have hD : va_D A [(h_tape, .inl (cB, 940, .inl f_tape)), (h_read, .inl (cI, 135, .inl g169)), (h_stack, .inl (cI, 45, .inl g240)), (h0, .inr (10, vL 67 F166))] := hD
        refine lv_aload_n hx hb dX10_behind__71 rfl (lv_at hl 0 rfl) ?_
        refine lv_dup hx hb dX10_behind__72 rfl ?_
        refine get_f (D := D) (ci := 10) (v := .int y168) (C := RX10) (T := TX10) (N := 67) hx hb hw inAX10 hown hK hP 3 rfl rfl 60 (by decide) (hw _ q_1321) (fun _ h9 => h9) t173 dX10_behind__73 ?_
        refine lv_iconst (v := 1) hx hb dX10_behind__76 (by decide) ?_
        refine lv_iadd hx hb dX10_behind__77 ?_
        refine lv_topi (fun v241 ev241 => ?_)
        have bv241 : v241.toInt = y168.toInt + 1 := by rw [ev241]; exact add_k rfl rfl t174 ⟨Int.le_refl _, Int.le_refl _⟩ (by decide)
        have k242 : 1 ≤ v241.toInt ∧ v241.toInt ≤ 46 := add_r bv241 t174 ⟨Int.le_refl _, Int.le_refl _⟩ (by decide)
        refine put_f (D := D) (ci := 10) (v := .int v241) (ty := .int) (C := RX10) (T := TX10) (N := 67) hx hb hw inAX10 tyX10 tyX10_ok nmX10 hown hK hP hD hS 3 rfl rfl 60 (by decide) (hw _ q_1321) (fun _ h9 => h9) rfl (by decide +kernel) rfl rfl dX10_behind__78 (fun H locs F243 eF243 hP hD hS => ?_)
        have hP : va_P D vwCl [(h_tape, .inl (cB, 940, .inl f_tape)), (h_read, .inl (cI, 135, .inl g169)), (h_stack, .inl (cI, 45, .inl g240)), (h0, .inr (10, vL 67 F243))] H := hP
        have hD : va_D A [(h_tape, .inl (cB, 940, .inl f_tape)), (h_read, .inl (cI, 135, .inl g169)), (h_stack, .inl (cI, 45, .inl g240)), (h0, .inr (10, vL 67 F243))] := hD
        refine lv_aload_n hx hb dX10_behind__81 rfl (lv_at hl 0 rfl) ?_
        refine lv_iconst (v := 0) hx hb dX10_behind__82 (by decide) ?_
        refine put_f (D := D) (ci := 10) (v := .int 0) (ty := .boolean) (C := RX10) (T := TX10) (N := 67) hx hb hw inAX10 tyX10 tyX10_ok nmX10 hown hK hP hD hS 3 rfl rfl 62 (by decide) (hw _ q_1323) (fun _ h9 => h9) rfl (by decide +kernel) rfl rfl dX10_behind__83 (fun H locs F244 eF244 hP hD hS => ?_)
        have hP : va_P D vwCl [(h_tape, .inl (cB, 940, .inl f_tape)), (h_read, .inl (cI, 135, .inl g169)), (h_stack, .inl (cI, 45, .inl g240)), (h0, .inr (10, vL 67 F244))] H := hP
        have hD : va_D A [(h_tape, .inl (cB, 940, .inl f_tape)), (h_read, .inl (cI, 135, .inl g169)), (h_stack, .inl (cI, 45, .inl g240)), (h0, .inr (10, vL 67 F244))] := hD
        refine lv_aload_n hx hb dX10_behind__86 rfl (lv_at hl 0 rfl) ?_
        have n245 : F2 1 = .ref h_tape := (SAME.at t7 (by decide) e_tape)
        have n246 : F166 1 = .ref h_tape := (SAME.at t170 (by decide) n245)
        have n247 : F243 1 = .ref h_tape := (get_ne eF243 (by decide) n246)
        have n248 : F244 1 = .ref h_tape := (get_ne eF244 (by decide) n247)
        have n249 : F2 3 = .int x_size := (SAME.at t7 (by decide) e_size)
        have n250 : F166 3 = .int x_size := (SAME.at t170 (by decide) n249)
        have n251 : F243 3 = .int x_size := (get_ne eF243 (by decide) n250)
        have n252 : F244 3 = .int x_size := (get_ne eF244 (by decide) n251)
        have n253 : F2 4 = .int x_p := (SAME.at t7 (by decide) e_p)
        have n254 : F166 4 = .int x_p := (SAME.at t170 (by decide) n253)
        have n255 : F243 4 = .int x_p := (get_ne eF243 (by decide) n254)
        have n256 : F244 4 = .int x_p := (get_ne eF244 (by decide) n255)
        have n257 : F2 5 = .int x_limit := (SAME.at t7 (by decide) e_limit)
        have n258 : F166 5 = .int x_limit := (SAME.at t170 (by decide) n257)
        have n259 : F243 5 = .int x_limit := (get_ne eF243 (by decide) n258)
        have n260 : F244 5 = .int x_limit := (get_ne eF244 (by decide) n259)
        have n261 : F243 11 = .int x_token := (get_ne eF243 (by decide) n180)
        have n262 : F244 11 = .int x_token := (get_ne eF244 (by decide) n261)
        have n263 : F243 14 = .int x_number := (get_ne eF243 (by decide) n181)
        have n264 : F244 14 = .int x_number := (get_ne eF244 (by decide) n263)
        have n265 : F243 18 = .long x_word := (get_ne eF243 (by decide) n182)
        have n266 : F244 18 = .long x_word := (get_ne eF244 (by decide) n265)
        refine call_Vv (wr := [(h_read, .inl (cI, 135, .inl g169)), (h_stack, .inl (cI, 45, .inl g240))]) (As := []) (rest := []) hx hb hml hown hw (m_X10_next l D cI cJ cB cP cM cZ h0 h_tape F244 x_size x_p x_limit x_token x_number x_word f_tape _ n248 n252 i_x_size n256 i_x_p n260 i_x_limit n262 i_x_token n264 n266 (by omega)) wV_X10_208_X10_next dX10_behind__87 hK hP hD hS hA [3, 0] [1, 2] rfl rfl (by decide) (by decide) (by decide) 0 10 rfl rfl GG.fb hG.at hl.1 rfl (Nat.le_of_ble_eq_true rfl) ⟨(Nat.le_of_ble_eq_true rfl), (Nat.le_of_ble_eq_true rfl)⟩ ⟨(Nat.le_of_ble_eq_true rfl), (Nat.le_of_ble_eq_true rfl)⟩ (fun u H locs hp hP hD hS => ?_)
        obtain ⟨F268, y269, y270, y271, y272, y273, y274, t275, t276, t277, t278, t279, t280, t281, t282, t283, t284, t285, t286, t287, t288, rfl⟩ := hp
        have hP : va_P D vwCl [(h_read, .inl (cI, 135, .inl g169)), (h_stack, .inl (cI, 45, .inl g240)), (h0, .inr (10, vL 67 F268)), (h_tape, .inl (cB, 940, .inl f_tape))] H := hP
        have hD : va_D A [(h_read, .inl (cI, 135, .inl g169)), (h_stack, .inl (cI, 45, .inl g240)), (h0, .inr (10, vL 67 F268)), (h_tape, .inl (cB, 940, .inl f_tape))] := hD
        refine W.widen (k := 0) (n := 0) (Nat.le_of_ble_eq_true rfl) (Nat.le_of_ble_eq_true rfl) ?_
        refine lv_iconst (v := 1) hx hb dX10_behind__90 (by decide) ?_
        exact ret_i (v := 1) hx hb hr hlocks hS (hP.sub (ws' := [(h0, .inr (10, vL 67 F268)), (h_tape, .inl (cB, 940, .inl f_tape)), (h_read, .inl (cI, 135, .inl g169)), (h_stack, .inl (cI, 45, .inl g240))]) [2, 3, 0, 1] rfl) (hD.sub (ws' := [(h0, .inr (10, vL 67 F268)), (h_tape, .inl (cB, 940, .inl f_tape)), (h_read, .inl (cI, 135, .inl g169)), (h_stack, .inl (cI, 45, .inl g240))]) [2, 3, 0, 1] (by decide) rfl) dX10_behind__91 rfl (Nat.le_of_ble_eq_true rfl) (Nat.le_of_ble_eq_true rfl) ⟨F268, y269, y270, y271, y272, y273, x_fault, x_faultAt, y274, y167, v241, y5, 0, g169, g240, (SAME.tr (SAME.up eF244 (SAME.up eF243 (SAME.tr (SAME.tr SAME.rf t7 (by decide)) t170 (by decide)) (by decide)) (by decide)) t275 (by decide)), t276, t277, t278, t279, t280, t282, t284, (SAME.at t275 (by decide) (get_ne eF244 (by decide) (get_ne eF243 (by decide) (SAME.at t170 (by decide) (SAME.at t7 (by decide) e_fault))))), (SAME.at t275 (by decide) (get_ne eF244 (by decide) (get_ne eF243 (by decide) (SAME.at t170 (by decide) (SAME.at t7 (by decide) e_faultAt))))), t285, (SAME.at t275 (by decide) (get_ne eF244 (by decide) (get_ne eF243 (by decide) t171))), t172, (SAME.at t275 (by decide) (get_ne eF244 (by decide) (get_eq eF243))), (show 0 ≤ v241.toInt ∧ v241.toInt ≤ 45 from ⟨by omega, by omega⟩), (SAME.at t275 (by decide) (get_ne eF244 (by decide) (get_ne eF243 (by decide) (SAME.at t170 (by decide) t12)))), (SAME.at t275 (by decide) (get_eq eF244)), (show 0 ≤ (0 : Int32).toInt ∧ (0 : Int32).toInt ≤ 1 by decide), (show 0 ≤ (1 : Int32).toInt ∧ (1 : Int32).toInt ≤ 1 by decide), (by have zl0 : (0 : Int32).toInt = 0 := (by decide); have zl1 : (1 : Int32).toInt = 1 := (by decide); omega), (fun _ => SMI.w (SMI.pushb t175 eg240 (by omega) (by decide) (by omega)) (by decide)), (by have zl0 : (0 : Int32).toInt = 0 := (by decide); omega), (by have zl0 : (0 : Int32).toInt = 0 := (by decide); omega), rfl⟩
  · have dc23 : r19.toInt = 0 := eq_i (a := r19.toInt) (b := 0) rfl rfl c23
    have k290 : 0 ≤ r19.toInt ∧ r19.toInt ≤ 0 := ⟨t20.1, Int.le_trans (Int.le_of_eq dc23) (Int.le_refl _)⟩
    refine lv_aload_n hx hb dX10_behind__14 rfl (lv_at hl 0 rfl) ?_
    refine lv_ldc2 hx hb hown (hw _ q_1248) dX10_behind__15 ?_
    refine call_Vi (wr := [(h_tape, .inl (cB, 940, .inl f_tape)), (h_read, .inl (cI, 135, .inl g6)), (h_stack, .inl (cI, 45, .inl f_stack))]) (As := [.long 28530]) (rest := []) hx hb hml hown hw (m_X10_isWord l D cI cJ cB cP cM cZ h0 F2 x_token x_number x_word 28530 _ n16 i_x_token n17 n18 (by omega)) wV_X10_225_X10_isWord dX10_behind__18 hK hP hD hS hA [3] [0, 1, 2] rfl rfl (by decide) (by decide) (by decide) 0 10 rfl rfl GG.fb hG.at hl.1 rfl (Nat.le_of_ble_eq_true rfl) ⟨(Nat.le_of_ble_eq_true rfl), (Nat.le_of_ble_eq_true rfl)⟩ ⟨(Nat.le_of_ble_eq_true rfl), (Nat.le_of_ble_eq_true rfl)⟩ (fun r291 u H locs hp hP hD hS => ?_)
    have zl28530 : (28530 : Int32).toInt = 28530 := by decide
    obtain ⟨t292, t293, rfl⟩ := hp
    have hP : va_P D vwCl [(h_tape, .inl (cB, 940, .inl f_tape)), (h_read, .inl (cI, 135, .inl g6)), (h_stack, .inl (cI, 45, .inl f_stack)), (h0, .inr (10, vL 67 F2))] H := hP
    have hD : va_D A [(h_tape, .inl (cB, 940, .inl f_tape)), (h_read, .inl (cI, 135, .inl g6)), (h_stack, .inl (cI, 45, .inl f_stack)), (h0, .inr (10, vL 67 F2))] := hD
    refine W.widen (k := 0) (n := 0) (Nat.le_of_ble_eq_true rfl) (Nat.le_of_ble_eq_true rfl) ?_
    refine lv_if_eq (tgt := 92) hx hb dX10_behind__21 (by decide) (fun c295 => ?_) (fun c295 => ?_)
    · have dc295 : r291.toInt = 0 := eq_i (a := r291.toInt) (b := 0) rfl rfl c295
      have k296 : 0 ≤ r291.toInt ∧ r291.toInt ≤ 0 := ⟨t292.1, Int.le_trans (Int.le_of_eq dc295) (Int.le_refl _)⟩
      refine lv_aload_n hx hb dX10_behind__92 rfl (lv_at hl 0 rfl) ?_
      refine lv_bipush (v := 22) hx hb dX10_behind__93 (by decide) ?_
      have n297 : F2 8 = .ref h_read := (SAME.at t7 (by decide) e_read)
      have n298 : F2 57 = .ref h_stack := (SAME.at t7 (by decide) e_stack)
      have n299 : F2 59 = .int x_ones := (SAME.at t7 (by decide) e_ones)
      have n300 : F2 62 = .int x_isWhole := (SAME.at t7 (by decide) e_isWhole)
      refine call_Vv (wr := [(h_tape, .inl (cB, 940, .inl f_tape))]) (As := [.int 22]) (rest := []) hx hb hml hown hw (m_X10_joins l D cI cJ cB cP cM cZ h0 h_read h_stack F2 y3 x_ones y4 x_isWhole g6 f_stack 22 _ n297 n298 t8 t9 n299 i_x_ones t10 t11 n300 i_x_isWhole (by omega) (SMI.w t13 (by omega)) (by omega)) wV_X10_466_X10_joins dX10_behind__95 hK hP hD hS hA [3, 1, 2] [0] rfl rfl (by decide) (by decide) (by decide) 0 10 rfl rfl GG.fb hG.at hl.1 rfl (Nat.le_of_ble_eq_true rfl) ⟨(Nat.le_of_ble_eq_true rfl), (Nat.le_of_ble_eq_true rfl)⟩ ⟨(Nat.le_of_ble_eq_true rfl), (Nat.le_of_ble_eq_true rfl)⟩ (fun u H locs hp hP hD hS => ?_)
      have zl22 : (22 : Int32).toInt = 22 := by decide
      obtain ⟨F302, y303, y304, g305, t306, t307, t308, t309, t310, t311, t312, t313, rfl⟩ := hp
      have hP : va_P D vwCl [(h_tape, .inl (cB, 940, .inl f_tape)), (h0, .inr (10, vL 67 F302)), (h_read, .inl (cI, 135, .inl g305)), (h_stack, .inl (cI, 45, .inl f_stack))] H := hP
      have hD : va_D A [(h_tape, .inl (cB, 940, .inl f_tape)), (h0, .inr (10, vL 67 F302)), (h_read, .inl (cI, 135, .inl g305)), (h_stack, .inl (cI, 45, .inl f_stack))] := hD
      refine W.widen (k := 0) (n := 0) (Nat.le_of_ble_eq_true rfl) (Nat.le_of_ble_eq_true rfl) ?_
      refine lv_aload_n hx hb dX10_behind__98 rfl (lv_at hl 0 rfl) ?_
      refine lv_bipush (v := 41) hx hb dX10_behind__99 (by decide) ?_
      have n315 : F302 11 = .int x_token := (SAME.at t306 (by decide) n16)
      have n316 : F302 14 = .int x_number := (SAME.at t306 (by decide) n17)
      refine call_Vi (wr := [(h_tape, .inl (cB, 940, .inl f_tape)), (h_read, .inl (cI, 135, .inl g305)), (h_stack, .inl (cI, 45, .inl f_stack))]) (As := [.int 41]) (rest := []) hx hb hml hown hw (m_X10_isSign l D cI cJ cB cP cM cZ h0 F302 x_token x_number 41 _ n315 i_x_token n316 (by omega)) wV_X10_202_X10_isSign dX10_behind__101 hK hP hD hS hA [1] [0, 2, 3] rfl rfl (by decide) (by decide) (by decide) 0 10 rfl rfl GG.fb hG.at hl.1 rfl (Nat.le_of_ble_eq_true rfl) ⟨(Nat.le_of_ble_eq_true rfl), (Nat.le_of_ble_eq_true rfl)⟩ ⟨(Nat.le_of_ble_eq_true rfl), (Nat.le_of_ble_eq_true rfl)⟩ (fun r317 u H locs hp hP hD hS => ?_)
      have zl41 : (41 : Int32).toInt = 41 := by decide
      obtain ⟨t318, t319, rfl⟩ := hp
      have hP : va_P D vwCl [(h_tape, .inl (cB, 940, .inl f_tape)), (h_read, .inl (cI, 135, .inl g305)), (h_stack, .inl (cI, 45, .inl f_stack)), (h0, .inr (10, vL 67 F302))] H := hP
      have hD : va_D A [(h_tape, .inl (cB, 940, .inl f_tape)), (h_read, .inl (cI, 135, .inl g305)), (h_stack, .inl (cI, 45, .inl f_stack)), (h0, .inr (10, vL 67 F302))] := hD
      refine W.widen (k := 0) (n := 0) (Nat.le_of_ble_eq_true rfl) (Nat.le_of_ble_eq_true rfl) ?_
      refine lv_if_eq (tgt := 114) hx hb dX10_behind__104 (by decide) (fun c321 => ?_) (fun c321 => ?_)
      · have dc321 : r317.toInt = 0 := eq_i (a := r317.toInt) (b := 0) rfl rfl c321
        have k322 : 0 ≤ r317.toInt ∧ r317.toInt ≤ 0 := ⟨t318.1, Int.le_trans (Int.le_of_eq dc321) (Int.le_refl _)⟩
        refine lv_aload_n hx hb dX10_behind__114 rfl (lv_at hl 0 rfl) ?_
        refine lv_iconst (v := 1) hx hb dX10_behind__115 (by decide) ?_
        have n323 : F2 12 = .int x_at := (SAME.at t7 (by decide) e_at)
        have n324 : F302 12 = .int x_at := (SAME.at t306 (by decide) n323)
        refine call_Vi (wr := [(h_tape, .inl (cB, 940, .inl f_tape)), (h_read, .inl (cI, 135, .inl g305)), (h_stack, .inl (cI, 45, .inl f_stack))]) (As := [.int 1]) (rest := []) hx hb hml hown hw (m_X10_bad l D cI cJ cB cP cM cZ h0 F302 x_at 1 _ n324) wV_X10_205_X10_bad dX10_behind__116 hK hP hD hS hA [3] [0, 1, 2] rfl rfl (by decide) (by decide) (by decide) 0 10 rfl rfl GG.fb hG.at hl.1 rfl (Nat.le_of_ble_eq_true rfl) ⟨(Nat.le_of_ble_eq_true rfl), (Nat.le_of_ble_eq_true rfl)⟩ ⟨(Nat.le_of_ble_eq_true rfl), (Nat.le_of_ble_eq_true rfl)⟩ (fun r325 u H locs hp hP hD hS => ?_)
        have zl1 : (1 : Int32).toInt = 1 := by decide
        obtain ⟨F326, t327, t328, t329, rfl, rfl⟩ := hp
        have hP : va_P D vwCl [(h_tape, .inl (cB, 940, .inl f_tape)), (h_read, .inl (cI, 135, .inl g305)), (h_stack, .inl (cI, 45, .inl f_stack)), (h0, .inr (10, vL 67 F326))] H := hP
        have hD : va_D A [(h_tape, .inl (cB, 940, .inl f_tape)), (h_read, .inl (cI, 135, .inl g305)), (h_stack, .inl (cI, 45, .inl f_stack)), (h0, .inr (10, vL 67 F326))] := hD
        refine W.widen (k := 0) (n := 0) (Nat.le_of_ble_eq_true rfl) (Nat.le_of_ble_eq_true rfl) ?_
        exact ret_i (v := 0) hx hb hr hlocks hS (hP.sub (ws' := [(h0, .inr (10, vL 67 F326)), (h_tape, .inl (cB, 940, .inl f_tape)), (h_read, .inl (cI, 135, .inl g305)), (h_stack, .inl (cI, 45, .inl f_stack))]) [3, 0, 1, 2] rfl) (hD.sub (ws' := [(h0, .inr (10, vL 67 F326)), (h_tape, .inl (cB, 940, .inl f_tape)), (h_read, .inl (cI, 135, .inl g305)), (h_stack, .inl (cI, 45, .inl f_stack))]) [3, 0, 1, 2] (by decide) rfl) dX10_behind__119 rfl (Nat.le_of_ble_eq_true rfl) (Nat.le_of_ble_eq_true rfl) ⟨F326, x_p, x_token, x_at, x_span, x_number, 1, x_at, x_word, y303, y304, y5, x_isWhole, g305, f_stack, (SAME.tr (SAME.tr (SAME.tr SAME.rf t7 (by decide)) t306 (by decide)) t327 (by decide)), (SAME.at t327 (by decide) (SAME.at t306 (by decide) (SAME.at t7 (by decide) e_p))), i_x_p, (SAME.at t327 (by decide) n315), i_x_token, (SAME.at t327 (by decide) n324), (SAME.at t327 (by decide) (SAME.at t306 (by decide) (SAME.at t7 (by decide) e_span))), (SAME.at t327 (by decide) n316), t328, t329, (SAME.at t327 (by decide) (SAME.at t306 (by decide) n18)), (SAME.at t327 (by decide) t307), t308, (SAME.at t327 (by decide) t309), t310, (SAME.at t327 (by decide) (SAME.at t306 (by decide) t12)), (SAME.at t327 (by decide) (SAME.at t306 (by decide) n300)), i_x_isWhole, (show 0 ≤ (0 : Int32).toInt ∧ (0 : Int32).toInt ≤ 1 by decide), (by have zl0 : (0 : Int32).toInt = 0 := (by decide); omega), (fun q => absurd q (by decide)), (by have zl1 : (1 : Int32).toInt = 1 := (by decide); omega), (by have zl1 : (1 : Int32).toInt = 1 := (by decide); omega), rfl⟩
      · have dc321 : r317.toInt ≠ 0 := ne_i (a := r317.toInt) (b := 0) rfl rfl c321
        have k331 : 1 ≤ r317.toInt ∧ r317.toInt ≤ 1 := ⟨ne_lo dc321 t318.1 ⟨Int.le_refl _, Int.le_refl _⟩ (by decide), t318.2⟩
        refine lv_aload_n hx hb dX10_behind__107 rfl (lv_at hl 0 rfl) ?_
        refine get_f (D := D) (ci := 10) (v := .int y304) (C := RX10) (T := TX10) (N := 67) hx hb hw inAX10 hown hK hP 3 rfl rfl 60 (by decide) (hw _ q_1321) (fun _ h9 => h9) t309 dX10_behind__108 ?_
        refine lv_if_ne (tgt := 120) hx hb dX10_behind__111 (by decide) (fun c332 => ?_) (fun c332 => ?_)
        · have dc332 : y304.toInt ≠ 0 := ne_i (a := y304.toInt) (b := 0) rfl rfl c332
          have k333 : 1 ≤ y304.toInt ∧ y304.toInt ≤ 45 := ⟨ne_lo dc332 t310.1 ⟨Int.le_refl _, Int.le_refl _⟩ (by decide), t310.2⟩
          refine lv_aload_n hx hb dX10_behind__120 rfl (lv_at hl 0 rfl) ?_
          refine lv_dup hx hb dX10_behind__121 rfl ?_
          refine get_f (D := D) (ci := 10) (v := .int y304) (C := RX10) (T := TX10) (N := 67) hx hb hw inAX10 hown hK hP 3 rfl rfl 60 (by decide) (hw _ q_1321) (fun _ h9 => h9) t309 dX10_behind__122 ?_
          refine lv_iconst (v := 1) hx hb dX10_behind__125 (by decide) ?_
          refine lv_isub hx hb dX10_behind__126 ?_
          refine lv_topi (fun v334 ev334 => ?_)
          have bv334 : v334.toInt = y304.toInt - 1 := by rw [ev334]; exact sub_k rfl rfl k333 ⟨Int.le_refl _, Int.le_refl _⟩ (by decide)
          have k335 : 0 ≤ v334.toInt ∧ v334.toInt ≤ 44 := sub_r bv334 k333 ⟨Int.le_refl _, Int.le_refl _⟩ (by decide)
          refine put_f (D := D) (ci := 10) (v := .int v334) (ty := .int) (C := RX10) (T := TX10) (N := 67) hx hb hw inAX10 tyX10 tyX10_ok nmX10 hown hK hP hD hS 3 rfl rfl 60 (by decide) (hw _ q_1321) (fun _ h9 => h9) rfl (by decide +kernel) rfl rfl dX10_behind__127 (fun H locs F336 eF336 hP hD hS => ?_)
          have hP : va_P D vwCl [(h_tape, .inl (cB, 940, .inl f_tape)), (h_read, .inl (cI, 135, .inl g305)), (h_stack, .inl (cI, 45, .inl f_stack)), (h0, .inr (10, vL 67 F336))] H := hP
          have hD : va_D A [(h_tape, .inl (cB, 940, .inl f_tape)), (h_read, .inl (cI, 135, .inl g305)), (h_stack, .inl (cI, 45, .inl f_stack)), (h0, .inr (10, vL 67 F336))] := hD
          refine lv_aload_n hx hb dX10_behind__130 rfl (lv_at hl 0 rfl) ?_
          refine lv_dup hx hb dX10_behind__131 rfl ?_
          have n337 : F302 61 = .int y5 := (SAME.at t306 (by decide) t12)
          have n338 : F336 61 = .int y5 := (get_ne eF336 (by decide) n337)
          refine get_f (D := D) (ci := 10) (v := .int y5) (C := RX10) (T := TX10) (N := 67) hx hb hw inAX10 hown hK hP 3 rfl rfl 61 (by decide) (hw _ q_1322) (fun _ h9 => h9) n338 dX10_behind__132 ?_
          refine lv_iconst (v := 1) hx hb dX10_behind__135 (by decide) ?_
          refine lv_isub hx hb dX10_behind__136 ?_
          refine lv_topi (fun v339 ev339 => ?_)
          refine put_f (D := D) (ci := 10) (v := .int v339) (ty := .int) (C := RX10) (T := TX10) (N := 67) hx hb hw inAX10 tyX10 tyX10_ok nmX10 hown hK hP hD hS 3 rfl rfl 61 (by decide) (hw _ q_1322) (fun _ h9 => h9) rfl (by decide +kernel) rfl rfl dX10_behind__137 (fun H locs F340 eF340 hP hD hS => ?_)
          have hP : va_P D vwCl [(h_tape, .inl (cB, 940, .inl f_tape)), (h_read, .inl (cI, 135, .inl g305)), (h_stack, .inl (cI, 45, .inl f_stack)), (h0, .inr (10, vL 67 F340))] H := hP
          have hD : va_D A [(h_tape, .inl (cB, 940, .inl f_tape)), (h_read, .inl (cI, 135, .inl g305)), (h_stack, .inl (cI, 45, .inl f_stack)), (h0, .inr (10, vL 67 F340))] := hD
          refine lv_aload_n hx hb dX10_behind__140 rfl (lv_at hl 0 rfl) ?_
          have n341 : F2 1 = .ref h_tape := (SAME.at t7 (by decide) e_tape)
          have n342 : F302 1 = .ref h_tape := (SAME.at t306 (by decide) n341)
          have n343 : F336 1 = .ref h_tape := (get_ne eF336 (by decide) n342)
          have n344 : F340 1 = .ref h_tape := (get_ne eF340 (by decide) n343)
          have n345 : F2 3 = .int x_size := (SAME.at t7 (by decide) e_size)
          have n346 : F302 3 = .int x_size := (SAME.at t306 (by decide) n345)
          have n347 : F336 3 = .int x_size := (get_ne eF336 (by decide) n346)
          have n348 : F340 3 = .int x_size := (get_ne eF340 (by decide) n347)
          have n349 : F2 4 = .int x_p := (SAME.at t7 (by decide) e_p)
          have n350 : F302 4 = .int x_p := (SAME.at t306 (by decide) n349)
          have n351 : F336 4 = .int x_p := (get_ne eF336 (by decide) n350)
          have n352 : F340 4 = .int x_p := (get_ne eF340 (by decide) n351)
          have n353 : F2 5 = .int x_limit := (SAME.at t7 (by decide) e_limit)
          have n354 : F302 5 = .int x_limit := (SAME.at t306 (by decide) n353)
          have n355 : F336 5 = .int x_limit := (get_ne eF336 (by decide) n354)
          have n356 : F340 5 = .int x_limit := (get_ne eF340 (by decide) n355)
          have n357 : F336 11 = .int x_token := (get_ne eF336 (by decide) n315)
          have n358 : F340 11 = .int x_token := (get_ne eF340 (by decide) n357)
          have n359 : F336 14 = .int x_number := (get_ne eF336 (by decide) n316)
          have n360 : F340 14 = .int x_number := (get_ne eF340 (by decide) n359)
          have n361 : F302 18 = .long x_word := (SAME.at t306 (by decide) n18)
          have n362 : F336 18 = .long x_word := (get_ne eF336 (by decide) n361)
          have n363 : F340 18 = .long x_word := (get_ne eF340 (by decide) n362)
          refine call_Vv (wr := [(h_read, .inl (cI, 135, .inl g305)), (h_stack, .inl (cI, 45, .inl f_stack))]) (As := []) (rest := []) hx hb hml hown hw (m_X10_next l D cI cJ cB cP cM cZ h0 h_tape F340 x_size x_p x_limit x_token x_number x_word f_tape _ n344 n348 i_x_size n352 i_x_p n356 i_x_limit n358 i_x_token n360 n363 (by omega)) wV_X10_208_X10_next dX10_behind__141 hK hP hD hS hA [3, 0] [1, 2] rfl rfl (by decide) (by decide) (by decide) 0 10 rfl rfl GG.fb hG.at hl.1 rfl (Nat.le_of_ble_eq_true rfl) ⟨(Nat.le_of_ble_eq_true rfl), (Nat.le_of_ble_eq_true rfl)⟩ ⟨(Nat.le_of_ble_eq_true rfl), (Nat.le_of_ble_eq_true rfl)⟩ (fun u H locs hp hP hD hS => ?_)
          obtain ⟨F365, y366, y367, y368, y369, y370, y371, t372, t373, t374, t375, t376, t377, t378, t379, t380, t381, t382, t383, t384, t385, rfl⟩ := hp
          have hP : va_P D vwCl [(h_read, .inl (cI, 135, .inl g305)), (h_stack, .inl (cI, 45, .inl f_stack)), (h0, .inr (10, vL 67 F365)), (h_tape, .inl (cB, 940, .inl f_tape))] H := hP
          have hD : va_D A [(h_read, .inl (cI, 135, .inl g305)), (h_stack, .inl (cI, 45, .inl f_stack)), (h0, .inr (10, vL 67 F365)), (h_tape, .inl (cB, 940, .inl f_tape))] := hD
          refine W.widen (k := 0) (n := 0) (Nat.le_of_ble_eq_true rfl) (Nat.le_of_ble_eq_true rfl) ?_
          refine lv_iconst (v := 1) hx hb dX10_behind__144 (by decide) ?_
          exact ret_i (v := 1) hx hb hr hlocks hS (hP.sub (ws' := [(h0, .inr (10, vL 67 F365)), (h_tape, .inl (cB, 940, .inl f_tape)), (h_read, .inl (cI, 135, .inl g305)), (h_stack, .inl (cI, 45, .inl f_stack))]) [2, 3, 0, 1] rfl) (hD.sub (ws' := [(h0, .inr (10, vL 67 F365)), (h_tape, .inl (cB, 940, .inl f_tape)), (h_read, .inl (cI, 135, .inl g305)), (h_stack, .inl (cI, 45, .inl f_stack))]) [2, 3, 0, 1] (by decide) rfl) dX10_behind__145 rfl (Nat.le_of_ble_eq_true rfl) (Nat.le_of_ble_eq_true rfl) ⟨F365, y366, y367, y368, y369, y370, x_fault, x_faultAt, y371, y303, v334, v339, x_isWhole, g305, f_stack, (SAME.tr (SAME.up eF340 (SAME.up eF336 (SAME.tr (SAME.tr SAME.rf t7 (by decide)) t306 (by decide)) (by decide)) (by decide)) t372 (by decide)), t373, t374, t375, t376, t377, t379, t381, (SAME.at t372 (by decide) (get_ne eF340 (by decide) (get_ne eF336 (by decide) (SAME.at t306 (by decide) (SAME.at t7 (by decide) e_fault))))), (SAME.at t372 (by decide) (get_ne eF340 (by decide) (get_ne eF336 (by decide) (SAME.at t306 (by decide) (SAME.at t7 (by decide) e_faultAt))))), t382, (SAME.at t372 (by decide) (get_ne eF340 (by decide) (get_ne eF336 (by decide) t307))), t308, (SAME.at t372 (by decide) (get_ne eF340 (by decide) (get_eq eF336))), (ir_wk k335 (by decide) (by decide)), (SAME.at t372 (by decide) (get_eq eF340)), (SAME.at t372 (by decide) (get_ne eF340 (by decide) (get_ne eF336 (by decide) (SAME.at t306 (by decide) n300)))), i_x_isWhole, (show 0 ≤ (1 : Int32).toInt ∧ (1 : Int32).toInt ≤ 1 by decide), (by have zl0 : (0 : Int32).toInt = 0 := (by decide); have zl1 : (1 : Int32).toInt = 1 := (by decide); omega), (fun _ => SMI.w (SMI.pop t311 t312 (by decide) (by omega) (by omega)) (by omega)), (by omega), (by omega), rfl⟩
        · have dc332 : y304.toInt = 0 := eq_i (a := y304.toInt) (b := 0) rfl rfl c332
          have k387 : 0 ≤ y304.toInt ∧ y304.toInt ≤ 0 := ⟨t310.1, Int.le_trans (Int.le_of_eq dc332) (Int.le_refl _)⟩
          refine lv_aload_n hx hb dX10_behind__114 rfl (lv_at hl 0 rfl) ?_
          refine lv_iconst (v := 1) hx hb dX10_behind__115 (by decide) ?_
          have n388 : F2 12 = .int x_at := (SAME.at t7 (by decide) e_at)
          have n389 : F302 12 = .int x_at := (SAME.at t306 (by decide) n388)
          refine call_Vi (wr := [(h_tape, .inl (cB, 940, .inl f_tape)), (h_read, .inl (cI, 135, .inl g305)), (h_stack, .inl (cI, 45, .inl f_stack))]) (As := [.int 1]) (rest := []) hx hb hml hown hw (m_X10_bad l D cI cJ cB cP cM cZ h0 F302 x_at 1 _ n389) wV_X10_205_X10_bad dX10_behind__116 hK hP hD hS hA [3] [0, 1, 2] rfl rfl (by decide) (by decide) (by decide) 0 10 rfl rfl GG.fb hG.at hl.1 rfl (Nat.le_of_ble_eq_true rfl) ⟨(Nat.le_of_ble_eq_true rfl), (Nat.le_of_ble_eq_true rfl)⟩ ⟨(Nat.le_of_ble_eq_true rfl), (Nat.le_of_ble_eq_true rfl)⟩ (fun r390 u H locs hp hP hD hS => ?_)
          have zl1 : (1 : Int32).toInt = 1 := by decide
          obtain ⟨F391, t392, t393, t394, rfl, rfl⟩ := hp
          have hP : va_P D vwCl [(h_tape, .inl (cB, 940, .inl f_tape)), (h_read, .inl (cI, 135, .inl g305)), (h_stack, .inl (cI, 45, .inl f_stack)), (h0, .inr (10, vL 67 F391))] H := hP
          have hD : va_D A [(h_tape, .inl (cB, 940, .inl f_tape)), (h_read, .inl (cI, 135, .inl g305)), (h_stack, .inl (cI, 45, .inl f_stack)), (h0, .inr (10, vL 67 F391))] := hD
          refine W.widen (k := 0) (n := 0) (Nat.le_of_ble_eq_true rfl) (Nat.le_of_ble_eq_true rfl) ?_
          exact ret_i (v := 0) hx hb hr hlocks hS (hP.sub (ws' := [(h0, .inr (10, vL 67 F391)), (h_tape, .inl (cB, 940, .inl f_tape)), (h_read, .inl (cI, 135, .inl g305)), (h_stack, .inl (cI, 45, .inl f_stack))]) [3, 0, 1, 2] rfl) (hD.sub (ws' := [(h0, .inr (10, vL 67 F391)), (h_tape, .inl (cB, 940, .inl f_tape)), (h_read, .inl (cI, 135, .inl g305)), (h_stack, .inl (cI, 45, .inl f_stack))]) [3, 0, 1, 2] (by decide) rfl) dX10_behind__119 rfl (Nat.le_of_ble_eq_true rfl) (Nat.le_of_ble_eq_true rfl) ⟨F391, x_p, x_token, x_at, x_span, x_number, 1, x_at, x_word, y303, y304, y5, x_isWhole, g305, f_stack, (SAME.tr (SAME.tr (SAME.tr SAME.rf t7 (by decide)) t306 (by decide)) t392 (by decide)), (SAME.at t392 (by decide) (SAME.at t306 (by decide) (SAME.at t7 (by decide) e_p))), i_x_p, (SAME.at t392 (by decide) n315), i_x_token, (SAME.at t392 (by decide) n389), (SAME.at t392 (by decide) (SAME.at t306 (by decide) (SAME.at t7 (by decide) e_span))), (SAME.at t392 (by decide) n316), t393, t394, (SAME.at t392 (by decide) (SAME.at t306 (by decide) n18)), (SAME.at t392 (by decide) t307), t308, (SAME.at t392 (by decide) t309), (ir_wk k387 (by decide) (by decide)), (SAME.at t392 (by decide) (SAME.at t306 (by decide) t12)), (SAME.at t392 (by decide) (SAME.at t306 (by decide) n300)), i_x_isWhole, (show 0 ≤ (0 : Int32).toInt ∧ (0 : Int32).toInt ≤ 1 by decide), (by have zl0 : (0 : Int32).toInt = 0 := (by decide); omega), (fun q => absurd q (by decide)), (by have zl1 : (1 : Int32).toInt = 1 := (by decide); omega), (by have zl1 : (1 : Int32).toInt = 1 := (by decide); omega), rfl⟩
    · have dc295 : r291.toInt ≠ 0 := ne_i (a := r291.toInt) (b := 0) rfl rfl c295
      have k396 : 1 ≤ r291.toInt ∧ r291.toInt ≤ 1 := ⟨ne_lo dc295 t292.1 ⟨Int.le_refl _, Int.le_refl _⟩ (by decide), t292.2⟩
      refine lv_aload_n hx hb dX10_behind__24 rfl (lv_at hl 0 rfl) ?_
      refine lv_aload_n hx hb dX10_behind__25 rfl (lv_at hl 0 rfl) ?_
      refine lv_ldc2 hx hb hown (hw _ q_1249) dX10_behind__26 ?_
      refine call_Vi (wr := [(h_tape, .inl (cB, 940, .inl f_tape)), (h_read, .inl (cI, 135, .inl g6)), (h_stack, .inl (cI, 45, .inl f_stack))]) (As := [.long 6385252]) (rest := [.ref h0]) hx hb hml hown hw (m_X10_isWord l D cI cJ cB cP cM cZ h0 F2 x_token x_number x_word 6385252 _ n16 i_x_token n17 n18 (by omega)) wV_X10_225_X10_isWord dX10_behind__29 hK hP hD hS hA [3] [0, 1, 2] rfl rfl (by decide) (by decide) (by decide) 0 10 rfl rfl GG.fb hG.at hl.1 rfl (Nat.le_of_ble_eq_true rfl) ⟨(Nat.le_of_ble_eq_true rfl), (Nat.le_of_ble_eq_true rfl)⟩ ⟨(Nat.le_of_ble_eq_true rfl), (Nat.le_of_ble_eq_true rfl)⟩ (fun r397 u H locs hp hP hD hS => ?_)
      obtain ⟨t398, t399, rfl⟩ := hp
      have hP : va_P D vwCl [(h_tape, .inl (cB, 940, .inl f_tape)), (h_read, .inl (cI, 135, .inl g6)), (h_stack, .inl (cI, 45, .inl f_stack)), (h0, .inr (10, vL 67 F2))] H := hP
      have hD : va_D A [(h_tape, .inl (cB, 940, .inl f_tape)), (h_read, .inl (cI, 135, .inl g6)), (h_stack, .inl (cI, 45, .inl f_stack)), (h0, .inr (10, vL 67 F2))] := hD
      refine W.widen (k := 0) (n := 0) (Nat.le_of_ble_eq_true rfl) (Nat.le_of_ble_eq_true rfl) ?_
      refine lv_if_eq (tgt := 40) hx hb dX10_behind__32 (by decide) (fun c401 => ?_) (fun c401 => ?_)
      · have dc401 : r397.toInt = 0 := eq_i (a := r397.toInt) (b := 0) rfl rfl c401
        have k402 : 0 ≤ r397.toInt ∧ r397.toInt ≤ 0 := ⟨t398.1, Int.le_trans (Int.le_of_eq dc401) (Int.le_refl _)⟩
        refine lv_bipush (v := 22) hx hb dX10_behind__40 (by decide) ?_
        have n403 : F2 8 = .ref h_read := (SAME.at t7 (by decide) e_read)
        have n404 : F2 57 = .ref h_stack := (SAME.at t7 (by decide) e_stack)
        have n405 : F2 59 = .int x_ones := (SAME.at t7 (by decide) e_ones)
        have n406 : F2 62 = .int x_isWhole := (SAME.at t7 (by decide) e_isWhole)
        refine call_Vv (wr := [(h_tape, .inl (cB, 940, .inl f_tape))]) (As := [.int 22]) (rest := []) hx hb hml hown hw (m_X10_joins l D cI cJ cB cP cM cZ h0 h_read h_stack F2 y3 x_ones y4 x_isWhole g6 f_stack 22 _ n403 n404 t8 t9 n405 i_x_ones t10 t11 n406 i_x_isWhole (by omega) (SMI.w t13 (by omega)) (by omega)) wV_X10_466_X10_joins dX10_behind__42 hK hP hD hS hA [3, 1, 2] [0] rfl rfl (by decide) (by decide) (by decide) 0 10 rfl rfl GG.fb hG.at hl.1 rfl (Nat.le_of_ble_eq_true rfl) ⟨(Nat.le_of_ble_eq_true rfl), (Nat.le_of_ble_eq_true rfl)⟩ ⟨(Nat.le_of_ble_eq_true rfl), (Nat.le_of_ble_eq_true rfl)⟩ (fun u H locs hp hP hD hS => ?_)
        have zl22 : (22 : Int32).toInt = 22 := by decide
        obtain ⟨F408, y409, y410, g411, t412, t413, t414, t415, t416, t417, t418, t419, rfl⟩ := hp
        have hP : va_P D vwCl [(h_tape, .inl (cB, 940, .inl f_tape)), (h0, .inr (10, vL 67 F408)), (h_read, .inl (cI, 135, .inl g411)), (h_stack, .inl (cI, 45, .inl f_stack))] H := hP
        have hD : va_D A [(h_tape, .inl (cB, 940, .inl f_tape)), (h0, .inr (10, vL 67 F408)), (h_read, .inl (cI, 135, .inl g411)), (h_stack, .inl (cI, 45, .inl f_stack))] := hD
        refine W.widen (k := 0) (n := 0) (Nat.le_of_ble_eq_true rfl) (Nat.le_of_ble_eq_true rfl) ?_
        refine lv_aload_n hx hb dX10_behind__45 rfl (lv_at hl 0 rfl) ?_
        have n421 : F408 57 = .ref h_stack := (SAME.at t412 (by decide) n404)
        refine get_f (D := D) (ci := 10) (v := .ref h_stack) (C := RX10) (T := TX10) (N := 67) hx hb hw inAX10 hown hK hP 1 rfl rfl 57 (by decide) (hw _ q_1318) (fun _ h9 => h9) n421 dX10_behind__46 ?_
        refine lv_aload_n hx hb dX10_behind__49 rfl (lv_at hl 0 rfl) ?_
        refine get_f (D := D) (ci := 10) (v := .int y410) (C := RX10) (T := TX10) (N := 67) hx hb hw inAX10 hown hK hP 1 rfl rfl 60 (by decide) (hw _ q_1321) (fun _ h9 => h9) t415 dX10_behind__50 ?_
        refine lv_aload_n hx hb dX10_behind__53 rfl (lv_at hl 0 rfl) ?_
        refine lv_ldc2 hx hb hown (hw _ q_1249) dX10_behind__54 ?_
        have n422 : F408 11 = .int x_token := (SAME.at t412 (by decide) n16)
        have n423 : F408 14 = .int x_number := (SAME.at t412 (by decide) n17)
        have n424 : F408 18 = .long x_word := (SAME.at t412 (by decide) n18)
        refine call_Vi (wr := [(h_tape, .inl (cB, 940, .inl f_tape)), (h_read, .inl (cI, 135, .inl g411)), (h_stack, .inl (cI, 45, .inl f_stack))]) (As := [.long 6385252]) (rest := [.int y410, .ref h_stack]) hx hb hml hown hw (m_X10_isWord l D cI cJ cB cP cM cZ h0 F408 x_token x_number x_word 6385252 _ n422 i_x_token n423 n424 (by omega)) wV_X10_225_X10_isWord dX10_behind__57 hK hP hD hS hA [1] [0, 2, 3] rfl rfl (by decide) (by decide) (by decide) 0 10 rfl rfl GG.fb hG.at hl.1 rfl (Nat.le_of_ble_eq_true rfl) ⟨(Nat.le_of_ble_eq_true rfl), (Nat.le_of_ble_eq_true rfl)⟩ ⟨(Nat.le_of_ble_eq_true rfl), (Nat.le_of_ble_eq_true rfl)⟩ (fun r425 u H locs hp hP hD hS => ?_)
        obtain ⟨t426, t427, rfl⟩ := hp
        have hP : va_P D vwCl [(h_tape, .inl (cB, 940, .inl f_tape)), (h_read, .inl (cI, 135, .inl g411)), (h_stack, .inl (cI, 45, .inl f_stack)), (h0, .inr (10, vL 67 F408))] H := hP
        have hD : va_D A [(h_tape, .inl (cB, 940, .inl f_tape)), (h_read, .inl (cI, 135, .inl g411)), (h_stack, .inl (cI, 45, .inl f_stack)), (h0, .inr (10, vL 67 F408))] := hD
        refine W.widen (k := 0) (n := 0) (Nat.le_of_ble_eq_true rfl) (Nat.le_of_ble_eq_true rfl) ?_
        refine lv_if_eq (tgt := 68) hx hb dX10_behind__60 (by decide) (fun c429 => ?_) (fun c429 => ?_)
        · have dc429 : r425.toInt = 0 := eq_i (a := r425.toInt) (b := 0) rfl rfl c429
          have k430 : 0 ≤ r425.toInt ∧ r425.toInt ≤ 0 := ⟨t426.1, Int.le_trans (Int.le_of_eq dc429) (Int.le_refl _)⟩
          refine lv_bipush (v := 22) hx hb dX10_behind__68 (by decide) ?_
          obtain ⟨g431, eg431⟩ : ∃ z : Nat → Int32, upd f_stack y410.toNatClampNeg 22 = z := ⟨_, rfl⟩
          refine iast_g hx hb hK hP hD hS 2 0 rfl rfl (ix_i (by omega) (by omega)) eg431 dX10_behind__70 (fun H locs hP hD hS => ?_)
          have hP : va_P D vwCl [(h_tape, .inl (cB, 940, .inl f_tape)), (h_read, .inl (cI, 135, .inl g411)), (h_stack, .inl (cI, 45, .inl g431)), (h0, .inr (10, vL 67 F408))] H := hP
          have hD : va_D A [(h_tape, .inl (cB, 940, .inl f_tape)), (h_read, .inl (cI, 135, .inl g411)), (h_stack, .inl (cI, 45, .inl g431)), (h0, .inr (10, vL 67 F408))] := hD
          refine lv_aload_n hx hb dX10_behind__71 rfl (lv_at hl 0 rfl) ?_
          refine lv_dup hx hb dX10_behind__72 rfl ?_
          refine get_f (D := D) (ci := 10) (v := .int y410) (C := RX10) (T := TX10) (N := 67) hx hb hw inAX10 hown hK hP 3 rfl rfl 60 (by decide) (hw _ q_1321) (fun _ h9 => h9) t415 dX10_behind__73 ?_
          refine lv_iconst (v := 1) hx hb dX10_behind__76 (by decide) ?_
          refine lv_iadd hx hb dX10_behind__77 ?_
          refine lv_topi (fun v432 ev432 => ?_)
          have bv432 : v432.toInt = y410.toInt + 1 := by rw [ev432]; exact add_k rfl rfl t416 ⟨Int.le_refl _, Int.le_refl _⟩ (by decide)
          have k433 : 1 ≤ v432.toInt ∧ v432.toInt ≤ 46 := add_r bv432 t416 ⟨Int.le_refl _, Int.le_refl _⟩ (by decide)
          refine put_f (D := D) (ci := 10) (v := .int v432) (ty := .int) (C := RX10) (T := TX10) (N := 67) hx hb hw inAX10 tyX10 tyX10_ok nmX10 hown hK hP hD hS 3 rfl rfl 60 (by decide) (hw _ q_1321) (fun _ h9 => h9) rfl (by decide +kernel) rfl rfl dX10_behind__78 (fun H locs F434 eF434 hP hD hS => ?_)
          have hP : va_P D vwCl [(h_tape, .inl (cB, 940, .inl f_tape)), (h_read, .inl (cI, 135, .inl g411)), (h_stack, .inl (cI, 45, .inl g431)), (h0, .inr (10, vL 67 F434))] H := hP
          have hD : va_D A [(h_tape, .inl (cB, 940, .inl f_tape)), (h_read, .inl (cI, 135, .inl g411)), (h_stack, .inl (cI, 45, .inl g431)), (h0, .inr (10, vL 67 F434))] := hD
          refine lv_aload_n hx hb dX10_behind__81 rfl (lv_at hl 0 rfl) ?_
          refine lv_iconst (v := 0) hx hb dX10_behind__82 (by decide) ?_
          refine put_f (D := D) (ci := 10) (v := .int 0) (ty := .boolean) (C := RX10) (T := TX10) (N := 67) hx hb hw inAX10 tyX10 tyX10_ok nmX10 hown hK hP hD hS 3 rfl rfl 62 (by decide) (hw _ q_1323) (fun _ h9 => h9) rfl (by decide +kernel) rfl rfl dX10_behind__83 (fun H locs F435 eF435 hP hD hS => ?_)
          have hP : va_P D vwCl [(h_tape, .inl (cB, 940, .inl f_tape)), (h_read, .inl (cI, 135, .inl g411)), (h_stack, .inl (cI, 45, .inl g431)), (h0, .inr (10, vL 67 F435))] H := hP
          have hD : va_D A [(h_tape, .inl (cB, 940, .inl f_tape)), (h_read, .inl (cI, 135, .inl g411)), (h_stack, .inl (cI, 45, .inl g431)), (h0, .inr (10, vL 67 F435))] := hD
          refine lv_aload_n hx hb dX10_behind__86 rfl (lv_at hl 0 rfl) ?_
          have n436 : F2 1 = .ref h_tape := (SAME.at t7 (by decide) e_tape)
          have n437 : F408 1 = .ref h_tape := (SAME.at t412 (by decide) n436)
          have n438 : F434 1 = .ref h_tape := (get_ne eF434 (by decide) n437)
          have n439 : F435 1 = .ref h_tape := (get_ne eF435 (by decide) n438)
          have n440 : F2 3 = .int x_size := (SAME.at t7 (by decide) e_size)
          have n441 : F408 3 = .int x_size := (SAME.at t412 (by decide) n440)
          have n442 : F434 3 = .int x_size := (get_ne eF434 (by decide) n441)
          have n443 : F435 3 = .int x_size := (get_ne eF435 (by decide) n442)
          have n444 : F2 4 = .int x_p := (SAME.at t7 (by decide) e_p)
          have n445 : F408 4 = .int x_p := (SAME.at t412 (by decide) n444)
          have n446 : F434 4 = .int x_p := (get_ne eF434 (by decide) n445)
          have n447 : F435 4 = .int x_p := (get_ne eF435 (by decide) n446)
          have n448 : F2 5 = .int x_limit := (SAME.at t7 (by decide) e_limit)
          have n449 : F408 5 = .int x_limit := (SAME.at t412 (by decide) n448)
          have n450 : F434 5 = .int x_limit := (get_ne eF434 (by decide) n449)
          have n451 : F435 5 = .int x_limit := (get_ne eF435 (by decide) n450)
          have n452 : F434 11 = .int x_token := (get_ne eF434 (by decide) n422)
          have n453 : F435 11 = .int x_token := (get_ne eF435 (by decide) n452)
          have n454 : F434 14 = .int x_number := (get_ne eF434 (by decide) n423)
          have n455 : F435 14 = .int x_number := (get_ne eF435 (by decide) n454)
          have n456 : F434 18 = .long x_word := (get_ne eF434 (by decide) n424)
          have n457 : F435 18 = .long x_word := (get_ne eF435 (by decide) n456)
          refine call_Vv (wr := [(h_read, .inl (cI, 135, .inl g411)), (h_stack, .inl (cI, 45, .inl g431))]) (As := []) (rest := []) hx hb hml hown hw (m_X10_next l D cI cJ cB cP cM cZ h0 h_tape F435 x_size x_p x_limit x_token x_number x_word f_tape _ n439 n443 i_x_size n447 i_x_p n451 i_x_limit n453 i_x_token n455 n457 (by omega)) wV_X10_208_X10_next dX10_behind__87 hK hP hD hS hA [3, 0] [1, 2] rfl rfl (by decide) (by decide) (by decide) 0 10 rfl rfl GG.fb hG.at hl.1 rfl (Nat.le_of_ble_eq_true rfl) ⟨(Nat.le_of_ble_eq_true rfl), (Nat.le_of_ble_eq_true rfl)⟩ ⟨(Nat.le_of_ble_eq_true rfl), (Nat.le_of_ble_eq_true rfl)⟩ (fun u H locs hp hP hD hS => ?_)
          obtain ⟨F459, y460, y461, y462, y463, y464, y465, t466, t467, t468, t469, t470, t471, t472, t473, t474, t475, t476, t477, t478, t479, rfl⟩ := hp
          have hP : va_P D vwCl [(h_read, .inl (cI, 135, .inl g411)), (h_stack, .inl (cI, 45, .inl g431)), (h0, .inr (10, vL 67 F459)), (h_tape, .inl (cB, 940, .inl f_tape))] H := hP
          have hD : va_D A [(h_read, .inl (cI, 135, .inl g411)), (h_stack, .inl (cI, 45, .inl g431)), (h0, .inr (10, vL 67 F459)), (h_tape, .inl (cB, 940, .inl f_tape))] := hD
          refine W.widen (k := 0) (n := 0) (Nat.le_of_ble_eq_true rfl) (Nat.le_of_ble_eq_true rfl) ?_
          refine lv_iconst (v := 1) hx hb dX10_behind__90 (by decide) ?_
          exact ret_i (v := 1) hx hb hr hlocks hS (hP.sub (ws' := [(h0, .inr (10, vL 67 F459)), (h_tape, .inl (cB, 940, .inl f_tape)), (h_read, .inl (cI, 135, .inl g411)), (h_stack, .inl (cI, 45, .inl g431))]) [2, 3, 0, 1] rfl) (hD.sub (ws' := [(h0, .inr (10, vL 67 F459)), (h_tape, .inl (cB, 940, .inl f_tape)), (h_read, .inl (cI, 135, .inl g411)), (h_stack, .inl (cI, 45, .inl g431))]) [2, 3, 0, 1] (by decide) rfl) dX10_behind__91 rfl (Nat.le_of_ble_eq_true rfl) (Nat.le_of_ble_eq_true rfl) ⟨F459, y460, y461, y462, y463, y464, x_fault, x_faultAt, y465, y409, v432, y5, 0, g411, g431, (SAME.tr (SAME.up eF435 (SAME.up eF434 (SAME.tr (SAME.tr SAME.rf t7 (by decide)) t412 (by decide)) (by decide)) (by decide)) t466 (by decide)), t467, t468, t469, t470, t471, t473, t475, (SAME.at t466 (by decide) (get_ne eF435 (by decide) (get_ne eF434 (by decide) (SAME.at t412 (by decide) (SAME.at t7 (by decide) e_fault))))), (SAME.at t466 (by decide) (get_ne eF435 (by decide) (get_ne eF434 (by decide) (SAME.at t412 (by decide) (SAME.at t7 (by decide) e_faultAt))))), t476, (SAME.at t466 (by decide) (get_ne eF435 (by decide) (get_ne eF434 (by decide) t413))), t414, (SAME.at t466 (by decide) (get_ne eF435 (by decide) (get_eq eF434))), (show 0 ≤ v432.toInt ∧ v432.toInt ≤ 45 from ⟨by omega, by omega⟩), (SAME.at t466 (by decide) (get_ne eF435 (by decide) (get_ne eF434 (by decide) (SAME.at t412 (by decide) t12)))), (SAME.at t466 (by decide) (get_eq eF435)), (show 0 ≤ (0 : Int32).toInt ∧ (0 : Int32).toInt ≤ 1 by decide), (show 0 ≤ (1 : Int32).toInt ∧ (1 : Int32).toInt ≤ 1 by decide), (by have zl0 : (0 : Int32).toInt = 0 := (by decide); have zl1 : (1 : Int32).toInt = 1 := (by decide); omega), (fun _ => SMI.w (SMI.pushb t417 eg431 (by omega) (by decide) (by omega)) (by decide)), (by have zl0 : (0 : Int32).toInt = 0 := (by decide); omega), (by have zl0 : (0 : Int32).toInt = 0 := (by decide); omega), rfl⟩
        · have dc429 : r425.toInt ≠ 0 := ne_i (a := r425.toInt) (b := 0) rfl rfl c429
          have k481 : 1 ≤ r425.toInt ∧ r425.toInt ≤ 1 := ⟨ne_lo dc429 t426.1 ⟨Int.le_refl _, Int.le_refl _⟩ (by decide), t426.2⟩
          refine lv_bipush (v := 21) hx hb dX10_behind__63 (by decide) ?_
          refine lv_goto (tgt := 70) hx hb dX10_behind__65 (by decide) ?_
          obtain ⟨g482, eg482⟩ : ∃ z : Nat → Int32, upd f_stack y410.toNatClampNeg 21 = z := ⟨_, rfl⟩
          refine iast_g hx hb hK hP hD hS 2 0 rfl rfl (ix_i (by omega) (by omega)) eg482 dX10_behind__70 (fun H locs hP hD hS => ?_)
          have hP : va_P D vwCl [(h_tape, .inl (cB, 940, .inl f_tape)), (h_read, .inl (cI, 135, .inl g411)), (h_stack, .inl (cI, 45, .inl g482)), (h0, .inr (10, vL 67 F408))] H := hP
          have hD : va_D A [(h_tape, .inl (cB, 940, .inl f_tape)), (h_read, .inl (cI, 135, .inl g411)), (h_stack, .inl (cI, 45, .inl g482)), (h0, .inr (10, vL 67 F408))] := hD
          refine lv_aload_n hx hb dX10_behind__71 rfl (lv_at hl 0 rfl) ?_
          refine lv_dup hx hb dX10_behind__72 rfl ?_
          refine get_f (D := D) (ci := 10) (v := .int y410) (C := RX10) (T := TX10) (N := 67) hx hb hw inAX10 hown hK hP 3 rfl rfl 60 (by decide) (hw _ q_1321) (fun _ h9 => h9) t415 dX10_behind__73 ?_
          refine lv_iconst (v := 1) hx hb dX10_behind__76 (by decide) ?_
          refine lv_iadd hx hb dX10_behind__77 ?_
          refine lv_topi (fun v483 ev483 => ?_)
          have bv483 : v483.toInt = y410.toInt + 1 := by rw [ev483]; exact add_k rfl rfl t416 ⟨Int.le_refl _, Int.le_refl _⟩ (by decide)
          have k484 : 1 ≤ v483.toInt ∧ v483.toInt ≤ 46 := add_r bv483 t416 ⟨Int.le_refl _, Int.le_refl _⟩ (by decide)
          refine put_f (D := D) (ci := 10) (v := .int v483) (ty := .int) (C := RX10) (T := TX10) (N := 67) hx hb hw inAX10 tyX10 tyX10_ok nmX10 hown hK hP hD hS 3 rfl rfl 60 (by decide) (hw _ q_1321) (fun _ h9 => h9) rfl (by decide +kernel) rfl rfl dX10_behind__78 (fun H locs F485 eF485 hP hD hS => ?_)
          have hP : va_P D vwCl [(h_tape, .inl (cB, 940, .inl f_tape)), (h_read, .inl (cI, 135, .inl g411)), (h_stack, .inl (cI, 45, .inl g482)), (h0, .inr (10, vL 67 F485))] H := hP
          have hD : va_D A [(h_tape, .inl (cB, 940, .inl f_tape)), (h_read, .inl (cI, 135, .inl g411)), (h_stack, .inl (cI, 45, .inl g482)), (h0, .inr (10, vL 67 F485))] := hD
          refine lv_aload_n hx hb dX10_behind__81 rfl (lv_at hl 0 rfl) ?_
          refine lv_iconst (v := 0) hx hb dX10_behind__82 (by decide) ?_
          refine put_f (D := D) (ci := 10) (v := .int 0) (ty := .boolean) (C := RX10) (T := TX10) (N := 67) hx hb hw inAX10 tyX10 tyX10_ok nmX10 hown hK hP hD hS 3 rfl rfl 62 (by decide) (hw _ q_1323) (fun _ h9 => h9) rfl (by decide +kernel) rfl rfl dX10_behind__83 (fun H locs F486 eF486 hP hD hS => ?_)
          have hP : va_P D vwCl [(h_tape, .inl (cB, 940, .inl f_tape)), (h_read, .inl (cI, 135, .inl g411)), (h_stack, .inl (cI, 45, .inl g482)), (h0, .inr (10, vL 67 F486))] H := hP
          have hD : va_D A [(h_tape, .inl (cB, 940, .inl f_tape)), (h_read, .inl (cI, 135, .inl g411)), (h_stack, .inl (cI, 45, .inl g482)), (h0, .inr (10, vL 67 F486))] := hD
          refine lv_aload_n hx hb dX10_behind__86 rfl (lv_at hl 0 rfl) ?_
          have n487 : F2 1 = .ref h_tape := (SAME.at t7 (by decide) e_tape)
          have n488 : F408 1 = .ref h_tape := (SAME.at t412 (by decide) n487)
          have n489 : F485 1 = .ref h_tape := (get_ne eF485 (by decide) n488)
          have n490 : F486 1 = .ref h_tape := (get_ne eF486 (by decide) n489)
          have n491 : F2 3 = .int x_size := (SAME.at t7 (by decide) e_size)
          have n492 : F408 3 = .int x_size := (SAME.at t412 (by decide) n491)
          have n493 : F485 3 = .int x_size := (get_ne eF485 (by decide) n492)
          have n494 : F486 3 = .int x_size := (get_ne eF486 (by decide) n493)
          have n495 : F2 4 = .int x_p := (SAME.at t7 (by decide) e_p)
          have n496 : F408 4 = .int x_p := (SAME.at t412 (by decide) n495)
          have n497 : F485 4 = .int x_p := (get_ne eF485 (by decide) n496)
          have n498 : F486 4 = .int x_p := (get_ne eF486 (by decide) n497)
          have n499 : F2 5 = .int x_limit := (SAME.at t7 (by decide) e_limit)
          have n500 : F408 5 = .int x_limit := (SAME.at t412 (by decide) n499)
          have n501 : F485 5 = .int x_limit := (get_ne eF485 (by decide) n500)
          have n502 : F486 5 = .int x_limit := (get_ne eF486 (by decide) n501)
          have n503 : F485 11 = .int x_token := (get_ne eF485 (by decide) n422)
          have n504 : F486 11 = .int x_token := (get_ne eF486 (by decide) n503)
          have n505 : F485 14 = .int x_number := (get_ne eF485 (by decide) n423)
          have n506 : F486 14 = .int x_number := (get_ne eF486 (by decide) n505)
          have n507 : F485 18 = .long x_word := (get_ne eF485 (by decide) n424)
          have n508 : F486 18 = .long x_word := (get_ne eF486 (by decide) n507)
          refine call_Vv (wr := [(h_read, .inl (cI, 135, .inl g411)), (h_stack, .inl (cI, 45, .inl g482))]) (As := []) (rest := []) hx hb hml hown hw (m_X10_next l D cI cJ cB cP cM cZ h0 h_tape F486 x_size x_p x_limit x_token x_number x_word f_tape _ n490 n494 i_x_size n498 i_x_p n502 i_x_limit n504 i_x_token n506 n508 (by omega)) wV_X10_208_X10_next dX10_behind__87 hK hP hD hS hA [3, 0] [1, 2] rfl rfl (by decide) (by decide) (by decide) 0 10 rfl rfl GG.fb hG.at hl.1 rfl (Nat.le_of_ble_eq_true rfl) ⟨(Nat.le_of_ble_eq_true rfl), (Nat.le_of_ble_eq_true rfl)⟩ ⟨(Nat.le_of_ble_eq_true rfl), (Nat.le_of_ble_eq_true rfl)⟩ (fun u H locs hp hP hD hS => ?_)
          obtain ⟨F510, y511, y512, y513, y514, y515, y516, t517, t518, t519, t520, t521, t522, t523, t524, t525, t526, t527, t528, t529, t530, rfl⟩ := hp
          have hP : va_P D vwCl [(h_read, .inl (cI, 135, .inl g411)), (h_stack, .inl (cI, 45, .inl g482)), (h0, .inr (10, vL 67 F510)), (h_tape, .inl (cB, 940, .inl f_tape))] H := hP
          have hD : va_D A [(h_read, .inl (cI, 135, .inl g411)), (h_stack, .inl (cI, 45, .inl g482)), (h0, .inr (10, vL 67 F510)), (h_tape, .inl (cB, 940, .inl f_tape))] := hD
          refine W.widen (k := 0) (n := 0) (Nat.le_of_ble_eq_true rfl) (Nat.le_of_ble_eq_true rfl) ?_
          refine lv_iconst (v := 1) hx hb dX10_behind__90 (by decide) ?_
          exact ret_i (v := 1) hx hb hr hlocks hS (hP.sub (ws' := [(h0, .inr (10, vL 67 F510)), (h_tape, .inl (cB, 940, .inl f_tape)), (h_read, .inl (cI, 135, .inl g411)), (h_stack, .inl (cI, 45, .inl g482))]) [2, 3, 0, 1] rfl) (hD.sub (ws' := [(h0, .inr (10, vL 67 F510)), (h_tape, .inl (cB, 940, .inl f_tape)), (h_read, .inl (cI, 135, .inl g411)), (h_stack, .inl (cI, 45, .inl g482))]) [2, 3, 0, 1] (by decide) rfl) dX10_behind__91 rfl (Nat.le_of_ble_eq_true rfl) (Nat.le_of_ble_eq_true rfl) ⟨F510, y511, y512, y513, y514, y515, x_fault, x_faultAt, y516, y409, v483, y5, 0, g411, g482, (SAME.tr (SAME.up eF486 (SAME.up eF485 (SAME.tr (SAME.tr SAME.rf t7 (by decide)) t412 (by decide)) (by decide)) (by decide)) t517 (by decide)), t518, t519, t520, t521, t522, t524, t526, (SAME.at t517 (by decide) (get_ne eF486 (by decide) (get_ne eF485 (by decide) (SAME.at t412 (by decide) (SAME.at t7 (by decide) e_fault))))), (SAME.at t517 (by decide) (get_ne eF486 (by decide) (get_ne eF485 (by decide) (SAME.at t412 (by decide) (SAME.at t7 (by decide) e_faultAt))))), t527, (SAME.at t517 (by decide) (get_ne eF486 (by decide) (get_ne eF485 (by decide) t413))), t414, (SAME.at t517 (by decide) (get_ne eF486 (by decide) (get_eq eF485))), (show 0 ≤ v483.toInt ∧ v483.toInt ≤ 45 from ⟨by omega, by omega⟩), (SAME.at t517 (by decide) (get_ne eF486 (by decide) (get_ne eF485 (by decide) (SAME.at t412 (by decide) t12)))), (SAME.at t517 (by decide) (get_eq eF486)), (show 0 ≤ (0 : Int32).toInt ∧ (0 : Int32).toInt ≤ 1 by decide), (show 0 ≤ (1 : Int32).toInt ∧ (1 : Int32).toInt ≤ 1 by decide), (by have zl0 : (0 : Int32).toInt = 0 := (by decide); have zl1 : (1 : Int32).toInt = 1 := (by decide); omega), (fun _ => SMI.w (SMI.pushb t417 eg482 (by omega) (by decide) (by omega)) (by decide)), (by have zl0 : (0 : Int32).toInt = 0 := (by decide); omega), (by have zl0 : (0 : Int32).toInt = 0 := (by decide); omega), rfl⟩
      · have dc401 : r397.toInt ≠ 0 := ne_i (a := r397.toInt) (b := 0) rfl rfl c401
        have k532 : 1 ≤ r397.toInt ∧ r397.toInt ≤ 1 := ⟨ne_lo dc401 t398.1 ⟨Int.le_refl _, Int.le_refl _⟩ (by decide), t398.2⟩
        refine lv_bipush (v := 21) hx hb dX10_behind__35 (by decide) ?_
        refine lv_goto (tgt := 42) hx hb dX10_behind__37 (by decide) ?_
        have n533 : F2 8 = .ref h_read := (SAME.at t7 (by decide) e_read)
        have n534 : F2 57 = .ref h_stack := (SAME.at t7 (by decide) e_stack)
        have n535 : F2 59 = .int x_ones := (SAME.at t7 (by decide) e_ones)
        have n536 : F2 62 = .int x_isWhole := (SAME.at t7 (by decide) e_isWhole)
        refine call_Vv (wr := [(h_tape, .inl (cB, 940, .inl f_tape))]) (As := [.int 21]) (rest := []) hx hb hml hown hw (m_X10_joins l D cI cJ cB cP cM cZ h0 h_read h_stack F2 y3 x_ones y4 x_isWhole g6 f_stack 21 _ n533 n534 t8 t9 n535 i_x_ones t10 t11 n536 i_x_isWhole (by omega) (SMI.w t13 (by omega)) (by omega)) wV_X10_466_X10_joins dX10_behind__42 hK hP hD hS hA [3, 1, 2] [0] rfl rfl (by decide) (by decide) (by decide) 0 10 rfl rfl GG.fb hG.at hl.1 rfl (Nat.le_of_ble_eq_true rfl) ⟨(Nat.le_of_ble_eq_true rfl), (Nat.le_of_ble_eq_true rfl)⟩ ⟨(Nat.le_of_ble_eq_true rfl), (Nat.le_of_ble_eq_true rfl)⟩ (fun u H locs hp hP hD hS => ?_)
        have zl21 : (21 : Int32).toInt = 21 := by decide
        obtain ⟨F538, y539, y540, g541, t542, t543, t544, t545, t546, t547, t548, t549, rfl⟩ := hp
        have hP : va_P D vwCl [(h_tape, .inl (cB, 940, .inl f_tape)), (h0, .inr (10, vL 67 F538)), (h_read, .inl (cI, 135, .inl g541)), (h_stack, .inl (cI, 45, .inl f_stack))] H := hP
        have hD : va_D A [(h_tape, .inl (cB, 940, .inl f_tape)), (h0, .inr (10, vL 67 F538)), (h_read, .inl (cI, 135, .inl g541)), (h_stack, .inl (cI, 45, .inl f_stack))] := hD
        refine W.widen (k := 0) (n := 0) (Nat.le_of_ble_eq_true rfl) (Nat.le_of_ble_eq_true rfl) ?_
        refine lv_aload_n hx hb dX10_behind__45 rfl (lv_at hl 0 rfl) ?_
        have n551 : F538 57 = .ref h_stack := (SAME.at t542 (by decide) n534)
        refine get_f (D := D) (ci := 10) (v := .ref h_stack) (C := RX10) (T := TX10) (N := 67) hx hb hw inAX10 hown hK hP 1 rfl rfl 57 (by decide) (hw _ q_1318) (fun _ h9 => h9) n551 dX10_behind__46 ?_
        refine lv_aload_n hx hb dX10_behind__49 rfl (lv_at hl 0 rfl) ?_
        refine get_f (D := D) (ci := 10) (v := .int y540) (C := RX10) (T := TX10) (N := 67) hx hb hw inAX10 hown hK hP 1 rfl rfl 60 (by decide) (hw _ q_1321) (fun _ h9 => h9) t545 dX10_behind__50 ?_
        refine lv_aload_n hx hb dX10_behind__53 rfl (lv_at hl 0 rfl) ?_
        refine lv_ldc2 hx hb hown (hw _ q_1249) dX10_behind__54 ?_
        have n552 : F538 11 = .int x_token := (SAME.at t542 (by decide) n16)
        have n553 : F538 14 = .int x_number := (SAME.at t542 (by decide) n17)
        have n554 : F538 18 = .long x_word := (SAME.at t542 (by decide) n18)
        refine call_Vi (wr := [(h_tape, .inl (cB, 940, .inl f_tape)), (h_read, .inl (cI, 135, .inl g541)), (h_stack, .inl (cI, 45, .inl f_stack))]) (As := [.long 6385252]) (rest := [.int y540, .ref h_stack]) hx hb hml hown hw (m_X10_isWord l D cI cJ cB cP cM cZ h0 F538 x_token x_number x_word 6385252 _ n552 i_x_token n553 n554 (by omega)) wV_X10_225_X10_isWord dX10_behind__57 hK hP hD hS hA [1] [0, 2, 3] rfl rfl (by decide) (by decide) (by decide) 0 10 rfl rfl GG.fb hG.at hl.1 rfl (Nat.le_of_ble_eq_true rfl) ⟨(Nat.le_of_ble_eq_true rfl), (Nat.le_of_ble_eq_true rfl)⟩ ⟨(Nat.le_of_ble_eq_true rfl), (Nat.le_of_ble_eq_true rfl)⟩ (fun r555 u H locs hp hP hD hS => ?_)
        obtain ⟨t556, t557, rfl⟩ := hp
        have hP : va_P D vwCl [(h_tape, .inl (cB, 940, .inl f_tape)), (h_read, .inl (cI, 135, .inl g541)), (h_stack, .inl (cI, 45, .inl f_stack)), (h0, .inr (10, vL 67 F538))] H := hP
        have hD : va_D A [(h_tape, .inl (cB, 940, .inl f_tape)), (h_read, .inl (cI, 135, .inl g541)), (h_stack, .inl (cI, 45, .inl f_stack)), (h0, .inr (10, vL 67 F538))] := hD
        refine W.widen (k := 0) (n := 0) (Nat.le_of_ble_eq_true rfl) (Nat.le_of_ble_eq_true rfl) ?_
        refine lv_if_eq (tgt := 68) hx hb dX10_behind__60 (by decide) (fun c559 => ?_) (fun c559 => ?_)
        · have dc559 : r555.toInt = 0 := eq_i (a := r555.toInt) (b := 0) rfl rfl c559
          have k560 : 0 ≤ r555.toInt ∧ r555.toInt ≤ 0 := ⟨t556.1, Int.le_trans (Int.le_of_eq dc559) (Int.le_refl _)⟩
          refine lv_bipush (v := 22) hx hb dX10_behind__68 (by decide) ?_
          obtain ⟨g561, eg561⟩ : ∃ z : Nat → Int32, upd f_stack y540.toNatClampNeg 22 = z := ⟨_, rfl⟩
          refine iast_g hx hb hK hP hD hS 2 0 rfl rfl (ix_i (by omega) (by omega)) eg561 dX10_behind__70 (fun H locs hP hD hS => ?_)
          have hP : va_P D vwCl [(h_tape, .inl (cB, 940, .inl f_tape)), (h_read, .inl (cI, 135, .inl g541)), (h_stack, .inl (cI, 45, .inl g561)), (h0, .inr (10, vL 67 F538))] H := hP
          have hD : va_D A [(h_tape, .inl (cB, 940, .inl f_tape)), (h_read, .inl (cI, 135, .inl g541)), (h_stack, .inl (cI, 45, .inl g561)), (h0, .inr (10, vL 67 F538))] := hD
          refine lv_aload_n hx hb dX10_behind__71 rfl (lv_at hl 0 rfl) ?_
          refine lv_dup hx hb dX10_behind__72 rfl ?_
          refine get_f (D := D) (ci := 10) (v := .int y540) (C := RX10) (T := TX10) (N := 67) hx hb hw inAX10 hown hK hP 3 rfl rfl 60 (by decide) (hw _ q_1321) (fun _ h9 => h9) t545 dX10_behind__73 ?_
          refine lv_iconst (v := 1) hx hb dX10_behind__76 (by decide) ?_
          refine lv_iadd hx hb dX10_behind__77 ?_
          refine lv_topi (fun v562 ev562 => ?_)
          have bv562 : v562.toInt = y540.toInt + 1 := by rw [ev562]; exact add_k rfl rfl t546 ⟨Int.le_refl _, Int.le_refl _⟩ (by decide)
          have k563 : 1 ≤ v562.toInt ∧ v562.toInt ≤ 46 := add_r bv562 t546 ⟨Int.le_refl _, Int.le_refl _⟩ (by decide)
          refine put_f (D := D) (ci := 10) (v := .int v562) (ty := .int) (C := RX10) (T := TX10) (N := 67) hx hb hw inAX10 tyX10 tyX10_ok nmX10 hown hK hP hD hS 3 rfl rfl 60 (by decide) (hw _ q_1321) (fun _ h9 => h9) rfl (by decide +kernel) rfl rfl dX10_behind__78 (fun H locs F564 eF564 hP hD hS => ?_)
          have hP : va_P D vwCl [(h_tape, .inl (cB, 940, .inl f_tape)), (h_read, .inl (cI, 135, .inl g541)), (h_stack, .inl (cI, 45, .inl g561)), (h0, .inr (10, vL 67 F564))] H := hP
          have hD : va_D A [(h_tape, .inl (cB, 940, .inl f_tape)), (h_read, .inl (cI, 135, .inl g541)), (h_stack, .inl (cI, 45, .inl g561)), (h0, .inr (10, vL 67 F564))] := hD
          refine lv_aload_n hx hb dX10_behind__81 rfl (lv_at hl 0 rfl) ?_
          refine lv_iconst (v := 0) hx hb dX10_behind__82 (by decide) ?_
          refine put_f (D := D) (ci := 10) (v := .int 0) (ty := .boolean) (C := RX10) (T := TX10) (N := 67) hx hb hw inAX10 tyX10 tyX10_ok nmX10 hown hK hP hD hS 3 rfl rfl 62 (by decide) (hw _ q_1323) (fun _ h9 => h9) rfl (by decide +kernel) rfl rfl dX10_behind__83 (fun H locs F565 eF565 hP hD hS => ?_)
          have hP : va_P D vwCl [(h_tape, .inl (cB, 940, .inl f_tape)), (h_read, .inl (cI, 135, .inl g541)), (h_stack, .inl (cI, 45, .inl g561)), (h0, .inr (10, vL 67 F565))] H := hP
          have hD : va_D A [(h_tape, .inl (cB, 940, .inl f_tape)), (h_read, .inl (cI, 135, .inl g541)), (h_stack, .inl (cI, 45, .inl g561)), (h0, .inr (10, vL 67 F565))] := hD
          refine lv_aload_n hx hb dX10_behind__86 rfl (lv_at hl 0 rfl) ?_
          have n566 : F2 1 = .ref h_tape := (SAME.at t7 (by decide) e_tape)
          have n567 : F538 1 = .ref h_tape := (SAME.at t542 (by decide) n566)
          have n568 : F564 1 = .ref h_tape := (get_ne eF564 (by decide) n567)
          have n569 : F565 1 = .ref h_tape := (get_ne eF565 (by decide) n568)
          have n570 : F2 3 = .int x_size := (SAME.at t7 (by decide) e_size)
          have n571 : F538 3 = .int x_size := (SAME.at t542 (by decide) n570)
          have n572 : F564 3 = .int x_size := (get_ne eF564 (by decide) n571)
          have n573 : F565 3 = .int x_size := (get_ne eF565 (by decide) n572)
          have n574 : F2 4 = .int x_p := (SAME.at t7 (by decide) e_p)
          have n575 : F538 4 = .int x_p := (SAME.at t542 (by decide) n574)
          have n576 : F564 4 = .int x_p := (get_ne eF564 (by decide) n575)
          have n577 : F565 4 = .int x_p := (get_ne eF565 (by decide) n576)
          have n578 : F2 5 = .int x_limit := (SAME.at t7 (by decide) e_limit)
          have n579 : F538 5 = .int x_limit := (SAME.at t542 (by decide) n578)
          have n580 : F564 5 = .int x_limit := (get_ne eF564 (by decide) n579)
          have n581 : F565 5 = .int x_limit := (get_ne eF565 (by decide) n580)
          have n582 : F564 11 = .int x_token := (get_ne eF564 (by decide) n552)
          have n583 : F565 11 = .int x_token := (get_ne eF565 (by decide) n582)
          have n584 : F564 14 = .int x_number := (get_ne eF564 (by decide) n553)
          have n585 : F565 14 = .int x_number := (get_ne eF565 (by decide) n584)
          have n586 : F564 18 = .long x_word := (get_ne eF564 (by decide) n554)
          have n587 : F565 18 = .long x_word := (get_ne eF565 (by decide) n586)
          refine call_Vv (wr := [(h_read, .inl (cI, 135, .inl g541)), (h_stack, .inl (cI, 45, .inl g561))]) (As := []) (rest := []) hx hb hml hown hw (m_X10_next l D cI cJ cB cP cM cZ h0 h_tape F565 x_size x_p x_limit x_token x_number x_word f_tape _ n569 n573 i_x_size n577 i_x_p n581 i_x_limit n583 i_x_token n585 n587 (by omega)) wV_X10_208_X10_next dX10_behind__87 hK hP hD hS hA [3, 0] [1, 2] rfl rfl (by decide) (by decide) (by decide) 0 10 rfl rfl GG.fb hG.at hl.1 rfl (Nat.le_of_ble_eq_true rfl) ⟨(Nat.le_of_ble_eq_true rfl), (Nat.le_of_ble_eq_true rfl)⟩ ⟨(Nat.le_of_ble_eq_true rfl), (Nat.le_of_ble_eq_true rfl)⟩ (fun u H locs hp hP hD hS => ?_)
          obtain ⟨F589, y590, y591, y592, y593, y594, y595, t596, t597, t598, t599, t600, t601, t602, t603, t604, t605, t606, t607, t608, t609, rfl⟩ := hp
          have hP : va_P D vwCl [(h_read, .inl (cI, 135, .inl g541)), (h_stack, .inl (cI, 45, .inl g561)), (h0, .inr (10, vL 67 F589)), (h_tape, .inl (cB, 940, .inl f_tape))] H := hP
          have hD : va_D A [(h_read, .inl (cI, 135, .inl g541)), (h_stack, .inl (cI, 45, .inl g561)), (h0, .inr (10, vL 67 F589)), (h_tape, .inl (cB, 940, .inl f_tape))] := hD
          refine W.widen (k := 0) (n := 0) (Nat.le_of_ble_eq_true rfl) (Nat.le_of_ble_eq_true rfl) ?_
          refine lv_iconst (v := 1) hx hb dX10_behind__90 (by decide) ?_
          exact ret_i (v := 1) hx hb hr hlocks hS (hP.sub (ws' := [(h0, .inr (10, vL 67 F589)), (h_tape, .inl (cB, 940, .inl f_tape)), (h_read, .inl (cI, 135, .inl g541)), (h_stack, .inl (cI, 45, .inl g561))]) [2, 3, 0, 1] rfl) (hD.sub (ws' := [(h0, .inr (10, vL 67 F589)), (h_tape, .inl (cB, 940, .inl f_tape)), (h_read, .inl (cI, 135, .inl g541)), (h_stack, .inl (cI, 45, .inl g561))]) [2, 3, 0, 1] (by decide) rfl) dX10_behind__91 rfl (Nat.le_of_ble_eq_true rfl) (Nat.le_of_ble_eq_true rfl) ⟨F589, y590, y591, y592, y593, y594, x_fault, x_faultAt, y595, y539, v562, y5, 0, g541, g561, (SAME.tr (SAME.up eF565 (SAME.up eF564 (SAME.tr (SAME.tr SAME.rf t7 (by decide)) t542 (by decide)) (by decide)) (by decide)) t596 (by decide)), t597, t598, t599, t600, t601, t603, t605, (SAME.at t596 (by decide) (get_ne eF565 (by decide) (get_ne eF564 (by decide) (SAME.at t542 (by decide) (SAME.at t7 (by decide) e_fault))))), (SAME.at t596 (by decide) (get_ne eF565 (by decide) (get_ne eF564 (by decide) (SAME.at t542 (by decide) (SAME.at t7 (by decide) e_faultAt))))), t606, (SAME.at t596 (by decide) (get_ne eF565 (by decide) (get_ne eF564 (by decide) t543))), t544, (SAME.at t596 (by decide) (get_ne eF565 (by decide) (get_eq eF564))), (show 0 ≤ v562.toInt ∧ v562.toInt ≤ 45 from ⟨by omega, by omega⟩), (SAME.at t596 (by decide) (get_ne eF565 (by decide) (get_ne eF564 (by decide) (SAME.at t542 (by decide) t12)))), (SAME.at t596 (by decide) (get_eq eF565)), (show 0 ≤ (0 : Int32).toInt ∧ (0 : Int32).toInt ≤ 1 by decide), (show 0 ≤ (1 : Int32).toInt ∧ (1 : Int32).toInt ≤ 1 by decide), (by have zl0 : (0 : Int32).toInt = 0 := (by decide); have zl1 : (1 : Int32).toInt = 1 := (by decide); omega), (fun _ => SMI.w (SMI.pushb t547 eg561 (by omega) (by decide) (by omega)) (by decide)), (by have zl0 : (0 : Int32).toInt = 0 := (by decide); omega), (by have zl0 : (0 : Int32).toInt = 0 := (by decide); omega), rfl⟩
        · have dc559 : r555.toInt ≠ 0 := ne_i (a := r555.toInt) (b := 0) rfl rfl c559
          have k611 : 1 ≤ r555.toInt ∧ r555.toInt ≤ 1 := ⟨ne_lo dc559 t556.1 ⟨Int.le_refl _, Int.le_refl _⟩ (by decide), t556.2⟩
          refine lv_bipush (v := 21) hx hb dX10_behind__63 (by decide) ?_
          refine lv_goto (tgt := 70) hx hb dX10_behind__65 (by decide) ?_
          obtain ⟨g612, eg612⟩ : ∃ z : Nat → Int32, upd f_stack y540.toNatClampNeg 21 = z := ⟨_, rfl⟩
          refine iast_g hx hb hK hP hD hS 2 0 rfl rfl (ix_i (by omega) (by omega)) eg612 dX10_behind__70 (fun H locs hP hD hS => ?_)
          have hP : va_P D vwCl [(h_tape, .inl (cB, 940, .inl f_tape)), (h_read, .inl (cI, 135, .inl g541)), (h_stack, .inl (cI, 45, .inl g612)), (h0, .inr (10, vL 67 F538))] H := hP
          have hD : va_D A [(h_tape, .inl (cB, 940, .inl f_tape)), (h_read, .inl (cI, 135, .inl g541)), (h_stack, .inl (cI, 45, .inl g612)), (h0, .inr (10, vL 67 F538))] := hD
          refine lv_aload_n hx hb dX10_behind__71 rfl (lv_at hl 0 rfl) ?_
          refine lv_dup hx hb dX10_behind__72 rfl ?_
          refine get_f (D := D) (ci := 10) (v := .int y540) (C := RX10) (T := TX10) (N := 67) hx hb hw inAX10 hown hK hP 3 rfl rfl 60 (by decide) (hw _ q_1321) (fun _ h9 => h9) t545 dX10_behind__73 ?_
          refine lv_iconst (v := 1) hx hb dX10_behind__76 (by decide) ?_
          refine lv_iadd hx hb dX10_behind__77 ?_
          refine lv_topi (fun v613 ev613 => ?_)
          have bv613 : v613.toInt = y540.toInt + 1 := by rw [ev613]; exact add_k rfl rfl t546 ⟨Int.le_refl _, Int.le_refl _⟩ (by decide)
          have k614 : 1 ≤ v613.toInt ∧ v613.toInt ≤ 46 := add_r bv613 t546 ⟨Int.le_refl _, Int.le_refl _⟩ (by decide)
          refine put_f (D := D) (ci := 10) (v := .int v613) (ty := .int) (C := RX10) (T := TX10) (N := 67) hx hb hw inAX10 tyX10 tyX10_ok nmX10 hown hK hP hD hS 3 rfl rfl 60 (by decide) (hw _ q_1321) (fun _ h9 => h9) rfl (by decide +kernel) rfl rfl dX10_behind__78 (fun H locs F615 eF615 hP hD hS => ?_)
          have hP : va_P D vwCl [(h_tape, .inl (cB, 940, .inl f_tape)), (h_read, .inl (cI, 135, .inl g541)), (h_stack, .inl (cI, 45, .inl g612)), (h0, .inr (10, vL 67 F615))] H := hP
          have hD : va_D A [(h_tape, .inl (cB, 940, .inl f_tape)), (h_read, .inl (cI, 135, .inl g541)), (h_stack, .inl (cI, 45, .inl g612)), (h0, .inr (10, vL 67 F615))] := hD
          refine lv_aload_n hx hb dX10_behind__81 rfl (lv_at hl 0 rfl) ?_
          refine lv_iconst (v := 0) hx hb dX10_behind__82 (by decide) ?_
          refine put_f (D := D) (ci := 10) (v := .int 0) (ty := .boolean) (C := RX10) (T := TX10) (N := 67) hx hb hw inAX10 tyX10 tyX10_ok nmX10 hown hK hP hD hS 3 rfl rfl 62 (by decide) (hw _ q_1323) (fun _ h9 => h9) rfl (by decide +kernel) rfl rfl dX10_behind__83 (fun H locs F616 eF616 hP hD hS => ?_)
          have hP : va_P D vwCl [(h_tape, .inl (cB, 940, .inl f_tape)), (h_read, .inl (cI, 135, .inl g541)), (h_stack, .inl (cI, 45, .inl g612)), (h0, .inr (10, vL 67 F616))] H := hP
          have hD : va_D A [(h_tape, .inl (cB, 940, .inl f_tape)), (h_read, .inl (cI, 135, .inl g541)), (h_stack, .inl (cI, 45, .inl g612)), (h0, .inr (10, vL 67 F616))] := hD
          refine lv_aload_n hx hb dX10_behind__86 rfl (lv_at hl 0 rfl) ?_
          have n617 : F2 1 = .ref h_tape := (SAME.at t7 (by decide) e_tape)
          have n618 : F538 1 = .ref h_tape := (SAME.at t542 (by decide) n617)
          have n619 : F615 1 = .ref h_tape := (get_ne eF615 (by decide) n618)
          have n620 : F616 1 = .ref h_tape := (get_ne eF616 (by decide) n619)
          have n621 : F2 3 = .int x_size := (SAME.at t7 (by decide) e_size)
          have n622 : F538 3 = .int x_size := (SAME.at t542 (by decide) n621)
          have n623 : F615 3 = .int x_size := (get_ne eF615 (by decide) n622)
          have n624 : F616 3 = .int x_size := (get_ne eF616 (by decide) n623)
          have n625 : F2 4 = .int x_p := (SAME.at t7 (by decide) e_p)
          have n626 : F538 4 = .int x_p := (SAME.at t542 (by decide) n625)
          have n627 : F615 4 = .int x_p := (get_ne eF615 (by decide) n626)
          have n628 : F616 4 = .int x_p := (get_ne eF616 (by decide) n627)
          have n629 : F2 5 = .int x_limit := (SAME.at t7 (by decide) e_limit)
          have n630 : F538 5 = .int x_limit := (SAME.at t542 (by decide) n629)
          have n631 : F615 5 = .int x_limit := (get_ne eF615 (by decide) n630)
          have n632 : F616 5 = .int x_limit := (get_ne eF616 (by decide) n631)
          have n633 : F615 11 = .int x_token := (get_ne eF615 (by decide) n552)
          have n634 : F616 11 = .int x_token := (get_ne eF616 (by decide) n633)
          have n635 : F615 14 = .int x_number := (get_ne eF615 (by decide) n553)
          have n636 : F616 14 = .int x_number := (get_ne eF616 (by decide) n635)
          have n637 : F615 18 = .long x_word := (get_ne eF615 (by decide) n554)
          have n638 : F616 18 = .long x_word := (get_ne eF616 (by decide) n637)
          refine call_Vv (wr := [(h_read, .inl (cI, 135, .inl g541)), (h_stack, .inl (cI, 45, .inl g612))]) (As := []) (rest := []) hx hb hml hown hw (m_X10_next l D cI cJ cB cP cM cZ h0 h_tape F616 x_size x_p x_limit x_token x_number x_word f_tape _ n620 n624 i_x_size n628 i_x_p n632 i_x_limit n634 i_x_token n636 n638 (by omega)) wV_X10_208_X10_next dX10_behind__87 hK hP hD hS hA [3, 0] [1, 2] rfl rfl (by decide) (by decide) (by decide) 0 10 rfl rfl GG.fb hG.at hl.1 rfl (Nat.le_of_ble_eq_true rfl) ⟨(Nat.le_of_ble_eq_true rfl), (Nat.le_of_ble_eq_true rfl)⟩ ⟨(Nat.le_of_ble_eq_true rfl), (Nat.le_of_ble_eq_true rfl)⟩ (fun u H locs hp hP hD hS => ?_)
          obtain ⟨F640, y641, y642, y643, y644, y645, y646, t647, t648, t649, t650, t651, t652, t653, t654, t655, t656, t657, t658, t659, t660, rfl⟩ := hp
          have hP : va_P D vwCl [(h_read, .inl (cI, 135, .inl g541)), (h_stack, .inl (cI, 45, .inl g612)), (h0, .inr (10, vL 67 F640)), (h_tape, .inl (cB, 940, .inl f_tape))] H := hP
          have hD : va_D A [(h_read, .inl (cI, 135, .inl g541)), (h_stack, .inl (cI, 45, .inl g612)), (h0, .inr (10, vL 67 F640)), (h_tape, .inl (cB, 940, .inl f_tape))] := hD
          refine W.widen (k := 0) (n := 0) (Nat.le_of_ble_eq_true rfl) (Nat.le_of_ble_eq_true rfl) ?_
          refine lv_iconst (v := 1) hx hb dX10_behind__90 (by decide) ?_
          exact ret_i (v := 1) hx hb hr hlocks hS (hP.sub (ws' := [(h0, .inr (10, vL 67 F640)), (h_tape, .inl (cB, 940, .inl f_tape)), (h_read, .inl (cI, 135, .inl g541)), (h_stack, .inl (cI, 45, .inl g612))]) [2, 3, 0, 1] rfl) (hD.sub (ws' := [(h0, .inr (10, vL 67 F640)), (h_tape, .inl (cB, 940, .inl f_tape)), (h_read, .inl (cI, 135, .inl g541)), (h_stack, .inl (cI, 45, .inl g612))]) [2, 3, 0, 1] (by decide) rfl) dX10_behind__91 rfl (Nat.le_of_ble_eq_true rfl) (Nat.le_of_ble_eq_true rfl) ⟨F640, y641, y642, y643, y644, y645, x_fault, x_faultAt, y646, y539, v613, y5, 0, g541, g612, (SAME.tr (SAME.up eF616 (SAME.up eF615 (SAME.tr (SAME.tr SAME.rf t7 (by decide)) t542 (by decide)) (by decide)) (by decide)) t647 (by decide)), t648, t649, t650, t651, t652, t654, t656, (SAME.at t647 (by decide) (get_ne eF616 (by decide) (get_ne eF615 (by decide) (SAME.at t542 (by decide) (SAME.at t7 (by decide) e_fault))))), (SAME.at t647 (by decide) (get_ne eF616 (by decide) (get_ne eF615 (by decide) (SAME.at t542 (by decide) (SAME.at t7 (by decide) e_faultAt))))), t657, (SAME.at t647 (by decide) (get_ne eF616 (by decide) (get_ne eF615 (by decide) t543))), t544, (SAME.at t647 (by decide) (get_ne eF616 (by decide) (get_eq eF615))), (show 0 ≤ v613.toInt ∧ v613.toInt ≤ 45 from ⟨by omega, by omega⟩), (SAME.at t647 (by decide) (get_ne eF616 (by decide) (get_ne eF615 (by decide) (SAME.at t542 (by decide) t12)))), (SAME.at t647 (by decide) (get_eq eF616)), (show 0 ≤ (0 : Int32).toInt ∧ (0 : Int32).toInt ≤ 1 by decide), (show 0 ≤ (1 : Int32).toInt ∧ (1 : Int32).toInt ≤ 1 by decide), (by have zl0 : (0 : Int32).toInt = 0 := (by decide); have zl1 : (1 : Int32).toInt = 1 := (by decide); omega), (fun _ => SMI.w (SMI.pushb t547 eg612 (by omega) (by decide) (by omega)) (by decide)), (by have zl0 : (0 : Int32).toInt = 0 := (by decide); omega), (by have zl0 : (0 : Int32).toInt = 0 := (by decide); omega), rfl⟩
set_option maxHeartbeats 4000000 in
set_option maxRecDepth 100000 in
theorem m_X10_sentence (l : Launch) (D : va_G) (cI cJ cB cP cM cZ : ClassId) (h0 : Nat) (h_tape : Nat) (h_s : Nat) (h_read : Nat) (h_names : Nat) (h_reserved : Nat) (h_stack : Nat) (Fh : Nat → Value) (x_length : Int32) (x_token : Int32) (x_number : Int32) (x_faultAt : Int32) (x_word : Int64) (x_codes : Int32) (x_ones : Int32) (x_top : Int32) (x_isWhole : Int32) (f_tape : Nat → Int32) (f_s : Nat → Int32) (f_read : Nat → Int32) (f_names : Nat → Int64) (f_reserved : Nat → Int64) (f_stack : Nat → Int32) (sz : Nat) (e_tape : Fh 1 = .ref h_tape) (e_length : Fh 2 = .int x_length) (i_x_length : IR 0 940 x_length) (e_s : Fh 6 = .ref h_s) (e_read : Fh 8 = .ref h_read) (e_names : Fh 9 = .ref h_names) (e_reserved : Fh 10 = .ref h_reserved) (e_token : Fh 11 = .int x_token) (i_x_token : IR 0 4 x_token) (e_number : Fh 14 = .int x_number) (e_faultAt : Fh 16 = .int x_faultAt) (e_word : Fh 18 = .long x_word) (e_stack : Fh 57 = .ref h_stack) (e_codes : Fh 58 = .int x_codes) (i_x_codes : IR 0 45 x_codes) (e_ones : Fh 59 = .int x_ones) (i_x_ones : IR 0 20 x_ones) (e_top : Fh 60 = .int x_top) (i_x_top : IR 0 45 x_top) (e_isWhole : Fh 62 = .int x_isWhole) (i_x_isWhole : IR 0 1 x_isWhole) (s_s_K0 : KW 0 f_s) (s_s_0 : SG 0 0 0 40 f_s) (s_s_105 : SG 105 108 0 11 f_s) (s_s_114 : SG 114 114 0 5 f_s) (s_s_130 : SG 130 133 0 11 f_s) (s_s_139 : SG 139 139 0 5 f_s) (s_s_153 : SG 153 153 0 44 f_s) (s_s_44 : SG 44 55 0 9 f_s) (s_s_5 : SG 5 5 0 12 f_s) (s_s_6 : SG 6 6 0 12 f_s) (s_s_7 : SG 7 7 0 6 f_s) (o_0 : (x_token.toInt = 2 → 0 ≤ x_number.toInt ∧ x_number.toInt ≤ 999)) (o_1 : x_top.toInt + x_codes.toInt + x_isWhole.toInt ≤ 2 * x_ones.toInt) : CI l yX10_sentence cX10_sentence 3 (some .int) { frames := 3, cells := 0, slots := 0, locals := 67 } (GG D cI cJ cB cP cM cZ) D [(h0, .inr (10, vL 67 Fh)), (h_tape, .inl (cB, 940, .inl f_tape)), (h_s, .inl (cI, 335, .inl f_s)), (h_read, .inl (cI, 135, .inl f_read)), (h_names, .inl (cJ, 36, .inr (.inl f_names))), (h_reserved, .inl (cJ, 23, .inr (.inl f_reserved))), (h_stack, .inl (cI, 45, .inl f_stack))] sz [.ref h0] (fun (r : Int32) (u : va_W) => ∃ (Gh : Nat → Value) (y_p : Int32) (y_token : Int32) (y_at : Int32) (y_span : Int32) (y_number : Int32) (y_fault : Int32) (y_faultAt : Int32) (y_word : Int64) (y_codes : Int32) (y_ones : Int32) (y_top : Int32) (y_deep : Int32) (y_isWhole : Int32) (g_s : Nat → Int32) (g_read : Nat → Int32) (g_stack : Nat → Int32), SAME [0, 2, 3, 4, 5, 11, 12, 13, 14, 15, 16, 18, 58, 59, 60, 61, 62] Fh Gh ∧ Gh 0 = .int 0 ∧ Gh 2 = .int 0 ∧ Gh 3 = .int x_length ∧ Gh 4 = .int y_p ∧ IR 0 940 y_p ∧ Gh 5 = .int 200 ∧ Gh 11 = .int y_token ∧ IR 0 4 y_token ∧ Gh 12 = .int y_at ∧ Gh 13 = .int y_span ∧ Gh 14 = .int y_number ∧ Gh 15 = .int y_fault ∧ Gh 16 = .int y_faultAt ∧ Gh 18 = .long y_word ∧ Gh 58 = .int y_codes ∧ IR 0 45 y_codes ∧ Gh 59 = .int y_ones ∧ IR 0 20 y_ones ∧ Gh 60 = .int y_top ∧ IR 0 45 y_top ∧ Gh 61 = .int y_deep ∧ Gh 62 = .int y_isWhole ∧ IR 0 1 y_isWhole ∧ SG 153 153 0 44 g_s ∧ SG 0 0 0 40 g_s ∧ SG 5 5 0 12 g_s ∧ SG 6 6 0 12 g_s ∧ SG 7 7 0 6 g_s ∧ SG 44 55 0 9 g_s ∧ KW 0 g_s ∧ SG 105 108 0 11 g_s ∧ SG 114 114 0 5 g_s ∧ SG 130 133 0 11 g_s ∧ SG 139 139 0 5 g_s ∧ ((y_token.toInt = 2 → 0 ≤ y_number.toInt ∧ y_number.toInt ≤ 999)) ∧ (y_top.toInt + y_codes.toInt + y_isWhole.toInt ≤ 2 * y_ones.toInt) ∧ u = [(h0, .inr (10, vL 67 Gh)), (h_tape, .inl (cB, 940, .inl f_tape)), (h_s, .inl (cI, 335, .inl g_s)), (h_read, .inl (cI, 135, .inl g_read)), (h_names, .inl (cJ, 36, .inr (.inl f_names))), (h_reserved, .inl (cJ, 23, .inr (.inl f_reserved))), (h_stack, .inl (cI, 45, .inl g_stack))]) := by
  refine CI_mk (by decide) (Nat.le_of_ble_eq_true rfl) ?_
  intro p e s m below meth c A ls E hAe hG hsz hP hD hA hS hl
  obtain ⟨hx, hb, hr, hw, hown, hlocks, hml, hnm⟩ := E
  have hK := hG.1
  have i_x_length : 0 ≤ x_length.toInt ∧ x_length.toInt ≤ 940 := i_x_length
  have i_x_token : 0 ≤ x_token.toInt ∧ x_token.toInt ≤ 4 := i_x_token
  have i_x_codes : 0 ≤ x_codes.toInt ∧ x_codes.toInt ≤ 45 := i_x_codes
  have i_x_ones : 0 ≤ x_ones.toInt ∧ x_ones.toInt ≤ 20 := i_x_ones
  have i_x_top : 0 ≤ x_top.toInt ∧ x_top.toInt ≤ 45 := i_x_top
  have i_x_isWhole : 0 ≤ x_isWhole.toInt ∧ x_isWhole.toInt ≤ 1 := i_x_isWhole
  have hl : lv_has ls 3 [(0, .ref h0)] := hl
  refine lv_aload_n hx hb dX10_sentence_0 rfl (lv_at hl 0 rfl) ?_
  refine lv_iconst (v := 0) hx hb dX10_sentence_1 (by decide) ?_
  refine put_f (D := D) (ci := 10) (v := .int 0) (ty := .int) (C := RX10) (T := TX10) (N := 67) hx hb hw inAX10 tyX10 tyX10_ok nmX10 hown hK hP hD hS 0 rfl rfl 0 (by decide) (hw _ q_1261) (fun _ h9 => h9) rfl (by decide +kernel) rfl rfl dX10_sentence_2 (fun H locs F1 eF1 hP hD hS => ?_)
  have hP : va_P D vwCl [(h0, .inr (10, vL 67 F1)), (h_tape, .inl (cB, 940, .inl f_tape)), (h_s, .inl (cI, 335, .inl f_s)), (h_read, .inl (cI, 135, .inl f_read)), (h_names, .inl (cJ, 36, .inr (.inl f_names))), (h_reserved, .inl (cJ, 23, .inr (.inl f_reserved))), (h_stack, .inl (cI, 45, .inl f_stack))] H := hP
  have hD : va_D A [(h0, .inr (10, vL 67 F1)), (h_tape, .inl (cB, 940, .inl f_tape)), (h_s, .inl (cI, 335, .inl f_s)), (h_read, .inl (cI, 135, .inl f_read)), (h_names, .inl (cJ, 36, .inr (.inl f_names))), (h_reserved, .inl (cJ, 23, .inr (.inl f_reserved))), (h_stack, .inl (cI, 45, .inl f_stack))] := hD
  refine lv_aload_n hx hb dX10_sentence_5 rfl (lv_at hl 0 rfl) ?_
  refine lv_sipush (v := 200) hx hb dX10_sentence_6 (by decide) ?_
  have n2 : F1 2 = .int x_length := (get_ne eF1 (by decide) e_length)
  refine call_Vv (wr := [(h_tape, .inl (cB, 940, .inl f_tape)), (h_s, .inl (cI, 335, .inl f_s)), (h_read, .inl (cI, 135, .inl f_read)), (h_names, .inl (cJ, 36, .inr (.inl f_names))), (h_reserved, .inl (cJ, 23, .inr (.inl f_reserved))), (h_stack, .inl (cI, 45, .inl f_stack))]) (As := [.int 200]) (rest := []) hx hb hml hown hw (m_X10_taken l D cI cJ cB cP cM cZ h0 F1 x_length 200 _ n2 i_x_length (show 200 ≤ (200 : Int32).toInt ∧ (200 : Int32).toInt ≤ 940 by decide)) wV_X10_248_X10_taken dX10_sentence_9 hK hP hD hS hA [0] [1, 2, 3, 4, 5, 6] rfl rfl (by decide) (by decide) (by decide) 0 10 rfl rfl GG.fb hG.at hl.1 rfl (Nat.le_of_ble_eq_true rfl) ⟨(Nat.le_of_ble_eq_true rfl), (Nat.le_of_ble_eq_true rfl)⟩ ⟨(Nat.le_of_ble_eq_true rfl), (Nat.le_of_ble_eq_true rfl)⟩ (fun u H locs hp hP hD hS => ?_)
  have zl200 : (200 : Int32).toInt = 200 := by decide
  obtain ⟨F4, t5, t6, t7, t8, t9, rfl⟩ := hp
  have hP : va_P D vwCl [(h_tape, .inl (cB, 940, .inl f_tape)), (h_s, .inl (cI, 335, .inl f_s)), (h_read, .inl (cI, 135, .inl f_read)), (h_names, .inl (cJ, 36, .inr (.inl f_names))), (h_reserved, .inl (cJ, 23, .inr (.inl f_reserved))), (h_stack, .inl (cI, 45, .inl f_stack)), (h0, .inr (10, vL 67 F4))] H := hP
  have hD : va_D A [(h_tape, .inl (cB, 940, .inl f_tape)), (h_s, .inl (cI, 335, .inl f_s)), (h_read, .inl (cI, 135, .inl f_read)), (h_names, .inl (cJ, 36, .inr (.inl f_names))), (h_reserved, .inl (cJ, 23, .inr (.inl f_reserved))), (h_stack, .inl (cI, 45, .inl f_stack)), (h0, .inr (10, vL 67 F4))] := hD
  refine W.widen (k := 0) (n := 0) (Nat.le_of_ble_eq_true rfl) (Nat.le_of_ble_eq_true rfl) ?_
  refine lv_aload_n hx hb dX10_sentence_12 rfl (lv_at hl 0 rfl) ?_
  refine lv_iconst (v := 0) hx hb dX10_sentence_13 (by decide) ?_
  refine put_f (D := D) (ci := 10) (v := .int 0) (ty := .int) (C := RX10) (T := TX10) (N := 67) hx hb hw inAX10 tyX10 tyX10_ok nmX10 hown hK hP hD hS 6 rfl rfl 15 (by decide) (hw _ q_1276) (fun _ h9 => h9) rfl (by decide +kernel) rfl rfl dX10_sentence_14 (fun H locs F11 eF11 hP hD hS => ?_)
  have hP : va_P D vwCl [(h_tape, .inl (cB, 940, .inl f_tape)), (h_s, .inl (cI, 335, .inl f_s)), (h_read, .inl (cI, 135, .inl f_read)), (h_names, .inl (cJ, 36, .inr (.inl f_names))), (h_reserved, .inl (cJ, 23, .inr (.inl f_reserved))), (h_stack, .inl (cI, 45, .inl f_stack)), (h0, .inr (10, vL 67 F11))] H := hP
  have hD : va_D A [(h_tape, .inl (cB, 940, .inl f_tape)), (h_s, .inl (cI, 335, .inl f_s)), (h_read, .inl (cI, 135, .inl f_read)), (h_names, .inl (cJ, 36, .inr (.inl f_names))), (h_reserved, .inl (cJ, 23, .inr (.inl f_reserved))), (h_stack, .inl (cI, 45, .inl f_stack)), (h0, .inr (10, vL 67 F11))] := hD
  refine lv_aload_n hx hb dX10_sentence_17 rfl (lv_at hl 0 rfl) ?_
  refine lv_iconst (v := 0) hx hb dX10_sentence_18 (by decide) ?_
  refine put_f (D := D) (ci := 10) (v := .int 0) (ty := .int) (C := RX10) (T := TX10) (N := 67) hx hb hw inAX10 tyX10 tyX10_ok nmX10 hown hK hP hD hS 6 rfl rfl 58 (by decide) (hw _ q_1319) (fun _ h9 => h9) rfl (by decide +kernel) rfl rfl dX10_sentence_19 (fun H locs F12 eF12 hP hD hS => ?_)
  have hP : va_P D vwCl [(h_tape, .inl (cB, 940, .inl f_tape)), (h_s, .inl (cI, 335, .inl f_s)), (h_read, .inl (cI, 135, .inl f_read)), (h_names, .inl (cJ, 36, .inr (.inl f_names))), (h_reserved, .inl (cJ, 23, .inr (.inl f_reserved))), (h_stack, .inl (cI, 45, .inl f_stack)), (h0, .inr (10, vL 67 F12))] H := hP
  have hD : va_D A [(h_tape, .inl (cB, 940, .inl f_tape)), (h_s, .inl (cI, 335, .inl f_s)), (h_read, .inl (cI, 135, .inl f_read)), (h_names, .inl (cJ, 36, .inr (.inl f_names))), (h_reserved, .inl (cJ, 23, .inr (.inl f_reserved))), (h_stack, .inl (cI, 45, .inl f_stack)), (h0, .inr (10, vL 67 F12))] := hD
  refine lv_aload_n hx hb dX10_sentence_22 rfl (lv_at hl 0 rfl) ?_
  refine lv_iconst (v := 0) hx hb dX10_sentence_23 (by decide) ?_
  refine put_f (D := D) (ci := 10) (v := .int 0) (ty := .int) (C := RX10) (T := TX10) (N := 67) hx hb hw inAX10 tyX10 tyX10_ok nmX10 hown hK hP hD hS 6 rfl rfl 59 (by decide) (hw _ q_1320) (fun _ h9 => h9) rfl (by decide +kernel) rfl rfl dX10_sentence_24 (fun H locs F13 eF13 hP hD hS => ?_)
  have hP : va_P D vwCl [(h_tape, .inl (cB, 940, .inl f_tape)), (h_s, .inl (cI, 335, .inl f_s)), (h_read, .inl (cI, 135, .inl f_read)), (h_names, .inl (cJ, 36, .inr (.inl f_names))), (h_reserved, .inl (cJ, 23, .inr (.inl f_reserved))), (h_stack, .inl (cI, 45, .inl f_stack)), (h0, .inr (10, vL 67 F13))] H := hP
  have hD : va_D A [(h_tape, .inl (cB, 940, .inl f_tape)), (h_s, .inl (cI, 335, .inl f_s)), (h_read, .inl (cI, 135, .inl f_read)), (h_names, .inl (cJ, 36, .inr (.inl f_names))), (h_reserved, .inl (cJ, 23, .inr (.inl f_reserved))), (h_stack, .inl (cI, 45, .inl f_stack)), (h0, .inr (10, vL 67 F13))] := hD
  refine lv_aload_n hx hb dX10_sentence_27 rfl (lv_at hl 0 rfl) ?_
  refine lv_iconst (v := 0) hx hb dX10_sentence_28 (by decide) ?_
  refine put_f (D := D) (ci := 10) (v := .int 0) (ty := .int) (C := RX10) (T := TX10) (N := 67) hx hb hw inAX10 tyX10 tyX10_ok nmX10 hown hK hP hD hS 6 rfl rfl 60 (by decide) (hw _ q_1321) (fun _ h9 => h9) rfl (by decide +kernel) rfl rfl dX10_sentence_29 (fun H locs F14 eF14 hP hD hS => ?_)
  have hP : va_P D vwCl [(h_tape, .inl (cB, 940, .inl f_tape)), (h_s, .inl (cI, 335, .inl f_s)), (h_read, .inl (cI, 135, .inl f_read)), (h_names, .inl (cJ, 36, .inr (.inl f_names))), (h_reserved, .inl (cJ, 23, .inr (.inl f_reserved))), (h_stack, .inl (cI, 45, .inl f_stack)), (h0, .inr (10, vL 67 F14))] H := hP
  have hD : va_D A [(h_tape, .inl (cB, 940, .inl f_tape)), (h_s, .inl (cI, 335, .inl f_s)), (h_read, .inl (cI, 135, .inl f_read)), (h_names, .inl (cJ, 36, .inr (.inl f_names))), (h_reserved, .inl (cJ, 23, .inr (.inl f_reserved))), (h_stack, .inl (cI, 45, .inl f_stack)), (h0, .inr (10, vL 67 F14))] := hD
  refine lv_aload_n hx hb dX10_sentence_32 rfl (lv_at hl 0 rfl) ?_
  refine lv_iconst (v := 1) hx hb dX10_sentence_33 (by decide) ?_
  refine put_f (D := D) (ci := 10) (v := .int 1) (ty := .int) (C := RX10) (T := TX10) (N := 67) hx hb hw inAX10 tyX10 tyX10_ok nmX10 hown hK hP hD hS 6 rfl rfl 61 (by decide) (hw _ q_1322) (fun _ h9 => h9) rfl (by decide +kernel) rfl rfl dX10_sentence_34 (fun H locs F15 eF15 hP hD hS => ?_)
  have hP : va_P D vwCl [(h_tape, .inl (cB, 940, .inl f_tape)), (h_s, .inl (cI, 335, .inl f_s)), (h_read, .inl (cI, 135, .inl f_read)), (h_names, .inl (cJ, 36, .inr (.inl f_names))), (h_reserved, .inl (cJ, 23, .inr (.inl f_reserved))), (h_stack, .inl (cI, 45, .inl f_stack)), (h0, .inr (10, vL 67 F15))] H := hP
  have hD : va_D A [(h_tape, .inl (cB, 940, .inl f_tape)), (h_s, .inl (cI, 335, .inl f_s)), (h_read, .inl (cI, 135, .inl f_read)), (h_names, .inl (cJ, 36, .inr (.inl f_names))), (h_reserved, .inl (cJ, 23, .inr (.inl f_reserved))), (h_stack, .inl (cI, 45, .inl f_stack)), (h0, .inr (10, vL 67 F15))] := hD
  refine lv_aload_n hx hb dX10_sentence_37 rfl (lv_at hl 0 rfl) ?_
  refine lv_iconst (v := 0) hx hb dX10_sentence_38 (by decide) ?_
  refine put_f (D := D) (ci := 10) (v := .int 0) (ty := .boolean) (C := RX10) (T := TX10) (N := 67) hx hb hw inAX10 tyX10 tyX10_ok nmX10 hown hK hP hD hS 6 rfl rfl 62 (by decide) (hw _ q_1323) (fun _ h9 => h9) rfl (by decide +kernel) rfl rfl dX10_sentence_39 (fun H locs F16 eF16 hP hD hS => ?_)
  have hP : va_P D vwCl [(h_tape, .inl (cB, 940, .inl f_tape)), (h_s, .inl (cI, 335, .inl f_s)), (h_read, .inl (cI, 135, .inl f_read)), (h_names, .inl (cJ, 36, .inr (.inl f_names))), (h_reserved, .inl (cJ, 23, .inr (.inl f_reserved))), (h_stack, .inl (cI, 45, .inl f_stack)), (h0, .inr (10, vL 67 F16))] H := hP
  have hD : va_D A [(h_tape, .inl (cB, 940, .inl f_tape)), (h_s, .inl (cI, 335, .inl f_s)), (h_read, .inl (cI, 135, .inl f_read)), (h_names, .inl (cJ, 36, .inr (.inl f_names))), (h_reserved, .inl (cJ, 23, .inr (.inl f_reserved))), (h_stack, .inl (cI, 45, .inl f_stack)), (h0, .inr (10, vL 67 F16))] := hD
  refine lv_aload_n hx hb dX10_sentence_42 rfl (lv_at hl 0 rfl) ?_
  have n17 : F1 1 = .ref h_tape := (get_ne eF1 (by decide) e_tape)
  have n18 : F4 1 = .ref h_tape := (SAME.at t5 (by decide) n17)
  have n19 : F11 1 = .ref h_tape := (get_ne eF11 (by decide) n18)
  have n20 : F12 1 = .ref h_tape := (get_ne eF12 (by decide) n19)
  have n21 : F13 1 = .ref h_tape := (get_ne eF13 (by decide) n20)
  have n22 : F14 1 = .ref h_tape := (get_ne eF14 (by decide) n21)
  have n23 : F15 1 = .ref h_tape := (get_ne eF15 (by decide) n22)
  have n24 : F16 1 = .ref h_tape := (get_ne eF16 (by decide) n23)
  have n25 : F11 3 = .int x_length := (get_ne eF11 (by decide) t7)
  have n26 : F12 3 = .int x_length := (get_ne eF12 (by decide) n25)
  have n27 : F13 3 = .int x_length := (get_ne eF13 (by decide) n26)
  have n28 : F14 3 = .int x_length := (get_ne eF14 (by decide) n27)
  have n29 : F15 3 = .int x_length := (get_ne eF15 (by decide) n28)
  have n30 : F16 3 = .int x_length := (get_ne eF16 (by decide) n29)
  have n31 : F11 4 = .int 0 := (get_ne eF11 (by decide) t8)
  have n32 : F12 4 = .int 0 := (get_ne eF12 (by decide) n31)
  have n33 : F13 4 = .int 0 := (get_ne eF13 (by decide) n32)
  have n34 : F14 4 = .int 0 := (get_ne eF14 (by decide) n33)
  have n35 : F15 4 = .int 0 := (get_ne eF15 (by decide) n34)
  have n36 : F16 4 = .int 0 := (get_ne eF16 (by decide) n35)
  have n37 : F11 5 = .int 200 := (get_ne eF11 (by decide) t9)
  have n38 : F12 5 = .int 200 := (get_ne eF12 (by decide) n37)
  have n39 : F13 5 = .int 200 := (get_ne eF13 (by decide) n38)
  have n40 : F14 5 = .int 200 := (get_ne eF14 (by decide) n39)
  have n41 : F15 5 = .int 200 := (get_ne eF15 (by decide) n40)
  have n42 : F16 5 = .int 200 := (get_ne eF16 (by decide) n41)
  have n43 : F1 11 = .int x_token := (get_ne eF1 (by decide) e_token)
  have n44 : F4 11 = .int x_token := (SAME.at t5 (by decide) n43)
  have n45 : F11 11 = .int x_token := (get_ne eF11 (by decide) n44)
  have n46 : F12 11 = .int x_token := (get_ne eF12 (by decide) n45)
  have n47 : F13 11 = .int x_token := (get_ne eF13 (by decide) n46)
  have n48 : F14 11 = .int x_token := (get_ne eF14 (by decide) n47)
  have n49 : F15 11 = .int x_token := (get_ne eF15 (by decide) n48)
  have n50 : F16 11 = .int x_token := (get_ne eF16 (by decide) n49)
  have n51 : F1 14 = .int x_number := (get_ne eF1 (by decide) e_number)
  have n52 : F4 14 = .int x_number := (SAME.at t5 (by decide) n51)
  have n53 : F11 14 = .int x_number := (get_ne eF11 (by decide) n52)
  have n54 : F12 14 = .int x_number := (get_ne eF12 (by decide) n53)
  have n55 : F13 14 = .int x_number := (get_ne eF13 (by decide) n54)
  have n56 : F14 14 = .int x_number := (get_ne eF14 (by decide) n55)
  have n57 : F15 14 = .int x_number := (get_ne eF15 (by decide) n56)
  have n58 : F16 14 = .int x_number := (get_ne eF16 (by decide) n57)
  have n59 : F1 18 = .long x_word := (get_ne eF1 (by decide) e_word)
  have n60 : F4 18 = .long x_word := (SAME.at t5 (by decide) n59)
  have n61 : F11 18 = .long x_word := (get_ne eF11 (by decide) n60)
  have n62 : F12 18 = .long x_word := (get_ne eF12 (by decide) n61)
  have n63 : F13 18 = .long x_word := (get_ne eF13 (by decide) n62)
  have n64 : F14 18 = .long x_word := (get_ne eF14 (by decide) n63)
  have n65 : F15 18 = .long x_word := (get_ne eF15 (by decide) n64)
  have n66 : F16 18 = .long x_word := (get_ne eF16 (by decide) n65)
  refine call_Vv (wr := [(h_s, .inl (cI, 335, .inl f_s)), (h_read, .inl (cI, 135, .inl f_read)), (h_names, .inl (cJ, 36, .inr (.inl f_names))), (h_reserved, .inl (cJ, 23, .inr (.inl f_reserved))), (h_stack, .inl (cI, 45, .inl f_stack))]) (As := []) (rest := []) hx hb hml hown hw (m_X10_next l D cI cJ cB cP cM cZ h0 h_tape F16 x_length 0 200 x_token x_number x_word f_tape _ n24 n30 i_x_length n36 (show 0 ≤ (0 : Int32).toInt ∧ (0 : Int32).toInt ≤ 940 by decide) n42 (show 200 ≤ (200 : Int32).toInt ∧ (200 : Int32).toInt ≤ 940 by decide) n50 i_x_token n58 n66 (by omega)) wV_X10_208_X10_next dX10_sentence_43 hK hP hD hS hA [6, 0] [1, 2, 3, 4, 5] rfl rfl (by decide) (by decide) (by decide) 0 10 rfl rfl GG.fb hG.at hl.1 rfl (Nat.le_of_ble_eq_true rfl) ⟨(Nat.le_of_ble_eq_true rfl), (Nat.le_of_ble_eq_true rfl)⟩ ⟨(Nat.le_of_ble_eq_true rfl), (Nat.le_of_ble_eq_true rfl)⟩ (fun u H locs hp hP hD hS => ?_)
  have zl0 : (0 : Int32).toInt = 0 := by decide
  obtain ⟨F68, y69, y70, y71, y72, y73, y74, t75, t76, t77, t78, t79, t80, t81, t82, t83, t84, t85, t86, t87, t88, rfl⟩ := hp
  have hP : va_P D vwCl [(h_s, .inl (cI, 335, .inl f_s)), (h_read, .inl (cI, 135, .inl f_read)), (h_names, .inl (cJ, 36, .inr (.inl f_names))), (h_reserved, .inl (cJ, 23, .inr (.inl f_reserved))), (h_stack, .inl (cI, 45, .inl f_stack)), (h0, .inr (10, vL 67 F68)), (h_tape, .inl (cB, 940, .inl f_tape))] H := hP
  have hD : va_D A [(h_s, .inl (cI, 335, .inl f_s)), (h_read, .inl (cI, 135, .inl f_read)), (h_names, .inl (cJ, 36, .inr (.inl f_names))), (h_reserved, .inl (cJ, 23, .inr (.inl f_reserved))), (h_stack, .inl (cI, 45, .inl f_stack)), (h0, .inr (10, vL 67 F68)), (h_tape, .inl (cB, 940, .inl f_tape))] := hD
  refine W.widen (k := 0) (n := 0) (Nat.le_of_ble_eq_true rfl) (Nat.le_of_ble_eq_true rfl) ?_
  refine lv_iconst (v := 1) hx hb dX10_sentence_46 (by decide) ?_
  refine lv_istore_n (lv' := [(1, .int 1), (0, .ref h0)]) hx hb dX10_sentence_47 rfl hl (by decide) rfl (fun ls hl => ?_)
  have n107 : F12 15 = .int 0 := (get_ne eF12 (by decide) (get_eq eF11))
  have n108 : F13 15 = .int 0 := (get_ne eF13 (by decide) n107)
  have n109 : F14 15 = .int 0 := (get_ne eF14 (by decide) n108)
  have n110 : F15 15 = .int 0 := (get_ne eF15 (by decide) n109)
  have n111 : F16 15 = .int 0 := (get_ne eF16 (by decide) n110)
  have n112 : F68 15 = .int 0 := (SAME.at t75 (by decide) n111)
  have n113 : F1 16 = .int x_faultAt := (get_ne eF1 (by decide) e_faultAt)
  have n114 : F4 16 = .int x_faultAt := (SAME.at t5 (by decide) n113)
  have n115 : F11 16 = .int x_faultAt := (get_ne eF11 (by decide) n114)
  have n116 : F12 16 = .int x_faultAt := (get_ne eF12 (by decide) n115)
  have n117 : F13 16 = .int x_faultAt := (get_ne eF13 (by decide) n116)
  have n118 : F14 16 = .int x_faultAt := (get_ne eF14 (by decide) n117)
  have n119 : F15 16 = .int x_faultAt := (get_ne eF15 (by decide) n118)
  have n120 : F16 16 = .int x_faultAt := (get_ne eF16 (by decide) n119)
  have n121 : F68 16 = .int x_faultAt := (SAME.at t75 (by decide) n120)
  have n122 : F13 58 = .int 0 := (get_ne eF13 (by decide) (get_eq eF12))
  have n123 : F14 58 = .int 0 := (get_ne eF14 (by decide) n122)
  have n124 : F15 58 = .int 0 := (get_ne eF15 (by decide) n123)
  have n125 : F16 58 = .int 0 := (get_ne eF16 (by decide) n124)
  have n126 : F68 58 = .int 0 := (SAME.at t75 (by decide) n125)
  have n127 : F14 59 = .int 0 := (get_ne eF14 (by decide) (get_eq eF13))
  have n128 : F15 59 = .int 0 := (get_ne eF15 (by decide) n127)
  have n129 : F16 59 = .int 0 := (get_ne eF16 (by decide) n128)
  have n130 : F68 59 = .int 0 := (SAME.at t75 (by decide) n129)
  have n131 : F15 60 = .int 0 := (get_ne eF15 (by decide) (get_eq eF14))
  have n132 : F16 60 = .int 0 := (get_ne eF16 (by decide) n131)
  have n133 : F68 60 = .int 0 := (SAME.at t75 (by decide) n132)
  have n134 : F16 61 = .int 1 := (get_ne eF16 (by decide) (get_eq eF15))
  have n135 : F68 61 = .int 1 := (SAME.at t75 (by decide) n134)
  have n136 : F68 62 = .int 0 := (SAME.at t75 (by decide) (get_eq eF16))
  refine mloop (α := (Int32) × (Nat → Int32) × (Nat → Int32) × (Nat → Value) × (Int32) × (Int32) × (Int32) × (Int32) × (Int32) × (Int32) × (Int32) × (Int64) × (Int32) × (Int32) × (Int32) × (Int32) × (Int32)) (nL := 3) (D := D) (A := A) (H0 := s.heap) (fun a => (3 * (940 - a.2.2.2.2.1.toInt) + min a.2.2.2.2.2.1.toInt (4 - a.2.2.2.2.2.1.toInt) + a.1.toInt).toNat) (fun a => IR 0 1 a.1 ∧ SAME [4, 11, 12, 13, 14, 15, 16, 18, 58, 59, 60, 61, 62] F68 a.2.2.2.1 ∧ a.2.2.2.1 4 = .int a.2.2.2.2.1 ∧ a.2.2.2.1 11 = .int a.2.2.2.2.2.1 ∧ a.2.2.2.1 12 = .int a.2.2.2.2.2.2.1 ∧ a.2.2.2.1 13 = .int a.2.2.2.2.2.2.2.1 ∧ a.2.2.2.1 14 = .int a.2.2.2.2.2.2.2.2.1 ∧ a.2.2.2.1 15 = .int a.2.2.2.2.2.2.2.2.2.1 ∧ a.2.2.2.1 16 = .int a.2.2.2.2.2.2.2.2.2.2.1 ∧ a.2.2.2.1 18 = .long a.2.2.2.2.2.2.2.2.2.2.2.1 ∧ a.2.2.2.1 58 = .int a.2.2.2.2.2.2.2.2.2.2.2.2.1 ∧ a.2.2.2.1 59 = .int a.2.2.2.2.2.2.2.2.2.2.2.2.2.1 ∧ a.2.2.2.1 60 = .int a.2.2.2.2.2.2.2.2.2.2.2.2.2.2.1 ∧ a.2.2.2.1 61 = .int a.2.2.2.2.2.2.2.2.2.2.2.2.2.2.2.1 ∧ a.2.2.2.1 62 = .int a.2.2.2.2.2.2.2.2.2.2.2.2.2.2.2.2 ∧ IR 0 940 a.2.2.2.2.1 ∧ IR 0 4 a.2.2.2.2.2.1 ∧ IR 0 45 a.2.2.2.2.2.2.2.2.2.2.2.2.1 ∧ IR 0 20 a.2.2.2.2.2.2.2.2.2.2.2.2.2.1 ∧ IR 0 45 a.2.2.2.2.2.2.2.2.2.2.2.2.2.2.1 ∧ IR 0 1 a.2.2.2.2.2.2.2.2.2.2.2.2.2.2.2.2 ∧ (SMI a.2.1 a.2.2.1 a.2.2.2.2.2.2.2.2.2.2.2.2.1.toInt a.2.2.2.2.2.2.2.2.2.2.2.2.2.2.1.toInt a.2.2.2.2.2.2.2.2.2.2.2.2.2.2.2.2.toInt) ∧ ((a.1.toInt = 0 → a.2.2.2.2.2.2.2.2.2.2.2.2.2.2.1.toInt = 0 ∧ a.2.2.2.2.2.2.2.2.2.2.2.2.2.2.2.2.toInt = 1)) ∧ ((a.2.2.2.2.2.1.toInt = 2 → 0 ≤ a.2.2.2.2.2.2.2.2.1.toInt ∧ a.2.2.2.2.2.2.2.2.1.toInt ≤ 999)) ∧ (a.2.2.2.2.2.2.2.2.2.2.2.2.2.2.1.toInt + a.2.2.2.2.2.2.2.2.2.2.2.2.1.toInt + a.2.2.2.2.2.2.2.2.2.2.2.2.2.2.2.2.toInt ≤ 2 * a.2.2.2.2.2.2.2.2.2.2.2.2.2.1.toInt)) (fun a => [(h_s, .inl (cI, 335, .inl f_s)), (h_read, .inl (cI, 135, .inl a.2.1)), (h_names, .inl (cJ, 36, .inr (.inl f_names))), (h_reserved, .inl (cJ, 23, .inr (.inl f_reserved))), (h_stack, .inl (cI, 45, .inl a.2.2.1)), (h0, .inr (10, vL 67 a.2.2.2.1)), (h_tape, .inl (cB, 940, .inl f_tape))]) (fun a => [(1, .int a.1), (0, .ref h0)]) (fun H locs ls => W p l e ({ frames := 3, cells := 0, slots := 0, locals := 67 } : Room) s m [.ref h0].toArray below meth c H locs 0 0 (MQ below (va_Qi (fun (r : Int32) (u : va_W) => ∃ (Gh : Nat → Value) (y_p : Int32) (y_token : Int32) (y_at : Int32) (y_span : Int32) (y_number : Int32) (y_fault : Int32) (y_faultAt : Int32) (y_word : Int64) (y_codes : Int32) (y_ones : Int32) (y_top : Int32) (y_deep : Int32) (y_isWhole : Int32) (g_s : Nat → Int32) (g_read : Nat → Int32) (g_stack : Nat → Int32), SAME [0, 2, 3, 4, 5, 11, 12, 13, 14, 15, 16, 18, 58, 59, 60, 61, 62] Fh Gh ∧ Gh 0 = .int 0 ∧ Gh 2 = .int 0 ∧ Gh 3 = .int x_length ∧ Gh 4 = .int y_p ∧ IR 0 940 y_p ∧ Gh 5 = .int 200 ∧ Gh 11 = .int y_token ∧ IR 0 4 y_token ∧ Gh 12 = .int y_at ∧ Gh 13 = .int y_span ∧ Gh 14 = .int y_number ∧ Gh 15 = .int y_fault ∧ Gh 16 = .int y_faultAt ∧ Gh 18 = .long y_word ∧ Gh 58 = .int y_codes ∧ IR 0 45 y_codes ∧ Gh 59 = .int y_ones ∧ IR 0 20 y_ones ∧ Gh 60 = .int y_top ∧ IR 0 45 y_top ∧ Gh 61 = .int y_deep ∧ Gh 62 = .int y_isWhole ∧ IR 0 1 y_isWhole ∧ SG 153 153 0 44 g_s ∧ SG 0 0 0 40 g_s ∧ SG 5 5 0 12 g_s ∧ SG 6 6 0 12 g_s ∧ SG 7 7 0 6 g_s ∧ SG 44 55 0 9 g_s ∧ KW 0 g_s ∧ SG 105 108 0 11 g_s ∧ SG 114 114 0 5 g_s ∧ SG 130 133 0 11 g_s ∧ SG 139 139 0 5 g_s ∧ ((y_token.toInt = 2 → 0 ≤ y_number.toInt ∧ y_number.toInt ≤ 999)) ∧ (y_top.toInt + y_codes.toInt + y_isWhole.toInt ≤ 2 * y_ones.toInt) ∧ u = [(h0, .inr (10, vL 67 Gh)), (h_tape, .inl (cB, 940, .inl f_tape)), (h_s, .inl (cI, 335, .inl g_s)), (h_read, .inl (cI, 135, .inl g_read)), (h_names, .inl (cJ, 36, .inr (.inl f_names))), (h_reserved, .inl (cJ, 23, .inr (.inl f_reserved))), (h_stack, .inl (cI, 45, .inl g_stack))]) (PO D A) A) [.ref h0].toArray s 0 0 A) (F0 m 48 ls [])) ?_ (1, f_read, f_stack, F68, y69, y70, y71, y72, y73, 0, x_faultAt, y74, 0, 0, 0, 1, 0) ⟨(show 0 ≤ (1 : Int32).toInt ∧ (1 : Int32).toInt ≤ 1 by decide), SAME.rf, t76, t78, t80, t82, t84, n112, n121, t85, n126, n130, n133, n135, n136, t77, t79, (show 0 ≤ (0 : Int32).toInt ∧ (0 : Int32).toInt ≤ 45 by decide), (show 0 ≤ (0 : Int32).toInt ∧ (0 : Int32).toInt ≤ 20 by decide), (show 0 ≤ (0 : Int32).toInt ∧ (0 : Int32).toInt ≤ 45 by decide), (show 0 ≤ (0 : Int32).toInt ∧ (0 : Int32).toInt ≤ 1 by decide), (show SMI f_read f_stack 0 0 0 from SMI.zero), (by show (1 = 0 → 0 = 0 ∧ 0 = 1); omega), (by show (y70.toInt = 2 → 0 ≤ y73.toInt ∧ y73.toInt ≤ 999); omega), (by show 0 + 0 + 0 ≤ 2 * 0; omega)⟩ _ _ _ hP hD hS hl
  rintro ⟨u90, w91, w92, G93, u94, u95, u96, u97, u98, u99, u100, u101, u102, u103, u104, u105, u106⟩ ⟨i137, i138, i139, i140, i141, i142, i143, i144, i145, i146, i147, i148, i149, i150, i151, i152, i153, i154, i155, i156, i157, i158, i159, i160, i161⟩ ih H locs ls hP hD hS hl
  have i137 : 0 ≤ u90.toInt ∧ u90.toInt ≤ 1 := i137
  have i152 : 0 ≤ u94.toInt ∧ u94.toInt ≤ 940 := i152
  have i153 : 0 ≤ u95.toInt ∧ u95.toInt ≤ 4 := i153
  have i154 : 0 ≤ u102.toInt ∧ u102.toInt ≤ 45 := i154
  have i155 : 0 ≤ u103.toInt ∧ u103.toInt ≤ 20 := i155
  have i156 : 0 ≤ u104.toInt ∧ u104.toInt ≤ 45 := i156
  have i157 : 0 ≤ u106.toInt ∧ u106.toInt ≤ 1 := i157
  have i158 : SMI w91 w92 u102.toInt u104.toInt u106.toInt := i158
  have i159 : (u90.toInt = 0 → u104.toInt = 0 ∧ u106.toInt = 1) := i159
  have i160 : (u95.toInt = 2 → 0 ≤ u98.toInt ∧ u98.toInt ≤ 999) := i160
  have i161 : u104.toInt + u102.toInt + u106.toInt ≤ 2 * u103.toInt := i161
  have hP : va_P D vwCl [(h_s, .inl (cI, 335, .inl f_s)), (h_read, .inl (cI, 135, .inl w91)), (h_names, .inl (cJ, 36, .inr (.inl f_names))), (h_reserved, .inl (cJ, 23, .inr (.inl f_reserved))), (h_stack, .inl (cI, 45, .inl w92)), (h0, .inr (10, vL 67 G93)), (h_tape, .inl (cB, 940, .inl f_tape))] H := hP
  have hD : va_D A [(h_s, .inl (cI, 335, .inl f_s)), (h_read, .inl (cI, 135, .inl w91)), (h_names, .inl (cJ, 36, .inr (.inl f_names))), (h_reserved, .inl (cJ, 23, .inr (.inl f_reserved))), (h_stack, .inl (cI, 45, .inl w92)), (h0, .inr (10, vL 67 G93)), (h_tape, .inl (cB, 940, .inl f_tape))] := hD
  have hl : lv_has ls 3 [(1, .int u90), (0, .ref h0)] := hl
  refine lv_iload_n hx hb dX10_sentence_48 rfl (lv_at hl 0 rfl) ?_
  refine lv_if_eq (tgt := 132) hx hb dX10_sentence_49 (by decide) (fun c162 => ?_) (fun c162 => ?_)
  · have dc162 : u90.toInt = 0 := eq_i (a := u90.toInt) (b := 0) rfl rfl c162
    have k163 : 0 ≤ u90.toInt ∧ u90.toInt ≤ 0 := ⟨i137.1, Int.le_trans (Int.le_of_eq dc162) (Int.le_refl _)⟩
    refine lv_aload_n hx hb dX10_sentence_132 rfl (lv_at hl 1 rfl) ?_
    have n164 : F1 6 = .ref h_s := (get_ne eF1 (by decide) e_s)
    have n165 : F4 6 = .ref h_s := (SAME.at t5 (by decide) n164)
    have n166 : F11 6 = .ref h_s := (get_ne eF11 (by decide) n165)
    have n167 : F12 6 = .ref h_s := (get_ne eF12 (by decide) n166)
    have n168 : F13 6 = .ref h_s := (get_ne eF13 (by decide) n167)
    have n169 : F14 6 = .ref h_s := (get_ne eF14 (by decide) n168)
    have n170 : F15 6 = .ref h_s := (get_ne eF15 (by decide) n169)
    have n171 : F16 6 = .ref h_s := (get_ne eF16 (by decide) n170)
    have n172 : F68 6 = .ref h_s := (SAME.at t75 (by decide) n171)
    have n173 : G93 6 = .ref h_s := (SAME.at i138 (by decide) n172)
    refine get_f (D := D) (ci := 10) (v := .ref h_s) (C := RX10) (T := TX10) (N := 67) hx hb hw inAX10 hown hK hP 5 rfl rfl 6 (by decide) (hw _ q_1267) (fun _ h9 => h9) n173 dX10_sentence_133 ?_
    refine lv_sipush (v := 153) hx hb dX10_sentence_136 (by decide) ?_
    refine lv_aload_n hx hb dX10_sentence_139 rfl (lv_at hl 1 rfl) ?_
    refine get_f (D := D) (ci := 10) (v := .int u102) (C := RX10) (T := TX10) (N := 67) hx hb hw inAX10 hown hK hP 5 rfl rfl 58 (by decide) (hw _ q_1319) (fun _ h9 => h9) i147 dX10_sentence_140 ?_
    obtain ⟨g174, eg174⟩ : ∃ z : Nat → Int32, upd f_s 153 u102 = z := ⟨_, rfl⟩
    have r176 : SG 0 0 0 40 g174 := by rw [← eg174]; exact s_s_0.upN (Or.inr (Or.inl (by decide)))
    have r177 : SG 105 108 0 11 g174 := by rw [← eg174]; exact s_s_105.upN (Or.inr (Or.inl (by decide)))
    have r178 : SG 114 114 0 5 g174 := by rw [← eg174]; exact s_s_114.upN (Or.inr (Or.inl (by decide)))
    have r179 : SG 130 133 0 11 g174 := by rw [← eg174]; exact s_s_130.upN (Or.inr (Or.inl (by decide)))
    have r180 : SG 139 139 0 5 g174 := by rw [← eg174]; exact s_s_139.upN (Or.inr (Or.inl (by decide)))
    have r181 : SG 153 153 0 44 g174 := by rw [← eg174]; exact s_s_153.upN (by omega)
    have r182 : SG 44 55 0 9 g174 := by rw [← eg174]; exact s_s_44.upN (Or.inr (Or.inl (by decide)))
    have r183 : SG 5 5 0 12 g174 := by rw [← eg174]; exact s_s_5.upN (Or.inr (Or.inl (by decide)))
    have r184 : SG 6 6 0 12 g174 := by rw [← eg174]; exact s_s_6.upN (Or.inr (Or.inl (by decide)))
    have r185 : SG 7 7 0 6 g174 := by rw [← eg174]; exact s_s_7.upN (Or.inr (Or.inl (by decide)))
    refine iast_n hx hb hK hP hD hS 0 0 rfl rfl 153 rfl (Nat.le_of_ble_eq_true rfl) (Nat.le_of_ble_eq_true rfl) eg174 dX10_sentence_143 (fun H locs hP hD hS => ?_)
    have hP : va_P D vwCl [(h_s, .inl (cI, 335, .inl g174)), (h_read, .inl (cI, 135, .inl w91)), (h_names, .inl (cJ, 36, .inr (.inl f_names))), (h_reserved, .inl (cJ, 23, .inr (.inl f_reserved))), (h_stack, .inl (cI, 45, .inl w92)), (h0, .inr (10, vL 67 G93)), (h_tape, .inl (cB, 940, .inl f_tape))] H := hP
    have hD : va_D A [(h_s, .inl (cI, 335, .inl g174)), (h_read, .inl (cI, 135, .inl w91)), (h_names, .inl (cJ, 36, .inr (.inl f_names))), (h_reserved, .inl (cJ, 23, .inr (.inl f_reserved))), (h_stack, .inl (cI, 45, .inl w92)), (h0, .inr (10, vL 67 G93)), (h_tape, .inl (cB, 940, .inl f_tape))] := hD
    refine lv_iconst (v := 0) hx hb dX10_sentence_144 (by decide) ?_
    refine lv_istore_n (lv' := [(2, .int 0), (1, .int u90), (0, .ref h0)]) hx hb dX10_sentence_145 rfl hl (by decide) rfl (fun ls hl => ?_)
    refine mloop (α := (Int32) × (Nat → Int32)) (nL := 3) (D := D) (A := A) (H0 := s.heap) (fun a => (135 - a.1.toInt).toNat) (fun a => IR 0 135 a.1 ∧ SG 0 0 0 40 a.2 ∧ SG 105 108 0 11 a.2 ∧ SG 114 114 0 5 a.2 ∧ SG 130 133 0 11 a.2 ∧ SG 139 139 0 5 a.2 ∧ SG 153 153 0 44 a.2 ∧ SG 44 55 0 9 a.2 ∧ SG 5 5 0 12 a.2 ∧ SG 6 6 0 12 a.2 ∧ SG 7 7 0 6 a.2 ∧ ((a.2 153).toInt = u102.toInt) ∧ (CPY a.2 154 w91 0 (a.1.toInt))) (fun a => [(h_s, .inl (cI, 335, .inl a.2)), (h_read, .inl (cI, 135, .inl w91)), (h_names, .inl (cJ, 36, .inr (.inl f_names))), (h_reserved, .inl (cJ, 23, .inr (.inl f_reserved))), (h_stack, .inl (cI, 45, .inl w92)), (h0, .inr (10, vL 67 G93)), (h_tape, .inl (cB, 940, .inl f_tape))]) (fun a => [(2, .int a.1), (1, .int u90), (0, .ref h0)]) (fun H locs ls => W p l e ({ frames := 3, cells := 0, slots := 0, locals := 67 } : Room) s m [.ref h0].toArray below meth c H locs 0 0 (MQ below (va_Qi (fun (r : Int32) (u : va_W) => ∃ (Gh : Nat → Value) (y_p : Int32) (y_token : Int32) (y_at : Int32) (y_span : Int32) (y_number : Int32) (y_fault : Int32) (y_faultAt : Int32) (y_word : Int64) (y_codes : Int32) (y_ones : Int32) (y_top : Int32) (y_deep : Int32) (y_isWhole : Int32) (g_s : Nat → Int32) (g_read : Nat → Int32) (g_stack : Nat → Int32), SAME [0, 2, 3, 4, 5, 11, 12, 13, 14, 15, 16, 18, 58, 59, 60, 61, 62] Fh Gh ∧ Gh 0 = .int 0 ∧ Gh 2 = .int 0 ∧ Gh 3 = .int x_length ∧ Gh 4 = .int y_p ∧ IR 0 940 y_p ∧ Gh 5 = .int 200 ∧ Gh 11 = .int y_token ∧ IR 0 4 y_token ∧ Gh 12 = .int y_at ∧ Gh 13 = .int y_span ∧ Gh 14 = .int y_number ∧ Gh 15 = .int y_fault ∧ Gh 16 = .int y_faultAt ∧ Gh 18 = .long y_word ∧ Gh 58 = .int y_codes ∧ IR 0 45 y_codes ∧ Gh 59 = .int y_ones ∧ IR 0 20 y_ones ∧ Gh 60 = .int y_top ∧ IR 0 45 y_top ∧ Gh 61 = .int y_deep ∧ Gh 62 = .int y_isWhole ∧ IR 0 1 y_isWhole ∧ SG 153 153 0 44 g_s ∧ SG 0 0 0 40 g_s ∧ SG 5 5 0 12 g_s ∧ SG 6 6 0 12 g_s ∧ SG 7 7 0 6 g_s ∧ SG 44 55 0 9 g_s ∧ KW 0 g_s ∧ SG 105 108 0 11 g_s ∧ SG 114 114 0 5 g_s ∧ SG 130 133 0 11 g_s ∧ SG 139 139 0 5 g_s ∧ ((y_token.toInt = 2 → 0 ≤ y_number.toInt ∧ y_number.toInt ≤ 999)) ∧ (y_top.toInt + y_codes.toInt + y_isWhole.toInt ≤ 2 * y_ones.toInt) ∧ u = [(h0, .inr (10, vL 67 Gh)), (h_tape, .inl (cB, 940, .inl f_tape)), (h_s, .inl (cI, 335, .inl g_s)), (h_read, .inl (cI, 135, .inl g_read)), (h_names, .inl (cJ, 36, .inr (.inl f_names))), (h_reserved, .inl (cJ, 23, .inr (.inl f_reserved))), (h_stack, .inl (cI, 45, .inl g_stack))]) (PO D A) A) [.ref h0].toArray s 0 0 A) (F0 m 146 ls [])) ?_ (0, g174) ⟨(show 0 ≤ (0 : Int32).toInt ∧ (0 : Int32).toInt ≤ 135 by decide), r176, r177, r178, r179, r180, r181, r182, r183, r184, r185, (show (g174 153).toInt = u102.toInt from (by rw [← eg174, pk_us])), (show CPY g174 154 w91 0 (0) from (CPY.zero (by decide)))⟩ _ _ _ hP hD hS hl
    rintro ⟨u186, w187⟩ ⟨i188, i189, i190, i191, i192, i193, i194, i195, i196, i197, i198, i199, i200⟩ ih_146 H locs ls hP hD hS hl
    have i188 : 0 ≤ u186.toInt ∧ u186.toInt ≤ 135 := i188
    have i199 : (w187 153).toInt = u102.toInt := i199
    have i200 : CPY w187 154 w91 0 (u186.toInt) := i200
    have hP : va_P D vwCl [(h_s, .inl (cI, 335, .inl w187)), (h_read, .inl (cI, 135, .inl w91)), (h_names, .inl (cJ, 36, .inr (.inl f_names))), (h_reserved, .inl (cJ, 23, .inr (.inl f_reserved))), (h_stack, .inl (cI, 45, .inl w92)), (h0, .inr (10, vL 67 G93)), (h_tape, .inl (cB, 940, .inl f_tape))] H := hP
    have hD : va_D A [(h_s, .inl (cI, 335, .inl w187)), (h_read, .inl (cI, 135, .inl w91)), (h_names, .inl (cJ, 36, .inr (.inl f_names))), (h_reserved, .inl (cJ, 23, .inr (.inl f_reserved))), (h_stack, .inl (cI, 45, .inl w92)), (h0, .inr (10, vL 67 G93)), (h_tape, .inl (cB, 940, .inl f_tape))] := hD
    have hl : lv_has ls 3 [(2, .int u186), (1, .int u90), (0, .ref h0)] := hl
    refine lv_iload_n hx hb dX10_sentence_146 rfl (lv_at hl 0 rfl) ?_
    refine lv_iconst (v := 3) hx hb dX10_sentence_147 (by decide) ?_
    refine lv_aload_n hx hb dX10_sentence_148 rfl (lv_at hl 2 rfl) ?_
    refine get_f (D := D) (ci := 10) (v := .int u102) (C := RX10) (T := TX10) (N := 67) hx hb hw inAX10 hown hK hP 5 rfl rfl 58 (by decide) (hw _ q_1319) (fun _ h9 => h9) i147 dX10_sentence_149 ?_
    refine lv_imul hx hb dX10_sentence_152 ?_
    refine lv_topi (fun v201 ev201 => ?_)
    have bv201 : v201.toInt = 3 * u102.toInt := by rw [ev201]; exact kmul_k rfl rfl (by decide) i154 (by decide)
    have k202 : 0 ≤ v201.toInt ∧ v201.toInt ≤ 135 := kmul_r bv201 (by decide) i154 (by decide)
    refine lv_icmp_ge (tgt := 178) hx hb dX10_sentence_153 (by decide) (fun c203 => ?_) (fun c203 => ?_)
    · have dc203 : v201.toInt ≤ u186.toInt := le_i (a := v201.toInt) (b := u186.toInt) rfl rfl c203
      have r204 : KW 0 w187 := KW.sent (c := u102.toInt) ⟨by omega, by omega⟩ i158.2.2.1 i199 (CPY.mn i200 (by omega))
      refine lv_aload_n hx hb dX10_sentence_178 rfl (lv_at hl 2 rfl) ?_
      refine get_f (D := D) (ci := 10) (v := .int u103) (C := RX10) (T := TX10) (N := 67) hx hb hw inAX10 hown hK hP 5 rfl rfl 59 (by decide) (hw _ q_1320) (fun _ h9 => h9) i148 dX10_sentence_179 ?_
      exact ret_i (v := u103) hx hb hr hlocks hS (hP.sub (ws' := [(h0, .inr (10, vL 67 G93)), (h_tape, .inl (cB, 940, .inl f_tape)), (h_s, .inl (cI, 335, .inl w187)), (h_read, .inl (cI, 135, .inl w91)), (h_names, .inl (cJ, 36, .inr (.inl f_names))), (h_reserved, .inl (cJ, 23, .inr (.inl f_reserved))), (h_stack, .inl (cI, 45, .inl w92))]) [5, 6, 0, 1, 2, 3, 4] rfl) (hD.sub (ws' := [(h0, .inr (10, vL 67 G93)), (h_tape, .inl (cB, 940, .inl f_tape)), (h_s, .inl (cI, 335, .inl w187)), (h_read, .inl (cI, 135, .inl w91)), (h_names, .inl (cJ, 36, .inr (.inl f_names))), (h_reserved, .inl (cJ, 23, .inr (.inl f_reserved))), (h_stack, .inl (cI, 45, .inl w92))]) [5, 6, 0, 1, 2, 3, 4] (by decide) rfl) dX10_sentence_182 rfl (Nat.le_of_ble_eq_true rfl) (Nat.le_of_ble_eq_true rfl) ⟨G93, u94, u95, u96, u97, u98, u99, u100, u101, u102, u103, u104, u105, u106, w187, w91, w92, (SAME.tr (SAME.tr (SAME.up eF16 (SAME.up eF15 (SAME.up eF14 (SAME.up eF13 (SAME.up eF12 (SAME.up eF11 (SAME.tr (SAME.up eF1 SAME.rf (by decide)) t5 (by decide)) (by decide)) (by decide)) (by decide)) (by decide)) (by decide)) (by decide)) t75 (by decide)) i138 (by decide)), (SAME.at i138 (by decide) (SAME.at t75 (by decide) (get_ne eF16 (by decide) (get_ne eF15 (by decide) (get_ne eF14 (by decide) (get_ne eF13 (by decide) (get_ne eF12 (by decide) (get_ne eF11 (by decide) (SAME.at t5 (by decide) (get_eq eF1)))))))))), (SAME.at i138 (by decide) (SAME.at t75 (by decide) (get_ne eF16 (by decide) (get_ne eF15 (by decide) (get_ne eF14 (by decide) (get_ne eF13 (by decide) (get_ne eF12 (by decide) (get_ne eF11 (by decide) t6)))))))), (SAME.at i138 (by decide) (SAME.at t75 (by decide) n30)), i139, i152, (SAME.at i138 (by decide) (SAME.at t75 (by decide) n42)), i140, i153, i141, i142, i143, i144, i145, i146, i147, i154, i148, i155, i149, i156, i150, i151, i157, i194, i189, i196, i197, i198, i195, r204, i190, i191, i192, i193, (by omega), (by omega), rfl⟩
    · have dc203 : u186.toInt < v201.toInt := nle_i (a := v201.toInt) (b := u186.toInt) rfl rfl c203
      have k205 : 0 ≤ u186.toInt ∧ u186.toInt ≤ 134 := ⟨i188.1, up_lt dc203 k202.2 (by decide)⟩
      have k206 : 1 ≤ v201.toInt ∧ v201.toInt ≤ 135 := ⟨lo_lt dc203 i188.1 (by decide), k202.2⟩
      refine lv_aload_n hx hb dX10_sentence_156 rfl (lv_at hl 2 rfl) ?_
      refine get_f (D := D) (ci := 10) (v := .ref h_s) (C := RX10) (T := TX10) (N := 67) hx hb hw inAX10 hown hK hP 5 rfl rfl 6 (by decide) (hw _ q_1267) (fun _ h9 => h9) n173 dX10_sentence_157 ?_
      refine lv_sipush (v := 154) hx hb dX10_sentence_160 (by decide) ?_
      refine lv_iload_n hx hb dX10_sentence_163 rfl (lv_at hl 0 rfl) ?_
      refine lv_iadd hx hb dX10_sentence_164 ?_
      refine lv_topi (fun v207 ev207 => ?_)
      have bv207 : v207.toInt = 154 + u186.toInt := by rw [ev207]; exact add_k rfl rfl ⟨Int.le_refl _, Int.le_refl _⟩ k205 (by decide)
      have k208 : 154 ≤ v207.toInt ∧ v207.toInt ≤ 288 := add_r bv207 ⟨Int.le_refl _, Int.le_refl _⟩ k205 (by decide)
      refine lv_aload_n hx hb dX10_sentence_165 rfl (lv_at hl 2 rfl) ?_
      have n209 : F1 8 = .ref h_read := (get_ne eF1 (by decide) e_read)
      have n210 : F4 8 = .ref h_read := (SAME.at t5 (by decide) n209)
      have n211 : F11 8 = .ref h_read := (get_ne eF11 (by decide) n210)
      have n212 : F12 8 = .ref h_read := (get_ne eF12 (by decide) n211)
      have n213 : F13 8 = .ref h_read := (get_ne eF13 (by decide) n212)
      have n214 : F14 8 = .ref h_read := (get_ne eF14 (by decide) n213)
      have n215 : F15 8 = .ref h_read := (get_ne eF15 (by decide) n214)
      have n216 : F16 8 = .ref h_read := (get_ne eF16 (by decide) n215)
      have n217 : F68 8 = .ref h_read := (SAME.at t75 (by decide) n216)
      have n218 : G93 8 = .ref h_read := (SAME.at i138 (by decide) n217)
      refine get_f (D := D) (ci := 10) (v := .ref h_read) (C := RX10) (T := TX10) (N := 67) hx hb hw inAX10 hown hK hP 5 rfl rfl 8 (by decide) (hw _ q_1269) (fun _ h9 => h9) n218 dX10_sentence_166 ?_
      refine lv_iload_n hx hb dX10_sentence_169 rfl (lv_at hl 0 rfl) ?_
      refine va_iald hx hb hK hP 1 0 rfl rfl (ix_k k205 (by decide) (by decide)) dX10_sentence_170 ?_
      refine lv_topi (fun v219 ev219 => ?_)
      obtain ⟨g220, eg220⟩ : ∃ z : Nat → Int32, upd w187 v207.toNatClampNeg v219 = z := ⟨_, rfl⟩
      have r221 : SG 0 0 0 40 g220 := by rw [← eg220]; exact i189.up (Int.le_trans (by decide) k208.1) (Or.inr (Or.inl (dec_lt k208.1 (by decide))))
      have r222 : SG 105 108 0 11 g220 := by rw [← eg220]; exact i190.up (Int.le_trans (by decide) k208.1) (Or.inr (Or.inl (dec_lt k208.1 (by decide))))
      have r223 : SG 114 114 0 5 g220 := by rw [← eg220]; exact i191.up (Int.le_trans (by decide) k208.1) (Or.inr (Or.inl (dec_lt k208.1 (by decide))))
      have r224 : SG 130 133 0 11 g220 := by rw [← eg220]; exact i192.up (Int.le_trans (by decide) k208.1) (Or.inr (Or.inl (dec_lt k208.1 (by decide))))
      have r225 : SG 139 139 0 5 g220 := by rw [← eg220]; exact i193.up (Int.le_trans (by decide) k208.1) (Or.inr (Or.inl (dec_lt k208.1 (by decide))))
      have r226 : SG 153 153 0 44 g220 := by rw [← eg220]; exact i194.up (Int.le_trans (by decide) k208.1) (Or.inr (Or.inl (dec_lt k208.1 (by decide))))
      have r227 : SG 44 55 0 9 g220 := by rw [← eg220]; exact i195.up (Int.le_trans (by decide) k208.1) (Or.inr (Or.inl (dec_lt k208.1 (by decide))))
      have r228 : SG 5 5 0 12 g220 := by rw [← eg220]; exact i196.up (Int.le_trans (by decide) k208.1) (Or.inr (Or.inl (dec_lt k208.1 (by decide))))
      have r229 : SG 6 6 0 12 g220 := by rw [← eg220]; exact i197.up (Int.le_trans (by decide) k208.1) (Or.inr (Or.inl (dec_lt k208.1 (by decide))))
      have r230 : SG 7 7 0 6 g220 := by rw [← eg220]; exact i198.up (Int.le_trans (by decide) k208.1) (Or.inr (Or.inl (dec_lt k208.1 (by decide))))
      refine iast_g hx hb hK hP hD hS 0 0 rfl rfl (ix_k k208 (by decide) (by decide)) eg220 dX10_sentence_171 (fun H locs hP hD hS => ?_)
      have hP : va_P D vwCl [(h_s, .inl (cI, 335, .inl g220)), (h_read, .inl (cI, 135, .inl w91)), (h_names, .inl (cJ, 36, .inr (.inl f_names))), (h_reserved, .inl (cJ, 23, .inr (.inl f_reserved))), (h_stack, .inl (cI, 45, .inl w92)), (h0, .inr (10, vL 67 G93)), (h_tape, .inl (cB, 940, .inl f_tape))] H := hP
      have hD : va_D A [(h_s, .inl (cI, 335, .inl g220)), (h_read, .inl (cI, 135, .inl w91)), (h_names, .inl (cJ, 36, .inr (.inl f_names))), (h_reserved, .inl (cJ, 23, .inr (.inl f_reserved))), (h_stack, .inl (cI, 45, .inl w92)), (h0, .inr (10, vL 67 G93)), (h_tape, .inl (cB, 940, .inl f_tape))] := hD
      obtain ⟨v231, ev231⟩ : ∃ z : Int32, z = u186 + 1 := ⟨_, rfl⟩
      have bv231 : v231.toInt = u186.toInt + 1 := by rw [ev231]; exact add_k rfl rfl k205 ⟨Int.le_refl _, Int.le_refl _⟩ (by decide)
      have k232 : 1 ≤ v231.toInt ∧ v231.toInt ≤ 135 := add_r bv231 k205 ⟨Int.le_refl _, Int.le_refl _⟩ (by decide)
      refine lv_iinc (v := v231) (lv' := [(2, .int v231), (1, .int u90), (0, .ref h0)]) hx hb dX10_sentence_172 hl (k := 0) rfl (by rw [ev231]; rfl) (by decide) rfl (fun ls hl => ?_)
      refine lv_goto (tgt := 146) hx hb dX10_sentence_175 (by decide) ?_
      exact ih_146 (v231, g220) ⟨(ir_wk k232 (by decide) (by decide)), r221, r222, r223, r224, r225, r226, r227, r228, r229, r230, (show (g220 153).toInt = u102.toInt from (u153 i199 eg220 (by omega))), (show CPY g220 154 w91 0 (v231.toInt) from (CPY.step i200 eg220 ev219 (by omega) (by omega) (by omega)))⟩ (by show (135 - v231.toInt).toNat < (135 - u186.toInt).toNat; omega) _ _ _ hP hD hS (lv_sub hl [0, 1, 2] rfl)
  · have dc162 : u90.toInt ≠ 0 := ne_i (a := u90.toInt) (b := 0) rfl rfl c162
    have k233 : 1 ≤ u90.toInt ∧ u90.toInt ≤ 1 := ⟨ne_lo dc162 i137.1 ⟨Int.le_refl _, Int.le_refl _⟩ (by decide), i137.2⟩
    refine lv_aload_n hx hb dX10_sentence_52 rfl (lv_at hl 1 rfl) ?_
    refine get_f (D := D) (ci := 10) (v := .int u106) (C := RX10) (T := TX10) (N := 67) hx hb hw inAX10 hown hK hP 5 rfl rfl 62 (by decide) (hw _ q_1323) (fun _ h9 => h9) i151 dX10_sentence_53 ?_
    refine lv_if_eq (tgt := 101) hx hb dX10_sentence_56 (by decide) (fun c234 => ?_) (fun c234 => ?_)
    · have dc234 : u106.toInt = 0 := eq_i (a := u106.toInt) (b := 0) rfl rfl c234
      have k235 : 0 ≤ u106.toInt ∧ u106.toInt ≤ 0 := ⟨i157.1, Int.le_trans (Int.le_of_eq dc234) (Int.le_refl _)⟩
      refine lv_aload_n hx hb dX10_sentence_101 rfl (lv_at hl 1 rfl) ?_
      refine get_f (D := D) (ci := 10) (v := .int u106) (C := RX10) (T := TX10) (N := 67) hx hb hw inAX10 hown hK hP 5 rfl rfl 62 (by decide) (hw _ q_1323) (fun _ h9 => h9) i151 dX10_sentence_102 ?_
      refine lv_if_eq (tgt := 118) hx hb dX10_sentence_105 (by decide) (fun c236 => ?_) (fun c236 => False.elim (bad_ne (ne_i (a := u106.toInt) (b := 0) rfl rfl c236) k235 ⟨Int.le_refl _, Int.le_refl _⟩ (by decide)))
      have dc236 : u106.toInt = 0 := eq_i (a := u106.toInt) (b := 0) rfl rfl c236
      refine lv_aload_n hx hb dX10_sentence_118 rfl (lv_at hl 1 rfl) ?_
      have n237 : F68 1 = .ref h_tape := (SAME.at t75 (by decide) n24)
      have n238 : G93 1 = .ref h_tape := (SAME.at i138 (by decide) n237)
      have n239 : F68 3 = .int x_length := (SAME.at t75 (by decide) n30)
      have n240 : G93 3 = .int x_length := (SAME.at i138 (by decide) n239)
      have n241 : F68 5 = .int 200 := (SAME.at t75 (by decide) n42)
      have n242 : G93 5 = .int 200 := (SAME.at i138 (by decide) n241)
      have n243 : F1 6 = .ref h_s := (get_ne eF1 (by decide) e_s)
      have n244 : F4 6 = .ref h_s := (SAME.at t5 (by decide) n243)
      have n245 : F11 6 = .ref h_s := (get_ne eF11 (by decide) n244)
      have n246 : F12 6 = .ref h_s := (get_ne eF12 (by decide) n245)
      have n247 : F13 6 = .ref h_s := (get_ne eF13 (by decide) n246)
      have n248 : F14 6 = .ref h_s := (get_ne eF14 (by decide) n247)
      have n249 : F15 6 = .ref h_s := (get_ne eF15 (by decide) n248)
      have n250 : F16 6 = .ref h_s := (get_ne eF16 (by decide) n249)
      have n251 : F68 6 = .ref h_s := (SAME.at t75 (by decide) n250)
      have n252 : G93 6 = .ref h_s := (SAME.at i138 (by decide) n251)
      have n253 : F1 8 = .ref h_read := (get_ne eF1 (by decide) e_read)
      have n254 : F4 8 = .ref h_read := (SAME.at t5 (by decide) n253)
      have n255 : F11 8 = .ref h_read := (get_ne eF11 (by decide) n254)
      have n256 : F12 8 = .ref h_read := (get_ne eF12 (by decide) n255)
      have n257 : F13 8 = .ref h_read := (get_ne eF13 (by decide) n256)
      have n258 : F14 8 = .ref h_read := (get_ne eF14 (by decide) n257)
      have n259 : F15 8 = .ref h_read := (get_ne eF15 (by decide) n258)
      have n260 : F16 8 = .ref h_read := (get_ne eF16 (by decide) n259)
      have n261 : F68 8 = .ref h_read := (SAME.at t75 (by decide) n260)
      have n262 : G93 8 = .ref h_read := (SAME.at i138 (by decide) n261)
      have n263 : F1 9 = .ref h_names := (get_ne eF1 (by decide) e_names)
      have n264 : F4 9 = .ref h_names := (SAME.at t5 (by decide) n263)
      have n265 : F11 9 = .ref h_names := (get_ne eF11 (by decide) n264)
      have n266 : F12 9 = .ref h_names := (get_ne eF12 (by decide) n265)
      have n267 : F13 9 = .ref h_names := (get_ne eF13 (by decide) n266)
      have n268 : F14 9 = .ref h_names := (get_ne eF14 (by decide) n267)
      have n269 : F15 9 = .ref h_names := (get_ne eF15 (by decide) n268)
      have n270 : F16 9 = .ref h_names := (get_ne eF16 (by decide) n269)
      have n271 : F68 9 = .ref h_names := (SAME.at t75 (by decide) n270)
      have n272 : G93 9 = .ref h_names := (SAME.at i138 (by decide) n271)
      have n273 : F1 10 = .ref h_reserved := (get_ne eF1 (by decide) e_reserved)
      have n274 : F4 10 = .ref h_reserved := (SAME.at t5 (by decide) n273)
      have n275 : F11 10 = .ref h_reserved := (get_ne eF11 (by decide) n274)
      have n276 : F12 10 = .ref h_reserved := (get_ne eF12 (by decide) n275)
      have n277 : F13 10 = .ref h_reserved := (get_ne eF13 (by decide) n276)
      have n278 : F14 10 = .ref h_reserved := (get_ne eF14 (by decide) n277)
      have n279 : F15 10 = .ref h_reserved := (get_ne eF15 (by decide) n278)
      have n280 : F16 10 = .ref h_reserved := (get_ne eF16 (by decide) n279)
      have n281 : F68 10 = .ref h_reserved := (SAME.at t75 (by decide) n280)
      have n282 : G93 10 = .ref h_reserved := (SAME.at i138 (by decide) n281)
      have n283 : F1 57 = .ref h_stack := (get_ne eF1 (by decide) e_stack)
      have n284 : F4 57 = .ref h_stack := (SAME.at t5 (by decide) n283)
      have n285 : F11 57 = .ref h_stack := (get_ne eF11 (by decide) n284)
      have n286 : F12 57 = .ref h_stack := (get_ne eF12 (by decide) n285)
      have n287 : F13 57 = .ref h_stack := (get_ne eF13 (by decide) n286)
      have n288 : F14 57 = .ref h_stack := (get_ne eF14 (by decide) n287)
      have n289 : F15 57 = .ref h_stack := (get_ne eF15 (by decide) n288)
      have n290 : F16 57 = .ref h_stack := (get_ne eF16 (by decide) n289)
      have n291 : F68 57 = .ref h_stack := (SAME.at t75 (by decide) n290)
      have n292 : G93 57 = .ref h_stack := (SAME.at i138 (by decide) n291)
      refine call_Vi (wr := []) (As := []) (rest := []) hx hb hml hown hw (m_X10_operand l D cI cJ cB cP cM cZ h0 h_tape h_s h_read h_names h_reserved h_stack G93 x_length u94 200 u95 u96 u97 u98 u99 u100 u101 u102 u103 u104 u105 u106 f_tape f_s w91 f_names f_reserved w92 _ n238 n240 i_x_length i139 i152 n242 (show 200 ≤ (200 : Int32).toInt ∧ (200 : Int32).toInt ≤ 940 by decide) n252 n262 n272 n282 i140 i153 i141 i142 i143 i144 i145 i146 n292 i147 i154 i148 i155 i149 i156 i150 i151 (ir_wk k235 (by decide) (by decide)) s_s_K0 s_s_0 s_s_105 s_s_114 s_s_130 s_s_139 s_s_153 s_s_44 s_s_5 s_s_6 s_s_7 (by omega) (SMI.w i158 (by omega)) (by omega) (by omega)) wV_X10_472_X10_operand dX10_sentence_119 hK hP hD hS hA [5, 6, 0, 1, 2, 3, 4] [] rfl rfl (by decide) (by decide) (by decide) 0 10 rfl rfl GG.fb hG.at hl.1 rfl (Nat.le_of_ble_eq_true rfl) ⟨(Nat.le_of_ble_eq_true rfl), (Nat.le_of_ble_eq_true rfl)⟩ ⟨(Nat.le_of_ble_eq_true rfl), (Nat.le_of_ble_eq_true rfl)⟩ (fun r293 u H locs hp hP hD hS => ?_)
      refine hp.elim (fun F294 h9z0 => h9z0.elim (fun y295 h9z1 => h9z1.elim (fun y296 h9z2 => h9z2.elim (fun y297 h9z3 => h9z3.elim (fun y298 h9z4 => h9z4.elim (fun y299 h9z5 => h9z5.elim (fun y300 h9z6 => h9z6.elim (fun y301 h9z7 => h9z7.elim (fun y302 h9z8 => h9z8.elim (fun y303 h9z9 => h9z9.elim (fun y304 h9z10 => h9z10.elim (fun y305 h9z11 => h9z11.elim (fun y306 h9z12 => h9z12.elim (fun y307 h9z13 => h9z13.elim (fun g308 h9z14 => h9z14.elim (fun g309 h9z15 => h9z15.elim (fun t310 h9z16 => h9z16.elim (fun t311 h9z17 => h9z17.elim (fun t312 h9z18 => h9z18.elim (fun t313 h9z19 => h9z19.elim (fun t314 h9z20 => h9z20.elim (fun t315 h9z21 => h9z21.elim (fun t316 h9z22 => h9z22.elim (fun t317 h9z23 => h9z23.elim (fun t318 h9z24 => h9z24.elim (fun t319 h9z25 => h9z25.elim (fun t320 h9z26 => h9z26.elim (fun t321 h9z27 => h9z27.elim (fun t322 h9z28 => h9z28.elim (fun t323 h9z29 => h9z29.elim (fun t324 h9z30 => h9z30.elim (fun t325 h9z31 => h9z31.elim (fun t326 h9z32 => h9z32.elim (fun t327 h9z33 => h9z33.elim (fun t328 h9z34 => h9z34.elim (fun t329 h9z35 => h9z35.elim (fun t330 h9z36 => h9z36.elim (fun t331 h9z37 => h9z37.elim (fun t332 h9z38 => h9z38.elim (fun t333 h9z39 => h9z39.elim (fun t334 h9z40 => ?_)))))))))))))))))))))))))))))))))))))))))
      clear h9z0 h9z1 h9z2 h9z3 h9z4 h9z5 h9z6 h9z7 h9z8 h9z9 h9z10 h9z11 h9z12 h9z13 h9z14 h9z15 h9z16 h9z17 h9z18 h9z19 h9z20 h9z21 h9z22 h9z23 h9z24 h9z25 h9z26 h9z27 h9z28 h9z29 h9z30 h9z31 h9z32 h9z33 h9z34 h9z35 h9z36 h9z37 h9z38 h9z39
      subst h9z40
      clear t87 t88
      have hP : va_P D vwCl [(h0, .inr (10, vL 67 F294)), (h_tape, .inl (cB, 940, .inl f_tape)), (h_s, .inl (cI, 335, .inl f_s)), (h_read, .inl (cI, 135, .inl g308)), (h_names, .inl (cJ, 36, .inr (.inl f_names))), (h_reserved, .inl (cJ, 23, .inr (.inl f_reserved))), (h_stack, .inl (cI, 45, .inl g309))] H := hP
      have hD : va_D A [(h0, .inr (10, vL 67 F294)), (h_tape, .inl (cB, 940, .inl f_tape)), (h_s, .inl (cI, 335, .inl f_s)), (h_read, .inl (cI, 135, .inl g308)), (h_names, .inl (cJ, 36, .inr (.inl f_names))), (h_reserved, .inl (cJ, 23, .inr (.inl f_reserved))), (h_stack, .inl (cI, 45, .inl g309))] := hD
      refine W.widen (k := 0) (n := 0) (Nat.le_of_ble_eq_true rfl) (Nat.le_of_ble_eq_true rfl) ?_
      refine lv_if_ne (tgt := 48) hx hb dX10_sentence_122 (by decide) (fun c336 => ?_) (fun c336 => ?_)
      · have dc336 : r293.toInt ≠ 0 := ne_i (a := r293.toInt) (b := 0) rfl rfl c336
        have k337 : 1 ≤ r293.toInt ∧ r293.toInt ≤ 1 := ⟨ne_lo dc336 t330.1 ⟨Int.le_refl _, Int.le_refl _⟩ (by decide), t330.2⟩
        exact ih (u90, g308, g309, F294, y295, y296, y297, y298, y299, y300, y301, y302, y303, y304, y305, y306, y307) ⟨(ir_wk k233 (by decide) (by decide)), (SAME.tr (SAME.tr SAME.rf i138 (by decide)) t310 (by decide)), t311, t313, t315, t316, t317, t318, t319, t320, t321, t323, t325, t327, t328, t312, t314, t322, t324, t326, t329, (show SMI g308 g309 y303.toInt y305.toInt y307.toInt from (t332 (by omega))), (by show (u90.toInt = 0 → y305.toInt = 0 ∧ y307.toInt = 1); omega), (by show (y296.toInt = 2 → 0 ≤ y299.toInt ∧ y299.toInt ≤ 999); omega), (by show y305.toInt + y303.toInt + y307.toInt ≤ 2 * y304.toInt; omega)⟩ (by show (3 * (940 - y295.toInt) + min y296.toInt (4 - y296.toInt) + u90.toInt).toNat < (3 * (940 - u94.toInt) + min u95.toInt (4 - u95.toInt) + u90.toInt).toNat; omega) _ _ _ (hP.sub [2, 3, 4, 5, 6, 0, 1] rfl) (hD.sub [2, 3, 4, 5, 6, 0, 1] (by decide) rfl) hS (lv_sub hl [0, 1] rfl)
      · have dc336 : r293.toInt = 0 := eq_i (a := r293.toInt) (b := 0) rfl rfl c336
        have k338 : 0 ≤ r293.toInt ∧ r293.toInt ≤ 0 := ⟨t330.1, Int.le_trans (Int.le_of_eq dc336) (Int.le_refl _)⟩
        refine lv_iconst (v := (-1)) hx hb dX10_sentence_125 (by decide) ?_
        refine lv_aload_n hx hb dX10_sentence_126 rfl (lv_at hl 1 rfl) ?_
        refine get_f (D := D) (ci := 10) (v := .int y301) (C := RX10) (T := TX10) (N := 67) hx hb hw inAX10 hown hK hP 0 rfl rfl 16 (by decide) (hw _ q_1277) (fun _ h9 => h9) t319 dX10_sentence_127 ?_
        refine lv_isub hx hb dX10_sentence_130 ?_
        refine lv_topi (fun v339 ev339 => ?_)
        have bv339 : v339.toInt = (-1) - y301.toInt := by rw [ev339]; exact sub_k rfl rfl ⟨Int.le_refl _, Int.le_refl _⟩ (ir_any _) (by decide)
        have k340 : (-2147483648) ≤ v339.toInt ∧ v339.toInt ≤ 2147483647 := sub_r bv339 ⟨Int.le_refl _, Int.le_refl _⟩ (ir_any _) (by decide)
        exact ret_i (v := v339) hx hb hr hlocks hS hP hD dX10_sentence_131 rfl (Nat.le_of_ble_eq_true rfl) (Nat.le_of_ble_eq_true rfl) ⟨F294, y295, y296, y297, y298, y299, y300, y301, y302, y303, y304, y305, y306, y307, f_s, g308, g309, (SAME.tr (SAME.tr (SAME.tr (SAME.up eF16 (SAME.up eF15 (SAME.up eF14 (SAME.up eF13 (SAME.up eF12 (SAME.up eF11 (SAME.tr (SAME.up eF1 SAME.rf (by decide)) t5 (by decide)) (by decide)) (by decide)) (by decide)) (by decide)) (by decide)) (by decide)) t75 (by decide)) i138 (by decide)) t310 (by decide)), (SAME.at t310 (by decide) (SAME.at i138 (by decide) (SAME.at t75 (by decide) (get_ne eF16 (by decide) (get_ne eF15 (by decide) (get_ne eF14 (by decide) (get_ne eF13 (by decide) (get_ne eF12 (by decide) (get_ne eF11 (by decide) (SAME.at t5 (by decide) (get_eq eF1))))))))))), (SAME.at t310 (by decide) (SAME.at i138 (by decide) (SAME.at t75 (by decide) (get_ne eF16 (by decide) (get_ne eF15 (by decide) (get_ne eF14 (by decide) (get_ne eF13 (by decide) (get_ne eF12 (by decide) (get_ne eF11 (by decide) t6))))))))), (SAME.at t310 (by decide) n240), t311, t312, (SAME.at t310 (by decide) n242), t313, t314, t315, t316, t317, t318, t319, t320, t321, t322, t323, t324, t325, t326, t327, t328, t329, s_s_153, s_s_0, s_s_5, s_s_6, s_s_7, s_s_44, s_s_K0, s_s_105, s_s_114, s_s_130, s_s_139, (by omega), (by omega), rfl⟩
    · have dc234 : u106.toInt ≠ 0 := ne_i (a := u106.toInt) (b := 0) rfl rfl c234
      have k341 : 1 ≤ u106.toInt ∧ u106.toInt ≤ 1 := ⟨ne_lo dc234 i157.1 ⟨Int.le_refl _, Int.le_refl _⟩ (by decide), i157.2⟩
      refine lv_aload_n hx hb dX10_sentence_59 rfl (lv_at hl 1 rfl) ?_
      refine get_f (D := D) (ci := 10) (v := .int u95) (C := RX10) (T := TX10) (N := 67) hx hb hw inAX10 hown hK hP 5 rfl rfl 11 (by decide) (hw _ q_1272) (fun _ h9 => h9) i140 dX10_sentence_60 ?_
      refine lv_if_ne (tgt := 101) hx hb dX10_sentence_63 (by decide) (fun c342 => ?_) (fun c342 => ?_)
      · have dc342 : u95.toInt ≠ 0 := ne_i (a := u95.toInt) (b := 0) rfl rfl c342
        have k343 : 1 ≤ u95.toInt ∧ u95.toInt ≤ 4 := ⟨ne_lo dc342 i153.1 ⟨Int.le_refl _, Int.le_refl _⟩ (by decide), i153.2⟩
        refine lv_aload_n hx hb dX10_sentence_101 rfl (lv_at hl 1 rfl) ?_
        refine get_f (D := D) (ci := 10) (v := .int u106) (C := RX10) (T := TX10) (N := 67) hx hb hw inAX10 hown hK hP 5 rfl rfl 62 (by decide) (hw _ q_1323) (fun _ h9 => h9) i151 dX10_sentence_102 ?_
        refine lv_if_eq (tgt := 118) hx hb dX10_sentence_105 (by decide) (fun c344 => False.elim (bad_le (Int.le_of_eq (eq_i (a := u106.toInt) (b := 0) rfl rfl c344)) k341.1 (Int.le_refl _) (by decide))) (fun c344 => ?_)
        have dc344 : u106.toInt ≠ 0 := ne_i (a := u106.toInt) (b := 0) rfl rfl c344
        refine lv_aload_n hx hb dX10_sentence_108 rfl (lv_at hl 1 rfl) ?_
        have n345 : F68 1 = .ref h_tape := (SAME.at t75 (by decide) n24)
        have n346 : G93 1 = .ref h_tape := (SAME.at i138 (by decide) n345)
        have n347 : F68 3 = .int x_length := (SAME.at t75 (by decide) n30)
        have n348 : G93 3 = .int x_length := (SAME.at i138 (by decide) n347)
        have n349 : F68 5 = .int 200 := (SAME.at t75 (by decide) n42)
        have n350 : G93 5 = .int 200 := (SAME.at i138 (by decide) n349)
        have n351 : F1 8 = .ref h_read := (get_ne eF1 (by decide) e_read)
        have n352 : F4 8 = .ref h_read := (SAME.at t5 (by decide) n351)
        have n353 : F11 8 = .ref h_read := (get_ne eF11 (by decide) n352)
        have n354 : F12 8 = .ref h_read := (get_ne eF12 (by decide) n353)
        have n355 : F13 8 = .ref h_read := (get_ne eF13 (by decide) n354)
        have n356 : F14 8 = .ref h_read := (get_ne eF14 (by decide) n355)
        have n357 : F15 8 = .ref h_read := (get_ne eF15 (by decide) n356)
        have n358 : F16 8 = .ref h_read := (get_ne eF16 (by decide) n357)
        have n359 : F68 8 = .ref h_read := (SAME.at t75 (by decide) n358)
        have n360 : G93 8 = .ref h_read := (SAME.at i138 (by decide) n359)
        have n361 : F1 57 = .ref h_stack := (get_ne eF1 (by decide) e_stack)
        have n362 : F4 57 = .ref h_stack := (SAME.at t5 (by decide) n361)
        have n363 : F11 57 = .ref h_stack := (get_ne eF11 (by decide) n362)
        have n364 : F12 57 = .ref h_stack := (get_ne eF12 (by decide) n363)
        have n365 : F13 57 = .ref h_stack := (get_ne eF13 (by decide) n364)
        have n366 : F14 57 = .ref h_stack := (get_ne eF14 (by decide) n365)
        have n367 : F15 57 = .ref h_stack := (get_ne eF15 (by decide) n366)
        have n368 : F16 57 = .ref h_stack := (get_ne eF16 (by decide) n367)
        have n369 : F68 57 = .ref h_stack := (SAME.at t75 (by decide) n368)
        have n370 : G93 57 = .ref h_stack := (SAME.at i138 (by decide) n369)
        refine call_Vi (wr := [(h_s, .inl (cI, 335, .inl f_s)), (h_names, .inl (cJ, 36, .inr (.inl f_names))), (h_reserved, .inl (cJ, 23, .inr (.inl f_reserved)))]) (As := []) (rest := []) hx hb hml hown hw (m_X10_behind_ l D cI cJ cB cP cM cZ h0 h_tape h_read h_stack G93 x_length u94 200 u95 u96 u97 u98 u99 u100 u101 u102 u103 u104 u105 u106 f_tape w91 w92 _ n346 n348 i_x_length i139 i152 n350 (show 200 ≤ (200 : Int32).toInt ∧ (200 : Int32).toInt ≤ 940 by decide) n360 i140 (ir_wk k343 (by decide) (by decide)) i141 i142 i143 i144 i145 i146 n370 i147 i154 i148 i155 i149 i156 i150 i151 (ir_wk k341 (by decide) (by decide)) (by omega) (SMI.w i158 (by omega)) (by omega) (by omega)) wV_X10_469_X10_behind_ dX10_sentence_109 hK hP hD hS hA [5, 6, 1, 4] [0, 2, 3] rfl rfl (by decide) (by decide) (by decide) 0 10 rfl rfl GG.fb hG.at hl.1 rfl (Nat.le_of_ble_eq_true rfl) ⟨(Nat.le_of_ble_eq_true rfl), (Nat.le_of_ble_eq_true rfl)⟩ ⟨(Nat.le_of_ble_eq_true rfl), (Nat.le_of_ble_eq_true rfl)⟩ (fun r371 u H locs hp hP hD hS => ?_)
        refine hp.elim (fun F372 h9z0 => h9z0.elim (fun y373 h9z1 => h9z1.elim (fun y374 h9z2 => h9z2.elim (fun y375 h9z3 => h9z3.elim (fun y376 h9z4 => h9z4.elim (fun y377 h9z5 => h9z5.elim (fun y378 h9z6 => h9z6.elim (fun y379 h9z7 => h9z7.elim (fun y380 h9z8 => h9z8.elim (fun y381 h9z9 => h9z9.elim (fun y382 h9z10 => h9z10.elim (fun y383 h9z11 => h9z11.elim (fun y384 h9z12 => h9z12.elim (fun g385 h9z13 => h9z13.elim (fun g386 h9z14 => h9z14.elim (fun t387 h9z15 => h9z15.elim (fun t388 h9z16 => h9z16.elim (fun t389 h9z17 => h9z17.elim (fun t390 h9z18 => h9z18.elim (fun t391 h9z19 => h9z19.elim (fun t392 h9z20 => h9z20.elim (fun t393 h9z21 => h9z21.elim (fun t394 h9z22 => h9z22.elim (fun t395 h9z23 => h9z23.elim (fun t396 h9z24 => h9z24.elim (fun t397 h9z25 => h9z25.elim (fun t398 h9z26 => h9z26.elim (fun t399 h9z27 => h9z27.elim (fun t400 h9z28 => h9z28.elim (fun t401 h9z29 => h9z29.elim (fun t402 h9z30 => h9z30.elim (fun t403 h9z31 => h9z31.elim (fun t404 h9z32 => h9z32.elim (fun t405 h9z33 => h9z33.elim (fun t406 h9z34 => h9z34.elim (fun t407 h9z35 => h9z35.elim (fun t408 h9z36 => h9z36.elim (fun t409 h9z37 => ?_))))))))))))))))))))))))))))))))))))))
        clear h9z0 h9z1 h9z2 h9z3 h9z4 h9z5 h9z6 h9z7 h9z8 h9z9 h9z10 h9z11 h9z12 h9z13 h9z14 h9z15 h9z16 h9z17 h9z18 h9z19 h9z20 h9z21 h9z22 h9z23 h9z24 h9z25 h9z26 h9z27 h9z28 h9z29 h9z30 h9z31 h9z32 h9z33 h9z34 h9z35 h9z36
        subst h9z37
        clear t87 t88
        have hP : va_P D vwCl [(h_s, .inl (cI, 335, .inl f_s)), (h_names, .inl (cJ, 36, .inr (.inl f_names))), (h_reserved, .inl (cJ, 23, .inr (.inl f_reserved))), (h0, .inr (10, vL 67 F372)), (h_tape, .inl (cB, 940, .inl f_tape)), (h_read, .inl (cI, 135, .inl g385)), (h_stack, .inl (cI, 45, .inl g386))] H := hP
        have hD : va_D A [(h_s, .inl (cI, 335, .inl f_s)), (h_names, .inl (cJ, 36, .inr (.inl f_names))), (h_reserved, .inl (cJ, 23, .inr (.inl f_reserved))), (h0, .inr (10, vL 67 F372)), (h_tape, .inl (cB, 940, .inl f_tape)), (h_read, .inl (cI, 135, .inl g385)), (h_stack, .inl (cI, 45, .inl g386))] := hD
        refine W.widen (k := 0) (n := 0) (Nat.le_of_ble_eq_true rfl) (Nat.le_of_ble_eq_true rfl) ?_
        refine lv_if_ne (tgt := 48) hx hb dX10_sentence_112 (by decide) (fun c411 => ?_) (fun c411 => ?_)
        · have dc411 : r371.toInt ≠ 0 := ne_i (a := r371.toInt) (b := 0) rfl rfl c411
          have k412 : 1 ≤ r371.toInt ∧ r371.toInt ≤ 1 := ⟨ne_lo dc411 t405.1 ⟨Int.le_refl _, Int.le_refl _⟩ (by decide), t405.2⟩
          have n413 : F372 59 = .int u103 := (SAME.at t387 (by decide) i148)
          exact ih (u90, g385, g386, F372, y373, y374, y375, y376, y377, y378, y379, y380, y381, u103, y382, y383, y384) ⟨(ir_wk k233 (by decide) (by decide)), (SAME.tr (SAME.tr SAME.rf i138 (by decide)) t387 (by decide)), t388, t390, t392, t393, t394, t395, t396, t397, t398, n413, t400, t402, t403, t389, t391, t399, i155, t401, t404, (show SMI g385 g386 y381.toInt y382.toInt y384.toInt from (t407 (by omega))), (by show (u90.toInt = 0 → y382.toInt = 0 ∧ y384.toInt = 1); omega), (by show (y374.toInt = 2 → 0 ≤ y377.toInt ∧ y377.toInt ≤ 999); omega), (by show y382.toInt + y381.toInt + y384.toInt ≤ 2 * u103.toInt; omega)⟩ (by show (3 * (940 - y373.toInt) + min y374.toInt (4 - y374.toInt) + u90.toInt).toNat < (3 * (940 - u94.toInt) + min u95.toInt (4 - u95.toInt) + u90.toInt).toNat; omega) _ _ _ (hP.sub [0, 5, 1, 2, 6, 3, 4] rfl) (hD.sub [0, 5, 1, 2, 6, 3, 4] (by decide) rfl) hS (lv_sub hl [0, 1] rfl)
        · have dc411 : r371.toInt = 0 := eq_i (a := r371.toInt) (b := 0) rfl rfl c411
          have k414 : 0 ≤ r371.toInt ∧ r371.toInt ≤ 0 := ⟨t405.1, Int.le_trans (Int.le_of_eq dc411) (Int.le_refl _)⟩
          refine lv_goto (tgt := 125) hx hb dX10_sentence_115 (by decide) ?_
          refine lv_iconst (v := (-1)) hx hb dX10_sentence_125 (by decide) ?_
          refine lv_aload_n hx hb dX10_sentence_126 rfl (lv_at hl 1 rfl) ?_
          refine get_f (D := D) (ci := 10) (v := .int y379) (C := RX10) (T := TX10) (N := 67) hx hb hw inAX10 hown hK hP 3 rfl rfl 16 (by decide) (hw _ q_1277) (fun _ h9 => h9) t396 dX10_sentence_127 ?_
          refine lv_isub hx hb dX10_sentence_130 ?_
          refine lv_topi (fun v415 ev415 => ?_)
          have bv415 : v415.toInt = (-1) - y379.toInt := by rw [ev415]; exact sub_k rfl rfl ⟨Int.le_refl _, Int.le_refl _⟩ (ir_any _) (by decide)
          have k416 : (-2147483648) ≤ v415.toInt ∧ v415.toInt ≤ 2147483647 := sub_r bv415 ⟨Int.le_refl _, Int.le_refl _⟩ (ir_any _) (by decide)
          exact ret_i (v := v415) hx hb hr hlocks hS (hP.sub (ws' := [(h0, .inr (10, vL 67 F372)), (h_tape, .inl (cB, 940, .inl f_tape)), (h_s, .inl (cI, 335, .inl f_s)), (h_read, .inl (cI, 135, .inl g385)), (h_names, .inl (cJ, 36, .inr (.inl f_names))), (h_reserved, .inl (cJ, 23, .inr (.inl f_reserved))), (h_stack, .inl (cI, 45, .inl g386))]) [3, 4, 0, 5, 1, 2, 6] rfl) (hD.sub (ws' := [(h0, .inr (10, vL 67 F372)), (h_tape, .inl (cB, 940, .inl f_tape)), (h_s, .inl (cI, 335, .inl f_s)), (h_read, .inl (cI, 135, .inl g385)), (h_names, .inl (cJ, 36, .inr (.inl f_names))), (h_reserved, .inl (cJ, 23, .inr (.inl f_reserved))), (h_stack, .inl (cI, 45, .inl g386))]) [3, 4, 0, 5, 1, 2, 6] (by decide) rfl) dX10_sentence_131 rfl (Nat.le_of_ble_eq_true rfl) (Nat.le_of_ble_eq_true rfl) ⟨F372, y373, y374, y375, y376, y377, y378, y379, y380, y381, u103, y382, y383, y384, f_s, g385, g386, (SAME.tr (SAME.tr (SAME.tr (SAME.up eF16 (SAME.up eF15 (SAME.up eF14 (SAME.up eF13 (SAME.up eF12 (SAME.up eF11 (SAME.tr (SAME.up eF1 SAME.rf (by decide)) t5 (by decide)) (by decide)) (by decide)) (by decide)) (by decide)) (by decide)) (by decide)) t75 (by decide)) i138 (by decide)) t387 (by decide)), (SAME.at t387 (by decide) (SAME.at i138 (by decide) (SAME.at t75 (by decide) (get_ne eF16 (by decide) (get_ne eF15 (by decide) (get_ne eF14 (by decide) (get_ne eF13 (by decide) (get_ne eF12 (by decide) (get_ne eF11 (by decide) (SAME.at t5 (by decide) (get_eq eF1))))))))))), (SAME.at t387 (by decide) (SAME.at i138 (by decide) (SAME.at t75 (by decide) (get_ne eF16 (by decide) (get_ne eF15 (by decide) (get_ne eF14 (by decide) (get_ne eF13 (by decide) (get_ne eF12 (by decide) (get_ne eF11 (by decide) t6))))))))), (SAME.at t387 (by decide) n348), t388, t389, (SAME.at t387 (by decide) n350), t390, t391, t392, t393, t394, t395, t396, t397, t398, t399, (SAME.at t387 (by decide) i148), i155, t400, t401, t402, t403, t404, s_s_153, s_s_0, s_s_5, s_s_6, s_s_7, s_s_44, s_s_K0, s_s_105, s_s_114, s_s_130, s_s_139, (by omega), (by omega), rfl⟩
      · have dc342 : u95.toInt = 0 := eq_i (a := u95.toInt) (b := 0) rfl rfl c342
        have k417 : 0 ≤ u95.toInt ∧ u95.toInt ≤ 0 := ⟨i153.1, Int.le_trans (Int.le_of_eq dc342) (Int.le_refl _)⟩
        refine lv_aload_n hx hb dX10_sentence_66 rfl (lv_at hl 1 rfl) ?_
        have n418 : F1 8 = .ref h_read := (get_ne eF1 (by decide) e_read)
        have n419 : F4 8 = .ref h_read := (SAME.at t5 (by decide) n418)
        have n420 : F11 8 = .ref h_read := (get_ne eF11 (by decide) n419)
        have n421 : F12 8 = .ref h_read := (get_ne eF12 (by decide) n420)
        have n422 : F13 8 = .ref h_read := (get_ne eF13 (by decide) n421)
        have n423 : F14 8 = .ref h_read := (get_ne eF14 (by decide) n422)
        have n424 : F15 8 = .ref h_read := (get_ne eF15 (by decide) n423)
        have n425 : F16 8 = .ref h_read := (get_ne eF16 (by decide) n424)
        have n426 : F68 8 = .ref h_read := (SAME.at t75 (by decide) n425)
        have n427 : G93 8 = .ref h_read := (SAME.at i138 (by decide) n426)
        have n428 : F1 57 = .ref h_stack := (get_ne eF1 (by decide) e_stack)
        have n429 : F4 57 = .ref h_stack := (SAME.at t5 (by decide) n428)
        have n430 : F11 57 = .ref h_stack := (get_ne eF11 (by decide) n429)
        have n431 : F12 57 = .ref h_stack := (get_ne eF12 (by decide) n430)
        have n432 : F13 57 = .ref h_stack := (get_ne eF13 (by decide) n431)
        have n433 : F14 57 = .ref h_stack := (get_ne eF14 (by decide) n432)
        have n434 : F15 57 = .ref h_stack := (get_ne eF15 (by decide) n433)
        have n435 : F16 57 = .ref h_stack := (get_ne eF16 (by decide) n434)
        have n436 : F68 57 = .ref h_stack := (SAME.at t75 (by decide) n435)
        have n437 : G93 57 = .ref h_stack := (SAME.at i138 (by decide) n436)
        refine call_Vv (wr := [(h_s, .inl (cI, 335, .inl f_s)), (h_names, .inl (cJ, 36, .inr (.inl f_names))), (h_reserved, .inl (cJ, 23, .inr (.inl f_reserved))), (h_tape, .inl (cB, 940, .inl f_tape))]) (As := []) (rest := []) hx hb hml hown hw (m_X10_nots l D cI cJ cB cP cM cZ h0 h_read h_stack G93 u102 u103 u104 u105 u106 w91 w92 _ n427 n437 i147 i154 i148 i155 i149 i156 i150 i151 (ir_wk k341 (by decide) (by decide)) (by omega) (SMI.w i158 (by omega)) (by omega)) wV_X10_463_X10_nots dX10_sentence_67 hK hP hD hS hA [5, 1, 4] [0, 2, 3, 6] rfl rfl (by decide) (by decide) (by decide) 0 10 rfl rfl GG.fb hG.at hl.1 rfl (Nat.le_of_ble_eq_true rfl) ⟨(Nat.le_of_ble_eq_true rfl), (Nat.le_of_ble_eq_true rfl)⟩ ⟨(Nat.le_of_ble_eq_true rfl), (Nat.le_of_ble_eq_true rfl)⟩ (fun u H locs hp hP hD hS => ?_)
        obtain ⟨F439, y440, y441, y442, g443, t444, t445, t446, t447, t448, t449, t450, t451, rfl⟩ := hp
        have hP : va_P D vwCl [(h_s, .inl (cI, 335, .inl f_s)), (h_names, .inl (cJ, 36, .inr (.inl f_names))), (h_reserved, .inl (cJ, 23, .inr (.inl f_reserved))), (h_tape, .inl (cB, 940, .inl f_tape)), (h0, .inr (10, vL 67 F439)), (h_read, .inl (cI, 135, .inl g443)), (h_stack, .inl (cI, 45, .inl w92))] H := hP
        have hD : va_D A [(h_s, .inl (cI, 335, .inl f_s)), (h_names, .inl (cJ, 36, .inr (.inl f_names))), (h_reserved, .inl (cJ, 23, .inr (.inl f_reserved))), (h_tape, .inl (cB, 940, .inl f_tape)), (h0, .inr (10, vL 67 F439)), (h_read, .inl (cI, 135, .inl g443)), (h_stack, .inl (cI, 45, .inl w92))] := hD
        refine W.widen (k := 0) (n := 0) (Nat.le_of_ble_eq_true rfl) (Nat.le_of_ble_eq_true rfl) ?_
        refine lv_aload_n hx hb dX10_sentence_70 rfl (lv_at hl 1 rfl) ?_
        refine lv_bipush (v := 22) hx hb dX10_sentence_71 (by decide) ?_
        have n453 : F439 8 = .ref h_read := (SAME.at t444 (by decide) n427)
        have n454 : F439 57 = .ref h_stack := (SAME.at t444 (by decide) n437)
        have n455 : F439 59 = .int u103 := (SAME.at t444 (by decide) i148)
        have n456 : F439 62 = .int u106 := (SAME.at t444 (by decide) i151)
        refine call_Vv (wr := [(h_s, .inl (cI, 335, .inl f_s)), (h_names, .inl (cJ, 36, .inr (.inl f_names))), (h_reserved, .inl (cJ, 23, .inr (.inl f_reserved))), (h_tape, .inl (cB, 940, .inl f_tape))]) (As := [.int 22]) (rest := []) hx hb hml hown hw (m_X10_joins l D cI cJ cB cP cM cZ h0 h_read h_stack F439 y440 u103 y441 u106 g443 w92 22 _ n453 n454 t445 t446 n455 i155 t447 t448 n456 (ir_wk k341 (by decide) (by decide)) (by omega) (SMI.w t450 (by omega)) (by omega)) wV_X10_466_X10_joins dX10_sentence_73 hK hP hD hS hA [4, 5, 6] [0, 1, 2, 3] rfl rfl (by decide) (by decide) (by decide) 0 10 rfl rfl GG.fb hG.at hl.1 rfl (Nat.le_of_ble_eq_true rfl) ⟨(Nat.le_of_ble_eq_true rfl), (Nat.le_of_ble_eq_true rfl)⟩ ⟨(Nat.le_of_ble_eq_true rfl), (Nat.le_of_ble_eq_true rfl)⟩ (fun u H locs hp hP hD hS => ?_)
        have zl22 : (22 : Int32).toInt = 22 := by decide
        obtain ⟨F458, y459, y460, g461, t462, t463, t464, t465, t466, t467, t468, t469, rfl⟩ := hp
        have hP : va_P D vwCl [(h_s, .inl (cI, 335, .inl f_s)), (h_names, .inl (cJ, 36, .inr (.inl f_names))), (h_reserved, .inl (cJ, 23, .inr (.inl f_reserved))), (h_tape, .inl (cB, 940, .inl f_tape)), (h0, .inr (10, vL 67 F458)), (h_read, .inl (cI, 135, .inl g461)), (h_stack, .inl (cI, 45, .inl w92))] H := hP
        have hD : va_D A [(h_s, .inl (cI, 335, .inl f_s)), (h_names, .inl (cJ, 36, .inr (.inl f_names))), (h_reserved, .inl (cJ, 23, .inr (.inl f_reserved))), (h_tape, .inl (cB, 940, .inl f_tape)), (h0, .inr (10, vL 67 F458)), (h_read, .inl (cI, 135, .inl g461)), (h_stack, .inl (cI, 45, .inl w92))] := hD
        refine W.widen (k := 0) (n := 0) (Nat.le_of_ble_eq_true rfl) (Nat.le_of_ble_eq_true rfl) ?_
        refine lv_aload_n hx hb dX10_sentence_76 rfl (lv_at hl 1 rfl) ?_
        refine get_f (D := D) (ci := 10) (v := .int y460) (C := RX10) (T := TX10) (N := 67) hx hb hw inAX10 hown hK hP 4 rfl rfl 60 (by decide) (hw _ q_1321) (fun _ h9 => h9) t465 dX10_sentence_77 ?_
        refine lv_if_le (tgt := 96) hx hb dX10_sentence_80 (by decide) (fun c471 => ?_) (fun c471 => ?_)
        · have dc471 : y460.toInt ≤ 0 := le_i (a := y460.toInt) (b := 0) rfl rfl c471
          have k472 : 0 ≤ y460.toInt ∧ y460.toInt ≤ 0 := ⟨t466.1, Int.le_trans dc471 (Int.le_refl _)⟩
          refine lv_iconst (v := 0) hx hb dX10_sentence_96 (by decide) ?_
          refine lv_istore_n (lv' := [(1, .int 0), (0, .ref h0)]) hx hb dX10_sentence_97 rfl hl (by decide) rfl (fun ls hl => ?_)
          refine lv_goto (tgt := 48) hx hb dX10_sentence_98 (by decide) ?_
          have n473 : F439 4 = .int u94 := (SAME.at t444 (by decide) i139)
          have n474 : F458 4 = .int u94 := (SAME.at t462 (by decide) n473)
          have n475 : F439 11 = .int u95 := (SAME.at t444 (by decide) i140)
          have n476 : F458 11 = .int u95 := (SAME.at t462 (by decide) n475)
          have n477 : F439 12 = .int u96 := (SAME.at t444 (by decide) i141)
          have n478 : F458 12 = .int u96 := (SAME.at t462 (by decide) n477)
          have n479 : F439 13 = .int u97 := (SAME.at t444 (by decide) i142)
          have n480 : F458 13 = .int u97 := (SAME.at t462 (by decide) n479)
          have n481 : F439 14 = .int u98 := (SAME.at t444 (by decide) i143)
          have n482 : F458 14 = .int u98 := (SAME.at t462 (by decide) n481)
          have n483 : F439 15 = .int u99 := (SAME.at t444 (by decide) i144)
          have n484 : F458 15 = .int u99 := (SAME.at t462 (by decide) n483)
          have n485 : F439 16 = .int u100 := (SAME.at t444 (by decide) i145)
          have n486 : F458 16 = .int u100 := (SAME.at t462 (by decide) n485)
          have n487 : F439 18 = .long u101 := (SAME.at t444 (by decide) i146)
          have n488 : F458 18 = .long u101 := (SAME.at t462 (by decide) n487)
          have n489 : F458 59 = .int u103 := (SAME.at t462 (by decide) n455)
          have n490 : F458 61 = .int y442 := (SAME.at t462 (by decide) t449)
          have n491 : F458 62 = .int u106 := (SAME.at t462 (by decide) n456)
          exact ih (0, g461, w92, F458, u94, u95, u96, u97, u98, u99, u100, u101, y459, u103, y460, y442, u106) ⟨(show 0 ≤ (0 : Int32).toInt ∧ (0 : Int32).toInt ≤ 1 by decide), (SAME.tr (SAME.tr (SAME.tr SAME.rf i138 (by decide)) t444 (by decide)) t462 (by decide)), n474, n476, n478, n480, n482, n484, n486, n488, t463, n489, t465, n490, n491, i152, (ir_wk k417 (by decide) (by decide)), t464, i155, (ir_wk k472 (by decide) (by decide)), (ir_wk k341 (by decide) (by decide)), (show SMI g461 w92 y459.toInt y460.toInt u106.toInt from (SMI.w t467 (by omega))), (by show (0 = 0 → y460.toInt = 0 ∧ u106.toInt = 1); omega), (by show (u95.toInt = 2 → 0 ≤ u98.toInt ∧ u98.toInt ≤ 999); omega), (by show y460.toInt + y459.toInt + u106.toInt ≤ 2 * u103.toInt; omega)⟩ (by show (3 * (940 - u94.toInt) + min u95.toInt (4 - u95.toInt) + 0).toNat < (3 * (940 - u94.toInt) + min u95.toInt (4 - u95.toInt) + u90.toInt).toNat; omega) _ _ _ (hP.sub [0, 5, 1, 2, 6, 4, 3] rfl) (hD.sub [0, 5, 1, 2, 6, 4, 3] (by decide) rfl) hS (lv_sub hl [0, 1] rfl)
        · have dc471 : 0 < y460.toInt := nle_i (a := y460.toInt) (b := 0) rfl rfl c471
          have k492 : 1 ≤ y460.toInt ∧ y460.toInt ≤ 45 := ⟨lo_lt dc471 (Int.le_refl _) (by decide), t466.2⟩
          refine lv_aload_n hx hb dX10_sentence_83 rfl (lv_at hl 1 rfl) ?_
          refine lv_iconst (v := 1) hx hb dX10_sentence_84 (by decide) ?_
          have n493 : F439 12 = .int u96 := (SAME.at t444 (by decide) i141)
          have n494 : F458 12 = .int u96 := (SAME.at t462 (by decide) n493)
          refine call_Vi (wr := [(h_s, .inl (cI, 335, .inl f_s)), (h_names, .inl (cJ, 36, .inr (.inl f_names))), (h_reserved, .inl (cJ, 23, .inr (.inl f_reserved))), (h_tape, .inl (cB, 940, .inl f_tape)), (h_read, .inl (cI, 135, .inl g461)), (h_stack, .inl (cI, 45, .inl w92))]) (As := [.int 1]) (rest := []) hx hb hml hown hw (m_X10_bad l D cI cJ cB cP cM cZ h0 F458 u96 1 _ n494) wV_X10_205_X10_bad dX10_sentence_85 hK hP hD hS hA [4] [0, 1, 2, 3, 5, 6] rfl rfl (by decide) (by decide) (by decide) 0 10 rfl rfl GG.fb hG.at hl.1 rfl (Nat.le_of_ble_eq_true rfl) ⟨(Nat.le_of_ble_eq_true rfl), (Nat.le_of_ble_eq_true rfl)⟩ ⟨(Nat.le_of_ble_eq_true rfl), (Nat.le_of_ble_eq_true rfl)⟩ (fun r495 u H locs hp hP hD hS => ?_)
          have zl1 : (1 : Int32).toInt = 1 := by decide
          obtain ⟨F496, t497, t498, t499, rfl, rfl⟩ := hp
          have hP : va_P D vwCl [(h_s, .inl (cI, 335, .inl f_s)), (h_names, .inl (cJ, 36, .inr (.inl f_names))), (h_reserved, .inl (cJ, 23, .inr (.inl f_reserved))), (h_tape, .inl (cB, 940, .inl f_tape)), (h_read, .inl (cI, 135, .inl g461)), (h_stack, .inl (cI, 45, .inl w92)), (h0, .inr (10, vL 67 F496))] H := hP
          have hD : va_D A [(h_s, .inl (cI, 335, .inl f_s)), (h_names, .inl (cJ, 36, .inr (.inl f_names))), (h_reserved, .inl (cJ, 23, .inr (.inl f_reserved))), (h_tape, .inl (cB, 940, .inl f_tape)), (h_read, .inl (cI, 135, .inl g461)), (h_stack, .inl (cI, 45, .inl w92)), (h0, .inr (10, vL 67 F496))] := hD
          refine W.widen (k := 0) (n := 0) (Nat.le_of_ble_eq_true rfl) (Nat.le_of_ble_eq_true rfl) ?_
          refine lv_pop hx hb dX10_sentence_88 rfl ?_
          refine lv_iconst (v := (-1)) hx hb dX10_sentence_89 (by decide) ?_
          refine lv_aload_n hx hb dX10_sentence_90 rfl (lv_at hl 1 rfl) ?_
          refine get_f (D := D) (ci := 10) (v := .int u96) (C := RX10) (T := TX10) (N := 67) hx hb hw inAX10 hown hK hP 6 rfl rfl 16 (by decide) (hw _ q_1277) (fun _ h9 => h9) t499 dX10_sentence_91 ?_
          refine lv_isub hx hb dX10_sentence_94 ?_
          refine lv_topi (fun v501 ev501 => ?_)
          have bv501 : v501.toInt = (-1) - u96.toInt := by rw [ev501]; exact sub_k rfl rfl ⟨Int.le_refl _, Int.le_refl _⟩ (ir_any _) (by decide)
          have k502 : (-2147483648) ≤ v501.toInt ∧ v501.toInt ≤ 2147483647 := sub_r bv501 ⟨Int.le_refl _, Int.le_refl _⟩ (ir_any _) (by decide)
          exact ret_i (v := v501) hx hb hr hlocks hS (hP.sub (ws' := [(h0, .inr (10, vL 67 F496)), (h_tape, .inl (cB, 940, .inl f_tape)), (h_s, .inl (cI, 335, .inl f_s)), (h_read, .inl (cI, 135, .inl g461)), (h_names, .inl (cJ, 36, .inr (.inl f_names))), (h_reserved, .inl (cJ, 23, .inr (.inl f_reserved))), (h_stack, .inl (cI, 45, .inl w92))]) [6, 3, 0, 4, 1, 2, 5] rfl) (hD.sub (ws' := [(h0, .inr (10, vL 67 F496)), (h_tape, .inl (cB, 940, .inl f_tape)), (h_s, .inl (cI, 335, .inl f_s)), (h_read, .inl (cI, 135, .inl g461)), (h_names, .inl (cJ, 36, .inr (.inl f_names))), (h_reserved, .inl (cJ, 23, .inr (.inl f_reserved))), (h_stack, .inl (cI, 45, .inl w92))]) [6, 3, 0, 4, 1, 2, 5] (by decide) rfl) dX10_sentence_95 rfl (Nat.le_of_ble_eq_true rfl) (Nat.le_of_ble_eq_true rfl) ⟨F496, u94, u95, u96, u97, u98, 1, u96, u101, y459, u103, y460, y442, u106, f_s, g461, w92, (SAME.tr (SAME.tr (SAME.tr (SAME.tr (SAME.tr (SAME.up eF16 (SAME.up eF15 (SAME.up eF14 (SAME.up eF13 (SAME.up eF12 (SAME.up eF11 (SAME.tr (SAME.up eF1 SAME.rf (by decide)) t5 (by decide)) (by decide)) (by decide)) (by decide)) (by decide)) (by decide)) (by decide)) t75 (by decide)) i138 (by decide)) t444 (by decide)) t462 (by decide)) t497 (by decide)), (SAME.at t497 (by decide) (SAME.at t462 (by decide) (SAME.at t444 (by decide) (SAME.at i138 (by decide) (SAME.at t75 (by decide) (get_ne eF16 (by decide) (get_ne eF15 (by decide) (get_ne eF14 (by decide) (get_ne eF13 (by decide) (get_ne eF12 (by decide) (get_ne eF11 (by decide) (SAME.at t5 (by decide) (get_eq eF1))))))))))))), (SAME.at t497 (by decide) (SAME.at t462 (by decide) (SAME.at t444 (by decide) (SAME.at i138 (by decide) (SAME.at t75 (by decide) (get_ne eF16 (by decide) (get_ne eF15 (by decide) (get_ne eF14 (by decide) (get_ne eF13 (by decide) (get_ne eF12 (by decide) (get_ne eF11 (by decide) t6))))))))))), (SAME.at t497 (by decide) (SAME.at t462 (by decide) (SAME.at t444 (by decide) (SAME.at i138 (by decide) (SAME.at t75 (by decide) n30))))), (SAME.at t497 (by decide) (SAME.at t462 (by decide) (SAME.at t444 (by decide) i139))), i152, (SAME.at t497 (by decide) (SAME.at t462 (by decide) (SAME.at t444 (by decide) (SAME.at i138 (by decide) (SAME.at t75 (by decide) n42))))), (SAME.at t497 (by decide) (SAME.at t462 (by decide) (SAME.at t444 (by decide) i140))), (ir_wk k417 (by decide) (by decide)), (SAME.at t497 (by decide) n494), (SAME.at t497 (by decide) (SAME.at t462 (by decide) (SAME.at t444 (by decide) i142))), (SAME.at t497 (by decide) (SAME.at t462 (by decide) (SAME.at t444 (by decide) i143))), t498, t499, (SAME.at t497 (by decide) (SAME.at t462 (by decide) (SAME.at t444 (by decide) i146))), (SAME.at t497 (by decide) t463), t464, (SAME.at t497 (by decide) (SAME.at t462 (by decide) n455)), i155, (SAME.at t497 (by decide) t465), (ir_wk k492 (by decide) (by decide)), (SAME.at t497 (by decide) (SAME.at t462 (by decide) t449)), (SAME.at t497 (by decide) (SAME.at t462 (by decide) n456)), (ir_wk k341 (by decide) (by decide)), s_s_153, s_s_0, s_s_5, s_s_6, s_s_7, s_s_44, s_s_K0, s_s_105, s_s_114, s_s_130, s_s_139, (by have zl1 : (1 : Int32).toInt = 1 := (by decide); omega), (by have zl1 : (1 : Int32).toInt = 1 := (by decide); omega), rfl⟩
set_option maxHeartbeats 4000000 in
set_option maxRecDepth 100000 in
theorem m_X10_isLeaf (l : Launch) (D : va_G) (cI cJ cB cP cM cZ : ClassId) (h0 : Nat) (h_s : Nat) (h_paceAt : Nat) (h_kindOf : Nat) (Fh : Nat → Value) (x_lineTime : Int32) (x_linePace : Int32) (x_inside : Int32) (x_late : Int32) (x_seed : Int32) (x_kicks : Int32) (f_s : Nat → Int32) (f_paceAt : Nat → Int32) (f_kindOf : Nat → Int32) (p0 : Int32) (p1 : Int32) (p2 : Int32) (p3 : Int32) (sz : Nat) (e_s : Fh 6 = .ref h_s) (e_paceAt : Fh 25 = .ref h_paceAt) (e_kindOf : Fh 26 = .ref h_kindOf) (e_lineTime : Fh 27 = .int x_lineTime) (e_linePace : Fh 28 = .int x_linePace) (e_inside : Fh 29 = .int x_inside) (i_x_inside : IR 0 15 x_inside) (e_late : Fh 30 = .int x_late) (i_x_late : IR 0 15 x_late) (e_seed : Fh 31 = .int x_seed) (e_kicks : Fh 32 = .int x_kicks) (i_x_kicks : IR 0 1 x_kicks) (s_s_K0 : KW 0 f_s) (s_s_0 : SG 0 0 0 40 f_s) (s_s_105 : SG 105 108 0 11 f_s) (s_s_114 : SG 114 114 0 5 f_s) (s_s_130 : SG 130 133 0 11 f_s) (s_s_139 : SG 139 139 0 5 f_s) (s_s_153 : SG 153 153 0 44 f_s) (s_s_44 : SG 44 55 0 9 f_s) (s_s_5 : SG 5 5 0 12 f_s) (s_s_6 : SG 6 6 0 12 f_s) (s_s_7 : SG 7 7 0 6 f_s) (i_p0 : IR 0 11 p0) : CI l yX10_isLeaf cX10_isLeaf 7 (some .boolean) { frames := 4, cells := 0, slots := 0, locals := 94 } (GG D cI cJ cB cP cM cZ) D [(h0, .inr (10, vL 67 Fh)), (h_s, .inl (cI, 335, .inl f_s)), (h_paceAt, .inl (cI, 40, .inl f_paceAt)), (h_kindOf, .inl (cI, 4, .inl f_kindOf))] sz [.ref h0, .int p0, .int p1, .int p2, .int p3] (fun (r : Int32) (u : va_W) => ∃ (Gh : Nat → Value) (y_lineTime : Int32) (y_linePace : Int32) (y_inside : Int32) (y_late : Int32) (y_seed : Int32) (g_paceAt : Nat → Int32) (g_kindOf : Nat → Int32), SAME [27, 28, 29, 30, 31] Fh Gh ∧ Gh 27 = .int y_lineTime ∧ Gh 28 = .int y_linePace ∧ Gh 29 = .int y_inside ∧ IR 0 15 y_inside ∧ Gh 30 = .int y_late ∧ IR 0 15 y_late ∧ Gh 31 = .int y_seed ∧ IR 0 1 r ∧ u = [(h0, .inr (10, vL 67 Gh)), (h_s, .inl (cI, 335, .inl f_s)), (h_paceAt, .inl (cI, 40, .inl g_paceAt)), (h_kindOf, .inl (cI, 4, .inl g_kindOf))]) := by
  refine CI_mk (by decide) (Nat.le_of_ble_eq_true rfl) ?_
  intro p e s m below meth c A ls E hAe hG hsz hP hD hA hS hl
  obtain ⟨hx, hb, hr, hw, hown, hlocks, hml, hnm⟩ := E
  have hK := hG.1
  have i_x_inside : 0 ≤ x_inside.toInt ∧ x_inside.toInt ≤ 15 := i_x_inside
  have i_x_late : 0 ≤ x_late.toInt ∧ x_late.toInt ≤ 15 := i_x_late
  have i_x_kicks : 0 ≤ x_kicks.toInt ∧ x_kicks.toInt ≤ 1 := i_x_kicks
  have i_p0 : 0 ≤ p0.toInt ∧ p0.toInt ≤ 11 := i_p0
  have hl : lv_has ls 7 [(0, .ref h0), (1, .int p0), (2, .int p1), (3, .int p2), (4, .int p3)] := hl
  refine lv_aload_n hx hb dX10_isLeaf_0 rfl (lv_at hl 0 rfl) ?_
  refine lv_iload_n hx hb dX10_isLeaf_1 rfl (lv_at hl 1 rfl) ?_
  refine call_Vi (wr := [(h_paceAt, .inl (cI, 40, .inl f_paceAt)), (h_kindOf, .inl (cI, 4, .inl f_kindOf))]) (As := [.int p0]) (rest := []) hx hb hml hown hw (m_X10_placeOf l D cI cJ cB cP cM cZ h0 h_s Fh f_s p0 _ e_s s_s_K0 s_s_0 s_s_105 s_s_114 s_s_130 s_s_139 s_s_153 s_s_44 s_s_5 s_s_6 s_s_7) wV_X10_288_X10_placeOf dX10_isLeaf_2 hK hP hD hS hA [0, 1] [2, 3] rfl rfl (by decide) (by decide) (by decide) 0 10 rfl rfl GG.fb hG.at hl.1 rfl (Nat.le_of_ble_eq_true rfl) ⟨(Nat.le_of_ble_eq_true rfl), (Nat.le_of_ble_eq_true rfl)⟩ ⟨(Nat.le_of_ble_eq_true rfl), (Nat.le_of_ble_eq_true rfl)⟩ (fun r1 u H locs hp hP hD hS => ?_)
  obtain ⟨t2, rfl⟩ := hp
  have hP : va_P D vwCl [(h_paceAt, .inl (cI, 40, .inl f_paceAt)), (h_kindOf, .inl (cI, 4, .inl f_kindOf)), (h0, .inr (10, vL 67 Fh)), (h_s, .inl (cI, 335, .inl f_s))] H := hP
  have hD : va_D A [(h_paceAt, .inl (cI, 40, .inl f_paceAt)), (h_kindOf, .inl (cI, 4, .inl f_kindOf)), (h0, .inr (10, vL 67 Fh)), (h_s, .inl (cI, 335, .inl f_s))] := hD
  refine W.widen (k := 0) (n := 0) (Nat.le_of_ble_eq_true rfl) (Nat.le_of_ble_eq_true rfl) ?_
  refine lv_istore (lv' := [(5, .int r1), (0, .ref h0), (1, .int p0), (2, .int p1), (3, .int p2), (4, .int p3)]) hx hb dX10_isLeaf_5 hl (by decide) rfl (fun ls hl => ?_)
  refine lv_iload_n hx hb dX10_isLeaf_7 rfl (lv_at hl 3 rfl) ?_
  refine lv_if_ne (tgt := 22) hx hb dX10_isLeaf_8 (by decide) (fun c4 => ?_) (fun c4 => ?_)
  · have dc4 : p1.toInt ≠ 0 := ne_i (a := p1.toInt) (b := 0) rfl rfl c4
    refine lv_iload_n hx hb dX10_isLeaf_22 rfl (lv_at hl 3 rfl) ?_
    refine lv_iconst (v := 1) hx hb dX10_isLeaf_23 (by decide) ?_
    refine lv_icmp_ne (tgt := 48) hx hb dX10_isLeaf_24 (by decide) (fun c5 => ?_) (fun c5 => ?_)
    · have dc5 : p1.toInt ≠ 1 := ne_i (a := p1.toInt) (b := 1) rfl rfl c5
      refine lv_iload_n hx hb dX10_isLeaf_48 rfl (lv_at hl 3 rfl) ?_
      refine lv_iconst (v := 2) hx hb dX10_isLeaf_49 (by decide) ?_
      refine lv_icmp_ne (tgt := 100) hx hb dX10_isLeaf_50 (by decide) (fun c6 => ?_) (fun c6 => ?_)
      · have dc6 : p1.toInt ≠ 2 := ne_i (a := p1.toInt) (b := 2) rfl rfl c6
        refine lv_iload_n hx hb dX10_isLeaf_100 rfl (lv_at hl 3 rfl) ?_
        refine lv_iconst (v := 3) hx hb dX10_isLeaf_101 (by decide) ?_
        refine lv_icmp_ne (tgt := 117) hx hb dX10_isLeaf_102 (by decide) (fun c7 => ?_) (fun c7 => ?_)
        · have dc7 : p1.toInt ≠ 3 := ne_i (a := p1.toInt) (b := 3) rfl rfl c7
          refine lv_iload_n hx hb dX10_isLeaf_117 rfl (lv_at hl 3 rfl) ?_
          refine lv_iconst (v := 4) hx hb dX10_isLeaf_118 (by decide) ?_
          refine lv_icmp_ne (tgt := 134) hx hb dX10_isLeaf_119 (by decide) (fun c8 => ?_) (fun c8 => ?_)
          · have dc8 : p1.toInt ≠ 4 := ne_i (a := p1.toInt) (b := 4) rfl rfl c8
            refine lv_iload_n hx hb dX10_isLeaf_134 rfl (lv_at hl 3 rfl) ?_
            refine lv_iconst (v := 5) hx hb dX10_isLeaf_135 (by decide) ?_
            refine lv_icmp_ne (tgt := 151) hx hb dX10_isLeaf_136 (by decide) (fun c9 => ?_) (fun c9 => ?_)
            · have dc9 : p1.toInt ≠ 5 := ne_i (a := p1.toInt) (b := 5) rfl rfl c9
              refine lv_iload_n hx hb dX10_isLeaf_151 rfl (lv_at hl 2 rfl) ?_
              refine lv_istore (lv' := [(6, .int p0), (5, .int r1), (0, .ref h0), (1, .int p0), (2, .int p1), (3, .int p2), (4, .int p3)]) hx hb dX10_isLeaf_152 hl (by decide) rfl (fun ls hl => ?_)
              refine lv_iload_n hx hb dX10_isLeaf_154 rfl (lv_at hl 5 rfl) ?_
              refine lv_bipush (v := 60) hx hb dX10_isLeaf_155 (by decide) ?_
              refine lv_icmp_ne (tgt := 175) hx hb dX10_isLeaf_157 (by decide) (fun c10 => ?_) (fun c10 => ?_)
              · have dc10 : p2.toInt ≠ 60 := ne_i (a := p2.toInt) (b := 60) rfl rfl c10
                refine lv_iload_n hx hb dX10_isLeaf_175 rfl (lv_at hl 5 rfl) ?_
                refine lv_bipush (v := 61) hx hb dX10_isLeaf_176 (by decide) ?_
                refine lv_icmp_ne (tgt := 196) hx hb dX10_isLeaf_178 (by decide) (fun c11 => ?_) (fun c11 => ?_)
                · have dc11 : p2.toInt ≠ 61 := ne_i (a := p2.toInt) (b := 61) rfl rfl c11
                  refine lv_iload hx hb dX10_isLeaf_196 (lv_at hl 0 rfl) ?_
                  refine lv_iload hx hb dX10_isLeaf_198 (lv_at hl 6 rfl) ?_
                  refine lv_icmp_le (tgt := 207) hx hb dX10_isLeaf_200 (by decide) (fun c12 => ?_) (fun c12 => ?_)
                  · have dc12 : p0.toInt ≤ p3.toInt := le_i (a := p0.toInt) (b := p3.toInt) rfl rfl c12
                    have k13 : 0 ≤ p3.toInt ∧ p3.toInt ≤ 2147483647 := ⟨Int.le_trans i_p0.1 dc12, (ir_any _).2⟩
                    refine lv_iconst (v := 0) hx hb dX10_isLeaf_207 (by decide) ?_
                    exact ret_i (v := 0) hx hb hr hlocks hS (hP.sub (ws' := [(h0, .inr (10, vL 67 Fh)), (h_s, .inl (cI, 335, .inl f_s)), (h_paceAt, .inl (cI, 40, .inl f_paceAt)), (h_kindOf, .inl (cI, 4, .inl f_kindOf))]) [2, 3, 0, 1] rfl) (hD.sub (ws' := [(h0, .inr (10, vL 67 Fh)), (h_s, .inl (cI, 335, .inl f_s)), (h_paceAt, .inl (cI, 40, .inl f_paceAt)), (h_kindOf, .inl (cI, 4, .inl f_kindOf))]) [2, 3, 0, 1] (by decide) rfl) dX10_isLeaf_208 rfl (Nat.le_of_ble_eq_true rfl) (Nat.le_of_ble_eq_true rfl) ⟨Fh, x_lineTime, x_linePace, x_inside, x_late, x_seed, f_paceAt, f_kindOf, SAME.rf, e_lineTime, e_linePace, e_inside, i_x_inside, e_late, i_x_late, e_seed, (show 0 ≤ (0 : Int32).toInt ∧ (0 : Int32).toInt ≤ 1 by decide), rfl⟩
                  · have dc12 : p3.toInt < p0.toInt := nle_i (a := p0.toInt) (b := p3.toInt) rfl rfl c12
                    have k14 : (-2147483648) ≤ p3.toInt ∧ p3.toInt ≤ 10 := ⟨(ir_any _).1, up_lt dc12 i_p0.2 (by decide)⟩
                    refine lv_iconst (v := 1) hx hb dX10_isLeaf_203 (by decide) ?_
                    refine lv_goto (tgt := 208) hx hb dX10_isLeaf_204 (by decide) ?_
                    exact ret_i (v := 1) hx hb hr hlocks hS (hP.sub (ws' := [(h0, .inr (10, vL 67 Fh)), (h_s, .inl (cI, 335, .inl f_s)), (h_paceAt, .inl (cI, 40, .inl f_paceAt)), (h_kindOf, .inl (cI, 4, .inl f_kindOf))]) [2, 3, 0, 1] rfl) (hD.sub (ws' := [(h0, .inr (10, vL 67 Fh)), (h_s, .inl (cI, 335, .inl f_s)), (h_paceAt, .inl (cI, 40, .inl f_paceAt)), (h_kindOf, .inl (cI, 4, .inl f_kindOf))]) [2, 3, 0, 1] (by decide) rfl) dX10_isLeaf_208 rfl (Nat.le_of_ble_eq_true rfl) (Nat.le_of_ble_eq_true rfl) ⟨Fh, x_lineTime, x_linePace, x_inside, x_late, x_seed, f_paceAt, f_kindOf, SAME.rf, e_lineTime, e_linePace, e_inside, i_x_inside, e_late, i_x_late, e_seed, (show 0 ≤ (1 : Int32).toInt ∧ (1 : Int32).toInt ≤ 1 by decide), rfl⟩
                · have dc11 : p2.toInt = 61 := eq_i (a := p2.toInt) (b := 61) rfl rfl c11
                  have k15 : 61 ≤ p2.toInt ∧ p2.toInt ≤ 61 := ⟨Int.le_trans (Int.le_refl _) (Int.le_of_eq dc11.symm), Int.le_trans (Int.le_of_eq dc11) (Int.le_refl _)⟩
                  refine lv_iload hx hb dX10_isLeaf_181 (lv_at hl 0 rfl) ?_
                  refine lv_iload hx hb dX10_isLeaf_183 (lv_at hl 6 rfl) ?_
                  refine lv_icmp_ne (tgt := 192) hx hb dX10_isLeaf_185 (by decide) (fun c16 => ?_) (fun c16 => ?_)
                  · have dc16 : p0.toInt ≠ p3.toInt := ne_i (a := p0.toInt) (b := p3.toInt) rfl rfl c16
                    refine lv_iconst (v := 0) hx hb dX10_isLeaf_192 (by decide) ?_
                    refine lv_goto (tgt := 208) hx hb dX10_isLeaf_193 (by decide) ?_
                    exact ret_i (v := 0) hx hb hr hlocks hS (hP.sub (ws' := [(h0, .inr (10, vL 67 Fh)), (h_s, .inl (cI, 335, .inl f_s)), (h_paceAt, .inl (cI, 40, .inl f_paceAt)), (h_kindOf, .inl (cI, 4, .inl f_kindOf))]) [2, 3, 0, 1] rfl) (hD.sub (ws' := [(h0, .inr (10, vL 67 Fh)), (h_s, .inl (cI, 335, .inl f_s)), (h_paceAt, .inl (cI, 40, .inl f_paceAt)), (h_kindOf, .inl (cI, 4, .inl f_kindOf))]) [2, 3, 0, 1] (by decide) rfl) dX10_isLeaf_208 rfl (Nat.le_of_ble_eq_true rfl) (Nat.le_of_ble_eq_true rfl) ⟨Fh, x_lineTime, x_linePace, x_inside, x_late, x_seed, f_paceAt, f_kindOf, SAME.rf, e_lineTime, e_linePace, e_inside, i_x_inside, e_late, i_x_late, e_seed, (show 0 ≤ (0 : Int32).toInt ∧ (0 : Int32).toInt ≤ 1 by decide), rfl⟩
                  · have dc16 : p0.toInt = p3.toInt := eq_i (a := p0.toInt) (b := p3.toInt) rfl rfl c16
                    have k17 : 0 ≤ p3.toInt ∧ p3.toInt ≤ 11 := ⟨Int.le_trans i_p0.1 (Int.le_of_eq dc16), Int.le_trans (Int.le_of_eq dc16.symm) i_p0.2⟩
                    refine lv_iconst (v := 1) hx hb dX10_isLeaf_188 (by decide) ?_
                    refine lv_goto (tgt := 208) hx hb dX10_isLeaf_189 (by decide) ?_
                    exact ret_i (v := 1) hx hb hr hlocks hS (hP.sub (ws' := [(h0, .inr (10, vL 67 Fh)), (h_s, .inl (cI, 335, .inl f_s)), (h_paceAt, .inl (cI, 40, .inl f_paceAt)), (h_kindOf, .inl (cI, 4, .inl f_kindOf))]) [2, 3, 0, 1] rfl) (hD.sub (ws' := [(h0, .inr (10, vL 67 Fh)), (h_s, .inl (cI, 335, .inl f_s)), (h_paceAt, .inl (cI, 40, .inl f_paceAt)), (h_kindOf, .inl (cI, 4, .inl f_kindOf))]) [2, 3, 0, 1] (by decide) rfl) dX10_isLeaf_208 rfl (Nat.le_of_ble_eq_true rfl) (Nat.le_of_ble_eq_true rfl) ⟨Fh, x_lineTime, x_linePace, x_inside, x_late, x_seed, f_paceAt, f_kindOf, SAME.rf, e_lineTime, e_linePace, e_inside, i_x_inside, e_late, i_x_late, e_seed, (show 0 ≤ (1 : Int32).toInt ∧ (1 : Int32).toInt ≤ 1 by decide), rfl⟩
              · have dc10 : p2.toInt = 60 := eq_i (a := p2.toInt) (b := 60) rfl rfl c10
                have k18 : 60 ≤ p2.toInt ∧ p2.toInt ≤ 60 := ⟨Int.le_trans (Int.le_refl _) (Int.le_of_eq dc10.symm), Int.le_trans (Int.le_of_eq dc10) (Int.le_refl _)⟩
                refine lv_iload hx hb dX10_isLeaf_160 (lv_at hl 0 rfl) ?_
                refine lv_iload hx hb dX10_isLeaf_162 (lv_at hl 6 rfl) ?_
                refine lv_icmp_ge (tgt := 171) hx hb dX10_isLeaf_164 (by decide) (fun c19 => ?_) (fun c19 => ?_)
                · have dc19 : p3.toInt ≤ p0.toInt := le_i (a := p3.toInt) (b := p0.toInt) rfl rfl c19
                  have k20 : (-2147483648) ≤ p3.toInt ∧ p3.toInt ≤ 11 := ⟨(ir_any _).1, Int.le_trans dc19 i_p0.2⟩
                  refine lv_iconst (v := 0) hx hb dX10_isLeaf_171 (by decide) ?_
                  refine lv_goto (tgt := 208) hx hb dX10_isLeaf_172 (by decide) ?_
                  exact ret_i (v := 0) hx hb hr hlocks hS (hP.sub (ws' := [(h0, .inr (10, vL 67 Fh)), (h_s, .inl (cI, 335, .inl f_s)), (h_paceAt, .inl (cI, 40, .inl f_paceAt)), (h_kindOf, .inl (cI, 4, .inl f_kindOf))]) [2, 3, 0, 1] rfl) (hD.sub (ws' := [(h0, .inr (10, vL 67 Fh)), (h_s, .inl (cI, 335, .inl f_s)), (h_paceAt, .inl (cI, 40, .inl f_paceAt)), (h_kindOf, .inl (cI, 4, .inl f_kindOf))]) [2, 3, 0, 1] (by decide) rfl) dX10_isLeaf_208 rfl (Nat.le_of_ble_eq_true rfl) (Nat.le_of_ble_eq_true rfl) ⟨Fh, x_lineTime, x_linePace, x_inside, x_late, x_seed, f_paceAt, f_kindOf, SAME.rf, e_lineTime, e_linePace, e_inside, i_x_inside, e_late, i_x_late, e_seed, (show 0 ≤ (0 : Int32).toInt ∧ (0 : Int32).toInt ≤ 1 by decide), rfl⟩
                · have dc19 : p0.toInt < p3.toInt := nle_i (a := p3.toInt) (b := p0.toInt) rfl rfl c19
                  have k21 : 1 ≤ p3.toInt ∧ p3.toInt ≤ 2147483647 := ⟨lo_lt dc19 i_p0.1 (by decide), (ir_any _).2⟩
                  refine lv_iconst (v := 1) hx hb dX10_isLeaf_167 (by decide) ?_
                  refine lv_goto (tgt := 208) hx hb dX10_isLeaf_168 (by decide) ?_
                  exact ret_i (v := 1) hx hb hr hlocks hS (hP.sub (ws' := [(h0, .inr (10, vL 67 Fh)), (h_s, .inl (cI, 335, .inl f_s)), (h_paceAt, .inl (cI, 40, .inl f_paceAt)), (h_kindOf, .inl (cI, 4, .inl f_kindOf))]) [2, 3, 0, 1] rfl) (hD.sub (ws' := [(h0, .inr (10, vL 67 Fh)), (h_s, .inl (cI, 335, .inl f_s)), (h_paceAt, .inl (cI, 40, .inl f_paceAt)), (h_kindOf, .inl (cI, 4, .inl f_kindOf))]) [2, 3, 0, 1] (by decide) rfl) dX10_isLeaf_208 rfl (Nat.le_of_ble_eq_true rfl) (Nat.le_of_ble_eq_true rfl) ⟨Fh, x_lineTime, x_linePace, x_inside, x_late, x_seed, f_paceAt, f_kindOf, SAME.rf, e_lineTime, e_linePace, e_inside, i_x_inside, e_late, i_x_late, e_seed, (show 0 ≤ (1 : Int32).toInt ∧ (1 : Int32).toInt ≤ 1 by decide), rfl⟩
            · have dc9 : p1.toInt = 5 := eq_i (a := p1.toInt) (b := 5) rfl rfl c9
              have k22 : 5 ≤ p1.toInt ∧ p1.toInt ≤ 5 := ⟨Int.le_trans (Int.le_refl _) (Int.le_of_eq dc9.symm), Int.le_trans (Int.le_of_eq dc9) (Int.le_refl _)⟩
              refine lv_aload_n hx hb dX10_isLeaf_139 rfl (lv_at hl 1 rfl) ?_
              refine get_f (D := D) (ci := 10) (v := .ref h_s) (C := RX10) (T := TX10) (N := 67) hx hb hw inAX10 hown hK hP 2 rfl rfl 6 (by decide) (hw _ q_1267) (fun _ h9 => h9) e_s dX10_isLeaf_140 ?_
              refine lv_bipush (v := 32) hx hb dX10_isLeaf_143 (by decide) ?_
              refine lv_iload_n hx hb dX10_isLeaf_145 rfl (lv_at hl 2 rfl) ?_
              refine lv_iadd hx hb dX10_isLeaf_146 ?_
              refine lv_topi (fun v23 ev23 => ?_)
              have bv23 : v23.toInt = 32 + p0.toInt := by rw [ev23]; exact add_k rfl rfl ⟨Int.le_refl _, Int.le_refl _⟩ i_p0 (by decide)
              have k24 : 32 ≤ v23.toInt ∧ v23.toInt ≤ 43 := add_r bv23 ⟨Int.le_refl _, Int.le_refl _⟩ i_p0 (by decide)
              refine va_iald hx hb hK hP 3 0 rfl rfl (ix_k k24 (by decide) (by decide)) dX10_isLeaf_147 ?_
              refine lv_topi (fun v25 ev25 => ?_)
              refine lv_goto (tgt := 152) hx hb dX10_isLeaf_148 (by decide) ?_
              refine lv_istore (lv' := [(6, .int v25), (5, .int r1), (0, .ref h0), (1, .int p0), (2, .int p1), (3, .int p2), (4, .int p3)]) hx hb dX10_isLeaf_152 hl (by decide) rfl (fun ls hl => ?_)
              refine lv_iload_n hx hb dX10_isLeaf_154 rfl (lv_at hl 5 rfl) ?_
              refine lv_bipush (v := 60) hx hb dX10_isLeaf_155 (by decide) ?_
              refine lv_icmp_ne (tgt := 175) hx hb dX10_isLeaf_157 (by decide) (fun c26 => ?_) (fun c26 => ?_)
              · have dc26 : p2.toInt ≠ 60 := ne_i (a := p2.toInt) (b := 60) rfl rfl c26
                refine lv_iload_n hx hb dX10_isLeaf_175 rfl (lv_at hl 5 rfl) ?_
                refine lv_bipush (v := 61) hx hb dX10_isLeaf_176 (by decide) ?_
                refine lv_icmp_ne (tgt := 196) hx hb dX10_isLeaf_178 (by decide) (fun c27 => ?_) (fun c27 => ?_)
                · have dc27 : p2.toInt ≠ 61 := ne_i (a := p2.toInt) (b := 61) rfl rfl c27
                  refine lv_iload hx hb dX10_isLeaf_196 (lv_at hl 0 rfl) ?_
                  refine lv_iload hx hb dX10_isLeaf_198 (lv_at hl 6 rfl) ?_
                  refine lv_icmp_le (tgt := 207) hx hb dX10_isLeaf_200 (by decide) (fun c28 => ?_) (fun c28 => ?_)
                  · have dc28 : v25.toInt ≤ p3.toInt := le_i (a := v25.toInt) (b := p3.toInt) rfl rfl c28
                    refine lv_iconst (v := 0) hx hb dX10_isLeaf_207 (by decide) ?_
                    exact ret_i (v := 0) hx hb hr hlocks hS (hP.sub (ws' := [(h0, .inr (10, vL 67 Fh)), (h_s, .inl (cI, 335, .inl f_s)), (h_paceAt, .inl (cI, 40, .inl f_paceAt)), (h_kindOf, .inl (cI, 4, .inl f_kindOf))]) [2, 3, 0, 1] rfl) (hD.sub (ws' := [(h0, .inr (10, vL 67 Fh)), (h_s, .inl (cI, 335, .inl f_s)), (h_paceAt, .inl (cI, 40, .inl f_paceAt)), (h_kindOf, .inl (cI, 4, .inl f_kindOf))]) [2, 3, 0, 1] (by decide) rfl) dX10_isLeaf_208 rfl (Nat.le_of_ble_eq_true rfl) (Nat.le_of_ble_eq_true rfl) ⟨Fh, x_lineTime, x_linePace, x_inside, x_late, x_seed, f_paceAt, f_kindOf, SAME.rf, e_lineTime, e_linePace, e_inside, i_x_inside, e_late, i_x_late, e_seed, (show 0 ≤ (0 : Int32).toInt ∧ (0 : Int32).toInt ≤ 1 by decide), rfl⟩
                  · have dc28 : p3.toInt < v25.toInt := nle_i (a := v25.toInt) (b := p3.toInt) rfl rfl c28
                    have k29 : (-2147483648) ≤ p3.toInt ∧ p3.toInt ≤ 2147483646 := ⟨(ir_any _).1, up_lt dc28 (ir_any _).2 (by decide)⟩
                    have k30 : (-2147483647) ≤ v25.toInt ∧ v25.toInt ≤ 2147483647 := ⟨lo_lt dc28 (ir_any _).1 (by decide), (ir_any _).2⟩
                    refine lv_iconst (v := 1) hx hb dX10_isLeaf_203 (by decide) ?_
                    refine lv_goto (tgt := 208) hx hb dX10_isLeaf_204 (by decide) ?_
                    exact ret_i (v := 1) hx hb hr hlocks hS (hP.sub (ws' := [(h0, .inr (10, vL 67 Fh)), (h_s, .inl (cI, 335, .inl f_s)), (h_paceAt, .inl (cI, 40, .inl f_paceAt)), (h_kindOf, .inl (cI, 4, .inl f_kindOf))]) [2, 3, 0, 1] rfl) (hD.sub (ws' := [(h0, .inr (10, vL 67 Fh)), (h_s, .inl (cI, 335, .inl f_s)), (h_paceAt, .inl (cI, 40, .inl f_paceAt)), (h_kindOf, .inl (cI, 4, .inl f_kindOf))]) [2, 3, 0, 1] (by decide) rfl) dX10_isLeaf_208 rfl (Nat.le_of_ble_eq_true rfl) (Nat.le_of_ble_eq_true rfl) ⟨Fh, x_lineTime, x_linePace, x_inside, x_late, x_seed, f_paceAt, f_kindOf, SAME.rf, e_lineTime, e_linePace, e_inside, i_x_inside, e_late, i_x_late, e_seed, (show 0 ≤ (1 : Int32).toInt ∧ (1 : Int32).toInt ≤ 1 by decide), rfl⟩
                · have dc27 : p2.toInt = 61 := eq_i (a := p2.toInt) (b := 61) rfl rfl c27
                  have k31 : 61 ≤ p2.toInt ∧ p2.toInt ≤ 61 := ⟨Int.le_trans (Int.le_refl _) (Int.le_of_eq dc27.symm), Int.le_trans (Int.le_of_eq dc27) (Int.le_refl _)⟩
                  refine lv_iload hx hb dX10_isLeaf_181 (lv_at hl 0 rfl) ?_
                  refine lv_iload hx hb dX10_isLeaf_183 (lv_at hl 6 rfl) ?_
                  refine lv_icmp_ne (tgt := 192) hx hb dX10_isLeaf_185 (by decide) (fun c32 => ?_) (fun c32 => ?_)
                  · have dc32 : v25.toInt ≠ p3.toInt := ne_i (a := v25.toInt) (b := p3.toInt) rfl rfl c32
                    refine lv_iconst (v := 0) hx hb dX10_isLeaf_192 (by decide) ?_
                    refine lv_goto (tgt := 208) hx hb dX10_isLeaf_193 (by decide) ?_
                    exact ret_i (v := 0) hx hb hr hlocks hS (hP.sub (ws' := [(h0, .inr (10, vL 67 Fh)), (h_s, .inl (cI, 335, .inl f_s)), (h_paceAt, .inl (cI, 40, .inl f_paceAt)), (h_kindOf, .inl (cI, 4, .inl f_kindOf))]) [2, 3, 0, 1] rfl) (hD.sub (ws' := [(h0, .inr (10, vL 67 Fh)), (h_s, .inl (cI, 335, .inl f_s)), (h_paceAt, .inl (cI, 40, .inl f_paceAt)), (h_kindOf, .inl (cI, 4, .inl f_kindOf))]) [2, 3, 0, 1] (by decide) rfl) dX10_isLeaf_208 rfl (Nat.le_of_ble_eq_true rfl) (Nat.le_of_ble_eq_true rfl) ⟨Fh, x_lineTime, x_linePace, x_inside, x_late, x_seed, f_paceAt, f_kindOf, SAME.rf, e_lineTime, e_linePace, e_inside, i_x_inside, e_late, i_x_late, e_seed, (show 0 ≤ (0 : Int32).toInt ∧ (0 : Int32).toInt ≤ 1 by decide), rfl⟩
                  · have dc32 : v25.toInt = p3.toInt := eq_i (a := v25.toInt) (b := p3.toInt) rfl rfl c32
                    refine lv_iconst (v := 1) hx hb dX10_isLeaf_188 (by decide) ?_
                    refine lv_goto (tgt := 208) hx hb dX10_isLeaf_189 (by decide) ?_
                    exact ret_i (v := 1) hx hb hr hlocks hS (hP.sub (ws' := [(h0, .inr (10, vL 67 Fh)), (h_s, .inl (cI, 335, .inl f_s)), (h_paceAt, .inl (cI, 40, .inl f_paceAt)), (h_kindOf, .inl (cI, 4, .inl f_kindOf))]) [2, 3, 0, 1] rfl) (hD.sub (ws' := [(h0, .inr (10, vL 67 Fh)), (h_s, .inl (cI, 335, .inl f_s)), (h_paceAt, .inl (cI, 40, .inl f_paceAt)), (h_kindOf, .inl (cI, 4, .inl f_kindOf))]) [2, 3, 0, 1] (by decide) rfl) dX10_isLeaf_208 rfl (Nat.le_of_ble_eq_true rfl) (Nat.le_of_ble_eq_true rfl) ⟨Fh, x_lineTime, x_linePace, x_inside, x_late, x_seed, f_paceAt, f_kindOf, SAME.rf, e_lineTime, e_linePace, e_inside, i_x_inside, e_late, i_x_late, e_seed, (show 0 ≤ (1 : Int32).toInt ∧ (1 : Int32).toInt ≤ 1 by decide), rfl⟩
              · have dc26 : p2.toInt = 60 := eq_i (a := p2.toInt) (b := 60) rfl rfl c26
                have k33 : 60 ≤ p2.toInt ∧ p2.toInt ≤ 60 := ⟨Int.le_trans (Int.le_refl _) (Int.le_of_eq dc26.symm), Int.le_trans (Int.le_of_eq dc26) (Int.le_refl _)⟩
                refine lv_iload hx hb dX10_isLeaf_160 (lv_at hl 0 rfl) ?_
                refine lv_iload hx hb dX10_isLeaf_162 (lv_at hl 6 rfl) ?_
                refine lv_icmp_ge (tgt := 171) hx hb dX10_isLeaf_164 (by decide) (fun c34 => ?_) (fun c34 => ?_)
                · have dc34 : p3.toInt ≤ v25.toInt := le_i (a := p3.toInt) (b := v25.toInt) rfl rfl c34
                  refine lv_iconst (v := 0) hx hb dX10_isLeaf_171 (by decide) ?_
                  refine lv_goto (tgt := 208) hx hb dX10_isLeaf_172 (by decide) ?_
                  exact ret_i (v := 0) hx hb hr hlocks hS (hP.sub (ws' := [(h0, .inr (10, vL 67 Fh)), (h_s, .inl (cI, 335, .inl f_s)), (h_paceAt, .inl (cI, 40, .inl f_paceAt)), (h_kindOf, .inl (cI, 4, .inl f_kindOf))]) [2, 3, 0, 1] rfl) (hD.sub (ws' := [(h0, .inr (10, vL 67 Fh)), (h_s, .inl (cI, 335, .inl f_s)), (h_paceAt, .inl (cI, 40, .inl f_paceAt)), (h_kindOf, .inl (cI, 4, .inl f_kindOf))]) [2, 3, 0, 1] (by decide) rfl) dX10_isLeaf_208 rfl (Nat.le_of_ble_eq_true rfl) (Nat.le_of_ble_eq_true rfl) ⟨Fh, x_lineTime, x_linePace, x_inside, x_late, x_seed, f_paceAt, f_kindOf, SAME.rf, e_lineTime, e_linePace, e_inside, i_x_inside, e_late, i_x_late, e_seed, (show 0 ≤ (0 : Int32).toInt ∧ (0 : Int32).toInt ≤ 1 by decide), rfl⟩
                · have dc34 : v25.toInt < p3.toInt := nle_i (a := p3.toInt) (b := v25.toInt) rfl rfl c34
                  have k35 : (-2147483648) ≤ v25.toInt ∧ v25.toInt ≤ 2147483646 := ⟨(ir_any _).1, up_lt dc34 (ir_any _).2 (by decide)⟩
                  have k36 : (-2147483647) ≤ p3.toInt ∧ p3.toInt ≤ 2147483647 := ⟨lo_lt dc34 (ir_any _).1 (by decide), (ir_any _).2⟩
                  refine lv_iconst (v := 1) hx hb dX10_isLeaf_167 (by decide) ?_
                  refine lv_goto (tgt := 208) hx hb dX10_isLeaf_168 (by decide) ?_
                  exact ret_i (v := 1) hx hb hr hlocks hS (hP.sub (ws' := [(h0, .inr (10, vL 67 Fh)), (h_s, .inl (cI, 335, .inl f_s)), (h_paceAt, .inl (cI, 40, .inl f_paceAt)), (h_kindOf, .inl (cI, 4, .inl f_kindOf))]) [2, 3, 0, 1] rfl) (hD.sub (ws' := [(h0, .inr (10, vL 67 Fh)), (h_s, .inl (cI, 335, .inl f_s)), (h_paceAt, .inl (cI, 40, .inl f_paceAt)), (h_kindOf, .inl (cI, 4, .inl f_kindOf))]) [2, 3, 0, 1] (by decide) rfl) dX10_isLeaf_208 rfl (Nat.le_of_ble_eq_true rfl) (Nat.le_of_ble_eq_true rfl) ⟨Fh, x_lineTime, x_linePace, x_inside, x_late, x_seed, f_paceAt, f_kindOf, SAME.rf, e_lineTime, e_linePace, e_inside, i_x_inside, e_late, i_x_late, e_seed, (show 0 ≤ (1 : Int32).toInt ∧ (1 : Int32).toInt ≤ 1 by decide), rfl⟩
          · have dc8 : p1.toInt = 4 := eq_i (a := p1.toInt) (b := 4) rfl rfl c8
            have k37 : 4 ≤ p1.toInt ∧ p1.toInt ≤ 4 := ⟨Int.le_trans (Int.le_refl _) (Int.le_of_eq dc8.symm), Int.le_trans (Int.le_of_eq dc8) (Int.le_refl _)⟩
            refine lv_aload_n hx hb dX10_isLeaf_122 rfl (lv_at hl 1 rfl) ?_
            refine get_f (D := D) (ci := 10) (v := .ref h_s) (C := RX10) (T := TX10) (N := 67) hx hb hw inAX10 hown hK hP 2 rfl rfl 6 (by decide) (hw _ q_1267) (fun _ h9 => h9) e_s dX10_isLeaf_123 ?_
            refine lv_bipush (v := 20) hx hb dX10_isLeaf_126 (by decide) ?_
            refine lv_iload_n hx hb dX10_isLeaf_128 rfl (lv_at hl 2 rfl) ?_
            refine lv_iadd hx hb dX10_isLeaf_129 ?_
            refine lv_topi (fun v38 ev38 => ?_)
            have bv38 : v38.toInt = 20 + p0.toInt := by rw [ev38]; exact add_k rfl rfl ⟨Int.le_refl _, Int.le_refl _⟩ i_p0 (by decide)
            have k39 : 20 ≤ v38.toInt ∧ v38.toInt ≤ 31 := add_r bv38 ⟨Int.le_refl _, Int.le_refl _⟩ i_p0 (by decide)
            refine va_iald hx hb hK hP 3 0 rfl rfl (ix_k k39 (by decide) (by decide)) dX10_isLeaf_130 ?_
            refine lv_topi (fun v40 ev40 => ?_)
            refine lv_goto (tgt := 152) hx hb dX10_isLeaf_131 (by decide) ?_
            refine lv_istore (lv' := [(6, .int v40), (5, .int r1), (0, .ref h0), (1, .int p0), (2, .int p1), (3, .int p2), (4, .int p3)]) hx hb dX10_isLeaf_152 hl (by decide) rfl (fun ls hl => ?_)
            refine lv_iload_n hx hb dX10_isLeaf_154 rfl (lv_at hl 5 rfl) ?_
            refine lv_bipush (v := 60) hx hb dX10_isLeaf_155 (by decide) ?_
            refine lv_icmp_ne (tgt := 175) hx hb dX10_isLeaf_157 (by decide) (fun c41 => ?_) (fun c41 => ?_)
            · have dc41 : p2.toInt ≠ 60 := ne_i (a := p2.toInt) (b := 60) rfl rfl c41
              refine lv_iload_n hx hb dX10_isLeaf_175 rfl (lv_at hl 5 rfl) ?_
              refine lv_bipush (v := 61) hx hb dX10_isLeaf_176 (by decide) ?_
              refine lv_icmp_ne (tgt := 196) hx hb dX10_isLeaf_178 (by decide) (fun c42 => ?_) (fun c42 => ?_)
              · have dc42 : p2.toInt ≠ 61 := ne_i (a := p2.toInt) (b := 61) rfl rfl c42
                refine lv_iload hx hb dX10_isLeaf_196 (lv_at hl 0 rfl) ?_
                refine lv_iload hx hb dX10_isLeaf_198 (lv_at hl 6 rfl) ?_
                refine lv_icmp_le (tgt := 207) hx hb dX10_isLeaf_200 (by decide) (fun c43 => ?_) (fun c43 => ?_)
                · have dc43 : v40.toInt ≤ p3.toInt := le_i (a := v40.toInt) (b := p3.toInt) rfl rfl c43
                  refine lv_iconst (v := 0) hx hb dX10_isLeaf_207 (by decide) ?_
                  exact ret_i (v := 0) hx hb hr hlocks hS (hP.sub (ws' := [(h0, .inr (10, vL 67 Fh)), (h_s, .inl (cI, 335, .inl f_s)), (h_paceAt, .inl (cI, 40, .inl f_paceAt)), (h_kindOf, .inl (cI, 4, .inl f_kindOf))]) [2, 3, 0, 1] rfl) (hD.sub (ws' := [(h0, .inr (10, vL 67 Fh)), (h_s, .inl (cI, 335, .inl f_s)), (h_paceAt, .inl (cI, 40, .inl f_paceAt)), (h_kindOf, .inl (cI, 4, .inl f_kindOf))]) [2, 3, 0, 1] (by decide) rfl) dX10_isLeaf_208 rfl (Nat.le_of_ble_eq_true rfl) (Nat.le_of_ble_eq_true rfl) ⟨Fh, x_lineTime, x_linePace, x_inside, x_late, x_seed, f_paceAt, f_kindOf, SAME.rf, e_lineTime, e_linePace, e_inside, i_x_inside, e_late, i_x_late, e_seed, (show 0 ≤ (0 : Int32).toInt ∧ (0 : Int32).toInt ≤ 1 by decide), rfl⟩
                · have dc43 : p3.toInt < v40.toInt := nle_i (a := v40.toInt) (b := p3.toInt) rfl rfl c43
                  have k44 : (-2147483648) ≤ p3.toInt ∧ p3.toInt ≤ 2147483646 := ⟨(ir_any _).1, up_lt dc43 (ir_any _).2 (by decide)⟩
                  have k45 : (-2147483647) ≤ v40.toInt ∧ v40.toInt ≤ 2147483647 := ⟨lo_lt dc43 (ir_any _).1 (by decide), (ir_any _).2⟩
                  refine lv_iconst (v := 1) hx hb dX10_isLeaf_203 (by decide) ?_
                  refine lv_goto (tgt := 208) hx hb dX10_isLeaf_204 (by decide) ?_
                  exact ret_i (v := 1) hx hb hr hlocks hS (hP.sub (ws' := [(h0, .inr (10, vL 67 Fh)), (h_s, .inl (cI, 335, .inl f_s)), (h_paceAt, .inl (cI, 40, .inl f_paceAt)), (h_kindOf, .inl (cI, 4, .inl f_kindOf))]) [2, 3, 0, 1] rfl) (hD.sub (ws' := [(h0, .inr (10, vL 67 Fh)), (h_s, .inl (cI, 335, .inl f_s)), (h_paceAt, .inl (cI, 40, .inl f_paceAt)), (h_kindOf, .inl (cI, 4, .inl f_kindOf))]) [2, 3, 0, 1] (by decide) rfl) dX10_isLeaf_208 rfl (Nat.le_of_ble_eq_true rfl) (Nat.le_of_ble_eq_true rfl) ⟨Fh, x_lineTime, x_linePace, x_inside, x_late, x_seed, f_paceAt, f_kindOf, SAME.rf, e_lineTime, e_linePace, e_inside, i_x_inside, e_late, i_x_late, e_seed, (show 0 ≤ (1 : Int32).toInt ∧ (1 : Int32).toInt ≤ 1 by decide), rfl⟩
              · have dc42 : p2.toInt = 61 := eq_i (a := p2.toInt) (b := 61) rfl rfl c42
                have k46 : 61 ≤ p2.toInt ∧ p2.toInt ≤ 61 := ⟨Int.le_trans (Int.le_refl _) (Int.le_of_eq dc42.symm), Int.le_trans (Int.le_of_eq dc42) (Int.le_refl _)⟩
                refine lv_iload hx hb dX10_isLeaf_181 (lv_at hl 0 rfl) ?_
                refine lv_iload hx hb dX10_isLeaf_183 (lv_at hl 6 rfl) ?_
                refine lv_icmp_ne (tgt := 192) hx hb dX10_isLeaf_185 (by decide) (fun c47 => ?_) (fun c47 => ?_)
                · have dc47 : v40.toInt ≠ p3.toInt := ne_i (a := v40.toInt) (b := p3.toInt) rfl rfl c47
                  refine lv_iconst (v := 0) hx hb dX10_isLeaf_192 (by decide) ?_
                  refine lv_goto (tgt := 208) hx hb dX10_isLeaf_193 (by decide) ?_
                  exact ret_i (v := 0) hx hb hr hlocks hS (hP.sub (ws' := [(h0, .inr (10, vL 67 Fh)), (h_s, .inl (cI, 335, .inl f_s)), (h_paceAt, .inl (cI, 40, .inl f_paceAt)), (h_kindOf, .inl (cI, 4, .inl f_kindOf))]) [2, 3, 0, 1] rfl) (hD.sub (ws' := [(h0, .inr (10, vL 67 Fh)), (h_s, .inl (cI, 335, .inl f_s)), (h_paceAt, .inl (cI, 40, .inl f_paceAt)), (h_kindOf, .inl (cI, 4, .inl f_kindOf))]) [2, 3, 0, 1] (by decide) rfl) dX10_isLeaf_208 rfl (Nat.le_of_ble_eq_true rfl) (Nat.le_of_ble_eq_true rfl) ⟨Fh, x_lineTime, x_linePace, x_inside, x_late, x_seed, f_paceAt, f_kindOf, SAME.rf, e_lineTime, e_linePace, e_inside, i_x_inside, e_late, i_x_late, e_seed, (show 0 ≤ (0 : Int32).toInt ∧ (0 : Int32).toInt ≤ 1 by decide), rfl⟩
                · have dc47 : v40.toInt = p3.toInt := eq_i (a := v40.toInt) (b := p3.toInt) rfl rfl c47
                  refine lv_iconst (v := 1) hx hb dX10_isLeaf_188 (by decide) ?_
                  refine lv_goto (tgt := 208) hx hb dX10_isLeaf_189 (by decide) ?_
                  exact ret_i (v := 1) hx hb hr hlocks hS (hP.sub (ws' := [(h0, .inr (10, vL 67 Fh)), (h_s, .inl (cI, 335, .inl f_s)), (h_paceAt, .inl (cI, 40, .inl f_paceAt)), (h_kindOf, .inl (cI, 4, .inl f_kindOf))]) [2, 3, 0, 1] rfl) (hD.sub (ws' := [(h0, .inr (10, vL 67 Fh)), (h_s, .inl (cI, 335, .inl f_s)), (h_paceAt, .inl (cI, 40, .inl f_paceAt)), (h_kindOf, .inl (cI, 4, .inl f_kindOf))]) [2, 3, 0, 1] (by decide) rfl) dX10_isLeaf_208 rfl (Nat.le_of_ble_eq_true rfl) (Nat.le_of_ble_eq_true rfl) ⟨Fh, x_lineTime, x_linePace, x_inside, x_late, x_seed, f_paceAt, f_kindOf, SAME.rf, e_lineTime, e_linePace, e_inside, i_x_inside, e_late, i_x_late, e_seed, (show 0 ≤ (1 : Int32).toInt ∧ (1 : Int32).toInt ≤ 1 by decide), rfl⟩
            · have dc41 : p2.toInt = 60 := eq_i (a := p2.toInt) (b := 60) rfl rfl c41
              have k48 : 60 ≤ p2.toInt ∧ p2.toInt ≤ 60 := ⟨Int.le_trans (Int.le_refl _) (Int.le_of_eq dc41.symm), Int.le_trans (Int.le_of_eq dc41) (Int.le_refl _)⟩
              refine lv_iload hx hb dX10_isLeaf_160 (lv_at hl 0 rfl) ?_
              refine lv_iload hx hb dX10_isLeaf_162 (lv_at hl 6 rfl) ?_
              refine lv_icmp_ge (tgt := 171) hx hb dX10_isLeaf_164 (by decide) (fun c49 => ?_) (fun c49 => ?_)
              · have dc49 : p3.toInt ≤ v40.toInt := le_i (a := p3.toInt) (b := v40.toInt) rfl rfl c49
                refine lv_iconst (v := 0) hx hb dX10_isLeaf_171 (by decide) ?_
                refine lv_goto (tgt := 208) hx hb dX10_isLeaf_172 (by decide) ?_
                exact ret_i (v := 0) hx hb hr hlocks hS (hP.sub (ws' := [(h0, .inr (10, vL 67 Fh)), (h_s, .inl (cI, 335, .inl f_s)), (h_paceAt, .inl (cI, 40, .inl f_paceAt)), (h_kindOf, .inl (cI, 4, .inl f_kindOf))]) [2, 3, 0, 1] rfl) (hD.sub (ws' := [(h0, .inr (10, vL 67 Fh)), (h_s, .inl (cI, 335, .inl f_s)), (h_paceAt, .inl (cI, 40, .inl f_paceAt)), (h_kindOf, .inl (cI, 4, .inl f_kindOf))]) [2, 3, 0, 1] (by decide) rfl) dX10_isLeaf_208 rfl (Nat.le_of_ble_eq_true rfl) (Nat.le_of_ble_eq_true rfl) ⟨Fh, x_lineTime, x_linePace, x_inside, x_late, x_seed, f_paceAt, f_kindOf, SAME.rf, e_lineTime, e_linePace, e_inside, i_x_inside, e_late, i_x_late, e_seed, (show 0 ≤ (0 : Int32).toInt ∧ (0 : Int32).toInt ≤ 1 by decide), rfl⟩
              · have dc49 : v40.toInt < p3.toInt := nle_i (a := p3.toInt) (b := v40.toInt) rfl rfl c49
                have k50 : (-2147483648) ≤ v40.toInt ∧ v40.toInt ≤ 2147483646 := ⟨(ir_any _).1, up_lt dc49 (ir_any _).2 (by decide)⟩
                have k51 : (-2147483647) ≤ p3.toInt ∧ p3.toInt ≤ 2147483647 := ⟨lo_lt dc49 (ir_any _).1 (by decide), (ir_any _).2⟩
                refine lv_iconst (v := 1) hx hb dX10_isLeaf_167 (by decide) ?_
                refine lv_goto (tgt := 208) hx hb dX10_isLeaf_168 (by decide) ?_
                exact ret_i (v := 1) hx hb hr hlocks hS (hP.sub (ws' := [(h0, .inr (10, vL 67 Fh)), (h_s, .inl (cI, 335, .inl f_s)), (h_paceAt, .inl (cI, 40, .inl f_paceAt)), (h_kindOf, .inl (cI, 4, .inl f_kindOf))]) [2, 3, 0, 1] rfl) (hD.sub (ws' := [(h0, .inr (10, vL 67 Fh)), (h_s, .inl (cI, 335, .inl f_s)), (h_paceAt, .inl (cI, 40, .inl f_paceAt)), (h_kindOf, .inl (cI, 4, .inl f_kindOf))]) [2, 3, 0, 1] (by decide) rfl) dX10_isLeaf_208 rfl (Nat.le_of_ble_eq_true rfl) (Nat.le_of_ble_eq_true rfl) ⟨Fh, x_lineTime, x_linePace, x_inside, x_late, x_seed, f_paceAt, f_kindOf, SAME.rf, e_lineTime, e_linePace, e_inside, i_x_inside, e_late, i_x_late, e_seed, (show 0 ≤ (1 : Int32).toInt ∧ (1 : Int32).toInt ≤ 1 by decide), rfl⟩
        · have dc7 : p1.toInt = 3 := eq_i (a := p1.toInt) (b := 3) rfl rfl c7
          have k52 : 3 ≤ p1.toInt ∧ p1.toInt ≤ 3 := ⟨Int.le_trans (Int.le_refl _) (Int.le_of_eq dc7.symm), Int.le_trans (Int.le_of_eq dc7) (Int.le_refl _)⟩
          refine lv_aload_n hx hb dX10_isLeaf_105 rfl (lv_at hl 1 rfl) ?_
          refine get_f (D := D) (ci := 10) (v := .ref h_s) (C := RX10) (T := TX10) (N := 67) hx hb hw inAX10 hown hK hP 2 rfl rfl 6 (by decide) (hw _ q_1267) (fun _ h9 => h9) e_s dX10_isLeaf_106 ?_
          refine lv_bipush (v := 8) hx hb dX10_isLeaf_109 (by decide) ?_
          refine lv_iload_n hx hb dX10_isLeaf_111 rfl (lv_at hl 2 rfl) ?_
          refine lv_iadd hx hb dX10_isLeaf_112 ?_
          refine lv_topi (fun v53 ev53 => ?_)
          have bv53 : v53.toInt = 8 + p0.toInt := by rw [ev53]; exact add_k rfl rfl ⟨Int.le_refl _, Int.le_refl _⟩ i_p0 (by decide)
          have k54 : 8 ≤ v53.toInt ∧ v53.toInt ≤ 19 := add_r bv53 ⟨Int.le_refl _, Int.le_refl _⟩ i_p0 (by decide)
          refine va_iald hx hb hK hP 3 0 rfl rfl (ix_k k54 (by decide) (by decide)) dX10_isLeaf_113 ?_
          refine lv_topi (fun v55 ev55 => ?_)
          refine lv_goto (tgt := 152) hx hb dX10_isLeaf_114 (by decide) ?_
          refine lv_istore (lv' := [(6, .int v55), (5, .int r1), (0, .ref h0), (1, .int p0), (2, .int p1), (3, .int p2), (4, .int p3)]) hx hb dX10_isLeaf_152 hl (by decide) rfl (fun ls hl => ?_)
          refine lv_iload_n hx hb dX10_isLeaf_154 rfl (lv_at hl 5 rfl) ?_
          refine lv_bipush (v := 60) hx hb dX10_isLeaf_155 (by decide) ?_
          refine lv_icmp_ne (tgt := 175) hx hb dX10_isLeaf_157 (by decide) (fun c56 => ?_) (fun c56 => ?_)
          · have dc56 : p2.toInt ≠ 60 := ne_i (a := p2.toInt) (b := 60) rfl rfl c56
            refine lv_iload_n hx hb dX10_isLeaf_175 rfl (lv_at hl 5 rfl) ?_
            refine lv_bipush (v := 61) hx hb dX10_isLeaf_176 (by decide) ?_
            refine lv_icmp_ne (tgt := 196) hx hb dX10_isLeaf_178 (by decide) (fun c57 => ?_) (fun c57 => ?_)
            · have dc57 : p2.toInt ≠ 61 := ne_i (a := p2.toInt) (b := 61) rfl rfl c57
              refine lv_iload hx hb dX10_isLeaf_196 (lv_at hl 0 rfl) ?_
              refine lv_iload hx hb dX10_isLeaf_198 (lv_at hl 6 rfl) ?_
              refine lv_icmp_le (tgt := 207) hx hb dX10_isLeaf_200 (by decide) (fun c58 => ?_) (fun c58 => ?_)
              · have dc58 : v55.toInt ≤ p3.toInt := le_i (a := v55.toInt) (b := p3.toInt) rfl rfl c58
                refine lv_iconst (v := 0) hx hb dX10_isLeaf_207 (by decide) ?_
                exact ret_i (v := 0) hx hb hr hlocks hS (hP.sub (ws' := [(h0, .inr (10, vL 67 Fh)), (h_s, .inl (cI, 335, .inl f_s)), (h_paceAt, .inl (cI, 40, .inl f_paceAt)), (h_kindOf, .inl (cI, 4, .inl f_kindOf))]) [2, 3, 0, 1] rfl) (hD.sub (ws' := [(h0, .inr (10, vL 67 Fh)), (h_s, .inl (cI, 335, .inl f_s)), (h_paceAt, .inl (cI, 40, .inl f_paceAt)), (h_kindOf, .inl (cI, 4, .inl f_kindOf))]) [2, 3, 0, 1] (by decide) rfl) dX10_isLeaf_208 rfl (Nat.le_of_ble_eq_true rfl) (Nat.le_of_ble_eq_true rfl) ⟨Fh, x_lineTime, x_linePace, x_inside, x_late, x_seed, f_paceAt, f_kindOf, SAME.rf, e_lineTime, e_linePace, e_inside, i_x_inside, e_late, i_x_late, e_seed, (show 0 ≤ (0 : Int32).toInt ∧ (0 : Int32).toInt ≤ 1 by decide), rfl⟩
              · have dc58 : p3.toInt < v55.toInt := nle_i (a := v55.toInt) (b := p3.toInt) rfl rfl c58
                have k59 : (-2147483648) ≤ p3.toInt ∧ p3.toInt ≤ 2147483646 := ⟨(ir_any _).1, up_lt dc58 (ir_any _).2 (by decide)⟩
                have k60 : (-2147483647) ≤ v55.toInt ∧ v55.toInt ≤ 2147483647 := ⟨lo_lt dc58 (ir_any _).1 (by decide), (ir_any _).2⟩
                refine lv_iconst (v := 1) hx hb dX10_isLeaf_203 (by decide) ?_
                refine lv_goto (tgt := 208) hx hb dX10_isLeaf_204 (by decide) ?_
                exact ret_i (v := 1) hx hb hr hlocks hS (hP.sub (ws' := [(h0, .inr (10, vL 67 Fh)), (h_s, .inl (cI, 335, .inl f_s)), (h_paceAt, .inl (cI, 40, .inl f_paceAt)), (h_kindOf, .inl (cI, 4, .inl f_kindOf))]) [2, 3, 0, 1] rfl) (hD.sub (ws' := [(h0, .inr (10, vL 67 Fh)), (h_s, .inl (cI, 335, .inl f_s)), (h_paceAt, .inl (cI, 40, .inl f_paceAt)), (h_kindOf, .inl (cI, 4, .inl f_kindOf))]) [2, 3, 0, 1] (by decide) rfl) dX10_isLeaf_208 rfl (Nat.le_of_ble_eq_true rfl) (Nat.le_of_ble_eq_true rfl) ⟨Fh, x_lineTime, x_linePace, x_inside, x_late, x_seed, f_paceAt, f_kindOf, SAME.rf, e_lineTime, e_linePace, e_inside, i_x_inside, e_late, i_x_late, e_seed, (show 0 ≤ (1 : Int32).toInt ∧ (1 : Int32).toInt ≤ 1 by decide), rfl⟩
            · have dc57 : p2.toInt = 61 := eq_i (a := p2.toInt) (b := 61) rfl rfl c57
              have k61 : 61 ≤ p2.toInt ∧ p2.toInt ≤ 61 := ⟨Int.le_trans (Int.le_refl _) (Int.le_of_eq dc57.symm), Int.le_trans (Int.le_of_eq dc57) (Int.le_refl _)⟩
              refine lv_iload hx hb dX10_isLeaf_181 (lv_at hl 0 rfl) ?_
              refine lv_iload hx hb dX10_isLeaf_183 (lv_at hl 6 rfl) ?_
              refine lv_icmp_ne (tgt := 192) hx hb dX10_isLeaf_185 (by decide) (fun c62 => ?_) (fun c62 => ?_)
              · have dc62 : v55.toInt ≠ p3.toInt := ne_i (a := v55.toInt) (b := p3.toInt) rfl rfl c62
                refine lv_iconst (v := 0) hx hb dX10_isLeaf_192 (by decide) ?_
                refine lv_goto (tgt := 208) hx hb dX10_isLeaf_193 (by decide) ?_
                exact ret_i (v := 0) hx hb hr hlocks hS (hP.sub (ws' := [(h0, .inr (10, vL 67 Fh)), (h_s, .inl (cI, 335, .inl f_s)), (h_paceAt, .inl (cI, 40, .inl f_paceAt)), (h_kindOf, .inl (cI, 4, .inl f_kindOf))]) [2, 3, 0, 1] rfl) (hD.sub (ws' := [(h0, .inr (10, vL 67 Fh)), (h_s, .inl (cI, 335, .inl f_s)), (h_paceAt, .inl (cI, 40, .inl f_paceAt)), (h_kindOf, .inl (cI, 4, .inl f_kindOf))]) [2, 3, 0, 1] (by decide) rfl) dX10_isLeaf_208 rfl (Nat.le_of_ble_eq_true rfl) (Nat.le_of_ble_eq_true rfl) ⟨Fh, x_lineTime, x_linePace, x_inside, x_late, x_seed, f_paceAt, f_kindOf, SAME.rf, e_lineTime, e_linePace, e_inside, i_x_inside, e_late, i_x_late, e_seed, (show 0 ≤ (0 : Int32).toInt ∧ (0 : Int32).toInt ≤ 1 by decide), rfl⟩
              · have dc62 : v55.toInt = p3.toInt := eq_i (a := v55.toInt) (b := p3.toInt) rfl rfl c62
                refine lv_iconst (v := 1) hx hb dX10_isLeaf_188 (by decide) ?_
                refine lv_goto (tgt := 208) hx hb dX10_isLeaf_189 (by decide) ?_
                exact ret_i (v := 1) hx hb hr hlocks hS (hP.sub (ws' := [(h0, .inr (10, vL 67 Fh)), (h_s, .inl (cI, 335, .inl f_s)), (h_paceAt, .inl (cI, 40, .inl f_paceAt)), (h_kindOf, .inl (cI, 4, .inl f_kindOf))]) [2, 3, 0, 1] rfl) (hD.sub (ws' := [(h0, .inr (10, vL 67 Fh)), (h_s, .inl (cI, 335, .inl f_s)), (h_paceAt, .inl (cI, 40, .inl f_paceAt)), (h_kindOf, .inl (cI, 4, .inl f_kindOf))]) [2, 3, 0, 1] (by decide) rfl) dX10_isLeaf_208 rfl (Nat.le_of_ble_eq_true rfl) (Nat.le_of_ble_eq_true rfl) ⟨Fh, x_lineTime, x_linePace, x_inside, x_late, x_seed, f_paceAt, f_kindOf, SAME.rf, e_lineTime, e_linePace, e_inside, i_x_inside, e_late, i_x_late, e_seed, (show 0 ≤ (1 : Int32).toInt ∧ (1 : Int32).toInt ≤ 1 by decide), rfl⟩
          · have dc56 : p2.toInt = 60 := eq_i (a := p2.toInt) (b := 60) rfl rfl c56
            have k63 : 60 ≤ p2.toInt ∧ p2.toInt ≤ 60 := ⟨Int.le_trans (Int.le_refl _) (Int.le_of_eq dc56.symm), Int.le_trans (Int.le_of_eq dc56) (Int.le_refl _)⟩
            refine lv_iload hx hb dX10_isLeaf_160 (lv_at hl 0 rfl) ?_
            refine lv_iload hx hb dX10_isLeaf_162 (lv_at hl 6 rfl) ?_
            refine lv_icmp_ge (tgt := 171) hx hb dX10_isLeaf_164 (by decide) (fun c64 => ?_) (fun c64 => ?_)
            · have dc64 : p3.toInt ≤ v55.toInt := le_i (a := p3.toInt) (b := v55.toInt) rfl rfl c64
              refine lv_iconst (v := 0) hx hb dX10_isLeaf_171 (by decide) ?_
              refine lv_goto (tgt := 208) hx hb dX10_isLeaf_172 (by decide) ?_
              exact ret_i (v := 0) hx hb hr hlocks hS (hP.sub (ws' := [(h0, .inr (10, vL 67 Fh)), (h_s, .inl (cI, 335, .inl f_s)), (h_paceAt, .inl (cI, 40, .inl f_paceAt)), (h_kindOf, .inl (cI, 4, .inl f_kindOf))]) [2, 3, 0, 1] rfl) (hD.sub (ws' := [(h0, .inr (10, vL 67 Fh)), (h_s, .inl (cI, 335, .inl f_s)), (h_paceAt, .inl (cI, 40, .inl f_paceAt)), (h_kindOf, .inl (cI, 4, .inl f_kindOf))]) [2, 3, 0, 1] (by decide) rfl) dX10_isLeaf_208 rfl (Nat.le_of_ble_eq_true rfl) (Nat.le_of_ble_eq_true rfl) ⟨Fh, x_lineTime, x_linePace, x_inside, x_late, x_seed, f_paceAt, f_kindOf, SAME.rf, e_lineTime, e_linePace, e_inside, i_x_inside, e_late, i_x_late, e_seed, (show 0 ≤ (0 : Int32).toInt ∧ (0 : Int32).toInt ≤ 1 by decide), rfl⟩
            · have dc64 : v55.toInt < p3.toInt := nle_i (a := p3.toInt) (b := v55.toInt) rfl rfl c64
              have k65 : (-2147483648) ≤ v55.toInt ∧ v55.toInt ≤ 2147483646 := ⟨(ir_any _).1, up_lt dc64 (ir_any _).2 (by decide)⟩
              have k66 : (-2147483647) ≤ p3.toInt ∧ p3.toInt ≤ 2147483647 := ⟨lo_lt dc64 (ir_any _).1 (by decide), (ir_any _).2⟩
              refine lv_iconst (v := 1) hx hb dX10_isLeaf_167 (by decide) ?_
              refine lv_goto (tgt := 208) hx hb dX10_isLeaf_168 (by decide) ?_
              exact ret_i (v := 1) hx hb hr hlocks hS (hP.sub (ws' := [(h0, .inr (10, vL 67 Fh)), (h_s, .inl (cI, 335, .inl f_s)), (h_paceAt, .inl (cI, 40, .inl f_paceAt)), (h_kindOf, .inl (cI, 4, .inl f_kindOf))]) [2, 3, 0, 1] rfl) (hD.sub (ws' := [(h0, .inr (10, vL 67 Fh)), (h_s, .inl (cI, 335, .inl f_s)), (h_paceAt, .inl (cI, 40, .inl f_paceAt)), (h_kindOf, .inl (cI, 4, .inl f_kindOf))]) [2, 3, 0, 1] (by decide) rfl) dX10_isLeaf_208 rfl (Nat.le_of_ble_eq_true rfl) (Nat.le_of_ble_eq_true rfl) ⟨Fh, x_lineTime, x_linePace, x_inside, x_late, x_seed, f_paceAt, f_kindOf, SAME.rf, e_lineTime, e_linePace, e_inside, i_x_inside, e_late, i_x_late, e_seed, (show 0 ≤ (1 : Int32).toInt ∧ (1 : Int32).toInt ≤ 1 by decide), rfl⟩
      · have dc6 : p1.toInt = 2 := eq_i (a := p1.toInt) (b := 2) rfl rfl c6
        have k67 : 2 ≤ p1.toInt ∧ p1.toInt ≤ 2 := ⟨Int.le_trans (Int.le_refl _) (Int.le_of_eq dc6.symm), Int.le_trans (Int.le_of_eq dc6) (Int.le_refl _)⟩
        refine lv_iload hx hb dX10_isLeaf_53 (lv_at hl 0 rfl) ?_
        refine lv_if_lt (tgt := 98) hx hb dX10_isLeaf_55 (by decide) (fun c68 => ?_) (fun c68 => ?_)
        · have dc68 : r1.toInt < 0 := lt_i (a := r1.toInt) (b := 0) rfl rfl c68
          have k69 : (-1) ≤ r1.toInt ∧ r1.toInt ≤ (-1) := ⟨t2.1, up_lt dc68 (Int.le_refl _) (by decide)⟩
          refine lv_iconst (v := 0) hx hb dX10_isLeaf_98 (by decide) ?_
          exact ret_i (v := 0) hx hb hr hlocks hS (hP.sub (ws' := [(h0, .inr (10, vL 67 Fh)), (h_s, .inl (cI, 335, .inl f_s)), (h_paceAt, .inl (cI, 40, .inl f_paceAt)), (h_kindOf, .inl (cI, 4, .inl f_kindOf))]) [2, 3, 0, 1] rfl) (hD.sub (ws' := [(h0, .inr (10, vL 67 Fh)), (h_s, .inl (cI, 335, .inl f_s)), (h_paceAt, .inl (cI, 40, .inl f_paceAt)), (h_kindOf, .inl (cI, 4, .inl f_kindOf))]) [2, 3, 0, 1] (by decide) rfl) dX10_isLeaf_99 rfl (Nat.le_of_ble_eq_true rfl) (Nat.le_of_ble_eq_true rfl) ⟨Fh, x_lineTime, x_linePace, x_inside, x_late, x_seed, f_paceAt, f_kindOf, SAME.rf, e_lineTime, e_linePace, e_inside, i_x_inside, e_late, i_x_late, e_seed, (show 0 ≤ (0 : Int32).toInt ∧ (0 : Int32).toInt ≤ 1 by decide), rfl⟩
        · have dc68 : 0 ≤ r1.toInt := nlt_i (a := r1.toInt) (b := 0) rfl rfl c68
          have k70 : 0 ≤ r1.toInt ∧ r1.toInt ≤ 3 := ⟨Int.le_trans (Int.le_refl _) dc68, t2.2⟩
          refine lv_aload_n hx hb dX10_isLeaf_58 rfl (lv_at hl 1 rfl) ?_
          refine lv_iload hx hb dX10_isLeaf_59 (lv_at hl 5 rfl) ?_
          refine call_Vi (wr := [(h_paceAt, .inl (cI, 40, .inl f_paceAt)), (h_kindOf, .inl (cI, 4, .inl f_kindOf))]) (As := [.int p3]) (rest := []) hx hb hml hown hw (m_X10_placeOf l D cI cJ cB cP cM cZ h0 h_s Fh f_s p3 _ e_s s_s_K0 s_s_0 s_s_105 s_s_114 s_s_130 s_s_139 s_s_153 s_s_44 s_s_5 s_s_6 s_s_7) wV_X10_288_X10_placeOf dX10_isLeaf_61 hK hP hD hS hA [2, 3] [0, 1] rfl rfl (by decide) (by decide) (by decide) 0 10 rfl rfl GG.fb hG.at hl.1 rfl (Nat.le_of_ble_eq_true rfl) ⟨(Nat.le_of_ble_eq_true rfl), (Nat.le_of_ble_eq_true rfl)⟩ ⟨(Nat.le_of_ble_eq_true rfl), (Nat.le_of_ble_eq_true rfl)⟩ (fun r71 u H locs hp hP hD hS => ?_)
          obtain ⟨t72, rfl⟩ := hp
          have hP : va_P D vwCl [(h_paceAt, .inl (cI, 40, .inl f_paceAt)), (h_kindOf, .inl (cI, 4, .inl f_kindOf)), (h0, .inr (10, vL 67 Fh)), (h_s, .inl (cI, 335, .inl f_s))] H := hP
          have hD : va_D A [(h_paceAt, .inl (cI, 40, .inl f_paceAt)), (h_kindOf, .inl (cI, 4, .inl f_kindOf)), (h0, .inr (10, vL 67 Fh)), (h_s, .inl (cI, 335, .inl f_s))] := hD
          refine W.widen (k := 0) (n := 0) (Nat.le_of_ble_eq_true rfl) (Nat.le_of_ble_eq_true rfl) ?_
          refine lv_if_lt (tgt := 98) hx hb dX10_isLeaf_64 (by decide) (fun c74 => ?_) (fun c74 => ?_)
          · have dc74 : r71.toInt < 0 := lt_i (a := r71.toInt) (b := 0) rfl rfl c74
            have k75 : (-1) ≤ r71.toInt ∧ r71.toInt ≤ (-1) := ⟨t72.1, up_lt dc74 (Int.le_refl _) (by decide)⟩
            refine lv_iconst (v := 0) hx hb dX10_isLeaf_98 (by decide) ?_
            exact ret_i (v := 0) hx hb hr hlocks hS (hP.sub (ws' := [(h0, .inr (10, vL 67 Fh)), (h_s, .inl (cI, 335, .inl f_s)), (h_paceAt, .inl (cI, 40, .inl f_paceAt)), (h_kindOf, .inl (cI, 4, .inl f_kindOf))]) [2, 3, 0, 1] rfl) (hD.sub (ws' := [(h0, .inr (10, vL 67 Fh)), (h_s, .inl (cI, 335, .inl f_s)), (h_paceAt, .inl (cI, 40, .inl f_paceAt)), (h_kindOf, .inl (cI, 4, .inl f_kindOf))]) [2, 3, 0, 1] (by decide) rfl) dX10_isLeaf_99 rfl (Nat.le_of_ble_eq_true rfl) (Nat.le_of_ble_eq_true rfl) ⟨Fh, x_lineTime, x_linePace, x_inside, x_late, x_seed, f_paceAt, f_kindOf, SAME.rf, e_lineTime, e_linePace, e_inside, i_x_inside, e_late, i_x_late, e_seed, (show 0 ≤ (0 : Int32).toInt ∧ (0 : Int32).toInt ≤ 1 by decide), rfl⟩
          · have dc74 : 0 ≤ r71.toInt := nlt_i (a := r71.toInt) (b := 0) rfl rfl c74
            have k76 : 0 ≤ r71.toInt ∧ r71.toInt ≤ 3 := ⟨Int.le_trans (Int.le_refl _) dc74, t72.2⟩
            refine lv_aload_n hx hb dX10_isLeaf_67 rfl (lv_at hl 1 rfl) ?_
            refine get_f (D := D) (ci := 10) (v := .ref h_s) (C := RX10) (T := TX10) (N := 67) hx hb hw inAX10 hown hK hP 2 rfl rfl 6 (by decide) (hw _ q_1267) (fun _ h9 => h9) e_s dX10_isLeaf_68 ?_
            refine lv_bipush (v := 109) hx hb dX10_isLeaf_71 (by decide) ?_
            refine lv_iload hx hb dX10_isLeaf_73 (lv_at hl 0 rfl) ?_
            refine lv_iadd hx hb dX10_isLeaf_75 ?_
            refine lv_topi (fun v77 ev77 => ?_)
            have bv77 : v77.toInt = 109 + r1.toInt := by rw [ev77]; exact add_k rfl rfl ⟨Int.le_refl _, Int.le_refl _⟩ k70 (by decide)
            have k78 : 109 ≤ v77.toInt ∧ v77.toInt ≤ 112 := add_r bv77 ⟨Int.le_refl _, Int.le_refl _⟩ k70 (by decide)
            refine va_iald hx hb hK hP 3 0 rfl rfl (ix_k k78 (by decide) (by decide)) dX10_isLeaf_76 ?_
            refine lv_topi (fun v79 ev79 => ?_)
            refine lv_aload_n hx hb dX10_isLeaf_77 rfl (lv_at hl 1 rfl) ?_
            refine get_f (D := D) (ci := 10) (v := .ref h_s) (C := RX10) (T := TX10) (N := 67) hx hb hw inAX10 hown hK hP 2 rfl rfl 6 (by decide) (hw _ q_1267) (fun _ h9 => h9) e_s dX10_isLeaf_78 ?_
            refine lv_bipush (v := 109) hx hb dX10_isLeaf_81 (by decide) ?_
            refine lv_aload_n hx hb dX10_isLeaf_83 rfl (lv_at hl 1 rfl) ?_
            refine lv_iload hx hb dX10_isLeaf_84 (lv_at hl 5 rfl) ?_
            refine call_Vi (wr := [(h_paceAt, .inl (cI, 40, .inl f_paceAt)), (h_kindOf, .inl (cI, 4, .inl f_kindOf))]) (As := [.int p3]) (rest := [.int 109, .ref h_s, .int v79]) hx hb hml hown hw (m_X10_placeOf l D cI cJ cB cP cM cZ h0 h_s Fh f_s p3 _ e_s s_s_K0 s_s_0 s_s_105 s_s_114 s_s_130 s_s_139 s_s_153 s_s_44 s_s_5 s_s_6 s_s_7) wV_X10_288_X10_placeOf dX10_isLeaf_86 hK hP hD hS hA [2, 3] [0, 1] rfl rfl (by decide) (by decide) (by decide) 0 10 rfl rfl GG.fb hG.at hl.1 rfl (Nat.le_of_ble_eq_true rfl) ⟨(Nat.le_of_ble_eq_true rfl), (Nat.le_of_ble_eq_true rfl)⟩ ⟨(Nat.le_of_ble_eq_true rfl), (Nat.le_of_ble_eq_true rfl)⟩ (fun r80 u H locs hp hP hD hS => ?_)
            obtain ⟨t81, rfl⟩ := hp
            have hP : va_P D vwCl [(h_paceAt, .inl (cI, 40, .inl f_paceAt)), (h_kindOf, .inl (cI, 4, .inl f_kindOf)), (h0, .inr (10, vL 67 Fh)), (h_s, .inl (cI, 335, .inl f_s))] H := hP
            have hD : va_D A [(h_paceAt, .inl (cI, 40, .inl f_paceAt)), (h_kindOf, .inl (cI, 4, .inl f_kindOf)), (h0, .inr (10, vL 67 Fh)), (h_s, .inl (cI, 335, .inl f_s))] := hD
            refine W.widen (k := 0) (n := 0) (Nat.le_of_ble_eq_true rfl) (Nat.le_of_ble_eq_true rfl) ?_
            refine lv_iadd hx hb dX10_isLeaf_89 ?_
            refine lv_topi (fun v83 ev83 => ?_)
            have bv83 : v83.toInt = 109 + r80.toInt := by rw [ev83]; exact add_k rfl rfl ⟨Int.le_refl _, Int.le_refl _⟩ t81 (by decide)
            have k84 : 108 ≤ v83.toInt ∧ v83.toInt ≤ 112 := add_r bv83 ⟨Int.le_refl _, Int.le_refl _⟩ t81 (by decide)
            refine va_iald hx hb hK hP 3 0 rfl rfl (ix_k k84 (by decide) (by decide)) dX10_isLeaf_90 ?_
            refine lv_topi (fun v85 ev85 => ?_)
            have r86 : IMP (105 ≤ v83.toInt → v83.toInt ≤ 108 → 0 ≤ v85.toInt ∧ v85.toInt ≤ 11) := IMP.mk (fun q1 q2 => by rw [ev85]; exact s_s_105.at _ q1 q2)
            refine lv_icmp_ge (tgt := 98) hx hb dX10_isLeaf_91 (by decide) (fun c87 => ?_) (fun c87 => ?_)
            · have dc87 : v85.toInt ≤ v79.toInt := le_i (a := v85.toInt) (b := v79.toInt) rfl rfl c87
              refine lv_iconst (v := 0) hx hb dX10_isLeaf_98 (by decide) ?_
              exact ret_i (v := 0) hx hb hr hlocks hS (hP.sub (ws' := [(h0, .inr (10, vL 67 Fh)), (h_s, .inl (cI, 335, .inl f_s)), (h_paceAt, .inl (cI, 40, .inl f_paceAt)), (h_kindOf, .inl (cI, 4, .inl f_kindOf))]) [2, 3, 0, 1] rfl) (hD.sub (ws' := [(h0, .inr (10, vL 67 Fh)), (h_s, .inl (cI, 335, .inl f_s)), (h_paceAt, .inl (cI, 40, .inl f_paceAt)), (h_kindOf, .inl (cI, 4, .inl f_kindOf))]) [2, 3, 0, 1] (by decide) rfl) dX10_isLeaf_99 rfl (Nat.le_of_ble_eq_true rfl) (Nat.le_of_ble_eq_true rfl) ⟨Fh, x_lineTime, x_linePace, x_inside, x_late, x_seed, f_paceAt, f_kindOf, SAME.rf, e_lineTime, e_linePace, e_inside, i_x_inside, e_late, i_x_late, e_seed, (show 0 ≤ (0 : Int32).toInt ∧ (0 : Int32).toInt ≤ 1 by decide), rfl⟩
            · have dc87 : v79.toInt < v85.toInt := nle_i (a := v85.toInt) (b := v79.toInt) rfl rfl c87
              have k88 : (-2147483648) ≤ v79.toInt ∧ v79.toInt ≤ 2147483646 := ⟨(ir_any _).1, up_lt dc87 (ir_any _).2 (by decide)⟩
              have k89 : (-2147483647) ≤ v85.toInt ∧ v85.toInt ≤ 2147483647 := ⟨lo_lt dc87 (ir_any _).1 (by decide), (ir_any _).2⟩
              refine lv_iconst (v := 1) hx hb dX10_isLeaf_94 (by decide) ?_
              refine lv_goto (tgt := 99) hx hb dX10_isLeaf_95 (by decide) ?_
              exact ret_i (v := 1) hx hb hr hlocks hS (hP.sub (ws' := [(h0, .inr (10, vL 67 Fh)), (h_s, .inl (cI, 335, .inl f_s)), (h_paceAt, .inl (cI, 40, .inl f_paceAt)), (h_kindOf, .inl (cI, 4, .inl f_kindOf))]) [2, 3, 0, 1] rfl) (hD.sub (ws' := [(h0, .inr (10, vL 67 Fh)), (h_s, .inl (cI, 335, .inl f_s)), (h_paceAt, .inl (cI, 40, .inl f_paceAt)), (h_kindOf, .inl (cI, 4, .inl f_kindOf))]) [2, 3, 0, 1] (by decide) rfl) dX10_isLeaf_99 rfl (Nat.le_of_ble_eq_true rfl) (Nat.le_of_ble_eq_true rfl) ⟨Fh, x_lineTime, x_linePace, x_inside, x_late, x_seed, f_paceAt, f_kindOf, SAME.rf, e_lineTime, e_linePace, e_inside, i_x_inside, e_late, i_x_late, e_seed, (show 0 ≤ (1 : Int32).toInt ∧ (1 : Int32).toInt ≤ 1 by decide), rfl⟩
    · have dc5 : p1.toInt = 1 := eq_i (a := p1.toInt) (b := 1) rfl rfl c5
      have k90 : 1 ≤ p1.toInt ∧ p1.toInt ≤ 1 := ⟨Int.le_trans (Int.le_refl _) (Int.le_of_eq dc5.symm), Int.le_trans (Int.le_of_eq dc5) (Int.le_refl _)⟩
      refine lv_iload hx hb dX10_isLeaf_27 (lv_at hl 0 rfl) ?_
      refine lv_if_ge (tgt := 34) hx hb dX10_isLeaf_29 (by decide) (fun c91 => ?_) (fun c91 => ?_)
      · have dc91 : 0 ≤ r1.toInt := le_i (a := 0) (b := r1.toInt) rfl rfl c91
        have k92 : 0 ≤ r1.toInt ∧ r1.toInt ≤ 3 := ⟨Int.le_trans (Int.le_refl _) dc91, t2.2⟩
        refine lv_aload_n hx hb dX10_isLeaf_34 rfl (lv_at hl 1 rfl) ?_
        refine call_Vv (wr := []) (As := []) (rest := []) hx hb hml hown hw (m_X10_starts l D cI cJ cB cP cM cZ h0 h_s h_paceAt h_kindOf Fh x_seed x_kicks f_s f_paceAt f_kindOf _ e_s e_paceAt e_kindOf e_seed e_kicks i_x_kicks s_s_K0 s_s_0 s_s_105 s_s_114 s_s_130 s_s_139 s_s_153 s_s_44 s_s_5 s_s_6 s_s_7) wV_X10_340_X10_starts dX10_isLeaf_35 hK hP hD hS hA [2, 3, 0, 1] [] rfl rfl (by decide) (by decide) (by decide) 0 10 rfl rfl GG.fb hG.at hl.1 rfl (Nat.le_of_ble_eq_true rfl) ⟨(Nat.le_of_ble_eq_true rfl), (Nat.le_of_ble_eq_true rfl)⟩ ⟨(Nat.le_of_ble_eq_true rfl), (Nat.le_of_ble_eq_true rfl)⟩ (fun u H locs hp hP hD hS => ?_)
        obtain ⟨F94, y95, y96, y97, y98, y99, g100, g101, t102, t103, t104, t105, t106, t107, t108, t109, t110, rfl⟩ := hp
        have hP : va_P D vwCl [(h0, .inr (10, vL 67 F94)), (h_s, .inl (cI, 335, .inl f_s)), (h_paceAt, .inl (cI, 40, .inl g100)), (h_kindOf, .inl (cI, 4, .inl g101))] H := hP
        have hD : va_D A [(h0, .inr (10, vL 67 F94)), (h_s, .inl (cI, 335, .inl f_s)), (h_paceAt, .inl (cI, 40, .inl g100)), (h_kindOf, .inl (cI, 4, .inl g101))] := hD
        refine W.widen (k := 0) (n := 0) (Nat.le_of_ble_eq_true rfl) (Nat.le_of_ble_eq_true rfl) ?_
        refine lv_aload_n hx hb dX10_isLeaf_38 rfl (lv_at hl 1 rfl) ?_
        refine get_f (D := D) (ci := 10) (v := .int y97) (C := RX10) (T := TX10) (N := 67) hx hb hw inAX10 hown hK hP 0 rfl rfl 29 (by decide) (hw _ q_1290) (fun _ h9 => h9) t106 dX10_isLeaf_39 ?_
        refine lv_iload hx hb dX10_isLeaf_42 (lv_at hl 0 rfl) ?_
        refine call_Si (wr := [(h0, .inr (10, vL 67 F94)), (h_s, .inl (cI, 335, .inl f_s)), (h_paceAt, .inl (cI, 40, .inl g100)), (h_kindOf, .inl (cI, 4, .inl g101))]) (As := [.int y97, .int r1]) (rest := []) hx hb hml hown hw (m_X10_bitOf l D cI cJ cB cP cM cZ y97 r1 _ ) wS_X10_232_X10_bitOf dX10_isLeaf_44 hP hD hS hA [] [0, 1, 2, 3] rfl rfl (by decide) (by decide) (by decide) GG.fb hG.at hl.1 rfl (Nat.le_of_ble_eq_true rfl) ⟨(Nat.le_of_ble_eq_true rfl), (Nat.le_of_ble_eq_true rfl)⟩ ⟨(Nat.le_of_ble_eq_true rfl), (Nat.le_of_ble_eq_true rfl)⟩ (fun r112 u H locs hp hP hD hS => ?_)
        rcases hp with ⟨rfl, rfl⟩ | ⟨rfl, rfl⟩
        · have hP : va_P D vwCl [(h0, .inr (10, vL 67 F94)), (h_s, .inl (cI, 335, .inl f_s)), (h_paceAt, .inl (cI, 40, .inl g100)), (h_kindOf, .inl (cI, 4, .inl g101))] H := hP
          have hD : va_D A [(h0, .inr (10, vL 67 F94)), (h_s, .inl (cI, 335, .inl f_s)), (h_paceAt, .inl (cI, 40, .inl g100)), (h_kindOf, .inl (cI, 4, .inl g101))] := hD
          refine W.widen (k := 0) (n := 0) (Nat.le_of_ble_eq_true rfl) (Nat.le_of_ble_eq_true rfl) ?_
          exact ret_i (v := 0) hx hb hr hlocks hS hP hD dX10_isLeaf_47 rfl (Nat.le_of_ble_eq_true rfl) (Nat.le_of_ble_eq_true rfl) ⟨F94, y95, y96, y97, y98, y99, g100, g101, (SAME.tr SAME.rf t102 (by decide)), t103, t104, t106, t107, t108, t109, t110, (show 0 ≤ (0 : Int32).toInt ∧ (0 : Int32).toInt ≤ 1 by decide), rfl⟩
        · have hP : va_P D vwCl [(h0, .inr (10, vL 67 F94)), (h_s, .inl (cI, 335, .inl f_s)), (h_paceAt, .inl (cI, 40, .inl g100)), (h_kindOf, .inl (cI, 4, .inl g101))] H := hP
          have hD : va_D A [(h0, .inr (10, vL 67 F94)), (h_s, .inl (cI, 335, .inl f_s)), (h_paceAt, .inl (cI, 40, .inl g100)), (h_kindOf, .inl (cI, 4, .inl g101))] := hD
          refine W.widen (k := 0) (n := 0) (Nat.le_of_ble_eq_true rfl) (Nat.le_of_ble_eq_true rfl) ?_
          exact ret_i (v := 1) hx hb hr hlocks hS hP hD dX10_isLeaf_47 rfl (Nat.le_of_ble_eq_true rfl) (Nat.le_of_ble_eq_true rfl) ⟨F94, y95, y96, y97, y98, y99, g100, g101, (SAME.tr SAME.rf t102 (by decide)), t103, t104, t106, t107, t108, t109, t110, (show 0 ≤ (1 : Int32).toInt ∧ (1 : Int32).toInt ≤ 1 by decide), rfl⟩
      · have dc91 : r1.toInt < 0 := nle_i (a := 0) (b := r1.toInt) rfl rfl c91
        have k114 : (-1) ≤ r1.toInt ∧ r1.toInt ≤ (-1) := ⟨t2.1, up_lt dc91 (Int.le_refl _) (by decide)⟩
        refine lv_iconst (v := 0) hx hb dX10_isLeaf_32 (by decide) ?_
        exact ret_i (v := 0) hx hb hr hlocks hS (hP.sub (ws' := [(h0, .inr (10, vL 67 Fh)), (h_s, .inl (cI, 335, .inl f_s)), (h_paceAt, .inl (cI, 40, .inl f_paceAt)), (h_kindOf, .inl (cI, 4, .inl f_kindOf))]) [2, 3, 0, 1] rfl) (hD.sub (ws' := [(h0, .inr (10, vL 67 Fh)), (h_s, .inl (cI, 335, .inl f_s)), (h_paceAt, .inl (cI, 40, .inl f_paceAt)), (h_kindOf, .inl (cI, 4, .inl f_kindOf))]) [2, 3, 0, 1] (by decide) rfl) dX10_isLeaf_33 rfl (Nat.le_of_ble_eq_true rfl) (Nat.le_of_ble_eq_true rfl) ⟨Fh, x_lineTime, x_linePace, x_inside, x_late, x_seed, f_paceAt, f_kindOf, SAME.rf, e_lineTime, e_linePace, e_inside, i_x_inside, e_late, i_x_late, e_seed, (show 0 ≤ (0 : Int32).toInt ∧ (0 : Int32).toInt ≤ 1 by decide), rfl⟩
  · have dc4 : p1.toInt = 0 := eq_i (a := p1.toInt) (b := 0) rfl rfl c4
    have k115 : 0 ≤ p1.toInt ∧ p1.toInt ≤ 0 := ⟨Int.le_trans (Int.le_refl _) (Int.le_of_eq dc4.symm), Int.le_trans (Int.le_of_eq dc4) (Int.le_refl _)⟩
    refine lv_iload hx hb dX10_isLeaf_11 (lv_at hl 0 rfl) ?_
    refine lv_if_lt (tgt := 20) hx hb dX10_isLeaf_13 (by decide) (fun c116 => ?_) (fun c116 => ?_)
    · have dc116 : r1.toInt < 0 := lt_i (a := r1.toInt) (b := 0) rfl rfl c116
      have k117 : (-1) ≤ r1.toInt ∧ r1.toInt ≤ (-1) := ⟨t2.1, up_lt dc116 (Int.le_refl _) (by decide)⟩
      refine lv_iconst (v := 0) hx hb dX10_isLeaf_20 (by decide) ?_
      exact ret_i (v := 0) hx hb hr hlocks hS (hP.sub (ws' := [(h0, .inr (10, vL 67 Fh)), (h_s, .inl (cI, 335, .inl f_s)), (h_paceAt, .inl (cI, 40, .inl f_paceAt)), (h_kindOf, .inl (cI, 4, .inl f_kindOf))]) [2, 3, 0, 1] rfl) (hD.sub (ws' := [(h0, .inr (10, vL 67 Fh)), (h_s, .inl (cI, 335, .inl f_s)), (h_paceAt, .inl (cI, 40, .inl f_paceAt)), (h_kindOf, .inl (cI, 4, .inl f_kindOf))]) [2, 3, 0, 1] (by decide) rfl) dX10_isLeaf_21 rfl (Nat.le_of_ble_eq_true rfl) (Nat.le_of_ble_eq_true rfl) ⟨Fh, x_lineTime, x_linePace, x_inside, x_late, x_seed, f_paceAt, f_kindOf, SAME.rf, e_lineTime, e_linePace, e_inside, i_x_inside, e_late, i_x_late, e_seed, (show 0 ≤ (0 : Int32).toInt ∧ (0 : Int32).toInt ≤ 1 by decide), rfl⟩
    · have dc116 : 0 ≤ r1.toInt := nlt_i (a := r1.toInt) (b := 0) rfl rfl c116
      have k118 : 0 ≤ r1.toInt ∧ r1.toInt ≤ 3 := ⟨Int.le_trans (Int.le_refl _) dc116, t2.2⟩
      refine lv_iconst (v := 1) hx hb dX10_isLeaf_16 (by decide) ?_
      refine lv_goto (tgt := 21) hx hb dX10_isLeaf_17 (by decide) ?_
      exact ret_i (v := 1) hx hb hr hlocks hS (hP.sub (ws' := [(h0, .inr (10, vL 67 Fh)), (h_s, .inl (cI, 335, .inl f_s)), (h_paceAt, .inl (cI, 40, .inl f_paceAt)), (h_kindOf, .inl (cI, 4, .inl f_kindOf))]) [2, 3, 0, 1] rfl) (hD.sub (ws' := [(h0, .inr (10, vL 67 Fh)), (h_s, .inl (cI, 335, .inl f_s)), (h_paceAt, .inl (cI, 40, .inl f_paceAt)), (h_kindOf, .inl (cI, 4, .inl f_kindOf))]) [2, 3, 0, 1] (by decide) rfl) dX10_isLeaf_21 rfl (Nat.le_of_ble_eq_true rfl) (Nat.le_of_ble_eq_true rfl) ⟨Fh, x_lineTime, x_linePace, x_inside, x_late, x_seed, f_paceAt, f_kindOf, SAME.rf, e_lineTime, e_linePace, e_inside, i_x_inside, e_late, i_x_late, e_seed, (show 0 ≤ (1 : Int32).toInt ∧ (1 : Int32).toInt ≤ 1 by decide), rfl⟩
