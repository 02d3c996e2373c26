set_option maxHeartbeats 4000000 in
set_option maxRecDepth 100000 in
theorem m_X10_line0 (l : Launch) (D : va_G) (cI cJ cB cP cM cZ : ClassId) (h0 : Nat) (h_tape : Nat) (h_h : Nat) (h_names : Nat) (h_reserved : Nat) (Fh : Nat → Value) (x_size : Int32) (x_p : Int32) (x_limit : Int32) (x_token : Int32) (x_at : Int32) (x_span : Int32) (x_number : Int32) (x_fault : Int32) (x_faultAt : Int32) (x_word : Int64) (x_got : Int32) (x_onces : Int32) (f_tape : Nat → Int32) (f_h : Nat → Int32) (f_names : Nat → Int64) (f_reserved : Nat → Int64) (sz : Nat) (e_tape : Fh 1 = .ref h_tape) (e_size : Fh 3 = .int x_size) (i_x_size : IR 0 940 x_size) (e_p : Fh 4 = .int x_p) (i_x_p : IR 0 940 x_p) (e_limit : Fh 5 = .int x_limit) (i_x_limit : IR 200 940 x_limit) (e_h : Fh 7 = .ref h_h) (e_names : Fh 9 = .ref h_names) (e_reserved : Fh 10 = .ref h_reserved) (e_token : Fh 11 = .int x_token) (i_x_token : IR 0 4 x_token) (e_at : Fh 12 = .int x_at) (e_span : Fh 13 = .int x_span) (e_number : Fh 14 = .int x_number) (e_fault : Fh 15 = .int x_fault) (e_faultAt : Fh 16 = .int x_faultAt) (e_word : Fh 18 = .long x_word) (e_got : Fh 19 = .int x_got) (e_onces : Fh 21 = .int x_onces) (s_h_0 : SG 0 0 0 40 f_h) (s_h_44 : SG 44 55 0 9 f_h) (s_h_5 : SG 5 5 0 12 f_h) (s_h_6 : SG 6 6 0 12 f_h) (s_h_7 : SG 7 7 0 6 f_h) (s_reserved_KR : KRN f_reserved) (z_0 : (VWF x_token.toInt x_word.toInt)) (z_1 : AV f_names 18 (f_h 5).toInt) (z_2 : AV f_names 30 (f_h 7).toInt) (o_0 : (x_token.toInt = 2 → 0 ≤ x_number.toInt ∧ x_number.toInt ≤ 999)) : CI l yX10_line0 cX10_line0 3 (some .boolean) { frames := 3, cells := 0, slots := 0, locals := 65 } (GG D cI cJ cB cP cM cZ) D [(h0, .inr (10, vL 67 Fh)), (h_tape, .inl (cB, 940, .inl f_tape)), (h_h, .inl (cI, 104, .inl f_h)), (h_names, .inl (cJ, 36, .inr (.inl f_names))), (h_reserved, .inl (cJ, 23, .inr (.inl f_reserved)))] sz [.ref h0] (fun (r : Int32) (u : va_W) => (∃ (Gh : Nat → Value) (y_p : Int32) (y_token : Int32) (y_at : Int32) (y_span : Int32) (y_number : Int32) (y_fault : Int32) (y_faultAt : Int32) (y_word : Int64) (y_got : Int32) (y_onces : Int32) (g_h : Nat → Int32) (g_names : Nat → Int64), SAME [4, 11, 12, 13, 14, 15, 16, 18, 19, 21] Fh Gh ∧ Gh 4 = .int y_p ∧ IR 0 940 y_p ∧ Gh 11 = .int y_token ∧ IR 0 4 y_token ∧ Gh 12 = .int y_at ∧ Gh 13 = .int y_span ∧ Gh 14 = .int y_number ∧ Gh 15 = .int y_fault ∧ IR 1 4 y_fault ∧ Gh 16 = .int y_faultAt ∧ Gh 18 = .long y_word ∧ Gh 19 = .int y_got ∧ Gh 21 = .int y_onces ∧ SG 0 0 0 40 g_h ∧ SG 5 5 0 12 g_h ∧ SG 6 6 0 12 g_h ∧ SG 7 7 0 6 g_h ∧ SG 44 55 0 9 g_h ∧ (cLine (tkA f_tape x_size.toInt x_limit.toInt) (tkM x_token x_at x_number x_word x_p) (csM x_onces f_h f_names) = .inl (y_fault.toInt, y_faultAt.toInt)) ∧ ((y_token.toInt = 2 → 0 ≤ y_number.toInt ∧ y_number.toInt ≤ 999)) ∧ r = 0 ∧ u = [(h0, .inr (10, vL 67 Gh)), (h_tape, .inl (cB, 940, .inl f_tape)), (h_h, .inl (cI, 104, .inl g_h)), (h_names, .inl (cJ, 36, .inr (.inl g_names))), (h_reserved, .inl (cJ, 23, .inr (.inl f_reserved)))]) ∨ (∃ (Gh : Nat → Value) (y_p : Int32) (y_token : Int32) (y_at : Int32) (y_span : Int32) (y_number : Int32) (y_word : Int64) (y_got : Int32) (y_onces : Int32) (g_h : Nat → Int32) (g_names : Nat → Int64), SAME [4, 11, 12, 13, 14, 18, 19, 21] Fh Gh ∧ Gh 4 = .int y_p ∧ IR 0 940 y_p ∧ Gh 11 = .int y_token ∧ IR 0 4 y_token ∧ Gh 12 = .int y_at ∧ IR 0 940 y_at ∧ Gh 13 = .int y_span ∧ IR 0 940 y_span ∧ Gh 14 = .int y_number ∧ Gh 18 = .long y_word ∧ Gh 19 = .int y_got ∧ Gh 21 = .int y_onces ∧ SG 0 0 0 40 g_h ∧ SG 5 5 0 12 g_h ∧ SG 6 6 0 12 g_h ∧ SG 7 7 0 6 g_h ∧ SG 44 55 0 9 g_h ∧ (x_p.toInt ≤ y_p.toInt) ∧ ((1 ≤ y_token.toInt → y_token.toInt ≤ 3 → x_p.toInt < y_p.toInt)) ∧ (cLine (tkA f_tape x_size.toInt x_limit.toInt) (tkM x_token x_at x_number x_word x_p) (csM x_onces f_h f_names) = .inr ((tkM y_token y_at y_number y_word y_p), (csM y_onces g_h g_names))) ∧ (x_token.toInt = 1) ∧ (AV g_names 18 (g_h 5).toInt) ∧ (AV g_names 30 (g_h 7).toInt) ∧ ((VWF y_token.toInt y_word.toInt)) ∧ ((y_token.toInt = 2 → 0 ≤ y_number.toInt ∧ y_number.toInt ≤ 999)) ∧ r = 1 ∧ u = [(h0, .inr (10, vL 67 Gh)), (h_tape, .inl (cB, 940, .inl f_tape)), (h_h, .inl (cI, 104, .inl g_h)), (h_names, .inl (cJ, 36, .inr (.inl g_names))), (h_reserved, .inl (cJ, 23, .inr (.inl f_reserved)))])) := by
  refine CI_mk (by decide) (Nat.le_of_ble_eq_true rfl) ?_
  intro p e s m below meth c A ls E hAe hG hsz hP hD hA hS hl
  obtain ⟨hx, hb, hr, hw, hown, hlocks, hml, hnm⟩ := E
  have hK := hG.1
  have i_x_size : 0 ≤ x_size.toInt ∧ x_size.toInt ≤ 940 := i_x_size
  have i_x_p : 0 ≤ x_p.toInt ∧ x_p.toInt ≤ 940 := i_x_p
  have i_x_limit : 200 ≤ x_limit.toInt ∧ x_limit.toInt ≤ 940 := i_x_limit
  have i_x_token : 0 ≤ x_token.toInt ∧ x_token.toInt ≤ 4 := i_x_token
  have hl : lv_has ls 3 [(0, .ref h0)] := hl
  refine lv_aload_n hx hb dX10_line0_0 rfl (lv_at hl 0 rfl) ?_
  refine call_Vi (wr := [(h_tape, .inl (cB, 940, .inl f_tape)), (h_h, .inl (cI, 104, .inl f_h)), (h_names, .inl (cJ, 36, .inr (.inl f_names))), (h_reserved, .inl (cJ, 23, .inr (.inl f_reserved)))]) (As := []) (rest := []) hx hb hml hown hw (m_X10_onceOf l D cI cJ cB cP cM cZ h0 Fh x_token x_number x_word _ e_token i_x_token e_number e_word z_0 (by omega)) wV_X10_236_X10_onceOf dX10_line0_1 hK hP hD hS hA [0] [1, 2, 3, 4] rfl rfl (by decide) (by decide) (by decide) 0 10 rfl rfl GG.fb hG.at hl.1 rfl (Nat.le_of_ble_eq_true rfl) ⟨(Nat.le_of_ble_eq_true rfl), (Nat.le_of_ble_eq_true rfl)⟩ ⟨(Nat.le_of_ble_eq_true rfl), (Nat.le_of_ble_eq_true rfl)⟩ (fun r1 u H locs hp hP hD hS => ?_)
  obtain ⟨t2, t3, rfl⟩ := hp
  have hP : va_P D vwCl [(h_tape, .inl (cB, 940, .inl f_tape)), (h_h, .inl (cI, 104, .inl f_h)), (h_names, .inl (cJ, 36, .inr (.inl f_names))), (h_reserved, .inl (cJ, 23, .inr (.inl f_reserved))), (h0, .inr (10, vL 67 Fh))] H := hP
  have hD : va_D A [(h_tape, .inl (cB, 940, .inl f_tape)), (h_h, .inl (cI, 104, .inl f_h)), (h_names, .inl (cJ, 36, .inr (.inl f_names))), (h_reserved, .inl (cJ, 23, .inr (.inl f_reserved))), (h0, .inr (10, vL 67 Fh))] := hD
  refine W.widen (k := 0) (n := 0) (Nat.le_of_ble_eq_true rfl) (Nat.le_of_ble_eq_true rfl) ?_
  replace t3 := ONCF.mk t3
  refine lv_istore_n (lv' := [(1, .int r1), (0, .ref h0)]) hx hb dX10_line0_4 rfl hl (by decide) rfl (fun ls hl => ?_)
  refine lv_iload_n hx hb dX10_line0_5 rfl (lv_at hl 0 rfl) ?_
  refine lv_if_lt (tgt := 113) hx hb dX10_line0_6 (by decide) (fun c5 => ?_) (fun c5 => ?_)
  · have dc5 : r1.toInt < 0 := lt_i (a := r1.toInt) (b := 0) rfl rfl c5
    have k6 : (-1) ≤ r1.toInt ∧ r1.toInt ≤ (-1) := ⟨t2.1, up_lt dc5 (Int.le_refl _) (by decide)⟩
    refine lv_aload_n hx hb dX10_line0_113 rfl (lv_at hl 1 rfl) ?_
    refine lv_ldc2 hx hb hown (hw _ q_1239) dX10_line0_114 ?_
    refine call_Vi (wr := [(h_tape, .inl (cB, 940, .inl f_tape)), (h_h, .inl (cI, 104, .inl f_h)), (h_names, .inl (cJ, 36, .inr (.inl f_names))), (h_reserved, .inl (cJ, 23, .inr (.inl f_reserved)))]) (As := [.long 7168366]) (rest := []) hx hb hml hown hw (m_X10_isWord l D cI cJ cB cP cM cZ h0 Fh x_token x_number x_word 7168366 _ e_token i_x_token e_number e_word (by omega)) wV_X10_225_X10_isWord dX10_line0_117 hK hP hD hS hA [4] [0, 1, 2, 3] rfl rfl (by decide) (by decide) (by decide) 0 10 rfl rfl GG.fb hG.at hl.1 rfl (Nat.le_of_ble_eq_true rfl) ⟨(Nat.le_of_ble_eq_true rfl), (Nat.le_of_ble_eq_true rfl)⟩ ⟨(Nat.le_of_ble_eq_true rfl), (Nat.le_of_ble_eq_true rfl)⟩ (fun r7 u H locs hp hP hD hS => ?_)
    have zl7168366 : (7168366 : Int32).toInt = 7168366 := by decide
    obtain ⟨t8, t9, rfl⟩ := hp
    have hP : va_P D vwCl [(h_tape, .inl (cB, 940, .inl f_tape)), (h_h, .inl (cI, 104, .inl f_h)), (h_names, .inl (cJ, 36, .inr (.inl f_names))), (h_reserved, .inl (cJ, 23, .inr (.inl f_reserved))), (h0, .inr (10, vL 67 Fh))] H := hP
    have hD : va_D A [(h_tape, .inl (cB, 940, .inl f_tape)), (h_h, .inl (cI, 104, .inl f_h)), (h_names, .inl (cJ, 36, .inr (.inl f_names))), (h_reserved, .inl (cJ, 23, .inr (.inl f_reserved))), (h0, .inr (10, vL 67 Fh))] := hD
    refine W.widen (k := 0) (n := 0) (Nat.le_of_ble_eq_true rfl) (Nat.le_of_ble_eq_true rfl) ?_
    replace t9 := ISWF.mk (isw (k := 5) (a := 9518) z_0 t9 (by decide) (by decide +kernel) (by decide +kernel) (by decide +kernel) (by decide +kernel))
    refine lv_if_eq (tgt := 248) hx hb dX10_line0_120 (by decide) (fun c11 => ?_) (fun c11 => ?_)
    · have dc11 : r7.toInt = 0 := eq_i (a := r7.toInt) (b := 0) rfl rfl c11
      have k12 : 0 ≤ r7.toInt ∧ r7.toInt ≤ 0 := ⟨t8.1, Int.le_trans (Int.le_of_eq dc11) (Int.le_refl _)⟩
      refine lv_aload_n hx hb dX10_line0_248 rfl (lv_at hl 1 rfl) ?_
      refine lv_ldc2 hx hb hown (hw _ q_1240) dX10_line0_249 ?_
      refine call_Vi (wr := [(h_tape, .inl (cB, 940, .inl f_tape)), (h_h, .inl (cI, 104, .inl f_h)), (h_names, .inl (cJ, 36, .inr (.inl f_names))), (h_reserved, .inl (cJ, 23, .inr (.inl f_reserved)))]) (As := [.long 1650814564]) (rest := []) hx hb hml hown hw (m_X10_isWord l D cI cJ cB cP cM cZ h0 Fh x_token x_number x_word 1650814564 _ e_token i_x_token e_number e_word (by omega)) wV_X10_225_X10_isWord dX10_line0_252 hK hP hD hS hA [4] [0, 1, 2, 3] rfl rfl (by decide) (by decide) (by decide) 0 10 rfl rfl GG.fb hG.at hl.1 rfl (Nat.le_of_ble_eq_true rfl) ⟨(Nat.le_of_ble_eq_true rfl), (Nat.le_of_ble_eq_true rfl)⟩ ⟨(Nat.le_of_ble_eq_true rfl), (Nat.le_of_ble_eq_true rfl)⟩ (fun r13 u H locs hp hP hD hS => ?_)
      have zl1650814564 : (1650814564 : Int32).toInt = 1650814564 := by decide
      obtain ⟨t14, t15, rfl⟩ := hp
      have hP : va_P D vwCl [(h_tape, .inl (cB, 940, .inl f_tape)), (h_h, .inl (cI, 104, .inl f_h)), (h_names, .inl (cJ, 36, .inr (.inl f_names))), (h_reserved, .inl (cJ, 23, .inr (.inl f_reserved))), (h0, .inr (10, vL 67 Fh))] H := hP
      have hD : va_D A [(h_tape, .inl (cB, 940, .inl f_tape)), (h_h, .inl (cI, 104, .inl f_h)), (h_names, .inl (cJ, 36, .inr (.inl f_names))), (h_reserved, .inl (cJ, 23, .inr (.inl f_reserved))), (h0, .inr (10, vL 67 Fh))] := hD
      refine W.widen (k := 0) (n := 0) (Nat.le_of_ble_eq_true rfl) (Nat.le_of_ble_eq_true rfl) ?_
      replace t15 := ISWF.mk (isw (k := 6) (a := 43393) z_0 t15 (by decide) (by decide +kernel) (by decide +kernel) (by decide +kernel) (by decide +kernel))
      refine lv_if_eq (tgt := 395) hx hb dX10_line0_255 (by decide) (fun c17 => ?_) (fun c17 => ?_)
      · have dc17 : r13.toInt = 0 := eq_i (a := r13.toInt) (b := 0) rfl rfl c17
        have k18 : 0 ≤ r13.toInt ∧ r13.toInt ≤ 0 := ⟨t14.1, Int.le_trans (Int.le_of_eq dc17) (Int.le_refl _)⟩
        refine lv_aload_n hx hb dX10_line0_395 rfl (lv_at hl 1 rfl) ?_
        refine lv_ldc2 hx hb hown (hw _ q_1241) dX10_line0_396 ?_
        refine call_Vi (wr := [(h_tape, .inl (cB, 940, .inl f_tape)), (h_h, .inl (cI, 104, .inl f_h)), (h_names, .inl (cJ, 36, .inr (.inl f_names))), (h_reserved, .inl (cJ, 23, .inr (.inl f_reserved)))]) (As := [.long 125848689468786]) (rest := []) hx hb hml hown hw (m_X10_isWord l D cI cJ cB cP cM cZ h0 Fh x_token x_number x_word 125848689468786 _ e_token i_x_token e_number e_word (by omega)) wV_X10_225_X10_isWord dX10_line0_399 hK hP hD hS hA [4] [0, 1, 2, 3] rfl rfl (by decide) (by decide) (by decide) 0 10 rfl rfl GG.fb hG.at hl.1 rfl (Nat.le_of_ble_eq_true rfl) ⟨(Nat.le_of_ble_eq_true rfl), (Nat.le_of_ble_eq_true rfl)⟩ ⟨(Nat.le_of_ble_eq_true rfl), (Nat.le_of_ble_eq_true rfl)⟩ (fun r19 u H locs hp hP hD hS => ?_)
        obtain ⟨t20, t21, rfl⟩ := hp
        have hP : va_P D vwCl [(h_tape, .inl (cB, 940, .inl f_tape)), (h_h, .inl (cI, 104, .inl f_h)), (h_names, .inl (cJ, 36, .inr (.inl f_names))), (h_reserved, .inl (cJ, 23, .inr (.inl f_reserved))), (h0, .inr (10, vL 67 Fh))] H := hP
        have hD : va_D A [(h_tape, .inl (cB, 940, .inl f_tape)), (h_h, .inl (cI, 104, .inl f_h)), (h_names, .inl (cJ, 36, .inr (.inl f_names))), (h_reserved, .inl (cJ, 23, .inr (.inl f_reserved))), (h0, .inr (10, vL 67 Fh))] := hD
        refine W.widen (k := 0) (n := 0) (Nat.le_of_ble_eq_true rfl) (Nat.le_of_ble_eq_true rfl) ?_
        replace t21 := ISWF.mk (isw (k := 7) (a := 269726508) z_0 t21 (by decide) (by decide +kernel) (by decide +kernel) (by decide +kernel) (by decide +kernel))
        refine lv_if_ne (tgt := 411) hx hb dX10_line0_402 (by decide) (fun c23 => ?_) (fun c23 => ?_)
        · have dc23 : r19.toInt ≠ 0 := ne_i (a := r19.toInt) (b := 0) rfl rfl c23
          have k24 : 1 ≤ r19.toInt ∧ r19.toInt ≤ 1 := ⟨ne_lo dc23 t20.1 ⟨Int.le_refl _, Int.le_refl _⟩ (by decide), t20.2⟩
          refine lv_aload_n hx hb dX10_line0_411 rfl (lv_at hl 1 rfl) ?_
          refine get_f (D := D) (ci := 10) (v := .ref h_h) (C := RX10) (T := TX10) (N := 67) hx hb hw inAX10 hown hK hP 4 rfl rfl 7 (by decide) (hw _ q_1268) (fun _ h9 => h9) e_h dX10_line0_412 ?_
          refine lv_bipush (v := 7) hx hb dX10_line0_415 (by decide) ?_
          refine iald_n hx hb hK hP 1 0 rfl rfl 7 rfl (Nat.le_of_ble_eq_true rfl) (Nat.le_of_ble_eq_true rfl) rfl dX10_line0_417 ?_
          refine lv_topi (fun v25 ev25 => ?_)
          have k26 : 0 ≤ v25.toInt ∧ v25.toInt ≤ 6 := by rw [ev25]; exact s_h_7.atN 7 (by decide) (by decide)
          refine lv_istore_n (lv' := [(2, .int v25), (1, .int r1), (0, .ref h0)]) hx hb dX10_line0_418 rfl hl (by decide) rfl (fun ls hl => ?_)
          refine lv_iload_n hx hb dX10_line0_419 rfl (lv_at hl 0 rfl) ?_
          refine lv_bipush (v := 6) hx hb dX10_line0_420 (by decide) ?_
          refine lv_icmp_ne (tgt := 431) hx hb dX10_line0_422 (by decide) (fun c27 => ?_) (fun c27 => ?_)
          · have dc27 : v25.toInt ≠ 6 := ne_i (a := v25.toInt) (b := 6) rfl rfl c27
            have k28 : 0 ≤ v25.toInt ∧ v25.toInt ≤ 5 := ⟨k26.1, ne_hi dc27 k26.2 ⟨Int.le_refl _, Int.le_refl _⟩ (by decide)⟩
            have r29 : SG 7 7 0 5 f_h := SG.one ev25 k28
            refine lv_aload_n hx hb dX10_line0_431 rfl (lv_at hl 2 rfl) ?_
            refine call_Vv (wr := [(h_h, .inl (cI, 104, .inl f_h)), (h_names, .inl (cJ, 36, .inr (.inl f_names))), (h_reserved, .inl (cJ, 23, .inr (.inl f_reserved)))]) (As := []) (rest := []) hx hb hml hown hw (m_X10_next l D cI cJ cB cP cM cZ h0 h_tape Fh x_size x_p x_limit x_token x_at x_number x_word f_tape _ e_tape e_size i_x_size e_p i_x_p e_limit i_x_limit e_token i_x_token e_at e_number e_word (by omega)) wV_X10_208_X10_next dX10_line0_432 hK hP hD hS hA [4, 0] [1, 2, 3] rfl rfl (by decide) (by decide) (by decide) 0 10 rfl rfl GG.fb hG.at hl.1 rfl (Nat.le_of_ble_eq_true rfl) ⟨(Nat.le_of_ble_eq_true rfl), (Nat.le_of_ble_eq_true rfl)⟩ ⟨(Nat.le_of_ble_eq_true rfl), (Nat.le_of_ble_eq_true rfl)⟩ (fun u H locs hp hP hD hS => ?_)
            obtain ⟨F31, y32, y33, y34, y35, y36, y37, t38, t39, t40, t41, t42, t43, t44, t45, t46, t47, t48, t49, t50, t51, t52, t53, rfl⟩ := hp
            have hP : va_P D vwCl [(h_h, .inl (cI, 104, .inl f_h)), (h_names, .inl (cJ, 36, .inr (.inl f_names))), (h_reserved, .inl (cJ, 23, .inr (.inl f_reserved))), (h0, .inr (10, vL 67 F31)), (h_tape, .inl (cB, 940, .inl f_tape))] H := hP
            have hD : va_D A [(h_h, .inl (cI, 104, .inl f_h)), (h_names, .inl (cJ, 36, .inr (.inl f_names))), (h_reserved, .inl (cJ, 23, .inr (.inl f_reserved))), (h0, .inr (10, vL 67 F31)), (h_tape, .inl (cB, 940, .inl f_tape))] := hD
            refine W.widen (k := 0) (n := 0) (Nat.le_of_ble_eq_true rfl) (Nat.le_of_ble_eq_true rfl) ?_
            refine lv_aload_n hx hb dX10_line0_435 rfl (lv_at hl 2 rfl) ?_
            refine lv_bipush (v := 30) hx hb dX10_line0_436 (by decide) ?_
            refine lv_iload_n hx hb dX10_line0_438 rfl (lv_at hl 0 rfl) ?_
            refine lv_iadd hx hb dX10_line0_439 ?_
            refine lv_topi (fun v55 ev55 => ?_)
            have bv55 : v55.toInt = 30 + v25.toInt := by rw [ev55]; exact add_k rfl rfl ⟨Int.le_refl _, Int.le_refl _⟩ k28 (by decide)
            have k56 : 30 ≤ v55.toInt ∧ v55.toInt ≤ 35 := add_r bv55 ⟨Int.le_refl _, Int.le_refl _⟩ k28 (by decide)
            have n57 : F31 1 = .ref h_tape := (SAME.at t38 (by decide) e_tape)
            have n58 : F31 3 = .int x_size := (SAME.at t38 (by decide) e_size)
            have n59 : F31 5 = .int x_limit := (SAME.at t38 (by decide) e_limit)
            have n60 : F31 7 = .ref h_h := (SAME.at t38 (by decide) e_h)
            have n61 : F31 9 = .ref h_names := (SAME.at t38 (by decide) e_names)
            have n62 : F31 10 = .ref h_reserved := (SAME.at t38 (by decide) e_reserved)
            have n63 : F31 15 = .int x_fault := (SAME.at t38 (by decide) e_fault)
            have n64 : F31 16 = .int x_faultAt := (SAME.at t38 (by decide) e_faultAt)
            refine call_Vi (wr := []) (As := [.int v55]) (rest := []) hx hb hml hown hw (m_X10_fresh l D cI cJ cB cP cM cZ h0 h_tape h_h h_names h_reserved F31 x_size y32 x_limit y33 y34 y36 x_fault x_faultAt y37 f_tape f_h f_names f_reserved v55 _ n57 n58 i_x_size t39 t40 n59 i_x_limit n60 n61 n62 t41 t42 t43 t47 n63 n64 t48 s_h_0 s_h_44 s_h_5 s_h_6 (SG.wk r29 (by decide) (by decide)) s_reserved_KR (ir_wk k56 (by decide) (by decide)) t52 z_1 z_2 (by omega)) wV_X10_245_X10_fresh dX10_line0_440 hK hP hD hS hA [3, 4, 0, 1, 2] [] rfl rfl (by decide) (by decide) (by decide) 0 10 rfl rfl GG.fb hG.at hl.1 rfl (Nat.le_of_ble_eq_true rfl) ⟨(Nat.le_of_ble_eq_true rfl), (Nat.le_of_ble_eq_true rfl)⟩ ⟨(Nat.le_of_ble_eq_true rfl), (Nat.le_of_ble_eq_true rfl)⟩ (fun r65 u H locs hp hP hD hS => ?_)
            rcases hp with hp | hp
            · refine hp.elim (fun F66 h9z0 => h9z0.elim (fun y67 h9z1 => h9z1.elim (fun y68 h9z2 => h9z2.elim (fun y69 h9z3 => h9z3.elim (fun y70 h9z4 => h9z4.elim (fun y71 h9z5 => h9z5.elim (fun y72 h9z6 => h9z6.elim (fun g73 h9z7 => h9z7.elim (fun t74 h9z8 => h9z8.elim (fun t75 h9z9 => h9z9.elim (fun t76 h9z10 => h9z10.elim (fun t77 h9z11 => h9z11.elim (fun t78 h9z12 => h9z12.elim (fun t79 h9z13 => h9z13.elim (fun t80 h9z14 => h9z14.elim (fun t81 h9z15 => h9z15.elim (fun t82 h9z16 => h9z16.elim (fun t83 h9z17 => h9z17.elim (fun t84 h9z18 => h9z18.elim (fun t85 h9z19 => h9z19.elim (fun t86 h9z20 => h9z20.elim (fun t87 h9z21 => h9z21.elim (fun t88 h9z22 => h9z22.elim (fun t89 h9z23 => h9z23.elim (fun t90 h9z24 => h9z24.elim (fun t91 h9z25 => h9z25.elim (fun t92 h9z26 => h9z26.elim (fun heq927 h9z27 => ?_))))))))))))))))))))))))))))
              clear h9z0 h9z1 h9z2 h9z3 h9z4 h9z5 h9z6 h9z7 h9z8 h9z9 h9z10 h9z11 h9z12 h9z13 h9z14 h9z15 h9z16 h9z17 h9z18 h9z19 h9z20 h9z21 h9z22 h9z23 h9z24 h9z25 h9z26
              subst heq927
              subst h9z27
              clear t50 t53
              have hP : va_P D vwCl [(h0, .inr (10, vL 67 F66)), (h_tape, .inl (cB, 940, .inl f_tape)), (h_h, .inl (cI, 104, .inl f_h)), (h_names, .inl (cJ, 36, .inr (.inl g73))), (h_reserved, .inl (cJ, 23, .inr (.inl f_reserved)))] H := hP
              have hD : va_D A [(h0, .inr (10, vL 67 F66)), (h_tape, .inl (cB, 940, .inl f_tape)), (h_h, .inl (cI, 104, .inl f_h)), (h_names, .inl (cJ, 36, .inr (.inl g73))), (h_reserved, .inl (cJ, 23, .inr (.inl f_reserved)))] := hD
              refine W.widen (k := 0) (n := 0) (Nat.le_of_ble_eq_true rfl) (Nat.le_of_ble_eq_true rfl) ?_
              refine lv_if_ne (tgt := 448) hx hb dX10_line0_443 (by decide) (fun _ => ?_) (fun g => absurd g (by decide))
              refine lv_aload_n hx hb dX10_line0_448 rfl (lv_at hl 2 rfl) ?_
              refine lv_iconst (v := 0) hx hb dX10_line0_449 (by decide) ?_
              refine lv_bipush (v := 20) hx hb dX10_line0_450 (by decide) ?_
              have n103 : F66 1 = .ref h_tape := (SAME.at t74 (by decide) n57)
              have n104 : F66 3 = .int x_size := (SAME.at t74 (by decide) n58)
              have n105 : F66 5 = .int x_limit := (SAME.at t74 (by decide) n59)
              have n106 : F66 15 = .int x_fault := (SAME.at t74 (by decide) n63)
              have n107 : F66 16 = .int x_faultAt := (SAME.at t74 (by decide) n64)
              have n108 : F31 19 = .int x_got := (SAME.at t38 (by decide) e_got)
              have n109 : F66 19 = .int x_got := (SAME.at t74 (by decide) n108)
              refine call_Vi (wr := [(h_h, .inl (cI, 104, .inl f_h)), (h_names, .inl (cJ, 36, .inr (.inl g73))), (h_reserved, .inl (cJ, 23, .inr (.inl f_reserved)))]) (As := [.int 0, .int 20]) (rest := []) hx hb hml hown hw (m_X10_takes l D cI cJ cB cP cM cZ h0 h_tape F66 x_size y67 x_limit y68 y69 y71 x_fault x_faultAt y72 x_got f_tape 0 20 _ n103 n104 i_x_size t75 t76 n105 i_x_limit t77 t78 t79 t83 n106 n107 t84 n109 (by omega)) wV_X10_242_X10_takes dX10_line0_452 hK hP hD hS hA [0, 1] [2, 3, 4] rfl rfl (by decide) (by decide) (by decide) 0 10 rfl rfl GG.fb hG.at hl.1 rfl (Nat.le_of_ble_eq_true rfl) ⟨(Nat.le_of_ble_eq_true rfl), (Nat.le_of_ble_eq_true rfl)⟩ ⟨(Nat.le_of_ble_eq_true rfl), (Nat.le_of_ble_eq_true rfl)⟩ (fun r110 u H locs hp hP hD hS => ?_)
              have zl0 : (0 : Int32).toInt = 0 := by decide
              have zl20 : (20 : Int32).toInt = 20 := by decide
              rcases hp with hp | hp
              · obtain ⟨F111, y112, y113, t114, t115, t116, t117, t118, rfl, rfl⟩ := hp
                have hP : va_P D vwCl [(h_h, .inl (cI, 104, .inl f_h)), (h_names, .inl (cJ, 36, .inr (.inl g73))), (h_reserved, .inl (cJ, 23, .inr (.inl f_reserved))), (h0, .inr (10, vL 67 F111)), (h_tape, .inl (cB, 940, .inl f_tape))] H := hP
                have hD : va_D A [(h_h, .inl (cI, 104, .inl f_h)), (h_names, .inl (cJ, 36, .inr (.inl g73))), (h_reserved, .inl (cJ, 23, .inr (.inl f_reserved))), (h0, .inr (10, vL 67 F111)), (h_tape, .inl (cB, 940, .inl f_tape))] := hD
                refine W.widen (k := 0) (n := 0) (Nat.le_of_ble_eq_true rfl) (Nat.le_of_ble_eq_true rfl) ?_
                refine lv_if_ne (tgt := 460) hx hb dX10_line0_455 (by decide) (fun g => absurd (by decide) g) (fun _ => ?_)
                refine lv_iconst (v := 0) hx hb dX10_line0_458 (by decide) ?_
                exact ret_i (v := 0) hx hb hr hlocks hS (hP.sub (ws' := [(h0, .inr (10, vL 67 F111)), (h_tape, .inl (cB, 940, .inl f_tape)), (h_h, .inl (cI, 104, .inl f_h)), (h_names, .inl (cJ, 36, .inr (.inl g73))), (h_reserved, .inl (cJ, 23, .inr (.inl f_reserved)))]) [3, 4, 0, 1, 2] rfl) (hD.sub (ws' := [(h0, .inr (10, vL 67 F111)), (h_tape, .inl (cB, 940, .inl f_tape)), (h_h, .inl (cI, 104, .inl f_h)), (h_names, .inl (cJ, 36, .inr (.inl g73))), (h_reserved, .inl (cJ, 23, .inr (.inl f_reserved)))]) [3, 4, 0, 1, 2] (by decide) rfl) dX10_line0_459 rfl (Nat.le_of_ble_eq_true rfl) (Nat.le_of_ble_eq_true rfl) (Or.inl ⟨F111, y67, y68, y69, y70, y71, y112, y113, y72, x_got, x_onces, f_h, g73, (SAME.tr (SAME.tr (SAME.tr SAME.rf t38 (by decide)) t74 (by decide)) t114 (by decide)), (SAME.at t114 (by decide) t75), t76, (SAME.at t114 (by decide) t77), t78, (SAME.at t114 (by decide) t79), (SAME.at t114 (by decide) t81), (SAME.at t114 (by decide) t83), t115, (ir_wk t116 (by decide) (by decide)), t117, (SAME.at t114 (by decide) t84), (SAME.at t114 (by decide) n109), (SAME.at t114 (by decide) (SAME.at t74 (by decide) (SAME.at t38 (by decide) e_onces))), s_h_0, s_h_5, s_h_6, (SG.wk r29 (by decide) (by decide)), s_h_44, ((cLine_7 (tkM_1st (ISWF.t t21 (by omega)).1) (lnwM (ISWF.t t21 (by omega)).1 (ISWF.t t21 (by omega)).2)).trans (cRun_1 (show ¬ 6 ≤ (nmM f_names 30 (f_h 7).toInt).length by rw [nmM_len]; have hn : (f_h 7).toInt = v25.toInt := congrArg Int32.toInt ev25.symm; omega) (atM t51 (ISWF.t t21 (by omega)).1) t87 t118)), (by omega), rfl, rfl⟩)
              · refine hp.elim (fun F119 h9z0 => h9z0.elim (fun y120 h9z1 => h9z1.elim (fun y121 h9z2 => h9z2.elim (fun y122 h9z3 => h9z3.elim (fun y123 h9z4 => h9z4.elim (fun y124 h9z5 => h9z5.elim (fun y125 h9z6 => h9z6.elim (fun y126 h9z7 => h9z7.elim (fun t127 h9z8 => h9z8.elim (fun t128 h9z9 => h9z9.elim (fun t129 h9z10 => h9z10.elim (fun t130 h9z11 => h9z11.elim (fun t131 h9z12 => h9z12.elim (fun t132 h9z13 => h9z13.elim (fun t133 h9z14 => h9z14.elim (fun t134 h9z15 => h9z15.elim (fun t135 h9z16 => h9z16.elim (fun t136 h9z17 => h9z17.elim (fun t137 h9z18 => h9z18.elim (fun t138 h9z19 => h9z19.elim (fun t139 h9z20 => h9z20.elim (fun t140 h9z21 => h9z21.elim (fun t141 h9z22 => h9z22.elim (fun t142 h9z23 => h9z23.elim (fun t143 h9z24 => h9z24.elim (fun t144 h9z25 => h9z25.elim (fun t145 h9z26 => h9z26.elim (fun t146 h9z27 => h9z27.elim (fun t147 h9z28 => h9z28.elim (fun t148 h9z29 => h9z29.elim (fun heq930 h9z30 => ?_)))))))))))))))))))))))))))))))
                clear h9z0 h9z1 h9z2 h9z3 h9z4 h9z5 h9z6 h9z7 h9z8 h9z9 h9z10 h9z11 h9z12 h9z13 h9z14 h9z15 h9z16 h9z17 h9z18 h9z19 h9z20 h9z21 h9z22 h9z23 h9z24 h9z25 h9z26 h9z27 h9z28 h9z29
                subst heq930
                subst h9z30
                clear t86 t92
                have hP : va_P D vwCl [(h_h, .inl (cI, 104, .inl f_h)), (h_names, .inl (cJ, 36, .inr (.inl g73))), (h_reserved, .inl (cJ, 23, .inr (.inl f_reserved))), (h0, .inr (10, vL 67 F119)), (h_tape, .inl (cB, 940, .inl f_tape))] H := hP
                have hD : va_D A [(h_h, .inl (cI, 104, .inl f_h)), (h_names, .inl (cJ, 36, .inr (.inl g73))), (h_reserved, .inl (cJ, 23, .inr (.inl f_reserved))), (h0, .inr (10, vL 67 F119)), (h_tape, .inl (cB, 940, .inl f_tape))] := hD
                refine W.widen (k := 0) (n := 0) (Nat.le_of_ble_eq_true rfl) (Nat.le_of_ble_eq_true rfl) ?_
                have k150 : 2 ≤ y68.toInt ∧ y68.toInt ≤ 2 := ⟨Int.le_trans (Int.le_refl _) (Int.le_of_eq t139.symm), Int.le_trans (Int.le_of_eq t139) (Int.le_refl _)⟩
                have k151 : 0 ≤ y71.toInt ∧ y71.toInt ≤ 2147483647 := ⟨Int.le_trans (Int.le_refl _) t140, (ir_any _).2⟩
                have k152 : 0 ≤ y71.toInt ∧ y71.toInt ≤ 20 := ⟨k151.1, Int.le_trans t141 (Int.le_refl _)⟩
                refine lv_if_ne (tgt := 460) hx hb dX10_line0_455 (by decide) (fun _ => ?_) (fun g => absurd g (by decide))
                refine lv_aload_n hx hb dX10_line0_460 rfl (lv_at hl 2 rfl) ?_
                have n153 : F66 7 = .ref h_h := (SAME.at t74 (by decide) n60)
                have n154 : F119 7 = .ref h_h := (SAME.at t127 (by decide) n153)
                refine get_f (D := D) (ci := 10) (v := .ref h_h) (C := RX10) (T := TX10) (N := 67) hx hb hw inAX10 hown hK hP 3 rfl rfl 7 (by decide) (hw _ q_1268) (fun _ h9 => h9) n154 dX10_line0_461 ?_
                refine lv_bipush (v := 92) hx hb dX10_line0_464 (by decide) ?_
                refine lv_iload_n hx hb dX10_line0_466 rfl (lv_at hl 0 rfl) ?_
                refine lv_iadd hx hb dX10_line0_467 ?_
                refine lv_topi (fun v155 ev155 => ?_)
                have bv155 : v155.toInt = 92 + v25.toInt := by rw [ev155]; exact add_k rfl rfl ⟨Int.le_refl _, Int.le_refl _⟩ k28 (by decide)
                have k156 : 92 ≤ v155.toInt ∧ v155.toInt ≤ 97 := add_r bv155 ⟨Int.le_refl _, Int.le_refl _⟩ k28 (by decide)
                refine lv_aload_n hx hb dX10_line0_468 rfl (lv_at hl 2 rfl) ?_
                refine get_f (D := D) (ci := 10) (v := .int y126) (C := RX10) (T := TX10) (N := 67) hx hb hw inAX10 hown hK hP 3 rfl rfl 19 (by decide) (hw _ q_1280) (fun _ h9 => h9) t138 dX10_line0_469 ?_
                obtain ⟨g157, eg157⟩ : ∃ z : Nat → Int32, upd f_h v155.toNatClampNeg y126 = z := ⟨_, rfl⟩
                have r158 : SG 0 0 0 40 g157 := by rw [← eg157]; exact s_h_0.up (Int.le_trans (by decide) k156.1) (Or.inr (Or.inl (dec_lt k156.1 (by decide))))
                have r159 : SG 44 55 0 9 g157 := by rw [← eg157]; exact s_h_44.up (Int.le_trans (by decide) k156.1) (Or.inr (Or.inl (dec_lt k156.1 (by decide))))
                have r160 : SG 5 5 0 12 g157 := by rw [← eg157]; exact s_h_5.up (Int.le_trans (by decide) k156.1) (Or.inr (Or.inl (dec_lt k156.1 (by decide))))
                have r161 : SG 6 6 0 12 g157 := by rw [← eg157]; exact s_h_6.up (Int.le_trans (by decide) k156.1) (Or.inr (Or.inl (dec_lt k156.1 (by decide))))
                have r162 : SG 7 7 0 5 g157 := by rw [← eg157]; exact r29.up (Int.le_trans (by decide) k156.1) (Or.inr (Or.inl (dec_lt k156.1 (by decide))))
                refine iast_g hx hb hK hP hD hS 0 0 rfl rfl (ix_k k156 (by decide) (by decide)) eg157 dX10_line0_472 (fun H locs hP hD hS => ?_)
                have hP : va_P D vwCl [(h_h, .inl (cI, 104, .inl g157)), (h_names, .inl (cJ, 36, .inr (.inl g73))), (h_reserved, .inl (cJ, 23, .inr (.inl f_reserved))), (h0, .inr (10, vL 67 F119)), (h_tape, .inl (cB, 940, .inl f_tape))] H := hP
                have hD : va_D A [(h_h, .inl (cI, 104, .inl g157)), (h_names, .inl (cJ, 36, .inr (.inl g73))), (h_reserved, .inl (cJ, 23, .inr (.inl f_reserved))), (h0, .inr (10, vL 67 F119)), (h_tape, .inl (cB, 940, .inl f_tape))] := hD
                refine lv_aload_n hx hb dX10_line0_473 rfl (lv_at hl 2 rfl) ?_
                refine lv_iconst (v := 0) hx hb dX10_line0_474 (by decide) ?_
                refine lv_bipush (v := 9) hx hb dX10_line0_475 (by decide) ?_
                have n163 : F119 1 = .ref h_tape := (SAME.at t127 (by decide) n103)
                have n164 : F119 3 = .int x_size := (SAME.at t127 (by decide) n104)
                have n165 : F119 5 = .int x_limit := (SAME.at t127 (by decide) n105)
                have n166 : F119 15 = .int x_fault := (SAME.at t127 (by decide) n106)
                have n167 : F119 16 = .int x_faultAt := (SAME.at t127 (by decide) n107)
                refine call_Vi (wr := [(h_h, .inl (cI, 104, .inl g157)), (h_names, .inl (cJ, 36, .inr (.inl g73))), (h_reserved, .inl (cJ, 23, .inr (.inl f_reserved)))]) (As := [.int 0, .int 9]) (rest := []) hx hb hml hown hw (m_X10_takes l D cI cJ cB cP cM cZ h0 h_tape F119 x_size y120 x_limit y121 y122 y124 x_fault x_faultAt y125 y126 f_tape 0 9 _ n163 n164 i_x_size t128 t129 n165 i_x_limit t130 t131 t132 t136 n166 n167 t137 t138 (by omega)) wV_X10_242_X10_takes dX10_line0_477 hK hP hD hS hA [3, 4] [0, 1, 2] rfl rfl (by decide) (by decide) (by decide) 0 10 rfl rfl GG.fb hG.at hl.1 rfl (Nat.le_of_ble_eq_true rfl) ⟨(Nat.le_of_ble_eq_true rfl), (Nat.le_of_ble_eq_true rfl)⟩ ⟨(Nat.le_of_ble_eq_true rfl), (Nat.le_of_ble_eq_true rfl)⟩ (fun r168 u H locs hp hP hD hS => ?_)
                have zl9 : (9 : Int32).toInt = 9 := by decide
                rcases hp with hp | hp
                · obtain ⟨F169, y170, y171, t172, t173, t174, t175, t176, rfl, rfl⟩ := hp
                  have hP : va_P D vwCl [(h_h, .inl (cI, 104, .inl g157)), (h_names, .inl (cJ, 36, .inr (.inl g73))), (h_reserved, .inl (cJ, 23, .inr (.inl f_reserved))), (h0, .inr (10, vL 67 F169)), (h_tape, .inl (cB, 940, .inl f_tape))] H := hP
                  have hD : va_D A [(h_h, .inl (cI, 104, .inl g157)), (h_names, .inl (cJ, 36, .inr (.inl g73))), (h_reserved, .inl (cJ, 23, .inr (.inl f_reserved))), (h0, .inr (10, vL 67 F169)), (h_tape, .inl (cB, 940, .inl f_tape))] := hD
                  refine W.widen (k := 0) (n := 0) (Nat.le_of_ble_eq_true rfl) (Nat.le_of_ble_eq_true rfl) ?_
                  refine lv_if_ne (tgt := 485) hx hb dX10_line0_480 (by decide) (fun g => absurd (by decide) g) (fun _ => ?_)
                  refine lv_iconst (v := 0) hx hb dX10_line0_483 (by decide) ?_
                  exact ret_i (v := 0) hx hb hr hlocks hS (hP.sub (ws' := [(h0, .inr (10, vL 67 F169)), (h_tape, .inl (cB, 940, .inl f_tape)), (h_h, .inl (cI, 104, .inl g157)), (h_names, .inl (cJ, 36, .inr (.inl g73))), (h_reserved, .inl (cJ, 23, .inr (.inl f_reserved)))]) [3, 4, 0, 1, 2] rfl) (hD.sub (ws' := [(h0, .inr (10, vL 67 F169)), (h_tape, .inl (cB, 940, .inl f_tape)), (h_h, .inl (cI, 104, .inl g157)), (h_names, .inl (cJ, 36, .inr (.inl g73))), (h_reserved, .inl (cJ, 23, .inr (.inl f_reserved)))]) [3, 4, 0, 1, 2] (by decide) rfl) dX10_line0_484 rfl (Nat.le_of_ble_eq_true rfl) (Nat.le_of_ble_eq_true rfl) (Or.inl ⟨F169, y120, y121, y122, y123, y124, y170, y171, y125, y126, x_onces, g157, g73, (SAME.tr (SAME.tr (SAME.tr (SAME.tr SAME.rf t38 (by decide)) t74 (by decide)) t127 (by decide)) t172 (by decide)), (SAME.at t172 (by decide) t128), t129, (SAME.at t172 (by decide) t130), t131, (SAME.at t172 (by decide) t132), (SAME.at t172 (by decide) t134), (SAME.at t172 (by decide) t136), t173, (ir_wk t174 (by decide) (by decide)), t175, (SAME.at t172 (by decide) t137), (SAME.at t172 (by decide) t138), (SAME.at t172 (by decide) (SAME.at t127 (by decide) (SAME.at t74 (by decide) (SAME.at t38 (by decide) e_onces)))), r158, r160, r161, (SG.wk r162 (by decide) (by decide)), r159, ((cLine_7 (tkM_1st (ISWF.t t21 (by omega)).1) (lnwM (ISWF.t t21 (by omega)).1 (ISWF.t t21 (by omega)).2)).trans (cRun_2 (show ¬ 6 ≤ (nmM f_names 30 (f_h 7).toInt).length by rw [nmM_len]; have hn : (f_h 7).toInt = v25.toInt := congrArg Int32.toInt ev25.symm; omega) (atM t51 (ISWF.t t21 (by omega)).1) t87 t145 t176)), (by omega), rfl, rfl⟩)
                · refine hp.elim (fun F177 h9z0 => h9z0.elim (fun y178 h9z1 => h9z1.elim (fun y179 h9z2 => h9z2.elim (fun y180 h9z3 => h9z3.elim (fun y181 h9z4 => h9z4.elim (fun y182 h9z5 => h9z5.elim (fun y183 h9z6 => h9z6.elim (fun y184 h9z7 => h9z7.elim (fun t185 h9z8 => h9z8.elim (fun t186 h9z9 => h9z9.elim (fun t187 h9z10 => h9z10.elim (fun t188 h9z11 => h9z11.elim (fun t189 h9z12 => h9z12.elim (fun t190 h9z13 => h9z13.elim (fun t191 h9z14 => h9z14.elim (fun t192 h9z15 => h9z15.elim (fun t193 h9z16 => h9z16.elim (fun t194 h9z17 => h9z17.elim (fun t195 h9z18 => h9z18.elim (fun t196 h9z19 => h9z19.elim (fun t197 h9z20 => h9z20.elim (fun t198 h9z21 => h9z21.elim (fun t199 h9z22 => h9z22.elim (fun t200 h9z23 => h9z23.elim (fun t201 h9z24 => h9z24.elim (fun t202 h9z25 => h9z25.elim (fun t203 h9z26 => h9z26.elim (fun t204 h9z27 => h9z27.elim (fun t205 h9z28 => h9z28.elim (fun t206 h9z29 => h9z29.elim (fun heq930 h9z30 => ?_)))))))))))))))))))))))))))))))
                  clear h9z0 h9z1 h9z2 h9z3 h9z4 h9z5 h9z6 h9z7 h9z8 h9z9 h9z10 h9z11 h9z12 h9z13 h9z14 h9z15 h9z16 h9z17 h9z18 h9z19 h9z20 h9z21 h9z22 h9z23 h9z24 h9z25 h9z26 h9z27 h9z28 h9z29
                  subst heq930
                  subst h9z30
                  clear t144 t148
                  have hP : va_P D vwCl [(h_h, .inl (cI, 104, .inl g157)), (h_names, .inl (cJ, 36, .inr (.inl g73))), (h_reserved, .inl (cJ, 23, .inr (.inl f_reserved))), (h0, .inr (10, vL 67 F177)), (h_tape, .inl (cB, 940, .inl f_tape))] H := hP
                  have hD : va_D A [(h_h, .inl (cI, 104, .inl g157)), (h_names, .inl (cJ, 36, .inr (.inl g73))), (h_reserved, .inl (cJ, 23, .inr (.inl f_reserved))), (h0, .inr (10, vL 67 F177)), (h_tape, .inl (cB, 940, .inl f_tape))] := hD
                  refine W.widen (k := 0) (n := 0) (Nat.le_of_ble_eq_true rfl) (Nat.le_of_ble_eq_true rfl) ?_
                  have k208 : 2 ≤ y121.toInt ∧ y121.toInt ≤ 2 := ⟨Int.le_trans (Int.le_refl _) (Int.le_of_eq t197.symm), Int.le_trans (Int.le_of_eq t197) (Int.le_refl _)⟩
                  have k209 : 0 ≤ y124.toInt ∧ y124.toInt ≤ 2147483647 := ⟨Int.le_trans (Int.le_refl _) t198, (ir_any _).2⟩
                  have k210 : 0 ≤ y124.toInt ∧ y124.toInt ≤ 9 := ⟨k209.1, Int.le_trans t199 (Int.le_refl _)⟩
                  refine lv_if_ne (tgt := 485) hx hb dX10_line0_480 (by decide) (fun _ => ?_) (fun g => absurd g (by decide))
                  refine lv_aload_n hx hb dX10_line0_485 rfl (lv_at hl 2 rfl) ?_
                  have n211 : F177 7 = .ref h_h := (SAME.at t185 (by decide) n154)
                  refine get_f (D := D) (ci := 10) (v := .ref h_h) (C := RX10) (T := TX10) (N := 67) hx hb hw inAX10 hown hK hP 3 rfl rfl 7 (by decide) (hw _ q_1268) (fun _ h9 => h9) n211 dX10_line0_486 ?_
                  refine lv_bipush (v := 98) hx hb dX10_line0_489 (by decide) ?_
                  refine lv_iload_n hx hb dX10_line0_491 rfl (lv_at hl 0 rfl) ?_
                  refine lv_iadd hx hb dX10_line0_492 ?_
                  refine lv_topi (fun v212 ev212 => ?_)
                  have bv212 : v212.toInt = 98 + v25.toInt := by rw [ev212]; exact add_k rfl rfl ⟨Int.le_refl _, Int.le_refl _⟩ k28 (by decide)
                  have k213 : 98 ≤ v212.toInt ∧ v212.toInt ≤ 103 := add_r bv212 ⟨Int.le_refl _, Int.le_refl _⟩ k28 (by decide)
                  refine lv_aload_n hx hb dX10_line0_493 rfl (lv_at hl 2 rfl) ?_
                  refine get_f (D := D) (ci := 10) (v := .int y184) (C := RX10) (T := TX10) (N := 67) hx hb hw inAX10 hown hK hP 3 rfl rfl 19 (by decide) (hw _ q_1280) (fun _ h9 => h9) t196 dX10_line0_494 ?_
                  obtain ⟨g214, eg214⟩ : ∃ z : Nat → Int32, upd g157 v212.toNatClampNeg y184 = z := ⟨_, rfl⟩
                  have r215 : SG 0 0 0 40 g214 := by rw [← eg214]; exact r158.up (Int.le_trans (by decide) k213.1) (Or.inr (Or.inl (dec_lt k213.1 (by decide))))
                  have r216 : SG 44 55 0 9 g214 := by rw [← eg214]; exact r159.up (Int.le_trans (by decide) k213.1) (Or.inr (Or.inl (dec_lt k213.1 (by decide))))
                  have r217 : SG 5 5 0 12 g214 := by rw [← eg214]; exact r160.up (Int.le_trans (by decide) k213.1) (Or.inr (Or.inl (dec_lt k213.1 (by decide))))
                  have r218 : SG 6 6 0 12 g214 := by rw [← eg214]; exact r161.up (Int.le_trans (by decide) k213.1) (Or.inr (Or.inl (dec_lt k213.1 (by decide))))
                  have r219 : SG 7 7 0 5 g214 := by rw [← eg214]; exact r162.up (Int.le_trans (by decide) k213.1) (Or.inr (Or.inl (dec_lt k213.1 (by decide))))
                  refine iast_g hx hb hK hP hD hS 0 0 rfl rfl (ix_k k213 (by decide) (by decide)) eg214 dX10_line0_497 (fun H locs hP hD hS => ?_)
                  have hP : va_P D vwCl [(h_h, .inl (cI, 104, .inl g214)), (h_names, .inl (cJ, 36, .inr (.inl g73))), (h_reserved, .inl (cJ, 23, .inr (.inl f_reserved))), (h0, .inr (10, vL 67 F177)), (h_tape, .inl (cB, 940, .inl f_tape))] H := hP
                  have hD : va_D A [(h_h, .inl (cI, 104, .inl g214)), (h_names, .inl (cJ, 36, .inr (.inl g73))), (h_reserved, .inl (cJ, 23, .inr (.inl f_reserved))), (h0, .inr (10, vL 67 F177)), (h_tape, .inl (cB, 940, .inl f_tape))] := hD
                  refine lv_aload_n hx hb dX10_line0_498 rfl (lv_at hl 2 rfl) ?_
                  refine get_f (D := D) (ci := 10) (v := .ref h_h) (C := RX10) (T := TX10) (N := 67) hx hb hw inAX10 hown hK hP 3 rfl rfl 7 (by decide) (hw _ q_1268) (fun _ h9 => h9) n211 dX10_line0_499 ?_
                  refine lv_bipush (v := 7) hx hb dX10_line0_502 (by decide) ?_
                  refine lv_dup2_11 hx hb dX10_line0_504 rfl rfl ?_
                  refine iald_n hx hb hK hP 0 0 rfl rfl 7 rfl (Nat.le_of_ble_eq_true rfl) (Nat.le_of_ble_eq_true rfl) rfl dX10_line0_505 ?_
                  refine lv_topi (fun v220 ev220 => ?_)
                  have k221 : 0 ≤ v220.toInt ∧ v220.toInt ≤ 5 := by rw [ev220]; exact r219.atN 7 (by decide) (by decide)
                  refine lv_iconst (v := 1) hx hb dX10_line0_506 (by decide) ?_
                  refine lv_iadd hx hb dX10_line0_507 ?_
                  refine lv_topi (fun v222 ev222 => ?_)
                  have bv222 : v222.toInt = v220.toInt + 1 := by rw [ev222]; exact add_k rfl rfl k221 ⟨Int.le_refl _, Int.le_refl _⟩ (by decide)
                  have k223 : 1 ≤ v222.toInt ∧ v222.toInt ≤ 6 := add_r bv222 k221 ⟨Int.le_refl _, Int.le_refl _⟩ (by decide)
                  obtain ⟨g224, eg224⟩ : ∃ z : Nat → Int32, upd g214 7 v222 = z := ⟨_, rfl⟩
                  have r225 : SG 0 0 0 40 g224 := by rw [← eg224]; exact r215.upN (Or.inr (Or.inl (by decide)))
                  have r226 : SG 44 55 0 9 g224 := by rw [← eg224]; exact r216.upN (Or.inl (by decide))
                  have r227 : SG 5 5 0 12 g224 := by rw [← eg224]; exact r217.upN (Or.inr (Or.inl (by decide)))
                  have r228 : SG 6 6 0 12 g224 := by rw [← eg224]; exact r218.upN (Or.inr (Or.inl (by decide)))
                  have r229 : SG 7 7 0 6 g224 := by rw [← eg224]; exact SG.new1 (ir_wk k223 (by decide) (by decide))
                  refine iast_n hx hb hK hP hD hS 0 0 rfl rfl 7 rfl (Nat.le_of_ble_eq_true rfl) (Nat.le_of_ble_eq_true rfl) eg224 dX10_line0_508 (fun H locs hP hD hS => ?_)
                  have hP : va_P D vwCl [(h_h, .inl (cI, 104, .inl g224)), (h_names, .inl (cJ, 36, .inr (.inl g73))), (h_reserved, .inl (cJ, 23, .inr (.inl f_reserved))), (h0, .inr (10, vL 67 F177)), (h_tape, .inl (cB, 940, .inl f_tape))] H := hP
                  have hD : va_D A [(h_h, .inl (cI, 104, .inl g224)), (h_names, .inl (cJ, 36, .inr (.inl g73))), (h_reserved, .inl (cJ, 23, .inr (.inl f_reserved))), (h0, .inr (10, vL 67 F177)), (h_tape, .inl (cB, 940, .inl f_tape))] := hD
                  refine lv_iconst (v := 1) hx hb dX10_line0_509 (by decide) ?_
                  exact ret_i (v := 1) hx hb hr hlocks hS (hP.sub (ws' := [(h0, .inr (10, vL 67 F177)), (h_tape, .inl (cB, 940, .inl f_tape)), (h_h, .inl (cI, 104, .inl g224)), (h_names, .inl (cJ, 36, .inr (.inl g73))), (h_reserved, .inl (cJ, 23, .inr (.inl f_reserved)))]) [3, 4, 0, 1, 2] rfl) (hD.sub (ws' := [(h0, .inr (10, vL 67 F177)), (h_tape, .inl (cB, 940, .inl f_tape)), (h_h, .inl (cI, 104, .inl g224)), (h_names, .inl (cJ, 36, .inr (.inl g73))), (h_reserved, .inl (cJ, 23, .inr (.inl f_reserved)))]) [3, 4, 0, 1, 2] (by decide) rfl) dX10_line0_510 rfl (Nat.le_of_ble_eq_true rfl) (Nat.le_of_ble_eq_true rfl) (Or.inr ⟨F177, y178, y179, y180, y181, y182, y183, y184, x_onces, g224, g73, (SAME.tr (SAME.tr (SAME.tr (SAME.tr SAME.rf t38 (by decide)) t74 (by decide)) t127 (by decide)) t185 (by decide)), t186, t187, t188, t189, t190, t191, t192, t193, t194, t195, t196, (SAME.at t185 (by decide) (SAME.at t127 (by decide) (SAME.at t74 (by decide) (SAME.at t38 (by decide) e_onces)))), r225, r227, r228, r229, r226, (by have zl1 : (1 : Int32).toInt = 1 := (by decide); omega), (by have zl1 : (1 : Int32).toInt = 1 := (by decide); omega), ((cLine_7 (tkM_1st (ISWF.t t21 (by omega)).1) (lnwM (ISWF.t t21 (by omega)).1 (ISWF.t t21 (by omega)).2)).trans (fin_r (cRun_o (show ¬ 6 ≤ (nmM f_names 30 (f_h 7).toInt).length by rw [nmM_len]; have hn : (f_h 7).toInt = v25.toInt := congrArg Int32.toInt ev25.symm; omega) (atM t51 (ISWF.t t21 (by omega)).1) t87 t145 t203 (nmM_ap (n := (f_h 7).toInt) (n' := (g224 7).toInt) t88 (by have hn : (f_h 7).toInt = v25.toInt := congrArg Int32.toInt ev25.symm; omega) (by have hn : (f_h 7).toInt = v25.toInt := congrArg Int32.toInt ev25.symm; omega) (by rw [← eg224, pk_us, bv222]; have hq : v220.toInt = (f_h 7).toInt := congrArg Int32.toInt (ev220.trans (HU.up (HU.up HU.rf eg157 (by omega)) eg214 (by omega)).a7); omega) (tkM_w t89))) (csM_r (HU.up (HU.up HU.rf eg157 (by omega)) eg214 (by omega)) eg224 t88 (by have hn : (f_h 7).toInt = v25.toInt := congrArg Int32.toInt ev25.symm; omega) (s_h_5.atN 5 (by decide) (by decide)).2))), (ISWF.t t21 (by omega)).1, (AV.h (AV.un z_1 t88 (by have hn : (f_h 7).toInt = v25.toInt := congrArg Int32.toInt ev25.symm; have hb := s_h_5.atN 5 (by decide) (by decide); omega) (by have hn : (f_h 7).toInt = v25.toInt := congrArg Int32.toInt ev25.symm; omega)) ((upd_m eg224 (by decide)).trans (HU.up (HU.up HU.rf eg157 (by omega)) eg214 (by omega)).a5)), (AV.ap z_2 t88 (by have hn : (f_h 7).toInt = v25.toInt := congrArg Int32.toInt ev25.symm; omega) (by rw [← eg224, pk_us, bv222]; have hq : v220.toInt = (f_h 7).toInt := congrArg Int32.toInt (ev220.trans (HU.up (HU.up HU.rf eg157 (by omega)) eg214 (by omega)).a7); omega) t90 (by have hn : (f_h 7).toInt = v25.toInt := congrArg Int32.toInt ev25.symm; omega)), t205, (by omega), rfl, rfl⟩)
            · obtain ⟨F93, y94, y95, t96, t97, t98, t99, t100, t101, rfl, rfl⟩ := hp
              have hP : va_P D vwCl [(h0, .inr (10, vL 67 F93)), (h_tape, .inl (cB, 940, .inl f_tape)), (h_h, .inl (cI, 104, .inl f_h)), (h_names, .inl (cJ, 36, .inr (.inl f_names))), (h_reserved, .inl (cJ, 23, .inr (.inl f_reserved)))] H := hP
              have hD : va_D A [(h0, .inr (10, vL 67 F93)), (h_tape, .inl (cB, 940, .inl f_tape)), (h_h, .inl (cI, 104, .inl f_h)), (h_names, .inl (cJ, 36, .inr (.inl f_names))), (h_reserved, .inl (cJ, 23, .inr (.inl f_reserved)))] := hD
              refine W.widen (k := 0) (n := 0) (Nat.le_of_ble_eq_true rfl) (Nat.le_of_ble_eq_true rfl) ?_
              refine lv_if_ne (tgt := 448) hx hb dX10_line0_443 (by decide) (fun g => absurd (by decide) g) (fun _ => ?_)
              refine lv_iconst (v := 0) hx hb dX10_line0_446 (by decide) ?_
              exact ret_i (v := 0) hx hb hr hlocks hS hP hD dX10_line0_447 rfl (Nat.le_of_ble_eq_true rfl) (Nat.le_of_ble_eq_true rfl) (Or.inl ⟨F93, y32, y33, y34, y35, y36, y94, y95, y37, x_got, x_onces, f_h, f_names, (SAME.tr (SAME.tr SAME.rf t38 (by decide)) t96 (by decide)), (SAME.at t96 (by decide) t39), t40, (SAME.at t96 (by decide) t41), t42, (SAME.at t96 (by decide) t43), (SAME.at t96 (by decide) t45), (SAME.at t96 (by decide) t47), t97, (ir_wk t98 (by decide) (by decide)), t99, (SAME.at t96 (by decide) t48), (SAME.at t96 (by decide) (SAME.at t38 (by decide) e_got)), (SAME.at t96 (by decide) (SAME.at t38 (by decide) e_onces)), s_h_0, s_h_5, s_h_6, (SG.wk r29 (by decide) (by decide)), s_h_44, ((cLine_7 (tkM_1st (ISWF.t t21 (by omega)).1) (lnwM (ISWF.t t21 (by omega)).1 (ISWF.t t21 (by omega)).2)).trans (cRun_0 (show ¬ 6 ≤ (nmM f_names 30 (f_h 7).toInt).length by rw [nmM_len]; have hn : (f_h 7).toInt = v25.toInt := congrArg Int32.toInt ev25.symm; omega) (atM t51 (ISWF.t t21 (by omega)).1) t100)), (by omega), rfl, rfl⟩)
          · have dc27 : v25.toInt = 6 := eq_i (a := v25.toInt) (b := 6) rfl rfl c27
            have k230 : 6 ≤ v25.toInt ∧ v25.toInt ≤ 6 := ⟨Int.le_trans (Int.le_refl _) (Int.le_of_eq dc27.symm), k26.2⟩
            refine lv_aload_n hx hb dX10_line0_425 rfl (lv_at hl 2 rfl) ?_
            refine lv_iconst (v := 4) hx hb dX10_line0_426 (by decide) ?_
            refine call_Vi (wr := [(h_tape, .inl (cB, 940, .inl f_tape)), (h_h, .inl (cI, 104, .inl f_h)), (h_names, .inl (cJ, 36, .inr (.inl f_names))), (h_reserved, .inl (cJ, 23, .inr (.inl f_reserved)))]) (As := [.int 4]) (rest := []) hx hb hml hown hw (m_X10_bad l D cI cJ cB cP cM cZ h0 Fh x_at 4 _ e_at) wV_X10_205_X10_bad dX10_line0_427 hK hP hD hS hA [4] [0, 1, 2, 3] rfl rfl (by decide) (by decide) (by decide) 0 10 rfl rfl GG.fb hG.at hl.1 rfl (Nat.le_of_ble_eq_true rfl) ⟨(Nat.le_of_ble_eq_true rfl), (Nat.le_of_ble_eq_true rfl)⟩ ⟨(Nat.le_of_ble_eq_true rfl), (Nat.le_of_ble_eq_true rfl)⟩ (fun r231 u H locs hp hP hD hS => ?_)
            have zl4 : (4 : Int32).toInt = 4 := by decide
            obtain ⟨F232, t233, t234, t235, rfl, rfl⟩ := hp
            have hP : va_P D vwCl [(h_tape, .inl (cB, 940, .inl f_tape)), (h_h, .inl (cI, 104, .inl f_h)), (h_names, .inl (cJ, 36, .inr (.inl f_names))), (h_reserved, .inl (cJ, 23, .inr (.inl f_reserved))), (h0, .inr (10, vL 67 F232))] H := hP
            have hD : va_D A [(h_tape, .inl (cB, 940, .inl f_tape)), (h_h, .inl (cI, 104, .inl f_h)), (h_names, .inl (cJ, 36, .inr (.inl f_names))), (h_reserved, .inl (cJ, 23, .inr (.inl f_reserved))), (h0, .inr (10, vL 67 F232))] := hD
            refine W.widen (k := 0) (n := 0) (Nat.le_of_ble_eq_true rfl) (Nat.le_of_ble_eq_true rfl) ?_
            exact ret_i (v := 0) hx hb hr hlocks hS (hP.sub (ws' := [(h0, .inr (10, vL 67 F232)), (h_tape, .inl (cB, 940, .inl f_tape)), (h_h, .inl (cI, 104, .inl f_h)), (h_names, .inl (cJ, 36, .inr (.inl f_names))), (h_reserved, .inl (cJ, 23, .inr (.inl f_reserved)))]) [4, 0, 1, 2, 3] rfl) (hD.sub (ws' := [(h0, .inr (10, vL 67 F232)), (h_tape, .inl (cB, 940, .inl f_tape)), (h_h, .inl (cI, 104, .inl f_h)), (h_names, .inl (cJ, 36, .inr (.inl f_names))), (h_reserved, .inl (cJ, 23, .inr (.inl f_reserved)))]) [4, 0, 1, 2, 3] (by decide) rfl) dX10_line0_430 rfl (Nat.le_of_ble_eq_true rfl) (Nat.le_of_ble_eq_true rfl) (Or.inl ⟨F232, x_p, x_token, x_at, x_span, x_number, 4, x_at, x_word, x_got, x_onces, f_h, f_names, (SAME.tr SAME.rf t233 (by decide)), (SAME.at t233 (by decide) e_p), i_x_p, (SAME.at t233 (by decide) e_token), i_x_token, (SAME.at t233 (by decide) e_at), (SAME.at t233 (by decide) e_span), (SAME.at t233 (by decide) e_number), t234, (show 1 ≤ (4 : Int32).toInt ∧ (4 : Int32).toInt ≤ 4 by decide), t235, (SAME.at t233 (by decide) e_word), (SAME.at t233 (by decide) e_got), (SAME.at t233 (by decide) e_onces), s_h_0, s_h_5, s_h_6, s_h_7, s_h_44, ((cLine_7 (tkM_1st (ISWF.t t21 (by omega)).1) (lnwM (ISWF.t t21 (by omega)).1 (ISWF.t t21 (by omega)).2)).trans (inl_eq (cRun_m (show 6 ≤ (nmM f_names 30 (f_h 7).toInt).length by rw [nmM_len]; have hn : (f_h 7).toInt = v25.toInt := congrArg Int32.toInt ev25.symm; omega)) (by decide) rfl)), (by have zl4 : (4 : Int32).toInt = 4 := (by decide); omega), rfl, rfl⟩)
        · have dc23 : r19.toInt = 0 := eq_i (a := r19.toInt) (b := 0) rfl rfl c23
          have k237 : 0 ≤ r19.toInt ∧ r19.toInt ≤ 0 := ⟨t20.1, Int.le_trans (Int.le_of_eq dc23) (Int.le_refl _)⟩
          refine lv_aload_n hx hb dX10_line0_405 rfl (lv_at hl 1 rfl) ?_
          refine lv_iconst (v := 1) hx hb dX10_line0_406 (by decide) ?_
          refine call_Vi (wr := [(h_tape, .inl (cB, 940, .inl f_tape)), (h_h, .inl (cI, 104, .inl f_h)), (h_names, .inl (cJ, 36, .inr (.inl f_names))), (h_reserved, .inl (cJ, 23, .inr (.inl f_reserved)))]) (As := [.int 1]) (rest := []) hx hb hml hown hw (m_X10_bad l D cI cJ cB cP cM cZ h0 Fh x_at 1 _ e_at) wV_X10_205_X10_bad dX10_line0_407 hK hP hD hS hA [4] [0, 1, 2, 3] rfl rfl (by decide) (by decide) (by decide) 0 10 rfl rfl GG.fb hG.at hl.1 rfl (Nat.le_of_ble_eq_true rfl) ⟨(Nat.le_of_ble_eq_true rfl), (Nat.le_of_ble_eq_true rfl)⟩ ⟨(Nat.le_of_ble_eq_true rfl), (Nat.le_of_ble_eq_true rfl)⟩ (fun r238 u H locs hp hP hD hS => ?_)
          have zl1 : (1 : Int32).toInt = 1 := by decide
          obtain ⟨F239, t240, t241, t242, rfl, rfl⟩ := hp
          have hP : va_P D vwCl [(h_tape, .inl (cB, 940, .inl f_tape)), (h_h, .inl (cI, 104, .inl f_h)), (h_names, .inl (cJ, 36, .inr (.inl f_names))), (h_reserved, .inl (cJ, 23, .inr (.inl f_reserved))), (h0, .inr (10, vL 67 F239))] H := hP
          have hD : va_D A [(h_tape, .inl (cB, 940, .inl f_tape)), (h_h, .inl (cI, 104, .inl f_h)), (h_names, .inl (cJ, 36, .inr (.inl f_names))), (h_reserved, .inl (cJ, 23, .inr (.inl f_reserved))), (h0, .inr (10, vL 67 F239))] := hD
          refine W.widen (k := 0) (n := 0) (Nat.le_of_ble_eq_true rfl) (Nat.le_of_ble_eq_true rfl) ?_
          exact ret_i (v := 0) hx hb hr hlocks hS (hP.sub (ws' := [(h0, .inr (10, vL 67 F239)), (h_tape, .inl (cB, 940, .inl f_tape)), (h_h, .inl (cI, 104, .inl f_h)), (h_names, .inl (cJ, 36, .inr (.inl f_names))), (h_reserved, .inl (cJ, 23, .inr (.inl f_reserved)))]) [4, 0, 1, 2, 3] rfl) (hD.sub (ws' := [(h0, .inr (10, vL 67 F239)), (h_tape, .inl (cB, 940, .inl f_tape)), (h_h, .inl (cI, 104, .inl f_h)), (h_names, .inl (cJ, 36, .inr (.inl f_names))), (h_reserved, .inl (cJ, 23, .inr (.inl f_reserved)))]) [4, 0, 1, 2, 3] (by decide) rfl) dX10_line0_410 rfl (Nat.le_of_ble_eq_true rfl) (Nat.le_of_ble_eq_true rfl) (Or.inl ⟨F239, x_p, x_token, x_at, x_span, x_number, 1, x_at, x_word, x_got, x_onces, f_h, f_names, (SAME.tr SAME.rf t240 (by decide)), (SAME.at t240 (by decide) e_p), i_x_p, (SAME.at t240 (by decide) e_token), i_x_token, (SAME.at t240 (by decide) e_at), (SAME.at t240 (by decide) e_span), (SAME.at t240 (by decide) e_number), t241, (show 1 ≤ (1 : Int32).toInt ∧ (1 : Int32).toInt ≤ 4 by decide), t242, (SAME.at t240 (by decide) e_word), (SAME.at t240 (by decide) e_got), (SAME.at t240 (by decide) e_onces), s_h_0, s_h_5, s_h_6, s_h_7, s_h_44, (inl_eq (cLine_n (fun q => by have h2 := tkM_1n q; have w9 := ONCF.f t3 (by omega); have w0 := ISWF.f t9 (by omega); have w1 := ISWF.f t15 (by omega); have w2 := ISWF.f t21 (by omega); rw [tkM_w h2]; omega)) (by decide) rfl), (by have zl1 : (1 : Int32).toInt = 1 := (by decide); omega), rfl, rfl⟩)
      · have dc17 : r13.toInt ≠ 0 := ne_i (a := r13.toInt) (b := 0) rfl rfl c17
        have k244 : 1 ≤ r13.toInt ∧ r13.toInt ≤ 1 := ⟨ne_lo dc17 t14.1 ⟨Int.le_refl _, Int.le_refl _⟩ (by decide), t14.2⟩
        refine lv_aload_n hx hb dX10_line0_258 rfl (lv_at hl 1 rfl) ?_
        refine get_f (D := D) (ci := 10) (v := .ref h_h) (C := RX10) (T := TX10) (N := 67) hx hb hw inAX10 hown hK hP 4 rfl rfl 7 (by decide) (hw _ q_1268) (fun _ h9 => h9) e_h dX10_line0_259 ?_
        refine lv_bipush (v := 6) hx hb dX10_line0_262 (by decide) ?_
        refine iald_n hx hb hK hP 1 0 rfl rfl 6 rfl (Nat.le_of_ble_eq_true rfl) (Nat.le_of_ble_eq_true rfl) rfl dX10_line0_264 ?_
        refine lv_topi (fun v245 ev245 => ?_)
        have k246 : 0 ≤ v245.toInt ∧ v245.toInt ≤ 12 := by rw [ev245]; exact s_h_6.atN 6 (by decide) (by decide)
        refine lv_istore_n (lv' := [(2, .int v245), (1, .int r1), (0, .ref h0)]) hx hb dX10_line0_265 rfl hl (by decide) rfl (fun ls hl => ?_)
        refine lv_iload_n hx hb dX10_line0_266 rfl (lv_at hl 0 rfl) ?_
        refine lv_bipush (v := 12) hx hb dX10_line0_267 (by decide) ?_
        refine lv_icmp_ne (tgt := 278) hx hb dX10_line0_269 (by decide) (fun c247 => ?_) (fun c247 => ?_)
        · have dc247 : v245.toInt ≠ 12 := ne_i (a := v245.toInt) (b := 12) rfl rfl c247
          have k248 : 0 ≤ v245.toInt ∧ v245.toInt ≤ 11 := ⟨k246.1, ne_hi dc247 k246.2 ⟨Int.le_refl _, Int.le_refl _⟩ (by decide)⟩
          have r249 : SG 6 6 0 11 f_h := SG.one ev245 k248
          refine lv_aload_n hx hb dX10_line0_278 rfl (lv_at hl 2 rfl) ?_
          refine call_Vv (wr := [(h_h, .inl (cI, 104, .inl f_h)), (h_names, .inl (cJ, 36, .inr (.inl f_names))), (h_reserved, .inl (cJ, 23, .inr (.inl f_reserved)))]) (As := []) (rest := []) hx hb hml hown hw (m_X10_next l D cI cJ cB cP cM cZ h0 h_tape Fh x_size x_p x_limit x_token x_at x_number x_word f_tape _ e_tape e_size i_x_size e_p i_x_p e_limit i_x_limit e_token i_x_token e_at e_number e_word (by omega)) wV_X10_208_X10_next dX10_line0_279 hK hP hD hS hA [4, 0] [1, 2, 3] rfl rfl (by decide) (by decide) (by decide) 0 10 rfl rfl GG.fb hG.at hl.1 rfl (Nat.le_of_ble_eq_true rfl) ⟨(Nat.le_of_ble_eq_true rfl), (Nat.le_of_ble_eq_true rfl)⟩ ⟨(Nat.le_of_ble_eq_true rfl), (Nat.le_of_ble_eq_true rfl)⟩ (fun u H locs hp hP hD hS => ?_)
          obtain ⟨F251, y252, y253, y254, y255, y256, y257, t258, t259, t260, t261, t262, t263, t264, t265, t266, t267, t268, t269, t270, t271, t272, t273, rfl⟩ := hp
          have hP : va_P D vwCl [(h_h, .inl (cI, 104, .inl f_h)), (h_names, .inl (cJ, 36, .inr (.inl f_names))), (h_reserved, .inl (cJ, 23, .inr (.inl f_reserved))), (h0, .inr (10, vL 67 F251)), (h_tape, .inl (cB, 940, .inl f_tape))] H := hP
          have hD : va_D A [(h_h, .inl (cI, 104, .inl f_h)), (h_names, .inl (cJ, 36, .inr (.inl f_names))), (h_reserved, .inl (cJ, 23, .inr (.inl f_reserved))), (h0, .inr (10, vL 67 F251)), (h_tape, .inl (cB, 940, .inl f_tape))] := hD
          refine W.widen (k := 0) (n := 0) (Nat.le_of_ble_eq_true rfl) (Nat.le_of_ble_eq_true rfl) ?_
          refine lv_aload_n hx hb dX10_line0_282 rfl (lv_at hl 2 rfl) ?_
          refine lv_iconst (v := 1) hx hb dX10_line0_283 (by decide) ?_
          refine lv_bipush (v := 9) hx hb dX10_line0_284 (by decide) ?_
          have n275 : F251 1 = .ref h_tape := (SAME.at t258 (by decide) e_tape)
          have n276 : F251 3 = .int x_size := (SAME.at t258 (by decide) e_size)
          have n277 : F251 5 = .int x_limit := (SAME.at t258 (by decide) e_limit)
          have n278 : F251 15 = .int x_fault := (SAME.at t258 (by decide) e_fault)
          have n279 : F251 16 = .int x_faultAt := (SAME.at t258 (by decide) e_faultAt)
          have n280 : F251 19 = .int x_got := (SAME.at t258 (by decide) e_got)
          refine call_Vi (wr := [(h_h, .inl (cI, 104, .inl f_h)), (h_names, .inl (cJ, 36, .inr (.inl f_names))), (h_reserved, .inl (cJ, 23, .inr (.inl f_reserved)))]) (As := [.int 1, .int 9]) (rest := []) hx hb hml hown hw (m_X10_takes l D cI cJ cB cP cM cZ h0 h_tape F251 x_size y252 x_limit y253 y254 y256 x_fault x_faultAt y257 x_got f_tape 1 9 _ n275 n276 i_x_size t259 t260 n277 i_x_limit t261 t262 t263 t267 n278 n279 t268 n280 (by omega)) wV_X10_242_X10_takes dX10_line0_286 hK hP hD hS hA [3, 4] [0, 1, 2] rfl rfl (by decide) (by decide) (by decide) 0 10 rfl rfl GG.fb hG.at hl.1 rfl (Nat.le_of_ble_eq_true rfl) ⟨(Nat.le_of_ble_eq_true rfl), (Nat.le_of_ble_eq_true rfl)⟩ ⟨(Nat.le_of_ble_eq_true rfl), (Nat.le_of_ble_eq_true rfl)⟩ (fun r281 u H locs hp hP hD hS => ?_)
          have zl1 : (1 : Int32).toInt = 1 := by decide
          have zl9 : (9 : Int32).toInt = 9 := by decide
          rcases hp with hp | hp
          · obtain ⟨F282, y283, y284, t285, t286, t287, t288, t289, rfl, rfl⟩ := hp
            have hP : va_P D vwCl [(h_h, .inl (cI, 104, .inl f_h)), (h_names, .inl (cJ, 36, .inr (.inl f_names))), (h_reserved, .inl (cJ, 23, .inr (.inl f_reserved))), (h0, .inr (10, vL 67 F282)), (h_tape, .inl (cB, 940, .inl f_tape))] H := hP
            have hD : va_D A [(h_h, .inl (cI, 104, .inl f_h)), (h_names, .inl (cJ, 36, .inr (.inl f_names))), (h_reserved, .inl (cJ, 23, .inr (.inl f_reserved))), (h0, .inr (10, vL 67 F282)), (h_tape, .inl (cB, 940, .inl f_tape))] := hD
            refine W.widen (k := 0) (n := 0) (Nat.le_of_ble_eq_true rfl) (Nat.le_of_ble_eq_true rfl) ?_
            refine lv_if_ne (tgt := 294) hx hb dX10_line0_289 (by decide) (fun g => absurd (by decide) g) (fun _ => ?_)
            refine lv_iconst (v := 0) hx hb dX10_line0_292 (by decide) ?_
            exact ret_i (v := 0) hx hb hr hlocks hS (hP.sub (ws' := [(h0, .inr (10, vL 67 F282)), (h_tape, .inl (cB, 940, .inl f_tape)), (h_h, .inl (cI, 104, .inl f_h)), (h_names, .inl (cJ, 36, .inr (.inl f_names))), (h_reserved, .inl (cJ, 23, .inr (.inl f_reserved)))]) [3, 4, 0, 1, 2] rfl) (hD.sub (ws' := [(h0, .inr (10, vL 67 F282)), (h_tape, .inl (cB, 940, .inl f_tape)), (h_h, .inl (cI, 104, .inl f_h)), (h_names, .inl (cJ, 36, .inr (.inl f_names))), (h_reserved, .inl (cJ, 23, .inr (.inl f_reserved)))]) [3, 4, 0, 1, 2] (by decide) rfl) dX10_line0_293 rfl (Nat.le_of_ble_eq_true rfl) (Nat.le_of_ble_eq_true rfl) (Or.inl ⟨F282, y252, y253, y254, y255, y256, y283, y284, y257, x_got, x_onces, f_h, f_names, (SAME.tr (SAME.tr SAME.rf t258 (by decide)) t285 (by decide)), (SAME.at t285 (by decide) t259), t260, (SAME.at t285 (by decide) t261), t262, (SAME.at t285 (by decide) t263), (SAME.at t285 (by decide) t265), (SAME.at t285 (by decide) t267), t286, (ir_wk t287 (by decide) (by decide)), t288, (SAME.at t285 (by decide) t268), (SAME.at t285 (by decide) n280), (SAME.at t285 (by decide) (SAME.at t258 (by decide) e_onces)), s_h_0, s_h_5, (SG.wk r249 (by decide) (by decide)), s_h_7, s_h_44, ((cLine_6 (tkM_1st (ISWF.t t15 (by omega)).1) (lnwM (ISWF.t t15 (by omega)).1 (ISWF.t t15 (by omega)).2)).trans (cBend_0 (show ¬ 12 ≤ (f_h 6).toInt by have hn : (f_h 6).toInt = v245.toInt := congrArg Int32.toInt ev245.symm; omega) (atM t271 (ISWF.t t15 (by omega)).1) t289)), (by omega), rfl, rfl⟩)
          · refine hp.elim (fun F290 h9z0 => h9z0.elim (fun y291 h9z1 => h9z1.elim (fun y292 h9z2 => h9z2.elim (fun y293 h9z3 => h9z3.elim (fun y294 h9z4 => h9z4.elim (fun y295 h9z5 => h9z5.elim (fun y296 h9z6 => h9z6.elim (fun y297 h9z7 => h9z7.elim (fun t298 h9z8 => h9z8.elim (fun t299 h9z9 => h9z9.elim (fun t300 h9z10 => h9z10.elim (fun t301 h9z11 => h9z11.elim (fun t302 h9z12 => h9z12.elim (fun t303 h9z13 => h9z13.elim (fun t304 h9z14 => h9z14.elim (fun t305 h9z15 => h9z15.elim (fun t306 h9z16 => h9z16.elim (fun t307 h9z17 => h9z17.elim (fun t308 h9z18 => h9z18.elim (fun t309 h9z19 => h9z19.elim (fun t310 h9z20 => h9z20.elim (fun t311 h9z21 => h9z21.elim (fun t312 h9z22 => h9z22.elim (fun t313 h9z23 => h9z23.elim (fun t314 h9z24 => h9z24.elim (fun t315 h9z25 => h9z25.elim (fun t316 h9z26 => h9z26.elim (fun t317 h9z27 => h9z27.elim (fun t318 h9z28 => h9z28.elim (fun t319 h9z29 => h9z29.elim (fun heq930 h9z30 => ?_)))))))))))))))))))))))))))))))
            clear h9z0 h9z1 h9z2 h9z3 h9z4 h9z5 h9z6 h9z7 h9z8 h9z9 h9z10 h9z11 h9z12 h9z13 h9z14 h9z15 h9z16 h9z17 h9z18 h9z19 h9z20 h9z21 h9z22 h9z23 h9z24 h9z25 h9z26 h9z27 h9z28 h9z29
            subst heq930
            subst h9z30
            clear t270 t273
            have hP : va_P D vwCl [(h_h, .inl (cI, 104, .inl f_h)), (h_names, .inl (cJ, 36, .inr (.inl f_names))), (h_reserved, .inl (cJ, 23, .inr (.inl f_reserved))), (h0, .inr (10, vL 67 F290)), (h_tape, .inl (cB, 940, .inl f_tape))] H := hP
            have hD : va_D A [(h_h, .inl (cI, 104, .inl f_h)), (h_names, .inl (cJ, 36, .inr (.inl f_names))), (h_reserved, .inl (cJ, 23, .inr (.inl f_reserved))), (h0, .inr (10, vL 67 F290)), (h_tape, .inl (cB, 940, .inl f_tape))] := hD
            refine W.widen (k := 0) (n := 0) (Nat.le_of_ble_eq_true rfl) (Nat.le_of_ble_eq_true rfl) ?_
            have k321 : 2 ≤ y253.toInt ∧ y253.toInt ≤ 2 := ⟨Int.le_trans (Int.le_refl _) (Int.le_of_eq t310.symm), Int.le_trans (Int.le_of_eq t310) (Int.le_refl _)⟩
            have k322 : 1 ≤ y256.toInt ∧ y256.toInt ≤ 2147483647 := ⟨Int.le_trans (Int.le_refl _) t311, (ir_any _).2⟩
            have k323 : 1 ≤ y256.toInt ∧ y256.toInt ≤ 9 := ⟨k322.1, Int.le_trans t312 (Int.le_refl _)⟩
            refine lv_if_ne (tgt := 294) hx hb dX10_line0_289 (by decide) (fun _ => ?_) (fun g => absurd g (by decide))
            refine lv_aload_n hx hb dX10_line0_294 rfl (lv_at hl 2 rfl) ?_
            have n324 : F251 7 = .ref h_h := (SAME.at t258 (by decide) e_h)
            have n325 : F290 7 = .ref h_h := (SAME.at t298 (by decide) n324)
            refine get_f (D := D) (ci := 10) (v := .ref h_h) (C := RX10) (T := TX10) (N := 67) hx hb hw inAX10 hown hK hP 3 rfl rfl 7 (by decide) (hw _ q_1268) (fun _ h9 => h9) n325 dX10_line0_295 ?_
            refine lv_bipush (v := 44) hx hb dX10_line0_298 (by decide) ?_
            refine lv_iload_n hx hb dX10_line0_300 rfl (lv_at hl 0 rfl) ?_
            refine lv_iadd hx hb dX10_line0_301 ?_
            refine lv_topi (fun v326 ev326 => ?_)
            have bv326 : v326.toInt = 44 + v245.toInt := by rw [ev326]; exact add_k rfl rfl ⟨Int.le_refl _, Int.le_refl _⟩ k248 (by decide)
            have k327 : 44 ≤ v326.toInt ∧ v326.toInt ≤ 55 := add_r bv326 ⟨Int.le_refl _, Int.le_refl _⟩ k248 (by decide)
            refine lv_aload_n hx hb dX10_line0_302 rfl (lv_at hl 2 rfl) ?_
            refine get_f (D := D) (ci := 10) (v := .int y297) (C := RX10) (T := TX10) (N := 67) hx hb hw inAX10 hown hK hP 3 rfl rfl 19 (by decide) (hw _ q_1280) (fun _ h9 => h9) t309 dX10_line0_303 ?_
            obtain ⟨g328, eg328⟩ : ∃ z : Nat → Int32, upd f_h v326.toNatClampNeg y297 = z := ⟨_, rfl⟩
            have r329 : SG 0 0 0 40 g328 := by rw [← eg328]; exact s_h_0.up (Int.le_trans (by decide) k327.1) (Or.inr (Or.inl (dec_lt k327.1 (by decide))))
            have r330 : SG 44 55 0 9 g328 := by rw [← eg328]; exact s_h_44.up (Int.le_trans (by decide) k327.1) (by omega)
            have r331 : SG 5 5 0 12 g328 := by rw [← eg328]; exact s_h_5.up (Int.le_trans (by decide) k327.1) (Or.inr (Or.inl (dec_lt k327.1 (by decide))))
            have r332 : SG 6 6 0 11 g328 := by rw [← eg328]; exact r249.up (Int.le_trans (by decide) k327.1) (Or.inr (Or.inl (dec_lt k327.1 (by decide))))
            have r333 : SG 7 7 0 6 g328 := by rw [← eg328]; exact s_h_7.up (Int.le_trans (by decide) k327.1) (Or.inr (Or.inl (dec_lt k327.1 (by decide))))
            refine iast_g hx hb hK hP hD hS 0 0 rfl rfl (ix_k k327 (by decide) (by decide)) eg328 dX10_line0_306 (fun H locs hP hD hS => ?_)
            have hP : va_P D vwCl [(h_h, .inl (cI, 104, .inl g328)), (h_names, .inl (cJ, 36, .inr (.inl f_names))), (h_reserved, .inl (cJ, 23, .inr (.inl f_reserved))), (h0, .inr (10, vL 67 F290)), (h_tape, .inl (cB, 940, .inl f_tape))] H := hP
            have hD : va_D A [(h_h, .inl (cI, 104, .inl g328)), (h_names, .inl (cJ, 36, .inr (.inl f_names))), (h_reserved, .inl (cJ, 23, .inr (.inl f_reserved))), (h0, .inr (10, vL 67 F290)), (h_tape, .inl (cB, 940, .inl f_tape))] := hD
            refine lv_aload_n hx hb dX10_line0_307 rfl (lv_at hl 2 rfl) ?_
            refine lv_iconst (v := 0) hx hb dX10_line0_308 (by decide) ?_
            refine lv_bipush (v := 9) hx hb dX10_line0_309 (by decide) ?_
            have n334 : F290 1 = .ref h_tape := (SAME.at t298 (by decide) n275)
            have n335 : F290 3 = .int x_size := (SAME.at t298 (by decide) n276)
            have n336 : F290 5 = .int x_limit := (SAME.at t298 (by decide) n277)
            have n337 : F290 15 = .int x_fault := (SAME.at t298 (by decide) n278)
            have n338 : F290 16 = .int x_faultAt := (SAME.at t298 (by decide) n279)
            refine call_Vi (wr := [(h_h, .inl (cI, 104, .inl g328)), (h_names, .inl (cJ, 36, .inr (.inl f_names))), (h_reserved, .inl (cJ, 23, .inr (.inl f_reserved)))]) (As := [.int 0, .int 9]) (rest := []) hx hb hml hown hw (m_X10_takes l D cI cJ cB cP cM cZ h0 h_tape F290 x_size y291 x_limit y292 y293 y295 x_fault x_faultAt y296 y297 f_tape 0 9 _ n334 n335 i_x_size t299 t300 n336 i_x_limit t301 t302 t303 t307 n337 n338 t308 t309 (by omega)) wV_X10_242_X10_takes dX10_line0_311 hK hP hD hS hA [3, 4] [0, 1, 2] rfl rfl (by decide) (by decide) (by decide) 0 10 rfl rfl GG.fb hG.at hl.1 rfl (Nat.le_of_ble_eq_true rfl) ⟨(Nat.le_of_ble_eq_true rfl), (Nat.le_of_ble_eq_true rfl)⟩ ⟨(Nat.le_of_ble_eq_true rfl), (Nat.le_of_ble_eq_true rfl)⟩ (fun r339 u H locs hp hP hD hS => ?_)
            have zl0 : (0 : Int32).toInt = 0 := by decide
            rcases hp with hp | hp
            · obtain ⟨F340, y341, y342, t343, t344, t345, t346, t347, rfl, rfl⟩ := hp
              have hP : va_P D vwCl [(h_h, .inl (cI, 104, .inl g328)), (h_names, .inl (cJ, 36, .inr (.inl f_names))), (h_reserved, .inl (cJ, 23, .inr (.inl f_reserved))), (h0, .inr (10, vL 67 F340)), (h_tape, .inl (cB, 940, .inl f_tape))] H := hP
              have hD : va_D A [(h_h, .inl (cI, 104, .inl g328)), (h_names, .inl (cJ, 36, .inr (.inl f_names))), (h_reserved, .inl (cJ, 23, .inr (.inl f_reserved))), (h0, .inr (10, vL 67 F340)), (h_tape, .inl (cB, 940, .inl f_tape))] := hD
              refine W.widen (k := 0) (n := 0) (Nat.le_of_ble_eq_true rfl) (Nat.le_of_ble_eq_true rfl) ?_
              refine lv_if_ne (tgt := 319) hx hb dX10_line0_314 (by decide) (fun g => absurd (by decide) g) (fun _ => ?_)
              refine lv_iconst (v := 0) hx hb dX10_line0_317 (by decide) ?_
              exact ret_i (v := 0) hx hb hr hlocks hS (hP.sub (ws' := [(h0, .inr (10, vL 67 F340)), (h_tape, .inl (cB, 940, .inl f_tape)), (h_h, .inl (cI, 104, .inl g328)), (h_names, .inl (cJ, 36, .inr (.inl f_names))), (h_reserved, .inl (cJ, 23, .inr (.inl f_reserved)))]) [3, 4, 0, 1, 2] rfl) (hD.sub (ws' := [(h0, .inr (10, vL 67 F340)), (h_tape, .inl (cB, 940, .inl f_tape)), (h_h, .inl (cI, 104, .inl g328)), (h_names, .inl (cJ, 36, .inr (.inl f_names))), (h_reserved, .inl (cJ, 23, .inr (.inl f_reserved)))]) [3, 4, 0, 1, 2] (by decide) rfl) dX10_line0_318 rfl (Nat.le_of_ble_eq_true rfl) (Nat.le_of_ble_eq_true rfl) (Or.inl ⟨F340, y291, y292, y293, y294, y295, y341, y342, y296, y297, x_onces, g328, f_names, (SAME.tr (SAME.tr (SAME.tr SAME.rf t258 (by decide)) t298 (by decide)) t343 (by decide)), (SAME.at t343 (by decide) t299), t300, (SAME.at t343 (by decide) t301), t302, (SAME.at t343 (by decide) t303), (SAME.at t343 (by decide) t305), (SAME.at t343 (by decide) t307), t344, (ir_wk t345 (by decide) (by decide)), t346, (SAME.at t343 (by decide) t308), (SAME.at t343 (by decide) t309), (SAME.at t343 (by decide) (SAME.at t298 (by decide) (SAME.at t258 (by decide) e_onces))), r329, r331, (SG.wk r332 (by decide) (by decide)), r333, r330, ((cLine_6 (tkM_1st (ISWF.t t15 (by omega)).1) (lnwM (ISWF.t t15 (by omega)).1 (ISWF.t t15 (by omega)).2)).trans (cBend_1 (show ¬ 12 ≤ (f_h 6).toInt by have hn : (f_h 6).toInt = v245.toInt := congrArg Int32.toInt ev245.symm; omega) (atM t271 (ISWF.t t15 (by omega)).1) t316 t347)), (by omega), rfl, rfl⟩)
            · refine hp.elim (fun F348 h9z0 => h9z0.elim (fun y349 h9z1 => h9z1.elim (fun y350 h9z2 => h9z2.elim (fun y351 h9z3 => h9z3.elim (fun y352 h9z4 => h9z4.elim (fun y353 h9z5 => h9z5.elim (fun y354 h9z6 => h9z6.elim (fun y355 h9z7 => h9z7.elim (fun t356 h9z8 => h9z8.elim (fun t357 h9z9 => h9z9.elim (fun t358 h9z10 => h9z10.elim (fun t359 h9z11 => h9z11.elim (fun t360 h9z12 => h9z12.elim (fun t361 h9z13 => h9z13.elim (fun t362 h9z14 => h9z14.elim (fun t363 h9z15 => h9z15.elim (fun t364 h9z16 => h9z16.elim (fun t365 h9z17 => h9z17.elim (fun t366 h9z18 => h9z18.elim (fun t367 h9z19 => h9z19.elim (fun t368 h9z20 => h9z20.elim (fun t369 h9z21 => h9z21.elim (fun t370 h9z22 => h9z22.elim (fun t371 h9z23 => h9z23.elim (fun t372 h9z24 => h9z24.elim (fun t373 h9z25 => h9z25.elim (fun t374 h9z26 => h9z26.elim (fun t375 h9z27 => h9z27.elim (fun t376 h9z28 => h9z28.elim (fun t377 h9z29 => h9z29.elim (fun heq930 h9z30 => ?_)))))))))))))))))))))))))))))))
              clear h9z0 h9z1 h9z2 h9z3 h9z4 h9z5 h9z6 h9z7 h9z8 h9z9 h9z10 h9z11 h9z12 h9z13 h9z14 h9z15 h9z16 h9z17 h9z18 h9z19 h9z20 h9z21 h9z22 h9z23 h9z24 h9z25 h9z26 h9z27 h9z28 h9z29
              subst heq930
              subst h9z30
              clear t315 t319
              have hP : va_P D vwCl [(h_h, .inl (cI, 104, .inl g328)), (h_names, .inl (cJ, 36, .inr (.inl f_names))), (h_reserved, .inl (cJ, 23, .inr (.inl f_reserved))), (h0, .inr (10, vL 67 F348)), (h_tape, .inl (cB, 940, .inl f_tape))] H := hP
              have hD : va_D A [(h_h, .inl (cI, 104, .inl g328)), (h_names, .inl (cJ, 36, .inr (.inl f_names))), (h_reserved, .inl (cJ, 23, .inr (.inl f_reserved))), (h0, .inr (10, vL 67 F348)), (h_tape, .inl (cB, 940, .inl f_tape))] := hD
              refine W.widen (k := 0) (n := 0) (Nat.le_of_ble_eq_true rfl) (Nat.le_of_ble_eq_true rfl) ?_
              have k379 : 2 ≤ y292.toInt ∧ y292.toInt ≤ 2 := ⟨Int.le_trans (Int.le_refl _) (Int.le_of_eq t368.symm), Int.le_trans (Int.le_of_eq t368) (Int.le_refl _)⟩
              have k380 : 0 ≤ y295.toInt ∧ y295.toInt ≤ 2147483647 := ⟨Int.le_trans (Int.le_refl _) t369, (ir_any _).2⟩
              have k381 : 0 ≤ y295.toInt ∧ y295.toInt ≤ 9 := ⟨k380.1, Int.le_trans t370 (Int.le_refl _)⟩
              refine lv_if_ne (tgt := 319) hx hb dX10_line0_314 (by decide) (fun _ => ?_) (fun g => absurd g (by decide))
              refine lv_aload_n hx hb dX10_line0_319 rfl (lv_at hl 2 rfl) ?_
              have n382 : F348 7 = .ref h_h := (SAME.at t356 (by decide) n325)
              refine get_f (D := D) (ci := 10) (v := .ref h_h) (C := RX10) (T := TX10) (N := 67) hx hb hw inAX10 hown hK hP 3 rfl rfl 7 (by decide) (hw _ q_1268) (fun _ h9 => h9) n382 dX10_line0_320 ?_
              refine lv_bipush (v := 56) hx hb dX10_line0_323 (by decide) ?_
              refine lv_iload_n hx hb dX10_line0_325 rfl (lv_at hl 0 rfl) ?_
              refine lv_iadd hx hb dX10_line0_326 ?_
              refine lv_topi (fun v383 ev383 => ?_)
              have bv383 : v383.toInt = 56 + v245.toInt := by rw [ev383]; exact add_k rfl rfl ⟨Int.le_refl _, Int.le_refl _⟩ k248 (by decide)
              have k384 : 56 ≤ v383.toInt ∧ v383.toInt ≤ 67 := add_r bv383 ⟨Int.le_refl _, Int.le_refl _⟩ k248 (by decide)
              refine lv_aload_n hx hb dX10_line0_327 rfl (lv_at hl 2 rfl) ?_
              refine get_f (D := D) (ci := 10) (v := .int y355) (C := RX10) (T := TX10) (N := 67) hx hb hw inAX10 hown hK hP 3 rfl rfl 19 (by decide) (hw _ q_1280) (fun _ h9 => h9) t367 dX10_line0_328 ?_
              obtain ⟨g385, eg385⟩ : ∃ z : Nat → Int32, upd g328 v383.toNatClampNeg y355 = z := ⟨_, rfl⟩
              have r386 : SG 0 0 0 40 g385 := by rw [← eg385]; exact r329.up (Int.le_trans (by decide) k384.1) (Or.inr (Or.inl (dec_lt k384.1 (by decide))))
              have r387 : SG 44 55 0 9 g385 := by rw [← eg385]; exact r330.up (Int.le_trans (by decide) k384.1) (Or.inr (Or.inl (dec_lt k384.1 (by decide))))
              have r388 : SG 5 5 0 12 g385 := by rw [← eg385]; exact r331.up (Int.le_trans (by decide) k384.1) (Or.inr (Or.inl (dec_lt k384.1 (by decide))))
              have r389 : SG 6 6 0 11 g385 := by rw [← eg385]; exact r332.up (Int.le_trans (by decide) k384.1) (Or.inr (Or.inl (dec_lt k384.1 (by decide))))
              have r390 : SG 7 7 0 6 g385 := by rw [← eg385]; exact r333.up (Int.le_trans (by decide) k384.1) (Or.inr (Or.inl (dec_lt k384.1 (by decide))))
              refine iast_g hx hb hK hP hD hS 0 0 rfl rfl (ix_k k384 (by decide) (by decide)) eg385 dX10_line0_331 (fun H locs hP hD hS => ?_)
              have hP : va_P D vwCl [(h_h, .inl (cI, 104, .inl g385)), (h_names, .inl (cJ, 36, .inr (.inl f_names))), (h_reserved, .inl (cJ, 23, .inr (.inl f_reserved))), (h0, .inr (10, vL 67 F348)), (h_tape, .inl (cB, 940, .inl f_tape))] H := hP
              have hD : va_D A [(h_h, .inl (cI, 104, .inl g385)), (h_names, .inl (cJ, 36, .inr (.inl f_names))), (h_reserved, .inl (cJ, 23, .inr (.inl f_reserved))), (h0, .inr (10, vL 67 F348)), (h_tape, .inl (cB, 940, .inl f_tape))] := hD
              refine lv_aload_n hx hb dX10_line0_332 rfl (lv_at hl 2 rfl) ?_
              refine lv_iconst (v := 0) hx hb dX10_line0_333 (by decide) ?_
              refine lv_bipush (v := 9) hx hb dX10_line0_334 (by decide) ?_
              have n391 : F348 1 = .ref h_tape := (SAME.at t356 (by decide) n334)
              have n392 : F348 3 = .int x_size := (SAME.at t356 (by decide) n335)
              have n393 : F348 5 = .int x_limit := (SAME.at t356 (by decide) n336)
              have n394 : F348 15 = .int x_fault := (SAME.at t356 (by decide) n337)
              have n395 : F348 16 = .int x_faultAt := (SAME.at t356 (by decide) n338)
              refine call_Vi (wr := [(h_h, .inl (cI, 104, .inl g385)), (h_names, .inl (cJ, 36, .inr (.inl f_names))), (h_reserved, .inl (cJ, 23, .inr (.inl f_reserved)))]) (As := [.int 0, .int 9]) (rest := []) hx hb hml hown hw (m_X10_takes l D cI cJ cB cP cM cZ h0 h_tape F348 x_size y349 x_limit y350 y351 y353 x_fault x_faultAt y354 y355 f_tape 0 9 _ n391 n392 i_x_size t357 t358 n393 i_x_limit t359 t360 t361 t365 n394 n395 t366 t367 (by omega)) wV_X10_242_X10_takes dX10_line0_336 hK hP hD hS hA [3, 4] [0, 1, 2] rfl rfl (by decide) (by decide) (by decide) 0 10 rfl rfl GG.fb hG.at hl.1 rfl (Nat.le_of_ble_eq_true rfl) ⟨(Nat.le_of_ble_eq_true rfl), (Nat.le_of_ble_eq_true rfl)⟩ ⟨(Nat.le_of_ble_eq_true rfl), (Nat.le_of_ble_eq_true rfl)⟩ (fun r396 u H locs hp hP hD hS => ?_)
              rcases hp with hp | hp
              · obtain ⟨F397, y398, y399, t400, t401, t402, t403, t404, rfl, rfl⟩ := hp
                have hP : va_P D vwCl [(h_h, .inl (cI, 104, .inl g385)), (h_names, .inl (cJ, 36, .inr (.inl f_names))), (h_reserved, .inl (cJ, 23, .inr (.inl f_reserved))), (h0, .inr (10, vL 67 F397)), (h_tape, .inl (cB, 940, .inl f_tape))] H := hP
                have hD : va_D A [(h_h, .inl (cI, 104, .inl g385)), (h_names, .inl (cJ, 36, .inr (.inl f_names))), (h_reserved, .inl (cJ, 23, .inr (.inl f_reserved))), (h0, .inr (10, vL 67 F397)), (h_tape, .inl (cB, 940, .inl f_tape))] := hD
                refine W.widen (k := 0) (n := 0) (Nat.le_of_ble_eq_true rfl) (Nat.le_of_ble_eq_true rfl) ?_
                refine lv_if_ne (tgt := 344) hx hb dX10_line0_339 (by decide) (fun g => absurd (by decide) g) (fun _ => ?_)
                refine lv_iconst (v := 0) hx hb dX10_line0_342 (by decide) ?_
                exact ret_i (v := 0) hx hb hr hlocks hS (hP.sub (ws' := [(h0, .inr (10, vL 67 F397)), (h_tape, .inl (cB, 940, .inl f_tape)), (h_h, .inl (cI, 104, .inl g385)), (h_names, .inl (cJ, 36, .inr (.inl f_names))), (h_reserved, .inl (cJ, 23, .inr (.inl f_reserved)))]) [3, 4, 0, 1, 2] rfl) (hD.sub (ws' := [(h0, .inr (10, vL 67 F397)), (h_tape, .inl (cB, 940, .inl f_tape)), (h_h, .inl (cI, 104, .inl g385)), (h_names, .inl (cJ, 36, .inr (.inl f_names))), (h_reserved, .inl (cJ, 23, .inr (.inl f_reserved)))]) [3, 4, 0, 1, 2] (by decide) rfl) dX10_line0_343 rfl (Nat.le_of_ble_eq_true rfl) (Nat.le_of_ble_eq_true rfl) (Or.inl ⟨F397, y349, y350, y351, y352, y353, y398, y399, y354, y355, x_onces, g385, f_names, (SAME.tr (SAME.tr (SAME.tr (SAME.tr SAME.rf t258 (by decide)) t298 (by decide)) t356 (by decide)) t400 (by decide)), (SAME.at t400 (by decide) t357), t358, (SAME.at t400 (by decide) t359), t360, (SAME.at t400 (by decide) t361), (SAME.at t400 (by decide) t363), (SAME.at t400 (by decide) t365), t401, (ir_wk t402 (by decide) (by decide)), t403, (SAME.at t400 (by decide) t366), (SAME.at t400 (by decide) t367), (SAME.at t400 (by decide) (SAME.at t356 (by decide) (SAME.at t298 (by decide) (SAME.at t258 (by decide) e_onces)))), r386, r388, (SG.wk r389 (by decide) (by decide)), r390, r387, ((cLine_6 (tkM_1st (ISWF.t t15 (by omega)).1) (lnwM (ISWF.t t15 (by omega)).1 (ISWF.t t15 (by omega)).2)).trans (cBend_2 (show ¬ 12 ≤ (f_h 6).toInt by have hn : (f_h 6).toInt = v245.toInt := congrArg Int32.toInt ev245.symm; omega) (atM t271 (ISWF.t t15 (by omega)).1) t316 t374 t404)), (by omega), rfl, rfl⟩)
              · refine hp.elim (fun F405 h9z0 => h9z0.elim (fun y406 h9z1 => h9z1.elim (fun y407 h9z2 => h9z2.elim (fun y408 h9z3 => h9z3.elim (fun y409 h9z4 => h9z4.elim (fun y410 h9z5 => h9z5.elim (fun y411 h9z6 => h9z6.elim (fun y412 h9z7 => h9z7.elim (fun t413 h9z8 => h9z8.elim (fun t414 h9z9 => h9z9.elim (fun t415 h9z10 => h9z10.elim (fun t416 h9z11 => h9z11.elim (fun t417 h9z12 => h9z12.elim (fun t418 h9z13 => h9z13.elim (fun t419 h9z14 => h9z14.elim (fun t420 h9z15 => h9z15.elim (fun t421 h9z16 => h9z16.elim (fun t422 h9z17 => h9z17.elim (fun t423 h9z18 => h9z18.elim (fun t424 h9z19 => h9z19.elim (fun t425 h9z20 => h9z20.elim (fun t426 h9z21 => h9z21.elim (fun t427 h9z22 => h9z22.elim (fun t428 h9z23 => h9z23.elim (fun t429 h9z24 => h9z24.elim (fun t430 h9z25 => h9z25.elim (fun t431 h9z26 => h9z26.elim (fun t432 h9z27 => h9z27.elim (fun t433 h9z28 => h9z28.elim (fun t434 h9z29 => h9z29.elim (fun heq930 h9z30 => ?_)))))))))))))))))))))))))))))))
                clear h9z0 h9z1 h9z2 h9z3 h9z4 h9z5 h9z6 h9z7 h9z8 h9z9 h9z10 h9z11 h9z12 h9z13 h9z14 h9z15 h9z16 h9z17 h9z18 h9z19 h9z20 h9z21 h9z22 h9z23 h9z24 h9z25 h9z26 h9z27 h9z28 h9z29
                subst heq930
                subst h9z30
                clear t373 t377
                have hP : va_P D vwCl [(h_h, .inl (cI, 104, .inl g385)), (h_names, .inl (cJ, 36, .inr (.inl f_names))), (h_reserved, .inl (cJ, 23, .inr (.inl f_reserved))), (h0, .inr (10, vL 67 F405)), (h_tape, .inl (cB, 940, .inl f_tape))] H := hP
                have hD : va_D A [(h_h, .inl (cI, 104, .inl g385)), (h_names, .inl (cJ, 36, .inr (.inl f_names))), (h_reserved, .inl (cJ, 23, .inr (.inl f_reserved))), (h0, .inr (10, vL 67 F405)), (h_tape, .inl (cB, 940, .inl f_tape))] := hD
                refine W.widen (k := 0) (n := 0) (Nat.le_of_ble_eq_true rfl) (Nat.le_of_ble_eq_true rfl) ?_
                have k436 : 2 ≤ y350.toInt ∧ y350.toInt ≤ 2 := ⟨Int.le_trans (Int.le_refl _) (Int.le_of_eq t425.symm), Int.le_trans (Int.le_of_eq t425) (Int.le_refl _)⟩
                have k437 : 0 ≤ y353.toInt ∧ y353.toInt ≤ 2147483647 := ⟨Int.le_trans (Int.le_refl _) t426, (ir_any _).2⟩
                have k438 : 0 ≤ y353.toInt ∧ y353.toInt ≤ 9 := ⟨k437.1, Int.le_trans t427 (Int.le_refl _)⟩
                refine lv_if_ne (tgt := 344) hx hb dX10_line0_339 (by decide) (fun _ => ?_) (fun g => absurd g (by decide))
                refine lv_aload_n hx hb dX10_line0_344 rfl (lv_at hl 2 rfl) ?_
                have n439 : F405 7 = .ref h_h := (SAME.at t413 (by decide) n382)
                refine get_f (D := D) (ci := 10) (v := .ref h_h) (C := RX10) (T := TX10) (N := 67) hx hb hw inAX10 hown hK hP 3 rfl rfl 7 (by decide) (hw _ q_1268) (fun _ h9 => h9) n439 dX10_line0_345 ?_
                refine lv_bipush (v := 68) hx hb dX10_line0_348 (by decide) ?_
                refine lv_iload_n hx hb dX10_line0_350 rfl (lv_at hl 0 rfl) ?_
                refine lv_iadd hx hb dX10_line0_351 ?_
                refine lv_topi (fun v440 ev440 => ?_)
                have bv440 : v440.toInt = 68 + v245.toInt := by rw [ev440]; exact add_k rfl rfl ⟨Int.le_refl _, Int.le_refl _⟩ k248 (by decide)
                have k441 : 68 ≤ v440.toInt ∧ v440.toInt ≤ 79 := add_r bv440 ⟨Int.le_refl _, Int.le_refl _⟩ k248 (by decide)
                refine lv_aload_n hx hb dX10_line0_352 rfl (lv_at hl 2 rfl) ?_
                refine get_f (D := D) (ci := 10) (v := .int y412) (C := RX10) (T := TX10) (N := 67) hx hb hw inAX10 hown hK hP 3 rfl rfl 19 (by decide) (hw _ q_1280) (fun _ h9 => h9) t424 dX10_line0_353 ?_
                obtain ⟨g442, eg442⟩ : ∃ z : Nat → Int32, upd g385 v440.toNatClampNeg y412 = z := ⟨_, rfl⟩
                have r443 : SG 0 0 0 40 g442 := by rw [← eg442]; exact r386.up (Int.le_trans (by decide) k441.1) (Or.inr (Or.inl (dec_lt k441.1 (by decide))))
                have r444 : SG 44 55 0 9 g442 := by rw [← eg442]; exact r387.up (Int.le_trans (by decide) k441.1) (Or.inr (Or.inl (dec_lt k441.1 (by decide))))
                have r445 : SG 5 5 0 12 g442 := by rw [← eg442]; exact r388.up (Int.le_trans (by decide) k441.1) (Or.inr (Or.inl (dec_lt k441.1 (by decide))))
                have r446 : SG 6 6 0 11 g442 := by rw [← eg442]; exact r389.up (Int.le_trans (by decide) k441.1) (Or.inr (Or.inl (dec_lt k441.1 (by decide))))
                have r447 : SG 7 7 0 6 g442 := by rw [← eg442]; exact r390.up (Int.le_trans (by decide) k441.1) (Or.inr (Or.inl (dec_lt k441.1 (by decide))))
                refine iast_g hx hb hK hP hD hS 0 0 rfl rfl (ix_k k441 (by decide) (by decide)) eg442 dX10_line0_356 (fun H locs hP hD hS => ?_)
                have hP : va_P D vwCl [(h_h, .inl (cI, 104, .inl g442)), (h_names, .inl (cJ, 36, .inr (.inl f_names))), (h_reserved, .inl (cJ, 23, .inr (.inl f_reserved))), (h0, .inr (10, vL 67 F405)), (h_tape, .inl (cB, 940, .inl f_tape))] H := hP
                have hD : va_D A [(h_h, .inl (cI, 104, .inl g442)), (h_names, .inl (cJ, 36, .inr (.inl f_names))), (h_reserved, .inl (cJ, 23, .inr (.inl f_reserved))), (h0, .inr (10, vL 67 F405)), (h_tape, .inl (cB, 940, .inl f_tape))] := hD
                refine lv_aload_n hx hb dX10_line0_357 rfl (lv_at hl 2 rfl) ?_
                refine lv_iconst (v := 1) hx hb dX10_line0_358 (by decide) ?_
                refine lv_bipush (v := 99) hx hb dX10_line0_359 (by decide) ?_
                have n448 : F405 1 = .ref h_tape := (SAME.at t413 (by decide) n391)
                have n449 : F405 3 = .int x_size := (SAME.at t413 (by decide) n392)
                have n450 : F405 5 = .int x_limit := (SAME.at t413 (by decide) n393)
                have n451 : F405 15 = .int x_fault := (SAME.at t413 (by decide) n394)
                have n452 : F405 16 = .int x_faultAt := (SAME.at t413 (by decide) n395)
                refine call_Vi (wr := [(h_h, .inl (cI, 104, .inl g442)), (h_names, .inl (cJ, 36, .inr (.inl f_names))), (h_reserved, .inl (cJ, 23, .inr (.inl f_reserved)))]) (As := [.int 1, .int 99]) (rest := []) hx hb hml hown hw (m_X10_takes l D cI cJ cB cP cM cZ h0 h_tape F405 x_size y406 x_limit y407 y408 y410 x_fault x_faultAt y411 y412 f_tape 1 99 _ n448 n449 i_x_size t414 t415 n450 i_x_limit t416 t417 t418 t422 n451 n452 t423 t424 (by omega)) wV_X10_242_X10_takes dX10_line0_361 hK hP hD hS hA [3, 4] [0, 1, 2] rfl rfl (by decide) (by decide) (by decide) 0 10 rfl rfl GG.fb hG.at hl.1 rfl (Nat.le_of_ble_eq_true rfl) ⟨(Nat.le_of_ble_eq_true rfl), (Nat.le_of_ble_eq_true rfl)⟩ ⟨(Nat.le_of_ble_eq_true rfl), (Nat.le_of_ble_eq_true rfl)⟩ (fun r453 u H locs hp hP hD hS => ?_)
                have zl99 : (99 : Int32).toInt = 99 := by decide
                rcases hp with hp | hp
                · obtain ⟨F454, y455, y456, t457, t458, t459, t460, t461, rfl, rfl⟩ := hp
                  have hP : va_P D vwCl [(h_h, .inl (cI, 104, .inl g442)), (h_names, .inl (cJ, 36, .inr (.inl f_names))), (h_reserved, .inl (cJ, 23, .inr (.inl f_reserved))), (h0, .inr (10, vL 67 F454)), (h_tape, .inl (cB, 940, .inl f_tape))] H := hP
                  have hD : va_D A [(h_h, .inl (cI, 104, .inl g442)), (h_names, .inl (cJ, 36, .inr (.inl f_names))), (h_reserved, .inl (cJ, 23, .inr (.inl f_reserved))), (h0, .inr (10, vL 67 F454)), (h_tape, .inl (cB, 940, .inl f_tape))] := hD
                  refine W.widen (k := 0) (n := 0) (Nat.le_of_ble_eq_true rfl) (Nat.le_of_ble_eq_true rfl) ?_
                  refine lv_if_ne (tgt := 369) hx hb dX10_line0_364 (by decide) (fun g => absurd (by decide) g) (fun _ => ?_)
                  refine lv_iconst (v := 0) hx hb dX10_line0_367 (by decide) ?_
                  exact ret_i (v := 0) hx hb hr hlocks hS (hP.sub (ws' := [(h0, .inr (10, vL 67 F454)), (h_tape, .inl (cB, 940, .inl f_tape)), (h_h, .inl (cI, 104, .inl g442)), (h_names, .inl (cJ, 36, .inr (.inl f_names))), (h_reserved, .inl (cJ, 23, .inr (.inl f_reserved)))]) [3, 4, 0, 1, 2] rfl) (hD.sub (ws' := [(h0, .inr (10, vL 67 F454)), (h_tape, .inl (cB, 940, .inl f_tape)), (h_h, .inl (cI, 104, .inl g442)), (h_names, .inl (cJ, 36, .inr (.inl f_names))), (h_reserved, .inl (cJ, 23, .inr (.inl f_reserved)))]) [3, 4, 0, 1, 2] (by decide) rfl) dX10_line0_368 rfl (Nat.le_of_ble_eq_true rfl) (Nat.le_of_ble_eq_true rfl) (Or.inl ⟨F454, y406, y407, y408, y409, y410, y455, y456, y411, y412, x_onces, g442, f_names, (SAME.tr (SAME.tr (SAME.tr (SAME.tr (SAME.tr SAME.rf t258 (by decide)) t298 (by decide)) t356 (by decide)) t413 (by decide)) t457 (by decide)), (SAME.at t457 (by decide) t414), t415, (SAME.at t457 (by decide) t416), t417, (SAME.at t457 (by decide) t418), (SAME.at t457 (by decide) t420), (SAME.at t457 (by decide) t422), t458, (ir_wk t459 (by decide) (by decide)), t460, (SAME.at t457 (by decide) t423), (SAME.at t457 (by decide) t424), (SAME.at t457 (by decide) (SAME.at t413 (by decide) (SAME.at t356 (by decide) (SAME.at t298 (by decide) (SAME.at t258 (by decide) e_onces))))), r443, r445, (SG.wk r446 (by decide) (by decide)), r447, r444, ((cLine_6 (tkM_1st (ISWF.t t15 (by omega)).1) (lnwM (ISWF.t t15 (by omega)).1 (ISWF.t t15 (by omega)).2)).trans (cBend_3 (show ¬ 12 ≤ (f_h 6).toInt by have hn : (f_h 6).toInt = v245.toInt := congrArg Int32.toInt ev245.symm; omega) (atM t271 (ISWF.t t15 (by omega)).1) t316 t374 t431 t461)), (by omega), rfl, rfl⟩)
                · refine hp.elim (fun F462 h9z0 => h9z0.elim (fun y463 h9z1 => h9z1.elim (fun y464 h9z2 => h9z2.elim (fun y465 h9z3 => h9z3.elim (fun y466 h9z4 => h9z4.elim (fun y467 h9z5 => h9z5.elim (fun y468 h9z6 => h9z6.elim (fun y469 h9z7 => h9z7.elim (fun t470 h9z8 => h9z8.elim (fun t471 h9z9 => h9z9.elim (fun t472 h9z10 => h9z10.elim (fun t473 h9z11 => h9z11.elim (fun t474 h9z12 => h9z12.elim (fun t475 h9z13 => h9z13.elim (fun t476 h9z14 => h9z14.elim (fun t477 h9z15 => h9z15.elim (fun t478 h9z16 => h9z16.elim (fun t479 h9z17 => h9z17.elim (fun t480 h9z18 => h9z18.elim (fun t481 h9z19 => h9z19.elim (fun t482 h9z20 => h9z20.elim (fun t483 h9z21 => h9z21.elim (fun t484 h9z22 => h9z22.elim (fun t485 h9z23 => h9z23.elim (fun t486 h9z24 => h9z24.elim (fun t487 h9z25 => h9z25.elim (fun t488 h9z26 => h9z26.elim (fun t489 h9z27 => h9z27.elim (fun t490 h9z28 => h9z28.elim (fun t491 h9z29 => h9z29.elim (fun heq930 h9z30 => ?_)))))))))))))))))))))))))))))))
                  clear h9z0 h9z1 h9z2 h9z3 h9z4 h9z5 h9z6 h9z7 h9z8 h9z9 h9z10 h9z11 h9z12 h9z13 h9z14 h9z15 h9z16 h9z17 h9z18 h9z19 h9z20 h9z21 h9z22 h9z23 h9z24 h9z25 h9z26 h9z27 h9z28 h9z29
                  subst heq930
                  subst h9z30
                  clear t430 t434
                  have hP : va_P D vwCl [(h_h, .inl (cI, 104, .inl g442)), (h_names, .inl (cJ, 36, .inr (.inl f_names))), (h_reserved, .inl (cJ, 23, .inr (.inl f_reserved))), (h0, .inr (10, vL 67 F462)), (h_tape, .inl (cB, 940, .inl f_tape))] H := hP
                  have hD : va_D A [(h_h, .inl (cI, 104, .inl g442)), (h_names, .inl (cJ, 36, .inr (.inl f_names))), (h_reserved, .inl (cJ, 23, .inr (.inl f_reserved))), (h0, .inr (10, vL 67 F462)), (h_tape, .inl (cB, 940, .inl f_tape))] := hD
                  refine W.widen (k := 0) (n := 0) (Nat.le_of_ble_eq_true rfl) (Nat.le_of_ble_eq_true rfl) ?_
                  have k493 : 2 ≤ y407.toInt ∧ y407.toInt ≤ 2 := ⟨Int.le_trans (Int.le_refl _) (Int.le_of_eq t482.symm), Int.le_trans (Int.le_of_eq t482) (Int.le_refl _)⟩
                  have k494 : 1 ≤ y410.toInt ∧ y410.toInt ≤ 2147483647 := ⟨Int.le_trans (Int.le_refl _) t483, (ir_any _).2⟩
                  have k495 : 1 ≤ y410.toInt ∧ y410.toInt ≤ 99 := ⟨k494.1, Int.le_trans t484 (Int.le_refl _)⟩
                  refine lv_if_ne (tgt := 369) hx hb dX10_line0_364 (by decide) (fun _ => ?_) (fun g => absurd g (by decide))
                  refine lv_aload_n hx hb dX10_line0_369 rfl (lv_at hl 2 rfl) ?_
                  have n496 : F462 7 = .ref h_h := (SAME.at t470 (by decide) n439)
                  refine get_f (D := D) (ci := 10) (v := .ref h_h) (C := RX10) (T := TX10) (N := 67) hx hb hw inAX10 hown hK hP 3 rfl rfl 7 (by decide) (hw _ q_1268) (fun _ h9 => h9) n496 dX10_line0_370 ?_
                  refine lv_bipush (v := 80) hx hb dX10_line0_373 (by decide) ?_
                  refine lv_iload_n hx hb dX10_line0_375 rfl (lv_at hl 0 rfl) ?_
                  refine lv_iadd hx hb dX10_line0_376 ?_
                  refine lv_topi (fun v497 ev497 => ?_)
                  have bv497 : v497.toInt = 80 + v245.toInt := by rw [ev497]; exact add_k rfl rfl ⟨Int.le_refl _, Int.le_refl _⟩ k248 (by decide)
                  have k498 : 80 ≤ v497.toInt ∧ v497.toInt ≤ 91 := add_r bv497 ⟨Int.le_refl _, Int.le_refl _⟩ k248 (by decide)
                  refine lv_aload_n hx hb dX10_line0_377 rfl (lv_at hl 2 rfl) ?_
                  refine get_f (D := D) (ci := 10) (v := .int y469) (C := RX10) (T := TX10) (N := 67) hx hb hw inAX10 hown hK hP 3 rfl rfl 19 (by decide) (hw _ q_1280) (fun _ h9 => h9) t481 dX10_line0_378 ?_
                  obtain ⟨g499, eg499⟩ : ∃ z : Nat → Int32, upd g442 v497.toNatClampNeg y469 = z := ⟨_, rfl⟩
                  have r500 : SG 0 0 0 40 g499 := by rw [← eg499]; exact r443.up (Int.le_trans (by decide) k498.1) (Or.inr (Or.inl (dec_lt k498.1 (by decide))))
                  have r501 : SG 44 55 0 9 g499 := by rw [← eg499]; exact r444.up (Int.le_trans (by decide) k498.1) (Or.inr (Or.inl (dec_lt k498.1 (by decide))))
                  have r502 : SG 5 5 0 12 g499 := by rw [← eg499]; exact r445.up (Int.le_trans (by decide) k498.1) (Or.inr (Or.inl (dec_lt k498.1 (by decide))))
                  have r503 : SG 6 6 0 11 g499 := by rw [← eg499]; exact r446.up (Int.le_trans (by decide) k498.1) (Or.inr (Or.inl (dec_lt k498.1 (by decide))))
                  have r504 : SG 7 7 0 6 g499 := by rw [← eg499]; exact r447.up (Int.le_trans (by decide) k498.1) (Or.inr (Or.inl (dec_lt k498.1 (by decide))))
                  refine iast_g hx hb hK hP hD hS 0 0 rfl rfl (ix_k k498 (by decide) (by decide)) eg499 dX10_line0_381 (fun H locs hP hD hS => ?_)
                  have hP : va_P D vwCl [(h_h, .inl (cI, 104, .inl g499)), (h_names, .inl (cJ, 36, .inr (.inl f_names))), (h_reserved, .inl (cJ, 23, .inr (.inl f_reserved))), (h0, .inr (10, vL 67 F462)), (h_tape, .inl (cB, 940, .inl f_tape))] H := hP
                  have hD : va_D A [(h_h, .inl (cI, 104, .inl g499)), (h_names, .inl (cJ, 36, .inr (.inl f_names))), (h_reserved, .inl (cJ, 23, .inr (.inl f_reserved))), (h0, .inr (10, vL 67 F462)), (h_tape, .inl (cB, 940, .inl f_tape))] := hD
                  refine lv_aload_n hx hb dX10_line0_382 rfl (lv_at hl 2 rfl) ?_
                  refine get_f (D := D) (ci := 10) (v := .ref h_h) (C := RX10) (T := TX10) (N := 67) hx hb hw inAX10 hown hK hP 3 rfl rfl 7 (by decide) (hw _ q_1268) (fun _ h9 => h9) n496 dX10_line0_383 ?_
                  refine lv_bipush (v := 6) hx hb dX10_line0_386 (by decide) ?_
                  refine lv_dup2_11 hx hb dX10_line0_388 rfl rfl ?_
                  refine iald_n hx hb hK hP 0 0 rfl rfl 6 rfl (Nat.le_of_ble_eq_true rfl) (Nat.le_of_ble_eq_true rfl) rfl dX10_line0_389 ?_
                  refine lv_topi (fun v505 ev505 => ?_)
                  have k506 : 0 ≤ v505.toInt ∧ v505.toInt ≤ 11 := by rw [ev505]; exact r503.atN 6 (by decide) (by decide)
                  refine lv_iconst (v := 1) hx hb dX10_line0_390 (by decide) ?_
                  refine lv_iadd hx hb dX10_line0_391 ?_
                  refine lv_topi (fun v507 ev507 => ?_)
                  have bv507 : v507.toInt = v505.toInt + 1 := by rw [ev507]; exact add_k rfl rfl k506 ⟨Int.le_refl _, Int.le_refl _⟩ (by decide)
                  have k508 : 1 ≤ v507.toInt ∧ v507.toInt ≤ 12 := add_r bv507 k506 ⟨Int.le_refl _, Int.le_refl _⟩ (by decide)
                  obtain ⟨g509, eg509⟩ : ∃ z : Nat → Int32, upd g499 6 v507 = z := ⟨_, rfl⟩
                  have r510 : SG 0 0 0 40 g509 := by rw [← eg509]; exact r500.upN (Or.inr (Or.inl (by decide)))
                  have r511 : SG 44 55 0 9 g509 := by rw [← eg509]; exact r501.upN (Or.inl (by decide))
                  have r512 : SG 5 5 0 12 g509 := by rw [← eg509]; exact r502.upN (Or.inr (Or.inl (by decide)))
                  have r513 : SG 7 7 0 6 g509 := by rw [← eg509]; exact r504.upN (Or.inl (by decide))
                  have r514 : SG 6 6 0 12 g509 := by rw [← eg509]; exact SG.new1 (ir_wk k508 (by decide) (by decide))
                  refine iast_n hx hb hK hP hD hS 0 0 rfl rfl 6 rfl (Nat.le_of_ble_eq_true rfl) (Nat.le_of_ble_eq_true rfl) eg509 dX10_line0_392 (fun H locs hP hD hS => ?_)
                  have hP : va_P D vwCl [(h_h, .inl (cI, 104, .inl g509)), (h_names, .inl (cJ, 36, .inr (.inl f_names))), (h_reserved, .inl (cJ, 23, .inr (.inl f_reserved))), (h0, .inr (10, vL 67 F462)), (h_tape, .inl (cB, 940, .inl f_tape))] H := hP
                  have hD : va_D A [(h_h, .inl (cI, 104, .inl g509)), (h_names, .inl (cJ, 36, .inr (.inl f_names))), (h_reserved, .inl (cJ, 23, .inr (.inl f_reserved))), (h0, .inr (10, vL 67 F462)), (h_tape, .inl (cB, 940, .inl f_tape))] := hD
                  refine lv_iconst (v := 1) hx hb dX10_line0_393 (by decide) ?_
                  exact ret_i (v := 1) hx hb hr hlocks hS (hP.sub (ws' := [(h0, .inr (10, vL 67 F462)), (h_tape, .inl (cB, 940, .inl f_tape)), (h_h, .inl (cI, 104, .inl g509)), (h_names, .inl (cJ, 36, .inr (.inl f_names))), (h_reserved, .inl (cJ, 23, .inr (.inl f_reserved)))]) [3, 4, 0, 1, 2] rfl) (hD.sub (ws' := [(h0, .inr (10, vL 67 F462)), (h_tape, .inl (cB, 940, .inl f_tape)), (h_h, .inl (cI, 104, .inl g509)), (h_names, .inl (cJ, 36, .inr (.inl f_names))), (h_reserved, .inl (cJ, 23, .inr (.inl f_reserved)))]) [3, 4, 0, 1, 2] (by decide) rfl) dX10_line0_394 rfl (Nat.le_of_ble_eq_true rfl) (Nat.le_of_ble_eq_true rfl) (Or.inr ⟨F462, y463, y464, y465, y466, y467, y468, y469, x_onces, g509, f_names, (SAME.tr (SAME.tr (SAME.tr (SAME.tr (SAME.tr SAME.rf t258 (by decide)) t298 (by decide)) t356 (by decide)) t413 (by decide)) t470 (by decide)), t471, t472, t473, t474, t475, t476, t477, t478, t479, t480, t481, (SAME.at t470 (by decide) (SAME.at t413 (by decide) (SAME.at t356 (by decide) (SAME.at t298 (by decide) (SAME.at t258 (by decide) e_onces))))), r510, r512, r514, r513, r511, (by have zl1 : (1 : Int32).toInt = 1 := (by decide); omega), (by have zl1 : (1 : Int32).toInt = 1 := (by decide); omega), ((cLine_6 (tkM_1st (ISWF.t t15 (by omega)).1) (lnwM (ISWF.t t15 (by omega)).1 (ISWF.t t15 (by omega)).2)).trans (fin_r (cBend_o (show ¬ 12 ≤ (f_h 6).toInt by have hn : (f_h 6).toInt = v245.toInt := congrArg Int32.toInt ev245.symm; omega) (atM t271 (ISWF.t t15 (by omega)).1) t316 t374 t431 t488 (show (g509 6).toInt = (f_h 6).toInt + 1 from (by rw [← eg509, pk_us, bv507]; have hq : v505.toInt = (f_h 6).toInt := congrArg Int32.toInt (ev505.trans (HU.up (HU.up (HU.up (HU.up HU.rf eg328 (by omega)) eg385 (by omega)) eg442 (by omega)) eg499 (by omega)).a6); omega))) (csM_b (HU.up (HU.up (HU.up (HU.up HU.rf eg328 (by omega)) eg385 (by omega)) eg442 (by omega)) eg499 (by omega)) eg509))), (ISWF.t t15 (by omega)).1, (AV.h z_1 ((upd_m eg509 (by decide)).trans (HU.up (HU.up (HU.up (HU.up HU.rf eg328 (by omega)) eg385 (by omega)) eg442 (by omega)) eg499 (by omega)).a5)), (AV.h z_2 ((upd_m eg509 (by decide)).trans (HU.up (HU.up (HU.up (HU.up HU.rf eg328 (by omega)) eg385 (by omega)) eg442 (by omega)) eg499 (by omega)).a7)), t490, (by omega), rfl, rfl⟩)
        · have dc247 : v245.toInt = 12 := eq_i (a := v245.toInt) (b := 12) rfl rfl c247
          have k515 : 12 ≤ v245.toInt ∧ v245.toInt ≤ 12 := ⟨Int.le_trans (Int.le_refl _) (Int.le_of_eq dc247.symm), k246.2⟩
          refine lv_aload_n hx hb dX10_line0_272 rfl (lv_at hl 2 rfl) ?_
          refine lv_iconst (v := 4) hx hb dX10_line0_273 (by decide) ?_
          refine call_Vi (wr := [(h_tape, .inl (cB, 940, .inl f_tape)), (h_h, .inl (cI, 104, .inl f_h)), (h_names, .inl (cJ, 36, .inr (.inl f_names))), (h_reserved, .inl (cJ, 23, .inr (.inl f_reserved)))]) (As := [.int 4]) (rest := []) hx hb hml hown hw (m_X10_bad l D cI cJ cB cP cM cZ h0 Fh x_at 4 _ e_at) wV_X10_205_X10_bad dX10_line0_274 hK hP hD hS hA [4] [0, 1, 2, 3] rfl rfl (by decide) (by decide) (by decide) 0 10 rfl rfl GG.fb hG.at hl.1 rfl (Nat.le_of_ble_eq_true rfl) ⟨(Nat.le_of_ble_eq_true rfl), (Nat.le_of_ble_eq_true rfl)⟩ ⟨(Nat.le_of_ble_eq_true rfl), (Nat.le_of_ble_eq_true rfl)⟩ (fun r516 u H locs hp hP hD hS => ?_)
          have zl4 : (4 : Int32).toInt = 4 := by decide
          obtain ⟨F517, t518, t519, t520, rfl, rfl⟩ := hp
          have hP : va_P D vwCl [(h_tape, .inl (cB, 940, .inl f_tape)), (h_h, .inl (cI, 104, .inl f_h)), (h_names, .inl (cJ, 36, .inr (.inl f_names))), (h_reserved, .inl (cJ, 23, .inr (.inl f_reserved))), (h0, .inr (10, vL 67 F517))] H := hP
          have hD : va_D A [(h_tape, .inl (cB, 940, .inl f_tape)), (h_h, .inl (cI, 104, .inl f_h)), (h_names, .inl (cJ, 36, .inr (.inl f_names))), (h_reserved, .inl (cJ, 23, .inr (.inl f_reserved))), (h0, .inr (10, vL 67 F517))] := hD
          refine W.widen (k := 0) (n := 0) (Nat.le_of_ble_eq_true rfl) (Nat.le_of_ble_eq_true rfl) ?_
          exact ret_i (v := 0) hx hb hr hlocks hS (hP.sub (ws' := [(h0, .inr (10, vL 67 F517)), (h_tape, .inl (cB, 940, .inl f_tape)), (h_h, .inl (cI, 104, .inl f_h)), (h_names, .inl (cJ, 36, .inr (.inl f_names))), (h_reserved, .inl (cJ, 23, .inr (.inl f_reserved)))]) [4, 0, 1, 2, 3] rfl) (hD.sub (ws' := [(h0, .inr (10, vL 67 F517)), (h_tape, .inl (cB, 940, .inl f_tape)), (h_h, .inl (cI, 104, .inl f_h)), (h_names, .inl (cJ, 36, .inr (.inl f_names))), (h_reserved, .inl (cJ, 23, .inr (.inl f_reserved)))]) [4, 0, 1, 2, 3] (by decide) rfl) dX10_line0_277 rfl (Nat.le_of_ble_eq_true rfl) (Nat.le_of_ble_eq_true rfl) (Or.inl ⟨F517, x_p, x_token, x_at, x_span, x_number, 4, x_at, x_word, x_got, x_onces, f_h, f_names, (SAME.tr SAME.rf t518 (by decide)), (SAME.at t518 (by decide) e_p), i_x_p, (SAME.at t518 (by decide) e_token), i_x_token, (SAME.at t518 (by decide) e_at), (SAME.at t518 (by decide) e_span), (SAME.at t518 (by decide) e_number), t519, (show 1 ≤ (4 : Int32).toInt ∧ (4 : Int32).toInt ≤ 4 by decide), t520, (SAME.at t518 (by decide) e_word), (SAME.at t518 (by decide) e_got), (SAME.at t518 (by decide) e_onces), s_h_0, s_h_5, s_h_6, s_h_7, s_h_44, ((cLine_6 (tkM_1st (ISWF.t t15 (by omega)).1) (lnwM (ISWF.t t15 (by omega)).1 (ISWF.t t15 (by omega)).2)).trans (inl_eq (cBend_m (show 12 ≤ (f_h 6).toInt by have hn : (f_h 6).toInt = v245.toInt := congrArg Int32.toInt ev245.symm; omega)) (by decide) rfl)), (by have zl4 : (4 : Int32).toInt = 4 := (by decide); omega), rfl, rfl⟩)
    · have dc11 : r7.toInt ≠ 0 := ne_i (a := r7.toInt) (b := 0) rfl rfl c11
      have k522 : 1 ≤ r7.toInt ∧ r7.toInt ≤ 1 := ⟨ne_lo dc11 t8.1 ⟨Int.le_refl _, Int.le_refl _⟩ (by decide), t8.2⟩
      refine lv_aload_n hx hb dX10_line0_123 rfl (lv_at hl 1 rfl) ?_
      refine get_f (D := D) (ci := 10) (v := .ref h_h) (C := RX10) (T := TX10) (N := 67) hx hb hw inAX10 hown hK hP 4 rfl rfl 7 (by decide) (hw _ q_1268) (fun _ h9 => h9) e_h dX10_line0_124 ?_
      refine lv_iconst (v := 5) hx hb dX10_line0_127 (by decide) ?_
      refine iald_n hx hb hK hP 1 0 rfl rfl 5 rfl (Nat.le_of_ble_eq_true rfl) (Nat.le_of_ble_eq_true rfl) rfl dX10_line0_128 ?_
      refine lv_topi (fun v523 ev523 => ?_)
      have k524 : 0 ≤ v523.toInt ∧ v523.toInt ≤ 12 := by rw [ev523]; exact s_h_5.atN 5 (by decide) (by decide)
      refine lv_istore_n (lv' := [(2, .int v523), (1, .int r1), (0, .ref h0)]) hx hb dX10_line0_129 rfl hl (by decide) rfl (fun ls hl => ?_)
      refine lv_iload_n hx hb dX10_line0_130 rfl (lv_at hl 0 rfl) ?_
      refine lv_bipush (v := 12) hx hb dX10_line0_131 (by decide) ?_
      refine lv_icmp_ne (tgt := 142) hx hb dX10_line0_133 (by decide) (fun c525 => ?_) (fun c525 => ?_)
      · have dc525 : v523.toInt ≠ 12 := ne_i (a := v523.toInt) (b := 12) rfl rfl c525
        have k526 : 0 ≤ v523.toInt ∧ v523.toInt ≤ 11 := ⟨k524.1, ne_hi dc525 k524.2 ⟨Int.le_refl _, Int.le_refl _⟩ (by decide)⟩
        have r527 : SG 5 5 0 11 f_h := SG.one ev523 k526
        refine lv_aload_n hx hb dX10_line0_142 rfl (lv_at hl 2 rfl) ?_
        refine call_Vv (wr := [(h_h, .inl (cI, 104, .inl f_h)), (h_names, .inl (cJ, 36, .inr (.inl f_names))), (h_reserved, .inl (cJ, 23, .inr (.inl f_reserved)))]) (As := []) (rest := []) hx hb hml hown hw (m_X10_next l D cI cJ cB cP cM cZ h0 h_tape Fh x_size x_p x_limit x_token x_at x_number x_word f_tape _ e_tape e_size i_x_size e_p i_x_p e_limit i_x_limit e_token i_x_token e_at e_number e_word (by omega)) wV_X10_208_X10_next dX10_line0_143 hK hP hD hS hA [4, 0] [1, 2, 3] rfl rfl (by decide) (by decide) (by decide) 0 10 rfl rfl GG.fb hG.at hl.1 rfl (Nat.le_of_ble_eq_true rfl) ⟨(Nat.le_of_ble_eq_true rfl), (Nat.le_of_ble_eq_true rfl)⟩ ⟨(Nat.le_of_ble_eq_true rfl), (Nat.le_of_ble_eq_true rfl)⟩ (fun u H locs hp hP hD hS => ?_)
        obtain ⟨F529, y530, y531, y532, y533, y534, y535, t536, t537, t538, t539, t540, t541, t542, t543, t544, t545, t546, t547, t548, t549, t550, t551, rfl⟩ := hp
        have hP : va_P D vwCl [(h_h, .inl (cI, 104, .inl f_h)), (h_names, .inl (cJ, 36, .inr (.inl f_names))), (h_reserved, .inl (cJ, 23, .inr (.inl f_reserved))), (h0, .inr (10, vL 67 F529)), (h_tape, .inl (cB, 940, .inl f_tape))] H := hP
        have hD : va_D A [(h_h, .inl (cI, 104, .inl f_h)), (h_names, .inl (cJ, 36, .inr (.inl f_names))), (h_reserved, .inl (cJ, 23, .inr (.inl f_reserved))), (h0, .inr (10, vL 67 F529)), (h_tape, .inl (cB, 940, .inl f_tape))] := hD
        refine W.widen (k := 0) (n := 0) (Nat.le_of_ble_eq_true rfl) (Nat.le_of_ble_eq_true rfl) ?_
        refine lv_aload_n hx hb dX10_line0_146 rfl (lv_at hl 2 rfl) ?_
        refine lv_bipush (v := 18) hx hb dX10_line0_147 (by decide) ?_
        refine lv_iload_n hx hb dX10_line0_149 rfl (lv_at hl 0 rfl) ?_
        refine lv_iadd hx hb dX10_line0_150 ?_
        refine lv_topi (fun v553 ev553 => ?_)
        have bv553 : v553.toInt = 18 + v523.toInt := by rw [ev553]; exact add_k rfl rfl ⟨Int.le_refl _, Int.le_refl _⟩ k526 (by decide)
        have k554 : 18 ≤ v553.toInt ∧ v553.toInt ≤ 29 := add_r bv553 ⟨Int.le_refl _, Int.le_refl _⟩ k526 (by decide)
        have n555 : F529 1 = .ref h_tape := (SAME.at t536 (by decide) e_tape)
        have n556 : F529 3 = .int x_size := (SAME.at t536 (by decide) e_size)
        have n557 : F529 5 = .int x_limit := (SAME.at t536 (by decide) e_limit)
        have n558 : F529 7 = .ref h_h := (SAME.at t536 (by decide) e_h)
        have n559 : F529 9 = .ref h_names := (SAME.at t536 (by decide) e_names)
        have n560 : F529 10 = .ref h_reserved := (SAME.at t536 (by decide) e_reserved)
        have n561 : F529 15 = .int x_fault := (SAME.at t536 (by decide) e_fault)
        have n562 : F529 16 = .int x_faultAt := (SAME.at t536 (by decide) e_faultAt)
        refine call_Vi (wr := []) (As := [.int v553]) (rest := []) hx hb hml hown hw (m_X10_fresh l D cI cJ cB cP cM cZ h0 h_tape h_h h_names h_reserved F529 x_size y530 x_limit y531 y532 y534 x_fault x_faultAt y535 f_tape f_h f_names f_reserved v553 _ n555 n556 i_x_size t537 t538 n557 i_x_limit n558 n559 n560 t539 t540 t541 t545 n561 n562 t546 s_h_0 s_h_44 (SG.wk r527 (by decide) (by decide)) s_h_6 s_h_7 s_reserved_KR (ir_wk k554 (by decide) (by decide)) t550 z_1 z_2 (by omega)) wV_X10_245_X10_fresh dX10_line0_151 hK hP hD hS hA [3, 4, 0, 1, 2] [] rfl rfl (by decide) (by decide) (by decide) 0 10 rfl rfl GG.fb hG.at hl.1 rfl (Nat.le_of_ble_eq_true rfl) ⟨(Nat.le_of_ble_eq_true rfl), (Nat.le_of_ble_eq_true rfl)⟩ ⟨(Nat.le_of_ble_eq_true rfl), (Nat.le_of_ble_eq_true rfl)⟩ (fun r563 u H locs hp hP hD hS => ?_)
        rcases hp with hp | hp
        · refine hp.elim (fun F564 h9z0 => h9z0.elim (fun y565 h9z1 => h9z1.elim (fun y566 h9z2 => h9z2.elim (fun y567 h9z3 => h9z3.elim (fun y568 h9z4 => h9z4.elim (fun y569 h9z5 => h9z5.elim (fun y570 h9z6 => h9z6.elim (fun g571 h9z7 => h9z7.elim (fun t572 h9z8 => h9z8.elim (fun t573 h9z9 => h9z9.elim (fun t574 h9z10 => h9z10.elim (fun t575 h9z11 => h9z11.elim (fun t576 h9z12 => h9z12.elim (fun t577 h9z13 => h9z13.elim (fun t578 h9z14 => h9z14.elim (fun t579 h9z15 => h9z15.elim (fun t580 h9z16 => h9z16.elim (fun t581 h9z17 => h9z17.elim (fun t582 h9z18 => h9z18.elim (fun t583 h9z19 => h9z19.elim (fun t584 h9z20 => h9z20.elim (fun t585 h9z21 => h9z21.elim (fun t586 h9z22 => h9z22.elim (fun t587 h9z23 => h9z23.elim (fun t588 h9z24 => h9z24.elim (fun t589 h9z25 => h9z25.elim (fun t590 h9z26 => h9z26.elim (fun heq927 h9z27 => ?_))))))))))))))))))))))))))))
          clear h9z0 h9z1 h9z2 h9z3 h9z4 h9z5 h9z6 h9z7 h9z8 h9z9 h9z10 h9z11 h9z12 h9z13 h9z14 h9z15 h9z16 h9z17 h9z18 h9z19 h9z20 h9z21 h9z22 h9z23 h9z24 h9z25 h9z26
          subst heq927
          subst h9z27
          clear t548 t551
          have hP : va_P D vwCl [(h0, .inr (10, vL 67 F564)), (h_tape, .inl (cB, 940, .inl f_tape)), (h_h, .inl (cI, 104, .inl f_h)), (h_names, .inl (cJ, 36, .inr (.inl g571))), (h_reserved, .inl (cJ, 23, .inr (.inl f_reserved)))] H := hP
          have hD : va_D A [(h0, .inr (10, vL 67 F564)), (h_tape, .inl (cB, 940, .inl f_tape)), (h_h, .inl (cI, 104, .inl f_h)), (h_names, .inl (cJ, 36, .inr (.inl g571))), (h_reserved, .inl (cJ, 23, .inr (.inl f_reserved)))] := hD
          refine W.widen (k := 0) (n := 0) (Nat.le_of_ble_eq_true rfl) (Nat.le_of_ble_eq_true rfl) ?_
          refine lv_if_ne (tgt := 159) hx hb dX10_line0_154 (by decide) (fun _ => ?_) (fun g => absurd g (by decide))
          refine lv_aload_n hx hb dX10_line0_159 rfl (lv_at hl 2 rfl) ?_
          refine lv_iconst (v := 1) hx hb dX10_line0_160 (by decide) ?_
          refine lv_bipush (v := 9) hx hb dX10_line0_161 (by decide) ?_
          have n601 : F564 1 = .ref h_tape := (SAME.at t572 (by decide) n555)
          have n602 : F564 3 = .int x_size := (SAME.at t572 (by decide) n556)
          have n603 : F564 5 = .int x_limit := (SAME.at t572 (by decide) n557)
          have n604 : F564 15 = .int x_fault := (SAME.at t572 (by decide) n561)
          have n605 : F564 16 = .int x_faultAt := (SAME.at t572 (by decide) n562)
          have n606 : F529 19 = .int x_got := (SAME.at t536 (by decide) e_got)
          have n607 : F564 19 = .int x_got := (SAME.at t572 (by decide) n606)
          refine call_Vi (wr := [(h_h, .inl (cI, 104, .inl f_h)), (h_names, .inl (cJ, 36, .inr (.inl g571))), (h_reserved, .inl (cJ, 23, .inr (.inl f_reserved)))]) (As := [.int 1, .int 9]) (rest := []) hx hb hml hown hw (m_X10_takes l D cI cJ cB cP cM cZ h0 h_tape F564 x_size y565 x_limit y566 y567 y569 x_fault x_faultAt y570 x_got f_tape 1 9 _ n601 n602 i_x_size t573 t574 n603 i_x_limit t575 t576 t577 t581 n604 n605 t582 n607 (by omega)) wV_X10_242_X10_takes dX10_line0_163 hK hP hD hS hA [0, 1] [2, 3, 4] rfl rfl (by decide) (by decide) (by decide) 0 10 rfl rfl GG.fb hG.at hl.1 rfl (Nat.le_of_ble_eq_true rfl) ⟨(Nat.le_of_ble_eq_true rfl), (Nat.le_of_ble_eq_true rfl)⟩ ⟨(Nat.le_of_ble_eq_true rfl), (Nat.le_of_ble_eq_true rfl)⟩ (fun r608 u H locs hp hP hD hS => ?_)
          have zl1 : (1 : Int32).toInt = 1 := by decide
          have zl9 : (9 : Int32).toInt = 9 := by decide
          rcases hp with hp | hp
          · obtain ⟨F609, y610, y611, t612, t613, t614, t615, t616, rfl, rfl⟩ := hp
            have hP : va_P D vwCl [(h_h, .inl (cI, 104, .inl f_h)), (h_names, .inl (cJ, 36, .inr (.inl g571))), (h_reserved, .inl (cJ, 23, .inr (.inl f_reserved))), (h0, .inr (10, vL 67 F609)), (h_tape, .inl (cB, 940, .inl f_tape))] H := hP
            have hD : va_D A [(h_h, .inl (cI, 104, .inl f_h)), (h_names, .inl (cJ, 36, .inr (.inl g571))), (h_reserved, .inl (cJ, 23, .inr (.inl f_reserved))), (h0, .inr (10, vL 67 F609)), (h_tape, .inl (cB, 940, .inl f_tape))] := hD
            refine W.widen (k := 0) (n := 0) (Nat.le_of_ble_eq_true rfl) (Nat.le_of_ble_eq_true rfl) ?_
            refine lv_if_ne (tgt := 171) hx hb dX10_line0_166 (by decide) (fun g => absurd (by decide) g) (fun _ => ?_)
            refine lv_iconst (v := 0) hx hb dX10_line0_169 (by decide) ?_
            exact ret_i (v := 0) hx hb hr hlocks hS (hP.sub (ws' := [(h0, .inr (10, vL 67 F609)), (h_tape, .inl (cB, 940, .inl f_tape)), (h_h, .inl (cI, 104, .inl f_h)), (h_names, .inl (cJ, 36, .inr (.inl g571))), (h_reserved, .inl (cJ, 23, .inr (.inl f_reserved)))]) [3, 4, 0, 1, 2] rfl) (hD.sub (ws' := [(h0, .inr (10, vL 67 F609)), (h_tape, .inl (cB, 940, .inl f_tape)), (h_h, .inl (cI, 104, .inl f_h)), (h_names, .inl (cJ, 36, .inr (.inl g571))), (h_reserved, .inl (cJ, 23, .inr (.inl f_reserved)))]) [3, 4, 0, 1, 2] (by decide) rfl) dX10_line0_170 rfl (Nat.le_of_ble_eq_true rfl) (Nat.le_of_ble_eq_true rfl) (Or.inl ⟨F609, y565, y566, y567, y568, y569, y610, y611, y570, x_got, x_onces, f_h, g571, (SAME.tr (SAME.tr (SAME.tr SAME.rf t536 (by decide)) t572 (by decide)) t612 (by decide)), (SAME.at t612 (by decide) t573), t574, (SAME.at t612 (by decide) t575), t576, (SAME.at t612 (by decide) t577), (SAME.at t612 (by decide) t579), (SAME.at t612 (by decide) t581), t613, (ir_wk t614 (by decide) (by decide)), t615, (SAME.at t612 (by decide) t582), (SAME.at t612 (by decide) n607), (SAME.at t612 (by decide) (SAME.at t572 (by decide) (SAME.at t536 (by decide) e_onces))), s_h_0, (SG.wk r527 (by decide) (by decide)), s_h_6, s_h_7, s_h_44, ((cLine_5 (tkM_1st (ISWF.t t9 (by omega)).1) (lnwM (ISWF.t t9 (by omega)).1 (ISWF.t t9 (by omega)).2)).trans (cMan_1 (show ¬ 12 ≤ (nmM f_names 18 (f_h 5).toInt).length by rw [nmM_len]; have hn : (f_h 5).toInt = v523.toInt := congrArg Int32.toInt ev523.symm; omega) (atM t549 (ISWF.t t9 (by omega)).1) t585 t616)), (by omega), rfl, rfl⟩)
          · refine hp.elim (fun F617 h9z0 => h9z0.elim (fun y618 h9z1 => h9z1.elim (fun y619 h9z2 => h9z2.elim (fun y620 h9z3 => h9z3.elim (fun y621 h9z4 => h9z4.elim (fun y622 h9z5 => h9z5.elim (fun y623 h9z6 => h9z6.elim (fun y624 h9z7 => h9z7.elim (fun t625 h9z8 => h9z8.elim (fun t626 h9z9 => h9z9.elim (fun t627 h9z10 => h9z10.elim (fun t628 h9z11 => h9z11.elim (fun t629 h9z12 => h9z12.elim (fun t630 h9z13 => h9z13.elim (fun t631 h9z14 => h9z14.elim (fun t632 h9z15 => h9z15.elim (fun t633 h9z16 => h9z16.elim (fun t634 h9z17 => h9z17.elim (fun t635 h9z18 => h9z18.elim (fun t636 h9z19 => h9z19.elim (fun t637 h9z20 => h9z20.elim (fun t638 h9z21 => h9z21.elim (fun t639 h9z22 => h9z22.elim (fun t640 h9z23 => h9z23.elim (fun t641 h9z24 => h9z24.elim (fun t642 h9z25 => h9z25.elim (fun t643 h9z26 => h9z26.elim (fun t644 h9z27 => h9z27.elim (fun t645 h9z28 => h9z28.elim (fun t646 h9z29 => h9z29.elim (fun heq930 h9z30 => ?_)))))))))))))))))))))))))))))))
            clear h9z0 h9z1 h9z2 h9z3 h9z4 h9z5 h9z6 h9z7 h9z8 h9z9 h9z10 h9z11 h9z12 h9z13 h9z14 h9z15 h9z16 h9z17 h9z18 h9z19 h9z20 h9z21 h9z22 h9z23 h9z24 h9z25 h9z26 h9z27 h9z28 h9z29
            subst heq930
            subst h9z30
            clear t584 t590
            have hP : va_P D vwCl [(h_h, .inl (cI, 104, .inl f_h)), (h_names, .inl (cJ, 36, .inr (.inl g571))), (h_reserved, .inl (cJ, 23, .inr (.inl f_reserved))), (h0, .inr (10, vL 67 F617)), (h_tape, .inl (cB, 940, .inl f_tape))] H := hP
            have hD : va_D A [(h_h, .inl (cI, 104, .inl f_h)), (h_names, .inl (cJ, 36, .inr (.inl g571))), (h_reserved, .inl (cJ, 23, .inr (.inl f_reserved))), (h0, .inr (10, vL 67 F617)), (h_tape, .inl (cB, 940, .inl f_tape))] := hD
            refine W.widen (k := 0) (n := 0) (Nat.le_of_ble_eq_true rfl) (Nat.le_of_ble_eq_true rfl) ?_
            have k648 : 2 ≤ y566.toInt ∧ y566.toInt ≤ 2 := ⟨Int.le_trans (Int.le_refl _) (Int.le_of_eq t637.symm), Int.le_trans (Int.le_of_eq t637) (Int.le_refl _)⟩
            have k649 : 1 ≤ y569.toInt ∧ y569.toInt ≤ 2147483647 := ⟨Int.le_trans (Int.le_refl _) t638, (ir_any _).2⟩
            have k650 : 1 ≤ y569.toInt ∧ y569.toInt ≤ 9 := ⟨k649.1, Int.le_trans t639 (Int.le_refl _)⟩
            refine lv_if_ne (tgt := 171) hx hb dX10_line0_166 (by decide) (fun _ => ?_) (fun g => absurd g (by decide))
            refine lv_aload_n hx hb dX10_line0_171 rfl (lv_at hl 2 rfl) ?_
            have n651 : F564 7 = .ref h_h := (SAME.at t572 (by decide) n558)
            have n652 : F617 7 = .ref h_h := (SAME.at t625 (by decide) n651)
            refine get_f (D := D) (ci := 10) (v := .ref h_h) (C := RX10) (T := TX10) (N := 67) hx hb hw inAX10 hown hK hP 3 rfl rfl 7 (by decide) (hw _ q_1268) (fun _ h9 => h9) n652 dX10_line0_172 ?_
            refine lv_bipush (v := 8) hx hb dX10_line0_175 (by decide) ?_
            refine lv_iload_n hx hb dX10_line0_177 rfl (lv_at hl 0 rfl) ?_
            refine lv_iadd hx hb dX10_line0_178 ?_
            refine lv_topi (fun v653 ev653 => ?_)
            have bv653 : v653.toInt = 8 + v523.toInt := by rw [ev653]; exact add_k rfl rfl ⟨Int.le_refl _, Int.le_refl _⟩ k526 (by decide)
            have k654 : 8 ≤ v653.toInt ∧ v653.toInt ≤ 19 := add_r bv653 ⟨Int.le_refl _, Int.le_refl _⟩ k526 (by decide)
            refine lv_aload_n hx hb dX10_line0_179 rfl (lv_at hl 2 rfl) ?_
            refine get_f (D := D) (ci := 10) (v := .int y624) (C := RX10) (T := TX10) (N := 67) hx hb hw inAX10 hown hK hP 3 rfl rfl 19 (by decide) (hw _ q_1280) (fun _ h9 => h9) t636 dX10_line0_180 ?_
            obtain ⟨g655, eg655⟩ : ∃ z : Nat → Int32, upd f_h v653.toNatClampNeg y624 = z := ⟨_, rfl⟩
            have r656 : SG 0 0 0 40 g655 := by rw [← eg655]; exact s_h_0.up (Int.le_trans (by decide) k654.1) (Or.inr (Or.inl (dec_lt k654.1 (by decide))))
            have r657 : SG 44 55 0 9 g655 := by rw [← eg655]; exact s_h_44.up (Int.le_trans (by decide) k654.1) (Or.inl (lt_dec k654.2 (by decide)))
            have r658 : SG 5 5 0 11 g655 := by rw [← eg655]; exact r527.up (Int.le_trans (by decide) k654.1) (Or.inr (Or.inl (dec_lt k654.1 (by decide))))
            have r659 : SG 6 6 0 12 g655 := by rw [← eg655]; exact s_h_6.up (Int.le_trans (by decide) k654.1) (Or.inr (Or.inl (dec_lt k654.1 (by decide))))
            have r660 : SG 7 7 0 6 g655 := by rw [← eg655]; exact s_h_7.up (Int.le_trans (by decide) k654.1) (Or.inr (Or.inl (dec_lt k654.1 (by decide))))
            refine iast_g hx hb hK hP hD hS 0 0 rfl rfl (ix_k k654 (by decide) (by decide)) eg655 dX10_line0_183 (fun H locs hP hD hS => ?_)
            have hP : va_P D vwCl [(h_h, .inl (cI, 104, .inl g655)), (h_names, .inl (cJ, 36, .inr (.inl g571))), (h_reserved, .inl (cJ, 23, .inr (.inl f_reserved))), (h0, .inr (10, vL 67 F617)), (h_tape, .inl (cB, 940, .inl f_tape))] H := hP
            have hD : va_D A [(h_h, .inl (cI, 104, .inl g655)), (h_names, .inl (cJ, 36, .inr (.inl g571))), (h_reserved, .inl (cJ, 23, .inr (.inl f_reserved))), (h0, .inr (10, vL 67 F617)), (h_tape, .inl (cB, 940, .inl f_tape))] := hD
            refine lv_aload_n hx hb dX10_line0_184 rfl (lv_at hl 2 rfl) ?_
            refine lv_iconst (v := 1) hx hb dX10_line0_185 (by decide) ?_
            refine lv_bipush (v := 9) hx hb dX10_line0_186 (by decide) ?_
            have n661 : F617 1 = .ref h_tape := (SAME.at t625 (by decide) n601)
            have n662 : F617 3 = .int x_size := (SAME.at t625 (by decide) n602)
            have n663 : F617 5 = .int x_limit := (SAME.at t625 (by decide) n603)
            have n664 : F617 15 = .int x_fault := (SAME.at t625 (by decide) n604)
            have n665 : F617 16 = .int x_faultAt := (SAME.at t625 (by decide) n605)
            refine call_Vi (wr := [(h_h, .inl (cI, 104, .inl g655)), (h_names, .inl (cJ, 36, .inr (.inl g571))), (h_reserved, .inl (cJ, 23, .inr (.inl f_reserved)))]) (As := [.int 1, .int 9]) (rest := []) hx hb hml hown hw (m_X10_takes l D cI cJ cB cP cM cZ h0 h_tape F617 x_size y618 x_limit y619 y620 y622 x_fault x_faultAt y623 y624 f_tape 1 9 _ n661 n662 i_x_size t626 t627 n663 i_x_limit t628 t629 t630 t634 n664 n665 t635 t636 (by omega)) wV_X10_242_X10_takes dX10_line0_188 hK hP hD hS hA [3, 4] [0, 1, 2] rfl rfl (by decide) (by decide) (by decide) 0 10 rfl rfl GG.fb hG.at hl.1 rfl (Nat.le_of_ble_eq_true rfl) ⟨(Nat.le_of_ble_eq_true rfl), (Nat.le_of_ble_eq_true rfl)⟩ ⟨(Nat.le_of_ble_eq_true rfl), (Nat.le_of_ble_eq_true rfl)⟩ (fun r666 u H locs hp hP hD hS => ?_)
            rcases hp with hp | hp
            · obtain ⟨F667, y668, y669, t670, t671, t672, t673, t674, rfl, rfl⟩ := hp
              have hP : va_P D vwCl [(h_h, .inl (cI, 104, .inl g655)), (h_names, .inl (cJ, 36, .inr (.inl g571))), (h_reserved, .inl (cJ, 23, .inr (.inl f_reserved))), (h0, .inr (10, vL 67 F667)), (h_tape, .inl (cB, 940, .inl f_tape))] H := hP
              have hD : va_D A [(h_h, .inl (cI, 104, .inl g655)), (h_names, .inl (cJ, 36, .inr (.inl g571))), (h_reserved, .inl (cJ, 23, .inr (.inl f_reserved))), (h0, .inr (10, vL 67 F667)), (h_tape, .inl (cB, 940, .inl f_tape))] := hD
              refine W.widen (k := 0) (n := 0) (Nat.le_of_ble_eq_true rfl) (Nat.le_of_ble_eq_true rfl) ?_
              refine lv_if_ne (tgt := 196) hx hb dX10_line0_191 (by decide) (fun g => absurd (by decide) g) (fun _ => ?_)
              refine lv_iconst (v := 0) hx hb dX10_line0_194 (by decide) ?_
              exact ret_i (v := 0) hx hb hr hlocks hS (hP.sub (ws' := [(h0, .inr (10, vL 67 F667)), (h_tape, .inl (cB, 940, .inl f_tape)), (h_h, .inl (cI, 104, .inl g655)), (h_names, .inl (cJ, 36, .inr (.inl g571))), (h_reserved, .inl (cJ, 23, .inr (.inl f_reserved)))]) [3, 4, 0, 1, 2] rfl) (hD.sub (ws' := [(h0, .inr (10, vL 67 F667)), (h_tape, .inl (cB, 940, .inl f_tape)), (h_h, .inl (cI, 104, .inl g655)), (h_names, .inl (cJ, 36, .inr (.inl g571))), (h_reserved, .inl (cJ, 23, .inr (.inl f_reserved)))]) [3, 4, 0, 1, 2] (by decide) rfl) dX10_line0_195 rfl (Nat.le_of_ble_eq_true rfl) (Nat.le_of_ble_eq_true rfl) (Or.inl ⟨F667, y618, y619, y620, y621, y622, y668, y669, y623, y624, x_onces, g655, g571, (SAME.tr (SAME.tr (SAME.tr (SAME.tr SAME.rf t536 (by decide)) t572 (by decide)) t625 (by decide)) t670 (by decide)), (SAME.at t670 (by decide) t626), t627, (SAME.at t670 (by decide) t628), t629, (SAME.at t670 (by decide) t630), (SAME.at t670 (by decide) t632), (SAME.at t670 (by decide) t634), t671, (ir_wk t672 (by decide) (by decide)), t673, (SAME.at t670 (by decide) t635), (SAME.at t670 (by decide) t636), (SAME.at t670 (by decide) (SAME.at t625 (by decide) (SAME.at t572 (by decide) (SAME.at t536 (by decide) e_onces)))), r656, (SG.wk r658 (by decide) (by decide)), r659, r660, r657, ((cLine_5 (tkM_1st (ISWF.t t9 (by omega)).1) (lnwM (ISWF.t t9 (by omega)).1 (ISWF.t t9 (by omega)).2)).trans (cMan_2 (show ¬ 12 ≤ (nmM f_names 18 (f_h 5).toInt).length by rw [nmM_len]; have hn : (f_h 5).toInt = v523.toInt := congrArg Int32.toInt ev523.symm; omega) (atM t549 (ISWF.t t9 (by omega)).1) t585 t643 t674)), (by omega), rfl, rfl⟩)
            · refine hp.elim (fun F675 h9z0 => h9z0.elim (fun y676 h9z1 => h9z1.elim (fun y677 h9z2 => h9z2.elim (fun y678 h9z3 => h9z3.elim (fun y679 h9z4 => h9z4.elim (fun y680 h9z5 => h9z5.elim (fun y681 h9z6 => h9z6.elim (fun y682 h9z7 => h9z7.elim (fun t683 h9z8 => h9z8.elim (fun t684 h9z9 => h9z9.elim (fun t685 h9z10 => h9z10.elim (fun t686 h9z11 => h9z11.elim (fun t687 h9z12 => h9z12.elim (fun t688 h9z13 => h9z13.elim (fun t689 h9z14 => h9z14.elim (fun t690 h9z15 => h9z15.elim (fun t691 h9z16 => h9z16.elim (fun t692 h9z17 => h9z17.elim (fun t693 h9z18 => h9z18.elim (fun t694 h9z19 => h9z19.elim (fun t695 h9z20 => h9z20.elim (fun t696 h9z21 => h9z21.elim (fun t697 h9z22 => h9z22.elim (fun t698 h9z23 => h9z23.elim (fun t699 h9z24 => h9z24.elim (fun t700 h9z25 => h9z25.elim (fun t701 h9z26 => h9z26.elim (fun t702 h9z27 => h9z27.elim (fun t703 h9z28 => h9z28.elim (fun t704 h9z29 => h9z29.elim (fun heq930 h9z30 => ?_)))))))))))))))))))))))))))))))
              clear h9z0 h9z1 h9z2 h9z3 h9z4 h9z5 h9z6 h9z7 h9z8 h9z9 h9z10 h9z11 h9z12 h9z13 h9z14 h9z15 h9z16 h9z17 h9z18 h9z19 h9z20 h9z21 h9z22 h9z23 h9z24 h9z25 h9z26 h9z27 h9z28 h9z29
              subst heq930
              subst h9z30
              clear t642 t646
              have hP : va_P D vwCl [(h_h, .inl (cI, 104, .inl g655)), (h_names, .inl (cJ, 36, .inr (.inl g571))), (h_reserved, .inl (cJ, 23, .inr (.inl f_reserved))), (h0, .inr (10, vL 67 F675)), (h_tape, .inl (cB, 940, .inl f_tape))] H := hP
              have hD : va_D A [(h_h, .inl (cI, 104, .inl g655)), (h_names, .inl (cJ, 36, .inr (.inl g571))), (h_reserved, .inl (cJ, 23, .inr (.inl f_reserved))), (h0, .inr (10, vL 67 F675)), (h_tape, .inl (cB, 940, .inl f_tape))] := hD
              refine W.widen (k := 0) (n := 0) (Nat.le_of_ble_eq_true rfl) (Nat.le_of_ble_eq_true rfl) ?_
              have k706 : 2 ≤ y619.toInt ∧ y619.toInt ≤ 2 := ⟨Int.le_trans (Int.le_refl _) (Int.le_of_eq t695.symm), Int.le_trans (Int.le_of_eq t695) (Int.le_refl _)⟩
              have k707 : 1 ≤ y622.toInt ∧ y622.toInt ≤ 2147483647 := ⟨Int.le_trans (Int.le_refl _) t696, (ir_any _).2⟩
              have k708 : 1 ≤ y622.toInt ∧ y622.toInt ≤ 9 := ⟨k707.1, Int.le_trans t697 (Int.le_refl _)⟩
              refine lv_if_ne (tgt := 196) hx hb dX10_line0_191 (by decide) (fun _ => ?_) (fun g => absurd g (by decide))
              refine lv_aload_n hx hb dX10_line0_196 rfl (lv_at hl 2 rfl) ?_
              have n709 : F675 7 = .ref h_h := (SAME.at t683 (by decide) n652)
              refine get_f (D := D) (ci := 10) (v := .ref h_h) (C := RX10) (T := TX10) (N := 67) hx hb hw inAX10 hown hK hP 3 rfl rfl 7 (by decide) (hw _ q_1268) (fun _ h9 => h9) n709 dX10_line0_197 ?_
              refine lv_bipush (v := 20) hx hb dX10_line0_200 (by decide) ?_
              refine lv_iload_n hx hb dX10_line0_202 rfl (lv_at hl 0 rfl) ?_
              refine lv_iadd hx hb dX10_line0_203 ?_
              refine lv_topi (fun v710 ev710 => ?_)
              have bv710 : v710.toInt = 20 + v523.toInt := by rw [ev710]; exact add_k rfl rfl ⟨Int.le_refl _, Int.le_refl _⟩ k526 (by decide)
              have k711 : 20 ≤ v710.toInt ∧ v710.toInt ≤ 31 := add_r bv710 ⟨Int.le_refl _, Int.le_refl _⟩ k526 (by decide)
              refine lv_aload_n hx hb dX10_line0_204 rfl (lv_at hl 2 rfl) ?_
              refine get_f (D := D) (ci := 10) (v := .int y682) (C := RX10) (T := TX10) (N := 67) hx hb hw inAX10 hown hK hP 3 rfl rfl 19 (by decide) (hw _ q_1280) (fun _ h9 => h9) t694 dX10_line0_205 ?_
              obtain ⟨g712, eg712⟩ : ∃ z : Nat → Int32, upd g655 v710.toNatClampNeg y682 = z := ⟨_, rfl⟩
              have r713 : SG 0 0 0 40 g712 := by rw [← eg712]; exact r656.up (Int.le_trans (by decide) k711.1) (Or.inr (Or.inl (dec_lt k711.1 (by decide))))
              have r714 : SG 44 55 0 9 g712 := by rw [← eg712]; exact r657.up (Int.le_trans (by decide) k711.1) (Or.inl (lt_dec k711.2 (by decide)))
              have r715 : SG 5 5 0 11 g712 := by rw [← eg712]; exact r658.up (Int.le_trans (by decide) k711.1) (Or.inr (Or.inl (dec_lt k711.1 (by decide))))
              have r716 : SG 6 6 0 12 g712 := by rw [← eg712]; exact r659.up (Int.le_trans (by decide) k711.1) (Or.inr (Or.inl (dec_lt k711.1 (by decide))))
              have r717 : SG 7 7 0 6 g712 := by rw [← eg712]; exact r660.up (Int.le_trans (by decide) k711.1) (Or.inr (Or.inl (dec_lt k711.1 (by decide))))
              refine iast_g hx hb hK hP hD hS 0 0 rfl rfl (ix_k k711 (by decide) (by decide)) eg712 dX10_line0_208 (fun H locs hP hD hS => ?_)
              have hP : va_P D vwCl [(h_h, .inl (cI, 104, .inl g712)), (h_names, .inl (cJ, 36, .inr (.inl g571))), (h_reserved, .inl (cJ, 23, .inr (.inl f_reserved))), (h0, .inr (10, vL 67 F675)), (h_tape, .inl (cB, 940, .inl f_tape))] H := hP
              have hD : va_D A [(h_h, .inl (cI, 104, .inl g712)), (h_names, .inl (cJ, 36, .inr (.inl g571))), (h_reserved, .inl (cJ, 23, .inr (.inl f_reserved))), (h0, .inr (10, vL 67 F675)), (h_tape, .inl (cB, 940, .inl f_tape))] := hD
              refine lv_aload_n hx hb dX10_line0_209 rfl (lv_at hl 2 rfl) ?_
              refine lv_bipush (v := 50) hx hb dX10_line0_210 (by decide) ?_
              refine lv_sipush (v := 150) hx hb dX10_line0_212 (by decide) ?_
              have n718 : F675 1 = .ref h_tape := (SAME.at t683 (by decide) n661)
              have n719 : F675 3 = .int x_size := (SAME.at t683 (by decide) n662)
              have n720 : F675 5 = .int x_limit := (SAME.at t683 (by decide) n663)
              have n721 : F675 15 = .int x_fault := (SAME.at t683 (by decide) n664)
              have n722 : F675 16 = .int x_faultAt := (SAME.at t683 (by decide) n665)
              refine call_Vi (wr := [(h_h, .inl (cI, 104, .inl g712)), (h_names, .inl (cJ, 36, .inr (.inl g571))), (h_reserved, .inl (cJ, 23, .inr (.inl f_reserved)))]) (As := [.int 50, .int 150]) (rest := []) hx hb hml hown hw (m_X10_takes l D cI cJ cB cP cM cZ h0 h_tape F675 x_size y676 x_limit y677 y678 y680 x_fault x_faultAt y681 y682 f_tape 50 150 _ n718 n719 i_x_size t684 t685 n720 i_x_limit t686 t687 t688 t692 n721 n722 t693 t694 (by omega)) wV_X10_242_X10_takes dX10_line0_215 hK hP hD hS hA [3, 4] [0, 1, 2] rfl rfl (by decide) (by decide) (by decide) 0 10 rfl rfl GG.fb hG.at hl.1 rfl (Nat.le_of_ble_eq_true rfl) ⟨(Nat.le_of_ble_eq_true rfl), (Nat.le_of_ble_eq_true rfl)⟩ ⟨(Nat.le_of_ble_eq_true rfl), (Nat.le_of_ble_eq_true rfl)⟩ (fun r723 u H locs hp hP hD hS => ?_)
              have zl50 : (50 : Int32).toInt = 50 := by decide
              have zl150 : (150 : Int32).toInt = 150 := by decide
              rcases hp with hp | hp
              · obtain ⟨F724, y725, y726, t727, t728, t729, t730, t731, rfl, rfl⟩ := hp
                have hP : va_P D vwCl [(h_h, .inl (cI, 104, .inl g712)), (h_names, .inl (cJ, 36, .inr (.inl g571))), (h_reserved, .inl (cJ, 23, .inr (.inl f_reserved))), (h0, .inr (10, vL 67 F724)), (h_tape, .inl (cB, 940, .inl f_tape))] H := hP
                have hD : va_D A [(h_h, .inl (cI, 104, .inl g712)), (h_names, .inl (cJ, 36, .inr (.inl g571))), (h_reserved, .inl (cJ, 23, .inr (.inl f_reserved))), (h0, .inr (10, vL 67 F724)), (h_tape, .inl (cB, 940, .inl f_tape))] := hD
                refine W.widen (k := 0) (n := 0) (Nat.le_of_ble_eq_true rfl) (Nat.le_of_ble_eq_true rfl) ?_
                refine lv_if_ne (tgt := 223) hx hb dX10_line0_218 (by decide) (fun g => absurd (by decide) g) (fun _ => ?_)
                refine lv_iconst (v := 0) hx hb dX10_line0_221 (by decide) ?_
                exact ret_i (v := 0) hx hb hr hlocks hS (hP.sub (ws' := [(h0, .inr (10, vL 67 F724)), (h_tape, .inl (cB, 940, .inl f_tape)), (h_h, .inl (cI, 104, .inl g712)), (h_names, .inl (cJ, 36, .inr (.inl g571))), (h_reserved, .inl (cJ, 23, .inr (.inl f_reserved)))]) [3, 4, 0, 1, 2] rfl) (hD.sub (ws' := [(h0, .inr (10, vL 67 F724)), (h_tape, .inl (cB, 940, .inl f_tape)), (h_h, .inl (cI, 104, .inl g712)), (h_names, .inl (cJ, 36, .inr (.inl g571))), (h_reserved, .inl (cJ, 23, .inr (.inl f_reserved)))]) [3, 4, 0, 1, 2] (by decide) rfl) dX10_line0_222 rfl (Nat.le_of_ble_eq_true rfl) (Nat.le_of_ble_eq_true rfl) (Or.inl ⟨F724, y676, y677, y678, y679, y680, y725, y726, y681, y682, x_onces, g712, g571, (SAME.tr (SAME.tr (SAME.tr (SAME.tr (SAME.tr SAME.rf t536 (by decide)) t572 (by decide)) t625 (by decide)) t683 (by decide)) t727 (by decide)), (SAME.at t727 (by decide) t684), t685, (SAME.at t727 (by decide) t686), t687, (SAME.at t727 (by decide) t688), (SAME.at t727 (by decide) t690), (SAME.at t727 (by decide) t692), t728, (ir_wk t729 (by decide) (by decide)), t730, (SAME.at t727 (by decide) t693), (SAME.at t727 (by decide) t694), (SAME.at t727 (by decide) (SAME.at t683 (by decide) (SAME.at t625 (by decide) (SAME.at t572 (by decide) (SAME.at t536 (by decide) e_onces))))), r713, (SG.wk r715 (by decide) (by decide)), r716, r717, r714, ((cLine_5 (tkM_1st (ISWF.t t9 (by omega)).1) (lnwM (ISWF.t t9 (by omega)).1 (ISWF.t t9 (by omega)).2)).trans (cMan_3 (show ¬ 12 ≤ (nmM f_names 18 (f_h 5).toInt).length by rw [nmM_len]; have hn : (f_h 5).toInt = v523.toInt := congrArg Int32.toInt ev523.symm; omega) (atM t549 (ISWF.t t9 (by omega)).1) t585 t643 t701 t731)), (by omega), rfl, rfl⟩)
              · refine hp.elim (fun F732 h9z0 => h9z0.elim (fun y733 h9z1 => h9z1.elim (fun y734 h9z2 => h9z2.elim (fun y735 h9z3 => h9z3.elim (fun y736 h9z4 => h9z4.elim (fun y737 h9z5 => h9z5.elim (fun y738 h9z6 => h9z6.elim (fun y739 h9z7 => h9z7.elim (fun t740 h9z8 => h9z8.elim (fun t741 h9z9 => h9z9.elim (fun t742 h9z10 => h9z10.elim (fun t743 h9z11 => h9z11.elim (fun t744 h9z12 => h9z12.elim (fun t745 h9z13 => h9z13.elim (fun t746 h9z14 => h9z14.elim (fun t747 h9z15 => h9z15.elim (fun t748 h9z16 => h9z16.elim (fun t749 h9z17 => h9z17.elim (fun t750 h9z18 => h9z18.elim (fun t751 h9z19 => h9z19.elim (fun t752 h9z20 => h9z20.elim (fun t753 h9z21 => h9z21.elim (fun t754 h9z22 => h9z22.elim (fun t755 h9z23 => h9z23.elim (fun t756 h9z24 => h9z24.elim (fun t757 h9z25 => h9z25.elim (fun t758 h9z26 => h9z26.elim (fun t759 h9z27 => h9z27.elim (fun t760 h9z28 => h9z28.elim (fun t761 h9z29 => h9z29.elim (fun heq930 h9z30 => ?_)))))))))))))))))))))))))))))))
                clear h9z0 h9z1 h9z2 h9z3 h9z4 h9z5 h9z6 h9z7 h9z8 h9z9 h9z10 h9z11 h9z12 h9z13 h9z14 h9z15 h9z16 h9z17 h9z18 h9z19 h9z20 h9z21 h9z22 h9z23 h9z24 h9z25 h9z26 h9z27 h9z28 h9z29
                subst heq930
                subst h9z30
                clear t700 t704
                have hP : va_P D vwCl [(h_h, .inl (cI, 104, .inl g712)), (h_names, .inl (cJ, 36, .inr (.inl g571))), (h_reserved, .inl (cJ, 23, .inr (.inl f_reserved))), (h0, .inr (10, vL 67 F732)), (h_tape, .inl (cB, 940, .inl f_tape))] H := hP
                have hD : va_D A [(h_h, .inl (cI, 104, .inl g712)), (h_names, .inl (cJ, 36, .inr (.inl g571))), (h_reserved, .inl (cJ, 23, .inr (.inl f_reserved))), (h0, .inr (10, vL 67 F732)), (h_tape, .inl (cB, 940, .inl f_tape))] := hD
                refine W.widen (k := 0) (n := 0) (Nat.le_of_ble_eq_true rfl) (Nat.le_of_ble_eq_true rfl) ?_
                have k763 : 2 ≤ y677.toInt ∧ y677.toInt ≤ 2 := ⟨Int.le_trans (Int.le_refl _) (Int.le_of_eq t752.symm), Int.le_trans (Int.le_of_eq t752) (Int.le_refl _)⟩
                have k764 : 50 ≤ y680.toInt ∧ y680.toInt ≤ 2147483647 := ⟨Int.le_trans (Int.le_refl _) t753, (ir_any _).2⟩
                have k765 : 50 ≤ y680.toInt ∧ y680.toInt ≤ 150 := ⟨k764.1, Int.le_trans t754 (Int.le_refl _)⟩
                refine lv_if_ne (tgt := 223) hx hb dX10_line0_218 (by decide) (fun _ => ?_) (fun g => absurd g (by decide))
                refine lv_aload_n hx hb dX10_line0_223 rfl (lv_at hl 2 rfl) ?_
                have n766 : F732 7 = .ref h_h := (SAME.at t740 (by decide) n709)
                refine get_f (D := D) (ci := 10) (v := .ref h_h) (C := RX10) (T := TX10) (N := 67) hx hb hw inAX10 hown hK hP 3 rfl rfl 7 (by decide) (hw _ q_1268) (fun _ h9 => h9) n766 dX10_line0_224 ?_
                refine lv_bipush (v := 32) hx hb dX10_line0_227 (by decide) ?_
                refine lv_iload_n hx hb dX10_line0_229 rfl (lv_at hl 0 rfl) ?_
                refine lv_iadd hx hb dX10_line0_230 ?_
                refine lv_topi (fun v767 ev767 => ?_)
                have bv767 : v767.toInt = 32 + v523.toInt := by rw [ev767]; exact add_k rfl rfl ⟨Int.le_refl _, Int.le_refl _⟩ k526 (by decide)
                have k768 : 32 ≤ v767.toInt ∧ v767.toInt ≤ 43 := add_r bv767 ⟨Int.le_refl _, Int.le_refl _⟩ k526 (by decide)
                refine lv_aload_n hx hb dX10_line0_231 rfl (lv_at hl 2 rfl) ?_
                refine get_f (D := D) (ci := 10) (v := .int y739) (C := RX10) (T := TX10) (N := 67) hx hb hw inAX10 hown hK hP 3 rfl rfl 19 (by decide) (hw _ q_1280) (fun _ h9 => h9) t751 dX10_line0_232 ?_
                obtain ⟨g769, eg769⟩ : ∃ z : Nat → Int32, upd g712 v767.toNatClampNeg y739 = z := ⟨_, rfl⟩
                have r770 : SG 0 0 0 40 g769 := by rw [← eg769]; exact r713.up (Int.le_trans (by decide) k768.1) (Or.inr (Or.inl (dec_lt k768.1 (by decide))))
                have r771 : SG 44 55 0 9 g769 := by rw [← eg769]; exact r714.up (Int.le_trans (by decide) k768.1) (Or.inl (lt_dec k768.2 (by decide)))
                have r772 : SG 5 5 0 11 g769 := by rw [← eg769]; exact r715.up (Int.le_trans (by decide) k768.1) (Or.inr (Or.inl (dec_lt k768.1 (by decide))))
                have r773 : SG 6 6 0 12 g769 := by rw [← eg769]; exact r716.up (Int.le_trans (by decide) k768.1) (Or.inr (Or.inl (dec_lt k768.1 (by decide))))
                have r774 : SG 7 7 0 6 g769 := by rw [← eg769]; exact r717.up (Int.le_trans (by decide) k768.1) (Or.inr (Or.inl (dec_lt k768.1 (by decide))))
                refine iast_g hx hb hK hP hD hS 0 0 rfl rfl (ix_k k768 (by decide) (by decide)) eg769 dX10_line0_235 (fun H locs hP hD hS => ?_)
                have hP : va_P D vwCl [(h_h, .inl (cI, 104, .inl g769)), (h_names, .inl (cJ, 36, .inr (.inl g571))), (h_reserved, .inl (cJ, 23, .inr (.inl f_reserved))), (h0, .inr (10, vL 67 F732)), (h_tape, .inl (cB, 940, .inl f_tape))] H := hP
                have hD : va_D A [(h_h, .inl (cI, 104, .inl g769)), (h_names, .inl (cJ, 36, .inr (.inl g571))), (h_reserved, .inl (cJ, 23, .inr (.inl f_reserved))), (h0, .inr (10, vL 67 F732)), (h_tape, .inl (cB, 940, .inl f_tape))] := hD
                refine lv_aload_n hx hb dX10_line0_236 rfl (lv_at hl 2 rfl) ?_
                refine get_f (D := D) (ci := 10) (v := .ref h_h) (C := RX10) (T := TX10) (N := 67) hx hb hw inAX10 hown hK hP 3 rfl rfl 7 (by decide) (hw _ q_1268) (fun _ h9 => h9) n766 dX10_line0_237 ?_
                refine lv_iconst (v := 5) hx hb dX10_line0_240 (by decide) ?_
                refine lv_dup2_11 hx hb dX10_line0_241 rfl rfl ?_
                refine iald_n hx hb hK hP 0 0 rfl rfl 5 rfl (Nat.le_of_ble_eq_true rfl) (Nat.le_of_ble_eq_true rfl) rfl dX10_line0_242 ?_
                refine lv_topi (fun v775 ev775 => ?_)
                have k776 : 0 ≤ v775.toInt ∧ v775.toInt ≤ 11 := by rw [ev775]; exact r772.atN 5 (by decide) (by decide)
                refine lv_iconst (v := 1) hx hb dX10_line0_243 (by decide) ?_
                refine lv_iadd hx hb dX10_line0_244 ?_
                refine lv_topi (fun v777 ev777 => ?_)
                have bv777 : v777.toInt = v775.toInt + 1 := by rw [ev777]; exact add_k rfl rfl k776 ⟨Int.le_refl _, Int.le_refl _⟩ (by decide)
                have k778 : 1 ≤ v777.toInt ∧ v777.toInt ≤ 12 := add_r bv777 k776 ⟨Int.le_refl _, Int.le_refl _⟩ (by decide)
                obtain ⟨g779, eg779⟩ : ∃ z : Nat → Int32, upd g769 5 v777 = z := ⟨_, rfl⟩
                have r780 : SG 0 0 0 40 g779 := by rw [← eg779]; exact r770.upN (Or.inr (Or.inl (by decide)))
                have r781 : SG 44 55 0 9 g779 := by rw [← eg779]; exact r771.upN (Or.inl (by decide))
                have r782 : SG 6 6 0 12 g779 := by rw [← eg779]; exact r773.upN (Or.inl (by decide))
                have r783 : SG 7 7 0 6 g779 := by rw [← eg779]; exact r774.upN (Or.inl (by decide))
                have r784 : SG 5 5 0 12 g779 := by rw [← eg779]; exact SG.new1 (ir_wk k778 (by decide) (by decide))
                refine iast_n hx hb hK hP hD hS 0 0 rfl rfl 5 rfl (Nat.le_of_ble_eq_true rfl) (Nat.le_of_ble_eq_true rfl) eg779 dX10_line0_245 (fun H locs hP hD hS => ?_)
                have hP : va_P D vwCl [(h_h, .inl (cI, 104, .inl g779)), (h_names, .inl (cJ, 36, .inr (.inl g571))), (h_reserved, .inl (cJ, 23, .inr (.inl f_reserved))), (h0, .inr (10, vL 67 F732)), (h_tape, .inl (cB, 940, .inl f_tape))] H := hP
                have hD : va_D A [(h_h, .inl (cI, 104, .inl g779)), (h_names, .inl (cJ, 36, .inr (.inl g571))), (h_reserved, .inl (cJ, 23, .inr (.inl f_reserved))), (h0, .inr (10, vL 67 F732)), (h_tape, .inl (cB, 940, .inl f_tape))] := hD
                refine lv_iconst (v := 1) hx hb dX10_line0_246 (by decide) ?_
                exact ret_i (v := 1) hx hb hr hlocks hS (hP.sub (ws' := [(h0, .inr (10, vL 67 F732)), (h_tape, .inl (cB, 940, .inl f_tape)), (h_h, .inl (cI, 104, .inl g779)), (h_names, .inl (cJ, 36, .inr (.inl g571))), (h_reserved, .inl (cJ, 23, .inr (.inl f_reserved)))]) [3, 4, 0, 1, 2] rfl) (hD.sub (ws' := [(h0, .inr (10, vL 67 F732)), (h_tape, .inl (cB, 940, .inl f_tape)), (h_h, .inl (cI, 104, .inl g779)), (h_names, .inl (cJ, 36, .inr (.inl g571))), (h_reserved, .inl (cJ, 23, .inr (.inl f_reserved)))]) [3, 4, 0, 1, 2] (by decide) rfl) dX10_line0_247 rfl (Nat.le_of_ble_eq_true rfl) (Nat.le_of_ble_eq_true rfl) (Or.inr ⟨F732, y733, y734, y735, y736, y737, y738, y739, x_onces, g779, g571, (SAME.tr (SAME.tr (SAME.tr (SAME.tr (SAME.tr SAME.rf t536 (by decide)) t572 (by decide)) t625 (by decide)) t683 (by decide)) t740 (by decide)), t741, t742, t743, t744, t745, t746, t747, t748, t749, t750, t751, (SAME.at t740 (by decide) (SAME.at t683 (by decide) (SAME.at t625 (by decide) (SAME.at t572 (by decide) (SAME.at t536 (by decide) e_onces))))), r780, r784, r782, r783, r781, (by have zl1 : (1 : Int32).toInt = 1 := (by decide); omega), (by have zl1 : (1 : Int32).toInt = 1 := (by decide); omega), ((cLine_5 (tkM_1st (ISWF.t t9 (by omega)).1) (lnwM (ISWF.t t9 (by omega)).1 (ISWF.t t9 (by omega)).2)).trans (fin_r (cMan_o (show ¬ 12 ≤ (nmM f_names 18 (f_h 5).toInt).length by rw [nmM_len]; have hn : (f_h 5).toInt = v523.toInt := congrArg Int32.toInt ev523.symm; omega) (atM t549 (ISWF.t t9 (by omega)).1) t585 t643 t701 t758 (nmM_ap (n := (f_h 5).toInt) (n' := (g779 5).toInt) t586 (by have hn : (f_h 5).toInt = v523.toInt := congrArg Int32.toInt ev523.symm; omega) (by have hn : (f_h 5).toInt = v523.toInt := congrArg Int32.toInt ev523.symm; omega) (by rw [← eg779, pk_us, bv777]; have hq : v775.toInt = (f_h 5).toInt := congrArg Int32.toInt (ev775.trans (HU.up (HU.up (HU.up HU.rf eg655 (by omega)) eg712 (by omega)) eg769 (by omega)).a5); omega) (tkM_w t587))) (csM_m (HU.up (HU.up (HU.up HU.rf eg655 (by omega)) eg712 (by omega)) eg769 (by omega)) eg779 t586 (by have hn : (f_h 5).toInt = v523.toInt := congrArg Int32.toInt ev523.symm; omega)))), (ISWF.t t9 (by omega)).1, (AV.ap z_1 t586 (by have hn : (f_h 5).toInt = v523.toInt := congrArg Int32.toInt ev523.symm; omega) (by rw [← eg779, pk_us, bv777]; have hq : v775.toInt = (f_h 5).toInt := congrArg Int32.toInt (ev775.trans (HU.up (HU.up (HU.up HU.rf eg655 (by omega)) eg712 (by omega)) eg769 (by omega)).a5); omega) t588 (by have hn : (f_h 5).toInt = v523.toInt := congrArg Int32.toInt ev523.symm; omega)), (AV.h (AV.un z_2 t586 (by have hn : (f_h 5).toInt = v523.toInt := congrArg Int32.toInt ev523.symm; have hb := s_h_7.atN 7 (by decide) (by decide); omega) (by have hn : (f_h 5).toInt = v523.toInt := congrArg Int32.toInt ev523.symm; omega)) ((upd_m eg779 (by decide)).trans (HU.up (HU.up (HU.up HU.rf eg655 (by omega)) eg712 (by omega)) eg769 (by omega)).a7)), t760, (by omega), rfl, rfl⟩)
        · obtain ⟨F591, y592, y593, t594, t595, t596, t597, t598, t599, rfl, rfl⟩ := hp
          have hP : va_P D vwCl [(h0, .inr (10, vL 67 F591)), (h_tape, .inl (cB, 940, .inl f_tape)), (h_h, .inl (cI, 104, .inl f_h)), (h_names, .inl (cJ, 36, .inr (.inl f_names))), (h_reserved, .inl (cJ, 23, .inr (.inl f_reserved)))] H := hP
          have hD : va_D A [(h0, .inr (10, vL 67 F591)), (h_tape, .inl (cB, 940, .inl f_tape)), (h_h, .inl (cI, 104, .inl f_h)), (h_names, .inl (cJ, 36, .inr (.inl f_names))), (h_reserved, .inl (cJ, 23, .inr (.inl f_reserved)))] := hD
          refine W.widen (k := 0) (n := 0) (Nat.le_of_ble_eq_true rfl) (Nat.le_of_ble_eq_true rfl) ?_
          refine lv_if_ne (tgt := 159) hx hb dX10_line0_154 (by decide) (fun g => absurd (by decide) g) (fun _ => ?_)
          refine lv_iconst (v := 0) hx hb dX10_line0_157 (by decide) ?_
          exact ret_i (v := 0) hx hb hr hlocks hS hP hD dX10_line0_158 rfl (Nat.le_of_ble_eq_true rfl) (Nat.le_of_ble_eq_true rfl) (Or.inl ⟨F591, y530, y531, y532, y533, y534, y592, y593, y535, x_got, x_onces, f_h, f_names, (SAME.tr (SAME.tr SAME.rf t536 (by decide)) t594 (by decide)), (SAME.at t594 (by decide) t537), t538, (SAME.at t594 (by decide) t539), t540, (SAME.at t594 (by decide) t541), (SAME.at t594 (by decide) t543), (SAME.at t594 (by decide) t545), t595, (ir_wk t596 (by decide) (by decide)), t597, (SAME.at t594 (by decide) t546), (SAME.at t594 (by decide) (SAME.at t536 (by decide) e_got)), (SAME.at t594 (by decide) (SAME.at t536 (by decide) e_onces)), s_h_0, (SG.wk r527 (by decide) (by decide)), s_h_6, s_h_7, s_h_44, ((cLine_5 (tkM_1st (ISWF.t t9 (by omega)).1) (lnwM (ISWF.t t9 (by omega)).1 (ISWF.t t9 (by omega)).2)).trans (cMan_0 (show ¬ 12 ≤ (nmM f_names 18 (f_h 5).toInt).length by rw [nmM_len]; have hn : (f_h 5).toInt = v523.toInt := congrArg Int32.toInt ev523.symm; omega) (atM t549 (ISWF.t t9 (by omega)).1) t598)), (by omega), rfl, rfl⟩)
      · have dc525 : v523.toInt = 12 := eq_i (a := v523.toInt) (b := 12) rfl rfl c525
        have k785 : 12 ≤ v523.toInt ∧ v523.toInt ≤ 12 := ⟨Int.le_trans (Int.le_refl _) (Int.le_of_eq dc525.symm), k524.2⟩
        refine lv_aload_n hx hb dX10_line0_136 rfl (lv_at hl 2 rfl) ?_
        refine lv_iconst (v := 4) hx hb dX10_line0_137 (by decide) ?_
        refine call_Vi (wr := [(h_tape, .inl (cB, 940, .inl f_tape)), (h_h, .inl (cI, 104, .inl f_h)), (h_names, .inl (cJ, 36, .inr (.inl f_names))), (h_reserved, .inl (cJ, 23, .inr (.inl f_reserved)))]) (As := [.int 4]) (rest := []) hx hb hml hown hw (m_X10_bad l D cI cJ cB cP cM cZ h0 Fh x_at 4 _ e_at) wV_X10_205_X10_bad dX10_line0_138 hK hP hD hS hA [4] [0, 1, 2, 3] rfl rfl (by decide) (by decide) (by decide) 0 10 rfl rfl GG.fb hG.at hl.1 rfl (Nat.le_of_ble_eq_true rfl) ⟨(Nat.le_of_ble_eq_true rfl), (Nat.le_of_ble_eq_true rfl)⟩ ⟨(Nat.le_of_ble_eq_true rfl), (Nat.le_of_ble_eq_true rfl)⟩ (fun r786 u H locs hp hP hD hS => ?_)
        have zl4 : (4 : Int32).toInt = 4 := by decide
        obtain ⟨F787, t788, t789, t790, rfl, rfl⟩ := hp
        have hP : va_P D vwCl [(h_tape, .inl (cB, 940, .inl f_tape)), (h_h, .inl (cI, 104, .inl f_h)), (h_names, .inl (cJ, 36, .inr (.inl f_names))), (h_reserved, .inl (cJ, 23, .inr (.inl f_reserved))), (h0, .inr (10, vL 67 F787))] H := hP
        have hD : va_D A [(h_tape, .inl (cB, 940, .inl f_tape)), (h_h, .inl (cI, 104, .inl f_h)), (h_names, .inl (cJ, 36, .inr (.inl f_names))), (h_reserved, .inl (cJ, 23, .inr (.inl f_reserved))), (h0, .inr (10, vL 67 F787))] := hD
        refine W.widen (k := 0) (n := 0) (Nat.le_of_ble_eq_true rfl) (Nat.le_of_ble_eq_true rfl) ?_
        exact ret_i (v := 0) hx hb hr hlocks hS (hP.sub (ws' := [(h0, .inr (10, vL 67 F787)), (h_tape, .inl (cB, 940, .inl f_tape)), (h_h, .inl (cI, 104, .inl f_h)), (h_names, .inl (cJ, 36, .inr (.inl f_names))), (h_reserved, .inl (cJ, 23, .inr (.inl f_reserved)))]) [4, 0, 1, 2, 3] rfl) (hD.sub (ws' := [(h0, .inr (10, vL 67 F787)), (h_tape, .inl (cB, 940, .inl f_tape)), (h_h, .inl (cI, 104, .inl f_h)), (h_names, .inl (cJ, 36, .inr (.inl f_names))), (h_reserved, .inl (cJ, 23, .inr (.inl f_reserved)))]) [4, 0, 1, 2, 3] (by decide) rfl) dX10_line0_141 rfl (Nat.le_of_ble_eq_true rfl) (Nat.le_of_ble_eq_true rfl) (Or.inl ⟨F787, x_p, x_token, x_at, x_span, x_number, 4, x_at, x_word, x_got, x_onces, f_h, f_names, (SAME.tr SAME.rf t788 (by decide)), (SAME.at t788 (by decide) e_p), i_x_p, (SAME.at t788 (by decide) e_token), i_x_token, (SAME.at t788 (by decide) e_at), (SAME.at t788 (by decide) e_span), (SAME.at t788 (by decide) e_number), t789, (show 1 ≤ (4 : Int32).toInt ∧ (4 : Int32).toInt ≤ 4 by decide), t790, (SAME.at t788 (by decide) e_word), (SAME.at t788 (by decide) e_got), (SAME.at t788 (by decide) e_onces), s_h_0, s_h_5, s_h_6, s_h_7, s_h_44, ((cLine_5 (tkM_1st (ISWF.t t9 (by omega)).1) (lnwM (ISWF.t t9 (by omega)).1 (ISWF.t t9 (by omega)).2)).trans (inl_eq (cMan_m (show 12 ≤ (nmM f_names 18 (f_h 5).toInt).length by rw [nmM_len]; have hn : (f_h 5).toInt = v523.toInt := congrArg Int32.toInt ev523.symm; omega)) (by decide) rfl)), (by have zl4 : (4 : Int32).toInt = 4 := (by decide); omega), rfl, rfl⟩)
  · have dc5 : 0 ≤ r1.toInt := nlt_i (a := r1.toInt) (b := 0) rfl rfl c5
    have k792 : 0 ≤ r1.toInt ∧ r1.toInt ≤ 4 := ⟨Int.le_trans (Int.le_refl _) dc5, t2.2⟩
    by_cases k793 : r1 = 0
    · have dk793 : r1.toInt = 0 := eq_i rfl rfl k793
      have k794 : 0 ≤ r1.toInt ∧ r1.toInt ≤ 0 := ⟨k792.1, Int.le_trans (Int.le_of_eq dk793) (Int.le_refl _)⟩
      have hl : lv_has ls 3 [(1, .int 0), (0, .ref h0)] := by have q := hl; rw [k793] at q; exact q
      refine lv_aload_n hx hb dX10_line0_9 rfl (lv_at hl 1 rfl) ?_
      refine lv_iload_n hx hb dX10_line0_10 rfl (lv_at hl 0 rfl) ?_
      refine call_Vi (wr := [(h_h, .inl (cI, 104, .inl f_h)), (h_names, .inl (cJ, 36, .inr (.inl f_names))), (h_reserved, .inl (cJ, 23, .inr (.inl f_reserved)))]) (As := [.int 0]) (rest := []) hx hb hml hown hw (m_X10_isOnce l D cI cJ cB cP cM cZ h0 h_tape Fh x_size x_p x_limit x_token x_at x_number x_fault x_faultAt x_word x_onces f_tape 0 _ e_tape e_size i_x_size e_p i_x_p e_limit i_x_limit e_token i_x_token e_at e_number e_fault e_faultAt e_word e_onces (by omega)) wV_X10_239_X10_isOnce dX10_line0_11 hK hP hD hS hA [4, 0] [1, 2, 3] rfl rfl (by decide) (by decide) (by decide) 0 10 rfl rfl GG.fb hG.at hl.1 rfl (Nat.le_of_ble_eq_true rfl) ⟨(Nat.le_of_ble_eq_true rfl), (Nat.le_of_ble_eq_true rfl)⟩ ⟨(Nat.le_of_ble_eq_true rfl), (Nat.le_of_ble_eq_true rfl)⟩ (fun r795 u H locs hp hP hD hS => ?_)
      have zl0 : (0 : Int32).toInt = 0 := by decide
      rcases hp with hp | hp
      · refine hp.elim (fun F796 h9z0 => h9z0.elim (fun y797 h9z1 => h9z1.elim (fun y798 h9z2 => h9z2.elim (fun y799 h9z3 => h9z3.elim (fun y800 h9z4 => h9z4.elim (fun y801 h9z5 => h9z5.elim (fun y802 h9z6 => h9z6.elim (fun y803 h9z7 => h9z7.elim (fun t804 h9z8 => h9z8.elim (fun t805 h9z9 => h9z9.elim (fun t806 h9z10 => h9z10.elim (fun t807 h9z11 => h9z11.elim (fun t808 h9z12 => h9z12.elim (fun t809 h9z13 => h9z13.elim (fun t810 h9z14 => h9z14.elim (fun t811 h9z15 => h9z15.elim (fun t812 h9z16 => h9z16.elim (fun t813 h9z17 => h9z17.elim (fun t814 h9z18 => h9z18.elim (fun t815 h9z19 => h9z19.elim (fun t816 h9z20 => h9z20.elim (fun t817 h9z21 => h9z21.elim (fun t818 h9z22 => h9z22.elim (fun t819 h9z23 => h9z23.elim (fun t820 h9z24 => h9z24.elim (fun t821 h9z25 => h9z25.elim (fun t822 h9z26 => h9z26.elim (fun heq927 h9z27 => ?_))))))))))))))))))))))))))))
        clear h9z0 h9z1 h9z2 h9z3 h9z4 h9z5 h9z6 h9z7 h9z8 h9z9 h9z10 h9z11 h9z12 h9z13 h9z14 h9z15 h9z16 h9z17 h9z18 h9z19 h9z20 h9z21 h9z22 h9z23 h9z24 h9z25 h9z26
        subst heq927
        subst h9z27
        have hP : va_P D vwCl [(h_h, .inl (cI, 104, .inl f_h)), (h_names, .inl (cJ, 36, .inr (.inl f_names))), (h_reserved, .inl (cJ, 23, .inr (.inl f_reserved))), (h0, .inr (10, vL 67 F796)), (h_tape, .inl (cB, 940, .inl f_tape))] H := hP
        have hD : va_D A [(h_h, .inl (cI, 104, .inl f_h)), (h_names, .inl (cJ, 36, .inr (.inl f_names))), (h_reserved, .inl (cJ, 23, .inr (.inl f_reserved))), (h0, .inr (10, vL 67 F796)), (h_tape, .inl (cB, 940, .inl f_tape))] := hD
        refine W.widen (k := 0) (n := 0) (Nat.le_of_ble_eq_true rfl) (Nat.le_of_ble_eq_true rfl) ?_
        refine lv_if_ne (tgt := 19) hx hb dX10_line0_14 (by decide) (fun _ => ?_) (fun g => absurd g (by decide))
        refine lv_aload_n hx hb dX10_line0_19 rfl (lv_at hl 1 rfl) ?_
        refine lv_iload_n hx hb dX10_line0_20 rfl (lv_at hl 0 rfl) ?_
        refine lv_if_ne (tgt := 28) hx hb dX10_line0_21 (by decide) (fun g => absurd (by decide) g) (fun _ => ?_)
        refine lv_iconst (v := 5) hx hb dX10_line0_24 (by decide) ?_
        refine lv_goto (tgt := 50) hx hb dX10_line0_25 (by decide) ?_
        refine lv_iload_n hx hb dX10_line0_50 rfl (lv_at hl 0 rfl) ?_
        refine lv_if_ne (tgt := 59) hx hb dX10_line0_51 (by decide) (fun g => absurd (by decide) g) (fun _ => ?_)
        refine lv_bipush (v := 40) hx hb dX10_line0_54 (by decide) ?_
        refine lv_goto (tgt := 93) hx hb dX10_line0_56 (by decide) ?_
        have n834 : F796 1 = .ref h_tape := (SAME.at t804 (by decide) e_tape)
        have n835 : F796 3 = .int x_size := (SAME.at t804 (by decide) e_size)
        have n836 : F796 5 = .int x_limit := (SAME.at t804 (by decide) e_limit)
        have n837 : F796 15 = .int x_fault := (SAME.at t804 (by decide) e_fault)
        have n838 : F796 16 = .int x_faultAt := (SAME.at t804 (by decide) e_faultAt)
        have n839 : F796 19 = .int x_got := (SAME.at t804 (by decide) e_got)
        refine call_Vi (wr := [(h_h, .inl (cI, 104, .inl f_h)), (h_names, .inl (cJ, 36, .inr (.inl f_names))), (h_reserved, .inl (cJ, 23, .inr (.inl f_reserved)))]) (As := [.int 5, .int 40]) (rest := []) hx hb hml hown hw (m_X10_takes l D cI cJ cB cP cM cZ h0 h_tape F796 x_size y797 x_limit y798 y799 y801 x_fault x_faultAt y802 x_got f_tape 5 40 _ n834 n835 i_x_size t805 t806 n836 i_x_limit t807 t808 t809 t813 n837 n838 t814 n839 (by omega)) wV_X10_242_X10_takes dX10_line0_93 hK hP hD hS hA [3, 4] [0, 1, 2] rfl rfl (by decide) (by decide) (by decide) 0 10 rfl rfl GG.fb hG.at hl.1 rfl (Nat.le_of_ble_eq_true rfl) ⟨(Nat.le_of_ble_eq_true rfl), (Nat.le_of_ble_eq_true rfl)⟩ ⟨(Nat.le_of_ble_eq_true rfl), (Nat.le_of_ble_eq_true rfl)⟩ (fun r840 u H locs hp hP hD hS => ?_)
        have zl5 : (5 : Int32).toInt = 5 := by decide
        have zl40 : (40 : Int32).toInt = 40 := by decide
        rcases hp with hp | hp
        · obtain ⟨F841, y842, y843, t844, t845, t846, t847, t848, rfl, rfl⟩ := hp
          have hP : va_P D vwCl [(h_h, .inl (cI, 104, .inl f_h)), (h_names, .inl (cJ, 36, .inr (.inl f_names))), (h_reserved, .inl (cJ, 23, .inr (.inl f_reserved))), (h0, .inr (10, vL 67 F841)), (h_tape, .inl (cB, 940, .inl f_tape))] H := hP
          have hD : va_D A [(h_h, .inl (cI, 104, .inl f_h)), (h_names, .inl (cJ, 36, .inr (.inl f_names))), (h_reserved, .inl (cJ, 23, .inr (.inl f_reserved))), (h0, .inr (10, vL 67 F841)), (h_tape, .inl (cB, 940, .inl f_tape))] := hD
          refine W.widen (k := 0) (n := 0) (Nat.le_of_ble_eq_true rfl) (Nat.le_of_ble_eq_true rfl) ?_
          refine lv_if_ne (tgt := 101) hx hb dX10_line0_96 (by decide) (fun g => absurd (by decide) g) (fun _ => ?_)
          refine lv_iconst (v := 0) hx hb dX10_line0_99 (by decide) ?_
          exact ret_i (v := 0) hx hb hr hlocks hS (hP.sub (ws' := [(h0, .inr (10, vL 67 F841)), (h_tape, .inl (cB, 940, .inl f_tape)), (h_h, .inl (cI, 104, .inl f_h)), (h_names, .inl (cJ, 36, .inr (.inl f_names))), (h_reserved, .inl (cJ, 23, .inr (.inl f_reserved)))]) [3, 4, 0, 1, 2] rfl) (hD.sub (ws' := [(h0, .inr (10, vL 67 F841)), (h_tape, .inl (cB, 940, .inl f_tape)), (h_h, .inl (cI, 104, .inl f_h)), (h_names, .inl (cJ, 36, .inr (.inl f_names))), (h_reserved, .inl (cJ, 23, .inr (.inl f_reserved)))]) [3, 4, 0, 1, 2] (by decide) rfl) dX10_line0_100 rfl (Nat.le_of_ble_eq_true rfl) (Nat.le_of_ble_eq_true rfl) (Or.inl ⟨F841, y797, y798, y799, y800, y801, y842, y843, y802, x_got, y803, f_h, f_names, (SAME.tr (SAME.tr SAME.rf t804 (by decide)) t844 (by decide)), (SAME.at t844 (by decide) t805), t806, (SAME.at t844 (by decide) t807), t808, (SAME.at t844 (by decide) t809), (SAME.at t844 (by decide) t811), (SAME.at t844 (by decide) t813), t845, (ir_wk t846 (by decide) (by decide)), t847, (SAME.at t844 (by decide) t814), (SAME.at t844 (by decide) n839), (SAME.at t844 (by decide) t815), s_h_0, s_h_5, s_h_6, s_h_7, s_h_44, ((cLine_0 (tkM_1st (ONCF.t (k := 0) t3 (by omega) (by decide)).1) (lnwM (ONCF.t (k := 0) t3 (by omega) (by decide)).1 (ONCF.t (k := 0) t3 (by omega) (by decide)).2)).trans (cSet_f t819 (atM t818 (ONCF.t (k := 0) t3 (by omega) (by decide)).1) t848)), (by omega), rfl, rfl⟩)
        · refine hp.elim (fun F849 h9z0 => h9z0.elim (fun y850 h9z1 => h9z1.elim (fun y851 h9z2 => h9z2.elim (fun y852 h9z3 => h9z3.elim (fun y853 h9z4 => h9z4.elim (fun y854 h9z5 => h9z5.elim (fun y855 h9z6 => h9z6.elim (fun y856 h9z7 => h9z7.elim (fun t857 h9z8 => h9z8.elim (fun t858 h9z9 => h9z9.elim (fun t859 h9z10 => h9z10.elim (fun t860 h9z11 => h9z11.elim (fun t861 h9z12 => h9z12.elim (fun t862 h9z13 => h9z13.elim (fun t863 h9z14 => h9z14.elim (fun t864 h9z15 => h9z15.elim (fun t865 h9z16 => h9z16.elim (fun t866 h9z17 => h9z17.elim (fun t867 h9z18 => h9z18.elim (fun t868 h9z19 => h9z19.elim (fun t869 h9z20 => h9z20.elim (fun t870 h9z21 => h9z21.elim (fun t871 h9z22 => h9z22.elim (fun t872 h9z23 => h9z23.elim (fun t873 h9z24 => h9z24.elim (fun t874 h9z25 => h9z25.elim (fun t875 h9z26 => h9z26.elim (fun t876 h9z27 => h9z27.elim (fun t877 h9z28 => h9z28.elim (fun t878 h9z29 => h9z29.elim (fun heq930 h9z30 => ?_)))))))))))))))))))))))))))))))
          clear h9z0 h9z1 h9z2 h9z3 h9z4 h9z5 h9z6 h9z7 h9z8 h9z9 h9z10 h9z11 h9z12 h9z13 h9z14 h9z15 h9z16 h9z17 h9z18 h9z19 h9z20 h9z21 h9z22 h9z23 h9z24 h9z25 h9z26 h9z27 h9z28 h9z29
          subst heq930
          subst h9z30
          clear t817 t822
          have hP : va_P D vwCl [(h_h, .inl (cI, 104, .inl f_h)), (h_names, .inl (cJ, 36, .inr (.inl f_names))), (h_reserved, .inl (cJ, 23, .inr (.inl f_reserved))), (h0, .inr (10, vL 67 F849)), (h_tape, .inl (cB, 940, .inl f_tape))] H := hP
          have hD : va_D A [(h_h, .inl (cI, 104, .inl f_h)), (h_names, .inl (cJ, 36, .inr (.inl f_names))), (h_reserved, .inl (cJ, 23, .inr (.inl f_reserved))), (h0, .inr (10, vL 67 F849)), (h_tape, .inl (cB, 940, .inl f_tape))] := hD
          refine W.widen (k := 0) (n := 0) (Nat.le_of_ble_eq_true rfl) (Nat.le_of_ble_eq_true rfl) ?_
          have k880 : 2 ≤ y798.toInt ∧ y798.toInt ≤ 2 := ⟨Int.le_trans (Int.le_refl _) (Int.le_of_eq t869.symm), Int.le_trans (Int.le_of_eq t869) (Int.le_refl _)⟩
          have k881 : 5 ≤ y801.toInt ∧ y801.toInt ≤ 2147483647 := ⟨Int.le_trans (Int.le_refl _) t870, (ir_any _).2⟩
          have k882 : 5 ≤ y801.toInt ∧ y801.toInt ≤ 40 := ⟨k881.1, Int.le_trans t871 (Int.le_refl _)⟩
          refine lv_if_ne (tgt := 101) hx hb dX10_line0_96 (by decide) (fun _ => ?_) (fun g => absurd g (by decide))
          refine lv_aload_n hx hb dX10_line0_101 rfl (lv_at hl 1 rfl) ?_
          have n883 : F796 7 = .ref h_h := (SAME.at t804 (by decide) e_h)
          have n884 : F849 7 = .ref h_h := (SAME.at t857 (by decide) n883)
          refine get_f (D := D) (ci := 10) (v := .ref h_h) (C := RX10) (T := TX10) (N := 67) hx hb hw inAX10 hown hK hP 3 rfl rfl 7 (by decide) (hw _ q_1268) (fun _ h9 => h9) n884 dX10_line0_102 ?_
          refine lv_iload_n hx hb dX10_line0_105 rfl (lv_at hl 0 rfl) ?_
          refine lv_aload_n hx hb dX10_line0_106 rfl (lv_at hl 1 rfl) ?_
          refine get_f (D := D) (ci := 10) (v := .int y856) (C := RX10) (T := TX10) (N := 67) hx hb hw inAX10 hown hK hP 3 rfl rfl 19 (by decide) (hw _ q_1280) (fun _ h9 => h9) t868 dX10_line0_107 ?_
          obtain ⟨g885, eg885⟩ : ∃ z : Nat → Int32, upd f_h 0 y856 = z := ⟨_, rfl⟩
          have r886 : SG 0 0 0 40 g885 := by rw [← eg885]; exact s_h_0.upN (by omega)
          have r887 : SG 44 55 0 9 g885 := by rw [← eg885]; exact s_h_44.upN (Or.inl (by decide))
          have r888 : SG 5 5 0 12 g885 := by rw [← eg885]; exact s_h_5.upN (Or.inl (by decide))
          have r889 : SG 6 6 0 12 g885 := by rw [← eg885]; exact s_h_6.upN (Or.inl (by decide))
          have r890 : SG 7 7 0 6 g885 := by rw [← eg885]; exact s_h_7.upN (Or.inl (by decide))
          refine iast_n hx hb hK hP hD hS 0 0 rfl rfl 0 rfl (Nat.le_of_ble_eq_true rfl) (Nat.le_of_ble_eq_true rfl) eg885 dX10_line0_110 (fun H locs hP hD hS => ?_)
          have hP : va_P D vwCl [(h_h, .inl (cI, 104, .inl g885)), (h_names, .inl (cJ, 36, .inr (.inl f_names))), (h_reserved, .inl (cJ, 23, .inr (.inl f_reserved))), (h0, .inr (10, vL 67 F849)), (h_tape, .inl (cB, 940, .inl f_tape))] H := hP
          have hD : va_D A [(h_h, .inl (cI, 104, .inl g885)), (h_names, .inl (cJ, 36, .inr (.inl f_names))), (h_reserved, .inl (cJ, 23, .inr (.inl f_reserved))), (h0, .inr (10, vL 67 F849)), (h_tape, .inl (cB, 940, .inl f_tape))] := hD
          refine lv_iconst (v := 1) hx hb dX10_line0_111 (by decide) ?_
          exact ret_i (v := 1) hx hb hr hlocks hS (hP.sub (ws' := [(h0, .inr (10, vL 67 F849)), (h_tape, .inl (cB, 940, .inl f_tape)), (h_h, .inl (cI, 104, .inl g885)), (h_names, .inl (cJ, 36, .inr (.inl f_names))), (h_reserved, .inl (cJ, 23, .inr (.inl f_reserved)))]) [3, 4, 0, 1, 2] rfl) (hD.sub (ws' := [(h0, .inr (10, vL 67 F849)), (h_tape, .inl (cB, 940, .inl f_tape)), (h_h, .inl (cI, 104, .inl g885)), (h_names, .inl (cJ, 36, .inr (.inl f_names))), (h_reserved, .inl (cJ, 23, .inr (.inl f_reserved)))]) [3, 4, 0, 1, 2] (by decide) rfl) dX10_line0_112 rfl (Nat.le_of_ble_eq_true rfl) (Nat.le_of_ble_eq_true rfl) (Or.inr ⟨F849, y850, y851, y852, y853, y854, y855, y856, y803, g885, f_names, (SAME.tr (SAME.tr SAME.rf t804 (by decide)) t857 (by decide)), t858, t859, t860, t861, t862, t863, t864, t865, t866, t867, t868, (SAME.at t857 (by decide) t815), r886, r888, r889, r890, r887, (by have zl1 : (1 : Int32).toInt = 1 := (by decide); omega), (by have zl1 : (1 : Int32).toInt = 1 := (by decide); omega), ((cLine_0 (tkM_1st (ONCF.t (k := 0) t3 (by omega) (by decide)).1) (lnwM (ONCF.t (k := 0) t3 (by omega) (by decide)).1 (ONCF.t (k := 0) t3 (by omega) (by decide)).2)).trans (fin_r (cSet_o t819 (atM t818 (ONCF.t (k := 0) t3 (by omega) (by decide)).1) t875 t820 (by rw [if_pos rfl, tkM_nu t876.1]; exact (upd_0 eg885 (by decide)).trans t876.2)) (csM_s eg885 (by decide)))), (ONCF.t (k := 0) t3 (by omega) (by decide)).1, (AV.h z_1 (upd_m eg885 (by decide))), (AV.h z_2 (upd_m eg885 (by decide))), t877, (by omega), rfl, rfl⟩)
      · obtain ⟨F823, y824, y825, t826, t827, t828, t829, t830, t831, t832, rfl, rfl⟩ := hp
        have hP : va_P D vwCl [(h_h, .inl (cI, 104, .inl f_h)), (h_names, .inl (cJ, 36, .inr (.inl f_names))), (h_reserved, .inl (cJ, 23, .inr (.inl f_reserved))), (h0, .inr (10, vL 67 F823)), (h_tape, .inl (cB, 940, .inl f_tape))] H := hP
        have hD : va_D A [(h_h, .inl (cI, 104, .inl f_h)), (h_names, .inl (cJ, 36, .inr (.inl f_names))), (h_reserved, .inl (cJ, 23, .inr (.inl f_reserved))), (h0, .inr (10, vL 67 F823)), (h_tape, .inl (cB, 940, .inl f_tape))] := hD
        refine W.widen (k := 0) (n := 0) (Nat.le_of_ble_eq_true rfl) (Nat.le_of_ble_eq_true rfl) ?_
        refine lv_if_ne (tgt := 19) hx hb dX10_line0_14 (by decide) (fun g => absurd (by decide) g) (fun _ => ?_)
        refine lv_iconst (v := 0) hx hb dX10_line0_17 (by decide) ?_
        exact ret_i (v := 0) hx hb hr hlocks hS (hP.sub (ws' := [(h0, .inr (10, vL 67 F823)), (h_tape, .inl (cB, 940, .inl f_tape)), (h_h, .inl (cI, 104, .inl f_h)), (h_names, .inl (cJ, 36, .inr (.inl f_names))), (h_reserved, .inl (cJ, 23, .inr (.inl f_reserved)))]) [3, 4, 0, 1, 2] rfl) (hD.sub (ws' := [(h0, .inr (10, vL 67 F823)), (h_tape, .inl (cB, 940, .inl f_tape)), (h_h, .inl (cI, 104, .inl f_h)), (h_names, .inl (cJ, 36, .inr (.inl f_names))), (h_reserved, .inl (cJ, 23, .inr (.inl f_reserved)))]) [3, 4, 0, 1, 2] (by decide) rfl) dX10_line0_18 rfl (Nat.le_of_ble_eq_true rfl) (Nat.le_of_ble_eq_true rfl) (Or.inl ⟨F823, x_p, x_token, x_at, x_span, x_number, y824, y825, x_word, x_got, x_onces, f_h, f_names, (SAME.tr SAME.rf t826 (by decide)), (SAME.at t826 (by decide) e_p), i_x_p, (SAME.at t826 (by decide) e_token), i_x_token, (SAME.at t826 (by decide) e_at), (SAME.at t826 (by decide) e_span), (SAME.at t826 (by decide) e_number), t827, (ir_wk t828 (by decide) (by decide)), t829, (SAME.at t826 (by decide) e_word), (SAME.at t826 (by decide) e_got), (SAME.at t826 (by decide) e_onces), s_h_0, s_h_5, s_h_6, s_h_7, s_h_44, ((cLine_0 (tkM_1st (ONCF.t (k := 0) t3 (by omega) (by decide)).1) (lnwM (ONCF.t (k := 0) t3 (by omega) (by decide)).1 (ONCF.t (k := 0) t3 (by omega) (by decide)).2)).trans (inl_eq (cSet_t t830) t831.1 t831.2)), (by omega), rfl, rfl⟩)
    have dk793 : r1.toInt ≠ 0 := ne_i rfl rfl k793
    have k891 : 1 ≤ r1.toInt ∧ r1.toInt ≤ 4 := ⟨ne_lo dk793 k792.1 ⟨Int.le_refl _, Int.le_refl _⟩ (by decide), k792.2⟩
    by_cases k892 : r1 = 1
    · have dk892 : r1.toInt = 1 := eq_i rfl rfl k892
      have k893 : 1 ≤ r1.toInt ∧ r1.toInt ≤ 1 := ⟨k891.1, Int.le_trans (Int.le_of_eq dk892) (Int.le_refl _)⟩
      have hl : lv_has ls 3 [(1, .int 1), (0, .ref h0)] := by have q := hl; rw [k892] at q; exact q
      refine lv_aload_n hx hb dX10_line0_9 rfl (lv_at hl 1 rfl) ?_
      refine lv_iload_n hx hb dX10_line0_10 rfl (lv_at hl 0 rfl) ?_
      refine call_Vi (wr := [(h_h, .inl (cI, 104, .inl f_h)), (h_names, .inl (cJ, 36, .inr (.inl f_names))), (h_reserved, .inl (cJ, 23, .inr (.inl f_reserved)))]) (As := [.int 1]) (rest := []) hx hb hml hown hw (m_X10_isOnce l D cI cJ cB cP cM cZ h0 h_tape Fh x_size x_p x_limit x_token x_at x_number x_fault x_faultAt x_word x_onces f_tape 1 _ e_tape e_size i_x_size e_p i_x_p e_limit i_x_limit e_token i_x_token e_at e_number e_fault e_faultAt e_word e_onces (by omega)) wV_X10_239_X10_isOnce dX10_line0_11 hK hP hD hS hA [4, 0] [1, 2, 3] rfl rfl (by decide) (by decide) (by decide) 0 10 rfl rfl GG.fb hG.at hl.1 rfl (Nat.le_of_ble_eq_true rfl) ⟨(Nat.le_of_ble_eq_true rfl), (Nat.le_of_ble_eq_true rfl)⟩ ⟨(Nat.le_of_ble_eq_true rfl), (Nat.le_of_ble_eq_true rfl)⟩ (fun r894 u H locs hp hP hD hS => ?_)
      have zl1 : (1 : Int32).toInt = 1 := by decide
      rcases hp with hp | hp
      · refine hp.elim (fun F895 h9z0 => h9z0.elim (fun y896 h9z1 => h9z1.elim (fun y897 h9z2 => h9z2.elim (fun y898 h9z3 => h9z3.elim (fun y899 h9z4 => h9z4.elim (fun y900 h9z5 => h9z5.elim (fun y901 h9z6 => h9z6.elim (fun y902 h9z7 => h9z7.elim (fun t903 h9z8 => h9z8.elim (fun t904 h9z9 => h9z9.elim (fun t905 h9z10 => h9z10.elim (fun t906 h9z11 => h9z11.elim (fun t907 h9z12 => h9z12.elim (fun t908 h9z13 => h9z13.elim (fun t909 h9z14 => h9z14.elim (fun t910 h9z15 => h9z15.elim (fun t911 h9z16 => h9z16.elim (fun t912 h9z17 => h9z17.elim (fun t913 h9z18 => h9z18.elim (fun t914 h9z19 => h9z19.elim (fun t915 h9z20 => h9z20.elim (fun t916 h9z21 => h9z21.elim (fun t917 h9z22 => h9z22.elim (fun t918 h9z23 => h9z23.elim (fun t919 h9z24 => h9z24.elim (fun t920 h9z25 => h9z25.elim (fun t921 h9z26 => h9z26.elim (fun heq927 h9z27 => ?_))))))))))))))))))))))))))))
        clear h9z0 h9z1 h9z2 h9z3 h9z4 h9z5 h9z6 h9z7 h9z8 h9z9 h9z10 h9z11 h9z12 h9z13 h9z14 h9z15 h9z16 h9z17 h9z18 h9z19 h9z20 h9z21 h9z22 h9z23 h9z24 h9z25 h9z26
        subst heq927
        subst h9z27
        have hP : va_P D vwCl [(h_h, .inl (cI, 104, .inl f_h)), (h_names, .inl (cJ, 36, .inr (.inl f_names))), (h_reserved, .inl (cJ, 23, .inr (.inl f_reserved))), (h0, .inr (10, vL 67 F895)), (h_tape, .inl (cB, 940, .inl f_tape))] H := hP
        have hD : va_D A [(h_h, .inl (cI, 104, .inl f_h)), (h_names, .inl (cJ, 36, .inr (.inl f_names))), (h_reserved, .inl (cJ, 23, .inr (.inl f_reserved))), (h0, .inr (10, vL 67 F895)), (h_tape, .inl (cB, 940, .inl f_tape))] := hD
        refine W.widen (k := 0) (n := 0) (Nat.le_of_ble_eq_true rfl) (Nat.le_of_ble_eq_true rfl) ?_
        refine lv_if_ne (tgt := 19) hx hb dX10_line0_14 (by decide) (fun _ => ?_) (fun g => absurd g (by decide))
        refine lv_aload_n hx hb dX10_line0_19 rfl (lv_at hl 1 rfl) ?_
        refine lv_iload_n hx hb dX10_line0_20 rfl (lv_at hl 0 rfl) ?_
        refine lv_if_ne (tgt := 28) hx hb dX10_line0_21 (by decide) (fun _ => ?_) (fun g => absurd g (by decide))
        refine lv_iload_n hx hb dX10_line0_28 rfl (lv_at hl 0 rfl) ?_
        refine lv_iconst (v := 1) hx hb dX10_line0_29 (by decide) ?_
        refine lv_icmp_ne (tgt := 38) hx hb dX10_line0_30 (by decide) (fun g => absurd (by decide) g) (fun _ => ?_)
        refine lv_bipush (v := 100) hx hb dX10_line0_33 (by decide) ?_
        refine lv_goto (tgt := 50) hx hb dX10_line0_35 (by decide) ?_
        refine lv_iload_n hx hb dX10_line0_50 rfl (lv_at hl 0 rfl) ?_
        refine lv_if_ne (tgt := 59) hx hb dX10_line0_51 (by decide) (fun _ => ?_) (fun g => absurd g (by decide))
        refine lv_iload_n hx hb dX10_line0_59 rfl (lv_at hl 0 rfl) ?_
        refine lv_iconst (v := 1) hx hb dX10_line0_60 (by decide) ?_
        refine lv_icmp_ne (tgt := 70) hx hb dX10_line0_61 (by decide) (fun g => absurd (by decide) g) (fun _ => ?_)
        refine lv_sipush (v := 300) hx hb dX10_line0_64 (by decide) ?_
        refine lv_goto (tgt := 93) hx hb dX10_line0_67 (by decide) ?_
        have n933 : F895 1 = .ref h_tape := (SAME.at t903 (by decide) e_tape)
        have n934 : F895 3 = .int x_size := (SAME.at t903 (by decide) e_size)
        have n935 : F895 5 = .int x_limit := (SAME.at t903 (by decide) e_limit)
        have n936 : F895 15 = .int x_fault := (SAME.at t903 (by decide) e_fault)
        have n937 : F895 16 = .int x_faultAt := (SAME.at t903 (by decide) e_faultAt)
        have n938 : F895 19 = .int x_got := (SAME.at t903 (by decide) e_got)
        refine call_Vi (wr := [(h_h, .inl (cI, 104, .inl f_h)), (h_names, .inl (cJ, 36, .inr (.inl f_names))), (h_reserved, .inl (cJ, 23, .inr (.inl f_reserved)))]) (As := [.int 100, .int 300]) (rest := []) hx hb hml hown hw (m_X10_takes l D cI cJ cB cP cM cZ h0 h_tape F895 x_size y896 x_limit y897 y898 y900 x_fault x_faultAt y901 x_got f_tape 100 300 _ n933 n934 i_x_size t904 t905 n935 i_x_limit t906 t907 t908 t912 n936 n937 t913 n938 (by omega)) wV_X10_242_X10_takes dX10_line0_93 hK hP hD hS hA [3, 4] [0, 1, 2] rfl rfl (by decide) (by decide) (by decide) 0 10 rfl rfl GG.fb hG.at hl.1 rfl (Nat.le_of_ble_eq_true rfl) ⟨(Nat.le_of_ble_eq_true rfl), (Nat.le_of_ble_eq_true rfl)⟩ ⟨(Nat.le_of_ble_eq_true rfl), (Nat.le_of_ble_eq_true rfl)⟩ (fun r939 u H locs hp hP hD hS => ?_)
        have zl100 : (100 : Int32).toInt = 100 := by decide
        have zl300 : (300 : Int32).toInt = 300 := by decide
        rcases hp with hp | hp
        · obtain ⟨F940, y941, y942, t943, t944, t945, t946, t947, rfl, rfl⟩ := hp
          have hP : va_P D vwCl [(h_h, .inl (cI, 104, .inl f_h)), (h_names, .inl (cJ, 36, .inr (.inl f_names))), (h_reserved, .inl (cJ, 23, .inr (.inl f_reserved))), (h0, .inr (10, vL 67 F940)), (h_tape, .inl (cB, 940, .inl f_tape))] H := hP
          have hD : va_D A [(h_h, .inl (cI, 104, .inl f_h)), (h_names, .inl (cJ, 36, .inr (.inl f_names))), (h_reserved, .inl (cJ, 23, .inr (.inl f_reserved))), (h0, .inr (10, vL 67 F940)), (h_tape, .inl (cB, 940, .inl f_tape))] := hD
          refine W.widen (k := 0) (n := 0) (Nat.le_of_ble_eq_true rfl) (Nat.le_of_ble_eq_true rfl) ?_
          refine lv_if_ne (tgt := 101) hx hb dX10_line0_96 (by decide) (fun g => absurd (by decide) g) (fun _ => ?_)
          refine lv_iconst (v := 0) hx hb dX10_line0_99 (by decide) ?_
          exact ret_i (v := 0) hx hb hr hlocks hS (hP.sub (ws' := [(h0, .inr (10, vL 67 F940)), (h_tape, .inl (cB, 940, .inl f_tape)), (h_h, .inl (cI, 104, .inl f_h)), (h_names, .inl (cJ, 36, .inr (.inl f_names))), (h_reserved, .inl (cJ, 23, .inr (.inl f_reserved)))]) [3, 4, 0, 1, 2] rfl) (hD.sub (ws' := [(h0, .inr (10, vL 67 F940)), (h_tape, .inl (cB, 940, .inl f_tape)), (h_h, .inl (cI, 104, .inl f_h)), (h_names, .inl (cJ, 36, .inr (.inl f_names))), (h_reserved, .inl (cJ, 23, .inr (.inl f_reserved)))]) [3, 4, 0, 1, 2] (by decide) rfl) dX10_line0_100 rfl (Nat.le_of_ble_eq_true rfl) (Nat.le_of_ble_eq_true rfl) (Or.inl ⟨F940, y896, y897, y898, y899, y900, y941, y942, y901, x_got, y902, f_h, f_names, (SAME.tr (SAME.tr SAME.rf t903 (by decide)) t943 (by decide)), (SAME.at t943 (by decide) t904), t905, (SAME.at t943 (by decide) t906), t907, (SAME.at t943 (by decide) t908), (SAME.at t943 (by decide) t910), (SAME.at t943 (by decide) t912), t944, (ir_wk t945 (by decide) (by decide)), t946, (SAME.at t943 (by decide) t913), (SAME.at t943 (by decide) n938), (SAME.at t943 (by decide) t914), s_h_0, s_h_5, s_h_6, s_h_7, s_h_44, ((cLine_1 (tkM_1st (ONCF.t (k := 1) t3 (by omega) (by decide)).1) (lnwM (ONCF.t (k := 1) t3 (by omega) (by decide)).1 (ONCF.t (k := 1) t3 (by omega) (by decide)).2)).trans (cSet_f t918 (atM t917 (ONCF.t (k := 1) t3 (by omega) (by decide)).1) t947)), (by omega), rfl, rfl⟩)
        · refine hp.elim (fun F948 h9z0 => h9z0.elim (fun y949 h9z1 => h9z1.elim (fun y950 h9z2 => h9z2.elim (fun y951 h9z3 => h9z3.elim (fun y952 h9z4 => h9z4.elim (fun y953 h9z5 => h9z5.elim (fun y954 h9z6 => h9z6.elim (fun y955 h9z7 => h9z7.elim (fun t956 h9z8 => h9z8.elim (fun t957 h9z9 => h9z9.elim (fun t958 h9z10 => h9z10.elim (fun t959 h9z11 => h9z11.elim (fun t960 h9z12 => h9z12.elim (fun t961 h9z13 => h9z13.elim (fun t962 h9z14 => h9z14.elim (fun t963 h9z15 => h9z15.elim (fun t964 h9z16 => h9z16.elim (fun t965 h9z17 => h9z17.elim (fun t966 h9z18 => h9z18.elim (fun t967 h9z19 => h9z19.elim (fun t968 h9z20 => h9z20.elim (fun t969 h9z21 => h9z21.elim (fun t970 h9z22 => h9z22.elim (fun t971 h9z23 => h9z23.elim (fun t972 h9z24 => h9z24.elim (fun t973 h9z25 => h9z25.elim (fun t974 h9z26 => h9z26.elim (fun t975 h9z27 => h9z27.elim (fun t976 h9z28 => h9z28.elim (fun t977 h9z29 => h9z29.elim (fun heq930 h9z30 => ?_)))))))))))))))))))))))))))))))
          clear h9z0 h9z1 h9z2 h9z3 h9z4 h9z5 h9z6 h9z7 h9z8 h9z9 h9z10 h9z11 h9z12 h9z13 h9z14 h9z15 h9z16 h9z17 h9z18 h9z19 h9z20 h9z21 h9z22 h9z23 h9z24 h9z25 h9z26 h9z27 h9z28 h9z29
          subst heq930
          subst h9z30
          clear t916 t921
          have hP : va_P D vwCl [(h_h, .inl (cI, 104, .inl f_h)), (h_names, .inl (cJ, 36, .inr (.inl f_names))), (h_reserved, .inl (cJ, 23, .inr (.inl f_reserved))), (h0, .inr (10, vL 67 F948)), (h_tape, .inl (cB, 940, .inl f_tape))] H := hP
          have hD : va_D A [(h_h, .inl (cI, 104, .inl f_h)), (h_names, .inl (cJ, 36, .inr (.inl f_names))), (h_reserved, .inl (cJ, 23, .inr (.inl f_reserved))), (h0, .inr (10, vL 67 F948)), (h_tape, .inl (cB, 940, .inl f_tape))] := hD
          refine W.widen (k := 0) (n := 0) (Nat.le_of_ble_eq_true rfl) (Nat.le_of_ble_eq_true rfl) ?_
          have k979 : 2 ≤ y897.toInt ∧ y897.toInt ≤ 2 := ⟨Int.le_trans (Int.le_refl _) (Int.le_of_eq t968.symm), Int.le_trans (Int.le_of_eq t968) (Int.le_refl _)⟩
          have k980 : 100 ≤ y900.toInt ∧ y900.toInt ≤ 2147483647 := ⟨Int.le_trans (Int.le_refl _) t969, (ir_any _).2⟩
          have k981 : 100 ≤ y900.toInt ∧ y900.toInt ≤ 300 := ⟨k980.1, Int.le_trans t970 (Int.le_refl _)⟩
          refine lv_if_ne (tgt := 101) hx hb dX10_line0_96 (by decide) (fun _ => ?_) (fun g => absurd g (by decide))
          refine lv_aload_n hx hb dX10_line0_101 rfl (lv_at hl 1 rfl) ?_
          have n982 : F895 7 = .ref h_h := (SAME.at t903 (by decide) e_h)
          have n983 : F948 7 = .ref h_h := (SAME.at t956 (by decide) n982)
          refine get_f (D := D) (ci := 10) (v := .ref h_h) (C := RX10) (T := TX10) (N := 67) hx hb hw inAX10 hown hK hP 3 rfl rfl 7 (by decide) (hw _ q_1268) (fun _ h9 => h9) n983 dX10_line0_102 ?_
          refine lv_iload_n hx hb dX10_line0_105 rfl (lv_at hl 0 rfl) ?_
          refine lv_aload_n hx hb dX10_line0_106 rfl (lv_at hl 1 rfl) ?_
          refine get_f (D := D) (ci := 10) (v := .int y955) (C := RX10) (T := TX10) (N := 67) hx hb hw inAX10 hown hK hP 3 rfl rfl 19 (by decide) (hw _ q_1280) (fun _ h9 => h9) t967 dX10_line0_107 ?_
          obtain ⟨g984, eg984⟩ : ∃ z : Nat → Int32, upd f_h 1 y955 = z := ⟨_, rfl⟩
          have r985 : SG 0 0 0 40 g984 := by rw [← eg984]; exact s_h_0.upN (Or.inr (Or.inl (by decide)))
          have r986 : SG 44 55 0 9 g984 := by rw [← eg984]; exact s_h_44.upN (Or.inl (by decide))
          have r987 : SG 5 5 0 12 g984 := by rw [← eg984]; exact s_h_5.upN (Or.inl (by decide))
          have r988 : SG 6 6 0 12 g984 := by rw [← eg984]; exact s_h_6.upN (Or.inl (by decide))
          have r989 : SG 7 7 0 6 g984 := by rw [← eg984]; exact s_h_7.upN (Or.inl (by decide))
          refine iast_n hx hb hK hP hD hS 0 0 rfl rfl 1 rfl (Nat.le_of_ble_eq_true rfl) (Nat.le_of_ble_eq_true rfl) eg984 dX10_line0_110 (fun H locs hP hD hS => ?_)
          have hP : va_P D vwCl [(h_h, .inl (cI, 104, .inl g984)), (h_names, .inl (cJ, 36, .inr (.inl f_names))), (h_reserved, .inl (cJ, 23, .inr (.inl f_reserved))), (h0, .inr (10, vL 67 F948)), (h_tape, .inl (cB, 940, .inl f_tape))] H := hP
          have hD : va_D A [(h_h, .inl (cI, 104, .inl g984)), (h_names, .inl (cJ, 36, .inr (.inl f_names))), (h_reserved, .inl (cJ, 23, .inr (.inl f_reserved))), (h0, .inr (10, vL 67 F948)), (h_tape, .inl (cB, 940, .inl f_tape))] := hD
          refine lv_iconst (v := 1) hx hb dX10_line0_111 (by decide) ?_
          exact ret_i (v := 1) hx hb hr hlocks hS (hP.sub (ws' := [(h0, .inr (10, vL 67 F948)), (h_tape, .inl (cB, 940, .inl f_tape)), (h_h, .inl (cI, 104, .inl g984)), (h_names, .inl (cJ, 36, .inr (.inl f_names))), (h_reserved, .inl (cJ, 23, .inr (.inl f_reserved)))]) [3, 4, 0, 1, 2] rfl) (hD.sub (ws' := [(h0, .inr (10, vL 67 F948)), (h_tape, .inl (cB, 940, .inl f_tape)), (h_h, .inl (cI, 104, .inl g984)), (h_names, .inl (cJ, 36, .inr (.inl f_names))), (h_reserved, .inl (cJ, 23, .inr (.inl f_reserved)))]) [3, 4, 0, 1, 2] (by decide) rfl) dX10_line0_112 rfl (Nat.le_of_ble_eq_true rfl) (Nat.le_of_ble_eq_true rfl) (Or.inr ⟨F948, y949, y950, y951, y952, y953, y954, y955, y902, g984, f_names, (SAME.tr (SAME.tr SAME.rf t903 (by decide)) t956 (by decide)), t957, t958, t959, t960, t961, t962, t963, t964, t965, t966, t967, (SAME.at t956 (by decide) t914), r985, r987, r988, r989, r986, (by have zl1 : (1 : Int32).toInt = 1 := (by decide); omega), (by have zl1 : (1 : Int32).toInt = 1 := (by decide); omega), ((cLine_1 (tkM_1st (ONCF.t (k := 1) t3 (by omega) (by decide)).1) (lnwM (ONCF.t (k := 1) t3 (by omega) (by decide)).1 (ONCF.t (k := 1) t3 (by omega) (by decide)).2)).trans (fin_r (cSet_o t918 (atM t917 (ONCF.t (k := 1) t3 (by omega) (by decide)).1) t974 t919 (by rw [if_neg (by decide)]; exact upd_n eg984 (by decide))) (csM_s eg984 (by decide)))), (ONCF.t (k := 1) t3 (by omega) (by decide)).1, (AV.h z_1 (upd_m eg984 (by decide))), (AV.h z_2 (upd_m eg984 (by decide))), t976, (by omega), rfl, rfl⟩)
      · obtain ⟨F922, y923, y924, t925, t926, t927, t928, t929, t930, t931, rfl, rfl⟩ := hp
        have hP : va_P D vwCl [(h_h, .inl (cI, 104, .inl f_h)), (h_names, .inl (cJ, 36, .inr (.inl f_names))), (h_reserved, .inl (cJ, 23, .inr (.inl f_reserved))), (h0, .inr (10, vL 67 F922)), (h_tape, .inl (cB, 940, .inl f_tape))] H := hP
        have hD : va_D A [(h_h, .inl (cI, 104, .inl f_h)), (h_names, .inl (cJ, 36, .inr (.inl f_names))), (h_reserved, .inl (cJ, 23, .inr (.inl f_reserved))), (h0, .inr (10, vL 67 F922)), (h_tape, .inl (cB, 940, .inl f_tape))] := hD
        refine W.widen (k := 0) (n := 0) (Nat.le_of_ble_eq_true rfl) (Nat.le_of_ble_eq_true rfl) ?_
        refine lv_if_ne (tgt := 19) hx hb dX10_line0_14 (by decide) (fun g => absurd (by decide) g) (fun _ => ?_)
        refine lv_iconst (v := 0) hx hb dX10_line0_17 (by decide) ?_
        exact ret_i (v := 0) hx hb hr hlocks hS (hP.sub (ws' := [(h0, .inr (10, vL 67 F922)), (h_tape, .inl (cB, 940, .inl f_tape)), (h_h, .inl (cI, 104, .inl f_h)), (h_names, .inl (cJ, 36, .inr (.inl f_names))), (h_reserved, .inl (cJ, 23, .inr (.inl f_reserved)))]) [3, 4, 0, 1, 2] rfl) (hD.sub (ws' := [(h0, .inr (10, vL 67 F922)), (h_tape, .inl (cB, 940, .inl f_tape)), (h_h, .inl (cI, 104, .inl f_h)), (h_names, .inl (cJ, 36, .inr (.inl f_names))), (h_reserved, .inl (cJ, 23, .inr (.inl f_reserved)))]) [3, 4, 0, 1, 2] (by decide) rfl) dX10_line0_18 rfl (Nat.le_of_ble_eq_true rfl) (Nat.le_of_ble_eq_true rfl) (Or.inl ⟨F922, x_p, x_token, x_at, x_span, x_number, y923, y924, x_word, x_got, x_onces, f_h, f_names, (SAME.tr SAME.rf t925 (by decide)), (SAME.at t925 (by decide) e_p), i_x_p, (SAME.at t925 (by decide) e_token), i_x_token, (SAME.at t925 (by decide) e_at), (SAME.at t925 (by decide) e_span), (SAME.at t925 (by decide) e_number), t926, (ir_wk t927 (by decide) (by decide)), t928, (SAME.at t925 (by decide) e_word), (SAME.at t925 (by decide) e_got), (SAME.at t925 (by decide) e_onces), s_h_0, s_h_5, s_h_6, s_h_7, s_h_44, ((cLine_1 (tkM_1st (ONCF.t (k := 1) t3 (by omega) (by decide)).1) (lnwM (ONCF.t (k := 1) t3 (by omega) (by decide)).1 (ONCF.t (k := 1) t3 (by omega) (by decide)).2)).trans (inl_eq (cSet_t t929) t930.1 t930.2)), (by omega), rfl, rfl⟩)
    have dk892 : r1.toInt ≠ 1 := ne_i rfl rfl k892
    have k990 : 2 ≤ r1.toInt ∧ r1.toInt ≤ 4 := ⟨ne_lo dk892 k891.1 ⟨Int.le_refl _, Int.le_refl _⟩ (by decide), k891.2⟩
    by_cases k991 : r1 = 2
    · have dk991 : r1.toInt = 2 := eq_i rfl rfl k991
      have k992 : 2 ≤ r1.toInt ∧ r1.toInt ≤ 2 := ⟨k990.1, Int.le_trans (Int.le_of_eq dk991) (Int.le_refl _)⟩
      have hl : lv_has ls 3 [(1, .int 2), (0, .ref h0)] := by have q := hl; rw [k991] at q; exact q
      refine lv_aload_n hx hb dX10_line0_9 rfl (lv_at hl 1 rfl) ?_
      refine lv_iload_n hx hb dX10_line0_10 rfl (lv_at hl 0 rfl) ?_
      refine call_Vi (wr := [(h_h, .inl (cI, 104, .inl f_h)), (h_names, .inl (cJ, 36, .inr (.inl f_names))), (h_reserved, .inl (cJ, 23, .inr (.inl f_reserved)))]) (As := [.int 2]) (rest := []) hx hb hml hown hw (m_X10_isOnce l D cI cJ cB cP cM cZ h0 h_tape Fh x_size x_p x_limit x_token x_at x_number x_fault x_faultAt x_word x_onces f_tape 2 _ e_tape e_size i_x_size e_p i_x_p e_limit i_x_limit e_token i_x_token e_at e_number e_fault e_faultAt e_word e_onces (by omega)) wV_X10_239_X10_isOnce dX10_line0_11 hK hP hD hS hA [4, 0] [1, 2, 3] rfl rfl (by decide) (by decide) (by decide) 0 10 rfl rfl GG.fb hG.at hl.1 rfl (Nat.le_of_ble_eq_true rfl) ⟨(Nat.le_of_ble_eq_true rfl), (Nat.le_of_ble_eq_true rfl)⟩ ⟨(Nat.le_of_ble_eq_true rfl), (Nat.le_of_ble_eq_true rfl)⟩ (fun r993 u H locs hp hP hD hS => ?_)
      have zl2 : (2 : Int32).toInt = 2 := by decide
      rcases hp with hp | hp
      · refine hp.elim (fun F994 h9z0 => h9z0.elim (fun y995 h9z1 => h9z1.elim (fun y996 h9z2 => h9z2.elim (fun y997 h9z3 => h9z3.elim (fun y998 h9z4 => h9z4.elim (fun y999 h9z5 => h9z5.elim (fun y1000 h9z6 => h9z6.elim (fun y1001 h9z7 => h9z7.elim (fun t1002 h9z8 => h9z8.elim (fun t1003 h9z9 => h9z9.elim (fun t1004 h9z10 => h9z10.elim (fun t1005 h9z11 => h9z11.elim (fun t1006 h9z12 => h9z12.elim (fun t1007 h9z13 => h9z13.elim (fun t1008 h9z14 => h9z14.elim (fun t1009 h9z15 => h9z15.elim (fun t1010 h9z16 => h9z16.elim (fun t1011 h9z17 => h9z17.elim (fun t1012 h9z18 => h9z18.elim (fun t1013 h9z19 => h9z19.elim (fun t1014 h9z20 => h9z20.elim (fun t1015 h9z21 => h9z21.elim (fun t1016 h9z22 => h9z22.elim (fun t1017 h9z23 => h9z23.elim (fun t1018 h9z24 => h9z24.elim (fun t1019 h9z25 => h9z25.elim (fun t1020 h9z26 => h9z26.elim (fun heq927 h9z27 => ?_))))))))))))))))))))))))))))
        clear h9z0 h9z1 h9z2 h9z3 h9z4 h9z5 h9z6 h9z7 h9z8 h9z9 h9z10 h9z11 h9z12 h9z13 h9z14 h9z15 h9z16 h9z17 h9z18 h9z19 h9z20 h9z21 h9z22 h9z23 h9z24 h9z25 h9z26
        subst heq927
        subst h9z27
        have hP : va_P D vwCl [(h_h, .inl (cI, 104, .inl f_h)), (h_names, .inl (cJ, 36, .inr (.inl f_names))), (h_reserved, .inl (cJ, 23, .inr (.inl f_reserved))), (h0, .inr (10, vL 67 F994)), (h_tape, .inl (cB, 940, .inl f_tape))] H := hP
        have hD : va_D A [(h_h, .inl (cI, 104, .inl f_h)), (h_names, .inl (cJ, 36, .inr (.inl f_names))), (h_reserved, .inl (cJ, 23, .inr (.inl f_reserved))), (h0, .inr (10, vL 67 F994)), (h_tape, .inl (cB, 940, .inl f_tape))] := hD
        refine W.widen (k := 0) (n := 0) (Nat.le_of_ble_eq_true rfl) (Nat.le_of_ble_eq_true rfl) ?_
        refine lv_if_ne (tgt := 19) hx hb dX10_line0_14 (by decide) (fun _ => ?_) (fun g => absurd g (by decide))
        refine lv_aload_n hx hb dX10_line0_19 rfl (lv_at hl 1 rfl) ?_
        refine lv_iload_n hx hb dX10_line0_20 rfl (lv_at hl 0 rfl) ?_
        refine lv_if_ne (tgt := 28) hx hb dX10_line0_21 (by decide) (fun _ => ?_) (fun g => absurd g (by decide))
        refine lv_iload_n hx hb dX10_line0_28 rfl (lv_at hl 0 rfl) ?_
        refine lv_iconst (v := 1) hx hb dX10_line0_29 (by decide) ?_
        refine lv_icmp_ne (tgt := 38) hx hb dX10_line0_30 (by decide) (fun _ => ?_) (fun g => absurd g (by decide))
        refine lv_iload_n hx hb dX10_line0_38 rfl (lv_at hl 0 rfl) ?_
        refine lv_iconst (v := 2) hx hb dX10_line0_39 (by decide) ?_
        refine lv_icmp_ne (tgt := 49) hx hb dX10_line0_40 (by decide) (fun g => absurd (by decide) g) (fun _ => ?_)
        refine lv_sipush (v := 300) hx hb dX10_line0_43 (by decide) ?_
        refine lv_goto (tgt := 50) hx hb dX10_line0_46 (by decide) ?_
        refine lv_iload_n hx hb dX10_line0_50 rfl (lv_at hl 0 rfl) ?_
        refine lv_if_ne (tgt := 59) hx hb dX10_line0_51 (by decide) (fun _ => ?_) (fun g => absurd g (by decide))
        refine lv_iload_n hx hb dX10_line0_59 rfl (lv_at hl 0 rfl) ?_
        refine lv_iconst (v := 1) hx hb dX10_line0_60 (by decide) ?_
        refine lv_icmp_ne (tgt := 70) hx hb dX10_line0_61 (by decide) (fun _ => ?_) (fun g => absurd g (by decide))
        refine lv_iload_n hx hb dX10_line0_70 rfl (lv_at hl 0 rfl) ?_
        refine lv_iconst (v := 2) hx hb dX10_line0_71 (by decide) ?_
        refine lv_icmp_ne (tgt := 81) hx hb dX10_line0_72 (by decide) (fun g => absurd (by decide) g) (fun _ => ?_)
        refine lv_sipush (v := 900) hx hb dX10_line0_75 (by decide) ?_
        refine lv_goto (tgt := 93) hx hb dX10_line0_78 (by decide) ?_
        have n1032 : F994 1 = .ref h_tape := (SAME.at t1002 (by decide) e_tape)
        have n1033 : F994 3 = .int x_size := (SAME.at t1002 (by decide) e_size)
        have n1034 : F994 5 = .int x_limit := (SAME.at t1002 (by decide) e_limit)
        have n1035 : F994 15 = .int x_fault := (SAME.at t1002 (by decide) e_fault)
        have n1036 : F994 16 = .int x_faultAt := (SAME.at t1002 (by decide) e_faultAt)
        have n1037 : F994 19 = .int x_got := (SAME.at t1002 (by decide) e_got)
        refine call_Vi (wr := [(h_h, .inl (cI, 104, .inl f_h)), (h_names, .inl (cJ, 36, .inr (.inl f_names))), (h_reserved, .inl (cJ, 23, .inr (.inl f_reserved)))]) (As := [.int 300, .int 900]) (rest := []) hx hb hml hown hw (m_X10_takes l D cI cJ cB cP cM cZ h0 h_tape F994 x_size y995 x_limit y996 y997 y999 x_fault x_faultAt y1000 x_got f_tape 300 900 _ n1032 n1033 i_x_size t1003 t1004 n1034 i_x_limit t1005 t1006 t1007 t1011 n1035 n1036 t1012 n1037 (by omega)) wV_X10_242_X10_takes dX10_line0_93 hK hP hD hS hA [3, 4] [0, 1, 2] rfl rfl (by decide) (by decide) (by decide) 0 10 rfl rfl GG.fb hG.at hl.1 rfl (Nat.le_of_ble_eq_true rfl) ⟨(Nat.le_of_ble_eq_true rfl), (Nat.le_of_ble_eq_true rfl)⟩ ⟨(Nat.le_of_ble_eq_true rfl), (Nat.le_of_ble_eq_true rfl)⟩ (fun r1038 u H locs hp hP hD hS => ?_)
        have zl300 : (300 : Int32).toInt = 300 := by decide
        have zl900 : (900 : Int32).toInt = 900 := by decide
        rcases hp with hp | hp
        · obtain ⟨F1039, y1040, y1041, t1042, t1043, t1044, t1045, t1046, rfl, rfl⟩ := hp
          have hP : va_P D vwCl [(h_h, .inl (cI, 104, .inl f_h)), (h_names, .inl (cJ, 36, .inr (.inl f_names))), (h_reserved, .inl (cJ, 23, .inr (.inl f_reserved))), (h0, .inr (10, vL 67 F1039)), (h_tape, .inl (cB, 940, .inl f_tape))] H := hP
          have hD : va_D A [(h_h, .inl (cI, 104, .inl f_h)), (h_names, .inl (cJ, 36, .inr (.inl f_names))), (h_reserved, .inl (cJ, 23, .inr (.inl f_reserved))), (h0, .inr (10, vL 67 F1039)), (h_tape, .inl (cB, 940, .inl f_tape))] := hD
          refine W.widen (k := 0) (n := 0) (Nat.le_of_ble_eq_true rfl) (Nat.le_of_ble_eq_true rfl) ?_
          refine lv_if_ne (tgt := 101) hx hb dX10_line0_96 (by decide) (fun g => absurd (by decide) g) (fun _ => ?_)
          refine lv_iconst (v := 0) hx hb dX10_line0_99 (by decide) ?_
          exact ret_i (v := 0) hx hb hr hlocks hS (hP.sub (ws' := [(h0, .inr (10, vL 67 F1039)), (h_tape, .inl (cB, 940, .inl f_tape)), (h_h, .inl (cI, 104, .inl f_h)), (h_names, .inl (cJ, 36, .inr (.inl f_names))), (h_reserved, .inl (cJ, 23, .inr (.inl f_reserved)))]) [3, 4, 0, 1, 2] rfl) (hD.sub (ws' := [(h0, .inr (10, vL 67 F1039)), (h_tape, .inl (cB, 940, .inl f_tape)), (h_h, .inl (cI, 104, .inl f_h)), (h_names, .inl (cJ, 36, .inr (.inl f_names))), (h_reserved, .inl (cJ, 23, .inr (.inl f_reserved)))]) [3, 4, 0, 1, 2] (by decide) rfl) dX10_line0_100 rfl (Nat.le_of_ble_eq_true rfl) (Nat.le_of_ble_eq_true rfl) (Or.inl ⟨F1039, y995, y996, y997, y998, y999, y1040, y1041, y1000, x_got, y1001, f_h, f_names, (SAME.tr (SAME.tr SAME.rf t1002 (by decide)) t1042 (by decide)), (SAME.at t1042 (by decide) t1003), t1004, (SAME.at t1042 (by decide) t1005), t1006, (SAME.at t1042 (by decide) t1007), (SAME.at t1042 (by decide) t1009), (SAME.at t1042 (by decide) t1011), t1043, (ir_wk t1044 (by decide) (by decide)), t1045, (SAME.at t1042 (by decide) t1012), (SAME.at t1042 (by decide) n1037), (SAME.at t1042 (by decide) t1013), s_h_0, s_h_5, s_h_6, s_h_7, s_h_44, ((cLine_2 (tkM_1st (ONCF.t (k := 2) t3 (by omega) (by decide)).1) (lnwM (ONCF.t (k := 2) t3 (by omega) (by decide)).1 (ONCF.t (k := 2) t3 (by omega) (by decide)).2)).trans (cSet_f t1017 (atM t1016 (ONCF.t (k := 2) t3 (by omega) (by decide)).1) t1046)), (by omega), rfl, rfl⟩)
        · refine hp.elim (fun F1047 h9z0 => h9z0.elim (fun y1048 h9z1 => h9z1.elim (fun y1049 h9z2 => h9z2.elim (fun y1050 h9z3 => h9z3.elim (fun y1051 h9z4 => h9z4.elim (fun y1052 h9z5 => h9z5.elim (fun y1053 h9z6 => h9z6.elim (fun y1054 h9z7 => h9z7.elim (fun t1055 h9z8 => h9z8.elim (fun t1056 h9z9 => h9z9.elim (fun t1057 h9z10 => h9z10.elim (fun t1058 h9z11 => h9z11.elim (fun t1059 h9z12 => h9z12.elim (fun t1060 h9z13 => h9z13.elim (fun t1061 h9z14 => h9z14.elim (fun t1062 h9z15 => h9z15.elim (fun t1063 h9z16 => h9z16.elim (fun t1064 h9z17 => h9z17.elim (fun t1065 h9z18 => h9z18.elim (fun t1066 h9z19 => h9z19.elim (fun t1067 h9z20 => h9z20.elim (fun t1068 h9z21 => h9z21.elim (fun t1069 h9z22 => h9z22.elim (fun t1070 h9z23 => h9z23.elim (fun t1071 h9z24 => h9z24.elim (fun t1072 h9z25 => h9z25.elim (fun t1073 h9z26 => h9z26.elim (fun t1074 h9z27 => h9z27.elim (fun t1075 h9z28 => h9z28.elim (fun t1076 h9z29 => h9z29.elim (fun heq930 h9z30 => ?_)))))))))))))))))))))))))))))))
          clear h9z0 h9z1 h9z2 h9z3 h9z4 h9z5 h9z6 h9z7 h9z8 h9z9 h9z10 h9z11 h9z12 h9z13 h9z14 h9z15 h9z16 h9z17 h9z18 h9z19 h9z20 h9z21 h9z22 h9z23 h9z24 h9z25 h9z26 h9z27 h9z28 h9z29
          subst heq930
          subst h9z30
          clear t1015 t1020
          have hP : va_P D vwCl [(h_h, .inl (cI, 104, .inl f_h)), (h_names, .inl (cJ, 36, .inr (.inl f_names))), (h_reserved, .inl (cJ, 23, .inr (.inl f_reserved))), (h0, .inr (10, vL 67 F1047)), (h_tape, .inl (cB, 940, .inl f_tape))] H := hP
          have hD : va_D A [(h_h, .inl (cI, 104, .inl f_h)), (h_names, .inl (cJ, 36, .inr (.inl f_names))), (h_reserved, .inl (cJ, 23, .inr (.inl f_reserved))), (h0, .inr (10, vL 67 F1047)), (h_tape, .inl (cB, 940, .inl f_tape))] := hD
          refine W.widen (k := 0) (n := 0) (Nat.le_of_ble_eq_true rfl) (Nat.le_of_ble_eq_true rfl) ?_
          have k1078 : 2 ≤ y996.toInt ∧ y996.toInt ≤ 2 := ⟨Int.le_trans (Int.le_refl _) (Int.le_of_eq t1067.symm), Int.le_trans (Int.le_of_eq t1067) (Int.le_refl _)⟩
          have k1079 : 300 ≤ y999.toInt ∧ y999.toInt ≤ 2147483647 := ⟨Int.le_trans (Int.le_refl _) t1068, (ir_any _).2⟩
          have k1080 : 300 ≤ y999.toInt ∧ y999.toInt ≤ 900 := ⟨k1079.1, Int.le_trans t1069 (Int.le_refl _)⟩
          refine lv_if_ne (tgt := 101) hx hb dX10_line0_96 (by decide) (fun _ => ?_) (fun g => absurd g (by decide))
          refine lv_aload_n hx hb dX10_line0_101 rfl (lv_at hl 1 rfl) ?_
          have n1081 : F994 7 = .ref h_h := (SAME.at t1002 (by decide) e_h)
          have n1082 : F1047 7 = .ref h_h := (SAME.at t1055 (by decide) n1081)
          refine get_f (D := D) (ci := 10) (v := .ref h_h) (C := RX10) (T := TX10) (N := 67) hx hb hw inAX10 hown hK hP 3 rfl rfl 7 (by decide) (hw _ q_1268) (fun _ h9 => h9) n1082 dX10_line0_102 ?_
          refine lv_iload_n hx hb dX10_line0_105 rfl (lv_at hl 0 rfl) ?_
          refine lv_aload_n hx hb dX10_line0_106 rfl (lv_at hl 1 rfl) ?_
          refine get_f (D := D) (ci := 10) (v := .int y1054) (C := RX10) (T := TX10) (N := 67) hx hb hw inAX10 hown hK hP 3 rfl rfl 19 (by decide) (hw _ q_1280) (fun _ h9 => h9) t1066 dX10_line0_107 ?_
          obtain ⟨g1083, eg1083⟩ : ∃ z : Nat → Int32, upd f_h 2 y1054 = z := ⟨_, rfl⟩
          have r1084 : SG 0 0 0 40 g1083 := by rw [← eg1083]; exact s_h_0.upN (Or.inr (Or.inl (by decide)))
          have r1085 : SG 44 55 0 9 g1083 := by rw [← eg1083]; exact s_h_44.upN (Or.inl (by decide))
          have r1086 : SG 5 5 0 12 g1083 := by rw [← eg1083]; exact s_h_5.upN (Or.inl (by decide))
          have r1087 : SG 6 6 0 12 g1083 := by rw [← eg1083]; exact s_h_6.upN (Or.inl (by decide))
          have r1088 : SG 7 7 0 6 g1083 := by rw [← eg1083]; exact s_h_7.upN (Or.inl (by decide))
          refine iast_n hx hb hK hP hD hS 0 0 rfl rfl 2 rfl (Nat.le_of_ble_eq_true rfl) (Nat.le_of_ble_eq_true rfl) eg1083 dX10_line0_110 (fun H locs hP hD hS => ?_)
          have hP : va_P D vwCl [(h_h, .inl (cI, 104, .inl g1083)), (h_names, .inl (cJ, 36, .inr (.inl f_names))), (h_reserved, .inl (cJ, 23, .inr (.inl f_reserved))), (h0, .inr (10, vL 67 F1047)), (h_tape, .inl (cB, 940, .inl f_tape))] H := hP
          have hD : va_D A [(h_h, .inl (cI, 104, .inl g1083)), (h_names, .inl (cJ, 36, .inr (.inl f_names))), (h_reserved, .inl (cJ, 23, .inr (.inl f_reserved))), (h0, .inr (10, vL 67 F1047)), (h_tape, .inl (cB, 940, .inl f_tape))] := hD
          refine lv_iconst (v := 1) hx hb dX10_line0_111 (by decide) ?_
          exact ret_i (v := 1) hx hb hr hlocks hS (hP.sub (ws' := [(h0, .inr (10, vL 67 F1047)), (h_tape, .inl (cB, 940, .inl f_tape)), (h_h, .inl (cI, 104, .inl g1083)), (h_names, .inl (cJ, 36, .inr (.inl f_names))), (h_reserved, .inl (cJ, 23, .inr (.inl f_reserved)))]) [3, 4, 0, 1, 2] rfl) (hD.sub (ws' := [(h0, .inr (10, vL 67 F1047)), (h_tape, .inl (cB, 940, .inl f_tape)), (h_h, .inl (cI, 104, .inl g1083)), (h_names, .inl (cJ, 36, .inr (.inl f_names))), (h_reserved, .inl (cJ, 23, .inr (.inl f_reserved)))]) [3, 4, 0, 1, 2] (by decide) rfl) dX10_line0_112 rfl (Nat.le_of_ble_eq_true rfl) (Nat.le_of_ble_eq_true rfl) (Or.inr ⟨F1047, y1048, y1049, y1050, y1051, y1052, y1053, y1054, y1001, g1083, f_names, (SAME.tr (SAME.tr SAME.rf t1002 (by decide)) t1055 (by decide)), t1056, t1057, t1058, t1059, t1060, t1061, t1062, t1063, t1064, t1065, t1066, (SAME.at t1055 (by decide) t1013), r1084, r1086, r1087, r1088, r1085, (by have zl1 : (1 : Int32).toInt = 1 := (by decide); omega), (by have zl1 : (1 : Int32).toInt = 1 := (by decide); omega), ((cLine_2 (tkM_1st (ONCF.t (k := 2) t3 (by omega) (by decide)).1) (lnwM (ONCF.t (k := 2) t3 (by omega) (by decide)).1 (ONCF.t (k := 2) t3 (by omega) (by decide)).2)).trans (fin_r (cSet_o t1017 (atM t1016 (ONCF.t (k := 2) t3 (by omega) (by decide)).1) t1073 t1018 (by rw [if_neg (by decide)]; exact upd_n eg1083 (by decide))) (csM_s eg1083 (by decide)))), (ONCF.t (k := 2) t3 (by omega) (by decide)).1, (AV.h z_1 (upd_m eg1083 (by decide))), (AV.h z_2 (upd_m eg1083 (by decide))), t1075, (by omega), rfl, rfl⟩)
      · obtain ⟨F1021, y1022, y1023, t1024, t1025, t1026, t1027, t1028, t1029, t1030, rfl, rfl⟩ := hp
        have hP : va_P D vwCl [(h_h, .inl (cI, 104, .inl f_h)), (h_names, .inl (cJ, 36, .inr (.inl f_names))), (h_reserved, .inl (cJ, 23, .inr (.inl f_reserved))), (h0, .inr (10, vL 67 F1021)), (h_tape, .inl (cB, 940, .inl f_tape))] H := hP
        have hD : va_D A [(h_h, .inl (cI, 104, .inl f_h)), (h_names, .inl (cJ, 36, .inr (.inl f_names))), (h_reserved, .inl (cJ, 23, .inr (.inl f_reserved))), (h0, .inr (10, vL 67 F1021)), (h_tape, .inl (cB, 940, .inl f_tape))] := hD
        refine W.widen (k := 0) (n := 0) (Nat.le_of_ble_eq_true rfl) (Nat.le_of_ble_eq_true rfl) ?_
        refine lv_if_ne (tgt := 19) hx hb dX10_line0_14 (by decide) (fun g => absurd (by decide) g) (fun _ => ?_)
        refine lv_iconst (v := 0) hx hb dX10_line0_17 (by decide) ?_
        exact ret_i (v := 0) hx hb hr hlocks hS (hP.sub (ws' := [(h0, .inr (10, vL 67 F1021)), (h_tape, .inl (cB, 940, .inl f_tape)), (h_h, .inl (cI, 104, .inl f_h)), (h_names, .inl (cJ, 36, .inr (.inl f_names))), (h_reserved, .inl (cJ, 23, .inr (.inl f_reserved)))]) [3, 4, 0, 1, 2] rfl) (hD.sub (ws' := [(h0, .inr (10, vL 67 F1021)), (h_tape, .inl (cB, 940, .inl f_tape)), (h_h, .inl (cI, 104, .inl f_h)), (h_names, .inl (cJ, 36, .inr (.inl f_names))), (h_reserved, .inl (cJ, 23, .inr (.inl f_reserved)))]) [3, 4, 0, 1, 2] (by decide) rfl) dX10_line0_18 rfl (Nat.le_of_ble_eq_true rfl) (Nat.le_of_ble_eq_true rfl) (Or.inl ⟨F1021, x_p, x_token, x_at, x_span, x_number, y1022, y1023, x_word, x_got, x_onces, f_h, f_names, (SAME.tr SAME.rf t1024 (by decide)), (SAME.at t1024 (by decide) e_p), i_x_p, (SAME.at t1024 (by decide) e_token), i_x_token, (SAME.at t1024 (by decide) e_at), (SAME.at t1024 (by decide) e_span), (SAME.at t1024 (by decide) e_number), t1025, (ir_wk t1026 (by decide) (by decide)), t1027, (SAME.at t1024 (by decide) e_word), (SAME.at t1024 (by decide) e_got), (SAME.at t1024 (by decide) e_onces), s_h_0, s_h_5, s_h_6, s_h_7, s_h_44, ((cLine_2 (tkM_1st (ONCF.t (k := 2) t3 (by omega) (by decide)).1) (lnwM (ONCF.t (k := 2) t3 (by omega) (by decide)).1 (ONCF.t (k := 2) t3 (by omega) (by decide)).2)).trans (inl_eq (cSet_t t1028) t1029.1 t1029.2)), (by omega), rfl, rfl⟩)
    have dk991 : r1.toInt ≠ 2 := ne_i rfl rfl k991
    have k1089 : 3 ≤ r1.toInt ∧ r1.toInt ≤ 4 := ⟨ne_lo dk991 k990.1 ⟨Int.le_refl _, Int.le_refl _⟩ (by decide), k990.2⟩
    by_cases k1090 : r1 = 3
    · have dk1090 : r1.toInt = 3 := eq_i rfl rfl k1090
      have k1091 : 3 ≤ r1.toInt ∧ r1.toInt ≤ 3 := ⟨k1089.1, Int.le_trans (Int.le_of_eq dk1090) (Int.le_refl _)⟩
      have hl : lv_has ls 3 [(1, .int 3), (0, .ref h0)] := by have q := hl; rw [k1090] at q; exact q
      refine lv_aload_n hx hb dX10_line0_9 rfl (lv_at hl 1 rfl) ?_
      refine lv_iload_n hx hb dX10_line0_10 rfl (lv_at hl 0 rfl) ?_
      refine call_Vi (wr := [(h_h, .inl (cI, 104, .inl f_h)), (h_names, .inl (cJ, 36, .inr (.inl f_names))), (h_reserved, .inl (cJ, 23, .inr (.inl f_reserved)))]) (As := [.int 3]) (rest := []) hx hb hml hown hw (m_X10_isOnce l D cI cJ cB cP cM cZ h0 h_tape Fh x_size x_p x_limit x_token x_at x_number x_fault x_faultAt x_word x_onces f_tape 3 _ e_tape e_size i_x_size e_p i_x_p e_limit i_x_limit e_token i_x_token e_at e_number e_fault e_faultAt e_word e_onces (by omega)) wV_X10_239_X10_isOnce dX10_line0_11 hK hP hD hS hA [4, 0] [1, 2, 3] rfl rfl (by decide) (by decide) (by decide) 0 10 rfl rfl GG.fb hG.at hl.1 rfl (Nat.le_of_ble_eq_true rfl) ⟨(Nat.le_of_ble_eq_true rfl), (Nat.le_of_ble_eq_true rfl)⟩ ⟨(Nat.le_of_ble_eq_true rfl), (Nat.le_of_ble_eq_true rfl)⟩ (fun r1092 u H locs hp hP hD hS => ?_)
      have zl3 : (3 : Int32).toInt = 3 := by decide
      rcases hp with hp | hp
      · refine hp.elim (fun F1093 h9z0 => h9z0.elim (fun y1094 h9z1 => h9z1.elim (fun y1095 h9z2 => h9z2.elim (fun y1096 h9z3 => h9z3.elim (fun y1097 h9z4 => h9z4.elim (fun y1098 h9z5 => h9z5.elim (fun y1099 h9z6 => h9z6.elim (fun y1100 h9z7 => h9z7.elim (fun t1101 h9z8 => h9z8.elim (fun t1102 h9z9 => h9z9.elim (fun t1103 h9z10 => h9z10.elim (fun t1104 h9z11 => h9z11.elim (fun t1105 h9z12 => h9z12.elim (fun t1106 h9z13 => h9z13.elim (fun t1107 h9z14 => h9z14.elim (fun t1108 h9z15 => h9z15.elim (fun t1109 h9z16 => h9z16.elim (fun t1110 h9z17 => h9z17.elim (fun t1111 h9z18 => h9z18.elim (fun t1112 h9z19 => h9z19.elim (fun t1113 h9z20 => h9z20.elim (fun t1114 h9z21 => h9z21.elim (fun t1115 h9z22 => h9z22.elim (fun t1116 h9z23 => h9z23.elim (fun t1117 h9z24 => h9z24.elim (fun t1118 h9z25 => h9z25.elim (fun t1119 h9z26 => h9z26.elim (fun heq927 h9z27 => ?_))))))))))))))))))))))))))))
        clear h9z0 h9z1 h9z2 h9z3 h9z4 h9z5 h9z6 h9z7 h9z8 h9z9 h9z10 h9z11 h9z12 h9z13 h9z14 h9z15 h9z16 h9z17 h9z18 h9z19 h9z20 h9z21 h9z22 h9z23 h9z24 h9z25 h9z26
        subst heq927
        subst h9z27
        have hP : va_P D vwCl [(h_h, .inl (cI, 104, .inl f_h)), (h_names, .inl (cJ, 36, .inr (.inl f_names))), (h_reserved, .inl (cJ, 23, .inr (.inl f_reserved))), (h0, .inr (10, vL 67 F1093)), (h_tape, .inl (cB, 940, .inl f_tape))] H := hP
        have hD : va_D A [(h_h, .inl (cI, 104, .inl f_h)), (h_names, .inl (cJ, 36, .inr (.inl f_names))), (h_reserved, .inl (cJ, 23, .inr (.inl f_reserved))), (h0, .inr (10, vL 67 F1093)), (h_tape, .inl (cB, 940, .inl f_tape))] := hD
        refine W.widen (k := 0) (n := 0) (Nat.le_of_ble_eq_true rfl) (Nat.le_of_ble_eq_true rfl) ?_
        refine lv_if_ne (tgt := 19) hx hb dX10_line0_14 (by decide) (fun _ => ?_) (fun g => absurd g (by decide))
        refine lv_aload_n hx hb dX10_line0_19 rfl (lv_at hl 1 rfl) ?_
        refine lv_iload_n hx hb dX10_line0_20 rfl (lv_at hl 0 rfl) ?_
        refine lv_if_ne (tgt := 28) hx hb dX10_line0_21 (by decide) (fun _ => ?_) (fun g => absurd g (by decide))
        refine lv_iload_n hx hb dX10_line0_28 rfl (lv_at hl 0 rfl) ?_
        refine lv_iconst (v := 1) hx hb dX10_line0_29 (by decide) ?_
        refine lv_icmp_ne (tgt := 38) hx hb dX10_line0_30 (by decide) (fun _ => ?_) (fun g => absurd g (by decide))
        refine lv_iload_n hx hb dX10_line0_38 rfl (lv_at hl 0 rfl) ?_
        refine lv_iconst (v := 2) hx hb dX10_line0_39 (by decide) ?_
        refine lv_icmp_ne (tgt := 49) hx hb dX10_line0_40 (by decide) (fun _ => ?_) (fun g => absurd g (by decide))
        refine lv_iconst (v := 0) hx hb dX10_line0_49 (by decide) ?_
        refine lv_iload_n hx hb dX10_line0_50 rfl (lv_at hl 0 rfl) ?_
        refine lv_if_ne (tgt := 59) hx hb dX10_line0_51 (by decide) (fun _ => ?_) (fun g => absurd g (by decide))
        refine lv_iload_n hx hb dX10_line0_59 rfl (lv_at hl 0 rfl) ?_
        refine lv_iconst (v := 1) hx hb dX10_line0_60 (by decide) ?_
        refine lv_icmp_ne (tgt := 70) hx hb dX10_line0_61 (by decide) (fun _ => ?_) (fun g => absurd g (by decide))
        refine lv_iload_n hx hb dX10_line0_70 rfl (lv_at hl 0 rfl) ?_
        refine lv_iconst (v := 2) hx hb dX10_line0_71 (by decide) ?_
        refine lv_icmp_ne (tgt := 81) hx hb dX10_line0_72 (by decide) (fun _ => ?_) (fun g => absurd g (by decide))
        refine lv_iload_n hx hb dX10_line0_81 rfl (lv_at hl 0 rfl) ?_
        refine lv_iconst (v := 3) hx hb dX10_line0_82 (by decide) ?_
        refine lv_icmp_ne (tgt := 91) hx hb dX10_line0_83 (by decide) (fun g => absurd (by decide) g) (fun _ => ?_)
        refine lv_bipush (v := 9) hx hb dX10_line0_86 (by decide) ?_
        refine lv_goto (tgt := 93) hx hb dX10_line0_88 (by decide) ?_
        have n1131 : F1093 1 = .ref h_tape := (SAME.at t1101 (by decide) e_tape)
        have n1132 : F1093 3 = .int x_size := (SAME.at t1101 (by decide) e_size)
        have n1133 : F1093 5 = .int x_limit := (SAME.at t1101 (by decide) e_limit)
        have n1134 : F1093 15 = .int x_fault := (SAME.at t1101 (by decide) e_fault)
        have n1135 : F1093 16 = .int x_faultAt := (SAME.at t1101 (by decide) e_faultAt)
        have n1136 : F1093 19 = .int x_got := (SAME.at t1101 (by decide) e_got)
        refine call_Vi (wr := [(h_h, .inl (cI, 104, .inl f_h)), (h_names, .inl (cJ, 36, .inr (.inl f_names))), (h_reserved, .inl (cJ, 23, .inr (.inl f_reserved)))]) (As := [.int 0, .int 9]) (rest := []) hx hb hml hown hw (m_X10_takes l D cI cJ cB cP cM cZ h0 h_tape F1093 x_size y1094 x_limit y1095 y1096 y1098 x_fault x_faultAt y1099 x_got f_tape 0 9 _ n1131 n1132 i_x_size t1102 t1103 n1133 i_x_limit t1104 t1105 t1106 t1110 n1134 n1135 t1111 n1136 (by omega)) wV_X10_242_X10_takes dX10_line0_93 hK hP hD hS hA [3, 4] [0, 1, 2] rfl rfl (by decide) (by decide) (by decide) 0 10 rfl rfl GG.fb hG.at hl.1 rfl (Nat.le_of_ble_eq_true rfl) ⟨(Nat.le_of_ble_eq_true rfl), (Nat.le_of_ble_eq_true rfl)⟩ ⟨(Nat.le_of_ble_eq_true rfl), (Nat.le_of_ble_eq_true rfl)⟩ (fun r1137 u H locs hp hP hD hS => ?_)
        have zl0 : (0 : Int32).toInt = 0 := by decide
        have zl9 : (9 : Int32).toInt = 9 := by decide
        rcases hp with hp | hp
        · obtain ⟨F1138, y1139, y1140, t1141, t1142, t1143, t1144, t1145, rfl, rfl⟩ := hp
          have hP : va_P D vwCl [(h_h, .inl (cI, 104, .inl f_h)), (h_names, .inl (cJ, 36, .inr (.inl f_names))), (h_reserved, .inl (cJ, 23, .inr (.inl f_reserved))), (h0, .inr (10, vL 67 F1138)), (h_tape, .inl (cB, 940, .inl f_tape))] H := hP
          have hD : va_D A [(h_h, .inl (cI, 104, .inl f_h)), (h_names, .inl (cJ, 36, .inr (.inl f_names))), (h_reserved, .inl (cJ, 23, .inr (.inl f_reserved))), (h0, .inr (10, vL 67 F1138)), (h_tape, .inl (cB, 940, .inl f_tape))] := hD
          refine W.widen (k := 0) (n := 0) (Nat.le_of_ble_eq_true rfl) (Nat.le_of_ble_eq_true rfl) ?_
          refine lv_if_ne (tgt := 101) hx hb dX10_line0_96 (by decide) (fun g => absurd (by decide) g) (fun _ => ?_)
          refine lv_iconst (v := 0) hx hb dX10_line0_99 (by decide) ?_
          exact ret_i (v := 0) hx hb hr hlocks hS (hP.sub (ws' := [(h0, .inr (10, vL 67 F1138)), (h_tape, .inl (cB, 940, .inl f_tape)), (h_h, .inl (cI, 104, .inl f_h)), (h_names, .inl (cJ, 36, .inr (.inl f_names))), (h_reserved, .inl (cJ, 23, .inr (.inl f_reserved)))]) [3, 4, 0, 1, 2] rfl) (hD.sub (ws' := [(h0, .inr (10, vL 67 F1138)), (h_tape, .inl (cB, 940, .inl f_tape)), (h_h, .inl (cI, 104, .inl f_h)), (h_names, .inl (cJ, 36, .inr (.inl f_names))), (h_reserved, .inl (cJ, 23, .inr (.inl f_reserved)))]) [3, 4, 0, 1, 2] (by decide) rfl) dX10_line0_100 rfl (Nat.le_of_ble_eq_true rfl) (Nat.le_of_ble_eq_true rfl) (Or.inl ⟨F1138, y1094, y1095, y1096, y1097, y1098, y1139, y1140, y1099, x_got, y1100, f_h, f_names, (SAME.tr (SAME.tr SAME.rf t1101 (by decide)) t1141 (by decide)), (SAME.at t1141 (by decide) t1102), t1103, (SAME.at t1141 (by decide) t1104), t1105, (SAME.at t1141 (by decide) t1106), (SAME.at t1141 (by decide) t1108), (SAME.at t1141 (by decide) t1110), t1142, (ir_wk t1143 (by decide) (by decide)), t1144, (SAME.at t1141 (by decide) t1111), (SAME.at t1141 (by decide) n1136), (SAME.at t1141 (by decide) t1112), s_h_0, s_h_5, s_h_6, s_h_7, s_h_44, ((cLine_3 (tkM_1st (ONCF.t (k := 3) t3 (by omega) (by decide)).1) (lnwM (ONCF.t (k := 3) t3 (by omega) (by decide)).1 (ONCF.t (k := 3) t3 (by omega) (by decide)).2)).trans (cSet_f t1116 (atM t1115 (ONCF.t (k := 3) t3 (by omega) (by decide)).1) t1145)), (by omega), rfl, rfl⟩)
        · refine hp.elim (fun F1146 h9z0 => h9z0.elim (fun y1147 h9z1 => h9z1.elim (fun y1148 h9z2 => h9z2.elim (fun y1149 h9z3 => h9z3.elim (fun y1150 h9z4 => h9z4.elim (fun y1151 h9z5 => h9z5.elim (fun y1152 h9z6 => h9z6.elim (fun y1153 h9z7 => h9z7.elim (fun t1154 h9z8 => h9z8.elim (fun t1155 h9z9 => h9z9.elim (fun t1156 h9z10 => h9z10.elim (fun t1157 h9z11 => h9z11.elim (fun t1158 h9z12 => h9z12.elim (fun t1159 h9z13 => h9z13.elim (fun t1160 h9z14 => h9z14.elim (fun t1161 h9z15 => h9z15.elim (fun t1162 h9z16 => h9z16.elim (fun t1163 h9z17 => h9z17.elim (fun t1164 h9z18 => h9z18.elim (fun t1165 h9z19 => h9z19.elim (fun t1166 h9z20 => h9z20.elim (fun t1167 h9z21 => h9z21.elim (fun t1168 h9z22 => h9z22.elim (fun t1169 h9z23 => h9z23.elim (fun t1170 h9z24 => h9z24.elim (fun t1171 h9z25 => h9z25.elim (fun t1172 h9z26 => h9z26.elim (fun t1173 h9z27 => h9z27.elim (fun t1174 h9z28 => h9z28.elim (fun t1175 h9z29 => h9z29.elim (fun heq930 h9z30 => ?_)))))))))))))))))))))))))))))))
          clear h9z0 h9z1 h9z2 h9z3 h9z4 h9z5 h9z6 h9z7 h9z8 h9z9 h9z10 h9z11 h9z12 h9z13 h9z14 h9z15 h9z16 h9z17 h9z18 h9z19 h9z20 h9z21 h9z22 h9z23 h9z24 h9z25 h9z26 h9z27 h9z28 h9z29
          subst heq930
          subst h9z30
          clear t1114 t1119
          have hP : va_P D vwCl [(h_h, .inl (cI, 104, .inl f_h)), (h_names, .inl (cJ, 36, .inr (.inl f_names))), (h_reserved, .inl (cJ, 23, .inr (.inl f_reserved))), (h0, .inr (10, vL 67 F1146)), (h_tape, .inl (cB, 940, .inl f_tape))] H := hP
          have hD : va_D A [(h_h, .inl (cI, 104, .inl f_h)), (h_names, .inl (cJ, 36, .inr (.inl f_names))), (h_reserved, .inl (cJ, 23, .inr (.inl f_reserved))), (h0, .inr (10, vL 67 F1146)), (h_tape, .inl (cB, 940, .inl f_tape))] := hD
          refine W.widen (k := 0) (n := 0) (Nat.le_of_ble_eq_true rfl) (Nat.le_of_ble_eq_true rfl) ?_
          have k1177 : 2 ≤ y1095.toInt ∧ y1095.toInt ≤ 2 := ⟨Int.le_trans (Int.le_refl _) (Int.le_of_eq t1166.symm), Int.le_trans (Int.le_of_eq t1166) (Int.le_refl _)⟩
          have k1178 : 0 ≤ y1098.toInt ∧ y1098.toInt ≤ 2147483647 := ⟨Int.le_trans (Int.le_refl _) t1167, (ir_any _).2⟩
          have k1179 : 0 ≤ y1098.toInt ∧ y1098.toInt ≤ 9 := ⟨k1178.1, Int.le_trans t1168 (Int.le_refl _)⟩
          refine lv_if_ne (tgt := 101) hx hb dX10_line0_96 (by decide) (fun _ => ?_) (fun g => absurd g (by decide))
          refine lv_aload_n hx hb dX10_line0_101 rfl (lv_at hl 1 rfl) ?_
          have n1180 : F1093 7 = .ref h_h := (SAME.at t1101 (by decide) e_h)
          have n1181 : F1146 7 = .ref h_h := (SAME.at t1154 (by decide) n1180)
          refine get_f (D := D) (ci := 10) (v := .ref h_h) (C := RX10) (T := TX10) (N := 67) hx hb hw inAX10 hown hK hP 3 rfl rfl 7 (by decide) (hw _ q_1268) (fun _ h9 => h9) n1181 dX10_line0_102 ?_
          refine lv_iload_n hx hb dX10_line0_105 rfl (lv_at hl 0 rfl) ?_
          refine lv_aload_n hx hb dX10_line0_106 rfl (lv_at hl 1 rfl) ?_
          refine get_f (D := D) (ci := 10) (v := .int y1153) (C := RX10) (T := TX10) (N := 67) hx hb hw inAX10 hown hK hP 3 rfl rfl 19 (by decide) (hw _ q_1280) (fun _ h9 => h9) t1165 dX10_line0_107 ?_
          obtain ⟨g1182, eg1182⟩ : ∃ z : Nat → Int32, upd f_h 3 y1153 = z := ⟨_, rfl⟩
          have r1183 : SG 0 0 0 40 g1182 := by rw [← eg1182]; exact s_h_0.upN (Or.inr (Or.inl (by decide)))
          have r1184 : SG 44 55 0 9 g1182 := by rw [← eg1182]; exact s_h_44.upN (Or.inl (by decide))
          have r1185 : SG 5 5 0 12 g1182 := by rw [← eg1182]; exact s_h_5.upN (Or.inl (by decide))
          have r1186 : SG 6 6 0 12 g1182 := by rw [← eg1182]; exact s_h_6.upN (Or.inl (by decide))
          have r1187 : SG 7 7 0 6 g1182 := by rw [← eg1182]; exact s_h_7.upN (Or.inl (by decide))
          refine iast_n hx hb hK hP hD hS 0 0 rfl rfl 3 rfl (Nat.le_of_ble_eq_true rfl) (Nat.le_of_ble_eq_true rfl) eg1182 dX10_line0_110 (fun H locs hP hD hS => ?_)
          have hP : va_P D vwCl [(h_h, .inl (cI, 104, .inl g1182)), (h_names, .inl (cJ, 36, .inr (.inl f_names))), (h_reserved, .inl (cJ, 23, .inr (.inl f_reserved))), (h0, .inr (10, vL 67 F1146)), (h_tape, .inl (cB, 940, .inl f_tape))] H := hP
          have hD : va_D A [(h_h, .inl (cI, 104, .inl g1182)), (h_names, .inl (cJ, 36, .inr (.inl f_names))), (h_reserved, .inl (cJ, 23, .inr (.inl f_reserved))), (h0, .inr (10, vL 67 F1146)), (h_tape, .inl (cB, 940, .inl f_tape))] := hD
          refine lv_iconst (v := 1) hx hb dX10_line0_111 (by decide) ?_
          exact ret_i (v := 1) hx hb hr hlocks hS (hP.sub (ws' := [(h0, .inr (10, vL 67 F1146)), (h_tape, .inl (cB, 940, .inl f_tape)), (h_h, .inl (cI, 104, .inl g1182)), (h_names, .inl (cJ, 36, .inr (.inl f_names))), (h_reserved, .inl (cJ, 23, .inr (.inl f_reserved)))]) [3, 4, 0, 1, 2] rfl) (hD.sub (ws' := [(h0, .inr (10, vL 67 F1146)), (h_tape, .inl (cB, 940, .inl f_tape)), (h_h, .inl (cI, 104, .inl g1182)), (h_names, .inl (cJ, 36, .inr (.inl f_names))), (h_reserved, .inl (cJ, 23, .inr (.inl f_reserved)))]) [3, 4, 0, 1, 2] (by decide) rfl) dX10_line0_112 rfl (Nat.le_of_ble_eq_true rfl) (Nat.le_of_ble_eq_true rfl) (Or.inr ⟨F1146, y1147, y1148, y1149, y1150, y1151, y1152, y1153, y1100, g1182, f_names, (SAME.tr (SAME.tr SAME.rf t1101 (by decide)) t1154 (by decide)), t1155, t1156, t1157, t1158, t1159, t1160, t1161, t1162, t1163, t1164, t1165, (SAME.at t1154 (by decide) t1112), r1183, r1185, r1186, r1187, r1184, (by have zl1 : (1 : Int32).toInt = 1 := (by decide); omega), (by have zl1 : (1 : Int32).toInt = 1 := (by decide); omega), ((cLine_3 (tkM_1st (ONCF.t (k := 3) t3 (by omega) (by decide)).1) (lnwM (ONCF.t (k := 3) t3 (by omega) (by decide)).1 (ONCF.t (k := 3) t3 (by omega) (by decide)).2)).trans (fin_r (cSet_o t1116 (atM t1115 (ONCF.t (k := 3) t3 (by omega) (by decide)).1) t1172 t1117 (by rw [if_neg (by decide)]; exact upd_n eg1182 (by decide))) (csM_s eg1182 (by decide)))), (ONCF.t (k := 3) t3 (by omega) (by decide)).1, (AV.h z_1 (upd_m eg1182 (by decide))), (AV.h z_2 (upd_m eg1182 (by decide))), t1174, (by omega), rfl, rfl⟩)
      · obtain ⟨F1120, y1121, y1122, t1123, t1124, t1125, t1126, t1127, t1128, t1129, rfl, rfl⟩ := hp
        have hP : va_P D vwCl [(h_h, .inl (cI, 104, .inl f_h)), (h_names, .inl (cJ, 36, .inr (.inl f_names))), (h_reserved, .inl (cJ, 23, .inr (.inl f_reserved))), (h0, .inr (10, vL 67 F1120)), (h_tape, .inl (cB, 940, .inl f_tape))] H := hP
        have hD : va_D A [(h_h, .inl (cI, 104, .inl f_h)), (h_names, .inl (cJ, 36, .inr (.inl f_names))), (h_reserved, .inl (cJ, 23, .inr (.inl f_reserved))), (h0, .inr (10, vL 67 F1120)), (h_tape, .inl (cB, 940, .inl f_tape))] := hD
        refine W.widen (k := 0) (n := 0) (Nat.le_of_ble_eq_true rfl) (Nat.le_of_ble_eq_true rfl) ?_
        refine lv_if_ne (tgt := 19) hx hb dX10_line0_14 (by decide) (fun g => absurd (by decide) g) (fun _ => ?_)
        refine lv_iconst (v := 0) hx hb dX10_line0_17 (by decide) ?_
        exact ret_i (v := 0) hx hb hr hlocks hS (hP.sub (ws' := [(h0, .inr (10, vL 67 F1120)), (h_tape, .inl (cB, 940, .inl f_tape)), (h_h, .inl (cI, 104, .inl f_h)), (h_names, .inl (cJ, 36, .inr (.inl f_names))), (h_reserved, .inl (cJ, 23, .inr (.inl f_reserved)))]) [3, 4, 0, 1, 2] rfl) (hD.sub (ws' := [(h0, .inr (10, vL 67 F1120)), (h_tape, .inl (cB, 940, .inl f_tape)), (h_h, .inl (cI, 104, .inl f_h)), (h_names, .inl (cJ, 36, .inr (.inl f_names))), (h_reserved, .inl (cJ, 23, .inr (.inl f_reserved)))]) [3, 4, 0, 1, 2] (by decide) rfl) dX10_line0_18 rfl (Nat.le_of_ble_eq_true rfl) (Nat.le_of_ble_eq_true rfl) (Or.inl ⟨F1120, x_p, x_token, x_at, x_span, x_number, y1121, y1122, x_word, x_got, x_onces, f_h, f_names, (SAME.tr SAME.rf t1123 (by decide)), (SAME.at t1123 (by decide) e_p), i_x_p, (SAME.at t1123 (by decide) e_token), i_x_token, (SAME.at t1123 (by decide) e_at), (SAME.at t1123 (by decide) e_span), (SAME.at t1123 (by decide) e_number), t1124, (ir_wk t1125 (by decide) (by decide)), t1126, (SAME.at t1123 (by decide) e_word), (SAME.at t1123 (by decide) e_got), (SAME.at t1123 (by decide) e_onces), s_h_0, s_h_5, s_h_6, s_h_7, s_h_44, ((cLine_3 (tkM_1st (ONCF.t (k := 3) t3 (by omega) (by decide)).1) (lnwM (ONCF.t (k := 3) t3 (by omega) (by decide)).1 (ONCF.t (k := 3) t3 (by omega) (by decide)).2)).trans (inl_eq (cSet_t t1127) t1128.1 t1128.2)), (by omega), rfl, rfl⟩)
    have dk1090 : r1.toInt ≠ 3 := ne_i rfl rfl k1090
    have k1188 : 4 ≤ r1.toInt ∧ r1.toInt ≤ 4 := ⟨ne_lo dk1090 k1089.1 ⟨Int.le_refl _, Int.le_refl _⟩ (by decide), k1089.2⟩
    have k1189 : r1 = 4 := Int32.toInt_inj.mp (show r1.toInt = 4 by omega)
    have dk1189 : r1.toInt = 4 := eq_i rfl rfl k1189
    have hl : lv_has ls 3 [(1, .int 4), (0, .ref h0)] := by have q := hl; rw [k1189] at q; exact q
    refine lv_aload_n hx hb dX10_line0_9 rfl (lv_at hl 1 rfl) ?_
    refine lv_iload_n hx hb dX10_line0_10 rfl (lv_at hl 0 rfl) ?_
    refine call_Vi (wr := [(h_h, .inl (cI, 104, .inl f_h)), (h_names, .inl (cJ, 36, .inr (.inl f_names))), (h_reserved, .inl (cJ, 23, .inr (.inl f_reserved)))]) (As := [.int 4]) (rest := []) hx hb hml hown hw (m_X10_isOnce l D cI cJ cB cP cM cZ h0 h_tape Fh x_size x_p x_limit x_token x_at x_number x_fault x_faultAt x_word x_onces f_tape 4 _ e_tape e_size i_x_size e_p i_x_p e_limit i_x_limit e_token i_x_token e_at e_number e_fault e_faultAt e_word e_onces (by omega)) wV_X10_239_X10_isOnce dX10_line0_11 hK hP hD hS hA [4, 0] [1, 2, 3] rfl rfl (by decide) (by decide) (by decide) 0 10 rfl rfl GG.fb hG.at hl.1 rfl (Nat.le_of_ble_eq_true rfl) ⟨(Nat.le_of_ble_eq_true rfl), (Nat.le_of_ble_eq_true rfl)⟩ ⟨(Nat.le_of_ble_eq_true rfl), (Nat.le_of_ble_eq_true rfl)⟩ (fun r1190 u H locs hp hP hD hS => ?_)
    have zl4 : (4 : Int32).toInt = 4 := by decide
    rcases hp with hp | hp
    · refine hp.elim (fun F1191 h9z0 => h9z0.elim (fun y1192 h9z1 => h9z1.elim (fun y1193 h9z2 => h9z2.elim (fun y1194 h9z3 => h9z3.elim (fun y1195 h9z4 => h9z4.elim (fun y1196 h9z5 => h9z5.elim (fun y1197 h9z6 => h9z6.elim (fun y1198 h9z7 => h9z7.elim (fun t1199 h9z8 => h9z8.elim (fun t1200 h9z9 => h9z9.elim (fun t1201 h9z10 => h9z10.elim (fun t1202 h9z11 => h9z11.elim (fun t1203 h9z12 => h9z12.elim (fun t1204 h9z13 => h9z13.elim (fun t1205 h9z14 => h9z14.elim (fun t1206 h9z15 => h9z15.elim (fun t1207 h9z16 => h9z16.elim (fun t1208 h9z17 => h9z17.elim (fun t1209 h9z18 => h9z18.elim (fun t1210 h9z19 => h9z19.elim (fun t1211 h9z20 => h9z20.elim (fun t1212 h9z21 => h9z21.elim (fun t1213 h9z22 => h9z22.elim (fun t1214 h9z23 => h9z23.elim (fun t1215 h9z24 => h9z24.elim (fun t1216 h9z25 => h9z25.elim (fun t1217 h9z26 => h9z26.elim (fun heq927 h9z27 => ?_))))))))))))))))))))))))))))
      clear h9z0 h9z1 h9z2 h9z3 h9z4 h9z5 h9z6 h9z7 h9z8 h9z9 h9z10 h9z11 h9z12 h9z13 h9z14 h9z15 h9z16 h9z17 h9z18 h9z19 h9z20 h9z21 h9z22 h9z23 h9z24 h9z25 h9z26
      subst heq927
      subst h9z27
      have hP : va_P D vwCl [(h_h, .inl (cI, 104, .inl f_h)), (h_names, .inl (cJ, 36, .inr (.inl f_names))), (h_reserved, .inl (cJ, 23, .inr (.inl f_reserved))), (h0, .inr (10, vL 67 F1191)), (h_tape, .inl (cB, 940, .inl f_tape))] H := hP
      have hD : va_D A [(h_h, .inl (cI, 104, .inl f_h)), (h_names, .inl (cJ, 36, .inr (.inl f_names))), (h_reserved, .inl (cJ, 23, .inr (.inl f_reserved))), (h0, .inr (10, vL 67 F1191)), (h_tape, .inl (cB, 940, .inl f_tape))] := hD
      refine W.widen (k := 0) (n := 0) (Nat.le_of_ble_eq_true rfl) (Nat.le_of_ble_eq_true rfl) ?_
      refine lv_if_ne (tgt := 19) hx hb dX10_line0_14 (by decide) (fun _ => ?_) (fun g => absurd g (by decide))
      refine lv_aload_n hx hb dX10_line0_19 rfl (lv_at hl 1 rfl) ?_
      refine lv_iload_n hx hb dX10_line0_20 rfl (lv_at hl 0 rfl) ?_
      refine lv_if_ne (tgt := 28) hx hb dX10_line0_21 (by decide) (fun _ => ?_) (fun g => absurd g (by decide))
      refine lv_iload_n hx hb dX10_line0_28 rfl (lv_at hl 0 rfl) ?_
      refine lv_iconst (v := 1) hx hb dX10_line0_29 (by decide) ?_
      refine lv_icmp_ne (tgt := 38) hx hb dX10_line0_30 (by decide) (fun _ => ?_) (fun g => absurd g (by decide))
      refine lv_iload_n hx hb dX10_line0_38 rfl (lv_at hl 0 rfl) ?_
      refine lv_iconst (v := 2) hx hb dX10_line0_39 (by decide) ?_
      refine lv_icmp_ne (tgt := 49) hx hb dX10_line0_40 (by decide) (fun _ => ?_) (fun g => absurd g (by decide))
      refine lv_iconst (v := 0) hx hb dX10_line0_49 (by decide) ?_
      refine lv_iload_n hx hb dX10_line0_50 rfl (lv_at hl 0 rfl) ?_
      refine lv_if_ne (tgt := 59) hx hb dX10_line0_51 (by decide) (fun _ => ?_) (fun g => absurd g (by decide))
      refine lv_iload_n hx hb dX10_line0_59 rfl (lv_at hl 0 rfl) ?_
      refine lv_iconst (v := 1) hx hb dX10_line0_60 (by decide) ?_
      refine lv_icmp_ne (tgt := 70) hx hb dX10_line0_61 (by decide) (fun _ => ?_) (fun g => absurd g (by decide))
      refine lv_iload_n hx hb dX10_line0_70 rfl (lv_at hl 0 rfl) ?_
      refine lv_iconst (v := 2) hx hb dX10_line0_71 (by decide) ?_
      refine lv_icmp_ne (tgt := 81) hx hb dX10_line0_72 (by decide) (fun _ => ?_) (fun g => absurd g (by decide))
      refine lv_iload_n hx hb dX10_line0_81 rfl (lv_at hl 0 rfl) ?_
      refine lv_iconst (v := 3) hx hb dX10_line0_82 (by decide) ?_
      refine lv_icmp_ne (tgt := 91) hx hb dX10_line0_83 (by decide) (fun _ => ?_) (fun g => absurd g (by decide))
      refine lv_bipush (v := 20) hx hb dX10_line0_91 (by decide) ?_
      have n1229 : F1191 1 = .ref h_tape := (SAME.at t1199 (by decide) e_tape)
      have n1230 : F1191 3 = .int x_size := (SAME.at t1199 (by decide) e_size)
      have n1231 : F1191 5 = .int x_limit := (SAME.at t1199 (by decide) e_limit)
      have n1232 : F1191 15 = .int x_fault := (SAME.at t1199 (by decide) e_fault)
      have n1233 : F1191 16 = .int x_faultAt := (SAME.at t1199 (by decide) e_faultAt)
      have n1234 : F1191 19 = .int x_got := (SAME.at t1199 (by decide) e_got)
      refine call_Vi (wr := [(h_h, .inl (cI, 104, .inl f_h)), (h_names, .inl (cJ, 36, .inr (.inl f_names))), (h_reserved, .inl (cJ, 23, .inr (.inl f_reserved)))]) (As := [.int 0, .int 20]) (rest := []) hx hb hml hown hw (m_X10_takes l D cI cJ cB cP cM cZ h0 h_tape F1191 x_size y1192 x_limit y1193 y1194 y1196 x_fault x_faultAt y1197 x_got f_tape 0 20 _ n1229 n1230 i_x_size t1200 t1201 n1231 i_x_limit t1202 t1203 t1204 t1208 n1232 n1233 t1209 n1234 (by omega)) wV_X10_242_X10_takes dX10_line0_93 hK hP hD hS hA [3, 4] [0, 1, 2] rfl rfl (by decide) (by decide) (by decide) 0 10 rfl rfl GG.fb hG.at hl.1 rfl (Nat.le_of_ble_eq_true rfl) ⟨(Nat.le_of_ble_eq_true rfl), (Nat.le_of_ble_eq_true rfl)⟩ ⟨(Nat.le_of_ble_eq_true rfl), (Nat.le_of_ble_eq_true rfl)⟩ (fun r1235 u H locs hp hP hD hS => ?_)
      have zl0 : (0 : Int32).toInt = 0 := by decide
      have zl20 : (20 : Int32).toInt = 20 := by decide
      rcases hp with hp | hp
      · obtain ⟨F1236, y1237, y1238, t1239, t1240, t1241, t1242, t1243, rfl, rfl⟩ := hp
        have hP : va_P D vwCl [(h_h, .inl (cI, 104, .inl f_h)), (h_names, .inl (cJ, 36, .inr (.inl f_names))), (h_reserved, .inl (cJ, 23, .inr (.inl f_reserved))), (h0, .inr (10, vL 67 F1236)), (h_tape, .inl (cB, 940, .inl f_tape))] H := hP
        have hD : va_D A [(h_h, .inl (cI, 104, .inl f_h)), (h_names, .inl (cJ, 36, .inr (.inl f_names))), (h_reserved, .inl (cJ, 23, .inr (.inl f_reserved))), (h0, .inr (10, vL 67 F1236)), (h_tape, .inl (cB, 940, .inl f_tape))] := hD
        refine W.widen (k := 0) (n := 0) (Nat.le_of_ble_eq_true rfl) (Nat.le_of_ble_eq_true rfl) ?_
        refine lv_if_ne (tgt := 101) hx hb dX10_line0_96 (by decide) (fun g => absurd (by decide) g) (fun _ => ?_)
        refine lv_iconst (v := 0) hx hb dX10_line0_99 (by decide) ?_
        exact ret_i (v := 0) hx hb hr hlocks hS (hP.sub (ws' := [(h0, .inr (10, vL 67 F1236)), (h_tape, .inl (cB, 940, .inl f_tape)), (h_h, .inl (cI, 104, .inl f_h)), (h_names, .inl (cJ, 36, .inr (.inl f_names))), (h_reserved, .inl (cJ, 23, .inr (.inl f_reserved)))]) [3, 4, 0, 1, 2] rfl) (hD.sub (ws' := [(h0, .inr (10, vL 67 F1236)), (h_tape, .inl (cB, 940, .inl f_tape)), (h_h, .inl (cI, 104, .inl f_h)), (h_names, .inl (cJ, 36, .inr (.inl f_names))), (h_reserved, .inl (cJ, 23, .inr (.inl f_reserved)))]) [3, 4, 0, 1, 2] (by decide) rfl) dX10_line0_100 rfl (Nat.le_of_ble_eq_true rfl) (Nat.le_of_ble_eq_true rfl) (Or.inl ⟨F1236, y1192, y1193, y1194, y1195, y1196, y1237, y1238, y1197, x_got, y1198, f_h, f_names, (SAME.tr (SAME.tr SAME.rf t1199 (by decide)) t1239 (by decide)), (SAME.at t1239 (by decide) t1200), t1201, (SAME.at t1239 (by decide) t1202), t1203, (SAME.at t1239 (by decide) t1204), (SAME.at t1239 (by decide) t1206), (SAME.at t1239 (by decide) t1208), t1240, (ir_wk t1241 (by decide) (by decide)), t1242, (SAME.at t1239 (by decide) t1209), (SAME.at t1239 (by decide) n1234), (SAME.at t1239 (by decide) t1210), s_h_0, s_h_5, s_h_6, s_h_7, s_h_44, ((cLine_4 (tkM_1st (ONCF.t (k := 4) t3 (by omega) (by decide)).1) (lnwM (ONCF.t (k := 4) t3 (by omega) (by decide)).1 (ONCF.t (k := 4) t3 (by omega) (by decide)).2)).trans (cSet_f t1214 (atM t1213 (ONCF.t (k := 4) t3 (by omega) (by decide)).1) t1243)), (by omega), rfl, rfl⟩)
      · refine hp.elim (fun F1244 h9z0 => h9z0.elim (fun y1245 h9z1 => h9z1.elim (fun y1246 h9z2 => h9z2.elim (fun y1247 h9z3 => h9z3.elim (fun y1248 h9z4 => h9z4.elim (fun y1249 h9z5 => h9z5.elim (fun y1250 h9z6 => h9z6.elim (fun y1251 h9z7 => h9z7.elim (fun t1252 h9z8 => h9z8.elim (fun t1253 h9z9 => h9z9.elim (fun t1254 h9z10 => h9z10.elim (fun t1255 h9z11 => h9z11.elim (fun t1256 h9z12 => h9z12.elim (fun t1257 h9z13 => h9z13.elim (fun t1258 h9z14 => h9z14.elim (fun t1259 h9z15 => h9z15.elim (fun t1260 h9z16 => h9z16.elim (fun t1261 h9z17 => h9z17.elim (fun t1262 h9z18 => h9z18.elim (fun t1263 h9z19 => h9z19.elim (fun t1264 h9z20 => h9z20.elim (fun t1265 h9z21 => h9z21.elim (fun t1266 h9z22 => h9z22.elim (fun t1267 h9z23 => h9z23.elim (fun t1268 h9z24 => h9z24.elim (fun t1269 h9z25 => h9z25.elim (fun t1270 h9z26 => h9z26.elim (fun t1271 h9z27 => h9z27.elim (fun t1272 h9z28 => h9z28.elim (fun t1273 h9z29 => h9z29.elim (fun heq930 h9z30 => ?_)))))))))))))))))))))))))))))))
        clear h9z0 h9z1 h9z2 h9z3 h9z4 h9z5 h9z6 h9z7 h9z8 h9z9 h9z10 h9z11 h9z12 h9z13 h9z14 h9z15 h9z16 h9z17 h9z18 h9z19 h9z20 h9z21 h9z22 h9z23 h9z24 h9z25 h9z26 h9z27 h9z28 h9z29
        subst heq930
        subst h9z30
        clear t1212 t1217
        have hP : va_P D vwCl [(h_h, .inl (cI, 104, .inl f_h)), (h_names, .inl (cJ, 36, .inr (.inl f_names))), (h_reserved, .inl (cJ, 23, .inr (.inl f_reserved))), (h0, .inr (10, vL 67 F1244)), (h_tape, .inl (cB, 940, .inl f_tape))] H := hP
        have hD : va_D A [(h_h, .inl (cI, 104, .inl f_h)), (h_names, .inl (cJ, 36, .inr (.inl f_names))), (h_reserved, .inl (cJ, 23, .inr (.inl f_reserved))), (h0, .inr (10, vL 67 F1244)), (h_tape, .inl (cB, 940, .inl f_tape))] := hD
        refine W.widen (k := 0) (n := 0) (Nat.le_of_ble_eq_true rfl) (Nat.le_of_ble_eq_true rfl) ?_
        have k1275 : 2 ≤ y1193.toInt ∧ y1193.toInt ≤ 2 := ⟨Int.le_trans (Int.le_refl _) (Int.le_of_eq t1264.symm), Int.le_trans (Int.le_of_eq t1264) (Int.le_refl _)⟩
        have k1276 : 0 ≤ y1196.toInt ∧ y1196.toInt ≤ 2147483647 := ⟨Int.le_trans (Int.le_refl _) t1265, (ir_any _).2⟩
        have k1277 : 0 ≤ y1196.toInt ∧ y1196.toInt ≤ 20 := ⟨k1276.1, Int.le_trans t1266 (Int.le_refl _)⟩
        refine lv_if_ne (tgt := 101) hx hb dX10_line0_96 (by decide) (fun _ => ?_) (fun g => absurd g (by decide))
        refine lv_aload_n hx hb dX10_line0_101 rfl (lv_at hl 1 rfl) ?_
        have n1278 : F1191 7 = .ref h_h := (SAME.at t1199 (by decide) e_h)
        have n1279 : F1244 7 = .ref h_h := (SAME.at t1252 (by decide) n1278)
        refine get_f (D := D) (ci := 10) (v := .ref h_h) (C := RX10) (T := TX10) (N := 67) hx hb hw inAX10 hown hK hP 3 rfl rfl 7 (by decide) (hw _ q_1268) (fun _ h9 => h9) n1279 dX10_line0_102 ?_
        refine lv_iload_n hx hb dX10_line0_105 rfl (lv_at hl 0 rfl) ?_
        refine lv_aload_n hx hb dX10_line0_106 rfl (lv_at hl 1 rfl) ?_
        refine get_f (D := D) (ci := 10) (v := .int y1251) (C := RX10) (T := TX10) (N := 67) hx hb hw inAX10 hown hK hP 3 rfl rfl 19 (by decide) (hw _ q_1280) (fun _ h9 => h9) t1263 dX10_line0_107 ?_
        obtain ⟨g1280, eg1280⟩ : ∃ z : Nat → Int32, upd f_h 4 y1251 = z := ⟨_, rfl⟩
        have r1281 : SG 0 0 0 40 g1280 := by rw [← eg1280]; exact s_h_0.upN (Or.inr (Or.inl (by decide)))
        have r1282 : SG 44 55 0 9 g1280 := by rw [← eg1280]; exact s_h_44.upN (Or.inl (by decide))
        have r1283 : SG 5 5 0 12 g1280 := by rw [← eg1280]; exact s_h_5.upN (Or.inl (by decide))
        have r1284 : SG 6 6 0 12 g1280 := by rw [← eg1280]; exact s_h_6.upN (Or.inl (by decide))
        have r1285 : SG 7 7 0 6 g1280 := by rw [← eg1280]; exact s_h_7.upN (Or.inl (by decide))
        refine iast_n hx hb hK hP hD hS 0 0 rfl rfl 4 rfl (Nat.le_of_ble_eq_true rfl) (Nat.le_of_ble_eq_true rfl) eg1280 dX10_line0_110 (fun H locs hP hD hS => ?_)
        have hP : va_P D vwCl [(h_h, .inl (cI, 104, .inl g1280)), (h_names, .inl (cJ, 36, .inr (.inl f_names))), (h_reserved, .inl (cJ, 23, .inr (.inl f_reserved))), (h0, .inr (10, vL 67 F1244)), (h_tape, .inl (cB, 940, .inl f_tape))] H := hP
        have hD : va_D A [(h_h, .inl (cI, 104, .inl g1280)), (h_names, .inl (cJ, 36, .inr (.inl f_names))), (h_reserved, .inl (cJ, 23, .inr (.inl f_reserved))), (h0, .inr (10, vL 67 F1244)), (h_tape, .inl (cB, 940, .inl f_tape))] := hD
        refine lv_iconst (v := 1) hx hb dX10_line0_111 (by decide) ?_
        exact ret_i (v := 1) hx hb hr hlocks hS (hP.sub (ws' := [(h0, .inr (10, vL 67 F1244)), (h_tape, .inl (cB, 940, .inl f_tape)), (h_h, .inl (cI, 104, .inl g1280)), (h_names, .inl (cJ, 36, .inr (.inl f_names))), (h_reserved, .inl (cJ, 23, .inr (.inl f_reserved)))]) [3, 4, 0, 1, 2] rfl) (hD.sub (ws' := [(h0, .inr (10, vL 67 F1244)), (h_tape, .inl (cB, 940, .inl f_tape)), (h_h, .inl (cI, 104, .inl g1280)), (h_names, .inl (cJ, 36, .inr (.inl f_names))), (h_reserved, .inl (cJ, 23, .inr (.inl f_reserved)))]) [3, 4, 0, 1, 2] (by decide) rfl) dX10_line0_112 rfl (Nat.le_of_ble_eq_true rfl) (Nat.le_of_ble_eq_true rfl) (Or.inr ⟨F1244, y1245, y1246, y1247, y1248, y1249, y1250, y1251, y1198, g1280, f_names, (SAME.tr (SAME.tr SAME.rf t1199 (by decide)) t1252 (by decide)), t1253, t1254, t1255, t1256, t1257, t1258, t1259, t1260, t1261, t1262, t1263, (SAME.at t1252 (by decide) t1210), r1281, r1283, r1284, r1285, r1282, (by have zl1 : (1 : Int32).toInt = 1 := (by decide); omega), (by have zl1 : (1 : Int32).toInt = 1 := (by decide); omega), ((cLine_4 (tkM_1st (ONCF.t (k := 4) t3 (by omega) (by decide)).1) (lnwM (ONCF.t (k := 4) t3 (by omega) (by decide)).1 (ONCF.t (k := 4) t3 (by omega) (by decide)).2)).trans (fin_r (cSet_o t1214 (atM t1213 (ONCF.t (k := 4) t3 (by omega) (by decide)).1) t1270 t1215 (by rw [if_neg (by decide)]; exact upd_n eg1280 (by decide))) (csM_s eg1280 (by decide)))), (ONCF.t (k := 4) t3 (by omega) (by decide)).1, (AV.h z_1 (upd_m eg1280 (by decide))), (AV.h z_2 (upd_m eg1280 (by decide))), t1272, (by omega), rfl, rfl⟩)
    · obtain ⟨F1218, y1219, y1220, t1221, t1222, t1223, t1224, t1225, t1226, t1227, rfl, rfl⟩ := hp
      have hP : va_P D vwCl [(h_h, .inl (cI, 104, .inl f_h)), (h_names, .inl (cJ, 36, .inr (.inl f_names))), (h_reserved, .inl (cJ, 23, .inr (.inl f_reserved))), (h0, .inr (10, vL 67 F1218)), (h_tape, .inl (cB, 940, .inl f_tape))] H := hP
      have hD : va_D A [(h_h, .inl (cI, 104, .inl f_h)), (h_names, .inl (cJ, 36, .inr (.inl f_names))), (h_reserved, .inl (cJ, 23, .inr (.inl f_reserved))), (h0, .inr (10, vL 67 F1218)), (h_tape, .inl (cB, 940, .inl f_tape))] := hD
      refine W.widen (k := 0) (n := 0) (Nat.le_of_ble_eq_true rfl) (Nat.le_of_ble_eq_true rfl) ?_
      refine lv_if_ne (tgt := 19) hx hb dX10_line0_14 (by decide) (fun g => absurd (by decide) g) (fun _ => ?_)
      refine lv_iconst (v := 0) hx hb dX10_line0_17 (by decide) ?_
      exact ret_i (v := 0) hx hb hr hlocks hS (hP.sub (ws' := [(h0, .inr (10, vL 67 F1218)), (h_tape, .inl (cB, 940, .inl f_tape)), (h_h, .inl (cI, 104, .inl f_h)), (h_names, .inl (cJ, 36, .inr (.inl f_names))), (h_reserved, .inl (cJ, 23, .inr (.inl f_reserved)))]) [3, 4, 0, 1, 2] rfl) (hD.sub (ws' := [(h0, .inr (10, vL 67 F1218)), (h_tape, .inl (cB, 940, .inl f_tape)), (h_h, .inl (cI, 104, .inl f_h)), (h_names, .inl (cJ, 36, .inr (.inl f_names))), (h_reserved, .inl (cJ, 23, .inr (.inl f_reserved)))]) [3, 4, 0, 1, 2] (by decide) rfl) dX10_line0_18 rfl (Nat.le_of_ble_eq_true rfl) (Nat.le_of_ble_eq_true rfl) (Or.inl ⟨F1218, x_p, x_token, x_at, x_span, x_number, y1219, y1220, x_word, x_got, x_onces, f_h, f_names, (SAME.tr SAME.rf t1221 (by decide)), (SAME.at t1221 (by decide) e_p), i_x_p, (SAME.at t1221 (by decide) e_token), i_x_token, (SAME.at t1221 (by decide) e_at), (SAME.at t1221 (by decide) e_span), (SAME.at t1221 (by decide) e_number), t1222, (ir_wk t1223 (by decide) (by decide)), t1224, (SAME.at t1221 (by decide) e_word), (SAME.at t1221 (by decide) e_got), (SAME.at t1221 (by decide) e_onces), s_h_0, s_h_5, s_h_6, s_h_7, s_h_44, ((cLine_4 (tkM_1st (ONCF.t (k := 4) t3 (by omega) (by decide)).1) (lnwM (ONCF.t (k := 4) t3 (by omega) (by decide)).1 (ONCF.t (k := 4) t3 (by omega) (by decide)).2)).trans (inl_eq (cSet_t t1225) t1226.1 t1226.2)), (by omega), rfl, rfl⟩)
set_option maxHeartbeats 4000000 in
set_option maxRecDepth 100000 in
theorem m_X10_course (l : Launch) (D : va_G) (cI cJ cB cP cM cZ : ClassId) (h0 : Nat) (h_tape : Nat) (h_s : Nat) (h_h : Nat) (h_names : Nat) (h_reserved : Nat) (Fh : Nat → Value) (x_length : Int32) (x_token : Int32) (x_at : Int32) (x_number : Int32) (x_faultAt : Int32) (x_ids : Int32) (x_word : Int64) (x_got : Int32) (x_undoMany : Int32) (f_tape : Nat → Int32) (f_s : Nat → Int32) (f_h : Nat → Int32) (f_names : Nat → Int64) (f_reserved : Nat → Int64) (sz : Nat) (e_tape : Fh 1 = .ref h_tape) (e_length : Fh 2 = .int x_length) (i_x_length : IR 0 940 x_length) (e_s : Fh 6 = .ref h_s) (e_h : Fh 7 = .ref h_h) (e_names : Fh 9 = .ref h_names) (e_reserved : Fh 10 = .ref h_reserved) (e_token : Fh 11 = .int x_token) (i_x_token : IR 0 4 x_token) (e_at : Fh 12 = .int x_at) (e_number : Fh 14 = .int x_number) (e_faultAt : Fh 16 = .int x_faultAt) (e_ids : Fh 17 = .int x_ids) (e_word : Fh 18 = .long x_word) (e_got : Fh 19 = .int x_got) (e_undoMany : Fh 41 = .int x_undoMany) (i_x_undoMany : IR 0 8 x_undoMany) (s_s_K0 : KW 0 f_s) (s_s_0 : SG 0 0 0 40 f_s) (s_s_105 : SG 105 108 0 11 f_s) (s_s_114 : SG 114 114 0 5 f_s) (s_s_130 : SG 130 133 0 11 f_s) (s_s_139 : SG 139 139 0 5 f_s) (s_s_153 : SG 153 153 0 44 f_s) (s_s_44 : SG 44 55 0 9 f_s) (s_s_5 : SG 5 5 0 12 f_s) (s_s_6 : SG 6 6 0 12 f_s) (s_s_7 : SG 7 7 0 6 f_s) (s_h_0 : SG 0 0 0 40 f_h) (s_h_44 : SG 44 55 0 9 f_h) (s_h_5 : SG 5 5 0 12 f_h) (s_h_6 : SG 6 6 0 12 f_h) (s_h_7 : SG 7 7 0 6 f_h) (s_reserved_KR : KRN f_reserved) (o_0 : (x_token.toInt = 2 → 0 ≤ x_number.toInt ∧ x_number.toInt ≤ 999)) : CI l yX10_course cX10_course 2 (some .int) { frames := 4, cells := 0, slots := 0, locals := 87 } (GG D cI cJ cB cP cM cZ) D [(h0, .inr (10, vL 67 Fh)), (h_tape, .inl (cB, 940, .inl f_tape)), (h_s, .inl (cI, 335, .inl f_s)), (h_h, .inl (cI, 104, .inl f_h)), (h_names, .inl (cJ, 36, .inr (.inl f_names))), (h_reserved, .inl (cJ, 23, .inr (.inl f_reserved)))] sz [.ref h0] (fun (r : Int32) (u : va_W) => ∃ (Gh : Nat → Value) (y_p : Int32) (y_token : Int32) (y_at : Int32) (y_span : Int32) (y_number : Int32) (y_fault : Int32) (y_faultAt : Int32) (y_ids : Int32) (y_word : Int64) (y_got : Int32) (y_lines : Int32) (y_onces : Int32) (y_undoMany : Int32) (g_s : Nat → Int32) (g_h : Nat → Int32) (g_names : Nat → Int64), SAME [0, 2, 3, 4, 5, 11, 12, 13, 14, 15, 16, 17, 18, 19, 20, 21, 41] Fh Gh ∧ Gh 0 = .int 0 ∧ Gh 2 = .int 0 ∧ Gh 3 = .int x_length ∧ Gh 4 = .int y_p ∧ IR 0 940 y_p ∧ Gh 5 = .int 900 ∧ Gh 11 = .int y_token ∧ IR 0 4 y_token ∧ Gh 12 = .int y_at ∧ Gh 13 = .int y_span ∧ Gh 14 = .int y_number ∧ Gh 15 = .int y_fault ∧ IR 0 4 y_fault ∧ Gh 16 = .int y_faultAt ∧ Gh 17 = .int y_ids ∧ Gh 18 = .long y_word ∧ Gh 19 = .int y_got ∧ Gh 20 = .int y_lines ∧ Gh 21 = .int y_onces ∧ Gh 41 = .int y_undoMany ∧ IR 0 8 y_undoMany ∧ SG 153 153 0 44 g_s ∧ SG 0 0 0 40 g_s ∧ SG 5 5 0 12 g_s ∧ SG 6 6 0 12 g_s ∧ SG 7 7 0 6 g_s ∧ SG 44 55 0 9 g_s ∧ KW 0 g_s ∧ SG 105 108 0 11 g_s ∧ SG 114 114 0 5 g_s ∧ SG 130 133 0 11 g_s ∧ SG 139 139 0 5 g_s ∧ SG 0 0 0 40 g_h ∧ SG 5 5 0 12 g_h ∧ SG 6 6 0 12 g_h ∧ SG 7 7 0 6 g_h ∧ SG 44 55 0 9 g_h ∧ (r.toInt = cAns (cTxt f_tape x_length.toInt)) ∧ ((y_token.toInt = 2 → 0 ≤ y_number.toInt ∧ y_number.toInt ≤ 999)) ∧ u = [(h0, .inr (10, vL 67 Gh)), (h_tape, .inl (cB, 940, .inl f_tape)), (h_s, .inl (cI, 335, .inl g_s)), (h_h, .inl (cI, 104, .inl g_h)), (h_names, .inl (cJ, 36, .inr (.inl g_names))), (h_reserved, .inl (cJ, 23, .inr (.inl f_reserved)))]) := by
  refine CI_mk (by decide) (Nat.le_of_ble_eq_true rfl) ?_
  intro p e s m below meth c A ls E hAe hG hsz hP hD hA hS hl
  obtain ⟨hx, hb, hr, hw, hown, hlocks, hml, hnm⟩ := E
  have hK := hG.1
  have i_x_length : 0 ≤ x_length.toInt ∧ x_length.toInt ≤ 940 := i_x_length
  have i_x_token : 0 ≤ x_token.toInt ∧ x_token.toInt ≤ 4 := i_x_token
  have i_x_undoMany : 0 ≤ x_undoMany.toInt ∧ x_undoMany.toInt ≤ 8 := i_x_undoMany
  have hl : lv_has ls 2 [(0, .ref h0)] := hl
  refine lv_aload_n hx hb dX10_course_0 rfl (lv_at hl 0 rfl) ?_
  refine lv_iconst (v := 0) hx hb dX10_course_1 (by decide) ?_
  refine put_f (D := D) (ci := 10) (v := .int 0) (ty := .int) (C := RX10) (T := TX10) (N := 67) hx hb hw inAX10 tyX10 tyX10_ok nmX10 hown hK hP hD hS 0 rfl rfl 0 (by decide) (hw _ q_1261) (fun _ h9 => h9) rfl (by decide +kernel) rfl rfl dX10_course_2 (fun H locs F1 eF1 hP hD hS => ?_)
  have hP : va_P D vwCl [(h0, .inr (10, vL 67 F1)), (h_tape, .inl (cB, 940, .inl f_tape)), (h_s, .inl (cI, 335, .inl f_s)), (h_h, .inl (cI, 104, .inl f_h)), (h_names, .inl (cJ, 36, .inr (.inl f_names))), (h_reserved, .inl (cJ, 23, .inr (.inl f_reserved)))] H := hP
  have hD : va_D A [(h0, .inr (10, vL 67 F1)), (h_tape, .inl (cB, 940, .inl f_tape)), (h_s, .inl (cI, 335, .inl f_s)), (h_h, .inl (cI, 104, .inl f_h)), (h_names, .inl (cJ, 36, .inr (.inl f_names))), (h_reserved, .inl (cJ, 23, .inr (.inl f_reserved)))] := hD
  refine lv_aload_n hx hb dX10_course_5 rfl (lv_at hl 0 rfl) ?_
  refine lv_sipush (v := 900) hx hb dX10_course_6 (by decide) ?_
  have n2 : F1 2 = .int x_length := (get_ne eF1 (by decide) e_length)
  refine call_Vv (wr := [(h_tape, .inl (cB, 940, .inl f_tape)), (h_s, .inl (cI, 335, .inl f_s)), (h_h, .inl (cI, 104, .inl f_h)), (h_names, .inl (cJ, 36, .inr (.inl f_names))), (h_reserved, .inl (cJ, 23, .inr (.inl f_reserved)))]) (As := [.int 900]) (rest := []) hx hb hml hown hw (m_X10_taken l D cI cJ cB cP cM cZ h0 F1 x_length 900 _ n2 i_x_length (show 200 ≤ (900 : Int32).toInt ∧ (900 : Int32).toInt ≤ 940 by decide)) wV_X10_248_X10_taken dX10_course_9 hK hP hD hS hA [0] [1, 2, 3, 4, 5] rfl rfl (by decide) (by decide) (by decide) 0 10 rfl rfl GG.fb hG.at hl.1 rfl (Nat.le_of_ble_eq_true rfl) ⟨(Nat.le_of_ble_eq_true rfl), (Nat.le_of_ble_eq_true rfl)⟩ ⟨(Nat.le_of_ble_eq_true rfl), (Nat.le_of_ble_eq_true rfl)⟩ (fun u H locs hp hP hD hS => ?_)
  have zl900 : (900 : Int32).toInt = 900 := by decide
  obtain ⟨F4, t5, t6, t7, t8, t9, rfl⟩ := hp
  have hP : va_P D vwCl [(h_tape, .inl (cB, 940, .inl f_tape)), (h_s, .inl (cI, 335, .inl f_s)), (h_h, .inl (cI, 104, .inl f_h)), (h_names, .inl (cJ, 36, .inr (.inl f_names))), (h_reserved, .inl (cJ, 23, .inr (.inl f_reserved))), (h0, .inr (10, vL 67 F4))] H := hP
  have hD : va_D A [(h_tape, .inl (cB, 940, .inl f_tape)), (h_s, .inl (cI, 335, .inl f_s)), (h_h, .inl (cI, 104, .inl f_h)), (h_names, .inl (cJ, 36, .inr (.inl f_names))), (h_reserved, .inl (cJ, 23, .inr (.inl f_reserved))), (h0, .inr (10, vL 67 F4))] := hD
  refine W.widen (k := 0) (n := 0) (Nat.le_of_ble_eq_true rfl) (Nat.le_of_ble_eq_true rfl) ?_
  refine lv_aload_n hx hb dX10_course_12 rfl (lv_at hl 0 rfl) ?_
  refine lv_iconst (v := 0) hx hb dX10_course_13 (by decide) ?_
  refine put_f (D := D) (ci := 10) (v := .int 0) (ty := .int) (C := RX10) (T := TX10) (N := 67) hx hb hw inAX10 tyX10 tyX10_ok nmX10 hown hK hP hD hS 5 rfl rfl 15 (by decide) (hw _ q_1276) (fun _ h9 => h9) rfl (by decide +kernel) rfl rfl dX10_course_14 (fun H locs F11 eF11 hP hD hS => ?_)
  have hP : va_P D vwCl [(h_tape, .inl (cB, 940, .inl f_tape)), (h_s, .inl (cI, 335, .inl f_s)), (h_h, .inl (cI, 104, .inl f_h)), (h_names, .inl (cJ, 36, .inr (.inl f_names))), (h_reserved, .inl (cJ, 23, .inr (.inl f_reserved))), (h0, .inr (10, vL 67 F11))] H := hP
  have hD : va_D A [(h_tape, .inl (cB, 940, .inl f_tape)), (h_s, .inl (cI, 335, .inl f_s)), (h_h, .inl (cI, 104, .inl f_h)), (h_names, .inl (cJ, 36, .inr (.inl f_names))), (h_reserved, .inl (cJ, 23, .inr (.inl f_reserved))), (h0, .inr (10, vL 67 F11))] := hD
  refine lv_aload_n hx hb dX10_course_17 rfl (lv_at hl 0 rfl) ?_
  refine lv_iconst (v := 0) hx hb dX10_course_18 (by decide) ?_
  refine put_f (D := D) (ci := 10) (v := .int 0) (ty := .int) (C := RX10) (T := TX10) (N := 67) hx hb hw inAX10 tyX10 tyX10_ok nmX10 hown hK hP hD hS 5 rfl rfl 20 (by decide) (hw _ q_1281) (fun _ h9 => h9) rfl (by decide +kernel) rfl rfl dX10_course_19 (fun H locs F12 eF12 hP hD hS => ?_)
  have hP : va_P D vwCl [(h_tape, .inl (cB, 940, .inl f_tape)), (h_s, .inl (cI, 335, .inl f_s)), (h_h, .inl (cI, 104, .inl f_h)), (h_names, .inl (cJ, 36, .inr (.inl f_names))), (h_reserved, .inl (cJ, 23, .inr (.inl f_reserved))), (h0, .inr (10, vL 67 F12))] H := hP
  have hD : va_D A [(h_tape, .inl (cB, 940, .inl f_tape)), (h_s, .inl (cI, 335, .inl f_s)), (h_h, .inl (cI, 104, .inl f_h)), (h_names, .inl (cJ, 36, .inr (.inl f_names))), (h_reserved, .inl (cJ, 23, .inr (.inl f_reserved))), (h0, .inr (10, vL 67 F12))] := hD
  refine lv_aload_n hx hb dX10_course_22 rfl (lv_at hl 0 rfl) ?_
  refine lv_iconst (v := 0) hx hb dX10_course_23 (by decide) ?_
  refine put_f (D := D) (ci := 10) (v := .int 0) (ty := .int) (C := RX10) (T := TX10) (N := 67) hx hb hw inAX10 tyX10 tyX10_ok nmX10 hown hK hP hD hS 5 rfl rfl 21 (by decide) (hw _ q_1282) (fun _ h9 => h9) rfl (by decide +kernel) rfl rfl dX10_course_24 (fun H locs F13 eF13 hP hD hS => ?_)
  have hP : va_P D vwCl [(h_tape, .inl (cB, 940, .inl f_tape)), (h_s, .inl (cI, 335, .inl f_s)), (h_h, .inl (cI, 104, .inl f_h)), (h_names, .inl (cJ, 36, .inr (.inl f_names))), (h_reserved, .inl (cJ, 23, .inr (.inl f_reserved))), (h0, .inr (10, vL 67 F13))] H := hP
  have hD : va_D A [(h_tape, .inl (cB, 940, .inl f_tape)), (h_s, .inl (cI, 335, .inl f_s)), (h_h, .inl (cI, 104, .inl f_h)), (h_names, .inl (cJ, 36, .inr (.inl f_names))), (h_reserved, .inl (cJ, 23, .inr (.inl f_reserved))), (h0, .inr (10, vL 67 F13))] := hD
  refine lv_aload_n hx hb dX10_course_27 rfl (lv_at hl 0 rfl) ?_
  have n14 : F1 7 = .ref h_h := (get_ne eF1 (by decide) e_h)
  have n15 : F4 7 = .ref h_h := (SAME.at t5 (by decide) n14)
  have n16 : F11 7 = .ref h_h := (get_ne eF11 (by decide) n15)
  have n17 : F12 7 = .ref h_h := (get_ne eF12 (by decide) n16)
  have n18 : F13 7 = .ref h_h := (get_ne eF13 (by decide) n17)
  refine call_Vv (wr := [(h_tape, .inl (cB, 940, .inl f_tape)), (h_s, .inl (cI, 335, .inl f_s)), (h_names, .inl (cJ, 36, .inr (.inl f_names))), (h_reserved, .inl (cJ, 23, .inr (.inl f_reserved)))]) (As := []) (rest := []) hx hb hml hown hw (m_X10_clears l D cI cJ cB cP cM cZ h0 h_h F13 f_h _ n18 s_h_0 s_h_44 s_h_5 s_h_6 s_h_7) wV_X10_166_X10_clears dX10_course_28 hK hP hD hS hA [5, 2] [0, 1, 3, 4] rfl rfl (by decide) (by decide) (by decide) 0 10 rfl rfl GG.fb hG.at hl.1 rfl (Nat.le_of_ble_eq_true rfl) ⟨(Nat.le_of_ble_eq_true rfl), (Nat.le_of_ble_eq_true rfl)⟩ ⟨(Nat.le_of_ble_eq_true rfl), (Nat.le_of_ble_eq_true rfl)⟩ (fun u H locs hp hP hD hS => ?_)
  obtain ⟨g20, t21, t22, t23, t24, t25, t26, rfl⟩ := hp
  have hP : va_P D vwCl [(h_tape, .inl (cB, 940, .inl f_tape)), (h_s, .inl (cI, 335, .inl f_s)), (h_names, .inl (cJ, 36, .inr (.inl f_names))), (h_reserved, .inl (cJ, 23, .inr (.inl f_reserved))), (h0, .inr (10, vL 67 F13)), (h_h, .inl (cI, 104, .inl g20))] H := hP
  have hD : va_D A [(h_tape, .inl (cB, 940, .inl f_tape)), (h_s, .inl (cI, 335, .inl f_s)), (h_names, .inl (cJ, 36, .inr (.inl f_names))), (h_reserved, .inl (cJ, 23, .inr (.inl f_reserved))), (h0, .inr (10, vL 67 F13)), (h_h, .inl (cI, 104, .inl g20))] := hD
  refine W.widen (k := 0) (n := 0) (Nat.le_of_ble_eq_true rfl) (Nat.le_of_ble_eq_true rfl) ?_
  have h28 : AV f_names 18 (g20 5).toInt := AV.none (by omega)
  have h29 : AV f_names 30 (g20 7).toInt := AV.none (by omega)
  refine lv_aload_n hx hb dX10_course_31 rfl (lv_at hl 0 rfl) ?_
  have n30 : F1 1 = .ref h_tape := (get_ne eF1 (by decide) e_tape)
  have n31 : F4 1 = .ref h_tape := (SAME.at t5 (by decide) n30)
  have n32 : F11 1 = .ref h_tape := (get_ne eF11 (by decide) n31)
  have n33 : F12 1 = .ref h_tape := (get_ne eF12 (by decide) n32)
  have n34 : F13 1 = .ref h_tape := (get_ne eF13 (by decide) n33)
  have n35 : F11 3 = .int x_length := (get_ne eF11 (by decide) t7)
  have n36 : F12 3 = .int x_length := (get_ne eF12 (by decide) n35)
  have n37 : F13 3 = .int x_length := (get_ne eF13 (by decide) n36)
  have n38 : F11 4 = .int 0 := (get_ne eF11 (by decide) t8)
  have n39 : F12 4 = .int 0 := (get_ne eF12 (by decide) n38)
  have n40 : F13 4 = .int 0 := (get_ne eF13 (by decide) n39)
  have n41 : F11 5 = .int 900 := (get_ne eF11 (by decide) t9)
  have n42 : F12 5 = .int 900 := (get_ne eF12 (by decide) n41)
  have n43 : F13 5 = .int 900 := (get_ne eF13 (by decide) n42)
  have n44 : F1 11 = .int x_token := (get_ne eF1 (by decide) e_token)
  have n45 : F4 11 = .int x_token := (SAME.at t5 (by decide) n44)
  have n46 : F11 11 = .int x_token := (get_ne eF11 (by decide) n45)
  have n47 : F12 11 = .int x_token := (get_ne eF12 (by decide) n46)
  have n48 : F13 11 = .int x_token := (get_ne eF13 (by decide) n47)
  have n49 : F1 12 = .int x_at := (get_ne eF1 (by decide) e_at)
  have n50 : F4 12 = .int x_at := (SAME.at t5 (by decide) n49)
  have n51 : F11 12 = .int x_at := (get_ne eF11 (by decide) n50)
  have n52 : F12 12 = .int x_at := (get_ne eF12 (by decide) n51)
  have n53 : F13 12 = .int x_at := (get_ne eF13 (by decide) n52)
  have n54 : F1 14 = .int x_number := (get_ne eF1 (by decide) e_number)
  have n55 : F4 14 = .int x_number := (SAME.at t5 (by decide) n54)
  have n56 : F11 14 = .int x_number := (get_ne eF11 (by decide) n55)
  have n57 : F12 14 = .int x_number := (get_ne eF12 (by decide) n56)
  have n58 : F13 14 = .int x_number := (get_ne eF13 (by decide) n57)
  have n59 : F1 18 = .long x_word := (get_ne eF1 (by decide) e_word)
  have n60 : F4 18 = .long x_word := (SAME.at t5 (by decide) n59)
  have n61 : F11 18 = .long x_word := (get_ne eF11 (by decide) n60)
  have n62 : F12 18 = .long x_word := (get_ne eF12 (by decide) n61)
  have n63 : F13 18 = .long x_word := (get_ne eF13 (by decide) n62)
  refine call_Vv (wr := [(h_s, .inl (cI, 335, .inl f_s)), (h_names, .inl (cJ, 36, .inr (.inl f_names))), (h_reserved, .inl (cJ, 23, .inr (.inl f_reserved))), (h_h, .inl (cI, 104, .inl g20))]) (As := []) (rest := []) hx hb hml hown hw (m_X10_next l D cI cJ cB cP cM cZ h0 h_tape F13 x_length 0 900 x_token x_at x_number x_word f_tape _ n34 n37 i_x_length n40 (show 0 ≤ (0 : Int32).toInt ∧ (0 : Int32).toInt ≤ 940 by decide) n43 (show 200 ≤ (900 : Int32).toInt ∧ (900 : Int32).toInt ≤ 940 by decide) n48 i_x_token n53 n58 n63 (by omega)) wV_X10_208_X10_next dX10_course_32 hK hP hD hS hA [4, 0] [1, 2, 3, 5] rfl rfl (by decide) (by decide) (by decide) 0 10 rfl rfl GG.fb hG.at hl.1 rfl (Nat.le_of_ble_eq_true rfl) ⟨(Nat.le_of_ble_eq_true rfl), (Nat.le_of_ble_eq_true rfl)⟩ ⟨(Nat.le_of_ble_eq_true rfl), (Nat.le_of_ble_eq_true rfl)⟩ (fun u H locs hp hP hD hS => ?_)
  have zl0 : (0 : Int32).toInt = 0 := by decide
  obtain ⟨F65, y66, y67, y68, y69, y70, y71, t72, t73, t74, t75, t76, t77, t78, t79, t80, t81, t82, t83, t84, t85, t86, t87, rfl⟩ := hp
  have hP : va_P D vwCl [(h_s, .inl (cI, 335, .inl f_s)), (h_names, .inl (cJ, 36, .inr (.inl f_names))), (h_reserved, .inl (cJ, 23, .inr (.inl f_reserved))), (h_h, .inl (cI, 104, .inl g20)), (h0, .inr (10, vL 67 F65)), (h_tape, .inl (cB, 940, .inl f_tape))] H := hP
  have hD : va_D A [(h_s, .inl (cI, 335, .inl f_s)), (h_names, .inl (cJ, 36, .inr (.inl f_names))), (h_reserved, .inl (cJ, 23, .inr (.inl f_reserved))), (h_h, .inl (cI, 104, .inl g20)), (h0, .inr (10, vL 67 F65)), (h_tape, .inl (cB, 940, .inl f_tape))] := hD
  refine W.widen (k := 0) (n := 0) (Nat.le_of_ble_eq_true rfl) (Nat.le_of_ble_eq_true rfl) ?_
  have cut103 : ∀ (w89 : Nat → Int64) (w90 : Nat → Int32) (G91 : Nat → Value) (u92 : Int32) (u93 : Int32) (u94 : Int32) (u95 : Int32) (u96 : Int32) (u97 : Int32) (u98 : Int32) (u99 : Int64) (u100 : Int32) (u101 : Int32) (u102 : Int32) (_ : SG 0 0 0 40 w90) (_ : SG 44 55 0 9 w90) (_ : SG 5 5 0 12 w90) (_ : SG 6 6 0 12 w90) (_ : SG 7 7 0 6 w90) (_ : SAME [4, 11, 12, 13, 14, 15, 16, 18, 19, 20, 21] F65 G91) (_ : G91 4 = .int u92) (_ : G91 11 = .int u93) (_ : G91 12 = .int u94) (_ : G91 13 = .int u95) (_ : G91 14 = .int u96) (_ : G91 15 = .int u97) (_ : G91 16 = .int u98) (_ : G91 18 = .long u99) (_ : G91 19 = .int u100) (_ : G91 20 = .int u101) (_ : G91 21 = .int u102) (_ : IR 0 940 u92) (_ : IR 0 4 u93) (_ : IR 0 940 u94) (_ : IR 0 940 u95) (_ : IR 0 0 u97) (_ : (CA (tkA f_tape x_length.toInt 900) (tkM y67 y68 y70 y71 y66) (csM (0 : Int32) g20 f_names) 900 (tkM u93 u94 u96 u99 u92) (csM u102 w90 w89) u101.toInt)) (_ : ((VWF u93.toInt u99.toInt))) (_ : (AV w89 18 (w90 5).toInt)) (_ : (AV w89 30 (w90 7).toInt)) (_ : (0 ≤ u101.toInt ∧ 2 * u101.toInt ≤ u92.toInt ∧ (1 ≤ u93.toInt → u93.toInt ≤ 3 → 2 * u101.toInt + 1 ≤ u92.toInt))) (_ : ((u93.toInt = 2 → 0 ≤ u96.toInt ∧ u96.toInt ≤ 999))) (_ : (u93.toInt = 0)) (H : Heap) (locs : List Loc) (ls : Array Slot), va_P D vwCl [(h_s, .inl (cI, 335, .inl f_s)), (h_names, .inl (cJ, 36, .inr (.inl w89))), (h_reserved, .inl (cJ, 23, .inr (.inl f_reserved))), (h_h, .inl (cI, 104, .inl w90)), (h0, .inr (10, vL 67 G91)), (h_tape, .inl (cB, 940, .inl f_tape))] H → va_D A [(h_s, .inl (cI, 335, .inl f_s)), (h_names, .inl (cJ, 36, .inr (.inl w89))), (h_reserved, .inl (cJ, 23, .inr (.inl f_reserved))), (h_h, .inl (cI, 104, .inl w90)), (h0, .inr (10, vL 67 G91)), (h_tape, .inl (cB, 940, .inl f_tape))] → va_S A s.heap H locs → lv_has ls 2 [(0, .ref h0)] → W p l e ({ frames := 4, cells := 0, slots := 0, locals := 87 } : Room) s m [.ref h0].toArray below meth c H locs 0 0 (MQ below (va_Qi (fun (r : Int32) (u : va_W) => ∃ (Gh : Nat → Value) (y_p : Int32) (y_token : Int32) (y_at : Int32) (y_span : Int32) (y_number : Int32) (y_fault : Int32) (y_faultAt : Int32) (y_ids : Int32) (y_word : Int64) (y_got : Int32) (y_lines : Int32) (y_onces : Int32) (y_undoMany : Int32) (g_s : Nat → Int32) (g_h : Nat → Int32) (g_names : Nat → Int64), SAME [0, 2, 3, 4, 5, 11, 12, 13, 14, 15, 16, 17, 18, 19, 20, 21, 41] Fh Gh ∧ Gh 0 = .int 0 ∧ Gh 2 = .int 0 ∧ Gh 3 = .int x_length ∧ Gh 4 = .int y_p ∧ IR 0 940 y_p ∧ Gh 5 = .int 900 ∧ Gh 11 = .int y_token ∧ IR 0 4 y_token ∧ Gh 12 = .int y_at ∧ Gh 13 = .int y_span ∧ Gh 14 = .int y_number ∧ Gh 15 = .int y_fault ∧ IR 0 4 y_fault ∧ Gh 16 = .int y_faultAt ∧ Gh 17 = .int y_ids ∧ Gh 18 = .long y_word ∧ Gh 19 = .int y_got ∧ Gh 20 = .int y_lines ∧ Gh 21 = .int y_onces ∧ Gh 41 = .int y_undoMany ∧ IR 0 8 y_undoMany ∧ SG 153 153 0 44 g_s ∧ SG 0 0 0 40 g_s ∧ SG 5 5 0 12 g_s ∧ SG 6 6 0 12 g_s ∧ SG 7 7 0 6 g_s ∧ SG 44 55 0 9 g_s ∧ KW 0 g_s ∧ SG 105 108 0 11 g_s ∧ SG 114 114 0 5 g_s ∧ SG 130 133 0 11 g_s ∧ SG 139 139 0 5 g_s ∧ SG 0 0 0 40 g_h ∧ SG 5 5 0 12 g_h ∧ SG 6 6 0 12 g_h ∧ SG 7 7 0 6 g_h ∧ SG 44 55 0 9 g_h ∧ (r.toInt = cAns (cTxt f_tape x_length.toInt)) ∧ ((y_token.toInt = 2 → 0 ≤ y_number.toInt ∧ y_number.toInt ≤ 999)) ∧ u = [(h0, .inr (10, vL 67 Gh)), (h_tape, .inl (cB, 940, .inl f_tape)), (h_s, .inl (cI, 335, .inl g_s)), (h_h, .inl (cI, 104, .inl g_h)), (h_names, .inl (cJ, 36, .inr (.inl g_names))), (h_reserved, .inl (cJ, 23, .inr (.inl f_reserved)))]) (PO D A) A) [.ref h0].toArray s 0 0 A) (F0 m 78 ls []) := by
    intro w89 w90 G91 u92 u93 u94 u95 u96 u97 u98 u99 u100 u101 u102 i104 i105 i106 i107 i108 i109 i110 i111 i112 i113 i114 i115 i116 i117 i118 i119 i120 i121 i122 i123 i124 i125 i126 i127 i128 i129 i130 i131 i132 H locs ls hP hD hS hl
    have i121 : 0 ≤ u92.toInt ∧ u92.toInt ≤ 940 := i121
    have i122 : 0 ≤ u93.toInt ∧ u93.toInt ≤ 4 := i122
    have i123 : 0 ≤ u94.toInt ∧ u94.toInt ≤ 940 := i123
    have i124 : 0 ≤ u95.toInt ∧ u95.toInt ≤ 940 := i124
    have i125 : 0 ≤ u97.toInt ∧ u97.toInt ≤ 0 := i125
    have i126 : CA (tkA f_tape x_length.toInt 900) (tkM y67 y68 y70 y71 y66) (csM (0 : Int32) g20 f_names) 900 (tkM u93 u94 u96 u99 u92) (csM u102 w90 w89) u101.toInt := i126
    have i127 : (VWF u93.toInt u99.toInt) := i127
    have i128 : AV w89 18 (w90 5).toInt := i128
    have i129 : AV w89 30 (w90 7).toInt := i129
    have i130 : 0 ≤ u101.toInt ∧ 2 * u101.toInt ≤ u92.toInt ∧ (1 ≤ u93.toInt → u93.toInt ≤ 3 → 2 * u101.toInt + 1 ≤ u92.toInt) := i130
    have i131 : (u93.toInt = 2 → 0 ≤ u96.toInt ∧ u96.toInt ≤ 999) := i131
    have i132 : u93.toInt = 0 := i132
    refine lv_iconst (v := 0) hx hb dX10_course_78 (by decide) ?_
    refine lv_istore_n (lv' := [(1, .int 0), (0, .ref h0)]) hx hb dX10_course_79 rfl hl (by decide) rfl (fun ls hl => ?_)
    refine mloop (α := (Int32) × (Nat → Int32)) (nL := 2) (D := D) (A := A) (H0 := s.heap) (fun a => (335 - a.1.toInt).toNat) (fun a => IR 0 335 a.1 ∧ (SGK 0 0 0 40 a.2 (a.1.toInt)) ∧ (SGK 5 5 0 12 a.2 (a.1.toInt)) ∧ (SGK 6 6 0 12 a.2 (a.1.toInt)) ∧ (SGK 7 7 0 6 a.2 (a.1.toInt)) ∧ (SGK 44 55 0 9 a.2 (a.1.toInt)) ∧ (SGK 105 108 0 11 a.2 (a.1.toInt)) ∧ (SGK 114 114 0 5 a.2 (a.1.toInt)) ∧ (SGK 130 133 0 11 a.2 (a.1.toInt)) ∧ (SGK 139 139 0 5 a.2 (a.1.toInt)) ∧ (SGK 153 153 0 0 a.2 (a.1.toInt))) (fun a => [(h_s, .inl (cI, 335, .inl a.2)), (h_names, .inl (cJ, 36, .inr (.inl w89))), (h_reserved, .inl (cJ, 23, .inr (.inl f_reserved))), (h_h, .inl (cI, 104, .inl w90)), (h0, .inr (10, vL 67 G91)), (h_tape, .inl (cB, 940, .inl f_tape))]) (fun a => [(1, .int a.1), (0, .ref h0)]) (fun H locs ls => W p l e ({ frames := 4, cells := 0, slots := 0, locals := 87 } : Room) s m [.ref h0].toArray below meth c H locs 0 0 (MQ below (va_Qi (fun (r : Int32) (u : va_W) => ∃ (Gh : Nat → Value) (y_p : Int32) (y_token : Int32) (y_at : Int32) (y_span : Int32) (y_number : Int32) (y_fault : Int32) (y_faultAt : Int32) (y_ids : Int32) (y_word : Int64) (y_got : Int32) (y_lines : Int32) (y_onces : Int32) (y_undoMany : Int32) (g_s : Nat → Int32) (g_h : Nat → Int32) (g_names : Nat → Int64), SAME [0, 2, 3, 4, 5, 11, 12, 13, 14, 15, 16, 17, 18, 19, 20, 21, 41] Fh Gh ∧ Gh 0 = .int 0 ∧ Gh 2 = .int 0 ∧ Gh 3 = .int x_length ∧ Gh 4 = .int y_p ∧ IR 0 940 y_p ∧ Gh 5 = .int 900 ∧ Gh 11 = .int y_token ∧ IR 0 4 y_token ∧ Gh 12 = .int y_at ∧ Gh 13 = .int y_span ∧ Gh 14 = .int y_number ∧ Gh 15 = .int y_fault ∧ IR 0 4 y_fault ∧ Gh 16 = .int y_faultAt ∧ Gh 17 = .int y_ids ∧ Gh 18 = .long y_word ∧ Gh 19 = .int y_got ∧ Gh 20 = .int y_lines ∧ Gh 21 = .int y_onces ∧ Gh 41 = .int y_undoMany ∧ IR 0 8 y_undoMany ∧ SG 153 153 0 44 g_s ∧ SG 0 0 0 40 g_s ∧ SG 5 5 0 12 g_s ∧ SG 6 6 0 12 g_s ∧ SG 7 7 0 6 g_s ∧ SG 44 55 0 9 g_s ∧ KW 0 g_s ∧ SG 105 108 0 11 g_s ∧ SG 114 114 0 5 g_s ∧ SG 130 133 0 11 g_s ∧ SG 139 139 0 5 g_s ∧ SG 0 0 0 40 g_h ∧ SG 5 5 0 12 g_h ∧ SG 6 6 0 12 g_h ∧ SG 7 7 0 6 g_h ∧ SG 44 55 0 9 g_h ∧ (r.toInt = cAns (cTxt f_tape x_length.toInt)) ∧ ((y_token.toInt = 2 → 0 ≤ y_number.toInt ∧ y_number.toInt ≤ 999)) ∧ u = [(h0, .inr (10, vL 67 Gh)), (h_tape, .inl (cB, 940, .inl f_tape)), (h_s, .inl (cI, 335, .inl g_s)), (h_h, .inl (cI, 104, .inl g_h)), (h_names, .inl (cJ, 36, .inr (.inl g_names))), (h_reserved, .inl (cJ, 23, .inr (.inl f_reserved)))]) (PO D A) A) [.ref h0].toArray s 0 0 A) (F0 m 80 ls [])) ?_ (0, f_s) ⟨(show 0 ≤ (0 : Int32).toInt ∧ (0 : Int32).toInt ≤ 335 by decide), (show SGK 0 0 0 40 f_s (0) from (SGK.zero (by decide))), (show SGK 5 5 0 12 f_s (0) from (SGK.zero (by decide))), (show SGK 6 6 0 12 f_s (0) from (SGK.zero (by decide))), (show SGK 7 7 0 6 f_s (0) from (SGK.zero (by decide))), (show SGK 44 55 0 9 f_s (0) from (SGK.zero (by decide))), (show SGK 105 108 0 11 f_s (0) from (SGK.zero (by decide))), (show SGK 114 114 0 5 f_s (0) from (SGK.zero (by decide))), (show SGK 130 133 0 11 f_s (0) from (SGK.zero (by decide))), (show SGK 139 139 0 5 f_s (0) from (SGK.zero (by decide))), (show SGK 153 153 0 0 f_s (0) from (SGK.zero (by decide)))⟩ _ _ _ hP hD hS hl
    rintro ⟨u133, w134⟩ ⟨i135, i136, i137, i138, i139, i140, i141, i142, i143, i144, i145⟩ ih H locs ls hP hD hS hl
    have i135 : 0 ≤ u133.toInt ∧ u133.toInt ≤ 335 := i135
    have i136 : SGK 0 0 0 40 w134 (u133.toInt) := i136
    have i137 : SGK 5 5 0 12 w134 (u133.toInt) := i137
    have i138 : SGK 6 6 0 12 w134 (u133.toInt) := i138
    have i139 : SGK 7 7 0 6 w134 (u133.toInt) := i139
    have i140 : SGK 44 55 0 9 w134 (u133.toInt) := i140
    have i141 : SGK 105 108 0 11 w134 (u133.toInt) := i141
    have i142 : SGK 114 114 0 5 w134 (u133.toInt) := i142
    have i143 : SGK 130 133 0 11 w134 (u133.toInt) := i143
    have i144 : SGK 139 139 0 5 w134 (u133.toInt) := i144
    have i145 : SGK 153 153 0 0 w134 (u133.toInt) := i145
    have hP : va_P D vwCl [(h_s, .inl (cI, 335, .inl w134)), (h_names, .inl (cJ, 36, .inr (.inl w89))), (h_reserved, .inl (cJ, 23, .inr (.inl f_reserved))), (h_h, .inl (cI, 104, .inl w90)), (h0, .inr (10, vL 67 G91)), (h_tape, .inl (cB, 940, .inl f_tape))] H := hP
    have hD : va_D A [(h_s, .inl (cI, 335, .inl w134)), (h_names, .inl (cJ, 36, .inr (.inl w89))), (h_reserved, .inl (cJ, 23, .inr (.inl f_reserved))), (h_h, .inl (cI, 104, .inl w90)), (h0, .inr (10, vL 67 G91)), (h_tape, .inl (cB, 940, .inl f_tape))] := hD
    have hl : lv_has ls 2 [(1, .int u133), (0, .ref h0)] := hl
    refine lv_iload_n hx hb dX10_course_80 rfl (lv_at hl 0 rfl) ?_
    refine lv_sipush (v := 335) hx hb dX10_course_81 (by decide) ?_
    refine lv_icmp_ge (tgt := 115) hx hb dX10_course_84 (by decide) (fun c146 => ?_) (fun c146 => ?_)
    · have dc146 : 335 ≤ u133.toInt := le_i (a := 335) (b := u133.toInt) rfl rfl c146
      have k147 : 335 ≤ u133.toInt ∧ u133.toInt ≤ 335 := ⟨Int.le_trans (Int.le_refl _) dc146, i135.2⟩
      have r148 : SG 0 0 0 40 w134 := SGK.all i136 (by omega)
      have r149 : SG 5 5 0 12 w134 := SGK.all i137 (by omega)
      have r150 : SG 6 6 0 12 w134 := SGK.all i138 (by omega)
      have r151 : SG 7 7 0 6 w134 := SGK.all i139 (by omega)
      have r152 : SG 44 55 0 9 w134 := SGK.all i140 (by omega)
      have r153 : SG 105 108 0 11 w134 := SGK.all i141 (by omega)
      have r154 : SG 114 114 0 5 w134 := SGK.all i142 (by omega)
      have r155 : SG 130 133 0 11 w134 := SGK.all i143 (by omega)
      have r156 : SG 139 139 0 5 w134 := SGK.all i144 (by omega)
      have r157 : SG 153 153 0 0 w134 := SGK.all i145 (by omega)
      have r158 : KW 0 w134 := KW.none r157
      refine lv_iconst (v := 0) hx hb dX10_course_115 (by decide) ?_
      refine lv_istore_n (lv' := [(1, .int 0), (0, .ref h0)]) hx hb dX10_course_116 rfl hl (by decide) rfl (fun ls hl => ?_)
      refine mloop (α := (Int32) × (Nat → Int64)) (nL := 2) (D := D) (A := A) (H0 := s.heap) (fun a => (18 - a.1.toInt).toNat) (fun a => IR 0 18 a.1) (fun a => [(h_s, .inl (cI, 335, .inl w134)), (h_names, .inl (cJ, 36, .inr (.inl a.2))), (h_reserved, .inl (cJ, 23, .inr (.inl f_reserved))), (h_h, .inl (cI, 104, .inl w90)), (h0, .inr (10, vL 67 G91)), (h_tape, .inl (cB, 940, .inl f_tape))]) (fun a => [(1, .int a.1), (0, .ref h0)]) (fun H locs ls => W p l e ({ frames := 4, cells := 0, slots := 0, locals := 87 } : Room) s m [.ref h0].toArray below meth c H locs 0 0 (MQ below (va_Qi (fun (r : Int32) (u : va_W) => ∃ (Gh : Nat → Value) (y_p : Int32) (y_token : Int32) (y_at : Int32) (y_span : Int32) (y_number : Int32) (y_fault : Int32) (y_faultAt : Int32) (y_ids : Int32) (y_word : Int64) (y_got : Int32) (y_lines : Int32) (y_onces : Int32) (y_undoMany : Int32) (g_s : Nat → Int32) (g_h : Nat → Int32) (g_names : Nat → Int64), SAME [0, 2, 3, 4, 5, 11, 12, 13, 14, 15, 16, 17, 18, 19, 20, 21, 41] Fh Gh ∧ Gh 0 = .int 0 ∧ Gh 2 = .int 0 ∧ Gh 3 = .int x_length ∧ Gh 4 = .int y_p ∧ IR 0 940 y_p ∧ Gh 5 = .int 900 ∧ Gh 11 = .int y_token ∧ IR 0 4 y_token ∧ Gh 12 = .int y_at ∧ Gh 13 = .int y_span ∧ Gh 14 = .int y_number ∧ Gh 15 = .int y_fault ∧ IR 0 4 y_fault ∧ Gh 16 = .int y_faultAt ∧ Gh 17 = .int y_ids ∧ Gh 18 = .long y_word ∧ Gh 19 = .int y_got ∧ Gh 20 = .int y_lines ∧ Gh 21 = .int y_onces ∧ Gh 41 = .int y_undoMany ∧ IR 0 8 y_undoMany ∧ SG 153 153 0 44 g_s ∧ SG 0 0 0 40 g_s ∧ SG 5 5 0 12 g_s ∧ SG 6 6 0 12 g_s ∧ SG 7 7 0 6 g_s ∧ SG 44 55 0 9 g_s ∧ KW 0 g_s ∧ SG 105 108 0 11 g_s ∧ SG 114 114 0 5 g_s ∧ SG 130 133 0 11 g_s ∧ SG 139 139 0 5 g_s ∧ SG 0 0 0 40 g_h ∧ SG 5 5 0 12 g_h ∧ SG 6 6 0 12 g_h ∧ SG 7 7 0 6 g_h ∧ SG 44 55 0 9 g_h ∧ (r.toInt = cAns (cTxt f_tape x_length.toInt)) ∧ ((y_token.toInt = 2 → 0 ≤ y_number.toInt ∧ y_number.toInt ≤ 999)) ∧ u = [(h0, .inr (10, vL 67 Gh)), (h_tape, .inl (cB, 940, .inl f_tape)), (h_s, .inl (cI, 335, .inl g_s)), (h_h, .inl (cI, 104, .inl g_h)), (h_names, .inl (cJ, 36, .inr (.inl g_names))), (h_reserved, .inl (cJ, 23, .inr (.inl f_reserved)))]) (PO D A) A) [.ref h0].toArray s 0 0 A) (F0 m 117 ls [])) ?_ (0, w89) (show 0 ≤ (0 : Int32).toInt ∧ (0 : Int32).toInt ≤ 18 by decide) _ _ _ hP hD hS hl
      rintro ⟨u159, w160⟩ i161 ih_117 H locs ls hP hD hS hl
      have i161 : 0 ≤ u159.toInt ∧ u159.toInt ≤ 18 := i161
      have hP : va_P D vwCl [(h_s, .inl (cI, 335, .inl w134)), (h_names, .inl (cJ, 36, .inr (.inl w160))), (h_reserved, .inl (cJ, 23, .inr (.inl f_reserved))), (h_h, .inl (cI, 104, .inl w90)), (h0, .inr (10, vL 67 G91)), (h_tape, .inl (cB, 940, .inl f_tape))] H := hP
      have hD : va_D A [(h_s, .inl (cI, 335, .inl w134)), (h_names, .inl (cJ, 36, .inr (.inl w160))), (h_reserved, .inl (cJ, 23, .inr (.inl f_reserved))), (h_h, .inl (cI, 104, .inl w90)), (h0, .inr (10, vL 67 G91)), (h_tape, .inl (cB, 940, .inl f_tape))] := hD
      have hl : lv_has ls 2 [(1, .int u159), (0, .ref h0)] := hl
      refine lv_iload_n hx hb dX10_course_117 rfl (lv_at hl 0 rfl) ?_
      refine lv_bipush (v := 18) hx hb dX10_course_118 (by decide) ?_
      refine lv_icmp_ge (tgt := 144) hx hb dX10_course_120 (by decide) (fun c162 => ?_) (fun c162 => ?_)
      · have dc162 : 18 ≤ u159.toInt := le_i (a := 18) (b := u159.toInt) rfl rfl c162
        have k163 : 18 ≤ u159.toInt ∧ u159.toInt ≤ 18 := ⟨Int.le_trans (Int.le_refl _) dc162, i161.2⟩
        refine lv_aload_n hx hb dX10_course_144 rfl (lv_at hl 1 rfl) ?_
        refine lv_dup hx hb dX10_course_145 rfl ?_
        have n164 : F1 17 = .int x_ids := (get_ne eF1 (by decide) e_ids)
        have n165 : F4 17 = .int x_ids := (SAME.at t5 (by decide) n164)
        have n166 : F11 17 = .int x_ids := (get_ne eF11 (by decide) n165)
        have n167 : F12 17 = .int x_ids := (get_ne eF12 (by decide) n166)
        have n168 : F13 17 = .int x_ids := (get_ne eF13 (by decide) n167)
        have n169 : F65 17 = .int x_ids := (SAME.at t72 (by decide) n168)
        have n170 : G91 17 = .int x_ids := (SAME.at i109 (by decide) n169)
        refine get_f (D := D) (ci := 10) (v := .int x_ids) (C := RX10) (T := TX10) (N := 67) hx hb hw inAX10 hown hK hP 4 rfl rfl 17 (by decide) (hw _ q_1278) (fun _ h9 => h9) n170 dX10_course_146 ?_
        refine lv_iconst (v := 1) hx hb dX10_course_149 (by decide) ?_
        refine lv_iadd hx hb dX10_course_150 ?_
        refine lv_topi (fun v171 ev171 => ?_)
        refine put_f (D := D) (ci := 10) (v := .int v171) (ty := .int) (C := RX10) (T := TX10) (N := 67) hx hb hw inAX10 tyX10 tyX10_ok nmX10 hown hK hP hD hS 4 rfl rfl 17 (by decide) (hw _ q_1278) (fun _ h9 => h9) rfl (by decide +kernel) rfl rfl dX10_course_151 (fun H locs F172 eF172 hP hD hS => ?_)
        have hP : va_P D vwCl [(h_s, .inl (cI, 335, .inl w134)), (h_names, .inl (cJ, 36, .inr (.inl w160))), (h_reserved, .inl (cJ, 23, .inr (.inl f_reserved))), (h_h, .inl (cI, 104, .inl w90)), (h0, .inr (10, vL 67 F172)), (h_tape, .inl (cB, 940, .inl f_tape))] H := hP
        have hD : va_D A [(h_s, .inl (cI, 335, .inl w134)), (h_names, .inl (cJ, 36, .inr (.inl w160))), (h_reserved, .inl (cJ, 23, .inr (.inl f_reserved))), (h_h, .inl (cI, 104, .inl w90)), (h0, .inr (10, vL 67 F172)), (h_tape, .inl (cB, 940, .inl f_tape))] := hD
        refine lv_aload_n hx hb dX10_course_154 rfl (lv_at hl 1 rfl) ?_
        have n173 : F1 6 = .ref h_s := (get_ne eF1 (by decide) e_s)
        have n174 : F4 6 = .ref h_s := (SAME.at t5 (by decide) n173)
        have n175 : F11 6 = .ref h_s := (get_ne eF11 (by decide) n174)
        have n176 : F12 6 = .ref h_s := (get_ne eF12 (by decide) n175)
        have n177 : F13 6 = .ref h_s := (get_ne eF13 (by decide) n176)
        have n178 : F65 6 = .ref h_s := (SAME.at t72 (by decide) n177)
        have n179 : G91 6 = .ref h_s := (SAME.at i109 (by decide) n178)
        have n180 : F172 6 = .ref h_s := (get_ne eF172 (by decide) n179)
        refine get_f (D := D) (ci := 10) (v := .ref h_s) (C := RX10) (T := TX10) (N := 67) hx hb hw inAX10 hown hK hP 4 rfl rfl 6 (by decide) (hw _ q_1267) (fun _ h9 => h9) n180 dX10_course_155 ?_
        refine lv_sipush (v := 334) hx hb dX10_course_158 (by decide) ?_
        refine lv_aload_n hx hb dX10_course_161 rfl (lv_at hl 1 rfl) ?_
        refine get_f (D := D) (ci := 10) (v := .int v171) (C := RX10) (T := TX10) (N := 67) hx hb hw inAX10 hown hK hP 4 rfl rfl 17 (by decide) (hw _ q_1278) (fun _ h9 => h9) (get_eq eF172) dX10_course_162 ?_
        obtain ⟨g181, eg181⟩ : ∃ z : Nat → Int32, upd w134 334 v171 = z := ⟨_, rfl⟩
        have r182 : KW 0 g181 := by rw [← eg181]; exact r158.upN (by decide)
        have r183 : SG 0 0 0 40 g181 := by rw [← eg181]; exact r148.upN (Or.inr (Or.inl (by decide)))
        have r184 : SG 105 108 0 11 g181 := by rw [← eg181]; exact r153.upN (Or.inr (Or.inl (by decide)))
        have r185 : SG 114 114 0 5 g181 := by rw [← eg181]; exact r154.upN (Or.inr (Or.inl (by decide)))
        have r186 : SG 130 133 0 11 g181 := by rw [← eg181]; exact r155.upN (Or.inr (Or.inl (by decide)))
        have r187 : SG 139 139 0 5 g181 := by rw [← eg181]; exact r156.upN (Or.inr (Or.inl (by decide)))
        have r188 : SG 153 153 0 0 g181 := by rw [← eg181]; exact r157.upN (Or.inr (Or.inl (by decide)))
        have r189 : SG 44 55 0 9 g181 := by rw [← eg181]; exact r152.upN (Or.inr (Or.inl (by decide)))
        have r190 : SG 5 5 0 12 g181 := by rw [← eg181]; exact r149.upN (Or.inr (Or.inl (by decide)))
        have r191 : SG 6 6 0 12 g181 := by rw [← eg181]; exact r150.upN (Or.inr (Or.inl (by decide)))
        have r192 : SG 7 7 0 6 g181 := by rw [← eg181]; exact r151.upN (Or.inr (Or.inl (by decide)))
        refine iast_n hx hb hK hP hD hS 0 0 rfl rfl 334 rfl (Nat.le_of_ble_eq_true rfl) (Nat.le_of_ble_eq_true rfl) eg181 dX10_course_165 (fun H locs hP hD hS => ?_)
        have hP : va_P D vwCl [(h_s, .inl (cI, 335, .inl g181)), (h_names, .inl (cJ, 36, .inr (.inl w160))), (h_reserved, .inl (cJ, 23, .inr (.inl f_reserved))), (h_h, .inl (cI, 104, .inl w90)), (h0, .inr (10, vL 67 F172)), (h_tape, .inl (cB, 940, .inl f_tape))] H := hP
        have hD : va_D A [(h_s, .inl (cI, 335, .inl g181)), (h_names, .inl (cJ, 36, .inr (.inl w160))), (h_reserved, .inl (cJ, 23, .inr (.inl f_reserved))), (h_h, .inl (cI, 104, .inl w90)), (h0, .inr (10, vL 67 F172)), (h_tape, .inl (cB, 940, .inl f_tape))] := hD
        refine lv_aload_n hx hb dX10_course_166 rfl (lv_at hl 1 rfl) ?_
        refine get_f (D := D) (ci := 10) (v := .ref h_s) (C := RX10) (T := TX10) (N := 67) hx hb hw inAX10 hown hK hP 4 rfl rfl 6 (by decide) (hw _ q_1267) (fun _ h9 => h9) n180 dX10_course_167 ?_
        refine lv_bipush (v := 115) hx hb dX10_course_170 (by decide) ?_
        refine lv_iconst (v := 1) hx hb dX10_course_172 (by decide) ?_
        obtain ⟨g193, eg193⟩ : ∃ z : Nat → Int32, upd g181 115 1 = z := ⟨_, rfl⟩
        have r194 : KW 0 g193 := by rw [← eg193]; exact r182.upN (by decide)
        have r195 : SG 0 0 0 40 g193 := by rw [← eg193]; exact r183.upN (Or.inr (Or.inl (by decide)))
        have r196 : SG 105 108 0 11 g193 := by rw [← eg193]; exact r184.upN (Or.inr (Or.inl (by decide)))
        have r197 : SG 114 114 0 5 g193 := by rw [← eg193]; exact r185.upN (Or.inr (Or.inl (by decide)))
        have r198 : SG 130 133 0 11 g193 := by rw [← eg193]; exact r186.upN (Or.inl (by decide))
        have r199 : SG 139 139 0 5 g193 := by rw [← eg193]; exact r187.upN (Or.inl (by decide))
        have r200 : SG 153 153 0 0 g193 := by rw [← eg193]; exact r188.upN (Or.inl (by decide))
        have r201 : SG 44 55 0 9 g193 := by rw [← eg193]; exact r189.upN (Or.inr (Or.inl (by decide)))
        have r202 : SG 5 5 0 12 g193 := by rw [← eg193]; exact r190.upN (Or.inr (Or.inl (by decide)))
        have r203 : SG 6 6 0 12 g193 := by rw [← eg193]; exact r191.upN (Or.inr (Or.inl (by decide)))
        have r204 : SG 7 7 0 6 g193 := by rw [← eg193]; exact r192.upN (Or.inr (Or.inl (by decide)))
        refine iast_n hx hb hK hP hD hS 0 0 rfl rfl 115 rfl (Nat.le_of_ble_eq_true rfl) (Nat.le_of_ble_eq_true rfl) eg193 dX10_course_173 (fun H locs hP hD hS => ?_)
        have hP : va_P D vwCl [(h_s, .inl (cI, 335, .inl g193)), (h_names, .inl (cJ, 36, .inr (.inl w160))), (h_reserved, .inl (cJ, 23, .inr (.inl f_reserved))), (h_h, .inl (cI, 104, .inl w90)), (h0, .inr (10, vL 67 F172)), (h_tape, .inl (cB, 940, .inl f_tape))] H := hP
        have hD : va_D A [(h_s, .inl (cI, 335, .inl g193)), (h_names, .inl (cJ, 36, .inr (.inl w160))), (h_reserved, .inl (cJ, 23, .inr (.inl f_reserved))), (h_h, .inl (cI, 104, .inl w90)), (h0, .inr (10, vL 67 F172)), (h_tape, .inl (cB, 940, .inl f_tape))] := hD
        refine lv_iconst (v := 0) hx hb dX10_course_174 (by decide) ?_
        refine lv_istore_n (lv' := [(1, .int 0), (0, .ref h0)]) hx hb dX10_course_175 rfl hl (by decide) rfl (fun ls hl => ?_)
        refine mloop (α := (Int32) × (Nat → Int32)) (nL := 2) (D := D) (A := A) (H0 := s.heap) (fun a => (12 - a.1.toInt).toNat) (fun a => IR 0 12 a.1 ∧ KW 0 a.2 ∧ SG 0 0 0 40 a.2 ∧ SG 105 108 0 11 a.2 ∧ SG 114 114 0 5 a.2 ∧ SG 130 133 0 11 a.2 ∧ SG 139 139 0 5 a.2 ∧ SG 153 153 0 44 a.2 ∧ SG 44 55 0 9 a.2 ∧ SG 5 5 0 12 a.2 ∧ SG 6 6 0 12 a.2 ∧ SG 7 7 0 6 a.2) (fun a => [(h_s, .inl (cI, 335, .inl a.2)), (h_names, .inl (cJ, 36, .inr (.inl w160))), (h_reserved, .inl (cJ, 23, .inr (.inl f_reserved))), (h_h, .inl (cI, 104, .inl w90)), (h0, .inr (10, vL 67 F172)), (h_tape, .inl (cB, 940, .inl f_tape))]) (fun a => [(1, .int a.1), (0, .ref h0)]) (fun H locs ls => W p l e ({ frames := 4, cells := 0, slots := 0, locals := 87 } : Room) s m [.ref h0].toArray below meth c H locs 0 0 (MQ below (va_Qi (fun (r : Int32) (u : va_W) => ∃ (Gh : Nat → Value) (y_p : Int32) (y_token : Int32) (y_at : Int32) (y_span : Int32) (y_number : Int32) (y_fault : Int32) (y_faultAt : Int32) (y_ids : Int32) (y_word : Int64) (y_got : Int32) (y_lines : Int32) (y_onces : Int32) (y_undoMany : Int32) (g_s : Nat → Int32) (g_h : Nat → Int32) (g_names : Nat → Int64), SAME [0, 2, 3, 4, 5, 11, 12, 13, 14, 15, 16, 17, 18, 19, 20, 21, 41] Fh Gh ∧ Gh 0 = .int 0 ∧ Gh 2 = .int 0 ∧ Gh 3 = .int x_length ∧ Gh 4 = .int y_p ∧ IR 0 940 y_p ∧ Gh 5 = .int 900 ∧ Gh 11 = .int y_token ∧ IR 0 4 y_token ∧ Gh 12 = .int y_at ∧ Gh 13 = .int y_span ∧ Gh 14 = .int y_number ∧ Gh 15 = .int y_fault ∧ IR 0 4 y_fault ∧ Gh 16 = .int y_faultAt ∧ Gh 17 = .int y_ids ∧ Gh 18 = .long y_word ∧ Gh 19 = .int y_got ∧ Gh 20 = .int y_lines ∧ Gh 21 = .int y_onces ∧ Gh 41 = .int y_undoMany ∧ IR 0 8 y_undoMany ∧ SG 153 153 0 44 g_s ∧ SG 0 0 0 40 g_s ∧ SG 5 5 0 12 g_s ∧ SG 6 6 0 12 g_s ∧ SG 7 7 0 6 g_s ∧ SG 44 55 0 9 g_s ∧ KW 0 g_s ∧ SG 105 108 0 11 g_s ∧ SG 114 114 0 5 g_s ∧ SG 130 133 0 11 g_s ∧ SG 139 139 0 5 g_s ∧ SG 0 0 0 40 g_h ∧ SG 5 5 0 12 g_h ∧ SG 6 6 0 12 g_h ∧ SG 7 7 0 6 g_h ∧ SG 44 55 0 9 g_h ∧ (r.toInt = cAns (cTxt f_tape x_length.toInt)) ∧ ((y_token.toInt = 2 → 0 ≤ y_number.toInt ∧ y_number.toInt ≤ 999)) ∧ u = [(h0, .inr (10, vL 67 Gh)), (h_tape, .inl (cB, 940, .inl f_tape)), (h_s, .inl (cI, 335, .inl g_s)), (h_h, .inl (cI, 104, .inl g_h)), (h_names, .inl (cJ, 36, .inr (.inl g_names))), (h_reserved, .inl (cJ, 23, .inr (.inl f_reserved)))]) (PO D A) A) [.ref h0].toArray s 0 0 A) (F0 m 176 ls [])) ?_ (0, g193) ⟨(show 0 ≤ (0 : Int32).toInt ∧ (0 : Int32).toInt ≤ 12 by decide), r194, r195, r196, r197, r198, r199, (SG.wk r200 (by decide) (by decide)), r201, r202, r203, r204⟩ _ _ _ hP hD hS hl
        rintro ⟨u205, w206⟩ ⟨i207, i208, i209, i210, i211, i212, i213, i214, i215, i216, i217, i218⟩ ih_176 H locs ls hP hD hS hl
        have i207 : 0 ≤ u205.toInt ∧ u205.toInt ≤ 12 := i207
        have hP : va_P D vwCl [(h_s, .inl (cI, 335, .inl w206)), (h_names, .inl (cJ, 36, .inr (.inl w160))), (h_reserved, .inl (cJ, 23, .inr (.inl f_reserved))), (h_h, .inl (cI, 104, .inl w90)), (h0, .inr (10, vL 67 F172)), (h_tape, .inl (cB, 940, .inl f_tape))] H := hP
        have hD : va_D A [(h_s, .inl (cI, 335, .inl w206)), (h_names, .inl (cJ, 36, .inr (.inl w160))), (h_reserved, .inl (cJ, 23, .inr (.inl f_reserved))), (h_h, .inl (cI, 104, .inl w90)), (h0, .inr (10, vL 67 F172)), (h_tape, .inl (cB, 940, .inl f_tape))] := hD
        have hl : lv_has ls 2 [(1, .int u205), (0, .ref h0)] := hl
        refine lv_iload_n hx hb dX10_course_176 rfl (lv_at hl 0 rfl) ?_
        refine lv_aload_n hx hb dX10_course_177 rfl (lv_at hl 1 rfl) ?_
        refine get_f (D := D) (ci := 10) (v := .ref h_s) (C := RX10) (T := TX10) (N := 67) hx hb hw inAX10 hown hK hP 4 rfl rfl 6 (by decide) (hw _ q_1267) (fun _ h9 => h9) n180 dX10_course_178 ?_
        refine lv_bipush (v := 6) hx hb dX10_course_181 (by decide) ?_
        refine iald_n hx hb hK hP 0 0 rfl rfl 6 rfl (Nat.le_of_ble_eq_true rfl) (Nat.le_of_ble_eq_true rfl) rfl dX10_course_183 ?_
        refine lv_topi (fun v219 ev219 => ?_)
        have k220 : 0 ≤ v219.toInt ∧ v219.toInt ≤ 12 := by rw [ev219]; exact i217.atN 6 (by decide) (by decide)
        refine lv_icmp_ge (tgt := 211) hx hb dX10_course_184 (by decide) (fun c221 => ?_) (fun c221 => ?_)
        · have dc221 : v219.toInt ≤ u205.toInt := le_i (a := v219.toInt) (b := u205.toInt) rfl rfl c221
          refine lv_aload_n hx hb dX10_course_211 rfl (lv_at hl 1 rfl) ?_
          refine lv_iconst (v := 0) hx hb dX10_course_212 (by decide) ?_
          refine put_f (D := D) (ci := 10) (v := .int 0) (ty := .int) (C := RX10) (T := TX10) (N := 67) hx hb hw inAX10 tyX10 tyX10_ok nmX10 hown hK hP hD hS 4 rfl rfl 41 (by decide) (hw _ q_1302) (fun _ h9 => h9) rfl (by decide +kernel) rfl rfl dX10_course_213 (fun H locs F222 eF222 hP hD hS => ?_)
          have hP : va_P D vwCl [(h_s, .inl (cI, 335, .inl w206)), (h_names, .inl (cJ, 36, .inr (.inl w160))), (h_reserved, .inl (cJ, 23, .inr (.inl f_reserved))), (h_h, .inl (cI, 104, .inl w90)), (h0, .inr (10, vL 67 F222)), (h_tape, .inl (cB, 940, .inl f_tape))] H := hP
          have hD : va_D A [(h_s, .inl (cI, 335, .inl w206)), (h_names, .inl (cJ, 36, .inr (.inl w160))), (h_reserved, .inl (cJ, 23, .inr (.inl f_reserved))), (h_h, .inl (cI, 104, .inl w90)), (h0, .inr (10, vL 67 F222)), (h_tape, .inl (cB, 940, .inl f_tape))] := hD
          refine lv_aload_n hx hb dX10_course_216 rfl (lv_at hl 1 rfl) ?_
          have n223 : F172 20 = .int u101 := (get_ne eF172 (by decide) i119)
          have n224 : F222 20 = .int u101 := (get_ne eF222 (by decide) n223)
          refine get_f (D := D) (ci := 10) (v := .int u101) (C := RX10) (T := TX10) (N := 67) hx hb hw inAX10 hown hK hP 4 rfl rfl 20 (by decide) (hw _ q_1281) (fun _ h9 => h9) n224 dX10_course_217 ?_
          exact ret_i (v := u101) hx hb hr hlocks hS (hP.sub (ws' := [(h0, .inr (10, vL 67 F222)), (h_tape, .inl (cB, 940, .inl f_tape)), (h_s, .inl (cI, 335, .inl w206)), (h_h, .inl (cI, 104, .inl w90)), (h_names, .inl (cJ, 36, .inr (.inl w160))), (h_reserved, .inl (cJ, 23, .inr (.inl f_reserved)))]) [4, 5, 0, 3, 1, 2] rfl) (hD.sub (ws' := [(h0, .inr (10, vL 67 F222)), (h_tape, .inl (cB, 940, .inl f_tape)), (h_s, .inl (cI, 335, .inl w206)), (h_h, .inl (cI, 104, .inl w90)), (h_names, .inl (cJ, 36, .inr (.inl w160))), (h_reserved, .inl (cJ, 23, .inr (.inl f_reserved)))]) [4, 5, 0, 3, 1, 2] (by decide) rfl) dX10_course_220 rfl (Nat.le_of_ble_eq_true rfl) (Nat.le_of_ble_eq_true rfl) ⟨F222, u92, u93, u94, u95, u96, u97, u98, v171, u99, u100, u101, u102, 0, w206, w90, w160, (SAME.up eF222 (SAME.up eF172 (SAME.tr (SAME.tr (SAME.up eF13 (SAME.up eF12 (SAME.up eF11 (SAME.tr (SAME.up eF1 SAME.rf (by decide)) t5 (by decide)) (by decide)) (by decide)) (by decide)) t72 (by decide)) i109 (by decide)) (by decide)) (by decide)), (get_ne eF222 (by decide) (get_ne eF172 (by decide) (SAME.at i109 (by decide) (SAME.at t72 (by decide) (get_ne eF13 (by decide) (get_ne eF12 (by decide) (get_ne eF11 (by decide) (SAME.at t5 (by decide) (get_eq eF1))))))))), (get_ne eF222 (by decide) (get_ne eF172 (by decide) (SAME.at i109 (by decide) (SAME.at t72 (by decide) (get_ne eF13 (by decide) (get_ne eF12 (by decide) (get_ne eF11 (by decide) t6))))))), (get_ne eF222 (by decide) (get_ne eF172 (by decide) (SAME.at i109 (by decide) (SAME.at t72 (by decide) n37)))), (get_ne eF222 (by decide) (get_ne eF172 (by decide) i110)), i121, (get_ne eF222 (by decide) (get_ne eF172 (by decide) (SAME.at i109 (by decide) (SAME.at t72 (by decide) n43)))), (get_ne eF222 (by decide) (get_ne eF172 (by decide) i111)), i122, (get_ne eF222 (by decide) (get_ne eF172 (by decide) i112)), (get_ne eF222 (by decide) (get_ne eF172 (by decide) i113)), (get_ne eF222 (by decide) (get_ne eF172 (by decide) i114)), (get_ne eF222 (by decide) (get_ne eF172 (by decide) i115)), (ir_wk i125 (by decide) (by decide)), (get_ne eF222 (by decide) (get_ne eF172 (by decide) i116)), (get_ne eF222 (by decide) (get_eq eF172)), (get_ne eF222 (by decide) (get_ne eF172 (by decide) i117)), (get_ne eF222 (by decide) (get_ne eF172 (by decide) i118)), n224, (get_ne eF222 (by decide) (get_ne eF172 (by decide) i120)), (get_eq eF222), (show 0 ≤ (0 : Int32).toInt ∧ (0 : Int32).toInt ≤ 8 by decide), i214, i209, i216, i217, i218, i215, i208, i210, i211, i212, i213, i104, i106, i107, i108, i105, (cAns_r2 (crs_0 t85 (csM_0 t26) (CA.fin i126 (Or.inr (tkM_end.mpr i132))))), (by have zl0 : (0 : Int32).toInt = 0 := (by decide); omega), rfl⟩
        · have dc221 : u205.toInt < v219.toInt := nle_i (a := v219.toInt) (b := u205.toInt) rfl rfl c221
          have k225 : 0 ≤ u205.toInt ∧ u205.toInt ≤ 11 := ⟨i207.1, up_lt dc221 k220.2 (by decide)⟩
          have k226 : 1 ≤ v219.toInt ∧ v219.toInt ≤ 12 := ⟨lo_lt dc221 i207.1 (by decide), k220.2⟩
          refine lv_aload_n hx hb dX10_course_187 rfl (lv_at hl 1 rfl) ?_
          refine get_f (D := D) (ci := 10) (v := .ref h_s) (C := RX10) (T := TX10) (N := 67) hx hb hw inAX10 hown hK hP 4 rfl rfl 6 (by decide) (hw _ q_1267) (fun _ h9 => h9) n180 dX10_course_188 ?_
          refine lv_bipush (v := 116) hx hb dX10_course_191 (by decide) ?_
          refine lv_iload_n hx hb dX10_course_193 rfl (lv_at hl 0 rfl) ?_
          refine lv_iadd hx hb dX10_course_194 ?_
          refine lv_topi (fun v227 ev227 => ?_)
          have bv227 : v227.toInt = 116 + u205.toInt := by rw [ev227]; exact add_k rfl rfl ⟨Int.le_refl _, Int.le_refl _⟩ k225 (by decide)
          have k228 : 116 ≤ v227.toInt ∧ v227.toInt ≤ 127 := add_r bv227 ⟨Int.le_refl _, Int.le_refl _⟩ k225 (by decide)
          refine lv_aload_n hx hb dX10_course_195 rfl (lv_at hl 1 rfl) ?_
          refine get_f (D := D) (ci := 10) (v := .ref h_s) (C := RX10) (T := TX10) (N := 67) hx hb hw inAX10 hown hK hP 4 rfl rfl 6 (by decide) (hw _ q_1267) (fun _ h9 => h9) n180 dX10_course_196 ?_
          refine lv_bipush (v := 68) hx hb dX10_course_199 (by decide) ?_
          refine lv_iload_n hx hb dX10_course_201 rfl (lv_at hl 0 rfl) ?_
          refine lv_iadd hx hb dX10_course_202 ?_
          refine lv_topi (fun v229 ev229 => ?_)
          have bv229 : v229.toInt = 68 + u205.toInt := by rw [ev229]; exact add_k rfl rfl ⟨Int.le_refl _, Int.le_refl _⟩ k225 (by decide)
          have k230 : 68 ≤ v229.toInt ∧ v229.toInt ≤ 79 := add_r bv229 ⟨Int.le_refl _, Int.le_refl _⟩ k225 (by decide)
          refine va_iald hx hb hK hP 0 0 rfl rfl (ix_k k230 (by decide) (by decide)) dX10_course_203 ?_
          refine lv_topi (fun v231 ev231 => ?_)
          obtain ⟨g232, eg232⟩ : ∃ z : Nat → Int32, upd w206 v227.toNatClampNeg v231 = z := ⟨_, rfl⟩
          have r233 : KW 0 g232 := by rw [← eg232]; exact i208.up (Int.le_trans (by decide) k228.1) (Or.inl (lt_dec k228.2 (by decide)))
          have r234 : SG 0 0 0 40 g232 := by rw [← eg232]; exact i209.up (Int.le_trans (by decide) k228.1) (Or.inr (Or.inl (dec_lt k228.1 (by decide))))
          have r235 : SG 105 108 0 11 g232 := by rw [← eg232]; exact i210.up (Int.le_trans (by decide) k228.1) (Or.inr (Or.inl (dec_lt k228.1 (by decide))))
          have r236 : SG 114 114 0 5 g232 := by rw [← eg232]; exact i211.up (Int.le_trans (by decide) k228.1) (Or.inr (Or.inl (dec_lt k228.1 (by decide))))
          have r237 : SG 130 133 0 11 g232 := by rw [← eg232]; exact i212.up (Int.le_trans (by decide) k228.1) (Or.inl (lt_dec k228.2 (by decide)))
          have r238 : SG 139 139 0 5 g232 := by rw [← eg232]; exact i213.up (Int.le_trans (by decide) k228.1) (Or.inl (lt_dec k228.2 (by decide)))
          have r239 : SG 153 153 0 44 g232 := by rw [← eg232]; exact i214.up (Int.le_trans (by decide) k228.1) (Or.inl (lt_dec k228.2 (by decide)))
          have r240 : SG 44 55 0 9 g232 := by rw [← eg232]; exact i215.up (Int.le_trans (by decide) k228.1) (Or.inr (Or.inl (dec_lt k228.1 (by decide))))
          have r241 : SG 5 5 0 12 g232 := by rw [← eg232]; exact i216.up (Int.le_trans (by decide) k228.1) (Or.inr (Or.inl (dec_lt k228.1 (by decide))))
          have r242 : SG 6 6 0 12 g232 := by rw [← eg232]; exact i217.up (Int.le_trans (by decide) k228.1) (Or.inr (Or.inl (dec_lt k228.1 (by decide))))
          have r243 : SG 7 7 0 6 g232 := by rw [← eg232]; exact i218.up (Int.le_trans (by decide) k228.1) (Or.inr (Or.inl (dec_lt k228.1 (by decide))))
          refine iast_g hx hb hK hP hD hS 0 0 rfl rfl (ix_k k228 (by decide) (by decide)) eg232 dX10_course_204 (fun H locs hP hD hS => ?_)
          have hP : va_P D vwCl [(h_s, .inl (cI, 335, .inl g232)), (h_names, .inl (cJ, 36, .inr (.inl w160))), (h_reserved, .inl (cJ, 23, .inr (.inl f_reserved))), (h_h, .inl (cI, 104, .inl w90)), (h0, .inr (10, vL 67 F172)), (h_tape, .inl (cB, 940, .inl f_tape))] H := hP
          have hD : va_D A [(h_s, .inl (cI, 335, .inl g232)), (h_names, .inl (cJ, 36, .inr (.inl w160))), (h_reserved, .inl (cJ, 23, .inr (.inl f_reserved))), (h_h, .inl (cI, 104, .inl w90)), (h0, .inr (10, vL 67 F172)), (h_tape, .inl (cB, 940, .inl f_tape))] := hD
          obtain ⟨v244, ev244⟩ : ∃ z : Int32, z = u205 + 1 := ⟨_, rfl⟩
          have bv244 : v244.toInt = u205.toInt + 1 := by rw [ev244]; exact add_k rfl rfl k225 ⟨Int.le_refl _, Int.le_refl _⟩ (by decide)
          have k245 : 1 ≤ v244.toInt ∧ v244.toInt ≤ 12 := add_r bv244 k225 ⟨Int.le_refl _, Int.le_refl _⟩ (by decide)
          refine lv_iinc (v := v244) (lv' := [(1, .int v244), (0, .ref h0)]) hx hb dX10_course_205 hl (k := 0) rfl (by rw [ev244]; rfl) (by decide) rfl (fun ls hl => ?_)
          refine lv_goto (tgt := 176) hx hb dX10_course_208 (by decide) ?_
          exact ih_176 (v244, g232) ⟨(ir_wk k245 (by decide) (by decide)), r233, r234, r235, r236, r237, r238, r239, r240, r241, r242, r243⟩ (by show (12 - v244.toInt).toNat < (12 - u205.toInt).toNat; omega) _ _ _ hP hD hS (lv_sub hl [0, 1] rfl)
      · have dc162 : u159.toInt < 18 := nle_i (a := 18) (b := u159.toInt) rfl rfl c162
        have k246 : 0 ≤ u159.toInt ∧ u159.toInt ≤ 17 := ⟨i161.1, up_lt dc162 (Int.le_refl _) (by decide)⟩
        refine lv_aload_n hx hb dX10_course_123 rfl (lv_at hl 1 rfl) ?_
        have n247 : F1 9 = .ref h_names := (get_ne eF1 (by decide) e_names)
        have n248 : F4 9 = .ref h_names := (SAME.at t5 (by decide) n247)
        have n249 : F11 9 = .ref h_names := (get_ne eF11 (by decide) n248)
        have n250 : F12 9 = .ref h_names := (get_ne eF12 (by decide) n249)
        have n251 : F13 9 = .ref h_names := (get_ne eF13 (by decide) n250)
        have n252 : F65 9 = .ref h_names := (SAME.at t72 (by decide) n251)
        have n253 : G91 9 = .ref h_names := (SAME.at i109 (by decide) n252)
        refine get_f (D := D) (ci := 10) (v := .ref h_names) (C := RX10) (T := TX10) (N := 67) hx hb hw inAX10 hown hK hP 4 rfl rfl 9 (by decide) (hw _ q_1270) (fun _ h9 => h9) n253 dX10_course_124 ?_
        refine lv_iload_n hx hb dX10_course_127 rfl (lv_at hl 0 rfl) ?_
        refine lv_aload_n hx hb dX10_course_128 rfl (lv_at hl 1 rfl) ?_
        refine get_f (D := D) (ci := 10) (v := .ref h_names) (C := RX10) (T := TX10) (N := 67) hx hb hw inAX10 hown hK hP 4 rfl rfl 9 (by decide) (hw _ q_1270) (fun _ h9 => h9) n253 dX10_course_129 ?_
        refine lv_bipush (v := 18) hx hb dX10_course_132 (by decide) ?_
        refine lv_iload_n hx hb dX10_course_134 rfl (lv_at hl 0 rfl) ?_
        refine lv_iadd hx hb dX10_course_135 ?_
        refine lv_topi (fun v254 ev254 => ?_)
        have bv254 : v254.toInt = 18 + u159.toInt := by rw [ev254]; exact add_k rfl rfl ⟨Int.le_refl _, Int.le_refl _⟩ k246 (by decide)
        have k255 : 18 ≤ v254.toInt ∧ v254.toInt ≤ 35 := add_r bv254 ⟨Int.le_refl _, Int.le_refl _⟩ k246 (by decide)
        refine va_lald hx hb hK hP 1 1 rfl rfl (ix_k k255 (by decide) (by decide)) dX10_course_136 ?_
        refine lv_topl (fun v256 ev256 => ?_)
        obtain ⟨g257, eg257⟩ : ∃ z : Nat → Int64, vp_updL w160 u159.toNatClampNeg v256 = z := ⟨_, rfl⟩
        refine last_g hx hb hK hP hD hS 1 1 rfl rfl (ix_k k246 (by decide) (by decide)) eg257 dX10_course_137 (fun H locs hP hD hS => ?_)
        have hP : va_P D vwCl [(h_s, .inl (cI, 335, .inl w134)), (h_names, .inl (cJ, 36, .inr (.inl g257))), (h_reserved, .inl (cJ, 23, .inr (.inl f_reserved))), (h_h, .inl (cI, 104, .inl w90)), (h0, .inr (10, vL 67 G91)), (h_tape, .inl (cB, 940, .inl f_tape))] H := hP
        have hD : va_D A [(h_s, .inl (cI, 335, .inl w134)), (h_names, .inl (cJ, 36, .inr (.inl g257))), (h_reserved, .inl (cJ, 23, .inr (.inl f_reserved))), (h_h, .inl (cI, 104, .inl w90)), (h0, .inr (10, vL 67 G91)), (h_tape, .inl (cB, 940, .inl f_tape))] := hD
        obtain ⟨v258, ev258⟩ : ∃ z : Int32, z = u159 + 1 := ⟨_, rfl⟩
        have bv258 : v258.toInt = u159.toInt + 1 := by rw [ev258]; exact add_k rfl rfl k246 ⟨Int.le_refl _, Int.le_refl _⟩ (by decide)
        have k259 : 1 ≤ v258.toInt ∧ v258.toInt ≤ 18 := add_r bv258 k246 ⟨Int.le_refl _, Int.le_refl _⟩ (by decide)
        refine lv_iinc (v := v258) (lv' := [(1, .int v258), (0, .ref h0)]) hx hb dX10_course_138 hl (k := 0) rfl (by rw [ev258]; rfl) (by decide) rfl (fun ls hl => ?_)
        refine lv_goto (tgt := 117) hx hb dX10_course_141 (by decide) ?_
        exact ih_117 (v258, g257) (ir_wk k259 (by decide) (by decide)) (by show (18 - v258.toInt).toNat < (18 - u159.toInt).toNat; omega) _ _ _ hP hD hS (lv_sub hl [0, 1] rfl)
    · have dc146 : u133.toInt < 335 := nle_i (a := 335) (b := u133.toInt) rfl rfl c146
      have k260 : 0 ≤ u133.toInt ∧ u133.toInt ≤ 334 := ⟨i135.1, up_lt dc146 (Int.le_refl _) (by decide)⟩
      refine lv_aload_n hx hb dX10_course_87 rfl (lv_at hl 1 rfl) ?_
      have n261 : F1 6 = .ref h_s := (get_ne eF1 (by decide) e_s)
      have n262 : F4 6 = .ref h_s := (SAME.at t5 (by decide) n261)
      have n263 : F11 6 = .ref h_s := (get_ne eF11 (by decide) n262)
      have n264 : F12 6 = .ref h_s := (get_ne eF12 (by decide) n263)
      have n265 : F13 6 = .ref h_s := (get_ne eF13 (by decide) n264)
      have n266 : F65 6 = .ref h_s := (SAME.at t72 (by decide) n265)
      have n267 : G91 6 = .ref h_s := (SAME.at i109 (by decide) n266)
      refine get_f (D := D) (ci := 10) (v := .ref h_s) (C := RX10) (T := TX10) (N := 67) hx hb hw inAX10 hown hK hP 4 rfl rfl 6 (by decide) (hw _ q_1267) (fun _ h9 => h9) n267 dX10_course_88 ?_
      refine lv_iload_n hx hb dX10_course_91 rfl (lv_at hl 0 rfl) ?_
      refine lv_iload_n hx hb dX10_course_92 rfl (lv_at hl 0 rfl) ?_
      refine lv_bipush (v := 104) hx hb dX10_course_93 (by decide) ?_
      refine lv_icmp_ge (tgt := 107) hx hb dX10_course_95 (by decide) (fun c268 => ?_) (fun c268 => ?_)
      · have dc268 : 104 ≤ u133.toInt := le_i (a := 104) (b := u133.toInt) rfl rfl c268
        have k269 : 104 ≤ u133.toInt ∧ u133.toInt ≤ 334 := ⟨Int.le_trans (Int.le_refl _) dc268, k260.2⟩
        refine lv_iconst (v := 0) hx hb dX10_course_107 (by decide) ?_
        obtain ⟨g270, eg270⟩ : ∃ z : Nat → Int32, upd w134 u133.toNatClampNeg 0 = z := ⟨_, rfl⟩
        refine iast_g hx hb hK hP hD hS 0 0 rfl rfl (ix_k k269 (by decide) (by decide)) eg270 dX10_course_108 (fun H locs hP hD hS => ?_)
        have hP : va_P D vwCl [(h_s, .inl (cI, 335, .inl g270)), (h_names, .inl (cJ, 36, .inr (.inl w89))), (h_reserved, .inl (cJ, 23, .inr (.inl f_reserved))), (h_h, .inl (cI, 104, .inl w90)), (h0, .inr (10, vL 67 G91)), (h_tape, .inl (cB, 940, .inl f_tape))] H := hP
        have hD : va_D A [(h_s, .inl (cI, 335, .inl g270)), (h_names, .inl (cJ, 36, .inr (.inl w89))), (h_reserved, .inl (cJ, 23, .inr (.inl f_reserved))), (h_h, .inl (cI, 104, .inl w90)), (h0, .inr (10, vL 67 G91)), (h_tape, .inl (cB, 940, .inl f_tape))] := hD
        obtain ⟨v271, ev271⟩ : ∃ z : Int32, z = u133 + 1 := ⟨_, rfl⟩
        have bv271 : v271.toInt = u133.toInt + 1 := by rw [ev271]; exact add_k rfl rfl k269 ⟨Int.le_refl _, Int.le_refl _⟩ (by decide)
        have k272 : 105 ≤ v271.toInt ∧ v271.toInt ≤ 335 := add_r bv271 k269 ⟨Int.le_refl _, Int.le_refl _⟩ (by decide)
        refine lv_iinc (v := v271) (lv' := [(1, .int v271), (0, .ref h0)]) hx hb dX10_course_109 hl (k := 0) rfl (by rw [ev271]; rfl) (by decide) rfl (fun ls hl => ?_)
        refine lv_goto (tgt := 80) hx hb dX10_course_112 (by decide) ?_
        exact ih (v271, g270) ⟨(ir_wk k272 (by decide) (by decide)), (SGK.step i136 eg270 (by omega) (by omega) (by omega) (fun q1 q2 => ⟨by decide, by decide⟩)), (SGK.step i137 eg270 (by omega) (by omega) (by omega) (fun q1 q2 => ⟨by decide, by decide⟩)), (SGK.step i138 eg270 (by omega) (by omega) (by omega) (fun q1 q2 => ⟨by decide, by decide⟩)), (SGK.step i139 eg270 (by omega) (by omega) (by omega) (fun q1 q2 => ⟨by decide, by decide⟩)), (SGK.step i140 eg270 (by omega) (by omega) (by omega) (fun q1 q2 => ⟨by decide, by decide⟩)), (SGK.step i141 eg270 (by omega) (by omega) (by omega) (fun q1 q2 => ⟨by decide, by decide⟩)), (SGK.step i142 eg270 (by omega) (by omega) (by omega) (fun q1 q2 => ⟨by decide, by decide⟩)), (SGK.step i143 eg270 (by omega) (by omega) (by omega) (fun q1 q2 => ⟨by decide, by decide⟩)), (SGK.step i144 eg270 (by omega) (by omega) (by omega) (fun q1 q2 => ⟨by decide, by decide⟩)), (SGK.step i145 eg270 (by omega) (by omega) (by omega) (fun q1 q2 => ⟨by decide, by decide⟩))⟩ (by show (335 - v271.toInt).toNat < (335 - u133.toInt).toNat; omega) _ _ _ hP hD hS (lv_sub hl [0, 1] rfl)
      · have dc268 : u133.toInt < 104 := nle_i (a := 104) (b := u133.toInt) rfl rfl c268
        have k273 : 0 ≤ u133.toInt ∧ u133.toInt ≤ 103 := ⟨k260.1, up_lt dc268 (Int.le_refl _) (by decide)⟩
        refine lv_aload_n hx hb dX10_course_98 rfl (lv_at hl 1 rfl) ?_
        have n274 : F65 7 = .ref h_h := (SAME.at t72 (by decide) n18)
        have n275 : G91 7 = .ref h_h := (SAME.at i109 (by decide) n274)
        refine get_f (D := D) (ci := 10) (v := .ref h_h) (C := RX10) (T := TX10) (N := 67) hx hb hw inAX10 hown hK hP 4 rfl rfl 7 (by decide) (hw _ q_1268) (fun _ h9 => h9) n275 dX10_course_99 ?_
        refine lv_iload_n hx hb dX10_course_102 rfl (lv_at hl 0 rfl) ?_
        refine va_iald hx hb hK hP 3 0 rfl rfl (ix_k k273 (by decide) (by decide)) dX10_course_103 ?_
        refine lv_topi (fun v276 ev276 => ?_)
        have r277 : IMP (0 ≤ u133.toInt → u133.toInt ≤ 0 → 0 ≤ v276.toInt ∧ v276.toInt ≤ 40) := IMP.mk (fun q1 q2 => by rw [ev276]; exact i104.at _ q1 q2)
        have r278 : IMP (44 ≤ u133.toInt → u133.toInt ≤ 55 → 0 ≤ v276.toInt ∧ v276.toInt ≤ 9) := IMP.mk (fun q1 q2 => by rw [ev276]; exact i105.at _ q1 q2)
        have r279 : IMP (5 ≤ u133.toInt → u133.toInt ≤ 5 → 0 ≤ v276.toInt ∧ v276.toInt ≤ 12) := IMP.mk (fun q1 q2 => by rw [ev276]; exact i106.at _ q1 q2)
        have r280 : IMP (6 ≤ u133.toInt → u133.toInt ≤ 6 → 0 ≤ v276.toInt ∧ v276.toInt ≤ 12) := IMP.mk (fun q1 q2 => by rw [ev276]; exact i107.at _ q1 q2)
        have r281 : IMP (7 ≤ u133.toInt → u133.toInt ≤ 7 → 0 ≤ v276.toInt ∧ v276.toInt ≤ 6) := IMP.mk (fun q1 q2 => by rw [ev276]; exact i108.at _ q1 q2)
        refine lv_goto (tgt := 108) hx hb dX10_course_104 (by decide) ?_
        obtain ⟨g282, eg282⟩ : ∃ z : Nat → Int32, upd w134 u133.toNatClampNeg v276 = z := ⟨_, rfl⟩
        refine iast_g hx hb hK hP hD hS 0 0 rfl rfl (ix_k k273 (by decide) (by decide)) eg282 dX10_course_108 (fun H locs hP hD hS => ?_)
        have hP : va_P D vwCl [(h_s, .inl (cI, 335, .inl g282)), (h_names, .inl (cJ, 36, .inr (.inl w89))), (h_reserved, .inl (cJ, 23, .inr (.inl f_reserved))), (h_h, .inl (cI, 104, .inl w90)), (h0, .inr (10, vL 67 G91)), (h_tape, .inl (cB, 940, .inl f_tape))] H := hP
        have hD : va_D A [(h_s, .inl (cI, 335, .inl g282)), (h_names, .inl (cJ, 36, .inr (.inl w89))), (h_reserved, .inl (cJ, 23, .inr (.inl f_reserved))), (h_h, .inl (cI, 104, .inl w90)), (h0, .inr (10, vL 67 G91)), (h_tape, .inl (cB, 940, .inl f_tape))] := hD
        obtain ⟨v283, ev283⟩ : ∃ z : Int32, z = u133 + 1 := ⟨_, rfl⟩
        have bv283 : v283.toInt = u133.toInt + 1 := by rw [ev283]; exact add_k rfl rfl k273 ⟨Int.le_refl _, Int.le_refl _⟩ (by decide)
        have k284 : 1 ≤ v283.toInt ∧ v283.toInt ≤ 104 := add_r bv283 k273 ⟨Int.le_refl _, Int.le_refl _⟩ (by decide)
        refine lv_iinc (v := v283) (lv' := [(1, .int v283), (0, .ref h0)]) hx hb dX10_course_109 hl (k := 0) rfl (by rw [ev283]; rfl) (by decide) rfl (fun ls hl => ?_)
        refine lv_goto (tgt := 80) hx hb dX10_course_112 (by decide) ?_
        exact ih (v283, g282) ⟨(ir_wk k284 (by decide) (by decide)), (SGK.step i136 eg282 (by omega) (by omega) (by omega) (fun q1 q2 => ⟨Int.le_trans (by decide) (r277.h (by omega) (by omega)).1, Int.le_trans (r277.h (by omega) (by omega)).2 (by decide)⟩)), (SGK.step i137 eg282 (by omega) (by omega) (by omega) (fun q1 q2 => ⟨Int.le_trans (by decide) (r279.h (by omega) (by omega)).1, Int.le_trans (r279.h (by omega) (by omega)).2 (by decide)⟩)), (SGK.step i138 eg282 (by omega) (by omega) (by omega) (fun q1 q2 => ⟨Int.le_trans (by decide) (r280.h (by omega) (by omega)).1, Int.le_trans (r280.h (by omega) (by omega)).2 (by decide)⟩)), (SGK.step i139 eg282 (by omega) (by omega) (by omega) (fun q1 q2 => ⟨Int.le_trans (by decide) (r281.h (by omega) (by omega)).1, Int.le_trans (r281.h (by omega) (by omega)).2 (by decide)⟩)), (SGK.step i140 eg282 (by omega) (by omega) (by omega) (fun q1 q2 => ⟨Int.le_trans (by decide) (r278.h (by omega) (by omega)).1, Int.le_trans (r278.h (by omega) (by omega)).2 (by decide)⟩)), (SGK.step i141 eg282 (by omega) (by omega) (by omega) (fun q1 q2 => ⟨by omega, by omega⟩)), (SGK.step i142 eg282 (by omega) (by omega) (by omega) (fun q1 q2 => ⟨by omega, by omega⟩)), (SGK.step i143 eg282 (by omega) (by omega) (by omega) (fun q1 q2 => ⟨by omega, by omega⟩)), (SGK.step i144 eg282 (by omega) (by omega) (by omega) (fun q1 q2 => ⟨by omega, by omega⟩)), (SGK.step i145 eg282 (by omega) (by omega) (by omega) (fun q1 q2 => ⟨by omega, by omega⟩))⟩ (by show (335 - v283.toInt).toNat < (335 - u133.toInt).toNat; omega) _ _ _ hP hD hS (lv_sub hl [0, 1] rfl)
  have n285 : F12 15 = .int 0 := (get_ne eF12 (by decide) (get_eq eF11))
  have n286 : F13 15 = .int 0 := (get_ne eF13 (by decide) n285)
  have n287 : F65 15 = .int 0 := (SAME.at t72 (by decide) n286)
  have n288 : F1 16 = .int x_faultAt := (get_ne eF1 (by decide) e_faultAt)
  have n289 : F4 16 = .int x_faultAt := (SAME.at t5 (by decide) n288)
  have n290 : F11 16 = .int x_faultAt := (get_ne eF11 (by decide) n289)
  have n291 : F12 16 = .int x_faultAt := (get_ne eF12 (by decide) n290)
  have n292 : F13 16 = .int x_faultAt := (get_ne eF13 (by decide) n291)
  have n293 : F65 16 = .int x_faultAt := (SAME.at t72 (by decide) n292)
  have n294 : F1 19 = .int x_got := (get_ne eF1 (by decide) e_got)
  have n295 : F4 19 = .int x_got := (SAME.at t5 (by decide) n294)
  have n296 : F11 19 = .int x_got := (get_ne eF11 (by decide) n295)
  have n297 : F12 19 = .int x_got := (get_ne eF12 (by decide) n296)
  have n298 : F13 19 = .int x_got := (get_ne eF13 (by decide) n297)
  have n299 : F65 19 = .int x_got := (SAME.at t72 (by decide) n298)
  have n300 : F13 20 = .int 0 := (get_ne eF13 (by decide) (get_eq eF12))
  have n301 : F65 20 = .int 0 := (SAME.at t72 (by decide) n300)
  have n302 : F65 21 = .int 0 := (SAME.at t72 (by decide) (get_eq eF13))
  refine mloop (α := (Nat → Int64) × (Nat → Int32) × (Nat → Value) × (Int32) × (Int32) × (Int32) × (Int32) × (Int32) × (Int32) × (Int32) × (Int64) × (Int32) × (Int32) × (Int32)) (nL := 2) (D := D) (A := A) (H0 := s.heap) (fun a => (940 - a.2.2.2.1.toInt).toNat) (fun a => SG 0 0 0 40 a.2.1 ∧ SG 44 55 0 9 a.2.1 ∧ SG 5 5 0 12 a.2.1 ∧ SG 6 6 0 12 a.2.1 ∧ SG 7 7 0 6 a.2.1 ∧ SAME [4, 11, 12, 13, 14, 15, 16, 18, 19, 20, 21] F65 a.2.2.1 ∧ a.2.2.1 4 = .int a.2.2.2.1 ∧ a.2.2.1 11 = .int a.2.2.2.2.1 ∧ a.2.2.1 12 = .int a.2.2.2.2.2.1 ∧ a.2.2.1 13 = .int a.2.2.2.2.2.2.1 ∧ a.2.2.1 14 = .int a.2.2.2.2.2.2.2.1 ∧ a.2.2.1 15 = .int a.2.2.2.2.2.2.2.2.1 ∧ a.2.2.1 16 = .int a.2.2.2.2.2.2.2.2.2.1 ∧ a.2.2.1 18 = .long a.2.2.2.2.2.2.2.2.2.2.1 ∧ a.2.2.1 19 = .int a.2.2.2.2.2.2.2.2.2.2.2.1 ∧ a.2.2.1 20 = .int a.2.2.2.2.2.2.2.2.2.2.2.2.1 ∧ a.2.2.1 21 = .int a.2.2.2.2.2.2.2.2.2.2.2.2.2 ∧ IR 0 940 a.2.2.2.1 ∧ IR 0 4 a.2.2.2.2.1 ∧ IR 0 940 a.2.2.2.2.2.1 ∧ IR 0 940 a.2.2.2.2.2.2.1 ∧ IR 0 0 a.2.2.2.2.2.2.2.2.1 ∧ (CA (tkA f_tape x_length.toInt 900) (tkM y67 y68 y70 y71 y66) (csM (0 : Int32) g20 f_names) 900 (tkM a.2.2.2.2.1 a.2.2.2.2.2.1 a.2.2.2.2.2.2.2.1 a.2.2.2.2.2.2.2.2.2.2.1 a.2.2.2.1) (csM a.2.2.2.2.2.2.2.2.2.2.2.2.2 a.2.1 a.1) a.2.2.2.2.2.2.2.2.2.2.2.2.1.toInt) ∧ ((VWF a.2.2.2.2.1.toInt a.2.2.2.2.2.2.2.2.2.2.1.toInt)) ∧ (AV a.1 18 (a.2.1 5).toInt) ∧ (AV a.1 30 (a.2.1 7).toInt) ∧ (0 ≤ a.2.2.2.2.2.2.2.2.2.2.2.2.1.toInt ∧ 2 * a.2.2.2.2.2.2.2.2.2.2.2.2.1.toInt ≤ a.2.2.2.1.toInt ∧ (1 ≤ a.2.2.2.2.1.toInt → a.2.2.2.2.1.toInt ≤ 3 → 2 * a.2.2.2.2.2.2.2.2.2.2.2.2.1.toInt + 1 ≤ a.2.2.2.1.toInt)) ∧ ((a.2.2.2.2.1.toInt = 2 → 0 ≤ a.2.2.2.2.2.2.2.1.toInt ∧ a.2.2.2.2.2.2.2.1.toInt ≤ 999))) (fun a => [(h_s, .inl (cI, 335, .inl f_s)), (h_names, .inl (cJ, 36, .inr (.inl a.1))), (h_reserved, .inl (cJ, 23, .inr (.inl f_reserved))), (h_h, .inl (cI, 104, .inl a.2.1)), (h0, .inr (10, vL 67 a.2.2.1)), (h_tape, .inl (cB, 940, .inl f_tape))]) (fun a => [(0, .ref h0)]) (fun H locs ls => W p l e ({ frames := 4, cells := 0, slots := 0, locals := 87 } : Room) s m [.ref h0].toArray below meth c H locs 0 0 (MQ below (va_Qi (fun (r : Int32) (u : va_W) => ∃ (Gh : Nat → Value) (y_p : Int32) (y_token : Int32) (y_at : Int32) (y_span : Int32) (y_number : Int32) (y_fault : Int32) (y_faultAt : Int32) (y_ids : Int32) (y_word : Int64) (y_got : Int32) (y_lines : Int32) (y_onces : Int32) (y_undoMany : Int32) (g_s : Nat → Int32) (g_h : Nat → Int32) (g_names : Nat → Int64), SAME [0, 2, 3, 4, 5, 11, 12, 13, 14, 15, 16, 17, 18, 19, 20, 21, 41] Fh Gh ∧ Gh 0 = .int 0 ∧ Gh 2 = .int 0 ∧ Gh 3 = .int x_length ∧ Gh 4 = .int y_p ∧ IR 0 940 y_p ∧ Gh 5 = .int 900 ∧ Gh 11 = .int y_token ∧ IR 0 4 y_token ∧ Gh 12 = .int y_at ∧ Gh 13 = .int y_span ∧ Gh 14 = .int y_number ∧ Gh 15 = .int y_fault ∧ IR 0 4 y_fault ∧ Gh 16 = .int y_faultAt ∧ Gh 17 = .int y_ids ∧ Gh 18 = .long y_word ∧ Gh 19 = .int y_got ∧ Gh 20 = .int y_lines ∧ Gh 21 = .int y_onces ∧ Gh 41 = .int y_undoMany ∧ IR 0 8 y_undoMany ∧ SG 153 153 0 44 g_s ∧ SG 0 0 0 40 g_s ∧ SG 5 5 0 12 g_s ∧ SG 6 6 0 12 g_s ∧ SG 7 7 0 6 g_s ∧ SG 44 55 0 9 g_s ∧ KW 0 g_s ∧ SG 105 108 0 11 g_s ∧ SG 114 114 0 5 g_s ∧ SG 130 133 0 11 g_s ∧ SG 139 139 0 5 g_s ∧ SG 0 0 0 40 g_h ∧ SG 5 5 0 12 g_h ∧ SG 6 6 0 12 g_h ∧ SG 7 7 0 6 g_h ∧ SG 44 55 0 9 g_h ∧ (r.toInt = cAns (cTxt f_tape x_length.toInt)) ∧ ((y_token.toInt = 2 → 0 ≤ y_number.toInt ∧ y_number.toInt ≤ 999)) ∧ u = [(h0, .inr (10, vL 67 Gh)), (h_tape, .inl (cB, 940, .inl f_tape)), (h_s, .inl (cI, 335, .inl g_s)), (h_h, .inl (cI, 104, .inl g_h)), (h_names, .inl (cJ, 36, .inr (.inl g_names))), (h_reserved, .inl (cJ, 23, .inr (.inl f_reserved)))]) (PO D A) A) [.ref h0].toArray s 0 0 A) (F0 m 35 ls [])) ?_ (f_names, g20, F65, y66, y67, y68, y69, y70, 0, x_faultAt, y71, x_got, 0, 0) ⟨t21, t25, t22, t23, t24, SAME.rf, t73, t75, t77, t79, t81, n287, n293, t82, n299, n301, n302, t74, t76, t78, t80, (show 0 ≤ (0 : Int32).toInt ∧ (0 : Int32).toInt ≤ 0 by decide), (show CA (tkA f_tape x_length.toInt 900) (tkM y67 y68 y70 y71 y66) (csM (0 : Int32) g20 f_names) 900 (tkM y67 y68 y70 y71 y66) (csM (0 : Int32) g20 f_names) 0 from CA.zero), (show (VWF y67.toInt y71.toInt) from t86), (show AV f_names 18 (g20 5).toInt from h28), (show AV f_names 30 (g20 7).toInt from h29), (by show 0 ≤ 0 ∧ 2 * 0 ≤ y66.toInt ∧ (1 ≤ y67.toInt → y67.toInt ≤ 3 → 2 * 0 + 1 ≤ y66.toInt); omega), (by show (y67.toInt = 2 → 0 ≤ y70.toInt ∧ y70.toInt ≤ 999); omega)⟩ _ _ _ hP hD hS hl
  rintro ⟨w89, w90, G91, u92, u93, u94, u95, u96, u97, u98, u99, u100, u101, u102⟩ ⟨i303, i304, i305, i306, i307, i308, i309, i310, i311, i312, i313, i314, i315, i316, i317, i318, i319, i320, i321, i322, i323, i324, i325, i326, i327, i328, i329, i330⟩ ih H locs ls hP hD hS hl
  have i320 : 0 ≤ u92.toInt ∧ u92.toInt ≤ 940 := i320
  have i321 : 0 ≤ u93.toInt ∧ u93.toInt ≤ 4 := i321
  have i322 : 0 ≤ u94.toInt ∧ u94.toInt ≤ 940 := i322
  have i323 : 0 ≤ u95.toInt ∧ u95.toInt ≤ 940 := i323
  have i324 : 0 ≤ u97.toInt ∧ u97.toInt ≤ 0 := i324
  have i325 : CA (tkA f_tape x_length.toInt 900) (tkM y67 y68 y70 y71 y66) (csM (0 : Int32) g20 f_names) 900 (tkM u93 u94 u96 u99 u92) (csM u102 w90 w89) u101.toInt := i325
  have i326 : (VWF u93.toInt u99.toInt) := i326
  have i327 : AV w89 18 (w90 5).toInt := i327
  have i328 : AV w89 30 (w90 7).toInt := i328
  have i329 : 0 ≤ u101.toInt ∧ 2 * u101.toInt ≤ u92.toInt ∧ (1 ≤ u93.toInt → u93.toInt ≤ 3 → 2 * u101.toInt + 1 ≤ u92.toInt) := i329
  have i330 : (u93.toInt = 2 → 0 ≤ u96.toInt ∧ u96.toInt ≤ 999) := i330
  have hP : va_P D vwCl [(h_s, .inl (cI, 335, .inl f_s)), (h_names, .inl (cJ, 36, .inr (.inl w89))), (h_reserved, .inl (cJ, 23, .inr (.inl f_reserved))), (h_h, .inl (cI, 104, .inl w90)), (h0, .inr (10, vL 67 G91)), (h_tape, .inl (cB, 940, .inl f_tape))] H := hP
  have hD : va_D A [(h_s, .inl (cI, 335, .inl f_s)), (h_names, .inl (cJ, 36, .inr (.inl w89))), (h_reserved, .inl (cJ, 23, .inr (.inl f_reserved))), (h_h, .inl (cI, 104, .inl w90)), (h0, .inr (10, vL 67 G91)), (h_tape, .inl (cB, 940, .inl f_tape))] := hD
  have hl : lv_has ls 2 [(0, .ref h0)] := hl
  refine lv_aload_n hx hb dX10_course_35 rfl (lv_at hl 0 rfl) ?_
  refine get_f (D := D) (ci := 10) (v := .int u93) (C := RX10) (T := TX10) (N := 67) hx hb hw inAX10 hown hK hP 4 rfl rfl 11 (by decide) (hw _ q_1272) (fun _ h9 => h9) i310 dX10_course_36 ?_
  refine lv_if_eq (tgt := 78) hx hb dX10_course_39 (by decide) (fun c331 => ?_) (fun c331 => ?_)
  · have dc331 : u93.toInt = 0 := eq_i (a := u93.toInt) (b := 0) rfl rfl c331
    have k332 : 0 ≤ u93.toInt ∧ u93.toInt ≤ 0 := ⟨i321.1, Int.le_trans (Int.le_of_eq dc331) (Int.le_refl _)⟩
    exact cut103 w89 w90 G91 u92 u93 u94 u95 u96 u97 u98 u99 u100 u101 u102 i303 i304 i305 i306 i307 (SAME.tr SAME.rf i308 (by decide)) i309 i310 i311 i312 i313 i314 i315 i316 i317 i318 i319 i320 (ir_wk k332 (by decide) (by decide)) i322 i323 i324 (show CA (tkA f_tape x_length.toInt 900) (tkM y67 y68 y70 y71 y66) (csM (0 : Int32) g20 f_names) 900 (tkM u93 u94 u96 u99 u92) (csM u102 w90 w89) u101.toInt from i325) (show (VWF u93.toInt u99.toInt) from i326) (show AV w89 18 (w90 5).toInt from i327) (show AV w89 30 (w90 7).toInt from i328) (by show 0 ≤ u101.toInt ∧ 2 * u101.toInt ≤ u92.toInt ∧ (1 ≤ u93.toInt → u93.toInt ≤ 3 → 2 * u101.toInt + 1 ≤ u92.toInt); omega) (by show (u93.toInt = 2 → 0 ≤ u96.toInt ∧ u96.toInt ≤ 999); omega) (show u93.toInt = 0 from (by omega)) _ _ _ hP hD hS (lv_sub hl [0] rfl)
  · have dc331 : u93.toInt ≠ 0 := ne_i (a := u93.toInt) (b := 0) rfl rfl c331
    have k333 : 1 ≤ u93.toInt ∧ u93.toInt ≤ 4 := ⟨ne_lo dc331 i321.1 ⟨Int.le_refl _, Int.le_refl _⟩ (by decide), i321.2⟩
    refine lv_aload_n hx hb dX10_course_42 rfl (lv_at hl 0 rfl) ?_
    have n334 : F65 1 = .ref h_tape := (SAME.at t72 (by decide) n34)
    have n335 : G91 1 = .ref h_tape := (SAME.at i308 (by decide) n334)
    have n336 : F65 3 = .int x_length := (SAME.at t72 (by decide) n37)
    have n337 : G91 3 = .int x_length := (SAME.at i308 (by decide) n336)
    have n338 : F65 5 = .int 900 := (SAME.at t72 (by decide) n43)
    have n339 : G91 5 = .int 900 := (SAME.at i308 (by decide) n338)
    have n340 : F65 7 = .ref h_h := (SAME.at t72 (by decide) n18)
    have n341 : G91 7 = .ref h_h := (SAME.at i308 (by decide) n340)
    have n342 : F1 9 = .ref h_names := (get_ne eF1 (by decide) e_names)
    have n343 : F4 9 = .ref h_names := (SAME.at t5 (by decide) n342)
    have n344 : F11 9 = .ref h_names := (get_ne eF11 (by decide) n343)
    have n345 : F12 9 = .ref h_names := (get_ne eF12 (by decide) n344)
    have n346 : F13 9 = .ref h_names := (get_ne eF13 (by decide) n345)
    have n347 : F65 9 = .ref h_names := (SAME.at t72 (by decide) n346)
    have n348 : G91 9 = .ref h_names := (SAME.at i308 (by decide) n347)
    have n349 : F1 10 = .ref h_reserved := (get_ne eF1 (by decide) e_reserved)
    have n350 : F4 10 = .ref h_reserved := (SAME.at t5 (by decide) n349)
    have n351 : F11 10 = .ref h_reserved := (get_ne eF11 (by decide) n350)
    have n352 : F12 10 = .ref h_reserved := (get_ne eF12 (by decide) n351)
    have n353 : F13 10 = .ref h_reserved := (get_ne eF13 (by decide) n352)
    have n354 : F65 10 = .ref h_reserved := (SAME.at t72 (by decide) n353)
    have n355 : G91 10 = .ref h_reserved := (SAME.at i308 (by decide) n354)
    refine call_Vi (wr := [(h_s, .inl (cI, 335, .inl f_s))]) (As := []) (rest := []) hx hb hml hown hw (m_X10_line0 l D cI cJ cB cP cM cZ h0 h_tape h_h h_names h_reserved G91 x_length u92 900 u93 u94 u95 u96 u97 u98 u99 u100 u102 f_tape w90 w89 f_reserved _ n335 n337 i_x_length i309 i320 n339 (show 200 ≤ (900 : Int32).toInt ∧ (900 : Int32).toInt ≤ 940 by decide) n341 n348 n355 i310 (ir_wk k333 (by decide) (by decide)) i311 i312 i313 i314 i315 i316 i317 i319 i303 i304 i305 i306 i307 s_reserved_KR i326 i327 i328 (by omega)) wV_X10_254_X10_line0 dX10_course_43 hK hP hD hS hA [4, 5, 3, 1, 2] [0] rfl rfl (by decide) (by decide) (by decide) 0 10 rfl rfl GG.fb hG.at hl.1 rfl (Nat.le_of_ble_eq_true rfl) ⟨(Nat.le_of_ble_eq_true rfl), (Nat.le_of_ble_eq_true rfl)⟩ ⟨(Nat.le_of_ble_eq_true rfl), (Nat.le_of_ble_eq_true rfl)⟩ (fun r356 u H locs hp hP hD hS => ?_)
    rcases hp with hp | hp
    · refine hp.elim (fun F357 h9z0 => h9z0.elim (fun y358 h9z1 => h9z1.elim (fun y359 h9z2 => h9z2.elim (fun y360 h9z3 => h9z3.elim (fun y361 h9z4 => h9z4.elim (fun y362 h9z5 => h9z5.elim (fun y363 h9z6 => h9z6.elim (fun y364 h9z7 => h9z7.elim (fun y365 h9z8 => h9z8.elim (fun y366 h9z9 => h9z9.elim (fun y367 h9z10 => h9z10.elim (fun g368 h9z11 => h9z11.elim (fun g369 h9z12 => h9z12.elim (fun t370 h9z13 => h9z13.elim (fun t371 h9z14 => h9z14.elim (fun t372 h9z15 => h9z15.elim (fun t373 h9z16 => h9z16.elim (fun t374 h9z17 => h9z17.elim (fun t375 h9z18 => h9z18.elim (fun t376 h9z19 => h9z19.elim (fun t377 h9z20 => h9z20.elim (fun t378 h9z21 => h9z21.elim (fun t379 h9z22 => h9z22.elim (fun t380 h9z23 => h9z23.elim (fun t381 h9z24 => h9z24.elim (fun t382 h9z25 => h9z25.elim (fun t383 h9z26 => h9z26.elim (fun t384 h9z27 => h9z27.elim (fun t385 h9z28 => h9z28.elim (fun t386 h9z29 => h9z29.elim (fun t387 h9z30 => h9z30.elim (fun t388 h9z31 => h9z31.elim (fun t389 h9z32 => h9z32.elim (fun t390 h9z33 => h9z33.elim (fun heq934 h9z34 => ?_)))))))))))))))))))))))))))))))))))
      clear h9z0 h9z1 h9z2 h9z3 h9z4 h9z5 h9z6 h9z7 h9z8 h9z9 h9z10 h9z11 h9z12 h9z13 h9z14 h9z15 h9z16 h9z17 h9z18 h9z19 h9z20 h9z21 h9z22 h9z23 h9z24 h9z25 h9z26 h9z27 h9z28 h9z29 h9z30 h9z31 h9z32 h9z33
      subst heq934
      subst h9z34
      have hP : va_P D vwCl [(h_s, .inl (cI, 335, .inl f_s)), (h0, .inr (10, vL 67 F357)), (h_tape, .inl (cB, 940, .inl f_tape)), (h_h, .inl (cI, 104, .inl g368)), (h_names, .inl (cJ, 36, .inr (.inl g369))), (h_reserved, .inl (cJ, 23, .inr (.inl f_reserved)))] H := hP
      have hD : va_D A [(h_s, .inl (cI, 335, .inl f_s)), (h0, .inr (10, vL 67 F357)), (h_tape, .inl (cB, 940, .inl f_tape)), (h_h, .inl (cI, 104, .inl g368)), (h_names, .inl (cJ, 36, .inr (.inl g369))), (h_reserved, .inl (cJ, 23, .inr (.inl f_reserved)))] := hD
      refine W.widen (k := 0) (n := 0) (Nat.le_of_ble_eq_true rfl) (Nat.le_of_ble_eq_true rfl) ?_
      refine lv_if_eq (tgt := 58) hx hb dX10_course_46 (by decide) (fun _ => ?_) (fun g => absurd (by decide) g)
      refine lv_iconst (v := (-1)) hx hb dX10_course_58 (by decide) ?_
      refine lv_aload_n hx hb dX10_course_59 rfl (lv_at hl 0 rfl) ?_
      refine get_f (D := D) (ci := 10) (v := .int y364) (C := RX10) (T := TX10) (N := 67) hx hb hw inAX10 hown hK hP 1 rfl rfl 16 (by decide) (hw _ q_1277) (fun _ h9 => h9) t380 dX10_course_60 ?_
      refine lv_isub hx hb dX10_course_63 ?_
      refine lv_topi (fun v429 ev429 => ?_)
      have bv429 : v429.toInt = (-1) - y364.toInt := by rw [ev429]; exact sub_k rfl rfl ⟨Int.le_refl _, Int.le_refl _⟩ (ir_any _) (by decide)
      have k430 : (-2147483648) ≤ v429.toInt ∧ v429.toInt ≤ 2147483647 := sub_r bv429 ⟨Int.le_refl _, Int.le_refl _⟩ (ir_any _) (by decide)
      exact ret_i (v := v429) hx hb hr hlocks hS (hP.sub (ws' := [(h0, .inr (10, vL 67 F357)), (h_tape, .inl (cB, 940, .inl f_tape)), (h_s, .inl (cI, 335, .inl f_s)), (h_h, .inl (cI, 104, .inl g368)), (h_names, .inl (cJ, 36, .inr (.inl g369))), (h_reserved, .inl (cJ, 23, .inr (.inl f_reserved)))]) [1, 2, 0, 3, 4, 5] rfl) (hD.sub (ws' := [(h0, .inr (10, vL 67 F357)), (h_tape, .inl (cB, 940, .inl f_tape)), (h_s, .inl (cI, 335, .inl f_s)), (h_h, .inl (cI, 104, .inl g368)), (h_names, .inl (cJ, 36, .inr (.inl g369))), (h_reserved, .inl (cJ, 23, .inr (.inl f_reserved)))]) [1, 2, 0, 3, 4, 5] (by decide) rfl) dX10_course_64 rfl (Nat.le_of_ble_eq_true rfl) (Nat.le_of_ble_eq_true rfl) ⟨F357, y358, y359, y360, y361, y362, y363, y364, x_ids, y365, y366, u101, y367, x_undoMany, f_s, g368, g369, (SAME.tr (SAME.tr (SAME.tr (SAME.up eF13 (SAME.up eF12 (SAME.up eF11 (SAME.tr (SAME.up eF1 SAME.rf (by decide)) t5 (by decide)) (by decide)) (by decide)) (by decide)) t72 (by decide)) i308 (by decide)) t370 (by decide)), (SAME.at t370 (by decide) (SAME.at i308 (by decide) (SAME.at t72 (by decide) (get_ne eF13 (by decide) (get_ne eF12 (by decide) (get_ne eF11 (by decide) (SAME.at t5 (by decide) (get_eq eF1)))))))), (SAME.at t370 (by decide) (SAME.at i308 (by decide) (SAME.at t72 (by decide) (get_ne eF13 (by decide) (get_ne eF12 (by decide) (get_ne eF11 (by decide) t6)))))), (SAME.at t370 (by decide) n337), t371, t372, (SAME.at t370 (by decide) n339), t373, t374, t375, t376, t377, t378, (ir_wk t379 (by decide) (by decide)), t380, (SAME.at t370 (by decide) (SAME.at i308 (by decide) (SAME.at t72 (by decide) (get_ne eF13 (by decide) (get_ne eF12 (by decide) (get_ne eF11 (by decide) (SAME.at t5 (by decide) (get_ne eF1 (by decide) e_ids)))))))), t381, t382, (SAME.at t370 (by decide) i318), t383, (SAME.at t370 (by decide) (SAME.at i308 (by decide) (SAME.at t72 (by decide) (get_ne eF13 (by decide) (get_ne eF12 (by decide) (get_ne eF11 (by decide) (SAME.at t5 (by decide) (get_ne eF1 (by decide) e_undoMany)))))))), i_x_undoMany, s_s_153, s_s_0, s_s_5, s_s_6, s_s_7, s_s_44, s_s_K0, s_s_105, s_s_114, s_s_130, s_s_139, t384, t385, t386, t387, t388, (cAns_l2 (crs_0 t85 (csM_0 t26) (CA.bad1 i325 (by omega) (fun q => by have h2 := tkM_end.mp q; omega) t389)) (by omega)), (by omega), rfl⟩
    · refine hp.elim (fun F391 h9z0 => h9z0.elim (fun y392 h9z1 => h9z1.elim (fun y393 h9z2 => h9z2.elim (fun y394 h9z3 => h9z3.elim (fun y395 h9z4 => h9z4.elim (fun y396 h9z5 => h9z5.elim (fun y397 h9z6 => h9z6.elim (fun y398 h9z7 => h9z7.elim (fun y399 h9z8 => h9z8.elim (fun g400 h9z9 => h9z9.elim (fun g401 h9z10 => h9z10.elim (fun t402 h9z11 => h9z11.elim (fun t403 h9z12 => h9z12.elim (fun t404 h9z13 => h9z13.elim (fun t405 h9z14 => h9z14.elim (fun t406 h9z15 => h9z15.elim (fun t407 h9z16 => h9z16.elim (fun t408 h9z17 => h9z17.elim (fun t409 h9z18 => h9z18.elim (fun t410 h9z19 => h9z19.elim (fun t411 h9z20 => h9z20.elim (fun t412 h9z21 => h9z21.elim (fun t413 h9z22 => h9z22.elim (fun t414 h9z23 => h9z23.elim (fun t415 h9z24 => h9z24.elim (fun t416 h9z25 => h9z25.elim (fun t417 h9z26 => h9z26.elim (fun t418 h9z27 => h9z27.elim (fun t419 h9z28 => h9z28.elim (fun t420 h9z29 => h9z29.elim (fun t421 h9z30 => h9z30.elim (fun t422 h9z31 => h9z31.elim (fun t423 h9z32 => h9z32.elim (fun t424 h9z33 => h9z33.elim (fun t425 h9z34 => h9z34.elim (fun t426 h9z35 => h9z35.elim (fun t427 h9z36 => h9z36.elim (fun heq937 h9z37 => ?_))))))))))))))))))))))))))))))))))))))
      clear h9z0 h9z1 h9z2 h9z3 h9z4 h9z5 h9z6 h9z7 h9z8 h9z9 h9z10 h9z11 h9z12 h9z13 h9z14 h9z15 h9z16 h9z17 h9z18 h9z19 h9z20 h9z21 h9z22 h9z23 h9z24 h9z25 h9z26 h9z27 h9z28 h9z29 h9z30 h9z31 h9z32 h9z33 h9z34 h9z35 h9z36
      subst heq937
      subst h9z37
      have hP : va_P D vwCl [(h_s, .inl (cI, 335, .inl f_s)), (h0, .inr (10, vL 67 F391)), (h_tape, .inl (cB, 940, .inl f_tape)), (h_h, .inl (cI, 104, .inl g400)), (h_names, .inl (cJ, 36, .inr (.inl g401))), (h_reserved, .inl (cJ, 23, .inr (.inl f_reserved)))] H := hP
      have hD : va_D A [(h_s, .inl (cI, 335, .inl f_s)), (h0, .inr (10, vL 67 F391)), (h_tape, .inl (cB, 940, .inl f_tape)), (h_h, .inl (cI, 104, .inl g400)), (h_names, .inl (cJ, 36, .inr (.inl g401))), (h_reserved, .inl (cJ, 23, .inr (.inl f_reserved)))] := hD
      refine W.widen (k := 0) (n := 0) (Nat.le_of_ble_eq_true rfl) (Nat.le_of_ble_eq_true rfl) ?_
      refine lv_if_eq (tgt := 58) hx hb dX10_course_46 (by decide) (fun g => absurd g (by decide)) (fun _ => ?_)
      refine lv_aload_n hx hb dX10_course_49 rfl (lv_at hl 0 rfl) ?_
      refine lv_bipush (v := 59) hx hb dX10_course_50 (by decide) ?_
      have n431 : F391 1 = .ref h_tape := (SAME.at t402 (by decide) n335)
      have n432 : F391 3 = .int x_length := (SAME.at t402 (by decide) n337)
      have n433 : F391 5 = .int 900 := (SAME.at t402 (by decide) n339)
      have n434 : F391 15 = .int u97 := (SAME.at t402 (by decide) i314)
      have n435 : F391 16 = .int u98 := (SAME.at t402 (by decide) i315)
      refine call_Vi (wr := [(h_s, .inl (cI, 335, .inl f_s)), (h_h, .inl (cI, 104, .inl g400)), (h_names, .inl (cJ, 36, .inr (.inl g401))), (h_reserved, .inl (cJ, 23, .inr (.inl f_reserved)))]) (As := [.int 59]) (rest := []) hx hb hml hown hw (m_X10_sign l D cI cJ cB cP cM cZ h0 h_tape F391 x_length y392 900 y393 y394 y396 u97 u98 y397 f_tape 59 _ n431 n432 i_x_length t403 t404 n433 (show 200 ≤ (900 : Int32).toInt ∧ (900 : Int32).toInt ≤ 940 by decide) t405 t406 t407 t411 n434 n435 t412 (by omega)) wV_X10_257_X10_sign dX10_course_52 hK hP hD hS hA [1, 2] [0, 3, 4, 5] rfl rfl (by decide) (by decide) (by decide) 0 10 rfl rfl GG.fb hG.at hl.1 rfl (Nat.le_of_ble_eq_true rfl) ⟨(Nat.le_of_ble_eq_true rfl), (Nat.le_of_ble_eq_true rfl)⟩ ⟨(Nat.le_of_ble_eq_true rfl), (Nat.le_of_ble_eq_true rfl)⟩ (fun r436 u H locs hp hP hD hS => ?_)
      have zl59 : (59 : Int32).toInt = 59 := by decide
      rcases hp with hp | hp
      · refine hp.elim (fun F437 h9z0 => h9z0.elim (fun y438 h9z1 => h9z1.elim (fun y439 h9z2 => h9z2.elim (fun y440 h9z3 => h9z3.elim (fun y441 h9z4 => h9z4.elim (fun y442 h9z5 => h9z5.elim (fun y443 h9z6 => h9z6.elim (fun t444 h9z7 => h9z7.elim (fun t445 h9z8 => h9z8.elim (fun t446 h9z9 => h9z9.elim (fun t447 h9z10 => h9z10.elim (fun t448 h9z11 => h9z11.elim (fun t449 h9z12 => h9z12.elim (fun t450 h9z13 => h9z13.elim (fun t451 h9z14 => h9z14.elim (fun t452 h9z15 => h9z15.elim (fun t453 h9z16 => h9z16.elim (fun t454 h9z17 => h9z17.elim (fun t455 h9z18 => h9z18.elim (fun t456 h9z19 => h9z19.elim (fun t457 h9z20 => h9z20.elim (fun t458 h9z21 => h9z21.elim (fun t459 h9z22 => h9z22.elim (fun heq923 h9z23 => ?_))))))))))))))))))))))))
        clear h9z0 h9z1 h9z2 h9z3 h9z4 h9z5 h9z6 h9z7 h9z8 h9z9 h9z10 h9z11 h9z12 h9z13 h9z14 h9z15 h9z16 h9z17 h9z18 h9z19 h9z20 h9z21 h9z22
        subst heq923
        subst h9z23
        have hP : va_P D vwCl [(h_s, .inl (cI, 335, .inl f_s)), (h_h, .inl (cI, 104, .inl g400)), (h_names, .inl (cJ, 36, .inr (.inl g401))), (h_reserved, .inl (cJ, 23, .inr (.inl f_reserved))), (h0, .inr (10, vL 67 F437)), (h_tape, .inl (cB, 940, .inl f_tape))] H := hP
        have hD : va_D A [(h_s, .inl (cI, 335, .inl f_s)), (h_h, .inl (cI, 104, .inl g400)), (h_names, .inl (cJ, 36, .inr (.inl g401))), (h_reserved, .inl (cJ, 23, .inr (.inl f_reserved))), (h0, .inr (10, vL 67 F437)), (h_tape, .inl (cB, 940, .inl f_tape))] := hD
        refine W.widen (k := 0) (n := 0) (Nat.le_of_ble_eq_true rfl) (Nat.le_of_ble_eq_true rfl) ?_
        refine lv_if_ne (tgt := 65) hx hb dX10_course_55 (by decide) (fun _ => ?_) (fun g => absurd g (by decide))
        refine lv_aload_n hx hb dX10_course_65 rfl (lv_at hl 0 rfl) ?_
        refine lv_dup hx hb dX10_course_66 rfl ?_
        have n470 : F391 20 = .int u101 := (SAME.at t402 (by decide) i318)
        have n471 : F437 20 = .int u101 := (SAME.at t444 (by decide) n470)
        refine get_f (D := D) (ci := 10) (v := .int u101) (C := RX10) (T := TX10) (N := 67) hx hb hw inAX10 hown hK hP 4 rfl rfl 20 (by decide) (hw _ q_1281) (fun _ h9 => h9) n471 dX10_course_67 ?_
        refine lv_iconst (v := 1) hx hb dX10_course_70 (by decide) ?_
        refine lv_iadd hx hb dX10_course_71 ?_
        refine lv_topi (fun v472 ev472 => ?_)
        have bv472 : -1000000 ≤ u101.toInt → u101.toInt ≤ 1000000 → v472.toInt = u101.toInt + 1 := fun h1 h2 => by rw [ev472]; exact add_i (a := u101.toInt) (b := 1) rfl rfl (by omega) (by omega)
        refine put_f (D := D) (ci := 10) (v := .int v472) (ty := .int) (C := RX10) (T := TX10) (N := 67) hx hb hw inAX10 tyX10 tyX10_ok nmX10 hown hK hP hD hS 4 rfl rfl 20 (by decide) (hw _ q_1281) (fun _ h9 => h9) rfl (by decide +kernel) rfl rfl dX10_course_72 (fun H locs F473 eF473 hP hD hS => ?_)
        have hP : va_P D vwCl [(h_s, .inl (cI, 335, .inl f_s)), (h_h, .inl (cI, 104, .inl g400)), (h_names, .inl (cJ, 36, .inr (.inl g401))), (h_reserved, .inl (cJ, 23, .inr (.inl f_reserved))), (h0, .inr (10, vL 67 F473)), (h_tape, .inl (cB, 940, .inl f_tape))] H := hP
        have hD : va_D A [(h_s, .inl (cI, 335, .inl f_s)), (h_h, .inl (cI, 104, .inl g400)), (h_names, .inl (cJ, 36, .inr (.inl g401))), (h_reserved, .inl (cJ, 23, .inr (.inl f_reserved))), (h0, .inr (10, vL 67 F473)), (h_tape, .inl (cB, 940, .inl f_tape))] := hD
        refine lv_goto (tgt := 35) hx hb dX10_course_75 (by decide) ?_
        have n474 : F473 4 = .int y438 := (get_ne eF473 (by decide) t445)
        have n475 : F473 11 = .int y439 := (get_ne eF473 (by decide) t447)
        have n476 : F473 12 = .int y440 := (get_ne eF473 (by decide) t449)
        have n477 : F473 13 = .int y441 := (get_ne eF473 (by decide) t451)
        have n478 : F473 14 = .int y442 := (get_ne eF473 (by decide) t453)
        have n479 : F437 15 = .int u97 := (SAME.at t444 (by decide) n434)
        have n480 : F473 15 = .int u97 := (get_ne eF473 (by decide) n479)
        have n481 : F437 16 = .int u98 := (SAME.at t444 (by decide) n435)
        have n482 : F473 16 = .int u98 := (get_ne eF473 (by decide) n481)
        have n483 : F473 18 = .long y443 := (get_ne eF473 (by decide) t454)
        have n484 : F437 19 = .int y398 := (SAME.at t444 (by decide) t413)
        have n485 : F473 19 = .int y398 := (get_ne eF473 (by decide) n484)
        have n486 : F437 21 = .int y399 := (SAME.at t444 (by decide) t414)
        have n487 : F473 21 = .int y399 := (get_ne eF473 (by decide) n486)
        exact ih (g401, g400, F473, y438, y439, y440, y441, y442, u97, u98, y443, y398, v472, y399) ⟨t415, t419, t416, t417, t418, (SAME.up eF473 (SAME.tr (SAME.tr (SAME.tr SAME.rf i308 (by decide)) t402 (by decide)) t444 (by decide)) (by decide)), n474, n475, n476, n477, n478, n480, n482, n483, n485, (get_eq eF473), n487, t446, t448, t450, t452, i324, (show CA (tkA f_tape x_length.toInt 900) (tkM y67 y68 y70 y71 y66) (csM (0 : Int32) g20 f_names) 900 (tkM y439 y440 y442 y443 y438) (csM y399 g400 g401) v472.toInt from (CA.step i325 (by omega) (fun q => by have h2 := tkM_end.mp q; omega) t422 t457 (by omega))), (show (VWF y439.toInt y443.toInt) from t458), (show AV g401 18 (g400 5).toInt from t424), (show AV g401 30 (g400 7).toInt from t425), (by show 0 ≤ v472.toInt ∧ 2 * v472.toInt ≤ y438.toInt ∧ (1 ≤ y439.toInt → y439.toInt ≤ 3 → 2 * v472.toInt + 1 ≤ y438.toInt); omega), (by show (y439.toInt = 2 → 0 ≤ y442.toInt ∧ y442.toInt ≤ 999); omega)⟩ (by show (940 - y438.toInt).toNat < (940 - u92.toInt).toNat; omega) _ _ _ (hP.sub [0, 2, 3, 1, 4, 5] rfl) (hD.sub [0, 2, 3, 1, 4, 5] (by decide) rfl) hS (lv_sub hl [0] rfl)
      · obtain ⟨F460, y461, y462, t463, t464, t465, t466, t467, t468, rfl, rfl⟩ := hp
        have hP : va_P D vwCl [(h_s, .inl (cI, 335, .inl f_s)), (h_h, .inl (cI, 104, .inl g400)), (h_names, .inl (cJ, 36, .inr (.inl g401))), (h_reserved, .inl (cJ, 23, .inr (.inl f_reserved))), (h0, .inr (10, vL 67 F460)), (h_tape, .inl (cB, 940, .inl f_tape))] H := hP
        have hD : va_D A [(h_s, .inl (cI, 335, .inl f_s)), (h_h, .inl (cI, 104, .inl g400)), (h_names, .inl (cJ, 36, .inr (.inl g401))), (h_reserved, .inl (cJ, 23, .inr (.inl f_reserved))), (h0, .inr (10, vL 67 F460)), (h_tape, .inl (cB, 940, .inl f_tape))] := hD
        refine W.widen (k := 0) (n := 0) (Nat.le_of_ble_eq_true rfl) (Nat.le_of_ble_eq_true rfl) ?_
        refine lv_if_ne (tgt := 65) hx hb dX10_course_55 (by decide) (fun g => absurd (by decide) g) (fun _ => ?_)
        refine lv_iconst (v := (-1)) hx hb dX10_course_58 (by decide) ?_
        refine lv_aload_n hx hb dX10_course_59 rfl (lv_at hl 0 rfl) ?_
        refine get_f (D := D) (ci := 10) (v := .int y462) (C := RX10) (T := TX10) (N := 67) hx hb hw inAX10 hown hK hP 4 rfl rfl 16 (by decide) (hw _ q_1277) (fun _ h9 => h9) t466 dX10_course_60 ?_
        refine lv_isub hx hb dX10_course_63 ?_
        refine lv_topi (fun v488 ev488 => ?_)
        have bv488 : v488.toInt = (-1) - y462.toInt := by rw [ev488]; exact sub_k rfl rfl ⟨Int.le_refl _, Int.le_refl _⟩ (ir_any _) (by decide)
        have k489 : (-2147483648) ≤ v488.toInt ∧ v488.toInt ≤ 2147483647 := sub_r bv488 ⟨Int.le_refl _, Int.le_refl _⟩ (ir_any _) (by decide)
        exact ret_i (v := v488) hx hb hr hlocks hS (hP.sub (ws' := [(h0, .inr (10, vL 67 F460)), (h_tape, .inl (cB, 940, .inl f_tape)), (h_s, .inl (cI, 335, .inl f_s)), (h_h, .inl (cI, 104, .inl g400)), (h_names, .inl (cJ, 36, .inr (.inl g401))), (h_reserved, .inl (cJ, 23, .inr (.inl f_reserved)))]) [4, 5, 0, 1, 2, 3] rfl) (hD.sub (ws' := [(h0, .inr (10, vL 67 F460)), (h_tape, .inl (cB, 940, .inl f_tape)), (h_s, .inl (cI, 335, .inl f_s)), (h_h, .inl (cI, 104, .inl g400)), (h_names, .inl (cJ, 36, .inr (.inl g401))), (h_reserved, .inl (cJ, 23, .inr (.inl f_reserved)))]) [4, 5, 0, 1, 2, 3] (by decide) rfl) dX10_course_64 rfl (Nat.le_of_ble_eq_true rfl) (Nat.le_of_ble_eq_true rfl) ⟨F460, y392, y393, y394, y395, y396, y461, y462, x_ids, y397, y398, u101, y399, x_undoMany, f_s, g400, g401, (SAME.tr (SAME.tr (SAME.tr (SAME.tr (SAME.up eF13 (SAME.up eF12 (SAME.up eF11 (SAME.tr (SAME.up eF1 SAME.rf (by decide)) t5 (by decide)) (by decide)) (by decide)) (by decide)) t72 (by decide)) i308 (by decide)) t402 (by decide)) t463 (by decide)), (SAME.at t463 (by decide) (SAME.at t402 (by decide) (SAME.at i308 (by decide) (SAME.at t72 (by decide) (get_ne eF13 (by decide) (get_ne eF12 (by decide) (get_ne eF11 (by decide) (SAME.at t5 (by decide) (get_eq eF1))))))))), (SAME.at t463 (by decide) (SAME.at t402 (by decide) (SAME.at i308 (by decide) (SAME.at t72 (by decide) (get_ne eF13 (by decide) (get_ne eF12 (by decide) (get_ne eF11 (by decide) t6))))))), (SAME.at t463 (by decide) n432), (SAME.at t463 (by decide) t403), t404, (SAME.at t463 (by decide) n433), (SAME.at t463 (by decide) t405), t406, (SAME.at t463 (by decide) t407), (SAME.at t463 (by decide) t409), (SAME.at t463 (by decide) t411), t464, (ir_wk t465 (by decide) (by decide)), t466, (SAME.at t463 (by decide) (SAME.at t402 (by decide) (SAME.at i308 (by decide) (SAME.at t72 (by decide) (get_ne eF13 (by decide) (get_ne eF12 (by decide) (get_ne eF11 (by decide) (SAME.at t5 (by decide) (get_ne eF1 (by decide) e_ids))))))))), (SAME.at t463 (by decide) t412), (SAME.at t463 (by decide) t413), (SAME.at t463 (by decide) (SAME.at t402 (by decide) i318)), (SAME.at t463 (by decide) t414), (SAME.at t463 (by decide) (SAME.at t402 (by decide) (SAME.at i308 (by decide) (SAME.at t72 (by decide) (get_ne eF13 (by decide) (get_ne eF12 (by decide) (get_ne eF11 (by decide) (SAME.at t5 (by decide) (get_ne eF1 (by decide) e_undoMany))))))))), i_x_undoMany, s_s_153, s_s_0, s_s_5, s_s_6, s_s_7, s_s_44, s_s_K0, s_s_105, s_s_114, s_s_130, s_s_139, t415, t416, t417, t418, t419, (cAns_l2 (crs_0 t85 (csM_0 t26) (CA.bad2 i325 (by omega) (fun q => by have h2 := tkM_end.mp q; omega) t422 t467)) (by omega)), (by omega), rfl⟩
