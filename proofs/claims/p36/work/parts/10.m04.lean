set_option maxHeartbeats 4000000 in
set_option maxRecDepth 100000 in
theorem m_X10_line0 (l : Launch) (D : va_G) (cI cJ cB cP cM cZ : ClassId) (h0 : Nat) (h_tape : Nat) (h_h : Nat) (h_names : Nat) (h_reserved : Nat) (Fh : Nat → Value) (x_size : Int32) (x_p : Int32) (x_limit : Int32) (x_token : Int32) (x_at : Int32) (x_span : Int32) (x_number : Int32) (x_fault : Int32) (x_faultAt : Int32) (x_word : Int64) (x_got : Int32) (x_onces : Int32) (f_tape : Nat → Int32) (f_h : Nat → Int32) (f_names : Nat → Int64) (f_reserved : Nat → Int64) (sz : Nat) (e_tape : Fh 1 = .ref h_tape) (e_size : Fh 3 = .int x_size) (i_x_size : IR 0 940 x_size) (e_p : Fh 4 = .int x_p) (i_x_p : IR 0 940 x_p) (e_limit : Fh 5 = .int x_limit) (i_x_limit : IR 200 940 x_limit) (e_h : Fh 7 = .ref h_h) (e_names : Fh 9 = .ref h_names) (e_reserved : Fh 10 = .ref h_reserved) (e_token : Fh 11 = .int x_token) (i_x_token : IR 0 4 x_token) (e_at : Fh 12 = .int x_at) (e_span : Fh 13 = .int x_span) (e_number : Fh 14 = .int x_number) (e_fault : Fh 15 = .int x_fault) (e_faultAt : Fh 16 = .int x_faultAt) (e_word : Fh 18 = .long x_word) (e_got : Fh 19 = .int x_got) (e_onces : Fh 21 = .int x_onces) (s_h_0 : SG 0 0 0 40 f_h) (s_h_44 : SG 44 55 0 9 f_h) (s_h_5 : SG 5 5 0 12 f_h) (s_h_6 : SG 6 6 0 12 f_h) (s_h_7 : SG 7 7 0 6 f_h) (s_reserved_KR : KRN f_reserved) (z_0 : (VWF x_token.toInt x_word.toInt)) (z_1 : AV f_names 18 (f_h 5).toInt) (z_2 : AV f_names 30 (f_h 7).toInt) (o_0 : (x_token.toInt = 2 → 0 ≤ x_number.toInt ∧ x_number.toInt ≤ 999)) : CI l yX10_line0 cX10_line0 3 (some .boolean) { frames := 3, cells := 0, slots := 0, locals := 65 } (GG D cI cJ cB cP cM cZ) D [(h0, .inr (10, vL 67 Fh)), (h_tape, .inl (cB, 940, .inl f_tape)), (h_h, .inl (cI, 104, .inl f_h)), (h_names, .inl (cJ, 36, .inr (.inl f_names))), (h_reserved, .inl (cJ, 23, .inr (.inl f_reserved)))] sz [.ref h0] (fun (r : Int32) (u : va_W) => (∃ (Gh : Nat → Value) (y_p : Int32) (y_token : Int32) (y_at : Int32) (y_span : Int32) (y_number : Int32) (y_fault : Int32) (y_faultAt : Int32) (y_word : Int64) (y_got : Int32) (y_onces : Int32) (g_h : Nat → Int32) (g_names : Nat → Int64), SAME [4, 11, 12, 13, 14, 15, 16, 18, 19, 21] Fh Gh ∧ Gh 4 = .int y_p ∧ IR 0 940 y_p ∧ Gh 11 = .int y_token ∧ IR 0 4 y_token ∧ Gh 12 = .int y_at ∧ Gh 13 = .int y_span ∧ Gh 14 = .int y_number ∧ Gh 15 = .int y_fault ∧ IR 1 4 y_fault ∧ Gh 16 = .int y_faultAt ∧ Gh 18 = .long y_word ∧ Gh 19 = .int y_got ∧ Gh 21 = .int y_onces ∧ SG 0 0 0 40 g_h ∧ SG 5 5 0 12 g_h ∧ SG 6 6 0 12 g_h ∧ SG 7 7 0 6 g_h ∧ SG 44 55 0 9 g_h ∧ (cLine (tkA f_tape x_size.toInt x_limit.toInt) (tkM x_token x_at x_number x_word x_p) (csM x_onces f_h f_names) = .inl (y_fault.toInt, y_faultAt.toInt)) ∧ (UN f_names g_names) ∧ ((y_token.toInt = 2 → 0 ≤ y_number.toInt ∧ y_number.toInt ≤ 999)) ∧ r = 0 ∧ u = [(h0, .inr (10, vL 67 Gh)), (h_tape, .inl (cB, 940, .inl f_tape)), (h_h, .inl (cI, 104, .inl g_h)), (h_names, .inl (cJ, 36, .inr (.inl g_names))), (h_reserved, .inl (cJ, 23, .inr (.inl f_reserved)))]) ∨ (∃ (Gh : Nat → Value) (y_p : Int32) (y_token : Int32) (y_at : Int32) (y_span : Int32) (y_number : Int32) (y_word : Int64) (y_got : Int32) (y_onces : Int32) (g_h : Nat → Int32) (g_names : Nat → Int64), SAME [4, 11, 12, 13, 14, 18, 19, 21] Fh Gh ∧ Gh 4 = .int y_p ∧ IR 0 940 y_p ∧ Gh 11 = .int y_token ∧ IR 0 4 y_token ∧ Gh 12 = .int y_at ∧ IR 0 940 y_at ∧ Gh 13 = .int y_span ∧ IR 0 940 y_span ∧ Gh 14 = .int y_number ∧ Gh 18 = .long y_word ∧ Gh 19 = .int y_got ∧ Gh 21 = .int y_onces ∧ SG 0 0 0 40 g_h ∧ SG 5 5 0 12 g_h ∧ SG 6 6 0 12 g_h ∧ SG 7 7 0 6 g_h ∧ SG 44 55 0 9 g_h ∧ (x_p.toInt ≤ y_p.toInt) ∧ ((1 ≤ y_token.toInt → y_token.toInt ≤ 3 → x_p.toInt < y_p.toInt)) ∧ (cLine (tkA f_tape x_size.toInt x_limit.toInt) (tkM x_token x_at x_number x_word x_p) (csM x_onces f_h f_names) = .inr ((tkM y_token y_at y_number y_word y_p), (csM y_onces g_h g_names))) ∧ (x_token.toInt = 1) ∧ (AV g_names 18 (g_h 5).toInt) ∧ (AV g_names 30 (g_h 7).toInt) ∧ ((VWF y_token.toInt y_word.toInt)) ∧ (UN f_names g_names) ∧ ((y_token.toInt = 2 → 0 ≤ y_number.toInt ∧ y_number.toInt ≤ 999)) ∧ r = 1 ∧ u = [(h0, .inr (10, vL 67 Gh)), (h_tape, .inl (cB, 940, .inl f_tape)), (h_h, .inl (cI, 104, .inl g_h)), (h_names, .inl (cJ, 36, .inr (.inl g_names))), (h_reserved, .inl (cJ, 23, .inr (.inl f_reserved)))])) := by
  refine CI_mk (by decide) (Nat.le_of_ble_eq_true rfl) ?_
  intro p e s m below meth c A ls E hAe hG hsz hP hD hA hS hl
  obtain ⟨hx, hb, hr, hw, hown, hlocks, hml, hnm⟩ := E
  have hK := hG.1
  have i_x_size : 0 ≤ x_size.toInt ∧ x_size.toInt ≤ 940 := i_x_size
  have i_x_p : 0 ≤ x_p.toInt ∧ x_p.toInt ≤ 940 := i_x_p
  have i_x_limit : 200 ≤ x_limit.toInt ∧ x_limit.toInt ≤ 940 := i_x_limit
  have i_x_token : 0 ≤ x_token.toInt ∧ x_token.toInt ≤ 4 := i_x_token
  have hl : lv_has ls 3 [(0, .ref h0)] := hl
  refine lv_aload_n hx hb dX10_line0_0 rfl (lv_at hl 0 rfl) ?_
  refine call_Vi (wr := [(h_tape, .inl (cB, 940, .inl f_tape)), (h_h, .inl (cI, 104, .inl f_h)), (h_names, .inl (cJ, 36, .inr (.inl f_names))), (h_reserved, .inl (cJ, 23, .inr (.inl f_reserved)))]) (As := []) (rest := []) hx hb hml hown hw (m_X10_onceOf l D cI cJ cB cP cM cZ h0 Fh x_token x_number x_word _ e_token i_x_token e_number e_word z_0 (by omega)) wV_X10_236_X10_onceOf dX10_line0_1 hK hP hD hS hA [0] [1, 2, 3, 4] rfl rfl (by decide) (by decide) (by decide) 0 10 rfl rfl GG.fb hG.at hl.1 rfl (Nat.le_of_ble_eq_true rfl) ⟨(Nat.le_of_ble_eq_true rfl), (Nat.le_of_ble_eq_true rfl)⟩ ⟨(Nat.le_of_ble_eq_true rfl), (Nat.le_of_ble_eq_true rfl)⟩ (fun r1 u H locs hp hP hD hS => ?_)
  obtain ⟨t2, t3, rfl⟩ := hp
  have hP : va_P D vwCl [(h_tape, .inl (cB, 940, .inl f_tape)), (h_h, .inl (cI, 104, .inl f_h)), (h_names, .inl (cJ, 36, .inr (.inl f_names))), (h_reserved, .inl (cJ, 23, .inr (.inl f_reserved))), (h0, .inr (10, vL 67 Fh))] H := hP
  have hD : va_D A [(h_tape, .inl (cB, 940, .inl f_tape)), (h_h, .inl (cI, 104, .inl f_h)), (h_names, .inl (cJ, 36, .inr (.inl f_names))), (h_reserved, .inl (cJ, 23, .inr (.inl f_reserved))), (h0, .inr (10, vL 67 Fh))] := hD
  refine W.widen (k := 0) (n := 0) (Nat.le_of_ble_eq_true rfl) (Nat.le_of_ble_eq_true rfl) ?_
  replace t3 := ONCF.mk t3
  refine lv_istore_n (lv' := [(1, .int r1), (0, .ref h0)]) hx hb dX10_line0_4 rfl hl (by decide) rfl (fun ls hl => ?_)
  refine lv_iload_n hx hb dX10_line0_5 rfl (lv_at hl 0 rfl) ?_
  refine lv_if_lt (tgt := 113) hx hb dX10_line0_6 (by decide) (fun c5 => ?_) (fun c5 => ?_)
  · have dc5 : r1.toInt < 0 := lt_i (a := r1.toInt) (b := 0) rfl rfl c5
    have k6 : (-1) ≤ r1.toInt ∧ r1.toInt ≤ (-1) := ⟨t2.1, up_lt dc5 (Int.le_refl _) (by decide)⟩
    refine lv_aload_n hx hb dX10_line0_113 rfl (lv_at hl 1 rfl) ?_
    refine lv_ldc2 hx hb hown (hw _ q_1239) dX10_line0_114 ?_
    refine call_Vi (wr := [(h_tape, .inl (cB, 940, .inl f_tape)), (h_h, .inl (cI, 104, .inl f_h)), (h_names, .inl (cJ, 36, .inr (.inl f_names))), (h_reserved, .inl (cJ, 23, .inr (.inl f_reserved)))]) (As := [.long 7168366]) (rest := []) hx hb hml hown hw (m_X10_isWord l D cI cJ cB cP cM cZ h0 Fh x_token x_number x_word 7168366 _ e_token i_x_token e_number e_word (by omega)) wV_X10_225_X10_isWord dX10_line0_117 hK hP hD hS hA [4] [0, 1, 2, 3] rfl rfl (by decide) (by decide) (by decide) 0 10 rfl rfl GG.fb hG.at hl.1 rfl (Nat.le_of_ble_eq_true rfl) ⟨(Nat.le_of_ble_eq_true rfl), (Nat.le_of_ble_eq_true rfl)⟩ ⟨(Nat.le_of_ble_eq_true rfl), (Nat.le_of_ble_eq_true rfl)⟩ (fun r7 u H locs hp hP hD hS => ?_)
    have zl7168366 : (7168366 : Int32).toInt = 7168366 := by decide
    obtain ⟨t8, t9, rfl⟩ := hp
    have hP : va_P D vwCl [(h_tape, .inl (cB, 940, .inl f_tape)), (h_h, .inl (cI, 104, .inl f_h)), (h_names, .inl (cJ, 36, .inr (.inl f_names))), (h_reserved, .inl (cJ, 23, .inr (.inl f_reserved))), (h0, .inr (10, vL 67 Fh))] H := hP
    have hD : va_D A [(h_tape, .inl (cB, 940, .inl f_tape)), (h_h, .inl (cI, 104, .inl f_h)), (h_names, .inl (cJ, 36, .inr (.inl f_names))), (h_reserved, .inl (cJ, 23, .inr (.inl f_reserved))), (h0, .inr (10, vL 67 Fh))] := hD
    refine W.widen (k := 0) (n := 0) (Nat.le_of_ble_eq_true rfl) (Nat.le_of_ble_eq_true rfl) ?_
    replace t9 := ISWF.mk (isw (k := 5) (a := 9518) z_0 t9 (by decide) (by decide +kernel) (by decide +kernel) (by decide +kernel) (by decide +kernel))
    refine lv_if_eq (tgt := 248) hx hb dX10_line0_120 (by decide) (fun c11 => ?_) (fun c11 => ?_)
    · have dc11 : r7.toInt = 0 := eq_i (a := r7.toInt) (b := 0) rfl rfl c11
      have k12 : 0 ≤ r7.toInt ∧ r7.toInt ≤ 0 := ⟨t8.1, Int.le_trans (Int.le_of_eq dc11) (Int.le_refl _)⟩
      refine lv_aload_n hx hb dX10_line0_248 rfl (lv_at hl 1 rfl) ?_
      refine lv_ldc2 hx hb hown (hw _ q_1240) dX10_line0_249 ?_
      refine call_Vi (wr := [(h_tape, .inl (cB, 940, .inl f_tape)), (h_h, .inl (cI, 104, .inl f_h)), (h_names, .inl (cJ, 36, .inr (.inl f_names))), (h_reserved, .inl (cJ, 23, .inr (.inl f_reserved)))]) (As := [.long 1650814564]) (rest := []) hx hb hml hown hw (m_X10_isWord l D cI cJ cB cP cM cZ h0 Fh x_token x_number x_word 1650814564 _ e_token i_x_token e_number e_word (by omega)) wV_X10_225_X10_isWord dX10_line0_252 hK hP hD hS hA [4] [0, 1, 2, 3] rfl rfl (by decide) (by decide) (by decide) 0 10 rfl rfl GG.fb hG.at hl.1 rfl (Nat.le_of_ble_eq_true rfl) ⟨(Nat.le_of_ble_eq_true rfl), (Nat.le_of_ble_eq_true rfl)⟩ ⟨(Nat.le_of_ble_eq_true rfl), (Nat.le_of_ble_eq_true rfl)⟩ (fun r13 u H locs hp hP hD hS => ?_)
      have zl1650814564 : (1650814564 : Int32).toInt = 1650814564 := by decide
      obtain ⟨t14, t15, rfl⟩ := hp
      have hP : va_P D vwCl [(h_tape, .inl (cB, 940, .inl f_tape)), (h_h, .inl (cI, 104, .inl f_h)), (h_names, .inl (cJ, 36, .inr (.inl f_names))), (h_reserved, .inl (cJ, 23, .inr (.inl f_reserved))), (h0, .inr (10, vL 67 Fh))] H := hP
      have hD : va_D A [(h_tape, .inl (cB, 940, .inl f_tape)), (h_h, .inl (cI, 104, .inl f_h)), (h_names, .inl (cJ, 36, .inr (.inl f_names))), (h_reserved, .inl (cJ, 23, .inr (.inl f_reserved))), (h0, .inr (10, vL 67 Fh))] := hD
      refine W.widen (k := 0) (n := 0) (Nat.le_of_ble_eq_true rfl) (Nat.le_of_ble_eq_true rfl) ?_
      replace t15 := ISWF.mk (isw (k := 6) (a := 43393) z_0 t15 (by decide) (by decide +kernel) (by decide +kernel) (by decide +kernel) (by decide +kernel))
      refine lv_if_eq (tgt := 395) hx hb dX10_line0_255 (by decide) (fun c17 => ?_) (fun c17 => ?_)
      · have dc17 : r13.toInt = 0 := eq_i (a := r13.toInt) (b := 0) rfl rfl c17
        have k18 : 0 ≤ r13.toInt ∧ r13.toInt ≤ 0 := ⟨t14.1, Int.le_trans (Int.le_of_eq dc17) (Int.le_refl _)⟩
        refine lv_aload_n hx hb dX10_line0_395 rfl (lv_at hl 1 rfl) ?_
        refine lv_ldc2 hx hb hown (hw _ q_1241) dX10_line0_396 ?_
        refine call_Vi (wr := [(h_tape, .inl (cB, 940, .inl f_tape)), (h_h, .inl (cI, 104, .inl f_h)), (h_names, .inl (cJ, 36, .inr (.inl f_names))), (h_reserved, .inl (cJ, 23, .inr (.inl f_reserved)))]) (As := [.long 125848689468786]) (rest := []) hx hb hml hown hw (m_X10_isWord l D cI cJ cB cP cM cZ h0 Fh x_token x_number x_word 125848689468786 _ e_token i_x_token e_number e_word (by omega)) wV_X10_225_X10_isWord dX10_line0_399 hK hP hD hS hA [4] [0, 1, 2, 3] rfl rfl (by decide) (by decide) (by decide) 0 10 rfl rfl GG.fb hG.at hl.1 rfl (Nat.le_of_ble_eq_true rfl) ⟨(Nat.le_of_ble_eq_true rfl), (Nat.le_of_ble_eq_true rfl)⟩ ⟨(Nat.le_of_ble_eq_true rfl), (Nat.le_of_ble_eq_true rfl)⟩ (fun r19 u H locs hp hP hD hS => ?_)
        obtain ⟨t20, t21, rfl⟩ := hp
        have hP : va_P D vwCl [(h_tape, .inl (cB, 940, .inl f_tape)), (h_h, .inl (cI, 104, .inl f_h)), (h_names, .inl (cJ, 36, .inr (.inl f_names))), (h_reserved, .inl (cJ, 23, .inr (.inl f_reserved))), (h0, .inr (10, vL 67 Fh))] H := hP
        have hD : va_D A [(h_tape, .inl (cB, 940, .inl f_tape)), (h_h, .inl (cI, 104, .inl f_h)), (h_names, .inl (cJ, 36, .inr (.inl f_names))), (h_reserved, .inl (cJ, 23, .inr (.inl f_reserved))), (h0, .inr (10, vL 67 Fh))] := hD
        refine W.widen (k := 0) (n := 0) (Nat.le_of_ble_eq_true rfl) (Nat.le_of_ble_eq_true rfl) ?_
        replace t21 := ISWF.mk (isw (k := 7) (a := 269726508) z_0 t21 (by decide) (by decide +kernel) (by decide +kernel) (by decide +kernel) (by decide +kernel))
        refine lv_if_ne (tgt := 411) hx hb dX10_line0_402 (by decide) (fun c23 => ?_) (fun c23 => ?_)
        · have dc23 : r19.toInt ≠ 0 := ne_i (a := r19.toInt) (b := 0) rfl rfl c23
          have k24 : 1 ≤ r19.toInt ∧ r19.toInt ≤ 1 := ⟨ne_lo dc23 t20.1 ⟨Int.le_refl _, Int.le_refl _⟩ (by decide), t20.2⟩
          refine lv_aload_n hx hb dX10_line0_411 rfl (lv_at hl 1 rfl) ?_
          refine get_f (D := D) (ci := 10) (v := .ref h_h) (C := RX10) (T := TX10) (N := 67) hx hb hw inAX10 hown hK hP 4 rfl rfl 7 (by decide) (hw _ q_1268) (fun _ h9 => h9) e_h dX10_line0_412 ?_
          refine lv_bipush (v := 7) hx hb dX10_line0_415 (by decide) ?_
          refine iald_n hx hb hK hP 1 0 rfl rfl 7 rfl (Nat.le_of_ble_eq_true rfl) (Nat.le_of_ble_eq_true rfl) rfl dX10_line0_417 ?_
          refine lv_topi (fun v25 ev25 => ?_)
          have k26 : 0 ≤ v25.toInt ∧ v25.toInt ≤ 6 := by rw [ev25]; exact s_h_7.atN 7 (by decide) (by decide)
          refine lv_istore_n (lv' := [(2, .int v25), (1, .int r1), (0, .ref h0)]) hx hb dX10_line0_418 rfl hl (by decide) rfl (fun ls hl => ?_)
          refine lv_iload_n hx hb dX10_line0_419 rfl (lv_at hl 0 rfl) ?_
          refine lv_bipush (v := 6) hx hb dX10_line0_420 (by decide) ?_
          refine lv_icmp_ne (tgt := 431) hx hb dX10_line0_422 (by decide) (fun c27 => ?_) (fun c27 => ?_)
          · have dc27 : v25.toInt ≠ 6 := ne_i (a := v25.toInt) (b := 6) rfl rfl c27
            have k28 : 0 ≤ v25.toInt ∧ v25.toInt ≤ 5 := ⟨k26.1, ne_hi dc27 k26.2 ⟨Int.le_refl _, Int.le_refl _⟩ (by decide)⟩
            have r29 : SG 7 7 0 5 f_h := SG.one ev25 k28
            refine lv_aload_n hx hb dX10_line0_431 rfl (lv_at hl 2 rfl) ?_
            refine call_Vv (wr := [(h_h, .inl (cI, 104, .inl f_h)), (h_names, .inl (cJ, 36, .inr (.inl f_names))), (h_reserved, .inl (cJ, 23, .inr (.inl f_reserved)))]) (As := []) (rest := []) hx hb hml hown hw (m_X10_next l D cI cJ cB cP cM cZ h0 h_tape Fh x_size x_p x_limit x_token x_at x_number x_word f_tape _ e_tape e_size i_x_size e_p i_x_p e_limit i_x_limit e_token i_x_token e_at e_number e_word (by omega)) wV_X10_208_X10_next dX10_line0_432 hK hP hD hS hA [4, 0] [1, 2, 3] rfl rfl (by decide) (by decide) (by decide) 0 10 rfl rfl GG.fb hG.at hl.1 rfl (Nat.le_of_ble_eq_true rfl) ⟨(Nat.le_of_ble_eq_true rfl), (Nat.le_of_ble_eq_true rfl)⟩ ⟨(Nat.le_of_ble_eq_true rfl), (Nat.le_of_ble_eq_true rfl)⟩ (fun u H locs hp hP hD hS => ?_)
            obtain ⟨F31, y32, y33, y34, y35, y36, y37, t38, t39, t40, t41, t42, t43, t44, t45, t46, t47, t48, t49, t50, t51, t52, t53, rfl⟩ := hp
            have hP : va_P D vwCl [(h_h, .inl (cI, 104, .inl f_h)), (h_names, .inl (cJ, 36, .inr (.inl f_names))), (h_reserved, .inl (cJ, 23, .inr (.inl f_reserved))), (h0, .inr (10, vL 67 F31)), (h_tape, .inl (cB, 940, .inl f_tape))] H := hP
            have hD : va_D A [(h_h, .inl (cI, 104, .inl f_h)), (h_names, .inl (cJ, 36, .inr (.inl f_names))), (h_reserved, .inl (cJ, 23, .inr (.inl f_reserved))), (h0, .inr (10, vL 67 F31)), (h_tape, .inl (cB, 940, .inl f_tape))] := hD
            refine W.widen (k := 0) (n := 0) (Nat.le_of_ble_eq_true rfl) (Nat.le_of_ble_eq_true rfl) ?_
            refine lv_aload_n hx hb dX10_line0_435 rfl (lv_at hl 2 rfl) ?_
            refine lv_bipush (v := 30) hx hb dX10_line0_436 (by decide) ?_
            refine lv_iload_n hx hb dX10_line0_438 rfl (lv_at hl 0 rfl) ?_
            refine lv_iadd hx hb dX10_line0_439 ?_
            refine lv_topi (fun v55 ev55 => ?_)
            have bv55 : v55.toInt = 30 + v25.toInt := by rw [ev55]; exact add_k rfl rfl ⟨Int.le_refl _, Int.le_refl _⟩ k28 (by decide)
            have k56 : 30 ≤ v55.toInt ∧ v55.toInt ≤ 35 := add_r bv55 ⟨Int.le_refl _, Int.le_refl _⟩ k28 (by decide)
            have n57 : F31 1 = .ref h_tape := (SAME.at t38 (by decide) e_tape)
            have n58 : F31 3 = .int x_size := (SAME.at t38 (by decide) e_size)
            have n59 : F31 5 = .int x_limit := (SAME.at t38 (by decide) e_limit)
            have n60 : F31 7 = .ref h_h := (SAME.at t38 (by decide) e_h)
            have n61 : F31 9 = .ref h_names := (SAME.at t38 (by decide) e_names)
            have n62 : F31 10 = .ref h_reserved := (SAME.at t38 (by decide) e_reserved)
            have n63 : F31 15 = .int x_fault := (SAME.at t38 (by decide) e_fault)
            have n64 : F31 16 = .int x_faultAt := (SAME.at t38 (by decide) e_faultAt)
            refine call_Vi (wr := []) (As := [.int v55]) (rest := []) hx hb hml hown hw (m_X10_fresh l D cI cJ cB cP cM cZ h0 h_tape h_h h_names h_reserved F31 x_size y32 x_limit y33 y34 y36 x_fault x_faultAt y37 f_tape f_h f_names f_reserved v55 _ n57 n58 i_x_size t39 t40 n59 i_x_limit n60 n61 n62 t41 t42 t43 t47 n63 n64 t48 s_h_0 s_h_44 s_h_5 s_h_6 (SG.wk r29 (by decide) (by decide)) s_reserved_KR (ir_wk k56 (by decide) (by decide)) t52 z_1 z_2 (by omega)) wV_X10_245_X10_fresh dX10_line0_440 hK hP hD hS hA [3, 4, 0, 1, 2] [] rfl rfl (by decide) (by decide) (by decide) 0 10 rfl rfl GG.fb hG.at hl.1 rfl (Nat.le_of_ble_eq_true rfl) ⟨(Nat.le_of_ble_eq_true rfl), (Nat.le_of_ble_eq_true rfl)⟩ ⟨(Nat.le_of_ble_eq_true rfl), (Nat.le_of_ble_eq_true rfl)⟩ (fun r65 u H locs hp hP hD hS => ?_)
            rcases hp with hp | hp
            · refine hp.elim (fun F66 h9z0 => h9z0.elim (fun y67 h9z1 => h9z1.elim (fun y68 h9z2 => h9z2.elim (fun y69 h9z3 => h9z3.elim (fun y70 h9z4 => h9z4.elim (fun y71 h9z5 => h9z5.elim (fun y72 h9z6 => h9z6.elim (fun g73 h9z7 => h9z7.elim (fun t74 h9z8 => h9z8.elim (fun t75 h9z9 => h9z9.elim (fun t76 h9z10 => h9z10.elim (fun t77 h9z11 => h9z11.elim (fun t78 h9z12 => h9z12.elim (fun t79 h9z13 => h9z13.elim (fun t80 h9z14 => h9z14.elim (fun t81 h9z15 => h9z15.elim (fun t82 h9z16 => h9z16.elim (fun t83 h9z17 => h9z17.elim (fun t84 h9z18 => h9z18.elim (fun t85 h9z19 => h9z19.elim (fun t86 h9z20 => h9z20.elim (fun t87 h9z21 => h9z21.elim (fun t88 h9z22 => h9z22.elim (fun t89 h9z23 => h9z23.elim (fun t90 h9z24 => h9z24.elim (fun t91 h9z25 => h9z25.elim (fun t92 h9z26 => h9z26.elim (fun t93 h9z27 => h9z27.elim (fun heq928 h9z28 => ?_)))))))))))))))))))))))))))))
              clear h9z0 h9z1 h9z2 h9z3 h9z4 h9z5 h9z6 h9z7 h9z8 h9z9 h9z10 h9z11 h9z12 h9z13 h9z14 h9z15 h9z16 h9z17 h9z18 h9z19 h9z20 h9z21 h9z22 h9z23 h9z24 h9z25 h9z26 h9z27
              subst heq928
              subst h9z28
              clear t50 t53
              have hP : va_P D vwCl [(h0, .inr (10, vL 67 F66)), (h_tape, .inl (cB, 940, .inl f_tape)), (h_h, .inl (cI, 104, .inl f_h)), (h_names, .inl (cJ, 36, .inr (.inl g73))), (h_reserved, .inl (cJ, 23, .inr (.inl f_reserved)))] H := hP
              have hD : va_D A [(h0, .inr (10, vL 67 F66)), (h_tape, .inl (cB, 940, .inl f_tape)), (h_h, .inl (cI, 104, .inl f_h)), (h_names, .inl (cJ, 36, .inr (.inl g73))), (h_reserved, .inl (cJ, 23, .inr (.inl f_reserved)))] := hD
              refine W.widen (k := 0) (n := 0) (Nat.le_of_ble_eq_true rfl) (Nat.le_of_ble_eq_true rfl) ?_
              refine lv_if_ne (tgt := 448) hx hb dX10_line0_443 (by decide) (fun _ => ?_) (fun g => absurd g (by decide))
              refine lv_aload_n hx hb dX10_line0_448 rfl (lv_at hl 2 rfl) ?_
              refine lv_iconst (v := 0) hx hb dX10_line0_449 (by decide) ?_
              refine lv_bipush (v := 20) hx hb dX10_line0_450 (by decide) ?_
              have n104 : F66 1 = .ref h_tape := (SAME.at t74 (by decide) n57)
              have n105 : F66 3 = .int x_size := (SAME.at t74 (by decide) n58)
              have n106 : F66 5 = .int x_limit := (SAME.at t74 (by decide) n59)
              have n107 : F66 15 = .int x_fault := (SAME.at t74 (by decide) n63)
              have n108 : F66 16 = .int x_faultAt := (SAME.at t74 (by decide) n64)
              have n109 : F31 19 = .int x_got := (SAME.at t38 (by decide) e_got)
              have n110 : F66 19 = .int x_got := (SAME.at t74 (by decide) n109)
              refine call_Vi (wr := [(h_h, .inl (cI, 104, .inl f_h)), (h_names, .inl (cJ, 36, .inr (.inl g73))), (h_reserved, .inl (cJ, 23, .inr (.inl f_reserved)))]) (As := [.int 0, .int 20]) (rest := []) hx hb hml hown hw (m_X10_takes l D cI cJ cB cP cM cZ h0 h_tape F66 x_size y67 x_limit y68 y69 y71 x_fault x_faultAt y72 x_got f_tape 0 20 _ n104 n105 i_x_size t75 t76 n106 i_x_limit t77 t78 t79 t83 n107 n108 t84 n110 (by omega)) wV_X10_242_X10_takes dX10_line0_452 hK hP hD hS hA [0, 1] [2, 3, 4] rfl rfl (by decide) (by decide) (by decide) 0 10 rfl rfl GG.fb hG.at hl.1 rfl (Nat.le_of_ble_eq_true rfl) ⟨(Nat.le_of_ble_eq_true rfl), (Nat.le_of_ble_eq_true rfl)⟩ ⟨(Nat.le_of_ble_eq_true rfl), (Nat.le_of_ble_eq_true rfl)⟩ (fun r111 u H locs hp hP hD hS => ?_)
              have zl0 : (0 : Int32).toInt = 0 := by decide
              have zl20 : (20 : Int32).toInt = 20 := by decide
              rcases hp with hp | hp
              · obtain ⟨F112, y113, y114, t115, t116, t117, t118, t119, rfl, rfl⟩ := hp
                have hP : va_P D vwCl [(h_h, .inl (cI, 104, .inl f_h)), (h_names, .inl (cJ, 36, .inr (.inl g73))), (h_reserved, .inl (cJ, 23, .inr (.inl f_reserved))), (h0, .inr (10, vL 67 F112)), (h_tape, .inl (cB, 940, .inl f_tape))] H := hP
                have hD : va_D A [(h_h, .inl (cI, 104, .inl f_h)), (h_names, .inl (cJ, 36, .inr (.inl g73))), (h_reserved, .inl (cJ, 23, .inr (.inl f_reserved))), (h0, .inr (10, vL 67 F112)), (h_tape, .inl (cB, 940, .inl f_tape))] := hD
                refine W.widen (k := 0) (n := 0) (Nat.le_of_ble_eq_true rfl) (Nat.le_of_ble_eq_true rfl) ?_
                refine lv_if_ne (tgt := 460) hx hb dX10_line0_455 (by decide) (fun g => absurd (by decide) g) (fun _ => ?_)
                refine lv_iconst (v := 0) hx hb dX10_line0_458 (by decide) ?_
                exact ret_i (v := 0) hx hb hr hlocks hS (hP.sub (ws' := [(h0, .inr (10, vL 67 F112)), (h_tape, .inl (cB, 940, .inl f_tape)), (h_h, .inl (cI, 104, .inl f_h)), (h_names, .inl (cJ, 36, .inr (.inl g73))), (h_reserved, .inl (cJ, 23, .inr (.inl f_reserved)))]) [3, 4, 0, 1, 2] rfl) (hD.sub (ws' := [(h0, .inr (10, vL 67 F112)), (h_tape, .inl (cB, 940, .inl f_tape)), (h_h, .inl (cI, 104, .inl f_h)), (h_names, .inl (cJ, 36, .inr (.inl g73))), (h_reserved, .inl (cJ, 23, .inr (.inl f_reserved)))]) [3, 4, 0, 1, 2] (by decide) rfl) dX10_line0_459 rfl (Nat.le_of_ble_eq_true rfl) (Nat.le_of_ble_eq_true rfl) (Or.inl ⟨F112, y67, y68, y69, y70, y71, y113, y114, y72, x_got, x_onces, f_h, g73, (SAME.tr (SAME.tr (SAME.tr SAME.rf t38 (by decide)) t74 (by decide)) t115 (by decide)), (SAME.at t115 (by decide) t75), t76, (SAME.at t115 (by decide) t77), t78, (SAME.at t115 (by decide) t79), (SAME.at t115 (by decide) t81), (SAME.at t115 (by decide) t83), t116, (ir_wk t117 (by decide) (by decide)), t118, (SAME.at t115 (by decide) t84), (SAME.at t115 (by decide) n110), (SAME.at t115 (by decide) (SAME.at t74 (by decide) (SAME.at t38 (by decide) e_onces))), s_h_0, s_h_5, s_h_6, (SG.wk r29 (by decide) (by decide)), s_h_44, ((cLine_7 (tkM_1st (ISWF.t t21 (by omega)).1) (lnwM (ISWF.t t21 (by omega)).1 (ISWF.t t21 (by omega)).2)).trans (cRun_1 (show ¬ 6 ≤ (nmM f_names 30 (f_h 7).toInt).length by rw [nmM_len]; have hn : (f_h 7).toInt = v25.toInt := congrArg Int32.toInt ev25.symm; omega) (atM t51 (ISWF.t t21 (by omega)).1) t87 t119)), t92, (by omega), rfl, rfl⟩)
              · refine hp.elim (fun F120 h9z0 => h9z0.elim (fun y121 h9z1 => h9z1.elim (fun y122 h9z2 => h9z2.elim (fun y123 h9z3 => h9z3.elim (fun y124 h9z4 => h9z4.elim (fun y125 h9z5 => h9z5.elim (fun y126 h9z6 => h9z6.elim (fun y127 h9z7 => h9z7.elim (fun t128 h9z8 => h9z8.elim (fun t129 h9z9 => h9z9.elim (fun t130 h9z10 => h9z10.elim (fun t131 h9z11 => h9z11.elim (fun t132 h9z12 => h9z12.elim (fun t133 h9z13 => h9z13.elim (fun t134 h9z14 => h9z14.elim (fun t135 h9z15 => h9z15.elim (fun t136 h9z16 => h9z16.elim (fun t137 h9z17 => h9z17.elim (fun t138 h9z18 => h9z18.elim (fun t139 h9z19 => h9z19.elim (fun t140 h9z20 => h9z20.elim (fun t141 h9z21 => h9z21.elim (fun t142 h9z22 => h9z22.elim (fun t143 h9z23 => h9z23.elim (fun t144 h9z24 => h9z24.elim (fun t145 h9z25 => h9z25.elim (fun t146 h9z26 => h9z26.elim (fun t147 h9z27 => h9z27.elim (fun t148 h9z28 => h9z28.elim (fun t149 h9z29 => h9z29.elim (fun heq930 h9z30 => ?_)))))))))))))))))))))))))))))))
                clear h9z0 h9z1 h9z2 h9z3 h9z4 h9z5 h9z6 h9z7 h9z8 h9z9 h9z10 h9z11 h9z12 h9z13 h9z14 h9z15 h9z16 h9z17 h9z18 h9z19 h9z20 h9z21 h9z22 h9z23 h9z24 h9z25 h9z26 h9z27 h9z28 h9z29
                subst heq930
                subst h9z30
                clear t86 t93
                have hP : va_P D vwCl [(h_h, .inl (cI, 104, .inl f_h)), (h_names, .inl (cJ, 36, .inr (.inl g73))), (h_reserved, .inl (cJ, 23, .inr (.inl f_reserved))), (h0, .inr (10, vL 67 F120)), (h_tape, .inl (cB, 940, .inl f_tape))] H := hP
                have hD : va_D A [(h_h, .inl (cI, 104, .inl f_h)), (h_names, .inl (cJ, 36, .inr (.inl g73))), (h_reserved, .inl (cJ, 23, .inr (.inl f_reserved))), (h0, .inr (10, vL 67 F120)), (h_tape, .inl (cB, 940, .inl f_tape))] := hD
                refine W.widen (k := 0) (n := 0) (Nat.le_of_ble_eq_true rfl) (Nat.le_of_ble_eq_true rfl) ?_
                have k151 : 2 ≤ y68.toInt ∧ y68.toInt ≤ 2 := ⟨Int.le_trans (Int.le_refl _) (Int.le_of_eq t140.symm), Int.le_trans (Int.le_of_eq t140) (Int.le_refl _)⟩
                have k152 : 0 ≤ y71.toInt ∧ y71.toInt ≤ 2147483647 := ⟨Int.le_trans (Int.le_refl _) t141, (ir_any _).2⟩
                have k153 : 0 ≤ y71.toInt ∧ y71.toInt ≤ 20 := ⟨k152.1, Int.le_trans t142 (Int.le_refl _)⟩
                refine lv_if_ne (tgt := 460) hx hb dX10_line0_455 (by decide) (fun _ => ?_) (fun g => absurd g (by decide))
                refine lv_aload_n hx hb dX10_line0_460 rfl (lv_at hl 2 rfl) ?_
                have n154 : F66 7 = .ref h_h := (SAME.at t74 (by decide) n60)
                have n155 : F120 7 = .ref h_h := (SAME.at t128 (by decide) n154)
                refine get_f (D := D) (ci := 10) (v := .ref h_h) (C := RX10) (T := TX10) (N := 67) hx hb hw inAX10 hown hK hP 3 rfl rfl 7 (by decide) (hw _ q_1268) (fun _ h9 => h9) n155 dX10_line0_461 ?_
                refine lv_bipush (v := 92) hx hb dX10_line0_464 (by decide) ?_
                refine lv_iload_n hx hb dX10_line0_466 rfl (lv_at hl 0 rfl) ?_
                refine lv_iadd hx hb dX10_line0_467 ?_
                refine lv_topi (fun v156 ev156 => ?_)
                have bv156 : v156.toInt = 92 + v25.toInt := by rw [ev156]; exact add_k rfl rfl ⟨Int.le_refl _, Int.le_refl _⟩ k28 (by decide)
                have k157 : 92 ≤ v156.toInt ∧ v156.toInt ≤ 97 := add_r bv156 ⟨Int.le_refl _, Int.le_refl _⟩ k28 (by decide)
                refine lv_aload_n hx hb dX10_line0_468 rfl (lv_at hl 2 rfl) ?_
                refine get_f (D := D) (ci := 10) (v := .int y127) (C := RX10) (T := TX10) (N := 67) hx hb hw inAX10 hown hK hP 3 rfl rfl 19 (by decide) (hw _ q_1280) (fun _ h9 => h9) t139 dX10_line0_469 ?_
                obtain ⟨g158, eg158⟩ : ∃ z : Nat → Int32, upd f_h v156.toNatClampNeg y127 = z := ⟨_, rfl⟩
                have r159 : SG 0 0 0 40 g158 := by rw [← eg158]; exact s_h_0.up (Int.le_trans (by decide) k157.1) (Or.inr (Or.inl (dec_lt k157.1 (by decide))))
                have r160 : SG 44 55 0 9 g158 := by rw [← eg158]; exact s_h_44.up (Int.le_trans (by decide) k157.1) (Or.inr (Or.inl (dec_lt k157.1 (by decide))))
                have r161 : SG 5 5 0 12 g158 := by rw [← eg158]; exact s_h_5.up (Int.le_trans (by decide) k157.1) (Or.inr (Or.inl (dec_lt k157.1 (by decide))))
                have r162 : SG 6 6 0 12 g158 := by rw [← eg158]; exact s_h_6.up (Int.le_trans (by decide) k157.1) (Or.inr (Or.inl (dec_lt k157.1 (by decide))))
                have r163 : SG 7 7 0 5 g158 := by rw [← eg158]; exact r29.up (Int.le_trans (by decide) k157.1) (Or.inr (Or.inl (dec_lt k157.1 (by decide))))
                refine iast_g hx hb hK hP hD hS 0 0 rfl rfl (ix_k k157 (by decide) (by decide)) eg158 dX10_line0_472 (fun H locs hP hD hS => ?_)
                have hP : va_P D vwCl [(h_h, .inl (cI, 104, .inl g158)), (h_names, .inl (cJ, 36, .inr (.inl g73))), (h_reserved, .inl (cJ, 23, .inr (.inl f_reserved))), (h0, .inr (10, vL 67 F120)), (h_tape, .inl (cB, 940, .inl f_tape))] H := hP
                have hD : va_D A [(h_h, .inl (cI, 104, .inl g158)), (h_names, .inl (cJ, 36, .inr (.inl g73))), (h_reserved, .inl (cJ, 23, .inr (.inl f_reserved))), (h0, .inr (10, vL 67 F120)), (h_tape, .inl (cB, 940, .inl f_tape))] := hD
                refine lv_aload_n hx hb dX10_line0_473 rfl (lv_at hl 2 rfl) ?_
                refine lv_iconst (v := 0) hx hb dX10_line0_474 (by decide) ?_
                refine lv_bipush (v := 9) hx hb dX10_line0_475 (by decide) ?_
                have n164 : F120 1 = .ref h_tape := (SAME.at t128 (by decide) n104)
                have n165 : F120 3 = .int x_size := (SAME.at t128 (by decide) n105)
                have n166 : F120 5 = .int x_limit := (SAME.at t128 (by decide) n106)
                have n167 : F120 15 = .int x_fault := (SAME.at t128 (by decide) n107)
                have n168 : F120 16 = .int x_faultAt := (SAME.at t128 (by decide) n108)
                refine call_Vi (wr := [(h_h, .inl (cI, 104, .inl g158)), (h_names, .inl (cJ, 36, .inr (.inl g73))), (h_reserved, .inl (cJ, 23, .inr (.inl f_reserved)))]) (As := [.int 0, .int 9]) (rest := []) hx hb hml hown hw (m_X10_takes l D cI cJ cB cP cM cZ h0 h_tape F120 x_size y121 x_limit y122 y123 y125 x_fault x_faultAt y126 y127 f_tape 0 9 _ n164 n165 i_x_size t129 t130 n166 i_x_limit t131 t132 t133 t137 n167 n168 t138 t139 (by omega)) wV_X10_242_X10_takes dX10_line0_477 hK hP hD hS hA [3, 4] [0, 1, 2] rfl rfl (by decide) (by decide) (by decide) 0 10 rfl rfl GG.fb hG.at hl.1 rfl (Nat.le_of_ble_eq_true rfl) ⟨(Nat.le_of_ble_eq_true rfl), (Nat.le_of_ble_eq_true rfl)⟩ ⟨(Nat.le_of_ble_eq_true rfl), (Nat.le_of_ble_eq_true rfl)⟩ (fun r169 u H locs hp hP hD hS => ?_)
                have zl9 : (9 : Int32).toInt = 9 := by decide
                rcases hp with hp | hp
                · obtain ⟨F170, y171, y172, t173, t174, t175, t176, t177, rfl, rfl⟩ := hp
                  have hP : va_P D vwCl [(h_h, .inl (cI, 104, .inl g158)), (h_names, .inl (cJ, 36, .inr (.inl g73))), (h_reserved, .inl (cJ, 23, .inr (.inl f_reserved))), (h0, .inr (10, vL 67 F170)), (h_tape, .inl (cB, 940, .inl f_tape))] H := hP
                  have hD : va_D A [(h_h, .inl (cI, 104, .inl g158)), (h_names, .inl (cJ, 36, .inr (.inl g73))), (h_reserved, .inl (cJ, 23, .inr (.inl f_reserved))), (h0, .inr (10, vL 67 F170)), (h_tape, .inl (cB, 940, .inl f_tape))] := hD
                  refine W.widen (k := 0) (n := 0) (Nat.le_of_ble_eq_true rfl) (Nat.le_of_ble_eq_true rfl) ?_
                  refine lv_if_ne (tgt := 485) hx hb dX10_line0_480 (by decide) (fun g => absurd (by decide) g) (fun _ => ?_)
                  refine lv_iconst (v := 0) hx hb dX10_line0_483 (by decide) ?_
                  exact ret_i (v := 0) hx hb hr hlocks hS (hP.sub (ws' := [(h0, .inr (10, vL 67 F170)), (h_tape, .inl (cB, 940, .inl f_tape)), (h_h, .inl (cI, 104, .inl g158)), (h_names, .inl (cJ, 36, .inr (.inl g73))), (h_reserved, .inl (cJ, 23, .inr (.inl f_reserved)))]) [3, 4, 0, 1, 2] rfl) (hD.sub (ws' := [(h0, .inr (10, vL 67 F170)), (h_tape, .inl (cB, 940, .inl f_tape)), (h_h, .inl (cI, 104, .inl g158)), (h_names, .inl (cJ, 36, .inr (.inl g73))), (h_reserved, .inl (cJ, 23, .inr (.inl f_reserved)))]) [3, 4, 0, 1, 2] (by decide) rfl) dX10_line0_484 rfl (Nat.le_of_ble_eq_true rfl) (Nat.le_of_ble_eq_true rfl) (Or.inl ⟨F170, y121, y122, y123, y124, y125, y171, y172, y126, y127, x_onces, g158, g73, (SAME.tr (SAME.tr (SAME.tr (SAME.tr SAME.rf t38 (by decide)) t74 (by decide)) t128 (by decide)) t173 (by decide)), (SAME.at t173 (by decide) t129), t130, (SAME.at t173 (by decide) t131), t132, (SAME.at t173 (by decide) t133), (SAME.at t173 (by decide) t135), (SAME.at t173 (by decide) t137), t174, (ir_wk t175 (by decide) (by decide)), t176, (SAME.at t173 (by decide) t138), (SAME.at t173 (by decide) t139), (SAME.at t173 (by decide) (SAME.at t128 (by decide) (SAME.at t74 (by decide) (SAME.at t38 (by decide) e_onces)))), r159, r161, r162, (SG.wk r163 (by decide) (by decide)), r160, ((cLine_7 (tkM_1st (ISWF.t t21 (by omega)).1) (lnwM (ISWF.t t21 (by omega)).1 (ISWF.t t21 (by omega)).2)).trans (cRun_2 (show ¬ 6 ≤ (nmM f_names 30 (f_h 7).toInt).length by rw [nmM_len]; have hn : (f_h 7).toInt = v25.toInt := congrArg Int32.toInt ev25.symm; omega) (atM t51 (ISWF.t t21 (by omega)).1) t87 t146 t177)), t92, (by omega), rfl, rfl⟩)
                · refine hp.elim (fun F178 h9z0 => h9z0.elim (fun y179 h9z1 => h9z1.elim (fun y180 h9z2 => h9z2.elim (fun y181 h9z3 => h9z3.elim (fun y182 h9z4 => h9z4.elim (fun y183 h9z5 => h9z5.elim (fun y184 h9z6 => h9z6.elim (fun y185 h9z7 => h9z7.elim (fun t186 h9z8 => h9z8.elim (fun t187 h9z9 => h9z9.elim (fun t188 h9z10 => h9z10.elim (fun t189 h9z11 => h9z11.elim (fun t190 h9z12 => h9z12.elim (fun t191 h9z13 => h9z13.elim (fun t192 h9z14 => h9z14.elim (fun t193 h9z15 => h9z15.elim (fun t194 h9z16 => h9z16.elim (fun t195 h9z17 => h9z17.elim (fun t196 h9z18 => h9z18.elim (fun t197 h9z19 => h9z19.elim (fun t198 h9z20 => h9z20.elim (fun t199 h9z21 => h9z21.elim (fun t200 h9z22 => h9z22.elim (fun t201 h9z23 => h9z23.elim (fun t202 h9z24 => h9z24.elim (fun t203 h9z25 => h9z25.elim (fun t204 h9z26 => h9z26.elim (fun t205 h9z27 => h9z27.elim (fun t206 h9z28 => h9z28.elim (fun t207 h9z29 => h9z29.elim (fun heq930 h9z30 => ?_)))))))))))))))))))))))))))))))
                  clear h9z0 h9z1 h9z2 h9z3 h9z4 h9z5 h9z6 h9z7 h9z8 h9z9 h9z10 h9z11 h9z12 h9z13 h9z14 h9z15 h9z16 h9z17 h9z18 h9z19 h9z20 h9z21 h9z22 h9z23 h9z24 h9z25 h9z26 h9z27 h9z28 h9z29
                  subst heq930
                  subst h9z30
                  clear t145 t149
                  have hP : va_P D vwCl [(h_h, .inl (cI, 104, .inl g158)), (h_names, .inl (cJ, 36, .inr (.inl g73))), (h_reserved, .inl (cJ, 23, .inr (.inl f_reserved))), (h0, .inr (10, vL 67 F178)), (h_tape, .inl (cB, 940, .inl f_tape))] H := hP
                  have hD : va_D A [(h_h, .inl (cI, 104, .inl g158)), (h_names, .inl (cJ, 36, .inr (.inl g73))), (h_reserved, .inl (cJ, 23, .inr (.inl f_reserved))), (h0, .inr (10, vL 67 F178)), (h_tape, .inl (cB, 940, .inl f_tape))] := hD
                  refine W.widen (k := 0) (n := 0) (Nat.le_of_ble_eq_true rfl) (Nat.le_of_ble_eq_true rfl) ?_
                  have k209 : 2 ≤ y122.toInt ∧ y122.toInt ≤ 2 := ⟨Int.le_trans (Int.le_refl _) (Int.le_of_eq t198.symm), Int.le_trans (Int.le_of_eq t198) (Int.le_refl _)⟩
                  have k210 : 0 ≤ y125.toInt ∧ y125.toInt ≤ 2147483647 := ⟨Int.le_trans (Int.le_refl _) t199, (ir_any _).2⟩
                  have k211 : 0 ≤ y125.toInt ∧ y125.toInt ≤ 9 := ⟨k210.1, Int.le_trans t200 (Int.le_refl _)⟩
                  refine lv_if_ne (tgt := 485) hx hb dX10_line0_480 (by decide) (fun _ => ?_) (fun g => absurd g (by decide))
                  refine lv_aload_n hx hb dX10_line0_485 rfl (lv_at hl 2 rfl) ?_
                  have n212 : F178 7 = .ref h_h := (SAME.at t186 (by decide) n155)
                  refine get_f (D := D) (ci := 10) (v := .ref h_h) (C := RX10) (T := TX10) (N := 67) hx hb hw inAX10 hown hK hP 3 rfl rfl 7 (by decide) (hw _ q_1268) (fun _ h9 => h9) n212 dX10_line0_486 ?_
                  refine lv_bipush (v := 98) hx hb dX10_line0_489 (by decide) ?_
                  refine lv_iload_n hx hb dX10_line0_491 rfl (lv_at hl 0 rfl) ?_
                  refine lv_iadd hx hb dX10_line0_492 ?_
                  refine lv_topi (fun v213 ev213 => ?_)
                  have bv213 : v213.toInt = 98 + v25.toInt := by rw [ev213]; exact add_k rfl rfl ⟨Int.le_refl _, Int.le_refl _⟩ k28 (by decide)
                  have k214 : 98 ≤ v213.toInt ∧ v213.toInt ≤ 103 := add_r bv213 ⟨Int.le_refl _, Int.le_refl _⟩ k28 (by decide)
                  refine lv_aload_n hx hb dX10_line0_493 rfl (lv_at hl 2 rfl) ?_
                  refine get_f (D := D) (ci := 10) (v := .int y185) (C := RX10) (T := TX10) (N := 67) hx hb hw inAX10 hown hK hP 3 rfl rfl 19 (by decide) (hw _ q_1280) (fun _ h9 => h9) t197 dX10_line0_494 ?_
                  obtain ⟨g215, eg215⟩ : ∃ z : Nat → Int32, upd g158 v213.toNatClampNeg y185 = z := ⟨_, rfl⟩
                  have r216 : SG 0 0 0 40 g215 := by rw [← eg215]; exact r159.up (Int.le_trans (by decide) k214.1) (Or.inr (Or.inl (dec_lt k214.1 (by decide))))
                  have r217 : SG 44 55 0 9 g215 := by rw [← eg215]; exact r160.up (Int.le_trans (by decide) k214.1) (Or.inr (Or.inl (dec_lt k214.1 (by decide))))
                  have r218 : SG 5 5 0 12 g215 := by rw [← eg215]; exact r161.up (Int.le_trans (by decide) k214.1) (Or.inr (Or.inl (dec_lt k214.1 (by decide))))
                  have r219 : SG 6 6 0 12 g215 := by rw [← eg215]; exact r162.up (Int.le_trans (by decide) k214.1) (Or.inr (Or.inl (dec_lt k214.1 (by decide))))
                  have r220 : SG 7 7 0 5 g215 := by rw [← eg215]; exact r163.up (Int.le_trans (by decide) k214.1) (Or.inr (Or.inl (dec_lt k214.1 (by decide))))
                  refine iast_g hx hb hK hP hD hS 0 0 rfl rfl (ix_k k214 (by decide) (by decide)) eg215 dX10_line0_497 (fun H locs hP hD hS => ?_)
                  have hP : va_P D vwCl [(h_h, .inl (cI, 104, .inl g215)), (h_names, .inl (cJ, 36, .inr (.inl g73))), (h_reserved, .inl (cJ, 23, .inr (.inl f_reserved))), (h0, .inr (10, vL 67 F178)), (h_tape, .inl (cB, 940, .inl f_tape))] H := hP
                  have hD : va_D A [(h_h, .inl (cI, 104, .inl g215)), (h_names, .inl (cJ, 36, .inr (.inl g73))), (h_reserved, .inl (cJ, 23, .inr (.inl f_reserved))), (h0, .inr (10, vL 67 F178)), (h_tape, .inl (cB, 940, .inl f_tape))] := hD
                  refine lv_aload_n hx hb dX10_line0_498 rfl (lv_at hl 2 rfl) ?_
                  refine get_f (D := D) (ci := 10) (v := .ref h_h) (C := RX10) (T := TX10) (N := 67) hx hb hw inAX10 hown hK hP 3 rfl rfl 7 (by decide) (hw _ q_1268) (fun _ h9 => h9) n212 dX10_line0_499 ?_
                  refine lv_bipush (v := 7) hx hb dX10_line0_502 (by decide) ?_
                  refine lv_dup2_11 hx hb dX10_line0_504 rfl rfl ?_
                  refine iald_n hx hb hK hP 0 0 rfl rfl 7 rfl (Nat.le_of_ble_eq_true rfl) (Nat.le_of_ble_eq_true rfl) rfl dX10_line0_505 ?_
                  refine lv_topi (fun v221 ev221 => ?_)
                  have k222 : 0 ≤ v221.toInt ∧ v221.toInt ≤ 5 := by rw [ev221]; exact r220.atN 7 (by decide) (by decide)
                  refine lv_iconst (v := 1) hx hb dX10_line0_506 (by decide) ?_
                  refine lv_iadd hx hb dX10_line0_507 ?_
                  refine lv_topi (fun v223 ev223 => ?_)
                  have bv223 : v223.toInt = v221.toInt + 1 := by rw [ev223]; exact add_k rfl rfl k222 ⟨Int.le_refl _, Int.le_refl _⟩ (by decide)
                  have k224 : 1 ≤ v223.toInt ∧ v223.toInt ≤ 6 := add_r bv223 k222 ⟨Int.le_refl _, Int.le_refl _⟩ (by decide)
                  obtain ⟨g225, eg225⟩ : ∃ z : Nat → Int32, upd g215 7 v223 = z := ⟨_, rfl⟩
                  have r226 : SG 0 0 0 40 g225 := by rw [← eg225]; exact r216.upN (Or.inr (Or.inl (by decide)))
                  have r227 : SG 44 55 0 9 g225 := by rw [← eg225]; exact r217.upN (Or.inl (by decide))
                  have r228 : SG 5 5 0 12 g225 := by rw [← eg225]; exact r218.upN (Or.inr (Or.inl (by decide)))
                  have r229 : SG 6 6 0 12 g225 := by rw [← eg225]; exact r219.upN (Or.inr (Or.inl (by decide)))
                  have r230 : SG 7 7 0 6 g225 := by rw [← eg225]; exact SG.new1 (ir_wk k224 (by decide) (by decide))
                  refine iast_n hx hb hK hP hD hS 0 0 rfl rfl 7 rfl (Nat.le_of_ble_eq_true rfl) (Nat.le_of_ble_eq_true rfl) eg225 dX10_line0_508 (fun H locs hP hD hS => ?_)
                  have hP : va_P D vwCl [(h_h, .inl (cI, 104, .inl g225)), (h_names, .inl (cJ, 36, .inr (.inl g73))), (h_reserved, .inl (cJ, 23, .inr (.inl f_reserved))), (h0, .inr (10, vL 67 F178)), (h_tape, .inl (cB, 940, .inl f_tape))] H := hP
                  have hD : va_D A [(h_h, .inl (cI, 104, .inl g225)), (h_names, .inl (cJ, 36, .inr (.inl g73))), (h_reserved, .inl (cJ, 23, .inr (.inl f_reserved))), (h0, .inr (10, vL 67 F178)), (h_tape, .inl (cB, 940, .inl f_tape))] := hD
                  refine lv_iconst (v := 1) hx hb dX10_line0_509 (by decide) ?_
                  exact ret_i (v := 1) hx hb hr hlocks hS (hP.sub (ws' := [(h0, .inr (10, vL 67 F178)), (h_tape, .inl (cB, 940, .inl f_tape)), (h_h, .inl (cI, 104, .inl g225)), (h_names, .inl (cJ, 36, .inr (.inl g73))), (h_reserved, .inl (cJ, 23, .inr (.inl f_reserved)))]) [3, 4, 0, 1, 2] rfl) (hD.sub (ws' := [(h0, .inr (10, vL 67 F178)), (h_tape, .inl (cB, 940, .inl f_tape)), (h_h, .inl (cI, 104, .inl g225)), (h_names, .inl (cJ, 36, .inr (.inl g73))), (h_reserved, .inl (cJ, 23, .inr (.inl f_reserved)))]) [3, 4, 0, 1, 2] (by decide) rfl) dX10_line0_510 rfl (Nat.le_of_ble_eq_true rfl) (Nat.le_of_ble_eq_true rfl) (Or.inr ⟨F178, y179, y180, y181, y182, y183, y184, y185, x_onces, g225, g73, (SAME.tr (SAME.tr (SAME.tr (SAME.tr SAME.rf t38 (by decide)) t74 (by decide)) t128 (by decide)) t186 (by decide)), t187, t188, t189, t190, t191, t192, t193, t194, t195, t196, t197, (SAME.at t186 (by decide) (SAME.at t128 (by decide) (SAME.at t74 (by decide) (SAME.at t38 (by decide) e_onces)))), r226, r228, r229, r230, r227, (by have zl1 : (1 : Int32).toInt = 1 := (by decide); omega), (by have zl1 : (1 : Int32).toInt = 1 := (by decide); omega), ((cLine_7 (tkM_1st (ISWF.t t21 (by omega)).1) (lnwM (ISWF.t t21 (by omega)).1 (ISWF.t t21 (by omega)).2)).trans (fin_r (cRun_o (show ¬ 6 ≤ (nmM f_names 30 (f_h 7).toInt).length by rw [nmM_len]; have hn : (f_h 7).toInt = v25.toInt := congrArg Int32.toInt ev25.symm; omega) (atM t51 (ISWF.t t21 (by omega)).1) t87 t146 t204 (nmM_ap (n := (f_h 7).toInt) (n' := (g225 7).toInt) t88 (by have hn : (f_h 7).toInt = v25.toInt := congrArg Int32.toInt ev25.symm; omega) (by have hn : (f_h 7).toInt = v25.toInt := congrArg Int32.toInt ev25.symm; omega) (by rw [← eg225, pk_us, bv223]; have hq : v221.toInt = (f_h 7).toInt := congrArg Int32.toInt (ev221.trans (HU.up (HU.up HU.rf eg158 (by omega)) eg215 (by omega)).a7); omega) (tkM_w t89))) (csM_r (HU.up (HU.up HU.rf eg158 (by omega)) eg215 (by omega)) eg225 t88 (by have hn : (f_h 7).toInt = v25.toInt := congrArg Int32.toInt ev25.symm; omega) (s_h_5.atN 5 (by decide) (by decide)).2))), (ISWF.t t21 (by omega)).1, (AV.h (AV.un z_1 t88 (by have hn : (f_h 7).toInt = v25.toInt := congrArg Int32.toInt ev25.symm; have hb := s_h_5.atN 5 (by decide) (by decide); omega) (by have hn : (f_h 7).toInt = v25.toInt := congrArg Int32.toInt ev25.symm; omega)) ((upd_m eg225 (by decide)).trans (HU.up (HU.up HU.rf eg158 (by omega)) eg215 (by omega)).a5)), (AV.ap z_2 t88 (by have hn : (f_h 7).toInt = v25.toInt := congrArg Int32.toInt ev25.symm; omega) (by rw [← eg225, pk_us, bv223]; have hq : v221.toInt = (f_h 7).toInt := congrArg Int32.toInt (ev221.trans (HU.up (HU.up HU.rf eg158 (by omega)) eg215 (by omega)).a7); omega) t90 (by have hn : (f_h 7).toInt = v25.toInt := congrArg Int32.toInt ev25.symm; omega)), t206, t92, (by omega), rfl, rfl⟩)
            · obtain ⟨F94, y95, y96, t97, t98, t99, t100, t101, t102, rfl, rfl⟩ := hp
              have hP : va_P D vwCl [(h0, .inr (10, vL 67 F94)), (h_tape, .inl (cB, 940, .inl f_tape)), (h_h, .inl (cI, 104, .inl f_h)), (h_names, .inl (cJ, 36, .inr (.inl f_names))), (h_reserved, .inl (cJ, 23, .inr (.inl f_reserved)))] H := hP
              have hD : va_D A [(h0, .inr (10, vL 67 F94)), (h_tape, .inl (cB, 940, .inl f_tape)), (h_h, .inl (cI, 104, .inl f_h)), (h_names, .inl (cJ, 36, .inr (.inl f_names))), (h_reserved, .inl (cJ, 23, .inr (.inl f_reserved)))] := hD
              refine W.widen (k := 0) (n := 0) (Nat.le_of_ble_eq_true rfl) (Nat.le_of_ble_eq_true rfl) ?_
              refine lv_if_ne (tgt := 448) hx hb dX10_line0_443 (by decide) (fun g => absurd (by decide) g) (fun _ => ?_)
              refine lv_iconst (v := 0) hx hb dX10_line0_446 (by decide) ?_
              exact ret_i (v := 0) hx hb hr hlocks hS hP hD dX10_line0_447 rfl (Nat.le_of_ble_eq_true rfl) (Nat.le_of_ble_eq_true rfl) (Or.inl ⟨F94, y32, y33, y34, y35, y36, y95, y96, y37, x_got, x_onces, f_h, f_names, (SAME.tr (SAME.tr SAME.rf t38 (by decide)) t97 (by decide)), (SAME.at t97 (by decide) t39), t40, (SAME.at t97 (by decide) t41), t42, (SAME.at t97 (by decide) t43), (SAME.at t97 (by decide) t45), (SAME.at t97 (by decide) t47), t98, (ir_wk t99 (by decide) (by decide)), t100, (SAME.at t97 (by decide) t48), (SAME.at t97 (by decide) (SAME.at t38 (by decide) e_got)), (SAME.at t97 (by decide) (SAME.at t38 (by decide) e_onces)), s_h_0, s_h_5, s_h_6, (SG.wk r29 (by decide) (by decide)), s_h_44, ((cLine_7 (tkM_1st (ISWF.t t21 (by omega)).1) (lnwM (ISWF.t t21 (by omega)).1 (ISWF.t t21 (by omega)).2)).trans (cRun_0 (show ¬ 6 ≤ (nmM f_names 30 (f_h 7).toInt).length by rw [nmM_len]; have hn : (f_h 7).toInt = v25.toInt := congrArg Int32.toInt ev25.symm; omega) (atM t51 (ISWF.t t21 (by omega)).1) t101)), UN.rf, (by omega), rfl, rfl⟩)
          · have dc27 : v25.toInt = 6 := eq_i (a := v25.toInt) (b := 6) rfl rfl c27
            have k231 : 6 ≤ v25.toInt ∧ v25.toInt ≤ 6 := ⟨Int.le_trans (Int.le_refl _) (Int.le_of_eq dc27.symm), k26.2⟩
            refine lv_aload_n hx hb dX10_line0_425 rfl (lv_at hl 2 rfl) ?_
            refine lv_iconst (v := 4) hx hb dX10_line0_426 (by decide) ?_
            refine call_Vi (wr := [(h_tape, .inl (cB, 940, .inl f_tape)), (h_h, .inl (cI, 104, .inl f_h)), (h_names, .inl (cJ, 36, .inr (.inl f_names))), (h_reserved, .inl (cJ, 23, .inr (.inl f_reserved)))]) (As := [.int 4]) (rest := []) hx hb hml hown hw (m_X10_bad l D cI cJ cB cP cM cZ h0 Fh x_at 4 _ e_at) wV_X10_205_X10_bad dX10_line0_427 hK hP hD hS hA [4] [0, 1, 2, 3] rfl rfl (by decide) (by decide) (by decide) 0 10 rfl rfl GG.fb hG.at hl.1 rfl (Nat.le_of_ble_eq_true rfl) ⟨(Nat.le_of_ble_eq_true rfl), (Nat.le_of_ble_eq_true rfl)⟩ ⟨(Nat.le_of_ble_eq_true rfl), (Nat.le_of_ble_eq_true rfl)⟩ (fun r232 u H locs hp hP hD hS => ?_)
            have zl4 : (4 : Int32).toInt = 4 := by decide
            obtain ⟨F233, t234, t235, t236, rfl, rfl⟩ := hp
            have hP : va_P D vwCl [(h_tape, .inl (cB, 940, .inl f_tape)), (h_h, .inl (cI, 104, .inl f_h)), (h_names, .inl (cJ, 36, .inr (.inl f_names))), (h_reserved, .inl (cJ, 23, .inr (.inl f_reserved))), (h0, .inr (10, vL 67 F233))] H := hP
            have hD : va_D A [(h_tape, .inl (cB, 940, .inl f_tape)), (h_h, .inl (cI, 104, .inl f_h)), (h_names, .inl (cJ, 36, .inr (.inl f_names))), (h_reserved, .inl (cJ, 23, .inr (.inl f_reserved))), (h0, .inr (10, vL 67 F233))] := hD
            refine W.widen (k := 0) (n := 0) (Nat.le_of_ble_eq_true rfl) (Nat.le_of_ble_eq_true rfl) ?_
            exact ret_i (v := 0) hx hb hr hlocks hS (hP.sub (ws' := [(h0, .inr (10, vL 67 F233)), (h_tape, .inl (cB, 940, .inl f_tape)), (h_h, .inl (cI, 104, .inl f_h)), (h_names, .inl (cJ, 36, .inr (.inl f_names))), (h_reserved, .inl (cJ, 23, .inr (.inl f_reserved)))]) [4, 0, 1, 2, 3] rfl) (hD.sub (ws' := [(h0, .inr (10, vL 67 F233)), (h_tape, .inl (cB, 940, .inl f_tape)), (h_h, .inl (cI, 104, .inl f_h)), (h_names, .inl (cJ, 36, .inr (.inl f_names))), (h_reserved, .inl (cJ, 23, .inr (.inl f_reserved)))]) [4, 0, 1, 2, 3] (by decide) rfl) dX10_line0_430 rfl (Nat.le_of_ble_eq_true rfl) (Nat.le_of_ble_eq_true rfl) (Or.inl ⟨F233, x_p, x_token, x_at, x_span, x_number, 4, x_at, x_word, x_got, x_onces, f_h, f_names, (SAME.tr SAME.rf t234 (by decide)), (SAME.at t234 (by decide) e_p), i_x_p, (SAME.at t234 (by decide) e_token), i_x_token, (SAME.at t234 (by decide) e_at), (SAME.at t234 (by decide) e_span), (SAME.at t234 (by decide) e_number), t235, (show 1 ≤ (4 : Int32).toInt ∧ (4 : Int32).toInt ≤ 4 by decide), t236, (SAME.at t234 (by decide) e_word), (SAME.at t234 (by decide) e_got), (SAME.at t234 (by decide) e_onces), s_h_0, s_h_5, s_h_6, s_h_7, s_h_44, ((cLine_7 (tkM_1st (ISWF.t t21 (by omega)).1) (lnwM (ISWF.t t21 (by omega)).1 (ISWF.t t21 (by omega)).2)).trans (inl_eq (cRun_m (show 6 ≤ (nmM f_names 30 (f_h 7).toInt).length by rw [nmM_len]; have hn : (f_h 7).toInt = v25.toInt := congrArg Int32.toInt ev25.symm; omega)) (by decide) rfl)), UN.rf, (by have zl4 : (4 : Int32).toInt = 4 := (by decide); omega), rfl, rfl⟩)
        · have dc23 : r19.toInt = 0 := eq_i (a := r19.toInt) (b := 0) rfl rfl c23
          have k238 : 0 ≤ r19.toInt ∧ r19.toInt ≤ 0 := ⟨t20.1, Int.le_trans (Int.le_of_eq dc23) (Int.le_refl _)⟩
          refine lv_aload_n hx hb dX10_line0_405 rfl (lv_at hl 1 rfl) ?_
          refine lv_iconst (v := 1) hx hb dX10_line0_406 (by decide) ?_
          refine call_Vi (wr := [(h_tape, .inl (cB, 940, .inl f_tape)), (h_h, .inl (cI, 104, .inl f_h)), (h_names, .inl (cJ, 36, .inr (.inl f_names))), (h_reserved, .inl (cJ, 23, .inr (.inl f_reserved)))]) (As := [.int 1]) (rest := []) hx hb hml hown hw (m_X10_bad l D cI cJ cB cP cM cZ h0 Fh x_at 1 _ e_at) wV_X10_205_X10_bad dX10_line0_407 hK hP hD hS hA [4] [0, 1, 2, 3] rfl rfl (by decide) (by decide) (by decide) 0 10 rfl rfl GG.fb hG.at hl.1 rfl (Nat.le_of_ble_eq_true rfl) ⟨(Nat.le_of_ble_eq_true rfl), (Nat.le_of_ble_eq_true rfl)⟩ ⟨(Nat.le_of_ble_eq_true rfl), (Nat.le_of_ble_eq_true rfl)⟩ (fun r239 u H locs hp hP hD hS => ?_)
          have zl1 : (1 : Int32).toInt = 1 := by decide
          obtain ⟨F240, t241, t242, t243, rfl, rfl⟩ := hp
          have hP : va_P D vwCl [(h_tape, .inl (cB, 940, .inl f_tape)), (h_h, .inl (cI, 104, .inl f_h)), (h_names, .inl (cJ, 36, .inr (.inl f_names))), (h_reserved, .inl (cJ, 23, .inr (.inl f_reserved))), (h0, .inr (10, vL 67 F240))] H := hP
          have hD : va_D A [(h_tape, .inl (cB, 940, .inl f_tape)), (h_h, .inl (cI, 104, .inl f_h)), (h_names, .inl (cJ, 36, .inr (.inl f_names))), (h_reserved, .inl (cJ, 23, .inr (.inl f_reserved))), (h0, .inr (10, vL 67 F240))] := hD
          refine W.widen (k := 0) (n := 0) (Nat.le_of_ble_eq_true rfl) (Nat.le_of_ble_eq_true rfl) ?_
          exact ret_i (v := 0) hx hb hr hlocks hS (hP.sub (ws' := [(h0, .inr (10, vL 67 F240)), (h_tape, .inl (cB, 940, .inl f_tape)), (h_h, .inl (cI, 104, .inl f_h)), (h_names, .inl (cJ, 36, .inr (.inl f_names))), (h_reserved, .inl (cJ, 23, .inr (.inl f_reserved)))]) [4, 0, 1, 2, 3] rfl) (hD.sub (ws' := [(h0, .inr (10, vL 67 F240)), (h_tape, .inl (cB, 940, .inl f_tape)), (h_h, .inl (cI, 104, .inl f_h)), (h_names, .inl (cJ, 36, .inr (.inl f_names))), (h_reserved, .inl (cJ, 23, .inr (.inl f_reserved)))]) [4, 0, 1, 2, 3] (by decide) rfl) dX10_line0_410 rfl (Nat.le_of_ble_eq_true rfl) (Nat.le_of_ble_eq_true rfl) (Or.inl ⟨F240, x_p, x_token, x_at, x_span, x_number, 1, x_at, x_word, x_got, x_onces, f_h, f_names, (SAME.tr SAME.rf t241 (by decide)), (SAME.at t241 (by decide) e_p), i_x_p, (SAME.at t241 (by decide) e_token), i_x_token, (SAME.at t241 (by decide) e_at), (SAME.at t241 (by decide) e_span), (SAME.at t241 (by decide) e_number), t242, (show 1 ≤ (1 : Int32).toInt ∧ (1 : Int32).toInt ≤ 4 by decide), t243, (SAME.at t241 (by decide) e_word), (SAME.at t241 (by decide) e_got), (SAME.at t241 (by decide) e_onces), s_h_0, s_h_5, s_h_6, s_h_7, s_h_44, (inl_eq (cLine_n (fun q => by have h2 := tkM_1n q; have w9 := ONCF.f t3 (by omega); have w0 := ISWF.f t9 (by omega); have w1 := ISWF.f t15 (by omega); have w2 := ISWF.f t21 (by omega); rw [tkM_w h2]; omega)) (by decide) rfl), UN.rf, (by have zl1 : (1 : Int32).toInt = 1 := (by decide); omega), rfl, rfl⟩)
      · have dc17 : r13.toInt ≠ 0 := ne_i (a := r13.toInt) (b := 0) rfl rfl c17
        have k245 : 1 ≤ r13.toInt ∧ r13.toInt ≤ 1 := ⟨ne_lo dc17 t14.1 ⟨Int.le_refl _, Int.le_refl _⟩ (by decide), t14.2⟩
        refine lv_aload_n hx hb dX10_line0_258 rfl (lv_at hl 1 rfl) ?_
        refine get_f (D := D) (ci := 10) (v := .ref h_h) (C := RX10) (T := TX10) (N := 67) hx hb hw inAX10 hown hK hP 4 rfl rfl 7 (by decide) (hw _ q_1268) (fun _ h9 => h9) e_h dX10_line0_259 ?_
        refine lv_bipush (v := 6) hx hb dX10_line0_262 (by decide) ?_
        refine iald_n hx hb hK hP 1 0 rfl rfl 6 rfl (Nat.le_of_ble_eq_true rfl) (Nat.le_of_ble_eq_true rfl) rfl dX10_line0_264 ?_
        refine lv_topi (fun v246 ev246 => ?_)
        have k247 : 0 ≤ v246.toInt ∧ v246.toInt ≤ 12 := by rw [ev246]; exact s_h_6.atN 6 (by decide) (by decide)
        refine lv_istore_n (lv' := [(2, .int v246), (1, .int r1), (0, .ref h0)]) hx hb dX10_line0_265 rfl hl (by decide) rfl (fun ls hl => ?_)
        refine lv_iload_n hx hb dX10_line0_266 rfl (lv_at hl 0 rfl) ?_
        refine lv_bipush (v := 12) hx hb dX10_line0_267 (by decide) ?_
        refine lv_icmp_ne (tgt := 278) hx hb dX10_line0_269 (by decide) (fun c248 => ?_) (fun c248 => ?_)
        · have dc248 : v246.toInt ≠ 12 := ne_i (a := v246.toInt) (b := 12) rfl rfl c248
          have k249 : 0 ≤ v246.toInt ∧ v246.toInt ≤ 11 := ⟨k247.1, ne_hi dc248 k247.2 ⟨Int.le_refl _, Int.le_refl _⟩ (by decide)⟩
          have r250 : SG 6 6 0 11 f_h := SG.one ev246 k249
          refine lv_aload_n hx hb dX10_line0_278 rfl (lv_at hl 2 rfl) ?_
          refine call_Vv (wr := [(h_h, .inl (cI, 104, .inl f_h)), (h_names, .inl (cJ, 36, .inr (.inl f_names))), (h_reserved, .inl (cJ, 23, .inr (.inl f_reserved)))]) (As := []) (rest := []) hx hb hml hown hw (m_X10_next l D cI cJ cB cP cM cZ h0 h_tape Fh x_size x_p x_limit x_token x_at x_number x_word f_tape _ e_tape e_size i_x_size e_p i_x_p e_limit i_x_limit e_token i_x_token e_at e_number e_word (by omega)) wV_X10_208_X10_next dX10_line0_279 hK hP hD hS hA [4, 0] [1, 2, 3] rfl rfl (by decide) (by decide) (by decide) 0 10 rfl rfl GG.fb hG.at hl.1 rfl (Nat.le_of_ble_eq_true rfl) ⟨(Nat.le_of_ble_eq_true rfl), (Nat.le_of_ble_eq_true rfl)⟩ ⟨(Nat.le_of_ble_eq_true rfl), (Nat.le_of_ble_eq_true rfl)⟩ (fun u H locs hp hP hD hS => ?_)
          obtain ⟨F252, y253, y254, y255, y256, y257, y258, t259, t260, t261, t262, t263, t264, t265, t266, t267, t268, t269, t270, t271, t272, t273, t274, rfl⟩ := hp
          have hP : va_P D vwCl [(h_h, .inl (cI, 104, .inl f_h)), (h_names, .inl (cJ, 36, .inr (.inl f_names))), (h_reserved, .inl (cJ, 23, .inr (.inl f_reserved))), (h0, .inr (10, vL 67 F252)), (h_tape, .inl (cB, 940, .inl f_tape))] H := hP
          have hD : va_D A [(h_h, .inl (cI, 104, .inl f_h)), (h_names, .inl (cJ, 36, .inr (.inl f_names))), (h_reserved, .inl (cJ, 23, .inr (.inl f_reserved))), (h0, .inr (10, vL 67 F252)), (h_tape, .inl (cB, 940, .inl f_tape))] := hD
          refine W.widen (k := 0) (n := 0) (Nat.le_of_ble_eq_true rfl) (Nat.le_of_ble_eq_true rfl) ?_
          refine lv_aload_n hx hb dX10_line0_282 rfl (lv_at hl 2 rfl) ?_
          refine lv_iconst (v := 1) hx hb dX10_line0_283 (by decide) ?_
          refine lv_bipush (v := 9) hx hb dX10_line0_284 (by decide) ?_
          have n276 : F252 1 = .ref h_tape := (SAME.at t259 (by decide) e_tape)
          have n277 : F252 3 = .int x_size := (SAME.at t259 (by decide) e_size)
          have n278 : F252 5 = .int x_limit := (SAME.at t259 (by decide) e_limit)
          have n279 : F252 15 = .int x_fault := (SAME.at t259 (by decide) e_fault)
          have n280 : F252 16 = .int x_faultAt := (SAME.at t259 (by decide) e_faultAt)
          have n281 : F252 19 = .int x_got := (SAME.at t259 (by decide) e_got)
          refine call_Vi (wr := [(h_h, .inl (cI, 104, .inl f_h)), (h_names, .inl (cJ, 36, .inr (.inl f_names))), (h_reserved, .inl (cJ, 23, .inr (.inl f_reserved)))]) (As := [.int 1, .int 9]) (rest := []) hx hb hml hown hw (m_X10_takes l D cI cJ cB cP cM cZ h0 h_tape F252 x_size y253 x_limit y254 y255 y257 x_fault x_faultAt y258 x_got f_tape 1 9 _ n276 n277 i_x_size t260 t261 n278 i_x_limit t262 t263 t264 t268 n279 n280 t269 n281 (by omega)) wV_X10_242_X10_takes dX10_line0_286 hK hP hD hS hA [3, 4] [0, 1, 2] rfl rfl (by decide) (by decide) (by decide) 0 10 rfl rfl GG.fb hG.at hl.1 rfl (Nat.le_of_ble_eq_true rfl) ⟨(Nat.le_of_ble_eq_true rfl), (Nat.le_of_ble_eq_true rfl)⟩ ⟨(Nat.le_of_ble_eq_true rfl), (Nat.le_of_ble_eq_true rfl)⟩ (fun r282 u H locs hp hP hD hS => ?_)
          have zl1 : (1 : Int32).toInt = 1 := by decide
          have zl9 : (9 : Int32).toInt = 9 := by decide
          rcases hp with hp | hp
          · obtain ⟨F283, y284, y285, t286, t287, t288, t289, t290, rfl, rfl⟩ := hp
            have hP : va_P D vwCl [(h_h, .inl (cI, 104, .inl f_h)), (h_names, .inl (cJ, 36, .inr (.inl f_names))), (h_reserved, .inl (cJ, 23, .inr (.inl f_reserved))), (h0, .inr (10, vL 67 F283)), (h_tape, .inl (cB, 940, .inl f_tape))] H := hP
            have hD : va_D A [(h_h, .inl (cI, 104, .inl f_h)), (h_names, .inl (cJ, 36, .inr (.inl f_names))), (h_reserved, .inl (cJ, 23, .inr (.inl f_reserved))), (h0, .inr (10, vL 67 F283)), (h_tape, .inl (cB, 940, .inl f_tape))] := hD
            refine W.widen (k := 0) (n := 0) (Nat.le_of_ble_eq_true rfl) (Nat.le_of_ble_eq_true rfl) ?_
            refine lv_if_ne (tgt := 294) hx hb dX10_line0_289 (by decide) (fun g => absurd (by decide) g) (fun _ => ?_)
            refine lv_iconst (v := 0) hx hb dX10_line0_292 (by decide) ?_
            exact ret_i (v := 0) hx hb hr hlocks hS (hP.sub (ws' := [(h0, .inr (10, vL 67 F283)), (h_tape, .inl (cB, 940, .inl f_tape)), (h_h, .inl (cI, 104, .inl f_h)), (h_names, .inl (cJ, 36, .inr (.inl f_names))), (h_reserved, .inl (cJ, 23, .inr (.inl f_reserved)))]) [3, 4, 0, 1, 2] rfl) (hD.sub (ws' := [(h0, .inr (10, vL 67 F283)), (h_tape, .inl (cB, 940, .inl f_tape)), (h_h, .inl (cI, 104, .inl f_h)), (h_names, .inl (cJ, 36, .inr (.inl f_names))), (h_reserved, .inl (cJ, 23, .inr (.inl f_reserved)))]) [3, 4, 0, 1, 2] (by decide) rfl) dX10_line0_293 rfl (Nat.le_of_ble_eq_true rfl) (Nat.le_of_ble_eq_true rfl) (Or.inl ⟨F283, y253, y254, y255, y256, y257, y284, y285, y258, x_got, x_onces, f_h, f_names, (SAME.tr (SAME.tr SAME.rf t259 (by decide)) t286 (by decide)), (SAME.at t286 (by decide) t260), t261, (SAME.at t286 (by decide) t262), t263, (SAME.at t286 (by decide) t264), (SAME.at t286 (by decide) t266), (SAME.at t286 (by decide) t268), t287, (ir_wk t288 (by decide) (by decide)), t289, (SAME.at t286 (by decide) t269), (SAME.at t286 (by decide) n281), (SAME.at t286 (by decide) (SAME.at t259 (by decide) e_onces)), s_h_0, s_h_5, (SG.wk r250 (by decide) (by decide)), s_h_7, s_h_44, ((cLine_6 (tkM_1st (ISWF.t t15 (by omega)).1) (lnwM (ISWF.t t15 (by omega)).1 (ISWF.t t15 (by omega)).2)).trans (cBend_0 (show ¬ 12 ≤ (f_h 6).toInt by have hn : (f_h 6).toInt = v246.toInt := congrArg Int32.toInt ev246.symm; omega) (atM t272 (ISWF.t t15 (by omega)).1) t290)), UN.rf, (by omega), rfl, rfl⟩)
          · refine hp.elim (fun F291 h9z0 => h9z0.elim (fun y292 h9z1 => h9z1.elim (fun y293 h9z2 => h9z2.elim (fun y294 h9z3 => h9z3.elim (fun y295 h9z4 => h9z4.elim (fun y296 h9z5 => h9z5.elim (fun y297 h9z6 => h9z6.elim (fun y298 h9z7 => h9z7.elim (fun t299 h9z8 => h9z8.elim (fun t300 h9z9 => h9z9.elim (fun t301 h9z10 => h9z10.elim (fun t302 h9z11 => h9z11.elim (fun t303 h9z12 => h9z12.elim (fun t304 h9z13 => h9z13.elim (fun t305 h9z14 => h9z14.elim (fun t306 h9z15 => h9z15.elim (fun t307 h9z16 => h9z16.elim (fun t308 h9z17 => h9z17.elim (fun t309 h9z18 => h9z18.elim (fun t310 h9z19 => h9z19.elim (fun t311 h9z20 => h9z20.elim (fun t312 h9z21 => h9z21.elim (fun t313 h9z22 => h9z22.elim (fun t314 h9z23 => h9z23.elim (fun t315 h9z24 => h9z24.elim (fun t316 h9z25 => h9z25.elim (fun t317 h9z26 => h9z26.elim (fun t318 h9z27 => h9z27.elim (fun t319 h9z28 => h9z28.elim (fun t320 h9z29 => h9z29.elim (fun heq930 h9z30 => ?_)))))))))))))))))))))))))))))))
            clear h9z0 h9z1 h9z2 h9z3 h9z4 h9z5 h9z6 h9z7 h9z8 h9z9 h9z10 h9z11 h9z12 h9z13 h9z14 h9z15 h9z16 h9z17 h9z18 h9z19 h9z20 h9z21 h9z22 h9z23 h9z24 h9z25 h9z26 h9z27 h9z28 h9z29
            subst heq930
            subst h9z30
            clear t271 t274
            have hP : va_P D vwCl [(h_h, .inl (cI, 104, .inl f_h)), (h_names, .inl (cJ, 36, .inr (.inl f_names))), (h_reserved, .inl (cJ, 23, .inr (.inl f_reserved))), (h0, .inr (10, vL 67 F291)), (h_tape, .inl (cB, 940, .inl f_tape))] H := hP
            have hD : va_D A [(h_h, .inl (cI, 104, .inl f_h)), (h_names, .inl (cJ, 36, .inr (.inl f_names))), (h_reserved, .inl (cJ, 23, .inr (.inl f_reserved))), (h0, .inr (10, vL 67 F291)), (h_tape, .inl (cB, 940, .inl f_tape))] := hD
            refine W.widen (k := 0) (n := 0) (Nat.le_of_ble_eq_true rfl) (Nat.le_of_ble_eq_true rfl) ?_
            have k322 : 2 ≤ y254.toInt ∧ y254.toInt ≤ 2 := ⟨Int.le_trans (Int.le_refl _) (Int.le_of_eq t311.symm), Int.le_trans (Int.le_of_eq t311) (Int.le_refl _)⟩
            have k323 : 1 ≤ y257.toInt ∧ y257.toInt ≤ 2147483647 := ⟨Int.le_trans (Int.le_refl _) t312, (ir_any _).2⟩
            have k324 : 1 ≤ y257.toInt ∧ y257.toInt ≤ 9 := ⟨k323.1, Int.le_trans t313 (Int.le_refl _)⟩
            refine lv_if_ne (tgt := 294) hx hb dX10_line0_289 (by decide) (fun _ => ?_) (fun g => absurd g (by decide))
            refine lv_aload_n hx hb dX10_line0_294 rfl (lv_at hl 2 rfl) ?_
            have n325 : F252 7 = .ref h_h := (SAME.at t259 (by decide) e_h)
            have n326 : F291 7 = .ref h_h := (SAME.at t299 (by decide) n325)
            refine get_f (D := D) (ci := 10) (v := .ref h_h) (C := RX10) (T := TX10) (N := 67) hx hb hw inAX10 hown hK hP 3 rfl rfl 7 (by decide) (hw _ q_1268) (fun _ h9 => h9) n326 dX10_line0_295 ?_
            refine lv_bipush (v := 44) hx hb dX10_line0_298 (by decide) ?_
            refine lv_iload_n hx hb dX10_line0_300 rfl (lv_at hl 0 rfl) ?_
            refine lv_iadd hx hb dX10_line0_301 ?_
            refine lv_topi (fun v327 ev327 => ?_)
            have bv327 : v327.toInt = 44 + v246.toInt := by rw [ev327]; exact add_k rfl rfl ⟨Int.le_refl _, Int.le_refl _⟩ k249 (by decide)
            have k328 : 44 ≤ v327.toInt ∧ v327.toInt ≤ 55 := add_r bv327 ⟨Int.le_refl _, Int.le_refl _⟩ k249 (by decide)
            refine lv_aload_n hx hb dX10_line0_302 rfl (lv_at hl 2 rfl) ?_
            refine get_f (D := D) (ci := 10) (v := .int y298) (C := RX10) (T := TX10) (N := 67) hx hb hw inAX10 hown hK hP 3 rfl rfl 19 (by decide) (hw _ q_1280) (fun _ h9 => h9) t310 dX10_line0_303 ?_
            obtain ⟨g329, eg329⟩ : ∃ z : Nat → Int32, upd f_h v327.toNatClampNeg y298 = z := ⟨_, rfl⟩
            have r330 : SG 0 0 0 40 g329 := by rw [← eg329]; exact s_h_0.up (Int.le_trans (by decide) k328.1) (Or.inr (Or.inl (dec_lt k328.1 (by decide))))
            have r331 : SG 44 55 0 9 g329 := by rw [← eg329]; exact s_h_44.up (Int.le_trans (by decide) k328.1) (by omega)
            have r332 : SG 5 5 0 12 g329 := by rw [← eg329]; exact s_h_5.up (Int.le_trans (by decide) k328.1) (Or.inr (Or.inl (dec_lt k328.1 (by decide))))
            have r333 : SG 6 6 0 11 g329 := by rw [← eg329]; exact r250.up (Int.le_trans (by decide) k328.1) (Or.inr (Or.inl (dec_lt k328.1 (by decide))))
            have r334 : SG 7 7 0 6 g329 := by rw [← eg329]; exact s_h_7.up (Int.le_trans (by decide) k328.1) (Or.inr (Or.inl (dec_lt k328.1 (by decide))))
            refine iast_g hx hb hK hP hD hS 0 0 rfl rfl (ix_k k328 (by decide) (by decide)) eg329 dX10_line0_306 (fun H locs hP hD hS => ?_)
            have hP : va_P D vwCl [(h_h, .inl (cI, 104, .inl g329)), (h_names, .inl (cJ, 36, .inr (.inl f_names))), (h_reserved, .inl (cJ, 23, .inr (.inl f_reserved))), (h0, .inr (10, vL 67 F291)), (h_tape, .inl (cB, 940, .inl f_tape))] H := hP
            have hD : va_D A [(h_h, .inl (cI, 104, .inl g329)), (h_names, .inl (cJ, 36, .inr (.inl f_names))), (h_reserved, .inl (cJ, 23, .inr (.inl f_reserved))), (h0, .inr (10, vL 67 F291)), (h_tape, .inl (cB, 940, .inl f_tape))] := hD
            refine lv_aload_n hx hb dX10_line0_307 rfl (lv_at hl 2 rfl) ?_
            refine lv_iconst (v := 0) hx hb dX10_line0_308 (by decide) ?_
            refine lv_bipush (v := 9) hx hb dX10_line0_309 (by decide) ?_
            have n335 : F291 1 = .ref h_tape := (SAME.at t299 (by decide) n276)
            have n336 : F291 3 = .int x_size := (SAME.at t299 (by decide) n277)
            have n337 : F291 5 = .int x_limit := (SAME.at t299 (by decide) n278)
            have n338 : F291 15 = .int x_fault := (SAME.at t299 (by decide) n279)
            have n339 : F291 16 = .int x_faultAt := (SAME.at t299 (by decide) n280)
            refine call_Vi (wr := [(h_h, .inl (cI, 104, .inl g329)), (h_names, .inl (cJ, 36, .inr (.inl f_names))), (h_reserved, .inl (cJ, 23, .inr (.inl f_reserved)))]) (As := [.int 0, .int 9]) (rest := []) hx hb hml hown hw (m_X10_takes l D cI cJ cB cP cM cZ h0 h_tape F291 x_size y292 x_limit y293 y294 y296 x_fault x_faultAt y297 y298 f_tape 0 9 _ n335 n336 i_x_size t300 t301 n337 i_x_limit t302 t303 t304 t308 n338 n339 t309 t310 (by omega)) wV_X10_242_X10_takes dX10_line0_311 hK hP hD hS hA [3, 4] [0, 1, 2] rfl rfl (by decide) (by decide) (by decide) 0 10 rfl rfl GG.fb hG.at hl.1 rfl (Nat.le_of_ble_eq_true rfl) ⟨(Nat.le_of_ble_eq_true rfl), (Nat.le_of_ble_eq_true rfl)⟩ ⟨(Nat.le_of_ble_eq_true rfl), (Nat.le_of_ble_eq_true rfl)⟩ (fun r340 u H locs hp hP hD hS => ?_)
            have zl0 : (0 : Int32).toInt = 0 := by decide
            rcases hp with hp | hp
            · obtain ⟨F341, y342, y343, t344, t345, t346, t347, t348, rfl, rfl⟩ := hp
              have hP : va_P D vwCl [(h_h, .inl (cI, 104, .inl g329)), (h_names, .inl (cJ, 36, .inr (.inl f_names))), (h_reserved, .inl (cJ, 23, .inr (.inl f_reserved))), (h0, .inr (10, vL 67 F341)), (h_tape, .inl (cB, 940, .inl f_tape))] H := hP
              have hD : va_D A [(h_h, .inl (cI, 104, .inl g329)), (h_names, .inl (cJ, 36, .inr (.inl f_names))), (h_reserved, .inl (cJ, 23, .inr (.inl f_reserved))), (h0, .inr (10, vL 67 F341)), (h_tape, .inl (cB, 940, .inl f_tape))] := hD
              refine W.widen (k := 0) (n := 0) (Nat.le_of_ble_eq_true rfl) (Nat.le_of_ble_eq_true rfl) ?_
              refine lv_if_ne (tgt := 319) hx hb dX10_line0_314 (by decide) (fun g => absurd (by decide) g) (fun _ => ?_)
              refine lv_iconst (v := 0) hx hb dX10_line0_317 (by decide) ?_
              exact ret_i (v := 0) hx hb hr hlocks hS (hP.sub (ws' := [(h0, .inr (10, vL 67 F341)), (h_tape, .inl (cB, 940, .inl f_tape)), (h_h, .inl (cI, 104, .inl g329)), (h_names, .inl (cJ, 36, .inr (.inl f_names))), (h_reserved, .inl (cJ, 23, .inr (.inl f_reserved)))]) [3, 4, 0, 1, 2] rfl) (hD.sub (ws' := [(h0, .inr (10, vL 67 F341)), (h_tape, .inl (cB, 940, .inl f_tape)), (h_h, .inl (cI, 104, .inl g329)), (h_names, .inl (cJ, 36, .inr (.inl f_names))), (h_reserved, .inl (cJ, 23, .inr (.inl f_reserved)))]) [3, 4, 0, 1, 2] (by decide) rfl) dX10_line0_318 rfl (Nat.le_of_ble_eq_true rfl) (Nat.le_of_ble_eq_true rfl) (Or.inl ⟨F341, y292, y293, y294, y295, y296, y342, y343, y297, y298, x_onces, g329, f_names, (SAME.tr (SAME.tr (SAME.tr SAME.rf t259 (by decide)) t299 (by decide)) t344 (by decide)), (SAME.at t344 (by decide) t300), t301, (SAME.at t344 (by decide) t302), t303, (SAME.at t344 (by decide) t304), (SAME.at t344 (by decide) t306), (SAME.at t344 (by decide) t308), t345, (ir_wk t346 (by decide) (by decide)), t347, (SAME.at t344 (by decide) t309), (SAME.at t344 (by decide) t310), (SAME.at t344 (by decide) (SAME.at t299 (by decide) (SAME.at t259 (by decide) e_onces))), r330, r332, (SG.wk r333 (by decide) (by decide)), r334, r331, ((cLine_6 (tkM_1st (ISWF.t t15 (by omega)).1) (lnwM (ISWF.t t15 (by omega)).1 (ISWF.t t15 (by omega)).2)).trans (cBend_1 (show ¬ 12 ≤ (f_h 6).toInt by have hn : (f_h 6).toInt = v246.toInt := congrArg Int32.toInt ev246.symm; omega) (atM t272 (ISWF.t t15 (by omega)).1) t317 t348)), UN.rf, (by omega), rfl, rfl⟩)
            · refine hp.elim (fun F349 h9z0 => h9z0.elim (fun y350 h9z1 => h9z1.elim (fun y351 h9z2 => h9z2.elim (fun y352 h9z3 => h9z3.elim (fun y353 h9z4 => h9z4.elim (fun y354 h9z5 => h9z5.elim (fun y355 h9z6 => h9z6.elim (fun y356 h9z7 => h9z7.elim (fun t357 h9z8 => h9z8.elim (fun t358 h9z9 => h9z9.elim (fun t359 h9z10 => h9z10.elim (fun t360 h9z11 => h9z11.elim (fun t361 h9z12 => h9z12.elim (fun t362 h9z13 => h9z13.elim (fun t363 h9z14 => h9z14.elim (fun t364 h9z15 => h9z15.elim (fun t365 h9z16 => h9z16.elim (fun t366 h9z17 => h9z17.elim (fun t367 h9z18 => h9z18.elim (fun t368 h9z19 => h9z19.elim (fun t369 h9z20 => h9z20.elim (fun t370 h9z21 => h9z21.elim (fun t371 h9z22 => h9z22.elim (fun t372 h9z23 => h9z23.elim (fun t373 h9z24 => h9z24.elim (fun t374 h9z25 => h9z25.elim (fun t375 h9z26 => h9z26.elim (fun t376 h9z27 => h9z27.elim (fun t377 h9z28 => h9z28.elim (fun t378 h9z29 => h9z29.elim (fun heq930 h9z30 => ?_)))))))))))))))))))))))))))))))
              clear h9z0 h9z1 h9z2 h9z3 h9z4 h9z5 h9z6 h9z7 h9z8 h9z9 h9z10 h9z11 h9z12 h9z13 h9z14 h9z15 h9z16 h9z17 h9z18 h9z19 h9z20 h9z21 h9z22 h9z23 h9z24 h9z25 h9z26 h9z27 h9z28 h9z29
              subst heq930
              subst h9z30
              clear t316 t320
              have hP : va_P D vwCl [(h_h, .inl (cI, 104, .inl g329)), (h_names, .inl (cJ, 36, .inr (.inl f_names))), (h_reserved, .inl (cJ, 23, .inr (.inl f_reserved))), (h0, .inr (10, vL 67 F349)), (h_tape, .inl (cB, 940, .inl f_tape))] H := hP
              have hD : va_D A [(h_h, .inl (cI, 104, .inl g329)), (h_names, .inl (cJ, 36, .inr (.inl f_names))), (h_reserved, .inl (cJ, 23, .inr (.inl f_reserved))), (h0, .inr (10, vL 67 F349)), (h_tape, .inl (cB, 940, .inl f_tape))] := hD
              refine W.widen (k := 0) (n := 0) (Nat.le_of_ble_eq_true rfl) (Nat.le_of_ble_eq_true rfl) ?_
              have k380 : 2 ≤ y293.toInt ∧ y293.toInt ≤ 2 := ⟨Int.le_trans (Int.le_refl _) (Int.le_of_eq t369.symm), Int.le_trans (Int.le_of_eq t369) (Int.le_refl _)⟩
              have k381 : 0 ≤ y296.toInt ∧ y296.toInt ≤ 2147483647 := ⟨Int.le_trans (Int.le_refl _) t370, (ir_any _).2⟩
              have k382 : 0 ≤ y296.toInt ∧ y296.toInt ≤ 9 := ⟨k381.1, Int.le_trans t371 (Int.le_refl _)⟩
              refine lv_if_ne (tgt := 319) hx hb dX10_line0_314 (by decide) (fun _ => ?_) (fun g => absurd g (by decide))
              refine lv_aload_n hx hb dX10_line0_319 rfl (lv_at hl 2 rfl) ?_
              have n383 : F349 7 = .ref h_h := (SAME.at t357 (by decide) n326)
              refine get_f (D := D) (ci := 10) (v := .ref h_h) (C := RX10) (T := TX10) (N := 67) hx hb hw inAX10 hown hK hP 3 rfl rfl 7 (by decide) (hw _ q_1268) (fun _ h9 => h9) n383 dX10_line0_320 ?_
              refine lv_bipush (v := 56) hx hb dX10_line0_323 (by decide) ?_
              refine lv_iload_n hx hb dX10_line0_325 rfl (lv_at hl 0 rfl) ?_
              refine lv_iadd hx hb dX10_line0_326 ?_
              refine lv_topi (fun v384 ev384 => ?_)
              have bv384 : v384.toInt = 56 + v246.toInt := by rw [ev384]; exact add_k rfl rfl ⟨Int.le_refl _, Int.le_refl _⟩ k249 (by decide)
              have k385 : 56 ≤ v384.toInt ∧ v384.toInt ≤ 67 := add_r bv384 ⟨Int.le_refl _, Int.le_refl _⟩ k249 (by decide)
              refine lv_aload_n hx hb dX10_line0_327 rfl (lv_at hl 2 rfl) ?_
              refine get_f (D := D) (ci := 10) (v := .int y356) (C := RX10) (T := TX10) (N := 67) hx hb hw inAX10 hown hK hP 3 rfl rfl 19 (by decide) (hw _ q_1280) (fun _ h9 => h9) t368 dX10_line0_328 ?_
              obtain ⟨g386, eg386⟩ : ∃ z : Nat → Int32, upd g329 v384.toNatClampNeg y356 = z := ⟨_, rfl⟩
              have r387 : SG 0 0 0 40 g386 := by rw [← eg386]; exact r330.up (Int.le_trans (by decide) k385.1) (Or.inr (Or.inl (dec_lt k385.1 (by decide))))
              have r388 : SG 44 55 0 9 g386 := by rw [← eg386]; exact r331.up (Int.le_trans (by decide) k385.1) (Or.inr (Or.inl (dec_lt k385.1 (by decide))))
              have r389 : SG 5 5 0 12 g386 := by rw [← eg386]; exact r332.up (Int.le_trans (by decide) k385.1) (Or.inr (Or.inl (dec_lt k385.1 (by decide))))
              have r390 : SG 6 6 0 11 g386 := by rw [← eg386]; exact r333.up (Int.le_trans (by decide) k385.1) (Or.inr (Or.inl (dec_lt k385.1 (by decide))))
              have r391 : SG 7 7 0 6 g386 := by rw [← eg386]; exact r334.up (Int.le_trans (by decide) k385.1) (Or.inr (Or.inl (dec_lt k385.1 (by decide))))
              refine iast_g hx hb hK hP hD hS 0 0 rfl rfl (ix_k k385 (by decide) (by decide)) eg386 dX10_line0_331 (fun H locs hP hD hS => ?_)
              have hP : va_P D vwCl [(h_h, .inl (cI, 104, .inl g386)), (h_names, .inl (cJ, 36, .inr (.inl f_names))), (h_reserved, .inl (cJ, 23, .inr (.inl f_reserved))), (h0, .inr (10, vL 67 F349)), (h_tape, .inl (cB, 940, .inl f_tape))] H := hP
              have hD : va_D A [(h_h, .inl (cI, 104, .inl g386)), (h_names, .inl (cJ, 36, .inr (.inl f_names))), (h_reserved, .inl (cJ, 23, .inr (.inl f_reserved))), (h0, .inr (10, vL 67 F349)), (h_tape, .inl (cB, 940, .inl f_tape))] := hD
              refine lv_aload_n hx hb dX10_line0_332 rfl (lv_at hl 2 rfl) ?_
              refine lv_iconst (v := 0) hx hb dX10_line0_333 (by decide) ?_
              refine lv_bipush (v := 9) hx hb dX10_line0_334 (by decide) ?_
              have n392 : F349 1 = .ref h_tape := (SAME.at t357 (by decide) n335)
              have n393 : F349 3 = .int x_size := (SAME.at t357 (by decide) n336)
              have n394 : F349 5 = .int x_limit := (SAME.at t357 (by decide) n337)
              have n395 : F349 15 = .int x_fault := (SAME.at t357 (by decide) n338)
              have n396 : F349 16 = .int x_faultAt := (SAME.at t357 (by decide) n339)
              refine call_Vi (wr := [(h_h, .inl (cI, 104, .inl g386)), (h_names, .inl (cJ, 36, .inr (.inl f_names))), (h_reserved, .inl (cJ, 23, .inr (.inl f_reserved)))]) (As := [.int 0, .int 9]) (rest := []) hx hb hml hown hw (m_X10_takes l D cI cJ cB cP cM cZ h0 h_tape F349 x_size y350 x_limit y351 y352 y354 x_fault x_faultAt y355 y356 f_tape 0 9 _ n392 n393 i_x_size t358 t359 n394 i_x_limit t360 t361 t362 t366 n395 n396 t367 t368 (by omega)) wV_X10_242_X10_takes dX10_line0_336 hK hP hD hS hA [3, 4] [0, 1, 2] rfl rfl (by decide) (by decide) (by decide) 0 10 rfl rfl GG.fb hG.at hl.1 rfl (Nat.le_of_ble_eq_true rfl) ⟨(Nat.le_of_ble_eq_true rfl), (Nat.le_of_ble_eq_true rfl)⟩ ⟨(Nat.le_of_ble_eq_true rfl), (Nat.le_of_ble_eq_true rfl)⟩ (fun r397 u H locs hp hP hD hS => ?_)
              rcases hp with hp | hp
              · obtain ⟨F398, y399, y400, t401, t402, t403, t404, t405, rfl, rfl⟩ := hp
                have hP : va_P D vwCl [(h_h, .inl (cI, 104, .inl g386)), (h_names, .inl (cJ, 36, .inr (.inl f_names))), (h_reserved, .inl (cJ, 23, .inr (.inl f_reserved))), (h0, .inr (10, vL 67 F398)), (h_tape, .inl (cB, 940, .inl f_tape))] H := hP
                have hD : va_D A [(h_h, .inl (cI, 104, .inl g386)), (h_names, .inl (cJ, 36, .inr (.inl f_names))), (h_reserved, .inl (cJ, 23, .inr (.inl f_reserved))), (h0, .inr (10, vL 67 F398)), (h_tape, .inl (cB, 940, .inl f_tape))] := hD
                refine W.widen (k := 0) (n := 0) (Nat.le_of_ble_eq_true rfl) (Nat.le_of_ble_eq_true rfl) ?_
                refine lv_if_ne (tgt := 344) hx hb dX10_line0_339 (by decide) (fun g => absurd (by decide) g) (fun _ => ?_)
                refine lv_iconst (v := 0) hx hb dX10_line0_342 (by decide) ?_
                exact ret_i (v := 0) hx hb hr hlocks hS (hP.sub (ws' := [(h0, .inr (10, vL 67 F398)), (h_tape, .inl (cB, 940, .inl f_tape)), (h_h, .inl (cI, 104, .inl g386)), (h_names, .inl (cJ, 36, .inr (.inl f_names))), (h_reserved, .inl (cJ, 23, .inr (.inl f_reserved)))]) [3, 4, 0, 1, 2] rfl) (hD.sub (ws' := [(h0, .inr (10, vL 67 F398)), (h_tape, .inl (cB, 940, .inl f_tape)), (h_h, .inl (cI, 104, .inl g386)), (h_names, .inl (cJ, 36, .inr (.inl f_names))), (h_reserved, .inl (cJ, 23, .inr (.inl f_reserved)))]) [3, 4, 0, 1, 2] (by decide) rfl) dX10_line0_343 rfl (Nat.le_of_ble_eq_true rfl) (Nat.le_of_ble_eq_true rfl) (Or.inl ⟨F398, y350, y351, y352, y353, y354, y399, y400, y355, y356, x_onces, g386, f_names, (SAME.tr (SAME.tr (SAME.tr (SAME.tr SAME.rf t259 (by decide)) t299 (by decide)) t357 (by decide)) t401 (by decide)), (SAME.at t401 (by decide) t358), t359, (SAME.at t401 (by decide) t360), t361, (SAME.at t401 (by decide) t362), (SAME.at t401 (by decide) t364), (SAME.at t401 (by decide) t366), t402, (ir_wk t403 (by decide) (by decide)), t404, (SAME.at t401 (by decide) t367), (SAME.at t401 (by decide) t368), (SAME.at t401 (by decide) (SAME.at t357 (by decide) (SAME.at t299 (by decide) (SAME.at t259 (by decide) e_onces)))), r387, r389, (SG.wk r390 (by decide) (by decide)), r391, r388, ((cLine_6 (tkM_1st (ISWF.t t15 (by omega)).1) (lnwM (ISWF.t t15 (by omega)).1 (ISWF.t t15 (by omega)).2)).trans (cBend_2 (show ¬ 12 ≤ (f_h 6).toInt by have hn : (f_h 6).toInt = v246.toInt := congrArg Int32.toInt ev246.symm; omega) (atM t272 (ISWF.t t15 (by omega)).1) t317 t375 t405)), UN.rf, (by omega), rfl, rfl⟩)
              · refine hp.elim (fun F406 h9z0 => h9z0.elim (fun y407 h9z1 => h9z1.elim (fun y408 h9z2 => h9z2.elim (fun y409 h9z3 => h9z3.elim (fun y410 h9z4 => h9z4.elim (fun y411 h9z5 => h9z5.elim (fun y412 h9z6 => h9z6.elim (fun y413 h9z7 => h9z7.elim (fun t414 h9z8 => h9z8.elim (fun t415 h9z9 => h9z9.elim (fun t416 h9z10 => h9z10.elim (fun t417 h9z11 => h9z11.elim (fun t418 h9z12 => h9z12.elim (fun t419 h9z13 => h9z13.elim (fun t420 h9z14 => h9z14.elim (fun t421 h9z15 => h9z15.elim (fun t422 h9z16 => h9z16.elim (fun t423 h9z17 => h9z17.elim (fun t424 h9z18 => h9z18.elim (fun t425 h9z19 => h9z19.elim (fun t426 h9z20 => h9z20.elim (fun t427 h9z21 => h9z21.elim (fun t428 h9z22 => h9z22.elim (fun t429 h9z23 => h9z23.elim (fun t430 h9z24 => h9z24.elim (fun t431 h9z25 => h9z25.elim (fun t432 h9z26 => h9z26.elim (fun t433 h9z27 => h9z27.elim (fun t434 h9z28 => h9z28.elim (fun t435 h9z29 => h9z29.elim (fun heq930 h9z30 => ?_)))))))))))))))))))))))))))))))
                clear h9z0 h9z1 h9z2 h9z3 h9z4 h9z5 h9z6 h9z7 h9z8 h9z9 h9z10 h9z11 h9z12 h9z13 h9z14 h9z15 h9z16 h9z17 h9z18 h9z19 h9z20 h9z21 h9z22 h9z23 h9z24 h9z25 h9z26 h9z27 h9z28 h9z29
                subst heq930
                subst h9z30
                clear t374 t378
                have hP : va_P D vwCl [(h_h, .inl (cI, 104, .inl g386)), (h_names, .inl (cJ, 36, .inr (.inl f_names))), (h_reserved, .inl (cJ, 23, .inr (.inl f_reserved))), (h0, .inr (10, vL 67 F406)), (h_tape, .inl (cB, 940, .inl f_tape))] H := hP
                have hD : va_D A [(h_h, .inl (cI, 104, .inl g386)), (h_names, .inl (cJ, 36, .inr (.inl f_names))), (h_reserved, .inl (cJ, 23, .inr (.inl f_reserved))), (h0, .inr (10, vL 67 F406)), (h_tape, .inl (cB, 940, .inl f_tape))] := hD
                refine W.widen (k := 0) (n := 0) (Nat.le_of_ble_eq_true rfl) (Nat.le_of_ble_eq_true rfl) ?_
                have k437 : 2 ≤ y351.toInt ∧ y351.toInt ≤ 2 := ⟨Int.le_trans (Int.le_refl _) (Int.le_of_eq t426.symm), Int.le_trans (Int.le_of_eq t426) (Int.le_refl _)⟩
                have k438 : 0 ≤ y354.toInt ∧ y354.toInt ≤ 2147483647 := ⟨Int.le_trans (Int.le_refl _) t427, (ir_any _).2⟩
                have k439 : 0 ≤ y354.toInt ∧ y354.toInt ≤ 9 := ⟨k438.1, Int.le_trans t428 (Int.le_refl _)⟩
                refine lv_if_ne (tgt := 344) hx hb dX10_line0_339 (by decide) (fun _ => ?_) (fun g => absurd g (by decide))
                refine lv_aload_n hx hb dX10_line0_344 rfl (lv_at hl 2 rfl) ?_
                have n440 : F406 7 = .ref h_h := (SAME.at t414 (by decide) n383)
                refine get_f (D := D) (ci := 10) (v := .ref h_h) (C := RX10) (T := TX10) (N := 67) hx hb hw inAX10 hown hK hP 3 rfl rfl 7 (by decide) (hw _ q_1268) (fun _ h9 => h9) n440 dX10_line0_345 ?_
                refine lv_bipush (v := 68) hx hb dX10_line0_348 (by decide) ?_
                refine lv_iload_n hx hb dX10_line0_350 rfl (lv_at hl 0 rfl) ?_
                refine lv_iadd hx hb dX10_line0_351 ?_
                refine lv_topi (fun v441 ev441 => ?_)
                have bv441 : v441.toInt = 68 + v246.toInt := by rw [ev441]; exact add_k rfl rfl ⟨Int.le_refl _, Int.le_refl _⟩ k249 (by decide)
                have k442 : 68 ≤ v441.toInt ∧ v441.toInt ≤ 79 := add_r bv441 ⟨Int.le_refl _, Int.le_refl _⟩ k249 (by decide)
                refine lv_aload_n hx hb dX10_line0_352 rfl (lv_at hl 2 rfl) ?_
                refine get_f (D := D) (ci := 10) (v := .int y413) (C := RX10) (T := TX10) (N := 67) hx hb hw inAX10 hown hK hP 3 rfl rfl 19 (by decide) (hw _ q_1280) (fun _ h9 => h9) t425 dX10_line0_353 ?_
                obtain ⟨g443, eg443⟩ : ∃ z : Nat → Int32, upd g386 v441.toNatClampNeg y413 = z := ⟨_, rfl⟩
                have r444 : SG 0 0 0 40 g443 := by rw [← eg443]; exact r387.up (Int.le_trans (by decide) k442.1) (Or.inr (Or.inl (dec_lt k442.1 (by decide))))
                have r445 : SG 44 55 0 9 g443 := by rw [← eg443]; exact r388.up (Int.le_trans (by decide) k442.1) (Or.inr (Or.inl (dec_lt k442.1 (by decide))))
                have r446 : SG 5 5 0 12 g443 := by rw [← eg443]; exact r389.up (Int.le_trans (by decide) k442.1) (Or.inr (Or.inl (dec_lt k442.1 (by decide))))
                have r447 : SG 6 6 0 11 g443 := by rw [← eg443]; exact r390.up (Int.le_trans (by decide) k442.1) (Or.inr (Or.inl (dec_lt k442.1 (by decide))))
                have r448 : SG 7 7 0 6 g443 := by rw [← eg443]; exact r391.up (Int.le_trans (by decide) k442.1) (Or.inr (Or.inl (dec_lt k442.1 (by decide))))
                refine iast_g hx hb hK hP hD hS 0 0 rfl rfl (ix_k k442 (by decide) (by decide)) eg443 dX10_line0_356 (fun H locs hP hD hS => ?_)
                have hP : va_P D vwCl [(h_h, .inl (cI, 104, .inl g443)), (h_names, .inl (cJ, 36, .inr (.inl f_names))), (h_reserved, .inl (cJ, 23, .inr (.inl f_reserved))), (h0, .inr (10, vL 67 F406)), (h_tape, .inl (cB, 940, .inl f_tape))] H := hP
                have hD : va_D A [(h_h, .inl (cI, 104, .inl g443)), (h_names, .inl (cJ, 36, .inr (.inl f_names))), (h_reserved, .inl (cJ, 23, .inr (.inl f_reserved))), (h0, .inr (10, vL 67 F406)), (h_tape, .inl (cB, 940, .inl f_tape))] := hD
                refine lv_aload_n hx hb dX10_line0_357 rfl (lv_at hl 2 rfl) ?_
                refine lv_iconst (v := 1) hx hb dX10_line0_358 (by decide) ?_
                refine lv_bipush (v := 99) hx hb dX10_line0_359 (by decide) ?_
                have n449 : F406 1 = .ref h_tape := (SAME.at t414 (by decide) n392)
                have n450 : F406 3 = .int x_size := (SAME.at t414 (by decide) n393)
                have n451 : F406 5 = .int x_limit := (SAME.at t414 (by decide) n394)
                have n452 : F406 15 = .int x_fault := (SAME.at t414 (by decide) n395)
                have n453 : F406 16 = .int x_faultAt := (SAME.at t414 (by decide) n396)
                refine call_Vi (wr := [(h_h, .inl (cI, 104, .inl g443)), (h_names, .inl (cJ, 36, .inr (.inl f_names))), (h_reserved, .inl (cJ, 23, .inr (.inl f_reserved)))]) (As := [.int 1, .int 99]) (rest := []) hx hb hml hown hw (m_X10_takes l D cI cJ cB cP cM cZ h0 h_tape F406 x_size y407 x_limit y408 y409 y411 x_fault x_faultAt y412 y413 f_tape 1 99 _ n449 n450 i_x_size t415 t416 n451 i_x_limit t417 t418 t419 t423 n452 n453 t424 t425 (by omega)) wV_X10_242_X10_takes dX10_line0_361 hK hP hD hS hA [3, 4] [0, 1, 2] rfl rfl (by decide) (by decide) (by decide) 0 10 rfl rfl GG.fb hG.at hl.1 rfl (Nat.le_of_ble_eq_true rfl) ⟨(Nat.le_of_ble_eq_true rfl), (Nat.le_of_ble_eq_true rfl)⟩ ⟨(Nat.le_of_ble_eq_true rfl), (Nat.le_of_ble_eq_true rfl)⟩ (fun r454 u H locs hp hP hD hS => ?_)
                have zl99 : (99 : Int32).toInt = 99 := by decide
                rcases hp with hp | hp
                · obtain ⟨F455, y456, y457, t458, t459, t460, t461, t462, rfl, rfl⟩ := hp
                  have hP : va_P D vwCl [(h_h, .inl (cI, 104, .inl g443)), (h_names, .inl (cJ, 36, .inr (.inl f_names))), (h_reserved, .inl (cJ, 23, .inr (.inl f_reserved))), (h0, .inr (10, vL 67 F455)), (h_tape, .inl (cB, 940, .inl f_tape))] H := hP
                  have hD : va_D A [(h_h, .inl (cI, 104, .inl g443)), (h_names, .inl (cJ, 36, .inr (.inl f_names))), (h_reserved, .inl (cJ, 23, .inr (.inl f_reserved))), (h0, .inr (10, vL 67 F455)), (h_tape, .inl (cB, 940, .inl f_tape))] := hD
                  refine W.widen (k := 0) (n := 0) (Nat.le_of_ble_eq_true rfl) (Nat.le_of_ble_eq_true rfl) ?_
                  refine lv_if_ne (tgt := 369) hx hb dX10_line0_364 (by decide) (fun g => absurd (by decide) g) (fun _ => ?_)
                  refine lv_iconst (v := 0) hx hb dX10_line0_367 (by decide) ?_
                  exact ret_i (v := 0) hx hb hr hlocks hS (hP.sub (ws' := [(h0, .inr (10, vL 67 F455)), (h_tape, .inl (cB, 940, .inl f_tape)), (h_h, .inl (cI, 104, .inl g443)), (h_names, .inl (cJ, 36, .inr (.inl f_names))), (h_reserved, .inl (cJ, 23, .inr (.inl f_reserved)))]) [3, 4, 0, 1, 2] rfl) (hD.sub (ws' := [(h0, .inr (10, vL 67 F455)), (h_tape, .inl (cB, 940, .inl f_tape)), (h_h, .inl (cI, 104, .inl g443)), (h_names, .inl (cJ, 36, .inr (.inl f_names))), (h_reserved, .inl (cJ, 23, .inr (.inl f_reserved)))]) [3, 4, 0, 1, 2] (by decide) rfl) dX10_line0_368 rfl (Nat.le_of_ble_eq_true rfl) (Nat.le_of_ble_eq_true rfl) (Or.inl ⟨F455, y407, y408, y409, y410, y411, y456, y457, y412, y413, x_onces, g443, f_names, (SAME.tr (SAME.tr (SAME.tr (SAME.tr (SAME.tr SAME.rf t259 (by decide)) t299 (by decide)) t357 (by decide)) t414 (by decide)) t458 (by decide)), (SAME.at t458 (by decide) t415), t416, (SAME.at t458 (by decide) t417), t418, (SAME.at t458 (by decide) t419), (SAME.at t458 (by decide) t421), (SAME.at t458 (by decide) t423), t459, (ir_wk t460 (by decide) (by decide)), t461, (SAME.at t458 (by decide) t424), (SAME.at t458 (by decide) t425), (SAME.at t458 (by decide) (SAME.at t414 (by decide) (SAME.at t357 (by decide) (SAME.at t299 (by decide) (SAME.at t259 (by decide) e_onces))))), r444, r446, (SG.wk r447 (by decide) (by decide)), r448, r445, ((cLine_6 (tkM_1st (ISWF.t t15 (by omega)).1) (lnwM (ISWF.t t15 (by omega)).1 (ISWF.t t15 (by omega)).2)).trans (cBend_3 (show ¬ 12 ≤ (f_h 6).toInt by have hn : (f_h 6).toInt = v246.toInt := congrArg Int32.toInt ev246.symm; omega) (atM t272 (ISWF.t t15 (by omega)).1) t317 t375 t432 t462)), UN.rf, (by omega), rfl, rfl⟩)
                · refine hp.elim (fun F463 h9z0 => h9z0.elim (fun y464 h9z1 => h9z1.elim (fun y465 h9z2 => h9z2.elim (fun y466 h9z3 => h9z3.elim (fun y467 h9z4 => h9z4.elim (fun y468 h9z5 => h9z5.elim (fun y469 h9z6 => h9z6.elim (fun y470 h9z7 => h9z7.elim (fun t471 h9z8 => h9z8.elim (fun t472 h9z9 => h9z9.elim (fun t473 h9z10 => h9z10.elim (fun t474 h9z11 => h9z11.elim (fun t475 h9z12 => h9z12.elim (fun t476 h9z13 => h9z13.elim (fun t477 h9z14 => h9z14.elim (fun t478 h9z15 => h9z15.elim (fun t479 h9z16 => h9z16.elim (fun t480 h9z17 => h9z17.elim (fun t481 h9z18 => h9z18.elim (fun t482 h9z19 => h9z19.elim (fun t483 h9z20 => h9z20.elim (fun t484 h9z21 => h9z21.elim (fun t485 h9z22 => h9z22.elim (fun t486 h9z23 => h9z23.elim (fun t487 h9z24 => h9z24.elim (fun t488 h9z25 => h9z25.elim (fun t489 h9z26 => h9z26.elim (fun t490 h9z27 => h9z27.elim (fun t491 h9z28 => h9z28.elim (fun t492 h9z29 => h9z29.elim (fun heq930 h9z30 => ?_)))))))))))))))))))))))))))))))
                  clear h9z0 h9z1 h9z2 h9z3 h9z4 h9z5 h9z6 h9z7 h9z8 h9z9 h9z10 h9z11 h9z12 h9z13 h9z14 h9z15 h9z16 h9z17 h9z18 h9z19 h9z20 h9z21 h9z22 h9z23 h9z24 h9z25 h9z26 h9z27 h9z28 h9z29
                  subst heq930
                  subst h9z30
                  clear t431 t435
                  have hP : va_P D vwCl [(h_h, .inl (cI, 104, .inl g443)), (h_names, .inl (cJ, 36, .inr (.inl f_names))), (h_reserved, .inl (cJ, 23, .inr (.inl f_reserved))), (h0, .inr (10, vL 67 F463)), (h_tape, .inl (cB, 940, .inl f_tape))] H := hP
                  have hD : va_D A [(h_h, .inl (cI, 104, .inl g443)), (h_names, .inl (cJ, 36, .inr (.inl f_names))), (h_reserved, .inl (cJ, 23, .inr (.inl f_reserved))), (h0, .inr (10, vL 67 F463)), (h_tape, .inl (cB, 940, .inl f_tape))] := hD
                  refine W.widen (k := 0) (n := 0) (Nat.le_of_ble_eq_true rfl) (Nat.le_of_ble_eq_true rfl) ?_
                  have k494 : 2 ≤ y408.toInt ∧ y408.toInt ≤ 2 := ⟨Int.le_trans (Int.le_refl _) (Int.le_of_eq t483.symm), Int.le_trans (Int.le_of_eq t483) (Int.le_refl _)⟩
                  have k495 : 1 ≤ y411.toInt ∧ y411.toInt ≤ 2147483647 := ⟨Int.le_trans (Int.le_refl _) t484, (ir_any _).2⟩
                  have k496 : 1 ≤ y411.toInt ∧ y411.toInt ≤ 99 := ⟨k495.1, Int.le_trans t485 (Int.le_refl _)⟩
                  refine lv_if_ne (tgt := 369) hx hb dX10_line0_364 (by decide) (fun _ => ?_) (fun g => absurd g (by decide))
                  refine lv_aload_n hx hb dX10_line0_369 rfl (lv_at hl 2 rfl) ?_
                  have n497 : F463 7 = .ref h_h := (SAME.at t471 (by decide) n440)
                  refine get_f (D := D) (ci := 10) (v := .ref h_h) (C := RX10) (T := TX10) (N := 67) hx hb hw inAX10 hown hK hP 3 rfl rfl 7 (by decide) (hw _ q_1268) (fun _ h9 => h9) n497 dX10_line0_370 ?_
                  refine lv_bipush (v := 80) hx hb dX10_line0_373 (by decide) ?_
                  refine lv_iload_n hx hb dX10_line0_375 rfl (lv_at hl 0 rfl) ?_
                  refine lv_iadd hx hb dX10_line0_376 ?_
                  refine lv_topi (fun v498 ev498 => ?_)
                  have bv498 : v498.toInt = 80 + v246.toInt := by rw [ev498]; exact add_k rfl rfl ⟨Int.le_refl _, Int.le_refl _⟩ k249 (by decide)
                  have k499 : 80 ≤ v498.toInt ∧ v498.toInt ≤ 91 := add_r bv498 ⟨Int.le_refl _, Int.le_refl _⟩ k249 (by decide)
                  refine lv_aload_n hx hb dX10_line0_377 rfl (lv_at hl 2 rfl) ?_
                  refine get_f (D := D) (ci := 10) (v := .int y470) (C := RX10) (T := TX10) (N := 67) hx hb hw inAX10 hown hK hP 3 rfl rfl 19 (by decide) (hw _ q_1280) (fun _ h9 => h9) t482 dX10_line0_378 ?_
                  obtain ⟨g500, eg500⟩ : ∃ z : Nat → Int32, upd g443 v498.toNatClampNeg y470 = z := ⟨_, rfl⟩
                  have r501 : SG 0 0 0 40 g500 := by rw [← eg500]; exact r444.up (Int.le_trans (by decide) k499.1) (Or.inr (Or.inl (dec_lt k499.1 (by decide))))
                  have r502 : SG 44 55 0 9 g500 := by rw [← eg500]; exact r445.up (Int.le_trans (by decide) k499.1) (Or.inr (Or.inl (dec_lt k499.1 (by decide))))
                  have r503 : SG 5 5 0 12 g500 := by rw [← eg500]; exact r446.up (Int.le_trans (by decide) k499.1) (Or.inr (Or.inl (dec_lt k499.1 (by decide))))
                  have r504 : SG 6 6 0 11 g500 := by rw [← eg500]; exact r447.up (Int.le_trans (by decide) k499.1) (Or.inr (Or.inl (dec_lt k499.1 (by decide))))
                  have r505 : SG 7 7 0 6 g500 := by rw [← eg500]; exact r448.up (Int.le_trans (by decide) k499.1) (Or.inr (Or.inl (dec_lt k499.1 (by decide))))
                  refine iast_g hx hb hK hP hD hS 0 0 rfl rfl (ix_k k499 (by decide) (by decide)) eg500 dX10_line0_381 (fun H locs hP hD hS => ?_)
                  have hP : va_P D vwCl [(h_h, .inl (cI, 104, .inl g500)), (h_names, .inl (cJ, 36, .inr (.inl f_names))), (h_reserved, .inl (cJ, 23, .inr (.inl f_reserved))), (h0, .inr (10, vL 67 F463)), (h_tape, .inl (cB, 940, .inl f_tape))] H := hP
                  have hD : va_D A [(h_h, .inl (cI, 104, .inl g500)), (h_names, .inl (cJ, 36, .inr (.inl f_names))), (h_reserved, .inl (cJ, 23, .inr (.inl f_reserved))), (h0, .inr (10, vL 67 F463)), (h_tape, .inl (cB, 940, .inl f_tape))] := hD
                  refine lv_aload_n hx hb dX10_line0_382 rfl (lv_at hl 2 rfl) ?_
                  refine get_f (D := D) (ci := 10) (v := .ref h_h) (C := RX10) (T := TX10) (N := 67) hx hb hw inAX10 hown hK hP 3 rfl rfl 7 (by decide) (hw _ q_1268) (fun _ h9 => h9) n497 dX10_line0_383 ?_
                  refine lv_bipush (v := 6) hx hb dX10_line0_386 (by decide) ?_
                  refine lv_dup2_11 hx hb dX10_line0_388 rfl rfl ?_
                  refine iald_n hx hb hK hP 0 0 rfl rfl 6 rfl (Nat.le_of_ble_eq_true rfl) (Nat.le_of_ble_eq_true rfl) rfl dX10_line0_389 ?_
                  refine lv_topi (fun v506 ev506 => ?_)
                  have k507 : 0 ≤ v506.toInt ∧ v506.toInt ≤ 11 := by rw [ev506]; exact r504.atN 6 (by decide) (by decide)
                  refine lv_iconst (v := 1) hx hb dX10_line0_390 (by decide) ?_
                  refine lv_iadd hx hb dX10_line0_391 ?_
                  refine lv_topi (fun v508 ev508 => ?_)
                  have bv508 : v508.toInt = v506.toInt + 1 := by rw [ev508]; exact add_k rfl rfl k507 ⟨Int.le_refl _, Int.le_refl _⟩ (by decide)
                  have k509 : 1 ≤ v508.toInt ∧ v508.toInt ≤ 12 := add_r bv508 k507 ⟨Int.le_refl _, Int.le_refl _⟩ (by decide)
                  obtain ⟨g510, eg510⟩ : ∃ z : Nat → Int32, upd g500 6 v508 = z := ⟨_, rfl⟩
                  have r511 : SG 0 0 0 40 g510 := by rw [← eg510]; exact r501.upN (Or.inr (Or.inl (by decide)))
                  have r512 : SG 44 55 0 9 g510 := by rw [← eg510]; exact r502.upN (Or.inl (by decide))
                  have r513 : SG 5 5 0 12 g510 := by rw [← eg510]; exact r503.upN (Or.inr (Or.inl (by decide)))
                  have r514 : SG 7 7 0 6 g510 := by rw [← eg510]; exact r505.upN (Or.inl (by decide))
                  have r515 : SG 6 6 0 12 g510 := by rw [← eg510]; exact SG.new1 (ir_wk k509 (by decide) (by decide))
                  refine iast_n hx hb hK hP hD hS 0 0 rfl rfl 6 rfl (Nat.le_of_ble_eq_true rfl) (Nat.le_of_ble_eq_true rfl) eg510 dX10_line0_392 (fun H locs hP hD hS => ?_)
                  have hP : va_P D vwCl [(h_h, .inl (cI, 104, .inl g510)), (h_names, .inl (cJ, 36, .inr (.inl f_names))), (h_reserved, .inl (cJ, 23, .inr (.inl f_reserved))), (h0, .inr (10, vL 67 F463)), (h_tape, .inl (cB, 940, .inl f_tape))] H := hP
                  have hD : va_D A [(h_h, .inl (cI, 104, .inl g510)), (h_names, .inl (cJ, 36, .inr (.inl f_names))), (h_reserved, .inl (cJ, 23, .inr (.inl f_reserved))), (h0, .inr (10, vL 67 F463)), (h_tape, .inl (cB, 940, .inl f_tape))] := hD
                  refine lv_iconst (v := 1) hx hb dX10_line0_393 (by decide) ?_
                  exact ret_i (v := 1) hx hb hr hlocks hS (hP.sub (ws' := [(h0, .inr (10, vL 67 F463)), (h_tape, .inl (cB, 940, .inl f_tape)), (h_h, .inl (cI, 104, .inl g510)), (h_names, .inl (cJ, 36, .inr (.inl f_names))), (h_reserved, .inl (cJ, 23, .inr (.inl f_reserved)))]) [3, 4, 0, 1, 2] rfl) (hD.sub (ws' := [(h0, .inr (10, vL 67 F463)), (h_tape, .inl (cB, 940, .inl f_tape)), (h_h, .inl (cI, 104, .inl g510)), (h_names, .inl (cJ, 36, .inr (.inl f_names))), (h_reserved, .inl (cJ, 23, .inr (.inl f_reserved)))]) [3, 4, 0, 1, 2] (by decide) rfl) dX10_line0_394 rfl (Nat.le_of_ble_eq_true rfl) (Nat.le_of_ble_eq_true rfl) (Or.inr ⟨F463, y464, y465, y466, y467, y468, y469, y470, x_onces, g510, f_names, (SAME.tr (SAME.tr (SAME.tr (SAME.tr (SAME.tr SAME.rf t259 (by decide)) t299 (by decide)) t357 (by decide)) t414 (by decide)) t471 (by decide)), t472, t473, t474, t475, t476, t477, t478, t479, t480, t481, t482, (SAME.at t471 (by decide) (SAME.at t414 (by decide) (SAME.at t357 (by decide) (SAME.at t299 (by decide) (SAME.at t259 (by decide) e_onces))))), r511, r513, r515, r514, r512, (by have zl1 : (1 : Int32).toInt = 1 := (by decide); omega), (by have zl1 : (1 : Int32).toInt = 1 := (by decide); omega), ((cLine_6 (tkM_1st (ISWF.t t15 (by omega)).1) (lnwM (ISWF.t t15 (by omega)).1 (ISWF.t t15 (by omega)).2)).trans (fin_r (cBend_o (show ¬ 12 ≤ (f_h 6).toInt by have hn : (f_h 6).toInt = v246.toInt := congrArg Int32.toInt ev246.symm; omega) (atM t272 (ISWF.t t15 (by omega)).1) t317 t375 t432 t489 (show (g510 6).toInt = (f_h 6).toInt + 1 from (by rw [← eg510, pk_us, bv508]; have hq : v506.toInt = (f_h 6).toInt := congrArg Int32.toInt (ev506.trans (HU.up (HU.up (HU.up (HU.up HU.rf eg329 (by omega)) eg386 (by omega)) eg443 (by omega)) eg500 (by omega)).a6); omega))) (csM_b (HU.up (HU.up (HU.up (HU.up HU.rf eg329 (by omega)) eg386 (by omega)) eg443 (by omega)) eg500 (by omega)) eg510))), (ISWF.t t15 (by omega)).1, (AV.h z_1 ((upd_m eg510 (by decide)).trans (HU.up (HU.up (HU.up (HU.up HU.rf eg329 (by omega)) eg386 (by omega)) eg443 (by omega)) eg500 (by omega)).a5)), (AV.h z_2 ((upd_m eg510 (by decide)).trans (HU.up (HU.up (HU.up (HU.up HU.rf eg329 (by omega)) eg386 (by omega)) eg443 (by omega)) eg500 (by omega)).a7)), t491, UN.rf, (by omega), rfl, rfl⟩)
        · have dc248 : v246.toInt = 12 := eq_i (a := v246.toInt) (b := 12) rfl rfl c248
          have k516 : 12 ≤ v246.toInt ∧ v246.toInt ≤ 12 := ⟨Int.le_trans (Int.le_refl _) (Int.le_of_eq dc248.symm), k247.2⟩
          refine lv_aload_n hx hb dX10_line0_272 rfl (lv_at hl 2 rfl) ?_
          refine lv_iconst (v := 4) hx hb dX10_line0_273 (by decide) ?_
          refine call_Vi (wr := [(h_tape, .inl (cB, 940, .inl f_tape)), (h_h, .inl (cI, 104, .inl f_h)), (h_names, .inl (cJ, 36, .inr (.inl f_names))), (h_reserved, .inl (cJ, 23, .inr (.inl f_reserved)))]) (As := [.int 4]) (rest := []) hx hb hml hown hw (m_X10_bad l D cI cJ cB cP cM cZ h0 Fh x_at 4 _ e_at) wV_X10_205_X10_bad dX10_line0_274 hK hP hD hS hA [4] [0, 1, 2, 3] rfl rfl (by decide) (by decide) (by decide) 0 10 rfl rfl GG.fb hG.at hl.1 rfl (Nat.le_of_ble_eq_true rfl) ⟨(Nat.le_of_ble_eq_true rfl), (Nat.le_of_ble_eq_true rfl)⟩ ⟨(Nat.le_of_ble_eq_true rfl), (Nat.le_of_ble_eq_true rfl)⟩ (fun r517 u H locs hp hP hD hS => ?_)
          have zl4 : (4 : Int32).toInt = 4 := by decide
          obtain ⟨F518, t519, t520, t521, rfl, rfl⟩ := hp
          have hP : va_P D vwCl [(h_tape, .inl (cB, 940, .inl f_tape)), (h_h, .inl (cI, 104, .inl f_h)), (h_names, .inl (cJ, 36, .inr (.inl f_names))), (h_reserved, .inl (cJ, 23, .inr (.inl f_reserved))), (h0, .inr (10, vL 67 F518))] H := hP
          have hD : va_D A [(h_tape, .inl (cB, 940, .inl f_tape)), (h_h, .inl (cI, 104, .inl f_h)), (h_names, .inl (cJ, 36, .inr (.inl f_names))), (h_reserved, .inl (cJ, 23, .inr (.inl f_reserved))), (h0, .inr (10, vL 67 F518))] := hD
          refine W.widen (k := 0) (n := 0) (Nat.le_of_ble_eq_true rfl) (Nat.le_of_ble_eq_true rfl) ?_
          exact ret_i (v := 0) hx hb hr hlocks hS (hP.sub (ws' := [(h0, .inr (10, vL 67 F518)), (h_tape, .inl (cB, 940, .inl f_tape)), (h_h, .inl (cI, 104, .inl f_h)), (h_names, .inl (cJ, 36, .inr (.inl f_names))), (h_reserved, .inl (cJ, 23, .inr (.inl f_reserved)))]) [4, 0, 1, 2, 3] rfl) (hD.sub (ws' := [(h0, .inr (10, vL 67 F518)), (h_tape, .inl (cB, 940, .inl f_tape)), (h_h, .inl (cI, 104, .inl f_h)), (h_names, .inl (cJ, 36, .inr (.inl f_names))), (h_reserved, .inl (cJ, 23, .inr (.inl f_reserved)))]) [4, 0, 1, 2, 3] (by decide) rfl) dX10_line0_277 rfl (Nat.le_of_ble_eq_true rfl) (Nat.le_of_ble_eq_true rfl) (Or.inl ⟨F518, x_p, x_token, x_at, x_span, x_number, 4, x_at, x_word, x_got, x_onces, f_h, f_names, (SAME.tr SAME.rf t519 (by decide)), (SAME.at t519 (by decide) e_p), i_x_p, (SAME.at t519 (by decide) e_token), i_x_token, (SAME.at t519 (by decide) e_at), (SAME.at t519 (by decide) e_span), (SAME.at t519 (by decide) e_number), t520, (show 1 ≤ (4 : Int32).toInt ∧ (4 : Int32).toInt ≤ 4 by decide), t521, (SAME.at t519 (by decide) e_word), (SAME.at t519 (by decide) e_got), (SAME.at t519 (by decide) e_onces), s_h_0, s_h_5, s_h_6, s_h_7, s_h_44, ((cLine_6 (tkM_1st (ISWF.t t15 (by omega)).1) (lnwM (ISWF.t t15 (by omega)).1 (ISWF.t t15 (by omega)).2)).trans (inl_eq (cBend_m (show 12 ≤ (f_h 6).toInt by have hn : (f_h 6).toInt = v246.toInt := congrArg Int32.toInt ev246.symm; omega)) (by decide) rfl)), UN.rf, (by have zl4 : (4 : Int32).toInt = 4 := (by decide); omega), rfl, rfl⟩)
    · have dc11 : r7.toInt ≠ 0 := ne_i (a := r7.toInt) (b := 0) rfl rfl c11
      have k523 : 1 ≤ r7.toInt ∧ r7.toInt ≤ 1 := ⟨ne_lo dc11 t8.1 ⟨Int.le_refl _, Int.le_refl _⟩ (by decide), t8.2⟩
      refine lv_aload_n hx hb dX10_line0_123 rfl (lv_at hl 1 rfl) ?_
      refine get_f (D := D) (ci := 10) (v := .ref h_h) (C := RX10) (T := TX10) (N := 67) hx hb hw inAX10 hown hK hP 4 rfl rfl 7 (by decide) (hw _ q_1268) (fun _ h9 => h9) e_h dX10_line0_124 ?_
      refine lv_iconst (v := 5) hx hb dX10_line0_127 (by decide) ?_
      refine iald_n hx hb hK hP 1 0 rfl rfl 5 rfl (Nat.le_of_ble_eq_true rfl) (Nat.le_of_ble_eq_true rfl) rfl dX10_line0_128 ?_
      refine lv_topi (fun v524 ev524 => ?_)
      have k525 : 0 ≤ v524.toInt ∧ v524.toInt ≤ 12 := by rw [ev524]; exact s_h_5.atN 5 (by decide) (by decide)
      refine lv_istore_n (lv' := [(2, .int v524), (1, .int r1), (0, .ref h0)]) hx hb dX10_line0_129 rfl hl (by decide) rfl (fun ls hl => ?_)
      refine lv_iload_n hx hb dX10_line0_130 rfl (lv_at hl 0 rfl) ?_
      refine lv_bipush (v := 12) hx hb dX10_line0_131 (by decide) ?_
      refine lv_icmp_ne (tgt := 142) hx hb dX10_line0_133 (by decide) (fun c526 => ?_) (fun c526 => ?_)
      · have dc526 : v524.toInt ≠ 12 := ne_i (a := v524.toInt) (b := 12) rfl rfl c526
        have k527 : 0 ≤ v524.toInt ∧ v524.toInt ≤ 11 := ⟨k525.1, ne_hi dc526 k525.2 ⟨Int.le_refl _, Int.le_refl _⟩ (by decide)⟩
        have r528 : SG 5 5 0 11 f_h := SG.one ev524 k527
        refine lv_aload_n hx hb dX10_line0_142 rfl (lv_at hl 2 rfl) ?_
        refine call_Vv (wr := [(h_h, .inl (cI, 104, .inl f_h)), (h_names, .inl (cJ, 36, .inr (.inl f_names))), (h_reserved, .inl (cJ, 23, .inr (.inl f_reserved)))]) (As := []) (rest := []) hx hb hml hown hw (m_X10_next l D cI cJ cB cP cM cZ h0 h_tape Fh x_size x_p x_limit x_token x_at x_number x_word f_tape _ e_tape e_size i_x_size e_p i_x_p e_limit i_x_limit e_token i_x_token e_at e_number e_word (by omega)) wV_X10_208_X10_next dX10_line0_143 hK hP hD hS hA [4, 0] [1, 2, 3] rfl rfl (by decide) (by decide) (by decide) 0 10 rfl rfl GG.fb hG.at hl.1 rfl (Nat.le_of_ble_eq_true rfl) ⟨(Nat.le_of_ble_eq_true rfl), (Nat.le_of_ble_eq_true rfl)⟩ ⟨(Nat.le_of_ble_eq_true rfl), (Nat.le_of_ble_eq_true rfl)⟩ (fun u H locs hp hP hD hS => ?_)
        obtain ⟨F530, y531, y532, y533, y534, y535, y536, t537, t538, t539, t540, t541, t542, t543, t544, t545, t546, t547, t548, t549, t550, t551, t552, rfl⟩ := hp
        have hP : va_P D vwCl [(h_h, .inl (cI, 104, .inl f_h)), (h_names, .inl (cJ, 36, .inr (.inl f_names))), (h_reserved, .inl (cJ, 23, .inr (.inl f_reserved))), (h0, .inr (10, vL 67 F530)), (h_tape, .inl (cB, 940, .inl f_tape))] H := hP
        have hD : va_D A [(h_h, .inl (cI, 104, .inl f_h)), (h_names, .inl (cJ, 36, .inr (.inl f_names))), (h_reserved, .inl (cJ, 23, .inr (.inl f_reserved))), (h0, .inr (10, vL 67 F530)), (h_tape, .inl (cB, 940, .inl f_tape))] := hD
        refine W.widen (k := 0) (n := 0) (Nat.le_of_ble_eq_true rfl) (Nat.le_of_ble_eq_true rfl) ?_
        refine lv_aload_n hx hb dX10_line0_146 rfl (lv_at hl 2 rfl) ?_
        refine lv_bipush (v := 18) hx hb dX10_line0_147 (by decide) ?_
        refine lv_iload_n hx hb dX10_line0_149 rfl (lv_at hl 0 rfl) ?_
        refine lv_iadd hx hb dX10_line0_150 ?_
        refine lv_topi (fun v554 ev554 => ?_)
        have bv554 : v554.toInt = 18 + v524.toInt := by rw [ev554]; exact add_k rfl rfl ⟨Int.le_refl _, Int.le_refl _⟩ k527 (by decide)
        have k555 : 18 ≤ v554.toInt ∧ v554.toInt ≤ 29 := add_r bv554 ⟨Int.le_refl _, Int.le_refl _⟩ k527 (by decide)
        have n556 : F530 1 = .ref h_tape := (SAME.at t537 (by decide) e_tape)
        have n557 : F530 3 = .int x_size := (SAME.at t537 (by decide) e_size)
        have n558 : F530 5 = .int x_limit := (SAME.at t537 (by decide) e_limit)
        have n559 : F530 7 = .ref h_h := (SAME.at t537 (by decide) e_h)
        have n560 : F530 9 = .ref h_names := (SAME.at t537 (by decide) e_names)
        have n561 : F530 10 = .ref h_reserved := (SAME.at t537 (by decide) e_reserved)
        have n562 : F530 15 = .int x_fault := (SAME.at t537 (by decide) e_fault)
        have n563 : F530 16 = .int x_faultAt := (SAME.at t537 (by decide) e_faultAt)
        refine call_Vi (wr := []) (As := [.int v554]) (rest := []) hx hb hml hown hw (m_X10_fresh l D cI cJ cB cP cM cZ h0 h_tape h_h h_names h_reserved F530 x_size y531 x_limit y532 y533 y535 x_fault x_faultAt y536 f_tape f_h f_names f_reserved v554 _ n556 n557 i_x_size t538 t539 n558 i_x_limit n559 n560 n561 t540 t541 t542 t546 n562 n563 t547 s_h_0 s_h_44 (SG.wk r528 (by decide) (by decide)) s_h_6 s_h_7 s_reserved_KR (ir_wk k555 (by decide) (by decide)) t551 z_1 z_2 (by omega)) wV_X10_245_X10_fresh dX10_line0_151 hK hP hD hS hA [3, 4, 0, 1, 2] [] rfl rfl (by decide) (by decide) (by decide) 0 10 rfl rfl GG.fb hG.at hl.1 rfl (Nat.le_of_ble_eq_true rfl) ⟨(Nat.le_of_ble_eq_true rfl), (Nat.le_of_ble_eq_true rfl)⟩ ⟨(Nat.le_of_ble_eq_true rfl), (Nat.le_of_ble_eq_true rfl)⟩ (fun r564 u H locs hp hP hD hS => ?_)
        rcases hp with hp | hp
        · refine hp.elim (fun F565 h9z0 => h9z0.elim (fun y566 h9z1 => h9z1.elim (fun y567 h9z2 => h9z2.elim (fun y568 h9z3 => h9z3.elim (fun y569 h9z4 => h9z4.elim (fun y570 h9z5 => h9z5.elim (fun y571 h9z6 => h9z6.elim (fun g572 h9z7 => h9z7.elim (fun t573 h9z8 => h9z8.elim (fun t574 h9z9 => h9z9.elim (fun t575 h9z10 => h9z10.elim (fun t576 h9z11 => h9z11.elim (fun t577 h9z12 => h9z12.elim (fun t578 h9z13 => h9z13.elim (fun t579 h9z14 => h9z14.elim (fun t580 h9z15 => h9z15.elim (fun t581 h9z16 => h9z16.elim (fun t582 h9z17 => h9z17.elim (fun t583 h9z18 => h9z18.elim (fun t584 h9z19 => h9z19.elim (fun t585 h9z20 => h9z20.elim (fun t586 h9z21 => h9z21.elim (fun t587 h9z22 => h9z22.elim (fun t588 h9z23 => h9z23.elim (fun t589 h9z24 => h9z24.elim (fun t590 h9z25 => h9z25.elim (fun t591 h9z26 => h9z26.elim (fun t592 h9z27 => h9z27.elim (fun heq928 h9z28 => ?_)))))))))))))))))))))))))))))
          clear h9z0 h9z1 h9z2 h9z3 h9z4 h9z5 h9z6 h9z7 h9z8 h9z9 h9z10 h9z11 h9z12 h9z13 h9z14 h9z15 h9z16 h9z17 h9z18 h9z19 h9z20 h9z21 h9z22 h9z23 h9z24 h9z25 h9z26 h9z27
          subst heq928
          subst h9z28
          clear t549 t552
          have hP : va_P D vwCl [(h0, .inr (10, vL 67 F565)), (h_tape, .inl (cB, 940, .inl f_tape)), (h_h, .inl (cI, 104, .inl f_h)), (h_names, .inl (cJ, 36, .inr (.inl g572))), (h_reserved, .inl (cJ, 23, .inr (.inl f_reserved)))] H := hP
          have hD : va_D A [(h0, .inr (10, vL 67 F565)), (h_tape, .inl (cB, 940, .inl f_tape)), (h_h, .inl (cI, 104, .inl f_h)), (h_names, .inl (cJ, 36, .inr (.inl g572))), (h_reserved, .inl (cJ, 23, .inr (.inl f_reserved)))] := hD
          refine W.widen (k := 0) (n := 0) (Nat.le_of_ble_eq_true rfl) (Nat.le_of_ble_eq_true rfl) ?_
          refine lv_if_ne (tgt := 159) hx hb dX10_line0_154 (by decide) (fun _ => ?_) (fun g => absurd g (by decide))
          refine lv_aload_n hx hb dX10_line0_159 rfl (lv_at hl 2 rfl) ?_
          refine lv_iconst (v := 1) hx hb dX10_line0_160 (by decide) ?_
          refine lv_bipush (v := 9) hx hb dX10_line0_161 (by decide) ?_
          have n603 : F565 1 = .ref h_tape := (SAME.at t573 (by decide) n556)
          have n604 : F565 3 = .int x_size := (SAME.at t573 (by decide) n557)
          have n605 : F565 5 = .int x_limit := (SAME.at t573 (by decide) n558)
          have n606 : F565 15 = .int x_fault := (SAME.at t573 (by decide) n562)
          have n607 : F565 16 = .int x_faultAt := (SAME.at t573 (by decide) n563)
          have n608 : F530 19 = .int x_got := (SAME.at t537 (by decide) e_got)
          have n609 : F565 19 = .int x_got := (SAME.at t573 (by decide) n608)
          refine call_Vi (wr := [(h_h, .inl (cI, 104, .inl f_h)), (h_names, .inl (cJ, 36, .inr (.inl g572))), (h_reserved, .inl (cJ, 23, .inr (.inl f_reserved)))]) (As := [.int 1, .int 9]) (rest := []) hx hb hml hown hw (m_X10_takes l D cI cJ cB cP cM cZ h0 h_tape F565 x_size y566 x_limit y567 y568 y570 x_fault x_faultAt y571 x_got f_tape 1 9 _ n603 n604 i_x_size t574 t575 n605 i_x_limit t576 t577 t578 t582 n606 n607 t583 n609 (by omega)) wV_X10_242_X10_takes dX10_line0_163 hK hP hD hS hA [0, 1] [2, 3, 4] rfl rfl (by decide) (by decide) (by decide) 0 10 rfl rfl GG.fb hG.at hl.1 rfl (Nat.le_of_ble_eq_true rfl) ⟨(Nat.le_of_ble_eq_true rfl), (Nat.le_of_ble_eq_true rfl)⟩ ⟨(Nat.le_of_ble_eq_true rfl), (Nat.le_of_ble_eq_true rfl)⟩ (fun r610 u H locs hp hP hD hS => ?_)
          have zl1 : (1 : Int32).toInt = 1 := by decide
          have zl9 : (9 : Int32).toInt = 9 := by decide
          rcases hp with hp | hp
          · obtain ⟨F611, y612, y613, t614, t615, t616, t617, t618, rfl, rfl⟩ := hp
            have hP : va_P D vwCl [(h_h, .inl (cI, 104, .inl f_h)), (h_names, .inl (cJ, 36, .inr (.inl g572))), (h_reserved, .inl (cJ, 23, .inr (.inl f_reserved))), (h0, .inr (10, vL 67 F611)), (h_tape, .inl (cB, 940, .inl f_tape))] H := hP
            have hD : va_D A [(h_h, .inl (cI, 104, .inl f_h)), (h_names, .inl (cJ, 36, .inr (.inl g572))), (h_reserved, .inl (cJ, 23, .inr (.inl f_reserved))), (h0, .inr (10, vL 67 F611)), (h_tape, .inl (cB, 940, .inl f_tape))] := hD
            refine W.widen (k := 0) (n := 0) (Nat.le_of_ble_eq_true rfl) (Nat.le_of_ble_eq_true rfl) ?_
            refine lv_if_ne (tgt := 171) hx hb dX10_line0_166 (by decide) (fun g => absurd (by decide) g) (fun _ => ?_)
            refine lv_iconst (v := 0) hx hb dX10_line0_169 (by decide) ?_
            exact ret_i (v := 0) hx hb hr hlocks hS (hP.sub (ws' := [(h0, .inr (10, vL 67 F611)), (h_tape, .inl (cB, 940, .inl f_tape)), (h_h, .inl (cI, 104, .inl f_h)), (h_names, .inl (cJ, 36, .inr (.inl g572))), (h_reserved, .inl (cJ, 23, .inr (.inl f_reserved)))]) [3, 4, 0, 1, 2] rfl) (hD.sub (ws' := [(h0, .inr (10, vL 67 F611)), (h_tape, .inl (cB, 940, .inl f_tape)), (h_h, .inl (cI, 104, .inl f_h)), (h_names, .inl (cJ, 36, .inr (.inl g572))), (h_reserved, .inl (cJ, 23, .inr (.inl f_reserved)))]) [3, 4, 0, 1, 2] (by decide) rfl) dX10_line0_170 rfl (Nat.le_of_ble_eq_true rfl) (Nat.le_of_ble_eq_true rfl) (Or.inl ⟨F611, y566, y567, y568, y569, y570, y612, y613, y571, x_got, x_onces, f_h, g572, (SAME.tr (SAME.tr (SAME.tr SAME.rf t537 (by decide)) t573 (by decide)) t614 (by decide)), (SAME.at t614 (by decide) t574), t575, (SAME.at t614 (by decide) t576), t577, (SAME.at t614 (by decide) t578), (SAME.at t614 (by decide) t580), (SAME.at t614 (by decide) t582), t615, (ir_wk t616 (by decide) (by decide)), t617, (SAME.at t614 (by decide) t583), (SAME.at t614 (by decide) n609), (SAME.at t614 (by decide) (SAME.at t573 (by decide) (SAME.at t537 (by decide) e_onces))), s_h_0, (SG.wk r528 (by decide) (by decide)), s_h_6, s_h_7, s_h_44, ((cLine_5 (tkM_1st (ISWF.t t9 (by omega)).1) (lnwM (ISWF.t t9 (by omega)).1 (ISWF.t t9 (by omega)).2)).trans (cMan_1 (show ¬ 12 ≤ (nmM f_names 18 (f_h 5).toInt).length by rw [nmM_len]; have hn : (f_h 5).toInt = v524.toInt := congrArg Int32.toInt ev524.symm; omega) (atM t550 (ISWF.t t9 (by omega)).1) t586 t618)), t591, (by omega), rfl, rfl⟩)
          · refine hp.elim (fun F619 h9z0 => h9z0.elim (fun y620 h9z1 => h9z1.elim (fun y621 h9z2 => h9z2.elim (fun y622 h9z3 => h9z3.elim (fun y623 h9z4 => h9z4.elim (fun y624 h9z5 => h9z5.elim (fun y625 h9z6 => h9z6.elim (fun y626 h9z7 => h9z7.elim (fun t627 h9z8 => h9z8.elim (fun t628 h9z9 => h9z9.elim (fun t629 h9z10 => h9z10.elim (fun t630 h9z11 => h9z11.elim (fun t631 h9z12 => h9z12.elim (fun t632 h9z13 => h9z13.elim (fun t633 h9z14 => h9z14.elim (fun t634 h9z15 => h9z15.elim (fun t635 h9z16 => h9z16.elim (fun t636 h9z17 => h9z17.elim (fun t637 h9z18 => h9z18.elim (fun t638 h9z19 => h9z19.elim (fun t639 h9z20 => h9z20.elim (fun t640 h9z21 => h9z21.elim (fun t641 h9z22 => h9z22.elim (fun t642 h9z23 => h9z23.elim (fun t643 h9z24 => h9z24.elim (fun t644 h9z25 => h9z25.elim (fun t645 h9z26 => h9z26.elim (fun t646 h9z27 => h9z27.elim (fun t647 h9z28 => h9z28.elim (fun t648 h9z29 => h9z29.elim (fun heq930 h9z30 => ?_)))))))))))))))))))))))))))))))
            clear h9z0 h9z1 h9z2 h9z3 h9z4 h9z5 h9z6 h9z7 h9z8 h9z9 h9z10 h9z11 h9z12 h9z13 h9z14 h9z15 h9z16 h9z17 h9z18 h9z19 h9z20 h9z21 h9z22 h9z23 h9z24 h9z25 h9z26 h9z27 h9z28 h9z29
            subst heq930
            subst h9z30
            clear t585 t592
            have hP : va_P D vwCl [(h_h, .inl (cI, 104, .inl f_h)), (h_names, .inl (cJ, 36, .inr (.inl g572))), (h_reserved, .inl (cJ, 23, .inr (.inl f_reserved))), (h0, .inr (10, vL 67 F619)), (h_tape, .inl (cB, 940, .inl f_tape))] H := hP
            have hD : va_D A [(h_h, .inl (cI, 104, .inl f_h)), (h_names, .inl (cJ, 36, .inr (.inl g572))), (h_reserved, .inl (cJ, 23, .inr (.inl f_reserved))), (h0, .inr (10, vL 67 F619)), (h_tape, .inl (cB, 940, .inl f_tape))] := hD
            refine W.widen (k := 0) (n := 0) (Nat.le_of_ble_eq_true rfl) (Nat.le_of_ble_eq_true rfl) ?_
            have k650 : 2 ≤ y567.toInt ∧ y567.toInt ≤ 2 := ⟨Int.le_trans (Int.le_refl _) (Int.le_of_eq t639.symm), Int.le_trans (Int.le_of_eq t639) (Int.le_refl _)⟩
            have k651 : 1 ≤ y570.toInt ∧ y570.toInt ≤ 2147483647 := ⟨Int.le_trans (Int.le_refl _) t640, (ir_any _).2⟩
            have k652 : 1 ≤ y570.toInt ∧ y570.toInt ≤ 9 := ⟨k651.1, Int.le_trans t641 (Int.le_refl _)⟩
            refine lv_if_ne (tgt := 171) hx hb dX10_line0_166 (by decide) (fun _ => ?_) (fun g => absurd g (by decide))
            refine lv_aload_n hx hb dX10_line0_171 rfl (lv_at hl 2 rfl) ?_
            have n653 : F565 7 = .ref h_h := (SAME.at t573 (by decide) n559)
            have n654 : F619 7 = .ref h_h := (SAME.at t627 (by decide) n653)
            refine get_f (D := D) (ci := 10) (v := .ref h_h) (C := RX10) (T := TX10) (N := 67) hx hb hw inAX10 hown hK hP 3 rfl rfl 7 (by decide) (hw _ q_1268) (fun _ h9 => h9) n654 dX10_line0_172 ?_
            refine lv_bipush (v := 8) hx hb dX10_line0_175 (by decide) ?_
            refine lv_iload_n hx hb dX10_line0_177 rfl (lv_at hl 0 rfl) ?_
            refine lv_iadd hx hb dX10_line0_178 ?_
            refine lv_topi (fun v655 ev655 => ?_)
            have bv655 : v655.toInt = 8 + v524.toInt := by rw [ev655]; exact add_k rfl rfl ⟨Int.le_refl _, Int.le_refl _⟩ k527 (by decide)
            have k656 : 8 ≤ v655.toInt ∧ v655.toInt ≤ 19 := add_r bv655 ⟨Int.le_refl _, Int.le_refl _⟩ k527 (by decide)
            refine lv_aload_n hx hb dX10_line0_179 rfl (lv_at hl 2 rfl) ?_
            refine get_f (D := D) (ci := 10) (v := .int y626) (C := RX10) (T := TX10) (N := 67) hx hb hw inAX10 hown hK hP 3 rfl rfl 19 (by decide) (hw _ q_1280) (fun _ h9 => h9) t638 dX10_line0_180 ?_
            obtain ⟨g657, eg657⟩ : ∃ z : Nat → Int32, upd f_h v655.toNatClampNeg y626 = z := ⟨_, rfl⟩
            have r658 : SG 0 0 0 40 g657 := by rw [← eg657]; exact s_h_0.up (Int.le_trans (by decide) k656.1) (Or.inr (Or.inl (dec_lt k656.1 (by decide))))
            have r659 : SG 44 55 0 9 g657 := by rw [← eg657]; exact s_h_44.up (Int.le_trans (by decide) k656.1) (Or.inl (lt_dec k656.2 (by decide)))
            have r660 : SG 5 5 0 11 g657 := by rw [← eg657]; exact r528.up (Int.le_trans (by decide) k656.1) (Or.inr (Or.inl (dec_lt k656.1 (by decide))))
            have r661 : SG 6 6 0 12 g657 := by rw [← eg657]; exact s_h_6.up (Int.le_trans (by decide) k656.1) (Or.inr (Or.inl (dec_lt k656.1 (by decide))))
            have r662 : SG 7 7 0 6 g657 := by rw [← eg657]; exact s_h_7.up (Int.le_trans (by decide) k656.1) (Or.inr (Or.inl (dec_lt k656.1 (by decide))))
            refine iast_g hx hb hK hP hD hS 0 0 rfl rfl (ix_k k656 (by decide) (by decide)) eg657 dX10_line0_183 (fun H locs hP hD hS => ?_)
            have hP : va_P D vwCl [(h_h, .inl (cI, 104, .inl g657)), (h_names, .inl (cJ, 36, .inr (.inl g572))), (h_reserved, .inl (cJ, 23, .inr (.inl f_reserved))), (h0, .inr (10, vL 67 F619)), (h_tape, .inl (cB, 940, .inl f_tape))] H := hP
            have hD : va_D A [(h_h, .inl (cI, 104, .inl g657)), (h_names, .inl (cJ, 36, .inr (.inl g572))), (h_reserved, .inl (cJ, 23, .inr (.inl f_reserved))), (h0, .inr (10, vL 67 F619)), (h_tape, .inl (cB, 940, .inl f_tape))] := hD
            refine lv_aload_n hx hb dX10_line0_184 rfl (lv_at hl 2 rfl) ?_
            refine lv_iconst (v := 1) hx hb dX10_line0_185 (by decide) ?_
            refine lv_bipush (v := 9) hx hb dX10_line0_186 (by decide) ?_
            have n663 : F619 1 = .ref h_tape := (SAME.at t627 (by decide) n603)
            have n664 : F619 3 = .int x_size := (SAME.at t627 (by decide) n604)
            have n665 : F619 5 = .int x_limit := (SAME.at t627 (by decide) n605)
            have n666 : F619 15 = .int x_fault := (SAME.at t627 (by decide) n606)
            have n667 : F619 16 = .int x_faultAt := (SAME.at t627 (by decide) n607)
            refine call_Vi (wr := [(h_h, .inl (cI, 104, .inl g657)), (h_names, .inl (cJ, 36, .inr (.inl g572))), (h_reserved, .inl (cJ, 23, .inr (.inl f_reserved)))]) (As := [.int 1, .int 9]) (rest := []) hx hb hml hown hw (m_X10_takes l D cI cJ cB cP cM cZ h0 h_tape F619 x_size y620 x_limit y621 y622 y624 x_fault x_faultAt y625 y626 f_tape 1 9 _ n663 n664 i_x_size t628 t629 n665 i_x_limit t630 t631 t632 t636 n666 n667 t637 t638 (by omega)) wV_X10_242_X10_takes dX10_line0_188 hK hP hD hS hA [3, 4] [0, 1, 2] rfl rfl (by decide) (by decide) (by decide) 0 10 rfl rfl GG.fb hG.at hl.1 rfl (Nat.le_of_ble_eq_true rfl) ⟨(Nat.le_of_ble_eq_true rfl), (Nat.le_of_ble_eq_true rfl)⟩ ⟨(Nat.le_of_ble_eq_true rfl), (Nat.le_of_ble_eq_true rfl)⟩ (fun r668 u H locs hp hP hD hS => ?_)
            rcases hp with hp | hp
            · obtain ⟨F669, y670, y671, t672, t673, t674, t675, t676, rfl, rfl⟩ := hp
              have hP : va_P D vwCl [(h_h, .inl (cI, 104, .inl g657)), (h_names, .inl (cJ, 36, .inr (.inl g572))), (h_reserved, .inl (cJ, 23, .inr (.inl f_reserved))), (h0, .inr (10, vL 67 F669)), (h_tape, .inl (cB, 940, .inl f_tape))] H := hP
              have hD : va_D A [(h_h, .inl (cI, 104, .inl g657)), (h_names, .inl (cJ, 36, .inr (.inl g572))), (h_reserved, .inl (cJ, 23, .inr (.inl f_reserved))), (h0, .inr (10, vL 67 F669)), (h_tape, .inl (cB, 940, .inl f_tape))] := hD
              refine W.widen (k := 0) (n := 0) (Nat.le_of_ble_eq_true rfl) (Nat.le_of_ble_eq_true rfl) ?_
              refine lv_if_ne (tgt := 196) hx hb dX10_line0_191 (by decide) (fun g => absurd (by decide) g) (fun _ => ?_)
              refine lv_iconst (v := 0) hx hb dX10_line0_194 (by decide) ?_
              exact ret_i (v := 0) hx hb hr hlocks hS (hP.sub (ws' := [(h0, .inr (10, vL 67 F669)), (h_tape, .inl (cB, 940, .inl f_tape)), (h_h, .inl (cI, 104, .inl g657)), (h_names, .inl (cJ, 36, .inr (.inl g572))), (h_reserved, .inl (cJ, 23, .inr (.inl f_reserved)))]) [3, 4, 0, 1, 2] rfl) (hD.sub (ws' := [(h0, .inr (10, vL 67 F669)), (h_tape, .inl (cB, 940, .inl f_tape)), (h_h, .inl (cI, 104, .inl g657)), (h_names, .inl (cJ, 36, .inr (.inl g572))), (h_reserved, .inl (cJ, 23, .inr (.inl f_reserved)))]) [3, 4, 0, 1, 2] (by decide) rfl) dX10_line0_195 rfl (Nat.le_of_ble_eq_true rfl) (Nat.le_of_ble_eq_true rfl) (Or.inl ⟨F669, y620, y621, y622, y623, y624, y670, y671, y625, y626, x_onces, g657, g572, (SAME.tr (SAME.tr (SAME.tr (SAME.tr SAME.rf t537 (by decide)) t573 (by decide)) t627 (by decide)) t672 (by decide)), (SAME.at t672 (by decide) t628), t629, (SAME.at t672 (by decide) t630), t631, (SAME.at t672 (by decide) t632), (SAME.at t672 (by decide) t634), (SAME.at t672 (by decide) t636), t673, (ir_wk t674 (by decide) (by decide)), t675, (SAME.at t672 (by decide) t637), (SAME.at t672 (by decide) t638), (SAME.at t672 (by decide) (SAME.at t627 (by decide) (SAME.at t573 (by decide) (SAME.at t537 (by decide) e_onces)))), r658, (SG.wk r660 (by decide) (by decide)), r661, r662, r659, ((cLine_5 (tkM_1st (ISWF.t t9 (by omega)).1) (lnwM (ISWF.t t9 (by omega)).1 (ISWF.t t9 (by omega)).2)).trans (cMan_2 (show ¬ 12 ≤ (nmM f_names 18 (f_h 5).toInt).length by rw [nmM_len]; have hn : (f_h 5).toInt = v524.toInt := congrArg Int32.toInt ev524.symm; omega) (atM t550 (ISWF.t t9 (by omega)).1) t586 t645 t676)), t591, (by omega), rfl, rfl⟩)
            · refine hp.elim (fun F677 h9z0 => h9z0.elim (fun y678 h9z1 => h9z1.elim (fun y679 h9z2 => h9z2.elim (fun y680 h9z3 => h9z3.elim (fun y681 h9z4 => h9z4.elim (fun y682 h9z5 => h9z5.elim (fun y683 h9z6 => h9z6.elim (fun y684 h9z7 => h9z7.elim (fun t685 h9z8 => h9z8.elim (fun t686 h9z9 => h9z9.elim (fun t687 h9z10 => h9z10.elim (fun t688 h9z11 => h9z11.elim (fun t689 h9z12 => h9z12.elim (fun t690 h9z13 => h9z13.elim (fun t691 h9z14 => h9z14.elim (fun t692 h9z15 => h9z15.elim (fun t693 h9z16 => h9z16.elim (fun t694 h9z17 => h9z17.elim (fun t695 h9z18 => h9z18.elim (fun t696 h9z19 => h9z19.elim (fun t697 h9z20 => h9z20.elim (fun t698 h9z21 => h9z21.elim (fun t699 h9z22 => h9z22.elim (fun t700 h9z23 => h9z23.elim (fun t701 h9z24 => h9z24.elim (fun t702 h9z25 => h9z25.elim (fun t703 h9z26 => h9z26.elim (fun t704 h9z27 => h9z27.elim (fun t705 h9z28 => h9z28.elim (fun t706 h9z29 => h9z29.elim (fun heq930 h9z30 => ?_)))))))))))))))))))))))))))))))
              clear h9z0 h9z1 h9z2 h9z3 h9z4 h9z5 h9z6 h9z7 h9z8 h9z9 h9z10 h9z11 h9z12 h9z13 h9z14 h9z15 h9z16 h9z17 h9z18 h9z19 h9z20 h9z21 h9z22 h9z23 h9z24 h9z25 h9z26 h9z27 h9z28 h9z29
              subst heq930
              subst h9z30
              clear t644 t648
              have hP : va_P D vwCl [(h_h, .inl (cI, 104, .inl g657)), (h_names, .inl (cJ, 36, .inr (.inl g572))), (h_reserved, .inl (cJ, 23, .inr (.inl f_reserved))), (h0, .inr (10, vL 67 F677)), (h_tape, .inl (cB, 940, .inl f_tape))] H := hP
              have hD : va_D A [(h_h, .inl (cI, 104, .inl g657)), (h_names, .inl (cJ, 36, .inr (.inl g572))), (h_reserved, .inl (cJ, 23, .inr (.inl f_reserved))), (h0, .inr (10, vL 67 F677)), (h_tape, .inl (cB, 940, .inl f_tape))] := hD
              refine W.widen (k := 0) (n := 0) (Nat.le_of_ble_eq_true rfl) (Nat.le_of_ble_eq_true rfl) ?_
              have k708 : 2 ≤ y621.toInt ∧ y621.toInt ≤ 2 := ⟨Int.le_trans (Int.le_refl _) (Int.le_of_eq t697.symm), Int.le_trans (Int.le_of_eq t697) (Int.le_refl _)⟩
              have k709 : 1 ≤ y624.toInt ∧ y624.toInt ≤ 2147483647 := ⟨Int.le_trans (Int.le_refl _) t698, (ir_any _).2⟩
              have k710 : 1 ≤ y624.toInt ∧ y624.toInt ≤ 9 := ⟨k709.1, Int.le_trans t699 (Int.le_refl _)⟩
              refine lv_if_ne (tgt := 196) hx hb dX10_line0_191 (by decide) (fun _ => ?_) (fun g => absurd g (by decide))
              refine lv_aload_n hx hb dX10_line0_196 rfl (lv_at hl 2 rfl) ?_
              have n711 : F677 7 = .ref h_h := (SAME.at t685 (by decide) n654)
              refine get_f (D := D) (ci := 10) (v := .ref h_h) (C := RX10) (T := TX10) (N := 67) hx hb hw inAX10 hown hK hP 3 rfl rfl 7 (by decide) (hw _ q_1268) (fun _ h9 => h9) n711 dX10_line0_197 ?_
              refine lv_bipush (v := 20) hx hb dX10_line0_200 (by decide) ?_
              refine lv_iload_n hx hb dX10_line0_202 rfl (lv_at hl 0 rfl) ?_
              refine lv_iadd hx hb dX10_line0_203 ?_
              refine lv_topi (fun v712 ev712 => ?_)
              have bv712 : v712.toInt = 20 + v524.toInt := by rw [ev712]; exact add_k rfl rfl ⟨Int.le_refl _, Int.le_refl _⟩ k527 (by decide)
              have k713 : 20 ≤ v712.toInt ∧ v712.toInt ≤ 31 := add_r bv712 ⟨Int.le_refl _, Int.le_refl _⟩ k527 (by decide)
              refine lv_aload_n hx hb dX10_line0_204 rfl (lv_at hl 2 rfl) ?_
              refine get_f (D := D) (ci := 10) (v := .int y684) (C := RX10) (T := TX10) (N := 67) hx hb hw inAX10 hown hK hP 3 rfl rfl 19 (by decide) (hw _ q_1280) (fun _ h9 => h9) t696 dX10_line0_205 ?_
              obtain ⟨g714, eg714⟩ : ∃ z : Nat → Int32, upd g657 v712.toNatClampNeg y684 = z := ⟨_, rfl⟩
              have r715 : SG 0 0 0 40 g714 := by rw [← eg714]; exact r658.up (Int.le_trans (by decide) k713.1) (Or.inr (Or.inl (dec_lt k713.1 (by decide))))
              have r716 : SG 44 55 0 9 g714 := by rw [← eg714]; exact r659.up (Int.le_trans (by decide) k713.1) (Or.inl (lt_dec k713.2 (by decide)))
              have r717 : SG 5 5 0 11 g714 := by rw [← eg714]; exact r660.up (Int.le_trans (by decide) k713.1) (Or.inr (Or.inl (dec_lt k713.1 (by decide))))
              have r718 : SG 6 6 0 12 g714 := by rw [← eg714]; exact r661.up (Int.le_trans (by decide) k713.1) (Or.inr (Or.inl (dec_lt k713.1 (by decide))))
              have r719 : SG 7 7 0 6 g714 := by rw [← eg714]; exact r662.up (Int.le_trans (by decide) k713.1) (Or.inr (Or.inl (dec_lt k713.1 (by decide))))
              refine iast_g hx hb hK hP hD hS 0 0 rfl rfl (ix_k k713 (by decide) (by decide)) eg714 dX10_line0_208 (fun H locs hP hD hS => ?_)
              have hP : va_P D vwCl [(h_h, .inl (cI, 104, .inl g714)), (h_names, .inl (cJ, 36, .inr (.inl g572))), (h_reserved, .inl (cJ, 23, .inr (.inl f_reserved))), (h0, .inr (10, vL 67 F677)), (h_tape, .inl (cB, 940, .inl f_tape))] H := hP
              have hD : va_D A [(h_h, .inl (cI, 104, .inl g714)), (h_names, .inl (cJ, 36, .inr (.inl g572))), (h_reserved, .inl (cJ, 23, .inr (.inl f_reserved))), (h0, .inr (10, vL 67 F677)), (h_tape, .inl (cB, 940, .inl f_tape))] := hD
              refine lv_aload_n hx hb dX10_line0_209 rfl (lv_at hl 2 rfl) ?_
              refine lv_bipush (v := 50) hx hb dX10_line0_210 (by decide) ?_
              refine lv_sipush (v := 150) hx hb dX10_line0_212 (by decide) ?_
              have n720 : F677 1 = .ref h_tape := (SAME.at t685 (by decide) n663)
              have n721 : F677 3 = .int x_size := (SAME.at t685 (by decide) n664)
              have n722 : F677 5 = .int x_limit := (SAME.at t685 (by decide) n665)
              have n723 : F677 15 = .int x_fault := (SAME.at t685 (by decide) n666)
              have n724 : F677 16 = .int x_faultAt := (SAME.at t685 (by decide) n667)
              refine call_Vi (wr := [(h_h, .inl (cI, 104, .inl g714)), (h_names, .inl (cJ, 36, .inr (.inl g572))), (h_reserved, .inl (cJ, 23, .inr (.inl f_reserved)))]) (As := [.int 50, .int 150]) (rest := []) hx hb hml hown hw (m_X10_takes l D cI cJ cB cP cM cZ h0 h_tape F677 x_size y678 x_limit y679 y680 y682 x_fault x_faultAt y683 y684 f_tape 50 150 _ n720 n721 i_x_size t686 t687 n722 i_x_limit t688 t689 t690 t694 n723 n724 t695 t696 (by omega)) wV_X10_242_X10_takes dX10_line0_215 hK hP hD hS hA [3, 4] [0, 1, 2] rfl rfl (by decide) (by decide) (by decide) 0 10 rfl rfl GG.fb hG.at hl.1 rfl (Nat.le_of_ble_eq_true rfl) ⟨(Nat.le_of_ble_eq_true rfl), (Nat.le_of_ble_eq_true rfl)⟩ ⟨(Nat.le_of_ble_eq_true rfl), (Nat.le_of_ble_eq_true rfl)⟩ (fun r725 u H locs hp hP hD hS => ?_)
              have zl50 : (50 : Int32).toInt = 50 := by decide
              have zl150 : (150 : Int32).toInt = 150 := by decide
              rcases hp with hp | hp
              · obtain ⟨F726, y727, y728, t729, t730, t731, t732, t733, rfl, rfl⟩ := hp
                have hP : va_P D vwCl [(h_h, .inl (cI, 104, .inl g714)), (h_names, .inl (cJ, 36, .inr (.inl g572))), (h_reserved, .inl (cJ, 23, .inr (.inl f_reserved))), (h0, .inr (10, vL 67 F726)), (h_tape, .inl (cB, 940, .inl f_tape))] H := hP
                have hD : va_D A [(h_h, .inl (cI, 104, .inl g714)), (h_names, .inl (cJ, 36, .inr (.inl g572))), (h_reserved, .inl (cJ, 23, .inr (.inl f_reserved))), (h0, .inr (10, vL 67 F726)), (h_tape, .inl (cB, 940, .inl f_tape))] := hD
                refine W.widen (k := 0) (n := 0) (Nat.le_of_ble_eq_true rfl) (Nat.le_of_ble_eq_true rfl) ?_
                refine lv_if_ne (tgt := 223) hx hb dX10_line0_218 (by decide) (fun g => absurd (by decide) g) (fun _ => ?_)
                refine lv_iconst (v := 0) hx hb dX10_line0_221 (by decide) ?_
                exact ret_i (v := 0) hx hb hr hlocks hS (hP.sub (ws' := [(h0, .inr (10, vL 67 F726)), (h_tape, .inl (cB, 940, .inl f_tape)), (h_h, .inl (cI, 104, .inl g714)), (h_names, .inl (cJ, 36, .inr (.inl g572))), (h_reserved, .inl (cJ, 23, .inr (.inl f_reserved)))]) [3, 4, 0, 1, 2] rfl) (hD.sub (ws' := [(h0, .inr (10, vL 67 F726)), (h_tape, .inl (cB, 940, .inl f_tape)), (h_h, .inl (cI, 104, .inl g714)), (h_names, .inl (cJ, 36, .inr (.inl g572))), (h_reserved, .inl (cJ, 23, .inr (.inl f_reserved)))]) [3, 4, 0, 1, 2] (by decide) rfl) dX10_line0_222 rfl (Nat.le_of_ble_eq_true rfl) (Nat.le_of_ble_eq_true rfl) (Or.inl ⟨F726, y678, y679, y680, y681, y682, y727, y728, y683, y684, x_onces, g714, g572, (SAME.tr (SAME.tr (SAME.tr (SAME.tr (SAME.tr SAME.rf t537 (by decide)) t573 (by decide)) t627 (by decide)) t685 (by decide)) t729 (by decide)), (SAME.at t729 (by decide) t686), t687, (SAME.at t729 (by decide) t688), t689, (SAME.at t729 (by decide) t690), (SAME.at t729 (by decide) t692), (SAME.at t729 (by decide) t694), t730, (ir_wk t731 (by decide) (by decide)), t732, (SAME.at t729 (by decide) t695), (SAME.at t729 (by decide) t696), (SAME.at t729 (by decide) (SAME.at t685 (by decide) (SAME.at t627 (by decide) (SAME.at t573 (by decide) (SAME.at t537 (by decide) e_onces))))), r715, (SG.wk r717 (by decide) (by decide)), r718, r719, r716, ((cLine_5 (tkM_1st (ISWF.t t9 (by omega)).1) (lnwM (ISWF.t t9 (by omega)).1 (ISWF.t t9 (by omega)).2)).trans (cMan_3 (show ¬ 12 ≤ (nmM f_names 18 (f_h 5).toInt).length by rw [nmM_len]; have hn : (f_h 5).toInt = v524.toInt := congrArg Int32.toInt ev524.symm; omega) (atM t550 (ISWF.t t9 (by omega)).1) t586 t645 t703 t733)), t591, (by omega), rfl, rfl⟩)
              · refine hp.elim (fun F734 h9z0 => h9z0.elim (fun y735 h9z1 => h9z1.elim (fun y736 h9z2 => h9z2.elim (fun y737 h9z3 => h9z3.elim (fun y738 h9z4 => h9z4.elim (fun y739 h9z5 => h9z5.elim (fun y740 h9z6 => h9z6.elim (fun y741 h9z7 => h9z7.elim (fun t742 h9z8 => h9z8.elim (fun t743 h9z9 => h9z9.elim (fun t744 h9z10 => h9z10.elim (fun t745 h9z11 => h9z11.elim (fun t746 h9z12 => h9z12.elim (fun t747 h9z13 => h9z13.elim (fun t748 h9z14 => h9z14.elim (fun t749 h9z15 => h9z15.elim (fun t750 h9z16 => h9z16.elim (fun t751 h9z17 => h9z17.elim (fun t752 h9z18 => h9z18.elim (fun t753 h9z19 => h9z19.elim (fun t754 h9z20 => h9z20.elim (fun t755 h9z21 => h9z21.elim (fun t756 h9z22 => h9z22.elim (fun t757 h9z23 => h9z23.elim (fun t758 h9z24 => h9z24.elim (fun t759 h9z25 => h9z25.elim (fun t760 h9z26 => h9z26.elim (fun t761 h9z27 => h9z27.elim (fun t762 h9z28 => h9z28.elim (fun t763 h9z29 => h9z29.elim (fun heq930 h9z30 => ?_)))))))))))))))))))))))))))))))
                clear h9z0 h9z1 h9z2 h9z3 h9z4 h9z5 h9z6 h9z7 h9z8 h9z9 h9z10 h9z11 h9z12 h9z13 h9z14 h9z15 h9z16 h9z17 h9z18 h9z19 h9z20 h9z21 h9z22 h9z23 h9z24 h9z25 h9z26 h9z27 h9z28 h9z29
                subst heq930
                subst h9z30
                clear t702 t706
                have hP : va_P D vwCl [(h_h, .inl (cI, 104, .inl g714)), (h_names, .inl (cJ, 36, .inr (.inl g572))), (h_reserved, .inl (cJ, 23, .inr (.inl f_reserved))), (h0, .inr (10, vL 67 F734)), (h_tape, .inl (cB, 940, .inl f_tape))] H := hP
                have hD : va_D A [(h_h, .inl (cI, 104, .inl g714)), (h_names, .inl (cJ, 36, .inr (.inl g572))), (h_reserved, .inl (cJ, 23, .inr (.inl f_reserved))), (h0, .inr (10, vL 67 F734)), (h_tape, .inl (cB, 940, .inl f_tape))] := hD
                refine W.widen (k := 0) (n := 0) (Nat.le_of_ble_eq_true rfl) (Nat.le_of_ble_eq_true rfl) ?_
                have k765 : 2 ≤ y679.toInt ∧ y679.toInt ≤ 2 := ⟨Int.le_trans (Int.le_refl _) (Int.le_of_eq t754.symm), Int.le_trans (Int.le_of_eq t754) (Int.le_refl _)⟩
                have k766 : 50 ≤ y682.toInt ∧ y682.toInt ≤ 2147483647 := ⟨Int.le_trans (Int.le_refl _) t755, (ir_any _).2⟩
                have k767 : 50 ≤ y682.toInt ∧ y682.toInt ≤ 150 := ⟨k766.1, Int.le_trans t756 (Int.le_refl _)⟩
                refine lv_if_ne (tgt := 223) hx hb dX10_line0_218 (by decide) (fun _ => ?_) (fun g => absurd g (by decide))
                refine lv_aload_n hx hb dX10_line0_223 rfl (lv_at hl 2 rfl) ?_
                have n768 : F734 7 = .ref h_h := (SAME.at t742 (by decide) n711)
                refine get_f (D := D) (ci := 10) (v := .ref h_h) (C := RX10) (T := TX10) (N := 67) hx hb hw inAX10 hown hK hP 3 rfl rfl 7 (by decide) (hw _ q_1268) (fun _ h9 => h9) n768 dX10_line0_224 ?_
                refine lv_bipush (v := 32) hx hb dX10_line0_227 (by decide) ?_
                refine lv_iload_n hx hb dX10_line0_229 rfl (lv_at hl 0 rfl) ?_
                refine lv_iadd hx hb dX10_line0_230 ?_
                refine lv_topi (fun v769 ev769 => ?_)
                have bv769 : v769.toInt = 32 + v524.toInt := by rw [ev769]; exact add_k rfl rfl ⟨Int.le_refl _, Int.le_refl _⟩ k527 (by decide)
                have k770 : 32 ≤ v769.toInt ∧ v769.toInt ≤ 43 := add_r bv769 ⟨Int.le_refl _, Int.le_refl _⟩ k527 (by decide)
                refine lv_aload_n hx hb dX10_line0_231 rfl (lv_at hl 2 rfl) ?_
                refine get_f (D := D) (ci := 10) (v := .int y741) (C := RX10) (T := TX10) (N := 67) hx hb hw inAX10 hown hK hP 3 rfl rfl 19 (by decide) (hw _ q_1280) (fun _ h9 => h9) t753 dX10_line0_232 ?_
                obtain ⟨g771, eg771⟩ : ∃ z : Nat → Int32, upd g714 v769.toNatClampNeg y741 = z := ⟨_, rfl⟩
                have r772 : SG 0 0 0 40 g771 := by rw [← eg771]; exact r715.up (Int.le_trans (by decide) k770.1) (Or.inr (Or.inl (dec_lt k770.1 (by decide))))
                have r773 : SG 44 55 0 9 g771 := by rw [← eg771]; exact r716.up (Int.le_trans (by decide) k770.1) (Or.inl (lt_dec k770.2 (by decide)))
                have r774 : SG 5 5 0 11 g771 := by rw [← eg771]; exact r717.up (Int.le_trans (by decide) k770.1) (Or.inr (Or.inl (dec_lt k770.1 (by decide))))
                have r775 : SG 6 6 0 12 g771 := by rw [← eg771]; exact r718.up (Int.le_trans (by decide) k770.1) (Or.inr (Or.inl (dec_lt k770.1 (by decide))))
                have r776 : SG 7 7 0 6 g771 := by rw [← eg771]; exact r719.up (Int.le_trans (by decide) k770.1) (Or.inr (Or.inl (dec_lt k770.1 (by decide))))
                refine iast_g hx hb hK hP hD hS 0 0 rfl rfl (ix_k k770 (by decide) (by decide)) eg771 dX10_line0_235 (fun H locs hP hD hS => ?_)
                have hP : va_P D vwCl [(h_h, .inl (cI, 104, .inl g771)), (h_names, .inl (cJ, 36, .inr (.inl g572))), (h_reserved, .inl (cJ, 23, .inr (.inl f_reserved))), (h0, .inr (10, vL 67 F734)), (h_tape, .inl (cB, 940, .inl f_tape))] H := hP
                have hD : va_D A [(h_h, .inl (cI, 104, .inl g771)), (h_names, .inl (cJ, 36, .inr (.inl g572))), (h_reserved, .inl (cJ, 23, .inr (.inl f_reserved))), (h0, .inr (10, vL 67 F734)), (h_tape, .inl (cB, 940, .inl f_tape))] := hD
                refine lv_aload_n hx hb dX10_line0_236 rfl (lv_at hl 2 rfl) ?_
                refine get_f (D := D) (ci := 10) (v := .ref h_h) (C := RX10) (T := TX10) (N := 67) hx hb hw inAX10 hown hK hP 3 rfl rfl 7 (by decide) (hw _ q_1268) (fun _ h9 => h9) n768 dX10_line0_237 ?_
                refine lv_iconst (v := 5) hx hb dX10_line0_240 (by decide) ?_
                refine lv_dup2_11 hx hb dX10_line0_241 rfl rfl ?_
                refine iald_n hx hb hK hP 0 0 rfl rfl 5 rfl (Nat.le_of_ble_eq_true rfl) (Nat.le_of_ble_eq_true rfl) rfl dX10_line0_242 ?_
                refine lv_topi (fun v777 ev777 => ?_)
                have k778 : 0 ≤ v777.toInt ∧ v777.toInt ≤ 11 := by rw [ev777]; exact r774.atN 5 (by decide) (by decide)
                refine lv_iconst (v := 1) hx hb dX10_line0_243 (by decide) ?_
                refine lv_iadd hx hb dX10_line0_244 ?_
                refine lv_topi (fun v779 ev779 => ?_)
                have bv779 : v779.toInt = v777.toInt + 1 := by rw [ev779]; exact add_k rfl rfl k778 ⟨Int.le_refl _, Int.le_refl _⟩ (by decide)
                have k780 : 1 ≤ v779.toInt ∧ v779.toInt ≤ 12 := add_r bv779 k778 ⟨Int.le_refl _, Int.le_refl _⟩ (by decide)
                obtain ⟨g781, eg781⟩ : ∃ z : Nat → Int32, upd g771 5 v779 = z := ⟨_, rfl⟩
                have r782 : SG 0 0 0 40 g781 := by rw [← eg781]; exact r772.upN (Or.inr (Or.inl (by decide)))
                have r783 : SG 44 55 0 9 g781 := by rw [← eg781]; exact r773.upN (Or.inl (by decide))
                have r784 : SG 6 6 0 12 g781 := by rw [← eg781]; exact r775.upN (Or.inl (by decide))
                have r785 : SG 7 7 0 6 g781 := by rw [← eg781]; exact r776.upN (Or.inl (by decide))
                have r786 : SG 5 5 0 12 g781 := by rw [← eg781]; exact SG.new1 (ir_wk k780 (by decide) (by decide))
                refine iast_n hx hb hK hP hD hS 0 0 rfl rfl 5 rfl (Nat.le_of_ble_eq_true rfl) (Nat.le_of_ble_eq_true rfl) eg781 dX10_line0_245 (fun H locs hP hD hS => ?_)
                have hP : va_P D vwCl [(h_h, .inl (cI, 104, .inl g781)), (h_names, .inl (cJ, 36, .inr (.inl g572))), (h_reserved, .inl (cJ, 23, .inr (.inl f_reserved))), (h0, .inr (10, vL 67 F734)), (h_tape, .inl (cB, 940, .inl f_tape))] H := hP
                have hD : va_D A [(h_h, .inl (cI, 104, .inl g781)), (h_names, .inl (cJ, 36, .inr (.inl g572))), (h_reserved, .inl (cJ, 23, .inr (.inl f_reserved))), (h0, .inr (10, vL 67 F734)), (h_tape, .inl (cB, 940, .inl f_tape))] := hD
                refine lv_iconst (v := 1) hx hb dX10_line0_246 (by decide) ?_
                exact ret_i (v := 1) hx hb hr hlocks hS (hP.sub (ws' := [(h0, .inr (10, vL 67 F734)), (h_tape, .inl (cB, 940, .inl f_tape)), (h_h, .inl (cI, 104, .inl g781)), (h_names, .inl (cJ, 36, .inr (.inl g572))), (h_reserved, .inl (cJ, 23, .inr (.inl f_reserved)))]) [3, 4, 0, 1, 2] rfl) (hD.sub (ws' := [(h0, .inr (10, vL 67 F734)), (h_tape, .inl (cB, 940, .inl f_tape)), (h_h, .inl (cI, 104, .inl g781)), (h_names, .inl (cJ, 36, .inr (.inl g572))), (h_reserved, .inl (cJ, 23, .inr (.inl f_reserved)))]) [3, 4, 0, 1, 2] (by decide) rfl) dX10_line0_247 rfl (Nat.le_of_ble_eq_true rfl) (Nat.le_of_ble_eq_true rfl) (Or.inr ⟨F734, y735, y736, y737, y738, y739, y740, y741, x_onces, g781, g572, (SAME.tr (SAME.tr (SAME.tr (SAME.tr (SAME.tr SAME.rf t537 (by decide)) t573 (by decide)) t627 (by decide)) t685 (by decide)) t742 (by decide)), t743, t744, t745, t746, t747, t748, t749, t750, t751, t752, t753, (SAME.at t742 (by decide) (SAME.at t685 (by decide) (SAME.at t627 (by decide) (SAME.at t573 (by decide) (SAME.at t537 (by decide) e_onces))))), r782, r786, r784, r785, r783, (by have zl1 : (1 : Int32).toInt = 1 := (by decide); omega), (by have zl1 : (1 : Int32).toInt = 1 := (by decide); omega), ((cLine_5 (tkM_1st (ISWF.t t9 (by omega)).1) (lnwM (ISWF.t t9 (by omega)).1 (ISWF.t t9 (by omega)).2)).trans (fin_r (cMan_o (show ¬ 12 ≤ (nmM f_names 18 (f_h 5).toInt).length by rw [nmM_len]; have hn : (f_h 5).toInt = v524.toInt := congrArg Int32.toInt ev524.symm; omega) (atM t550 (ISWF.t t9 (by omega)).1) t586 t645 t703 t760 (nmM_ap (n := (f_h 5).toInt) (n' := (g781 5).toInt) t587 (by have hn : (f_h 5).toInt = v524.toInt := congrArg Int32.toInt ev524.symm; omega) (by have hn : (f_h 5).toInt = v524.toInt := congrArg Int32.toInt ev524.symm; omega) (by rw [← eg781, pk_us, bv779]; have hq : v777.toInt = (f_h 5).toInt := congrArg Int32.toInt (ev777.trans (HU.up (HU.up (HU.up HU.rf eg657 (by omega)) eg714 (by omega)) eg771 (by omega)).a5); omega) (tkM_w t588))) (csM_m (HU.up (HU.up (HU.up HU.rf eg657 (by omega)) eg714 (by omega)) eg771 (by omega)) eg781 t587 (by have hn : (f_h 5).toInt = v524.toInt := congrArg Int32.toInt ev524.symm; omega)))), (ISWF.t t9 (by omega)).1, (AV.ap z_1 t587 (by have hn : (f_h 5).toInt = v524.toInt := congrArg Int32.toInt ev524.symm; omega) (by rw [← eg781, pk_us, bv779]; have hq : v777.toInt = (f_h 5).toInt := congrArg Int32.toInt (ev777.trans (HU.up (HU.up (HU.up HU.rf eg657 (by omega)) eg714 (by omega)) eg771 (by omega)).a5); omega) t589 (by have hn : (f_h 5).toInt = v524.toInt := congrArg Int32.toInt ev524.symm; omega)), (AV.h (AV.un z_2 t587 (by have hn : (f_h 5).toInt = v524.toInt := congrArg Int32.toInt ev524.symm; have hb := s_h_7.atN 7 (by decide) (by decide); omega) (by have hn : (f_h 5).toInt = v524.toInt := congrArg Int32.toInt ev524.symm; omega)) ((upd_m eg781 (by decide)).trans (HU.up (HU.up (HU.up HU.rf eg657 (by omega)) eg714 (by omega)) eg771 (by omega)).a7)), t762, t591, (by omega), rfl, rfl⟩)
        · obtain ⟨F593, y594, y595, t596, t597, t598, t599, t600, t601, rfl, rfl⟩ := hp
          have hP : va_P D vwCl [(h0, .inr (10, vL 67 F593)), (h_tape, .inl (cB, 940, .inl f_tape)), (h_h, .inl (cI, 104, .inl f_h)), (h_names, .inl (cJ, 36, .inr (.inl f_names))), (h_reserved, .inl (cJ, 23, .inr (.inl f_reserved)))] H := hP
          have hD : va_D A [(h0, .inr (10, vL 67 F593)), (h_tape, .inl (cB, 940, .inl f_tape)), (h_h, .inl (cI, 104, .inl f_h)), (h_names, .inl (cJ, 36, .inr (.inl f_names))), (h_reserved, .inl (cJ, 23, .inr (.inl f_reserved)))] := hD
          refine W.widen (k := 0) (n := 0) (Nat.le_of_ble_eq_true rfl) (Nat.le_of_ble_eq_true rfl) ?_
          refine lv_if_ne (tgt := 159) hx hb dX10_line0_154 (by decide) (fun g => absurd (by decide) g) (fun _ => ?_)
          refine lv_iconst (v := 0) hx hb dX10_line0_157 (by decide) ?_
          exact ret_i (v := 0) hx hb hr hlocks hS hP hD dX10_line0_158 rfl (Nat.le_of_ble_eq_true rfl) (Nat.le_of_ble_eq_true rfl) (Or.inl ⟨F593, y531, y532, y533, y534, y535, y594, y595, y536, x_got, x_onces, f_h, f_names, (SAME.tr (SAME.tr SAME.rf t537 (by decide)) t596 (by decide)), (SAME.at t596 (by decide) t538), t539, (SAME.at t596 (by decide) t540), t541, (SAME.at t596 (by decide) t542), (SAME.at t596 (by decide) t544), (SAME.at t596 (by decide) t546), t597, (ir_wk t598 (by decide) (by decide)), t599, (SAME.at t596 (by decide) t547), (SAME.at t596 (by decide) (SAME.at t537 (by decide) e_got)), (SAME.at t596 (by decide) (SAME.at t537 (by decide) e_onces)), s_h_0, (SG.wk r528 (by decide) (by decide)), s_h_6, s_h_7, s_h_44, ((cLine_5 (tkM_1st (ISWF.t t9 (by omega)).1) (lnwM (ISWF.t t9 (by omega)).1 (ISWF.t t9 (by omega)).2)).trans (cMan_0 (show ¬ 12 ≤ (nmM f_names 18 (f_h 5).toInt).length by rw [nmM_len]; have hn : (f_h 5).toInt = v524.toInt := congrArg Int32.toInt ev524.symm; omega) (atM t550 (ISWF.t t9 (by omega)).1) t600)), UN.rf, (by omega), rfl, rfl⟩)
      · have dc526 : v524.toInt = 12 := eq_i (a := v524.toInt) (b := 12) rfl rfl c526
        have k787 : 12 ≤ v524.toInt ∧ v524.toInt ≤ 12 := ⟨Int.le_trans (Int.le_refl _) (Int.le_of_eq dc526.symm), k525.2⟩
        refine lv_aload_n hx hb dX10_line0_136 rfl (lv_at hl 2 rfl) ?_
        refine lv_iconst (v := 4) hx hb dX10_line0_137 (by decide) ?_
        refine call_Vi (wr := [(h_tape, .inl (cB, 940, .inl f_tape)), (h_h, .inl (cI, 104, .inl f_h)), (h_names, .inl (cJ, 36, .inr (.inl f_names))), (h_reserved, .inl (cJ, 23, .inr (.inl f_reserved)))]) (As := [.int 4]) (rest := []) hx hb hml hown hw (m_X10_bad l D cI cJ cB cP cM cZ h0 Fh x_at 4 _ e_at) wV_X10_205_X10_bad dX10_line0_138 hK hP hD hS hA [4] [0, 1, 2, 3] rfl rfl (by decide) (by decide) (by decide) 0 10 rfl rfl GG.fb hG.at hl.1 rfl (Nat.le_of_ble_eq_true rfl) ⟨(Nat.le_of_ble_eq_true rfl), (Nat.le_of_ble_eq_true rfl)⟩ ⟨(Nat.le_of_ble_eq_true rfl), (Nat.le_of_ble_eq_true rfl)⟩ (fun r788 u H locs hp hP hD hS => ?_)
        have zl4 : (4 : Int32).toInt = 4 := by decide
        obtain ⟨F789, t790, t791, t792, rfl, rfl⟩ := hp
        have hP : va_P D vwCl [(h_tape, .inl (cB, 940, .inl f_tape)), (h_h, .inl (cI, 104, .inl f_h)), (h_names, .inl (cJ, 36, .inr (.inl f_names))), (h_reserved, .inl (cJ, 23, .inr (.inl f_reserved))), (h0, .inr (10, vL 67 F789))] H := hP
        have hD : va_D A [(h_tape, .inl (cB, 940, .inl f_tape)), (h_h, .inl (cI, 104, .inl f_h)), (h_names, .inl (cJ, 36, .inr (.inl f_names))), (h_reserved, .inl (cJ, 23, .inr (.inl f_reserved))), (h0, .inr (10, vL 67 F789))] := hD
        refine W.widen (k := 0) (n := 0) (Nat.le_of_ble_eq_true rfl) (Nat.le_of_ble_eq_true rfl) ?_
        exact ret_i (v := 0) hx hb hr hlocks hS (hP.sub (ws' := [(h0, .inr (10, vL 67 F789)), (h_tape, .inl (cB, 940, .inl f_tape)), (h_h, .inl (cI, 104, .inl f_h)), (h_names, .inl (cJ, 36, .inr (.inl f_names))), (h_reserved, .inl (cJ, 23, .inr (.inl f_reserved)))]) [4, 0, 1, 2, 3] rfl) (hD.sub (ws' := [(h0, .inr (10, vL 67 F789)), (h_tape, .inl (cB, 940, .inl f_tape)), (h_h, .inl (cI, 104, .inl f_h)), (h_names, .inl (cJ, 36, .inr (.inl f_names))), (h_reserved, .inl (cJ, 23, .inr (.inl f_reserved)))]) [4, 0, 1, 2, 3] (by decide) rfl) dX10_line0_141 rfl (Nat.le_of_ble_eq_true rfl) (Nat.le_of_ble_eq_true rfl) (Or.inl ⟨F789, x_p, x_token, x_at, x_span, x_number, 4, x_at, x_word, x_got, x_onces, f_h, f_names, (SAME.tr SAME.rf t790 (by decide)), (SAME.at t790 (by decide) e_p), i_x_p, (SAME.at t790 (by decide) e_token), i_x_token, (SAME.at t790 (by decide) e_at), (SAME.at t790 (by decide) e_span), (SAME.at t790 (by decide) e_number), t791, (show 1 ≤ (4 : Int32).toInt ∧ (4 : Int32).toInt ≤ 4 by decide), t792, (SAME.at t790 (by decide) e_word), (SAME.at t790 (by decide) e_got), (SAME.at t790 (by decide) e_onces), s_h_0, s_h_5, s_h_6, s_h_7, s_h_44, ((cLine_5 (tkM_1st (ISWF.t t9 (by omega)).1) (lnwM (ISWF.t t9 (by omega)).1 (ISWF.t t9 (by omega)).2)).trans (inl_eq (cMan_m (show 12 ≤ (nmM f_names 18 (f_h 5).toInt).length by rw [nmM_len]; have hn : (f_h 5).toInt = v524.toInt := congrArg Int32.toInt ev524.symm; omega)) (by decide) rfl)), UN.rf, (by have zl4 : (4 : Int32).toInt = 4 := (by decide); omega), rfl, rfl⟩)
  · have dc5 : 0 ≤ r1.toInt := nlt_i (a := r1.toInt) (b := 0) rfl rfl c5
    have k794 : 0 ≤ r1.toInt ∧ r1.toInt ≤ 4 := ⟨Int.le_trans (Int.le_refl _) dc5, t2.2⟩
    by_cases k795 : r1 = 0
    · have dk795 : r1.toInt = 0 := eq_i rfl rfl k795
      have k796 : 0 ≤ r1.toInt ∧ r1.toInt ≤ 0 := ⟨k794.1, Int.le_trans (Int.le_of_eq dk795) (Int.le_refl _)⟩
      have hl : lv_has ls 3 [(1, .int 0), (0, .ref h0)] := by have q := hl; rw [k795] at q; exact q
      refine lv_aload_n hx hb dX10_line0_9 rfl (lv_at hl 1 rfl) ?_
      refine lv_iload_n hx hb dX10_line0_10 rfl (lv_at hl 0 rfl) ?_
      refine call_Vi (wr := [(h_h, .inl (cI, 104, .inl f_h)), (h_names, .inl (cJ, 36, .inr (.inl f_names))), (h_reserved, .inl (cJ, 23, .inr (.inl f_reserved)))]) (As := [.int 0]) (rest := []) hx hb hml hown hw (m_X10_isOnce l D cI cJ cB cP cM cZ h0 h_tape Fh x_size x_p x_limit x_token x_at x_number x_fault x_faultAt x_word x_onces f_tape 0 _ e_tape e_size i_x_size e_p i_x_p e_limit i_x_limit e_token i_x_token e_at e_number e_fault e_faultAt e_word e_onces (by omega)) wV_X10_239_X10_isOnce dX10_line0_11 hK hP hD hS hA [4, 0] [1, 2, 3] rfl rfl (by decide) (by decide) (by decide) 0 10 rfl rfl GG.fb hG.at hl.1 rfl (Nat.le_of_ble_eq_true rfl) ⟨(Nat.le_of_ble_eq_true rfl), (Nat.le_of_ble_eq_true rfl)⟩ ⟨(Nat.le_of_ble_eq_true rfl), (Nat.le_of_ble_eq_true rfl)⟩ (fun r797 u H locs hp hP hD hS => ?_)
      have zl0 : (0 : Int32).toInt = 0 := by decide
      rcases hp with hp | hp
      · refine hp.elim (fun F798 h9z0 => h9z0.elim (fun y799 h9z1 => h9z1.elim (fun y800 h9z2 => h9z2.elim (fun y801 h9z3 => h9z3.elim (fun y802 h9z4 => h9z4.elim (fun y803 h9z5 => h9z5.elim (fun y804 h9z6 => h9z6.elim (fun y805 h9z7 => h9z7.elim (fun t806 h9z8 => h9z8.elim (fun t807 h9z9 => h9z9.elim (fun t808 h9z10 => h9z10.elim (fun t809 h9z11 => h9z11.elim (fun t810 h9z12 => h9z12.elim (fun t811 h9z13 => h9z13.elim (fun t812 h9z14 => h9z14.elim (fun t813 h9z15 => h9z15.elim (fun t814 h9z16 => h9z16.elim (fun t815 h9z17 => h9z17.elim (fun t816 h9z18 => h9z18.elim (fun t817 h9z19 => h9z19.elim (fun t818 h9z20 => h9z20.elim (fun t819 h9z21 => h9z21.elim (fun t820 h9z22 => h9z22.elim (fun t821 h9z23 => h9z23.elim (fun t822 h9z24 => h9z24.elim (fun t823 h9z25 => h9z25.elim (fun t824 h9z26 => h9z26.elim (fun heq927 h9z27 => ?_))))))))))))))))))))))))))))
        clear h9z0 h9z1 h9z2 h9z3 h9z4 h9z5 h9z6 h9z7 h9z8 h9z9 h9z10 h9z11 h9z12 h9z13 h9z14 h9z15 h9z16 h9z17 h9z18 h9z19 h9z20 h9z21 h9z22 h9z23 h9z24 h9z25 h9z26
        subst heq927
        subst h9z27
        have hP : va_P D vwCl [(h_h, .inl (cI, 104, .inl f_h)), (h_names, .inl (cJ, 36, .inr (.inl f_names))), (h_reserved, .inl (cJ, 23, .inr (.inl f_reserved))), (h0, .inr (10, vL 67 F798)), (h_tape, .inl (cB, 940, .inl f_tape))] H := hP
        have hD : va_D A [(h_h, .inl (cI, 104, .inl f_h)), (h_names, .inl (cJ, 36, .inr (.inl f_names))), (h_reserved, .inl (cJ, 23, .inr (.inl f_reserved))), (h0, .inr (10, vL 67 F798)), (h_tape, .inl (cB, 940, .inl f_tape))] := hD
        refine W.widen (k := 0) (n := 0) (Nat.le_of_ble_eq_true rfl) (Nat.le_of_ble_eq_true rfl) ?_
        refine lv_if_ne (tgt := 19) hx hb dX10_line0_14 (by decide) (fun _ => ?_) (fun g => absurd g (by decide))
        refine lv_aload_n hx hb dX10_line0_19 rfl (lv_at hl 1 rfl) ?_
        refine lv_iload_n hx hb dX10_line0_20 rfl (lv_at hl 0 rfl) ?_
        refine lv_if_ne (tgt := 28) hx hb dX10_line0_21 (by decide) (fun g => absurd (by decide) g) (fun _ => ?_)
        refine lv_iconst (v := 5) hx hb dX10_line0_24 (by decide) ?_
        refine lv_goto (tgt := 50) hx hb dX10_line0_25 (by decide) ?_
        refine lv_iload_n hx hb dX10_line0_50 rfl (lv_at hl 0 rfl) ?_
        refine lv_if_ne (tgt := 59) hx hb dX10_line0_51 (by decide) (fun g => absurd (by decide) g) (fun _ => ?_)
        refine lv_bipush (v := 40) hx hb dX10_line0_54 (by decide) ?_
        refine lv_goto (tgt := 93) hx hb dX10_line0_56 (by decide) ?_
        have n836 : F798 1 = .ref h_tape := (SAME.at t806 (by decide) e_tape)
        have n837 : F798 3 = .int x_size := (SAME.at t806 (by decide) e_size)
        have n838 : F798 5 = .int x_limit := (SAME.at t806 (by decide) e_limit)
        have n839 : F798 15 = .int x_fault := (SAME.at t806 (by decide) e_fault)
        have n840 : F798 16 = .int x_faultAt := (SAME.at t806 (by decide) e_faultAt)
        have n841 : F798 19 = .int x_got := (SAME.at t806 (by decide) e_got)
        refine call_Vi (wr := [(h_h, .inl (cI, 104, .inl f_h)), (h_names, .inl (cJ, 36, .inr (.inl f_names))), (h_reserved, .inl (cJ, 23, .inr (.inl f_reserved)))]) (As := [.int 5, .int 40]) (rest := []) hx hb hml hown hw (m_X10_takes l D cI cJ cB cP cM cZ h0 h_tape F798 x_size y799 x_limit y800 y801 y803 x_fault x_faultAt y804 x_got f_tape 5 40 _ n836 n837 i_x_size t807 t808 n838 i_x_limit t809 t810 t811 t815 n839 n840 t816 n841 (by omega)) wV_X10_242_X10_takes dX10_line0_93 hK hP hD hS hA [3, 4] [0, 1, 2] rfl rfl (by decide) (by decide) (by decide) 0 10 rfl rfl GG.fb hG.at hl.1 rfl (Nat.le_of_ble_eq_true rfl) ⟨(Nat.le_of_ble_eq_true rfl), (Nat.le_of_ble_eq_true rfl)⟩ ⟨(Nat.le_of_ble_eq_true rfl), (Nat.le_of_ble_eq_true rfl)⟩ (fun r842 u H locs hp hP hD hS => ?_)
        have zl5 : (5 : Int32).toInt = 5 := by decide
        have zl40 : (40 : Int32).toInt = 40 := by decide
        rcases hp with hp | hp
        · obtain ⟨F843, y844, y845, t846, t847, t848, t849, t850, rfl, rfl⟩ := hp
          have hP : va_P D vwCl [(h_h, .inl (cI, 104, .inl f_h)), (h_names, .inl (cJ, 36, .inr (.inl f_names))), (h_reserved, .inl (cJ, 23, .inr (.inl f_reserved))), (h0, .inr (10, vL 67 F843)), (h_tape, .inl (cB, 940, .inl f_tape))] H := hP
          have hD : va_D A [(h_h, .inl (cI, 104, .inl f_h)), (h_names, .inl (cJ, 36, .inr (.inl f_names))), (h_reserved, .inl (cJ, 23, .inr (.inl f_reserved))), (h0, .inr (10, vL 67 F843)), (h_tape, .inl (cB, 940, .inl f_tape))] := hD
          refine W.widen (k := 0) (n := 0) (Nat.le_of_ble_eq_true rfl) (Nat.le_of_ble_eq_true rfl) ?_
          refine lv_if_ne (tgt := 101) hx hb dX10_line0_96 (by decide) (fun g => absurd (by decide) g) (fun _ => ?_)
          refine lv_iconst (v := 0) hx hb dX10_line0_99 (by decide) ?_
          exact ret_i (v := 0) hx hb hr hlocks hS (hP.sub (ws' := [(h0, .inr (10, vL 67 F843)), (h_tape, .inl (cB, 940, .inl f_tape)), (h_h, .inl (cI, 104, .inl f_h)), (h_names, .inl (cJ, 36, .inr (.inl f_names))), (h_reserved, .inl (cJ, 23, .inr (.inl f_reserved)))]) [3, 4, 0, 1, 2] rfl) (hD.sub (ws' := [(h0, .inr (10, vL 67 F843)), (h_tape, .inl (cB, 940, .inl f_tape)), (h_h, .inl (cI, 104, .inl f_h)), (h_names, .inl (cJ, 36, .inr (.inl f_names))), (h_reserved, .inl (cJ, 23, .inr (.inl f_reserved)))]) [3, 4, 0, 1, 2] (by decide) rfl) dX10_line0_100 rfl (Nat.le_of_ble_eq_true rfl) (Nat.le_of_ble_eq_true rfl) (Or.inl ⟨F843, y799, y800, y801, y802, y803, y844, y845, y804, x_got, y805, f_h, f_names, (SAME.tr (SAME.tr SAME.rf t806 (by decide)) t846 (by decide)), (SAME.at t846 (by decide) t807), t808, (SAME.at t846 (by decide) t809), t810, (SAME.at t846 (by decide) t811), (SAME.at t846 (by decide) t813), (SAME.at t846 (by decide) t815), t847, (ir_wk t848 (by decide) (by decide)), t849, (SAME.at t846 (by decide) t816), (SAME.at t846 (by decide) n841), (SAME.at t846 (by decide) t817), s_h_0, s_h_5, s_h_6, s_h_7, s_h_44, ((cLine_0 (tkM_1st (ONCF.t (k := 0) t3 (by omega) (by decide)).1) (lnwM (ONCF.t (k := 0) t3 (by omega) (by decide)).1 (ONCF.t (k := 0) t3 (by omega) (by decide)).2)).trans (cSet_f t821 (atM t820 (ONCF.t (k := 0) t3 (by omega) (by decide)).1) t850)), UN.rf, (by omega), rfl, rfl⟩)
        · refine hp.elim (fun F851 h9z0 => h9z0.elim (fun y852 h9z1 => h9z1.elim (fun y853 h9z2 => h9z2.elim (fun y854 h9z3 => h9z3.elim (fun y855 h9z4 => h9z4.elim (fun y856 h9z5 => h9z5.elim (fun y857 h9z6 => h9z6.elim (fun y858 h9z7 => h9z7.elim (fun t859 h9z8 => h9z8.elim (fun t860 h9z9 => h9z9.elim (fun t861 h9z10 => h9z10.elim (fun t862 h9z11 => h9z11.elim (fun t863 h9z12 => h9z12.elim (fun t864 h9z13 => h9z13.elim (fun t865 h9z14 => h9z14.elim (fun t866 h9z15 => h9z15.elim (fun t867 h9z16 => h9z16.elim (fun t868 h9z17 => h9z17.elim (fun t869 h9z18 => h9z18.elim (fun t870 h9z19 => h9z19.elim (fun t871 h9z20 => h9z20.elim (fun t872 h9z21 => h9z21.elim (fun t873 h9z22 => h9z22.elim (fun t874 h9z23 => h9z23.elim (fun t875 h9z24 => h9z24.elim (fun t876 h9z25 => h9z25.elim (fun t877 h9z26 => h9z26.elim (fun t878 h9z27 => h9z27.elim (fun t879 h9z28 => h9z28.elim (fun t880 h9z29 => h9z29.elim (fun heq930 h9z30 => ?_)))))))))))))))))))))))))))))))
          clear h9z0 h9z1 h9z2 h9z3 h9z4 h9z5 h9z6 h9z7 h9z8 h9z9 h9z10 h9z11 h9z12 h9z13 h9z14 h9z15 h9z16 h9z17 h9z18 h9z19 h9z20 h9z21 h9z22 h9z23 h9z24 h9z25 h9z26 h9z27 h9z28 h9z29
          subst heq930
          subst h9z30
          clear t819 t824
          have hP : va_P D vwCl [(h_h, .inl (cI, 104, .inl f_h)), (h_names, .inl (cJ, 36, .inr (.inl f_names))), (h_reserved, .inl (cJ, 23, .inr (.inl f_reserved))), (h0, .inr (10, vL 67 F851)), (h_tape, .inl (cB, 940, .inl f_tape))] H := hP
          have hD : va_D A [(h_h, .inl (cI, 104, .inl f_h)), (h_names, .inl (cJ, 36, .inr (.inl f_names))), (h_reserved, .inl (cJ, 23, .inr (.inl f_reserved))), (h0, .inr (10, vL 67 F851)), (h_tape, .inl (cB, 940, .inl f_tape))] := hD
          refine W.widen (k := 0) (n := 0) (Nat.le_of_ble_eq_true rfl) (Nat.le_of_ble_eq_true rfl) ?_
          have k882 : 2 ≤ y800.toInt ∧ y800.toInt ≤ 2 := ⟨Int.le_trans (Int.le_refl _) (Int.le_of_eq t871.symm), Int.le_trans (Int.le_of_eq t871) (Int.le_refl _)⟩
          have k883 : 5 ≤ y803.toInt ∧ y803.toInt ≤ 2147483647 := ⟨Int.le_trans (Int.le_refl _) t872, (ir_any _).2⟩
          have k884 : 5 ≤ y803.toInt ∧ y803.toInt ≤ 40 := ⟨k883.1, Int.le_trans t873 (Int.le_refl _)⟩
          refine lv_if_ne (tgt := 101) hx hb dX10_line0_96 (by decide) (fun _ => ?_) (fun g => absurd g (by decide))
          refine lv_aload_n hx hb dX10_line0_101 rfl (lv_at hl 1 rfl) ?_
          have n885 : F798 7 = .ref h_h := (SAME.at t806 (by decide) e_h)
          have n886 : F851 7 = .ref h_h := (SAME.at t859 (by decide) n885)
          refine get_f (D := D) (ci := 10) (v := .ref h_h) (C := RX10) (T := TX10) (N := 67) hx hb hw inAX10 hown hK hP 3 rfl rfl 7 (by decide) (hw _ q_1268) (fun _ h9 => h9) n886 dX10_line0_102 ?_
          refine lv_iload_n hx hb dX10_line0_105 rfl (lv_at hl 0 rfl) ?_
          refine lv_aload_n hx hb dX10_line0_106 rfl (lv_at hl 1 rfl) ?_
          refine get_f (D := D) (ci := 10) (v := .int y858) (C := RX10) (T := TX10) (N := 67) hx hb hw inAX10 hown hK hP 3 rfl rfl 19 (by decide) (hw _ q_1280) (fun _ h9 => h9) t870 dX10_line0_107 ?_
          obtain ⟨g887, eg887⟩ : ∃ z : Nat → Int32, upd f_h 0 y858 = z := ⟨_, rfl⟩
          have r888 : SG 0 0 0 40 g887 := by rw [← eg887]; exact s_h_0.upN (by omega)
          have r889 : SG 44 55 0 9 g887 := by rw [← eg887]; exact s_h_44.upN (Or.inl (by decide))
          have r890 : SG 5 5 0 12 g887 := by rw [← eg887]; exact s_h_5.upN (Or.inl (by decide))
          have r891 : SG 6 6 0 12 g887 := by rw [← eg887]; exact s_h_6.upN (Or.inl (by decide))
          have r892 : SG 7 7 0 6 g887 := by rw [← eg887]; exact s_h_7.upN (Or.inl (by decide))
          refine iast_n hx hb hK hP hD hS 0 0 rfl rfl 0 rfl (Nat.le_of_ble_eq_true rfl) (Nat.le_of_ble_eq_true rfl) eg887 dX10_line0_110 (fun H locs hP hD hS => ?_)
          have hP : va_P D vwCl [(h_h, .inl (cI, 104, .inl g887)), (h_names, .inl (cJ, 36, .inr (.inl f_names))), (h_reserved, .inl (cJ, 23, .inr (.inl f_reserved))), (h0, .inr (10, vL 67 F851)), (h_tape, .inl (cB, 940, .inl f_tape))] H := hP
          have hD : va_D A [(h_h, .inl (cI, 104, .inl g887)), (h_names, .inl (cJ, 36, .inr (.inl f_names))), (h_reserved, .inl (cJ, 23, .inr (.inl f_reserved))), (h0, .inr (10, vL 67 F851)), (h_tape, .inl (cB, 940, .inl f_tape))] := hD
          refine lv_iconst (v := 1) hx hb dX10_line0_111 (by decide) ?_
          exact ret_i (v := 1) hx hb hr hlocks hS (hP.sub (ws' := [(h0, .inr (10, vL 67 F851)), (h_tape, .inl (cB, 940, .inl f_tape)), (h_h, .inl (cI, 104, .inl g887)), (h_names, .inl (cJ, 36, .inr (.inl f_names))), (h_reserved, .inl (cJ, 23, .inr (.inl f_reserved)))]) [3, 4, 0, 1, 2] rfl) (hD.sub (ws' := [(h0, .inr (10, vL 67 F851)), (h_tape, .inl (cB, 940, .inl f_tape)), (h_h, .inl (cI, 104, .inl g887)), (h_names, .inl (cJ, 36, .inr (.inl f_names))), (h_reserved, .inl (cJ, 23, .inr (.inl f_reserved)))]) [3, 4, 0, 1, 2] (by decide) rfl) dX10_line0_112 rfl (Nat.le_of_ble_eq_true rfl) (Nat.le_of_ble_eq_true rfl) (Or.inr ⟨F851, y852, y853, y854, y855, y856, y857, y858, y805, g887, f_names, (SAME.tr (SAME.tr SAME.rf t806 (by decide)) t859 (by decide)), t860, t861, t862, t863, t864, t865, t866, t867, t868, t869, t870, (SAME.at t859 (by decide) t817), r888, r890, r891, r892, r889, (by have zl1 : (1 : Int32).toInt = 1 := (by decide); omega), (by have zl1 : (1 : Int32).toInt = 1 := (by decide); omega), ((cLine_0 (tkM_1st (ONCF.t (k := 0) t3 (by omega) (by decide)).1) (lnwM (ONCF.t (k := 0) t3 (by omega) (by decide)).1 (ONCF.t (k := 0) t3 (by omega) (by decide)).2)).trans (fin_r (cSet_o t821 (atM t820 (ONCF.t (k := 0) t3 (by omega) (by decide)).1) t877 t822 (by rw [if_pos rfl, tkM_nu t878.1]; exact (upd_0 eg887 (by decide)).trans t878.2)) (csM_s eg887 (by decide)))), (ONCF.t (k := 0) t3 (by omega) (by decide)).1, (AV.h z_1 (upd_m eg887 (by decide))), (AV.h z_2 (upd_m eg887 (by decide))), t879, UN.rf, (by omega), rfl, rfl⟩)
      · obtain ⟨F825, y826, y827, t828, t829, t830, t831, t832, t833, t834, rfl, rfl⟩ := hp
        have hP : va_P D vwCl [(h_h, .inl (cI, 104, .inl f_h)), (h_names, .inl (cJ, 36, .inr (.inl f_names))), (h_reserved, .inl (cJ, 23, .inr (.inl f_reserved))), (h0, .inr (10, vL 67 F825)), (h_tape, .inl (cB, 940, .inl f_tape))] H := hP
        have hD : va_D A [(h_h, .inl (cI, 104, .inl f_h)), (h_names, .inl (cJ, 36, .inr (.inl f_names))), (h_reserved, .inl (cJ, 23, .inr (.inl f_reserved))), (h0, .inr (10, vL 67 F825)), (h_tape, .inl (cB, 940, .inl f_tape))] := hD
        refine W.widen (k := 0) (n := 0) (Nat.le_of_ble_eq_true rfl) (Nat.le_of_ble_eq_true rfl) ?_
        refine lv_if_ne (tgt := 19) hx hb dX10_line0_14 (by decide) (fun g => absurd (by decide) g) (fun _ => ?_)
        refine lv_iconst (v := 0) hx hb dX10_line0_17 (by decide) ?_
        exact ret_i (v := 0) hx hb hr hlocks hS (hP.sub (ws' := [(h0, .inr (10, vL 67 F825)), (h_tape, .inl (cB, 940, .inl f_tape)), (h_h, .inl (cI, 104, .inl f_h)), (h_names, .inl (cJ, 36, .inr (.inl f_names))), (h_reserved, .inl (cJ, 23, .inr (.inl f_reserved)))]) [3, 4, 0, 1, 2] rfl) (hD.sub (ws' := [(h0, .inr (10, vL 67 F825)), (h_tape, .inl (cB, 940, .inl f_tape)), (h_h, .inl (cI, 104, .inl f_h)), (h_names, .inl (cJ, 36, .inr (.inl f_names))), (h_reserved, .inl (cJ, 23, .inr (.inl f_reserved)))]) [3, 4, 0, 1, 2] (by decide) rfl) dX10_line0_18 rfl (Nat.le_of_ble_eq_true rfl) (Nat.le_of_ble_eq_true rfl) (Or.inl ⟨F825, x_p, x_token, x_at, x_span, x_number, y826, y827, x_word, x_got, x_onces, f_h, f_names, (SAME.tr SAME.rf t828 (by decide)), (SAME.at t828 (by decide) e_p), i_x_p, (SAME.at t828 (by decide) e_token), i_x_token, (SAME.at t828 (by decide) e_at), (SAME.at t828 (by decide) e_span), (SAME.at t828 (by decide) e_number), t829, (ir_wk t830 (by decide) (by decide)), t831, (SAME.at t828 (by decide) e_word), (SAME.at t828 (by decide) e_got), (SAME.at t828 (by decide) e_onces), s_h_0, s_h_5, s_h_6, s_h_7, s_h_44, ((cLine_0 (tkM_1st (ONCF.t (k := 0) t3 (by omega) (by decide)).1) (lnwM (ONCF.t (k := 0) t3 (by omega) (by decide)).1 (ONCF.t (k := 0) t3 (by omega) (by decide)).2)).trans (inl_eq (cSet_t t832) t833.1 t833.2)), UN.rf, (by omega), rfl, rfl⟩)
    have dk795 : r1.toInt ≠ 0 := ne_i rfl rfl k795
    have k893 : 1 ≤ r1.toInt ∧ r1.toInt ≤ 4 := ⟨ne_lo dk795 k794.1 ⟨Int.le_refl _, Int.le_refl _⟩ (by decide), k794.2⟩
    by_cases k894 : r1 = 1
    · have dk894 : r1.toInt = 1 := eq_i rfl rfl k894
      have k895 : 1 ≤ r1.toInt ∧ r1.toInt ≤ 1 := ⟨k893.1, Int.le_trans (Int.le_of_eq dk894) (Int.le_refl _)⟩
      have hl : lv_has ls 3 [(1, .int 1), (0, .ref h0)] := by have q := hl; rw [k894] at q; exact q
      refine lv_aload_n hx hb dX10_line0_9 rfl (lv_at hl 1 rfl) ?_
      refine lv_iload_n hx hb dX10_line0_10 rfl (lv_at hl 0 rfl) ?_
      refine call_Vi (wr := [(h_h, .inl (cI, 104, .inl f_h)), (h_names, .inl (cJ, 36, .inr (.inl f_names))), (h_reserved, .inl (cJ, 23, .inr (.inl f_reserved)))]) (As := [.int 1]) (rest := []) hx hb hml hown hw (m_X10_isOnce l D cI cJ cB cP cM cZ h0 h_tape Fh x_size x_p x_limit x_token x_at x_number x_fault x_faultAt x_word x_onces f_tape 1 _ e_tape e_size i_x_size e_p i_x_p e_limit i_x_limit e_token i_x_token e_at e_number e_fault e_faultAt e_word e_onces (by omega)) wV_X10_239_X10_isOnce dX10_line0_11 hK hP hD hS hA [4, 0] [1, 2, 3] rfl rfl (by decide) (by decide) (by decide) 0 10 rfl rfl GG.fb hG.at hl.1 rfl (Nat.le_of_ble_eq_true rfl) ⟨(Nat.le_of_ble_eq_true rfl), (Nat.le_of_ble_eq_true rfl)⟩ ⟨(Nat.le_of_ble_eq_true rfl), (Nat.le_of_ble_eq_true rfl)⟩ (fun r896 u H locs hp hP hD hS => ?_)
      have zl1 : (1 : Int32).toInt = 1 := by decide
      rcases hp with hp | hp
      · refine hp.elim (fun F897 h9z0 => h9z0.elim (fun y898 h9z1 => h9z1.elim (fun y899 h9z2 => h9z2.elim (fun y900 h9z3 => h9z3.elim (fun y901 h9z4 => h9z4.elim (fun y902 h9z5 => h9z5.elim (fun y903 h9z6 => h9z6.elim (fun y904 h9z7 => h9z7.elim (fun t905 h9z8 => h9z8.elim (fun t906 h9z9 => h9z9.elim (fun t907 h9z10 => h9z10.elim (fun t908 h9z11 => h9z11.elim (fun t909 h9z12 => h9z12.elim (fun t910 h9z13 => h9z13.elim (fun t911 h9z14 => h9z14.elim (fun t912 h9z15 => h9z15.elim (fun t913 h9z16 => h9z16.elim (fun t914 h9z17 => h9z17.elim (fun t915 h9z18 => h9z18.elim (fun t916 h9z19 => h9z19.elim (fun t917 h9z20 => h9z20.elim (fun t918 h9z21 => h9z21.elim (fun t919 h9z22 => h9z22.elim (fun t920 h9z23 => h9z23.elim (fun t921 h9z24 => h9z24.elim (fun t922 h9z25 => h9z25.elim (fun t923 h9z26 => h9z26.elim (fun heq927 h9z27 => ?_))))))))))))))))))))))))))))
        clear h9z0 h9z1 h9z2 h9z3 h9z4 h9z5 h9z6 h9z7 h9z8 h9z9 h9z10 h9z11 h9z12 h9z13 h9z14 h9z15 h9z16 h9z17 h9z18 h9z19 h9z20 h9z21 h9z22 h9z23 h9z24 h9z25 h9z26
        subst heq927
        subst h9z27
        have hP : va_P D vwCl [(h_h, .inl (cI, 104, .inl f_h)), (h_names, .inl (cJ, 36, .inr (.inl f_names))), (h_reserved, .inl (cJ, 23, .inr (.inl f_reserved))), (h0, .inr (10, vL 67 F897)), (h_tape, .inl (cB, 940, .inl f_tape))] H := hP
        have hD : va_D A [(h_h, .inl (cI, 104, .inl f_h)), (h_names, .inl (cJ, 36, .inr (.inl f_names))), (h_reserved, .inl (cJ, 23, .inr (.inl f_reserved))), (h0, .inr (10, vL 67 F897)), (h_tape, .inl (cB, 940, .inl f_tape))] := hD
        refine W.widen (k := 0) (n := 0) (Nat.le_of_ble_eq_true rfl) (Nat.le_of_ble_eq_true rfl) ?_
        refine lv_if_ne (tgt := 19) hx hb dX10_line0_14 (by decide) (fun _ => ?_) (fun g => absurd g (by decide))
        refine lv_aload_n hx hb dX10_line0_19 rfl (lv_at hl 1 rfl) ?_
        refine lv_iload_n hx hb dX10_line0_20 rfl (lv_at hl 0 rfl) ?_
        refine lv_if_ne (tgt := 28) hx hb dX10_line0_21 (by decide) (fun _ => ?_) (fun g => absurd g (by decide))
        refine lv_iload_n hx hb dX10_line0_28 rfl (lv_at hl 0 rfl) ?_
        refine lv_iconst (v := 1) hx hb dX10_line0_29 (by decide) ?_
        refine lv_icmp_ne (tgt := 38) hx hb dX10_line0_30 (by decide) (fun g => absurd (by decide) g) (fun _ => ?_)
        refine lv_bipush (v := 100) hx hb dX10_line0_33 (by decide) ?_
        refine lv_goto (tgt := 50) hx hb dX10_line0_35 (by decide) ?_
        refine lv_iload_n hx hb dX10_line0_50 rfl (lv_at hl 0 rfl) ?_
        refine lv_if_ne (tgt := 59) hx hb dX10_line0_51 (by decide) (fun _ => ?_) (fun g => absurd g (by decide))
        refine lv_iload_n hx hb dX10_line0_59 rfl (lv_at hl 0 rfl) ?_
        refine lv_iconst (v := 1) hx hb dX10_line0_60 (by decide) ?_
        refine lv_icmp_ne (tgt := 70) hx hb dX10_line0_61 (by decide) (fun g => absurd (by decide) g) (fun _ => ?_)
        refine lv_sipush (v := 300) hx hb dX10_line0_64 (by decide) ?_
        refine lv_goto (tgt := 93) hx hb dX10_line0_67 (by decide) ?_
        have n935 : F897 1 = .ref h_tape := (SAME.at t905 (by decide) e_tape)
        have n936 : F897 3 = .int x_size := (SAME.at t905 (by decide) e_size)
        have n937 : F897 5 = .int x_limit := (SAME.at t905 (by decide) e_limit)
        have n938 : F897 15 = .int x_fault := (SAME.at t905 (by decide) e_fault)
        have n939 : F897 16 = .int x_faultAt := (SAME.at t905 (by decide) e_faultAt)
        have n940 : F897 19 = .int x_got := (SAME.at t905 (by decide) e_got)
        refine call_Vi (wr := [(h_h, .inl (cI, 104, .inl f_h)), (h_names, .inl (cJ, 36, .inr (.inl f_names))), (h_reserved, .inl (cJ, 23, .inr (.inl f_reserved)))]) (As := [.int 100, .int 300]) (rest := []) hx hb hml hown hw (m_X10_takes l D cI cJ cB cP cM cZ h0 h_tape F897 x_size y898 x_limit y899 y900 y902 x_fault x_faultAt y903 x_got f_tape 100 300 _ n935 n936 i_x_size t906 t907 n937 i_x_limit t908 t909 t910 t914 n938 n939 t915 n940 (by omega)) wV_X10_242_X10_takes dX10_line0_93 hK hP hD hS hA [3, 4] [0, 1, 2] rfl rfl (by decide) (by decide) (by decide) 0 10 rfl rfl GG.fb hG.at hl.1 rfl (Nat.le_of_ble_eq_true rfl) ⟨(Nat.le_of_ble_eq_true rfl), (Nat.le_of_ble_eq_true rfl)⟩ ⟨(Nat.le_of_ble_eq_true rfl), (Nat.le_of_ble_eq_true rfl)⟩ (fun r941 u H locs hp hP hD hS => ?_)
        have zl100 : (100 : Int32).toInt = 100 := by decide
        have zl300 : (300 : Int32).toInt = 300 := by decide
        rcases hp with hp | hp
        · obtain ⟨F942, y943, y944, t945, t946, t947, t948, t949, rfl, rfl⟩ := hp
          have hP : va_P D vwCl [(h_h, .inl (cI, 104, .inl f_h)), (h_names, .inl (cJ, 36, .inr (.inl f_names))), (h_reserved, .inl (cJ, 23, .inr (.inl f_reserved))), (h0, .inr (10, vL 67 F942)), (h_tape, .inl (cB, 940, .inl f_tape))] H := hP
          have hD : va_D A [(h_h, .inl (cI, 104, .inl f_h)), (h_names, .inl (cJ, 36, .inr (.inl f_names))), (h_reserved, .inl (cJ, 23, .inr (.inl f_reserved))), (h0, .inr (10, vL 67 F942)), (h_tape, .inl (cB, 940, .inl f_tape))] := hD
          refine W.widen (k := 0) (n := 0) (Nat.le_of_ble_eq_true rfl) (Nat.le_of_ble_eq_true rfl) ?_
          refine lv_if_ne (tgt := 101) hx hb dX10_line0_96 (by decide) (fun g => absurd (by decide) g) (fun _ => ?_)
          refine lv_iconst (v := 0) hx hb dX10_line0_99 (by decide) ?_
          exact ret_i (v := 0) hx hb hr hlocks hS (hP.sub (ws' := [(h0, .inr (10, vL 67 F942)), (h_tape, .inl (cB, 940, .inl f_tape)), (h_h, .inl (cI, 104, .inl f_h)), (h_names, .inl (cJ, 36, .inr (.inl f_names))), (h_reserved, .inl (cJ, 23, .inr (.inl f_reserved)))]) [3, 4, 0, 1, 2] rfl) (hD.sub (ws' := [(h0, .inr (10, vL 67 F942)), (h_tape, .inl (cB, 940, .inl f_tape)), (h_h, .inl (cI, 104, .inl f_h)), (h_names, .inl (cJ, 36, .inr (.inl f_names))), (h_reserved, .inl (cJ, 23, .inr (.inl f_reserved)))]) [3, 4, 0, 1, 2] (by decide) rfl) dX10_line0_100 rfl (Nat.le_of_ble_eq_true rfl) (Nat.le_of_ble_eq_true rfl) (Or.inl ⟨F942, y898, y899, y900, y901, y902, y943, y944, y903, x_got, y904, f_h, f_names, (SAME.tr (SAME.tr SAME.rf t905 (by decide)) t945 (by decide)), (SAME.at t945 (by decide) t906), t907, (SAME.at t945 (by decide) t908), t909, (SAME.at t945 (by decide) t910), (SAME.at t945 (by decide) t912), (SAME.at t945 (by decide) t914), t946, (ir_wk t947 (by decide) (by decide)), t948, (SAME.at t945 (by decide) t915), (SAME.at t945 (by decide) n940), (SAME.at t945 (by decide) t916), s_h_0, s_h_5, s_h_6, s_h_7, s_h_44, ((cLine_1 (tkM_1st (ONCF.t (k := 1) t3 (by omega) (by decide)).1) (lnwM (ONCF.t (k := 1) t3 (by omega) (by decide)).1 (ONCF.t (k := 1) t3 (by omega) (by decide)).2)).trans (cSet_f t920 (atM t919 (ONCF.t (k := 1) t3 (by omega) (by decide)).1) t949)), UN.rf, (by omega), rfl, rfl⟩)
        · refine hp.elim (fun F950 h9z0 => h9z0.elim (fun y951 h9z1 => h9z1.elim (fun y952 h9z2 => h9z2.elim (fun y953 h9z3 => h9z3.elim (fun y954 h9z4 => h9z4.elim (fun y955 h9z5 => h9z5.elim (fun y956 h9z6 => h9z6.elim (fun y957 h9z7 => h9z7.elim (fun t958 h9z8 => h9z8.elim (fun t959 h9z9 => h9z9.elim (fun t960 h9z10 => h9z10.elim (fun t961 h9z11 => h9z11.elim (fun t962 h9z12 => h9z12.elim (fun t963 h9z13 => h9z13.elim (fun t964 h9z14 => h9z14.elim (fun t965 h9z15 => h9z15.elim (fun t966 h9z16 => h9z16.elim (fun t967 h9z17 => h9z17.elim (fun t968 h9z18 => h9z18.elim (fun t969 h9z19 => h9z19.elim (fun t970 h9z20 => h9z20.elim (fun t971 h9z21 => h9z21.elim (fun t972 h9z22 => h9z22.elim (fun t973 h9z23 => h9z23.elim (fun t974 h9z24 => h9z24.elim (fun t975 h9z25 => h9z25.elim (fun t976 h9z26 => h9z26.elim (fun t977 h9z27 => h9z27.elim (fun t978 h9z28 => h9z28.elim (fun t979 h9z29 => h9z29.elim (fun heq930 h9z30 => ?_)))))))))))))))))))))))))))))))
          clear h9z0 h9z1 h9z2 h9z3 h9z4 h9z5 h9z6 h9z7 h9z8 h9z9 h9z10 h9z11 h9z12 h9z13 h9z14 h9z15 h9z16 h9z17 h9z18 h9z19 h9z20 h9z21 h9z22 h9z23 h9z24 h9z25 h9z26 h9z27 h9z28 h9z29
          subst heq930
          subst h9z30
          clear t918 t923
          have hP : va_P D vwCl [(h_h, .inl (cI, 104, .inl f_h)), (h_names, .inl (cJ, 36, .inr (.inl f_names))), (h_reserved, .inl (cJ, 23, .inr (.inl f_reserved))), (h0, .inr (10, vL 67 F950)), (h_tape, .inl (cB, 940, .inl f_tape))] H := hP
          have hD : va_D A [(h_h, .inl (cI, 104, .inl f_h)), (h_names, .inl (cJ, 36, .inr (.inl f_names))), (h_reserved, .inl (cJ, 23, .inr (.inl f_reserved))), (h0, .inr (10, vL 67 F950)), (h_tape, .inl (cB, 940, .inl f_tape))] := hD
          refine W.widen (k := 0) (n := 0) (Nat.le_of_ble_eq_true rfl) (Nat.le_of_ble_eq_true rfl) ?_
          have k981 : 2 ≤ y899.toInt ∧ y899.toInt ≤ 2 := ⟨Int.le_trans (Int.le_refl _) (Int.le_of_eq t970.symm), Int.le_trans (Int.le_of_eq t970) (Int.le_refl _)⟩
          have k982 : 100 ≤ y902.toInt ∧ y902.toInt ≤ 2147483647 := ⟨Int.le_trans (Int.le_refl _) t971, (ir_any _).2⟩
          have k983 : 100 ≤ y902.toInt ∧ y902.toInt ≤ 300 := ⟨k982.1, Int.le_trans t972 (Int.le_refl _)⟩
          refine lv_if_ne (tgt := 101) hx hb dX10_line0_96 (by decide) (fun _ => ?_) (fun g => absurd g (by decide))
          refine lv_aload_n hx hb dX10_line0_101 rfl (lv_at hl 1 rfl) ?_
          have n984 : F897 7 = .ref h_h := (SAME.at t905 (by decide) e_h)
          have n985 : F950 7 = .ref h_h := (SAME.at t958 (by decide) n984)
          refine get_f (D := D) (ci := 10) (v := .ref h_h) (C := RX10) (T := TX10) (N := 67) hx hb hw inAX10 hown hK hP 3 rfl rfl 7 (by decide) (hw _ q_1268) (fun _ h9 => h9) n985 dX10_line0_102 ?_
          refine lv_iload_n hx hb dX10_line0_105 rfl (lv_at hl 0 rfl) ?_
          refine lv_aload_n hx hb dX10_line0_106 rfl (lv_at hl 1 rfl) ?_
          refine get_f (D := D) (ci := 10) (v := .int y957) (C := RX10) (T := TX10) (N := 67) hx hb hw inAX10 hown hK hP 3 rfl rfl 19 (by decide) (hw _ q_1280) (fun _ h9 => h9) t969 dX10_line0_107 ?_
          obtain ⟨g986, eg986⟩ : ∃ z : Nat → Int32, upd f_h 1 y957 = z := ⟨_, rfl⟩
          have r987 : SG 0 0 0 40 g986 := by rw [← eg986]; exact s_h_0.upN (Or.inr (Or.inl (by decide)))
          have r988 : SG 44 55 0 9 g986 := by rw [← eg986]; exact s_h_44.upN (Or.inl (by decide))
          have r989 : SG 5 5 0 12 g986 := by rw [← eg986]; exact s_h_5.upN (Or.inl (by decide))
          have r990 : SG 6 6 0 12 g986 := by rw [← eg986]; exact s_h_6.upN (Or.inl (by decide))
          have r991 : SG 7 7 0 6 g986 := by rw [← eg986]; exact s_h_7.upN (Or.inl (by decide))
          refine iast_n hx hb hK hP hD hS 0 0 rfl rfl 1 rfl (Nat.le_of_ble_eq_true rfl) (Nat.le_of_ble_eq_true rfl) eg986 dX10_line0_110 (fun H locs hP hD hS => ?_)
          have hP : va_P D vwCl [(h_h, .inl (cI, 104, .inl g986)), (h_names, .inl (cJ, 36, .inr (.inl f_names))), (h_reserved, .inl (cJ, 23, .inr (.inl f_reserved))), (h0, .inr (10, vL 67 F950)), (h_tape, .inl (cB, 940, .inl f_tape))] H := hP
          have hD : va_D A [(h_h, .inl (cI, 104, .inl g986)), (h_names, .inl (cJ, 36, .inr (.inl f_names))), (h_reserved, .inl (cJ, 23, .inr (.inl f_reserved))), (h0, .inr (10, vL 67 F950)), (h_tape, .inl (cB, 940, .inl f_tape))] := hD
          refine lv_iconst (v := 1) hx hb dX10_line0_111 (by decide) ?_
          exact ret_i (v := 1) hx hb hr hlocks hS (hP.sub (ws' := [(h0, .inr (10, vL 67 F950)), (h_tape, .inl (cB, 940, .inl f_tape)), (h_h, .inl (cI, 104, .inl g986)), (h_names, .inl (cJ, 36, .inr (.inl f_names))), (h_reserved, .inl (cJ, 23, .inr (.inl f_reserved)))]) [3, 4, 0, 1, 2] rfl) (hD.sub (ws' := [(h0, .inr (10, vL 67 F950)), (h_tape, .inl (cB, 940, .inl f_tape)), (h_h, .inl (cI, 104, .inl g986)), (h_names, .inl (cJ, 36, .inr (.inl f_names))), (h_reserved, .inl (cJ, 23, .inr (.inl f_reserved)))]) [3, 4, 0, 1, 2] (by decide) rfl) dX10_line0_112 rfl (Nat.le_of_ble_eq_true rfl) (Nat.le_of_ble_eq_true rfl) (Or.inr ⟨F950, y951, y952, y953, y954, y955, y956, y957, y904, g986, f_names, (SAME.tr (SAME.tr SAME.rf t905 (by decide)) t958 (by decide)), t959, t960, t961, t962, t963, t964, t965, t966, t967, t968, t969, (SAME.at t958 (by decide) t916), r987, r989, r990, r991, r988, (by have zl1 : (1 : Int32).toInt = 1 := (by decide); omega), (by have zl1 : (1 : Int32).toInt = 1 := (by decide); omega), ((cLine_1 (tkM_1st (ONCF.t (k := 1) t3 (by omega) (by decide)).1) (lnwM (ONCF.t (k := 1) t3 (by omega) (by decide)).1 (ONCF.t (k := 1) t3 (by omega) (by decide)).2)).trans (fin_r (cSet_o t920 (atM t919 (ONCF.t (k := 1) t3 (by omega) (by decide)).1) t976 t921 (by rw [if_neg (by decide)]; exact upd_n eg986 (by decide))) (csM_s eg986 (by decide)))), (ONCF.t (k := 1) t3 (by omega) (by decide)).1, (AV.h z_1 (upd_m eg986 (by decide))), (AV.h z_2 (upd_m eg986 (by decide))), t978, UN.rf, (by omega), rfl, rfl⟩)
      · obtain ⟨F924, y925, y926, t927, t928, t929, t930, t931, t932, t933, rfl, rfl⟩ := hp
        have hP : va_P D vwCl [(h_h, .inl (cI, 104, .inl f_h)), (h_names, .inl (cJ, 36, .inr (.inl f_names))), (h_reserved, .inl (cJ, 23, .inr (.inl f_reserved))), (h0, .inr (10, vL 67 F924)), (h_tape, .inl (cB, 940, .inl f_tape))] H := hP
        have hD : va_D A [(h_h, .inl (cI, 104, .inl f_h)), (h_names, .inl (cJ, 36, .inr (.inl f_names))), (h_reserved, .inl (cJ, 23, .inr (.inl f_reserved))), (h0, .inr (10, vL 67 F924)), (h_tape, .inl (cB, 940, .inl f_tape))] := hD
        refine W.widen (k := 0) (n := 0) (Nat.le_of_ble_eq_true rfl) (Nat.le_of_ble_eq_true rfl) ?_
        refine lv_if_ne (tgt := 19) hx hb dX10_line0_14 (by decide) (fun g => absurd (by decide) g) (fun _ => ?_)
        refine lv_iconst (v := 0) hx hb dX10_line0_17 (by decide) ?_
        exact ret_i (v := 0) hx hb hr hlocks hS (hP.sub (ws' := [(h0, .inr (10, vL 67 F924)), (h_tape, .inl (cB, 940, .inl f_tape)), (h_h, .inl (cI, 104, .inl f_h)), (h_names, .inl (cJ, 36, .inr (.inl f_names))), (h_reserved, .inl (cJ, 23, .inr (.inl f_reserved)))]) [3, 4, 0, 1, 2] rfl) (hD.sub (ws' := [(h0, .inr (10, vL 67 F924)), (h_tape, .inl (cB, 940, .inl f_tape)), (h_h, .inl (cI, 104, .inl f_h)), (h_names, .inl (cJ, 36, .inr (.inl f_names))), (h_reserved, .inl (cJ, 23, .inr (.inl f_reserved)))]) [3, 4, 0, 1, 2] (by decide) rfl) dX10_line0_18 rfl (Nat.le_of_ble_eq_true rfl) (Nat.le_of_ble_eq_true rfl) (Or.inl ⟨F924, x_p, x_token, x_at, x_span, x_number, y925, y926, x_word, x_got, x_onces, f_h, f_names, (SAME.tr SAME.rf t927 (by decide)), (SAME.at t927 (by decide) e_p), i_x_p, (SAME.at t927 (by decide) e_token), i_x_token, (SAME.at t927 (by decide) e_at), (SAME.at t927 (by decide) e_span), (SAME.at t927 (by decide) e_number), t928, (ir_wk t929 (by decide) (by decide)), t930, (SAME.at t927 (by decide) e_word), (SAME.at t927 (by decide) e_got), (SAME.at t927 (by decide) e_onces), s_h_0, s_h_5, s_h_6, s_h_7, s_h_44, ((cLine_1 (tkM_1st (ONCF.t (k := 1) t3 (by omega) (by decide)).1) (lnwM (ONCF.t (k := 1) t3 (by omega) (by decide)).1 (ONCF.t (k := 1) t3 (by omega) (by decide)).2)).trans (inl_eq (cSet_t t931) t932.1 t932.2)), UN.rf, (by omega), rfl, rfl⟩)
    have dk894 : r1.toInt ≠ 1 := ne_i rfl rfl k894
    have k992 : 2 ≤ r1.toInt ∧ r1.toInt ≤ 4 := ⟨ne_lo dk894 k893.1 ⟨Int.le_refl _, Int.le_refl _⟩ (by decide), k893.2⟩
    by_cases k993 : r1 = 2
    · have dk993 : r1.toInt = 2 := eq_i rfl rfl k993
      have k994 : 2 ≤ r1.toInt ∧ r1.toInt ≤ 2 := ⟨k992.1, Int.le_trans (Int.le_of_eq dk993) (Int.le_refl _)⟩
      have hl : lv_has ls 3 [(1, .int 2), (0, .ref h0)] := by have q := hl; rw [k993] at q; exact q
      refine lv_aload_n hx hb dX10_line0_9 rfl (lv_at hl 1 rfl) ?_
      refine lv_iload_n hx hb dX10_line0_10 rfl (lv_at hl 0 rfl) ?_
      refine call_Vi (wr := [(h_h, .inl (cI, 104, .inl f_h)), (h_names, .inl (cJ, 36, .inr (.inl f_names))), (h_reserved, .inl (cJ, 23, .inr (.inl f_reserved)))]) (As := [.int 2]) (rest := []) hx hb hml hown hw (m_X10_isOnce l D cI cJ cB cP cM cZ h0 h_tape Fh x_size x_p x_limit x_token x_at x_number x_fault x_faultAt x_word x_onces f_tape 2 _ e_tape e_size i_x_size e_p i_x_p e_limit i_x_limit e_token i_x_token e_at e_number e_fault e_faultAt e_word e_onces (by omega)) wV_X10_239_X10_isOnce dX10_line0_11 hK hP hD hS hA [4, 0] [1, 2, 3] rfl rfl (by decide) (by decide) (by decide) 0 10 rfl rfl GG.fb hG.at hl.1 rfl (Nat.le_of_ble_eq_true rfl) ⟨(Nat.le_of_ble_eq_true rfl), (Nat.le_of_ble_eq_true rfl)⟩ ⟨(Nat.le_of_ble_eq_true rfl), (Nat.le_of_ble_eq_true rfl)⟩ (fun r995 u H locs hp hP hD hS => ?_)
      have zl2 : (2 : Int32).toInt = 2 := by decide
      rcases hp with hp | hp
      · refine hp.elim (fun F996 h9z0 => h9z0.elim (fun y997 h9z1 => h9z1.elim (fun y998 h9z2 => h9z2.elim (fun y999 h9z3 => h9z3.elim (fun y1000 h9z4 => h9z4.elim (fun y1001 h9z5 => h9z5.elim (fun y1002 h9z6 => h9z6.elim (fun y1003 h9z7 => h9z7.elim (fun t1004 h9z8 => h9z8.elim (fun t1005 h9z9 => h9z9.elim (fun t1006 h9z10 => h9z10.elim (fun t1007 h9z11 => h9z11.elim (fun t1008 h9z12 => h9z12.elim (fun t1009 h9z13 => h9z13.elim (fun t1010 h9z14 => h9z14.elim (fun t1011 h9z15 => h9z15.elim (fun t1012 h9z16 => h9z16.elim (fun t1013 h9z17 => h9z17.elim (fun t1014 h9z18 => h9z18.elim (fun t1015 h9z19 => h9z19.elim (fun t1016 h9z20 => h9z20.elim (fun t1017 h9z21 => h9z21.elim (fun t1018 h9z22 => h9z22.elim (fun t1019 h9z23 => h9z23.elim (fun t1020 h9z24 => h9z24.elim (fun t1021 h9z25 => h9z25.elim (fun t1022 h9z26 => h9z26.elim (fun heq927 h9z27 => ?_))))))))))))))))))))))))))))
        clear h9z0 h9z1 h9z2 h9z3 h9z4 h9z5 h9z6 h9z7 h9z8 h9z9 h9z10 h9z11 h9z12 h9z13 h9z14 h9z15 h9z16 h9z17 h9z18 h9z19 h9z20 h9z21 h9z22 h9z23 h9z24 h9z25 h9z26
        subst heq927
        subst h9z27
        have hP : va_P D vwCl [(h_h, .inl (cI, 104, .inl f_h)), (h_names, .inl (cJ, 36, .inr (.inl f_names))), (h_reserved, .inl (cJ, 23, .inr (.inl f_reserved))), (h0, .inr (10, vL 67 F996)), (h_tape, .inl (cB, 940, .inl f_tape))] H := hP
        have hD : va_D A [(h_h, .inl (cI, 104, .inl f_h)), (h_names, .inl (cJ, 36, .inr (.inl f_names))), (h_reserved, .inl (cJ, 23, .inr (.inl f_reserved))), (h0, .inr (10, vL 67 F996)), (h_tape, .inl (cB, 940, .inl f_tape))] := hD
        refine W.widen (k := 0) (n := 0) (Nat.le_of_ble_eq_true rfl) (Nat.le_of_ble_eq_true rfl) ?_
        refine lv_if_ne (tgt := 19) hx hb dX10_line0_14 (by decide) (fun _ => ?_) (fun g => absurd g (by decide))
        refine lv_aload_n hx hb dX10_line0_19 rfl (lv_at hl 1 rfl) ?_
        refine lv_iload_n hx hb dX10_line0_20 rfl (lv_at hl 0 rfl) ?_
        refine lv_if_ne (tgt := 28) hx hb dX10_line0_21 (by decide) (fun _ => ?_) (fun g => absurd g (by decide))
        refine lv_iload_n hx hb dX10_line0_28 rfl (lv_at hl 0 rfl) ?_
        refine lv_iconst (v := 1) hx hb dX10_line0_29 (by decide) ?_
        refine lv_icmp_ne (tgt := 38) hx hb dX10_line0_30 (by decide) (fun _ => ?_) (fun g => absurd g (by decide))
        refine lv_iload_n hx hb dX10_line0_38 rfl (lv_at hl 0 rfl) ?_
        refine lv_iconst (v := 2) hx hb dX10_line0_39 (by decide) ?_
        refine lv_icmp_ne (tgt := 49) hx hb dX10_line0_40 (by decide) (fun g => absurd (by decide) g) (fun _ => ?_)
        refine lv_sipush (v := 300) hx hb dX10_line0_43 (by decide) ?_
        refine lv_goto (tgt := 50) hx hb dX10_line0_46 (by decide) ?_
        refine lv_iload_n hx hb dX10_line0_50 rfl (lv_at hl 0 rfl) ?_
        refine lv_if_ne (tgt := 59) hx hb dX10_line0_51 (by decide) (fun _ => ?_) (fun g => absurd g (by decide))
        refine lv_iload_n hx hb dX10_line0_59 rfl (lv_at hl 0 rfl) ?_
        refine lv_iconst (v := 1) hx hb dX10_line0_60 (by decide) ?_
        refine lv_icmp_ne (tgt := 70) hx hb dX10_line0_61 (by decide) (fun _ => ?_) (fun g => absurd g (by decide))
        refine lv_iload_n hx hb dX10_line0_70 rfl (lv_at hl 0 rfl) ?_
        refine lv_iconst (v := 2) hx hb dX10_line0_71 (by decide) ?_
        refine lv_icmp_ne (tgt := 81) hx hb dX10_line0_72 (by decide) (fun g => absurd (by decide) g) (fun _ => ?_)
        refine lv_sipush (v := 900) hx hb dX10_line0_75 (by decide) ?_
        refine lv_goto (tgt := 93) hx hb dX10_line0_78 (by decide) ?_
        have n1034 : F996 1 = .ref h_tape := (SAME.at t1004 (by decide) e_tape)
        have n1035 : F996 3 = .int x_size := (SAME.at t1004 (by decide) e_size)
        have n1036 : F996 5 = .int x_limit := (SAME.at t1004 (by decide) e_limit)
        have n1037 : F996 15 = .int x_fault := (SAME.at t1004 (by decide) e_fault)
        have n1038 : F996 16 = .int x_faultAt := (SAME.at t1004 (by decide) e_faultAt)
        have n1039 : F996 19 = .int x_got := (SAME.at t1004 (by decide) e_got)
        refine call_Vi (wr := [(h_h, .inl (cI, 104, .inl f_h)), (h_names, .inl (cJ, 36, .inr (.inl f_names))), (h_reserved, .inl (cJ, 23, .inr (.inl f_reserved)))]) (As := [.int 300, .int 900]) (rest := []) hx hb hml hown hw (m_X10_takes l D cI cJ cB cP cM cZ h0 h_tape F996 x_size y997 x_limit y998 y999 y1001 x_fault x_faultAt y1002 x_got f_tape 300 900 _ n1034 n1035 i_x_size t1005 t1006 n1036 i_x_limit t1007 t1008 t1009 t1013 n1037 n1038 t1014 n1039 (by omega)) wV_X10_242_X10_takes dX10_line0_93 hK hP hD hS hA [3, 4] [0, 1, 2] rfl rfl (by decide) (by decide) (by decide) 0 10 rfl rfl GG.fb hG.at hl.1 rfl (Nat.le_of_ble_eq_true rfl) ⟨(Nat.le_of_ble_eq_true rfl), (Nat.le_of_ble_eq_true rfl)⟩ ⟨(Nat.le_of_ble_eq_true rfl), (Nat.le_of_ble_eq_true rfl)⟩ (fun r1040 u H locs hp hP hD hS => ?_)
        have zl300 : (300 : Int32).toInt = 300 := by decide
        have zl900 : (900 : Int32).toInt = 900 := by decide
        rcases hp with hp | hp
        · obtain ⟨F1041, y1042, y1043, t1044, t1045, t1046, t1047, t1048, rfl, rfl⟩ := hp
          have hP : va_P D vwCl [(h_h, .inl (cI, 104, .inl f_h)), (h_names, .inl (cJ, 36, .inr (.inl f_names))), (h_reserved, .inl (cJ, 23, .inr (.inl f_reserved))), (h0, .inr (10, vL 67 F1041)), (h_tape, .inl (cB, 940, .inl f_tape))] H := hP
          have hD : va_D A [(h_h, .inl (cI, 104, .inl f_h)), (h_names, .inl (cJ, 36, .inr (.inl f_names))), (h_reserved, .inl (cJ, 23, .inr (.inl f_reserved))), (h0, .inr (10, vL 67 F1041)), (h_tape, .inl (cB, 940, .inl f_tape))] := hD
          refine W.widen (k := 0) (n := 0) (Nat.le_of_ble_eq_true rfl) (Nat.le_of_ble_eq_true rfl) ?_
          refine lv_if_ne (tgt := 101) hx hb dX10_line0_96 (by decide) (fun g => absurd (by decide) g) (fun _ => ?_)
          refine lv_iconst (v := 0) hx hb dX10_line0_99 (by decide) ?_
          exact ret_i (v := 0) hx hb hr hlocks hS (hP.sub (ws' := [(h0, .inr (10, vL 67 F1041)), (h_tape, .inl (cB, 940, .inl f_tape)), (h_h, .inl (cI, 104, .inl f_h)), (h_names, .inl (cJ, 36, .inr (.inl f_names))), (h_reserved, .inl (cJ, 23, .inr (.inl f_reserved)))]) [3, 4, 0, 1, 2] rfl) (hD.sub (ws' := [(h0, .inr (10, vL 67 F1041)), (h_tape, .inl (cB, 940, .inl f_tape)), (h_h, .inl (cI, 104, .inl f_h)), (h_names, .inl (cJ, 36, .inr (.inl f_names))), (h_reserved, .inl (cJ, 23, .inr (.inl f_reserved)))]) [3, 4, 0, 1, 2] (by decide) rfl) dX10_line0_100 rfl (Nat.le_of_ble_eq_true rfl) (Nat.le_of_ble_eq_true rfl) (Or.inl ⟨F1041, y997, y998, y999, y1000, y1001, y1042, y1043, y1002, x_got, y1003, f_h, f_names, (SAME.tr (SAME.tr SAME.rf t1004 (by decide)) t1044 (by decide)), (SAME.at t1044 (by decide) t1005), t1006, (SAME.at t1044 (by decide) t1007), t1008, (SAME.at t1044 (by decide) t1009), (SAME.at t1044 (by decide) t1011), (SAME.at t1044 (by decide) t1013), t1045, (ir_wk t1046 (by decide) (by decide)), t1047, (SAME.at t1044 (by decide) t1014), (SAME.at t1044 (by decide) n1039), (SAME.at t1044 (by decide) t1015), s_h_0, s_h_5, s_h_6, s_h_7, s_h_44, ((cLine_2 (tkM_1st (ONCF.t (k := 2) t3 (by omega) (by decide)).1) (lnwM (ONCF.t (k := 2) t3 (by omega) (by decide)).1 (ONCF.t (k := 2) t3 (by omega) (by decide)).2)).trans (cSet_f t1019 (atM t1018 (ONCF.t (k := 2) t3 (by omega) (by decide)).1) t1048)), UN.rf, (by omega), rfl, rfl⟩)
        · refine hp.elim (fun F1049 h9z0 => h9z0.elim (fun y1050 h9z1 => h9z1.elim (fun y1051 h9z2 => h9z2.elim (fun y1052 h9z3 => h9z3.elim (fun y1053 h9z4 => h9z4.elim (fun y1054 h9z5 => h9z5.elim (fun y1055 h9z6 => h9z6.elim (fun y1056 h9z7 => h9z7.elim (fun t1057 h9z8 => h9z8.elim (fun t1058 h9z9 => h9z9.elim (fun t1059 h9z10 => h9z10.elim (fun t1060 h9z11 => h9z11.elim (fun t1061 h9z12 => h9z12.elim (fun t1062 h9z13 => h9z13.elim (fun t1063 h9z14 => h9z14.elim (fun t1064 h9z15 => h9z15.elim (fun t1065 h9z16 => h9z16.elim (fun t1066 h9z17 => h9z17.elim (fun t1067 h9z18 => h9z18.elim (fun t1068 h9z19 => h9z19.elim (fun t1069 h9z20 => h9z20.elim (fun t1070 h9z21 => h9z21.elim (fun t1071 h9z22 => h9z22.elim (fun t1072 h9z23 => h9z23.elim (fun t1073 h9z24 => h9z24.elim (fun t1074 h9z25 => h9z25.elim (fun t1075 h9z26 => h9z26.elim (fun t1076 h9z27 => h9z27.elim (fun t1077 h9z28 => h9z28.elim (fun t1078 h9z29 => h9z29.elim (fun heq930 h9z30 => ?_)))))))))))))))))))))))))))))))
          clear h9z0 h9z1 h9z2 h9z3 h9z4 h9z5 h9z6 h9z7 h9z8 h9z9 h9z10 h9z11 h9z12 h9z13 h9z14 h9z15 h9z16 h9z17 h9z18 h9z19 h9z20 h9z21 h9z22 h9z23 h9z24 h9z25 h9z26 h9z27 h9z28 h9z29
          subst heq930
          subst h9z30
          clear t1017 t1022
          have hP : va_P D vwCl [(h_h, .inl (cI, 104, .inl f_h)), (h_names, .inl (cJ, 36, .inr (.inl f_names))), (h_reserved, .inl (cJ, 23, .inr (.inl f_reserved))), (h0, .inr (10, vL 67 F1049)), (h_tape, .inl (cB, 940, .inl f_tape))] H := hP
          have hD : va_D A [(h_h, .inl (cI, 104, .inl f_h)), (h_names, .inl (cJ, 36, .inr (.inl f_names))), (h_reserved, .inl (cJ, 23, .inr (.inl f_reserved))), (h0, .inr (10, vL 67 F1049)), (h_tape, .inl (cB, 940, .inl f_tape))] := hD
          refine W.widen (k := 0) (n := 0) (Nat.le_of_ble_eq_true rfl) (Nat.le_of_ble_eq_true rfl) ?_
          have k1080 : 2 ≤ y998.toInt ∧ y998.toInt ≤ 2 := ⟨Int.le_trans (Int.le_refl _) (Int.le_of_eq t1069.symm), Int.le_trans (Int.le_of_eq t1069) (Int.le_refl _)⟩
          have k1081 : 300 ≤ y1001.toInt ∧ y1001.toInt ≤ 2147483647 := ⟨Int.le_trans (Int.le_refl _) t1070, (ir_any _).2⟩
          have k1082 : 300 ≤ y1001.toInt ∧ y1001.toInt ≤ 900 := ⟨k1081.1, Int.le_trans t1071 (Int.le_refl _)⟩
          refine lv_if_ne (tgt := 101) hx hb dX10_line0_96 (by decide) (fun _ => ?_) (fun g => absurd g (by decide))
          refine lv_aload_n hx hb dX10_line0_101 rfl (lv_at hl 1 rfl) ?_
          have n1083 : F996 7 = .ref h_h := (SAME.at t1004 (by decide) e_h)
          have n1084 : F1049 7 = .ref h_h := (SAME.at t1057 (by decide) n1083)
          refine get_f (D := D) (ci := 10) (v := .ref h_h) (C := RX10) (T := TX10) (N := 67) hx hb hw inAX10 hown hK hP 3 rfl rfl 7 (by decide) (hw _ q_1268) (fun _ h9 => h9) n1084 dX10_line0_102 ?_
          refine lv_iload_n hx hb dX10_line0_105 rfl (lv_at hl 0 rfl) ?_
          refine lv_aload_n hx hb dX10_line0_106 rfl (lv_at hl 1 rfl) ?_
          refine get_f (D := D) (ci := 10) (v := .int y1056) (C := RX10) (T := TX10) (N := 67) hx hb hw inAX10 hown hK hP 3 rfl rfl 19 (by decide) (hw _ q_1280) (fun _ h9 => h9) t1068 dX10_line0_107 ?_
          obtain ⟨g1085, eg1085⟩ : ∃ z : Nat → Int32, upd f_h 2 y1056 = z := ⟨_, rfl⟩
          have r1086 : SG 0 0 0 40 g1085 := by rw [← eg1085]; exact s_h_0.upN (Or.inr (Or.inl (by decide)))
          have r1087 : SG 44 55 0 9 g1085 := by rw [← eg1085]; exact s_h_44.upN (Or.inl (by decide))
          have r1088 : SG 5 5 0 12 g1085 := by rw [← eg1085]; exact s_h_5.upN (Or.inl (by decide))
          have r1089 : SG 6 6 0 12 g1085 := by rw [← eg1085]; exact s_h_6.upN (Or.inl (by decide))
          have r1090 : SG 7 7 0 6 g1085 := by rw [← eg1085]; exact s_h_7.upN (Or.inl (by decide))
          refine iast_n hx hb hK hP hD hS 0 0 rfl rfl 2 rfl (Nat.le_of_ble_eq_true rfl) (Nat.le_of_ble_eq_true rfl) eg1085 dX10_line0_110 (fun H locs hP hD hS => ?_)
          have hP : va_P D vwCl [(h_h, .inl (cI, 104, .inl g1085)), (h_names, .inl (cJ, 36, .inr (.inl f_names))), (h_reserved, .inl (cJ, 23, .inr (.inl f_reserved))), (h0, .inr (10, vL 67 F1049)), (h_tape, .inl (cB, 940, .inl f_tape))] H := hP
          have hD : va_D A [(h_h, .inl (cI, 104, .inl g1085)), (h_names, .inl (cJ, 36, .inr (.inl f_names))), (h_reserved, .inl (cJ, 23, .inr (.inl f_reserved))), (h0, .inr (10, vL 67 F1049)), (h_tape, .inl (cB, 940, .inl f_tape))] := hD
          refine lv_iconst (v := 1) hx hb dX10_line0_111 (by decide) ?_
          exact ret_i (v := 1) hx hb hr hlocks hS (hP.sub (ws' := [(h0, .inr (10, vL 67 F1049)), (h_tape, .inl (cB, 940, .inl f_tape)), (h_h, .inl (cI, 104, .inl g1085)), (h_names, .inl (cJ, 36, .inr (.inl f_names))), (h_reserved, .inl (cJ, 23, .inr (.inl f_reserved)))]) [3, 4, 0, 1, 2] rfl) (hD.sub (ws' := [(h0, .inr (10, vL 67 F1049)), (h_tape, .inl (cB, 940, .inl f_tape)), (h_h, .inl (cI, 104, .inl g1085)), (h_names, .inl (cJ, 36, .inr (.inl f_names))), (h_reserved, .inl (cJ, 23, .inr (.inl f_reserved)))]) [3, 4, 0, 1, 2] (by decide) rfl) dX10_line0_112 rfl (Nat.le_of_ble_eq_true rfl) (Nat.le_of_ble_eq_true rfl) (Or.inr ⟨F1049, y1050, y1051, y1052, y1053, y1054, y1055, y1056, y1003, g1085, f_names, (SAME.tr (SAME.tr SAME.rf t1004 (by decide)) t1057 (by decide)), t1058, t1059, t1060, t1061, t1062, t1063, t1064, t1065, t1066, t1067, t1068, (SAME.at t1057 (by decide) t1015), r1086, r1088, r1089, r1090, r1087, (by have zl1 : (1 : Int32).toInt = 1 := (by decide); omega), (by have zl1 : (1 : Int32).toInt = 1 := (by decide); omega), ((cLine_2 (tkM_1st (ONCF.t (k := 2) t3 (by omega) (by decide)).1) (lnwM (ONCF.t (k := 2) t3 (by omega) (by decide)).1 (ONCF.t (k := 2) t3 (by omega) (by decide)).2)).trans (fin_r (cSet_o t1019 (atM t1018 (ONCF.t (k := 2) t3 (by omega) (by decide)).1) t1075 t1020 (by rw [if_neg (by decide)]; exact upd_n eg1085 (by decide))) (csM_s eg1085 (by decide)))), (ONCF.t (k := 2) t3 (by omega) (by decide)).1, (AV.h z_1 (upd_m eg1085 (by decide))), (AV.h z_2 (upd_m eg1085 (by decide))), t1077, UN.rf, (by omega), rfl, rfl⟩)
      · obtain ⟨F1023, y1024, y1025, t1026, t1027, t1028, t1029, t1030, t1031, t1032, rfl, rfl⟩ := hp
        have hP : va_P D vwCl [(h_h, .inl (cI, 104, .inl f_h)), (h_names, .inl (cJ, 36, .inr (.inl f_names))), (h_reserved, .inl (cJ, 23, .inr (.inl f_reserved))), (h0, .inr (10, vL 67 F1023)), (h_tape, .inl (cB, 940, .inl f_tape))] H := hP
        have hD : va_D A [(h_h, .inl (cI, 104, .inl f_h)), (h_names, .inl (cJ, 36, .inr (.inl f_names))), (h_reserved, .inl (cJ, 23, .inr (.inl f_reserved))), (h0, .inr (10, vL 67 F1023)), (h_tape, .inl (cB, 940, .inl f_tape))] := hD
        refine W.widen (k := 0) (n := 0) (Nat.le_of_ble_eq_true rfl) (Nat.le_of_ble_eq_true rfl) ?_
        refine lv_if_ne (tgt := 19) hx hb dX10_line0_14 (by decide) (fun g => absurd (by decide) g) (fun _ => ?_)
        refine lv_iconst (v := 0) hx hb dX10_line0_17 (by decide) ?_
        exact ret_i (v := 0) hx hb hr hlocks hS (hP.sub (ws' := [(h0, .inr (10, vL 67 F1023)), (h_tape, .inl (cB, 940, .inl f_tape)), (h_h, .inl (cI, 104, .inl f_h)), (h_names, .inl (cJ, 36, .inr (.inl f_names))), (h_reserved, .inl (cJ, 23, .inr (.inl f_reserved)))]) [3, 4, 0, 1, 2] rfl) (hD.sub (ws' := [(h0, .inr (10, vL 67 F1023)), (h_tape, .inl (cB, 940, .inl f_tape)), (h_h, .inl (cI, 104, .inl f_h)), (h_names, .inl (cJ, 36, .inr (.inl f_names))), (h_reserved, .inl (cJ, 23, .inr (.inl f_reserved)))]) [3, 4, 0, 1, 2] (by decide) rfl) dX10_line0_18 rfl (Nat.le_of_ble_eq_true rfl) (Nat.le_of_ble_eq_true rfl) (Or.inl ⟨F1023, x_p, x_token, x_at, x_span, x_number, y1024, y1025, x_word, x_got, x_onces, f_h, f_names, (SAME.tr SAME.rf t1026 (by decide)), (SAME.at t1026 (by decide) e_p), i_x_p, (SAME.at t1026 (by decide) e_token), i_x_token, (SAME.at t1026 (by decide) e_at), (SAME.at t1026 (by decide) e_span), (SAME.at t1026 (by decide) e_number), t1027, (ir_wk t1028 (by decide) (by decide)), t1029, (SAME.at t1026 (by decide) e_word), (SAME.at t1026 (by decide) e_got), (SAME.at t1026 (by decide) e_onces), s_h_0, s_h_5, s_h_6, s_h_7, s_h_44, ((cLine_2 (tkM_1st (ONCF.t (k := 2) t3 (by omega) (by decide)).1) (lnwM (ONCF.t (k := 2) t3 (by omega) (by decide)).1 (ONCF.t (k := 2) t3 (by omega) (by decide)).2)).trans (inl_eq (cSet_t t1030) t1031.1 t1031.2)), UN.rf, (by omega), rfl, rfl⟩)
    have dk993 : r1.toInt ≠ 2 := ne_i rfl rfl k993
    have k1091 : 3 ≤ r1.toInt ∧ r1.toInt ≤ 4 := ⟨ne_lo dk993 k992.1 ⟨Int.le_refl _, Int.le_refl _⟩ (by decide), k992.2⟩
    by_cases k1092 : r1 = 3
    · have dk1092 : r1.toInt = 3 := eq_i rfl rfl k1092
      have k1093 : 3 ≤ r1.toInt ∧ r1.toInt ≤ 3 := ⟨k1091.1, Int.le_trans (Int.le_of_eq dk1092) (Int.le_refl _)⟩
      have hl : lv_has ls 3 [(1, .int 3), (0, .ref h0)] := by have q := hl; rw [k1092] at q; exact q
      refine lv_aload_n hx hb dX10_line0_9 rfl (lv_at hl 1 rfl) ?_
      refine lv_iload_n hx hb dX10_line0_10 rfl (lv_at hl 0 rfl) ?_
      refine call_Vi (wr := [(h_h, .inl (cI, 104, .inl f_h)), (h_names, .inl (cJ, 36, .inr (.inl f_names))), (h_reserved, .inl (cJ, 23, .inr (.inl f_reserved)))]) (As := [.int 3]) (rest := []) hx hb hml hown hw (m_X10_isOnce l D cI cJ cB cP cM cZ h0 h_tape Fh x_size x_p x_limit x_token x_at x_number x_fault x_faultAt x_word x_onces f_tape 3 _ e_tape e_size i_x_size e_p i_x_p e_limit i_x_limit e_token i_x_token e_at e_number e_fault e_faultAt e_word e_onces (by omega)) wV_X10_239_X10_isOnce dX10_line0_11 hK hP hD hS hA [4, 0] [1, 2, 3] rfl rfl (by decide) (by decide) (by decide) 0 10 rfl rfl GG.fb hG.at hl.1 rfl (Nat.le_of_ble_eq_true rfl) ⟨(Nat.le_of_ble_eq_true rfl), (Nat.le_of_ble_eq_true rfl)⟩ ⟨(Nat.le_of_ble_eq_true rfl), (Nat.le_of_ble_eq_true rfl)⟩ (fun r1094 u H locs hp hP hD hS => ?_)
      have zl3 : (3 : Int32).toInt = 3 := by decide
      rcases hp with hp | hp
      · refine hp.elim (fun F1095 h9z0 => h9z0.elim (fun y1096 h9z1 => h9z1.elim (fun y1097 h9z2 => h9z2.elim (fun y1098 h9z3 => h9z3.elim (fun y1099 h9z4 => h9z4.elim (fun y1100 h9z5 => h9z5.elim (fun y1101 h9z6 => h9z6.elim (fun y1102 h9z7 => h9z7.elim (fun t1103 h9z8 => h9z8.elim (fun t1104 h9z9 => h9z9.elim (fun t1105 h9z10 => h9z10.elim (fun t1106 h9z11 => h9z11.elim (fun t1107 h9z12 => h9z12.elim (fun t1108 h9z13 => h9z13.elim (fun t1109 h9z14 => h9z14.elim (fun t1110 h9z15 => h9z15.elim (fun t1111 h9z16 => h9z16.elim (fun t1112 h9z17 => h9z17.elim (fun t1113 h9z18 => h9z18.elim (fun t1114 h9z19 => h9z19.elim (fun t1115 h9z20 => h9z20.elim (fun t1116 h9z21 => h9z21.elim (fun t1117 h9z22 => h9z22.elim (fun t1118 h9z23 => h9z23.elim (fun t1119 h9z24 => h9z24.elim (fun t1120 h9z25 => h9z25.elim (fun t1121 h9z26 => h9z26.elim (fun heq927 h9z27 => ?_))))))))))))))))))))))))))))
        clear h9z0 h9z1 h9z2 h9z3 h9z4 h9z5 h9z6 h9z7 h9z8 h9z9 h9z10 h9z11 h9z12 h9z13 h9z14 h9z15 h9z16 h9z17 h9z18 h9z19 h9z20 h9z21 h9z22 h9z23 h9z24 h9z25 h9z26
        subst heq927
        subst h9z27
        have hP : va_P D vwCl [(h_h, .inl (cI, 104, .inl f_h)), (h_names, .inl (cJ, 36, .inr (.inl f_names))), (h_reserved, .inl (cJ, 23, .inr (.inl f_reserved))), (h0, .inr (10, vL 67 F1095)), (h_tape, .inl (cB, 940, .inl f_tape))] H := hP
        have hD : va_D A [(h_h, .inl (cI, 104, .inl f_h)), (h_names, .inl (cJ, 36, .inr (.inl f_names))), (h_reserved, .inl (cJ, 23, .inr (.inl f_reserved))), (h0, .inr (10, vL 67 F1095)), (h_tape, .inl (cB, 940, .inl f_tape))] := hD
        refine W.widen (k := 0) (n := 0) (Nat.le_of_ble_eq_true rfl) (Nat.le_of_ble_eq_true rfl) ?_
        refine lv_if_ne (tgt := 19) hx hb dX10_line0_14 (by decide) (fun _ => ?_) (fun g => absurd g (by decide))
        refine lv_aload_n hx hb dX10_line0_19 rfl (lv_at hl 1 rfl) ?_
        refine lv_iload_n hx hb dX10_line0_20 rfl (lv_at hl 0 rfl) ?_
        refine lv_if_ne (tgt := 28) hx hb dX10_line0_21 (by decide) (fun _ => ?_) (fun g => absurd g (by decide))
        refine lv_iload_n hx hb dX10_line0_28 rfl (lv_at hl 0 rfl) ?_
        refine lv_iconst (v := 1) hx hb dX10_line0_29 (by decide) ?_
        refine lv_icmp_ne (tgt := 38) hx hb dX10_line0_30 (by decide) (fun _ => ?_) (fun g => absurd g (by decide))
        refine lv_iload_n hx hb dX10_line0_38 rfl (lv_at hl 0 rfl) ?_
        refine lv_iconst (v := 2) hx hb dX10_line0_39 (by decide) ?_
        refine lv_icmp_ne (tgt := 49) hx hb dX10_line0_40 (by decide) (fun _ => ?_) (fun g => absurd g (by decide))
        refine lv_iconst (v := 0) hx hb dX10_line0_49 (by decide) ?_
        refine lv_iload_n hx hb dX10_line0_50 rfl (lv_at hl 0 rfl) ?_
        refine lv_if_ne (tgt := 59) hx hb dX10_line0_51 (by decide) (fun _ => ?_) (fun g => absurd g (by decide))
        refine lv_iload_n hx hb dX10_line0_59 rfl (lv_at hl 0 rfl) ?_
        refine lv_iconst (v := 1) hx hb dX10_line0_60 (by decide) ?_
        refine lv_icmp_ne (tgt := 70) hx hb dX10_line0_61 (by decide) (fun _ => ?_) (fun g => absurd g (by decide))
        refine lv_iload_n hx hb dX10_line0_70 rfl (lv_at hl 0 rfl) ?_
        refine lv_iconst (v := 2) hx hb dX10_line0_71 (by decide) ?_
        refine lv_icmp_ne (tgt := 81) hx hb dX10_line0_72 (by decide) (fun _ => ?_) (fun g => absurd g (by decide))
        refine lv_iload_n hx hb dX10_line0_81 rfl (lv_at hl 0 rfl) ?_
        refine lv_iconst (v := 3) hx hb dX10_line0_82 (by decide) ?_
        refine lv_icmp_ne (tgt := 91) hx hb dX10_line0_83 (by decide) (fun g => absurd (by decide) g) (fun _ => ?_)
        refine lv_bipush (v := 9) hx hb dX10_line0_86 (by decide) ?_
        refine lv_goto (tgt := 93) hx hb dX10_line0_88 (by decide) ?_
        have n1133 : F1095 1 = .ref h_tape := (SAME.at t1103 (by decide) e_tape)
        have n1134 : F1095 3 = .int x_size := (SAME.at t1103 (by decide) e_size)
        have n1135 : F1095 5 = .int x_limit := (SAME.at t1103 (by decide) e_limit)
        have n1136 : F1095 15 = .int x_fault := (SAME.at t1103 (by decide) e_fault)
        have n1137 : F1095 16 = .int x_faultAt := (SAME.at t1103 (by decide) e_faultAt)
        have n1138 : F1095 19 = .int x_got := (SAME.at t1103 (by decide) e_got)
        refine call_Vi (wr := [(h_h, .inl (cI, 104, .inl f_h)), (h_names, .inl (cJ, 36, .inr (.inl f_names))), (h_reserved, .inl (cJ, 23, .inr (.inl f_reserved)))]) (As := [.int 0, .int 9]) (rest := []) hx hb hml hown hw (m_X10_takes l D cI cJ cB cP cM cZ h0 h_tape F1095 x_size y1096 x_limit y1097 y1098 y1100 x_fault x_faultAt y1101 x_got f_tape 0 9 _ n1133 n1134 i_x_size t1104 t1105 n1135 i_x_limit t1106 t1107 t1108 t1112 n1136 n1137 t1113 n1138 (by omega)) wV_X10_242_X10_takes dX10_line0_93 hK hP hD hS hA [3, 4] [0, 1, 2] rfl rfl (by decide) (by decide) (by decide) 0 10 rfl rfl GG.fb hG.at hl.1 rfl (Nat.le_of_ble_eq_true rfl) ⟨(Nat.le_of_ble_eq_true rfl), (Nat.le_of_ble_eq_true rfl)⟩ ⟨(Nat.le_of_ble_eq_true rfl), (Nat.le_of_ble_eq_true rfl)⟩ (fun r1139 u H locs hp hP hD hS => ?_)
        have zl0 : (0 : Int32).toInt = 0 := by decide
        have zl9 : (9 : Int32).toInt = 9 := by decide
        rcases hp with hp | hp
        · obtain ⟨F1140, y1141, y1142, t1143, t1144, t1145, t1146, t1147, rfl, rfl⟩ := hp
          have hP : va_P D vwCl [(h_h, .inl (cI, 104, .inl f_h)), (h_names, .inl (cJ, 36, .inr (.inl f_names))), (h_reserved, .inl (cJ, 23, .inr (.inl f_reserved))), (h0, .inr (10, vL 67 F1140)), (h_tape, .inl (cB, 940, .inl f_tape))] H := hP
          have hD : va_D A [(h_h, .inl (cI, 104, .inl f_h)), (h_names, .inl (cJ, 36, .inr (.inl f_names))), (h_reserved, .inl (cJ, 23, .inr (.inl f_reserved))), (h0, .inr (10, vL 67 F1140)), (h_tape, .inl (cB, 940, .inl f_tape))] := hD
          refine W.widen (k := 0) (n := 0) (Nat.le_of_ble_eq_true rfl) (Nat.le_of_ble_eq_true rfl) ?_
          refine lv_if_ne (tgt := 101) hx hb dX10_line0_96 (by decide) (fun g => absurd (by decide) g) (fun _ => ?_)
          refine lv_iconst (v := 0) hx hb dX10_line0_99 (by decide) ?_
          exact ret_i (v := 0) hx hb hr hlocks hS (hP.sub (ws' := [(h0, .inr (10, vL 67 F1140)), (h_tape, .inl (cB, 940, .inl f_tape)), (h_h, .inl (cI, 104, .inl f_h)), (h_names, .inl (cJ, 36, .inr (.inl f_names))), (h_reserved, .inl (cJ, 23, .inr (.inl f_reserved)))]) [3, 4, 0, 1, 2] rfl) (hD.sub (ws' := [(h0, .inr (10, vL 67 F1140)), (h_tape, .inl (cB, 940, .inl f_tape)), (h_h, .inl (cI, 104, .inl f_h)), (h_names, .inl (cJ, 36, .inr (.inl f_names))), (h_reserved, .inl (cJ, 23, .inr (.inl f_reserved)))]) [3, 4, 0, 1, 2] (by decide) rfl) dX10_line0_100 rfl (Nat.le_of_ble_eq_true rfl) (Nat.le_of_ble_eq_true rfl) (Or.inl ⟨F1140, y1096, y1097, y1098, y1099, y1100, y1141, y1142, y1101, x_got, y1102, f_h, f_names, (SAME.tr (SAME.tr SAME.rf t1103 (by decide)) t1143 (by decide)), (SAME.at t1143 (by decide) t1104), t1105, (SAME.at t1143 (by decide) t1106), t1107, (SAME.at t1143 (by decide) t1108), (SAME.at t1143 (by decide) t1110), (SAME.at t1143 (by decide) t1112), t1144, (ir_wk t1145 (by decide) (by decide)), t1146, (SAME.at t1143 (by decide) t1113), (SAME.at t1143 (by decide) n1138), (SAME.at t1143 (by decide) t1114), s_h_0, s_h_5, s_h_6, s_h_7, s_h_44, ((cLine_3 (tkM_1st (ONCF.t (k := 3) t3 (by omega) (by decide)).1) (lnwM (ONCF.t (k := 3) t3 (by omega) (by decide)).1 (ONCF.t (k := 3) t3 (by omega) (by decide)).2)).trans (cSet_f t1118 (atM t1117 (ONCF.t (k := 3) t3 (by omega) (by decide)).1) t1147)), UN.rf, (by omega), rfl, rfl⟩)
        · refine hp.elim (fun F1148 h9z0 => h9z0.elim (fun y1149 h9z1 => h9z1.elim (fun y1150 h9z2 => h9z2.elim (fun y1151 h9z3 => h9z3.elim (fun y1152 h9z4 => h9z4.elim (fun y1153 h9z5 => h9z5.elim (fun y1154 h9z6 => h9z6.elim (fun y1155 h9z7 => h9z7.elim (fun t1156 h9z8 => h9z8.elim (fun t1157 h9z9 => h9z9.elim (fun t1158 h9z10 => h9z10.elim (fun t1159 h9z11 => h9z11.elim (fun t1160 h9z12 => h9z12.elim (fun t1161 h9z13 => h9z13.elim (fun t1162 h9z14 => h9z14.elim (fun t1163 h9z15 => h9z15.elim (fun t1164 h9z16 => h9z16.elim (fun t1165 h9z17 => h9z17.elim (fun t1166 h9z18 => h9z18.elim (fun t1167 h9z19 => h9z19.elim (fun t1168 h9z20 => h9z20.elim (fun t1169 h9z21 => h9z21.elim (fun t1170 h9z22 => h9z22.elim (fun t1171 h9z23 => h9z23.elim (fun t1172 h9z24 => h9z24.elim (fun t1173 h9z25 => h9z25.elim (fun t1174 h9z26 => h9z26.elim (fun t1175 h9z27 => h9z27.elim (fun t1176 h9z28 => h9z28.elim (fun t1177 h9z29 => h9z29.elim (fun heq930 h9z30 => ?_)))))))))))))))))))))))))))))))
          clear h9z0 h9z1 h9z2 h9z3 h9z4 h9z5 h9z6 h9z7 h9z8 h9z9 h9z10 h9z11 h9z12 h9z13 h9z14 h9z15 h9z16 h9z17 h9z18 h9z19 h9z20 h9z21 h9z22 h9z23 h9z24 h9z25 h9z26 h9z27 h9z28 h9z29
          subst heq930
          subst h9z30
          clear t1116 t1121
          have hP : va_P D vwCl [(h_h, .inl (cI, 104, .inl f_h)), (h_names, .inl (cJ, 36, .inr (.inl f_names))), (h_reserved, .inl (cJ, 23, .inr (.inl f_reserved))), (h0, .inr (10, vL 67 F1148)), (h_tape, .inl (cB, 940, .inl f_tape))] H := hP
          have hD : va_D A [(h_h, .inl (cI, 104, .inl f_h)), (h_names, .inl (cJ, 36, .inr (.inl f_names))), (h_reserved, .inl (cJ, 23, .inr (.inl f_reserved))), (h0, .inr (10, vL 67 F1148)), (h_tape, .inl (cB, 940, .inl f_tape))] := hD
          refine W.widen (k := 0) (n := 0) (Nat.le_of_ble_eq_true rfl) (Nat.le_of_ble_eq_true rfl) ?_
          have k1179 : 2 ≤ y1097.toInt ∧ y1097.toInt ≤ 2 := ⟨Int.le_trans (Int.le_refl _) (Int.le_of_eq t1168.symm), Int.le_trans (Int.le_of_eq t1168) (Int.le_refl _)⟩
          have k1180 : 0 ≤ y1100.toInt ∧ y1100.toInt ≤ 2147483647 := ⟨Int.le_trans (Int.le_refl _) t1169, (ir_any _).2⟩
          have k1181 : 0 ≤ y1100.toInt ∧ y1100.toInt ≤ 9 := ⟨k1180.1, Int.le_trans t1170 (Int.le_refl _)⟩
          refine lv_if_ne (tgt := 101) hx hb dX10_line0_96 (by decide) (fun _ => ?_) (fun g => absurd g (by decide))
          refine lv_aload_n hx hb dX10_line0_101 rfl (lv_at hl 1 rfl) ?_
          have n1182 : F1095 7 = .ref h_h := (SAME.at t1103 (by decide) e_h)
          have n1183 : F1148 7 = .ref h_h := (SAME.at t1156 (by decide) n1182)
          refine get_f (D := D) (ci := 10) (v := .ref h_h) (C := RX10) (T := TX10) (N := 67) hx hb hw inAX10 hown hK hP 3 rfl rfl 7 (by decide) (hw _ q_1268) (fun _ h9 => h9) n1183 dX10_line0_102 ?_
          refine lv_iload_n hx hb dX10_line0_105 rfl (lv_at hl 0 rfl) ?_
          refine lv_aload_n hx hb dX10_line0_106 rfl (lv_at hl 1 rfl) ?_
          refine get_f (D := D) (ci := 10) (v := .int y1155) (C := RX10) (T := TX10) (N := 67) hx hb hw inAX10 hown hK hP 3 rfl rfl 19 (by decide) (hw _ q_1280) (fun _ h9 => h9) t1167 dX10_line0_107 ?_
          obtain ⟨g1184, eg1184⟩ : ∃ z : Nat → Int32, upd f_h 3 y1155 = z := ⟨_, rfl⟩
          have r1185 : SG 0 0 0 40 g1184 := by rw [← eg1184]; exact s_h_0.upN (Or.inr (Or.inl (by decide)))
          have r1186 : SG 44 55 0 9 g1184 := by rw [← eg1184]; exact s_h_44.upN (Or.inl (by decide))
          have r1187 : SG 5 5 0 12 g1184 := by rw [← eg1184]; exact s_h_5.upN (Or.inl (by decide))
          have r1188 : SG 6 6 0 12 g1184 := by rw [← eg1184]; exact s_h_6.upN (Or.inl (by decide))
          have r1189 : SG 7 7 0 6 g1184 := by rw [← eg1184]; exact s_h_7.upN (Or.inl (by decide))
          refine iast_n hx hb hK hP hD hS 0 0 rfl rfl 3 rfl (Nat.le_of_ble_eq_true rfl) (Nat.le_of_ble_eq_true rfl) eg1184 dX10_line0_110 (fun H locs hP hD hS => ?_)
          have hP : va_P D vwCl [(h_h, .inl (cI, 104, .inl g1184)), (h_names, .inl (cJ, 36, .inr (.inl f_names))), (h_reserved, .inl (cJ, 23, .inr (.inl f_reserved))), (h0, .inr (10, vL 67 F1148)), (h_tape, .inl (cB, 940, .inl f_tape))] H := hP
          have hD : va_D A [(h_h, .inl (cI, 104, .inl g1184)), (h_names, .inl (cJ, 36, .inr (.inl f_names))), (h_reserved, .inl (cJ, 23, .inr (.inl f_reserved))), (h0, .inr (10, vL 67 F1148)), (h_tape, .inl (cB, 940, .inl f_tape))] := hD
          refine lv_iconst (v := 1) hx hb dX10_line0_111 (by decide) ?_
          exact ret_i (v := 1) hx hb hr hlocks hS (hP.sub (ws' := [(h0, .inr (10, vL 67 F1148)), (h_tape, .inl (cB, 940, .inl f_tape)), (h_h, .inl (cI, 104, .inl g1184)), (h_names, .inl (cJ, 36, .inr (.inl f_names))), (h_reserved, .inl (cJ, 23, .inr (.inl f_reserved)))]) [3, 4, 0, 1, 2] rfl) (hD.sub (ws' := [(h0, .inr (10, vL 67 F1148)), (h_tape, .inl (cB, 940, .inl f_tape)), (h_h, .inl (cI, 104, .inl g1184)), (h_names, .inl (cJ, 36, .inr (.inl f_names))), (h_reserved, .inl (cJ, 23, .inr (.inl f_reserved)))]) [3, 4, 0, 1, 2] (by decide) rfl) dX10_line0_112 rfl (Nat.le_of_ble_eq_true rfl) (Nat.le_of_ble_eq_true rfl) (Or.inr ⟨F1148, y1149, y1150, y1151, y1152, y1153, y1154, y1155, y1102, g1184, f_names, (SAME.tr (SAME.tr SAME.rf t1103 (by decide)) t1156 (by decide)), t1157, t1158, t1159, t1160, t1161, t1162, t1163, t1164, t1165, t1166, t1167, (SAME.at t1156 (by decide) t1114), r1185, r1187, r1188, r1189, r1186, (by have zl1 : (1 : Int32).toInt = 1 := (by decide); omega), (by have zl1 : (1 : Int32).toInt = 1 := (by decide); omega), ((cLine_3 (tkM_1st (ONCF.t (k := 3) t3 (by omega) (by decide)).1) (lnwM (ONCF.t (k := 3) t3 (by omega) (by decide)).1 (ONCF.t (k := 3) t3 (by omega) (by decide)).2)).trans (fin_r (cSet_o t1118 (atM t1117 (ONCF.t (k := 3) t3 (by omega) (by decide)).1) t1174 t1119 (by rw [if_neg (by decide)]; exact upd_n eg1184 (by decide))) (csM_s eg1184 (by decide)))), (ONCF.t (k := 3) t3 (by omega) (by decide)).1, (AV.h z_1 (upd_m eg1184 (by decide))), (AV.h z_2 (upd_m eg1184 (by decide))), t1176, UN.rf, (by omega), rfl, rfl⟩)
      · obtain ⟨F1122, y1123, y1124, t1125, t1126, t1127, t1128, t1129, t1130, t1131, rfl, rfl⟩ := hp
        have hP : va_P D vwCl [(h_h, .inl (cI, 104, .inl f_h)), (h_names, .inl (cJ, 36, .inr (.inl f_names))), (h_reserved, .inl (cJ, 23, .inr (.inl f_reserved))), (h0, .inr (10, vL 67 F1122)), (h_tape, .inl (cB, 940, .inl f_tape))] H := hP
        have hD : va_D A [(h_h, .inl (cI, 104, .inl f_h)), (h_names, .inl (cJ, 36, .inr (.inl f_names))), (h_reserved, .inl (cJ, 23, .inr (.inl f_reserved))), (h0, .inr (10, vL 67 F1122)), (h_tape, .inl (cB, 940, .inl f_tape))] := hD
        refine W.widen (k := 0) (n := 0) (Nat.le_of_ble_eq_true rfl) (Nat.le_of_ble_eq_true rfl) ?_
        refine lv_if_ne (tgt := 19) hx hb dX10_line0_14 (by decide) (fun g => absurd (by decide) g) (fun _ => ?_)
        refine lv_iconst (v := 0) hx hb dX10_line0_17 (by decide) ?_
        exact ret_i (v := 0) hx hb hr hlocks hS (hP.sub (ws' := [(h0, .inr (10, vL 67 F1122)), (h_tape, .inl (cB, 940, .inl f_tape)), (h_h, .inl (cI, 104, .inl f_h)), (h_names, .inl (cJ, 36, .inr (.inl f_names))), (h_reserved, .inl (cJ, 23, .inr (.inl f_reserved)))]) [3, 4, 0, 1, 2] rfl) (hD.sub (ws' := [(h0, .inr (10, vL 67 F1122)), (h_tape, .inl (cB, 940, .inl f_tape)), (h_h, .inl (cI, 104, .inl f_h)), (h_names, .inl (cJ, 36, .inr (.inl f_names))), (h_reserved, .inl (cJ, 23, .inr (.inl f_reserved)))]) [3, 4, 0, 1, 2] (by decide) rfl) dX10_line0_18 rfl (Nat.le_of_ble_eq_true rfl) (Nat.le_of_ble_eq_true rfl) (Or.inl ⟨F1122, x_p, x_token, x_at, x_span, x_number, y1123, y1124, x_word, x_got, x_onces, f_h, f_names, (SAME.tr SAME.rf t1125 (by decide)), (SAME.at t1125 (by decide) e_p), i_x_p, (SAME.at t1125 (by decide) e_token), i_x_token, (SAME.at t1125 (by decide) e_at), (SAME.at t1125 (by decide) e_span), (SAME.at t1125 (by decide) e_number), t1126, (ir_wk t1127 (by decide) (by decide)), t1128, (SAME.at t1125 (by decide) e_word), (SAME.at t1125 (by decide) e_got), (SAME.at t1125 (by decide) e_onces), s_h_0, s_h_5, s_h_6, s_h_7, s_h_44, ((cLine_3 (tkM_1st (ONCF.t (k := 3) t3 (by omega) (by decide)).1) (lnwM (ONCF.t (k := 3) t3 (by omega) (by decide)).1 (ONCF.t (k := 3) t3 (by omega) (by decide)).2)).trans (inl_eq (cSet_t t1129) t1130.1 t1130.2)), UN.rf, (by omega), rfl, rfl⟩)
    have dk1092 : r1.toInt ≠ 3 := ne_i rfl rfl k1092
    have k1190 : 4 ≤ r1.toInt ∧ r1.toInt ≤ 4 := ⟨ne_lo dk1092 k1091.1 ⟨Int.le_refl _, Int.le_refl _⟩ (by decide), k1091.2⟩
    have k1191 : r1 = 4 := Int32.toInt_inj.mp (show r1.toInt = 4 by omega)
    have dk1191 : r1.toInt = 4 := eq_i rfl rfl k1191
    have hl : lv_has ls 3 [(1, .int 4), (0, .ref h0)] := by have q := hl; rw [k1191] at q; exact q
    refine lv_aload_n hx hb dX10_line0_9 rfl (lv_at hl 1 rfl) ?_
    refine lv_iload_n hx hb dX10_line0_10 rfl (lv_at hl 0 rfl) ?_
    refine call_Vi (wr := [(h_h, .inl (cI, 104, .inl f_h)), (h_names, .inl (cJ, 36, .inr (.inl f_names))), (h_reserved, .inl (cJ, 23, .inr (.inl f_reserved)))]) (As := [.int 4]) (rest := []) hx hb hml hown hw (m_X10_isOnce l D cI cJ cB cP cM cZ h0 h_tape Fh x_size x_p x_limit x_token x_at x_number x_fault x_faultAt x_word x_onces f_tape 4 _ e_tape e_size i_x_size e_p i_x_p e_limit i_x_limit e_token i_x_token e_at e_number e_fault e_faultAt e_word e_onces (by omega)) wV_X10_239_X10_isOnce dX10_line0_11 hK hP hD hS hA [4, 0] [1, 2, 3] rfl rfl (by decide) (by decide) (by decide) 0 10 rfl rfl GG.fb hG.at hl.1 rfl (Nat.le_of_ble_eq_true rfl) ⟨(Nat.le_of_ble_eq_true rfl), (Nat.le_of_ble_eq_true rfl)⟩ ⟨(Nat.le_of_ble_eq_true rfl), (Nat.le_of_ble_eq_true rfl)⟩ (fun r1192 u H locs hp hP hD hS => ?_)
    have zl4 : (4 : Int32).toInt = 4 := by decide
    rcases hp with hp | hp
    · refine hp.elim (fun F1193 h9z0 => h9z0.elim (fun y1194 h9z1 => h9z1.elim (fun y1195 h9z2 => h9z2.elim (fun y1196 h9z3 => h9z3.elim (fun y1197 h9z4 => h9z4.elim (fun y1198 h9z5 => h9z5.elim (fun y1199 h9z6 => h9z6.elim (fun y1200 h9z7 => h9z7.elim (fun t1201 h9z8 => h9z8.elim (fun t1202 h9z9 => h9z9.elim (fun t1203 h9z10 => h9z10.elim (fun t1204 h9z11 => h9z11.elim (fun t1205 h9z12 => h9z12.elim (fun t1206 h9z13 => h9z13.elim (fun t1207 h9z14 => h9z14.elim (fun t1208 h9z15 => h9z15.elim (fun t1209 h9z16 => h9z16.elim (fun t1210 h9z17 => h9z17.elim (fun t1211 h9z18 => h9z18.elim (fun t1212 h9z19 => h9z19.elim (fun t1213 h9z20 => h9z20.elim (fun t1214 h9z21 => h9z21.elim (fun t1215 h9z22 => h9z22.elim (fun t1216 h9z23 => h9z23.elim (fun t1217 h9z24 => h9z24.elim (fun t1218 h9z25 => h9z25.elim (fun t1219 h9z26 => h9z26.elim (fun heq927 h9z27 => ?_))))))))))))))))))))))))))))
      clear h9z0 h9z1 h9z2 h9z3 h9z4 h9z5 h9z6 h9z7 h9z8 h9z9 h9z10 h9z11 h9z12 h9z13 h9z14 h9z15 h9z16 h9z17 h9z18 h9z19 h9z20 h9z21 h9z22 h9z23 h9z24 h9z25 h9z26
      subst heq927
      subst h9z27
      have hP : va_P D vwCl [(h_h, .inl (cI, 104, .inl f_h)), (h_names, .inl (cJ, 36, .inr (.inl f_names))), (h_reserved, .inl (cJ, 23, .inr (.inl f_reserved))), (h0, .inr (10, vL 67 F1193)), (h_tape, .inl (cB, 940, .inl f_tape))] H := hP
      have hD : va_D A [(h_h, .inl (cI, 104, .inl f_h)), (h_names, .inl (cJ, 36, .inr (.inl f_names))), (h_reserved, .inl (cJ, 23, .inr (.inl f_reserved))), (h0, .inr (10, vL 67 F1193)), (h_tape, .inl (cB, 940, .inl f_tape))] := hD
      refine W.widen (k := 0) (n := 0) (Nat.le_of_ble_eq_true rfl) (Nat.le_of_ble_eq_true rfl) ?_
      refine lv_if_ne (tgt := 19) hx hb dX10_line0_14 (by decide) (fun _ => ?_) (fun g => absurd g (by decide))
      refine lv_aload_n hx hb dX10_line0_19 rfl (lv_at hl 1 rfl) ?_
      refine lv_iload_n hx hb dX10_line0_20 rfl (lv_at hl 0 rfl) ?_
      refine lv_if_ne (tgt := 28) hx hb dX10_line0_21 (by decide) (fun _ => ?_) (fun g => absurd g (by decide))
      refine lv_iload_n hx hb dX10_line0_28 rfl (lv_at hl 0 rfl) ?_
      refine lv_iconst (v := 1) hx hb dX10_line0_29 (by decide) ?_
      refine lv_icmp_ne (tgt := 38) hx hb dX10_line0_30 (by decide) (fun _ => ?_) (fun g => absurd g (by decide))
      refine lv_iload_n hx hb dX10_line0_38 rfl (lv_at hl 0 rfl) ?_
      refine lv_iconst (v := 2) hx hb dX10_line0_39 (by decide) ?_
      refine lv_icmp_ne (tgt := 49) hx hb dX10_line0_40 (by decide) (fun _ => ?_) (fun g => absurd g (by decide))
      refine lv_iconst (v := 0) hx hb dX10_line0_49 (by decide) ?_
      refine lv_iload_n hx hb dX10_line0_50 rfl (lv_at hl 0 rfl) ?_
      refine lv_if_ne (tgt := 59) hx hb dX10_line0_51 (by decide) (fun _ => ?_) (fun g => absurd g (by decide))
      refine lv_iload_n hx hb dX10_line0_59 rfl (lv_at hl 0 rfl) ?_
      refine lv_iconst (v := 1) hx hb dX10_line0_60 (by decide) ?_
      refine lv_icmp_ne (tgt := 70) hx hb dX10_line0_61 (by decide) (fun _ => ?_) (fun g => absurd g (by decide))
      refine lv_iload_n hx hb dX10_line0_70 rfl (lv_at hl 0 rfl) ?_
      refine lv_iconst (v := 2) hx hb dX10_line0_71 (by decide) ?_
      refine lv_icmp_ne (tgt := 81) hx hb dX10_line0_72 (by decide) (fun _ => ?_) (fun g => absurd g (by decide))
      refine lv_iload_n hx hb dX10_line0_81 rfl (lv_at hl 0 rfl) ?_
      refine lv_iconst (v := 3) hx hb dX10_line0_82 (by decide) ?_
      refine lv_icmp_ne (tgt := 91) hx hb dX10_line0_83 (by decide) (fun _ => ?_) (fun g => absurd g (by decide))
      refine lv_bipush (v := 20) hx hb dX10_line0_91 (by decide) ?_
      have n1231 : F1193 1 = .ref h_tape := (SAME.at t1201 (by decide) e_tape)
      have n1232 : F1193 3 = .int x_size := (SAME.at t1201 (by decide) e_size)
      have n1233 : F1193 5 = .int x_limit := (SAME.at t1201 (by decide) e_limit)
      have n1234 : F1193 15 = .int x_fault := (SAME.at t1201 (by decide) e_fault)
      have n1235 : F1193 16 = .int x_faultAt := (SAME.at t1201 (by decide) e_faultAt)
      have n1236 : F1193 19 = .int x_got := (SAME.at t1201 (by decide) e_got)
      refine call_Vi (wr := [(h_h, .inl (cI, 104, .inl f_h)), (h_names, .inl (cJ, 36, .inr (.inl f_names))), (h_reserved, .inl (cJ, 23, .inr (.inl f_reserved)))]) (As := [.int 0, .int 20]) (rest := []) hx hb hml hown hw (m_X10_takes l D cI cJ cB cP cM cZ h0 h_tape F1193 x_size y1194 x_limit y1195 y1196 y1198 x_fault x_faultAt y1199 x_got f_tape 0 20 _ n1231 n1232 i_x_size t1202 t1203 n1233 i_x_limit t1204 t1205 t1206 t1210 n1234 n1235 t1211 n1236 (by omega)) wV_X10_242_X10_takes dX10_line0_93 hK hP hD hS hA [3, 4] [0, 1, 2] rfl rfl (by decide) (by decide) (by decide) 0 10 rfl rfl GG.fb hG.at hl.1 rfl (Nat.le_of_ble_eq_true rfl) ⟨(Nat.le_of_ble_eq_true rfl), (Nat.le_of_ble_eq_true rfl)⟩ ⟨(Nat.le_of_ble_eq_true rfl), (Nat.le_of_ble_eq_true rfl)⟩ (fun r1237 u H locs hp hP hD hS => ?_)
      have zl0 : (0 : Int32).toInt = 0 := by decide
      have zl20 : (20 : Int32).toInt = 20 := by decide
      rcases hp with hp | hp
      · obtain ⟨F1238, y1239, y1240, t1241, t1242, t1243, t1244, t1245, rfl, rfl⟩ := hp
        have hP : va_P D vwCl [(h_h, .inl (cI, 104, .inl f_h)), (h_names, .inl (cJ, 36, .inr (.inl f_names))), (h_reserved, .inl (cJ, 23, .inr (.inl f_reserved))), (h0, .inr (10, vL 67 F1238)), (h_tape, .inl (cB, 940, .inl f_tape))] H := hP
        have hD : va_D A [(h_h, .inl (cI, 104, .inl f_h)), (h_names, .inl (cJ, 36, .inr (.inl f_names))), (h_reserved, .inl (cJ, 23, .inr (.inl f_reserved))), (h0, .inr (10, vL 67 F1238)), (h_tape, .inl (cB, 940, .inl f_tape))] := hD
        refine W.widen (k := 0) (n := 0) (Nat.le_of_ble_eq_true rfl) (Nat.le_of_ble_eq_true rfl) ?_
        refine lv_if_ne (tgt := 101) hx hb dX10_line0_96 (by decide) (fun g => absurd (by decide) g) (fun _ => ?_)
        refine lv_iconst (v := 0) hx hb dX10_line0_99 (by decide) ?_
        exact ret_i (v := 0) hx hb hr hlocks hS (hP.sub (ws' := [(h0, .inr (10, vL 67 F1238)), (h_tape, .inl (cB, 940, .inl f_tape)), (h_h, .inl (cI, 104, .inl f_h)), (h_names, .inl (cJ, 36, .inr (.inl f_names))), (h_reserved, .inl (cJ, 23, .inr (.inl f_reserved)))]) [3, 4, 0, 1, 2] rfl) (hD.sub (ws' := [(h0, .inr (10, vL 67 F1238)), (h_tape, .inl (cB, 940, .inl f_tape)), (h_h, .inl (cI, 104, .inl f_h)), (h_names, .inl (cJ, 36, .inr (.inl f_names))), (h_reserved, .inl (cJ, 23, .inr (.inl f_reserved)))]) [3, 4, 0, 1, 2] (by decide) rfl) dX10_line0_100 rfl (Nat.le_of_ble_eq_true rfl) (Nat.le_of_ble_eq_true rfl) (Or.inl ⟨F1238, y1194, y1195, y1196, y1197, y1198, y1239, y1240, y1199, x_got, y1200, f_h, f_names, (SAME.tr (SAME.tr SAME.rf t1201 (by decide)) t1241 (by decide)), (SAME.at t1241 (by decide) t1202), t1203, (SAME.at t1241 (by decide) t1204), t1205, (SAME.at t1241 (by decide) t1206), (SAME.at t1241 (by decide) t1208), (SAME.at t1241 (by decide) t1210), t1242, (ir_wk t1243 (by decide) (by decide)), t1244, (SAME.at t1241 (by decide) t1211), (SAME.at t1241 (by decide) n1236), (SAME.at t1241 (by decide) t1212), s_h_0, s_h_5, s_h_6, s_h_7, s_h_44, ((cLine_4 (tkM_1st (ONCF.t (k := 4) t3 (by omega) (by decide)).1) (lnwM (ONCF.t (k := 4) t3 (by omega) (by decide)).1 (ONCF.t (k := 4) t3 (by omega) (by decide)).2)).trans (cSet_f t1216 (atM t1215 (ONCF.t (k := 4) t3 (by omega) (by decide)).1) t1245)), UN.rf, (by omega), rfl, rfl⟩)
      · refine hp.elim (fun F1246 h9z0 => h9z0.elim (fun y1247 h9z1 => h9z1.elim (fun y1248 h9z2 => h9z2.elim (fun y1249 h9z3 => h9z3.elim (fun y1250 h9z4 => h9z4.elim (fun y1251 h9z5 => h9z5.elim (fun y1252 h9z6 => h9z6.elim (fun y1253 h9z7 => h9z7.elim (fun t1254 h9z8 => h9z8.elim (fun t1255 h9z9 => h9z9.elim (fun t1256 h9z10 => h9z10.elim (fun t1257 h9z11 => h9z11.elim (fun t1258 h9z12 => h9z12.elim (fun t1259 h9z13 => h9z13.elim (fun t1260 h9z14 => h9z14.elim (fun t1261 h9z15 => h9z15.elim (fun t1262 h9z16 => h9z16.elim (fun t1263 h9z17 => h9z17.elim (fun t1264 h9z18 => h9z18.elim (fun t1265 h9z19 => h9z19.elim (fun t1266 h9z20 => h9z20.elim (fun t1267 h9z21 => h9z21.elim (fun t1268 h9z22 => h9z22.elim (fun t1269 h9z23 => h9z23.elim (fun t1270 h9z24 => h9z24.elim (fun t1271 h9z25 => h9z25.elim (fun t1272 h9z26 => h9z26.elim (fun t1273 h9z27 => h9z27.elim (fun t1274 h9z28 => h9z28.elim (fun t1275 h9z29 => h9z29.elim (fun heq930 h9z30 => ?_)))))))))))))))))))))))))))))))
        clear h9z0 h9z1 h9z2 h9z3 h9z4 h9z5 h9z6 h9z7 h9z8 h9z9 h9z10 h9z11 h9z12 h9z13 h9z14 h9z15 h9z16 h9z17 h9z18 h9z19 h9z20 h9z21 h9z22 h9z23 h9z24 h9z25 h9z26 h9z27 h9z28 h9z29
        subst heq930
        subst h9z30
        clear t1214 t1219
        have hP : va_P D vwCl [(h_h, .inl (cI, 104, .inl f_h)), (h_names, .inl (cJ, 36, .inr (.inl f_names))), (h_reserved, .inl (cJ, 23, .inr (.inl f_reserved))), (h0, .inr (10, vL 67 F1246)), (h_tape, .inl (cB, 940, .inl f_tape))] H := hP
        have hD : va_D A [(h_h, .inl (cI, 104, .inl f_h)), (h_names, .inl (cJ, 36, .inr (.inl f_names))), (h_reserved, .inl (cJ, 23, .inr (.inl f_reserved))), (h0, .inr (10, vL 67 F1246)), (h_tape, .inl (cB, 940, .inl f_tape))] := hD
        refine W.widen (k := 0) (n := 0) (Nat.le_of_ble_eq_true rfl) (Nat.le_of_ble_eq_true rfl) ?_
        have k1277 : 2 ≤ y1195.toInt ∧ y1195.toInt ≤ 2 := ⟨Int.le_trans (Int.le_refl _) (Int.le_of_eq t1266.symm), Int.le_trans (Int.le_of_eq t1266) (Int.le_refl _)⟩
        have k1278 : 0 ≤ y1198.toInt ∧ y1198.toInt ≤ 2147483647 := ⟨Int.le_trans (Int.le_refl _) t1267, (ir_any _).2⟩
        have k1279 : 0 ≤ y1198.toInt ∧ y1198.toInt ≤ 20 := ⟨k1278.1, Int.le_trans t1268 (Int.le_refl _)⟩
        refine lv_if_ne (tgt := 101) hx hb dX10_line0_96 (by decide) (fun _ => ?_) (fun g => absurd g (by decide))
        refine lv_aload_n hx hb dX10_line0_101 rfl (lv_at hl 1 rfl) ?_
        have n1280 : F1193 7 = .ref h_h := (SAME.at t1201 (by decide) e_h)
        have n1281 : F1246 7 = .ref h_h := (SAME.at t1254 (by decide) n1280)
        refine get_f (D := D) (ci := 10) (v := .ref h_h) (C := RX10) (T := TX10) (N := 67) hx hb hw inAX10 hown hK hP 3 rfl rfl 7 (by decide) (hw _ q_1268) (fun _ h9 => h9) n1281 dX10_line0_102 ?_
        refine lv_iload_n hx hb dX10_line0_105 rfl (lv_at hl 0 rfl) ?_
        refine lv_aload_n hx hb dX10_line0_106 rfl (lv_at hl 1 rfl) ?_
        refine get_f (D := D) (ci := 10) (v := .int y1253) (C := RX10) (T := TX10) (N := 67) hx hb hw inAX10 hown hK hP 3 rfl rfl 19 (by decide) (hw _ q_1280) (fun _ h9 => h9) t1265 dX10_line0_107 ?_
        obtain ⟨g1282, eg1282⟩ : ∃ z : Nat → Int32, upd f_h 4 y1253 = z := ⟨_, rfl⟩
        have r1283 : SG 0 0 0 40 g1282 := by rw [← eg1282]; exact s_h_0.upN (Or.inr (Or.inl (by decide)))
        have r1284 : SG 44 55 0 9 g1282 := by rw [← eg1282]; exact s_h_44.upN (Or.inl (by decide))
        have r1285 : SG 5 5 0 12 g1282 := by rw [← eg1282]; exact s_h_5.upN (Or.inl (by decide))
        have r1286 : SG 6 6 0 12 g1282 := by rw [← eg1282]; exact s_h_6.upN (Or.inl (by decide))
        have r1287 : SG 7 7 0 6 g1282 := by rw [← eg1282]; exact s_h_7.upN (Or.inl (by decide))
        refine iast_n hx hb hK hP hD hS 0 0 rfl rfl 4 rfl (Nat.le_of_ble_eq_true rfl) (Nat.le_of_ble_eq_true rfl) eg1282 dX10_line0_110 (fun H locs hP hD hS => ?_)
        have hP : va_P D vwCl [(h_h, .inl (cI, 104, .inl g1282)), (h_names, .inl (cJ, 36, .inr (.inl f_names))), (h_reserved, .inl (cJ, 23, .inr (.inl f_reserved))), (h0, .inr (10, vL 67 F1246)), (h_tape, .inl (cB, 940, .inl f_tape))] H := hP
        have hD : va_D A [(h_h, .inl (cI, 104, .inl g1282)), (h_names, .inl (cJ, 36, .inr (.inl f_names))), (h_reserved, .inl (cJ, 23, .inr (.inl f_reserved))), (h0, .inr (10, vL 67 F1246)), (h_tape, .inl (cB, 940, .inl f_tape))] := hD
        refine lv_iconst (v := 1) hx hb dX10_line0_111 (by decide) ?_
        exact ret_i (v := 1) hx hb hr hlocks hS (hP.sub (ws' := [(h0, .inr (10, vL 67 F1246)), (h_tape, .inl (cB, 940, .inl f_tape)), (h_h, .inl (cI, 104, .inl g1282)), (h_names, .inl (cJ, 36, .inr (.inl f_names))), (h_reserved, .inl (cJ, 23, .inr (.inl f_reserved)))]) [3, 4, 0, 1, 2] rfl) (hD.sub (ws' := [(h0, .inr (10, vL 67 F1246)), (h_tape, .inl (cB, 940, .inl f_tape)), (h_h, .inl (cI, 104, .inl g1282)), (h_names, .inl (cJ, 36, .inr (.inl f_names))), (h_reserved, .inl (cJ, 23, .inr (.inl f_reserved)))]) [3, 4, 0, 1, 2] (by decide) rfl) dX10_line0_112 rfl (Nat.le_of_ble_eq_true rfl) (Nat.le_of_ble_eq_true rfl) (Or.inr ⟨F1246, y1247, y1248, y1249, y1250, y1251, y1252, y1253, y1200, g1282, f_names, (SAME.tr (SAME.tr SAME.rf t1201 (by decide)) t1254 (by decide)), t1255, t1256, t1257, t1258, t1259, t1260, t1261, t1262, t1263, t1264, t1265, (SAME.at t1254 (by decide) t1212), r1283, r1285, r1286, r1287, r1284, (by have zl1 : (1 : Int32).toInt = 1 := (by decide); omega), (by have zl1 : (1 : Int32).toInt = 1 := (by decide); omega), ((cLine_4 (tkM_1st (ONCF.t (k := 4) t3 (by omega) (by decide)).1) (lnwM (ONCF.t (k := 4) t3 (by omega) (by decide)).1 (ONCF.t (k := 4) t3 (by omega) (by decide)).2)).trans (fin_r (cSet_o t1216 (atM t1215 (ONCF.t (k := 4) t3 (by omega) (by decide)).1) t1272 t1217 (by rw [if_neg (by decide)]; exact upd_n eg1282 (by decide))) (csM_s eg1282 (by decide)))), (ONCF.t (k := 4) t3 (by omega) (by decide)).1, (AV.h z_1 (upd_m eg1282 (by decide))), (AV.h z_2 (upd_m eg1282 (by decide))), t1274, UN.rf, (by omega), rfl, rfl⟩)
    · obtain ⟨F1220, y1221, y1222, t1223, t1224, t1225, t1226, t1227, t1228, t1229, rfl, rfl⟩ := hp
      have hP : va_P D vwCl [(h_h, .inl (cI, 104, .inl f_h)), (h_names, .inl (cJ, 36, .inr (.inl f_names))), (h_reserved, .inl (cJ, 23, .inr (.inl f_reserved))), (h0, .inr (10, vL 67 F1220)), (h_tape, .inl (cB, 940, .inl f_tape))] H := hP
      have hD : va_D A [(h_h, .inl (cI, 104, .inl f_h)), (h_names, .inl (cJ, 36, .inr (.inl f_names))), (h_reserved, .inl (cJ, 23, .inr (.inl f_reserved))), (h0, .inr (10, vL 67 F1220)), (h_tape, .inl (cB, 940, .inl f_tape))] := hD
      refine W.widen (k := 0) (n := 0) (Nat.le_of_ble_eq_true rfl) (Nat.le_of_ble_eq_true rfl) ?_
      refine lv_if_ne (tgt := 19) hx hb dX10_line0_14 (by decide) (fun g => absurd (by decide) g) (fun _ => ?_)
      refine lv_iconst (v := 0) hx hb dX10_line0_17 (by decide) ?_
      exact ret_i (v := 0) hx hb hr hlocks hS (hP.sub (ws' := [(h0, .inr (10, vL 67 F1220)), (h_tape, .inl (cB, 940, .inl f_tape)), (h_h, .inl (cI, 104, .inl f_h)), (h_names, .inl (cJ, 36, .inr (.inl f_names))), (h_reserved, .inl (cJ, 23, .inr (.inl f_reserved)))]) [3, 4, 0, 1, 2] rfl) (hD.sub (ws' := [(h0, .inr (10, vL 67 F1220)), (h_tape, .inl (cB, 940, .inl f_tape)), (h_h, .inl (cI, 104, .inl f_h)), (h_names, .inl (cJ, 36, .inr (.inl f_names))), (h_reserved, .inl (cJ, 23, .inr (.inl f_reserved)))]) [3, 4, 0, 1, 2] (by decide) rfl) dX10_line0_18 rfl (Nat.le_of_ble_eq_true rfl) (Nat.le_of_ble_eq_true rfl) (Or.inl ⟨F1220, x_p, x_token, x_at, x_span, x_number, y1221, y1222, x_word, x_got, x_onces, f_h, f_names, (SAME.tr SAME.rf t1223 (by decide)), (SAME.at t1223 (by decide) e_p), i_x_p, (SAME.at t1223 (by decide) e_token), i_x_token, (SAME.at t1223 (by decide) e_at), (SAME.at t1223 (by decide) e_span), (SAME.at t1223 (by decide) e_number), t1224, (ir_wk t1225 (by decide) (by decide)), t1226, (SAME.at t1223 (by decide) e_word), (SAME.at t1223 (by decide) e_got), (SAME.at t1223 (by decide) e_onces), s_h_0, s_h_5, s_h_6, s_h_7, s_h_44, ((cLine_4 (tkM_1st (ONCF.t (k := 4) t3 (by omega) (by decide)).1) (lnwM (ONCF.t (k := 4) t3 (by omega) (by decide)).1 (ONCF.t (k := 4) t3 (by omega) (by decide)).2)).trans (inl_eq (cSet_t t1227) t1228.1 t1228.2)), UN.rf, (by omega), rfl, rfl⟩)
set_option maxHeartbeats 4000000 in
set_option maxRecDepth 100000 in
theorem m_X10_course (l : Launch) (D : va_G) (cI cJ cB cP cM cZ : ClassId) (h0 : Nat) (h_tape : Nat) (h_s : Nat) (h_h : Nat) (h_names : Nat) (h_reserved : Nat) (Fh : Nat → Value) (x_length : Int32) (x_token : Int32) (x_at : Int32) (x_number : Int32) (x_fault : Int32) (x_faultAt : Int32) (x_ids : Int32) (x_word : Int64) (x_got : Int32) (x_undoMany : Int32) (f_tape : Nat → Int32) (f_s : Nat → Int32) (f_h : Nat → Int32) (f_names : Nat → Int64) (f_reserved : Nat → Int64) (bs : Nat → Int32) (sz : Nat) (e_tape : Fh 1 = .ref h_tape) (e_length : Fh 2 = .int x_length) (i_x_length : IR 0 940 x_length) (e_s : Fh 6 = .ref h_s) (e_h : Fh 7 = .ref h_h) (e_names : Fh 9 = .ref h_names) (e_reserved : Fh 10 = .ref h_reserved) (e_token : Fh 11 = .int x_token) (i_x_token : IR 0 4 x_token) (e_at : Fh 12 = .int x_at) (e_number : Fh 14 = .int x_number) (e_fault : Fh 15 = .int x_fault) (e_faultAt : Fh 16 = .int x_faultAt) (e_ids : Fh 17 = .int x_ids) (e_word : Fh 18 = .long x_word) (e_got : Fh 19 = .int x_got) (e_undoMany : Fh 41 = .int x_undoMany) (i_x_undoMany : IR 0 8 x_undoMany) (s_s_K0 : KW 0 f_s) (s_s_US : US bs f_s) (s_s_0 : SG 0 0 0 40 f_s) (s_s_105 : SG 105 108 0 11 f_s) (s_s_114 : SG 114 114 0 5 f_s) (s_s_130 : SG 130 133 0 11 f_s) (s_s_139 : SG 139 139 0 5 f_s) (s_s_153 : SG 153 153 0 44 f_s) (s_s_44 : SG 44 55 0 9 f_s) (s_s_5 : SG 5 5 0 12 f_s) (s_s_6 : SG 6 6 0 12 f_s) (s_s_7 : SG 7 7 0 6 f_s) (s_h_0 : SG 0 0 0 40 f_h) (s_h_44 : SG 44 55 0 9 f_h) (s_h_5 : SG 5 5 0 12 f_h) (s_h_6 : SG 6 6 0 12 f_h) (s_h_7 : SG 7 7 0 6 f_h) (s_reserved_KR : KRN f_reserved) (z_0 : AV f_names 0 (f_s 5).toInt) (z_1 : AV f_names 12 (f_s 7).toInt) (o_0 : (x_token.toInt = 2 → 0 ≤ x_number.toInt ∧ x_number.toInt ≤ 999)) : CI l yX10_course cX10_course 2 (some .int) { frames := 4, cells := 0, slots := 0, locals := 87 } (GG D cI cJ cB cP cM cZ) D [(h0, .inr (10, vL 67 Fh)), (h_tape, .inl (cB, 940, .inl f_tape)), (h_s, .inl (cI, 335, .inl f_s)), (h_h, .inl (cI, 104, .inl f_h)), (h_names, .inl (cJ, 36, .inr (.inl f_names))), (h_reserved, .inl (cJ, 23, .inr (.inl f_reserved)))] sz [.ref h0] (fun (r : Int32) (u : va_W) => ∃ (Gh : Nat → Value) (y_p : Int32) (y_token : Int32) (y_at : Int32) (y_span : Int32) (y_number : Int32) (y_fault : Int32) (y_faultAt : Int32) (y_ids : Int32) (y_word : Int64) (y_got : Int32) (y_lines : Int32) (y_onces : Int32) (y_undoMany : Int32) (g_s : Nat → Int32) (g_h : Nat → Int32) (g_names : Nat → Int64), SAME [0, 2, 3, 4, 5, 11, 12, 13, 14, 15, 16, 17, 18, 19, 20, 21, 41] Fh Gh ∧ Gh 0 = .int 0 ∧ Gh 2 = .int 0 ∧ Gh 3 = .int x_length ∧ Gh 4 = .int y_p ∧ IR 0 940 y_p ∧ Gh 5 = .int 900 ∧ Gh 11 = .int y_token ∧ IR 0 4 y_token ∧ Gh 12 = .int y_at ∧ Gh 13 = .int y_span ∧ Gh 14 = .int y_number ∧ Gh 15 = .int y_fault ∧ IR 0 4 y_fault ∧ Gh 16 = .int y_faultAt ∧ Gh 17 = .int y_ids ∧ Gh 18 = .long y_word ∧ Gh 19 = .int y_got ∧ Gh 20 = .int y_lines ∧ Gh 21 = .int y_onces ∧ Gh 41 = .int y_undoMany ∧ IR 0 8 y_undoMany ∧ SG 153 153 0 44 g_s ∧ SG 0 0 0 40 g_s ∧ SG 5 5 0 12 g_s ∧ SG 6 6 0 12 g_s ∧ SG 7 7 0 6 g_s ∧ SG 44 55 0 9 g_s ∧ KW 0 g_s ∧ SG 105 108 0 11 g_s ∧ SG 114 114 0 5 g_s ∧ SG 130 133 0 11 g_s ∧ SG 139 139 0 5 g_s ∧ SG 0 0 0 40 g_h ∧ SG 5 5 0 12 g_h ∧ SG 6 6 0 12 g_h ∧ SG 7 7 0 6 g_h ∧ SG 44 55 0 9 g_h ∧ (r.toInt = cAns (cTxt f_tape x_length.toInt) ∧ y_fault.toInt = gFlt (cTxt f_tape x_length.toInt)) ∧ (PICM g_s g_names = cPic (cTxt f_tape x_length.toInt) (PICM f_s f_names) ∧ AV g_names 0 (g_s 5).toInt ∧ AV g_names 12 (g_s 7).toInt) ∧ ((y_token.toInt = 2 → 0 ≤ y_number.toInt ∧ y_number.toInt ≤ 999)) ∧ u = [(h0, .inr (10, vL 67 Gh)), (h_tape, .inl (cB, 940, .inl f_tape)), (h_s, .inl (cI, 335, .inl g_s)), (h_h, .inl (cI, 104, .inl g_h)), (h_names, .inl (cJ, 36, .inr (.inl g_names))), (h_reserved, .inl (cJ, 23, .inr (.inl f_reserved)))]) := by
  refine CI_mk (by decide) (Nat.le_of_ble_eq_true rfl) ?_
  intro p e s m below meth c A ls E hAe hG hsz hP hD hA hS hl
  obtain ⟨hx, hb, hr, hw, hown, hlocks, hml, hnm⟩ := E
  have hK := hG.1
  have i_x_length : 0 ≤ x_length.toInt ∧ x_length.toInt ≤ 940 := i_x_length
  have i_x_token : 0 ≤ x_token.toInt ∧ x_token.toInt ≤ 4 := i_x_token
  have i_x_undoMany : 0 ≤ x_undoMany.toInt ∧ x_undoMany.toInt ≤ 8 := i_x_undoMany
  have hl : lv_has ls 2 [(0, .ref h0)] := hl
  refine lv_aload_n hx hb dX10_course_0 rfl (lv_at hl 0 rfl) ?_
  refine lv_iconst (v := 0) hx hb dX10_course_1 (by decide) ?_
  refine put_f (D := D) (ci := 10) (v := .int 0) (ty := .int) (C := RX10) (T := TX10) (N := 67) hx hb hw inAX10 tyX10 tyX10_ok nmX10 hown hK hP hD hS 0 rfl rfl 0 (by decide) (hw _ q_1261) (fun _ h9 => h9) rfl (by decide +kernel) rfl rfl dX10_course_2 (fun H locs F1 eF1 hP hD hS => ?_)
  have hP : va_P D vwCl [(h0, .inr (10, vL 67 F1)), (h_tape, .inl (cB, 940, .inl f_tape)), (h_s, .inl (cI, 335, .inl f_s)), (h_h, .inl (cI, 104, .inl f_h)), (h_names, .inl (cJ, 36, .inr (.inl f_names))), (h_reserved, .inl (cJ, 23, .inr (.inl f_reserved)))] H := hP
  have hD : va_D A [(h0, .inr (10, vL 67 F1)), (h_tape, .inl (cB, 940, .inl f_tape)), (h_s, .inl (cI, 335, .inl f_s)), (h_h, .inl (cI, 104, .inl f_h)), (h_names, .inl (cJ, 36, .inr (.inl f_names))), (h_reserved, .inl (cJ, 23, .inr (.inl f_reserved)))] := hD
  refine lv_aload_n hx hb dX10_course_5 rfl (lv_at hl 0 rfl) ?_
  refine lv_sipush (v := 900) hx hb dX10_course_6 (by decide) ?_
  have n2 : F1 2 = .int x_length := (get_ne eF1 (by decide) e_length)
  refine call_Vv (wr := [(h_tape, .inl (cB, 940, .inl f_tape)), (h_s, .inl (cI, 335, .inl f_s)), (h_h, .inl (cI, 104, .inl f_h)), (h_names, .inl (cJ, 36, .inr (.inl f_names))), (h_reserved, .inl (cJ, 23, .inr (.inl f_reserved)))]) (As := [.int 900]) (rest := []) hx hb hml hown hw (m_X10_taken l D cI cJ cB cP cM cZ h0 F1 x_length 900 _ n2 i_x_length (show 200 ≤ (900 : Int32).toInt ∧ (900 : Int32).toInt ≤ 940 by decide)) wV_X10_248_X10_taken dX10_course_9 hK hP hD hS hA [0] [1, 2, 3, 4, 5] rfl rfl (by decide) (by decide) (by decide) 0 10 rfl rfl GG.fb hG.at hl.1 rfl (Nat.le_of_ble_eq_true rfl) ⟨(Nat.le_of_ble_eq_true rfl), (Nat.le_of_ble_eq_true rfl)⟩ ⟨(Nat.le_of_ble_eq_true rfl), (Nat.le_of_ble_eq_true rfl)⟩ (fun u H locs hp hP hD hS => ?_)
  have zl900 : (900 : Int32).toInt = 900 := by decide
  obtain ⟨F4, t5, t6, t7, t8, t9, rfl⟩ := hp
  have hP : va_P D vwCl [(h_tape, .inl (cB, 940, .inl f_tape)), (h_s, .inl (cI, 335, .inl f_s)), (h_h, .inl (cI, 104, .inl f_h)), (h_names, .inl (cJ, 36, .inr (.inl f_names))), (h_reserved, .inl (cJ, 23, .inr (.inl f_reserved))), (h0, .inr (10, vL 67 F4))] H := hP
  have hD : va_D A [(h_tape, .inl (cB, 940, .inl f_tape)), (h_s, .inl (cI, 335, .inl f_s)), (h_h, .inl (cI, 104, .inl f_h)), (h_names, .inl (cJ, 36, .inr (.inl f_names))), (h_reserved, .inl (cJ, 23, .inr (.inl f_reserved))), (h0, .inr (10, vL 67 F4))] := hD
  refine W.widen (k := 0) (n := 0) (Nat.le_of_ble_eq_true rfl) (Nat.le_of_ble_eq_true rfl) ?_
  refine lv_aload_n hx hb dX10_course_12 rfl (lv_at hl 0 rfl) ?_
  refine lv_iconst (v := 0) hx hb dX10_course_13 (by decide) ?_
  refine put_f (D := D) (ci := 10) (v := .int 0) (ty := .int) (C := RX10) (T := TX10) (N := 67) hx hb hw inAX10 tyX10 tyX10_ok nmX10 hown hK hP hD hS 5 rfl rfl 15 (by decide) (hw _ q_1276) (fun _ h9 => h9) rfl (by decide +kernel) rfl rfl dX10_course_14 (fun H locs F11 eF11 hP hD hS => ?_)
  have hP : va_P D vwCl [(h_tape, .inl (cB, 940, .inl f_tape)), (h_s, .inl (cI, 335, .inl f_s)), (h_h, .inl (cI, 104, .inl f_h)), (h_names, .inl (cJ, 36, .inr (.inl f_names))), (h_reserved, .inl (cJ, 23, .inr (.inl f_reserved))), (h0, .inr (10, vL 67 F11))] H := hP
  have hD : va_D A [(h_tape, .inl (cB, 940, .inl f_tape)), (h_s, .inl (cI, 335, .inl f_s)), (h_h, .inl (cI, 104, .inl f_h)), (h_names, .inl (cJ, 36, .inr (.inl f_names))), (h_reserved, .inl (cJ, 23, .inr (.inl f_reserved))), (h0, .inr (10, vL 67 F11))] := hD
  refine lv_aload_n hx hb dX10_course_17 rfl (lv_at hl 0 rfl) ?_
  refine lv_iconst (v := 0) hx hb dX10_course_18 (by decide) ?_
  refine put_f (D := D) (ci := 10) (v := .int 0) (ty := .int) (C := RX10) (T := TX10) (N := 67) hx hb hw inAX10 tyX10 tyX10_ok nmX10 hown hK hP hD hS 5 rfl rfl 20 (by decide) (hw _ q_1281) (fun _ h9 => h9) rfl (by decide +kernel) rfl rfl dX10_course_19 (fun H locs F12 eF12 hP hD hS => ?_)
  have hP : va_P D vwCl [(h_tape, .inl (cB, 940, .inl f_tape)), (h_s, .inl (cI, 335, .inl f_s)), (h_h, .inl (cI, 104, .inl f_h)), (h_names, .inl (cJ, 36, .inr (.inl f_names))), (h_reserved, .inl (cJ, 23, .inr (.inl f_reserved))), (h0, .inr (10, vL 67 F12))] H := hP
  have hD : va_D A [(h_tape, .inl (cB, 940, .inl f_tape)), (h_s, .inl (cI, 335, .inl f_s)), (h_h, .inl (cI, 104, .inl f_h)), (h_names, .inl (cJ, 36, .inr (.inl f_names))), (h_reserved, .inl (cJ, 23, .inr (.inl f_reserved))), (h0, .inr (10, vL 67 F12))] := hD
  refine lv_aload_n hx hb dX10_course_22 rfl (lv_at hl 0 rfl) ?_
  refine lv_iconst (v := 0) hx hb dX10_course_23 (by decide) ?_
  refine put_f (D := D) (ci := 10) (v := .int 0) (ty := .int) (C := RX10) (T := TX10) (N := 67) hx hb hw inAX10 tyX10 tyX10_ok nmX10 hown hK hP hD hS 5 rfl rfl 21 (by decide) (hw _ q_1282) (fun _ h9 => h9) rfl (by decide +kernel) rfl rfl dX10_course_24 (fun H locs F13 eF13 hP hD hS => ?_)
  have hP : va_P D vwCl [(h_tape, .inl (cB, 940, .inl f_tape)), (h_s, .inl (cI, 335, .inl f_s)), (h_h, .inl (cI, 104, .inl f_h)), (h_names, .inl (cJ, 36, .inr (.inl f_names))), (h_reserved, .inl (cJ, 23, .inr (.inl f_reserved))), (h0, .inr (10, vL 67 F13))] H := hP
  have hD : va_D A [(h_tape, .inl (cB, 940, .inl f_tape)), (h_s, .inl (cI, 335, .inl f_s)), (h_h, .inl (cI, 104, .inl f_h)), (h_names, .inl (cJ, 36, .inr (.inl f_names))), (h_reserved, .inl (cJ, 23, .inr (.inl f_reserved))), (h0, .inr (10, vL 67 F13))] := hD
  refine lv_aload_n hx hb dX10_course_27 rfl (lv_at hl 0 rfl) ?_
  have n14 : F1 7 = .ref h_h := (get_ne eF1 (by decide) e_h)
  have n15 : F4 7 = .ref h_h := (SAME.at t5 (by decide) n14)
  have n16 : F11 7 = .ref h_h := (get_ne eF11 (by decide) n15)
  have n17 : F12 7 = .ref h_h := (get_ne eF12 (by decide) n16)
  have n18 : F13 7 = .ref h_h := (get_ne eF13 (by decide) n17)
  refine call_Vv (wr := [(h_tape, .inl (cB, 940, .inl f_tape)), (h_s, .inl (cI, 335, .inl f_s)), (h_names, .inl (cJ, 36, .inr (.inl f_names))), (h_reserved, .inl (cJ, 23, .inr (.inl f_reserved)))]) (As := []) (rest := []) hx hb hml hown hw (m_X10_clears l D cI cJ cB cP cM cZ h0 h_h F13 f_h _ n18 s_h_0 s_h_44 s_h_5 s_h_6 s_h_7) wV_X10_166_X10_clears dX10_course_28 hK hP hD hS hA [5, 2] [0, 1, 3, 4] rfl rfl (by decide) (by decide) (by decide) 0 10 rfl rfl GG.fb hG.at hl.1 rfl (Nat.le_of_ble_eq_true rfl) ⟨(Nat.le_of_ble_eq_true rfl), (Nat.le_of_ble_eq_true rfl)⟩ ⟨(Nat.le_of_ble_eq_true rfl), (Nat.le_of_ble_eq_true rfl)⟩ (fun u H locs hp hP hD hS => ?_)
  obtain ⟨g20, t21, t22, t23, t24, t25, t26, rfl⟩ := hp
  have hP : va_P D vwCl [(h_tape, .inl (cB, 940, .inl f_tape)), (h_s, .inl (cI, 335, .inl f_s)), (h_names, .inl (cJ, 36, .inr (.inl f_names))), (h_reserved, .inl (cJ, 23, .inr (.inl f_reserved))), (h0, .inr (10, vL 67 F13)), (h_h, .inl (cI, 104, .inl g20))] H := hP
  have hD : va_D A [(h_tape, .inl (cB, 940, .inl f_tape)), (h_s, .inl (cI, 335, .inl f_s)), (h_names, .inl (cJ, 36, .inr (.inl f_names))), (h_reserved, .inl (cJ, 23, .inr (.inl f_reserved))), (h0, .inr (10, vL 67 F13)), (h_h, .inl (cI, 104, .inl g20))] := hD
  refine W.widen (k := 0) (n := 0) (Nat.le_of_ble_eq_true rfl) (Nat.le_of_ble_eq_true rfl) ?_
  have h28 : AV f_names 18 (g20 5).toInt := AV.none (by omega)
  have h29 : AV f_names 30 (g20 7).toInt := AV.none (by omega)
  refine lv_aload_n hx hb dX10_course_31 rfl (lv_at hl 0 rfl) ?_
  have n30 : F1 1 = .ref h_tape := (get_ne eF1 (by decide) e_tape)
  have n31 : F4 1 = .ref h_tape := (SAME.at t5 (by decide) n30)
  have n32 : F11 1 = .ref h_tape := (get_ne eF11 (by decide) n31)
  have n33 : F12 1 = .ref h_tape := (get_ne eF12 (by decide) n32)
  have n34 : F13 1 = .ref h_tape := (get_ne eF13 (by decide) n33)
  have n35 : F11 3 = .int x_length := (get_ne eF11 (by decide) t7)
  have n36 : F12 3 = .int x_length := (get_ne eF12 (by decide) n35)
  have n37 : F13 3 = .int x_length := (get_ne eF13 (by decide) n36)
  have n38 : F11 4 = .int 0 := (get_ne eF11 (by decide) t8)
  have n39 : F12 4 = .int 0 := (get_ne eF12 (by decide) n38)
  have n40 : F13 4 = .int 0 := (get_ne eF13 (by decide) n39)
  have n41 : F11 5 = .int 900 := (get_ne eF11 (by decide) t9)
  have n42 : F12 5 = .int 900 := (get_ne eF12 (by decide) n41)
  have n43 : F13 5 = .int 900 := (get_ne eF13 (by decide) n42)
  have n44 : F1 11 = .int x_token := (get_ne eF1 (by decide) e_token)
  have n45 : F4 11 = .int x_token := (SAME.at t5 (by decide) n44)
  have n46 : F11 11 = .int x_token := (get_ne eF11 (by decide) n45)
  have n47 : F12 11 = .int x_token := (get_ne eF12 (by decide) n46)
  have n48 : F13 11 = .int x_token := (get_ne eF13 (by decide) n47)
  have n49 : F1 12 = .int x_at := (get_ne eF1 (by decide) e_at)
  have n50 : F4 12 = .int x_at := (SAME.at t5 (by decide) n49)
  have n51 : F11 12 = .int x_at := (get_ne eF11 (by decide) n50)
  have n52 : F12 12 = .int x_at := (get_ne eF12 (by decide) n51)
  have n53 : F13 12 = .int x_at := (get_ne eF13 (by decide) n52)
  have n54 : F1 14 = .int x_number := (get_ne eF1 (by decide) e_number)
  have n55 : F4 14 = .int x_number := (SAME.at t5 (by decide) n54)
  have n56 : F11 14 = .int x_number := (get_ne eF11 (by decide) n55)
  have n57 : F12 14 = .int x_number := (get_ne eF12 (by decide) n56)
  have n58 : F13 14 = .int x_number := (get_ne eF13 (by decide) n57)
  have n59 : F1 18 = .long x_word := (get_ne eF1 (by decide) e_word)
  have n60 : F4 18 = .long x_word := (SAME.at t5 (by decide) n59)
  have n61 : F11 18 = .long x_word := (get_ne eF11 (by decide) n60)
  have n62 : F12 18 = .long x_word := (get_ne eF12 (by decide) n61)
  have n63 : F13 18 = .long x_word := (get_ne eF13 (by decide) n62)
  refine call_Vv (wr := [(h_s, .inl (cI, 335, .inl f_s)), (h_names, .inl (cJ, 36, .inr (.inl f_names))), (h_reserved, .inl (cJ, 23, .inr (.inl f_reserved))), (h_h, .inl (cI, 104, .inl g20))]) (As := []) (rest := []) hx hb hml hown hw (m_X10_next l D cI cJ cB cP cM cZ h0 h_tape F13 x_length 0 900 x_token x_at x_number x_word f_tape _ n34 n37 i_x_length n40 (show 0 ≤ (0 : Int32).toInt ∧ (0 : Int32).toInt ≤ 940 by decide) n43 (show 200 ≤ (900 : Int32).toInt ∧ (900 : Int32).toInt ≤ 940 by decide) n48 i_x_token n53 n58 n63 (by omega)) wV_X10_208_X10_next dX10_course_32 hK hP hD hS hA [4, 0] [1, 2, 3, 5] rfl rfl (by decide) (by decide) (by decide) 0 10 rfl rfl GG.fb hG.at hl.1 rfl (Nat.le_of_ble_eq_true rfl) ⟨(Nat.le_of_ble_eq_true rfl), (Nat.le_of_ble_eq_true rfl)⟩ ⟨(Nat.le_of_ble_eq_true rfl), (Nat.le_of_ble_eq_true rfl)⟩ (fun u H locs hp hP hD hS => ?_)
  have zl0 : (0 : Int32).toInt = 0 := by decide
  obtain ⟨F65, y66, y67, y68, y69, y70, y71, t72, t73, t74, t75, t76, t77, t78, t79, t80, t81, t82, t83, t84, t85, t86, t87, rfl⟩ := hp
  have hP : va_P D vwCl [(h_s, .inl (cI, 335, .inl f_s)), (h_names, .inl (cJ, 36, .inr (.inl f_names))), (h_reserved, .inl (cJ, 23, .inr (.inl f_reserved))), (h_h, .inl (cI, 104, .inl g20)), (h0, .inr (10, vL 67 F65)), (h_tape, .inl (cB, 940, .inl f_tape))] H := hP
  have hD : va_D A [(h_s, .inl (cI, 335, .inl f_s)), (h_names, .inl (cJ, 36, .inr (.inl f_names))), (h_reserved, .inl (cJ, 23, .inr (.inl f_reserved))), (h_h, .inl (cI, 104, .inl g20)), (h0, .inr (10, vL 67 F65)), (h_tape, .inl (cB, 940, .inl f_tape))] := hD
  refine W.widen (k := 0) (n := 0) (Nat.le_of_ble_eq_true rfl) (Nat.le_of_ble_eq_true rfl) ?_
  have cut103 : ∀ (w89 : Nat → Int64) (w90 : Nat → Int32) (G91 : Nat → Value) (u92 : Int32) (u93 : Int32) (u94 : Int32) (u95 : Int32) (u96 : Int32) (u97 : Int32) (u98 : Int32) (u99 : Int64) (u100 : Int32) (u101 : Int32) (u102 : Int32) (_ : SG 0 0 0 40 w90) (_ : SG 44 55 0 9 w90) (_ : SG 5 5 0 12 w90) (_ : SG 6 6 0 12 w90) (_ : SG 7 7 0 6 w90) (_ : SAME [4, 11, 12, 13, 14, 15, 16, 18, 19, 20, 21] F65 G91) (_ : G91 4 = .int u92) (_ : G91 11 = .int u93) (_ : G91 12 = .int u94) (_ : G91 13 = .int u95) (_ : G91 14 = .int u96) (_ : G91 15 = .int u97) (_ : G91 16 = .int u98) (_ : G91 18 = .long u99) (_ : G91 19 = .int u100) (_ : G91 20 = .int u101) (_ : G91 21 = .int u102) (_ : IR 0 940 u92) (_ : IR 0 4 u93) (_ : IR 0 940 u94) (_ : IR 0 940 u95) (_ : IR 0 0 u97) (_ : (CA (tkA f_tape x_length.toInt 900) (tkM y67 y68 y70 y71 y66) (csM (0 : Int32) g20 f_names) 900 (tkM u93 u94 u96 u99 u92) (csM u102 w90 w89) u101.toInt)) (_ : ((VWF u93.toInt u99.toInt))) (_ : (AV w89 18 (w90 5).toInt)) (_ : (AV w89 30 (w90 7).toInt)) (_ : (0 ≤ u101.toInt ∧ 2 * u101.toInt ≤ u92.toInt ∧ (1 ≤ u93.toInt → u93.toInt ≤ 3 → 2 * u101.toInt + 1 ≤ u92.toInt))) (_ : (UN f_names w89)) (_ : (u97.toInt = 0)) (_ : ((u93.toInt = 2 → 0 ≤ u96.toInt ∧ u96.toInt ≤ 999))) (_ : (u93.toInt = 0)) (H : Heap) (locs : List Loc) (ls : Array Slot), va_P D vwCl [(h_s, .inl (cI, 335, .inl f_s)), (h_names, .inl (cJ, 36, .inr (.inl w89))), (h_reserved, .inl (cJ, 23, .inr (.inl f_reserved))), (h_h, .inl (cI, 104, .inl w90)), (h0, .inr (10, vL 67 G91)), (h_tape, .inl (cB, 940, .inl f_tape))] H → va_D A [(h_s, .inl (cI, 335, .inl f_s)), (h_names, .inl (cJ, 36, .inr (.inl w89))), (h_reserved, .inl (cJ, 23, .inr (.inl f_reserved))), (h_h, .inl (cI, 104, .inl w90)), (h0, .inr (10, vL 67 G91)), (h_tape, .inl (cB, 940, .inl f_tape))] → va_S A s.heap H locs → lv_has ls 2 [(0, .ref h0)] → W p l e ({ frames := 4, cells := 0, slots := 0, locals := 87 } : Room) s m [.ref h0].toArray below meth c H locs 0 0 (MQ below (va_Qi (fun (r : Int32) (u : va_W) => ∃ (Gh : Nat → Value) (y_p : Int32) (y_token : Int32) (y_at : Int32) (y_span : Int32) (y_number : Int32) (y_fault : Int32) (y_faultAt : Int32) (y_ids : Int32) (y_word : Int64) (y_got : Int32) (y_lines : Int32) (y_onces : Int32) (y_undoMany : Int32) (g_s : Nat → Int32) (g_h : Nat → Int32) (g_names : Nat → Int64), SAME [0, 2, 3, 4, 5, 11, 12, 13, 14, 15, 16, 17, 18, 19, 20, 21, 41] Fh Gh ∧ Gh 0 = .int 0 ∧ Gh 2 = .int 0 ∧ Gh 3 = .int x_length ∧ Gh 4 = .int y_p ∧ IR 0 940 y_p ∧ Gh 5 = .int 900 ∧ Gh 11 = .int y_token ∧ IR 0 4 y_token ∧ Gh 12 = .int y_at ∧ Gh 13 = .int y_span ∧ Gh 14 = .int y_number ∧ Gh 15 = .int y_fault ∧ IR 0 4 y_fault ∧ Gh 16 = .int y_faultAt ∧ Gh 17 = .int y_ids ∧ Gh 18 = .long y_word ∧ Gh 19 = .int y_got ∧ Gh 20 = .int y_lines ∧ Gh 21 = .int y_onces ∧ Gh 41 = .int y_undoMany ∧ IR 0 8 y_undoMany ∧ SG 153 153 0 44 g_s ∧ SG 0 0 0 40 g_s ∧ SG 5 5 0 12 g_s ∧ SG 6 6 0 12 g_s ∧ SG 7 7 0 6 g_s ∧ SG 44 55 0 9 g_s ∧ KW 0 g_s ∧ SG 105 108 0 11 g_s ∧ SG 114 114 0 5 g_s ∧ SG 130 133 0 11 g_s ∧ SG 139 139 0 5 g_s ∧ SG 0 0 0 40 g_h ∧ SG 5 5 0 12 g_h ∧ SG 6 6 0 12 g_h ∧ SG 7 7 0 6 g_h ∧ SG 44 55 0 9 g_h ∧ (r.toInt = cAns (cTxt f_tape x_length.toInt) ∧ y_fault.toInt = gFlt (cTxt f_tape x_length.toInt)) ∧ (PICM g_s g_names = cPic (cTxt f_tape x_length.toInt) (PICM f_s f_names) ∧ AV g_names 0 (g_s 5).toInt ∧ AV g_names 12 (g_s 7).toInt) ∧ ((y_token.toInt = 2 → 0 ≤ y_number.toInt ∧ y_number.toInt ≤ 999)) ∧ u = [(h0, .inr (10, vL 67 Gh)), (h_tape, .inl (cB, 940, .inl f_tape)), (h_s, .inl (cI, 335, .inl g_s)), (h_h, .inl (cI, 104, .inl g_h)), (h_names, .inl (cJ, 36, .inr (.inl g_names))), (h_reserved, .inl (cJ, 23, .inr (.inl f_reserved)))]) (PO D A) A) [.ref h0].toArray s 0 0 A) (F0 m 78 ls []) := by
    intro w89 w90 G91 u92 u93 u94 u95 u96 u97 u98 u99 u100 u101 u102 i104 i105 i106 i107 i108 i109 i110 i111 i112 i113 i114 i115 i116 i117 i118 i119 i120 i121 i122 i123 i124 i125 i126 i127 i128 i129 i130 i131 i132 i133 i134 H locs ls hP hD hS hl
    have i121 : 0 ≤ u92.toInt ∧ u92.toInt ≤ 940 := i121
    have i122 : 0 ≤ u93.toInt ∧ u93.toInt ≤ 4 := i122
    have i123 : 0 ≤ u94.toInt ∧ u94.toInt ≤ 940 := i123
    have i124 : 0 ≤ u95.toInt ∧ u95.toInt ≤ 940 := i124
    have i125 : 0 ≤ u97.toInt ∧ u97.toInt ≤ 0 := i125
    have i126 : CA (tkA f_tape x_length.toInt 900) (tkM y67 y68 y70 y71 y66) (csM (0 : Int32) g20 f_names) 900 (tkM u93 u94 u96 u99 u92) (csM u102 w90 w89) u101.toInt := i126
    have i127 : (VWF u93.toInt u99.toInt) := i127
    have i128 : AV w89 18 (w90 5).toInt := i128
    have i129 : AV w89 30 (w90 7).toInt := i129
    have i130 : 0 ≤ u101.toInt ∧ 2 * u101.toInt ≤ u92.toInt ∧ (1 ≤ u93.toInt → u93.toInt ≤ 3 → 2 * u101.toInt + 1 ≤ u92.toInt) := i130
    have i131 : UN f_names w89 := i131
    have i132 : u97.toInt = 0 := i132
    have i133 : (u93.toInt = 2 → 0 ≤ u96.toInt ∧ u96.toInt ≤ 999) := i133
    have i134 : u93.toInt = 0 := i134
    refine lv_iconst (v := 0) hx hb dX10_course_78 (by decide) ?_
    refine lv_istore_n (lv' := [(1, .int 0), (0, .ref h0)]) hx hb dX10_course_79 rfl hl (by decide) rfl (fun ls hl => ?_)
    refine mloop (α := (Int32) × (Nat → Int32)) (nL := 2) (D := D) (A := A) (H0 := s.heap) (fun a => (335 - a.1.toInt).toNat) (fun a => IR 0 335 a.1 ∧ (CPH a.2 w90 (a.1.toInt)) ∧ (SGK 0 0 0 40 a.2 (a.1.toInt)) ∧ (SGK 5 5 0 12 a.2 (a.1.toInt)) ∧ (SGK 6 6 0 12 a.2 (a.1.toInt)) ∧ (SGK 7 7 0 6 a.2 (a.1.toInt)) ∧ (SGK 44 55 0 9 a.2 (a.1.toInt)) ∧ (SGK 105 108 0 11 a.2 (a.1.toInt)) ∧ (SGK 114 114 0 5 a.2 (a.1.toInt)) ∧ (SGK 130 133 0 11 a.2 (a.1.toInt)) ∧ (SGK 139 139 0 5 a.2 (a.1.toInt)) ∧ (SGK 153 153 0 0 a.2 (a.1.toInt))) (fun a => [(h_s, .inl (cI, 335, .inl a.2)), (h_names, .inl (cJ, 36, .inr (.inl w89))), (h_reserved, .inl (cJ, 23, .inr (.inl f_reserved))), (h_h, .inl (cI, 104, .inl w90)), (h0, .inr (10, vL 67 G91)), (h_tape, .inl (cB, 940, .inl f_tape))]) (fun a => [(1, .int a.1), (0, .ref h0)]) (fun H locs ls => W p l e ({ frames := 4, cells := 0, slots := 0, locals := 87 } : Room) s m [.ref h0].toArray below meth c H locs 0 0 (MQ below (va_Qi (fun (r : Int32) (u : va_W) => ∃ (Gh : Nat → Value) (y_p : Int32) (y_token : Int32) (y_at : Int32) (y_span : Int32) (y_number : Int32) (y_fault : Int32) (y_faultAt : Int32) (y_ids : Int32) (y_word : Int64) (y_got : Int32) (y_lines : Int32) (y_onces : Int32) (y_undoMany : Int32) (g_s : Nat → Int32) (g_h : Nat → Int32) (g_names : Nat → Int64), SAME [0, 2, 3, 4, 5, 11, 12, 13, 14, 15, 16, 17, 18, 19, 20, 21, 41] Fh Gh ∧ Gh 0 = .int 0 ∧ Gh 2 = .int 0 ∧ Gh 3 = .int x_length ∧ Gh 4 = .int y_p ∧ IR 0 940 y_p ∧ Gh 5 = .int 900 ∧ Gh 11 = .int y_token ∧ IR 0 4 y_token ∧ Gh 12 = .int y_at ∧ Gh 13 = .int y_span ∧ Gh 14 = .int y_number ∧ Gh 15 = .int y_fault ∧ IR 0 4 y_fault ∧ Gh 16 = .int y_faultAt ∧ Gh 17 = .int y_ids ∧ Gh 18 = .long y_word ∧ Gh 19 = .int y_got ∧ Gh 20 = .int y_lines ∧ Gh 21 = .int y_onces ∧ Gh 41 = .int y_undoMany ∧ IR 0 8 y_undoMany ∧ SG 153 153 0 44 g_s ∧ SG 0 0 0 40 g_s ∧ SG 5 5 0 12 g_s ∧ SG 6 6 0 12 g_s ∧ SG 7 7 0 6 g_s ∧ SG 44 55 0 9 g_s ∧ KW 0 g_s ∧ SG 105 108 0 11 g_s ∧ SG 114 114 0 5 g_s ∧ SG 130 133 0 11 g_s ∧ SG 139 139 0 5 g_s ∧ SG 0 0 0 40 g_h ∧ SG 5 5 0 12 g_h ∧ SG 6 6 0 12 g_h ∧ SG 7 7 0 6 g_h ∧ SG 44 55 0 9 g_h ∧ (r.toInt = cAns (cTxt f_tape x_length.toInt) ∧ y_fault.toInt = gFlt (cTxt f_tape x_length.toInt)) ∧ (PICM g_s g_names = cPic (cTxt f_tape x_length.toInt) (PICM f_s f_names) ∧ AV g_names 0 (g_s 5).toInt ∧ AV g_names 12 (g_s 7).toInt) ∧ ((y_token.toInt = 2 → 0 ≤ y_number.toInt ∧ y_number.toInt ≤ 999)) ∧ u = [(h0, .inr (10, vL 67 Gh)), (h_tape, .inl (cB, 940, .inl f_tape)), (h_s, .inl (cI, 335, .inl g_s)), (h_h, .inl (cI, 104, .inl g_h)), (h_names, .inl (cJ, 36, .inr (.inl g_names))), (h_reserved, .inl (cJ, 23, .inr (.inl f_reserved)))]) (PO D A) A) [.ref h0].toArray s 0 0 A) (F0 m 80 ls [])) ?_ (0, f_s) ⟨(show 0 ≤ (0 : Int32).toInt ∧ (0 : Int32).toInt ≤ 335 by decide), (show CPH f_s w90 (0) from (CPH.zero (by decide))), (show SGK 0 0 0 40 f_s (0) from (SGK.zero (by decide))), (show SGK 5 5 0 12 f_s (0) from (SGK.zero (by decide))), (show SGK 6 6 0 12 f_s (0) from (SGK.zero (by decide))), (show SGK 7 7 0 6 f_s (0) from (SGK.zero (by decide))), (show SGK 44 55 0 9 f_s (0) from (SGK.zero (by decide))), (show SGK 105 108 0 11 f_s (0) from (SGK.zero (by decide))), (show SGK 114 114 0 5 f_s (0) from (SGK.zero (by decide))), (show SGK 130 133 0 11 f_s (0) from (SGK.zero (by decide))), (show SGK 139 139 0 5 f_s (0) from (SGK.zero (by decide))), (show SGK 153 153 0 0 f_s (0) from (SGK.zero (by decide)))⟩ _ _ _ hP hD hS hl
    rintro ⟨u135, w136⟩ ⟨i137, i138, i139, i140, i141, i142, i143, i144, i145, i146, i147, i148⟩ ih H locs ls hP hD hS hl
    have i137 : 0 ≤ u135.toInt ∧ u135.toInt ≤ 335 := i137
    have i138 : CPH w136 w90 (u135.toInt) := i138
    have i139 : SGK 0 0 0 40 w136 (u135.toInt) := i139
    have i140 : SGK 5 5 0 12 w136 (u135.toInt) := i140
    have i141 : SGK 6 6 0 12 w136 (u135.toInt) := i141
    have i142 : SGK 7 7 0 6 w136 (u135.toInt) := i142
    have i143 : SGK 44 55 0 9 w136 (u135.toInt) := i143
    have i144 : SGK 105 108 0 11 w136 (u135.toInt) := i144
    have i145 : SGK 114 114 0 5 w136 (u135.toInt) := i145
    have i146 : SGK 130 133 0 11 w136 (u135.toInt) := i146
    have i147 : SGK 139 139 0 5 w136 (u135.toInt) := i147
    have i148 : SGK 153 153 0 0 w136 (u135.toInt) := i148
    have hP : va_P D vwCl [(h_s, .inl (cI, 335, .inl w136)), (h_names, .inl (cJ, 36, .inr (.inl w89))), (h_reserved, .inl (cJ, 23, .inr (.inl f_reserved))), (h_h, .inl (cI, 104, .inl w90)), (h0, .inr (10, vL 67 G91)), (h_tape, .inl (cB, 940, .inl f_tape))] H := hP
    have hD : va_D A [(h_s, .inl (cI, 335, .inl w136)), (h_names, .inl (cJ, 36, .inr (.inl w89))), (h_reserved, .inl (cJ, 23, .inr (.inl f_reserved))), (h_h, .inl (cI, 104, .inl w90)), (h0, .inr (10, vL 67 G91)), (h_tape, .inl (cB, 940, .inl f_tape))] := hD
    have hl : lv_has ls 2 [(1, .int u135), (0, .ref h0)] := hl
    refine lv_iload_n hx hb dX10_course_80 rfl (lv_at hl 0 rfl) ?_
    refine lv_sipush (v := 335) hx hb dX10_course_81 (by decide) ?_
    refine lv_icmp_ge (tgt := 115) hx hb dX10_course_84 (by decide) (fun c149 => ?_) (fun c149 => ?_)
    · have dc149 : 335 ≤ u135.toInt := le_i (a := 335) (b := u135.toInt) rfl rfl c149
      have k150 : 335 ≤ u135.toInt ∧ u135.toInt ≤ 335 := ⟨Int.le_trans (Int.le_refl _) dc149, i137.2⟩
      have r151 : SG 0 0 0 40 w136 := SGK.all i139 (by omega)
      have r152 : SG 5 5 0 12 w136 := SGK.all i140 (by omega)
      have r153 : SG 6 6 0 12 w136 := SGK.all i141 (by omega)
      have r154 : SG 7 7 0 6 w136 := SGK.all i142 (by omega)
      have r155 : SG 44 55 0 9 w136 := SGK.all i143 (by omega)
      have r156 : SG 105 108 0 11 w136 := SGK.all i144 (by omega)
      have r157 : SG 114 114 0 5 w136 := SGK.all i145 (by omega)
      have r158 : SG 130 133 0 11 w136 := SGK.all i146 (by omega)
      have r159 : SG 139 139 0 5 w136 := SGK.all i147 (by omega)
      have r160 : SG 153 153 0 0 w136 := SGK.all i148 (by omega)
      have r161 : KW 0 w136 := KW.none r160
      refine lv_iconst (v := 0) hx hb dX10_course_115 (by decide) ?_
      refine lv_istore_n (lv' := [(1, .int 0), (0, .ref h0)]) hx hb dX10_course_116 rfl hl (by decide) rfl (fun ls hl => ?_)
      refine mloop (α := (Int32) × (Nat → Int64)) (nL := 2) (D := D) (A := A) (H0 := s.heap) (fun a => (18 - a.1.toInt).toNat) (fun a => IR 0 18 a.1 ∧ (CPN w89 a.2 (a.1.toInt))) (fun a => [(h_s, .inl (cI, 335, .inl w136)), (h_names, .inl (cJ, 36, .inr (.inl a.2))), (h_reserved, .inl (cJ, 23, .inr (.inl f_reserved))), (h_h, .inl (cI, 104, .inl w90)), (h0, .inr (10, vL 67 G91)), (h_tape, .inl (cB, 940, .inl f_tape))]) (fun a => [(1, .int a.1), (0, .ref h0)]) (fun H locs ls => W p l e ({ frames := 4, cells := 0, slots := 0, locals := 87 } : Room) s m [.ref h0].toArray below meth c H locs 0 0 (MQ below (va_Qi (fun (r : Int32) (u : va_W) => ∃ (Gh : Nat → Value) (y_p : Int32) (y_token : Int32) (y_at : Int32) (y_span : Int32) (y_number : Int32) (y_fault : Int32) (y_faultAt : Int32) (y_ids : Int32) (y_word : Int64) (y_got : Int32) (y_lines : Int32) (y_onces : Int32) (y_undoMany : Int32) (g_s : Nat → Int32) (g_h : Nat → Int32) (g_names : Nat → Int64), SAME [0, 2, 3, 4, 5, 11, 12, 13, 14, 15, 16, 17, 18, 19, 20, 21, 41] Fh Gh ∧ Gh 0 = .int 0 ∧ Gh 2 = .int 0 ∧ Gh 3 = .int x_length ∧ Gh 4 = .int y_p ∧ IR 0 940 y_p ∧ Gh 5 = .int 900 ∧ Gh 11 = .int y_token ∧ IR 0 4 y_token ∧ Gh 12 = .int y_at ∧ Gh 13 = .int y_span ∧ Gh 14 = .int y_number ∧ Gh 15 = .int y_fault ∧ IR 0 4 y_fault ∧ Gh 16 = .int y_faultAt ∧ Gh 17 = .int y_ids ∧ Gh 18 = .long y_word ∧ Gh 19 = .int y_got ∧ Gh 20 = .int y_lines ∧ Gh 21 = .int y_onces ∧ Gh 41 = .int y_undoMany ∧ IR 0 8 y_undoMany ∧ SG 153 153 0 44 g_s ∧ SG 0 0 0 40 g_s ∧ SG 5 5 0 12 g_s ∧ SG 6 6 0 12 g_s ∧ SG 7 7 0 6 g_s ∧ SG 44 55 0 9 g_s ∧ KW 0 g_s ∧ SG 105 108 0 11 g_s ∧ SG 114 114 0 5 g_s ∧ SG 130 133 0 11 g_s ∧ SG 139 139 0 5 g_s ∧ SG 0 0 0 40 g_h ∧ SG 5 5 0 12 g_h ∧ SG 6 6 0 12 g_h ∧ SG 7 7 0 6 g_h ∧ SG 44 55 0 9 g_h ∧ (r.toInt = cAns (cTxt f_tape x_length.toInt) ∧ y_fault.toInt = gFlt (cTxt f_tape x_length.toInt)) ∧ (PICM g_s g_names = cPic (cTxt f_tape x_length.toInt) (PICM f_s f_names) ∧ AV g_names 0 (g_s 5).toInt ∧ AV g_names 12 (g_s 7).toInt) ∧ ((y_token.toInt = 2 → 0 ≤ y_number.toInt ∧ y_number.toInt ≤ 999)) ∧ u = [(h0, .inr (10, vL 67 Gh)), (h_tape, .inl (cB, 940, .inl f_tape)), (h_s, .inl (cI, 335, .inl g_s)), (h_h, .inl (cI, 104, .inl g_h)), (h_names, .inl (cJ, 36, .inr (.inl g_names))), (h_reserved, .inl (cJ, 23, .inr (.inl f_reserved)))]) (PO D A) A) [.ref h0].toArray s 0 0 A) (F0 m 117 ls [])) ?_ (0, w89) ⟨(show 0 ≤ (0 : Int32).toInt ∧ (0 : Int32).toInt ≤ 18 by decide), (show CPN w89 w89 (0) from (CPN.zero (by decide)))⟩ _ _ _ hP hD hS hl
      rintro ⟨u162, w163⟩ ⟨i164, i165⟩ ih_117 H locs ls hP hD hS hl
      have i164 : 0 ≤ u162.toInt ∧ u162.toInt ≤ 18 := i164
      have i165 : CPN w89 w163 (u162.toInt) := i165
      have hP : va_P D vwCl [(h_s, .inl (cI, 335, .inl w136)), (h_names, .inl (cJ, 36, .inr (.inl w163))), (h_reserved, .inl (cJ, 23, .inr (.inl f_reserved))), (h_h, .inl (cI, 104, .inl w90)), (h0, .inr (10, vL 67 G91)), (h_tape, .inl (cB, 940, .inl f_tape))] H := hP
      have hD : va_D A [(h_s, .inl (cI, 335, .inl w136)), (h_names, .inl (cJ, 36, .inr (.inl w163))), (h_reserved, .inl (cJ, 23, .inr (.inl f_reserved))), (h_h, .inl (cI, 104, .inl w90)), (h0, .inr (10, vL 67 G91)), (h_tape, .inl (cB, 940, .inl f_tape))] := hD
      have hl : lv_has ls 2 [(1, .int u162), (0, .ref h0)] := hl
      refine lv_iload_n hx hb dX10_course_117 rfl (lv_at hl 0 rfl) ?_
      refine lv_bipush (v := 18) hx hb dX10_course_118 (by decide) ?_
      refine lv_icmp_ge (tgt := 144) hx hb dX10_course_120 (by decide) (fun c166 => ?_) (fun c166 => ?_)
      · have dc166 : 18 ≤ u162.toInt := le_i (a := 18) (b := u162.toInt) rfl rfl c166
        have k167 : 18 ≤ u162.toInt ∧ u162.toInt ≤ 18 := ⟨Int.le_trans (Int.le_refl _) dc166, i164.2⟩
        refine lv_aload_n hx hb dX10_course_144 rfl (lv_at hl 1 rfl) ?_
        refine lv_dup hx hb dX10_course_145 rfl ?_
        have n168 : F1 17 = .int x_ids := (get_ne eF1 (by decide) e_ids)
        have n169 : F4 17 = .int x_ids := (SAME.at t5 (by decide) n168)
        have n170 : F11 17 = .int x_ids := (get_ne eF11 (by decide) n169)
        have n171 : F12 17 = .int x_ids := (get_ne eF12 (by decide) n170)
        have n172 : F13 17 = .int x_ids := (get_ne eF13 (by decide) n171)
        have n173 : F65 17 = .int x_ids := (SAME.at t72 (by decide) n172)
        have n174 : G91 17 = .int x_ids := (SAME.at i109 (by decide) n173)
        refine get_f (D := D) (ci := 10) (v := .int x_ids) (C := RX10) (T := TX10) (N := 67) hx hb hw inAX10 hown hK hP 4 rfl rfl 17 (by decide) (hw _ q_1278) (fun _ h9 => h9) n174 dX10_course_146 ?_
        refine lv_iconst (v := 1) hx hb dX10_course_149 (by decide) ?_
        refine lv_iadd hx hb dX10_course_150 ?_
        refine lv_topi (fun v175 ev175 => ?_)
        refine put_f (D := D) (ci := 10) (v := .int v175) (ty := .int) (C := RX10) (T := TX10) (N := 67) hx hb hw inAX10 tyX10 tyX10_ok nmX10 hown hK hP hD hS 4 rfl rfl 17 (by decide) (hw _ q_1278) (fun _ h9 => h9) rfl (by decide +kernel) rfl rfl dX10_course_151 (fun H locs F176 eF176 hP hD hS => ?_)
        have hP : va_P D vwCl [(h_s, .inl (cI, 335, .inl w136)), (h_names, .inl (cJ, 36, .inr (.inl w163))), (h_reserved, .inl (cJ, 23, .inr (.inl f_reserved))), (h_h, .inl (cI, 104, .inl w90)), (h0, .inr (10, vL 67 F176)), (h_tape, .inl (cB, 940, .inl f_tape))] H := hP
        have hD : va_D A [(h_s, .inl (cI, 335, .inl w136)), (h_names, .inl (cJ, 36, .inr (.inl w163))), (h_reserved, .inl (cJ, 23, .inr (.inl f_reserved))), (h_h, .inl (cI, 104, .inl w90)), (h0, .inr (10, vL 67 F176)), (h_tape, .inl (cB, 940, .inl f_tape))] := hD
        refine lv_aload_n hx hb dX10_course_154 rfl (lv_at hl 1 rfl) ?_
        have n177 : F1 6 = .ref h_s := (get_ne eF1 (by decide) e_s)
        have n178 : F4 6 = .ref h_s := (SAME.at t5 (by decide) n177)
        have n179 : F11 6 = .ref h_s := (get_ne eF11 (by decide) n178)
        have n180 : F12 6 = .ref h_s := (get_ne eF12 (by decide) n179)
        have n181 : F13 6 = .ref h_s := (get_ne eF13 (by decide) n180)
        have n182 : F65 6 = .ref h_s := (SAME.at t72 (by decide) n181)
        have n183 : G91 6 = .ref h_s := (SAME.at i109 (by decide) n182)
        have n184 : F176 6 = .ref h_s := (get_ne eF176 (by decide) n183)
        refine get_f (D := D) (ci := 10) (v := .ref h_s) (C := RX10) (T := TX10) (N := 67) hx hb hw inAX10 hown hK hP 4 rfl rfl 6 (by decide) (hw _ q_1267) (fun _ h9 => h9) n184 dX10_course_155 ?_
        refine lv_sipush (v := 334) hx hb dX10_course_158 (by decide) ?_
        refine lv_aload_n hx hb dX10_course_161 rfl (lv_at hl 1 rfl) ?_
        refine get_f (D := D) (ci := 10) (v := .int v175) (C := RX10) (T := TX10) (N := 67) hx hb hw inAX10 hown hK hP 4 rfl rfl 17 (by decide) (hw _ q_1278) (fun _ h9 => h9) (get_eq eF176) dX10_course_162 ?_
        obtain ⟨g185, eg185⟩ : ∃ z : Nat → Int32, upd w136 334 v175 = z := ⟨_, rfl⟩
        have r186 : KW 0 g185 := by rw [← eg185]; exact r161.upN (by decide)
        have r187 : SG 0 0 0 40 g185 := by rw [← eg185]; exact r151.upN (Or.inr (Or.inl (by decide)))
        have r188 : SG 105 108 0 11 g185 := by rw [← eg185]; exact r156.upN (Or.inr (Or.inl (by decide)))
        have r189 : SG 114 114 0 5 g185 := by rw [← eg185]; exact r157.upN (Or.inr (Or.inl (by decide)))
        have r190 : SG 130 133 0 11 g185 := by rw [← eg185]; exact r158.upN (Or.inr (Or.inl (by decide)))
        have r191 : SG 139 139 0 5 g185 := by rw [← eg185]; exact r159.upN (Or.inr (Or.inl (by decide)))
        have r192 : SG 153 153 0 0 g185 := by rw [← eg185]; exact r160.upN (Or.inr (Or.inl (by decide)))
        have r193 : SG 44 55 0 9 g185 := by rw [← eg185]; exact r155.upN (Or.inr (Or.inl (by decide)))
        have r194 : SG 5 5 0 12 g185 := by rw [← eg185]; exact r152.upN (Or.inr (Or.inl (by decide)))
        have r195 : SG 6 6 0 12 g185 := by rw [← eg185]; exact r153.upN (Or.inr (Or.inl (by decide)))
        have r196 : SG 7 7 0 6 g185 := by rw [← eg185]; exact r154.upN (Or.inr (Or.inl (by decide)))
        refine iast_n hx hb hK hP hD hS 0 0 rfl rfl 334 rfl (Nat.le_of_ble_eq_true rfl) (Nat.le_of_ble_eq_true rfl) eg185 dX10_course_165 (fun H locs hP hD hS => ?_)
        have hP : va_P D vwCl [(h_s, .inl (cI, 335, .inl g185)), (h_names, .inl (cJ, 36, .inr (.inl w163))), (h_reserved, .inl (cJ, 23, .inr (.inl f_reserved))), (h_h, .inl (cI, 104, .inl w90)), (h0, .inr (10, vL 67 F176)), (h_tape, .inl (cB, 940, .inl f_tape))] H := hP
        have hD : va_D A [(h_s, .inl (cI, 335, .inl g185)), (h_names, .inl (cJ, 36, .inr (.inl w163))), (h_reserved, .inl (cJ, 23, .inr (.inl f_reserved))), (h_h, .inl (cI, 104, .inl w90)), (h0, .inr (10, vL 67 F176)), (h_tape, .inl (cB, 940, .inl f_tape))] := hD
        refine lv_aload_n hx hb dX10_course_166 rfl (lv_at hl 1 rfl) ?_
        refine get_f (D := D) (ci := 10) (v := .ref h_s) (C := RX10) (T := TX10) (N := 67) hx hb hw inAX10 hown hK hP 4 rfl rfl 6 (by decide) (hw _ q_1267) (fun _ h9 => h9) n184 dX10_course_167 ?_
        refine lv_bipush (v := 115) hx hb dX10_course_170 (by decide) ?_
        refine lv_iconst (v := 1) hx hb dX10_course_172 (by decide) ?_
        obtain ⟨g197, eg197⟩ : ∃ z : Nat → Int32, upd g185 115 1 = z := ⟨_, rfl⟩
        have r198 : KW 0 g197 := by rw [← eg197]; exact r186.upN (by decide)
        have r199 : SG 0 0 0 40 g197 := by rw [← eg197]; exact r187.upN (Or.inr (Or.inl (by decide)))
        have r200 : SG 105 108 0 11 g197 := by rw [← eg197]; exact r188.upN (Or.inr (Or.inl (by decide)))
        have r201 : SG 114 114 0 5 g197 := by rw [← eg197]; exact r189.upN (Or.inr (Or.inl (by decide)))
        have r202 : SG 130 133 0 11 g197 := by rw [← eg197]; exact r190.upN (Or.inl (by decide))
        have r203 : SG 139 139 0 5 g197 := by rw [← eg197]; exact r191.upN (Or.inl (by decide))
        have r204 : SG 153 153 0 0 g197 := by rw [← eg197]; exact r192.upN (Or.inl (by decide))
        have r205 : SG 44 55 0 9 g197 := by rw [← eg197]; exact r193.upN (Or.inr (Or.inl (by decide)))
        have r206 : SG 5 5 0 12 g197 := by rw [← eg197]; exact r194.upN (Or.inr (Or.inl (by decide)))
        have r207 : SG 6 6 0 12 g197 := by rw [← eg197]; exact r195.upN (Or.inr (Or.inl (by decide)))
        have r208 : SG 7 7 0 6 g197 := by rw [← eg197]; exact r196.upN (Or.inr (Or.inl (by decide)))
        refine iast_n hx hb hK hP hD hS 0 0 rfl rfl 115 rfl (Nat.le_of_ble_eq_true rfl) (Nat.le_of_ble_eq_true rfl) eg197 dX10_course_173 (fun H locs hP hD hS => ?_)
        have hP : va_P D vwCl [(h_s, .inl (cI, 335, .inl g197)), (h_names, .inl (cJ, 36, .inr (.inl w163))), (h_reserved, .inl (cJ, 23, .inr (.inl f_reserved))), (h_h, .inl (cI, 104, .inl w90)), (h0, .inr (10, vL 67 F176)), (h_tape, .inl (cB, 940, .inl f_tape))] H := hP
        have hD : va_D A [(h_s, .inl (cI, 335, .inl g197)), (h_names, .inl (cJ, 36, .inr (.inl w163))), (h_reserved, .inl (cJ, 23, .inr (.inl f_reserved))), (h_h, .inl (cI, 104, .inl w90)), (h0, .inr (10, vL 67 F176)), (h_tape, .inl (cB, 940, .inl f_tape))] := hD
        refine lv_iconst (v := 0) hx hb dX10_course_174 (by decide) ?_
        refine lv_istore_n (lv' := [(1, .int 0), (0, .ref h0)]) hx hb dX10_course_175 rfl hl (by decide) rfl (fun ls hl => ?_)
        refine mloop (α := (Int32) × (Nat → Int32)) (nL := 2) (D := D) (A := A) (H0 := s.heap) (fun a => (12 - a.1.toInt).toNat) (fun a => IR 0 12 a.1 ∧ KW 0 a.2 ∧ SG 0 0 0 40 a.2 ∧ SG 105 108 0 11 a.2 ∧ SG 114 114 0 5 a.2 ∧ SG 130 133 0 11 a.2 ∧ SG 139 139 0 5 a.2 ∧ SG 153 153 0 44 a.2 ∧ SG 44 55 0 9 a.2 ∧ SG 5 5 0 12 a.2 ∧ SG 6 6 0 12 a.2 ∧ SG 7 7 0 6 a.2 ∧ (US w90 a.2)) (fun a => [(h_s, .inl (cI, 335, .inl a.2)), (h_names, .inl (cJ, 36, .inr (.inl w163))), (h_reserved, .inl (cJ, 23, .inr (.inl f_reserved))), (h_h, .inl (cI, 104, .inl w90)), (h0, .inr (10, vL 67 F176)), (h_tape, .inl (cB, 940, .inl f_tape))]) (fun a => [(1, .int a.1), (0, .ref h0)]) (fun H locs ls => W p l e ({ frames := 4, cells := 0, slots := 0, locals := 87 } : Room) s m [.ref h0].toArray below meth c H locs 0 0 (MQ below (va_Qi (fun (r : Int32) (u : va_W) => ∃ (Gh : Nat → Value) (y_p : Int32) (y_token : Int32) (y_at : Int32) (y_span : Int32) (y_number : Int32) (y_fault : Int32) (y_faultAt : Int32) (y_ids : Int32) (y_word : Int64) (y_got : Int32) (y_lines : Int32) (y_onces : Int32) (y_undoMany : Int32) (g_s : Nat → Int32) (g_h : Nat → Int32) (g_names : Nat → Int64), SAME [0, 2, 3, 4, 5, 11, 12, 13, 14, 15, 16, 17, 18, 19, 20, 21, 41] Fh Gh ∧ Gh 0 = .int 0 ∧ Gh 2 = .int 0 ∧ Gh 3 = .int x_length ∧ Gh 4 = .int y_p ∧ IR 0 940 y_p ∧ Gh 5 = .int 900 ∧ Gh 11 = .int y_token ∧ IR 0 4 y_token ∧ Gh 12 = .int y_at ∧ Gh 13 = .int y_span ∧ Gh 14 = .int y_number ∧ Gh 15 = .int y_fault ∧ IR 0 4 y_fault ∧ Gh 16 = .int y_faultAt ∧ Gh 17 = .int y_ids ∧ Gh 18 = .long y_word ∧ Gh 19 = .int y_got ∧ Gh 20 = .int y_lines ∧ Gh 21 = .int y_onces ∧ Gh 41 = .int y_undoMany ∧ IR 0 8 y_undoMany ∧ SG 153 153 0 44 g_s ∧ SG 0 0 0 40 g_s ∧ SG 5 5 0 12 g_s ∧ SG 6 6 0 12 g_s ∧ SG 7 7 0 6 g_s ∧ SG 44 55 0 9 g_s ∧ KW 0 g_s ∧ SG 105 108 0 11 g_s ∧ SG 114 114 0 5 g_s ∧ SG 130 133 0 11 g_s ∧ SG 139 139 0 5 g_s ∧ SG 0 0 0 40 g_h ∧ SG 5 5 0 12 g_h ∧ SG 6 6 0 12 g_h ∧ SG 7 7 0 6 g_h ∧ SG 44 55 0 9 g_h ∧ (r.toInt = cAns (cTxt f_tape x_length.toInt) ∧ y_fault.toInt = gFlt (cTxt f_tape x_length.toInt)) ∧ (PICM g_s g_names = cPic (cTxt f_tape x_length.toInt) (PICM f_s f_names) ∧ AV g_names 0 (g_s 5).toInt ∧ AV g_names 12 (g_s 7).toInt) ∧ ((y_token.toInt = 2 → 0 ≤ y_number.toInt ∧ y_number.toInt ≤ 999)) ∧ u = [(h0, .inr (10, vL 67 Gh)), (h_tape, .inl (cB, 940, .inl f_tape)), (h_s, .inl (cI, 335, .inl g_s)), (h_h, .inl (cI, 104, .inl g_h)), (h_names, .inl (cJ, 36, .inr (.inl g_names))), (h_reserved, .inl (cJ, 23, .inr (.inl f_reserved)))]) (PO D A) A) [.ref h0].toArray s 0 0 A) (F0 m 176 ls [])) ?_ (0, g197) ⟨(show 0 ≤ (0 : Int32).toInt ∧ (0 : Int32).toInt ≤ 12 by decide), r198, r199, r200, r201, r202, r203, (SG.wk r204 (by decide) (by decide)), r205, r206, r207, r208, (show US w90 g197 from (show US w90 g197 by rw [← eg197]; exact US.upN (show US w90 g185 by rw [← eg185]; exact US.upN (CPH.us i138 (by omega)) (by decide)) (by decide)))⟩ _ _ _ hP hD hS hl
        rintro ⟨u209, w210⟩ ⟨i211, i212, i213, i214, i215, i216, i217, i218, i219, i220, i221, i222, i223⟩ ih_176 H locs ls hP hD hS hl
        have i211 : 0 ≤ u209.toInt ∧ u209.toInt ≤ 12 := i211
        have i223 : US w90 w210 := i223
        have hP : va_P D vwCl [(h_s, .inl (cI, 335, .inl w210)), (h_names, .inl (cJ, 36, .inr (.inl w163))), (h_reserved, .inl (cJ, 23, .inr (.inl f_reserved))), (h_h, .inl (cI, 104, .inl w90)), (h0, .inr (10, vL 67 F176)), (h_tape, .inl (cB, 940, .inl f_tape))] H := hP
        have hD : va_D A [(h_s, .inl (cI, 335, .inl w210)), (h_names, .inl (cJ, 36, .inr (.inl w163))), (h_reserved, .inl (cJ, 23, .inr (.inl f_reserved))), (h_h, .inl (cI, 104, .inl w90)), (h0, .inr (10, vL 67 F176)), (h_tape, .inl (cB, 940, .inl f_tape))] := hD
        have hl : lv_has ls 2 [(1, .int u209), (0, .ref h0)] := hl
        refine lv_iload_n hx hb dX10_course_176 rfl (lv_at hl 0 rfl) ?_
        refine lv_aload_n hx hb dX10_course_177 rfl (lv_at hl 1 rfl) ?_
        refine get_f (D := D) (ci := 10) (v := .ref h_s) (C := RX10) (T := TX10) (N := 67) hx hb hw inAX10 hown hK hP 4 rfl rfl 6 (by decide) (hw _ q_1267) (fun _ h9 => h9) n184 dX10_course_178 ?_
        refine lv_bipush (v := 6) hx hb dX10_course_181 (by decide) ?_
        refine iald_n hx hb hK hP 0 0 rfl rfl 6 rfl (Nat.le_of_ble_eq_true rfl) (Nat.le_of_ble_eq_true rfl) rfl dX10_course_183 ?_
        refine lv_topi (fun v224 ev224 => ?_)
        have k225 : 0 ≤ v224.toInt ∧ v224.toInt ≤ 12 := by rw [ev224]; exact i221.atN 6 (by decide) (by decide)
        refine lv_icmp_ge (tgt := 211) hx hb dX10_course_184 (by decide) (fun c226 => ?_) (fun c226 => ?_)
        · have dc226 : v224.toInt ≤ u209.toInt := le_i (a := v224.toInt) (b := u209.toInt) rfl rfl c226
          refine lv_aload_n hx hb dX10_course_211 rfl (lv_at hl 1 rfl) ?_
          refine lv_iconst (v := 0) hx hb dX10_course_212 (by decide) ?_
          refine put_f (D := D) (ci := 10) (v := .int 0) (ty := .int) (C := RX10) (T := TX10) (N := 67) hx hb hw inAX10 tyX10 tyX10_ok nmX10 hown hK hP hD hS 4 rfl rfl 41 (by decide) (hw _ q_1302) (fun _ h9 => h9) rfl (by decide +kernel) rfl rfl dX10_course_213 (fun H locs F227 eF227 hP hD hS => ?_)
          have hP : va_P D vwCl [(h_s, .inl (cI, 335, .inl w210)), (h_names, .inl (cJ, 36, .inr (.inl w163))), (h_reserved, .inl (cJ, 23, .inr (.inl f_reserved))), (h_h, .inl (cI, 104, .inl w90)), (h0, .inr (10, vL 67 F227)), (h_tape, .inl (cB, 940, .inl f_tape))] H := hP
          have hD : va_D A [(h_s, .inl (cI, 335, .inl w210)), (h_names, .inl (cJ, 36, .inr (.inl w163))), (h_reserved, .inl (cJ, 23, .inr (.inl f_reserved))), (h_h, .inl (cI, 104, .inl w90)), (h0, .inr (10, vL 67 F227)), (h_tape, .inl (cB, 940, .inl f_tape))] := hD
          refine lv_aload_n hx hb dX10_course_216 rfl (lv_at hl 1 rfl) ?_
          have n228 : F176 20 = .int u101 := (get_ne eF176 (by decide) i119)
          have n229 : F227 20 = .int u101 := (get_ne eF227 (by decide) n228)
          refine get_f (D := D) (ci := 10) (v := .int u101) (C := RX10) (T := TX10) (N := 67) hx hb hw inAX10 hown hK hP 4 rfl rfl 20 (by decide) (hw _ q_1281) (fun _ h9 => h9) n229 dX10_course_217 ?_
          exact ret_i (v := u101) hx hb hr hlocks hS (hP.sub (ws' := [(h0, .inr (10, vL 67 F227)), (h_tape, .inl (cB, 940, .inl f_tape)), (h_s, .inl (cI, 335, .inl w210)), (h_h, .inl (cI, 104, .inl w90)), (h_names, .inl (cJ, 36, .inr (.inl w163))), (h_reserved, .inl (cJ, 23, .inr (.inl f_reserved)))]) [4, 5, 0, 3, 1, 2] rfl) (hD.sub (ws' := [(h0, .inr (10, vL 67 F227)), (h_tape, .inl (cB, 940, .inl f_tape)), (h_s, .inl (cI, 335, .inl w210)), (h_h, .inl (cI, 104, .inl w90)), (h_names, .inl (cJ, 36, .inr (.inl w163))), (h_reserved, .inl (cJ, 23, .inr (.inl f_reserved)))]) [4, 5, 0, 3, 1, 2] (by decide) rfl) dX10_course_220 rfl (Nat.le_of_ble_eq_true rfl) (Nat.le_of_ble_eq_true rfl) ⟨F227, u92, u93, u94, u95, u96, u97, u98, v175, u99, u100, u101, u102, 0, w210, w90, w163, (SAME.up eF227 (SAME.up eF176 (SAME.tr (SAME.tr (SAME.up eF13 (SAME.up eF12 (SAME.up eF11 (SAME.tr (SAME.up eF1 SAME.rf (by decide)) t5 (by decide)) (by decide)) (by decide)) (by decide)) t72 (by decide)) i109 (by decide)) (by decide)) (by decide)), (get_ne eF227 (by decide) (get_ne eF176 (by decide) (SAME.at i109 (by decide) (SAME.at t72 (by decide) (get_ne eF13 (by decide) (get_ne eF12 (by decide) (get_ne eF11 (by decide) (SAME.at t5 (by decide) (get_eq eF1))))))))), (get_ne eF227 (by decide) (get_ne eF176 (by decide) (SAME.at i109 (by decide) (SAME.at t72 (by decide) (get_ne eF13 (by decide) (get_ne eF12 (by decide) (get_ne eF11 (by decide) t6))))))), (get_ne eF227 (by decide) (get_ne eF176 (by decide) (SAME.at i109 (by decide) (SAME.at t72 (by decide) n37)))), (get_ne eF227 (by decide) (get_ne eF176 (by decide) i110)), i121, (get_ne eF227 (by decide) (get_ne eF176 (by decide) (SAME.at i109 (by decide) (SAME.at t72 (by decide) n43)))), (get_ne eF227 (by decide) (get_ne eF176 (by decide) i111)), i122, (get_ne eF227 (by decide) (get_ne eF176 (by decide) i112)), (get_ne eF227 (by decide) (get_ne eF176 (by decide) i113)), (get_ne eF227 (by decide) (get_ne eF176 (by decide) i114)), (get_ne eF227 (by decide) (get_ne eF176 (by decide) i115)), (ir_wk i125 (by decide) (by decide)), (get_ne eF227 (by decide) (get_ne eF176 (by decide) i116)), (get_ne eF227 (by decide) (get_eq eF176)), (get_ne eF227 (by decide) (get_ne eF176 (by decide) i117)), (get_ne eF227 (by decide) (get_ne eF176 (by decide) i118)), n229, (get_ne eF227 (by decide) (get_ne eF176 (by decide) i120)), (get_eq eF227), (show 0 ≤ (0 : Int32).toInt ∧ (0 : Int32).toInt ≤ 8 by decide), i218, i213, i220, i221, i222, i219, i212, i214, i215, i216, i217, i104, i106, i107, i108, i105, ⟨cAns_r2 (crs_0 t85 (csM_0 t26) (CA.fin i126 (Or.inr (tkM_end.mpr i134)))), (by first | exact (show u97.toInt = 0 by omega).trans (gFlt_r (crs_0 t85 (csM_0 t26) (CA.fin i126 (Or.inr (tkM_end.mpr i134))))).symm | exact (show (0 : Int32).toInt = 0 by decide).trans (gFlt_r (crs_0 t85 (csM_0 t26) (CA.fin i126 (Or.inr (tkM_end.mpr i134))))).symm)⟩, ⟨(picm_new (on := u102) i223 i165 (by omega) (i106.atN 5 (by decide) (by decide)).2 (i108.atN 7 (by decide) (by decide)).2).trans (cpc_r (crs_0 t85 (csM_0 t26) (CA.fin i126 (Or.inr (tkM_end.mpr i134))))).symm, av_new0 i128 i223 i165 (by omega) (i106.atN 5 (by decide) (by decide)).2, av_new12 i129 i223 i165 (by omega) (i108.atN 7 (by decide) (by decide)).2⟩, (by have zl0 : (0 : Int32).toInt = 0 := (by decide); omega), rfl⟩
        · have dc226 : u209.toInt < v224.toInt := nle_i (a := v224.toInt) (b := u209.toInt) rfl rfl c226
          have k230 : 0 ≤ u209.toInt ∧ u209.toInt ≤ 11 := ⟨i211.1, up_lt dc226 k225.2 (by decide)⟩
          have k231 : 1 ≤ v224.toInt ∧ v224.toInt ≤ 12 := ⟨lo_lt dc226 i211.1 (by decide), k225.2⟩
          refine lv_aload_n hx hb dX10_course_187 rfl (lv_at hl 1 rfl) ?_
          refine get_f (D := D) (ci := 10) (v := .ref h_s) (C := RX10) (T := TX10) (N := 67) hx hb hw inAX10 hown hK hP 4 rfl rfl 6 (by decide) (hw _ q_1267) (fun _ h9 => h9) n184 dX10_course_188 ?_
          refine lv_bipush (v := 116) hx hb dX10_course_191 (by decide) ?_
          refine lv_iload_n hx hb dX10_course_193 rfl (lv_at hl 0 rfl) ?_
          refine lv_iadd hx hb dX10_course_194 ?_
          refine lv_topi (fun v232 ev232 => ?_)
          have bv232 : v232.toInt = 116 + u209.toInt := by rw [ev232]; exact add_k rfl rfl ⟨Int.le_refl _, Int.le_refl _⟩ k230 (by decide)
          have k233 : 116 ≤ v232.toInt ∧ v232.toInt ≤ 127 := add_r bv232 ⟨Int.le_refl _, Int.le_refl _⟩ k230 (by decide)
          refine lv_aload_n hx hb dX10_course_195 rfl (lv_at hl 1 rfl) ?_
          refine get_f (D := D) (ci := 10) (v := .ref h_s) (C := RX10) (T := TX10) (N := 67) hx hb hw inAX10 hown hK hP 4 rfl rfl 6 (by decide) (hw _ q_1267) (fun _ h9 => h9) n184 dX10_course_196 ?_
          refine lv_bipush (v := 68) hx hb dX10_course_199 (by decide) ?_
          refine lv_iload_n hx hb dX10_course_201 rfl (lv_at hl 0 rfl) ?_
          refine lv_iadd hx hb dX10_course_202 ?_
          refine lv_topi (fun v234 ev234 => ?_)
          have bv234 : v234.toInt = 68 + u209.toInt := by rw [ev234]; exact add_k rfl rfl ⟨Int.le_refl _, Int.le_refl _⟩ k230 (by decide)
          have k235 : 68 ≤ v234.toInt ∧ v234.toInt ≤ 79 := add_r bv234 ⟨Int.le_refl _, Int.le_refl _⟩ k230 (by decide)
          refine va_iald hx hb hK hP 0 0 rfl rfl (ix_k k235 (by decide) (by decide)) dX10_course_203 ?_
          refine lv_topi (fun v236 ev236 => ?_)
          obtain ⟨g237, eg237⟩ : ∃ z : Nat → Int32, upd w210 v232.toNatClampNeg v236 = z := ⟨_, rfl⟩
          have r238 : KW 0 g237 := by rw [← eg237]; exact i212.up (Int.le_trans (by decide) k233.1) (Or.inl (lt_dec k233.2 (by decide)))
          have r239 : SG 0 0 0 40 g237 := by rw [← eg237]; exact i213.up (Int.le_trans (by decide) k233.1) (Or.inr (Or.inl (dec_lt k233.1 (by decide))))
          have r240 : SG 105 108 0 11 g237 := by rw [← eg237]; exact i214.up (Int.le_trans (by decide) k233.1) (Or.inr (Or.inl (dec_lt k233.1 (by decide))))
          have r241 : SG 114 114 0 5 g237 := by rw [← eg237]; exact i215.up (Int.le_trans (by decide) k233.1) (Or.inr (Or.inl (dec_lt k233.1 (by decide))))
          have r242 : SG 130 133 0 11 g237 := by rw [← eg237]; exact i216.up (Int.le_trans (by decide) k233.1) (Or.inl (lt_dec k233.2 (by decide)))
          have r243 : SG 139 139 0 5 g237 := by rw [← eg237]; exact i217.up (Int.le_trans (by decide) k233.1) (Or.inl (lt_dec k233.2 (by decide)))
          have r244 : SG 153 153 0 44 g237 := by rw [← eg237]; exact i218.up (Int.le_trans (by decide) k233.1) (Or.inl (lt_dec k233.2 (by decide)))
          have r245 : SG 44 55 0 9 g237 := by rw [← eg237]; exact i219.up (Int.le_trans (by decide) k233.1) (Or.inr (Or.inl (dec_lt k233.1 (by decide))))
          have r246 : SG 5 5 0 12 g237 := by rw [← eg237]; exact i220.up (Int.le_trans (by decide) k233.1) (Or.inr (Or.inl (dec_lt k233.1 (by decide))))
          have r247 : SG 6 6 0 12 g237 := by rw [← eg237]; exact i221.up (Int.le_trans (by decide) k233.1) (Or.inr (Or.inl (dec_lt k233.1 (by decide))))
          have r248 : SG 7 7 0 6 g237 := by rw [← eg237]; exact i222.up (Int.le_trans (by decide) k233.1) (Or.inr (Or.inl (dec_lt k233.1 (by decide))))
          refine iast_g hx hb hK hP hD hS 0 0 rfl rfl (ix_k k233 (by decide) (by decide)) eg237 dX10_course_204 (fun H locs hP hD hS => ?_)
          have hP : va_P D vwCl [(h_s, .inl (cI, 335, .inl g237)), (h_names, .inl (cJ, 36, .inr (.inl w163))), (h_reserved, .inl (cJ, 23, .inr (.inl f_reserved))), (h_h, .inl (cI, 104, .inl w90)), (h0, .inr (10, vL 67 F176)), (h_tape, .inl (cB, 940, .inl f_tape))] H := hP
          have hD : va_D A [(h_s, .inl (cI, 335, .inl g237)), (h_names, .inl (cJ, 36, .inr (.inl w163))), (h_reserved, .inl (cJ, 23, .inr (.inl f_reserved))), (h_h, .inl (cI, 104, .inl w90)), (h0, .inr (10, vL 67 F176)), (h_tape, .inl (cB, 940, .inl f_tape))] := hD
          obtain ⟨v249, ev249⟩ : ∃ z : Int32, z = u209 + 1 := ⟨_, rfl⟩
          have bv249 : v249.toInt = u209.toInt + 1 := by rw [ev249]; exact add_k rfl rfl k230 ⟨Int.le_refl _, Int.le_refl _⟩ (by decide)
          have k250 : 1 ≤ v249.toInt ∧ v249.toInt ≤ 12 := add_r bv249 k230 ⟨Int.le_refl _, Int.le_refl _⟩ (by decide)
          refine lv_iinc (v := v249) (lv' := [(1, .int v249), (0, .ref h0)]) hx hb dX10_course_205 hl (k := 0) rfl (by rw [ev249]; rfl) (by decide) rfl (fun ls hl => ?_)
          refine lv_goto (tgt := 176) hx hb dX10_course_208 (by decide) ?_
          exact ih_176 (v249, g237) ⟨(ir_wk k250 (by decide) (by decide)), r238, r239, r240, r241, r242, r243, r244, r245, r246, r247, r248, (show US w90 g237 from (by rw [← eg237]; exact US.up i223 (by omega)))⟩ (by show (12 - v249.toInt).toNat < (12 - u209.toInt).toNat; omega) _ _ _ hP hD hS (lv_sub hl [0, 1] rfl)
      · have dc166 : u162.toInt < 18 := nle_i (a := 18) (b := u162.toInt) rfl rfl c166
        have k251 : 0 ≤ u162.toInt ∧ u162.toInt ≤ 17 := ⟨i164.1, up_lt dc166 (Int.le_refl _) (by decide)⟩
        refine lv_aload_n hx hb dX10_course_123 rfl (lv_at hl 1 rfl) ?_
        have n252 : F1 9 = .ref h_names := (get_ne eF1 (by decide) e_names)
        have n253 : F4 9 = .ref h_names := (SAME.at t5 (by decide) n252)
        have n254 : F11 9 = .ref h_names := (get_ne eF11 (by decide) n253)
        have n255 : F12 9 = .ref h_names := (get_ne eF12 (by decide) n254)
        have n256 : F13 9 = .ref h_names := (get_ne eF13 (by decide) n255)
        have n257 : F65 9 = .ref h_names := (SAME.at t72 (by decide) n256)
        have n258 : G91 9 = .ref h_names := (SAME.at i109 (by decide) n257)
        refine get_f (D := D) (ci := 10) (v := .ref h_names) (C := RX10) (T := TX10) (N := 67) hx hb hw inAX10 hown hK hP 4 rfl rfl 9 (by decide) (hw _ q_1270) (fun _ h9 => h9) n258 dX10_course_124 ?_
        refine lv_iload_n hx hb dX10_course_127 rfl (lv_at hl 0 rfl) ?_
        refine lv_aload_n hx hb dX10_course_128 rfl (lv_at hl 1 rfl) ?_
        refine get_f (D := D) (ci := 10) (v := .ref h_names) (C := RX10) (T := TX10) (N := 67) hx hb hw inAX10 hown hK hP 4 rfl rfl 9 (by decide) (hw _ q_1270) (fun _ h9 => h9) n258 dX10_course_129 ?_
        refine lv_bipush (v := 18) hx hb dX10_course_132 (by decide) ?_
        refine lv_iload_n hx hb dX10_course_134 rfl (lv_at hl 0 rfl) ?_
        refine lv_iadd hx hb dX10_course_135 ?_
        refine lv_topi (fun v259 ev259 => ?_)
        have bv259 : v259.toInt = 18 + u162.toInt := by rw [ev259]; exact add_k rfl rfl ⟨Int.le_refl _, Int.le_refl _⟩ k251 (by decide)
        have k260 : 18 ≤ v259.toInt ∧ v259.toInt ≤ 35 := add_r bv259 ⟨Int.le_refl _, Int.le_refl _⟩ k251 (by decide)
        refine va_lald hx hb hK hP 1 1 rfl rfl (ix_k k260 (by decide) (by decide)) dX10_course_136 ?_
        refine lv_topl (fun v261 ev261 => ?_)
        obtain ⟨g262, eg262⟩ : ∃ z : Nat → Int64, vp_updL w163 u162.toNatClampNeg v261 = z := ⟨_, rfl⟩
        refine last_g hx hb hK hP hD hS 1 1 rfl rfl (ix_k k251 (by decide) (by decide)) eg262 dX10_course_137 (fun H locs hP hD hS => ?_)
        have hP : va_P D vwCl [(h_s, .inl (cI, 335, .inl w136)), (h_names, .inl (cJ, 36, .inr (.inl g262))), (h_reserved, .inl (cJ, 23, .inr (.inl f_reserved))), (h_h, .inl (cI, 104, .inl w90)), (h0, .inr (10, vL 67 G91)), (h_tape, .inl (cB, 940, .inl f_tape))] H := hP
        have hD : va_D A [(h_s, .inl (cI, 335, .inl w136)), (h_names, .inl (cJ, 36, .inr (.inl g262))), (h_reserved, .inl (cJ, 23, .inr (.inl f_reserved))), (h_h, .inl (cI, 104, .inl w90)), (h0, .inr (10, vL 67 G91)), (h_tape, .inl (cB, 940, .inl f_tape))] := hD
        obtain ⟨v263, ev263⟩ : ∃ z : Int32, z = u162 + 1 := ⟨_, rfl⟩
        have bv263 : v263.toInt = u162.toInt + 1 := by rw [ev263]; exact add_k rfl rfl k251 ⟨Int.le_refl _, Int.le_refl _⟩ (by decide)
        have k264 : 1 ≤ v263.toInt ∧ v263.toInt ≤ 18 := add_r bv263 k251 ⟨Int.le_refl _, Int.le_refl _⟩ (by decide)
        refine lv_iinc (v := v263) (lv' := [(1, .int v263), (0, .ref h0)]) hx hb dX10_course_138 hl (k := 0) rfl (by rw [ev263]; rfl) (by decide) rfl (fun ls hl => ?_)
        refine lv_goto (tgt := 117) hx hb dX10_course_141 (by decide) ?_
        exact ih_117 (v263, g262) ⟨(ir_wk k264 (by decide) (by decide)), (show CPN w89 g262 (v263.toInt) from (CPN.step i165 eg262 ev261 (by omega) (by omega) ⟨by omega, by omega⟩ (by omega)))⟩ (by show (18 - v263.toInt).toNat < (18 - u162.toInt).toNat; omega) _ _ _ hP hD hS (lv_sub hl [0, 1] rfl)
    · have dc149 : u135.toInt < 335 := nle_i (a := 335) (b := u135.toInt) rfl rfl c149
      have k265 : 0 ≤ u135.toInt ∧ u135.toInt ≤ 334 := ⟨i137.1, up_lt dc149 (Int.le_refl _) (by decide)⟩
      refine lv_aload_n hx hb dX10_course_87 rfl (lv_at hl 1 rfl) ?_
      have n266 : F1 6 = .ref h_s := (get_ne eF1 (by decide) e_s)
      have n267 : F4 6 = .ref h_s := (SAME.at t5 (by decide) n266)
      have n268 : F11 6 = .ref h_s := (get_ne eF11 (by decide) n267)
      have n269 : F12 6 = .ref h_s := (get_ne eF12 (by decide) n268)
      have n270 : F13 6 = .ref h_s := (get_ne eF13 (by decide) n269)
      have n271 : F65 6 = .ref h_s := (SAME.at t72 (by decide) n270)
      have n272 : G91 6 = .ref h_s := (SAME.at i109 (by decide) n271)
      refine get_f (D := D) (ci := 10) (v := .ref h_s) (C := RX10) (T := TX10) (N := 67) hx hb hw inAX10 hown hK hP 4 rfl rfl 6 (by decide) (hw _ q_1267) (fun _ h9 => h9) n272 dX10_course_88 ?_
      refine lv_iload_n hx hb dX10_course_91 rfl (lv_at hl 0 rfl) ?_
      refine lv_iload_n hx hb dX10_course_92 rfl (lv_at hl 0 rfl) ?_
      refine lv_bipush (v := 104) hx hb dX10_course_93 (by decide) ?_
      refine lv_icmp_ge (tgt := 107) hx hb dX10_course_95 (by decide) (fun c273 => ?_) (fun c273 => ?_)
      · have dc273 : 104 ≤ u135.toInt := le_i (a := 104) (b := u135.toInt) rfl rfl c273
        have k274 : 104 ≤ u135.toInt ∧ u135.toInt ≤ 334 := ⟨Int.le_trans (Int.le_refl _) dc273, k265.2⟩
        refine lv_iconst (v := 0) hx hb dX10_course_107 (by decide) ?_
        obtain ⟨g275, eg275⟩ : ∃ z : Nat → Int32, upd w136 u135.toNatClampNeg 0 = z := ⟨_, rfl⟩
        refine iast_g hx hb hK hP hD hS 0 0 rfl rfl (ix_k k274 (by decide) (by decide)) eg275 dX10_course_108 (fun H locs hP hD hS => ?_)
        have hP : va_P D vwCl [(h_s, .inl (cI, 335, .inl g275)), (h_names, .inl (cJ, 36, .inr (.inl w89))), (h_reserved, .inl (cJ, 23, .inr (.inl f_reserved))), (h_h, .inl (cI, 104, .inl w90)), (h0, .inr (10, vL 67 G91)), (h_tape, .inl (cB, 940, .inl f_tape))] H := hP
        have hD : va_D A [(h_s, .inl (cI, 335, .inl g275)), (h_names, .inl (cJ, 36, .inr (.inl w89))), (h_reserved, .inl (cJ, 23, .inr (.inl f_reserved))), (h_h, .inl (cI, 104, .inl w90)), (h0, .inr (10, vL 67 G91)), (h_tape, .inl (cB, 940, .inl f_tape))] := hD
        obtain ⟨v276, ev276⟩ : ∃ z : Int32, z = u135 + 1 := ⟨_, rfl⟩
        have bv276 : v276.toInt = u135.toInt + 1 := by rw [ev276]; exact add_k rfl rfl k274 ⟨Int.le_refl _, Int.le_refl _⟩ (by decide)
        have k277 : 105 ≤ v276.toInt ∧ v276.toInt ≤ 335 := add_r bv276 k274 ⟨Int.le_refl _, Int.le_refl _⟩ (by decide)
        refine lv_iinc (v := v276) (lv' := [(1, .int v276), (0, .ref h0)]) hx hb dX10_course_109 hl (k := 0) rfl (by rw [ev276]; rfl) (by decide) rfl (fun ls hl => ?_)
        refine lv_goto (tgt := 80) hx hb dX10_course_112 (by decide) ?_
        exact ih (v276, g275) ⟨(ir_wk k277 (by decide) (by decide)), (show CPH g275 w90 (v276.toInt) from (CPH.step i138 eg275 (by omega) (by omega) (by omega) (fun q => absurd q (by omega)))), (SGK.step i139 eg275 (by omega) (by omega) (by omega) (fun q1 q2 => ⟨by decide, by decide⟩)), (SGK.step i140 eg275 (by omega) (by omega) (by omega) (fun q1 q2 => ⟨by decide, by decide⟩)), (SGK.step i141 eg275 (by omega) (by omega) (by omega) (fun q1 q2 => ⟨by decide, by decide⟩)), (SGK.step i142 eg275 (by omega) (by omega) (by omega) (fun q1 q2 => ⟨by decide, by decide⟩)), (SGK.step i143 eg275 (by omega) (by omega) (by omega) (fun q1 q2 => ⟨by decide, by decide⟩)), (SGK.step i144 eg275 (by omega) (by omega) (by omega) (fun q1 q2 => ⟨by decide, by decide⟩)), (SGK.step i145 eg275 (by omega) (by omega) (by omega) (fun q1 q2 => ⟨by decide, by decide⟩)), (SGK.step i146 eg275 (by omega) (by omega) (by omega) (fun q1 q2 => ⟨by decide, by decide⟩)), (SGK.step i147 eg275 (by omega) (by omega) (by omega) (fun q1 q2 => ⟨by decide, by decide⟩)), (SGK.step i148 eg275 (by omega) (by omega) (by omega) (fun q1 q2 => ⟨by decide, by decide⟩))⟩ (by show (335 - v276.toInt).toNat < (335 - u135.toInt).toNat; omega) _ _ _ hP hD hS (lv_sub hl [0, 1] rfl)
      · have dc273 : u135.toInt < 104 := nle_i (a := 104) (b := u135.toInt) rfl rfl c273
        have k278 : 0 ≤ u135.toInt ∧ u135.toInt ≤ 103 := ⟨k265.1, up_lt dc273 (Int.le_refl _) (by decide)⟩
        refine lv_aload_n hx hb dX10_course_98 rfl (lv_at hl 1 rfl) ?_
        have n279 : F65 7 = .ref h_h := (SAME.at t72 (by decide) n18)
        have n280 : G91 7 = .ref h_h := (SAME.at i109 (by decide) n279)
        refine get_f (D := D) (ci := 10) (v := .ref h_h) (C := RX10) (T := TX10) (N := 67) hx hb hw inAX10 hown hK hP 4 rfl rfl 7 (by decide) (hw _ q_1268) (fun _ h9 => h9) n280 dX10_course_99 ?_
        refine lv_iload_n hx hb dX10_course_102 rfl (lv_at hl 0 rfl) ?_
        refine va_iald hx hb hK hP 3 0 rfl rfl (ix_k k278 (by decide) (by decide)) dX10_course_103 ?_
        refine lv_topi (fun v281 ev281 => ?_)
        have r282 : IMP (0 ≤ u135.toInt → u135.toInt ≤ 0 → 0 ≤ v281.toInt ∧ v281.toInt ≤ 40) := IMP.mk (fun q1 q2 => by rw [ev281]; exact i104.at _ q1 q2)
        have r283 : IMP (44 ≤ u135.toInt → u135.toInt ≤ 55 → 0 ≤ v281.toInt ∧ v281.toInt ≤ 9) := IMP.mk (fun q1 q2 => by rw [ev281]; exact i105.at _ q1 q2)
        have r284 : IMP (5 ≤ u135.toInt → u135.toInt ≤ 5 → 0 ≤ v281.toInt ∧ v281.toInt ≤ 12) := IMP.mk (fun q1 q2 => by rw [ev281]; exact i106.at _ q1 q2)
        have r285 : IMP (6 ≤ u135.toInt → u135.toInt ≤ 6 → 0 ≤ v281.toInt ∧ v281.toInt ≤ 12) := IMP.mk (fun q1 q2 => by rw [ev281]; exact i107.at _ q1 q2)
        have r286 : IMP (7 ≤ u135.toInt → u135.toInt ≤ 7 → 0 ≤ v281.toInt ∧ v281.toInt ≤ 6) := IMP.mk (fun q1 q2 => by rw [ev281]; exact i108.at _ q1 q2)
        refine lv_goto (tgt := 108) hx hb dX10_course_104 (by decide) ?_
        obtain ⟨g287, eg287⟩ : ∃ z : Nat → Int32, upd w136 u135.toNatClampNeg v281 = z := ⟨_, rfl⟩
        refine iast_g hx hb hK hP hD hS 0 0 rfl rfl (ix_k k278 (by decide) (by decide)) eg287 dX10_course_108 (fun H locs hP hD hS => ?_)
        have hP : va_P D vwCl [(h_s, .inl (cI, 335, .inl g287)), (h_names, .inl (cJ, 36, .inr (.inl w89))), (h_reserved, .inl (cJ, 23, .inr (.inl f_reserved))), (h_h, .inl (cI, 104, .inl w90)), (h0, .inr (10, vL 67 G91)), (h_tape, .inl (cB, 940, .inl f_tape))] H := hP
        have hD : va_D A [(h_s, .inl (cI, 335, .inl g287)), (h_names, .inl (cJ, 36, .inr (.inl w89))), (h_reserved, .inl (cJ, 23, .inr (.inl f_reserved))), (h_h, .inl (cI, 104, .inl w90)), (h0, .inr (10, vL 67 G91)), (h_tape, .inl (cB, 940, .inl f_tape))] := hD
        obtain ⟨v288, ev288⟩ : ∃ z : Int32, z = u135 + 1 := ⟨_, rfl⟩
        have bv288 : v288.toInt = u135.toInt + 1 := by rw [ev288]; exact add_k rfl rfl k278 ⟨Int.le_refl _, Int.le_refl _⟩ (by decide)
        have k289 : 1 ≤ v288.toInt ∧ v288.toInt ≤ 104 := add_r bv288 k278 ⟨Int.le_refl _, Int.le_refl _⟩ (by decide)
        refine lv_iinc (v := v288) (lv' := [(1, .int v288), (0, .ref h0)]) hx hb dX10_course_109 hl (k := 0) rfl (by rw [ev288]; rfl) (by decide) rfl (fun ls hl => ?_)
        refine lv_goto (tgt := 80) hx hb dX10_course_112 (by decide) ?_
        exact ih (v288, g287) ⟨(ir_wk k289 (by decide) (by decide)), (show CPH g287 w90 (v288.toInt) from (CPH.step i138 eg287 (by omega) (by omega) (by omega) (fun _ => ev281))), (SGK.step i139 eg287 (by omega) (by omega) (by omega) (fun q1 q2 => ⟨Int.le_trans (by decide) (r282.h (by omega) (by omega)).1, Int.le_trans (r282.h (by omega) (by omega)).2 (by decide)⟩)), (SGK.step i140 eg287 (by omega) (by omega) (by omega) (fun q1 q2 => ⟨Int.le_trans (by decide) (r284.h (by omega) (by omega)).1, Int.le_trans (r284.h (by omega) (by omega)).2 (by decide)⟩)), (SGK.step i141 eg287 (by omega) (by omega) (by omega) (fun q1 q2 => ⟨Int.le_trans (by decide) (r285.h (by omega) (by omega)).1, Int.le_trans (r285.h (by omega) (by omega)).2 (by decide)⟩)), (SGK.step i142 eg287 (by omega) (by omega) (by omega) (fun q1 q2 => ⟨Int.le_trans (by decide) (r286.h (by omega) (by omega)).1, Int.le_trans (r286.h (by omega) (by omega)).2 (by decide)⟩)), (SGK.step i143 eg287 (by omega) (by omega) (by omega) (fun q1 q2 => ⟨Int.le_trans (by decide) (r283.h (by omega) (by omega)).1, Int.le_trans (r283.h (by omega) (by omega)).2 (by decide)⟩)), (SGK.step i144 eg287 (by omega) (by omega) (by omega) (fun q1 q2 => ⟨by omega, by omega⟩)), (SGK.step i145 eg287 (by omega) (by omega) (by omega) (fun q1 q2 => ⟨by omega, by omega⟩)), (SGK.step i146 eg287 (by omega) (by omega) (by omega) (fun q1 q2 => ⟨by omega, by omega⟩)), (SGK.step i147 eg287 (by omega) (by omega) (by omega) (fun q1 q2 => ⟨by omega, by omega⟩)), (SGK.step i148 eg287 (by omega) (by omega) (by omega) (fun q1 q2 => ⟨by omega, by omega⟩))⟩ (by show (335 - v288.toInt).toNat < (335 - u135.toInt).toNat; omega) _ _ _ hP hD hS (lv_sub hl [0, 1] rfl)
  have n290 : F12 15 = .int 0 := (get_ne eF12 (by decide) (get_eq eF11))
  have n291 : F13 15 = .int 0 := (get_ne eF13 (by decide) n290)
  have n292 : F65 15 = .int 0 := (SAME.at t72 (by decide) n291)
  have n293 : F1 16 = .int x_faultAt := (get_ne eF1 (by decide) e_faultAt)
  have n294 : F4 16 = .int x_faultAt := (SAME.at t5 (by decide) n293)
  have n295 : F11 16 = .int x_faultAt := (get_ne eF11 (by decide) n294)
  have n296 : F12 16 = .int x_faultAt := (get_ne eF12 (by decide) n295)
  have n297 : F13 16 = .int x_faultAt := (get_ne eF13 (by decide) n296)
  have n298 : F65 16 = .int x_faultAt := (SAME.at t72 (by decide) n297)
  have n299 : F1 19 = .int x_got := (get_ne eF1 (by decide) e_got)
  have n300 : F4 19 = .int x_got := (SAME.at t5 (by decide) n299)
  have n301 : F11 19 = .int x_got := (get_ne eF11 (by decide) n300)
  have n302 : F12 19 = .int x_got := (get_ne eF12 (by decide) n301)
  have n303 : F13 19 = .int x_got := (get_ne eF13 (by decide) n302)
  have n304 : F65 19 = .int x_got := (SAME.at t72 (by decide) n303)
  have n305 : F13 20 = .int 0 := (get_ne eF13 (by decide) (get_eq eF12))
  have n306 : F65 20 = .int 0 := (SAME.at t72 (by decide) n305)
  have n307 : F65 21 = .int 0 := (SAME.at t72 (by decide) (get_eq eF13))
  refine mloop (α := (Nat → Int64) × (Nat → Int32) × (Nat → Value) × (Int32) × (Int32) × (Int32) × (Int32) × (Int32) × (Int32) × (Int32) × (Int64) × (Int32) × (Int32) × (Int32)) (nL := 2) (D := D) (A := A) (H0 := s.heap) (fun a => (940 - a.2.2.2.1.toInt).toNat) (fun a => SG 0 0 0 40 a.2.1 ∧ SG 44 55 0 9 a.2.1 ∧ SG 5 5 0 12 a.2.1 ∧ SG 6 6 0 12 a.2.1 ∧ SG 7 7 0 6 a.2.1 ∧ SAME [4, 11, 12, 13, 14, 15, 16, 18, 19, 20, 21] F65 a.2.2.1 ∧ a.2.2.1 4 = .int a.2.2.2.1 ∧ a.2.2.1 11 = .int a.2.2.2.2.1 ∧ a.2.2.1 12 = .int a.2.2.2.2.2.1 ∧ a.2.2.1 13 = .int a.2.2.2.2.2.2.1 ∧ a.2.2.1 14 = .int a.2.2.2.2.2.2.2.1 ∧ a.2.2.1 15 = .int a.2.2.2.2.2.2.2.2.1 ∧ a.2.2.1 16 = .int a.2.2.2.2.2.2.2.2.2.1 ∧ a.2.2.1 18 = .long a.2.2.2.2.2.2.2.2.2.2.1 ∧ a.2.2.1 19 = .int a.2.2.2.2.2.2.2.2.2.2.2.1 ∧ a.2.2.1 20 = .int a.2.2.2.2.2.2.2.2.2.2.2.2.1 ∧ a.2.2.1 21 = .int a.2.2.2.2.2.2.2.2.2.2.2.2.2 ∧ IR 0 940 a.2.2.2.1 ∧ IR 0 4 a.2.2.2.2.1 ∧ IR 0 940 a.2.2.2.2.2.1 ∧ IR 0 940 a.2.2.2.2.2.2.1 ∧ IR 0 0 a.2.2.2.2.2.2.2.2.1 ∧ (CA (tkA f_tape x_length.toInt 900) (tkM y67 y68 y70 y71 y66) (csM (0 : Int32) g20 f_names) 900 (tkM a.2.2.2.2.1 a.2.2.2.2.2.1 a.2.2.2.2.2.2.2.1 a.2.2.2.2.2.2.2.2.2.2.1 a.2.2.2.1) (csM a.2.2.2.2.2.2.2.2.2.2.2.2.2 a.2.1 a.1) a.2.2.2.2.2.2.2.2.2.2.2.2.1.toInt) ∧ ((VWF a.2.2.2.2.1.toInt a.2.2.2.2.2.2.2.2.2.2.1.toInt)) ∧ (AV a.1 18 (a.2.1 5).toInt) ∧ (AV a.1 30 (a.2.1 7).toInt) ∧ (0 ≤ a.2.2.2.2.2.2.2.2.2.2.2.2.1.toInt ∧ 2 * a.2.2.2.2.2.2.2.2.2.2.2.2.1.toInt ≤ a.2.2.2.1.toInt ∧ (1 ≤ a.2.2.2.2.1.toInt → a.2.2.2.2.1.toInt ≤ 3 → 2 * a.2.2.2.2.2.2.2.2.2.2.2.2.1.toInt + 1 ≤ a.2.2.2.1.toInt)) ∧ (UN f_names a.1) ∧ (a.2.2.2.2.2.2.2.2.1.toInt = 0) ∧ ((a.2.2.2.2.1.toInt = 2 → 0 ≤ a.2.2.2.2.2.2.2.1.toInt ∧ a.2.2.2.2.2.2.2.1.toInt ≤ 999))) (fun a => [(h_s, .inl (cI, 335, .inl f_s)), (h_names, .inl (cJ, 36, .inr (.inl a.1))), (h_reserved, .inl (cJ, 23, .inr (.inl f_reserved))), (h_h, .inl (cI, 104, .inl a.2.1)), (h0, .inr (10, vL 67 a.2.2.1)), (h_tape, .inl (cB, 940, .inl f_tape))]) (fun a => [(0, .ref h0)]) (fun H locs ls => W p l e ({ frames := 4, cells := 0, slots := 0, locals := 87 } : Room) s m [.ref h0].toArray below meth c H locs 0 0 (MQ below (va_Qi (fun (r : Int32) (u : va_W) => ∃ (Gh : Nat → Value) (y_p : Int32) (y_token : Int32) (y_at : Int32) (y_span : Int32) (y_number : Int32) (y_fault : Int32) (y_faultAt : Int32) (y_ids : Int32) (y_word : Int64) (y_got : Int32) (y_lines : Int32) (y_onces : Int32) (y_undoMany : Int32) (g_s : Nat → Int32) (g_h : Nat → Int32) (g_names : Nat → Int64), SAME [0, 2, 3, 4, 5, 11, 12, 13, 14, 15, 16, 17, 18, 19, 20, 21, 41] Fh Gh ∧ Gh 0 = .int 0 ∧ Gh 2 = .int 0 ∧ Gh 3 = .int x_length ∧ Gh 4 = .int y_p ∧ IR 0 940 y_p ∧ Gh 5 = .int 900 ∧ Gh 11 = .int y_token ∧ IR 0 4 y_token ∧ Gh 12 = .int y_at ∧ Gh 13 = .int y_span ∧ Gh 14 = .int y_number ∧ Gh 15 = .int y_fault ∧ IR 0 4 y_fault ∧ Gh 16 = .int y_faultAt ∧ Gh 17 = .int y_ids ∧ Gh 18 = .long y_word ∧ Gh 19 = .int y_got ∧ Gh 20 = .int y_lines ∧ Gh 21 = .int y_onces ∧ Gh 41 = .int y_undoMany ∧ IR 0 8 y_undoMany ∧ SG 153 153 0 44 g_s ∧ SG 0 0 0 40 g_s ∧ SG 5 5 0 12 g_s ∧ SG 6 6 0 12 g_s ∧ SG 7 7 0 6 g_s ∧ SG 44 55 0 9 g_s ∧ KW 0 g_s ∧ SG 105 108 0 11 g_s ∧ SG 114 114 0 5 g_s ∧ SG 130 133 0 11 g_s ∧ SG 139 139 0 5 g_s ∧ SG 0 0 0 40 g_h ∧ SG 5 5 0 12 g_h ∧ SG 6 6 0 12 g_h ∧ SG 7 7 0 6 g_h ∧ SG 44 55 0 9 g_h ∧ (r.toInt = cAns (cTxt f_tape x_length.toInt) ∧ y_fault.toInt = gFlt (cTxt f_tape x_length.toInt)) ∧ (PICM g_s g_names = cPic (cTxt f_tape x_length.toInt) (PICM f_s f_names) ∧ AV g_names 0 (g_s 5).toInt ∧ AV g_names 12 (g_s 7).toInt) ∧ ((y_token.toInt = 2 → 0 ≤ y_number.toInt ∧ y_number.toInt ≤ 999)) ∧ u = [(h0, .inr (10, vL 67 Gh)), (h_tape, .inl (cB, 940, .inl f_tape)), (h_s, .inl (cI, 335, .inl g_s)), (h_h, .inl (cI, 104, .inl g_h)), (h_names, .inl (cJ, 36, .inr (.inl g_names))), (h_reserved, .inl (cJ, 23, .inr (.inl f_reserved)))]) (PO D A) A) [.ref h0].toArray s 0 0 A) (F0 m 35 ls [])) ?_ (f_names, g20, F65, y66, y67, y68, y69, y70, 0, x_faultAt, y71, x_got, 0, 0) ⟨t21, t25, t22, t23, t24, SAME.rf, t73, t75, t77, t79, t81, n292, n298, t82, n304, n306, n307, t74, t76, t78, t80, (show 0 ≤ (0 : Int32).toInt ∧ (0 : Int32).toInt ≤ 0 by decide), (show CA (tkA f_tape x_length.toInt 900) (tkM y67 y68 y70 y71 y66) (csM (0 : Int32) g20 f_names) 900 (tkM y67 y68 y70 y71 y66) (csM (0 : Int32) g20 f_names) 0 from CA.zero), (show (VWF y67.toInt y71.toInt) from t86), (show AV f_names 18 (g20 5).toInt from h28), (show AV f_names 30 (g20 7).toInt from h29), (by show 0 ≤ 0 ∧ 2 * 0 ≤ y66.toInt ∧ (1 ≤ y67.toInt → y67.toInt ≤ 3 → 2 * 0 + 1 ≤ y66.toInt); omega), (show UN f_names f_names from UN.rf), (by show 0 = 0; omega), (by show (y67.toInt = 2 → 0 ≤ y70.toInt ∧ y70.toInt ≤ 999); omega)⟩ _ _ _ hP hD hS hl
  rintro ⟨w89, w90, G91, u92, u93, u94, u95, u96, u97, u98, u99, u100, u101, u102⟩ ⟨i308, i309, i310, i311, i312, i313, i314, i315, i316, i317, i318, i319, i320, i321, i322, i323, i324, i325, i326, i327, i328, i329, i330, i331, i332, i333, i334, i335, i336, i337⟩ ih H locs ls hP hD hS hl
  have i325 : 0 ≤ u92.toInt ∧ u92.toInt ≤ 940 := i325
  have i326 : 0 ≤ u93.toInt ∧ u93.toInt ≤ 4 := i326
  have i327 : 0 ≤ u94.toInt ∧ u94.toInt ≤ 940 := i327
  have i328 : 0 ≤ u95.toInt ∧ u95.toInt ≤ 940 := i328
  have i329 : 0 ≤ u97.toInt ∧ u97.toInt ≤ 0 := i329
  have i330 : CA (tkA f_tape x_length.toInt 900) (tkM y67 y68 y70 y71 y66) (csM (0 : Int32) g20 f_names) 900 (tkM u93 u94 u96 u99 u92) (csM u102 w90 w89) u101.toInt := i330
  have i331 : (VWF u93.toInt u99.toInt) := i331
  have i332 : AV w89 18 (w90 5).toInt := i332
  have i333 : AV w89 30 (w90 7).toInt := i333
  have i334 : 0 ≤ u101.toInt ∧ 2 * u101.toInt ≤ u92.toInt ∧ (1 ≤ u93.toInt → u93.toInt ≤ 3 → 2 * u101.toInt + 1 ≤ u92.toInt) := i334
  have i335 : UN f_names w89 := i335
  have i336 : u97.toInt = 0 := i336
  have i337 : (u93.toInt = 2 → 0 ≤ u96.toInt ∧ u96.toInt ≤ 999) := i337
  have hP : va_P D vwCl [(h_s, .inl (cI, 335, .inl f_s)), (h_names, .inl (cJ, 36, .inr (.inl w89))), (h_reserved, .inl (cJ, 23, .inr (.inl f_reserved))), (h_h, .inl (cI, 104, .inl w90)), (h0, .inr (10, vL 67 G91)), (h_tape, .inl (cB, 940, .inl f_tape))] H := hP
  have hD : va_D A [(h_s, .inl (cI, 335, .inl f_s)), (h_names, .inl (cJ, 36, .inr (.inl w89))), (h_reserved, .inl (cJ, 23, .inr (.inl f_reserved))), (h_h, .inl (cI, 104, .inl w90)), (h0, .inr (10, vL 67 G91)), (h_tape, .inl (cB, 940, .inl f_tape))] := hD
  have hl : lv_has ls 2 [(0, .ref h0)] := hl
  refine lv_aload_n hx hb dX10_course_35 rfl (lv_at hl 0 rfl) ?_
  refine get_f (D := D) (ci := 10) (v := .int u93) (C := RX10) (T := TX10) (N := 67) hx hb hw inAX10 hown hK hP 4 rfl rfl 11 (by decide) (hw _ q_1272) (fun _ h9 => h9) i315 dX10_course_36 ?_
  refine lv_if_eq (tgt := 78) hx hb dX10_course_39 (by decide) (fun c338 => ?_) (fun c338 => ?_)
  · have dc338 : u93.toInt = 0 := eq_i (a := u93.toInt) (b := 0) rfl rfl c338
    have k339 : 0 ≤ u93.toInt ∧ u93.toInt ≤ 0 := ⟨i326.1, Int.le_trans (Int.le_of_eq dc338) (Int.le_refl _)⟩
    exact cut103 w89 w90 G91 u92 u93 u94 u95 u96 u97 u98 u99 u100 u101 u102 i308 i309 i310 i311 i312 (SAME.tr SAME.rf i313 (by decide)) i314 i315 i316 i317 i318 i319 i320 i321 i322 i323 i324 i325 (ir_wk k339 (by decide) (by decide)) i327 i328 i329 (show CA (tkA f_tape x_length.toInt 900) (tkM y67 y68 y70 y71 y66) (csM (0 : Int32) g20 f_names) 900 (tkM u93 u94 u96 u99 u92) (csM u102 w90 w89) u101.toInt from i330) (show (VWF u93.toInt u99.toInt) from i331) (show AV w89 18 (w90 5).toInt from i332) (show AV w89 30 (w90 7).toInt from i333) (by show 0 ≤ u101.toInt ∧ 2 * u101.toInt ≤ u92.toInt ∧ (1 ≤ u93.toInt → u93.toInt ≤ 3 → 2 * u101.toInt + 1 ≤ u92.toInt); omega) (show UN f_names w89 from i335) (by show u97.toInt = 0; omega) (by show (u93.toInt = 2 → 0 ≤ u96.toInt ∧ u96.toInt ≤ 999); omega) (show u93.toInt = 0 from (by omega)) _ _ _ hP hD hS (lv_sub hl [0] rfl)
  · have dc338 : u93.toInt ≠ 0 := ne_i (a := u93.toInt) (b := 0) rfl rfl c338
    have k340 : 1 ≤ u93.toInt ∧ u93.toInt ≤ 4 := ⟨ne_lo dc338 i326.1 ⟨Int.le_refl _, Int.le_refl _⟩ (by decide), i326.2⟩
    refine lv_aload_n hx hb dX10_course_42 rfl (lv_at hl 0 rfl) ?_
    have n341 : F65 1 = .ref h_tape := (SAME.at t72 (by decide) n34)
    have n342 : G91 1 = .ref h_tape := (SAME.at i313 (by decide) n341)
    have n343 : F65 3 = .int x_length := (SAME.at t72 (by decide) n37)
    have n344 : G91 3 = .int x_length := (SAME.at i313 (by decide) n343)
    have n345 : F65 5 = .int 900 := (SAME.at t72 (by decide) n43)
    have n346 : G91 5 = .int 900 := (SAME.at i313 (by decide) n345)
    have n347 : F65 7 = .ref h_h := (SAME.at t72 (by decide) n18)
    have n348 : G91 7 = .ref h_h := (SAME.at i313 (by decide) n347)
    have n349 : F1 9 = .ref h_names := (get_ne eF1 (by decide) e_names)
    have n350 : F4 9 = .ref h_names := (SAME.at t5 (by decide) n349)
    have n351 : F11 9 = .ref h_names := (get_ne eF11 (by decide) n350)
    have n352 : F12 9 = .ref h_names := (get_ne eF12 (by decide) n351)
    have n353 : F13 9 = .ref h_names := (get_ne eF13 (by decide) n352)
    have n354 : F65 9 = .ref h_names := (SAME.at t72 (by decide) n353)
    have n355 : G91 9 = .ref h_names := (SAME.at i313 (by decide) n354)
    have n356 : F1 10 = .ref h_reserved := (get_ne eF1 (by decide) e_reserved)
    have n357 : F4 10 = .ref h_reserved := (SAME.at t5 (by decide) n356)
    have n358 : F11 10 = .ref h_reserved := (get_ne eF11 (by decide) n357)
    have n359 : F12 10 = .ref h_reserved := (get_ne eF12 (by decide) n358)
    have n360 : F13 10 = .ref h_reserved := (get_ne eF13 (by decide) n359)
    have n361 : F65 10 = .ref h_reserved := (SAME.at t72 (by decide) n360)
    have n362 : G91 10 = .ref h_reserved := (SAME.at i313 (by decide) n361)
    refine call_Vi (wr := [(h_s, .inl (cI, 335, .inl f_s))]) (As := []) (rest := []) hx hb hml hown hw (m_X10_line0 l D cI cJ cB cP cM cZ h0 h_tape h_h h_names h_reserved G91 x_length u92 900 u93 u94 u95 u96 u97 u98 u99 u100 u102 f_tape w90 w89 f_reserved _ n342 n344 i_x_length i314 i325 n346 (show 200 ≤ (900 : Int32).toInt ∧ (900 : Int32).toInt ≤ 940 by decide) n348 n355 n362 i315 (ir_wk k340 (by decide) (by decide)) i316 i317 i318 i319 i320 i321 i322 i324 i308 i309 i310 i311 i312 s_reserved_KR i331 i332 i333 (by omega)) wV_X10_254_X10_line0 dX10_course_43 hK hP hD hS hA [4, 5, 3, 1, 2] [0] rfl rfl (by decide) (by decide) (by decide) 0 10 rfl rfl GG.fb hG.at hl.1 rfl (Nat.le_of_ble_eq_true rfl) ⟨(Nat.le_of_ble_eq_true rfl), (Nat.le_of_ble_eq_true rfl)⟩ ⟨(Nat.le_of_ble_eq_true rfl), (Nat.le_of_ble_eq_true rfl)⟩ (fun r363 u H locs hp hP hD hS => ?_)
    rcases hp with hp | hp
    · refine hp.elim (fun F364 h9z0 => h9z0.elim (fun y365 h9z1 => h9z1.elim (fun y366 h9z2 => h9z2.elim (fun y367 h9z3 => h9z3.elim (fun y368 h9z4 => h9z4.elim (fun y369 h9z5 => h9z5.elim (fun y370 h9z6 => h9z6.elim (fun y371 h9z7 => h9z7.elim (fun y372 h9z8 => h9z8.elim (fun y373 h9z9 => h9z9.elim (fun y374 h9z10 => h9z10.elim (fun g375 h9z11 => h9z11.elim (fun g376 h9z12 => h9z12.elim (fun t377 h9z13 => h9z13.elim (fun t378 h9z14 => h9z14.elim (fun t379 h9z15 => h9z15.elim (fun t380 h9z16 => h9z16.elim (fun t381 h9z17 => h9z17.elim (fun t382 h9z18 => h9z18.elim (fun t383 h9z19 => h9z19.elim (fun t384 h9z20 => h9z20.elim (fun t385 h9z21 => h9z21.elim (fun t386 h9z22 => h9z22.elim (fun t387 h9z23 => h9z23.elim (fun t388 h9z24 => h9z24.elim (fun t389 h9z25 => h9z25.elim (fun t390 h9z26 => h9z26.elim (fun t391 h9z27 => h9z27.elim (fun t392 h9z28 => h9z28.elim (fun t393 h9z29 => h9z29.elim (fun t394 h9z30 => h9z30.elim (fun t395 h9z31 => h9z31.elim (fun t396 h9z32 => h9z32.elim (fun t397 h9z33 => h9z33.elim (fun t398 h9z34 => h9z34.elim (fun heq935 h9z35 => ?_))))))))))))))))))))))))))))))))))))
      clear h9z0 h9z1 h9z2 h9z3 h9z4 h9z5 h9z6 h9z7 h9z8 h9z9 h9z10 h9z11 h9z12 h9z13 h9z14 h9z15 h9z16 h9z17 h9z18 h9z19 h9z20 h9z21 h9z22 h9z23 h9z24 h9z25 h9z26 h9z27 h9z28 h9z29 h9z30 h9z31 h9z32 h9z33 h9z34
      subst heq935
      subst h9z35
      have hP : va_P D vwCl [(h_s, .inl (cI, 335, .inl f_s)), (h0, .inr (10, vL 67 F364)), (h_tape, .inl (cB, 940, .inl f_tape)), (h_h, .inl (cI, 104, .inl g375)), (h_names, .inl (cJ, 36, .inr (.inl g376))), (h_reserved, .inl (cJ, 23, .inr (.inl f_reserved)))] H := hP
      have hD : va_D A [(h_s, .inl (cI, 335, .inl f_s)), (h0, .inr (10, vL 67 F364)), (h_tape, .inl (cB, 940, .inl f_tape)), (h_h, .inl (cI, 104, .inl g375)), (h_names, .inl (cJ, 36, .inr (.inl g376))), (h_reserved, .inl (cJ, 23, .inr (.inl f_reserved)))] := hD
      refine W.widen (k := 0) (n := 0) (Nat.le_of_ble_eq_true rfl) (Nat.le_of_ble_eq_true rfl) ?_
      refine lv_if_eq (tgt := 58) hx hb dX10_course_46 (by decide) (fun _ => ?_) (fun g => absurd (by decide) g)
      refine lv_iconst (v := (-1)) hx hb dX10_course_58 (by decide) ?_
      refine lv_aload_n hx hb dX10_course_59 rfl (lv_at hl 0 rfl) ?_
      refine get_f (D := D) (ci := 10) (v := .int y371) (C := RX10) (T := TX10) (N := 67) hx hb hw inAX10 hown hK hP 1 rfl rfl 16 (by decide) (hw _ q_1277) (fun _ h9 => h9) t387 dX10_course_60 ?_
      refine lv_isub hx hb dX10_course_63 ?_
      refine lv_topi (fun v438 ev438 => ?_)
      have bv438 : v438.toInt = (-1) - y371.toInt := by rw [ev438]; exact sub_k rfl rfl ⟨Int.le_refl _, Int.le_refl _⟩ (ir_any _) (by decide)
      have k439 : (-2147483648) ≤ v438.toInt ∧ v438.toInt ≤ 2147483647 := sub_r bv438 ⟨Int.le_refl _, Int.le_refl _⟩ (ir_any _) (by decide)
      exact ret_i (v := v438) hx hb hr hlocks hS (hP.sub (ws' := [(h0, .inr (10, vL 67 F364)), (h_tape, .inl (cB, 940, .inl f_tape)), (h_s, .inl (cI, 335, .inl f_s)), (h_h, .inl (cI, 104, .inl g375)), (h_names, .inl (cJ, 36, .inr (.inl g376))), (h_reserved, .inl (cJ, 23, .inr (.inl f_reserved)))]) [1, 2, 0, 3, 4, 5] rfl) (hD.sub (ws' := [(h0, .inr (10, vL 67 F364)), (h_tape, .inl (cB, 940, .inl f_tape)), (h_s, .inl (cI, 335, .inl f_s)), (h_h, .inl (cI, 104, .inl g375)), (h_names, .inl (cJ, 36, .inr (.inl g376))), (h_reserved, .inl (cJ, 23, .inr (.inl f_reserved)))]) [1, 2, 0, 3, 4, 5] (by decide) rfl) dX10_course_64 rfl (Nat.le_of_ble_eq_true rfl) (Nat.le_of_ble_eq_true rfl) ⟨F364, y365, y366, y367, y368, y369, y370, y371, x_ids, y372, y373, u101, y374, x_undoMany, f_s, g375, g376, (SAME.tr (SAME.tr (SAME.tr (SAME.up eF13 (SAME.up eF12 (SAME.up eF11 (SAME.tr (SAME.up eF1 SAME.rf (by decide)) t5 (by decide)) (by decide)) (by decide)) (by decide)) t72 (by decide)) i313 (by decide)) t377 (by decide)), (SAME.at t377 (by decide) (SAME.at i313 (by decide) (SAME.at t72 (by decide) (get_ne eF13 (by decide) (get_ne eF12 (by decide) (get_ne eF11 (by decide) (SAME.at t5 (by decide) (get_eq eF1)))))))), (SAME.at t377 (by decide) (SAME.at i313 (by decide) (SAME.at t72 (by decide) (get_ne eF13 (by decide) (get_ne eF12 (by decide) (get_ne eF11 (by decide) t6)))))), (SAME.at t377 (by decide) n344), t378, t379, (SAME.at t377 (by decide) n346), t380, t381, t382, t383, t384, t385, (ir_wk t386 (by decide) (by decide)), t387, (SAME.at t377 (by decide) (SAME.at i313 (by decide) (SAME.at t72 (by decide) (get_ne eF13 (by decide) (get_ne eF12 (by decide) (get_ne eF11 (by decide) (SAME.at t5 (by decide) (get_ne eF1 (by decide) e_ids)))))))), t388, t389, (SAME.at t377 (by decide) i323), t390, (SAME.at t377 (by decide) (SAME.at i313 (by decide) (SAME.at t72 (by decide) (get_ne eF13 (by decide) (get_ne eF12 (by decide) (get_ne eF11 (by decide) (SAME.at t5 (by decide) (get_ne eF1 (by decide) e_undoMany)))))))), i_x_undoMany, s_s_153, s_s_0, s_s_5, s_s_6, s_s_7, s_s_44, s_s_K0, s_s_105, s_s_114, s_s_130, s_s_139, t391, t392, t393, t394, t395, ⟨cAns_l2 (crs_0 t85 (csM_0 t26) (CA.bad1 i330 (by omega) (fun q => by have h2 := tkM_end.mp q; omega) t396)) (by omega), by rw [show cTxt f_tape x_length.toInt = _ from (crs_0 t85 (csM_0 t26) (CA.bad1 i330 (by omega) (fun q => by have h2 := tkM_end.mp q; omega) t396))]; exact rfl⟩, ⟨(PICM.un (UN.tr i335 t397) (s_s_5.atN 5 (by decide) (by decide)).2 (s_s_7.atN 7 (by decide) (by decide)).2).trans (cpc_l (crs_0 t85 (csM_0 t26) (CA.bad1 i330 (by omega) (fun q => by have h2 := tkM_end.mp q; omega) t396))).symm, AV.n0 z_0 (UN.tr i335 t397) (s_s_5.atN 5 (by decide) (by decide)).2, AV.n12 z_1 (UN.tr i335 t397) (s_s_7.atN 7 (by decide) (by decide)).2⟩, (by omega), rfl⟩
    · refine hp.elim (fun F399 h9z0 => h9z0.elim (fun y400 h9z1 => h9z1.elim (fun y401 h9z2 => h9z2.elim (fun y402 h9z3 => h9z3.elim (fun y403 h9z4 => h9z4.elim (fun y404 h9z5 => h9z5.elim (fun y405 h9z6 => h9z6.elim (fun y406 h9z7 => h9z7.elim (fun y407 h9z8 => h9z8.elim (fun g408 h9z9 => h9z9.elim (fun g409 h9z10 => h9z10.elim (fun t410 h9z11 => h9z11.elim (fun t411 h9z12 => h9z12.elim (fun t412 h9z13 => h9z13.elim (fun t413 h9z14 => h9z14.elim (fun t414 h9z15 => h9z15.elim (fun t415 h9z16 => h9z16.elim (fun t416 h9z17 => h9z17.elim (fun t417 h9z18 => h9z18.elim (fun t418 h9z19 => h9z19.elim (fun t419 h9z20 => h9z20.elim (fun t420 h9z21 => h9z21.elim (fun t421 h9z22 => h9z22.elim (fun t422 h9z23 => h9z23.elim (fun t423 h9z24 => h9z24.elim (fun t424 h9z25 => h9z25.elim (fun t425 h9z26 => h9z26.elim (fun t426 h9z27 => h9z27.elim (fun t427 h9z28 => h9z28.elim (fun t428 h9z29 => h9z29.elim (fun t429 h9z30 => h9z30.elim (fun t430 h9z31 => h9z31.elim (fun t431 h9z32 => h9z32.elim (fun t432 h9z33 => h9z33.elim (fun t433 h9z34 => h9z34.elim (fun t434 h9z35 => h9z35.elim (fun t435 h9z36 => h9z36.elim (fun t436 h9z37 => h9z37.elim (fun heq938 h9z38 => ?_)))))))))))))))))))))))))))))))))))))))
      clear h9z0 h9z1 h9z2 h9z3 h9z4 h9z5 h9z6 h9z7 h9z8 h9z9 h9z10 h9z11 h9z12 h9z13 h9z14 h9z15 h9z16 h9z17 h9z18 h9z19 h9z20 h9z21 h9z22 h9z23 h9z24 h9z25 h9z26 h9z27 h9z28 h9z29 h9z30 h9z31 h9z32 h9z33 h9z34 h9z35 h9z36 h9z37
      subst heq938
      subst h9z38
      have hP : va_P D vwCl [(h_s, .inl (cI, 335, .inl f_s)), (h0, .inr (10, vL 67 F399)), (h_tape, .inl (cB, 940, .inl f_tape)), (h_h, .inl (cI, 104, .inl g408)), (h_names, .inl (cJ, 36, .inr (.inl g409))), (h_reserved, .inl (cJ, 23, .inr (.inl f_reserved)))] H := hP
      have hD : va_D A [(h_s, .inl (cI, 335, .inl f_s)), (h0, .inr (10, vL 67 F399)), (h_tape, .inl (cB, 940, .inl f_tape)), (h_h, .inl (cI, 104, .inl g408)), (h_names, .inl (cJ, 36, .inr (.inl g409))), (h_reserved, .inl (cJ, 23, .inr (.inl f_reserved)))] := hD
      refine W.widen (k := 0) (n := 0) (Nat.le_of_ble_eq_true rfl) (Nat.le_of_ble_eq_true rfl) ?_
      refine lv_if_eq (tgt := 58) hx hb dX10_course_46 (by decide) (fun g => absurd g (by decide)) (fun _ => ?_)
      refine lv_aload_n hx hb dX10_course_49 rfl (lv_at hl 0 rfl) ?_
      refine lv_bipush (v := 59) hx hb dX10_course_50 (by decide) ?_
      have n440 : F399 1 = .ref h_tape := (SAME.at t410 (by decide) n342)
      have n441 : F399 3 = .int x_length := (SAME.at t410 (by decide) n344)
      have n442 : F399 5 = .int 900 := (SAME.at t410 (by decide) n346)
      have n443 : F399 15 = .int u97 := (SAME.at t410 (by decide) i319)
      have n444 : F399 16 = .int u98 := (SAME.at t410 (by decide) i320)
      refine call_Vi (wr := [(h_s, .inl (cI, 335, .inl f_s)), (h_h, .inl (cI, 104, .inl g408)), (h_names, .inl (cJ, 36, .inr (.inl g409))), (h_reserved, .inl (cJ, 23, .inr (.inl f_reserved)))]) (As := [.int 59]) (rest := []) hx hb hml hown hw (m_X10_sign l D cI cJ cB cP cM cZ h0 h_tape F399 x_length y400 900 y401 y402 y404 u97 u98 y405 f_tape 59 _ n440 n441 i_x_length t411 t412 n442 (show 200 ≤ (900 : Int32).toInt ∧ (900 : Int32).toInt ≤ 940 by decide) t413 t414 t415 t419 n443 n444 t420 (by omega)) wV_X10_257_X10_sign dX10_course_52 hK hP hD hS hA [1, 2] [0, 3, 4, 5] rfl rfl (by decide) (by decide) (by decide) 0 10 rfl rfl GG.fb hG.at hl.1 rfl (Nat.le_of_ble_eq_true rfl) ⟨(Nat.le_of_ble_eq_true rfl), (Nat.le_of_ble_eq_true rfl)⟩ ⟨(Nat.le_of_ble_eq_true rfl), (Nat.le_of_ble_eq_true rfl)⟩ (fun r445 u H locs hp hP hD hS => ?_)
      have zl59 : (59 : Int32).toInt = 59 := by decide
      rcases hp with hp | hp
      · refine hp.elim (fun F446 h9z0 => h9z0.elim (fun y447 h9z1 => h9z1.elim (fun y448 h9z2 => h9z2.elim (fun y449 h9z3 => h9z3.elim (fun y450 h9z4 => h9z4.elim (fun y451 h9z5 => h9z5.elim (fun y452 h9z6 => h9z6.elim (fun t453 h9z7 => h9z7.elim (fun t454 h9z8 => h9z8.elim (fun t455 h9z9 => h9z9.elim (fun t456 h9z10 => h9z10.elim (fun t457 h9z11 => h9z11.elim (fun t458 h9z12 => h9z12.elim (fun t459 h9z13 => h9z13.elim (fun t460 h9z14 => h9z14.elim (fun t461 h9z15 => h9z15.elim (fun t462 h9z16 => h9z16.elim (fun t463 h9z17 => h9z17.elim (fun t464 h9z18 => h9z18.elim (fun t465 h9z19 => h9z19.elim (fun t466 h9z20 => h9z20.elim (fun t467 h9z21 => h9z21.elim (fun t468 h9z22 => h9z22.elim (fun heq923 h9z23 => ?_))))))))))))))))))))))))
        clear h9z0 h9z1 h9z2 h9z3 h9z4 h9z5 h9z6 h9z7 h9z8 h9z9 h9z10 h9z11 h9z12 h9z13 h9z14 h9z15 h9z16 h9z17 h9z18 h9z19 h9z20 h9z21 h9z22
        subst heq923
        subst h9z23
        have hP : va_P D vwCl [(h_s, .inl (cI, 335, .inl f_s)), (h_h, .inl (cI, 104, .inl g408)), (h_names, .inl (cJ, 36, .inr (.inl g409))), (h_reserved, .inl (cJ, 23, .inr (.inl f_reserved))), (h0, .inr (10, vL 67 F446)), (h_tape, .inl (cB, 940, .inl f_tape))] H := hP
        have hD : va_D A [(h_s, .inl (cI, 335, .inl f_s)), (h_h, .inl (cI, 104, .inl g408)), (h_names, .inl (cJ, 36, .inr (.inl g409))), (h_reserved, .inl (cJ, 23, .inr (.inl f_reserved))), (h0, .inr (10, vL 67 F446)), (h_tape, .inl (cB, 940, .inl f_tape))] := hD
        refine W.widen (k := 0) (n := 0) (Nat.le_of_ble_eq_true rfl) (Nat.le_of_ble_eq_true rfl) ?_
        refine lv_if_ne (tgt := 65) hx hb dX10_course_55 (by decide) (fun _ => ?_) (fun g => absurd g (by decide))
        refine lv_aload_n hx hb dX10_course_65 rfl (lv_at hl 0 rfl) ?_
        refine lv_dup hx hb dX10_course_66 rfl ?_
        have n479 : F399 20 = .int u101 := (SAME.at t410 (by decide) i323)
        have n480 : F446 20 = .int u101 := (SAME.at t453 (by decide) n479)
        refine get_f (D := D) (ci := 10) (v := .int u101) (C := RX10) (T := TX10) (N := 67) hx hb hw inAX10 hown hK hP 4 rfl rfl 20 (by decide) (hw _ q_1281) (fun _ h9 => h9) n480 dX10_course_67 ?_
        refine lv_iconst (v := 1) hx hb dX10_course_70 (by decide) ?_
        refine lv_iadd hx hb dX10_course_71 ?_
        refine lv_topi (fun v481 ev481 => ?_)
        have bv481 : -1000000 ≤ u101.toInt → u101.toInt ≤ 1000000 → v481.toInt = u101.toInt + 1 := fun h1 h2 => by rw [ev481]; exact add_i (a := u101.toInt) (b := 1) rfl rfl (by omega) (by omega)
        refine put_f (D := D) (ci := 10) (v := .int v481) (ty := .int) (C := RX10) (T := TX10) (N := 67) hx hb hw inAX10 tyX10 tyX10_ok nmX10 hown hK hP hD hS 4 rfl rfl 20 (by decide) (hw _ q_1281) (fun _ h9 => h9) rfl (by decide +kernel) rfl rfl dX10_course_72 (fun H locs F482 eF482 hP hD hS => ?_)
        have hP : va_P D vwCl [(h_s, .inl (cI, 335, .inl f_s)), (h_h, .inl (cI, 104, .inl g408)), (h_names, .inl (cJ, 36, .inr (.inl g409))), (h_reserved, .inl (cJ, 23, .inr (.inl f_reserved))), (h0, .inr (10, vL 67 F482)), (h_tape, .inl (cB, 940, .inl f_tape))] H := hP
        have hD : va_D A [(h_s, .inl (cI, 335, .inl f_s)), (h_h, .inl (cI, 104, .inl g408)), (h_names, .inl (cJ, 36, .inr (.inl g409))), (h_reserved, .inl (cJ, 23, .inr (.inl f_reserved))), (h0, .inr (10, vL 67 F482)), (h_tape, .inl (cB, 940, .inl f_tape))] := hD
        refine lv_goto (tgt := 35) hx hb dX10_course_75 (by decide) ?_
        have n483 : F482 4 = .int y447 := (get_ne eF482 (by decide) t454)
        have n484 : F482 11 = .int y448 := (get_ne eF482 (by decide) t456)
        have n485 : F482 12 = .int y449 := (get_ne eF482 (by decide) t458)
        have n486 : F482 13 = .int y450 := (get_ne eF482 (by decide) t460)
        have n487 : F482 14 = .int y451 := (get_ne eF482 (by decide) t462)
        have n488 : F446 15 = .int u97 := (SAME.at t453 (by decide) n443)
        have n489 : F482 15 = .int u97 := (get_ne eF482 (by decide) n488)
        have n490 : F446 16 = .int u98 := (SAME.at t453 (by decide) n444)
        have n491 : F482 16 = .int u98 := (get_ne eF482 (by decide) n490)
        have n492 : F482 18 = .long y452 := (get_ne eF482 (by decide) t463)
        have n493 : F446 19 = .int y406 := (SAME.at t453 (by decide) t421)
        have n494 : F482 19 = .int y406 := (get_ne eF482 (by decide) n493)
        have n495 : F446 21 = .int y407 := (SAME.at t453 (by decide) t422)
        have n496 : F482 21 = .int y407 := (get_ne eF482 (by decide) n495)
        exact ih (g409, g408, F482, y447, y448, y449, y450, y451, u97, u98, y452, y406, v481, y407) ⟨t423, t427, t424, t425, t426, (SAME.up eF482 (SAME.tr (SAME.tr (SAME.tr SAME.rf i313 (by decide)) t410 (by decide)) t453 (by decide)) (by decide)), n483, n484, n485, n486, n487, n489, n491, n492, n494, (get_eq eF482), n496, t455, t457, t459, t461, i329, (show CA (tkA f_tape x_length.toInt 900) (tkM y67 y68 y70 y71 y66) (csM (0 : Int32) g20 f_names) 900 (tkM y448 y449 y451 y452 y447) (csM y407 g408 g409) v481.toInt from (CA.step i330 (by omega) (fun q => by have h2 := tkM_end.mp q; omega) t430 t466 (by omega))), (show (VWF y448.toInt y452.toInt) from t467), (show AV g409 18 (g408 5).toInt from t432), (show AV g409 30 (g408 7).toInt from t433), (by show 0 ≤ v481.toInt ∧ 2 * v481.toInt ≤ y447.toInt ∧ (1 ≤ y448.toInt → y448.toInt ≤ 3 → 2 * v481.toInt + 1 ≤ y447.toInt); omega), (show UN f_names g409 from (UN.tr i335 t435)), (by show u97.toInt = 0; omega), (by show (y448.toInt = 2 → 0 ≤ y451.toInt ∧ y451.toInt ≤ 999); omega)⟩ (by show (940 - y447.toInt).toNat < (940 - u92.toInt).toNat; omega) _ _ _ (hP.sub [0, 2, 3, 1, 4, 5] rfl) (hD.sub [0, 2, 3, 1, 4, 5] (by decide) rfl) hS (lv_sub hl [0] rfl)
      · obtain ⟨F469, y470, y471, t472, t473, t474, t475, t476, t477, rfl, rfl⟩ := hp
        have hP : va_P D vwCl [(h_s, .inl (cI, 335, .inl f_s)), (h_h, .inl (cI, 104, .inl g408)), (h_names, .inl (cJ, 36, .inr (.inl g409))), (h_reserved, .inl (cJ, 23, .inr (.inl f_reserved))), (h0, .inr (10, vL 67 F469)), (h_tape, .inl (cB, 940, .inl f_tape))] H := hP
        have hD : va_D A [(h_s, .inl (cI, 335, .inl f_s)), (h_h, .inl (cI, 104, .inl g408)), (h_names, .inl (cJ, 36, .inr (.inl g409))), (h_reserved, .inl (cJ, 23, .inr (.inl f_reserved))), (h0, .inr (10, vL 67 F469)), (h_tape, .inl (cB, 940, .inl f_tape))] := hD
        refine W.widen (k := 0) (n := 0) (Nat.le_of_ble_eq_true rfl) (Nat.le_of_ble_eq_true rfl) ?_
        refine lv_if_ne (tgt := 65) hx hb dX10_course_55 (by decide) (fun g => absurd (by decide) g) (fun _ => ?_)
        refine lv_iconst (v := (-1)) hx hb dX10_course_58 (by decide) ?_
        refine lv_aload_n hx hb dX10_course_59 rfl (lv_at hl 0 rfl) ?_
        refine get_f (D := D) (ci := 10) (v := .int y471) (C := RX10) (T := TX10) (N := 67) hx hb hw inAX10 hown hK hP 4 rfl rfl 16 (by decide) (hw _ q_1277) (fun _ h9 => h9) t475 dX10_course_60 ?_
        refine lv_isub hx hb dX10_course_63 ?_
        refine lv_topi (fun v497 ev497 => ?_)
        have bv497 : v497.toInt = (-1) - y471.toInt := by rw [ev497]; exact sub_k rfl rfl ⟨Int.le_refl _, Int.le_refl _⟩ (ir_any _) (by decide)
        have k498 : (-2147483648) ≤ v497.toInt ∧ v497.toInt ≤ 2147483647 := sub_r bv497 ⟨Int.le_refl _, Int.le_refl _⟩ (ir_any _) (by decide)
        exact ret_i (v := v497) hx hb hr hlocks hS (hP.sub (ws' := [(h0, .inr (10, vL 67 F469)), (h_tape, .inl (cB, 940, .inl f_tape)), (h_s, .inl (cI, 335, .inl f_s)), (h_h, .inl (cI, 104, .inl g408)), (h_names, .inl (cJ, 36, .inr (.inl g409))), (h_reserved, .inl (cJ, 23, .inr (.inl f_reserved)))]) [4, 5, 0, 1, 2, 3] rfl) (hD.sub (ws' := [(h0, .inr (10, vL 67 F469)), (h_tape, .inl (cB, 940, .inl f_tape)), (h_s, .inl (cI, 335, .inl f_s)), (h_h, .inl (cI, 104, .inl g408)), (h_names, .inl (cJ, 36, .inr (.inl g409))), (h_reserved, .inl (cJ, 23, .inr (.inl f_reserved)))]) [4, 5, 0, 1, 2, 3] (by decide) rfl) dX10_course_64 rfl (Nat.le_of_ble_eq_true rfl) (Nat.le_of_ble_eq_true rfl) ⟨F469, y400, y401, y402, y403, y404, y470, y471, x_ids, y405, y406, u101, y407, x_undoMany, f_s, g408, g409, (SAME.tr (SAME.tr (SAME.tr (SAME.tr (SAME.up eF13 (SAME.up eF12 (SAME.up eF11 (SAME.tr (SAME.up eF1 SAME.rf (by decide)) t5 (by decide)) (by decide)) (by decide)) (by decide)) t72 (by decide)) i313 (by decide)) t410 (by decide)) t472 (by decide)), (SAME.at t472 (by decide) (SAME.at t410 (by decide) (SAME.at i313 (by decide) (SAME.at t72 (by decide) (get_ne eF13 (by decide) (get_ne eF12 (by decide) (get_ne eF11 (by decide) (SAME.at t5 (by decide) (get_eq eF1))))))))), (SAME.at t472 (by decide) (SAME.at t410 (by decide) (SAME.at i313 (by decide) (SAME.at t72 (by decide) (get_ne eF13 (by decide) (get_ne eF12 (by decide) (get_ne eF11 (by decide) t6))))))), (SAME.at t472 (by decide) n441), (SAME.at t472 (by decide) t411), t412, (SAME.at t472 (by decide) n442), (SAME.at t472 (by decide) t413), t414, (SAME.at t472 (by decide) t415), (SAME.at t472 (by decide) t417), (SAME.at t472 (by decide) t419), t473, (ir_wk t474 (by decide) (by decide)), t475, (SAME.at t472 (by decide) (SAME.at t410 (by decide) (SAME.at i313 (by decide) (SAME.at t72 (by decide) (get_ne eF13 (by decide) (get_ne eF12 (by decide) (get_ne eF11 (by decide) (SAME.at t5 (by decide) (get_ne eF1 (by decide) e_ids))))))))), (SAME.at t472 (by decide) t420), (SAME.at t472 (by decide) t421), (SAME.at t472 (by decide) (SAME.at t410 (by decide) i323)), (SAME.at t472 (by decide) t422), (SAME.at t472 (by decide) (SAME.at t410 (by decide) (SAME.at i313 (by decide) (SAME.at t72 (by decide) (get_ne eF13 (by decide) (get_ne eF12 (by decide) (get_ne eF11 (by decide) (SAME.at t5 (by decide) (get_ne eF1 (by decide) e_undoMany))))))))), i_x_undoMany, s_s_153, s_s_0, s_s_5, s_s_6, s_s_7, s_s_44, s_s_K0, s_s_105, s_s_114, s_s_130, s_s_139, t423, t424, t425, t426, t427, ⟨cAns_l2 (crs_0 t85 (csM_0 t26) (CA.bad2 i330 (by omega) (fun q => by have h2 := tkM_end.mp q; omega) t430 t476)) (by omega), by rw [show cTxt f_tape x_length.toInt = _ from (crs_0 t85 (csM_0 t26) (CA.bad2 i330 (by omega) (fun q => by have h2 := tkM_end.mp q; omega) t430 t476))]; exact rfl⟩, ⟨(PICM.un (UN.tr i335 t435) (s_s_5.atN 5 (by decide) (by decide)).2 (s_s_7.atN 7 (by decide) (by decide)).2).trans (cpc_l (crs_0 t85 (csM_0 t26) (CA.bad2 i330 (by omega) (fun q => by have h2 := tkM_end.mp q; omega) t430 t476))).symm, AV.n0 z_0 (UN.tr i335 t435) (s_s_5.atN 5 (by decide) (by decide)).2, AV.n12 z_1 (UN.tr i335 t435) (s_s_7.atN 7 (by decide) (by decide)).2⟩, (by omega), rfl⟩
