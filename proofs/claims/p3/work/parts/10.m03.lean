set_option maxHeartbeats 4000000 in
set_option maxRecDepth 100000 in
theorem m_X10_next (l : Launch) (D : va_G) (cI cJ cB cP cM cZ : ClassId) (h0 : Nat) (h_tape : Nat) (Fh : Nat → Value) (x_size : Int32) (x_p : Int32) (x_limit : Int32) (x_token : Int32) (x_number : Int32) (x_word : Int64) (f_tape : Nat → Int32) (sz : Nat) (e_tape : Fh 1 = .ref h_tape) (e_size : Fh 3 = .int x_size) (i_x_size : IR 0 940 x_size) (e_p : Fh 4 = .int x_p) (i_x_p : IR 0 940 x_p) (e_limit : Fh 5 = .int x_limit) (i_x_limit : IR 200 940 x_limit) (e_token : Fh 11 = .int x_token) (i_x_token : IR 0 4 x_token) (e_number : Fh 14 = .int x_number) (e_word : Fh 18 = .long x_word) (o_0 : (x_token.toInt = 2 → 0 ≤ x_number.toInt ∧ x_number.toInt ≤ 999)) : CV l yX10_next cX10_next 4 none { frames := 1, cells := 0, slots := 0, locals := 20 } (GG D cI cJ cB cP cM cZ) D [(h0, .inr (10, vL 67 Fh)), (h_tape, .inl (cB, 940, .inl f_tape))] sz [.ref h0] (fun (u : va_W) => ∃ (Gh : Nat → Value) (y_p : Int32) (y_token : Int32) (y_at : Int32) (y_span : Int32) (y_number : Int32) (y_word : Int64), SAME [4, 11, 12, 13, 14, 18] Fh Gh ∧ Gh 4 = .int y_p ∧ IR 0 940 y_p ∧ Gh 11 = .int y_token ∧ IR 0 4 y_token ∧ Gh 12 = .int y_at ∧ IR 0 940 y_at ∧ Gh 13 = .int y_span ∧ IR 0 940 y_span ∧ Gh 14 = .int y_number ∧ Gh 18 = .long y_word ∧ (x_p.toInt ≤ y_p.toInt) ∧ ((1 ≤ y_token.toInt → y_token.toInt ≤ 3 → x_p.toInt < y_p.toInt)) ∧ ((y_token.toInt = 2 → 0 ≤ y_number.toInt ∧ y_number.toInt ≤ 999)) ∧ u = [(h0, .inr (10, vL 67 Gh)), (h_tape, .inl (cB, 940, .inl f_tape))]) := by
  refine CV_mk (by decide) (Nat.le_of_ble_eq_true rfl) ?_
  intro p e s m below meth c A ls E hAe hG hsz hP hD hA hS hl
  obtain ⟨hx, hb, hr, hw, hown, hlocks, hml, hnm⟩ := E
  have hK := hG.1
  have i_x_size : 0 ≤ x_size.toInt ∧ x_size.toInt ≤ 940 := i_x_size
  have i_x_p : 0 ≤ x_p.toInt ∧ x_p.toInt ≤ 940 := i_x_p
  have i_x_limit : 200 ≤ x_limit.toInt ∧ x_limit.toInt ≤ 940 := i_x_limit
  have i_x_token : 0 ≤ x_token.toInt ∧ x_token.toInt ≤ 4 := i_x_token
  have hl : lv_has ls 4 [(0, .ref h0)] := hl
  have cut3 : ∀ (G1 : Nat → Value) (u2 : Int32) (_ : SAME [4] Fh G1) (_ : G1 4 = .int u2) (_ : IR 0 940 u2) (_ : (x_p.toInt ≤ u2.toInt)) (H : Heap) (locs : List Loc) (ls : Array Slot), va_P D vwCl [(h0, .inr (10, vL 67 G1)), (h_tape, .inl (cB, 940, .inl f_tape))] H → va_D A [(h0, .inr (10, vL 67 G1)), (h_tape, .inl (cB, 940, .inl f_tape))] → va_S A s.heap H locs → lv_has ls 4 [(0, .ref h0)] → W p l e ({ frames := 1, cells := 0, slots := 0, locals := 20 } : Room) s m [.ref h0].toArray below meth c H locs 0 0 (MQ below (va_Qv (fun (u : va_W) => ∃ (Gh : Nat → Value) (y_p : Int32) (y_token : Int32) (y_at : Int32) (y_span : Int32) (y_number : Int32) (y_word : Int64), SAME [4, 11, 12, 13, 14, 18] Fh Gh ∧ Gh 4 = .int y_p ∧ IR 0 940 y_p ∧ Gh 11 = .int y_token ∧ IR 0 4 y_token ∧ Gh 12 = .int y_at ∧ IR 0 940 y_at ∧ Gh 13 = .int y_span ∧ IR 0 940 y_span ∧ Gh 14 = .int y_number ∧ Gh 18 = .long y_word ∧ (x_p.toInt ≤ y_p.toInt) ∧ ((1 ≤ y_token.toInt → y_token.toInt ≤ 3 → x_p.toInt < y_p.toInt)) ∧ ((y_token.toInt = 2 → 0 ≤ y_number.toInt ∧ y_number.toInt ≤ 999)) ∧ u = [(h0, .inr (10, vL 67 Gh)), (h_tape, .inl (cB, 940, .inl f_tape))]) (PO D A) A) [.ref h0].toArray s 0 0 A) (F0 m 31 ls []) := by
    intro G1 u2 i4 i5 i6 i7 H locs ls hP hD hS hl
    have i6 : 0 ≤ u2.toInt ∧ u2.toInt ≤ 940 := i6
    have i7 : x_p.toInt ≤ u2.toInt := i7
    refine lv_aload_n hx hb dX10_next_31 rfl (lv_at hl 0 rfl) ?_
    refine lv_aload_n hx hb dX10_next_32 rfl (lv_at hl 0 rfl) ?_
    refine get_f (D := D) (ci := 10) (v := .int u2) (C := RX10) (T := TX10) (N := 67) hx hb hw inAX10 hown hK hP 0 rfl rfl 4 (by decide) (hw _ q_1265) (fun _ h9 => h9) i5 dX10_next_33 ?_
    refine put_f (D := D) (ci := 10) (v := .int u2) (ty := .int) (C := RX10) (T := TX10) (N := 67) hx hb hw inAX10 tyX10 tyX10_ok nmX10 hown hK hP hD hS 0 rfl rfl 12 (by decide) (hw _ q_1273) (fun _ h9 => h9) rfl (by decide +kernel) rfl rfl dX10_next_36 (fun H locs F8 eF8 hP hD hS => ?_)
    have hP : va_P D vwCl [(h0, .inr (10, vL 67 F8)), (h_tape, .inl (cB, 940, .inl f_tape))] H := hP
    have hD : va_D A [(h0, .inr (10, vL 67 F8)), (h_tape, .inl (cB, 940, .inl f_tape))] := hD
    refine lv_aload_n hx hb dX10_next_39 rfl (lv_at hl 0 rfl) ?_
    refine lv_iconst (v := 0) hx hb dX10_next_40 (by decide) ?_
    refine put_f (D := D) (ci := 10) (v := .int 0) (ty := .int) (C := RX10) (T := TX10) (N := 67) hx hb hw inAX10 tyX10 tyX10_ok nmX10 hown hK hP hD hS 0 rfl rfl 13 (by decide) (hw _ q_1274) (fun _ h9 => h9) rfl (by decide +kernel) rfl rfl dX10_next_41 (fun H locs F9 eF9 hP hD hS => ?_)
    have hP : va_P D vwCl [(h0, .inr (10, vL 67 F9)), (h_tape, .inl (cB, 940, .inl f_tape))] H := hP
    have hD : va_D A [(h0, .inr (10, vL 67 F9)), (h_tape, .inl (cB, 940, .inl f_tape))] := hD
    refine lv_aload_n hx hb dX10_next_44 rfl (lv_at hl 0 rfl) ?_
    have n10 : G1 3 = .int x_size := (SAME.at i4 (by decide) e_size)
    have n11 : F8 3 = .int x_size := (get_ne eF8 (by decide) n10)
    have n12 : F9 3 = .int x_size := (get_ne eF9 (by decide) n11)
    refine get_f (D := D) (ci := 10) (v := .int x_size) (C := RX10) (T := TX10) (N := 67) hx hb hw inAX10 hown hK hP 0 rfl rfl 3 (by decide) (hw _ q_1264) (fun _ h9 => h9) n12 dX10_next_45 ?_
    refine lv_aload_n hx hb dX10_next_48 rfl (lv_at hl 0 rfl) ?_
    have n13 : G1 5 = .int x_limit := (SAME.at i4 (by decide) e_limit)
    have n14 : F8 5 = .int x_limit := (get_ne eF8 (by decide) n13)
    have n15 : F9 5 = .int x_limit := (get_ne eF9 (by decide) n14)
    refine get_f (D := D) (ci := 10) (v := .int x_limit) (C := RX10) (T := TX10) (N := 67) hx hb hw inAX10 hown hK hP 0 rfl rfl 5 (by decide) (hw _ q_1266) (fun _ h9 => h9) n15 dX10_next_49 ?_
    refine lv_icmp_le (tgt := 80) hx hb dX10_next_52 (by decide) (fun c16 => ?_) (fun c16 => ?_)
    · have dc16 : x_size.toInt ≤ x_limit.toInt := le_i (a := x_size.toInt) (b := x_limit.toInt) rfl rfl c16
      refine lv_aload_n hx hb dX10_next_80 rfl (lv_at hl 0 rfl) ?_
      have n17 : G1 1 = .ref h_tape := (SAME.at i4 (by decide) e_tape)
      have n18 : F8 1 = .ref h_tape := (get_ne eF8 (by decide) n17)
      have n19 : F9 1 = .ref h_tape := (get_ne eF9 (by decide) n18)
      have n20 : F8 4 = .int u2 := (get_ne eF8 (by decide) i5)
      have n21 : F9 4 = .int u2 := (get_ne eF9 (by decide) n20)
      refine call_Vi (wr := []) (As := []) (rest := []) hx hb hml hown hw (m_X10_peek l D cI cJ cB cP cM cZ h0 h_tape F9 x_size u2 f_tape _ n19 n12 i_x_size n21 i6) wV_X10_169_X10_peek dX10_next_81 hK hP hD hS hA [0, 1] [] rfl rfl (by decide) (by decide) (by decide) 0 10 rfl rfl GG.fb hG.at hl.1 rfl (Nat.le_of_ble_eq_true rfl) ⟨(Nat.le_of_ble_eq_true rfl), (Nat.le_of_ble_eq_true rfl)⟩ ⟨(Nat.le_of_ble_eq_true rfl), (Nat.le_of_ble_eq_true rfl)⟩ (fun r22 u H locs hp hP hD hS => ?_)
      obtain ⟨t23, t24, rfl⟩ := hp
      have hP : va_P D vwCl [(h0, .inr (10, vL 67 F9)), (h_tape, .inl (cB, 940, .inl f_tape))] H := hP
      have hD : va_D A [(h0, .inr (10, vL 67 F9)), (h_tape, .inl (cB, 940, .inl f_tape))] := hD
      refine W.widen (k := 0) (n := 0) (Nat.le_of_ble_eq_true rfl) (Nat.le_of_ble_eq_true rfl) ?_
      refine lv_istore_n (lv' := [(1, .int r22), (0, .ref h0)]) hx hb dX10_next_84 rfl hl (by decide) rfl (fun ls hl => ?_)
      refine lv_iload_n hx hb dX10_next_85 rfl (lv_at hl 0 rfl) ?_
      refine lv_if_ge (tgt := 95) hx hb dX10_next_86 (by decide) (fun c26 => ?_) (fun c26 => ?_)
      · have dc26 : 0 ≤ r22.toInt := le_i (a := 0) (b := r22.toInt) rfl rfl c26
        have k27 : 0 ≤ r22.toInt ∧ r22.toInt ≤ 255 := ⟨Int.le_trans (Int.le_refl _) dc26, t23.2⟩
        have cut29 : ∀ (u28 : Int32) (_ : IR 0 1 u28) (_ : (((48 ≤ r22.toInt ∧ r22.toInt ≤ 57 ∧ u28.toInt = 0) ∨ (97 ≤ r22.toInt ∧ r22.toInt ≤ 122 ∧ u28.toInt = 1)))) (H : Heap) (locs : List Loc) (ls : Array Slot), va_P D vwCl [(h0, .inr (10, vL 67 F9)), (h_tape, .inl (cB, 940, .inl f_tape))] H → va_D A [(h0, .inr (10, vL 67 F9)), (h_tape, .inl (cB, 940, .inl f_tape))] → va_S A s.heap H locs → lv_has ls 4 [(3, .int 1), (2, .int u28), (1, .int r22), (0, .ref h0)] → W p l e ({ frames := 1, cells := 0, slots := 0, locals := 20 } : Room) s m [.ref h0].toArray below meth c H locs 0 0 (MQ below (va_Qv (fun (u : va_W) => ∃ (Gh : Nat → Value) (y_p : Int32) (y_token : Int32) (y_at : Int32) (y_span : Int32) (y_number : Int32) (y_word : Int64), SAME [4, 11, 12, 13, 14, 18] Fh Gh ∧ Gh 4 = .int y_p ∧ IR 0 940 y_p ∧ Gh 11 = .int y_token ∧ IR 0 4 y_token ∧ Gh 12 = .int y_at ∧ IR 0 940 y_at ∧ Gh 13 = .int y_span ∧ IR 0 940 y_span ∧ Gh 14 = .int y_number ∧ Gh 18 = .long y_word ∧ (x_p.toInt ≤ y_p.toInt) ∧ ((1 ≤ y_token.toInt → y_token.toInt ≤ 3 → x_p.toInt < y_p.toInt)) ∧ ((y_token.toInt = 2 → 0 ≤ y_number.toInt ∧ y_number.toInt ≤ 999)) ∧ u = [(h0, .inr (10, vL 67 Gh)), (h_tape, .inl (cB, 940, .inl f_tape))]) (PO D A) A) [.ref h0].toArray s 0 0 A) (F0 m 171 ls []) := by
          intro u28 i30 i31 H locs ls hP hD hS hl
          have i30 : 0 ≤ u28.toInt ∧ u28.toInt ≤ 1 := i30
          have i31 : ((48 ≤ r22.toInt ∧ r22.toInt ≤ 57 ∧ u28.toInt = 0) ∨ (97 ≤ r22.toInt ∧ r22.toInt ≤ 122 ∧ u28.toInt = 1)) := i31
          refine lv_aload_n hx hb dX10_next_171 rfl (lv_at hl 3 rfl) ?_
          refine lv_lconst (v := 0) hx hb dX10_next_172 (by decide) ?_
          refine put_f (D := D) (ci := 10) (v := .long 0) (ty := .long) (C := RX10) (T := TX10) (N := 67) hx hb hw inAX10 tyX10 tyX10_ok nmX10 hown hK hP hD hS 0 rfl rfl 18 (by decide) (hw _ q_1279) (fun _ h9 => h9) rfl (by decide +kernel) rfl rfl dX10_next_173 (fun H locs F32 eF32 hP hD hS => ?_)
          have hP : va_P D vwCl [(h0, .inr (10, vL 67 F32)), (h_tape, .inl (cB, 940, .inl f_tape))] H := hP
          have hD : va_D A [(h0, .inr (10, vL 67 F32)), (h_tape, .inl (cB, 940, .inl f_tape))] := hD
          refine lv_aload_n hx hb dX10_next_176 rfl (lv_at hl 3 rfl) ?_
          refine lv_iconst (v := 0) hx hb dX10_next_177 (by decide) ?_
          refine put_f (D := D) (ci := 10) (v := .int 0) (ty := .int) (C := RX10) (T := TX10) (N := 67) hx hb hw inAX10 tyX10 tyX10_ok nmX10 hown hK hP hD hS 0 rfl rfl 14 (by decide) (hw _ q_1275) (fun _ h9 => h9) rfl (by decide +kernel) rfl rfl dX10_next_178 (fun H locs F33 eF33 hP hD hS => ?_)
          have hP : va_P D vwCl [(h0, .inr (10, vL 67 F33)), (h_tape, .inl (cB, 940, .inl f_tape))] H := hP
          have hD : va_D A [(h0, .inr (10, vL 67 F33)), (h_tape, .inl (cB, 940, .inl f_tape))] := hD
          have cut40 : ∀ (u34 : Int32) (G35 : Nat → Value) (u36 : Int32) (u37 : Int32) (u38 : Int32) (u39 : Int64) (_ : IR 0 1 u34) (_ : SAME [4, 13, 14, 18] F33 G35) (_ : G35 4 = .int u36) (_ : G35 13 = .int u37) (_ : G35 14 = .int u38) (_ : G35 18 = .long u39) (_ : IR 0 940 u36) (_ : IR 0 940 u37) (_ : (0 ≤ u37.toInt ∧ u37.toInt ≤ u36.toInt ∧ x_p.toInt + u37.toInt ≤ u36.toInt ∧ (u37.toInt = 0 → u36.toInt = u2.toInt))) (_ : (u34.toInt = 1 → u28.toInt = 0 → (0 ≤ u38.toInt ∧ u38.toInt ≤ 999 ∧ (u37.toInt = 0 → u38.toInt = 0) ∧ (u37.toInt = 1 → u38.toInt ≤ 9) ∧ (u37.toInt = 2 → u38.toInt ≤ 99)))) (_ : (1 ≤ u37.toInt)) (H : Heap) (locs : List Loc) (ls : Array Slot), va_P D vwCl [(h0, .inr (10, vL 67 G35)), (h_tape, .inl (cB, 940, .inl f_tape))] H → va_D A [(h0, .inr (10, vL 67 G35)), (h_tape, .inl (cB, 940, .inl f_tape))] → va_S A s.heap H locs → lv_has ls 4 [(3, .int u34), (2, .int u28), (1, .int r22), (0, .ref h0)] → W p l e ({ frames := 1, cells := 0, slots := 0, locals := 20 } : Room) s m [.ref h0].toArray below meth c H locs 0 0 (MQ below (va_Qv (fun (u : va_W) => ∃ (Gh : Nat → Value) (y_p : Int32) (y_token : Int32) (y_at : Int32) (y_span : Int32) (y_number : Int32) (y_word : Int64), SAME [4, 11, 12, 13, 14, 18] Fh Gh ∧ Gh 4 = .int y_p ∧ IR 0 940 y_p ∧ Gh 11 = .int y_token ∧ IR 0 4 y_token ∧ Gh 12 = .int y_at ∧ IR 0 940 y_at ∧ Gh 13 = .int y_span ∧ IR 0 940 y_span ∧ Gh 14 = .int y_number ∧ Gh 18 = .long y_word ∧ (x_p.toInt ≤ y_p.toInt) ∧ ((1 ≤ y_token.toInt → y_token.toInt ≤ 3 → x_p.toInt < y_p.toInt)) ∧ ((y_token.toInt = 2 → 0 ≤ y_number.toInt ∧ y_number.toInt ≤ 999)) ∧ u = [(h0, .inr (10, vL 67 Gh)), (h_tape, .inl (cB, 940, .inl f_tape))]) (PO D A) A) [.ref h0].toArray s 0 0 A) (F0 m 298 ls []) := by
            intro u34 G35 u36 u37 u38 u39 i41 i42 i43 i44 i45 i46 i47 i48 i49 i50 i51 H locs ls hP hD hS hl
            have i41 : 0 ≤ u34.toInt ∧ u34.toInt ≤ 1 := i41
            have i47 : 0 ≤ u36.toInt ∧ u36.toInt ≤ 940 := i47
            have i48 : 0 ≤ u37.toInt ∧ u37.toInt ≤ 940 := i48
            have i49 : 0 ≤ u37.toInt ∧ u37.toInt ≤ u36.toInt ∧ x_p.toInt + u37.toInt ≤ u36.toInt ∧ (u37.toInt = 0 → u36.toInt = u2.toInt) := i49
            have i50 : u34.toInt = 1 → u28.toInt = 0 → (0 ≤ u38.toInt ∧ u38.toInt ≤ 999 ∧ (u37.toInt = 0 → u38.toInt = 0) ∧ (u37.toInt = 1 → u38.toInt ≤ 9) ∧ (u37.toInt = 2 → u38.toInt ≤ 99)) := i50
            have i51 : 1 ≤ u37.toInt := i51
            refine lv_aload_n hx hb dX10_next_298 rfl (lv_at hl 3 rfl) ?_
            refine lv_iload_n hx hb dX10_next_299 rfl (lv_at hl 0 rfl) ?_
            refine lv_if_eq (tgt := 320) hx hb dX10_next_300 (by decide) (fun c52 => ?_) (fun c52 => ?_)
            · have dc52 : u34.toInt = 0 := eq_i (a := u34.toInt) (b := 0) rfl rfl c52
              have k53 : 0 ≤ u34.toInt ∧ u34.toInt ≤ 0 := ⟨i41.1, Int.le_trans (Int.le_of_eq dc52) (Int.le_refl _)⟩
              refine lv_iconst (v := 4) hx hb dX10_next_320 (by decide) ?_
              refine lv_goto (tgt := 333) hx hb dX10_next_321 (by decide) ?_
              refine put_f (D := D) (ci := 10) (v := .int 4) (ty := .int) (C := RX10) (T := TX10) (N := 67) hx hb hw inAX10 tyX10 tyX10_ok nmX10 hown hK hP hD hS 0 rfl rfl 11 (by decide) (hw _ q_1272) (fun _ h9 => h9) rfl (by decide +kernel) rfl rfl dX10_next_333 (fun H locs F54 eF54 hP hD hS => ?_)
              have hP : va_P D vwCl [(h0, .inr (10, vL 67 F54)), (h_tape, .inl (cB, 940, .inl f_tape))] H := hP
              have hD : va_D A [(h0, .inr (10, vL 67 F54)), (h_tape, .inl (cB, 940, .inl f_tape))] := hD
              exact ret_v hx hb hr hlocks hS hP hD dX10_next_336 (Nat.le_of_ble_eq_true rfl) (Nat.le_of_ble_eq_true rfl) ⟨F54, u36, 4, u2, u37, u38, u39, (SAME.up eF54 (SAME.tr (SAME.up eF33 (SAME.up eF32 (SAME.up eF9 (SAME.up eF8 (SAME.tr SAME.rf i4 (by decide)) (by decide)) (by decide)) (by decide)) (by decide)) i42 (by decide)) (by decide)), (get_ne eF54 (by decide) i43), i47, (get_eq eF54), (show 0 ≤ (4 : Int32).toInt ∧ (4 : Int32).toInt ≤ 4 by decide), (get_ne eF54 (by decide) (SAME.at i42 (by decide) (get_ne eF33 (by decide) (get_ne eF32 (by decide) (get_ne eF9 (by decide) (get_eq eF8)))))), i6, (get_ne eF54 (by decide) i44), i48, (get_ne eF54 (by decide) i45), (get_ne eF54 (by decide) i46), (by have zl0 : (0 : Int32).toInt = 0 := (by decide); have zl4 : (4 : Int32).toInt = 4 := (by decide); omega), (by have zl0 : (0 : Int32).toInt = 0 := (by decide); have zl4 : (4 : Int32).toInt = 4 := (by decide); omega), (by have zl4 : (4 : Int32).toInt = 4 := (by decide); omega), rfl⟩
            · have dc52 : u34.toInt ≠ 0 := ne_i (a := u34.toInt) (b := 0) rfl rfl c52
              have k55 : 1 ≤ u34.toInt ∧ u34.toInt ≤ 1 := ⟨ne_lo dc52 i41.1 ⟨Int.le_refl _, Int.le_refl _⟩ (by decide), i41.2⟩
              refine lv_aload_n hx hb dX10_next_303 rfl (lv_at hl 3 rfl) ?_
              refine get_f (D := D) (ci := 10) (v := .int u37) (C := RX10) (T := TX10) (N := 67) hx hb hw inAX10 hown hK hP 0 rfl rfl 13 (by decide) (hw _ q_1274) (fun _ h9 => h9) i44 dX10_next_304 ?_
              refine lv_iload_n hx hb dX10_next_307 rfl (lv_at hl 1 rfl) ?_
              refine lv_if_eq (tgt := 316) hx hb dX10_next_308 (by decide) (fun c56 => ?_) (fun c56 => ?_)
              · have dc56 : u28.toInt = 0 := eq_i (a := u28.toInt) (b := 0) rfl rfl c56
                have k57 : 0 ≤ u28.toInt ∧ u28.toInt ≤ 0 := ⟨i30.1, Int.le_trans (Int.le_of_eq dc56) (Int.le_refl _)⟩
                refine lv_iconst (v := 3) hx hb dX10_next_316 (by decide) ?_
                refine lv_icmp_le (tgt := 324) hx hb dX10_next_317 (by decide) (fun c58 => ?_) (fun c58 => ?_)
                · have dc58 : u37.toInt ≤ 3 := le_i (a := u37.toInt) (b := 3) rfl rfl c58
                  have k59 : 0 ≤ u37.toInt ∧ u37.toInt ≤ 3 := ⟨i48.1, Int.le_trans dc58 (Int.le_refl _)⟩
                  refine lv_iload_n hx hb dX10_next_324 rfl (lv_at hl 1 rfl) ?_
                  refine lv_if_eq (tgt := 332) hx hb dX10_next_325 (by decide) (fun c60 => ?_) (fun c60 => False.elim (bad_ne (ne_i (a := u28.toInt) (b := 0) rfl rfl c60) k57 ⟨Int.le_refl _, Int.le_refl _⟩ (by decide)))
                  have dc60 : u28.toInt = 0 := eq_i (a := u28.toInt) (b := 0) rfl rfl c60
                  refine lv_iconst (v := 2) hx hb dX10_next_332 (by decide) ?_
                  refine put_f (D := D) (ci := 10) (v := .int 2) (ty := .int) (C := RX10) (T := TX10) (N := 67) hx hb hw inAX10 tyX10 tyX10_ok nmX10 hown hK hP hD hS 0 rfl rfl 11 (by decide) (hw _ q_1272) (fun _ h9 => h9) rfl (by decide +kernel) rfl rfl dX10_next_333 (fun H locs F61 eF61 hP hD hS => ?_)
                  have hP : va_P D vwCl [(h0, .inr (10, vL 67 F61)), (h_tape, .inl (cB, 940, .inl f_tape))] H := hP
                  have hD : va_D A [(h0, .inr (10, vL 67 F61)), (h_tape, .inl (cB, 940, .inl f_tape))] := hD
                  exact ret_v hx hb hr hlocks hS hP hD dX10_next_336 (Nat.le_of_ble_eq_true rfl) (Nat.le_of_ble_eq_true rfl) ⟨F61, u36, 2, u2, u37, u38, u39, (SAME.up eF61 (SAME.tr (SAME.up eF33 (SAME.up eF32 (SAME.up eF9 (SAME.up eF8 (SAME.tr SAME.rf i4 (by decide)) (by decide)) (by decide)) (by decide)) (by decide)) i42 (by decide)) (by decide)), (get_ne eF61 (by decide) i43), i47, (get_eq eF61), (show 0 ≤ (2 : Int32).toInt ∧ (2 : Int32).toInt ≤ 4 by decide), (get_ne eF61 (by decide) (SAME.at i42 (by decide) (get_ne eF33 (by decide) (get_ne eF32 (by decide) (get_ne eF9 (by decide) (get_eq eF8)))))), i6, (get_ne eF61 (by decide) i44), (ir_wk k59 (by decide) (by decide)), (get_ne eF61 (by decide) i45), (get_ne eF61 (by decide) i46), (by have zl0 : (0 : Int32).toInt = 0 := (by decide); have zl4 : (4 : Int32).toInt = 4 := (by decide); omega), (by have zl0 : (0 : Int32).toInt = 0 := (by decide); have zl4 : (4 : Int32).toInt = 4 := (by decide); omega), (by have zl2 : (2 : Int32).toInt = 2 := (by decide); omega), rfl⟩
                · have dc58 : 3 < u37.toInt := nle_i (a := u37.toInt) (b := 3) rfl rfl c58
                  have k62 : 4 ≤ u37.toInt ∧ u37.toInt ≤ 940 := ⟨lo_lt dc58 (Int.le_refl _) (by decide), i48.2⟩
                  refine lv_iconst (v := 4) hx hb dX10_next_320 (by decide) ?_
                  refine lv_goto (tgt := 333) hx hb dX10_next_321 (by decide) ?_
                  refine put_f (D := D) (ci := 10) (v := .int 4) (ty := .int) (C := RX10) (T := TX10) (N := 67) hx hb hw inAX10 tyX10 tyX10_ok nmX10 hown hK hP hD hS 0 rfl rfl 11 (by decide) (hw _ q_1272) (fun _ h9 => h9) rfl (by decide +kernel) rfl rfl dX10_next_333 (fun H locs F63 eF63 hP hD hS => ?_)
                  have hP : va_P D vwCl [(h0, .inr (10, vL 67 F63)), (h_tape, .inl (cB, 940, .inl f_tape))] H := hP
                  have hD : va_D A [(h0, .inr (10, vL 67 F63)), (h_tape, .inl (cB, 940, .inl f_tape))] := hD
                  exact ret_v hx hb hr hlocks hS hP hD dX10_next_336 (Nat.le_of_ble_eq_true rfl) (Nat.le_of_ble_eq_true rfl) ⟨F63, u36, 4, u2, u37, u38, u39, (SAME.up eF63 (SAME.tr (SAME.up eF33 (SAME.up eF32 (SAME.up eF9 (SAME.up eF8 (SAME.tr SAME.rf i4 (by decide)) (by decide)) (by decide)) (by decide)) (by decide)) i42 (by decide)) (by decide)), (get_ne eF63 (by decide) i43), i47, (get_eq eF63), (show 0 ≤ (4 : Int32).toInt ∧ (4 : Int32).toInt ≤ 4 by decide), (get_ne eF63 (by decide) (SAME.at i42 (by decide) (get_ne eF33 (by decide) (get_ne eF32 (by decide) (get_ne eF9 (by decide) (get_eq eF8)))))), i6, (get_ne eF63 (by decide) i44), (ir_wk k62 (by decide) (by decide)), (get_ne eF63 (by decide) i45), (get_ne eF63 (by decide) i46), (by have zl0 : (0 : Int32).toInt = 0 := (by decide); have zl4 : (4 : Int32).toInt = 4 := (by decide); omega), (by have zl0 : (0 : Int32).toInt = 0 := (by decide); have zl4 : (4 : Int32).toInt = 4 := (by decide); omega), (by have zl4 : (4 : Int32).toInt = 4 := (by decide); omega), rfl⟩
              · have dc56 : u28.toInt ≠ 0 := ne_i (a := u28.toInt) (b := 0) rfl rfl c56
                have k64 : 1 ≤ u28.toInt ∧ u28.toInt ≤ 1 := ⟨ne_lo dc56 i30.1 ⟨Int.le_refl _, Int.le_refl _⟩ (by decide), i30.2⟩
                refine lv_bipush (v := 7) hx hb dX10_next_311 (by decide) ?_
                refine lv_goto (tgt := 317) hx hb dX10_next_313 (by decide) ?_
                refine lv_icmp_le (tgt := 324) hx hb dX10_next_317 (by decide) (fun c65 => ?_) (fun c65 => ?_)
                · have dc65 : u37.toInt ≤ 7 := le_i (a := u37.toInt) (b := 7) rfl rfl c65
                  have k66 : 0 ≤ u37.toInt ∧ u37.toInt ≤ 7 := ⟨i48.1, Int.le_trans dc65 (Int.le_refl _)⟩
                  refine lv_iload_n hx hb dX10_next_324 rfl (lv_at hl 1 rfl) ?_
                  refine lv_if_eq (tgt := 332) hx hb dX10_next_325 (by decide) (fun c67 => False.elim (bad_le (Int.le_of_eq (eq_i (a := u28.toInt) (b := 0) rfl rfl c67)) k64.1 (Int.le_refl _) (by decide))) (fun c67 => ?_)
                  have dc67 : u28.toInt ≠ 0 := ne_i (a := u28.toInt) (b := 0) rfl rfl c67
                  refine lv_iconst (v := 1) hx hb dX10_next_328 (by decide) ?_
                  refine lv_goto (tgt := 333) hx hb dX10_next_329 (by decide) ?_
                  refine put_f (D := D) (ci := 10) (v := .int 1) (ty := .int) (C := RX10) (T := TX10) (N := 67) hx hb hw inAX10 tyX10 tyX10_ok nmX10 hown hK hP hD hS 0 rfl rfl 11 (by decide) (hw _ q_1272) (fun _ h9 => h9) rfl (by decide +kernel) rfl rfl dX10_next_333 (fun H locs F68 eF68 hP hD hS => ?_)
                  have hP : va_P D vwCl [(h0, .inr (10, vL 67 F68)), (h_tape, .inl (cB, 940, .inl f_tape))] H := hP
                  have hD : va_D A [(h0, .inr (10, vL 67 F68)), (h_tape, .inl (cB, 940, .inl f_tape))] := hD
                  exact ret_v hx hb hr hlocks hS hP hD dX10_next_336 (Nat.le_of_ble_eq_true rfl) (Nat.le_of_ble_eq_true rfl) ⟨F68, u36, 1, u2, u37, u38, u39, (SAME.up eF68 (SAME.tr (SAME.up eF33 (SAME.up eF32 (SAME.up eF9 (SAME.up eF8 (SAME.tr SAME.rf i4 (by decide)) (by decide)) (by decide)) (by decide)) (by decide)) i42 (by decide)) (by decide)), (get_ne eF68 (by decide) i43), i47, (get_eq eF68), (show 0 ≤ (1 : Int32).toInt ∧ (1 : Int32).toInt ≤ 4 by decide), (get_ne eF68 (by decide) (SAME.at i42 (by decide) (get_ne eF33 (by decide) (get_ne eF32 (by decide) (get_ne eF9 (by decide) (get_eq eF8)))))), i6, (get_ne eF68 (by decide) i44), (ir_wk k66 (by decide) (by decide)), (get_ne eF68 (by decide) i45), (get_ne eF68 (by decide) i46), (by have zl0 : (0 : Int32).toInt = 0 := (by decide); have zl4 : (4 : Int32).toInt = 4 := (by decide); omega), (by have zl0 : (0 : Int32).toInt = 0 := (by decide); have zl4 : (4 : Int32).toInt = 4 := (by decide); omega), (by have zl1 : (1 : Int32).toInt = 1 := (by decide); omega), rfl⟩
                · have dc65 : 7 < u37.toInt := nle_i (a := u37.toInt) (b := 7) rfl rfl c65
                  have k69 : 8 ≤ u37.toInt ∧ u37.toInt ≤ 940 := ⟨lo_lt dc65 (Int.le_refl _) (by decide), i48.2⟩
                  refine lv_iconst (v := 4) hx hb dX10_next_320 (by decide) ?_
                  refine lv_goto (tgt := 333) hx hb dX10_next_321 (by decide) ?_
                  refine put_f (D := D) (ci := 10) (v := .int 4) (ty := .int) (C := RX10) (T := TX10) (N := 67) hx hb hw inAX10 tyX10 tyX10_ok nmX10 hown hK hP hD hS 0 rfl rfl 11 (by decide) (hw _ q_1272) (fun _ h9 => h9) rfl (by decide +kernel) rfl rfl dX10_next_333 (fun H locs F70 eF70 hP hD hS => ?_)
                  have hP : va_P D vwCl [(h0, .inr (10, vL 67 F70)), (h_tape, .inl (cB, 940, .inl f_tape))] H := hP
                  have hD : va_D A [(h0, .inr (10, vL 67 F70)), (h_tape, .inl (cB, 940, .inl f_tape))] := hD
                  exact ret_v hx hb hr hlocks hS hP hD dX10_next_336 (Nat.le_of_ble_eq_true rfl) (Nat.le_of_ble_eq_true rfl) ⟨F70, u36, 4, u2, u37, u38, u39, (SAME.up eF70 (SAME.tr (SAME.up eF33 (SAME.up eF32 (SAME.up eF9 (SAME.up eF8 (SAME.tr SAME.rf i4 (by decide)) (by decide)) (by decide)) (by decide)) (by decide)) i42 (by decide)) (by decide)), (get_ne eF70 (by decide) i43), i47, (get_eq eF70), (show 0 ≤ (4 : Int32).toInt ∧ (4 : Int32).toInt ≤ 4 by decide), (get_ne eF70 (by decide) (SAME.at i42 (by decide) (get_ne eF33 (by decide) (get_ne eF32 (by decide) (get_ne eF9 (by decide) (get_eq eF8)))))), i6, (get_ne eF70 (by decide) i44), (ir_wk k69 (by decide) (by decide)), (get_ne eF70 (by decide) i45), (get_ne eF70 (by decide) i46), (by have zl0 : (0 : Int32).toInt = 0 := (by decide); have zl4 : (4 : Int32).toInt = 4 := (by decide); omega), (by have zl0 : (0 : Int32).toInt = 0 := (by decide); have zl4 : (4 : Int32).toInt = 4 := (by decide); omega), (by have zl4 : (4 : Int32).toInt = 4 := (by decide); omega), rfl⟩
          have n71 : F32 4 = .int u2 := (get_ne eF32 (by decide) n21)
          have n72 : F33 4 = .int u2 := (get_ne eF33 (by decide) n71)
          have n73 : F32 13 = .int 0 := (get_ne eF32 (by decide) (get_eq eF9))
          have n74 : F33 13 = .int 0 := (get_ne eF33 (by decide) n73)
          have n75 : F33 18 = .long 0 := (get_ne eF33 (by decide) (get_eq eF32))
          refine mloop (α := (Int32) × (Nat → Value) × (Int32) × (Int32) × (Int32) × (Int64)) (nL := 4) (D := D) (A := A) (H0 := s.heap) (fun a => (x_size.toInt - a.2.2.1.toInt).toNat) (fun a => IR 0 1 a.1 ∧ SAME [4, 13, 14, 18] F33 a.2.1 ∧ a.2.1 4 = .int a.2.2.1 ∧ a.2.1 13 = .int a.2.2.2.1 ∧ a.2.1 14 = .int a.2.2.2.2.1 ∧ a.2.1 18 = .long a.2.2.2.2.2 ∧ IR 0 940 a.2.2.1 ∧ IR 0 940 a.2.2.2.1 ∧ (0 ≤ a.2.2.2.1.toInt ∧ a.2.2.2.1.toInt ≤ a.2.2.1.toInt ∧ x_p.toInt + a.2.2.2.1.toInt ≤ a.2.2.1.toInt ∧ (a.2.2.2.1.toInt = 0 → a.2.2.1.toInt = u2.toInt)) ∧ (a.1.toInt = 1 → u28.toInt = 0 → (0 ≤ a.2.2.2.2.1.toInt ∧ a.2.2.2.2.1.toInt ≤ 999 ∧ (a.2.2.2.1.toInt = 0 → a.2.2.2.2.1.toInt = 0) ∧ (a.2.2.2.1.toInt = 1 → a.2.2.2.2.1.toInt ≤ 9) ∧ (a.2.2.2.1.toInt = 2 → a.2.2.2.2.1.toInt ≤ 99)))) (fun a => [(h0, .inr (10, vL 67 a.2.1)), (h_tape, .inl (cB, 940, .inl f_tape))]) (fun a => [(3, .int a.1), (2, .int u28), (1, .int r22), (0, .ref h0)]) (fun H locs ls => W p l e ({ frames := 1, cells := 0, slots := 0, locals := 20 } : Room) s m [.ref h0].toArray below meth c H locs 0 0 (MQ below (va_Qv (fun (u : va_W) => ∃ (Gh : Nat → Value) (y_p : Int32) (y_token : Int32) (y_at : Int32) (y_span : Int32) (y_number : Int32) (y_word : Int64), SAME [4, 11, 12, 13, 14, 18] Fh Gh ∧ Gh 4 = .int y_p ∧ IR 0 940 y_p ∧ Gh 11 = .int y_token ∧ IR 0 4 y_token ∧ Gh 12 = .int y_at ∧ IR 0 940 y_at ∧ Gh 13 = .int y_span ∧ IR 0 940 y_span ∧ Gh 14 = .int y_number ∧ Gh 18 = .long y_word ∧ (x_p.toInt ≤ y_p.toInt) ∧ ((1 ≤ y_token.toInt → y_token.toInt ≤ 3 → x_p.toInt < y_p.toInt)) ∧ ((y_token.toInt = 2 → 0 ≤ y_number.toInt ∧ y_number.toInt ≤ 999)) ∧ u = [(h0, .inr (10, vL 67 Gh)), (h_tape, .inl (cB, 940, .inl f_tape))]) (PO D A) A) [.ref h0].toArray s 0 0 A) (F0 m 181 ls [])) ?_ (1, F33, u2, 0, 0, 0) ⟨(show 0 ≤ (1 : Int32).toInt ∧ (1 : Int32).toInt ≤ 1 by decide), SAME.rf, n72, n74, (get_eq eF33), n75, i6, (show 0 ≤ (0 : Int32).toInt ∧ (0 : Int32).toInt ≤ 940 by decide), (by show 0 ≤ 0 ∧ 0 ≤ u2.toInt ∧ x_p.toInt + 0 ≤ u2.toInt ∧ (0 = 0 → u2.toInt = u2.toInt); omega), (by show 1 = 1 → u28.toInt = 0 → (0 ≤ 0 ∧ 0 ≤ 999 ∧ (0 = 0 → 0 = 0) ∧ (0 = 1 → 0 ≤ 9) ∧ (0 = 2 → 0 ≤ 99)); omega)⟩ _ _ _ hP hD hS hl
          rintro ⟨u34, G35, u36, u37, u38, u39⟩ ⟨i76, i77, i78, i79, i80, i81, i82, i83, i84, i85⟩ ih H locs ls hP hD hS hl
          have i76 : 0 ≤ u34.toInt ∧ u34.toInt ≤ 1 := i76
          have i82 : 0 ≤ u36.toInt ∧ u36.toInt ≤ 940 := i82
          have i83 : 0 ≤ u37.toInt ∧ u37.toInt ≤ 940 := i83
          have i84 : 0 ≤ u37.toInt ∧ u37.toInt ≤ u36.toInt ∧ x_p.toInt + u37.toInt ≤ u36.toInt ∧ (u37.toInt = 0 → u36.toInt = u2.toInt) := i84
          have i85 : u34.toInt = 1 → u28.toInt = 0 → (0 ≤ u38.toInt ∧ u38.toInt ≤ 999 ∧ (u37.toInt = 0 → u38.toInt = 0) ∧ (u37.toInt = 1 → u38.toInt ≤ 9) ∧ (u37.toInt = 2 → u38.toInt ≤ 99)) := i85
          have hP : va_P D vwCl [(h0, .inr (10, vL 67 G35)), (h_tape, .inl (cB, 940, .inl f_tape))] H := hP
          have hD : va_D A [(h0, .inr (10, vL 67 G35)), (h_tape, .inl (cB, 940, .inl f_tape))] := hD
          have hl : lv_has ls 4 [(3, .int u34), (2, .int u28), (1, .int r22), (0, .ref h0)] := hl
          refine lv_aload_n hx hb dX10_next_181 rfl (lv_at hl 3 rfl) ?_
          have n86 : F32 1 = .ref h_tape := (get_ne eF32 (by decide) n19)
          have n87 : F33 1 = .ref h_tape := (get_ne eF33 (by decide) n86)
          have n88 : G35 1 = .ref h_tape := (SAME.at i77 (by decide) n87)
          have n89 : F32 3 = .int x_size := (get_ne eF32 (by decide) n12)
          have n90 : F33 3 = .int x_size := (get_ne eF33 (by decide) n89)
          have n91 : G35 3 = .int x_size := (SAME.at i77 (by decide) n90)
          refine call_Vi (wr := []) (As := []) (rest := []) hx hb hml hown hw (m_X10_peek l D cI cJ cB cP cM cZ h0 h_tape G35 x_size u36 f_tape _ n88 n91 i_x_size i78 i82) wV_X10_169_X10_peek dX10_next_182 hK hP hD hS hA [0, 1] [] rfl rfl (by decide) (by decide) (by decide) 0 10 rfl rfl GG.fb hG.at hl.1 rfl (Nat.le_of_ble_eq_true rfl) ⟨(Nat.le_of_ble_eq_true rfl), (Nat.le_of_ble_eq_true rfl)⟩ ⟨(Nat.le_of_ble_eq_true rfl), (Nat.le_of_ble_eq_true rfl)⟩ (fun r92 u H locs hp hP hD hS => ?_)
          obtain ⟨t93, t94, rfl⟩ := hp
          have hP : va_P D vwCl [(h0, .inr (10, vL 67 G35)), (h_tape, .inl (cB, 940, .inl f_tape))] H := hP
          have hD : va_D A [(h0, .inr (10, vL 67 G35)), (h_tape, .inl (cB, 940, .inl f_tape))] := hD
          refine W.widen (k := 0) (n := 0) (Nat.le_of_ble_eq_true rfl) (Nat.le_of_ble_eq_true rfl) ?_
          refine call_Si (wr := [(h0, .inr (10, vL 67 G35)), (h_tape, .inl (cB, 940, .inl f_tape))]) (As := [.int r92]) (rest := []) hx hb hml hown hw (m_X10_isSmall l D cI cJ cB cP cM cZ r92 _ ) wS_X10_182_X10_isSmall dX10_next_185 hP hD hS hA [] [0, 1] rfl rfl (by decide) (by decide) (by decide) GG.fb hG.at hl.1 rfl (Nat.le_of_ble_eq_true rfl) ⟨(Nat.le_of_ble_eq_true rfl), (Nat.le_of_ble_eq_true rfl)⟩ ⟨(Nat.le_of_ble_eq_true rfl), (Nat.le_of_ble_eq_true rfl)⟩ (fun r96 u H locs hp hP hD hS => ?_)
          obtain ⟨t97, t98, rfl⟩ := hp
          have hP : va_P D vwCl [(h0, .inr (10, vL 67 G35)), (h_tape, .inl (cB, 940, .inl f_tape))] H := hP
          have hD : va_D A [(h0, .inr (10, vL 67 G35)), (h_tape, .inl (cB, 940, .inl f_tape))] := hD
          refine W.widen (k := 0) (n := 0) (Nat.le_of_ble_eq_true rfl) (Nat.le_of_ble_eq_true rfl) ?_
          refine lv_if_ne (tgt := 201) hx hb dX10_next_188 (by decide) (fun c100 => ?_) (fun c100 => ?_)
          · have dc100 : r96.toInt ≠ 0 := ne_i (a := r96.toInt) (b := 0) rfl rfl c100
            have k101 : 1 ≤ r96.toInt ∧ r96.toInt ≤ 1 := ⟨ne_lo dc100 t97.1 ⟨Int.le_refl _, Int.le_refl _⟩ (by decide), t97.2⟩
            have cut103 : ∀ (u102 : Int32) (_ : IR 0 1 u102) (_ : (u36.toInt < x_size.toInt ∧ (u102.toInt = 1 → u28.toInt = 0 → (48 ≤ (f_tape u36.toNatClampNeg &&& 255).toInt ∧ (f_tape u36.toNatClampNeg &&& 255).toInt ≤ 57 ∧ 0 ≤ u38.toInt ∧ u38.toInt ≤ 999 ∧ (u37.toInt = 0 → u38.toInt = 0) ∧ (u37.toInt = 1 → u38.toInt ≤ 9) ∧ (u37.toInt = 2 → u38.toInt ≤ 99))))) (H : Heap) (locs : List Loc) (ls : Array Slot), va_P D vwCl [(h0, .inr (10, vL 67 G35)), (h_tape, .inl (cB, 940, .inl f_tape))] H → va_D A [(h0, .inr (10, vL 67 G35)), (h_tape, .inl (cB, 940, .inl f_tape))] → va_S A s.heap H locs → lv_has ls 4 [(3, .int u102), (2, .int u28), (1, .int r22), (0, .ref h0)] → W p l e ({ frames := 1, cells := 0, slots := 0, locals := 20 } : Room) s m [.ref h0].toArray below meth c H locs 0 0 (MQ below (va_Qv (fun (u : va_W) => ∃ (Gh : Nat → Value) (y_p : Int32) (y_token : Int32) (y_at : Int32) (y_span : Int32) (y_number : Int32) (y_word : Int64), SAME [4, 11, 12, 13, 14, 18] Fh Gh ∧ Gh 4 = .int y_p ∧ IR 0 940 y_p ∧ Gh 11 = .int y_token ∧ IR 0 4 y_token ∧ Gh 12 = .int y_at ∧ IR 0 940 y_at ∧ Gh 13 = .int y_span ∧ IR 0 940 y_span ∧ Gh 14 = .int y_number ∧ Gh 18 = .long y_word ∧ (x_p.toInt ≤ y_p.toInt) ∧ ((1 ≤ y_token.toInt → y_token.toInt ≤ 3 → x_p.toInt < y_p.toInt)) ∧ ((y_token.toInt = 2 → 0 ≤ y_number.toInt ∧ y_number.toInt ≤ 999)) ∧ u = [(h0, .inr (10, vL 67 Gh)), (h_tape, .inl (cB, 940, .inl f_tape))]) (PO D A) A) [.ref h0].toArray s 0 0 A) (F0 m 222 ls []) := by
              intro u102 i104 i105 H locs ls hP hD hS hl
              have i104 : 0 ≤ u102.toInt ∧ u102.toInt ≤ 1 := i104
              have i105 : u36.toInt < x_size.toInt ∧ (u102.toInt = 1 → u28.toInt = 0 → (48 ≤ (f_tape u36.toNatClampNeg &&& 255).toInt ∧ (f_tape u36.toNatClampNeg &&& 255).toInt ≤ 57 ∧ 0 ≤ u38.toInt ∧ u38.toInt ≤ 999 ∧ (u37.toInt = 0 → u38.toInt = 0) ∧ (u37.toInt = 1 → u38.toInt ≤ 9) ∧ (u37.toInt = 2 → u38.toInt ≤ 99))) := i105
              have cut108 : ∀ (G106 : Nat → Value) (u107 : Int64) (_ : SAME [18] G35 G106) (_ : G106 18 = .long u107) (H : Heap) (locs : List Loc) (ls : Array Slot), va_P D vwCl [(h0, .inr (10, vL 67 G106)), (h_tape, .inl (cB, 940, .inl f_tape))] H → va_D A [(h0, .inr (10, vL 67 G106)), (h_tape, .inl (cB, 940, .inl f_tape))] → va_S A s.heap H locs → lv_has ls 4 [(3, .int u102), (2, .int u28), (1, .int r22), (0, .ref h0)] → W p l e ({ frames := 1, cells := 0, slots := 0, locals := 20 } : Room) s m [.ref h0].toArray below meth c H locs 0 0 (MQ below (va_Qv (fun (u : va_W) => ∃ (Gh : Nat → Value) (y_p : Int32) (y_token : Int32) (y_at : Int32) (y_span : Int32) (y_number : Int32) (y_word : Int64), SAME [4, 11, 12, 13, 14, 18] Fh Gh ∧ Gh 4 = .int y_p ∧ IR 0 940 y_p ∧ Gh 11 = .int y_token ∧ IR 0 4 y_token ∧ Gh 12 = .int y_at ∧ IR 0 940 y_at ∧ Gh 13 = .int y_span ∧ IR 0 940 y_span ∧ Gh 14 = .int y_number ∧ Gh 18 = .long y_word ∧ (x_p.toInt ≤ y_p.toInt) ∧ ((1 ≤ y_token.toInt → y_token.toInt ≤ 3 → x_p.toInt < y_p.toInt)) ∧ ((y_token.toInt = 2 → 0 ≤ y_number.toInt ∧ y_number.toInt ≤ 999)) ∧ u = [(h0, .inr (10, vL 67 Gh)), (h_tape, .inl (cB, 940, .inl f_tape))]) (PO D A) A) [.ref h0].toArray s 0 0 A) (F0 m 248 ls []) := by
                intro G106 u107 i109 i110 H locs ls hP hD hS hl
                refine lv_aload_n hx hb dX10_next_248 rfl (lv_at hl 3 rfl) ?_
                have n111 : G106 13 = .int u37 := (SAME.at i109 (by decide) i79)
                refine get_f (D := D) (ci := 10) (v := .int u37) (C := RX10) (T := TX10) (N := 67) hx hb hw inAX10 hown hK hP 0 rfl rfl 13 (by decide) (hw _ q_1274) (fun _ h9 => h9) n111 dX10_next_249 ?_
                refine lv_iconst (v := 3) hx hb dX10_next_252 (by decide) ?_
                refine lv_icmp_ge (tgt := 275) hx hb dX10_next_253 (by decide) (fun c112 => ?_) (fun c112 => ?_)
                · have dc112 : 3 ≤ u37.toInt := le_i (a := 3) (b := u37.toInt) rfl rfl c112
                  have k113 : 3 ≤ u37.toInt ∧ u37.toInt ≤ 940 := ⟨Int.le_trans (Int.le_refl _) dc112, i83.2⟩
                  refine lv_aload_n hx hb dX10_next_275 rfl (lv_at hl 3 rfl) ?_
                  refine lv_dup hx hb dX10_next_276 rfl ?_
                  refine get_f (D := D) (ci := 10) (v := .int u37) (C := RX10) (T := TX10) (N := 67) hx hb hw inAX10 hown hK hP 0 rfl rfl 13 (by decide) (hw _ q_1274) (fun _ h9 => h9) n111 dX10_next_277 ?_
                  refine lv_iconst (v := 1) hx hb dX10_next_280 (by decide) ?_
                  refine lv_iadd hx hb dX10_next_281 ?_
                  refine lv_topi (fun v114 ev114 => ?_)
                  have bv114 : v114.toInt = u37.toInt + 1 := by rw [ev114]; exact add_k rfl rfl k113 ⟨Int.le_refl _, Int.le_refl _⟩ (by decide)
                  have k115 : 4 ≤ v114.toInt ∧ v114.toInt ≤ 941 := add_r bv114 k113 ⟨Int.le_refl _, Int.le_refl _⟩ (by decide)
                  refine put_f (D := D) (ci := 10) (v := .int v114) (ty := .int) (C := RX10) (T := TX10) (N := 67) hx hb hw inAX10 tyX10 tyX10_ok nmX10 hown hK hP hD hS 0 rfl rfl 13 (by decide) (hw _ q_1274) (fun _ h9 => h9) rfl (by decide +kernel) rfl rfl dX10_next_282 (fun H locs F116 eF116 hP hD hS => ?_)
                  have hP : va_P D vwCl [(h0, .inr (10, vL 67 F116)), (h_tape, .inl (cB, 940, .inl f_tape))] H := hP
                  have hD : va_D A [(h0, .inr (10, vL 67 F116)), (h_tape, .inl (cB, 940, .inl f_tape))] := hD
                  refine lv_aload_n hx hb dX10_next_285 rfl (lv_at hl 3 rfl) ?_
                  refine lv_dup hx hb dX10_next_286 rfl ?_
                  have n117 : G106 4 = .int u36 := (SAME.at i109 (by decide) i78)
                  have n118 : F116 4 = .int u36 := (get_ne eF116 (by decide) n117)
                  refine get_f (D := D) (ci := 10) (v := .int u36) (C := RX10) (T := TX10) (N := 67) hx hb hw inAX10 hown hK hP 0 rfl rfl 4 (by decide) (hw _ q_1265) (fun _ h9 => h9) n118 dX10_next_287 ?_
                  refine lv_iconst (v := 1) hx hb dX10_next_290 (by decide) ?_
                  refine lv_iadd hx hb dX10_next_291 ?_
                  refine lv_topi (fun v119 ev119 => ?_)
                  have bv119 : v119.toInt = u36.toInt + 1 := by rw [ev119]; exact add_k rfl rfl i82 ⟨Int.le_refl _, Int.le_refl _⟩ (by decide)
                  have k120 : 1 ≤ v119.toInt ∧ v119.toInt ≤ 941 := add_r bv119 i82 ⟨Int.le_refl _, Int.le_refl _⟩ (by decide)
                  refine put_f (D := D) (ci := 10) (v := .int v119) (ty := .int) (C := RX10) (T := TX10) (N := 67) hx hb hw inAX10 tyX10 tyX10_ok nmX10 hown hK hP hD hS 0 rfl rfl 4 (by decide) (hw _ q_1265) (fun _ h9 => h9) rfl (by decide +kernel) rfl rfl dX10_next_292 (fun H locs F121 eF121 hP hD hS => ?_)
                  have hP : va_P D vwCl [(h0, .inr (10, vL 67 F121)), (h_tape, .inl (cB, 940, .inl f_tape))] H := hP
                  have hD : va_D A [(h0, .inr (10, vL 67 F121)), (h_tape, .inl (cB, 940, .inl f_tape))] := hD
                  refine lv_goto (tgt := 181) hx hb dX10_next_295 (by decide) ?_
                  have n122 : F121 13 = .int v114 := (get_ne eF121 (by decide) (get_eq eF116))
                  have n123 : G106 14 = .int u38 := (SAME.at i109 (by decide) i80)
                  have n124 : F116 14 = .int u38 := (get_ne eF116 (by decide) n123)
                  have n125 : F121 14 = .int u38 := (get_ne eF121 (by decide) n124)
                  have n126 : F116 18 = .long u107 := (get_ne eF116 (by decide) i110)
                  have n127 : F121 18 = .long u107 := (get_ne eF121 (by decide) n126)
                  exact ih (u102, F121, v119, v114, u38, u107) ⟨i104, (SAME.up eF121 (SAME.up eF116 (SAME.tr (SAME.tr SAME.rf i77 (by decide)) i109 (by decide)) (by decide)) (by decide)), (get_eq eF121), n122, n125, n127, (show 0 ≤ v119.toInt ∧ v119.toInt ≤ 940 from ⟨by omega, by omega⟩), (show 0 ≤ v114.toInt ∧ v114.toInt ≤ 940 from ⟨by omega, by omega⟩), (by show 0 ≤ v114.toInt ∧ v114.toInt ≤ v119.toInt ∧ x_p.toInt + v114.toInt ≤ v119.toInt ∧ (v114.toInt = 0 → v119.toInt = u2.toInt); omega), (by show u102.toInt = 1 → u28.toInt = 0 → (0 ≤ u38.toInt ∧ u38.toInt ≤ 999 ∧ (v114.toInt = 0 → u38.toInt = 0) ∧ (v114.toInt = 1 → u38.toInt ≤ 9) ∧ (v114.toInt = 2 → u38.toInt ≤ 99)); omega)⟩ (by show (x_size.toInt - v119.toInt).toNat < (x_size.toInt - u36.toInt).toNat; omega) _ _ _ hP hD hS (lv_sub hl [0, 1, 2, 3] rfl)
                · have dc112 : u37.toInt < 3 := nle_i (a := 3) (b := u37.toInt) rfl rfl c112
                  have k128 : 0 ≤ u37.toInt ∧ u37.toInt ≤ 2 := ⟨i83.1, up_lt dc112 (Int.le_refl _) (by decide)⟩
                  refine lv_aload_n hx hb dX10_next_256 rfl (lv_at hl 3 rfl) ?_
                  refine lv_bipush (v := 10) hx hb dX10_next_257 (by decide) ?_
                  refine lv_aload_n hx hb dX10_next_259 rfl (lv_at hl 3 rfl) ?_
                  have n129 : G106 14 = .int u38 := (SAME.at i109 (by decide) i80)
                  refine get_f (D := D) (ci := 10) (v := .int u38) (C := RX10) (T := TX10) (N := 67) hx hb hw inAX10 hown hK hP 0 rfl rfl 14 (by decide) (hw _ q_1275) (fun _ h9 => h9) n129 dX10_next_260 ?_
                  refine lv_imul hx hb dX10_next_263 ?_
                  refine lv_topi (fun v130 ev130 => ?_)
                  have bv130 : -1000000 ≤ u38.toInt → u38.toInt ≤ 1000000 → v130.toInt = 10 * u38.toInt := fun h1 h2 => by rw [ev130]; exact mul_i (a := 10) (b := u38.toInt) rfl rfl (by omega) (by omega)
                  refine lv_aload_n hx hb dX10_next_264 rfl (lv_at hl 3 rfl) ?_
                  have n131 : G106 1 = .ref h_tape := (SAME.at i109 (by decide) n88)
                  have n132 : G106 3 = .int x_size := (SAME.at i109 (by decide) n91)
                  have n133 : G106 4 = .int u36 := (SAME.at i109 (by decide) i78)
                  refine call_Vi (wr := []) (As := []) (rest := [.int v130, .ref h0]) hx hb hml hown hw (m_X10_peek l D cI cJ cB cP cM cZ h0 h_tape G106 x_size u36 f_tape _ n131 n132 i_x_size n133 i82) wV_X10_169_X10_peek dX10_next_265 hK hP hD hS hA [0, 1] [] rfl rfl (by decide) (by decide) (by decide) 0 10 rfl rfl GG.fb hG.at hl.1 rfl (Nat.le_of_ble_eq_true rfl) ⟨(Nat.le_of_ble_eq_true rfl), (Nat.le_of_ble_eq_true rfl)⟩ ⟨(Nat.le_of_ble_eq_true rfl), (Nat.le_of_ble_eq_true rfl)⟩ (fun r134 u H locs hp hP hD hS => ?_)
                  obtain ⟨t135, t136, rfl⟩ := hp
                  have hP : va_P D vwCl [(h0, .inr (10, vL 67 G106)), (h_tape, .inl (cB, 940, .inl f_tape))] H := hP
                  have hD : va_D A [(h0, .inr (10, vL 67 G106)), (h_tape, .inl (cB, 940, .inl f_tape))] := hD
                  refine W.widen (k := 0) (n := 0) (Nat.le_of_ble_eq_true rfl) (Nat.le_of_ble_eq_true rfl) ?_
                  refine lv_iadd hx hb dX10_next_268 ?_
                  refine lv_topi (fun v138 ev138 => ?_)
                  have bv138 : -1000000 ≤ v130.toInt → v130.toInt ≤ 1000000 → v138.toInt = v130.toInt + r134.toInt := fun h1 h2 => by rw [ev138]; exact add_i (a := v130.toInt) (b := r134.toInt) rfl rfl (by omega) (by omega)
                  refine lv_bipush (v := 48) hx hb dX10_next_269 (by decide) ?_
                  refine lv_isub hx hb dX10_next_271 ?_
                  refine lv_topi (fun v139 ev139 => ?_)
                  have bv139 : -1000000 ≤ v138.toInt → v138.toInt ≤ 1000000 → v139.toInt = v138.toInt - 48 := fun h1 h2 => by rw [ev139]; exact sub_i (a := v138.toInt) (b := 48) rfl rfl (by omega) (by omega)
                  refine put_f (D := D) (ci := 10) (v := .int v139) (ty := .int) (C := RX10) (T := TX10) (N := 67) hx hb hw inAX10 tyX10 tyX10_ok nmX10 hown hK hP hD hS 0 rfl rfl 14 (by decide) (hw _ q_1275) (fun _ h9 => h9) rfl (by decide +kernel) rfl rfl dX10_next_272 (fun H locs F140 eF140 hP hD hS => ?_)
                  have hP : va_P D vwCl [(h0, .inr (10, vL 67 F140)), (h_tape, .inl (cB, 940, .inl f_tape))] H := hP
                  have hD : va_D A [(h0, .inr (10, vL 67 F140)), (h_tape, .inl (cB, 940, .inl f_tape))] := hD
                  refine lv_aload_n hx hb dX10_next_275 rfl (lv_at hl 3 rfl) ?_
                  refine lv_dup hx hb dX10_next_276 rfl ?_
                  have n141 : F140 13 = .int u37 := (get_ne eF140 (by decide) n111)
                  refine get_f (D := D) (ci := 10) (v := .int u37) (C := RX10) (T := TX10) (N := 67) hx hb hw inAX10 hown hK hP 0 rfl rfl 13 (by decide) (hw _ q_1274) (fun _ h9 => h9) n141 dX10_next_277 ?_
                  refine lv_iconst (v := 1) hx hb dX10_next_280 (by decide) ?_
                  refine lv_iadd hx hb dX10_next_281 ?_
                  refine lv_topi (fun v142 ev142 => ?_)
                  have bv142 : v142.toInt = u37.toInt + 1 := by rw [ev142]; exact add_k rfl rfl k128 ⟨Int.le_refl _, Int.le_refl _⟩ (by decide)
                  have k143 : 1 ≤ v142.toInt ∧ v142.toInt ≤ 3 := add_r bv142 k128 ⟨Int.le_refl _, Int.le_refl _⟩ (by decide)
                  refine put_f (D := D) (ci := 10) (v := .int v142) (ty := .int) (C := RX10) (T := TX10) (N := 67) hx hb hw inAX10 tyX10 tyX10_ok nmX10 hown hK hP hD hS 0 rfl rfl 13 (by decide) (hw _ q_1274) (fun _ h9 => h9) rfl (by decide +kernel) rfl rfl dX10_next_282 (fun H locs F144 eF144 hP hD hS => ?_)
                  have hP : va_P D vwCl [(h0, .inr (10, vL 67 F144)), (h_tape, .inl (cB, 940, .inl f_tape))] H := hP
                  have hD : va_D A [(h0, .inr (10, vL 67 F144)), (h_tape, .inl (cB, 940, .inl f_tape))] := hD
                  refine lv_aload_n hx hb dX10_next_285 rfl (lv_at hl 3 rfl) ?_
                  refine lv_dup hx hb dX10_next_286 rfl ?_
                  have n145 : F140 4 = .int u36 := (get_ne eF140 (by decide) n133)
                  have n146 : F144 4 = .int u36 := (get_ne eF144 (by decide) n145)
                  refine get_f (D := D) (ci := 10) (v := .int u36) (C := RX10) (T := TX10) (N := 67) hx hb hw inAX10 hown hK hP 0 rfl rfl 4 (by decide) (hw _ q_1265) (fun _ h9 => h9) n146 dX10_next_287 ?_
                  refine lv_iconst (v := 1) hx hb dX10_next_290 (by decide) ?_
                  refine lv_iadd hx hb dX10_next_291 ?_
                  refine lv_topi (fun v147 ev147 => ?_)
                  have bv147 : v147.toInt = u36.toInt + 1 := by rw [ev147]; exact add_k rfl rfl i82 ⟨Int.le_refl _, Int.le_refl _⟩ (by decide)
                  have k148 : 1 ≤ v147.toInt ∧ v147.toInt ≤ 941 := add_r bv147 i82 ⟨Int.le_refl _, Int.le_refl _⟩ (by decide)
                  refine put_f (D := D) (ci := 10) (v := .int v147) (ty := .int) (C := RX10) (T := TX10) (N := 67) hx hb hw inAX10 tyX10 tyX10_ok nmX10 hown hK hP hD hS 0 rfl rfl 4 (by decide) (hw _ q_1265) (fun _ h9 => h9) rfl (by decide +kernel) rfl rfl dX10_next_292 (fun H locs F149 eF149 hP hD hS => ?_)
                  have hP : va_P D vwCl [(h0, .inr (10, vL 67 F149)), (h_tape, .inl (cB, 940, .inl f_tape))] H := hP
                  have hD : va_D A [(h0, .inr (10, vL 67 F149)), (h_tape, .inl (cB, 940, .inl f_tape))] := hD
                  refine lv_goto (tgt := 181) hx hb dX10_next_295 (by decide) ?_
                  have n150 : F149 13 = .int v142 := (get_ne eF149 (by decide) (get_eq eF144))
                  have n151 : F144 14 = .int v139 := (get_ne eF144 (by decide) (get_eq eF140))
                  have n152 : F149 14 = .int v139 := (get_ne eF149 (by decide) n151)
                  have n153 : F140 18 = .long u107 := (get_ne eF140 (by decide) i110)
                  have n154 : F144 18 = .long u107 := (get_ne eF144 (by decide) n153)
                  have n155 : F149 18 = .long u107 := (get_ne eF149 (by decide) n154)
                  exact ih (u102, F149, v147, v142, v139, u107) ⟨i104, (SAME.up eF149 (SAME.up eF144 (SAME.up eF140 (SAME.tr (SAME.tr SAME.rf i77 (by decide)) i109 (by decide)) (by decide)) (by decide)) (by decide)), (get_eq eF149), n150, n152, n155, (show 0 ≤ v147.toInt ∧ v147.toInt ≤ 940 from ⟨by omega, by omega⟩), (ir_wk k143 (by decide) (by decide)), (by show 0 ≤ v142.toInt ∧ v142.toInt ≤ v147.toInt ∧ x_p.toInt + v142.toInt ≤ v147.toInt ∧ (v142.toInt = 0 → v147.toInt = u2.toInt); omega), (by show u102.toInt = 1 → u28.toInt = 0 → (0 ≤ v139.toInt ∧ v139.toInt ≤ 999 ∧ (v142.toInt = 0 → v139.toInt = 0) ∧ (v142.toInt = 1 → v139.toInt ≤ 9) ∧ (v142.toInt = 2 → v139.toInt ≤ 99)); omega)⟩ (by show (x_size.toInt - v147.toInt).toNat < (x_size.toInt - u36.toInt).toNat; omega) _ _ _ hP hD hS (lv_sub hl [0, 1, 2, 3] rfl)
              refine lv_aload_n hx hb dX10_next_222 rfl (lv_at hl 3 rfl) ?_
              refine get_f (D := D) (ci := 10) (v := .int u37) (C := RX10) (T := TX10) (N := 67) hx hb hw inAX10 hown hK hP 0 rfl rfl 13 (by decide) (hw _ q_1274) (fun _ h9 => h9) i79 dX10_next_223 ?_
              refine lv_bipush (v := 7) hx hb dX10_next_226 (by decide) ?_
              refine lv_icmp_ge (tgt := 248) hx hb dX10_next_228 (by decide) (fun c156 => ?_) (fun c156 => ?_)
              · have dc156 : 7 ≤ u37.toInt := le_i (a := 7) (b := u37.toInt) rfl rfl c156
                have k157 : 7 ≤ u37.toInt ∧ u37.toInt ≤ 940 := ⟨Int.le_trans (Int.le_refl _) dc156, i83.2⟩
                exact cut108 G35 u39 SAME.rf i81 _ _ _ hP hD hS (lv_sub hl [0, 1, 2, 3] rfl)
              · have dc156 : u37.toInt < 7 := nle_i (a := 7) (b := u37.toInt) rfl rfl c156
                have k158 : 0 ≤ u37.toInt ∧ u37.toInt ≤ 6 := ⟨i83.1, up_lt dc156 (Int.le_refl _) (by decide)⟩
                refine lv_aload_n hx hb dX10_next_231 rfl (lv_at hl 3 rfl) ?_
                refine lv_aload_n hx hb dX10_next_232 rfl (lv_at hl 3 rfl) ?_
                refine get_f (D := D) (ci := 10) (v := .long u39) (C := RX10) (T := TX10) (N := 67) hx hb hw inAX10 hown hK hP 0 rfl rfl 18 (by decide) (hw _ q_1279) (fun _ h9 => h9) i81 dX10_next_233 ?_
                refine lv_bipush (v := 8) hx hb dX10_next_236 (by decide) ?_
                obtain ⟨v159, ev159⟩ : ∃ z : Int64, (u39 : Int64) <<< ((8 : Int32).toInt64 &&& 63) = z := ⟨_, rfl⟩
                refine lv_lshl (v := v159) hx hb dX10_next_238 ev159 ?_
                refine lv_aload_n hx hb dX10_next_239 rfl (lv_at hl 3 rfl) ?_
                refine call_Vi (wr := []) (As := []) (rest := [.long v159, .ref h0]) hx hb hml hown hw (m_X10_peek l D cI cJ cB cP cM cZ h0 h_tape G35 x_size u36 f_tape _ n88 n91 i_x_size i78 i82) wV_X10_169_X10_peek dX10_next_240 hK hP hD hS hA [0, 1] [] rfl rfl (by decide) (by decide) (by decide) 0 10 rfl rfl GG.fb hG.at hl.1 rfl (Nat.le_of_ble_eq_true rfl) ⟨(Nat.le_of_ble_eq_true rfl), (Nat.le_of_ble_eq_true rfl)⟩ ⟨(Nat.le_of_ble_eq_true rfl), (Nat.le_of_ble_eq_true rfl)⟩ (fun r160 u H locs hp hP hD hS => ?_)
                obtain ⟨t161, t162, rfl⟩ := hp
                have hP : va_P D vwCl [(h0, .inr (10, vL 67 G35)), (h_tape, .inl (cB, 940, .inl f_tape))] H := hP
                have hD : va_D A [(h0, .inr (10, vL 67 G35)), (h_tape, .inl (cB, 940, .inl f_tape))] := hD
                refine W.widen (k := 0) (n := 0) (Nat.le_of_ble_eq_true rfl) (Nat.le_of_ble_eq_true rfl) ?_
                obtain ⟨v164, ev164⟩ : ∃ z : Int64, (r160 : Int32).toInt64 = z := ⟨_, rfl⟩
                refine lv_i2l (v := v164) hx hb dX10_next_243 ev164 ?_
                refine lv_lor hx hb dX10_next_244 ?_
                refine lv_topl (fun v165 ev165 => ?_)
                refine put_f (D := D) (ci := 10) (v := .long v165) (ty := .long) (C := RX10) (T := TX10) (N := 67) hx hb hw inAX10 tyX10 tyX10_ok nmX10 hown hK hP hD hS 0 rfl rfl 18 (by decide) (hw _ q_1279) (fun _ h9 => h9) rfl (by decide +kernel) rfl rfl dX10_next_245 (fun H locs F166 eF166 hP hD hS => ?_)
                have hP : va_P D vwCl [(h0, .inr (10, vL 67 F166)), (h_tape, .inl (cB, 940, .inl f_tape))] H := hP
                have hD : va_D A [(h0, .inr (10, vL 67 F166)), (h_tape, .inl (cB, 940, .inl f_tape))] := hD
                exact cut108 F166 v165 (SAME.up eF166 SAME.rf (by decide)) (get_eq eF166) _ _ _ hP hD hS (lv_sub hl [0, 1, 2, 3] rfl)
            refine lv_iload_n hx hb dX10_next_201 rfl (lv_at hl 0 rfl) ?_
            refine lv_if_eq (tgt := 220) hx hb dX10_next_202 (by decide) (fun c167 => ?_) (fun c167 => ?_)
            · have dc167 : u34.toInt = 0 := eq_i (a := u34.toInt) (b := 0) rfl rfl c167
              have k168 : 0 ≤ u34.toInt ∧ u34.toInt ≤ 0 := ⟨i76.1, Int.le_trans (Int.le_of_eq dc167) (Int.le_refl _)⟩
              refine lv_iconst (v := 0) hx hb dX10_next_220 (by decide) ?_
              refine lv_istore_n (lv' := [(3, .int 0), (2, .int u28), (1, .int r22), (0, .ref h0)]) hx hb dX10_next_221 rfl hl (by decide) rfl (fun ls hl => ?_)
              exact cut103 0 (show 0 ≤ (0 : Int32).toInt ∧ (0 : Int32).toInt ≤ 1 by decide) (by show u36.toInt < x_size.toInt ∧ (0 = 1 → u28.toInt = 0 → (48 ≤ (f_tape u36.toNatClampNeg &&& 255).toInt ∧ (f_tape u36.toNatClampNeg &&& 255).toInt ≤ 57 ∧ 0 ≤ u38.toInt ∧ u38.toInt ≤ 999 ∧ (u37.toInt = 0 → u38.toInt = 0) ∧ (u37.toInt = 1 → u38.toInt ≤ 9) ∧ (u37.toInt = 2 → u38.toInt ≤ 99))); omega) _ _ _ hP hD hS (lv_sub hl [0, 1, 2, 3] rfl)
            · have dc167 : u34.toInt ≠ 0 := ne_i (a := u34.toInt) (b := 0) rfl rfl c167
              have k169 : 1 ≤ u34.toInt ∧ u34.toInt ≤ 1 := ⟨ne_lo dc167 i76.1 ⟨Int.le_refl _, Int.le_refl _⟩ (by decide), i76.2⟩
              refine lv_aload_n hx hb dX10_next_205 rfl (lv_at hl 3 rfl) ?_
              refine call_Vi (wr := []) (As := []) (rest := []) hx hb hml hown hw (m_X10_peek l D cI cJ cB cP cM cZ h0 h_tape G35 x_size u36 f_tape _ n88 n91 i_x_size i78 i82) wV_X10_169_X10_peek dX10_next_206 hK hP hD hS hA [0, 1] [] rfl rfl (by decide) (by decide) (by decide) 0 10 rfl rfl GG.fb hG.at hl.1 rfl (Nat.le_of_ble_eq_true rfl) ⟨(Nat.le_of_ble_eq_true rfl), (Nat.le_of_ble_eq_true rfl)⟩ ⟨(Nat.le_of_ble_eq_true rfl), (Nat.le_of_ble_eq_true rfl)⟩ (fun r170 u H locs hp hP hD hS => ?_)
              obtain ⟨t171, t172, rfl⟩ := hp
              have hP : va_P D vwCl [(h0, .inr (10, vL 67 G35)), (h_tape, .inl (cB, 940, .inl f_tape))] H := hP
              have hD : va_D A [(h0, .inr (10, vL 67 G35)), (h_tape, .inl (cB, 940, .inl f_tape))] := hD
              refine W.widen (k := 0) (n := 0) (Nat.le_of_ble_eq_true rfl) (Nat.le_of_ble_eq_true rfl) ?_
              refine call_Si (wr := [(h0, .inr (10, vL 67 G35)), (h_tape, .inl (cB, 940, .inl f_tape))]) (As := [.int r170]) (rest := []) hx hb hml hown hw (m_X10_isSmall l D cI cJ cB cP cM cZ r170 _ ) wS_X10_182_X10_isSmall dX10_next_209 hP hD hS hA [] [0, 1] rfl rfl (by decide) (by decide) (by decide) GG.fb hG.at hl.1 rfl (Nat.le_of_ble_eq_true rfl) ⟨(Nat.le_of_ble_eq_true rfl), (Nat.le_of_ble_eq_true rfl)⟩ ⟨(Nat.le_of_ble_eq_true rfl), (Nat.le_of_ble_eq_true rfl)⟩ (fun r174 u H locs hp hP hD hS => ?_)
              obtain ⟨t175, t176, rfl⟩ := hp
              have hP : va_P D vwCl [(h0, .inr (10, vL 67 G35)), (h_tape, .inl (cB, 940, .inl f_tape))] H := hP
              have hD : va_D A [(h0, .inr (10, vL 67 G35)), (h_tape, .inl (cB, 940, .inl f_tape))] := hD
              refine W.widen (k := 0) (n := 0) (Nat.le_of_ble_eq_true rfl) (Nat.le_of_ble_eq_true rfl) ?_
              refine lv_iload_n hx hb dX10_next_212 rfl (lv_at hl 1 rfl) ?_
              refine lv_icmp_ne (tgt := 220) hx hb dX10_next_213 (by decide) (fun c178 => ?_) (fun c178 => ?_)
              · have dc178 : r174.toInt ≠ u28.toInt := ne_i (a := r174.toInt) (b := u28.toInt) rfl rfl c178
                refine lv_iconst (v := 0) hx hb dX10_next_220 (by decide) ?_
                refine lv_istore_n (lv' := [(3, .int 0), (2, .int u28), (1, .int r22), (0, .ref h0)]) hx hb dX10_next_221 rfl hl (by decide) rfl (fun ls hl => ?_)
                exact cut103 0 (show 0 ≤ (0 : Int32).toInt ∧ (0 : Int32).toInt ≤ 1 by decide) (by show u36.toInt < x_size.toInt ∧ (0 = 1 → u28.toInt = 0 → (48 ≤ (f_tape u36.toNatClampNeg &&& 255).toInt ∧ (f_tape u36.toNatClampNeg &&& 255).toInt ≤ 57 ∧ 0 ≤ u38.toInt ∧ u38.toInt ≤ 999 ∧ (u37.toInt = 0 → u38.toInt = 0) ∧ (u37.toInt = 1 → u38.toInt ≤ 9) ∧ (u37.toInt = 2 → u38.toInt ≤ 99))); omega) _ _ _ hP hD hS (lv_sub hl [0, 1, 2, 3] rfl)
              · have dc178 : r174.toInt = u28.toInt := eq_i (a := r174.toInt) (b := u28.toInt) rfl rfl c178
                refine lv_iconst (v := 1) hx hb dX10_next_216 (by decide) ?_
                refine lv_goto (tgt := 221) hx hb dX10_next_217 (by decide) ?_
                refine lv_istore_n (lv' := [(3, .int 1), (2, .int u28), (1, .int r22), (0, .ref h0)]) hx hb dX10_next_221 rfl hl (by decide) rfl (fun ls hl => ?_)
                exact cut103 1 (show 0 ≤ (1 : Int32).toInt ∧ (1 : Int32).toInt ≤ 1 by decide) (by show u36.toInt < x_size.toInt ∧ (1 = 1 → u28.toInt = 0 → (48 ≤ (f_tape u36.toNatClampNeg &&& 255).toInt ∧ (f_tape u36.toNatClampNeg &&& 255).toInt ≤ 57 ∧ 0 ≤ u38.toInt ∧ u38.toInt ≤ 999 ∧ (u37.toInt = 0 → u38.toInt = 0) ∧ (u37.toInt = 1 → u38.toInt ≤ 9) ∧ (u37.toInt = 2 → u38.toInt ≤ 99))); omega) _ _ _ hP hD hS (lv_sub hl [0, 1, 2, 3] rfl)
          · have dc100 : r96.toInt = 0 := eq_i (a := r96.toInt) (b := 0) rfl rfl c100
            have k179 : 0 ≤ r96.toInt ∧ r96.toInt ≤ 0 := ⟨t97.1, Int.le_trans (Int.le_of_eq dc100) (Int.le_refl _)⟩
            refine lv_aload_n hx hb dX10_next_191 rfl (lv_at hl 3 rfl) ?_
            refine call_Vi (wr := []) (As := []) (rest := []) hx hb hml hown hw (m_X10_peek l D cI cJ cB cP cM cZ h0 h_tape G35 x_size u36 f_tape _ n88 n91 i_x_size i78 i82) wV_X10_169_X10_peek dX10_next_192 hK hP hD hS hA [0, 1] [] rfl rfl (by decide) (by decide) (by decide) 0 10 rfl rfl GG.fb hG.at hl.1 rfl (Nat.le_of_ble_eq_true rfl) ⟨(Nat.le_of_ble_eq_true rfl), (Nat.le_of_ble_eq_true rfl)⟩ ⟨(Nat.le_of_ble_eq_true rfl), (Nat.le_of_ble_eq_true rfl)⟩ (fun r180 u H locs hp hP hD hS => ?_)
            obtain ⟨t181, t182, rfl⟩ := hp
            have hP : va_P D vwCl [(h0, .inr (10, vL 67 G35)), (h_tape, .inl (cB, 940, .inl f_tape))] H := hP
            have hD : va_D A [(h0, .inr (10, vL 67 G35)), (h_tape, .inl (cB, 940, .inl f_tape))] := hD
            refine W.widen (k := 0) (n := 0) (Nat.le_of_ble_eq_true rfl) (Nat.le_of_ble_eq_true rfl) ?_
            refine call_Si (wr := [(h0, .inr (10, vL 67 G35)), (h_tape, .inl (cB, 940, .inl f_tape))]) (As := [.int r180]) (rest := []) hx hb hml hown hw (m_X10_isDigit l D cI cJ cB cP cM cZ r180 _ ) wS_X10_186_X10_isDigit dX10_next_195 hP hD hS hA [] [0, 1] rfl rfl (by decide) (by decide) (by decide) GG.fb hG.at hl.1 rfl (Nat.le_of_ble_eq_true rfl) ⟨(Nat.le_of_ble_eq_true rfl), (Nat.le_of_ble_eq_true rfl)⟩ ⟨(Nat.le_of_ble_eq_true rfl), (Nat.le_of_ble_eq_true rfl)⟩ (fun r184 u H locs hp hP hD hS => ?_)
            obtain ⟨t185, t186, rfl⟩ := hp
            have hP : va_P D vwCl [(h0, .inr (10, vL 67 G35)), (h_tape, .inl (cB, 940, .inl f_tape))] H := hP
            have hD : va_D A [(h0, .inr (10, vL 67 G35)), (h_tape, .inl (cB, 940, .inl f_tape))] := hD
            refine W.widen (k := 0) (n := 0) (Nat.le_of_ble_eq_true rfl) (Nat.le_of_ble_eq_true rfl) ?_
            refine lv_if_eq (tgt := 298) hx hb dX10_next_198 (by decide) (fun c188 => ?_) (fun c188 => ?_)
            · have dc188 : r184.toInt = 0 := eq_i (a := r184.toInt) (b := 0) rfl rfl c188
              have k189 : 0 ≤ r184.toInt ∧ r184.toInt ≤ 0 := ⟨t185.1, Int.le_trans (Int.le_of_eq dc188) (Int.le_refl _)⟩
              have hfst : u36.toInt = u2.toInt → (f_tape u36.toNatClampNeg &&& 255).toInt = (f_tape u2.toNatClampNeg &&& 255).toInt := fun h9 => by rw [Int32.toInt_inj.mp h9]
              exact cut40 u34 G35 u36 u37 u38 u39 i76 (SAME.tr SAME.rf i77 (by decide)) i78 i79 i80 i81 i82 i83 (by show 0 ≤ u37.toInt ∧ u37.toInt ≤ u36.toInt ∧ x_p.toInt + u37.toInt ≤ u36.toInt ∧ (u37.toInt = 0 → u36.toInt = u2.toInt); omega) (by show u34.toInt = 1 → u28.toInt = 0 → (0 ≤ u38.toInt ∧ u38.toInt ≤ 999 ∧ (u37.toInt = 0 → u38.toInt = 0) ∧ (u37.toInt = 1 → u38.toInt ≤ 9) ∧ (u37.toInt = 2 → u38.toInt ≤ 99)); omega) (by show 1 ≤ u37.toInt; omega) _ _ _ hP hD hS (lv_sub hl [0, 1, 2, 3] rfl)
            · have dc188 : r184.toInt ≠ 0 := ne_i (a := r184.toInt) (b := 0) rfl rfl c188
              have k190 : 1 ≤ r184.toInt ∧ r184.toInt ≤ 1 := ⟨ne_lo dc188 t185.1 ⟨Int.le_refl _, Int.le_refl _⟩ (by decide), t185.2⟩
              have cut192 : ∀ (u191 : Int32) (_ : IR 0 1 u191) (_ : (u36.toInt < x_size.toInt ∧ (u191.toInt = 1 → u28.toInt = 0 → (48 ≤ (f_tape u36.toNatClampNeg &&& 255).toInt ∧ (f_tape u36.toNatClampNeg &&& 255).toInt ≤ 57 ∧ 0 ≤ u38.toInt ∧ u38.toInt ≤ 999 ∧ (u37.toInt = 0 → u38.toInt = 0) ∧ (u37.toInt = 1 → u38.toInt ≤ 9) ∧ (u37.toInt = 2 → u38.toInt ≤ 99))))) (H : Heap) (locs : List Loc) (ls : Array Slot), va_P D vwCl [(h0, .inr (10, vL 67 G35)), (h_tape, .inl (cB, 940, .inl f_tape))] H → va_D A [(h0, .inr (10, vL 67 G35)), (h_tape, .inl (cB, 940, .inl f_tape))] → va_S A s.heap H locs → lv_has ls 4 [(3, .int u191), (2, .int u28), (1, .int r22), (0, .ref h0)] → W p l e ({ frames := 1, cells := 0, slots := 0, locals := 20 } : Room) s m [.ref h0].toArray below meth c H locs 0 0 (MQ below (va_Qv (fun (u : va_W) => ∃ (Gh : Nat → Value) (y_p : Int32) (y_token : Int32) (y_at : Int32) (y_span : Int32) (y_number : Int32) (y_word : Int64), SAME [4, 11, 12, 13, 14, 18] Fh Gh ∧ Gh 4 = .int y_p ∧ IR 0 940 y_p ∧ Gh 11 = .int y_token ∧ IR 0 4 y_token ∧ Gh 12 = .int y_at ∧ IR 0 940 y_at ∧ Gh 13 = .int y_span ∧ IR 0 940 y_span ∧ Gh 14 = .int y_number ∧ Gh 18 = .long y_word ∧ (x_p.toInt ≤ y_p.toInt) ∧ ((1 ≤ y_token.toInt → y_token.toInt ≤ 3 → x_p.toInt < y_p.toInt)) ∧ ((y_token.toInt = 2 → 0 ≤ y_number.toInt ∧ y_number.toInt ≤ 999)) ∧ u = [(h0, .inr (10, vL 67 Gh)), (h_tape, .inl (cB, 940, .inl f_tape))]) (PO D A) A) [.ref h0].toArray s 0 0 A) (F0 m 222 ls []) := by
                intro u191 i193 i194 H locs ls hP hD hS hl
                have i193 : 0 ≤ u191.toInt ∧ u191.toInt ≤ 1 := i193
                have i194 : u36.toInt < x_size.toInt ∧ (u191.toInt = 1 → u28.toInt = 0 → (48 ≤ (f_tape u36.toNatClampNeg &&& 255).toInt ∧ (f_tape u36.toNatClampNeg &&& 255).toInt ≤ 57 ∧ 0 ≤ u38.toInt ∧ u38.toInt ≤ 999 ∧ (u37.toInt = 0 → u38.toInt = 0) ∧ (u37.toInt = 1 → u38.toInt ≤ 9) ∧ (u37.toInt = 2 → u38.toInt ≤ 99))) := i194
                have cut197 : ∀ (G195 : Nat → Value) (u196 : Int64) (_ : SAME [18] G35 G195) (_ : G195 18 = .long u196) (H : Heap) (locs : List Loc) (ls : Array Slot), va_P D vwCl [(h0, .inr (10, vL 67 G195)), (h_tape, .inl (cB, 940, .inl f_tape))] H → va_D A [(h0, .inr (10, vL 67 G195)), (h_tape, .inl (cB, 940, .inl f_tape))] → va_S A s.heap H locs → lv_has ls 4 [(3, .int u191), (2, .int u28), (1, .int r22), (0, .ref h0)] → W p l e ({ frames := 1, cells := 0, slots := 0, locals := 20 } : Room) s m [.ref h0].toArray below meth c H locs 0 0 (MQ below (va_Qv (fun (u : va_W) => ∃ (Gh : Nat → Value) (y_p : Int32) (y_token : Int32) (y_at : Int32) (y_span : Int32) (y_number : Int32) (y_word : Int64), SAME [4, 11, 12, 13, 14, 18] Fh Gh ∧ Gh 4 = .int y_p ∧ IR 0 940 y_p ∧ Gh 11 = .int y_token ∧ IR 0 4 y_token ∧ Gh 12 = .int y_at ∧ IR 0 940 y_at ∧ Gh 13 = .int y_span ∧ IR 0 940 y_span ∧ Gh 14 = .int y_number ∧ Gh 18 = .long y_word ∧ (x_p.toInt ≤ y_p.toInt) ∧ ((1 ≤ y_token.toInt → y_token.toInt ≤ 3 → x_p.toInt < y_p.toInt)) ∧ ((y_token.toInt = 2 → 0 ≤ y_number.toInt ∧ y_number.toInt ≤ 999)) ∧ u = [(h0, .inr (10, vL 67 Gh)), (h_tape, .inl (cB, 940, .inl f_tape))]) (PO D A) A) [.ref h0].toArray s 0 0 A) (F0 m 248 ls []) := by
                  intro G195 u196 i198 i199 H locs ls hP hD hS hl
                  refine lv_aload_n hx hb dX10_next_248 rfl (lv_at hl 3 rfl) ?_
                  have n200 : G195 13 = .int u37 := (SAME.at i198 (by decide) i79)
                  refine get_f (D := D) (ci := 10) (v := .int u37) (C := RX10) (T := TX10) (N := 67) hx hb hw inAX10 hown hK hP 0 rfl rfl 13 (by decide) (hw _ q_1274) (fun _ h9 => h9) n200 dX10_next_249 ?_
                  refine lv_iconst (v := 3) hx hb dX10_next_252 (by decide) ?_
                  refine lv_icmp_ge (tgt := 275) hx hb dX10_next_253 (by decide) (fun c201 => ?_) (fun c201 => ?_)
                  · have dc201 : 3 ≤ u37.toInt := le_i (a := 3) (b := u37.toInt) rfl rfl c201
                    have k202 : 3 ≤ u37.toInt ∧ u37.toInt ≤ 940 := ⟨Int.le_trans (Int.le_refl _) dc201, i83.2⟩
                    refine lv_aload_n hx hb dX10_next_275 rfl (lv_at hl 3 rfl) ?_
                    refine lv_dup hx hb dX10_next_276 rfl ?_
                    refine get_f (D := D) (ci := 10) (v := .int u37) (C := RX10) (T := TX10) (N := 67) hx hb hw inAX10 hown hK hP 0 rfl rfl 13 (by decide) (hw _ q_1274) (fun _ h9 => h9) n200 dX10_next_277 ?_
                    refine lv_iconst (v := 1) hx hb dX10_next_280 (by decide) ?_
                    refine lv_iadd hx hb dX10_next_281 ?_
                    refine lv_topi (fun v203 ev203 => ?_)
                    have bv203 : v203.toInt = u37.toInt + 1 := by rw [ev203]; exact add_k rfl rfl k202 ⟨Int.le_refl _, Int.le_refl _⟩ (by decide)
                    have k204 : 4 ≤ v203.toInt ∧ v203.toInt ≤ 941 := add_r bv203 k202 ⟨Int.le_refl _, Int.le_refl _⟩ (by decide)
                    refine put_f (D := D) (ci := 10) (v := .int v203) (ty := .int) (C := RX10) (T := TX10) (N := 67) hx hb hw inAX10 tyX10 tyX10_ok nmX10 hown hK hP hD hS 0 rfl rfl 13 (by decide) (hw _ q_1274) (fun _ h9 => h9) rfl (by decide +kernel) rfl rfl dX10_next_282 (fun H locs F205 eF205 hP hD hS => ?_)
                    have hP : va_P D vwCl [(h0, .inr (10, vL 67 F205)), (h_tape, .inl (cB, 940, .inl f_tape))] H := hP
                    have hD : va_D A [(h0, .inr (10, vL 67 F205)), (h_tape, .inl (cB, 940, .inl f_tape))] := hD
                    refine lv_aload_n hx hb dX10_next_285 rfl (lv_at hl 3 rfl) ?_
                    refine lv_dup hx hb dX10_next_286 rfl ?_
                    have n206 : G195 4 = .int u36 := (SAME.at i198 (by decide) i78)
                    have n207 : F205 4 = .int u36 := (get_ne eF205 (by decide) n206)
                    refine get_f (D := D) (ci := 10) (v := .int u36) (C := RX10) (T := TX10) (N := 67) hx hb hw inAX10 hown hK hP 0 rfl rfl 4 (by decide) (hw _ q_1265) (fun _ h9 => h9) n207 dX10_next_287 ?_
                    refine lv_iconst (v := 1) hx hb dX10_next_290 (by decide) ?_
                    refine lv_iadd hx hb dX10_next_291 ?_
                    refine lv_topi (fun v208 ev208 => ?_)
                    have bv208 : v208.toInt = u36.toInt + 1 := by rw [ev208]; exact add_k rfl rfl i82 ⟨Int.le_refl _, Int.le_refl _⟩ (by decide)
                    have k209 : 1 ≤ v208.toInt ∧ v208.toInt ≤ 941 := add_r bv208 i82 ⟨Int.le_refl _, Int.le_refl _⟩ (by decide)
                    refine put_f (D := D) (ci := 10) (v := .int v208) (ty := .int) (C := RX10) (T := TX10) (N := 67) hx hb hw inAX10 tyX10 tyX10_ok nmX10 hown hK hP hD hS 0 rfl rfl 4 (by decide) (hw _ q_1265) (fun _ h9 => h9) rfl (by decide +kernel) rfl rfl dX10_next_292 (fun H locs F210 eF210 hP hD hS => ?_)
                    have hP : va_P D vwCl [(h0, .inr (10, vL 67 F210)), (h_tape, .inl (cB, 940, .inl f_tape))] H := hP
                    have hD : va_D A [(h0, .inr (10, vL 67 F210)), (h_tape, .inl (cB, 940, .inl f_tape))] := hD
                    refine lv_goto (tgt := 181) hx hb dX10_next_295 (by decide) ?_
                    have n211 : F210 13 = .int v203 := (get_ne eF210 (by decide) (get_eq eF205))
                    have n212 : G195 14 = .int u38 := (SAME.at i198 (by decide) i80)
                    have n213 : F205 14 = .int u38 := (get_ne eF205 (by decide) n212)
                    have n214 : F210 14 = .int u38 := (get_ne eF210 (by decide) n213)
                    have n215 : F205 18 = .long u196 := (get_ne eF205 (by decide) i199)
                    have n216 : F210 18 = .long u196 := (get_ne eF210 (by decide) n215)
                    exact ih (u191, F210, v208, v203, u38, u196) ⟨i193, (SAME.up eF210 (SAME.up eF205 (SAME.tr (SAME.tr SAME.rf i77 (by decide)) i198 (by decide)) (by decide)) (by decide)), (get_eq eF210), n211, n214, n216, (show 0 ≤ v208.toInt ∧ v208.toInt ≤ 940 from ⟨by omega, by omega⟩), (show 0 ≤ v203.toInt ∧ v203.toInt ≤ 940 from ⟨by omega, by omega⟩), (by show 0 ≤ v203.toInt ∧ v203.toInt ≤ v208.toInt ∧ x_p.toInt + v203.toInt ≤ v208.toInt ∧ (v203.toInt = 0 → v208.toInt = u2.toInt); omega), (by show u191.toInt = 1 → u28.toInt = 0 → (0 ≤ u38.toInt ∧ u38.toInt ≤ 999 ∧ (v203.toInt = 0 → u38.toInt = 0) ∧ (v203.toInt = 1 → u38.toInt ≤ 9) ∧ (v203.toInt = 2 → u38.toInt ≤ 99)); omega)⟩ (by show (x_size.toInt - v208.toInt).toNat < (x_size.toInt - u36.toInt).toNat; omega) _ _ _ hP hD hS (lv_sub hl [0, 1, 2, 3] rfl)
                  · have dc201 : u37.toInt < 3 := nle_i (a := 3) (b := u37.toInt) rfl rfl c201
                    have k217 : 0 ≤ u37.toInt ∧ u37.toInt ≤ 2 := ⟨i83.1, up_lt dc201 (Int.le_refl _) (by decide)⟩
                    refine lv_aload_n hx hb dX10_next_256 rfl (lv_at hl 3 rfl) ?_
                    refine lv_bipush (v := 10) hx hb dX10_next_257 (by decide) ?_
                    refine lv_aload_n hx hb dX10_next_259 rfl (lv_at hl 3 rfl) ?_
                    have n218 : G195 14 = .int u38 := (SAME.at i198 (by decide) i80)
                    refine get_f (D := D) (ci := 10) (v := .int u38) (C := RX10) (T := TX10) (N := 67) hx hb hw inAX10 hown hK hP 0 rfl rfl 14 (by decide) (hw _ q_1275) (fun _ h9 => h9) n218 dX10_next_260 ?_
                    refine lv_imul hx hb dX10_next_263 ?_
                    refine lv_topi (fun v219 ev219 => ?_)
                    have bv219 : -1000000 ≤ u38.toInt → u38.toInt ≤ 1000000 → v219.toInt = 10 * u38.toInt := fun h1 h2 => by rw [ev219]; exact mul_i (a := 10) (b := u38.toInt) rfl rfl (by omega) (by omega)
                    refine lv_aload_n hx hb dX10_next_264 rfl (lv_at hl 3 rfl) ?_
                    have n220 : G195 1 = .ref h_tape := (SAME.at i198 (by decide) n88)
                    have n221 : G195 3 = .int x_size := (SAME.at i198 (by decide) n91)
                    have n222 : G195 4 = .int u36 := (SAME.at i198 (by decide) i78)
                    refine call_Vi (wr := []) (As := []) (rest := [.int v219, .ref h0]) hx hb hml hown hw (m_X10_peek l D cI cJ cB cP cM cZ h0 h_tape G195 x_size u36 f_tape _ n220 n221 i_x_size n222 i82) wV_X10_169_X10_peek dX10_next_265 hK hP hD hS hA [0, 1] [] rfl rfl (by decide) (by decide) (by decide) 0 10 rfl rfl GG.fb hG.at hl.1 rfl (Nat.le_of_ble_eq_true rfl) ⟨(Nat.le_of_ble_eq_true rfl), (Nat.le_of_ble_eq_true rfl)⟩ ⟨(Nat.le_of_ble_eq_true rfl), (Nat.le_of_ble_eq_true rfl)⟩ (fun r223 u H locs hp hP hD hS => ?_)
                    obtain ⟨t224, t225, rfl⟩ := hp
                    have hP : va_P D vwCl [(h0, .inr (10, vL 67 G195)), (h_tape, .inl (cB, 940, .inl f_tape))] H := hP
                    have hD : va_D A [(h0, .inr (10, vL 67 G195)), (h_tape, .inl (cB, 940, .inl f_tape))] := hD
                    refine W.widen (k := 0) (n := 0) (Nat.le_of_ble_eq_true rfl) (Nat.le_of_ble_eq_true rfl) ?_
                    refine lv_iadd hx hb dX10_next_268 ?_
                    refine lv_topi (fun v227 ev227 => ?_)
                    have bv227 : -1000000 ≤ v219.toInt → v219.toInt ≤ 1000000 → v227.toInt = v219.toInt + r223.toInt := fun h1 h2 => by rw [ev227]; exact add_i (a := v219.toInt) (b := r223.toInt) rfl rfl (by omega) (by omega)
                    refine lv_bipush (v := 48) hx hb dX10_next_269 (by decide) ?_
                    refine lv_isub hx hb dX10_next_271 ?_
                    refine lv_topi (fun v228 ev228 => ?_)
                    have bv228 : -1000000 ≤ v227.toInt → v227.toInt ≤ 1000000 → v228.toInt = v227.toInt - 48 := fun h1 h2 => by rw [ev228]; exact sub_i (a := v227.toInt) (b := 48) rfl rfl (by omega) (by omega)
                    refine put_f (D := D) (ci := 10) (v := .int v228) (ty := .int) (C := RX10) (T := TX10) (N := 67) hx hb hw inAX10 tyX10 tyX10_ok nmX10 hown hK hP hD hS 0 rfl rfl 14 (by decide) (hw _ q_1275) (fun _ h9 => h9) rfl (by decide +kernel) rfl rfl dX10_next_272 (fun H locs F229 eF229 hP hD hS => ?_)
                    have hP : va_P D vwCl [(h0, .inr (10, vL 67 F229)), (h_tape, .inl (cB, 940, .inl f_tape))] H := hP
                    have hD : va_D A [(h0, .inr (10, vL 67 F229)), (h_tape, .inl (cB, 940, .inl f_tape))] := hD
                    refine lv_aload_n hx hb dX10_next_275 rfl (lv_at hl 3 rfl) ?_
                    refine lv_dup hx hb dX10_next_276 rfl ?_
                    have n230 : F229 13 = .int u37 := (get_ne eF229 (by decide) n200)
                    refine get_f (D := D) (ci := 10) (v := .int u37) (C := RX10) (T := TX10) (N := 67) hx hb hw inAX10 hown hK hP 0 rfl rfl 13 (by decide) (hw _ q_1274) (fun _ h9 => h9) n230 dX10_next_277 ?_
                    refine lv_iconst (v := 1) hx hb dX10_next_280 (by decide) ?_
                    refine lv_iadd hx hb dX10_next_281 ?_
                    refine lv_topi (fun v231 ev231 => ?_)
                    have bv231 : v231.toInt = u37.toInt + 1 := by rw [ev231]; exact add_k rfl rfl k217 ⟨Int.le_refl _, Int.le_refl _⟩ (by decide)
                    have k232 : 1 ≤ v231.toInt ∧ v231.toInt ≤ 3 := add_r bv231 k217 ⟨Int.le_refl _, Int.le_refl _⟩ (by decide)
                    refine put_f (D := D) (ci := 10) (v := .int v231) (ty := .int) (C := RX10) (T := TX10) (N := 67) hx hb hw inAX10 tyX10 tyX10_ok nmX10 hown hK hP hD hS 0 rfl rfl 13 (by decide) (hw _ q_1274) (fun _ h9 => h9) rfl (by decide +kernel) rfl rfl dX10_next_282 (fun H locs F233 eF233 hP hD hS => ?_)
                    have hP : va_P D vwCl [(h0, .inr (10, vL 67 F233)), (h_tape, .inl (cB, 940, .inl f_tape))] H := hP
                    have hD : va_D A [(h0, .inr (10, vL 67 F233)), (h_tape, .inl (cB, 940, .inl f_tape))] := hD
                    refine lv_aload_n hx hb dX10_next_285 rfl (lv_at hl 3 rfl) ?_
                    refine lv_dup hx hb dX10_next_286 rfl ?_
                    have n234 : F229 4 = .int u36 := (get_ne eF229 (by decide) n222)
                    have n235 : F233 4 = .int u36 := (get_ne eF233 (by decide) n234)
                    refine get_f (D := D) (ci := 10) (v := .int u36) (C := RX10) (T := TX10) (N := 67) hx hb hw inAX10 hown hK hP 0 rfl rfl 4 (by decide) (hw _ q_1265) (fun _ h9 => h9) n235 dX10_next_287 ?_
                    refine lv_iconst (v := 1) hx hb dX10_next_290 (by decide) ?_
                    refine lv_iadd hx hb dX10_next_291 ?_
                    refine lv_topi (fun v236 ev236 => ?_)
                    have bv236 : v236.toInt = u36.toInt + 1 := by rw [ev236]; exact add_k rfl rfl i82 ⟨Int.le_refl _, Int.le_refl _⟩ (by decide)
                    have k237 : 1 ≤ v236.toInt ∧ v236.toInt ≤ 941 := add_r bv236 i82 ⟨Int.le_refl _, Int.le_refl _⟩ (by decide)
                    refine put_f (D := D) (ci := 10) (v := .int v236) (ty := .int) (C := RX10) (T := TX10) (N := 67) hx hb hw inAX10 tyX10 tyX10_ok nmX10 hown hK hP hD hS 0 rfl rfl 4 (by decide) (hw _ q_1265) (fun _ h9 => h9) rfl (by decide +kernel) rfl rfl dX10_next_292 (fun H locs F238 eF238 hP hD hS => ?_)
                    have hP : va_P D vwCl [(h0, .inr (10, vL 67 F238)), (h_tape, .inl (cB, 940, .inl f_tape))] H := hP
                    have hD : va_D A [(h0, .inr (10, vL 67 F238)), (h_tape, .inl (cB, 940, .inl f_tape))] := hD
                    refine lv_goto (tgt := 181) hx hb dX10_next_295 (by decide) ?_
                    have n239 : F238 13 = .int v231 := (get_ne eF238 (by decide) (get_eq eF233))
                    have n240 : F233 14 = .int v228 := (get_ne eF233 (by decide) (get_eq eF229))
                    have n241 : F238 14 = .int v228 := (get_ne eF238 (by decide) n240)
                    have n242 : F229 18 = .long u196 := (get_ne eF229 (by decide) i199)
                    have n243 : F233 18 = .long u196 := (get_ne eF233 (by decide) n242)
                    have n244 : F238 18 = .long u196 := (get_ne eF238 (by decide) n243)
                    exact ih (u191, F238, v236, v231, v228, u196) ⟨i193, (SAME.up eF238 (SAME.up eF233 (SAME.up eF229 (SAME.tr (SAME.tr SAME.rf i77 (by decide)) i198 (by decide)) (by decide)) (by decide)) (by decide)), (get_eq eF238), n239, n241, n244, (show 0 ≤ v236.toInt ∧ v236.toInt ≤ 940 from ⟨by omega, by omega⟩), (ir_wk k232 (by decide) (by decide)), (by show 0 ≤ v231.toInt ∧ v231.toInt ≤ v236.toInt ∧ x_p.toInt + v231.toInt ≤ v236.toInt ∧ (v231.toInt = 0 → v236.toInt = u2.toInt); omega), (by show u191.toInt = 1 → u28.toInt = 0 → (0 ≤ v228.toInt ∧ v228.toInt ≤ 999 ∧ (v231.toInt = 0 → v228.toInt = 0) ∧ (v231.toInt = 1 → v228.toInt ≤ 9) ∧ (v231.toInt = 2 → v228.toInt ≤ 99)); omega)⟩ (by show (x_size.toInt - v236.toInt).toNat < (x_size.toInt - u36.toInt).toNat; omega) _ _ _ hP hD hS (lv_sub hl [0, 1, 2, 3] rfl)
                refine lv_aload_n hx hb dX10_next_222 rfl (lv_at hl 3 rfl) ?_
                refine get_f (D := D) (ci := 10) (v := .int u37) (C := RX10) (T := TX10) (N := 67) hx hb hw inAX10 hown hK hP 0 rfl rfl 13 (by decide) (hw _ q_1274) (fun _ h9 => h9) i79 dX10_next_223 ?_
                refine lv_bipush (v := 7) hx hb dX10_next_226 (by decide) ?_
                refine lv_icmp_ge (tgt := 248) hx hb dX10_next_228 (by decide) (fun c245 => ?_) (fun c245 => ?_)
                · have dc245 : 7 ≤ u37.toInt := le_i (a := 7) (b := u37.toInt) rfl rfl c245
                  have k246 : 7 ≤ u37.toInt ∧ u37.toInt ≤ 940 := ⟨Int.le_trans (Int.le_refl _) dc245, i83.2⟩
                  exact cut197 G35 u39 SAME.rf i81 _ _ _ hP hD hS (lv_sub hl [0, 1, 2, 3] rfl)
                · have dc245 : u37.toInt < 7 := nle_i (a := 7) (b := u37.toInt) rfl rfl c245
                  have k247 : 0 ≤ u37.toInt ∧ u37.toInt ≤ 6 := ⟨i83.1, up_lt dc245 (Int.le_refl _) (by decide)⟩
                  refine lv_aload_n hx hb dX10_next_231 rfl (lv_at hl 3 rfl) ?_
                  refine lv_aload_n hx hb dX10_next_232 rfl (lv_at hl 3 rfl) ?_
                  refine get_f (D := D) (ci := 10) (v := .long u39) (C := RX10) (T := TX10) (N := 67) hx hb hw inAX10 hown hK hP 0 rfl rfl 18 (by decide) (hw _ q_1279) (fun _ h9 => h9) i81 dX10_next_233 ?_
                  refine lv_bipush (v := 8) hx hb dX10_next_236 (by decide) ?_
                  obtain ⟨v248, ev248⟩ : ∃ z : Int64, (u39 : Int64) <<< ((8 : Int32).toInt64 &&& 63) = z := ⟨_, rfl⟩
                  refine lv_lshl (v := v248) hx hb dX10_next_238 ev248 ?_
                  refine lv_aload_n hx hb dX10_next_239 rfl (lv_at hl 3 rfl) ?_
                  refine call_Vi (wr := []) (As := []) (rest := [.long v248, .ref h0]) hx hb hml hown hw (m_X10_peek l D cI cJ cB cP cM cZ h0 h_tape G35 x_size u36 f_tape _ n88 n91 i_x_size i78 i82) wV_X10_169_X10_peek dX10_next_240 hK hP hD hS hA [0, 1] [] rfl rfl (by decide) (by decide) (by decide) 0 10 rfl rfl GG.fb hG.at hl.1 rfl (Nat.le_of_ble_eq_true rfl) ⟨(Nat.le_of_ble_eq_true rfl), (Nat.le_of_ble_eq_true rfl)⟩ ⟨(Nat.le_of_ble_eq_true rfl), (Nat.le_of_ble_eq_true rfl)⟩ (fun r249 u H locs hp hP hD hS => ?_)
                  obtain ⟨t250, t251, rfl⟩ := hp
                  have hP : va_P D vwCl [(h0, .inr (10, vL 67 G35)), (h_tape, .inl (cB, 940, .inl f_tape))] H := hP
                  have hD : va_D A [(h0, .inr (10, vL 67 G35)), (h_tape, .inl (cB, 940, .inl f_tape))] := hD
                  refine W.widen (k := 0) (n := 0) (Nat.le_of_ble_eq_true rfl) (Nat.le_of_ble_eq_true rfl) ?_
                  obtain ⟨v253, ev253⟩ : ∃ z : Int64, (r249 : Int32).toInt64 = z := ⟨_, rfl⟩
                  refine lv_i2l (v := v253) hx hb dX10_next_243 ev253 ?_
                  refine lv_lor hx hb dX10_next_244 ?_
                  refine lv_topl (fun v254 ev254 => ?_)
                  refine put_f (D := D) (ci := 10) (v := .long v254) (ty := .long) (C := RX10) (T := TX10) (N := 67) hx hb hw inAX10 tyX10 tyX10_ok nmX10 hown hK hP hD hS 0 rfl rfl 18 (by decide) (hw _ q_1279) (fun _ h9 => h9) rfl (by decide +kernel) rfl rfl dX10_next_245 (fun H locs F255 eF255 hP hD hS => ?_)
                  have hP : va_P D vwCl [(h0, .inr (10, vL 67 F255)), (h_tape, .inl (cB, 940, .inl f_tape))] H := hP
                  have hD : va_D A [(h0, .inr (10, vL 67 F255)), (h_tape, .inl (cB, 940, .inl f_tape))] := hD
                  exact cut197 F255 v254 (SAME.up eF255 SAME.rf (by decide)) (get_eq eF255) _ _ _ hP hD hS (lv_sub hl [0, 1, 2, 3] rfl)
              refine lv_iload_n hx hb dX10_next_201 rfl (lv_at hl 0 rfl) ?_
              refine lv_if_eq (tgt := 220) hx hb dX10_next_202 (by decide) (fun c256 => ?_) (fun c256 => ?_)
              · have dc256 : u34.toInt = 0 := eq_i (a := u34.toInt) (b := 0) rfl rfl c256
                have k257 : 0 ≤ u34.toInt ∧ u34.toInt ≤ 0 := ⟨i76.1, Int.le_trans (Int.le_of_eq dc256) (Int.le_refl _)⟩
                refine lv_iconst (v := 0) hx hb dX10_next_220 (by decide) ?_
                refine lv_istore_n (lv' := [(3, .int 0), (2, .int u28), (1, .int r22), (0, .ref h0)]) hx hb dX10_next_221 rfl hl (by decide) rfl (fun ls hl => ?_)
                exact cut192 0 (show 0 ≤ (0 : Int32).toInt ∧ (0 : Int32).toInt ≤ 1 by decide) (by show u36.toInt < x_size.toInt ∧ (0 = 1 → u28.toInt = 0 → (48 ≤ (f_tape u36.toNatClampNeg &&& 255).toInt ∧ (f_tape u36.toNatClampNeg &&& 255).toInt ≤ 57 ∧ 0 ≤ u38.toInt ∧ u38.toInt ≤ 999 ∧ (u37.toInt = 0 → u38.toInt = 0) ∧ (u37.toInt = 1 → u38.toInt ≤ 9) ∧ (u37.toInt = 2 → u38.toInt ≤ 99))); omega) _ _ _ hP hD hS (lv_sub hl [0, 1, 2, 3] rfl)
              · have dc256 : u34.toInt ≠ 0 := ne_i (a := u34.toInt) (b := 0) rfl rfl c256
                have k258 : 1 ≤ u34.toInt ∧ u34.toInt ≤ 1 := ⟨ne_lo dc256 i76.1 ⟨Int.le_refl _, Int.le_refl _⟩ (by decide), i76.2⟩
                refine lv_aload_n hx hb dX10_next_205 rfl (lv_at hl 3 rfl) ?_
                refine call_Vi (wr := []) (As := []) (rest := []) hx hb hml hown hw (m_X10_peek l D cI cJ cB cP cM cZ h0 h_tape G35 x_size u36 f_tape _ n88 n91 i_x_size i78 i82) wV_X10_169_X10_peek dX10_next_206 hK hP hD hS hA [0, 1] [] rfl rfl (by decide) (by decide) (by decide) 0 10 rfl rfl GG.fb hG.at hl.1 rfl (Nat.le_of_ble_eq_true rfl) ⟨(Nat.le_of_ble_eq_true rfl), (Nat.le_of_ble_eq_true rfl)⟩ ⟨(Nat.le_of_ble_eq_true rfl), (Nat.le_of_ble_eq_true rfl)⟩ (fun r259 u H locs hp hP hD hS => ?_)
                obtain ⟨t260, t261, rfl⟩ := hp
                have hP : va_P D vwCl [(h0, .inr (10, vL 67 G35)), (h_tape, .inl (cB, 940, .inl f_tape))] H := hP
                have hD : va_D A [(h0, .inr (10, vL 67 G35)), (h_tape, .inl (cB, 940, .inl f_tape))] := hD
                refine W.widen (k := 0) (n := 0) (Nat.le_of_ble_eq_true rfl) (Nat.le_of_ble_eq_true rfl) ?_
                refine call_Si (wr := [(h0, .inr (10, vL 67 G35)), (h_tape, .inl (cB, 940, .inl f_tape))]) (As := [.int r259]) (rest := []) hx hb hml hown hw (m_X10_isSmall l D cI cJ cB cP cM cZ r259 _ ) wS_X10_182_X10_isSmall dX10_next_209 hP hD hS hA [] [0, 1] rfl rfl (by decide) (by decide) (by decide) GG.fb hG.at hl.1 rfl (Nat.le_of_ble_eq_true rfl) ⟨(Nat.le_of_ble_eq_true rfl), (Nat.le_of_ble_eq_true rfl)⟩ ⟨(Nat.le_of_ble_eq_true rfl), (Nat.le_of_ble_eq_true rfl)⟩ (fun r263 u H locs hp hP hD hS => ?_)
                obtain ⟨t264, t265, rfl⟩ := hp
                have hP : va_P D vwCl [(h0, .inr (10, vL 67 G35)), (h_tape, .inl (cB, 940, .inl f_tape))] H := hP
                have hD : va_D A [(h0, .inr (10, vL 67 G35)), (h_tape, .inl (cB, 940, .inl f_tape))] := hD
                refine W.widen (k := 0) (n := 0) (Nat.le_of_ble_eq_true rfl) (Nat.le_of_ble_eq_true rfl) ?_
                refine lv_iload_n hx hb dX10_next_212 rfl (lv_at hl 1 rfl) ?_
                refine lv_icmp_ne (tgt := 220) hx hb dX10_next_213 (by decide) (fun c267 => ?_) (fun c267 => ?_)
                · have dc267 : r263.toInt ≠ u28.toInt := ne_i (a := r263.toInt) (b := u28.toInt) rfl rfl c267
                  refine lv_iconst (v := 0) hx hb dX10_next_220 (by decide) ?_
                  refine lv_istore_n (lv' := [(3, .int 0), (2, .int u28), (1, .int r22), (0, .ref h0)]) hx hb dX10_next_221 rfl hl (by decide) rfl (fun ls hl => ?_)
                  exact cut192 0 (show 0 ≤ (0 : Int32).toInt ∧ (0 : Int32).toInt ≤ 1 by decide) (by show u36.toInt < x_size.toInt ∧ (0 = 1 → u28.toInt = 0 → (48 ≤ (f_tape u36.toNatClampNeg &&& 255).toInt ∧ (f_tape u36.toNatClampNeg &&& 255).toInt ≤ 57 ∧ 0 ≤ u38.toInt ∧ u38.toInt ≤ 999 ∧ (u37.toInt = 0 → u38.toInt = 0) ∧ (u37.toInt = 1 → u38.toInt ≤ 9) ∧ (u37.toInt = 2 → u38.toInt ≤ 99))); omega) _ _ _ hP hD hS (lv_sub hl [0, 1, 2, 3] rfl)
                · have dc267 : r263.toInt = u28.toInt := eq_i (a := r263.toInt) (b := u28.toInt) rfl rfl c267
                  refine lv_iconst (v := 1) hx hb dX10_next_216 (by decide) ?_
                  refine lv_goto (tgt := 221) hx hb dX10_next_217 (by decide) ?_
                  refine lv_istore_n (lv' := [(3, .int 1), (2, .int u28), (1, .int r22), (0, .ref h0)]) hx hb dX10_next_221 rfl hl (by decide) rfl (fun ls hl => ?_)
                  exact cut192 1 (show 0 ≤ (1 : Int32).toInt ∧ (1 : Int32).toInt ≤ 1 by decide) (by show u36.toInt < x_size.toInt ∧ (1 = 1 → u28.toInt = 0 → (48 ≤ (f_tape u36.toNatClampNeg &&& 255).toInt ∧ (f_tape u36.toNatClampNeg &&& 255).toInt ≤ 57 ∧ 0 ≤ u38.toInt ∧ u38.toInt ≤ 999 ∧ (u37.toInt = 0 → u38.toInt = 0) ∧ (u37.toInt = 1 → u38.toInt ≤ 9) ∧ (u37.toInt = 2 → u38.toInt ≤ 99))); omega) _ _ _ hP hD hS (lv_sub hl [0, 1, 2, 3] rfl)
        refine lv_iload_n hx hb dX10_next_95 rfl (lv_at hl 0 rfl) ?_
        refine call_Si (wr := [(h0, .inr (10, vL 67 F9)), (h_tape, .inl (cB, 940, .inl f_tape))]) (As := [.int r22]) (rest := []) hx hb hml hown hw (m_X10_isSmall l D cI cJ cB cP cM cZ r22 _ ) wS_X10_182_X10_isSmall dX10_next_96 hP hD hS hA [] [0, 1] rfl rfl (by decide) (by decide) (by decide) GG.fb hG.at hl.1 rfl (Nat.le_of_ble_eq_true rfl) ⟨(Nat.le_of_ble_eq_true rfl), (Nat.le_of_ble_eq_true rfl)⟩ ⟨(Nat.le_of_ble_eq_true rfl), (Nat.le_of_ble_eq_true rfl)⟩ (fun r268 u H locs hp hP hD hS => ?_)
        obtain ⟨t269, t270, rfl⟩ := hp
        have hP : va_P D vwCl [(h0, .inr (10, vL 67 F9)), (h_tape, .inl (cB, 940, .inl f_tape))] H := hP
        have hD : va_D A [(h0, .inr (10, vL 67 F9)), (h_tape, .inl (cB, 940, .inl f_tape))] := hD
        refine W.widen (k := 0) (n := 0) (Nat.le_of_ble_eq_true rfl) (Nat.le_of_ble_eq_true rfl) ?_
        refine lv_if_ne (tgt := 164) hx hb dX10_next_99 (by decide) (fun c272 => ?_) (fun c272 => ?_)
        · have dc272 : r268.toInt ≠ 0 := ne_i (a := r268.toInt) (b := 0) rfl rfl c272
          have k273 : 1 ≤ r268.toInt ∧ r268.toInt ≤ 1 := ⟨ne_lo dc272 t269.1 ⟨Int.le_refl _, Int.le_refl _⟩ (by decide), t269.2⟩
          refine lv_iload_n hx hb dX10_next_164 rfl (lv_at hl 0 rfl) ?_
          refine call_Si (wr := [(h0, .inr (10, vL 67 F9)), (h_tape, .inl (cB, 940, .inl f_tape))]) (As := [.int r22]) (rest := []) hx hb hml hown hw (m_X10_isSmall l D cI cJ cB cP cM cZ r22 _ ) wS_X10_182_X10_isSmall dX10_next_165 hP hD hS hA [] [0, 1] rfl rfl (by decide) (by decide) (by decide) GG.fb hG.at hl.1 rfl (Nat.le_of_ble_eq_true rfl) ⟨(Nat.le_of_ble_eq_true rfl), (Nat.le_of_ble_eq_true rfl)⟩ ⟨(Nat.le_of_ble_eq_true rfl), (Nat.le_of_ble_eq_true rfl)⟩ (fun r274 u H locs hp hP hD hS => ?_)
          obtain ⟨t275, t276, rfl⟩ := hp
          have hP : va_P D vwCl [(h0, .inr (10, vL 67 F9)), (h_tape, .inl (cB, 940, .inl f_tape))] H := hP
          have hD : va_D A [(h0, .inr (10, vL 67 F9)), (h_tape, .inl (cB, 940, .inl f_tape))] := hD
          refine W.widen (k := 0) (n := 0) (Nat.le_of_ble_eq_true rfl) (Nat.le_of_ble_eq_true rfl) ?_
          refine lv_istore_n (lv' := [(2, .int r274), (1, .int r22), (0, .ref h0)]) hx hb dX10_next_168 rfl hl (by decide) rfl (fun ls hl => ?_)
          refine lv_iconst (v := 1) hx hb dX10_next_169 (by decide) ?_
          refine lv_istore_n (lv' := [(3, .int 1), (2, .int r274), (1, .int r22), (0, .ref h0)]) hx hb dX10_next_170 rfl hl (by decide) rfl (fun ls hl => ?_)
          exact cut29 r274 t275 (by show ((48 ≤ r22.toInt ∧ r22.toInt ≤ 57 ∧ r274.toInt = 0) ∨ (97 ≤ r22.toInt ∧ r22.toInt ≤ 122 ∧ r274.toInt = 1)); omega) _ _ _ hP hD hS (lv_sub hl [0, 1, 2, 3] rfl)
        · have dc272 : r268.toInt = 0 := eq_i (a := r268.toInt) (b := 0) rfl rfl c272
          have k278 : 0 ≤ r268.toInt ∧ r268.toInt ≤ 0 := ⟨t269.1, Int.le_trans (Int.le_of_eq dc272) (Int.le_refl _)⟩
          refine lv_iload_n hx hb dX10_next_102 rfl (lv_at hl 0 rfl) ?_
          refine call_Si (wr := [(h0, .inr (10, vL 67 F9)), (h_tape, .inl (cB, 940, .inl f_tape))]) (As := [.int r22]) (rest := []) hx hb hml hown hw (m_X10_isDigit l D cI cJ cB cP cM cZ r22 _ ) wS_X10_186_X10_isDigit dX10_next_103 hP hD hS hA [] [0, 1] rfl rfl (by decide) (by decide) (by decide) GG.fb hG.at hl.1 rfl (Nat.le_of_ble_eq_true rfl) ⟨(Nat.le_of_ble_eq_true rfl), (Nat.le_of_ble_eq_true rfl)⟩ ⟨(Nat.le_of_ble_eq_true rfl), (Nat.le_of_ble_eq_true rfl)⟩ (fun r279 u H locs hp hP hD hS => ?_)
          obtain ⟨t280, t281, rfl⟩ := hp
          have hP : va_P D vwCl [(h0, .inr (10, vL 67 F9)), (h_tape, .inl (cB, 940, .inl f_tape))] H := hP
          have hD : va_D A [(h0, .inr (10, vL 67 F9)), (h_tape, .inl (cB, 940, .inl f_tape))] := hD
          refine W.widen (k := 0) (n := 0) (Nat.le_of_ble_eq_true rfl) (Nat.le_of_ble_eq_true rfl) ?_
          refine lv_if_ne (tgt := 164) hx hb dX10_next_106 (by decide) (fun c283 => ?_) (fun c283 => ?_)
          · have dc283 : r279.toInt ≠ 0 := ne_i (a := r279.toInt) (b := 0) rfl rfl c283
            have k284 : 1 ≤ r279.toInt ∧ r279.toInt ≤ 1 := ⟨ne_lo dc283 t280.1 ⟨Int.le_refl _, Int.le_refl _⟩ (by decide), t280.2⟩
            refine lv_iload_n hx hb dX10_next_164 rfl (lv_at hl 0 rfl) ?_
            refine call_Si (wr := [(h0, .inr (10, vL 67 F9)), (h_tape, .inl (cB, 940, .inl f_tape))]) (As := [.int r22]) (rest := []) hx hb hml hown hw (m_X10_isSmall l D cI cJ cB cP cM cZ r22 _ ) wS_X10_182_X10_isSmall dX10_next_165 hP hD hS hA [] [0, 1] rfl rfl (by decide) (by decide) (by decide) GG.fb hG.at hl.1 rfl (Nat.le_of_ble_eq_true rfl) ⟨(Nat.le_of_ble_eq_true rfl), (Nat.le_of_ble_eq_true rfl)⟩ ⟨(Nat.le_of_ble_eq_true rfl), (Nat.le_of_ble_eq_true rfl)⟩ (fun r285 u H locs hp hP hD hS => ?_)
            obtain ⟨t286, t287, rfl⟩ := hp
            have hP : va_P D vwCl [(h0, .inr (10, vL 67 F9)), (h_tape, .inl (cB, 940, .inl f_tape))] H := hP
            have hD : va_D A [(h0, .inr (10, vL 67 F9)), (h_tape, .inl (cB, 940, .inl f_tape))] := hD
            refine W.widen (k := 0) (n := 0) (Nat.le_of_ble_eq_true rfl) (Nat.le_of_ble_eq_true rfl) ?_
            refine lv_istore_n (lv' := [(2, .int r285), (1, .int r22), (0, .ref h0)]) hx hb dX10_next_168 rfl hl (by decide) rfl (fun ls hl => ?_)
            refine lv_iconst (v := 1) hx hb dX10_next_169 (by decide) ?_
            refine lv_istore_n (lv' := [(3, .int 1), (2, .int r285), (1, .int r22), (0, .ref h0)]) hx hb dX10_next_170 rfl hl (by decide) rfl (fun ls hl => ?_)
            exact cut29 r285 t286 (by show ((48 ≤ r22.toInt ∧ r22.toInt ≤ 57 ∧ r285.toInt = 0) ∨ (97 ≤ r22.toInt ∧ r22.toInt ≤ 122 ∧ r285.toInt = 1)); omega) _ _ _ hP hD hS (lv_sub hl [0, 1, 2, 3] rfl)
          · have dc283 : r279.toInt = 0 := eq_i (a := r279.toInt) (b := 0) rfl rfl c283
            have k289 : 0 ≤ r279.toInt ∧ r279.toInt ≤ 0 := ⟨t280.1, Int.le_trans (Int.le_of_eq dc283) (Int.le_refl _)⟩
            refine lv_aload_n hx hb dX10_next_109 rfl (lv_at hl 1 rfl) ?_
            refine lv_iload_n hx hb dX10_next_110 rfl (lv_at hl 0 rfl) ?_
            refine lv_bipush (v := 59) hx hb dX10_next_111 (by decide) ?_
            refine lv_icmp_eq (tgt := 140) hx hb dX10_next_113 (by decide) (fun c290 => ?_) (fun c290 => ?_)
            · have dc290 : r22.toInt = 59 := eq_i (a := r22.toInt) (b := 59) rfl rfl c290
              have k291 : 59 ≤ r22.toInt ∧ r22.toInt ≤ 59 := ⟨Int.le_trans (Int.le_refl _) (Int.le_of_eq dc290.symm), Int.le_trans (Int.le_of_eq dc290) (Int.le_refl _)⟩
              refine lv_iconst (v := 3) hx hb dX10_next_140 (by decide) ?_
              refine lv_goto (tgt := 145) hx hb dX10_next_141 (by decide) ?_
              refine put_f (D := D) (ci := 10) (v := .int 3) (ty := .int) (C := RX10) (T := TX10) (N := 67) hx hb hw inAX10 tyX10 tyX10_ok nmX10 hown hK hP hD hS 0 rfl rfl 11 (by decide) (hw _ q_1272) (fun _ h9 => h9) rfl (by decide +kernel) rfl rfl dX10_next_145 (fun H locs F292 eF292 hP hD hS => ?_)
              have hP : va_P D vwCl [(h0, .inr (10, vL 67 F292)), (h_tape, .inl (cB, 940, .inl f_tape))] H := hP
              have hD : va_D A [(h0, .inr (10, vL 67 F292)), (h_tape, .inl (cB, 940, .inl f_tape))] := hD
              refine lv_aload_n hx hb dX10_next_148 rfl (lv_at hl 1 rfl) ?_
              refine lv_iload_n hx hb dX10_next_149 rfl (lv_at hl 0 rfl) ?_
              refine put_f (D := D) (ci := 10) (v := .int r22) (ty := .int) (C := RX10) (T := TX10) (N := 67) hx hb hw inAX10 tyX10 tyX10_ok nmX10 hown hK hP hD hS 0 rfl rfl 14 (by decide) (hw _ q_1275) (fun _ h9 => h9) rfl (by decide +kernel) rfl rfl dX10_next_150 (fun H locs F293 eF293 hP hD hS => ?_)
              have hP : va_P D vwCl [(h0, .inr (10, vL 67 F293)), (h_tape, .inl (cB, 940, .inl f_tape))] H := hP
              have hD : va_D A [(h0, .inr (10, vL 67 F293)), (h_tape, .inl (cB, 940, .inl f_tape))] := hD
              refine lv_aload_n hx hb dX10_next_153 rfl (lv_at hl 1 rfl) ?_
              refine lv_dup hx hb dX10_next_154 rfl ?_
              have n294 : F292 4 = .int u2 := (get_ne eF292 (by decide) n21)
              have n295 : F293 4 = .int u2 := (get_ne eF293 (by decide) n294)
              refine get_f (D := D) (ci := 10) (v := .int u2) (C := RX10) (T := TX10) (N := 67) hx hb hw inAX10 hown hK hP 0 rfl rfl 4 (by decide) (hw _ q_1265) (fun _ h9 => h9) n295 dX10_next_155 ?_
              refine lv_iconst (v := 1) hx hb dX10_next_158 (by decide) ?_
              refine lv_iadd hx hb dX10_next_159 ?_
              refine lv_topi (fun v296 ev296 => ?_)
              have bv296 : v296.toInt = u2.toInt + 1 := by rw [ev296]; exact add_k rfl rfl i6 ⟨Int.le_refl _, Int.le_refl _⟩ (by decide)
              have k297 : 1 ≤ v296.toInt ∧ v296.toInt ≤ 941 := add_r bv296 i6 ⟨Int.le_refl _, Int.le_refl _⟩ (by decide)
              refine put_f (D := D) (ci := 10) (v := .int v296) (ty := .int) (C := RX10) (T := TX10) (N := 67) hx hb hw inAX10 tyX10 tyX10_ok nmX10 hown hK hP hD hS 0 rfl rfl 4 (by decide) (hw _ q_1265) (fun _ h9 => h9) rfl (by decide +kernel) rfl rfl dX10_next_160 (fun H locs F298 eF298 hP hD hS => ?_)
              have hP : va_P D vwCl [(h0, .inr (10, vL 67 F298)), (h_tape, .inl (cB, 940, .inl f_tape))] H := hP
              have hD : va_D A [(h0, .inr (10, vL 67 F298)), (h_tape, .inl (cB, 940, .inl f_tape))] := hD
              exact ret_v hx hb hr hlocks hS hP hD dX10_next_163 (Nat.le_of_ble_eq_true rfl) (Nat.le_of_ble_eq_true rfl) ⟨F298, v296, 3, u2, 0, r22, x_word, (SAME.up eF298 (SAME.up eF293 (SAME.up eF292 (SAME.up eF9 (SAME.up eF8 (SAME.tr SAME.rf i4 (by decide)) (by decide)) (by decide)) (by decide)) (by decide)) (by decide)), (get_eq eF298), (show 0 ≤ v296.toInt ∧ v296.toInt ≤ 940 from ⟨by omega, by omega⟩), (get_ne eF298 (by decide) (get_ne eF293 (by decide) (get_eq eF292))), (show 0 ≤ (3 : Int32).toInt ∧ (3 : Int32).toInt ≤ 4 by decide), (get_ne eF298 (by decide) (get_ne eF293 (by decide) (get_ne eF292 (by decide) (get_ne eF9 (by decide) (get_eq eF8))))), i6, (get_ne eF298 (by decide) (get_ne eF293 (by decide) (get_ne eF292 (by decide) (get_eq eF9)))), (show 0 ≤ (0 : Int32).toInt ∧ (0 : Int32).toInt ≤ 940 by decide), (get_ne eF298 (by decide) (get_eq eF293)), (get_ne eF298 (by decide) (get_ne eF293 (by decide) (get_ne eF292 (by decide) (get_ne eF9 (by decide) (get_ne eF8 (by decide) (SAME.at i4 (by decide) e_word)))))), (by have zl0 : (0 : Int32).toInt = 0 := (by decide); have zl4 : (4 : Int32).toInt = 4 := (by decide); omega), (by have zl0 : (0 : Int32).toInt = 0 := (by decide); have zl4 : (4 : Int32).toInt = 4 := (by decide); omega), (by have zl0 : (0 : Int32).toInt = 0 := (by decide); have zl3 : (3 : Int32).toInt = 3 := (by decide); omega), rfl⟩
            · have dc290 : r22.toInt ≠ 59 := ne_i (a := r22.toInt) (b := 59) rfl rfl c290
              refine lv_iload_n hx hb dX10_next_116 rfl (lv_at hl 0 rfl) ?_
              refine lv_bipush (v := 40) hx hb dX10_next_117 (by decide) ?_
              refine lv_icmp_eq (tgt := 140) hx hb dX10_next_119 (by decide) (fun c299 => ?_) (fun c299 => ?_)
              · have dc299 : r22.toInt = 40 := eq_i (a := r22.toInt) (b := 40) rfl rfl c299
                have k300 : 40 ≤ r22.toInt ∧ r22.toInt ≤ 40 := ⟨Int.le_trans (Int.le_refl _) (Int.le_of_eq dc299.symm), Int.le_trans (Int.le_of_eq dc299) (Int.le_refl _)⟩
                refine lv_iconst (v := 3) hx hb dX10_next_140 (by decide) ?_
                refine lv_goto (tgt := 145) hx hb dX10_next_141 (by decide) ?_
                refine put_f (D := D) (ci := 10) (v := .int 3) (ty := .int) (C := RX10) (T := TX10) (N := 67) hx hb hw inAX10 tyX10 tyX10_ok nmX10 hown hK hP hD hS 0 rfl rfl 11 (by decide) (hw _ q_1272) (fun _ h9 => h9) rfl (by decide +kernel) rfl rfl dX10_next_145 (fun H locs F301 eF301 hP hD hS => ?_)
                have hP : va_P D vwCl [(h0, .inr (10, vL 67 F301)), (h_tape, .inl (cB, 940, .inl f_tape))] H := hP
                have hD : va_D A [(h0, .inr (10, vL 67 F301)), (h_tape, .inl (cB, 940, .inl f_tape))] := hD
                refine lv_aload_n hx hb dX10_next_148 rfl (lv_at hl 1 rfl) ?_
                refine lv_iload_n hx hb dX10_next_149 rfl (lv_at hl 0 rfl) ?_
                refine put_f (D := D) (ci := 10) (v := .int r22) (ty := .int) (C := RX10) (T := TX10) (N := 67) hx hb hw inAX10 tyX10 tyX10_ok nmX10 hown hK hP hD hS 0 rfl rfl 14 (by decide) (hw _ q_1275) (fun _ h9 => h9) rfl (by decide +kernel) rfl rfl dX10_next_150 (fun H locs F302 eF302 hP hD hS => ?_)
                have hP : va_P D vwCl [(h0, .inr (10, vL 67 F302)), (h_tape, .inl (cB, 940, .inl f_tape))] H := hP
                have hD : va_D A [(h0, .inr (10, vL 67 F302)), (h_tape, .inl (cB, 940, .inl f_tape))] := hD
                refine lv_aload_n hx hb dX10_next_153 rfl (lv_at hl 1 rfl) ?_
                refine lv_dup hx hb dX10_next_154 rfl ?_
                have n303 : F301 4 = .int u2 := (get_ne eF301 (by decide) n21)
                have n304 : F302 4 = .int u2 := (get_ne eF302 (by decide) n303)
                refine get_f (D := D) (ci := 10) (v := .int u2) (C := RX10) (T := TX10) (N := 67) hx hb hw inAX10 hown hK hP 0 rfl rfl 4 (by decide) (hw _ q_1265) (fun _ h9 => h9) n304 dX10_next_155 ?_
                refine lv_iconst (v := 1) hx hb dX10_next_158 (by decide) ?_
                refine lv_iadd hx hb dX10_next_159 ?_
                refine lv_topi (fun v305 ev305 => ?_)
                have bv305 : v305.toInt = u2.toInt + 1 := by rw [ev305]; exact add_k rfl rfl i6 ⟨Int.le_refl _, Int.le_refl _⟩ (by decide)
                have k306 : 1 ≤ v305.toInt ∧ v305.toInt ≤ 941 := add_r bv305 i6 ⟨Int.le_refl _, Int.le_refl _⟩ (by decide)
                refine put_f (D := D) (ci := 10) (v := .int v305) (ty := .int) (C := RX10) (T := TX10) (N := 67) hx hb hw inAX10 tyX10 tyX10_ok nmX10 hown hK hP hD hS 0 rfl rfl 4 (by decide) (hw _ q_1265) (fun _ h9 => h9) rfl (by decide +kernel) rfl rfl dX10_next_160 (fun H locs F307 eF307 hP hD hS => ?_)
                have hP : va_P D vwCl [(h0, .inr (10, vL 67 F307)), (h_tape, .inl (cB, 940, .inl f_tape))] H := hP
                have hD : va_D A [(h0, .inr (10, vL 67 F307)), (h_tape, .inl (cB, 940, .inl f_tape))] := hD
                exact ret_v hx hb hr hlocks hS hP hD dX10_next_163 (Nat.le_of_ble_eq_true rfl) (Nat.le_of_ble_eq_true rfl) ⟨F307, v305, 3, u2, 0, r22, x_word, (SAME.up eF307 (SAME.up eF302 (SAME.up eF301 (SAME.up eF9 (SAME.up eF8 (SAME.tr SAME.rf i4 (by decide)) (by decide)) (by decide)) (by decide)) (by decide)) (by decide)), (get_eq eF307), (show 0 ≤ v305.toInt ∧ v305.toInt ≤ 940 from ⟨by omega, by omega⟩), (get_ne eF307 (by decide) (get_ne eF302 (by decide) (get_eq eF301))), (show 0 ≤ (3 : Int32).toInt ∧ (3 : Int32).toInt ≤ 4 by decide), (get_ne eF307 (by decide) (get_ne eF302 (by decide) (get_ne eF301 (by decide) (get_ne eF9 (by decide) (get_eq eF8))))), i6, (get_ne eF307 (by decide) (get_ne eF302 (by decide) (get_ne eF301 (by decide) (get_eq eF9)))), (show 0 ≤ (0 : Int32).toInt ∧ (0 : Int32).toInt ≤ 940 by decide), (get_ne eF307 (by decide) (get_eq eF302)), (get_ne eF307 (by decide) (get_ne eF302 (by decide) (get_ne eF301 (by decide) (get_ne eF9 (by decide) (get_ne eF8 (by decide) (SAME.at i4 (by decide) e_word)))))), (by have zl0 : (0 : Int32).toInt = 0 := (by decide); have zl4 : (4 : Int32).toInt = 4 := (by decide); omega), (by have zl0 : (0 : Int32).toInt = 0 := (by decide); have zl4 : (4 : Int32).toInt = 4 := (by decide); omega), (by have zl0 : (0 : Int32).toInt = 0 := (by decide); have zl3 : (3 : Int32).toInt = 3 := (by decide); omega), rfl⟩
              · have dc299 : r22.toInt ≠ 40 := ne_i (a := r22.toInt) (b := 40) rfl rfl c299
                refine lv_iload_n hx hb dX10_next_122 rfl (lv_at hl 0 rfl) ?_
                refine lv_bipush (v := 41) hx hb dX10_next_123 (by decide) ?_
                refine lv_icmp_eq (tgt := 140) hx hb dX10_next_125 (by decide) (fun c308 => ?_) (fun c308 => ?_)
                · have dc308 : r22.toInt = 41 := eq_i (a := r22.toInt) (b := 41) rfl rfl c308
                  have k309 : 41 ≤ r22.toInt ∧ r22.toInt ≤ 41 := ⟨Int.le_trans (Int.le_refl _) (Int.le_of_eq dc308.symm), Int.le_trans (Int.le_of_eq dc308) (Int.le_refl _)⟩
                  refine lv_iconst (v := 3) hx hb dX10_next_140 (by decide) ?_
                  refine lv_goto (tgt := 145) hx hb dX10_next_141 (by decide) ?_
                  refine put_f (D := D) (ci := 10) (v := .int 3) (ty := .int) (C := RX10) (T := TX10) (N := 67) hx hb hw inAX10 tyX10 tyX10_ok nmX10 hown hK hP hD hS 0 rfl rfl 11 (by decide) (hw _ q_1272) (fun _ h9 => h9) rfl (by decide +kernel) rfl rfl dX10_next_145 (fun H locs F310 eF310 hP hD hS => ?_)
                  have hP : va_P D vwCl [(h0, .inr (10, vL 67 F310)), (h_tape, .inl (cB, 940, .inl f_tape))] H := hP
                  have hD : va_D A [(h0, .inr (10, vL 67 F310)), (h_tape, .inl (cB, 940, .inl f_tape))] := hD
                  refine lv_aload_n hx hb dX10_next_148 rfl (lv_at hl 1 rfl) ?_
                  refine lv_iload_n hx hb dX10_next_149 rfl (lv_at hl 0 rfl) ?_
                  refine put_f (D := D) (ci := 10) (v := .int r22) (ty := .int) (C := RX10) (T := TX10) (N := 67) hx hb hw inAX10 tyX10 tyX10_ok nmX10 hown hK hP hD hS 0 rfl rfl 14 (by decide) (hw _ q_1275) (fun _ h9 => h9) rfl (by decide +kernel) rfl rfl dX10_next_150 (fun H locs F311 eF311 hP hD hS => ?_)
                  have hP : va_P D vwCl [(h0, .inr (10, vL 67 F311)), (h_tape, .inl (cB, 940, .inl f_tape))] H := hP
                  have hD : va_D A [(h0, .inr (10, vL 67 F311)), (h_tape, .inl (cB, 940, .inl f_tape))] := hD
                  refine lv_aload_n hx hb dX10_next_153 rfl (lv_at hl 1 rfl) ?_
                  refine lv_dup hx hb dX10_next_154 rfl ?_
                  have n312 : F310 4 = .int u2 := (get_ne eF310 (by decide) n21)
                  have n313 : F311 4 = .int u2 := (get_ne eF311 (by decide) n312)
                  refine get_f (D := D) (ci := 10) (v := .int u2) (C := RX10) (T := TX10) (N := 67) hx hb hw inAX10 hown hK hP 0 rfl rfl 4 (by decide) (hw _ q_1265) (fun _ h9 => h9) n313 dX10_next_155 ?_
                  refine lv_iconst (v := 1) hx hb dX10_next_158 (by decide) ?_
                  refine lv_iadd hx hb dX10_next_159 ?_
                  refine lv_topi (fun v314 ev314 => ?_)
                  have bv314 : v314.toInt = u2.toInt + 1 := by rw [ev314]; exact add_k rfl rfl i6 ⟨Int.le_refl _, Int.le_refl _⟩ (by decide)
                  have k315 : 1 ≤ v314.toInt ∧ v314.toInt ≤ 941 := add_r bv314 i6 ⟨Int.le_refl _, Int.le_refl _⟩ (by decide)
                  refine put_f (D := D) (ci := 10) (v := .int v314) (ty := .int) (C := RX10) (T := TX10) (N := 67) hx hb hw inAX10 tyX10 tyX10_ok nmX10 hown hK hP hD hS 0 rfl rfl 4 (by decide) (hw _ q_1265) (fun _ h9 => h9) rfl (by decide +kernel) rfl rfl dX10_next_160 (fun H locs F316 eF316 hP hD hS => ?_)
                  have hP : va_P D vwCl [(h0, .inr (10, vL 67 F316)), (h_tape, .inl (cB, 940, .inl f_tape))] H := hP
                  have hD : va_D A [(h0, .inr (10, vL 67 F316)), (h_tape, .inl (cB, 940, .inl f_tape))] := hD
                  exact ret_v hx hb hr hlocks hS hP hD dX10_next_163 (Nat.le_of_ble_eq_true rfl) (Nat.le_of_ble_eq_true rfl) ⟨F316, v314, 3, u2, 0, r22, x_word, (SAME.up eF316 (SAME.up eF311 (SAME.up eF310 (SAME.up eF9 (SAME.up eF8 (SAME.tr SAME.rf i4 (by decide)) (by decide)) (by decide)) (by decide)) (by decide)) (by decide)), (get_eq eF316), (show 0 ≤ v314.toInt ∧ v314.toInt ≤ 940 from ⟨by omega, by omega⟩), (get_ne eF316 (by decide) (get_ne eF311 (by decide) (get_eq eF310))), (show 0 ≤ (3 : Int32).toInt ∧ (3 : Int32).toInt ≤ 4 by decide), (get_ne eF316 (by decide) (get_ne eF311 (by decide) (get_ne eF310 (by decide) (get_ne eF9 (by decide) (get_eq eF8))))), i6, (get_ne eF316 (by decide) (get_ne eF311 (by decide) (get_ne eF310 (by decide) (get_eq eF9)))), (show 0 ≤ (0 : Int32).toInt ∧ (0 : Int32).toInt ≤ 940 by decide), (get_ne eF316 (by decide) (get_eq eF311)), (get_ne eF316 (by decide) (get_ne eF311 (by decide) (get_ne eF310 (by decide) (get_ne eF9 (by decide) (get_ne eF8 (by decide) (SAME.at i4 (by decide) e_word)))))), (by have zl0 : (0 : Int32).toInt = 0 := (by decide); have zl4 : (4 : Int32).toInt = 4 := (by decide); omega), (by have zl0 : (0 : Int32).toInt = 0 := (by decide); have zl4 : (4 : Int32).toInt = 4 := (by decide); omega), (by have zl0 : (0 : Int32).toInt = 0 := (by decide); have zl3 : (3 : Int32).toInt = 3 := (by decide); omega), rfl⟩
                · have dc308 : r22.toInt ≠ 41 := ne_i (a := r22.toInt) (b := 41) rfl rfl c308
                  refine lv_iload_n hx hb dX10_next_128 rfl (lv_at hl 0 rfl) ?_
                  refine lv_bipush (v := 60) hx hb dX10_next_129 (by decide) ?_
                  refine lv_icmp_lt (tgt := 144) hx hb dX10_next_131 (by decide) (fun c317 => ?_) (fun c317 => ?_)
                  · have dc317 : r22.toInt < 60 := lt_i (a := r22.toInt) (b := 60) rfl rfl c317
                    have k318 : 0 ≤ r22.toInt ∧ r22.toInt ≤ 59 := ⟨k27.1, up_lt dc317 (Int.le_refl _) (by decide)⟩
                    refine lv_iconst (v := 4) hx hb dX10_next_144 (by decide) ?_
                    refine put_f (D := D) (ci := 10) (v := .int 4) (ty := .int) (C := RX10) (T := TX10) (N := 67) hx hb hw inAX10 tyX10 tyX10_ok nmX10 hown hK hP hD hS 0 rfl rfl 11 (by decide) (hw _ q_1272) (fun _ h9 => h9) rfl (by decide +kernel) rfl rfl dX10_next_145 (fun H locs F319 eF319 hP hD hS => ?_)
                    have hP : va_P D vwCl [(h0, .inr (10, vL 67 F319)), (h_tape, .inl (cB, 940, .inl f_tape))] H := hP
                    have hD : va_D A [(h0, .inr (10, vL 67 F319)), (h_tape, .inl (cB, 940, .inl f_tape))] := hD
                    refine lv_aload_n hx hb dX10_next_148 rfl (lv_at hl 1 rfl) ?_
                    refine lv_iload_n hx hb dX10_next_149 rfl (lv_at hl 0 rfl) ?_
                    refine put_f (D := D) (ci := 10) (v := .int r22) (ty := .int) (C := RX10) (T := TX10) (N := 67) hx hb hw inAX10 tyX10 tyX10_ok nmX10 hown hK hP hD hS 0 rfl rfl 14 (by decide) (hw _ q_1275) (fun _ h9 => h9) rfl (by decide +kernel) rfl rfl dX10_next_150 (fun H locs F320 eF320 hP hD hS => ?_)
                    have hP : va_P D vwCl [(h0, .inr (10, vL 67 F320)), (h_tape, .inl (cB, 940, .inl f_tape))] H := hP
                    have hD : va_D A [(h0, .inr (10, vL 67 F320)), (h_tape, .inl (cB, 940, .inl f_tape))] := hD
                    refine lv_aload_n hx hb dX10_next_153 rfl (lv_at hl 1 rfl) ?_
                    refine lv_dup hx hb dX10_next_154 rfl ?_
                    have n321 : F319 4 = .int u2 := (get_ne eF319 (by decide) n21)
                    have n322 : F320 4 = .int u2 := (get_ne eF320 (by decide) n321)
                    refine get_f (D := D) (ci := 10) (v := .int u2) (C := RX10) (T := TX10) (N := 67) hx hb hw inAX10 hown hK hP 0 rfl rfl 4 (by decide) (hw _ q_1265) (fun _ h9 => h9) n322 dX10_next_155 ?_
                    refine lv_iconst (v := 1) hx hb dX10_next_158 (by decide) ?_
                    refine lv_iadd hx hb dX10_next_159 ?_
                    refine lv_topi (fun v323 ev323 => ?_)
                    have bv323 : v323.toInt = u2.toInt + 1 := by rw [ev323]; exact add_k rfl rfl i6 ⟨Int.le_refl _, Int.le_refl _⟩ (by decide)
                    have k324 : 1 ≤ v323.toInt ∧ v323.toInt ≤ 941 := add_r bv323 i6 ⟨Int.le_refl _, Int.le_refl _⟩ (by decide)
                    refine put_f (D := D) (ci := 10) (v := .int v323) (ty := .int) (C := RX10) (T := TX10) (N := 67) hx hb hw inAX10 tyX10 tyX10_ok nmX10 hown hK hP hD hS 0 rfl rfl 4 (by decide) (hw _ q_1265) (fun _ h9 => h9) rfl (by decide +kernel) rfl rfl dX10_next_160 (fun H locs F325 eF325 hP hD hS => ?_)
                    have hP : va_P D vwCl [(h0, .inr (10, vL 67 F325)), (h_tape, .inl (cB, 940, .inl f_tape))] H := hP
                    have hD : va_D A [(h0, .inr (10, vL 67 F325)), (h_tape, .inl (cB, 940, .inl f_tape))] := hD
                    exact ret_v hx hb hr hlocks hS hP hD dX10_next_163 (Nat.le_of_ble_eq_true rfl) (Nat.le_of_ble_eq_true rfl) ⟨F325, v323, 4, u2, 0, r22, x_word, (SAME.up eF325 (SAME.up eF320 (SAME.up eF319 (SAME.up eF9 (SAME.up eF8 (SAME.tr SAME.rf i4 (by decide)) (by decide)) (by decide)) (by decide)) (by decide)) (by decide)), (get_eq eF325), (show 0 ≤ v323.toInt ∧ v323.toInt ≤ 940 from ⟨by omega, by omega⟩), (get_ne eF325 (by decide) (get_ne eF320 (by decide) (get_eq eF319))), (show 0 ≤ (4 : Int32).toInt ∧ (4 : Int32).toInt ≤ 4 by decide), (get_ne eF325 (by decide) (get_ne eF320 (by decide) (get_ne eF319 (by decide) (get_ne eF9 (by decide) (get_eq eF8))))), i6, (get_ne eF325 (by decide) (get_ne eF320 (by decide) (get_ne eF319 (by decide) (get_eq eF9)))), (show 0 ≤ (0 : Int32).toInt ∧ (0 : Int32).toInt ≤ 940 by decide), (get_ne eF325 (by decide) (get_eq eF320)), (get_ne eF325 (by decide) (get_ne eF320 (by decide) (get_ne eF319 (by decide) (get_ne eF9 (by decide) (get_ne eF8 (by decide) (SAME.at i4 (by decide) e_word)))))), (by have zl0 : (0 : Int32).toInt = 0 := (by decide); have zl4 : (4 : Int32).toInt = 4 := (by decide); omega), (by have zl0 : (0 : Int32).toInt = 0 := (by decide); have zl4 : (4 : Int32).toInt = 4 := (by decide); omega), (by have zl0 : (0 : Int32).toInt = 0 := (by decide); have zl4 : (4 : Int32).toInt = 4 := (by decide); omega), rfl⟩
                  · have dc317 : 60 ≤ r22.toInt := nlt_i (a := r22.toInt) (b := 60) rfl rfl c317
                    have k326 : 60 ≤ r22.toInt ∧ r22.toInt ≤ 255 := ⟨Int.le_trans (Int.le_refl _) dc317, k27.2⟩
                    refine lv_iload_n hx hb dX10_next_134 rfl (lv_at hl 0 rfl) ?_
                    refine lv_bipush (v := 62) hx hb dX10_next_135 (by decide) ?_
                    refine lv_icmp_gt (tgt := 144) hx hb dX10_next_137 (by decide) (fun c327 => ?_) (fun c327 => ?_)
                    · have dc327 : 62 < r22.toInt := lt_i (a := 62) (b := r22.toInt) rfl rfl c327
                      have k328 : 63 ≤ r22.toInt ∧ r22.toInt ≤ 255 := ⟨lo_lt dc327 (Int.le_refl _) (by decide), k326.2⟩
                      refine lv_iconst (v := 4) hx hb dX10_next_144 (by decide) ?_
                      refine put_f (D := D) (ci := 10) (v := .int 4) (ty := .int) (C := RX10) (T := TX10) (N := 67) hx hb hw inAX10 tyX10 tyX10_ok nmX10 hown hK hP hD hS 0 rfl rfl 11 (by decide) (hw _ q_1272) (fun _ h9 => h9) rfl (by decide +kernel) rfl rfl dX10_next_145 (fun H locs F329 eF329 hP hD hS => ?_)
                      have hP : va_P D vwCl [(h0, .inr (10, vL 67 F329)), (h_tape, .inl (cB, 940, .inl f_tape))] H := hP
                      have hD : va_D A [(h0, .inr (10, vL 67 F329)), (h_tape, .inl (cB, 940, .inl f_tape))] := hD
                      refine lv_aload_n hx hb dX10_next_148 rfl (lv_at hl 1 rfl) ?_
                      refine lv_iload_n hx hb dX10_next_149 rfl (lv_at hl 0 rfl) ?_
                      refine put_f (D := D) (ci := 10) (v := .int r22) (ty := .int) (C := RX10) (T := TX10) (N := 67) hx hb hw inAX10 tyX10 tyX10_ok nmX10 hown hK hP hD hS 0 rfl rfl 14 (by decide) (hw _ q_1275) (fun _ h9 => h9) rfl (by decide +kernel) rfl rfl dX10_next_150 (fun H locs F330 eF330 hP hD hS => ?_)
                      have hP : va_P D vwCl [(h0, .inr (10, vL 67 F330)), (h_tape, .inl (cB, 940, .inl f_tape))] H := hP
                      have hD : va_D A [(h0, .inr (10, vL 67 F330)), (h_tape, .inl (cB, 940, .inl f_tape))] := hD
                      refine lv_aload_n hx hb dX10_next_153 rfl (lv_at hl 1 rfl) ?_
                      refine lv_dup hx hb dX10_next_154 rfl ?_
                      have n331 : F329 4 = .int u2 := (get_ne eF329 (by decide) n21)
                      have n332 : F330 4 = .int u2 := (get_ne eF330 (by decide) n331)
                      refine get_f (D := D) (ci := 10) (v := .int u2) (C := RX10) (T := TX10) (N := 67) hx hb hw inAX10 hown hK hP 0 rfl rfl 4 (by decide) (hw _ q_1265) (fun _ h9 => h9) n332 dX10_next_155 ?_
                      refine lv_iconst (v := 1) hx hb dX10_next_158 (by decide) ?_
                      refine lv_iadd hx hb dX10_next_159 ?_
                      refine lv_topi (fun v333 ev333 => ?_)
                      have bv333 : v333.toInt = u2.toInt + 1 := by rw [ev333]; exact add_k rfl rfl i6 ⟨Int.le_refl _, Int.le_refl _⟩ (by decide)
                      have k334 : 1 ≤ v333.toInt ∧ v333.toInt ≤ 941 := add_r bv333 i6 ⟨Int.le_refl _, Int.le_refl _⟩ (by decide)
                      refine put_f (D := D) (ci := 10) (v := .int v333) (ty := .int) (C := RX10) (T := TX10) (N := 67) hx hb hw inAX10 tyX10 tyX10_ok nmX10 hown hK hP hD hS 0 rfl rfl 4 (by decide) (hw _ q_1265) (fun _ h9 => h9) rfl (by decide +kernel) rfl rfl dX10_next_160 (fun H locs F335 eF335 hP hD hS => ?_)
                      have hP : va_P D vwCl [(h0, .inr (10, vL 67 F335)), (h_tape, .inl (cB, 940, .inl f_tape))] H := hP
                      have hD : va_D A [(h0, .inr (10, vL 67 F335)), (h_tape, .inl (cB, 940, .inl f_tape))] := hD
                      exact ret_v hx hb hr hlocks hS hP hD dX10_next_163 (Nat.le_of_ble_eq_true rfl) (Nat.le_of_ble_eq_true rfl) ⟨F335, v333, 4, u2, 0, r22, x_word, (SAME.up eF335 (SAME.up eF330 (SAME.up eF329 (SAME.up eF9 (SAME.up eF8 (SAME.tr SAME.rf i4 (by decide)) (by decide)) (by decide)) (by decide)) (by decide)) (by decide)), (get_eq eF335), (show 0 ≤ v333.toInt ∧ v333.toInt ≤ 940 from ⟨by omega, by omega⟩), (get_ne eF335 (by decide) (get_ne eF330 (by decide) (get_eq eF329))), (show 0 ≤ (4 : Int32).toInt ∧ (4 : Int32).toInt ≤ 4 by decide), (get_ne eF335 (by decide) (get_ne eF330 (by decide) (get_ne eF329 (by decide) (get_ne eF9 (by decide) (get_eq eF8))))), i6, (get_ne eF335 (by decide) (get_ne eF330 (by decide) (get_ne eF329 (by decide) (get_eq eF9)))), (show 0 ≤ (0 : Int32).toInt ∧ (0 : Int32).toInt ≤ 940 by decide), (get_ne eF335 (by decide) (get_eq eF330)), (get_ne eF335 (by decide) (get_ne eF330 (by decide) (get_ne eF329 (by decide) (get_ne eF9 (by decide) (get_ne eF8 (by decide) (SAME.at i4 (by decide) e_word)))))), (by have zl0 : (0 : Int32).toInt = 0 := (by decide); have zl4 : (4 : Int32).toInt = 4 := (by decide); omega), (by have zl0 : (0 : Int32).toInt = 0 := (by decide); have zl4 : (4 : Int32).toInt = 4 := (by decide); omega), (by have zl0 : (0 : Int32).toInt = 0 := (by decide); have zl4 : (4 : Int32).toInt = 4 := (by decide); omega), rfl⟩
                    · have dc327 : r22.toInt ≤ 62 := nlt_i (a := 62) (b := r22.toInt) rfl rfl c327
                      have k336 : 60 ≤ r22.toInt ∧ r22.toInt ≤ 62 := ⟨k326.1, Int.le_trans dc327 (Int.le_refl _)⟩
                      refine lv_iconst (v := 3) hx hb dX10_next_140 (by decide) ?_
                      refine lv_goto (tgt := 145) hx hb dX10_next_141 (by decide) ?_
                      refine put_f (D := D) (ci := 10) (v := .int 3) (ty := .int) (C := RX10) (T := TX10) (N := 67) hx hb hw inAX10 tyX10 tyX10_ok nmX10 hown hK hP hD hS 0 rfl rfl 11 (by decide) (hw _ q_1272) (fun _ h9 => h9) rfl (by decide +kernel) rfl rfl dX10_next_145 (fun H locs F337 eF337 hP hD hS => ?_)
                      have hP : va_P D vwCl [(h0, .inr (10, vL 67 F337)), (h_tape, .inl (cB, 940, .inl f_tape))] H := hP
                      have hD : va_D A [(h0, .inr (10, vL 67 F337)), (h_tape, .inl (cB, 940, .inl f_tape))] := hD
                      refine lv_aload_n hx hb dX10_next_148 rfl (lv_at hl 1 rfl) ?_
                      refine lv_iload_n hx hb dX10_next_149 rfl (lv_at hl 0 rfl) ?_
                      refine put_f (D := D) (ci := 10) (v := .int r22) (ty := .int) (C := RX10) (T := TX10) (N := 67) hx hb hw inAX10 tyX10 tyX10_ok nmX10 hown hK hP hD hS 0 rfl rfl 14 (by decide) (hw _ q_1275) (fun _ h9 => h9) rfl (by decide +kernel) rfl rfl dX10_next_150 (fun H locs F338 eF338 hP hD hS => ?_)
                      have hP : va_P D vwCl [(h0, .inr (10, vL 67 F338)), (h_tape, .inl (cB, 940, .inl f_tape))] H := hP
                      have hD : va_D A [(h0, .inr (10, vL 67 F338)), (h_tape, .inl (cB, 940, .inl f_tape))] := hD
                      refine lv_aload_n hx hb dX10_next_153 rfl (lv_at hl 1 rfl) ?_
                      refine lv_dup hx hb dX10_next_154 rfl ?_
                      have n339 : F337 4 = .int u2 := (get_ne eF337 (by decide) n21)
                      have n340 : F338 4 = .int u2 := (get_ne eF338 (by decide) n339)
                      refine get_f (D := D) (ci := 10) (v := .int u2) (C := RX10) (T := TX10) (N := 67) hx hb hw inAX10 hown hK hP 0 rfl rfl 4 (by decide) (hw _ q_1265) (fun _ h9 => h9) n340 dX10_next_155 ?_
                      refine lv_iconst (v := 1) hx hb dX10_next_158 (by decide) ?_
                      refine lv_iadd hx hb dX10_next_159 ?_
                      refine lv_topi (fun v341 ev341 => ?_)
                      have bv341 : v341.toInt = u2.toInt + 1 := by rw [ev341]; exact add_k rfl rfl i6 ⟨Int.le_refl _, Int.le_refl _⟩ (by decide)
                      have k342 : 1 ≤ v341.toInt ∧ v341.toInt ≤ 941 := add_r bv341 i6 ⟨Int.le_refl _, Int.le_refl _⟩ (by decide)
                      refine put_f (D := D) (ci := 10) (v := .int v341) (ty := .int) (C := RX10) (T := TX10) (N := 67) hx hb hw inAX10 tyX10 tyX10_ok nmX10 hown hK hP hD hS 0 rfl rfl 4 (by decide) (hw _ q_1265) (fun _ h9 => h9) rfl (by decide +kernel) rfl rfl dX10_next_160 (fun H locs F343 eF343 hP hD hS => ?_)
                      have hP : va_P D vwCl [(h0, .inr (10, vL 67 F343)), (h_tape, .inl (cB, 940, .inl f_tape))] H := hP
                      have hD : va_D A [(h0, .inr (10, vL 67 F343)), (h_tape, .inl (cB, 940, .inl f_tape))] := hD
                      exact ret_v hx hb hr hlocks hS hP hD dX10_next_163 (Nat.le_of_ble_eq_true rfl) (Nat.le_of_ble_eq_true rfl) ⟨F343, v341, 3, u2, 0, r22, x_word, (SAME.up eF343 (SAME.up eF338 (SAME.up eF337 (SAME.up eF9 (SAME.up eF8 (SAME.tr SAME.rf i4 (by decide)) (by decide)) (by decide)) (by decide)) (by decide)) (by decide)), (get_eq eF343), (show 0 ≤ v341.toInt ∧ v341.toInt ≤ 940 from ⟨by omega, by omega⟩), (get_ne eF343 (by decide) (get_ne eF338 (by decide) (get_eq eF337))), (show 0 ≤ (3 : Int32).toInt ∧ (3 : Int32).toInt ≤ 4 by decide), (get_ne eF343 (by decide) (get_ne eF338 (by decide) (get_ne eF337 (by decide) (get_ne eF9 (by decide) (get_eq eF8))))), i6, (get_ne eF343 (by decide) (get_ne eF338 (by decide) (get_ne eF337 (by decide) (get_eq eF9)))), (show 0 ≤ (0 : Int32).toInt ∧ (0 : Int32).toInt ≤ 940 by decide), (get_ne eF343 (by decide) (get_eq eF338)), (get_ne eF343 (by decide) (get_ne eF338 (by decide) (get_ne eF337 (by decide) (get_ne eF9 (by decide) (get_ne eF8 (by decide) (SAME.at i4 (by decide) e_word)))))), (by have zl0 : (0 : Int32).toInt = 0 := (by decide); have zl4 : (4 : Int32).toInt = 4 := (by decide); omega), (by have zl0 : (0 : Int32).toInt = 0 := (by decide); have zl4 : (4 : Int32).toInt = 4 := (by decide); omega), (by have zl0 : (0 : Int32).toInt = 0 := (by decide); have zl3 : (3 : Int32).toInt = 3 := (by decide); omega), rfl⟩
      · have dc26 : r22.toInt < 0 := nle_i (a := 0) (b := r22.toInt) rfl rfl c26
        have k344 : (-1) ≤ r22.toInt ∧ r22.toInt ≤ (-1) := ⟨t23.1, up_lt dc26 (Int.le_refl _) (by decide)⟩
        refine lv_aload_n hx hb dX10_next_89 rfl (lv_at hl 1 rfl) ?_
        refine lv_iconst (v := 0) hx hb dX10_next_90 (by decide) ?_
        refine put_f (D := D) (ci := 10) (v := .int 0) (ty := .int) (C := RX10) (T := TX10) (N := 67) hx hb hw inAX10 tyX10 tyX10_ok nmX10 hown hK hP hD hS 0 rfl rfl 11 (by decide) (hw _ q_1272) (fun _ h9 => h9) rfl (by decide +kernel) rfl rfl dX10_next_91 (fun H locs F345 eF345 hP hD hS => ?_)
        have hP : va_P D vwCl [(h0, .inr (10, vL 67 F345)), (h_tape, .inl (cB, 940, .inl f_tape))] H := hP
        have hD : va_D A [(h0, .inr (10, vL 67 F345)), (h_tape, .inl (cB, 940, .inl f_tape))] := hD
        exact ret_v hx hb hr hlocks hS hP hD dX10_next_94 (Nat.le_of_ble_eq_true rfl) (Nat.le_of_ble_eq_true rfl) ⟨F345, u2, 0, u2, 0, x_number, x_word, (SAME.up eF345 (SAME.up eF9 (SAME.up eF8 (SAME.tr SAME.rf i4 (by decide)) (by decide)) (by decide)) (by decide)), (get_ne eF345 (by decide) n21), i6, (get_eq eF345), (show 0 ≤ (0 : Int32).toInt ∧ (0 : Int32).toInt ≤ 4 by decide), (get_ne eF345 (by decide) (get_ne eF9 (by decide) (get_eq eF8))), i6, (get_ne eF345 (by decide) (get_eq eF9)), (show 0 ≤ (0 : Int32).toInt ∧ (0 : Int32).toInt ≤ 940 by decide), (get_ne eF345 (by decide) (get_ne eF9 (by decide) (get_ne eF8 (by decide) (SAME.at i4 (by decide) e_number)))), (get_ne eF345 (by decide) (get_ne eF9 (by decide) (get_ne eF8 (by decide) (SAME.at i4 (by decide) e_word)))), (by have zl0 : (0 : Int32).toInt = 0 := (by decide); have zl4 : (4 : Int32).toInt = 4 := (by decide); omega), (by have zl0 : (0 : Int32).toInt = 0 := (by decide); have zl4 : (4 : Int32).toInt = 4 := (by decide); omega), (by have zl0 : (0 : Int32).toInt = 0 := (by decide); omega), rfl⟩
    · have dc16 : x_limit.toInt < x_size.toInt := nle_i (a := x_size.toInt) (b := x_limit.toInt) rfl rfl c16
      have k346 : 200 ≤ x_limit.toInt ∧ x_limit.toInt ≤ 939 := ⟨i_x_limit.1, up_lt dc16 i_x_size.2 (by decide)⟩
      have k347 : 201 ≤ x_size.toInt ∧ x_size.toInt ≤ 940 := ⟨lo_lt dc16 i_x_limit.1 (by decide), i_x_size.2⟩
      refine lv_aload_n hx hb dX10_next_55 rfl (lv_at hl 0 rfl) ?_
      have n348 : F8 4 = .int u2 := (get_ne eF8 (by decide) i5)
      have n349 : F9 4 = .int u2 := (get_ne eF9 (by decide) n348)
      refine get_f (D := D) (ci := 10) (v := .int u2) (C := RX10) (T := TX10) (N := 67) hx hb hw inAX10 hown hK hP 0 rfl rfl 4 (by decide) (hw _ q_1265) (fun _ h9 => h9) n349 dX10_next_56 ?_
      refine lv_aload_n hx hb dX10_next_59 rfl (lv_at hl 0 rfl) ?_
      refine get_f (D := D) (ci := 10) (v := .int x_limit) (C := RX10) (T := TX10) (N := 67) hx hb hw inAX10 hown hK hP 0 rfl rfl 5 (by decide) (hw _ q_1266) (fun _ h9 => h9) n15 dX10_next_60 ?_
      refine lv_icmp_lt (tgt := 80) hx hb dX10_next_63 (by decide) (fun c350 => ?_) (fun c350 => ?_)
      · have dc350 : u2.toInt < x_limit.toInt := lt_i (a := u2.toInt) (b := x_limit.toInt) rfl rfl c350
        have k351 : 0 ≤ u2.toInt ∧ u2.toInt ≤ 938 := ⟨i6.1, up_lt dc350 k346.2 (by decide)⟩
        refine lv_aload_n hx hb dX10_next_80 rfl (lv_at hl 0 rfl) ?_
        have n352 : G1 1 = .ref h_tape := (SAME.at i4 (by decide) e_tape)
        have n353 : F8 1 = .ref h_tape := (get_ne eF8 (by decide) n352)
        have n354 : F9 1 = .ref h_tape := (get_ne eF9 (by decide) n353)
        refine call_Vi (wr := []) (As := []) (rest := []) hx hb hml hown hw (m_X10_peek l D cI cJ cB cP cM cZ h0 h_tape F9 x_size u2 f_tape _ n354 n12 (ir_wk k347 (by decide) (by decide)) n349 (ir_wk k351 (by decide) (by decide))) wV_X10_169_X10_peek dX10_next_81 hK hP hD hS hA [0, 1] [] rfl rfl (by decide) (by decide) (by decide) 0 10 rfl rfl GG.fb hG.at hl.1 rfl (Nat.le_of_ble_eq_true rfl) ⟨(Nat.le_of_ble_eq_true rfl), (Nat.le_of_ble_eq_true rfl)⟩ ⟨(Nat.le_of_ble_eq_true rfl), (Nat.le_of_ble_eq_true rfl)⟩ (fun r355 u H locs hp hP hD hS => ?_)
        obtain ⟨t356, t357, rfl⟩ := hp
        have hP : va_P D vwCl [(h0, .inr (10, vL 67 F9)), (h_tape, .inl (cB, 940, .inl f_tape))] H := hP
        have hD : va_D A [(h0, .inr (10, vL 67 F9)), (h_tape, .inl (cB, 940, .inl f_tape))] := hD
        refine W.widen (k := 0) (n := 0) (Nat.le_of_ble_eq_true rfl) (Nat.le_of_ble_eq_true rfl) ?_
        refine lv_istore_n (lv' := [(1, .int r355), (0, .ref h0)]) hx hb dX10_next_84 rfl hl (by decide) rfl (fun ls hl => ?_)
        refine lv_iload_n hx hb dX10_next_85 rfl (lv_at hl 0 rfl) ?_
        refine lv_if_ge (tgt := 95) hx hb dX10_next_86 (by decide) (fun c359 => ?_) (fun c359 => ?_)
        · have dc359 : 0 ≤ r355.toInt := le_i (a := 0) (b := r355.toInt) rfl rfl c359
          have k360 : 0 ≤ r355.toInt ∧ r355.toInt ≤ 255 := ⟨Int.le_trans (Int.le_refl _) dc359, t356.2⟩
          have cut362 : ∀ (u361 : Int32) (_ : IR 0 1 u361) (_ : (((48 ≤ r355.toInt ∧ r355.toInt ≤ 57 ∧ u361.toInt = 0) ∨ (97 ≤ r355.toInt ∧ r355.toInt ≤ 122 ∧ u361.toInt = 1)))) (H : Heap) (locs : List Loc) (ls : Array Slot), va_P D vwCl [(h0, .inr (10, vL 67 F9)), (h_tape, .inl (cB, 940, .inl f_tape))] H → va_D A [(h0, .inr (10, vL 67 F9)), (h_tape, .inl (cB, 940, .inl f_tape))] → va_S A s.heap H locs → lv_has ls 4 [(3, .int 1), (2, .int u361), (1, .int r355), (0, .ref h0)] → W p l e ({ frames := 1, cells := 0, slots := 0, locals := 20 } : Room) s m [.ref h0].toArray below meth c H locs 0 0 (MQ below (va_Qv (fun (u : va_W) => ∃ (Gh : Nat → Value) (y_p : Int32) (y_token : Int32) (y_at : Int32) (y_span : Int32) (y_number : Int32) (y_word : Int64), SAME [4, 11, 12, 13, 14, 18] Fh Gh ∧ Gh 4 = .int y_p ∧ IR 0 940 y_p ∧ Gh 11 = .int y_token ∧ IR 0 4 y_token ∧ Gh 12 = .int y_at ∧ IR 0 940 y_at ∧ Gh 13 = .int y_span ∧ IR 0 940 y_span ∧ Gh 14 = .int y_number ∧ Gh 18 = .long y_word ∧ (x_p.toInt ≤ y_p.toInt) ∧ ((1 ≤ y_token.toInt → y_token.toInt ≤ 3 → x_p.toInt < y_p.toInt)) ∧ ((y_token.toInt = 2 → 0 ≤ y_number.toInt ∧ y_number.toInt ≤ 999)) ∧ u = [(h0, .inr (10, vL 67 Gh)), (h_tape, .inl (cB, 940, .inl f_tape))]) (PO D A) A) [.ref h0].toArray s 0 0 A) (F0 m 171 ls []) := by
            intro u361 i363 i364 H locs ls hP hD hS hl
            have i363 : 0 ≤ u361.toInt ∧ u361.toInt ≤ 1 := i363
            have i364 : ((48 ≤ r355.toInt ∧ r355.toInt ≤ 57 ∧ u361.toInt = 0) ∨ (97 ≤ r355.toInt ∧ r355.toInt ≤ 122 ∧ u361.toInt = 1)) := i364
            refine lv_aload_n hx hb dX10_next_171 rfl (lv_at hl 3 rfl) ?_
            refine lv_lconst (v := 0) hx hb dX10_next_172 (by decide) ?_
            refine put_f (D := D) (ci := 10) (v := .long 0) (ty := .long) (C := RX10) (T := TX10) (N := 67) hx hb hw inAX10 tyX10 tyX10_ok nmX10 hown hK hP hD hS 0 rfl rfl 18 (by decide) (hw _ q_1279) (fun _ h9 => h9) rfl (by decide +kernel) rfl rfl dX10_next_173 (fun H locs F365 eF365 hP hD hS => ?_)
            have hP : va_P D vwCl [(h0, .inr (10, vL 67 F365)), (h_tape, .inl (cB, 940, .inl f_tape))] H := hP
            have hD : va_D A [(h0, .inr (10, vL 67 F365)), (h_tape, .inl (cB, 940, .inl f_tape))] := hD
            refine lv_aload_n hx hb dX10_next_176 rfl (lv_at hl 3 rfl) ?_
            refine lv_iconst (v := 0) hx hb dX10_next_177 (by decide) ?_
            refine put_f (D := D) (ci := 10) (v := .int 0) (ty := .int) (C := RX10) (T := TX10) (N := 67) hx hb hw inAX10 tyX10 tyX10_ok nmX10 hown hK hP hD hS 0 rfl rfl 14 (by decide) (hw _ q_1275) (fun _ h9 => h9) rfl (by decide +kernel) rfl rfl dX10_next_178 (fun H locs F366 eF366 hP hD hS => ?_)
            have hP : va_P D vwCl [(h0, .inr (10, vL 67 F366)), (h_tape, .inl (cB, 940, .inl f_tape))] H := hP
            have hD : va_D A [(h0, .inr (10, vL 67 F366)), (h_tape, .inl (cB, 940, .inl f_tape))] := hD
            have cut373 : ∀ (u367 : Int32) (G368 : Nat → Value) (u369 : Int32) (u370 : Int32) (u371 : Int32) (u372 : Int64) (_ : IR 0 1 u367) (_ : SAME [4, 13, 14, 18] F366 G368) (_ : G368 4 = .int u369) (_ : G368 13 = .int u370) (_ : G368 14 = .int u371) (_ : G368 18 = .long u372) (_ : IR 0 940 u369) (_ : IR 0 940 u370) (_ : (0 ≤ u370.toInt ∧ u370.toInt ≤ u369.toInt ∧ x_p.toInt + u370.toInt ≤ u369.toInt ∧ (u370.toInt = 0 → u369.toInt = u2.toInt))) (_ : (u367.toInt = 1 → u361.toInt = 0 → (0 ≤ u371.toInt ∧ u371.toInt ≤ 999 ∧ (u370.toInt = 0 → u371.toInt = 0) ∧ (u370.toInt = 1 → u371.toInt ≤ 9) ∧ (u370.toInt = 2 → u371.toInt ≤ 99)))) (_ : (1 ≤ u370.toInt)) (H : Heap) (locs : List Loc) (ls : Array Slot), va_P D vwCl [(h0, .inr (10, vL 67 G368)), (h_tape, .inl (cB, 940, .inl f_tape))] H → va_D A [(h0, .inr (10, vL 67 G368)), (h_tape, .inl (cB, 940, .inl f_tape))] → va_S A s.heap H locs → lv_has ls 4 [(3, .int u367), (2, .int u361), (1, .int r355), (0, .ref h0)] → W p l e ({ frames := 1, cells := 0, slots := 0, locals := 20 } : Room) s m [.ref h0].toArray below meth c H locs 0 0 (MQ below (va_Qv (fun (u : va_W) => ∃ (Gh : Nat → Value) (y_p : Int32) (y_token : Int32) (y_at : Int32) (y_span : Int32) (y_number : Int32) (y_word : Int64), SAME [4, 11, 12, 13, 14, 18] Fh Gh ∧ Gh 4 = .int y_p ∧ IR 0 940 y_p ∧ Gh 11 = .int y_token ∧ IR 0 4 y_token ∧ Gh 12 = .int y_at ∧ IR 0 940 y_at ∧ Gh 13 = .int y_span ∧ IR 0 940 y_span ∧ Gh 14 = .int y_number ∧ Gh 18 = .long y_word ∧ (x_p.toInt ≤ y_p.toInt) ∧ ((1 ≤ y_token.toInt → y_token.toInt ≤ 3 → x_p.toInt < y_p.toInt)) ∧ ((y_token.toInt = 2 → 0 ≤ y_number.toInt ∧ y_number.toInt ≤ 999)) ∧ u = [(h0, .inr (10, vL 67 Gh)), (h_tape, .inl (cB, 940, .inl f_tape))]) (PO D A) A) [.ref h0].toArray s 0 0 A) (F0 m 298 ls []) := by
              intro u367 G368 u369 u370 u371 u372 i374 i375 i376 i377 i378 i379 i380 i381 i382 i383 i384 H locs ls hP hD hS hl
              have i374 : 0 ≤ u367.toInt ∧ u367.toInt ≤ 1 := i374
              have i380 : 0 ≤ u369.toInt ∧ u369.toInt ≤ 940 := i380
              have i381 : 0 ≤ u370.toInt ∧ u370.toInt ≤ 940 := i381
              have i382 : 0 ≤ u370.toInt ∧ u370.toInt ≤ u369.toInt ∧ x_p.toInt + u370.toInt ≤ u369.toInt ∧ (u370.toInt = 0 → u369.toInt = u2.toInt) := i382
              have i383 : u367.toInt = 1 → u361.toInt = 0 → (0 ≤ u371.toInt ∧ u371.toInt ≤ 999 ∧ (u370.toInt = 0 → u371.toInt = 0) ∧ (u370.toInt = 1 → u371.toInt ≤ 9) ∧ (u370.toInt = 2 → u371.toInt ≤ 99)) := i383
              have i384 : 1 ≤ u370.toInt := i384
              refine lv_aload_n hx hb dX10_next_298 rfl (lv_at hl 3 rfl) ?_
              refine lv_iload_n hx hb dX10_next_299 rfl (lv_at hl 0 rfl) ?_
              refine lv_if_eq (tgt := 320) hx hb dX10_next_300 (by decide) (fun c385 => ?_) (fun c385 => ?_)
              · have dc385 : u367.toInt = 0 := eq_i (a := u367.toInt) (b := 0) rfl rfl c385
                have k386 : 0 ≤ u367.toInt ∧ u367.toInt ≤ 0 := ⟨i374.1, Int.le_trans (Int.le_of_eq dc385) (Int.le_refl _)⟩
                refine lv_iconst (v := 4) hx hb dX10_next_320 (by decide) ?_
                refine lv_goto (tgt := 333) hx hb dX10_next_321 (by decide) ?_
                refine put_f (D := D) (ci := 10) (v := .int 4) (ty := .int) (C := RX10) (T := TX10) (N := 67) hx hb hw inAX10 tyX10 tyX10_ok nmX10 hown hK hP hD hS 0 rfl rfl 11 (by decide) (hw _ q_1272) (fun _ h9 => h9) rfl (by decide +kernel) rfl rfl dX10_next_333 (fun H locs F387 eF387 hP hD hS => ?_)
                have hP : va_P D vwCl [(h0, .inr (10, vL 67 F387)), (h_tape, .inl (cB, 940, .inl f_tape))] H := hP
                have hD : va_D A [(h0, .inr (10, vL 67 F387)), (h_tape, .inl (cB, 940, .inl f_tape))] := hD
                exact ret_v hx hb hr hlocks hS hP hD dX10_next_336 (Nat.le_of_ble_eq_true rfl) (Nat.le_of_ble_eq_true rfl) ⟨F387, u369, 4, u2, u370, u371, u372, (SAME.up eF387 (SAME.tr (SAME.up eF366 (SAME.up eF365 (SAME.up eF9 (SAME.up eF8 (SAME.tr SAME.rf i4 (by decide)) (by decide)) (by decide)) (by decide)) (by decide)) i375 (by decide)) (by decide)), (get_ne eF387 (by decide) i376), i380, (get_eq eF387), (show 0 ≤ (4 : Int32).toInt ∧ (4 : Int32).toInt ≤ 4 by decide), (get_ne eF387 (by decide) (SAME.at i375 (by decide) (get_ne eF366 (by decide) (get_ne eF365 (by decide) (get_ne eF9 (by decide) (get_eq eF8)))))), (ir_wk k351 (by decide) (by decide)), (get_ne eF387 (by decide) i377), i381, (get_ne eF387 (by decide) i378), (get_ne eF387 (by decide) i379), (by have zl0 : (0 : Int32).toInt = 0 := (by decide); have zl4 : (4 : Int32).toInt = 4 := (by decide); omega), (by have zl0 : (0 : Int32).toInt = 0 := (by decide); have zl4 : (4 : Int32).toInt = 4 := (by decide); omega), (by have zl4 : (4 : Int32).toInt = 4 := (by decide); omega), rfl⟩
              · have dc385 : u367.toInt ≠ 0 := ne_i (a := u367.toInt) (b := 0) rfl rfl c385
                have k388 : 1 ≤ u367.toInt ∧ u367.toInt ≤ 1 := ⟨ne_lo dc385 i374.1 ⟨Int.le_refl _, Int.le_refl _⟩ (by decide), i374.2⟩
                refine lv_aload_n hx hb dX10_next_303 rfl (lv_at hl 3 rfl) ?_
                refine get_f (D := D) (ci := 10) (v := .int u370) (C := RX10) (T := TX10) (N := 67) hx hb hw inAX10 hown hK hP 0 rfl rfl 13 (by decide) (hw _ q_1274) (fun _ h9 => h9) i377 dX10_next_304 ?_
                refine lv_iload_n hx hb dX10_next_307 rfl (lv_at hl 1 rfl) ?_
                refine lv_if_eq (tgt := 316) hx hb dX10_next_308 (by decide) (fun c389 => ?_) (fun c389 => ?_)
                · have dc389 : u361.toInt = 0 := eq_i (a := u361.toInt) (b := 0) rfl rfl c389
                  have k390 : 0 ≤ u361.toInt ∧ u361.toInt ≤ 0 := ⟨i363.1, Int.le_trans (Int.le_of_eq dc389) (Int.le_refl _)⟩
                  refine lv_iconst (v := 3) hx hb dX10_next_316 (by decide) ?_
                  refine lv_icmp_le (tgt := 324) hx hb dX10_next_317 (by decide) (fun c391 => ?_) (fun c391 => ?_)
                  · have dc391 : u370.toInt ≤ 3 := le_i (a := u370.toInt) (b := 3) rfl rfl c391
                    have k392 : 0 ≤ u370.toInt ∧ u370.toInt ≤ 3 := ⟨i381.1, Int.le_trans dc391 (Int.le_refl _)⟩
                    refine lv_iload_n hx hb dX10_next_324 rfl (lv_at hl 1 rfl) ?_
                    refine lv_if_eq (tgt := 332) hx hb dX10_next_325 (by decide) (fun c393 => ?_) (fun c393 => False.elim (bad_ne (ne_i (a := u361.toInt) (b := 0) rfl rfl c393) k390 ⟨Int.le_refl _, Int.le_refl _⟩ (by decide)))
                    have dc393 : u361.toInt = 0 := eq_i (a := u361.toInt) (b := 0) rfl rfl c393
                    refine lv_iconst (v := 2) hx hb dX10_next_332 (by decide) ?_
                    refine put_f (D := D) (ci := 10) (v := .int 2) (ty := .int) (C := RX10) (T := TX10) (N := 67) hx hb hw inAX10 tyX10 tyX10_ok nmX10 hown hK hP hD hS 0 rfl rfl 11 (by decide) (hw _ q_1272) (fun _ h9 => h9) rfl (by decide +kernel) rfl rfl dX10_next_333 (fun H locs F394 eF394 hP hD hS => ?_)
                    have hP : va_P D vwCl [(h0, .inr (10, vL 67 F394)), (h_tape, .inl (cB, 940, .inl f_tape))] H := hP
                    have hD : va_D A [(h0, .inr (10, vL 67 F394)), (h_tape, .inl (cB, 940, .inl f_tape))] := hD
                    exact ret_v hx hb hr hlocks hS hP hD dX10_next_336 (Nat.le_of_ble_eq_true rfl) (Nat.le_of_ble_eq_true rfl) ⟨F394, u369, 2, u2, u370, u371, u372, (SAME.up eF394 (SAME.tr (SAME.up eF366 (SAME.up eF365 (SAME.up eF9 (SAME.up eF8 (SAME.tr SAME.rf i4 (by decide)) (by decide)) (by decide)) (by decide)) (by decide)) i375 (by decide)) (by decide)), (get_ne eF394 (by decide) i376), i380, (get_eq eF394), (show 0 ≤ (2 : Int32).toInt ∧ (2 : Int32).toInt ≤ 4 by decide), (get_ne eF394 (by decide) (SAME.at i375 (by decide) (get_ne eF366 (by decide) (get_ne eF365 (by decide) (get_ne eF9 (by decide) (get_eq eF8)))))), (ir_wk k351 (by decide) (by decide)), (get_ne eF394 (by decide) i377), (ir_wk k392 (by decide) (by decide)), (get_ne eF394 (by decide) i378), (get_ne eF394 (by decide) i379), (by have zl0 : (0 : Int32).toInt = 0 := (by decide); have zl4 : (4 : Int32).toInt = 4 := (by decide); omega), (by have zl0 : (0 : Int32).toInt = 0 := (by decide); have zl4 : (4 : Int32).toInt = 4 := (by decide); omega), (by have zl2 : (2 : Int32).toInt = 2 := (by decide); omega), rfl⟩
                  · have dc391 : 3 < u370.toInt := nle_i (a := u370.toInt) (b := 3) rfl rfl c391
                    have k395 : 4 ≤ u370.toInt ∧ u370.toInt ≤ 940 := ⟨lo_lt dc391 (Int.le_refl _) (by decide), i381.2⟩
                    refine lv_iconst (v := 4) hx hb dX10_next_320 (by decide) ?_
                    refine lv_goto (tgt := 333) hx hb dX10_next_321 (by decide) ?_
                    refine put_f (D := D) (ci := 10) (v := .int 4) (ty := .int) (C := RX10) (T := TX10) (N := 67) hx hb hw inAX10 tyX10 tyX10_ok nmX10 hown hK hP hD hS 0 rfl rfl 11 (by decide) (hw _ q_1272) (fun _ h9 => h9) rfl (by decide +kernel) rfl rfl dX10_next_333 (fun H locs F396 eF396 hP hD hS => ?_)
                    have hP : va_P D vwCl [(h0, .inr (10, vL 67 F396)), (h_tape, .inl (cB, 940, .inl f_tape))] H := hP
                    have hD : va_D A [(h0, .inr (10, vL 67 F396)), (h_tape, .inl (cB, 940, .inl f_tape))] := hD
                    exact ret_v hx hb hr hlocks hS hP hD dX10_next_336 (Nat.le_of_ble_eq_true rfl) (Nat.le_of_ble_eq_true rfl) ⟨F396, u369, 4, u2, u370, u371, u372, (SAME.up eF396 (SAME.tr (SAME.up eF366 (SAME.up eF365 (SAME.up eF9 (SAME.up eF8 (SAME.tr SAME.rf i4 (by decide)) (by decide)) (by decide)) (by decide)) (by decide)) i375 (by decide)) (by decide)), (get_ne eF396 (by decide) i376), i380, (get_eq eF396), (show 0 ≤ (4 : Int32).toInt ∧ (4 : Int32).toInt ≤ 4 by decide), (get_ne eF396 (by decide) (SAME.at i375 (by decide) (get_ne eF366 (by decide) (get_ne eF365 (by decide) (get_ne eF9 (by decide) (get_eq eF8)))))), (ir_wk k351 (by decide) (by decide)), (get_ne eF396 (by decide) i377), (ir_wk k395 (by decide) (by decide)), (get_ne eF396 (by decide) i378), (get_ne eF396 (by decide) i379), (by have zl0 : (0 : Int32).toInt = 0 := (by decide); have zl4 : (4 : Int32).toInt = 4 := (by decide); omega), (by have zl0 : (0 : Int32).toInt = 0 := (by decide); have zl4 : (4 : Int32).toInt = 4 := (by decide); omega), (by have zl4 : (4 : Int32).toInt = 4 := (by decide); omega), rfl⟩
                · have dc389 : u361.toInt ≠ 0 := ne_i (a := u361.toInt) (b := 0) rfl rfl c389
                  have k397 : 1 ≤ u361.toInt ∧ u361.toInt ≤ 1 := ⟨ne_lo dc389 i363.1 ⟨Int.le_refl _, Int.le_refl _⟩ (by decide), i363.2⟩
                  refine lv_bipush (v := 7) hx hb dX10_next_311 (by decide) ?_
                  refine lv_goto (tgt := 317) hx hb dX10_next_313 (by decide) ?_
                  refine lv_icmp_le (tgt := 324) hx hb dX10_next_317 (by decide) (fun c398 => ?_) (fun c398 => ?_)
                  · have dc398 : u370.toInt ≤ 7 := le_i (a := u370.toInt) (b := 7) rfl rfl c398
                    have k399 : 0 ≤ u370.toInt ∧ u370.toInt ≤ 7 := ⟨i381.1, Int.le_trans dc398 (Int.le_refl _)⟩
                    refine lv_iload_n hx hb dX10_next_324 rfl (lv_at hl 1 rfl) ?_
                    refine lv_if_eq (tgt := 332) hx hb dX10_next_325 (by decide) (fun c400 => False.elim (bad_le (Int.le_of_eq (eq_i (a := u361.toInt) (b := 0) rfl rfl c400)) k397.1 (Int.le_refl _) (by decide))) (fun c400 => ?_)
                    have dc400 : u361.toInt ≠ 0 := ne_i (a := u361.toInt) (b := 0) rfl rfl c400
                    refine lv_iconst (v := 1) hx hb dX10_next_328 (by decide) ?_
                    refine lv_goto (tgt := 333) hx hb dX10_next_329 (by decide) ?_
                    refine put_f (D := D) (ci := 10) (v := .int 1) (ty := .int) (C := RX10) (T := TX10) (N := 67) hx hb hw inAX10 tyX10 tyX10_ok nmX10 hown hK hP hD hS 0 rfl rfl 11 (by decide) (hw _ q_1272) (fun _ h9 => h9) rfl (by decide +kernel) rfl rfl dX10_next_333 (fun H locs F401 eF401 hP hD hS => ?_)
                    have hP : va_P D vwCl [(h0, .inr (10, vL 67 F401)), (h_tape, .inl (cB, 940, .inl f_tape))] H := hP
                    have hD : va_D A [(h0, .inr (10, vL 67 F401)), (h_tape, .inl (cB, 940, .inl f_tape))] := hD
                    exact ret_v hx hb hr hlocks hS hP hD dX10_next_336 (Nat.le_of_ble_eq_true rfl) (Nat.le_of_ble_eq_true rfl) ⟨F401, u369, 1, u2, u370, u371, u372, (SAME.up eF401 (SAME.tr (SAME.up eF366 (SAME.up eF365 (SAME.up eF9 (SAME.up eF8 (SAME.tr SAME.rf i4 (by decide)) (by decide)) (by decide)) (by decide)) (by decide)) i375 (by decide)) (by decide)), (get_ne eF401 (by decide) i376), i380, (get_eq eF401), (show 0 ≤ (1 : Int32).toInt ∧ (1 : Int32).toInt ≤ 4 by decide), (get_ne eF401 (by decide) (SAME.at i375 (by decide) (get_ne eF366 (by decide) (get_ne eF365 (by decide) (get_ne eF9 (by decide) (get_eq eF8)))))), (ir_wk k351 (by decide) (by decide)), (get_ne eF401 (by decide) i377), (ir_wk k399 (by decide) (by decide)), (get_ne eF401 (by decide) i378), (get_ne eF401 (by decide) i379), (by have zl0 : (0 : Int32).toInt = 0 := (by decide); have zl4 : (4 : Int32).toInt = 4 := (by decide); omega), (by have zl0 : (0 : Int32).toInt = 0 := (by decide); have zl4 : (4 : Int32).toInt = 4 := (by decide); omega), (by have zl1 : (1 : Int32).toInt = 1 := (by decide); omega), rfl⟩
                  · have dc398 : 7 < u370.toInt := nle_i (a := u370.toInt) (b := 7) rfl rfl c398
                    have k402 : 8 ≤ u370.toInt ∧ u370.toInt ≤ 940 := ⟨lo_lt dc398 (Int.le_refl _) (by decide), i381.2⟩
                    refine lv_iconst (v := 4) hx hb dX10_next_320 (by decide) ?_
                    refine lv_goto (tgt := 333) hx hb dX10_next_321 (by decide) ?_
                    refine put_f (D := D) (ci := 10) (v := .int 4) (ty := .int) (C := RX10) (T := TX10) (N := 67) hx hb hw inAX10 tyX10 tyX10_ok nmX10 hown hK hP hD hS 0 rfl rfl 11 (by decide) (hw _ q_1272) (fun _ h9 => h9) rfl (by decide +kernel) rfl rfl dX10_next_333 (fun H locs F403 eF403 hP hD hS => ?_)
                    have hP : va_P D vwCl [(h0, .inr (10, vL 67 F403)), (h_tape, .inl (cB, 940, .inl f_tape))] H := hP
                    have hD : va_D A [(h0, .inr (10, vL 67 F403)), (h_tape, .inl (cB, 940, .inl f_tape))] := hD
                    exact ret_v hx hb hr hlocks hS hP hD dX10_next_336 (Nat.le_of_ble_eq_true rfl) (Nat.le_of_ble_eq_true rfl) ⟨F403, u369, 4, u2, u370, u371, u372, (SAME.up eF403 (SAME.tr (SAME.up eF366 (SAME.up eF365 (SAME.up eF9 (SAME.up eF8 (SAME.tr SAME.rf i4 (by decide)) (by decide)) (by decide)) (by decide)) (by decide)) i375 (by decide)) (by decide)), (get_ne eF403 (by decide) i376), i380, (get_eq eF403), (show 0 ≤ (4 : Int32).toInt ∧ (4 : Int32).toInt ≤ 4 by decide), (get_ne eF403 (by decide) (SAME.at i375 (by decide) (get_ne eF366 (by decide) (get_ne eF365 (by decide) (get_ne eF9 (by decide) (get_eq eF8)))))), (ir_wk k351 (by decide) (by decide)), (get_ne eF403 (by decide) i377), (ir_wk k402 (by decide) (by decide)), (get_ne eF403 (by decide) i378), (get_ne eF403 (by decide) i379), (by have zl0 : (0 : Int32).toInt = 0 := (by decide); have zl4 : (4 : Int32).toInt = 4 := (by decide); omega), (by have zl0 : (0 : Int32).toInt = 0 := (by decide); have zl4 : (4 : Int32).toInt = 4 := (by decide); omega), (by have zl4 : (4 : Int32).toInt = 4 := (by decide); omega), rfl⟩
            have n404 : F365 4 = .int u2 := (get_ne eF365 (by decide) n349)
            have n405 : F366 4 = .int u2 := (get_ne eF366 (by decide) n404)
            have n406 : F365 13 = .int 0 := (get_ne eF365 (by decide) (get_eq eF9))
            have n407 : F366 13 = .int 0 := (get_ne eF366 (by decide) n406)
            have n408 : F366 18 = .long 0 := (get_ne eF366 (by decide) (get_eq eF365))
            refine mloop (α := (Int32) × (Nat → Value) × (Int32) × (Int32) × (Int32) × (Int64)) (nL := 4) (D := D) (A := A) (H0 := s.heap) (fun a => (x_size.toInt - a.2.2.1.toInt).toNat) (fun a => IR 0 1 a.1 ∧ SAME [4, 13, 14, 18] F366 a.2.1 ∧ a.2.1 4 = .int a.2.2.1 ∧ a.2.1 13 = .int a.2.2.2.1 ∧ a.2.1 14 = .int a.2.2.2.2.1 ∧ a.2.1 18 = .long a.2.2.2.2.2 ∧ IR 0 940 a.2.2.1 ∧ IR 0 940 a.2.2.2.1 ∧ (0 ≤ a.2.2.2.1.toInt ∧ a.2.2.2.1.toInt ≤ a.2.2.1.toInt ∧ x_p.toInt + a.2.2.2.1.toInt ≤ a.2.2.1.toInt ∧ (a.2.2.2.1.toInt = 0 → a.2.2.1.toInt = u2.toInt)) ∧ (a.1.toInt = 1 → u361.toInt = 0 → (0 ≤ a.2.2.2.2.1.toInt ∧ a.2.2.2.2.1.toInt ≤ 999 ∧ (a.2.2.2.1.toInt = 0 → a.2.2.2.2.1.toInt = 0) ∧ (a.2.2.2.1.toInt = 1 → a.2.2.2.2.1.toInt ≤ 9) ∧ (a.2.2.2.1.toInt = 2 → a.2.2.2.2.1.toInt ≤ 99)))) (fun a => [(h0, .inr (10, vL 67 a.2.1)), (h_tape, .inl (cB, 940, .inl f_tape))]) (fun a => [(3, .int a.1), (2, .int u361), (1, .int r355), (0, .ref h0)]) (fun H locs ls => W p l e ({ frames := 1, cells := 0, slots := 0, locals := 20 } : Room) s m [.ref h0].toArray below meth c H locs 0 0 (MQ below (va_Qv (fun (u : va_W) => ∃ (Gh : Nat → Value) (y_p : Int32) (y_token : Int32) (y_at : Int32) (y_span : Int32) (y_number : Int32) (y_word : Int64), SAME [4, 11, 12, 13, 14, 18] Fh Gh ∧ Gh 4 = .int y_p ∧ IR 0 940 y_p ∧ Gh 11 = .int y_token ∧ IR 0 4 y_token ∧ Gh 12 = .int y_at ∧ IR 0 940 y_at ∧ Gh 13 = .int y_span ∧ IR 0 940 y_span ∧ Gh 14 = .int y_number ∧ Gh 18 = .long y_word ∧ (x_p.toInt ≤ y_p.toInt) ∧ ((1 ≤ y_token.toInt → y_token.toInt ≤ 3 → x_p.toInt < y_p.toInt)) ∧ ((y_token.toInt = 2 → 0 ≤ y_number.toInt ∧ y_number.toInt ≤ 999)) ∧ u = [(h0, .inr (10, vL 67 Gh)), (h_tape, .inl (cB, 940, .inl f_tape))]) (PO D A) A) [.ref h0].toArray s 0 0 A) (F0 m 181 ls [])) ?_ (1, F366, u2, 0, 0, 0) ⟨(show 0 ≤ (1 : Int32).toInt ∧ (1 : Int32).toInt ≤ 1 by decide), SAME.rf, n405, n407, (get_eq eF366), n408, (ir_wk k351 (by decide) (by decide)), (show 0 ≤ (0 : Int32).toInt ∧ (0 : Int32).toInt ≤ 940 by decide), (by show 0 ≤ 0 ∧ 0 ≤ u2.toInt ∧ x_p.toInt + 0 ≤ u2.toInt ∧ (0 = 0 → u2.toInt = u2.toInt); omega), (by show 1 = 1 → u361.toInt = 0 → (0 ≤ 0 ∧ 0 ≤ 999 ∧ (0 = 0 → 0 = 0) ∧ (0 = 1 → 0 ≤ 9) ∧ (0 = 2 → 0 ≤ 99)); omega)⟩ _ _ _ hP hD hS hl
            rintro ⟨u367, G368, u369, u370, u371, u372⟩ ⟨i409, i410, i411, i412, i413, i414, i415, i416, i417, i418⟩ ih H locs ls hP hD hS hl
            have i409 : 0 ≤ u367.toInt ∧ u367.toInt ≤ 1 := i409
            have i415 : 0 ≤ u369.toInt ∧ u369.toInt ≤ 940 := i415
            have i416 : 0 ≤ u370.toInt ∧ u370.toInt ≤ 940 := i416
            have i417 : 0 ≤ u370.toInt ∧ u370.toInt ≤ u369.toInt ∧ x_p.toInt + u370.toInt ≤ u369.toInt ∧ (u370.toInt = 0 → u369.toInt = u2.toInt) := i417
            have i418 : u367.toInt = 1 → u361.toInt = 0 → (0 ≤ u371.toInt ∧ u371.toInt ≤ 999 ∧ (u370.toInt = 0 → u371.toInt = 0) ∧ (u370.toInt = 1 → u371.toInt ≤ 9) ∧ (u370.toInt = 2 → u371.toInt ≤ 99)) := i418
            have hP : va_P D vwCl [(h0, .inr (10, vL 67 G368)), (h_tape, .inl (cB, 940, .inl f_tape))] H := hP
            have hD : va_D A [(h0, .inr (10, vL 67 G368)), (h_tape, .inl (cB, 940, .inl f_tape))] := hD
            have hl : lv_has ls 4 [(3, .int u367), (2, .int u361), (1, .int r355), (0, .ref h0)] := hl
            refine lv_aload_n hx hb dX10_next_181 rfl (lv_at hl 3 rfl) ?_
            have n419 : F365 1 = .ref h_tape := (get_ne eF365 (by decide) n354)
            have n420 : F366 1 = .ref h_tape := (get_ne eF366 (by decide) n419)
            have n421 : G368 1 = .ref h_tape := (SAME.at i410 (by decide) n420)
            have n422 : F365 3 = .int x_size := (get_ne eF365 (by decide) n12)
            have n423 : F366 3 = .int x_size := (get_ne eF366 (by decide) n422)
            have n424 : G368 3 = .int x_size := (SAME.at i410 (by decide) n423)
            refine call_Vi (wr := []) (As := []) (rest := []) hx hb hml hown hw (m_X10_peek l D cI cJ cB cP cM cZ h0 h_tape G368 x_size u369 f_tape _ n421 n424 (ir_wk k347 (by decide) (by decide)) i411 i415) wV_X10_169_X10_peek dX10_next_182 hK hP hD hS hA [0, 1] [] rfl rfl (by decide) (by decide) (by decide) 0 10 rfl rfl GG.fb hG.at hl.1 rfl (Nat.le_of_ble_eq_true rfl) ⟨(Nat.le_of_ble_eq_true rfl), (Nat.le_of_ble_eq_true rfl)⟩ ⟨(Nat.le_of_ble_eq_true rfl), (Nat.le_of_ble_eq_true rfl)⟩ (fun r425 u H locs hp hP hD hS => ?_)
            obtain ⟨t426, t427, rfl⟩ := hp
            have hP : va_P D vwCl [(h0, .inr (10, vL 67 G368)), (h_tape, .inl (cB, 940, .inl f_tape))] H := hP
            have hD : va_D A [(h0, .inr (10, vL 67 G368)), (h_tape, .inl (cB, 940, .inl f_tape))] := hD
            refine W.widen (k := 0) (n := 0) (Nat.le_of_ble_eq_true rfl) (Nat.le_of_ble_eq_true rfl) ?_
            refine call_Si (wr := [(h0, .inr (10, vL 67 G368)), (h_tape, .inl (cB, 940, .inl f_tape))]) (As := [.int r425]) (rest := []) hx hb hml hown hw (m_X10_isSmall l D cI cJ cB cP cM cZ r425 _ ) wS_X10_182_X10_isSmall dX10_next_185 hP hD hS hA [] [0, 1] rfl rfl (by decide) (by decide) (by decide) GG.fb hG.at hl.1 rfl (Nat.le_of_ble_eq_true rfl) ⟨(Nat.le_of_ble_eq_true rfl), (Nat.le_of_ble_eq_true rfl)⟩ ⟨(Nat.le_of_ble_eq_true rfl), (Nat.le_of_ble_eq_true rfl)⟩ (fun r429 u H locs hp hP hD hS => ?_)
            obtain ⟨t430, t431, rfl⟩ := hp
            have hP : va_P D vwCl [(h0, .inr (10, vL 67 G368)), (h_tape, .inl (cB, 940, .inl f_tape))] H := hP
            have hD : va_D A [(h0, .inr (10, vL 67 G368)), (h_tape, .inl (cB, 940, .inl f_tape))] := hD
            refine W.widen (k := 0) (n := 0) (Nat.le_of_ble_eq_true rfl) (Nat.le_of_ble_eq_true rfl) ?_
            refine lv_if_ne (tgt := 201) hx hb dX10_next_188 (by decide) (fun c433 => ?_) (fun c433 => ?_)
            · have dc433 : r429.toInt ≠ 0 := ne_i (a := r429.toInt) (b := 0) rfl rfl c433
              have k434 : 1 ≤ r429.toInt ∧ r429.toInt ≤ 1 := ⟨ne_lo dc433 t430.1 ⟨Int.le_refl _, Int.le_refl _⟩ (by decide), t430.2⟩
              have cut436 : ∀ (u435 : Int32) (_ : IR 0 1 u435) (_ : (u369.toInt < x_size.toInt ∧ (u435.toInt = 1 → u361.toInt = 0 → (48 ≤ (f_tape u369.toNatClampNeg &&& 255).toInt ∧ (f_tape u369.toNatClampNeg &&& 255).toInt ≤ 57 ∧ 0 ≤ u371.toInt ∧ u371.toInt ≤ 999 ∧ (u370.toInt = 0 → u371.toInt = 0) ∧ (u370.toInt = 1 → u371.toInt ≤ 9) ∧ (u370.toInt = 2 → u371.toInt ≤ 99))))) (H : Heap) (locs : List Loc) (ls : Array Slot), va_P D vwCl [(h0, .inr (10, vL 67 G368)), (h_tape, .inl (cB, 940, .inl f_tape))] H → va_D A [(h0, .inr (10, vL 67 G368)), (h_tape, .inl (cB, 940, .inl f_tape))] → va_S A s.heap H locs → lv_has ls 4 [(3, .int u435), (2, .int u361), (1, .int r355), (0, .ref h0)] → W p l e ({ frames := 1, cells := 0, slots := 0, locals := 20 } : Room) s m [.ref h0].toArray below meth c H locs 0 0 (MQ below (va_Qv (fun (u : va_W) => ∃ (Gh : Nat → Value) (y_p : Int32) (y_token : Int32) (y_at : Int32) (y_span : Int32) (y_number : Int32) (y_word : Int64), SAME [4, 11, 12, 13, 14, 18] Fh Gh ∧ Gh 4 = .int y_p ∧ IR 0 940 y_p ∧ Gh 11 = .int y_token ∧ IR 0 4 y_token ∧ Gh 12 = .int y_at ∧ IR 0 940 y_at ∧ Gh 13 = .int y_span ∧ IR 0 940 y_span ∧ Gh 14 = .int y_number ∧ Gh 18 = .long y_word ∧ (x_p.toInt ≤ y_p.toInt) ∧ ((1 ≤ y_token.toInt → y_token.toInt ≤ 3 → x_p.toInt < y_p.toInt)) ∧ ((y_token.toInt = 2 → 0 ≤ y_number.toInt ∧ y_number.toInt ≤ 999)) ∧ u = [(h0, .inr (10, vL 67 Gh)), (h_tape, .inl (cB, 940, .inl f_tape))]) (PO D A) A) [.ref h0].toArray s 0 0 A) (F0 m 222 ls []) := by
                intro u435 i437 i438 H locs ls hP hD hS hl
                have i437 : 0 ≤ u435.toInt ∧ u435.toInt ≤ 1 := i437
                have i438 : u369.toInt < x_size.toInt ∧ (u435.toInt = 1 → u361.toInt = 0 → (48 ≤ (f_tape u369.toNatClampNeg &&& 255).toInt ∧ (f_tape u369.toNatClampNeg &&& 255).toInt ≤ 57 ∧ 0 ≤ u371.toInt ∧ u371.toInt ≤ 999 ∧ (u370.toInt = 0 → u371.toInt = 0) ∧ (u370.toInt = 1 → u371.toInt ≤ 9) ∧ (u370.toInt = 2 → u371.toInt ≤ 99))) := i438
                have cut441 : ∀ (G439 : Nat → Value) (u440 : Int64) (_ : SAME [18] G368 G439) (_ : G439 18 = .long u440) (H : Heap) (locs : List Loc) (ls : Array Slot), va_P D vwCl [(h0, .inr (10, vL 67 G439)), (h_tape, .inl (cB, 940, .inl f_tape))] H → va_D A [(h0, .inr (10, vL 67 G439)), (h_tape, .inl (cB, 940, .inl f_tape))] → va_S A s.heap H locs → lv_has ls 4 [(3, .int u435), (2, .int u361), (1, .int r355), (0, .ref h0)] → W p l e ({ frames := 1, cells := 0, slots := 0, locals := 20 } : Room) s m [.ref h0].toArray below meth c H locs 0 0 (MQ below (va_Qv (fun (u : va_W) => ∃ (Gh : Nat → Value) (y_p : Int32) (y_token : Int32) (y_at : Int32) (y_span : Int32) (y_number : Int32) (y_word : Int64), SAME [4, 11, 12, 13, 14, 18] Fh Gh ∧ Gh 4 = .int y_p ∧ IR 0 940 y_p ∧ Gh 11 = .int y_token ∧ IR 0 4 y_token ∧ Gh 12 = .int y_at ∧ IR 0 940 y_at ∧ Gh 13 = .int y_span ∧ IR 0 940 y_span ∧ Gh 14 = .int y_number ∧ Gh 18 = .long y_word ∧ (x_p.toInt ≤ y_p.toInt) ∧ ((1 ≤ y_token.toInt → y_token.toInt ≤ 3 → x_p.toInt < y_p.toInt)) ∧ ((y_token.toInt = 2 → 0 ≤ y_number.toInt ∧ y_number.toInt ≤ 999)) ∧ u = [(h0, .inr (10, vL 67 Gh)), (h_tape, .inl (cB, 940, .inl f_tape))]) (PO D A) A) [.ref h0].toArray s 0 0 A) (F0 m 248 ls []) := by
                  intro G439 u440 i442 i443 H locs ls hP hD hS hl
                  refine lv_aload_n hx hb dX10_next_248 rfl (lv_at hl 3 rfl) ?_
                  have n444 : G439 13 = .int u370 := (SAME.at i442 (by decide) i412)
                  refine get_f (D := D) (ci := 10) (v := .int u370) (C := RX10) (T := TX10) (N := 67) hx hb hw inAX10 hown hK hP 0 rfl rfl 13 (by decide) (hw _ q_1274) (fun _ h9 => h9) n444 dX10_next_249 ?_
                  refine lv_iconst (v := 3) hx hb dX10_next_252 (by decide) ?_
                  refine lv_icmp_ge (tgt := 275) hx hb dX10_next_253 (by decide) (fun c445 => ?_) (fun c445 => ?_)
                  · have dc445 : 3 ≤ u370.toInt := le_i (a := 3) (b := u370.toInt) rfl rfl c445
                    have k446 : 3 ≤ u370.toInt ∧ u370.toInt ≤ 940 := ⟨Int.le_trans (Int.le_refl _) dc445, i416.2⟩
                    refine lv_aload_n hx hb dX10_next_275 rfl (lv_at hl 3 rfl) ?_
                    refine lv_dup hx hb dX10_next_276 rfl ?_
                    refine get_f (D := D) (ci := 10) (v := .int u370) (C := RX10) (T := TX10) (N := 67) hx hb hw inAX10 hown hK hP 0 rfl rfl 13 (by decide) (hw _ q_1274) (fun _ h9 => h9) n444 dX10_next_277 ?_
                    refine lv_iconst (v := 1) hx hb dX10_next_280 (by decide) ?_
                    refine lv_iadd hx hb dX10_next_281 ?_
                    refine lv_topi (fun v447 ev447 => ?_)
                    have bv447 : v447.toInt = u370.toInt + 1 := by rw [ev447]; exact add_k rfl rfl k446 ⟨Int.le_refl _, Int.le_refl _⟩ (by decide)
                    have k448 : 4 ≤ v447.toInt ∧ v447.toInt ≤ 941 := add_r bv447 k446 ⟨Int.le_refl _, Int.le_refl _⟩ (by decide)
                    refine put_f (D := D) (ci := 10) (v := .int v447) (ty := .int) (C := RX10) (T := TX10) (N := 67) hx hb hw inAX10 tyX10 tyX10_ok nmX10 hown hK hP hD hS 0 rfl rfl 13 (by decide) (hw _ q_1274) (fun _ h9 => h9) rfl (by decide +kernel) rfl rfl dX10_next_282 (fun H locs F449 eF449 hP hD hS => ?_)
                    have hP : va_P D vwCl [(h0, .inr (10, vL 67 F449)), (h_tape, .inl (cB, 940, .inl f_tape))] H := hP
                    have hD : va_D A [(h0, .inr (10, vL 67 F449)), (h_tape, .inl (cB, 940, .inl f_tape))] := hD
                    refine lv_aload_n hx hb dX10_next_285 rfl (lv_at hl 3 rfl) ?_
                    refine lv_dup hx hb dX10_next_286 rfl ?_
                    have n450 : G439 4 = .int u369 := (SAME.at i442 (by decide) i411)
                    have n451 : F449 4 = .int u369 := (get_ne eF449 (by decide) n450)
                    refine get_f (D := D) (ci := 10) (v := .int u369) (C := RX10) (T := TX10) (N := 67) hx hb hw inAX10 hown hK hP 0 rfl rfl 4 (by decide) (hw _ q_1265) (fun _ h9 => h9) n451 dX10_next_287 ?_
                    refine lv_iconst (v := 1) hx hb dX10_next_290 (by decide) ?_
                    refine lv_iadd hx hb dX10_next_291 ?_
                    refine lv_topi (fun v452 ev452 => ?_)
                    have bv452 : v452.toInt = u369.toInt + 1 := by rw [ev452]; exact add_k rfl rfl i415 ⟨Int.le_refl _, Int.le_refl _⟩ (by decide)
                    have k453 : 1 ≤ v452.toInt ∧ v452.toInt ≤ 941 := add_r bv452 i415 ⟨Int.le_refl _, Int.le_refl _⟩ (by decide)
                    refine put_f (D := D) (ci := 10) (v := .int v452) (ty := .int) (C := RX10) (T := TX10) (N := 67) hx hb hw inAX10 tyX10 tyX10_ok nmX10 hown hK hP hD hS 0 rfl rfl 4 (by decide) (hw _ q_1265) (fun _ h9 => h9) rfl (by decide +kernel) rfl rfl dX10_next_292 (fun H locs F454 eF454 hP hD hS => ?_)
                    have hP : va_P D vwCl [(h0, .inr (10, vL 67 F454)), (h_tape, .inl (cB, 940, .inl f_tape))] H := hP
                    have hD : va_D A [(h0, .inr (10, vL 67 F454)), (h_tape, .inl (cB, 940, .inl f_tape))] := hD
                    refine lv_goto (tgt := 181) hx hb dX10_next_295 (by decide) ?_
                    have n455 : F454 13 = .int v447 := (get_ne eF454 (by decide) (get_eq eF449))
                    have n456 : G439 14 = .int u371 := (SAME.at i442 (by decide) i413)
                    have n457 : F449 14 = .int u371 := (get_ne eF449 (by decide) n456)
                    have n458 : F454 14 = .int u371 := (get_ne eF454 (by decide) n457)
                    have n459 : F449 18 = .long u440 := (get_ne eF449 (by decide) i443)
                    have n460 : F454 18 = .long u440 := (get_ne eF454 (by decide) n459)
                    exact ih (u435, F454, v452, v447, u371, u440) ⟨i437, (SAME.up eF454 (SAME.up eF449 (SAME.tr (SAME.tr SAME.rf i410 (by decide)) i442 (by decide)) (by decide)) (by decide)), (get_eq eF454), n455, n458, n460, (show 0 ≤ v452.toInt ∧ v452.toInt ≤ 940 from ⟨by omega, by omega⟩), (show 0 ≤ v447.toInt ∧ v447.toInt ≤ 940 from ⟨by omega, by omega⟩), (by show 0 ≤ v447.toInt ∧ v447.toInt ≤ v452.toInt ∧ x_p.toInt + v447.toInt ≤ v452.toInt ∧ (v447.toInt = 0 → v452.toInt = u2.toInt); omega), (by show u435.toInt = 1 → u361.toInt = 0 → (0 ≤ u371.toInt ∧ u371.toInt ≤ 999 ∧ (v447.toInt = 0 → u371.toInt = 0) ∧ (v447.toInt = 1 → u371.toInt ≤ 9) ∧ (v447.toInt = 2 → u371.toInt ≤ 99)); omega)⟩ (by show (x_size.toInt - v452.toInt).toNat < (x_size.toInt - u369.toInt).toNat; omega) _ _ _ hP hD hS (lv_sub hl [0, 1, 2, 3] rfl)
                  · have dc445 : u370.toInt < 3 := nle_i (a := 3) (b := u370.toInt) rfl rfl c445
                    have k461 : 0 ≤ u370.toInt ∧ u370.toInt ≤ 2 := ⟨i416.1, up_lt dc445 (Int.le_refl _) (by decide)⟩
                    refine lv_aload_n hx hb dX10_next_256 rfl (lv_at hl 3 rfl) ?_
                    refine lv_bipush (v := 10) hx hb dX10_next_257 (by decide) ?_
                    refine lv_aload_n hx hb dX10_next_259 rfl (lv_at hl 3 rfl) ?_
                    have n462 : G439 14 = .int u371 := (SAME.at i442 (by decide) i413)
                    refine get_f (D := D) (ci := 10) (v := .int u371) (C := RX10) (T := TX10) (N := 67) hx hb hw inAX10 hown hK hP 0 rfl rfl 14 (by decide) (hw _ q_1275) (fun _ h9 => h9) n462 dX10_next_260 ?_
                    refine lv_imul hx hb dX10_next_263 ?_
                    refine lv_topi (fun v463 ev463 => ?_)
                    have bv463 : -1000000 ≤ u371.toInt → u371.toInt ≤ 1000000 → v463.toInt = 10 * u371.toInt := fun h1 h2 => by rw [ev463]; exact mul_i (a := 10) (b := u371.toInt) rfl rfl (by omega) (by omega)
                    refine lv_aload_n hx hb dX10_next_264 rfl (lv_at hl 3 rfl) ?_
                    have n464 : G439 1 = .ref h_tape := (SAME.at i442 (by decide) n421)
                    have n465 : G439 3 = .int x_size := (SAME.at i442 (by decide) n424)
                    have n466 : G439 4 = .int u369 := (SAME.at i442 (by decide) i411)
                    refine call_Vi (wr := []) (As := []) (rest := [.int v463, .ref h0]) hx hb hml hown hw (m_X10_peek l D cI cJ cB cP cM cZ h0 h_tape G439 x_size u369 f_tape _ n464 n465 (ir_wk k347 (by decide) (by decide)) n466 i415) wV_X10_169_X10_peek dX10_next_265 hK hP hD hS hA [0, 1] [] rfl rfl (by decide) (by decide) (by decide) 0 10 rfl rfl GG.fb hG.at hl.1 rfl (Nat.le_of_ble_eq_true rfl) ⟨(Nat.le_of_ble_eq_true rfl), (Nat.le_of_ble_eq_true rfl)⟩ ⟨(Nat.le_of_ble_eq_true rfl), (Nat.le_of_ble_eq_true rfl)⟩ (fun r467 u H locs hp hP hD hS => ?_)
                    obtain ⟨t468, t469, rfl⟩ := hp
                    have hP : va_P D vwCl [(h0, .inr (10, vL 67 G439)), (h_tape, .inl (cB, 940, .inl f_tape))] H := hP
                    have hD : va_D A [(h0, .inr (10, vL 67 G439)), (h_tape, .inl (cB, 940, .inl f_tape))] := hD
                    refine W.widen (k := 0) (n := 0) (Nat.le_of_ble_eq_true rfl) (Nat.le_of_ble_eq_true rfl) ?_
                    refine lv_iadd hx hb dX10_next_268 ?_
                    refine lv_topi (fun v471 ev471 => ?_)
                    have bv471 : -1000000 ≤ v463.toInt → v463.toInt ≤ 1000000 → v471.toInt = v463.toInt + r467.toInt := fun h1 h2 => by rw [ev471]; exact add_i (a := v463.toInt) (b := r467.toInt) rfl rfl (by omega) (by omega)
                    refine lv_bipush (v := 48) hx hb dX10_next_269 (by decide) ?_
                    refine lv_isub hx hb dX10_next_271 ?_
                    refine lv_topi (fun v472 ev472 => ?_)
                    have bv472 : -1000000 ≤ v471.toInt → v471.toInt ≤ 1000000 → v472.toInt = v471.toInt - 48 := fun h1 h2 => by rw [ev472]; exact sub_i (a := v471.toInt) (b := 48) rfl rfl (by omega) (by omega)
                    refine put_f (D := D) (ci := 10) (v := .int v472) (ty := .int) (C := RX10) (T := TX10) (N := 67) hx hb hw inAX10 tyX10 tyX10_ok nmX10 hown hK hP hD hS 0 rfl rfl 14 (by decide) (hw _ q_1275) (fun _ h9 => h9) rfl (by decide +kernel) rfl rfl dX10_next_272 (fun H locs F473 eF473 hP hD hS => ?_)
                    have hP : va_P D vwCl [(h0, .inr (10, vL 67 F473)), (h_tape, .inl (cB, 940, .inl f_tape))] H := hP
                    have hD : va_D A [(h0, .inr (10, vL 67 F473)), (h_tape, .inl (cB, 940, .inl f_tape))] := hD
                    refine lv_aload_n hx hb dX10_next_275 rfl (lv_at hl 3 rfl) ?_
                    refine lv_dup hx hb dX10_next_276 rfl ?_
                    have n474 : F473 13 = .int u370 := (get_ne eF473 (by decide) n444)
                    refine get_f (D := D) (ci := 10) (v := .int u370) (C := RX10) (T := TX10) (N := 67) hx hb hw inAX10 hown hK hP 0 rfl rfl 13 (by decide) (hw _ q_1274) (fun _ h9 => h9) n474 dX10_next_277 ?_
                    refine lv_iconst (v := 1) hx hb dX10_next_280 (by decide) ?_
                    refine lv_iadd hx hb dX10_next_281 ?_
                    refine lv_topi (fun v475 ev475 => ?_)
                    have bv475 : v475.toInt = u370.toInt + 1 := by rw [ev475]; exact add_k rfl rfl k461 ⟨Int.le_refl _, Int.le_refl _⟩ (by decide)
                    have k476 : 1 ≤ v475.toInt ∧ v475.toInt ≤ 3 := add_r bv475 k461 ⟨Int.le_refl _, Int.le_refl _⟩ (by decide)
                    refine put_f (D := D) (ci := 10) (v := .int v475) (ty := .int) (C := RX10) (T := TX10) (N := 67) hx hb hw inAX10 tyX10 tyX10_ok nmX10 hown hK hP hD hS 0 rfl rfl 13 (by decide) (hw _ q_1274) (fun _ h9 => h9) rfl (by decide +kernel) rfl rfl dX10_next_282 (fun H locs F477 eF477 hP hD hS => ?_)
                    have hP : va_P D vwCl [(h0, .inr (10, vL 67 F477)), (h_tape, .inl (cB, 940, .inl f_tape))] H := hP
                    have hD : va_D A [(h0, .inr (10, vL 67 F477)), (h_tape, .inl (cB, 940, .inl f_tape))] := hD
                    refine lv_aload_n hx hb dX10_next_285 rfl (lv_at hl 3 rfl) ?_
                    refine lv_dup hx hb dX10_next_286 rfl ?_
                    have n478 : F473 4 = .int u369 := (get_ne eF473 (by decide) n466)
                    have n479 : F477 4 = .int u369 := (get_ne eF477 (by decide) n478)
                    refine get_f (D := D) (ci := 10) (v := .int u369) (C := RX10) (T := TX10) (N := 67) hx hb hw inAX10 hown hK hP 0 rfl rfl 4 (by decide) (hw _ q_1265) (fun _ h9 => h9) n479 dX10_next_287 ?_
                    refine lv_iconst (v := 1) hx hb dX10_next_290 (by decide) ?_
                    refine lv_iadd hx hb dX10_next_291 ?_
                    refine lv_topi (fun v480 ev480 => ?_)
                    have bv480 : v480.toInt = u369.toInt + 1 := by rw [ev480]; exact add_k rfl rfl i415 ⟨Int.le_refl _, Int.le_refl _⟩ (by decide)
                    have k481 : 1 ≤ v480.toInt ∧ v480.toInt ≤ 941 := add_r bv480 i415 ⟨Int.le_refl _, Int.le_refl _⟩ (by decide)
                    refine put_f (D := D) (ci := 10) (v := .int v480) (ty := .int) (C := RX10) (T := TX10) (N := 67) hx hb hw inAX10 tyX10 tyX10_ok nmX10 hown hK hP hD hS 0 rfl rfl 4 (by decide) (hw _ q_1265) (fun _ h9 => h9) rfl (by decide +kernel) rfl rfl dX10_next_292 (fun H locs F482 eF482 hP hD hS => ?_)
                    have hP : va_P D vwCl [(h0, .inr (10, vL 67 F482)), (h_tape, .inl (cB, 940, .inl f_tape))] H := hP
                    have hD : va_D A [(h0, .inr (10, vL 67 F482)), (h_tape, .inl (cB, 940, .inl f_tape))] := hD
                    refine lv_goto (tgt := 181) hx hb dX10_next_295 (by decide) ?_
                    have n483 : F482 13 = .int v475 := (get_ne eF482 (by decide) (get_eq eF477))
                    have n484 : F477 14 = .int v472 := (get_ne eF477 (by decide) (get_eq eF473))
                    have n485 : F482 14 = .int v472 := (get_ne eF482 (by decide) n484)
                    have n486 : F473 18 = .long u440 := (get_ne eF473 (by decide) i443)
                    have n487 : F477 18 = .long u440 := (get_ne eF477 (by decide) n486)
                    have n488 : F482 18 = .long u440 := (get_ne eF482 (by decide) n487)
                    exact ih (u435, F482, v480, v475, v472, u440) ⟨i437, (SAME.up eF482 (SAME.up eF477 (SAME.up eF473 (SAME.tr (SAME.tr SAME.rf i410 (by decide)) i442 (by decide)) (by decide)) (by decide)) (by decide)), (get_eq eF482), n483, n485, n488, (show 0 ≤ v480.toInt ∧ v480.toInt ≤ 940 from ⟨by omega, by omega⟩), (ir_wk k476 (by decide) (by decide)), (by show 0 ≤ v475.toInt ∧ v475.toInt ≤ v480.toInt ∧ x_p.toInt + v475.toInt ≤ v480.toInt ∧ (v475.toInt = 0 → v480.toInt = u2.toInt); omega), (by show u435.toInt = 1 → u361.toInt = 0 → (0 ≤ v472.toInt ∧ v472.toInt ≤ 999 ∧ (v475.toInt = 0 → v472.toInt = 0) ∧ (v475.toInt = 1 → v472.toInt ≤ 9) ∧ (v475.toInt = 2 → v472.toInt ≤ 99)); omega)⟩ (by show (x_size.toInt - v480.toInt).toNat < (x_size.toInt - u369.toInt).toNat; omega) _ _ _ hP hD hS (lv_sub hl [0, 1, 2, 3] rfl)
                refine lv_aload_n hx hb dX10_next_222 rfl (lv_at hl 3 rfl) ?_
                refine get_f (D := D) (ci := 10) (v := .int u370) (C := RX10) (T := TX10) (N := 67) hx hb hw inAX10 hown hK hP 0 rfl rfl 13 (by decide) (hw _ q_1274) (fun _ h9 => h9) i412 dX10_next_223 ?_
                refine lv_bipush (v := 7) hx hb dX10_next_226 (by decide) ?_
                refine lv_icmp_ge (tgt := 248) hx hb dX10_next_228 (by decide) (fun c489 => ?_) (fun c489 => ?_)
                · have dc489 : 7 ≤ u370.toInt := le_i (a := 7) (b := u370.toInt) rfl rfl c489
                  have k490 : 7 ≤ u370.toInt ∧ u370.toInt ≤ 940 := ⟨Int.le_trans (Int.le_refl _) dc489, i416.2⟩
                  exact cut441 G368 u372 SAME.rf i414 _ _ _ hP hD hS (lv_sub hl [0, 1, 2, 3] rfl)
                · have dc489 : u370.toInt < 7 := nle_i (a := 7) (b := u370.toInt) rfl rfl c489
                  have k491 : 0 ≤ u370.toInt ∧ u370.toInt ≤ 6 := ⟨i416.1, up_lt dc489 (Int.le_refl _) (by decide)⟩
                  refine lv_aload_n hx hb dX10_next_231 rfl (lv_at hl 3 rfl) ?_
                  refine lv_aload_n hx hb dX10_next_232 rfl (lv_at hl 3 rfl) ?_
                  refine get_f (D := D) (ci := 10) (v := .long u372) (C := RX10) (T := TX10) (N := 67) hx hb hw inAX10 hown hK hP 0 rfl rfl 18 (by decide) (hw _ q_1279) (fun _ h9 => h9) i414 dX10_next_233 ?_
                  refine lv_bipush (v := 8) hx hb dX10_next_236 (by decide) ?_
                  obtain ⟨v492, ev492⟩ : ∃ z : Int64, (u372 : Int64) <<< ((8 : Int32).toInt64 &&& 63) = z := ⟨_, rfl⟩
                  refine lv_lshl (v := v492) hx hb dX10_next_238 ev492 ?_
                  refine lv_aload_n hx hb dX10_next_239 rfl (lv_at hl 3 rfl) ?_
                  refine call_Vi (wr := []) (As := []) (rest := [.long v492, .ref h0]) hx hb hml hown hw (m_X10_peek l D cI cJ cB cP cM cZ h0 h_tape G368 x_size u369 f_tape _ n421 n424 (ir_wk k347 (by decide) (by decide)) i411 i415) wV_X10_169_X10_peek dX10_next_240 hK hP hD hS hA [0, 1] [] rfl rfl (by decide) (by decide) (by decide) 0 10 rfl rfl GG.fb hG.at hl.1 rfl (Nat.le_of_ble_eq_true rfl) ⟨(Nat.le_of_ble_eq_true rfl), (Nat.le_of_ble_eq_true rfl)⟩ ⟨(Nat.le_of_ble_eq_true rfl), (Nat.le_of_ble_eq_true rfl)⟩ (fun r493 u H locs hp hP hD hS => ?_)
                  obtain ⟨t494, t495, rfl⟩ := hp
                  have hP : va_P D vwCl [(h0, .inr (10, vL 67 G368)), (h_tape, .inl (cB, 940, .inl f_tape))] H := hP
                  have hD : va_D A [(h0, .inr (10, vL 67 G368)), (h_tape, .inl (cB, 940, .inl f_tape))] := hD
                  refine W.widen (k := 0) (n := 0) (Nat.le_of_ble_eq_true rfl) (Nat.le_of_ble_eq_true rfl) ?_
                  obtain ⟨v497, ev497⟩ : ∃ z : Int64, (r493 : Int32).toInt64 = z := ⟨_, rfl⟩
                  refine lv_i2l (v := v497) hx hb dX10_next_243 ev497 ?_
                  refine lv_lor hx hb dX10_next_244 ?_
                  refine lv_topl (fun v498 ev498 => ?_)
                  refine put_f (D := D) (ci := 10) (v := .long v498) (ty := .long) (C := RX10) (T := TX10) (N := 67) hx hb hw inAX10 tyX10 tyX10_ok nmX10 hown hK hP hD hS 0 rfl rfl 18 (by decide) (hw _ q_1279) (fun _ h9 => h9) rfl (by decide +kernel) rfl rfl dX10_next_245 (fun H locs F499 eF499 hP hD hS => ?_)
                  have hP : va_P D vwCl [(h0, .inr (10, vL 67 F499)), (h_tape, .inl (cB, 940, .inl f_tape))] H := hP
                  have hD : va_D A [(h0, .inr (10, vL 67 F499)), (h_tape, .inl (cB, 940, .inl f_tape))] := hD
                  exact cut441 F499 v498 (SAME.up eF499 SAME.rf (by decide)) (get_eq eF499) _ _ _ hP hD hS (lv_sub hl [0, 1, 2, 3] rfl)
              refine lv_iload_n hx hb dX10_next_201 rfl (lv_at hl 0 rfl) ?_
              refine lv_if_eq (tgt := 220) hx hb dX10_next_202 (by decide) (fun c500 => ?_) (fun c500 => ?_)
              · have dc500 : u367.toInt = 0 := eq_i (a := u367.toInt) (b := 0) rfl rfl c500
                have k501 : 0 ≤ u367.toInt ∧ u367.toInt ≤ 0 := ⟨i409.1, Int.le_trans (Int.le_of_eq dc500) (Int.le_refl _)⟩
                refine lv_iconst (v := 0) hx hb dX10_next_220 (by decide) ?_
                refine lv_istore_n (lv' := [(3, .int 0), (2, .int u361), (1, .int r355), (0, .ref h0)]) hx hb dX10_next_221 rfl hl (by decide) rfl (fun ls hl => ?_)
                exact cut436 0 (show 0 ≤ (0 : Int32).toInt ∧ (0 : Int32).toInt ≤ 1 by decide) (by show u369.toInt < x_size.toInt ∧ (0 = 1 → u361.toInt = 0 → (48 ≤ (f_tape u369.toNatClampNeg &&& 255).toInt ∧ (f_tape u369.toNatClampNeg &&& 255).toInt ≤ 57 ∧ 0 ≤ u371.toInt ∧ u371.toInt ≤ 999 ∧ (u370.toInt = 0 → u371.toInt = 0) ∧ (u370.toInt = 1 → u371.toInt ≤ 9) ∧ (u370.toInt = 2 → u371.toInt ≤ 99))); omega) _ _ _ hP hD hS (lv_sub hl [0, 1, 2, 3] rfl)
              · have dc500 : u367.toInt ≠ 0 := ne_i (a := u367.toInt) (b := 0) rfl rfl c500
                have k502 : 1 ≤ u367.toInt ∧ u367.toInt ≤ 1 := ⟨ne_lo dc500 i409.1 ⟨Int.le_refl _, Int.le_refl _⟩ (by decide), i409.2⟩
                refine lv_aload_n hx hb dX10_next_205 rfl (lv_at hl 3 rfl) ?_
                refine call_Vi (wr := []) (As := []) (rest := []) hx hb hml hown hw (m_X10_peek l D cI cJ cB cP cM cZ h0 h_tape G368 x_size u369 f_tape _ n421 n424 (ir_wk k347 (by decide) (by decide)) i411 i415) wV_X10_169_X10_peek dX10_next_206 hK hP hD hS hA [0, 1] [] rfl rfl (by decide) (by decide) (by decide) 0 10 rfl rfl GG.fb hG.at hl.1 rfl (Nat.le_of_ble_eq_true rfl) ⟨(Nat.le_of_ble_eq_true rfl), (Nat.le_of_ble_eq_true rfl)⟩ ⟨(Nat.le_of_ble_eq_true rfl), (Nat.le_of_ble_eq_true rfl)⟩ (fun r503 u H locs hp hP hD hS => ?_)
                obtain ⟨t504, t505, rfl⟩ := hp
                have hP : va_P D vwCl [(h0, .inr (10, vL 67 G368)), (h_tape, .inl (cB, 940, .inl f_tape))] H := hP
                have hD : va_D A [(h0, .inr (10, vL 67 G368)), (h_tape, .inl (cB, 940, .inl f_tape))] := hD
                refine W.widen (k := 0) (n := 0) (Nat.le_of_ble_eq_true rfl) (Nat.le_of_ble_eq_true rfl) ?_
                refine call_Si (wr := [(h0, .inr (10, vL 67 G368)), (h_tape, .inl (cB, 940, .inl f_tape))]) (As := [.int r503]) (rest := []) hx hb hml hown hw (m_X10_isSmall l D cI cJ cB cP cM cZ r503 _ ) wS_X10_182_X10_isSmall dX10_next_209 hP hD hS hA [] [0, 1] rfl rfl (by decide) (by decide) (by decide) GG.fb hG.at hl.1 rfl (Nat.le_of_ble_eq_true rfl) ⟨(Nat.le_of_ble_eq_true rfl), (Nat.le_of_ble_eq_true rfl)⟩ ⟨(Nat.le_of_ble_eq_true rfl), (Nat.le_of_ble_eq_true rfl)⟩ (fun r507 u H locs hp hP hD hS => ?_)
                obtain ⟨t508, t509, rfl⟩ := hp
                have hP : va_P D vwCl [(h0, .inr (10, vL 67 G368)), (h_tape, .inl (cB, 940, .inl f_tape))] H := hP
                have hD : va_D A [(h0, .inr (10, vL 67 G368)), (h_tape, .inl (cB, 940, .inl f_tape))] := hD
                refine W.widen (k := 0) (n := 0) (Nat.le_of_ble_eq_true rfl) (Nat.le_of_ble_eq_true rfl) ?_
                refine lv_iload_n hx hb dX10_next_212 rfl (lv_at hl 1 rfl) ?_
                refine lv_icmp_ne (tgt := 220) hx hb dX10_next_213 (by decide) (fun c511 => ?_) (fun c511 => ?_)
                · have dc511 : r507.toInt ≠ u361.toInt := ne_i (a := r507.toInt) (b := u361.toInt) rfl rfl c511
                  refine lv_iconst (v := 0) hx hb dX10_next_220 (by decide) ?_
                  refine lv_istore_n (lv' := [(3, .int 0), (2, .int u361), (1, .int r355), (0, .ref h0)]) hx hb dX10_next_221 rfl hl (by decide) rfl (fun ls hl => ?_)
                  exact cut436 0 (show 0 ≤ (0 : Int32).toInt ∧ (0 : Int32).toInt ≤ 1 by decide) (by show u369.toInt < x_size.toInt ∧ (0 = 1 → u361.toInt = 0 → (48 ≤ (f_tape u369.toNatClampNeg &&& 255).toInt ∧ (f_tape u369.toNatClampNeg &&& 255).toInt ≤ 57 ∧ 0 ≤ u371.toInt ∧ u371.toInt ≤ 999 ∧ (u370.toInt = 0 → u371.toInt = 0) ∧ (u370.toInt = 1 → u371.toInt ≤ 9) ∧ (u370.toInt = 2 → u371.toInt ≤ 99))); omega) _ _ _ hP hD hS (lv_sub hl [0, 1, 2, 3] rfl)
                · have dc511 : r507.toInt = u361.toInt := eq_i (a := r507.toInt) (b := u361.toInt) rfl rfl c511
                  refine lv_iconst (v := 1) hx hb dX10_next_216 (by decide) ?_
                  refine lv_goto (tgt := 221) hx hb dX10_next_217 (by decide) ?_
                  refine lv_istore_n (lv' := [(3, .int 1), (2, .int u361), (1, .int r355), (0, .ref h0)]) hx hb dX10_next_221 rfl hl (by decide) rfl (fun ls hl => ?_)
                  exact cut436 1 (show 0 ≤ (1 : Int32).toInt ∧ (1 : Int32).toInt ≤ 1 by decide) (by show u369.toInt < x_size.toInt ∧ (1 = 1 → u361.toInt = 0 → (48 ≤ (f_tape u369.toNatClampNeg &&& 255).toInt ∧ (f_tape u369.toNatClampNeg &&& 255).toInt ≤ 57 ∧ 0 ≤ u371.toInt ∧ u371.toInt ≤ 999 ∧ (u370.toInt = 0 → u371.toInt = 0) ∧ (u370.toInt = 1 → u371.toInt ≤ 9) ∧ (u370.toInt = 2 → u371.toInt ≤ 99))); omega) _ _ _ hP hD hS (lv_sub hl [0, 1, 2, 3] rfl)
            · have dc433 : r429.toInt = 0 := eq_i (a := r429.toInt) (b := 0) rfl rfl c433
              have k512 : 0 ≤ r429.toInt ∧ r429.toInt ≤ 0 := ⟨t430.1, Int.le_trans (Int.le_of_eq dc433) (Int.le_refl _)⟩
              refine lv_aload_n hx hb dX10_next_191 rfl (lv_at hl 3 rfl) ?_
              refine call_Vi (wr := []) (As := []) (rest := []) hx hb hml hown hw (m_X10_peek l D cI cJ cB cP cM cZ h0 h_tape G368 x_size u369 f_tape _ n421 n424 (ir_wk k347 (by decide) (by decide)) i411 i415) wV_X10_169_X10_peek dX10_next_192 hK hP hD hS hA [0, 1] [] rfl rfl (by decide) (by decide) (by decide) 0 10 rfl rfl GG.fb hG.at hl.1 rfl (Nat.le_of_ble_eq_true rfl) ⟨(Nat.le_of_ble_eq_true rfl), (Nat.le_of_ble_eq_true rfl)⟩ ⟨(Nat.le_of_ble_eq_true rfl), (Nat.le_of_ble_eq_true rfl)⟩ (fun r513 u H locs hp hP hD hS => ?_)
              obtain ⟨t514, t515, rfl⟩ := hp
              have hP : va_P D vwCl [(h0, .inr (10, vL 67 G368)), (h_tape, .inl (cB, 940, .inl f_tape))] H := hP
              have hD : va_D A [(h0, .inr (10, vL 67 G368)), (h_tape, .inl (cB, 940, .inl f_tape))] := hD
              refine W.widen (k := 0) (n := 0) (Nat.le_of_ble_eq_true rfl) (Nat.le_of_ble_eq_true rfl) ?_
              refine call_Si (wr := [(h0, .inr (10, vL 67 G368)), (h_tape, .inl (cB, 940, .inl f_tape))]) (As := [.int r513]) (rest := []) hx hb hml hown hw (m_X10_isDigit l D cI cJ cB cP cM cZ r513 _ ) wS_X10_186_X10_isDigit dX10_next_195 hP hD hS hA [] [0, 1] rfl rfl (by decide) (by decide) (by decide) GG.fb hG.at hl.1 rfl (Nat.le_of_ble_eq_true rfl) ⟨(Nat.le_of_ble_eq_true rfl), (Nat.le_of_ble_eq_true rfl)⟩ ⟨(Nat.le_of_ble_eq_true rfl), (Nat.le_of_ble_eq_true rfl)⟩ (fun r517 u H locs hp hP hD hS => ?_)
              obtain ⟨t518, t519, rfl⟩ := hp
              have hP : va_P D vwCl [(h0, .inr (10, vL 67 G368)), (h_tape, .inl (cB, 940, .inl f_tape))] H := hP
              have hD : va_D A [(h0, .inr (10, vL 67 G368)), (h_tape, .inl (cB, 940, .inl f_tape))] := hD
              refine W.widen (k := 0) (n := 0) (Nat.le_of_ble_eq_true rfl) (Nat.le_of_ble_eq_true rfl) ?_
              refine lv_if_eq (tgt := 298) hx hb dX10_next_198 (by decide) (fun c521 => ?_) (fun c521 => ?_)
              · have dc521 : r517.toInt = 0 := eq_i (a := r517.toInt) (b := 0) rfl rfl c521
                have k522 : 0 ≤ r517.toInt ∧ r517.toInt ≤ 0 := ⟨t518.1, Int.le_trans (Int.le_of_eq dc521) (Int.le_refl _)⟩
                have hfst : u369.toInt = u2.toInt → (f_tape u369.toNatClampNeg &&& 255).toInt = (f_tape u2.toNatClampNeg &&& 255).toInt := fun h9 => by rw [Int32.toInt_inj.mp h9]
                exact cut373 u367 G368 u369 u370 u371 u372 i409 (SAME.tr SAME.rf i410 (by decide)) i411 i412 i413 i414 i415 i416 (by show 0 ≤ u370.toInt ∧ u370.toInt ≤ u369.toInt ∧ x_p.toInt + u370.toInt ≤ u369.toInt ∧ (u370.toInt = 0 → u369.toInt = u2.toInt); omega) (by show u367.toInt = 1 → u361.toInt = 0 → (0 ≤ u371.toInt ∧ u371.toInt ≤ 999 ∧ (u370.toInt = 0 → u371.toInt = 0) ∧ (u370.toInt = 1 → u371.toInt ≤ 9) ∧ (u370.toInt = 2 → u371.toInt ≤ 99)); omega) (by show 1 ≤ u370.toInt; omega) _ _ _ hP hD hS (lv_sub hl [0, 1, 2, 3] rfl)
              · have dc521 : r517.toInt ≠ 0 := ne_i (a := r517.toInt) (b := 0) rfl rfl c521
                have k523 : 1 ≤ r517.toInt ∧ r517.toInt ≤ 1 := ⟨ne_lo dc521 t518.1 ⟨Int.le_refl _, Int.le_refl _⟩ (by decide), t518.2⟩
                have cut525 : ∀ (u524 : Int32) (_ : IR 0 1 u524) (_ : (u369.toInt < x_size.toInt ∧ (u524.toInt = 1 → u361.toInt = 0 → (48 ≤ (f_tape u369.toNatClampNeg &&& 255).toInt ∧ (f_tape u369.toNatClampNeg &&& 255).toInt ≤ 57 ∧ 0 ≤ u371.toInt ∧ u371.toInt ≤ 999 ∧ (u370.toInt = 0 → u371.toInt = 0) ∧ (u370.toInt = 1 → u371.toInt ≤ 9) ∧ (u370.toInt = 2 → u371.toInt ≤ 99))))) (H : Heap) (locs : List Loc) (ls : Array Slot), va_P D vwCl [(h0, .inr (10, vL 67 G368)), (h_tape, .inl (cB, 940, .inl f_tape))] H → va_D A [(h0, .inr (10, vL 67 G368)), (h_tape, .inl (cB, 940, .inl f_tape))] → va_S A s.heap H locs → lv_has ls 4 [(3, .int u524), (2, .int u361), (1, .int r355), (0, .ref h0)] → W p l e ({ frames := 1, cells := 0, slots := 0, locals := 20 } : Room) s m [.ref h0].toArray below meth c H locs 0 0 (MQ below (va_Qv (fun (u : va_W) => ∃ (Gh : Nat → Value) (y_p : Int32) (y_token : Int32) (y_at : Int32) (y_span : Int32) (y_number : Int32) (y_word : Int64), SAME [4, 11, 12, 13, 14, 18] Fh Gh ∧ Gh 4 = .int y_p ∧ IR 0 940 y_p ∧ Gh 11 = .int y_token ∧ IR 0 4 y_token ∧ Gh 12 = .int y_at ∧ IR 0 940 y_at ∧ Gh 13 = .int y_span ∧ IR 0 940 y_span ∧ Gh 14 = .int y_number ∧ Gh 18 = .long y_word ∧ (x_p.toInt ≤ y_p.toInt) ∧ ((1 ≤ y_token.toInt → y_token.toInt ≤ 3 → x_p.toInt < y_p.toInt)) ∧ ((y_token.toInt = 2 → 0 ≤ y_number.toInt ∧ y_number.toInt ≤ 999)) ∧ u = [(h0, .inr (10, vL 67 Gh)), (h_tape, .inl (cB, 940, .inl f_tape))]) (PO D A) A) [.ref h0].toArray s 0 0 A) (F0 m 222 ls []) := by
                  intro u524 i526 i527 H locs ls hP hD hS hl
                  have i526 : 0 ≤ u524.toInt ∧ u524.toInt ≤ 1 := i526
                  have i527 : u369.toInt < x_size.toInt ∧ (u524.toInt = 1 → u361.toInt = 0 → (48 ≤ (f_tape u369.toNatClampNeg &&& 255).toInt ∧ (f_tape u369.toNatClampNeg &&& 255).toInt ≤ 57 ∧ 0 ≤ u371.toInt ∧ u371.toInt ≤ 999 ∧ (u370.toInt = 0 → u371.toInt = 0) ∧ (u370.toInt = 1 → u371.toInt ≤ 9) ∧ (u370.toInt = 2 → u371.toInt ≤ 99))) := i527
                  have cut530 : ∀ (G528 : Nat → Value) (u529 : Int64) (_ : SAME [18] G368 G528) (_ : G528 18 = .long u529) (H : Heap) (locs : List Loc) (ls : Array Slot), va_P D vwCl [(h0, .inr (10, vL 67 G528)), (h_tape, .inl (cB, 940, .inl f_tape))] H → va_D A [(h0, .inr (10, vL 67 G528)), (h_tape, .inl (cB, 940, .inl f_tape))] → va_S A s.heap H locs → lv_has ls 4 [(3, .int u524), (2, .int u361), (1, .int r355), (0, .ref h0)] → W p l e ({ frames := 1, cells := 0, slots := 0, locals := 20 } : Room) s m [.ref h0].toArray below meth c H locs 0 0 (MQ below (va_Qv (fun (u : va_W) => ∃ (Gh : Nat → Value) (y_p : Int32) (y_token : Int32) (y_at : Int32) (y_span : Int32) (y_number : Int32) (y_word : Int64), SAME [4, 11, 12, 13, 14, 18] Fh Gh ∧ Gh 4 = .int y_p ∧ IR 0 940 y_p ∧ Gh 11 = .int y_token ∧ IR 0 4 y_token ∧ Gh 12 = .int y_at ∧ IR 0 940 y_at ∧ Gh 13 = .int y_span ∧ IR 0 940 y_span ∧ Gh 14 = .int y_number ∧ Gh 18 = .long y_word ∧ (x_p.toInt ≤ y_p.toInt) ∧ ((1 ≤ y_token.toInt → y_token.toInt ≤ 3 → x_p.toInt < y_p.toInt)) ∧ ((y_token.toInt = 2 → 0 ≤ y_number.toInt ∧ y_number.toInt ≤ 999)) ∧ u = [(h0, .inr (10, vL 67 Gh)), (h_tape, .inl (cB, 940, .inl f_tape))]) (PO D A) A) [.ref h0].toArray s 0 0 A) (F0 m 248 ls []) := by
                    intro G528 u529 i531 i532 H locs ls hP hD hS hl
                    refine lv_aload_n hx hb dX10_next_248 rfl (lv_at hl 3 rfl) ?_
                    have n533 : G528 13 = .int u370 := (SAME.at i531 (by decide) i412)
                    refine get_f (D := D) (ci := 10) (v := .int u370) (C := RX10) (T := TX10) (N := 67) hx hb hw inAX10 hown hK hP 0 rfl rfl 13 (by decide) (hw _ q_1274) (fun _ h9 => h9) n533 dX10_next_249 ?_
                    refine lv_iconst (v := 3) hx hb dX10_next_252 (by decide) ?_
                    refine lv_icmp_ge (tgt := 275) hx hb dX10_next_253 (by decide) (fun c534 => ?_) (fun c534 => ?_)
                    · have dc534 : 3 ≤ u370.toInt := le_i (a := 3) (b := u370.toInt) rfl rfl c534
                      have k535 : 3 ≤ u370.toInt ∧ u370.toInt ≤ 940 := ⟨Int.le_trans (Int.le_refl _) dc534, i416.2⟩
                      refine lv_aload_n hx hb dX10_next_275 rfl (lv_at hl 3 rfl) ?_
                      refine lv_dup hx hb dX10_next_276 rfl ?_
                      refine get_f (D := D) (ci := 10) (v := .int u370) (C := RX10) (T := TX10) (N := 67) hx hb hw inAX10 hown hK hP 0 rfl rfl 13 (by decide) (hw _ q_1274) (fun _ h9 => h9) n533 dX10_next_277 ?_
                      refine lv_iconst (v := 1) hx hb dX10_next_280 (by decide) ?_
                      refine lv_iadd hx hb dX10_next_281 ?_
                      refine lv_topi (fun v536 ev536 => ?_)
                      have bv536 : v536.toInt = u370.toInt + 1 := by rw [ev536]; exact add_k rfl rfl k535 ⟨Int.le_refl _, Int.le_refl _⟩ (by decide)
                      have k537 : 4 ≤ v536.toInt ∧ v536.toInt ≤ 941 := add_r bv536 k535 ⟨Int.le_refl _, Int.le_refl _⟩ (by decide)
                      refine put_f (D := D) (ci := 10) (v := .int v536) (ty := .int) (C := RX10) (T := TX10) (N := 67) hx hb hw inAX10 tyX10 tyX10_ok nmX10 hown hK hP hD hS 0 rfl rfl 13 (by decide) (hw _ q_1274) (fun _ h9 => h9) rfl (by decide +kernel) rfl rfl dX10_next_282 (fun H locs F538 eF538 hP hD hS => ?_)
                      have hP : va_P D vwCl [(h0, .inr (10, vL 67 F538)), (h_tape, .inl (cB, 940, .inl f_tape))] H := hP
                      have hD : va_D A [(h0, .inr (10, vL 67 F538)), (h_tape, .inl (cB, 940, .inl f_tape))] := hD
                      refine lv_aload_n hx hb dX10_next_285 rfl (lv_at hl 3 rfl) ?_
                      refine lv_dup hx hb dX10_next_286 rfl ?_
                      have n539 : G528 4 = .int u369 := (SAME.at i531 (by decide) i411)
                      have n540 : F538 4 = .int u369 := (get_ne eF538 (by decide) n539)
                      refine get_f (D := D) (ci := 10) (v := .int u369) (C := RX10) (T := TX10) (N := 67) hx hb hw inAX10 hown hK hP 0 rfl rfl 4 (by decide) (hw _ q_1265) (fun _ h9 => h9) n540 dX10_next_287 ?_
                      refine lv_iconst (v := 1) hx hb dX10_next_290 (by decide) ?_
                      refine lv_iadd hx hb dX10_next_291 ?_
                      refine lv_topi (fun v541 ev541 => ?_)
                      have bv541 : v541.toInt = u369.toInt + 1 := by rw [ev541]; exact add_k rfl rfl i415 ⟨Int.le_refl _, Int.le_refl _⟩ (by decide)
                      have k542 : 1 ≤ v541.toInt ∧ v541.toInt ≤ 941 := add_r bv541 i415 ⟨Int.le_refl _, Int.le_refl _⟩ (by decide)
                      refine put_f (D := D) (ci := 10) (v := .int v541) (ty := .int) (C := RX10) (T := TX10) (N := 67) hx hb hw inAX10 tyX10 tyX10_ok nmX10 hown hK hP hD hS 0 rfl rfl 4 (by decide) (hw _ q_1265) (fun _ h9 => h9) rfl (by decide +kernel) rfl rfl dX10_next_292 (fun H locs F543 eF543 hP hD hS => ?_)
                      have hP : va_P D vwCl [(h0, .inr (10, vL 67 F543)), (h_tape, .inl (cB, 940, .inl f_tape))] H := hP
                      have hD : va_D A [(h0, .inr (10, vL 67 F543)), (h_tape, .inl (cB, 940, .inl f_tape))] := hD
                      refine lv_goto (tgt := 181) hx hb dX10_next_295 (by decide) ?_
                      have n544 : F543 13 = .int v536 := (get_ne eF543 (by decide) (get_eq eF538))
                      have n545 : G528 14 = .int u371 := (SAME.at i531 (by decide) i413)
                      have n546 : F538 14 = .int u371 := (get_ne eF538 (by decide) n545)
                      have n547 : F543 14 = .int u371 := (get_ne eF543 (by decide) n546)
                      have n548 : F538 18 = .long u529 := (get_ne eF538 (by decide) i532)
                      have n549 : F543 18 = .long u529 := (get_ne eF543 (by decide) n548)
                      exact ih (u524, F543, v541, v536, u371, u529) ⟨i526, (SAME.up eF543 (SAME.up eF538 (SAME.tr (SAME.tr SAME.rf i410 (by decide)) i531 (by decide)) (by decide)) (by decide)), (get_eq eF543), n544, n547, n549, (show 0 ≤ v541.toInt ∧ v541.toInt ≤ 940 from ⟨by omega, by omega⟩), (show 0 ≤ v536.toInt ∧ v536.toInt ≤ 940 from ⟨by omega, by omega⟩), (by show 0 ≤ v536.toInt ∧ v536.toInt ≤ v541.toInt ∧ x_p.toInt + v536.toInt ≤ v541.toInt ∧ (v536.toInt = 0 → v541.toInt = u2.toInt); omega), (by show u524.toInt = 1 → u361.toInt = 0 → (0 ≤ u371.toInt ∧ u371.toInt ≤ 999 ∧ (v536.toInt = 0 → u371.toInt = 0) ∧ (v536.toInt = 1 → u371.toInt ≤ 9) ∧ (v536.toInt = 2 → u371.toInt ≤ 99)); omega)⟩ (by show (x_size.toInt - v541.toInt).toNat < (x_size.toInt - u369.toInt).toNat; omega) _ _ _ hP hD hS (lv_sub hl [0, 1, 2, 3] rfl)
                    · have dc534 : u370.toInt < 3 := nle_i (a := 3) (b := u370.toInt) rfl rfl c534
                      have k550 : 0 ≤ u370.toInt ∧ u370.toInt ≤ 2 := ⟨i416.1, up_lt dc534 (Int.le_refl _) (by decide)⟩
                      refine lv_aload_n hx hb dX10_next_256 rfl (lv_at hl 3 rfl) ?_
                      refine lv_bipush (v := 10) hx hb dX10_next_257 (by decide) ?_
                      refine lv_aload_n hx hb dX10_next_259 rfl (lv_at hl 3 rfl) ?_
                      have n551 : G528 14 = .int u371 := (SAME.at i531 (by decide) i413)
                      refine get_f (D := D) (ci := 10) (v := .int u371) (C := RX10) (T := TX10) (N := 67) hx hb hw inAX10 hown hK hP 0 rfl rfl 14 (by decide) (hw _ q_1275) (fun _ h9 => h9) n551 dX10_next_260 ?_
                      refine lv_imul hx hb dX10_next_263 ?_
                      refine lv_topi (fun v552 ev552 => ?_)
                      have bv552 : -1000000 ≤ u371.toInt → u371.toInt ≤ 1000000 → v552.toInt = 10 * u371.toInt := fun h1 h2 => by rw [ev552]; exact mul_i (a := 10) (b := u371.toInt) rfl rfl (by omega) (by omega)
                      refine lv_aload_n hx hb dX10_next_264 rfl (lv_at hl 3 rfl) ?_
                      have n553 : G528 1 = .ref h_tape := (SAME.at i531 (by decide) n421)
                      have n554 : G528 3 = .int x_size := (SAME.at i531 (by decide) n424)
                      have n555 : G528 4 = .int u369 := (SAME.at i531 (by decide) i411)
                      refine call_Vi (wr := []) (As := []) (rest := [.int v552, .ref h0]) hx hb hml hown hw (m_X10_peek l D cI cJ cB cP cM cZ h0 h_tape G528 x_size u369 f_tape _ n553 n554 (ir_wk k347 (by decide) (by decide)) n555 i415) wV_X10_169_X10_peek dX10_next_265 hK hP hD hS hA [0, 1] [] rfl rfl (by decide) (by decide) (by decide) 0 10 rfl rfl GG.fb hG.at hl.1 rfl (Nat.le_of_ble_eq_true rfl) ⟨(Nat.le_of_ble_eq_true rfl), (Nat.le_of_ble_eq_true rfl)⟩ ⟨(Nat.le_of_ble_eq_true rfl), (Nat.le_of_ble_eq_true rfl)⟩ (fun r556 u H locs hp hP hD hS => ?_)
                      obtain ⟨t557, t558, rfl⟩ := hp
                      have hP : va_P D vwCl [(h0, .inr (10, vL 67 G528)), (h_tape, .inl (cB, 940, .inl f_tape))] H := hP
                      have hD : va_D A [(h0, .inr (10, vL 67 G528)), (h_tape, .inl (cB, 940, .inl f_tape))] := hD
                      refine W.widen (k := 0) (n := 0) (Nat.le_of_ble_eq_true rfl) (Nat.le_of_ble_eq_true rfl) ?_
                      refine lv_iadd hx hb dX10_next_268 ?_
                      refine lv_topi (fun v560 ev560 => ?_)
                      have bv560 : -1000000 ≤ v552.toInt → v552.toInt ≤ 1000000 → v560.toInt = v552.toInt + r556.toInt := fun h1 h2 => by rw [ev560]; exact add_i (a := v552.toInt) (b := r556.toInt) rfl rfl (by omega) (by omega)
                      refine lv_bipush (v := 48) hx hb dX10_next_269 (by decide) ?_
                      refine lv_isub hx hb dX10_next_271 ?_
                      refine lv_topi (fun v561 ev561 => ?_)
                      have bv561 : -1000000 ≤ v560.toInt → v560.toInt ≤ 1000000 → v561.toInt = v560.toInt - 48 := fun h1 h2 => by rw [ev561]; exact sub_i (a := v560.toInt) (b := 48) rfl rfl (by omega) (by omega)
                      refine put_f (D := D) (ci := 10) (v := .int v561) (ty := .int) (C := RX10) (T := TX10) (N := 67) hx hb hw inAX10 tyX10 tyX10_ok nmX10 hown hK hP hD hS 0 rfl rfl 14 (by decide) (hw _ q_1275) (fun _ h9 => h9) rfl (by decide +kernel) rfl rfl dX10_next_272 (fun H locs F562 eF562 hP hD hS => ?_)
                      have hP : va_P D vwCl [(h0, .inr (10, vL 67 F562)), (h_tape, .inl (cB, 940, .inl f_tape))] H := hP
                      have hD : va_D A [(h0, .inr (10, vL 67 F562)), (h_tape, .inl (cB, 940, .inl f_tape))] := hD
                      refine lv_aload_n hx hb dX10_next_275 rfl (lv_at hl 3 rfl) ?_
                      refine lv_dup hx hb dX10_next_276 rfl ?_
                      have n563 : F562 13 = .int u370 := (get_ne eF562 (by decide) n533)
                      refine get_f (D := D) (ci := 10) (v := .int u370) (C := RX10) (T := TX10) (N := 67) hx hb hw inAX10 hown hK hP 0 rfl rfl 13 (by decide) (hw _ q_1274) (fun _ h9 => h9) n563 dX10_next_277 ?_
                      refine lv_iconst (v := 1) hx hb dX10_next_280 (by decide) ?_
                      refine lv_iadd hx hb dX10_next_281 ?_
                      refine lv_topi (fun v564 ev564 => ?_)
                      have bv564 : v564.toInt = u370.toInt + 1 := by rw [ev564]; exact add_k rfl rfl k550 ⟨Int.le_refl _, Int.le_refl _⟩ (by decide)
                      have k565 : 1 ≤ v564.toInt ∧ v564.toInt ≤ 3 := add_r bv564 k550 ⟨Int.le_refl _, Int.le_refl _⟩ (by decide)
                      refine put_f (D := D) (ci := 10) (v := .int v564) (ty := .int) (C := RX10) (T := TX10) (N := 67) hx hb hw inAX10 tyX10 tyX10_ok nmX10 hown hK hP hD hS 0 rfl rfl 13 (by decide) (hw _ q_1274) (fun _ h9 => h9) rfl (by decide +kernel) rfl rfl dX10_next_282 (fun H locs F566 eF566 hP hD hS => ?_)
                      have hP : va_P D vwCl [(h0, .inr (10, vL 67 F566)), (h_tape, .inl (cB, 940, .inl f_tape))] H := hP
                      have hD : va_D A [(h0, .inr (10, vL 67 F566)), (h_tape, .inl (cB, 940, .inl f_tape))] := hD
                      refine lv_aload_n hx hb dX10_next_285 rfl (lv_at hl 3 rfl) ?_
                      refine lv_dup hx hb dX10_next_286 rfl ?_
                      have n567 : F562 4 = .int u369 := (get_ne eF562 (by decide) n555)
                      have n568 : F566 4 = .int u369 := (get_ne eF566 (by decide) n567)
                      refine get_f (D := D) (ci := 10) (v := .int u369) (C := RX10) (T := TX10) (N := 67) hx hb hw inAX10 hown hK hP 0 rfl rfl 4 (by decide) (hw _ q_1265) (fun _ h9 => h9) n568 dX10_next_287 ?_
                      refine lv_iconst (v := 1) hx hb dX10_next_290 (by decide) ?_
                      refine lv_iadd hx hb dX10_next_291 ?_
                      refine lv_topi (fun v569 ev569 => ?_)
                      have bv569 : v569.toInt = u369.toInt + 1 := by rw [ev569]; exact add_k rfl rfl i415 ⟨Int.le_refl _, Int.le_refl _⟩ (by decide)
                      have k570 : 1 ≤ v569.toInt ∧ v569.toInt ≤ 941 := add_r bv569 i415 ⟨Int.le_refl _, Int.le_refl _⟩ (by decide)
                      refine put_f (D := D) (ci := 10) (v := .int v569) (ty := .int) (C := RX10) (T := TX10) (N := 67) hx hb hw inAX10 tyX10 tyX10_ok nmX10 hown hK hP hD hS 0 rfl rfl 4 (by decide) (hw _ q_1265) (fun _ h9 => h9) rfl (by decide +kernel) rfl rfl dX10_next_292 (fun H locs F571 eF571 hP hD hS => ?_)
                      have hP : va_P D vwCl [(h0, .inr (10, vL 67 F571)), (h_tape, .inl (cB, 940, .inl f_tape))] H := hP
                      have hD : va_D A [(h0, .inr (10, vL 67 F571)), (h_tape, .inl (cB, 940, .inl f_tape))] := hD
                      refine lv_goto (tgt := 181) hx hb dX10_next_295 (by decide) ?_
                      have n572 : F571 13 = .int v564 := (get_ne eF571 (by decide) (get_eq eF566))
                      have n573 : F566 14 = .int v561 := (get_ne eF566 (by decide) (get_eq eF562))
                      have n574 : F571 14 = .int v561 := (get_ne eF571 (by decide) n573)
                      have n575 : F562 18 = .long u529 := (get_ne eF562 (by decide) i532)
                      have n576 : F566 18 = .long u529 := (get_ne eF566 (by decide) n575)
                      have n577 : F571 18 = .long u529 := (get_ne eF571 (by decide) n576)
                      exact ih (u524, F571, v569, v564, v561, u529) ⟨i526, (SAME.up eF571 (SAME.up eF566 (SAME.up eF562 (SAME.tr (SAME.tr SAME.rf i410 (by decide)) i531 (by decide)) (by decide)) (by decide)) (by decide)), (get_eq eF571), n572, n574, n577, (show 0 ≤ v569.toInt ∧ v569.toInt ≤ 940 from ⟨by omega, by omega⟩), (ir_wk k565 (by decide) (by decide)), (by show 0 ≤ v564.toInt ∧ v564.toInt ≤ v569.toInt ∧ x_p.toInt + v564.toInt ≤ v569.toInt ∧ (v564.toInt = 0 → v569.toInt = u2.toInt); omega), (by show u524.toInt = 1 → u361.toInt = 0 → (0 ≤ v561.toInt ∧ v561.toInt ≤ 999 ∧ (v564.toInt = 0 → v561.toInt = 0) ∧ (v564.toInt = 1 → v561.toInt ≤ 9) ∧ (v564.toInt = 2 → v561.toInt ≤ 99)); omega)⟩ (by show (x_size.toInt - v569.toInt).toNat < (x_size.toInt - u369.toInt).toNat; omega) _ _ _ hP hD hS (lv_sub hl [0, 1, 2, 3] rfl)
                  refine lv_aload_n hx hb dX10_next_222 rfl (lv_at hl 3 rfl) ?_
                  refine get_f (D := D) (ci := 10) (v := .int u370) (C := RX10) (T := TX10) (N := 67) hx hb hw inAX10 hown hK hP 0 rfl rfl 13 (by decide) (hw _ q_1274) (fun _ h9 => h9) i412 dX10_next_223 ?_
                  refine lv_bipush (v := 7) hx hb dX10_next_226 (by decide) ?_
                  refine lv_icmp_ge (tgt := 248) hx hb dX10_next_228 (by decide) (fun c578 => ?_) (fun c578 => ?_)
                  · have dc578 : 7 ≤ u370.toInt := le_i (a := 7) (b := u370.toInt) rfl rfl c578
                    have k579 : 7 ≤ u370.toInt ∧ u370.toInt ≤ 940 := ⟨Int.le_trans (Int.le_refl _) dc578, i416.2⟩
                    exact cut530 G368 u372 SAME.rf i414 _ _ _ hP hD hS (lv_sub hl [0, 1, 2, 3] rfl)
                  · have dc578 : u370.toInt < 7 := nle_i (a := 7) (b := u370.toInt) rfl rfl c578
                    have k580 : 0 ≤ u370.toInt ∧ u370.toInt ≤ 6 := ⟨i416.1, up_lt dc578 (Int.le_refl _) (by decide)⟩
                    refine lv_aload_n hx hb dX10_next_231 rfl (lv_at hl 3 rfl) ?_
                    refine lv_aload_n hx hb dX10_next_232 rfl (lv_at hl 3 rfl) ?_
                    refine get_f (D := D) (ci := 10) (v := .long u372) (C := RX10) (T := TX10) (N := 67) hx hb hw inAX10 hown hK hP 0 rfl rfl 18 (by decide) (hw _ q_1279) (fun _ h9 => h9) i414 dX10_next_233 ?_
                    refine lv_bipush (v := 8) hx hb dX10_next_236 (by decide) ?_
                    obtain ⟨v581, ev581⟩ : ∃ z : Int64, (u372 : Int64) <<< ((8 : Int32).toInt64 &&& 63) = z := ⟨_, rfl⟩
                    refine lv_lshl (v := v581) hx hb dX10_next_238 ev581 ?_
                    refine lv_aload_n hx hb dX10_next_239 rfl (lv_at hl 3 rfl) ?_
                    refine call_Vi (wr := []) (As := []) (rest := [.long v581, .ref h0]) hx hb hml hown hw (m_X10_peek l D cI cJ cB cP cM cZ h0 h_tape G368 x_size u369 f_tape _ n421 n424 (ir_wk k347 (by decide) (by decide)) i411 i415) wV_X10_169_X10_peek dX10_next_240 hK hP hD hS hA [0, 1] [] rfl rfl (by decide) (by decide) (by decide) 0 10 rfl rfl GG.fb hG.at hl.1 rfl (Nat.le_of_ble_eq_true rfl) ⟨(Nat.le_of_ble_eq_true rfl), (Nat.le_of_ble_eq_true rfl)⟩ ⟨(Nat.le_of_ble_eq_true rfl), (Nat.le_of_ble_eq_true rfl)⟩ (fun r582 u H locs hp hP hD hS => ?_)
                    obtain ⟨t583, t584, rfl⟩ := hp
                    have hP : va_P D vwCl [(h0, .inr (10, vL 67 G368)), (h_tape, .inl (cB, 940, .inl f_tape))] H := hP
                    have hD : va_D A [(h0, .inr (10, vL 67 G368)), (h_tape, .inl (cB, 940, .inl f_tape))] := hD
                    refine W.widen (k := 0) (n := 0) (Nat.le_of_ble_eq_true rfl) (Nat.le_of_ble_eq_true rfl) ?_
                    obtain ⟨v586, ev586⟩ : ∃ z : Int64, (r582 : Int32).toInt64 = z := ⟨_, rfl⟩
                    refine lv_i2l (v := v586) hx hb dX10_next_243 ev586 ?_
                    refine lv_lor hx hb dX10_next_244 ?_
                    refine lv_topl (fun v587 ev587 => ?_)
                    refine put_f (D := D) (ci := 10) (v := .long v587) (ty := .long) (C := RX10) (T := TX10) (N := 67) hx hb hw inAX10 tyX10 tyX10_ok nmX10 hown hK hP hD hS 0 rfl rfl 18 (by decide) (hw _ q_1279) (fun _ h9 => h9) rfl (by decide +kernel) rfl rfl dX10_next_245 (fun H locs F588 eF588 hP hD hS => ?_)
                    have hP : va_P D vwCl [(h0, .inr (10, vL 67 F588)), (h_tape, .inl (cB, 940, .inl f_tape))] H := hP
                    have hD : va_D A [(h0, .inr (10, vL 67 F588)), (h_tape, .inl (cB, 940, .inl f_tape))] := hD
                    exact cut530 F588 v587 (SAME.up eF588 SAME.rf (by decide)) (get_eq eF588) _ _ _ hP hD hS (lv_sub hl [0, 1, 2, 3] rfl)
                refine lv_iload_n hx hb dX10_next_201 rfl (lv_at hl 0 rfl) ?_
                refine lv_if_eq (tgt := 220) hx hb dX10_next_202 (by decide) (fun c589 => ?_) (fun c589 => ?_)
                · have dc589 : u367.toInt = 0 := eq_i (a := u367.toInt) (b := 0) rfl rfl c589
                  have k590 : 0 ≤ u367.toInt ∧ u367.toInt ≤ 0 := ⟨i409.1, Int.le_trans (Int.le_of_eq dc589) (Int.le_refl _)⟩
                  refine lv_iconst (v := 0) hx hb dX10_next_220 (by decide) ?_
                  refine lv_istore_n (lv' := [(3, .int 0), (2, .int u361), (1, .int r355), (0, .ref h0)]) hx hb dX10_next_221 rfl hl (by decide) rfl (fun ls hl => ?_)
                  exact cut525 0 (show 0 ≤ (0 : Int32).toInt ∧ (0 : Int32).toInt ≤ 1 by decide) (by show u369.toInt < x_size.toInt ∧ (0 = 1 → u361.toInt = 0 → (48 ≤ (f_tape u369.toNatClampNeg &&& 255).toInt ∧ (f_tape u369.toNatClampNeg &&& 255).toInt ≤ 57 ∧ 0 ≤ u371.toInt ∧ u371.toInt ≤ 999 ∧ (u370.toInt = 0 → u371.toInt = 0) ∧ (u370.toInt = 1 → u371.toInt ≤ 9) ∧ (u370.toInt = 2 → u371.toInt ≤ 99))); omega) _ _ _ hP hD hS (lv_sub hl [0, 1, 2, 3] rfl)
                · have dc589 : u367.toInt ≠ 0 := ne_i (a := u367.toInt) (b := 0) rfl rfl c589
                  have k591 : 1 ≤ u367.toInt ∧ u367.toInt ≤ 1 := ⟨ne_lo dc589 i409.1 ⟨Int.le_refl _, Int.le_refl _⟩ (by decide), i409.2⟩
                  refine lv_aload_n hx hb dX10_next_205 rfl (lv_at hl 3 rfl) ?_
                  refine call_Vi (wr := []) (As := []) (rest := []) hx hb hml hown hw (m_X10_peek l D cI cJ cB cP cM cZ h0 h_tape G368 x_size u369 f_tape _ n421 n424 (ir_wk k347 (by decide) (by decide)) i411 i415) wV_X10_169_X10_peek dX10_next_206 hK hP hD hS hA [0, 1] [] rfl rfl (by decide) (by decide) (by decide) 0 10 rfl rfl GG.fb hG.at hl.1 rfl (Nat.le_of_ble_eq_true rfl) ⟨(Nat.le_of_ble_eq_true rfl), (Nat.le_of_ble_eq_true rfl)⟩ ⟨(Nat.le_of_ble_eq_true rfl), (Nat.le_of_ble_eq_true rfl)⟩ (fun r592 u H locs hp hP hD hS => ?_)
                  obtain ⟨t593, t594, rfl⟩ := hp
                  have hP : va_P D vwCl [(h0, .inr (10, vL 67 G368)), (h_tape, .inl (cB, 940, .inl f_tape))] H := hP
                  have hD : va_D A [(h0, .inr (10, vL 67 G368)), (h_tape, .inl (cB, 940, .inl f_tape))] := hD
                  refine W.widen (k := 0) (n := 0) (Nat.le_of_ble_eq_true rfl) (Nat.le_of_ble_eq_true rfl) ?_
                  refine call_Si (wr := [(h0, .inr (10, vL 67 G368)), (h_tape, .inl (cB, 940, .inl f_tape))]) (As := [.int r592]) (rest := []) hx hb hml hown hw (m_X10_isSmall l D cI cJ cB cP cM cZ r592 _ ) wS_X10_182_X10_isSmall dX10_next_209 hP hD hS hA [] [0, 1] rfl rfl (by decide) (by decide) (by decide) GG.fb hG.at hl.1 rfl (Nat.le_of_ble_eq_true rfl) ⟨(Nat.le_of_ble_eq_true rfl), (Nat.le_of_ble_eq_true rfl)⟩ ⟨(Nat.le_of_ble_eq_true rfl), (Nat.le_of_ble_eq_true rfl)⟩ (fun r596 u H locs hp hP hD hS => ?_)
                  obtain ⟨t597, t598, rfl⟩ := hp
                  have hP : va_P D vwCl [(h0, .inr (10, vL 67 G368)), (h_tape, .inl (cB, 940, .inl f_tape))] H := hP
                  have hD : va_D A [(h0, .inr (10, vL 67 G368)), (h_tape, .inl (cB, 940, .inl f_tape))] := hD
                  refine W.widen (k := 0) (n := 0) (Nat.le_of_ble_eq_true rfl) (Nat.le_of_ble_eq_true rfl) ?_
                  refine lv_iload_n hx hb dX10_next_212 rfl (lv_at hl 1 rfl) ?_
                  refine lv_icmp_ne (tgt := 220) hx hb dX10_next_213 (by decide) (fun c600 => ?_) (fun c600 => ?_)
                  · have dc600 : r596.toInt ≠ u361.toInt := ne_i (a := r596.toInt) (b := u361.toInt) rfl rfl c600
                    refine lv_iconst (v := 0) hx hb dX10_next_220 (by decide) ?_
                    refine lv_istore_n (lv' := [(3, .int 0), (2, .int u361), (1, .int r355), (0, .ref h0)]) hx hb dX10_next_221 rfl hl (by decide) rfl (fun ls hl => ?_)
                    exact cut525 0 (show 0 ≤ (0 : Int32).toInt ∧ (0 : Int32).toInt ≤ 1 by decide) (by show u369.toInt < x_size.toInt ∧ (0 = 1 → u361.toInt = 0 → (48 ≤ (f_tape u369.toNatClampNeg &&& 255).toInt ∧ (f_tape u369.toNatClampNeg &&& 255).toInt ≤ 57 ∧ 0 ≤ u371.toInt ∧ u371.toInt ≤ 999 ∧ (u370.toInt = 0 → u371.toInt = 0) ∧ (u370.toInt = 1 → u371.toInt ≤ 9) ∧ (u370.toInt = 2 → u371.toInt ≤ 99))); omega) _ _ _ hP hD hS (lv_sub hl [0, 1, 2, 3] rfl)
                  · have dc600 : r596.toInt = u361.toInt := eq_i (a := r596.toInt) (b := u361.toInt) rfl rfl c600
                    refine lv_iconst (v := 1) hx hb dX10_next_216 (by decide) ?_
                    refine lv_goto (tgt := 221) hx hb dX10_next_217 (by decide) ?_
                    refine lv_istore_n (lv' := [(3, .int 1), (2, .int u361), (1, .int r355), (0, .ref h0)]) hx hb dX10_next_221 rfl hl (by decide) rfl (fun ls hl => ?_)
                    exact cut525 1 (show 0 ≤ (1 : Int32).toInt ∧ (1 : Int32).toInt ≤ 1 by decide) (by show u369.toInt < x_size.toInt ∧ (1 = 1 → u361.toInt = 0 → (48 ≤ (f_tape u369.toNatClampNeg &&& 255).toInt ∧ (f_tape u369.toNatClampNeg &&& 255).toInt ≤ 57 ∧ 0 ≤ u371.toInt ∧ u371.toInt ≤ 999 ∧ (u370.toInt = 0 → u371.toInt = 0) ∧ (u370.toInt = 1 → u371.toInt ≤ 9) ∧ (u370.toInt = 2 → u371.toInt ≤ 99))); omega) _ _ _ hP hD hS (lv_sub hl [0, 1, 2, 3] rfl)
          refine lv_iload_n hx hb dX10_next_95 rfl (lv_at hl 0 rfl) ?_
          refine call_Si (wr := [(h0, .inr (10, vL 67 F9)), (h_tape, .inl (cB, 940, .inl f_tape))]) (As := [.int r355]) (rest := []) hx hb hml hown hw (m_X10_isSmall l D cI cJ cB cP cM cZ r355 _ ) wS_X10_182_X10_isSmall dX10_next_96 hP hD hS hA [] [0, 1] rfl rfl (by decide) (by decide) (by decide) GG.fb hG.at hl.1 rfl (Nat.le_of_ble_eq_true rfl) ⟨(Nat.le_of_ble_eq_true rfl), (Nat.le_of_ble_eq_true rfl)⟩ ⟨(Nat.le_of_ble_eq_true rfl), (Nat.le_of_ble_eq_true rfl)⟩ (fun r601 u H locs hp hP hD hS => ?_)
          obtain ⟨t602, t603, rfl⟩ := hp
          have hP : va_P D vwCl [(h0, .inr (10, vL 67 F9)), (h_tape, .inl (cB, 940, .inl f_tape))] H := hP
          have hD : va_D A [(h0, .inr (10, vL 67 F9)), (h_tape, .inl (cB, 940, .inl f_tape))] := hD
          refine W.widen (k := 0) (n := 0) (Nat.le_of_ble_eq_true rfl) (Nat.le_of_ble_eq_true rfl) ?_
          refine lv_if_ne (tgt := 164) hx hb dX10_next_99 (by decide) (fun c605 => ?_) (fun c605 => ?_)
          · have dc605 : r601.toInt ≠ 0 := ne_i (a := r601.toInt) (b := 0) rfl rfl c605
            have k606 : 1 ≤ r601.toInt ∧ r601.toInt ≤ 1 := ⟨ne_lo dc605 t602.1 ⟨Int.le_refl _, Int.le_refl _⟩ (by decide), t602.2⟩
            refine lv_iload_n hx hb dX10_next_164 rfl (lv_at hl 0 rfl) ?_
            refine call_Si (wr := [(h0, .inr (10, vL 67 F9)), (h_tape, .inl (cB, 940, .inl f_tape))]) (As := [.int r355]) (rest := []) hx hb hml hown hw (m_X10_isSmall l D cI cJ cB cP cM cZ r355 _ ) wS_X10_182_X10_isSmall dX10_next_165 hP hD hS hA [] [0, 1] rfl rfl (by decide) (by decide) (by decide) GG.fb hG.at hl.1 rfl (Nat.le_of_ble_eq_true rfl) ⟨(Nat.le_of_ble_eq_true rfl), (Nat.le_of_ble_eq_true rfl)⟩ ⟨(Nat.le_of_ble_eq_true rfl), (Nat.le_of_ble_eq_true rfl)⟩ (fun r607 u H locs hp hP hD hS => ?_)
            obtain ⟨t608, t609, rfl⟩ := hp
            have hP : va_P D vwCl [(h0, .inr (10, vL 67 F9)), (h_tape, .inl (cB, 940, .inl f_tape))] H := hP
            have hD : va_D A [(h0, .inr (10, vL 67 F9)), (h_tape, .inl (cB, 940, .inl f_tape))] := hD
            refine W.widen (k := 0) (n := 0) (Nat.le_of_ble_eq_true rfl) (Nat.le_of_ble_eq_true rfl) ?_
            refine lv_istore_n (lv' := [(2, .int r607), (1, .int r355), (0, .ref h0)]) hx hb dX10_next_168 rfl hl (by decide) rfl (fun ls hl => ?_)
            refine lv_iconst (v := 1) hx hb dX10_next_169 (by decide) ?_
            refine lv_istore_n (lv' := [(3, .int 1), (2, .int r607), (1, .int r355), (0, .ref h0)]) hx hb dX10_next_170 rfl hl (by decide) rfl (fun ls hl => ?_)
            exact cut362 r607 t608 (by show ((48 ≤ r355.toInt ∧ r355.toInt ≤ 57 ∧ r607.toInt = 0) ∨ (97 ≤ r355.toInt ∧ r355.toInt ≤ 122 ∧ r607.toInt = 1)); omega) _ _ _ hP hD hS (lv_sub hl [0, 1, 2, 3] rfl)
          · have dc605 : r601.toInt = 0 := eq_i (a := r601.toInt) (b := 0) rfl rfl c605
            have k611 : 0 ≤ r601.toInt ∧ r601.toInt ≤ 0 := ⟨t602.1, Int.le_trans (Int.le_of_eq dc605) (Int.le_refl _)⟩
            refine lv_iload_n hx hb dX10_next_102 rfl (lv_at hl 0 rfl) ?_
            refine call_Si (wr := [(h0, .inr (10, vL 67 F9)), (h_tape, .inl (cB, 940, .inl f_tape))]) (As := [.int r355]) (rest := []) hx hb hml hown hw (m_X10_isDigit l D cI cJ cB cP cM cZ r355 _ ) wS_X10_186_X10_isDigit dX10_next_103 hP hD hS hA [] [0, 1] rfl rfl (by decide) (by decide) (by decide) GG.fb hG.at hl.1 rfl (Nat.le_of_ble_eq_true rfl) ⟨(Nat.le_of_ble_eq_true rfl), (Nat.le_of_ble_eq_true rfl)⟩ ⟨(Nat.le_of_ble_eq_true rfl), (Nat.le_of_ble_eq_true rfl)⟩ (fun r612 u H locs hp hP hD hS => ?_)
            obtain ⟨t613, t614, rfl⟩ := hp
            have hP : va_P D vwCl [(h0, .inr (10, vL 67 F9)), (h_tape, .inl (cB, 940, .inl f_tape))] H := hP
            have hD : va_D A [(h0, .inr (10, vL 67 F9)), (h_tape, .inl (cB, 940, .inl f_tape))] := hD
            refine W.widen (k := 0) (n := 0) (Nat.le_of_ble_eq_true rfl) (Nat.le_of_ble_eq_true rfl) ?_
            refine lv_if_ne (tgt := 164) hx hb dX10_next_106 (by decide) (fun c616 => ?_) (fun c616 => ?_)
            · have dc616 : r612.toInt ≠ 0 := ne_i (a := r612.toInt) (b := 0) rfl rfl c616
              have k617 : 1 ≤ r612.toInt ∧ r612.toInt ≤ 1 := ⟨ne_lo dc616 t613.1 ⟨Int.le_refl _, Int.le_refl _⟩ (by decide), t613.2⟩
              refine lv_iload_n hx hb dX10_next_164 rfl (lv_at hl 0 rfl) ?_
              refine call_Si (wr := [(h0, .inr (10, vL 67 F9)), (h_tape, .inl (cB, 940, .inl f_tape))]) (As := [.int r355]) (rest := []) hx hb hml hown hw (m_X10_isSmall l D cI cJ cB cP cM cZ r355 _ ) wS_X10_182_X10_isSmall dX10_next_165 hP hD hS hA [] [0, 1] rfl rfl (by decide) (by decide) (by decide) GG.fb hG.at hl.1 rfl (Nat.le_of_ble_eq_true rfl) ⟨(Nat.le_of_ble_eq_true rfl), (Nat.le_of_ble_eq_true rfl)⟩ ⟨(Nat.le_of_ble_eq_true rfl), (Nat.le_of_ble_eq_true rfl)⟩ (fun r618 u H locs hp hP hD hS => ?_)
              obtain ⟨t619, t620, rfl⟩ := hp
              have hP : va_P D vwCl [(h0, .inr (10, vL 67 F9)), (h_tape, .inl (cB, 940, .inl f_tape))] H := hP
              have hD : va_D A [(h0, .inr (10, vL 67 F9)), (h_tape, .inl (cB, 940, .inl f_tape))] := hD
              refine W.widen (k := 0) (n := 0) (Nat.le_of_ble_eq_true rfl) (Nat.le_of_ble_eq_true rfl) ?_
              refine lv_istore_n (lv' := [(2, .int r618), (1, .int r355), (0, .ref h0)]) hx hb dX10_next_168 rfl hl (by decide) rfl (fun ls hl => ?_)
              refine lv_iconst (v := 1) hx hb dX10_next_169 (by decide) ?_
              refine lv_istore_n (lv' := [(3, .int 1), (2, .int r618), (1, .int r355), (0, .ref h0)]) hx hb dX10_next_170 rfl hl (by decide) rfl (fun ls hl => ?_)
              exact cut362 r618 t619 (by show ((48 ≤ r355.toInt ∧ r355.toInt ≤ 57 ∧ r618.toInt = 0) ∨ (97 ≤ r355.toInt ∧ r355.toInt ≤ 122 ∧ r618.toInt = 1)); omega) _ _ _ hP hD hS (lv_sub hl [0, 1, 2, 3] rfl)
            · have dc616 : r612.toInt = 0 := eq_i (a := r612.toInt) (b := 0) rfl rfl c616
              have k622 : 0 ≤ r612.toInt ∧ r612.toInt ≤ 0 := ⟨t613.1, Int.le_trans (Int.le_of_eq dc616) (Int.le_refl _)⟩
              refine lv_aload_n hx hb dX10_next_109 rfl (lv_at hl 1 rfl) ?_
              refine lv_iload_n hx hb dX10_next_110 rfl (lv_at hl 0 rfl) ?_
              refine lv_bipush (v := 59) hx hb dX10_next_111 (by decide) ?_
              refine lv_icmp_eq (tgt := 140) hx hb dX10_next_113 (by decide) (fun c623 => ?_) (fun c623 => ?_)
              · have dc623 : r355.toInt = 59 := eq_i (a := r355.toInt) (b := 59) rfl rfl c623
                have k624 : 59 ≤ r355.toInt ∧ r355.toInt ≤ 59 := ⟨Int.le_trans (Int.le_refl _) (Int.le_of_eq dc623.symm), Int.le_trans (Int.le_of_eq dc623) (Int.le_refl _)⟩
                refine lv_iconst (v := 3) hx hb dX10_next_140 (by decide) ?_
                refine lv_goto (tgt := 145) hx hb dX10_next_141 (by decide) ?_
                refine put_f (D := D) (ci := 10) (v := .int 3) (ty := .int) (C := RX10) (T := TX10) (N := 67) hx hb hw inAX10 tyX10 tyX10_ok nmX10 hown hK hP hD hS 0 rfl rfl 11 (by decide) (hw _ q_1272) (fun _ h9 => h9) rfl (by decide +kernel) rfl rfl dX10_next_145 (fun H locs F625 eF625 hP hD hS => ?_)
                have hP : va_P D vwCl [(h0, .inr (10, vL 67 F625)), (h_tape, .inl (cB, 940, .inl f_tape))] H := hP
                have hD : va_D A [(h0, .inr (10, vL 67 F625)), (h_tape, .inl (cB, 940, .inl f_tape))] := hD
                refine lv_aload_n hx hb dX10_next_148 rfl (lv_at hl 1 rfl) ?_
                refine lv_iload_n hx hb dX10_next_149 rfl (lv_at hl 0 rfl) ?_
                refine put_f (D := D) (ci := 10) (v := .int r355) (ty := .int) (C := RX10) (T := TX10) (N := 67) hx hb hw inAX10 tyX10 tyX10_ok nmX10 hown hK hP hD hS 0 rfl rfl 14 (by decide) (hw _ q_1275) (fun _ h9 => h9) rfl (by decide +kernel) rfl rfl dX10_next_150 (fun H locs F626 eF626 hP hD hS => ?_)
                have hP : va_P D vwCl [(h0, .inr (10, vL 67 F626)), (h_tape, .inl (cB, 940, .inl f_tape))] H := hP
                have hD : va_D A [(h0, .inr (10, vL 67 F626)), (h_tape, .inl (cB, 940, .inl f_tape))] := hD
                refine lv_aload_n hx hb dX10_next_153 rfl (lv_at hl 1 rfl) ?_
                refine lv_dup hx hb dX10_next_154 rfl ?_
                have n627 : F625 4 = .int u2 := (get_ne eF625 (by decide) n349)
                have n628 : F626 4 = .int u2 := (get_ne eF626 (by decide) n627)
                refine get_f (D := D) (ci := 10) (v := .int u2) (C := RX10) (T := TX10) (N := 67) hx hb hw inAX10 hown hK hP 0 rfl rfl 4 (by decide) (hw _ q_1265) (fun _ h9 => h9) n628 dX10_next_155 ?_
                refine lv_iconst (v := 1) hx hb dX10_next_158 (by decide) ?_
                refine lv_iadd hx hb dX10_next_159 ?_
                refine lv_topi (fun v629 ev629 => ?_)
                have bv629 : v629.toInt = u2.toInt + 1 := by rw [ev629]; exact add_k rfl rfl k351 ⟨Int.le_refl _, Int.le_refl _⟩ (by decide)
                have k630 : 1 ≤ v629.toInt ∧ v629.toInt ≤ 939 := add_r bv629 k351 ⟨Int.le_refl _, Int.le_refl _⟩ (by decide)
                refine put_f (D := D) (ci := 10) (v := .int v629) (ty := .int) (C := RX10) (T := TX10) (N := 67) hx hb hw inAX10 tyX10 tyX10_ok nmX10 hown hK hP hD hS 0 rfl rfl 4 (by decide) (hw _ q_1265) (fun _ h9 => h9) rfl (by decide +kernel) rfl rfl dX10_next_160 (fun H locs F631 eF631 hP hD hS => ?_)
                have hP : va_P D vwCl [(h0, .inr (10, vL 67 F631)), (h_tape, .inl (cB, 940, .inl f_tape))] H := hP
                have hD : va_D A [(h0, .inr (10, vL 67 F631)), (h_tape, .inl (cB, 940, .inl f_tape))] := hD
                exact ret_v hx hb hr hlocks hS hP hD dX10_next_163 (Nat.le_of_ble_eq_true rfl) (Nat.le_of_ble_eq_true rfl) ⟨F631, v629, 3, u2, 0, r355, x_word, (SAME.up eF631 (SAME.up eF626 (SAME.up eF625 (SAME.up eF9 (SAME.up eF8 (SAME.tr SAME.rf i4 (by decide)) (by decide)) (by decide)) (by decide)) (by decide)) (by decide)), (get_eq eF631), (ir_wk k630 (by decide) (by decide)), (get_ne eF631 (by decide) (get_ne eF626 (by decide) (get_eq eF625))), (show 0 ≤ (3 : Int32).toInt ∧ (3 : Int32).toInt ≤ 4 by decide), (get_ne eF631 (by decide) (get_ne eF626 (by decide) (get_ne eF625 (by decide) (get_ne eF9 (by decide) (get_eq eF8))))), (ir_wk k351 (by decide) (by decide)), (get_ne eF631 (by decide) (get_ne eF626 (by decide) (get_ne eF625 (by decide) (get_eq eF9)))), (show 0 ≤ (0 : Int32).toInt ∧ (0 : Int32).toInt ≤ 940 by decide), (get_ne eF631 (by decide) (get_eq eF626)), (get_ne eF631 (by decide) (get_ne eF626 (by decide) (get_ne eF625 (by decide) (get_ne eF9 (by decide) (get_ne eF8 (by decide) (SAME.at i4 (by decide) e_word)))))), (by have zl0 : (0 : Int32).toInt = 0 := (by decide); have zl4 : (4 : Int32).toInt = 4 := (by decide); omega), (by have zl0 : (0 : Int32).toInt = 0 := (by decide); have zl4 : (4 : Int32).toInt = 4 := (by decide); omega), (by have zl0 : (0 : Int32).toInt = 0 := (by decide); have zl3 : (3 : Int32).toInt = 3 := (by decide); omega), rfl⟩
              · have dc623 : r355.toInt ≠ 59 := ne_i (a := r355.toInt) (b := 59) rfl rfl c623
                refine lv_iload_n hx hb dX10_next_116 rfl (lv_at hl 0 rfl) ?_
                refine lv_bipush (v := 40) hx hb dX10_next_117 (by decide) ?_
                refine lv_icmp_eq (tgt := 140) hx hb dX10_next_119 (by decide) (fun c632 => ?_) (fun c632 => ?_)
                · have dc632 : r355.toInt = 40 := eq_i (a := r355.toInt) (b := 40) rfl rfl c632
                  have k633 : 40 ≤ r355.toInt ∧ r355.toInt ≤ 40 := ⟨Int.le_trans (Int.le_refl _) (Int.le_of_eq dc632.symm), Int.le_trans (Int.le_of_eq dc632) (Int.le_refl _)⟩
                  refine lv_iconst (v := 3) hx hb dX10_next_140 (by decide) ?_
                  refine lv_goto (tgt := 145) hx hb dX10_next_141 (by decide) ?_
                  refine put_f (D := D) (ci := 10) (v := .int 3) (ty := .int) (C := RX10) (T := TX10) (N := 67) hx hb hw inAX10 tyX10 tyX10_ok nmX10 hown hK hP hD hS 0 rfl rfl 11 (by decide) (hw _ q_1272) (fun _ h9 => h9) rfl (by decide +kernel) rfl rfl dX10_next_145 (fun H locs F634 eF634 hP hD hS => ?_)
                  have hP : va_P D vwCl [(h0, .inr (10, vL 67 F634)), (h_tape, .inl (cB, 940, .inl f_tape))] H := hP
                  have hD : va_D A [(h0, .inr (10, vL 67 F634)), (h_tape, .inl (cB, 940, .inl f_tape))] := hD
                  refine lv_aload_n hx hb dX10_next_148 rfl (lv_at hl 1 rfl) ?_
                  refine lv_iload_n hx hb dX10_next_149 rfl (lv_at hl 0 rfl) ?_
                  refine put_f (D := D) (ci := 10) (v := .int r355) (ty := .int) (C := RX10) (T := TX10) (N := 67) hx hb hw inAX10 tyX10 tyX10_ok nmX10 hown hK hP hD hS 0 rfl rfl 14 (by decide) (hw _ q_1275) (fun _ h9 => h9) rfl (by decide +kernel) rfl rfl dX10_next_150 (fun H locs F635 eF635 hP hD hS => ?_)
                  have hP : va_P D vwCl [(h0, .inr (10, vL 67 F635)), (h_tape, .inl (cB, 940, .inl f_tape))] H := hP
                  have hD : va_D A [(h0, .inr (10, vL 67 F635)), (h_tape, .inl (cB, 940, .inl f_tape))] := hD
                  refine lv_aload_n hx hb dX10_next_153 rfl (lv_at hl 1 rfl) ?_
                  refine lv_dup hx hb dX10_next_154 rfl ?_
                  have n636 : F634 4 = .int u2 := (get_ne eF634 (by decide) n349)
                  have n637 : F635 4 = .int u2 := (get_ne eF635 (by decide) n636)
                  refine get_f (D := D) (ci := 10) (v := .int u2) (C := RX10) (T := TX10) (N := 67) hx hb hw inAX10 hown hK hP 0 rfl rfl 4 (by decide) (hw _ q_1265) (fun _ h9 => h9) n637 dX10_next_155 ?_
                  refine lv_iconst (v := 1) hx hb dX10_next_158 (by decide) ?_
                  refine lv_iadd hx hb dX10_next_159 ?_
                  refine lv_topi (fun v638 ev638 => ?_)
                  have bv638 : v638.toInt = u2.toInt + 1 := by rw [ev638]; exact add_k rfl rfl k351 ⟨Int.le_refl _, Int.le_refl _⟩ (by decide)
                  have k639 : 1 ≤ v638.toInt ∧ v638.toInt ≤ 939 := add_r bv638 k351 ⟨Int.le_refl _, Int.le_refl _⟩ (by decide)
                  refine put_f (D := D) (ci := 10) (v := .int v638) (ty := .int) (C := RX10) (T := TX10) (N := 67) hx hb hw inAX10 tyX10 tyX10_ok nmX10 hown hK hP hD hS 0 rfl rfl 4 (by decide) (hw _ q_1265) (fun _ h9 => h9) rfl (by decide +kernel) rfl rfl dX10_next_160 (fun H locs F640 eF640 hP hD hS => ?_)
                  have hP : va_P D vwCl [(h0, .inr (10, vL 67 F640)), (h_tape, .inl (cB, 940, .inl f_tape))] H := hP
                  have hD : va_D A [(h0, .inr (10, vL 67 F640)), (h_tape, .inl (cB, 940, .inl f_tape))] := hD
                  exact ret_v hx hb hr hlocks hS hP hD dX10_next_163 (Nat.le_of_ble_eq_true rfl) (Nat.le_of_ble_eq_true rfl) ⟨F640, v638, 3, u2, 0, r355, x_word, (SAME.up eF640 (SAME.up eF635 (SAME.up eF634 (SAME.up eF9 (SAME.up eF8 (SAME.tr SAME.rf i4 (by decide)) (by decide)) (by decide)) (by decide)) (by decide)) (by decide)), (get_eq eF640), (ir_wk k639 (by decide) (by decide)), (get_ne eF640 (by decide) (get_ne eF635 (by decide) (get_eq eF634))), (show 0 ≤ (3 : Int32).toInt ∧ (3 : Int32).toInt ≤ 4 by decide), (get_ne eF640 (by decide) (get_ne eF635 (by decide) (get_ne eF634 (by decide) (get_ne eF9 (by decide) (get_eq eF8))))), (ir_wk k351 (by decide) (by decide)), (get_ne eF640 (by decide) (get_ne eF635 (by decide) (get_ne eF634 (by decide) (get_eq eF9)))), (show 0 ≤ (0 : Int32).toInt ∧ (0 : Int32).toInt ≤ 940 by decide), (get_ne eF640 (by decide) (get_eq eF635)), (get_ne eF640 (by decide) (get_ne eF635 (by decide) (get_ne eF634 (by decide) (get_ne eF9 (by decide) (get_ne eF8 (by decide) (SAME.at i4 (by decide) e_word)))))), (by have zl0 : (0 : Int32).toInt = 0 := (by decide); have zl4 : (4 : Int32).toInt = 4 := (by decide); omega), (by have zl0 : (0 : Int32).toInt = 0 := (by decide); have zl4 : (4 : Int32).toInt = 4 := (by decide); omega), (by have zl0 : (0 : Int32).toInt = 0 := (by decide); have zl3 : (3 : Int32).toInt = 3 := (by decide); omega), rfl⟩
                · have dc632 : r355.toInt ≠ 40 := ne_i (a := r355.toInt) (b := 40) rfl rfl c632
                  refine lv_iload_n hx hb dX10_next_122 rfl (lv_at hl 0 rfl) ?_
                  refine lv_bipush (v := 41) hx hb dX10_next_123 (by decide) ?_
                  refine lv_icmp_eq (tgt := 140) hx hb dX10_next_125 (by decide) (fun c641 => ?_) (fun c641 => ?_)
                  · have dc641 : r355.toInt = 41 := eq_i (a := r355.toInt) (b := 41) rfl rfl c641
                    have k642 : 41 ≤ r355.toInt ∧ r355.toInt ≤ 41 := ⟨Int.le_trans (Int.le_refl _) (Int.le_of_eq dc641.symm), Int.le_trans (Int.le_of_eq dc641) (Int.le_refl _)⟩
                    refine lv_iconst (v := 3) hx hb dX10_next_140 (by decide) ?_
                    refine lv_goto (tgt := 145) hx hb dX10_next_141 (by decide) ?_
                    refine put_f (D := D) (ci := 10) (v := .int 3) (ty := .int) (C := RX10) (T := TX10) (N := 67) hx hb hw inAX10 tyX10 tyX10_ok nmX10 hown hK hP hD hS 0 rfl rfl 11 (by decide) (hw _ q_1272) (fun _ h9 => h9) rfl (by decide +kernel) rfl rfl dX10_next_145 (fun H locs F643 eF643 hP hD hS => ?_)
                    have hP : va_P D vwCl [(h0, .inr (10, vL 67 F643)), (h_tape, .inl (cB, 940, .inl f_tape))] H := hP
                    have hD : va_D A [(h0, .inr (10, vL 67 F643)), (h_tape, .inl (cB, 940, .inl f_tape))] := hD
                    refine lv_aload_n hx hb dX10_next_148 rfl (lv_at hl 1 rfl) ?_
                    refine lv_iload_n hx hb dX10_next_149 rfl (lv_at hl 0 rfl) ?_
                    refine put_f (D := D) (ci := 10) (v := .int r355) (ty := .int) (C := RX10) (T := TX10) (N := 67) hx hb hw inAX10 tyX10 tyX10_ok nmX10 hown hK hP hD hS 0 rfl rfl 14 (by decide) (hw _ q_1275) (fun _ h9 => h9) rfl (by decide +kernel) rfl rfl dX10_next_150 (fun H locs F644 eF644 hP hD hS => ?_)
                    have hP : va_P D vwCl [(h0, .inr (10, vL 67 F644)), (h_tape, .inl (cB, 940, .inl f_tape))] H := hP
                    have hD : va_D A [(h0, .inr (10, vL 67 F644)), (h_tape, .inl (cB, 940, .inl f_tape))] := hD
                    refine lv_aload_n hx hb dX10_next_153 rfl (lv_at hl 1 rfl) ?_
                    refine lv_dup hx hb dX10_next_154 rfl ?_
                    have n645 : F643 4 = .int u2 := (get_ne eF643 (by decide) n349)
                    have n646 : F644 4 = .int u2 := (get_ne eF644 (by decide) n645)
                    refine get_f (D := D) (ci := 10) (v := .int u2) (C := RX10) (T := TX10) (N := 67) hx hb hw inAX10 hown hK hP 0 rfl rfl 4 (by decide) (hw _ q_1265) (fun _ h9 => h9) n646 dX10_next_155 ?_
                    refine lv_iconst (v := 1) hx hb dX10_next_158 (by decide) ?_
                    refine lv_iadd hx hb dX10_next_159 ?_
                    refine lv_topi (fun v647 ev647 => ?_)
                    have bv647 : v647.toInt = u2.toInt + 1 := by rw [ev647]; exact add_k rfl rfl k351 ⟨Int.le_refl _, Int.le_refl _⟩ (by decide)
                    have k648 : 1 ≤ v647.toInt ∧ v647.toInt ≤ 939 := add_r bv647 k351 ⟨Int.le_refl _, Int.le_refl _⟩ (by decide)
                    refine put_f (D := D) (ci := 10) (v := .int v647) (ty := .int) (C := RX10) (T := TX10) (N := 67) hx hb hw inAX10 tyX10 tyX10_ok nmX10 hown hK hP hD hS 0 rfl rfl 4 (by decide) (hw _ q_1265) (fun _ h9 => h9) rfl (by decide +kernel) rfl rfl dX10_next_160 (fun H locs F649 eF649 hP hD hS => ?_)
                    have hP : va_P D vwCl [(h0, .inr (10, vL 67 F649)), (h_tape, .inl (cB, 940, .inl f_tape))] H := hP
                    have hD : va_D A [(h0, .inr (10, vL 67 F649)), (h_tape, .inl (cB, 940, .inl f_tape))] := hD
                    exact ret_v hx hb hr hlocks hS hP hD dX10_next_163 (Nat.le_of_ble_eq_true rfl) (Nat.le_of_ble_eq_true rfl) ⟨F649, v647, 3, u2, 0, r355, x_word, (SAME.up eF649 (SAME.up eF644 (SAME.up eF643 (SAME.up eF9 (SAME.up eF8 (SAME.tr SAME.rf i4 (by decide)) (by decide)) (by decide)) (by decide)) (by decide)) (by decide)), (get_eq eF649), (ir_wk k648 (by decide) (by decide)), (get_ne eF649 (by decide) (get_ne eF644 (by decide) (get_eq eF643))), (show 0 ≤ (3 : Int32).toInt ∧ (3 : Int32).toInt ≤ 4 by decide), (get_ne eF649 (by decide) (get_ne eF644 (by decide) (get_ne eF643 (by decide) (get_ne eF9 (by decide) (get_eq eF8))))), (ir_wk k351 (by decide) (by decide)), (get_ne eF649 (by decide) (get_ne eF644 (by decide) (get_ne eF643 (by decide) (get_eq eF9)))), (show 0 ≤ (0 : Int32).toInt ∧ (0 : Int32).toInt ≤ 940 by decide), (get_ne eF649 (by decide) (get_eq eF644)), (get_ne eF649 (by decide) (get_ne eF644 (by decide) (get_ne eF643 (by decide) (get_ne eF9 (by decide) (get_ne eF8 (by decide) (SAME.at i4 (by decide) e_word)))))), (by have zl0 : (0 : Int32).toInt = 0 := (by decide); have zl4 : (4 : Int32).toInt = 4 := (by decide); omega), (by have zl0 : (0 : Int32).toInt = 0 := (by decide); have zl4 : (4 : Int32).toInt = 4 := (by decide); omega), (by have zl0 : (0 : Int32).toInt = 0 := (by decide); have zl3 : (3 : Int32).toInt = 3 := (by decide); omega), rfl⟩
                  · have dc641 : r355.toInt ≠ 41 := ne_i (a := r355.toInt) (b := 41) rfl rfl c641
                    refine lv_iload_n hx hb dX10_next_128 rfl (lv_at hl 0 rfl) ?_
                    refine lv_bipush (v := 60) hx hb dX10_next_129 (by decide) ?_
                    refine lv_icmp_lt (tgt := 144) hx hb dX10_next_131 (by decide) (fun c650 => ?_) (fun c650 => ?_)
                    · have dc650 : r355.toInt < 60 := lt_i (a := r355.toInt) (b := 60) rfl rfl c650
                      have k651 : 0 ≤ r355.toInt ∧ r355.toInt ≤ 59 := ⟨k360.1, up_lt dc650 (Int.le_refl _) (by decide)⟩
                      refine lv_iconst (v := 4) hx hb dX10_next_144 (by decide) ?_
                      refine put_f (D := D) (ci := 10) (v := .int 4) (ty := .int) (C := RX10) (T := TX10) (N := 67) hx hb hw inAX10 tyX10 tyX10_ok nmX10 hown hK hP hD hS 0 rfl rfl 11 (by decide) (hw _ q_1272) (fun _ h9 => h9) rfl (by decide +kernel) rfl rfl dX10_next_145 (fun H locs F652 eF652 hP hD hS => ?_)
                      have hP : va_P D vwCl [(h0, .inr (10, vL 67 F652)), (h_tape, .inl (cB, 940, .inl f_tape))] H := hP
                      have hD : va_D A [(h0, .inr (10, vL 67 F652)), (h_tape, .inl (cB, 940, .inl f_tape))] := hD
                      refine lv_aload_n hx hb dX10_next_148 rfl (lv_at hl 1 rfl) ?_
                      refine lv_iload_n hx hb dX10_next_149 rfl (lv_at hl 0 rfl) ?_
                      refine put_f (D := D) (ci := 10) (v := .int r355) (ty := .int) (C := RX10) (T := TX10) (N := 67) hx hb hw inAX10 tyX10 tyX10_ok nmX10 hown hK hP hD hS 0 rfl rfl 14 (by decide) (hw _ q_1275) (fun _ h9 => h9) rfl (by decide +kernel) rfl rfl dX10_next_150 (fun H locs F653 eF653 hP hD hS => ?_)
                      have hP : va_P D vwCl [(h0, .inr (10, vL 67 F653)), (h_tape, .inl (cB, 940, .inl f_tape))] H := hP
                      have hD : va_D A [(h0, .inr (10, vL 67 F653)), (h_tape, .inl (cB, 940, .inl f_tape))] := hD
                      refine lv_aload_n hx hb dX10_next_153 rfl (lv_at hl 1 rfl) ?_
                      refine lv_dup hx hb dX10_next_154 rfl ?_
                      have n654 : F652 4 = .int u2 := (get_ne eF652 (by decide) n349)
                      have n655 : F653 4 = .int u2 := (get_ne eF653 (by decide) n654)
                      refine get_f (D := D) (ci := 10) (v := .int u2) (C := RX10) (T := TX10) (N := 67) hx hb hw inAX10 hown hK hP 0 rfl rfl 4 (by decide) (hw _ q_1265) (fun _ h9 => h9) n655 dX10_next_155 ?_
                      refine lv_iconst (v := 1) hx hb dX10_next_158 (by decide) ?_
                      refine lv_iadd hx hb dX10_next_159 ?_
                      refine lv_topi (fun v656 ev656 => ?_)
                      have bv656 : v656.toInt = u2.toInt + 1 := by rw [ev656]; exact add_k rfl rfl k351 ⟨Int.le_refl _, Int.le_refl _⟩ (by decide)
                      have k657 : 1 ≤ v656.toInt ∧ v656.toInt ≤ 939 := add_r bv656 k351 ⟨Int.le_refl _, Int.le_refl _⟩ (by decide)
                      refine put_f (D := D) (ci := 10) (v := .int v656) (ty := .int) (C := RX10) (T := TX10) (N := 67) hx hb hw inAX10 tyX10 tyX10_ok nmX10 hown hK hP hD hS 0 rfl rfl 4 (by decide) (hw _ q_1265) (fun _ h9 => h9) rfl (by decide +kernel) rfl rfl dX10_next_160 (fun H locs F658 eF658 hP hD hS => ?_)
                      have hP : va_P D vwCl [(h0, .inr (10, vL 67 F658)), (h_tape, .inl (cB, 940, .inl f_tape))] H := hP
                      have hD : va_D A [(h0, .inr (10, vL 67 F658)), (h_tape, .inl (cB, 940, .inl f_tape))] := hD
                      exact ret_v hx hb hr hlocks hS hP hD dX10_next_163 (Nat.le_of_ble_eq_true rfl) (Nat.le_of_ble_eq_true rfl) ⟨F658, v656, 4, u2, 0, r355, x_word, (SAME.up eF658 (SAME.up eF653 (SAME.up eF652 (SAME.up eF9 (SAME.up eF8 (SAME.tr SAME.rf i4 (by decide)) (by decide)) (by decide)) (by decide)) (by decide)) (by decide)), (get_eq eF658), (ir_wk k657 (by decide) (by decide)), (get_ne eF658 (by decide) (get_ne eF653 (by decide) (get_eq eF652))), (show 0 ≤ (4 : Int32).toInt ∧ (4 : Int32).toInt ≤ 4 by decide), (get_ne eF658 (by decide) (get_ne eF653 (by decide) (get_ne eF652 (by decide) (get_ne eF9 (by decide) (get_eq eF8))))), (ir_wk k351 (by decide) (by decide)), (get_ne eF658 (by decide) (get_ne eF653 (by decide) (get_ne eF652 (by decide) (get_eq eF9)))), (show 0 ≤ (0 : Int32).toInt ∧ (0 : Int32).toInt ≤ 940 by decide), (get_ne eF658 (by decide) (get_eq eF653)), (get_ne eF658 (by decide) (get_ne eF653 (by decide) (get_ne eF652 (by decide) (get_ne eF9 (by decide) (get_ne eF8 (by decide) (SAME.at i4 (by decide) e_word)))))), (by have zl0 : (0 : Int32).toInt = 0 := (by decide); have zl4 : (4 : Int32).toInt = 4 := (by decide); omega), (by have zl0 : (0 : Int32).toInt = 0 := (by decide); have zl4 : (4 : Int32).toInt = 4 := (by decide); omega), (by have zl0 : (0 : Int32).toInt = 0 := (by decide); have zl4 : (4 : Int32).toInt = 4 := (by decide); omega), rfl⟩
                    · have dc650 : 60 ≤ r355.toInt := nlt_i (a := r355.toInt) (b := 60) rfl rfl c650
                      have k659 : 60 ≤ r355.toInt ∧ r355.toInt ≤ 255 := ⟨Int.le_trans (Int.le_refl _) dc650, k360.2⟩
                      refine lv_iload_n hx hb dX10_next_134 rfl (lv_at hl 0 rfl) ?_
                      refine lv_bipush (v := 62) hx hb dX10_next_135 (by decide) ?_
                      refine lv_icmp_gt (tgt := 144) hx hb dX10_next_137 (by decide) (fun c660 => ?_) (fun c660 => ?_)
                      · have dc660 : 62 < r355.toInt := lt_i (a := 62) (b := r355.toInt) rfl rfl c660
                        have k661 : 63 ≤ r355.toInt ∧ r355.toInt ≤ 255 := ⟨lo_lt dc660 (Int.le_refl _) (by decide), k659.2⟩
                        refine lv_iconst (v := 4) hx hb dX10_next_144 (by decide) ?_
                        refine put_f (D := D) (ci := 10) (v := .int 4) (ty := .int) (C := RX10) (T := TX10) (N := 67) hx hb hw inAX10 tyX10 tyX10_ok nmX10 hown hK hP hD hS 0 rfl rfl 11 (by decide) (hw _ q_1272) (fun _ h9 => h9) rfl (by decide +kernel) rfl rfl dX10_next_145 (fun H locs F662 eF662 hP hD hS => ?_)
                        have hP : va_P D vwCl [(h0, .inr (10, vL 67 F662)), (h_tape, .inl (cB, 940, .inl f_tape))] H := hP
                        have hD : va_D A [(h0, .inr (10, vL 67 F662)), (h_tape, .inl (cB, 940, .inl f_tape))] := hD
                        refine lv_aload_n hx hb dX10_next_148 rfl (lv_at hl 1 rfl) ?_
                        refine lv_iload_n hx hb dX10_next_149 rfl (lv_at hl 0 rfl) ?_
                        refine put_f (D := D) (ci := 10) (v := .int r355) (ty := .int) (C := RX10) (T := TX10) (N := 67) hx hb hw inAX10 tyX10 tyX10_ok nmX10 hown hK hP hD hS 0 rfl rfl 14 (by decide) (hw _ q_1275) (fun _ h9 => h9) rfl (by decide +kernel) rfl rfl dX10_next_150 (fun H locs F663 eF663 hP hD hS => ?_)
                        have hP : va_P D vwCl [(h0, .inr (10, vL 67 F663)), (h_tape, .inl (cB, 940, .inl f_tape))] H := hP
                        have hD : va_D A [(h0, .inr (10, vL 67 F663)), (h_tape, .inl (cB, 940, .inl f_tape))] := hD
                        refine lv_aload_n hx hb dX10_next_153 rfl (lv_at hl 1 rfl) ?_
                        refine lv_dup hx hb dX10_next_154 rfl ?_
                        have n664 : F662 4 = .int u2 := (get_ne eF662 (by decide) n349)
                        have n665 : F663 4 = .int u2 := (get_ne eF663 (by decide) n664)
                        refine get_f (D := D) (ci := 10) (v := .int u2) (C := RX10) (T := TX10) (N := 67) hx hb hw inAX10 hown hK hP 0 rfl rfl 4 (by decide) (hw _ q_1265) (fun _ h9 => h9) n665 dX10_next_155 ?_
                        refine lv_iconst (v := 1) hx hb dX10_next_158 (by decide) ?_
                        refine lv_iadd hx hb dX10_next_159 ?_
                        refine lv_topi (fun v666 ev666 => ?_)
                        have bv666 : v666.toInt = u2.toInt + 1 := by rw [ev666]; exact add_k rfl rfl k351 ⟨Int.le_refl _, Int.le_refl _⟩ (by decide)
                        have k667 : 1 ≤ v666.toInt ∧ v666.toInt ≤ 939 := add_r bv666 k351 ⟨Int.le_refl _, Int.le_refl _⟩ (by decide)
                        refine put_f (D := D) (ci := 10) (v := .int v666) (ty := .int) (C := RX10) (T := TX10) (N := 67) hx hb hw inAX10 tyX10 tyX10_ok nmX10 hown hK hP hD hS 0 rfl rfl 4 (by decide) (hw _ q_1265) (fun _ h9 => h9) rfl (by decide +kernel) rfl rfl dX10_next_160 (fun H locs F668 eF668 hP hD hS => ?_)
                        have hP : va_P D vwCl [(h0, .inr (10, vL 67 F668)), (h_tape, .inl (cB, 940, .inl f_tape))] H := hP
                        have hD : va_D A [(h0, .inr (10, vL 67 F668)), (h_tape, .inl (cB, 940, .inl f_tape))] := hD
                        exact ret_v hx hb hr hlocks hS hP hD dX10_next_163 (Nat.le_of_ble_eq_true rfl) (Nat.le_of_ble_eq_true rfl) ⟨F668, v666, 4, u2, 0, r355, x_word, (SAME.up eF668 (SAME.up eF663 (SAME.up eF662 (SAME.up eF9 (SAME.up eF8 (SAME.tr SAME.rf i4 (by decide)) (by decide)) (by decide)) (by decide)) (by decide)) (by decide)), (get_eq eF668), (ir_wk k667 (by decide) (by decide)), (get_ne eF668 (by decide) (get_ne eF663 (by decide) (get_eq eF662))), (show 0 ≤ (4 : Int32).toInt ∧ (4 : Int32).toInt ≤ 4 by decide), (get_ne eF668 (by decide) (get_ne eF663 (by decide) (get_ne eF662 (by decide) (get_ne eF9 (by decide) (get_eq eF8))))), (ir_wk k351 (by decide) (by decide)), (get_ne eF668 (by decide) (get_ne eF663 (by decide) (get_ne eF662 (by decide) (get_eq eF9)))), (show 0 ≤ (0 : Int32).toInt ∧ (0 : Int32).toInt ≤ 940 by decide), (get_ne eF668 (by decide) (get_eq eF663)), (get_ne eF668 (by decide) (get_ne eF663 (by decide) (get_ne eF662 (by decide) (get_ne eF9 (by decide) (get_ne eF8 (by decide) (SAME.at i4 (by decide) e_word)))))), (by have zl0 : (0 : Int32).toInt = 0 := (by decide); have zl4 : (4 : Int32).toInt = 4 := (by decide); omega), (by have zl0 : (0 : Int32).toInt = 0 := (by decide); have zl4 : (4 : Int32).toInt = 4 := (by decide); omega), (by have zl0 : (0 : Int32).toInt = 0 := (by decide); have zl4 : (4 : Int32).toInt = 4 := (by decide); omega), rfl⟩
                      · have dc660 : r355.toInt ≤ 62 := nlt_i (a := 62) (b := r355.toInt) rfl rfl c660
                        have k669 : 60 ≤ r355.toInt ∧ r355.toInt ≤ 62 := ⟨k659.1, Int.le_trans dc660 (Int.le_refl _)⟩
                        refine lv_iconst (v := 3) hx hb dX10_next_140 (by decide) ?_
                        refine lv_goto (tgt := 145) hx hb dX10_next_141 (by decide) ?_
                        refine put_f (D := D) (ci := 10) (v := .int 3) (ty := .int) (C := RX10) (T := TX10) (N := 67) hx hb hw inAX10 tyX10 tyX10_ok nmX10 hown hK hP hD hS 0 rfl rfl 11 (by decide) (hw _ q_1272) (fun _ h9 => h9) rfl (by decide +kernel) rfl rfl dX10_next_145 (fun H locs F670 eF670 hP hD hS => ?_)
                        have hP : va_P D vwCl [(h0, .inr (10, vL 67 F670)), (h_tape, .inl (cB, 940, .inl f_tape))] H := hP
                        have hD : va_D A [(h0, .inr (10, vL 67 F670)), (h_tape, .inl (cB, 940, .inl f_tape))] := hD
                        refine lv_aload_n hx hb dX10_next_148 rfl (lv_at hl 1 rfl) ?_
                        refine lv_iload_n hx hb dX10_next_149 rfl (lv_at hl 0 rfl) ?_
                        refine put_f (D := D) (ci := 10) (v := .int r355) (ty := .int) (C := RX10) (T := TX10) (N := 67) hx hb hw inAX10 tyX10 tyX10_ok nmX10 hown hK hP hD hS 0 rfl rfl 14 (by decide) (hw _ q_1275) (fun _ h9 => h9) rfl (by decide +kernel) rfl rfl dX10_next_150 (fun H locs F671 eF671 hP hD hS => ?_)
                        have hP : va_P D vwCl [(h0, .inr (10, vL 67 F671)), (h_tape, .inl (cB, 940, .inl f_tape))] H := hP
                        have hD : va_D A [(h0, .inr (10, vL 67 F671)), (h_tape, .inl (cB, 940, .inl f_tape))] := hD
                        refine lv_aload_n hx hb dX10_next_153 rfl (lv_at hl 1 rfl) ?_
                        refine lv_dup hx hb dX10_next_154 rfl ?_
                        have n672 : F670 4 = .int u2 := (get_ne eF670 (by decide) n349)
                        have n673 : F671 4 = .int u2 := (get_ne eF671 (by decide) n672)
                        refine get_f (D := D) (ci := 10) (v := .int u2) (C := RX10) (T := TX10) (N := 67) hx hb hw inAX10 hown hK hP 0 rfl rfl 4 (by decide) (hw _ q_1265) (fun _ h9 => h9) n673 dX10_next_155 ?_
                        refine lv_iconst (v := 1) hx hb dX10_next_158 (by decide) ?_
                        refine lv_iadd hx hb dX10_next_159 ?_
                        refine lv_topi (fun v674 ev674 => ?_)
                        have bv674 : v674.toInt = u2.toInt + 1 := by rw [ev674]; exact add_k rfl rfl k351 ⟨Int.le_refl _, Int.le_refl _⟩ (by decide)
                        have k675 : 1 ≤ v674.toInt ∧ v674.toInt ≤ 939 := add_r bv674 k351 ⟨Int.le_refl _, Int.le_refl _⟩ (by decide)
                        refine put_f (D := D) (ci := 10) (v := .int v674) (ty := .int) (C := RX10) (T := TX10) (N := 67) hx hb hw inAX10 tyX10 tyX10_ok nmX10 hown hK hP hD hS 0 rfl rfl 4 (by decide) (hw _ q_1265) (fun _ h9 => h9) rfl (by decide +kernel) rfl rfl dX10_next_160 (fun H locs F676 eF676 hP hD hS => ?_)
                        have hP : va_P D vwCl [(h0, .inr (10, vL 67 F676)), (h_tape, .inl (cB, 940, .inl f_tape))] H := hP
                        have hD : va_D A [(h0, .inr (10, vL 67 F676)), (h_tape, .inl (cB, 940, .inl f_tape))] := hD
                        exact ret_v hx hb hr hlocks hS hP hD dX10_next_163 (Nat.le_of_ble_eq_true rfl) (Nat.le_of_ble_eq_true rfl) ⟨F676, v674, 3, u2, 0, r355, x_word, (SAME.up eF676 (SAME.up eF671 (SAME.up eF670 (SAME.up eF9 (SAME.up eF8 (SAME.tr SAME.rf i4 (by decide)) (by decide)) (by decide)) (by decide)) (by decide)) (by decide)), (get_eq eF676), (ir_wk k675 (by decide) (by decide)), (get_ne eF676 (by decide) (get_ne eF671 (by decide) (get_eq eF670))), (show 0 ≤ (3 : Int32).toInt ∧ (3 : Int32).toInt ≤ 4 by decide), (get_ne eF676 (by decide) (get_ne eF671 (by decide) (get_ne eF670 (by decide) (get_ne eF9 (by decide) (get_eq eF8))))), (ir_wk k351 (by decide) (by decide)), (get_ne eF676 (by decide) (get_ne eF671 (by decide) (get_ne eF670 (by decide) (get_eq eF9)))), (show 0 ≤ (0 : Int32).toInt ∧ (0 : Int32).toInt ≤ 940 by decide), (get_ne eF676 (by decide) (get_eq eF671)), (get_ne eF676 (by decide) (get_ne eF671 (by decide) (get_ne eF670 (by decide) (get_ne eF9 (by decide) (get_ne eF8 (by decide) (SAME.at i4 (by decide) e_word)))))), (by have zl0 : (0 : Int32).toInt = 0 := (by decide); have zl4 : (4 : Int32).toInt = 4 := (by decide); omega), (by have zl0 : (0 : Int32).toInt = 0 := (by decide); have zl4 : (4 : Int32).toInt = 4 := (by decide); omega), (by have zl0 : (0 : Int32).toInt = 0 := (by decide); have zl3 : (3 : Int32).toInt = 3 := (by decide); omega), rfl⟩
        · have dc359 : r355.toInt < 0 := nle_i (a := 0) (b := r355.toInt) rfl rfl c359
          have k677 : (-1) ≤ r355.toInt ∧ r355.toInt ≤ (-1) := ⟨t356.1, up_lt dc359 (Int.le_refl _) (by decide)⟩
          refine lv_aload_n hx hb dX10_next_89 rfl (lv_at hl 1 rfl) ?_
          refine lv_iconst (v := 0) hx hb dX10_next_90 (by decide) ?_
          refine put_f (D := D) (ci := 10) (v := .int 0) (ty := .int) (C := RX10) (T := TX10) (N := 67) hx hb hw inAX10 tyX10 tyX10_ok nmX10 hown hK hP hD hS 0 rfl rfl 11 (by decide) (hw _ q_1272) (fun _ h9 => h9) rfl (by decide +kernel) rfl rfl dX10_next_91 (fun H locs F678 eF678 hP hD hS => ?_)
          have hP : va_P D vwCl [(h0, .inr (10, vL 67 F678)), (h_tape, .inl (cB, 940, .inl f_tape))] H := hP
          have hD : va_D A [(h0, .inr (10, vL 67 F678)), (h_tape, .inl (cB, 940, .inl f_tape))] := hD
          exact ret_v hx hb hr hlocks hS hP hD dX10_next_94 (Nat.le_of_ble_eq_true rfl) (Nat.le_of_ble_eq_true rfl) ⟨F678, u2, 0, u2, 0, x_number, x_word, (SAME.up eF678 (SAME.up eF9 (SAME.up eF8 (SAME.tr SAME.rf i4 (by decide)) (by decide)) (by decide)) (by decide)), (get_ne eF678 (by decide) n349), (ir_wk k351 (by decide) (by decide)), (get_eq eF678), (show 0 ≤ (0 : Int32).toInt ∧ (0 : Int32).toInt ≤ 4 by decide), (get_ne eF678 (by decide) (get_ne eF9 (by decide) (get_eq eF8))), (ir_wk k351 (by decide) (by decide)), (get_ne eF678 (by decide) (get_eq eF9)), (show 0 ≤ (0 : Int32).toInt ∧ (0 : Int32).toInt ≤ 940 by decide), (get_ne eF678 (by decide) (get_ne eF9 (by decide) (get_ne eF8 (by decide) (SAME.at i4 (by decide) e_number)))), (get_ne eF678 (by decide) (get_ne eF9 (by decide) (get_ne eF8 (by decide) (SAME.at i4 (by decide) e_word)))), (by have zl0 : (0 : Int32).toInt = 0 := (by decide); have zl4 : (4 : Int32).toInt = 4 := (by decide); omega), (by have zl0 : (0 : Int32).toInt = 0 := (by decide); have zl4 : (4 : Int32).toInt = 4 := (by decide); omega), (by have zl0 : (0 : Int32).toInt = 0 := (by decide); omega), rfl⟩
      · have dc350 : x_limit.toInt ≤ u2.toInt := nlt_i (a := u2.toInt) (b := x_limit.toInt) rfl rfl c350
        have k679 : 200 ≤ u2.toInt ∧ u2.toInt ≤ 940 := ⟨Int.le_trans k346.1 dc350, i6.2⟩
        refine lv_aload_n hx hb dX10_next_66 rfl (lv_at hl 0 rfl) ?_
        refine lv_aload_n hx hb dX10_next_67 rfl (lv_at hl 0 rfl) ?_
        refine get_f (D := D) (ci := 10) (v := .int x_limit) (C := RX10) (T := TX10) (N := 67) hx hb hw inAX10 hown hK hP 0 rfl rfl 5 (by decide) (hw _ q_1266) (fun _ h9 => h9) n15 dX10_next_68 ?_
        refine put_f (D := D) (ci := 10) (v := .int x_limit) (ty := .int) (C := RX10) (T := TX10) (N := 67) hx hb hw inAX10 tyX10 tyX10_ok nmX10 hown hK hP hD hS 0 rfl rfl 12 (by decide) (hw _ q_1273) (fun _ h9 => h9) rfl (by decide +kernel) rfl rfl dX10_next_71 (fun H locs F680 eF680 hP hD hS => ?_)
        have hP : va_P D vwCl [(h0, .inr (10, vL 67 F680)), (h_tape, .inl (cB, 940, .inl f_tape))] H := hP
        have hD : va_D A [(h0, .inr (10, vL 67 F680)), (h_tape, .inl (cB, 940, .inl f_tape))] := hD
        refine lv_aload_n hx hb dX10_next_74 rfl (lv_at hl 0 rfl) ?_
        refine lv_iconst (v := 4) hx hb dX10_next_75 (by decide) ?_
        refine put_f (D := D) (ci := 10) (v := .int 4) (ty := .int) (C := RX10) (T := TX10) (N := 67) hx hb hw inAX10 tyX10 tyX10_ok nmX10 hown hK hP hD hS 0 rfl rfl 11 (by decide) (hw _ q_1272) (fun _ h9 => h9) rfl (by decide +kernel) rfl rfl dX10_next_76 (fun H locs F681 eF681 hP hD hS => ?_)
        have hP : va_P D vwCl [(h0, .inr (10, vL 67 F681)), (h_tape, .inl (cB, 940, .inl f_tape))] H := hP
        have hD : va_D A [(h0, .inr (10, vL 67 F681)), (h_tape, .inl (cB, 940, .inl f_tape))] := hD
        exact ret_v hx hb hr hlocks hS hP hD dX10_next_79 (Nat.le_of_ble_eq_true rfl) (Nat.le_of_ble_eq_true rfl) ⟨F681, u2, 4, x_limit, 0, x_number, x_word, (SAME.up eF681 (SAME.up eF680 (SAME.up eF9 (SAME.up eF8 (SAME.tr SAME.rf i4 (by decide)) (by decide)) (by decide)) (by decide)) (by decide)), (get_ne eF681 (by decide) (get_ne eF680 (by decide) n349)), (ir_wk k679 (by decide) (by decide)), (get_eq eF681), (show 0 ≤ (4 : Int32).toInt ∧ (4 : Int32).toInt ≤ 4 by decide), (get_ne eF681 (by decide) (get_eq eF680)), (ir_wk k346 (by decide) (by decide)), (get_ne eF681 (by decide) (get_ne eF680 (by decide) (get_eq eF9))), (show 0 ≤ (0 : Int32).toInt ∧ (0 : Int32).toInt ≤ 940 by decide), (get_ne eF681 (by decide) (get_ne eF680 (by decide) (get_ne eF9 (by decide) (get_ne eF8 (by decide) (SAME.at i4 (by decide) e_number))))), (get_ne eF681 (by decide) (get_ne eF680 (by decide) (get_ne eF9 (by decide) (get_ne eF8 (by decide) (SAME.at i4 (by decide) e_word))))), (by have zl0 : (0 : Int32).toInt = 0 := (by decide); have zl4 : (4 : Int32).toInt = 4 := (by decide); omega), (by have zl0 : (0 : Int32).toInt = 0 := (by decide); have zl4 : (4 : Int32).toInt = 4 := (by decide); omega), (by have zl0 : (0 : Int32).toInt = 0 := (by decide); have zl4 : (4 : Int32).toInt = 4 := (by decide); omega), rfl⟩
  refine mloop (α := (Nat → Value) × (Int32)) (nL := 4) (D := D) (A := A) (H0 := s.heap) (fun a => (x_size.toInt - a.2.toInt).toNat) (fun a => SAME [4] Fh a.1 ∧ a.1 4 = .int a.2 ∧ IR 0 940 a.2 ∧ (x_p.toInt ≤ a.2.toInt)) (fun a => [(h0, .inr (10, vL 67 a.1)), (h_tape, .inl (cB, 940, .inl f_tape))]) (fun a => [(0, .ref h0)]) (fun H locs ls => W p l e ({ frames := 1, cells := 0, slots := 0, locals := 20 } : Room) s m [.ref h0].toArray below meth c H locs 0 0 (MQ below (va_Qv (fun (u : va_W) => ∃ (Gh : Nat → Value) (y_p : Int32) (y_token : Int32) (y_at : Int32) (y_span : Int32) (y_number : Int32) (y_word : Int64), SAME [4, 11, 12, 13, 14, 18] Fh Gh ∧ Gh 4 = .int y_p ∧ IR 0 940 y_p ∧ Gh 11 = .int y_token ∧ IR 0 4 y_token ∧ Gh 12 = .int y_at ∧ IR 0 940 y_at ∧ Gh 13 = .int y_span ∧ IR 0 940 y_span ∧ Gh 14 = .int y_number ∧ Gh 18 = .long y_word ∧ (x_p.toInt ≤ y_p.toInt) ∧ ((1 ≤ y_token.toInt → y_token.toInt ≤ 3 → x_p.toInt < y_p.toInt)) ∧ ((y_token.toInt = 2 → 0 ≤ y_number.toInt ∧ y_number.toInt ≤ 999)) ∧ u = [(h0, .inr (10, vL 67 Gh)), (h_tape, .inl (cB, 940, .inl f_tape))]) (PO D A) A) [.ref h0].toArray s 0 0 A) (F0 m 0 ls [])) ?_ (Fh, x_p) ⟨SAME.rf, e_p, i_x_p, (by show x_p.toInt ≤ x_p.toInt; omega)⟩ _ _ _ hP hD hS hl
  rintro ⟨G1, u2⟩ ⟨i682, i683, i684, i685⟩ ih H locs ls hP hD hS hl
  have i684 : 0 ≤ u2.toInt ∧ u2.toInt ≤ 940 := i684
  have i685 : x_p.toInt ≤ u2.toInt := i685
  have hP : va_P D vwCl [(h0, .inr (10, vL 67 G1)), (h_tape, .inl (cB, 940, .inl f_tape))] H := hP
  have hD : va_D A [(h0, .inr (10, vL 67 G1)), (h_tape, .inl (cB, 940, .inl f_tape))] := hD
  have hl : lv_has ls 4 [(0, .ref h0)] := hl
  refine lv_aload_n hx hb dX10_next_0 rfl (lv_at hl 0 rfl) ?_
  have n686 : G1 1 = .ref h_tape := (SAME.at i682 (by decide) e_tape)
  have n687 : G1 3 = .int x_size := (SAME.at i682 (by decide) e_size)
  refine call_Vi (wr := []) (As := []) (rest := []) hx hb hml hown hw (m_X10_peek l D cI cJ cB cP cM cZ h0 h_tape G1 x_size u2 f_tape _ n686 n687 i_x_size i683 i684) wV_X10_169_X10_peek dX10_next_1 hK hP hD hS hA [0, 1] [] rfl rfl (by decide) (by decide) (by decide) 0 10 rfl rfl GG.fb hG.at hl.1 rfl (Nat.le_of_ble_eq_true rfl) ⟨(Nat.le_of_ble_eq_true rfl), (Nat.le_of_ble_eq_true rfl)⟩ ⟨(Nat.le_of_ble_eq_true rfl), (Nat.le_of_ble_eq_true rfl)⟩ (fun r688 u H locs hp hP hD hS => ?_)
  obtain ⟨t689, t690, rfl⟩ := hp
  have hP : va_P D vwCl [(h0, .inr (10, vL 67 G1)), (h_tape, .inl (cB, 940, .inl f_tape))] H := hP
  have hD : va_D A [(h0, .inr (10, vL 67 G1)), (h_tape, .inl (cB, 940, .inl f_tape))] := hD
  refine W.widen (k := 0) (n := 0) (Nat.le_of_ble_eq_true rfl) (Nat.le_of_ble_eq_true rfl) ?_
  refine lv_bipush (v := 32) hx hb dX10_next_4 (by decide) ?_
  refine lv_icmp_eq (tgt := 18) hx hb dX10_next_6 (by decide) (fun c692 => ?_) (fun c692 => ?_)
  · have dc692 : r688.toInt = 32 := eq_i (a := r688.toInt) (b := 32) rfl rfl c692
    have k693 : 32 ≤ r688.toInt ∧ r688.toInt ≤ 32 := ⟨Int.le_trans (Int.le_refl _) (Int.le_of_eq dc692.symm), Int.le_trans (Int.le_of_eq dc692) (Int.le_refl _)⟩
    refine lv_aload_n hx hb dX10_next_18 rfl (lv_at hl 0 rfl) ?_
    refine lv_dup hx hb dX10_next_19 rfl ?_
    refine get_f (D := D) (ci := 10) (v := .int u2) (C := RX10) (T := TX10) (N := 67) hx hb hw inAX10 hown hK hP 0 rfl rfl 4 (by decide) (hw _ q_1265) (fun _ h9 => h9) i683 dX10_next_20 ?_
    refine lv_iconst (v := 1) hx hb dX10_next_23 (by decide) ?_
    refine lv_iadd hx hb dX10_next_24 ?_
    refine lv_topi (fun v694 ev694 => ?_)
    have bv694 : v694.toInt = u2.toInt + 1 := by rw [ev694]; exact add_k rfl rfl i684 ⟨Int.le_refl _, Int.le_refl _⟩ (by decide)
    have k695 : 1 ≤ v694.toInt ∧ v694.toInt ≤ 941 := add_r bv694 i684 ⟨Int.le_refl _, Int.le_refl _⟩ (by decide)
    refine put_f (D := D) (ci := 10) (v := .int v694) (ty := .int) (C := RX10) (T := TX10) (N := 67) hx hb hw inAX10 tyX10 tyX10_ok nmX10 hown hK hP hD hS 0 rfl rfl 4 (by decide) (hw _ q_1265) (fun _ h9 => h9) rfl (by decide +kernel) rfl rfl dX10_next_25 (fun H locs F696 eF696 hP hD hS => ?_)
    have hP : va_P D vwCl [(h0, .inr (10, vL 67 F696)), (h_tape, .inl (cB, 940, .inl f_tape))] H := hP
    have hD : va_D A [(h0, .inr (10, vL 67 F696)), (h_tape, .inl (cB, 940, .inl f_tape))] := hD
    refine lv_goto (tgt := 0) hx hb dX10_next_28 (by decide) ?_
    exact ih (F696, v694) ⟨(SAME.up eF696 (SAME.tr SAME.rf i682 (by decide)) (by decide)), (get_eq eF696), (show 0 ≤ v694.toInt ∧ v694.toInt ≤ 940 from ⟨by omega, by omega⟩), (by show x_p.toInt ≤ v694.toInt; omega)⟩ (by show (x_size.toInt - v694.toInt).toNat < (x_size.toInt - u2.toInt).toNat; omega) _ _ _ hP hD hS (lv_sub hl [0] rfl)
  · have dc692 : r688.toInt ≠ 32 := ne_i (a := r688.toInt) (b := 32) rfl rfl c692
    refine lv_aload_n hx hb dX10_next_9 rfl (lv_at hl 0 rfl) ?_
    refine call_Vi (wr := []) (As := []) (rest := []) hx hb hml hown hw (m_X10_peek l D cI cJ cB cP cM cZ h0 h_tape G1 x_size u2 f_tape _ n686 n687 i_x_size i683 i684) wV_X10_169_X10_peek dX10_next_10 hK hP hD hS hA [0, 1] [] rfl rfl (by decide) (by decide) (by decide) 0 10 rfl rfl GG.fb hG.at hl.1 rfl (Nat.le_of_ble_eq_true rfl) ⟨(Nat.le_of_ble_eq_true rfl), (Nat.le_of_ble_eq_true rfl)⟩ ⟨(Nat.le_of_ble_eq_true rfl), (Nat.le_of_ble_eq_true rfl)⟩ (fun r697 u H locs hp hP hD hS => ?_)
    obtain ⟨t698, t699, rfl⟩ := hp
    have hP : va_P D vwCl [(h0, .inr (10, vL 67 G1)), (h_tape, .inl (cB, 940, .inl f_tape))] H := hP
    have hD : va_D A [(h0, .inr (10, vL 67 G1)), (h_tape, .inl (cB, 940, .inl f_tape))] := hD
    refine W.widen (k := 0) (n := 0) (Nat.le_of_ble_eq_true rfl) (Nat.le_of_ble_eq_true rfl) ?_
    refine lv_bipush (v := 10) hx hb dX10_next_13 (by decide) ?_
    refine lv_icmp_ne (tgt := 31) hx hb dX10_next_15 (by decide) (fun c701 => ?_) (fun c701 => ?_)
    · have dc701 : r697.toInt ≠ 10 := ne_i (a := r697.toInt) (b := 10) rfl rfl c701
      exact cut3 G1 u2 (SAME.tr SAME.rf i682 (by decide)) i683 i684 (by show x_p.toInt ≤ u2.toInt; omega) _ _ _ hP hD hS (lv_sub hl [0] rfl)
    · have dc701 : r697.toInt = 10 := eq_i (a := r697.toInt) (b := 10) rfl rfl c701
      have k702 : 10 ≤ r697.toInt ∧ r697.toInt ≤ 10 := ⟨Int.le_trans (Int.le_refl _) (Int.le_of_eq dc701.symm), Int.le_trans (Int.le_of_eq dc701) (Int.le_refl _)⟩
      refine lv_aload_n hx hb dX10_next_18 rfl (lv_at hl 0 rfl) ?_
      refine lv_dup hx hb dX10_next_19 rfl ?_
      refine get_f (D := D) (ci := 10) (v := .int u2) (C := RX10) (T := TX10) (N := 67) hx hb hw inAX10 hown hK hP 0 rfl rfl 4 (by decide) (hw _ q_1265) (fun _ h9 => h9) i683 dX10_next_20 ?_
      refine lv_iconst (v := 1) hx hb dX10_next_23 (by decide) ?_
      refine lv_iadd hx hb dX10_next_24 ?_
      refine lv_topi (fun v703 ev703 => ?_)
      have bv703 : v703.toInt = u2.toInt + 1 := by rw [ev703]; exact add_k rfl rfl i684 ⟨Int.le_refl _, Int.le_refl _⟩ (by decide)
      have k704 : 1 ≤ v703.toInt ∧ v703.toInt ≤ 941 := add_r bv703 i684 ⟨Int.le_refl _, Int.le_refl _⟩ (by decide)
      refine put_f (D := D) (ci := 10) (v := .int v703) (ty := .int) (C := RX10) (T := TX10) (N := 67) hx hb hw inAX10 tyX10 tyX10_ok nmX10 hown hK hP hD hS 0 rfl rfl 4 (by decide) (hw _ q_1265) (fun _ h9 => h9) rfl (by decide +kernel) rfl rfl dX10_next_25 (fun H locs F705 eF705 hP hD hS => ?_)
      have hP : va_P D vwCl [(h0, .inr (10, vL 67 F705)), (h_tape, .inl (cB, 940, .inl f_tape))] H := hP
      have hD : va_D A [(h0, .inr (10, vL 67 F705)), (h_tape, .inl (cB, 940, .inl f_tape))] := hD
      refine lv_goto (tgt := 0) hx hb dX10_next_28 (by decide) ?_
      exact ih (F705, v703) ⟨(SAME.up eF705 (SAME.tr SAME.rf i682 (by decide)) (by decide)), (get_eq eF705), (show 0 ≤ v703.toInt ∧ v703.toInt ≤ 940 from ⟨by omega, by omega⟩), (by show x_p.toInt ≤ v703.toInt; omega)⟩ (by show (x_size.toInt - v703.toInt).toNat < (x_size.toInt - u2.toInt).toNat; omega) _ _ _ hP hD hS (lv_sub hl [0] rfl)
