set_option maxHeartbeats 4000000 in
set_option maxRecDepth 100000 in
theorem m_X10_next (l : Launch) (D : va_G) (cI cJ cB cP cM cZ : ClassId) (h0 : Nat) (h_tape : Nat) (Fh : Nat → Value) (x_size : Int32) (x_p : Int32) (x_limit : Int32) (x_token : Int32) (x_at : Int32) (x_number : Int32) (x_word : Int64) (f_tape : Nat → Int32) (sz : Nat) (e_tape : Fh 1 = .ref h_tape) (e_size : Fh 3 = .int x_size) (i_x_size : IR 0 940 x_size) (e_p : Fh 4 = .int x_p) (i_x_p : IR 0 940 x_p) (e_limit : Fh 5 = .int x_limit) (i_x_limit : IR 200 940 x_limit) (e_token : Fh 11 = .int x_token) (i_x_token : IR 0 4 x_token) (e_at : Fh 12 = .int x_at) (e_number : Fh 14 = .int x_number) (e_word : Fh 18 = .long x_word) (o_0 : (x_token.toInt = 2 → 0 ≤ x_number.toInt ∧ x_number.toInt ≤ 999)) : CV l yX10_next cX10_next 4 none { frames := 1, cells := 0, slots := 0, locals := 20 } (GG D cI cJ cB cP cM cZ) D [(h0, .inr (10, vL 67 Fh)), (h_tape, .inl (cB, 940, .inl f_tape))] sz [.ref h0] (fun (u : va_W) => ∃ (Gh : Nat → Value) (y_p : Int32) (y_token : Int32) (y_at : Int32) (y_span : Int32) (y_number : Int32) (y_word : Int64), SAME [4, 11, 12, 13, 14, 18] Fh Gh ∧ Gh 4 = .int y_p ∧ IR 0 940 y_p ∧ Gh 11 = .int y_token ∧ IR 0 4 y_token ∧ Gh 12 = .int y_at ∧ IR 0 940 y_at ∧ Gh 13 = .int y_span ∧ IR 0 940 y_span ∧ Gh 14 = .int y_number ∧ Gh 18 = .long y_word ∧ (x_p.toInt ≤ y_p.toInt) ∧ ((1 ≤ y_token.toInt → y_token.toInt ≤ 3 → x_p.toInt < y_p.toInt)) ∧ ((tkM y_token y_at y_number y_word y_p) = (tkA f_tape x_size.toInt x_limit.toInt) x_p.toInt) ∧ ((VWF y_token.toInt y_word.toInt)) ∧ ((y_token.toInt = 2 → 0 ≤ y_number.toInt ∧ y_number.toInt ≤ 999)) ∧ u = [(h0, .inr (10, vL 67 Gh)), (h_tape, .inl (cB, 940, .inl f_tape))]) := by
  refine CV_mk (by decide) (Nat.le_of_ble_eq_true rfl) ?_
  intro p e s m below meth c A ls E hAe hG hsz hP hD hA hS hl
  obtain ⟨hx, hb, hr, hw, hown, hlocks, hml, hnm⟩ := E
  have hK := hG.1
  have i_x_size : 0 ≤ x_size.toInt ∧ x_size.toInt ≤ 940 := i_x_size
  have i_x_p : 0 ≤ x_p.toInt ∧ x_p.toInt ≤ 940 := i_x_p
  have i_x_limit : 200 ≤ x_limit.toInt ∧ x_limit.toInt ≤ 940 := i_x_limit
  have i_x_token : 0 ≤ x_token.toInt ∧ x_token.toInt ≤ 4 := i_x_token
  have hl : lv_has ls 4 [(0, .ref h0)] := hl
  have cut3 : ∀ (G1 : Nat → Value) (u2 : Int32) (_ : SAME [4] Fh G1) (_ : G1 4 = .int u2) (_ : IR 0 940 u2) (_ : (x_p.toInt ≤ u2.toInt)) (_ : (sk f_tape (x_size.toInt).toNat (x_p.toInt).toNat = sk f_tape (x_size.toInt).toNat (u2.toInt).toNat)) (_ : (sk f_tape (x_size.toInt).toNat (u2.toInt).toNat = (u2.toInt).toNat)) (H : Heap) (locs : List Loc) (ls : Array Slot), va_P D vwCl [(h0, .inr (10, vL 67 G1)), (h_tape, .inl (cB, 940, .inl f_tape))] H → va_D A [(h0, .inr (10, vL 67 G1)), (h_tape, .inl (cB, 940, .inl f_tape))] → va_S A s.heap H locs → lv_has ls 4 [(0, .ref h0)] → W p l e ({ frames := 1, cells := 0, slots := 0, locals := 20 } : Room) s m [.ref h0].toArray below meth c H locs 0 0 (MQ below (va_Qv (fun (u : va_W) => ∃ (Gh : Nat → Value) (y_p : Int32) (y_token : Int32) (y_at : Int32) (y_span : Int32) (y_number : Int32) (y_word : Int64), SAME [4, 11, 12, 13, 14, 18] Fh Gh ∧ Gh 4 = .int y_p ∧ IR 0 940 y_p ∧ Gh 11 = .int y_token ∧ IR 0 4 y_token ∧ Gh 12 = .int y_at ∧ IR 0 940 y_at ∧ Gh 13 = .int y_span ∧ IR 0 940 y_span ∧ Gh 14 = .int y_number ∧ Gh 18 = .long y_word ∧ (x_p.toInt ≤ y_p.toInt) ∧ ((1 ≤ y_token.toInt → y_token.toInt ≤ 3 → x_p.toInt < y_p.toInt)) ∧ ((tkM y_token y_at y_number y_word y_p) = (tkA f_tape x_size.toInt x_limit.toInt) x_p.toInt) ∧ ((VWF y_token.toInt y_word.toInt)) ∧ ((y_token.toInt = 2 → 0 ≤ y_number.toInt ∧ y_number.toInt ≤ 999)) ∧ u = [(h0, .inr (10, vL 67 Gh)), (h_tape, .inl (cB, 940, .inl f_tape))]) (PO D A) A) [.ref h0].toArray s 0 0 A) (F0 m 31 ls []) := by
    intro G1 u2 i4 i5 i6 i7 i8 i9 H locs ls hP hD hS hl
    have i6 : 0 ≤ u2.toInt ∧ u2.toInt ≤ 940 := i6
    have i7 : x_p.toInt ≤ u2.toInt := i7
    have i8 : sk f_tape (x_size.toInt).toNat (x_p.toInt).toNat = sk f_tape (x_size.toInt).toNat (u2.toInt).toNat := i8
    have i9 : sk f_tape (x_size.toInt).toNat (u2.toInt).toNat = (u2.toInt).toNat := i9
    refine lv_aload_n hx hb dX10_next_31 rfl (lv_at hl 0 rfl) ?_
    refine lv_aload_n hx hb dX10_next_32 rfl (lv_at hl 0 rfl) ?_
    refine get_f (D := D) (ci := 10) (v := .int u2) (C := RX10) (T := TX10) (N := 67) hx hb hw inAX10 hown hK hP 0 rfl rfl 4 (by decide) (hw _ q_1265) (fun _ h9 => h9) i5 dX10_next_33 ?_
    refine put_f (D := D) (ci := 10) (v := .int u2) (ty := .int) (C := RX10) (T := TX10) (N := 67) hx hb hw inAX10 tyX10 tyX10_ok nmX10 hown hK hP hD hS 0 rfl rfl 12 (by decide) (hw _ q_1273) (fun _ h9 => h9) rfl (by decide +kernel) rfl rfl dX10_next_36 (fun H locs F10 eF10 hP hD hS => ?_)
    have hP : va_P D vwCl [(h0, .inr (10, vL 67 F10)), (h_tape, .inl (cB, 940, .inl f_tape))] H := hP
    have hD : va_D A [(h0, .inr (10, vL 67 F10)), (h_tape, .inl (cB, 940, .inl f_tape))] := hD
    refine lv_aload_n hx hb dX10_next_39 rfl (lv_at hl 0 rfl) ?_
    refine lv_iconst (v := 0) hx hb dX10_next_40 (by decide) ?_
    refine put_f (D := D) (ci := 10) (v := .int 0) (ty := .int) (C := RX10) (T := TX10) (N := 67) hx hb hw inAX10 tyX10 tyX10_ok nmX10 hown hK hP hD hS 0 rfl rfl 13 (by decide) (hw _ q_1274) (fun _ h9 => h9) rfl (by decide +kernel) rfl rfl dX10_next_41 (fun H locs F11 eF11 hP hD hS => ?_)
    have hP : va_P D vwCl [(h0, .inr (10, vL 67 F11)), (h_tape, .inl (cB, 940, .inl f_tape))] H := hP
    have hD : va_D A [(h0, .inr (10, vL 67 F11)), (h_tape, .inl (cB, 940, .inl f_tape))] := hD
    have cut12 : ∀  (_ : (LIMF x_size.toInt x_limit.toInt u2.toInt)) (H : Heap) (locs : List Loc) (ls : Array Slot), va_P D vwCl [(h0, .inr (10, vL 67 F11)), (h_tape, .inl (cB, 940, .inl f_tape))] H → va_D A [(h0, .inr (10, vL 67 F11)), (h_tape, .inl (cB, 940, .inl f_tape))] → va_S A s.heap H locs → lv_has ls 4 [(0, .ref h0)] → W p l e ({ frames := 1, cells := 0, slots := 0, locals := 20 } : Room) s m [.ref h0].toArray below meth c H locs 0 0 (MQ below (va_Qv (fun (u : va_W) => ∃ (Gh : Nat → Value) (y_p : Int32) (y_token : Int32) (y_at : Int32) (y_span : Int32) (y_number : Int32) (y_word : Int64), SAME [4, 11, 12, 13, 14, 18] Fh Gh ∧ Gh 4 = .int y_p ∧ IR 0 940 y_p ∧ Gh 11 = .int y_token ∧ IR 0 4 y_token ∧ Gh 12 = .int y_at ∧ IR 0 940 y_at ∧ Gh 13 = .int y_span ∧ IR 0 940 y_span ∧ Gh 14 = .int y_number ∧ Gh 18 = .long y_word ∧ (x_p.toInt ≤ y_p.toInt) ∧ ((1 ≤ y_token.toInt → y_token.toInt ≤ 3 → x_p.toInt < y_p.toInt)) ∧ ((tkM y_token y_at y_number y_word y_p) = (tkA f_tape x_size.toInt x_limit.toInt) x_p.toInt) ∧ ((VWF y_token.toInt y_word.toInt)) ∧ ((y_token.toInt = 2 → 0 ≤ y_number.toInt ∧ y_number.toInt ≤ 999)) ∧ u = [(h0, .inr (10, vL 67 Gh)), (h_tape, .inl (cB, 940, .inl f_tape))]) (PO D A) A) [.ref h0].toArray s 0 0 A) (F0 m 80 ls []) := by
      intro i13 H locs ls hP hD hS hl
      have i13 : LIMF x_size.toInt x_limit.toInt u2.toInt := i13
      refine lv_aload_n hx hb dX10_next_80 rfl (lv_at hl 0 rfl) ?_
      have n14 : G1 1 = .ref h_tape := (SAME.at i4 (by decide) e_tape)
      have n15 : F10 1 = .ref h_tape := (get_ne eF10 (by decide) n14)
      have n16 : F11 1 = .ref h_tape := (get_ne eF11 (by decide) n15)
      have n17 : G1 3 = .int x_size := (SAME.at i4 (by decide) e_size)
      have n18 : F10 3 = .int x_size := (get_ne eF10 (by decide) n17)
      have n19 : F11 3 = .int x_size := (get_ne eF11 (by decide) n18)
      have n20 : F10 4 = .int u2 := (get_ne eF10 (by decide) i5)
      have n21 : F11 4 = .int u2 := (get_ne eF11 (by decide) n20)
      refine call_Vi (wr := []) (As := []) (rest := []) hx hb hml hown hw (m_X10_peek l D cI cJ cB cP cM cZ h0 h_tape F11 x_size u2 f_tape _ n16 n19 i_x_size n21 i6) wV_X10_169_X10_peek dX10_next_81 hK hP hD hS hA [0, 1] [] rfl rfl (by decide) (by decide) (by decide) 0 10 rfl rfl GG.fb hG.at hl.1 rfl (Nat.le_of_ble_eq_true rfl) ⟨(Nat.le_of_ble_eq_true rfl), (Nat.le_of_ble_eq_true rfl)⟩ ⟨(Nat.le_of_ble_eq_true rfl), (Nat.le_of_ble_eq_true rfl)⟩ (fun r22 u H locs hp hP hD hS => ?_)
      obtain ⟨t23, t24, rfl⟩ := hp
      have hP : va_P D vwCl [(h0, .inr (10, vL 67 F11)), (h_tape, .inl (cB, 940, .inl f_tape))] H := hP
      have hD : va_D A [(h0, .inr (10, vL 67 F11)), (h_tape, .inl (cB, 940, .inl f_tape))] := hD
      refine W.widen (k := 0) (n := 0) (Nat.le_of_ble_eq_true rfl) (Nat.le_of_ble_eq_true rfl) ?_
      refine lv_istore_n (lv' := [(1, .int r22), (0, .ref h0)]) hx hb dX10_next_84 rfl hl (by decide) rfl (fun ls hl => ?_)
      refine lv_iload_n hx hb dX10_next_85 rfl (lv_at hl 0 rfl) ?_
      refine lv_if_ge (tgt := 95) hx hb dX10_next_86 (by decide) (fun c26 => ?_) (fun c26 => ?_)
      · have dc26 : 0 ≤ r22.toInt := le_i (a := 0) (b := r22.toInt) rfl rfl c26
        have k27 : 0 ≤ r22.toInt ∧ r22.toInt ≤ 255 := ⟨Int.le_trans (Int.le_refl _) dc26, t23.2⟩
        replace t24 := look_nn t24 dc26
        have cut29 : ∀ (u28 : Int32) (_ : IR 0 1 u28) (_ : (((48 ≤ r22.toInt ∧ r22.toInt ≤ 57 ∧ u28.toInt = 0) ∨ (97 ≤ r22.toInt ∧ r22.toInt ≤ 122 ∧ u28.toInt = 1)))) (H : Heap) (locs : List Loc) (ls : Array Slot), va_P D vwCl [(h0, .inr (10, vL 67 F11)), (h_tape, .inl (cB, 940, .inl f_tape))] H → va_D A [(h0, .inr (10, vL 67 F11)), (h_tape, .inl (cB, 940, .inl f_tape))] → va_S A s.heap H locs → lv_has ls 4 [(3, .int 1), (2, .int u28), (1, .int r22), (0, .ref h0)] → W p l e ({ frames := 1, cells := 0, slots := 0, locals := 20 } : Room) s m [.ref h0].toArray below meth c H locs 0 0 (MQ below (va_Qv (fun (u : va_W) => ∃ (Gh : Nat → Value) (y_p : Int32) (y_token : Int32) (y_at : Int32) (y_span : Int32) (y_number : Int32) (y_word : Int64), SAME [4, 11, 12, 13, 14, 18] Fh Gh ∧ Gh 4 = .int y_p ∧ IR 0 940 y_p ∧ Gh 11 = .int y_token ∧ IR 0 4 y_token ∧ Gh 12 = .int y_at ∧ IR 0 940 y_at ∧ Gh 13 = .int y_span ∧ IR 0 940 y_span ∧ Gh 14 = .int y_number ∧ Gh 18 = .long y_word ∧ (x_p.toInt ≤ y_p.toInt) ∧ ((1 ≤ y_token.toInt → y_token.toInt ≤ 3 → x_p.toInt < y_p.toInt)) ∧ ((tkM y_token y_at y_number y_word y_p) = (tkA f_tape x_size.toInt x_limit.toInt) x_p.toInt) ∧ ((VWF y_token.toInt y_word.toInt)) ∧ ((y_token.toInt = 2 → 0 ≤ y_number.toInt ∧ y_number.toInt ≤ 999)) ∧ u = [(h0, .inr (10, vL 67 Gh)), (h_tape, .inl (cB, 940, .inl f_tape))]) (PO D A) A) [.ref h0].toArray s 0 0 A) (F0 m 171 ls []) := by
          intro u28 i30 i31 H locs ls hP hD hS hl
          have i30 : 0 ≤ u28.toInt ∧ u28.toInt ≤ 1 := i30
          have i31 : ((48 ≤ r22.toInt ∧ r22.toInt ≤ 57 ∧ u28.toInt = 0) ∨ (97 ≤ r22.toInt ∧ r22.toInt ≤ 122 ∧ u28.toInt = 1)) := i31
          have h32 : HFS f_tape u2.toInt u28.toInt := hfs_of i31 t24.2
          clear i31
          refine lv_aload_n hx hb dX10_next_171 rfl (lv_at hl 3 rfl) ?_
          refine lv_lconst (v := 0) hx hb dX10_next_172 (by decide) ?_
          refine put_f (D := D) (ci := 10) (v := .long 0) (ty := .long) (C := RX10) (T := TX10) (N := 67) hx hb hw inAX10 tyX10 tyX10_ok nmX10 hown hK hP hD hS 0 rfl rfl 18 (by decide) (hw _ q_1279) (fun _ h9 => h9) rfl (by decide +kernel) rfl rfl dX10_next_173 (fun H locs F33 eF33 hP hD hS => ?_)
          have hP : va_P D vwCl [(h0, .inr (10, vL 67 F33)), (h_tape, .inl (cB, 940, .inl f_tape))] H := hP
          have hD : va_D A [(h0, .inr (10, vL 67 F33)), (h_tape, .inl (cB, 940, .inl f_tape))] := hD
          refine lv_aload_n hx hb dX10_next_176 rfl (lv_at hl 3 rfl) ?_
          refine lv_iconst (v := 0) hx hb dX10_next_177 (by decide) ?_
          refine put_f (D := D) (ci := 10) (v := .int 0) (ty := .int) (C := RX10) (T := TX10) (N := 67) hx hb hw inAX10 tyX10 tyX10_ok nmX10 hown hK hP hD hS 0 rfl rfl 14 (by decide) (hw _ q_1275) (fun _ h9 => h9) rfl (by decide +kernel) rfl rfl dX10_next_178 (fun H locs F34 eF34 hP hD hS => ?_)
          have hP : va_P D vwCl [(h0, .inr (10, vL 67 F34)), (h_tape, .inl (cB, 940, .inl f_tape))] H := hP
          have hD : va_D A [(h0, .inr (10, vL 67 F34)), (h_tape, .inl (cB, 940, .inl f_tape))] := hD
          have cut41 : ∀ (u35 : Int32) (G36 : Nat → Value) (u37 : Int32) (u38 : Int32) (u39 : Int32) (u40 : Int64) (_ : IR 0 1 u35) (_ : SAME [4, 13, 14, 18] F34 G36) (_ : G36 4 = .int u37) (_ : G36 13 = .int u38) (_ : G36 14 = .int u39) (_ : G36 18 = .long u40) (_ : IR 0 940 u37) (_ : IR 0 940 u38) (_ : (u2.toInt + u38.toInt = u37.toInt ∧ 0 ≤ u38.toInt)) (_ : (RRM f_tape x_size.toInt u2.toInt u37.toInt u28.toInt u35.toInt u38.toInt u40.toInt u39.toInt)) (_ : (RXF f_tape x_size.toInt u37.toInt)) (_ : (1 ≤ u38.toInt)) (H : Heap) (locs : List Loc) (ls : Array Slot), va_P D vwCl [(h0, .inr (10, vL 67 G36)), (h_tape, .inl (cB, 940, .inl f_tape))] H → va_D A [(h0, .inr (10, vL 67 G36)), (h_tape, .inl (cB, 940, .inl f_tape))] → va_S A s.heap H locs → lv_has ls 4 [(3, .int u35), (2, .int u28), (1, .int r22), (0, .ref h0)] → W p l e ({ frames := 1, cells := 0, slots := 0, locals := 20 } : Room) s m [.ref h0].toArray below meth c H locs 0 0 (MQ below (va_Qv (fun (u : va_W) => ∃ (Gh : Nat → Value) (y_p : Int32) (y_token : Int32) (y_at : Int32) (y_span : Int32) (y_number : Int32) (y_word : Int64), SAME [4, 11, 12, 13, 14, 18] Fh Gh ∧ Gh 4 = .int y_p ∧ IR 0 940 y_p ∧ Gh 11 = .int y_token ∧ IR 0 4 y_token ∧ Gh 12 = .int y_at ∧ IR 0 940 y_at ∧ Gh 13 = .int y_span ∧ IR 0 940 y_span ∧ Gh 14 = .int y_number ∧ Gh 18 = .long y_word ∧ (x_p.toInt ≤ y_p.toInt) ∧ ((1 ≤ y_token.toInt → y_token.toInt ≤ 3 → x_p.toInt < y_p.toInt)) ∧ ((tkM y_token y_at y_number y_word y_p) = (tkA f_tape x_size.toInt x_limit.toInt) x_p.toInt) ∧ ((VWF y_token.toInt y_word.toInt)) ∧ ((y_token.toInt = 2 → 0 ≤ y_number.toInt ∧ y_number.toInt ≤ 999)) ∧ u = [(h0, .inr (10, vL 67 Gh)), (h_tape, .inl (cB, 940, .inl f_tape))]) (PO D A) A) [.ref h0].toArray s 0 0 A) (F0 m 298 ls []) := by
            intro u35 G36 u37 u38 u39 u40 i42 i43 i44 i45 i46 i47 i48 i49 i50 i51 i52 i53 H locs ls hP hD hS hl
            have i42 : 0 ≤ u35.toInt ∧ u35.toInt ≤ 1 := i42
            have i48 : 0 ≤ u37.toInt ∧ u37.toInt ≤ 940 := i48
            have i49 : 0 ≤ u38.toInt ∧ u38.toInt ≤ 940 := i49
            have i50 : u2.toInt + u38.toInt = u37.toInt ∧ 0 ≤ u38.toInt := i50
            have i51 : RRM f_tape x_size.toInt u2.toInt u37.toInt u28.toInt u35.toInt u38.toInt u40.toInt u39.toInt := i51
            have i52 : RXF f_tape x_size.toInt u37.toInt := i52
            have i53 : 1 ≤ u38.toInt := i53
            have h54 : FINF f_tape x_size.toInt u2.toInt u37.toInt u28.toInt u35.toInt u38.toInt u40.toInt u39.toInt := RRM.fin2 i51 i53 i52 h32
            refine lv_aload_n hx hb dX10_next_298 rfl (lv_at hl 3 rfl) ?_
            refine lv_iload_n hx hb dX10_next_299 rfl (lv_at hl 0 rfl) ?_
            refine lv_if_eq (tgt := 320) hx hb dX10_next_300 (by decide) (fun c55 => ?_) (fun c55 => ?_)
            · have dc55 : u35.toInt = 0 := eq_i (a := u35.toInt) (b := 0) rfl rfl c55
              have k56 : 0 ≤ u35.toInt ∧ u35.toInt ≤ 0 := ⟨i42.1, Int.le_trans (Int.le_of_eq dc55) (Int.le_refl _)⟩
              refine lv_iconst (v := 4) hx hb dX10_next_320 (by decide) ?_
              refine lv_goto (tgt := 333) hx hb dX10_next_321 (by decide) ?_
              refine put_f (D := D) (ci := 10) (v := .int 4) (ty := .int) (C := RX10) (T := TX10) (N := 67) hx hb hw inAX10 tyX10 tyX10_ok nmX10 hown hK hP hD hS 0 rfl rfl 11 (by decide) (hw _ q_1272) (fun _ h9 => h9) rfl (by decide +kernel) rfl rfl dX10_next_333 (fun H locs F57 eF57 hP hD hS => ?_)
              have hP : va_P D vwCl [(h0, .inr (10, vL 67 F57)), (h_tape, .inl (cB, 940, .inl f_tape))] H := hP
              have hD : va_D A [(h0, .inr (10, vL 67 F57)), (h_tape, .inl (cB, 940, .inl f_tape))] := hD
              exact ret_v hx hb hr hlocks hS hP hD dX10_next_336 (Nat.le_of_ble_eq_true rfl) (Nat.le_of_ble_eq_true rfl) ⟨F57, u37, 4, u2, u38, u39, u40, (SAME.up eF57 (SAME.tr (SAME.up eF34 (SAME.up eF33 (SAME.up eF11 (SAME.up eF10 (SAME.tr SAME.rf i4 (by decide)) (by decide)) (by decide)) (by decide)) (by decide)) i43 (by decide)) (by decide)), (get_ne eF57 (by decide) i44), i48, (get_eq eF57), (show 0 ≤ (4 : Int32).toInt ∧ (4 : Int32).toInt ≤ 4 by decide), (get_ne eF57 (by decide) (SAME.at i43 (by decide) (get_ne eF34 (by decide) (get_ne eF33 (by decide) (get_ne eF11 (by decide) (get_eq eF10)))))), i6, (get_ne eF57 (by decide) i45), i49, (get_ne eF57 (by decide) i46), (get_ne eF57 (by decide) i47), (by have zl4 : (4 : Int32).toInt = 4 := (by decide); omega), (by have zl4 : (4 : Int32).toInt = 4 := (by decide); omega), (nx_run (u := u2.toInt) i8 i9 (by omega) (by omega) rfl i13 (by omega) (hfs_sg h32) (Or.inr (Or.inr ⟨by decide, h54.2.2 (by omega) (by omega)⟩))), (fun q => absurd q (by decide)), (by have zl4 : (4 : Int32).toInt = 4 := (by decide); omega), rfl⟩
            · have dc55 : u35.toInt ≠ 0 := ne_i (a := u35.toInt) (b := 0) rfl rfl c55
              have k58 : 1 ≤ u35.toInt ∧ u35.toInt ≤ 1 := ⟨ne_lo dc55 i42.1 ⟨Int.le_refl _, Int.le_refl _⟩ (by decide), i42.2⟩
              refine lv_aload_n hx hb dX10_next_303 rfl (lv_at hl 3 rfl) ?_
              refine get_f (D := D) (ci := 10) (v := .int u38) (C := RX10) (T := TX10) (N := 67) hx hb hw inAX10 hown hK hP 0 rfl rfl 13 (by decide) (hw _ q_1274) (fun _ h9 => h9) i45 dX10_next_304 ?_
              refine lv_iload_n hx hb dX10_next_307 rfl (lv_at hl 1 rfl) ?_
              refine lv_if_eq (tgt := 316) hx hb dX10_next_308 (by decide) (fun c59 => ?_) (fun c59 => ?_)
              · have dc59 : u28.toInt = 0 := eq_i (a := u28.toInt) (b := 0) rfl rfl c59
                have k60 : 0 ≤ u28.toInt ∧ u28.toInt ≤ 0 := ⟨i30.1, Int.le_trans (Int.le_of_eq dc59) (Int.le_refl _)⟩
                refine lv_iconst (v := 3) hx hb dX10_next_316 (by decide) ?_
                refine lv_icmp_le (tgt := 324) hx hb dX10_next_317 (by decide) (fun c61 => ?_) (fun c61 => ?_)
                · have dc61 : u38.toInt ≤ 3 := le_i (a := u38.toInt) (b := 3) rfl rfl c61
                  have k62 : 0 ≤ u38.toInt ∧ u38.toInt ≤ 3 := ⟨i49.1, Int.le_trans dc61 (Int.le_refl _)⟩
                  refine lv_iload_n hx hb dX10_next_324 rfl (lv_at hl 1 rfl) ?_
                  refine lv_if_eq (tgt := 332) hx hb dX10_next_325 (by decide) (fun c63 => ?_) (fun c63 => False.elim (bad_ne (ne_i (a := u28.toInt) (b := 0) rfl rfl c63) k60 ⟨Int.le_refl _, Int.le_refl _⟩ (by decide)))
                  have dc63 : u28.toInt = 0 := eq_i (a := u28.toInt) (b := 0) rfl rfl c63
                  have h64 : 0 ≤ u39.toInt ∧ u39.toInt ≤ 999 := RRM.num i51 (by omega) (by omega) (by omega)
                  refine lv_iconst (v := 2) hx hb dX10_next_332 (by decide) ?_
                  refine put_f (D := D) (ci := 10) (v := .int 2) (ty := .int) (C := RX10) (T := TX10) (N := 67) hx hb hw inAX10 tyX10 tyX10_ok nmX10 hown hK hP hD hS 0 rfl rfl 11 (by decide) (hw _ q_1272) (fun _ h9 => h9) rfl (by decide +kernel) rfl rfl dX10_next_333 (fun H locs F65 eF65 hP hD hS => ?_)
                  have hP : va_P D vwCl [(h0, .inr (10, vL 67 F65)), (h_tape, .inl (cB, 940, .inl f_tape))] H := hP
                  have hD : va_D A [(h0, .inr (10, vL 67 F65)), (h_tape, .inl (cB, 940, .inl f_tape))] := hD
                  exact ret_v hx hb hr hlocks hS hP hD dX10_next_336 (Nat.le_of_ble_eq_true rfl) (Nat.le_of_ble_eq_true rfl) ⟨F65, u37, 2, u2, u38, u39, u40, (SAME.up eF65 (SAME.tr (SAME.up eF34 (SAME.up eF33 (SAME.up eF11 (SAME.up eF10 (SAME.tr SAME.rf i4 (by decide)) (by decide)) (by decide)) (by decide)) (by decide)) i43 (by decide)) (by decide)), (get_ne eF65 (by decide) i44), i48, (get_eq eF65), (show 0 ≤ (2 : Int32).toInt ∧ (2 : Int32).toInt ≤ 4 by decide), (get_ne eF65 (by decide) (SAME.at i43 (by decide) (get_ne eF34 (by decide) (get_ne eF33 (by decide) (get_ne eF11 (by decide) (get_eq eF10)))))), i6, (get_ne eF65 (by decide) i45), (ir_wk k62 (by decide) (by decide)), (get_ne eF65 (by decide) i46), (get_ne eF65 (by decide) i47), (by have zl2 : (2 : Int32).toInt = 2 := (by decide); omega), (by have zl2 : (2 : Int32).toInt = 2 := (by decide); omega), (nx_run (u := u2.toInt) i8 i9 (by omega) (by omega) rfl i13 (by omega) (hfs_sg h32) (Or.inr (Or.inl ⟨by decide, h54.2.1 (by omega) (by omega) (by omega)⟩))), (fun q => absurd q (by decide)), (by have zl2 : (2 : Int32).toInt = 2 := (by decide); omega), rfl⟩
                · have dc61 : 3 < u38.toInt := nle_i (a := u38.toInt) (b := 3) rfl rfl c61
                  have k66 : 4 ≤ u38.toInt ∧ u38.toInt ≤ 940 := ⟨lo_lt dc61 (Int.le_refl _) (by decide), i49.2⟩
                  refine lv_iconst (v := 4) hx hb dX10_next_320 (by decide) ?_
                  refine lv_goto (tgt := 333) hx hb dX10_next_321 (by decide) ?_
                  refine put_f (D := D) (ci := 10) (v := .int 4) (ty := .int) (C := RX10) (T := TX10) (N := 67) hx hb hw inAX10 tyX10 tyX10_ok nmX10 hown hK hP hD hS 0 rfl rfl 11 (by decide) (hw _ q_1272) (fun _ h9 => h9) rfl (by decide +kernel) rfl rfl dX10_next_333 (fun H locs F67 eF67 hP hD hS => ?_)
                  have hP : va_P D vwCl [(h0, .inr (10, vL 67 F67)), (h_tape, .inl (cB, 940, .inl f_tape))] H := hP
                  have hD : va_D A [(h0, .inr (10, vL 67 F67)), (h_tape, .inl (cB, 940, .inl f_tape))] := hD
                  exact ret_v hx hb hr hlocks hS hP hD dX10_next_336 (Nat.le_of_ble_eq_true rfl) (Nat.le_of_ble_eq_true rfl) ⟨F67, u37, 4, u2, u38, u39, u40, (SAME.up eF67 (SAME.tr (SAME.up eF34 (SAME.up eF33 (SAME.up eF11 (SAME.up eF10 (SAME.tr SAME.rf i4 (by decide)) (by decide)) (by decide)) (by decide)) (by decide)) i43 (by decide)) (by decide)), (get_ne eF67 (by decide) i44), i48, (get_eq eF67), (show 0 ≤ (4 : Int32).toInt ∧ (4 : Int32).toInt ≤ 4 by decide), (get_ne eF67 (by decide) (SAME.at i43 (by decide) (get_ne eF34 (by decide) (get_ne eF33 (by decide) (get_ne eF11 (by decide) (get_eq eF10)))))), i6, (get_ne eF67 (by decide) i45), (ir_wk k66 (by decide) (by decide)), (get_ne eF67 (by decide) i46), (get_ne eF67 (by decide) i47), (by have zl4 : (4 : Int32).toInt = 4 := (by decide); omega), (by have zl4 : (4 : Int32).toInt = 4 := (by decide); omega), (nx_run (u := u2.toInt) i8 i9 (by omega) (by omega) rfl i13 (by omega) (hfs_sg h32) (Or.inr (Or.inr ⟨by decide, h54.2.2 (by omega) (by omega)⟩))), (fun q => absurd q (by decide)), (by have zl4 : (4 : Int32).toInt = 4 := (by decide); omega), rfl⟩
              · have dc59 : u28.toInt ≠ 0 := ne_i (a := u28.toInt) (b := 0) rfl rfl c59
                have k68 : 1 ≤ u28.toInt ∧ u28.toInt ≤ 1 := ⟨ne_lo dc59 i30.1 ⟨Int.le_refl _, Int.le_refl _⟩ (by decide), i30.2⟩
                refine lv_bipush (v := 7) hx hb dX10_next_311 (by decide) ?_
                refine lv_goto (tgt := 317) hx hb dX10_next_313 (by decide) ?_
                refine lv_icmp_le (tgt := 324) hx hb dX10_next_317 (by decide) (fun c69 => ?_) (fun c69 => ?_)
                · have dc69 : u38.toInt ≤ 7 := le_i (a := u38.toInt) (b := 7) rfl rfl c69
                  have k70 : 0 ≤ u38.toInt ∧ u38.toInt ≤ 7 := ⟨i49.1, Int.le_trans dc69 (Int.le_refl _)⟩
                  refine lv_iload_n hx hb dX10_next_324 rfl (lv_at hl 1 rfl) ?_
                  refine lv_if_eq (tgt := 332) hx hb dX10_next_325 (by decide) (fun c71 => False.elim (bad_le (Int.le_of_eq (eq_i (a := u28.toInt) (b := 0) rfl rfl c71)) k68.1 (Int.le_refl _) (by decide))) (fun c71 => ?_)
                  have dc71 : u28.toInt ≠ 0 := ne_i (a := u28.toInt) (b := 0) rfl rfl c71
                  refine lv_iconst (v := 1) hx hb dX10_next_328 (by decide) ?_
                  refine lv_goto (tgt := 333) hx hb dX10_next_329 (by decide) ?_
                  refine put_f (D := D) (ci := 10) (v := .int 1) (ty := .int) (C := RX10) (T := TX10) (N := 67) hx hb hw inAX10 tyX10 tyX10_ok nmX10 hown hK hP hD hS 0 rfl rfl 11 (by decide) (hw _ q_1272) (fun _ h9 => h9) rfl (by decide +kernel) rfl rfl dX10_next_333 (fun H locs F72 eF72 hP hD hS => ?_)
                  have hP : va_P D vwCl [(h0, .inr (10, vL 67 F72)), (h_tape, .inl (cB, 940, .inl f_tape))] H := hP
                  have hD : va_D A [(h0, .inr (10, vL 67 F72)), (h_tape, .inl (cB, 940, .inl f_tape))] := hD
                  exact ret_v hx hb hr hlocks hS hP hD dX10_next_336 (Nat.le_of_ble_eq_true rfl) (Nat.le_of_ble_eq_true rfl) ⟨F72, u37, 1, u2, u38, u39, u40, (SAME.up eF72 (SAME.tr (SAME.up eF34 (SAME.up eF33 (SAME.up eF11 (SAME.up eF10 (SAME.tr SAME.rf i4 (by decide)) (by decide)) (by decide)) (by decide)) (by decide)) i43 (by decide)) (by decide)), (get_ne eF72 (by decide) i44), i48, (get_eq eF72), (show 0 ≤ (1 : Int32).toInt ∧ (1 : Int32).toInt ≤ 4 by decide), (get_ne eF72 (by decide) (SAME.at i43 (by decide) (get_ne eF34 (by decide) (get_ne eF33 (by decide) (get_ne eF11 (by decide) (get_eq eF10)))))), i6, (get_ne eF72 (by decide) i45), (ir_wk k70 (by decide) (by decide)), (get_ne eF72 (by decide) i46), (get_ne eF72 (by decide) i47), (by have zl1 : (1 : Int32).toInt = 1 := (by decide); omega), (by have zl1 : (1 : Int32).toInt = 1 := (by decide); omega), (nx_run (u := u2.toInt) i8 i9 (by omega) (by omega) rfl i13 (by omega) (hfs_sg h32) (Or.inl ⟨by decide, (h54.1 (by omega) (by omega) (by omega)).1⟩)), (fun _ => (h54.1 (by omega) (by omega) (by omega)).2), (by have zl1 : (1 : Int32).toInt = 1 := (by decide); omega), rfl⟩
                · have dc69 : 7 < u38.toInt := nle_i (a := u38.toInt) (b := 7) rfl rfl c69
                  have k73 : 8 ≤ u38.toInt ∧ u38.toInt ≤ 940 := ⟨lo_lt dc69 (Int.le_refl _) (by decide), i49.2⟩
                  refine lv_iconst (v := 4) hx hb dX10_next_320 (by decide) ?_
                  refine lv_goto (tgt := 333) hx hb dX10_next_321 (by decide) ?_
                  refine put_f (D := D) (ci := 10) (v := .int 4) (ty := .int) (C := RX10) (T := TX10) (N := 67) hx hb hw inAX10 tyX10 tyX10_ok nmX10 hown hK hP hD hS 0 rfl rfl 11 (by decide) (hw _ q_1272) (fun _ h9 => h9) rfl (by decide +kernel) rfl rfl dX10_next_333 (fun H locs F74 eF74 hP hD hS => ?_)
                  have hP : va_P D vwCl [(h0, .inr (10, vL 67 F74)), (h_tape, .inl (cB, 940, .inl f_tape))] H := hP
                  have hD : va_D A [(h0, .inr (10, vL 67 F74)), (h_tape, .inl (cB, 940, .inl f_tape))] := hD
                  exact ret_v hx hb hr hlocks hS hP hD dX10_next_336 (Nat.le_of_ble_eq_true rfl) (Nat.le_of_ble_eq_true rfl) ⟨F74, u37, 4, u2, u38, u39, u40, (SAME.up eF74 (SAME.tr (SAME.up eF34 (SAME.up eF33 (SAME.up eF11 (SAME.up eF10 (SAME.tr SAME.rf i4 (by decide)) (by decide)) (by decide)) (by decide)) (by decide)) i43 (by decide)) (by decide)), (get_ne eF74 (by decide) i44), i48, (get_eq eF74), (show 0 ≤ (4 : Int32).toInt ∧ (4 : Int32).toInt ≤ 4 by decide), (get_ne eF74 (by decide) (SAME.at i43 (by decide) (get_ne eF34 (by decide) (get_ne eF33 (by decide) (get_ne eF11 (by decide) (get_eq eF10)))))), i6, (get_ne eF74 (by decide) i45), (ir_wk k73 (by decide) (by decide)), (get_ne eF74 (by decide) i46), (get_ne eF74 (by decide) i47), (by have zl4 : (4 : Int32).toInt = 4 := (by decide); omega), (by have zl4 : (4 : Int32).toInt = 4 := (by decide); omega), (nx_run (u := u2.toInt) i8 i9 (by omega) (by omega) rfl i13 (by omega) (hfs_sg h32) (Or.inr (Or.inr ⟨by decide, h54.2.2 (by omega) (by omega)⟩))), (fun q => absurd q (by decide)), (by have zl4 : (4 : Int32).toInt = 4 := (by decide); omega), rfl⟩
          have n75 : F33 4 = .int u2 := (get_ne eF33 (by decide) n21)
          have n76 : F34 4 = .int u2 := (get_ne eF34 (by decide) n75)
          have n77 : F33 13 = .int 0 := (get_ne eF33 (by decide) (get_eq eF11))
          have n78 : F34 13 = .int 0 := (get_ne eF34 (by decide) n77)
          have n79 : F34 18 = .long 0 := (get_ne eF34 (by decide) (get_eq eF33))
          refine mloop (α := (Int32) × (Nat → Value) × (Int32) × (Int32) × (Int32) × (Int64)) (nL := 4) (D := D) (A := A) (H0 := s.heap) (fun a => (x_size.toInt - a.2.2.1.toInt).toNat) (fun a => IR 0 1 a.1 ∧ SAME [4, 13, 14, 18] F34 a.2.1 ∧ a.2.1 4 = .int a.2.2.1 ∧ a.2.1 13 = .int a.2.2.2.1 ∧ a.2.1 14 = .int a.2.2.2.2.1 ∧ a.2.1 18 = .long a.2.2.2.2.2 ∧ IR 0 940 a.2.2.1 ∧ IR 0 940 a.2.2.2.1 ∧ (u2.toInt + a.2.2.2.1.toInt = a.2.2.1.toInt ∧ 0 ≤ a.2.2.2.1.toInt) ∧ (RRM f_tape x_size.toInt u2.toInt a.2.2.1.toInt u28.toInt a.1.toInt a.2.2.2.1.toInt a.2.2.2.2.2.toInt a.2.2.2.2.1.toInt)) (fun a => [(h0, .inr (10, vL 67 a.2.1)), (h_tape, .inl (cB, 940, .inl f_tape))]) (fun a => [(3, .int a.1), (2, .int u28), (1, .int r22), (0, .ref h0)]) (fun H locs ls => W p l e ({ frames := 1, cells := 0, slots := 0, locals := 20 } : Room) s m [.ref h0].toArray below meth c H locs 0 0 (MQ below (va_Qv (fun (u : va_W) => ∃ (Gh : Nat → Value) (y_p : Int32) (y_token : Int32) (y_at : Int32) (y_span : Int32) (y_number : Int32) (y_word : Int64), SAME [4, 11, 12, 13, 14, 18] Fh Gh ∧ Gh 4 = .int y_p ∧ IR 0 940 y_p ∧ Gh 11 = .int y_token ∧ IR 0 4 y_token ∧ Gh 12 = .int y_at ∧ IR 0 940 y_at ∧ Gh 13 = .int y_span ∧ IR 0 940 y_span ∧ Gh 14 = .int y_number ∧ Gh 18 = .long y_word ∧ (x_p.toInt ≤ y_p.toInt) ∧ ((1 ≤ y_token.toInt → y_token.toInt ≤ 3 → x_p.toInt < y_p.toInt)) ∧ ((tkM y_token y_at y_number y_word y_p) = (tkA f_tape x_size.toInt x_limit.toInt) x_p.toInt) ∧ ((VWF y_token.toInt y_word.toInt)) ∧ ((y_token.toInt = 2 → 0 ≤ y_number.toInt ∧ y_number.toInt ≤ 999)) ∧ u = [(h0, .inr (10, vL 67 Gh)), (h_tape, .inl (cB, 940, .inl f_tape))]) (PO D A) A) [.ref h0].toArray s 0 0 A) (F0 m 181 ls [])) ?_ (1, F34, u2, 0, 0, 0) ⟨(show 0 ≤ (1 : Int32).toInt ∧ (1 : Int32).toInt ≤ 1 by decide), SAME.rf, n76, n78, (get_eq eF34), n79, i6, (show 0 ≤ (0 : Int32).toInt ∧ (0 : Int32).toInt ≤ 940 by decide), (by show u2.toInt + 0 = u2.toInt ∧ 0 ≤ 0; omega), (show RRM f_tape x_size.toInt u2.toInt u2.toInt u28.toInt 1 0 0 0 from (RRM.zero (by omega)))⟩ _ _ _ hP hD hS hl
          rintro ⟨u35, G36, u37, u38, u39, u40⟩ ⟨i80, i81, i82, i83, i84, i85, i86, i87, i88, i89⟩ ih H locs ls hP hD hS hl
          have i80 : 0 ≤ u35.toInt ∧ u35.toInt ≤ 1 := i80
          have i86 : 0 ≤ u37.toInt ∧ u37.toInt ≤ 940 := i86
          have i87 : 0 ≤ u38.toInt ∧ u38.toInt ≤ 940 := i87
          have i88 : u2.toInt + u38.toInt = u37.toInt ∧ 0 ≤ u38.toInt := i88
          have i89 : RRM f_tape x_size.toInt u2.toInt u37.toInt u28.toInt u35.toInt u38.toInt u40.toInt u39.toInt := i89
          have hP : va_P D vwCl [(h0, .inr (10, vL 67 G36)), (h_tape, .inl (cB, 940, .inl f_tape))] H := hP
          have hD : va_D A [(h0, .inr (10, vL 67 G36)), (h_tape, .inl (cB, 940, .inl f_tape))] := hD
          have hl : lv_has ls 4 [(3, .int u35), (2, .int u28), (1, .int r22), (0, .ref h0)] := hl
          have cut90 : ∀  (_ : (u37.toInt < x_size.toInt)) (_ : (LDS f_tape (u37.toInt).toNat)) (H : Heap) (locs : List Loc) (ls : Array Slot), va_P D vwCl [(h0, .inr (10, vL 67 G36)), (h_tape, .inl (cB, 940, .inl f_tape))] H → va_D A [(h0, .inr (10, vL 67 G36)), (h_tape, .inl (cB, 940, .inl f_tape))] → va_S A s.heap H locs → lv_has ls 4 [(3, .int u35), (2, .int u28), (1, .int r22), (0, .ref h0)] → W p l e ({ frames := 1, cells := 0, slots := 0, locals := 20 } : Room) s m [.ref h0].toArray below meth c H locs 0 0 (MQ below (va_Qv (fun (u : va_W) => ∃ (Gh : Nat → Value) (y_p : Int32) (y_token : Int32) (y_at : Int32) (y_span : Int32) (y_number : Int32) (y_word : Int64), SAME [4, 11, 12, 13, 14, 18] Fh Gh ∧ Gh 4 = .int y_p ∧ IR 0 940 y_p ∧ Gh 11 = .int y_token ∧ IR 0 4 y_token ∧ Gh 12 = .int y_at ∧ IR 0 940 y_at ∧ Gh 13 = .int y_span ∧ IR 0 940 y_span ∧ Gh 14 = .int y_number ∧ Gh 18 = .long y_word ∧ (x_p.toInt ≤ y_p.toInt) ∧ ((1 ≤ y_token.toInt → y_token.toInt ≤ 3 → x_p.toInt < y_p.toInt)) ∧ ((tkM y_token y_at y_number y_word y_p) = (tkA f_tape x_size.toInt x_limit.toInt) x_p.toInt) ∧ ((VWF y_token.toInt y_word.toInt)) ∧ ((y_token.toInt = 2 → 0 ≤ y_number.toInt ∧ y_number.toInt ≤ 999)) ∧ u = [(h0, .inr (10, vL 67 Gh)), (h_tape, .inl (cB, 940, .inl f_tape))]) (PO D A) A) [.ref h0].toArray s 0 0 A) (F0 m 201 ls []) := by
            intro i91 i92 H locs ls hP hD hS hl
            have i91 : u37.toInt < x_size.toInt := i91
            have i92 : LDS f_tape (u37.toInt).toNat := i92
            have cut94 : ∀ (u93 : Int32) (_ : IR 0 1 u93) (_ : (ALF f_tape (u37.toInt).toNat u28.toInt u35.toInt u93.toInt)) (H : Heap) (locs : List Loc) (ls : Array Slot), va_P D vwCl [(h0, .inr (10, vL 67 G36)), (h_tape, .inl (cB, 940, .inl f_tape))] H → va_D A [(h0, .inr (10, vL 67 G36)), (h_tape, .inl (cB, 940, .inl f_tape))] → va_S A s.heap H locs → lv_has ls 4 [(3, .int u93), (2, .int u28), (1, .int r22), (0, .ref h0)] → W p l e ({ frames := 1, cells := 0, slots := 0, locals := 20 } : Room) s m [.ref h0].toArray below meth c H locs 0 0 (MQ below (va_Qv (fun (u : va_W) => ∃ (Gh : Nat → Value) (y_p : Int32) (y_token : Int32) (y_at : Int32) (y_span : Int32) (y_number : Int32) (y_word : Int64), SAME [4, 11, 12, 13, 14, 18] Fh Gh ∧ Gh 4 = .int y_p ∧ IR 0 940 y_p ∧ Gh 11 = .int y_token ∧ IR 0 4 y_token ∧ Gh 12 = .int y_at ∧ IR 0 940 y_at ∧ Gh 13 = .int y_span ∧ IR 0 940 y_span ∧ Gh 14 = .int y_number ∧ Gh 18 = .long y_word ∧ (x_p.toInt ≤ y_p.toInt) ∧ ((1 ≤ y_token.toInt → y_token.toInt ≤ 3 → x_p.toInt < y_p.toInt)) ∧ ((tkM y_token y_at y_number y_word y_p) = (tkA f_tape x_size.toInt x_limit.toInt) x_p.toInt) ∧ ((VWF y_token.toInt y_word.toInt)) ∧ ((y_token.toInt = 2 → 0 ≤ y_number.toInt ∧ y_number.toInt ≤ 999)) ∧ u = [(h0, .inr (10, vL 67 Gh)), (h_tape, .inl (cB, 940, .inl f_tape))]) (PO D A) A) [.ref h0].toArray s 0 0 A) (F0 m 222 ls []) := by
              intro u93 i95 i96 H locs ls hP hD hS hl
              have i95 : 0 ≤ u93.toInt ∧ u93.toInt ≤ 1 := i95
              have i96 : ALF f_tape (u37.toInt).toNat u28.toInt u35.toInt u93.toInt := i96
              have cut99 : ∀ (G97 : Nat → Value) (u98 : Int64) (_ : SAME [18] G36 G97) (_ : G97 18 = .long u98) (_ : (WDF u38.toInt u40.toInt u98.toInt (tb f_tape (u37.toInt).toNat))) (H : Heap) (locs : List Loc) (ls : Array Slot), va_P D vwCl [(h0, .inr (10, vL 67 G97)), (h_tape, .inl (cB, 940, .inl f_tape))] H → va_D A [(h0, .inr (10, vL 67 G97)), (h_tape, .inl (cB, 940, .inl f_tape))] → va_S A s.heap H locs → lv_has ls 4 [(3, .int u93), (2, .int u28), (1, .int r22), (0, .ref h0)] → W p l e ({ frames := 1, cells := 0, slots := 0, locals := 20 } : Room) s m [.ref h0].toArray below meth c H locs 0 0 (MQ below (va_Qv (fun (u : va_W) => ∃ (Gh : Nat → Value) (y_p : Int32) (y_token : Int32) (y_at : Int32) (y_span : Int32) (y_number : Int32) (y_word : Int64), SAME [4, 11, 12, 13, 14, 18] Fh Gh ∧ Gh 4 = .int y_p ∧ IR 0 940 y_p ∧ Gh 11 = .int y_token ∧ IR 0 4 y_token ∧ Gh 12 = .int y_at ∧ IR 0 940 y_at ∧ Gh 13 = .int y_span ∧ IR 0 940 y_span ∧ Gh 14 = .int y_number ∧ Gh 18 = .long y_word ∧ (x_p.toInt ≤ y_p.toInt) ∧ ((1 ≤ y_token.toInt → y_token.toInt ≤ 3 → x_p.toInt < y_p.toInt)) ∧ ((tkM y_token y_at y_number y_word y_p) = (tkA f_tape x_size.toInt x_limit.toInt) x_p.toInt) ∧ ((VWF y_token.toInt y_word.toInt)) ∧ ((y_token.toInt = 2 → 0 ≤ y_number.toInt ∧ y_number.toInt ≤ 999)) ∧ u = [(h0, .inr (10, vL 67 Gh)), (h_tape, .inl (cB, 940, .inl f_tape))]) (PO D A) A) [.ref h0].toArray s 0 0 A) (F0 m 248 ls []) := by
                intro G97 u98 i100 i101 i102 H locs ls hP hD hS hl
                have i102 : WDF u38.toInt u40.toInt u98.toInt (tb f_tape (u37.toInt).toNat) := i102
                refine lv_aload_n hx hb dX10_next_248 rfl (lv_at hl 3 rfl) ?_
                have n103 : G97 13 = .int u38 := (SAME.at i100 (by decide) i83)
                refine get_f (D := D) (ci := 10) (v := .int u38) (C := RX10) (T := TX10) (N := 67) hx hb hw inAX10 hown hK hP 0 rfl rfl 13 (by decide) (hw _ q_1274) (fun _ h9 => h9) n103 dX10_next_249 ?_
                refine lv_iconst (v := 3) hx hb dX10_next_252 (by decide) ?_
                refine lv_icmp_ge (tgt := 275) hx hb dX10_next_253 (by decide) (fun c104 => ?_) (fun c104 => ?_)
                · have dc104 : 3 ≤ u38.toInt := le_i (a := 3) (b := u38.toInt) rfl rfl c104
                  have k105 : 3 ≤ u38.toInt ∧ u38.toInt ≤ 940 := ⟨Int.le_trans (Int.le_refl _) dc104, i87.2⟩
                  have h106 : NUF u38.toInt u39.toInt u39.toInt (tb f_tape (u37.toInt).toNat) := NUF.no (by omega)
                  refine lv_aload_n hx hb dX10_next_275 rfl (lv_at hl 3 rfl) ?_
                  refine lv_dup hx hb dX10_next_276 rfl ?_
                  refine get_f (D := D) (ci := 10) (v := .int u38) (C := RX10) (T := TX10) (N := 67) hx hb hw inAX10 hown hK hP 0 rfl rfl 13 (by decide) (hw _ q_1274) (fun _ h9 => h9) n103 dX10_next_277 ?_
                  refine lv_iconst (v := 1) hx hb dX10_next_280 (by decide) ?_
                  refine lv_iadd hx hb dX10_next_281 ?_
                  refine lv_topi (fun v107 ev107 => ?_)
                  have bv107 : v107.toInt = u38.toInt + 1 := by rw [ev107]; exact add_k rfl rfl k105 ⟨Int.le_refl _, Int.le_refl _⟩ (by decide)
                  have k108 : 4 ≤ v107.toInt ∧ v107.toInt ≤ 941 := add_r bv107 k105 ⟨Int.le_refl _, Int.le_refl _⟩ (by decide)
                  refine put_f (D := D) (ci := 10) (v := .int v107) (ty := .int) (C := RX10) (T := TX10) (N := 67) hx hb hw inAX10 tyX10 tyX10_ok nmX10 hown hK hP hD hS 0 rfl rfl 13 (by decide) (hw _ q_1274) (fun _ h9 => h9) rfl (by decide +kernel) rfl rfl dX10_next_282 (fun H locs F109 eF109 hP hD hS => ?_)
                  have hP : va_P D vwCl [(h0, .inr (10, vL 67 F109)), (h_tape, .inl (cB, 940, .inl f_tape))] H := hP
                  have hD : va_D A [(h0, .inr (10, vL 67 F109)), (h_tape, .inl (cB, 940, .inl f_tape))] := hD
                  refine lv_aload_n hx hb dX10_next_285 rfl (lv_at hl 3 rfl) ?_
                  refine lv_dup hx hb dX10_next_286 rfl ?_
                  have n110 : G97 4 = .int u37 := (SAME.at i100 (by decide) i82)
                  have n111 : F109 4 = .int u37 := (get_ne eF109 (by decide) n110)
                  refine get_f (D := D) (ci := 10) (v := .int u37) (C := RX10) (T := TX10) (N := 67) hx hb hw inAX10 hown hK hP 0 rfl rfl 4 (by decide) (hw _ q_1265) (fun _ h9 => h9) n111 dX10_next_287 ?_
                  refine lv_iconst (v := 1) hx hb dX10_next_290 (by decide) ?_
                  refine lv_iadd hx hb dX10_next_291 ?_
                  refine lv_topi (fun v112 ev112 => ?_)
                  have bv112 : v112.toInt = u37.toInt + 1 := by rw [ev112]; exact add_k rfl rfl i86 ⟨Int.le_refl _, Int.le_refl _⟩ (by decide)
                  have k113 : 1 ≤ v112.toInt ∧ v112.toInt ≤ 941 := add_r bv112 i86 ⟨Int.le_refl _, Int.le_refl _⟩ (by decide)
                  refine put_f (D := D) (ci := 10) (v := .int v112) (ty := .int) (C := RX10) (T := TX10) (N := 67) hx hb hw inAX10 tyX10 tyX10_ok nmX10 hown hK hP hD hS 0 rfl rfl 4 (by decide) (hw _ q_1265) (fun _ h9 => h9) rfl (by decide +kernel) rfl rfl dX10_next_292 (fun H locs F114 eF114 hP hD hS => ?_)
                  have hP : va_P D vwCl [(h0, .inr (10, vL 67 F114)), (h_tape, .inl (cB, 940, .inl f_tape))] H := hP
                  have hD : va_D A [(h0, .inr (10, vL 67 F114)), (h_tape, .inl (cB, 940, .inl f_tape))] := hD
                  refine lv_goto (tgt := 181) hx hb dX10_next_295 (by decide) ?_
                  have n115 : F114 13 = .int v107 := (get_ne eF114 (by decide) (get_eq eF109))
                  have n116 : G97 14 = .int u39 := (SAME.at i100 (by decide) i84)
                  have n117 : F109 14 = .int u39 := (get_ne eF109 (by decide) n116)
                  have n118 : F114 14 = .int u39 := (get_ne eF114 (by decide) n117)
                  have n119 : F109 18 = .long u98 := (get_ne eF109 (by decide) i101)
                  have n120 : F114 18 = .long u98 := (get_ne eF114 (by decide) n119)
                  exact ih (u93, F114, v112, v107, u39, u98) ⟨i95, (SAME.up eF114 (SAME.up eF109 (SAME.tr (SAME.tr SAME.rf i81 (by decide)) i100 (by decide)) (by decide)) (by decide)), (get_eq eF114), n115, n118, n120, (show 0 ≤ v112.toInt ∧ v112.toInt ≤ 940 from ⟨by omega, by omega⟩), (show 0 ≤ v107.toInt ∧ v107.toInt ≤ 940 from ⟨by omega, by omega⟩), (by show u2.toInt + v107.toInt = v112.toInt ∧ 0 ≤ v107.toInt; omega), (show RRM f_tape x_size.toInt u2.toInt v112.toInt u28.toInt u93.toInt v107.toInt u98.toInt u39.toInt from (RRM.step2 i89 i91 i92 (by omega) i96 i102 h106 (by omega) (by omega)))⟩ (by show (x_size.toInt - v112.toInt).toNat < (x_size.toInt - u37.toInt).toNat; omega) _ _ _ hP hD hS (lv_sub hl [0, 1, 2, 3] rfl)
                · have dc104 : u38.toInt < 3 := nle_i (a := 3) (b := u38.toInt) rfl rfl c104
                  have k121 : 0 ≤ u38.toInt ∧ u38.toInt ≤ 2 := ⟨i87.1, up_lt dc104 (Int.le_refl _) (by decide)⟩
                  refine lv_aload_n hx hb dX10_next_256 rfl (lv_at hl 3 rfl) ?_
                  refine lv_bipush (v := 10) hx hb dX10_next_257 (by decide) ?_
                  refine lv_aload_n hx hb dX10_next_259 rfl (lv_at hl 3 rfl) ?_
                  have n122 : G97 14 = .int u39 := (SAME.at i100 (by decide) i84)
                  refine get_f (D := D) (ci := 10) (v := .int u39) (C := RX10) (T := TX10) (N := 67) hx hb hw inAX10 hown hK hP 0 rfl rfl 14 (by decide) (hw _ q_1275) (fun _ h9 => h9) n122 dX10_next_260 ?_
                  refine lv_imul hx hb dX10_next_263 ?_
                  refine lv_topi (fun v123 ev123 => ?_)
                  have bv123 : -1000000 ≤ u39.toInt → u39.toInt ≤ 1000000 → v123.toInt = 10 * u39.toInt := fun h1 h2 => by rw [ev123]; exact mul_i (a := 10) (b := u39.toInt) rfl rfl (by omega) (by omega)
                  refine lv_aload_n hx hb dX10_next_264 rfl (lv_at hl 3 rfl) ?_
                  have n124 : F33 1 = .ref h_tape := (get_ne eF33 (by decide) n16)
                  have n125 : F34 1 = .ref h_tape := (get_ne eF34 (by decide) n124)
                  have n126 : G36 1 = .ref h_tape := (SAME.at i81 (by decide) n125)
                  have n127 : G97 1 = .ref h_tape := (SAME.at i100 (by decide) n126)
                  have n128 : F33 3 = .int x_size := (get_ne eF33 (by decide) n19)
                  have n129 : F34 3 = .int x_size := (get_ne eF34 (by decide) n128)
                  have n130 : G36 3 = .int x_size := (SAME.at i81 (by decide) n129)
                  have n131 : G97 3 = .int x_size := (SAME.at i100 (by decide) n130)
                  have n132 : G97 4 = .int u37 := (SAME.at i100 (by decide) i82)
                  refine call_Vi (wr := []) (As := []) (rest := [.int v123, .ref h0]) hx hb hml hown hw (m_X10_peek l D cI cJ cB cP cM cZ h0 h_tape G97 x_size u37 f_tape _ n127 n131 i_x_size n132 i86) wV_X10_169_X10_peek dX10_next_265 hK hP hD hS hA [0, 1] [] rfl rfl (by decide) (by decide) (by decide) 0 10 rfl rfl GG.fb hG.at hl.1 rfl (Nat.le_of_ble_eq_true rfl) ⟨(Nat.le_of_ble_eq_true rfl), (Nat.le_of_ble_eq_true rfl)⟩ ⟨(Nat.le_of_ble_eq_true rfl), (Nat.le_of_ble_eq_true rfl)⟩ (fun r133 u H locs hp hP hD hS => ?_)
                  obtain ⟨t134, t135, rfl⟩ := hp
                  have hP : va_P D vwCl [(h0, .inr (10, vL 67 G97)), (h_tape, .inl (cB, 940, .inl f_tape))] H := hP
                  have hD : va_D A [(h0, .inr (10, vL 67 G97)), (h_tape, .inl (cB, 940, .inl f_tape))] := hD
                  refine W.widen (k := 0) (n := 0) (Nat.le_of_ble_eq_true rfl) (Nat.le_of_ble_eq_true rfl) ?_
                  replace t135 := look_in t135 i91
                  refine lv_iadd hx hb dX10_next_268 ?_
                  refine lv_topi (fun v137 ev137 => ?_)
                  have bv137 : -1000000 ≤ v123.toInt → v123.toInt ≤ 1000000 → v137.toInt = v123.toInt + r133.toInt := fun h1 h2 => by rw [ev137]; exact add_i (a := v123.toInt) (b := r133.toInt) rfl rfl (by omega) (by omega)
                  refine lv_bipush (v := 48) hx hb dX10_next_269 (by decide) ?_
                  refine lv_isub hx hb dX10_next_271 ?_
                  refine lv_topi (fun v138 ev138 => ?_)
                  have bv138 : -1000000 ≤ v137.toInt → v137.toInt ≤ 1000000 → v138.toInt = v137.toInt - 48 := fun h1 h2 => by rw [ev138]; exact sub_i (a := v137.toInt) (b := 48) rfl rfl (by omega) (by omega)
                  refine put_f (D := D) (ci := 10) (v := .int v138) (ty := .int) (C := RX10) (T := TX10) (N := 67) hx hb hw inAX10 tyX10 tyX10_ok nmX10 hown hK hP hD hS 0 rfl rfl 14 (by decide) (hw _ q_1275) (fun _ h9 => h9) rfl (by decide +kernel) rfl rfl dX10_next_272 (fun H locs F139 eF139 hP hD hS => ?_)
                  have hP : va_P D vwCl [(h0, .inr (10, vL 67 F139)), (h_tape, .inl (cB, 940, .inl f_tape))] H := hP
                  have hD : va_D A [(h0, .inr (10, vL 67 F139)), (h_tape, .inl (cB, 940, .inl f_tape))] := hD
                  have h140 : NUF u38.toInt u39.toInt v138.toInt (tb f_tape (u37.toInt).toNat) := NUF.st bv123 bv137 bv138 t135 (tb_255 _ _)
                  clear bv138 bv137 bv123
                  refine lv_aload_n hx hb dX10_next_275 rfl (lv_at hl 3 rfl) ?_
                  refine lv_dup hx hb dX10_next_276 rfl ?_
                  have n141 : F139 13 = .int u38 := (get_ne eF139 (by decide) n103)
                  refine get_f (D := D) (ci := 10) (v := .int u38) (C := RX10) (T := TX10) (N := 67) hx hb hw inAX10 hown hK hP 0 rfl rfl 13 (by decide) (hw _ q_1274) (fun _ h9 => h9) n141 dX10_next_277 ?_
                  refine lv_iconst (v := 1) hx hb dX10_next_280 (by decide) ?_
                  refine lv_iadd hx hb dX10_next_281 ?_
                  refine lv_topi (fun v142 ev142 => ?_)
                  have bv142 : v142.toInt = u38.toInt + 1 := by rw [ev142]; exact add_k rfl rfl k121 ⟨Int.le_refl _, Int.le_refl _⟩ (by decide)
                  have k143 : 1 ≤ v142.toInt ∧ v142.toInt ≤ 3 := add_r bv142 k121 ⟨Int.le_refl _, Int.le_refl _⟩ (by decide)
                  refine put_f (D := D) (ci := 10) (v := .int v142) (ty := .int) (C := RX10) (T := TX10) (N := 67) hx hb hw inAX10 tyX10 tyX10_ok nmX10 hown hK hP hD hS 0 rfl rfl 13 (by decide) (hw _ q_1274) (fun _ h9 => h9) rfl (by decide +kernel) rfl rfl dX10_next_282 (fun H locs F144 eF144 hP hD hS => ?_)
                  have hP : va_P D vwCl [(h0, .inr (10, vL 67 F144)), (h_tape, .inl (cB, 940, .inl f_tape))] H := hP
                  have hD : va_D A [(h0, .inr (10, vL 67 F144)), (h_tape, .inl (cB, 940, .inl f_tape))] := hD
                  refine lv_aload_n hx hb dX10_next_285 rfl (lv_at hl 3 rfl) ?_
                  refine lv_dup hx hb dX10_next_286 rfl ?_
                  have n145 : F139 4 = .int u37 := (get_ne eF139 (by decide) n132)
                  have n146 : F144 4 = .int u37 := (get_ne eF144 (by decide) n145)
                  refine get_f (D := D) (ci := 10) (v := .int u37) (C := RX10) (T := TX10) (N := 67) hx hb hw inAX10 hown hK hP 0 rfl rfl 4 (by decide) (hw _ q_1265) (fun _ h9 => h9) n146 dX10_next_287 ?_
                  refine lv_iconst (v := 1) hx hb dX10_next_290 (by decide) ?_
                  refine lv_iadd hx hb dX10_next_291 ?_
                  refine lv_topi (fun v147 ev147 => ?_)
                  have bv147 : v147.toInt = u37.toInt + 1 := by rw [ev147]; exact add_k rfl rfl i86 ⟨Int.le_refl _, Int.le_refl _⟩ (by decide)
                  have k148 : 1 ≤ v147.toInt ∧ v147.toInt ≤ 941 := add_r bv147 i86 ⟨Int.le_refl _, Int.le_refl _⟩ (by decide)
                  refine put_f (D := D) (ci := 10) (v := .int v147) (ty := .int) (C := RX10) (T := TX10) (N := 67) hx hb hw inAX10 tyX10 tyX10_ok nmX10 hown hK hP hD hS 0 rfl rfl 4 (by decide) (hw _ q_1265) (fun _ h9 => h9) rfl (by decide +kernel) rfl rfl dX10_next_292 (fun H locs F149 eF149 hP hD hS => ?_)
                  have hP : va_P D vwCl [(h0, .inr (10, vL 67 F149)), (h_tape, .inl (cB, 940, .inl f_tape))] H := hP
                  have hD : va_D A [(h0, .inr (10, vL 67 F149)), (h_tape, .inl (cB, 940, .inl f_tape))] := hD
                  refine lv_goto (tgt := 181) hx hb dX10_next_295 (by decide) ?_
                  have n150 : F149 13 = .int v142 := (get_ne eF149 (by decide) (get_eq eF144))
                  have n151 : F144 14 = .int v138 := (get_ne eF144 (by decide) (get_eq eF139))
                  have n152 : F149 14 = .int v138 := (get_ne eF149 (by decide) n151)
                  have n153 : F139 18 = .long u98 := (get_ne eF139 (by decide) i101)
                  have n154 : F144 18 = .long u98 := (get_ne eF144 (by decide) n153)
                  have n155 : F149 18 = .long u98 := (get_ne eF149 (by decide) n154)
                  exact ih (u93, F149, v147, v142, v138, u98) ⟨i95, (SAME.up eF149 (SAME.up eF144 (SAME.up eF139 (SAME.tr (SAME.tr SAME.rf i81 (by decide)) i100 (by decide)) (by decide)) (by decide)) (by decide)), (get_eq eF149), n150, n152, n155, (show 0 ≤ v147.toInt ∧ v147.toInt ≤ 940 from ⟨by omega, by omega⟩), (ir_wk k143 (by decide) (by decide)), (by show u2.toInt + v142.toInt = v147.toInt ∧ 0 ≤ v142.toInt; omega), (show RRM f_tape x_size.toInt u2.toInt v147.toInt u28.toInt u93.toInt v142.toInt u98.toInt v138.toInt from (RRM.step2 i89 i91 i92 (by omega) i96 i102 h140 (by omega) (by omega)))⟩ (by show (x_size.toInt - v147.toInt).toNat < (x_size.toInt - u37.toInt).toNat; omega) _ _ _ hP hD hS (lv_sub hl [0, 1, 2, 3] rfl)
              refine lv_aload_n hx hb dX10_next_222 rfl (lv_at hl 3 rfl) ?_
              refine get_f (D := D) (ci := 10) (v := .int u38) (C := RX10) (T := TX10) (N := 67) hx hb hw inAX10 hown hK hP 0 rfl rfl 13 (by decide) (hw _ q_1274) (fun _ h9 => h9) i83 dX10_next_223 ?_
              refine lv_bipush (v := 7) hx hb dX10_next_226 (by decide) ?_
              refine lv_icmp_ge (tgt := 248) hx hb dX10_next_228 (by decide) (fun c156 => ?_) (fun c156 => ?_)
              · have dc156 : 7 ≤ u38.toInt := le_i (a := 7) (b := u38.toInt) rfl rfl c156
                have k157 : 7 ≤ u38.toInt ∧ u38.toInt ≤ 940 := ⟨Int.le_trans (Int.le_refl _) dc156, i87.2⟩
                exact cut99 G36 u40 SAME.rf i85 (WDF.no (by omega)) _ _ _ hP hD hS (lv_sub hl [0, 1, 2, 3] rfl)
              · have dc156 : u38.toInt < 7 := nle_i (a := 7) (b := u38.toInt) rfl rfl c156
                have k158 : 0 ≤ u38.toInt ∧ u38.toInt ≤ 6 := ⟨i87.1, up_lt dc156 (Int.le_refl _) (by decide)⟩
                refine lv_aload_n hx hb dX10_next_231 rfl (lv_at hl 3 rfl) ?_
                refine lv_aload_n hx hb dX10_next_232 rfl (lv_at hl 3 rfl) ?_
                refine get_f (D := D) (ci := 10) (v := .long u40) (C := RX10) (T := TX10) (N := 67) hx hb hw inAX10 hown hK hP 0 rfl rfl 18 (by decide) (hw _ q_1279) (fun _ h9 => h9) i85 dX10_next_233 ?_
                refine lv_bipush (v := 8) hx hb dX10_next_236 (by decide) ?_
                obtain ⟨v159, ev159⟩ : ∃ z : Int64, (u40 : Int64) <<< ((8 : Int32).toInt64 &&& 63) = z := ⟨_, rfl⟩
                refine lv_lshl (v := v159) hx hb dX10_next_238 ev159 ?_
                refine lv_aload_n hx hb dX10_next_239 rfl (lv_at hl 3 rfl) ?_
                have n160 : F33 1 = .ref h_tape := (get_ne eF33 (by decide) n16)
                have n161 : F34 1 = .ref h_tape := (get_ne eF34 (by decide) n160)
                have n162 : G36 1 = .ref h_tape := (SAME.at i81 (by decide) n161)
                have n163 : F33 3 = .int x_size := (get_ne eF33 (by decide) n19)
                have n164 : F34 3 = .int x_size := (get_ne eF34 (by decide) n163)
                have n165 : G36 3 = .int x_size := (SAME.at i81 (by decide) n164)
                refine call_Vi (wr := []) (As := []) (rest := [.long v159, .ref h0]) hx hb hml hown hw (m_X10_peek l D cI cJ cB cP cM cZ h0 h_tape G36 x_size u37 f_tape _ n162 n165 i_x_size i82 i86) wV_X10_169_X10_peek dX10_next_240 hK hP hD hS hA [0, 1] [] rfl rfl (by decide) (by decide) (by decide) 0 10 rfl rfl GG.fb hG.at hl.1 rfl (Nat.le_of_ble_eq_true rfl) ⟨(Nat.le_of_ble_eq_true rfl), (Nat.le_of_ble_eq_true rfl)⟩ ⟨(Nat.le_of_ble_eq_true rfl), (Nat.le_of_ble_eq_true rfl)⟩ (fun r166 u H locs hp hP hD hS => ?_)
                obtain ⟨t167, t168, rfl⟩ := hp
                have hP : va_P D vwCl [(h0, .inr (10, vL 67 G36)), (h_tape, .inl (cB, 940, .inl f_tape))] H := hP
                have hD : va_D A [(h0, .inr (10, vL 67 G36)), (h_tape, .inl (cB, 940, .inl f_tape))] := hD
                refine W.widen (k := 0) (n := 0) (Nat.le_of_ble_eq_true rfl) (Nat.le_of_ble_eq_true rfl) ?_
                replace t168 := look_in t168 i91
                obtain ⟨v170, ev170⟩ : ∃ z : Int64, (r166 : Int32).toInt64 = z := ⟨_, rfl⟩
                refine lv_i2l (v := v170) hx hb dX10_next_243 ev170 ?_
                refine lv_lor hx hb dX10_next_244 ?_
                refine lv_topl (fun v171 ev171 => ?_)
                refine put_f (D := D) (ci := 10) (v := .long v171) (ty := .long) (C := RX10) (T := TX10) (N := 67) hx hb hw inAX10 tyX10 tyX10_ok nmX10 hown hK hP hD hS 0 rfl rfl 18 (by decide) (hw _ q_1279) (fun _ h9 => h9) rfl (by decide +kernel) rfl rfl dX10_next_245 (fun H locs F172 eF172 hP hD hS => ?_)
                have hP : va_P D vwCl [(h0, .inr (10, vL 67 F172)), (h_tape, .inl (cB, 940, .inl f_tape))] H := hP
                have hD : va_D A [(h0, .inr (10, vL 67 F172)), (h_tape, .inl (cB, 940, .inl f_tape))] := hD
                exact cut99 F172 v171 (SAME.up eF172 SAME.rf (by decide)) (get_eq eF172) (WDF.st (by rw [ev171, ← ev159, ← ev170]) t168 (tb_255 _ _)) _ _ _ hP hD hS (lv_sub hl [0, 1, 2, 3] rfl)
            refine lv_iload_n hx hb dX10_next_201 rfl (lv_at hl 0 rfl) ?_
            refine lv_if_eq (tgt := 220) hx hb dX10_next_202 (by decide) (fun c173 => ?_) (fun c173 => ?_)
            · have dc173 : u35.toInt = 0 := eq_i (a := u35.toInt) (b := 0) rfl rfl c173
              have k174 : 0 ≤ u35.toInt ∧ u35.toInt ≤ 0 := ⟨i80.1, Int.le_trans (Int.le_of_eq dc173) (Int.le_refl _)⟩
              refine lv_iconst (v := 0) hx hb dX10_next_220 (by decide) ?_
              refine lv_istore_n (lv' := [(3, .int 0), (2, .int u28), (1, .int r22), (0, .ref h0)]) hx hb dX10_next_221 rfl hl (by decide) rfl (fun ls hl => ?_)
              exact cut94 0 (show 0 ≤ (0 : Int32).toInt ∧ (0 : Int32).toInt ≤ 1 by decide) (ALF.o (by omega) (by decide)) _ _ _ hP hD hS (lv_sub hl [0, 1, 2, 3] rfl)
            · have dc173 : u35.toInt ≠ 0 := ne_i (a := u35.toInt) (b := 0) rfl rfl c173
              have k175 : 1 ≤ u35.toInt ∧ u35.toInt ≤ 1 := ⟨ne_lo dc173 i80.1 ⟨Int.le_refl _, Int.le_refl _⟩ (by decide), i80.2⟩
              refine lv_aload_n hx hb dX10_next_205 rfl (lv_at hl 3 rfl) ?_
              have n176 : F33 1 = .ref h_tape := (get_ne eF33 (by decide) n16)
              have n177 : F34 1 = .ref h_tape := (get_ne eF34 (by decide) n176)
              have n178 : G36 1 = .ref h_tape := (SAME.at i81 (by decide) n177)
              have n179 : F33 3 = .int x_size := (get_ne eF33 (by decide) n19)
              have n180 : F34 3 = .int x_size := (get_ne eF34 (by decide) n179)
              have n181 : G36 3 = .int x_size := (SAME.at i81 (by decide) n180)
              refine call_Vi (wr := []) (As := []) (rest := []) hx hb hml hown hw (m_X10_peek l D cI cJ cB cP cM cZ h0 h_tape G36 x_size u37 f_tape _ n178 n181 i_x_size i82 i86) wV_X10_169_X10_peek dX10_next_206 hK hP hD hS hA [0, 1] [] rfl rfl (by decide) (by decide) (by decide) 0 10 rfl rfl GG.fb hG.at hl.1 rfl (Nat.le_of_ble_eq_true rfl) ⟨(Nat.le_of_ble_eq_true rfl), (Nat.le_of_ble_eq_true rfl)⟩ ⟨(Nat.le_of_ble_eq_true rfl), (Nat.le_of_ble_eq_true rfl)⟩ (fun r182 u H locs hp hP hD hS => ?_)
              obtain ⟨t183, t184, rfl⟩ := hp
              have hP : va_P D vwCl [(h0, .inr (10, vL 67 G36)), (h_tape, .inl (cB, 940, .inl f_tape))] H := hP
              have hD : va_D A [(h0, .inr (10, vL 67 G36)), (h_tape, .inl (cB, 940, .inl f_tape))] := hD
              refine W.widen (k := 0) (n := 0) (Nat.le_of_ble_eq_true rfl) (Nat.le_of_ble_eq_true rfl) ?_
              replace t184 := look_in t184 i91
              refine call_Si (wr := [(h0, .inr (10, vL 67 G36)), (h_tape, .inl (cB, 940, .inl f_tape))]) (As := [.int r182]) (rest := []) hx hb hml hown hw (m_X10_isSmall l D cI cJ cB cP cM cZ r182 _ ) wS_X10_182_X10_isSmall dX10_next_209 hP hD hS hA [] [0, 1] rfl rfl (by decide) (by decide) (by decide) GG.fb hG.at hl.1 rfl (Nat.le_of_ble_eq_true rfl) ⟨(Nat.le_of_ble_eq_true rfl), (Nat.le_of_ble_eq_true rfl)⟩ ⟨(Nat.le_of_ble_eq_true rfl), (Nat.le_of_ble_eq_true rfl)⟩ (fun r186 u H locs hp hP hD hS => ?_)
              obtain ⟨t187, t188, rfl⟩ := hp
              have hP : va_P D vwCl [(h0, .inr (10, vL 67 G36)), (h_tape, .inl (cB, 940, .inl f_tape))] H := hP
              have hD : va_D A [(h0, .inr (10, vL 67 G36)), (h_tape, .inl (cB, 940, .inl f_tape))] := hD
              refine W.widen (k := 0) (n := 0) (Nat.le_of_ble_eq_true rfl) (Nat.le_of_ble_eq_true rfl) ?_
              refine lv_iload_n hx hb dX10_next_212 rfl (lv_at hl 1 rfl) ?_
              refine lv_icmp_ne (tgt := 220) hx hb dX10_next_213 (by decide) (fun c190 => ?_) (fun c190 => ?_)
              · have dc190 : r186.toInt ≠ u28.toInt := ne_i (a := r186.toInt) (b := u28.toInt) rfl rfl c190
                refine lv_iconst (v := 0) hx hb dX10_next_220 (by decide) ?_
                refine lv_istore_n (lv' := [(3, .int 0), (2, .int u28), (1, .int r22), (0, .ref h0)]) hx hb dX10_next_221 rfl hl (by decide) rfl (fun ls hl => ?_)
                exact cut94 0 (show 0 ≤ (0 : Int32).toInt ∧ (0 : Int32).toInt ≤ 1 by decide) (ALF.ne (by omega) i92 t184 t188 (by omega) (by omega) (by decide)) _ _ _ hP hD hS (lv_sub hl [0, 1, 2, 3] rfl)
              · have dc190 : r186.toInt = u28.toInt := eq_i (a := r186.toInt) (b := u28.toInt) rfl rfl c190
                refine lv_iconst (v := 1) hx hb dX10_next_216 (by decide) ?_
                refine lv_goto (tgt := 221) hx hb dX10_next_217 (by decide) ?_
                refine lv_istore_n (lv' := [(3, .int 1), (2, .int u28), (1, .int r22), (0, .ref h0)]) hx hb dX10_next_221 rfl hl (by decide) rfl (fun ls hl => ?_)
                exact cut94 1 (show 0 ≤ (1 : Int32).toInt ∧ (1 : Int32).toInt ≤ 1 by decide) (ALF.eq (by omega) i92 t184 t188 (by omega) (by decide)) _ _ _ hP hD hS (lv_sub hl [0, 1, 2, 3] rfl)
          refine lv_aload_n hx hb dX10_next_181 rfl (lv_at hl 3 rfl) ?_
          have n191 : F33 1 = .ref h_tape := (get_ne eF33 (by decide) n16)
          have n192 : F34 1 = .ref h_tape := (get_ne eF34 (by decide) n191)
          have n193 : G36 1 = .ref h_tape := (SAME.at i81 (by decide) n192)
          have n194 : F33 3 = .int x_size := (get_ne eF33 (by decide) n19)
          have n195 : F34 3 = .int x_size := (get_ne eF34 (by decide) n194)
          have n196 : G36 3 = .int x_size := (SAME.at i81 (by decide) n195)
          refine call_Vi (wr := []) (As := []) (rest := []) hx hb hml hown hw (m_X10_peek l D cI cJ cB cP cM cZ h0 h_tape G36 x_size u37 f_tape _ n193 n196 i_x_size i82 i86) wV_X10_169_X10_peek dX10_next_182 hK hP hD hS hA [0, 1] [] rfl rfl (by decide) (by decide) (by decide) 0 10 rfl rfl GG.fb hG.at hl.1 rfl (Nat.le_of_ble_eq_true rfl) ⟨(Nat.le_of_ble_eq_true rfl), (Nat.le_of_ble_eq_true rfl)⟩ ⟨(Nat.le_of_ble_eq_true rfl), (Nat.le_of_ble_eq_true rfl)⟩ (fun r197 u H locs hp hP hD hS => ?_)
          obtain ⟨t198, t199, rfl⟩ := hp
          have hP : va_P D vwCl [(h0, .inr (10, vL 67 G36)), (h_tape, .inl (cB, 940, .inl f_tape))] H := hP
          have hD : va_D A [(h0, .inr (10, vL 67 G36)), (h_tape, .inl (cB, 940, .inl f_tape))] := hD
          refine W.widen (k := 0) (n := 0) (Nat.le_of_ble_eq_true rfl) (Nat.le_of_ble_eq_true rfl) ?_
          refine call_Si (wr := [(h0, .inr (10, vL 67 G36)), (h_tape, .inl (cB, 940, .inl f_tape))]) (As := [.int r197]) (rest := []) hx hb hml hown hw (m_X10_isSmall l D cI cJ cB cP cM cZ r197 _ ) wS_X10_182_X10_isSmall dX10_next_185 hP hD hS hA [] [0, 1] rfl rfl (by decide) (by decide) (by decide) GG.fb hG.at hl.1 rfl (Nat.le_of_ble_eq_true rfl) ⟨(Nat.le_of_ble_eq_true rfl), (Nat.le_of_ble_eq_true rfl)⟩ ⟨(Nat.le_of_ble_eq_true rfl), (Nat.le_of_ble_eq_true rfl)⟩ (fun r201 u H locs hp hP hD hS => ?_)
          obtain ⟨t202, t203, rfl⟩ := hp
          have hP : va_P D vwCl [(h0, .inr (10, vL 67 G36)), (h_tape, .inl (cB, 940, .inl f_tape))] H := hP
          have hD : va_D A [(h0, .inr (10, vL 67 G36)), (h_tape, .inl (cB, 940, .inl f_tape))] := hD
          refine W.widen (k := 0) (n := 0) (Nat.le_of_ble_eq_true rfl) (Nat.le_of_ble_eq_true rfl) ?_
          refine lv_if_ne (tgt := 201) hx hb dX10_next_188 (by decide) (fun c205 => ?_) (fun c205 => ?_)
          · have dc205 : r201.toInt ≠ 0 := ne_i (a := r201.toInt) (b := 0) rfl rfl c205
            have k206 : 1 ≤ r201.toInt ∧ r201.toInt ≤ 1 := ⟨ne_lo dc205 t202.1 ⟨Int.le_refl _, Int.le_refl _⟩ (by decide), t202.2⟩
            exact cut90 (chi_s t199 t203 (by omega)).1 (lds_s (chi_s t199 t203 (by omega)).2) _ _ _ hP hD hS (lv_sub hl [0, 1, 2, 3] rfl)
          · have dc205 : r201.toInt = 0 := eq_i (a := r201.toInt) (b := 0) rfl rfl c205
            have k207 : 0 ≤ r201.toInt ∧ r201.toInt ≤ 0 := ⟨t202.1, Int.le_trans (Int.le_of_eq dc205) (Int.le_refl _)⟩
            refine lv_aload_n hx hb dX10_next_191 rfl (lv_at hl 3 rfl) ?_
            refine call_Vi (wr := []) (As := []) (rest := []) hx hb hml hown hw (m_X10_peek l D cI cJ cB cP cM cZ h0 h_tape G36 x_size u37 f_tape _ n193 n196 i_x_size i82 i86) wV_X10_169_X10_peek dX10_next_192 hK hP hD hS hA [0, 1] [] rfl rfl (by decide) (by decide) (by decide) 0 10 rfl rfl GG.fb hG.at hl.1 rfl (Nat.le_of_ble_eq_true rfl) ⟨(Nat.le_of_ble_eq_true rfl), (Nat.le_of_ble_eq_true rfl)⟩ ⟨(Nat.le_of_ble_eq_true rfl), (Nat.le_of_ble_eq_true rfl)⟩ (fun r208 u H locs hp hP hD hS => ?_)
            obtain ⟨t209, t210, rfl⟩ := hp
            have hP : va_P D vwCl [(h0, .inr (10, vL 67 G36)), (h_tape, .inl (cB, 940, .inl f_tape))] H := hP
            have hD : va_D A [(h0, .inr (10, vL 67 G36)), (h_tape, .inl (cB, 940, .inl f_tape))] := hD
            refine W.widen (k := 0) (n := 0) (Nat.le_of_ble_eq_true rfl) (Nat.le_of_ble_eq_true rfl) ?_
            refine call_Si (wr := [(h0, .inr (10, vL 67 G36)), (h_tape, .inl (cB, 940, .inl f_tape))]) (As := [.int r208]) (rest := []) hx hb hml hown hw (m_X10_isDigit l D cI cJ cB cP cM cZ r208 _ ) wS_X10_186_X10_isDigit dX10_next_195 hP hD hS hA [] [0, 1] rfl rfl (by decide) (by decide) (by decide) GG.fb hG.at hl.1 rfl (Nat.le_of_ble_eq_true rfl) ⟨(Nat.le_of_ble_eq_true rfl), (Nat.le_of_ble_eq_true rfl)⟩ ⟨(Nat.le_of_ble_eq_true rfl), (Nat.le_of_ble_eq_true rfl)⟩ (fun r212 u H locs hp hP hD hS => ?_)
            obtain ⟨t213, t214, rfl⟩ := hp
            have hP : va_P D vwCl [(h0, .inr (10, vL 67 G36)), (h_tape, .inl (cB, 940, .inl f_tape))] H := hP
            have hD : va_D A [(h0, .inr (10, vL 67 G36)), (h_tape, .inl (cB, 940, .inl f_tape))] := hD
            refine W.widen (k := 0) (n := 0) (Nat.le_of_ble_eq_true rfl) (Nat.le_of_ble_eq_true rfl) ?_
            refine lv_if_eq (tgt := 298) hx hb dX10_next_198 (by decide) (fun c216 => ?_) (fun c216 => ?_)
            · have dc216 : r212.toInt = 0 := eq_i (a := r212.toInt) (b := 0) rfl rfl c216
              have k217 : 0 ≤ r212.toInt ∧ r212.toInt ≤ 0 := ⟨t213.1, Int.le_trans (Int.le_of_eq dc216) (Int.le_refl _)⟩
              have hrx : RXF f_tape x_size.toInt u37.toInt := rx_of t199 t203 (by omega) t210 t214 (by omega)
              exact cut41 u35 G36 u37 u38 u39 u40 i80 (SAME.tr SAME.rf i81 (by decide)) i82 i83 i84 i85 i86 i87 (by show u2.toInt + u38.toInt = u37.toInt ∧ 0 ≤ u38.toInt; omega) (show RRM f_tape x_size.toInt u2.toInt u37.toInt u28.toInt u35.toInt u38.toInt u40.toInt u39.toInt from i89) (show RXF f_tape x_size.toInt u37.toInt from hrx) (show 1 ≤ u38.toInt from (sp1_of h32 t24.1 (by omega) (by omega) hrx)) _ _ _ hP hD hS (lv_sub hl [0, 1, 2, 3] rfl)
            · have dc216 : r212.toInt ≠ 0 := ne_i (a := r212.toInt) (b := 0) rfl rfl c216
              have k218 : 1 ≤ r212.toInt ∧ r212.toInt ≤ 1 := ⟨ne_lo dc216 t213.1 ⟨Int.le_refl _, Int.le_refl _⟩ (by decide), t213.2⟩
              exact cut90 (chi_d t210 t214 (by omega)).1 (lds_d (chi_d t210 t214 (by omega)).2) _ _ _ hP hD hS (lv_sub hl [0, 1, 2, 3] rfl)
        refine lv_iload_n hx hb dX10_next_95 rfl (lv_at hl 0 rfl) ?_
        refine call_Si (wr := [(h0, .inr (10, vL 67 F11)), (h_tape, .inl (cB, 940, .inl f_tape))]) (As := [.int r22]) (rest := []) hx hb hml hown hw (m_X10_isSmall l D cI cJ cB cP cM cZ r22 _ ) wS_X10_182_X10_isSmall dX10_next_96 hP hD hS hA [] [0, 1] rfl rfl (by decide) (by decide) (by decide) GG.fb hG.at hl.1 rfl (Nat.le_of_ble_eq_true rfl) ⟨(Nat.le_of_ble_eq_true rfl), (Nat.le_of_ble_eq_true rfl)⟩ ⟨(Nat.le_of_ble_eq_true rfl), (Nat.le_of_ble_eq_true rfl)⟩ (fun r219 u H locs hp hP hD hS => ?_)
        obtain ⟨t220, t221, rfl⟩ := hp
        have hP : va_P D vwCl [(h0, .inr (10, vL 67 F11)), (h_tape, .inl (cB, 940, .inl f_tape))] H := hP
        have hD : va_D A [(h0, .inr (10, vL 67 F11)), (h_tape, .inl (cB, 940, .inl f_tape))] := hD
        refine W.widen (k := 0) (n := 0) (Nat.le_of_ble_eq_true rfl) (Nat.le_of_ble_eq_true rfl) ?_
        refine lv_if_ne (tgt := 164) hx hb dX10_next_99 (by decide) (fun c223 => ?_) (fun c223 => ?_)
        · have dc223 : r219.toInt ≠ 0 := ne_i (a := r219.toInt) (b := 0) rfl rfl c223
          have k224 : 1 ≤ r219.toInt ∧ r219.toInt ≤ 1 := ⟨ne_lo dc223 t220.1 ⟨Int.le_refl _, Int.le_refl _⟩ (by decide), t220.2⟩
          refine lv_iload_n hx hb dX10_next_164 rfl (lv_at hl 0 rfl) ?_
          refine call_Si (wr := [(h0, .inr (10, vL 67 F11)), (h_tape, .inl (cB, 940, .inl f_tape))]) (As := [.int r22]) (rest := []) hx hb hml hown hw (m_X10_isSmall l D cI cJ cB cP cM cZ r22 _ ) wS_X10_182_X10_isSmall dX10_next_165 hP hD hS hA [] [0, 1] rfl rfl (by decide) (by decide) (by decide) GG.fb hG.at hl.1 rfl (Nat.le_of_ble_eq_true rfl) ⟨(Nat.le_of_ble_eq_true rfl), (Nat.le_of_ble_eq_true rfl)⟩ ⟨(Nat.le_of_ble_eq_true rfl), (Nat.le_of_ble_eq_true rfl)⟩ (fun r225 u H locs hp hP hD hS => ?_)
          obtain ⟨t226, t227, rfl⟩ := hp
          have hP : va_P D vwCl [(h0, .inr (10, vL 67 F11)), (h_tape, .inl (cB, 940, .inl f_tape))] H := hP
          have hD : va_D A [(h0, .inr (10, vL 67 F11)), (h_tape, .inl (cB, 940, .inl f_tape))] := hD
          refine W.widen (k := 0) (n := 0) (Nat.le_of_ble_eq_true rfl) (Nat.le_of_ble_eq_true rfl) ?_
          refine lv_istore_n (lv' := [(2, .int r225), (1, .int r22), (0, .ref h0)]) hx hb dX10_next_168 rfl hl (by decide) rfl (fun ls hl => ?_)
          refine lv_iconst (v := 1) hx hb dX10_next_169 (by decide) ?_
          refine lv_istore_n (lv' := [(3, .int 1), (2, .int r225), (1, .int r22), (0, .ref h0)]) hx hb dX10_next_170 rfl hl (by decide) rfl (fun ls hl => ?_)
          exact cut29 r225 t226 (by show ((48 ≤ r22.toInt ∧ r22.toInt ≤ 57 ∧ r225.toInt = 0) ∨ (97 ≤ r22.toInt ∧ r22.toInt ≤ 122 ∧ r225.toInt = 1)); omega) _ _ _ hP hD hS (lv_sub hl [0, 1, 2, 3] rfl)
        · have dc223 : r219.toInt = 0 := eq_i (a := r219.toInt) (b := 0) rfl rfl c223
          have k229 : 0 ≤ r219.toInt ∧ r219.toInt ≤ 0 := ⟨t220.1, Int.le_trans (Int.le_of_eq dc223) (Int.le_refl _)⟩
          refine lv_iload_n hx hb dX10_next_102 rfl (lv_at hl 0 rfl) ?_
          refine call_Si (wr := [(h0, .inr (10, vL 67 F11)), (h_tape, .inl (cB, 940, .inl f_tape))]) (As := [.int r22]) (rest := []) hx hb hml hown hw (m_X10_isDigit l D cI cJ cB cP cM cZ r22 _ ) wS_X10_186_X10_isDigit dX10_next_103 hP hD hS hA [] [0, 1] rfl rfl (by decide) (by decide) (by decide) GG.fb hG.at hl.1 rfl (Nat.le_of_ble_eq_true rfl) ⟨(Nat.le_of_ble_eq_true rfl), (Nat.le_of_ble_eq_true rfl)⟩ ⟨(Nat.le_of_ble_eq_true rfl), (Nat.le_of_ble_eq_true rfl)⟩ (fun r230 u H locs hp hP hD hS => ?_)
          obtain ⟨t231, t232, rfl⟩ := hp
          have hP : va_P D vwCl [(h0, .inr (10, vL 67 F11)), (h_tape, .inl (cB, 940, .inl f_tape))] H := hP
          have hD : va_D A [(h0, .inr (10, vL 67 F11)), (h_tape, .inl (cB, 940, .inl f_tape))] := hD
          refine W.widen (k := 0) (n := 0) (Nat.le_of_ble_eq_true rfl) (Nat.le_of_ble_eq_true rfl) ?_
          refine lv_if_ne (tgt := 164) hx hb dX10_next_106 (by decide) (fun c234 => ?_) (fun c234 => ?_)
          · have dc234 : r230.toInt ≠ 0 := ne_i (a := r230.toInt) (b := 0) rfl rfl c234
            have k235 : 1 ≤ r230.toInt ∧ r230.toInt ≤ 1 := ⟨ne_lo dc234 t231.1 ⟨Int.le_refl _, Int.le_refl _⟩ (by decide), t231.2⟩
            refine lv_iload_n hx hb dX10_next_164 rfl (lv_at hl 0 rfl) ?_
            refine call_Si (wr := [(h0, .inr (10, vL 67 F11)), (h_tape, .inl (cB, 940, .inl f_tape))]) (As := [.int r22]) (rest := []) hx hb hml hown hw (m_X10_isSmall l D cI cJ cB cP cM cZ r22 _ ) wS_X10_182_X10_isSmall dX10_next_165 hP hD hS hA [] [0, 1] rfl rfl (by decide) (by decide) (by decide) GG.fb hG.at hl.1 rfl (Nat.le_of_ble_eq_true rfl) ⟨(Nat.le_of_ble_eq_true rfl), (Nat.le_of_ble_eq_true rfl)⟩ ⟨(Nat.le_of_ble_eq_true rfl), (Nat.le_of_ble_eq_true rfl)⟩ (fun r236 u H locs hp hP hD hS => ?_)
            obtain ⟨t237, t238, rfl⟩ := hp
            have hP : va_P D vwCl [(h0, .inr (10, vL 67 F11)), (h_tape, .inl (cB, 940, .inl f_tape))] H := hP
            have hD : va_D A [(h0, .inr (10, vL 67 F11)), (h_tape, .inl (cB, 940, .inl f_tape))] := hD
            refine W.widen (k := 0) (n := 0) (Nat.le_of_ble_eq_true rfl) (Nat.le_of_ble_eq_true rfl) ?_
            refine lv_istore_n (lv' := [(2, .int r236), (1, .int r22), (0, .ref h0)]) hx hb dX10_next_168 rfl hl (by decide) rfl (fun ls hl => ?_)
            refine lv_iconst (v := 1) hx hb dX10_next_169 (by decide) ?_
            refine lv_istore_n (lv' := [(3, .int 1), (2, .int r236), (1, .int r22), (0, .ref h0)]) hx hb dX10_next_170 rfl hl (by decide) rfl (fun ls hl => ?_)
            exact cut29 r236 t237 (by show ((48 ≤ r22.toInt ∧ r22.toInt ≤ 57 ∧ r236.toInt = 0) ∨ (97 ≤ r22.toInt ∧ r22.toInt ≤ 122 ∧ r236.toInt = 1)); omega) _ _ _ hP hD hS (lv_sub hl [0, 1, 2, 3] rfl)
          · have dc234 : r230.toInt = 0 := eq_i (a := r230.toInt) (b := 0) rfl rfl c234
            have k240 : 0 ≤ r230.toInt ∧ r230.toInt ≤ 0 := ⟨t231.1, Int.le_trans (Int.le_of_eq dc234) (Int.le_refl _)⟩
            refine lv_aload_n hx hb dX10_next_109 rfl (lv_at hl 1 rfl) ?_
            refine lv_iload_n hx hb dX10_next_110 rfl (lv_at hl 0 rfl) ?_
            refine lv_bipush (v := 59) hx hb dX10_next_111 (by decide) ?_
            refine lv_icmp_eq (tgt := 140) hx hb dX10_next_113 (by decide) (fun c241 => ?_) (fun c241 => ?_)
            · have dc241 : r22.toInt = 59 := eq_i (a := r22.toInt) (b := 59) rfl rfl c241
              have k242 : 59 ≤ r22.toInt ∧ r22.toInt ≤ 59 := ⟨Int.le_trans (Int.le_refl _) (Int.le_of_eq dc241.symm), Int.le_trans (Int.le_of_eq dc241) (Int.le_refl _)⟩
              refine lv_iconst (v := 3) hx hb dX10_next_140 (by decide) ?_
              refine lv_goto (tgt := 145) hx hb dX10_next_141 (by decide) ?_
              refine put_f (D := D) (ci := 10) (v := .int 3) (ty := .int) (C := RX10) (T := TX10) (N := 67) hx hb hw inAX10 tyX10 tyX10_ok nmX10 hown hK hP hD hS 0 rfl rfl 11 (by decide) (hw _ q_1272) (fun _ h9 => h9) rfl (by decide +kernel) rfl rfl dX10_next_145 (fun H locs F243 eF243 hP hD hS => ?_)
              have hP : va_P D vwCl [(h0, .inr (10, vL 67 F243)), (h_tape, .inl (cB, 940, .inl f_tape))] H := hP
              have hD : va_D A [(h0, .inr (10, vL 67 F243)), (h_tape, .inl (cB, 940, .inl f_tape))] := hD
              refine lv_aload_n hx hb dX10_next_148 rfl (lv_at hl 1 rfl) ?_
              refine lv_iload_n hx hb dX10_next_149 rfl (lv_at hl 0 rfl) ?_
              refine put_f (D := D) (ci := 10) (v := .int r22) (ty := .int) (C := RX10) (T := TX10) (N := 67) hx hb hw inAX10 tyX10 tyX10_ok nmX10 hown hK hP hD hS 0 rfl rfl 14 (by decide) (hw _ q_1275) (fun _ h9 => h9) rfl (by decide +kernel) rfl rfl dX10_next_150 (fun H locs F244 eF244 hP hD hS => ?_)
              have hP : va_P D vwCl [(h0, .inr (10, vL 67 F244)), (h_tape, .inl (cB, 940, .inl f_tape))] H := hP
              have hD : va_D A [(h0, .inr (10, vL 67 F244)), (h_tape, .inl (cB, 940, .inl f_tape))] := hD
              refine lv_aload_n hx hb dX10_next_153 rfl (lv_at hl 1 rfl) ?_
              refine lv_dup hx hb dX10_next_154 rfl ?_
              have n245 : F243 4 = .int u2 := (get_ne eF243 (by decide) n21)
              have n246 : F244 4 = .int u2 := (get_ne eF244 (by decide) n245)
              refine get_f (D := D) (ci := 10) (v := .int u2) (C := RX10) (T := TX10) (N := 67) hx hb hw inAX10 hown hK hP 0 rfl rfl 4 (by decide) (hw _ q_1265) (fun _ h9 => h9) n246 dX10_next_155 ?_
              refine lv_iconst (v := 1) hx hb dX10_next_158 (by decide) ?_
              refine lv_iadd hx hb dX10_next_159 ?_
              refine lv_topi (fun v247 ev247 => ?_)
              have bv247 : v247.toInt = u2.toInt + 1 := by rw [ev247]; exact add_k rfl rfl i6 ⟨Int.le_refl _, Int.le_refl _⟩ (by decide)
              have k248 : 1 ≤ v247.toInt ∧ v247.toInt ≤ 941 := add_r bv247 i6 ⟨Int.le_refl _, Int.le_refl _⟩ (by decide)
              refine put_f (D := D) (ci := 10) (v := .int v247) (ty := .int) (C := RX10) (T := TX10) (N := 67) hx hb hw inAX10 tyX10 tyX10_ok nmX10 hown hK hP hD hS 0 rfl rfl 4 (by decide) (hw _ q_1265) (fun _ h9 => h9) rfl (by decide +kernel) rfl rfl dX10_next_160 (fun H locs F249 eF249 hP hD hS => ?_)
              have hP : va_P D vwCl [(h0, .inr (10, vL 67 F249)), (h_tape, .inl (cB, 940, .inl f_tape))] H := hP
              have hD : va_D A [(h0, .inr (10, vL 67 F249)), (h_tape, .inl (cB, 940, .inl f_tape))] := hD
              exact ret_v hx hb hr hlocks hS hP hD dX10_next_163 (Nat.le_of_ble_eq_true rfl) (Nat.le_of_ble_eq_true rfl) ⟨F249, v247, 3, u2, 0, r22, x_word, (SAME.up eF249 (SAME.up eF244 (SAME.up eF243 (SAME.up eF11 (SAME.up eF10 (SAME.tr SAME.rf i4 (by decide)) (by decide)) (by decide)) (by decide)) (by decide)) (by decide)), (get_eq eF249), (show 0 ≤ v247.toInt ∧ v247.toInt ≤ 940 from ⟨by omega, by omega⟩), (get_ne eF249 (by decide) (get_ne eF244 (by decide) (get_eq eF243))), (show 0 ≤ (3 : Int32).toInt ∧ (3 : Int32).toInt ≤ 4 by decide), (get_ne eF249 (by decide) (get_ne eF244 (by decide) (get_ne eF243 (by decide) (get_ne eF11 (by decide) (get_eq eF10))))), i6, (get_ne eF249 (by decide) (get_ne eF244 (by decide) (get_ne eF243 (by decide) (get_eq eF11)))), (show 0 ≤ (0 : Int32).toInt ∧ (0 : Int32).toInt ≤ 940 by decide), (get_ne eF249 (by decide) (get_eq eF244)), (get_ne eF249 (by decide) (get_ne eF244 (by decide) (get_ne eF243 (by decide) (get_ne eF11 (by decide) (get_ne eF10 (by decide) (SAME.at i4 (by decide) e_word)))))), (by have zl0 : (0 : Int32).toInt = 0 := (by decide); have zl3 : (3 : Int32).toInt = 3 := (by decide); omega), (by have zl0 : (0 : Int32).toInt = 0 := (by decide); have zl3 : (3 : Int32).toInt = 3 := (by decide); omega), (nx_sign (u := u2.toInt) i8 i9 (by omega) (by omega) (by decide) (by omega) (by omega) rfl (by omega) i13 (by omega)), (fun q => absurd q (by decide)), (by have zl0 : (0 : Int32).toInt = 0 := (by decide); have zl3 : (3 : Int32).toInt = 3 := (by decide); omega), rfl⟩
            · have dc241 : r22.toInt ≠ 59 := ne_i (a := r22.toInt) (b := 59) rfl rfl c241
              refine lv_iload_n hx hb dX10_next_116 rfl (lv_at hl 0 rfl) ?_
              refine lv_bipush (v := 40) hx hb dX10_next_117 (by decide) ?_
              refine lv_icmp_eq (tgt := 140) hx hb dX10_next_119 (by decide) (fun c250 => ?_) (fun c250 => ?_)
              · have dc250 : r22.toInt = 40 := eq_i (a := r22.toInt) (b := 40) rfl rfl c250
                have k251 : 40 ≤ r22.toInt ∧ r22.toInt ≤ 40 := ⟨Int.le_trans (Int.le_refl _) (Int.le_of_eq dc250.symm), Int.le_trans (Int.le_of_eq dc250) (Int.le_refl _)⟩
                refine lv_iconst (v := 3) hx hb dX10_next_140 (by decide) ?_
                refine lv_goto (tgt := 145) hx hb dX10_next_141 (by decide) ?_
                refine put_f (D := D) (ci := 10) (v := .int 3) (ty := .int) (C := RX10) (T := TX10) (N := 67) hx hb hw inAX10 tyX10 tyX10_ok nmX10 hown hK hP hD hS 0 rfl rfl 11 (by decide) (hw _ q_1272) (fun _ h9 => h9) rfl (by decide +kernel) rfl rfl dX10_next_145 (fun H locs F252 eF252 hP hD hS => ?_)
                have hP : va_P D vwCl [(h0, .inr (10, vL 67 F252)), (h_tape, .inl (cB, 940, .inl f_tape))] H := hP
                have hD : va_D A [(h0, .inr (10, vL 67 F252)), (h_tape, .inl (cB, 940, .inl f_tape))] := hD
                refine lv_aload_n hx hb dX10_next_148 rfl (lv_at hl 1 rfl) ?_
                refine lv_iload_n hx hb dX10_next_149 rfl (lv_at hl 0 rfl) ?_
                refine put_f (D := D) (ci := 10) (v := .int r22) (ty := .int) (C := RX10) (T := TX10) (N := 67) hx hb hw inAX10 tyX10 tyX10_ok nmX10 hown hK hP hD hS 0 rfl rfl 14 (by decide) (hw _ q_1275) (fun _ h9 => h9) rfl (by decide +kernel) rfl rfl dX10_next_150 (fun H locs F253 eF253 hP hD hS => ?_)
                have hP : va_P D vwCl [(h0, .inr (10, vL 67 F253)), (h_tape, .inl (cB, 940, .inl f_tape))] H := hP
                have hD : va_D A [(h0, .inr (10, vL 67 F253)), (h_tape, .inl (cB, 940, .inl f_tape))] := hD
                refine lv_aload_n hx hb dX10_next_153 rfl (lv_at hl 1 rfl) ?_
                refine lv_dup hx hb dX10_next_154 rfl ?_
                have n254 : F252 4 = .int u2 := (get_ne eF252 (by decide) n21)
                have n255 : F253 4 = .int u2 := (get_ne eF253 (by decide) n254)
                refine get_f (D := D) (ci := 10) (v := .int u2) (C := RX10) (T := TX10) (N := 67) hx hb hw inAX10 hown hK hP 0 rfl rfl 4 (by decide) (hw _ q_1265) (fun _ h9 => h9) n255 dX10_next_155 ?_
                refine lv_iconst (v := 1) hx hb dX10_next_158 (by decide) ?_
                refine lv_iadd hx hb dX10_next_159 ?_
                refine lv_topi (fun v256 ev256 => ?_)
                have bv256 : v256.toInt = u2.toInt + 1 := by rw [ev256]; exact add_k rfl rfl i6 ⟨Int.le_refl _, Int.le_refl _⟩ (by decide)
                have k257 : 1 ≤ v256.toInt ∧ v256.toInt ≤ 941 := add_r bv256 i6 ⟨Int.le_refl _, Int.le_refl _⟩ (by decide)
                refine put_f (D := D) (ci := 10) (v := .int v256) (ty := .int) (C := RX10) (T := TX10) (N := 67) hx hb hw inAX10 tyX10 tyX10_ok nmX10 hown hK hP hD hS 0 rfl rfl 4 (by decide) (hw _ q_1265) (fun _ h9 => h9) rfl (by decide +kernel) rfl rfl dX10_next_160 (fun H locs F258 eF258 hP hD hS => ?_)
                have hP : va_P D vwCl [(h0, .inr (10, vL 67 F258)), (h_tape, .inl (cB, 940, .inl f_tape))] H := hP
                have hD : va_D A [(h0, .inr (10, vL 67 F258)), (h_tape, .inl (cB, 940, .inl f_tape))] := hD
                exact ret_v hx hb hr hlocks hS hP hD dX10_next_163 (Nat.le_of_ble_eq_true rfl) (Nat.le_of_ble_eq_true rfl) ⟨F258, v256, 3, u2, 0, r22, x_word, (SAME.up eF258 (SAME.up eF253 (SAME.up eF252 (SAME.up eF11 (SAME.up eF10 (SAME.tr SAME.rf i4 (by decide)) (by decide)) (by decide)) (by decide)) (by decide)) (by decide)), (get_eq eF258), (show 0 ≤ v256.toInt ∧ v256.toInt ≤ 940 from ⟨by omega, by omega⟩), (get_ne eF258 (by decide) (get_ne eF253 (by decide) (get_eq eF252))), (show 0 ≤ (3 : Int32).toInt ∧ (3 : Int32).toInt ≤ 4 by decide), (get_ne eF258 (by decide) (get_ne eF253 (by decide) (get_ne eF252 (by decide) (get_ne eF11 (by decide) (get_eq eF10))))), i6, (get_ne eF258 (by decide) (get_ne eF253 (by decide) (get_ne eF252 (by decide) (get_eq eF11)))), (show 0 ≤ (0 : Int32).toInt ∧ (0 : Int32).toInt ≤ 940 by decide), (get_ne eF258 (by decide) (get_eq eF253)), (get_ne eF258 (by decide) (get_ne eF253 (by decide) (get_ne eF252 (by decide) (get_ne eF11 (by decide) (get_ne eF10 (by decide) (SAME.at i4 (by decide) e_word)))))), (by have zl0 : (0 : Int32).toInt = 0 := (by decide); have zl3 : (3 : Int32).toInt = 3 := (by decide); omega), (by have zl0 : (0 : Int32).toInt = 0 := (by decide); have zl3 : (3 : Int32).toInt = 3 := (by decide); omega), (nx_sign (u := u2.toInt) i8 i9 (by omega) (by omega) (by decide) (by omega) (by omega) rfl (by omega) i13 (by omega)), (fun q => absurd q (by decide)), (by have zl0 : (0 : Int32).toInt = 0 := (by decide); have zl3 : (3 : Int32).toInt = 3 := (by decide); omega), rfl⟩
              · have dc250 : r22.toInt ≠ 40 := ne_i (a := r22.toInt) (b := 40) rfl rfl c250
                refine lv_iload_n hx hb dX10_next_122 rfl (lv_at hl 0 rfl) ?_
                refine lv_bipush (v := 41) hx hb dX10_next_123 (by decide) ?_
                refine lv_icmp_eq (tgt := 140) hx hb dX10_next_125 (by decide) (fun c259 => ?_) (fun c259 => ?_)
                · have dc259 : r22.toInt = 41 := eq_i (a := r22.toInt) (b := 41) rfl rfl c259
                  have k260 : 41 ≤ r22.toInt ∧ r22.toInt ≤ 41 := ⟨Int.le_trans (Int.le_refl _) (Int.le_of_eq dc259.symm), Int.le_trans (Int.le_of_eq dc259) (Int.le_refl _)⟩
                  refine lv_iconst (v := 3) hx hb dX10_next_140 (by decide) ?_
                  refine lv_goto (tgt := 145) hx hb dX10_next_141 (by decide) ?_
                  refine put_f (D := D) (ci := 10) (v := .int 3) (ty := .int) (C := RX10) (T := TX10) (N := 67) hx hb hw inAX10 tyX10 tyX10_ok nmX10 hown hK hP hD hS 0 rfl rfl 11 (by decide) (hw _ q_1272) (fun _ h9 => h9) rfl (by decide +kernel) rfl rfl dX10_next_145 (fun H locs F261 eF261 hP hD hS => ?_)
                  have hP : va_P D vwCl [(h0, .inr (10, vL 67 F261)), (h_tape, .inl (cB, 940, .inl f_tape))] H := hP
                  have hD : va_D A [(h0, .inr (10, vL 67 F261)), (h_tape, .inl (cB, 940, .inl f_tape))] := hD
                  refine lv_aload_n hx hb dX10_next_148 rfl (lv_at hl 1 rfl) ?_
                  refine lv_iload_n hx hb dX10_next_149 rfl (lv_at hl 0 rfl) ?_
                  refine put_f (D := D) (ci := 10) (v := .int r22) (ty := .int) (C := RX10) (T := TX10) (N := 67) hx hb hw inAX10 tyX10 tyX10_ok nmX10 hown hK hP hD hS 0 rfl rfl 14 (by decide) (hw _ q_1275) (fun _ h9 => h9) rfl (by decide +kernel) rfl rfl dX10_next_150 (fun H locs F262 eF262 hP hD hS => ?_)
                  have hP : va_P D vwCl [(h0, .inr (10, vL 67 F262)), (h_tape, .inl (cB, 940, .inl f_tape))] H := hP
                  have hD : va_D A [(h0, .inr (10, vL 67 F262)), (h_tape, .inl (cB, 940, .inl f_tape))] := hD
                  refine lv_aload_n hx hb dX10_next_153 rfl (lv_at hl 1 rfl) ?_
                  refine lv_dup hx hb dX10_next_154 rfl ?_
                  have n263 : F261 4 = .int u2 := (get_ne eF261 (by decide) n21)
                  have n264 : F262 4 = .int u2 := (get_ne eF262 (by decide) n263)
                  refine get_f (D := D) (ci := 10) (v := .int u2) (C := RX10) (T := TX10) (N := 67) hx hb hw inAX10 hown hK hP 0 rfl rfl 4 (by decide) (hw _ q_1265) (fun _ h9 => h9) n264 dX10_next_155 ?_
                  refine lv_iconst (v := 1) hx hb dX10_next_158 (by decide) ?_
                  refine lv_iadd hx hb dX10_next_159 ?_
                  refine lv_topi (fun v265 ev265 => ?_)
                  have bv265 : v265.toInt = u2.toInt + 1 := by rw [ev265]; exact add_k rfl rfl i6 ⟨Int.le_refl _, Int.le_refl _⟩ (by decide)
                  have k266 : 1 ≤ v265.toInt ∧ v265.toInt ≤ 941 := add_r bv265 i6 ⟨Int.le_refl _, Int.le_refl _⟩ (by decide)
                  refine put_f (D := D) (ci := 10) (v := .int v265) (ty := .int) (C := RX10) (T := TX10) (N := 67) hx hb hw inAX10 tyX10 tyX10_ok nmX10 hown hK hP hD hS 0 rfl rfl 4 (by decide) (hw _ q_1265) (fun _ h9 => h9) rfl (by decide +kernel) rfl rfl dX10_next_160 (fun H locs F267 eF267 hP hD hS => ?_)
                  have hP : va_P D vwCl [(h0, .inr (10, vL 67 F267)), (h_tape, .inl (cB, 940, .inl f_tape))] H := hP
                  have hD : va_D A [(h0, .inr (10, vL 67 F267)), (h_tape, .inl (cB, 940, .inl f_tape))] := hD
                  exact ret_v hx hb hr hlocks hS hP hD dX10_next_163 (Nat.le_of_ble_eq_true rfl) (Nat.le_of_ble_eq_true rfl) ⟨F267, v265, 3, u2, 0, r22, x_word, (SAME.up eF267 (SAME.up eF262 (SAME.up eF261 (SAME.up eF11 (SAME.up eF10 (SAME.tr SAME.rf i4 (by decide)) (by decide)) (by decide)) (by decide)) (by decide)) (by decide)), (get_eq eF267), (show 0 ≤ v265.toInt ∧ v265.toInt ≤ 940 from ⟨by omega, by omega⟩), (get_ne eF267 (by decide) (get_ne eF262 (by decide) (get_eq eF261))), (show 0 ≤ (3 : Int32).toInt ∧ (3 : Int32).toInt ≤ 4 by decide), (get_ne eF267 (by decide) (get_ne eF262 (by decide) (get_ne eF261 (by decide) (get_ne eF11 (by decide) (get_eq eF10))))), i6, (get_ne eF267 (by decide) (get_ne eF262 (by decide) (get_ne eF261 (by decide) (get_eq eF11)))), (show 0 ≤ (0 : Int32).toInt ∧ (0 : Int32).toInt ≤ 940 by decide), (get_ne eF267 (by decide) (get_eq eF262)), (get_ne eF267 (by decide) (get_ne eF262 (by decide) (get_ne eF261 (by decide) (get_ne eF11 (by decide) (get_ne eF10 (by decide) (SAME.at i4 (by decide) e_word)))))), (by have zl0 : (0 : Int32).toInt = 0 := (by decide); have zl3 : (3 : Int32).toInt = 3 := (by decide); omega), (by have zl0 : (0 : Int32).toInt = 0 := (by decide); have zl3 : (3 : Int32).toInt = 3 := (by decide); omega), (nx_sign (u := u2.toInt) i8 i9 (by omega) (by omega) (by decide) (by omega) (by omega) rfl (by omega) i13 (by omega)), (fun q => absurd q (by decide)), (by have zl0 : (0 : Int32).toInt = 0 := (by decide); have zl3 : (3 : Int32).toInt = 3 := (by decide); omega), rfl⟩
                · have dc259 : r22.toInt ≠ 41 := ne_i (a := r22.toInt) (b := 41) rfl rfl c259
                  refine lv_iload_n hx hb dX10_next_128 rfl (lv_at hl 0 rfl) ?_
                  refine lv_bipush (v := 60) hx hb dX10_next_129 (by decide) ?_
                  refine lv_icmp_lt (tgt := 144) hx hb dX10_next_131 (by decide) (fun c268 => ?_) (fun c268 => ?_)
                  · have dc268 : r22.toInt < 60 := lt_i (a := r22.toInt) (b := 60) rfl rfl c268
                    have k269 : 0 ≤ r22.toInt ∧ r22.toInt ≤ 59 := ⟨k27.1, up_lt dc268 (Int.le_refl _) (by decide)⟩
                    refine lv_iconst (v := 4) hx hb dX10_next_144 (by decide) ?_
                    refine put_f (D := D) (ci := 10) (v := .int 4) (ty := .int) (C := RX10) (T := TX10) (N := 67) hx hb hw inAX10 tyX10 tyX10_ok nmX10 hown hK hP hD hS 0 rfl rfl 11 (by decide) (hw _ q_1272) (fun _ h9 => h9) rfl (by decide +kernel) rfl rfl dX10_next_145 (fun H locs F270 eF270 hP hD hS => ?_)
                    have hP : va_P D vwCl [(h0, .inr (10, vL 67 F270)), (h_tape, .inl (cB, 940, .inl f_tape))] H := hP
                    have hD : va_D A [(h0, .inr (10, vL 67 F270)), (h_tape, .inl (cB, 940, .inl f_tape))] := hD
                    refine lv_aload_n hx hb dX10_next_148 rfl (lv_at hl 1 rfl) ?_
                    refine lv_iload_n hx hb dX10_next_149 rfl (lv_at hl 0 rfl) ?_
                    refine put_f (D := D) (ci := 10) (v := .int r22) (ty := .int) (C := RX10) (T := TX10) (N := 67) hx hb hw inAX10 tyX10 tyX10_ok nmX10 hown hK hP hD hS 0 rfl rfl 14 (by decide) (hw _ q_1275) (fun _ h9 => h9) rfl (by decide +kernel) rfl rfl dX10_next_150 (fun H locs F271 eF271 hP hD hS => ?_)
                    have hP : va_P D vwCl [(h0, .inr (10, vL 67 F271)), (h_tape, .inl (cB, 940, .inl f_tape))] H := hP
                    have hD : va_D A [(h0, .inr (10, vL 67 F271)), (h_tape, .inl (cB, 940, .inl f_tape))] := hD
                    refine lv_aload_n hx hb dX10_next_153 rfl (lv_at hl 1 rfl) ?_
                    refine lv_dup hx hb dX10_next_154 rfl ?_
                    have n272 : F270 4 = .int u2 := (get_ne eF270 (by decide) n21)
                    have n273 : F271 4 = .int u2 := (get_ne eF271 (by decide) n272)
                    refine get_f (D := D) (ci := 10) (v := .int u2) (C := RX10) (T := TX10) (N := 67) hx hb hw inAX10 hown hK hP 0 rfl rfl 4 (by decide) (hw _ q_1265) (fun _ h9 => h9) n273 dX10_next_155 ?_
                    refine lv_iconst (v := 1) hx hb dX10_next_158 (by decide) ?_
                    refine lv_iadd hx hb dX10_next_159 ?_
                    refine lv_topi (fun v274 ev274 => ?_)
                    have bv274 : v274.toInt = u2.toInt + 1 := by rw [ev274]; exact add_k rfl rfl i6 ⟨Int.le_refl _, Int.le_refl _⟩ (by decide)
                    have k275 : 1 ≤ v274.toInt ∧ v274.toInt ≤ 941 := add_r bv274 i6 ⟨Int.le_refl _, Int.le_refl _⟩ (by decide)
                    refine put_f (D := D) (ci := 10) (v := .int v274) (ty := .int) (C := RX10) (T := TX10) (N := 67) hx hb hw inAX10 tyX10 tyX10_ok nmX10 hown hK hP hD hS 0 rfl rfl 4 (by decide) (hw _ q_1265) (fun _ h9 => h9) rfl (by decide +kernel) rfl rfl dX10_next_160 (fun H locs F276 eF276 hP hD hS => ?_)
                    have hP : va_P D vwCl [(h0, .inr (10, vL 67 F276)), (h_tape, .inl (cB, 940, .inl f_tape))] H := hP
                    have hD : va_D A [(h0, .inr (10, vL 67 F276)), (h_tape, .inl (cB, 940, .inl f_tape))] := hD
                    exact ret_v hx hb hr hlocks hS hP hD dX10_next_163 (Nat.le_of_ble_eq_true rfl) (Nat.le_of_ble_eq_true rfl) ⟨F276, v274, 4, u2, 0, r22, x_word, (SAME.up eF276 (SAME.up eF271 (SAME.up eF270 (SAME.up eF11 (SAME.up eF10 (SAME.tr SAME.rf i4 (by decide)) (by decide)) (by decide)) (by decide)) (by decide)) (by decide)), (get_eq eF276), (show 0 ≤ v274.toInt ∧ v274.toInt ≤ 940 from ⟨by omega, by omega⟩), (get_ne eF276 (by decide) (get_ne eF271 (by decide) (get_eq eF270))), (show 0 ≤ (4 : Int32).toInt ∧ (4 : Int32).toInt ≤ 4 by decide), (get_ne eF276 (by decide) (get_ne eF271 (by decide) (get_ne eF270 (by decide) (get_ne eF11 (by decide) (get_eq eF10))))), i6, (get_ne eF276 (by decide) (get_ne eF271 (by decide) (get_ne eF270 (by decide) (get_eq eF11)))), (show 0 ≤ (0 : Int32).toInt ∧ (0 : Int32).toInt ≤ 940 by decide), (get_ne eF276 (by decide) (get_eq eF271)), (get_ne eF276 (by decide) (get_ne eF271 (by decide) (get_ne eF270 (by decide) (get_ne eF11 (by decide) (get_ne eF10 (by decide) (SAME.at i4 (by decide) e_word)))))), (by have zl0 : (0 : Int32).toInt = 0 := (by decide); have zl4 : (4 : Int32).toInt = 4 := (by decide); omega), (by have zl0 : (0 : Int32).toInt = 0 := (by decide); have zl4 : (4 : Int32).toInt = 4 := (by decide); omega), (nx_no (u := u2.toInt) i8 i9 (by omega) (by omega) (by decide) rfl i13 (by omega) (by omega) (by omega)), (fun q => absurd q (by decide)), (by have zl0 : (0 : Int32).toInt = 0 := (by decide); have zl4 : (4 : Int32).toInt = 4 := (by decide); omega), rfl⟩
                  · have dc268 : 60 ≤ r22.toInt := nlt_i (a := r22.toInt) (b := 60) rfl rfl c268
                    have k277 : 60 ≤ r22.toInt ∧ r22.toInt ≤ 255 := ⟨Int.le_trans (Int.le_refl _) dc268, k27.2⟩
                    refine lv_iload_n hx hb dX10_next_134 rfl (lv_at hl 0 rfl) ?_
                    refine lv_bipush (v := 62) hx hb dX10_next_135 (by decide) ?_
                    refine lv_icmp_gt (tgt := 144) hx hb dX10_next_137 (by decide) (fun c278 => ?_) (fun c278 => ?_)
                    · have dc278 : 62 < r22.toInt := lt_i (a := 62) (b := r22.toInt) rfl rfl c278
                      have k279 : 63 ≤ r22.toInt ∧ r22.toInt ≤ 255 := ⟨lo_lt dc278 (Int.le_refl _) (by decide), k277.2⟩
                      refine lv_iconst (v := 4) hx hb dX10_next_144 (by decide) ?_
                      refine put_f (D := D) (ci := 10) (v := .int 4) (ty := .int) (C := RX10) (T := TX10) (N := 67) hx hb hw inAX10 tyX10 tyX10_ok nmX10 hown hK hP hD hS 0 rfl rfl 11 (by decide) (hw _ q_1272) (fun _ h9 => h9) rfl (by decide +kernel) rfl rfl dX10_next_145 (fun H locs F280 eF280 hP hD hS => ?_)
                      have hP : va_P D vwCl [(h0, .inr (10, vL 67 F280)), (h_tape, .inl (cB, 940, .inl f_tape))] H := hP
                      have hD : va_D A [(h0, .inr (10, vL 67 F280)), (h_tape, .inl (cB, 940, .inl f_tape))] := hD
                      refine lv_aload_n hx hb dX10_next_148 rfl (lv_at hl 1 rfl) ?_
                      refine lv_iload_n hx hb dX10_next_149 rfl (lv_at hl 0 rfl) ?_
                      refine put_f (D := D) (ci := 10) (v := .int r22) (ty := .int) (C := RX10) (T := TX10) (N := 67) hx hb hw inAX10 tyX10 tyX10_ok nmX10 hown hK hP hD hS 0 rfl rfl 14 (by decide) (hw _ q_1275) (fun _ h9 => h9) rfl (by decide +kernel) rfl rfl dX10_next_150 (fun H locs F281 eF281 hP hD hS => ?_)
                      have hP : va_P D vwCl [(h0, .inr (10, vL 67 F281)), (h_tape, .inl (cB, 940, .inl f_tape))] H := hP
                      have hD : va_D A [(h0, .inr (10, vL 67 F281)), (h_tape, .inl (cB, 940, .inl f_tape))] := hD
                      refine lv_aload_n hx hb dX10_next_153 rfl (lv_at hl 1 rfl) ?_
                      refine lv_dup hx hb dX10_next_154 rfl ?_
                      have n282 : F280 4 = .int u2 := (get_ne eF280 (by decide) n21)
                      have n283 : F281 4 = .int u2 := (get_ne eF281 (by decide) n282)
                      refine get_f (D := D) (ci := 10) (v := .int u2) (C := RX10) (T := TX10) (N := 67) hx hb hw inAX10 hown hK hP 0 rfl rfl 4 (by decide) (hw _ q_1265) (fun _ h9 => h9) n283 dX10_next_155 ?_
                      refine lv_iconst (v := 1) hx hb dX10_next_158 (by decide) ?_
                      refine lv_iadd hx hb dX10_next_159 ?_
                      refine lv_topi (fun v284 ev284 => ?_)
                      have bv284 : v284.toInt = u2.toInt + 1 := by rw [ev284]; exact add_k rfl rfl i6 ⟨Int.le_refl _, Int.le_refl _⟩ (by decide)
                      have k285 : 1 ≤ v284.toInt ∧ v284.toInt ≤ 941 := add_r bv284 i6 ⟨Int.le_refl _, Int.le_refl _⟩ (by decide)
                      refine put_f (D := D) (ci := 10) (v := .int v284) (ty := .int) (C := RX10) (T := TX10) (N := 67) hx hb hw inAX10 tyX10 tyX10_ok nmX10 hown hK hP hD hS 0 rfl rfl 4 (by decide) (hw _ q_1265) (fun _ h9 => h9) rfl (by decide +kernel) rfl rfl dX10_next_160 (fun H locs F286 eF286 hP hD hS => ?_)
                      have hP : va_P D vwCl [(h0, .inr (10, vL 67 F286)), (h_tape, .inl (cB, 940, .inl f_tape))] H := hP
                      have hD : va_D A [(h0, .inr (10, vL 67 F286)), (h_tape, .inl (cB, 940, .inl f_tape))] := hD
                      exact ret_v hx hb hr hlocks hS hP hD dX10_next_163 (Nat.le_of_ble_eq_true rfl) (Nat.le_of_ble_eq_true rfl) ⟨F286, v284, 4, u2, 0, r22, x_word, (SAME.up eF286 (SAME.up eF281 (SAME.up eF280 (SAME.up eF11 (SAME.up eF10 (SAME.tr SAME.rf i4 (by decide)) (by decide)) (by decide)) (by decide)) (by decide)) (by decide)), (get_eq eF286), (show 0 ≤ v284.toInt ∧ v284.toInt ≤ 940 from ⟨by omega, by omega⟩), (get_ne eF286 (by decide) (get_ne eF281 (by decide) (get_eq eF280))), (show 0 ≤ (4 : Int32).toInt ∧ (4 : Int32).toInt ≤ 4 by decide), (get_ne eF286 (by decide) (get_ne eF281 (by decide) (get_ne eF280 (by decide) (get_ne eF11 (by decide) (get_eq eF10))))), i6, (get_ne eF286 (by decide) (get_ne eF281 (by decide) (get_ne eF280 (by decide) (get_eq eF11)))), (show 0 ≤ (0 : Int32).toInt ∧ (0 : Int32).toInt ≤ 940 by decide), (get_ne eF286 (by decide) (get_eq eF281)), (get_ne eF286 (by decide) (get_ne eF281 (by decide) (get_ne eF280 (by decide) (get_ne eF11 (by decide) (get_ne eF10 (by decide) (SAME.at i4 (by decide) e_word)))))), (by have zl0 : (0 : Int32).toInt = 0 := (by decide); have zl4 : (4 : Int32).toInt = 4 := (by decide); omega), (by have zl0 : (0 : Int32).toInt = 0 := (by decide); have zl4 : (4 : Int32).toInt = 4 := (by decide); omega), (nx_no (u := u2.toInt) i8 i9 (by omega) (by omega) (by decide) rfl i13 (by omega) (by omega) (by omega)), (fun q => absurd q (by decide)), (by have zl0 : (0 : Int32).toInt = 0 := (by decide); have zl4 : (4 : Int32).toInt = 4 := (by decide); omega), rfl⟩
                    · have dc278 : r22.toInt ≤ 62 := nlt_i (a := 62) (b := r22.toInt) rfl rfl c278
                      have k287 : 60 ≤ r22.toInt ∧ r22.toInt ≤ 62 := ⟨k277.1, Int.le_trans dc278 (Int.le_refl _)⟩
                      refine lv_iconst (v := 3) hx hb dX10_next_140 (by decide) ?_
                      refine lv_goto (tgt := 145) hx hb dX10_next_141 (by decide) ?_
                      refine put_f (D := D) (ci := 10) (v := .int 3) (ty := .int) (C := RX10) (T := TX10) (N := 67) hx hb hw inAX10 tyX10 tyX10_ok nmX10 hown hK hP hD hS 0 rfl rfl 11 (by decide) (hw _ q_1272) (fun _ h9 => h9) rfl (by decide +kernel) rfl rfl dX10_next_145 (fun H locs F288 eF288 hP hD hS => ?_)
                      have hP : va_P D vwCl [(h0, .inr (10, vL 67 F288)), (h_tape, .inl (cB, 940, .inl f_tape))] H := hP
                      have hD : va_D A [(h0, .inr (10, vL 67 F288)), (h_tape, .inl (cB, 940, .inl f_tape))] := hD
                      refine lv_aload_n hx hb dX10_next_148 rfl (lv_at hl 1 rfl) ?_
                      refine lv_iload_n hx hb dX10_next_149 rfl (lv_at hl 0 rfl) ?_
                      refine put_f (D := D) (ci := 10) (v := .int r22) (ty := .int) (C := RX10) (T := TX10) (N := 67) hx hb hw inAX10 tyX10 tyX10_ok nmX10 hown hK hP hD hS 0 rfl rfl 14 (by decide) (hw _ q_1275) (fun _ h9 => h9) rfl (by decide +kernel) rfl rfl dX10_next_150 (fun H locs F289 eF289 hP hD hS => ?_)
                      have hP : va_P D vwCl [(h0, .inr (10, vL 67 F289)), (h_tape, .inl (cB, 940, .inl f_tape))] H := hP
                      have hD : va_D A [(h0, .inr (10, vL 67 F289)), (h_tape, .inl (cB, 940, .inl f_tape))] := hD
                      refine lv_aload_n hx hb dX10_next_153 rfl (lv_at hl 1 rfl) ?_
                      refine lv_dup hx hb dX10_next_154 rfl ?_
                      have n290 : F288 4 = .int u2 := (get_ne eF288 (by decide) n21)
                      have n291 : F289 4 = .int u2 := (get_ne eF289 (by decide) n290)
                      refine get_f (D := D) (ci := 10) (v := .int u2) (C := RX10) (T := TX10) (N := 67) hx hb hw inAX10 hown hK hP 0 rfl rfl 4 (by decide) (hw _ q_1265) (fun _ h9 => h9) n291 dX10_next_155 ?_
                      refine lv_iconst (v := 1) hx hb dX10_next_158 (by decide) ?_
                      refine lv_iadd hx hb dX10_next_159 ?_
                      refine lv_topi (fun v292 ev292 => ?_)
                      have bv292 : v292.toInt = u2.toInt + 1 := by rw [ev292]; exact add_k rfl rfl i6 ⟨Int.le_refl _, Int.le_refl _⟩ (by decide)
                      have k293 : 1 ≤ v292.toInt ∧ v292.toInt ≤ 941 := add_r bv292 i6 ⟨Int.le_refl _, Int.le_refl _⟩ (by decide)
                      refine put_f (D := D) (ci := 10) (v := .int v292) (ty := .int) (C := RX10) (T := TX10) (N := 67) hx hb hw inAX10 tyX10 tyX10_ok nmX10 hown hK hP hD hS 0 rfl rfl 4 (by decide) (hw _ q_1265) (fun _ h9 => h9) rfl (by decide +kernel) rfl rfl dX10_next_160 (fun H locs F294 eF294 hP hD hS => ?_)
                      have hP : va_P D vwCl [(h0, .inr (10, vL 67 F294)), (h_tape, .inl (cB, 940, .inl f_tape))] H := hP
                      have hD : va_D A [(h0, .inr (10, vL 67 F294)), (h_tape, .inl (cB, 940, .inl f_tape))] := hD
                      exact ret_v hx hb hr hlocks hS hP hD dX10_next_163 (Nat.le_of_ble_eq_true rfl) (Nat.le_of_ble_eq_true rfl) ⟨F294, v292, 3, u2, 0, r22, x_word, (SAME.up eF294 (SAME.up eF289 (SAME.up eF288 (SAME.up eF11 (SAME.up eF10 (SAME.tr SAME.rf i4 (by decide)) (by decide)) (by decide)) (by decide)) (by decide)) (by decide)), (get_eq eF294), (show 0 ≤ v292.toInt ∧ v292.toInt ≤ 940 from ⟨by omega, by omega⟩), (get_ne eF294 (by decide) (get_ne eF289 (by decide) (get_eq eF288))), (show 0 ≤ (3 : Int32).toInt ∧ (3 : Int32).toInt ≤ 4 by decide), (get_ne eF294 (by decide) (get_ne eF289 (by decide) (get_ne eF288 (by decide) (get_ne eF11 (by decide) (get_eq eF10))))), i6, (get_ne eF294 (by decide) (get_ne eF289 (by decide) (get_ne eF288 (by decide) (get_eq eF11)))), (show 0 ≤ (0 : Int32).toInt ∧ (0 : Int32).toInt ≤ 940 by decide), (get_ne eF294 (by decide) (get_eq eF289)), (get_ne eF294 (by decide) (get_ne eF289 (by decide) (get_ne eF288 (by decide) (get_ne eF11 (by decide) (get_ne eF10 (by decide) (SAME.at i4 (by decide) e_word)))))), (by have zl0 : (0 : Int32).toInt = 0 := (by decide); have zl3 : (3 : Int32).toInt = 3 := (by decide); omega), (by have zl0 : (0 : Int32).toInt = 0 := (by decide); have zl3 : (3 : Int32).toInt = 3 := (by decide); omega), (nx_sign (u := u2.toInt) i8 i9 (by omega) (by omega) (by decide) (by omega) (by omega) rfl (by omega) i13 (by omega)), (fun q => absurd q (by decide)), (by have zl0 : (0 : Int32).toInt = 0 := (by decide); have zl3 : (3 : Int32).toInt = 3 := (by decide); omega), rfl⟩
      · have dc26 : r22.toInt < 0 := nle_i (a := 0) (b := r22.toInt) rfl rfl c26
        have k295 : (-1) ≤ r22.toInt ∧ r22.toInt ≤ (-1) := ⟨t23.1, up_lt dc26 (Int.le_refl _) (by decide)⟩
        refine lv_aload_n hx hb dX10_next_89 rfl (lv_at hl 1 rfl) ?_
        refine lv_iconst (v := 0) hx hb dX10_next_90 (by decide) ?_
        refine put_f (D := D) (ci := 10) (v := .int 0) (ty := .int) (C := RX10) (T := TX10) (N := 67) hx hb hw inAX10 tyX10 tyX10_ok nmX10 hown hK hP hD hS 0 rfl rfl 11 (by decide) (hw _ q_1272) (fun _ h9 => h9) rfl (by decide +kernel) rfl rfl dX10_next_91 (fun H locs F296 eF296 hP hD hS => ?_)
        have hP : va_P D vwCl [(h0, .inr (10, vL 67 F296)), (h_tape, .inl (cB, 940, .inl f_tape))] H := hP
        have hD : va_D A [(h0, .inr (10, vL 67 F296)), (h_tape, .inl (cB, 940, .inl f_tape))] := hD
        exact ret_v hx hb hr hlocks hS hP hD dX10_next_94 (Nat.le_of_ble_eq_true rfl) (Nat.le_of_ble_eq_true rfl) ⟨F296, u2, 0, u2, 0, x_number, x_word, (SAME.up eF296 (SAME.up eF11 (SAME.up eF10 (SAME.tr SAME.rf i4 (by decide)) (by decide)) (by decide)) (by decide)), (get_ne eF296 (by decide) n21), i6, (get_eq eF296), (show 0 ≤ (0 : Int32).toInt ∧ (0 : Int32).toInt ≤ 4 by decide), (get_ne eF296 (by decide) (get_ne eF11 (by decide) (get_eq eF10))), i6, (get_ne eF296 (by decide) (get_eq eF11)), (show 0 ≤ (0 : Int32).toInt ∧ (0 : Int32).toInt ≤ 940 by decide), (get_ne eF296 (by decide) (get_ne eF11 (by decide) (get_ne eF10 (by decide) (SAME.at i4 (by decide) e_number)))), (get_ne eF296 (by decide) (get_ne eF11 (by decide) (get_ne eF10 (by decide) (SAME.at i4 (by decide) e_word)))), (by have zl0 : (0 : Int32).toInt = 0 := (by decide); omega), (by have zl0 : (0 : Int32).toInt = 0 := (by decide); omega), (nx_stop (u := u2.toInt) i8 i9 (by omega) (by omega) (by decide) rfl rfl i13 (look_ng t24 (by omega) (tb_255 _ _).1)), (fun q => absurd q (by decide)), (by have zl0 : (0 : Int32).toInt = 0 := (by decide); omega), rfl⟩
    refine lv_aload_n hx hb dX10_next_44 rfl (lv_at hl 0 rfl) ?_
    have n297 : G1 3 = .int x_size := (SAME.at i4 (by decide) e_size)
    have n298 : F10 3 = .int x_size := (get_ne eF10 (by decide) n297)
    have n299 : F11 3 = .int x_size := (get_ne eF11 (by decide) n298)
    refine get_f (D := D) (ci := 10) (v := .int x_size) (C := RX10) (T := TX10) (N := 67) hx hb hw inAX10 hown hK hP 0 rfl rfl 3 (by decide) (hw _ q_1264) (fun _ h9 => h9) n299 dX10_next_45 ?_
    refine lv_aload_n hx hb dX10_next_48 rfl (lv_at hl 0 rfl) ?_
    have n300 : G1 5 = .int x_limit := (SAME.at i4 (by decide) e_limit)
    have n301 : F10 5 = .int x_limit := (get_ne eF10 (by decide) n300)
    have n302 : F11 5 = .int x_limit := (get_ne eF11 (by decide) n301)
    refine get_f (D := D) (ci := 10) (v := .int x_limit) (C := RX10) (T := TX10) (N := 67) hx hb hw inAX10 hown hK hP 0 rfl rfl 5 (by decide) (hw _ q_1266) (fun _ h9 => h9) n302 dX10_next_49 ?_
    refine lv_icmp_le (tgt := 80) hx hb dX10_next_52 (by decide) (fun c303 => ?_) (fun c303 => ?_)
    · have dc303 : x_size.toInt ≤ x_limit.toInt := le_i (a := x_size.toInt) (b := x_limit.toInt) rfl rfl c303
      exact cut12 (lim_1 (by omega)) _ _ _ hP hD hS (lv_sub hl [0] rfl)
    · have dc303 : x_limit.toInt < x_size.toInt := nle_i (a := x_size.toInt) (b := x_limit.toInt) rfl rfl c303
      have k304 : 200 ≤ x_limit.toInt ∧ x_limit.toInt ≤ 939 := ⟨i_x_limit.1, up_lt dc303 i_x_size.2 (by decide)⟩
      have k305 : 201 ≤ x_size.toInt ∧ x_size.toInt ≤ 940 := ⟨lo_lt dc303 i_x_limit.1 (by decide), i_x_size.2⟩
      refine lv_aload_n hx hb dX10_next_55 rfl (lv_at hl 0 rfl) ?_
      have n306 : F10 4 = .int u2 := (get_ne eF10 (by decide) i5)
      have n307 : F11 4 = .int u2 := (get_ne eF11 (by decide) n306)
      refine get_f (D := D) (ci := 10) (v := .int u2) (C := RX10) (T := TX10) (N := 67) hx hb hw inAX10 hown hK hP 0 rfl rfl 4 (by decide) (hw _ q_1265) (fun _ h9 => h9) n307 dX10_next_56 ?_
      refine lv_aload_n hx hb dX10_next_59 rfl (lv_at hl 0 rfl) ?_
      refine get_f (D := D) (ci := 10) (v := .int x_limit) (C := RX10) (T := TX10) (N := 67) hx hb hw inAX10 hown hK hP 0 rfl rfl 5 (by decide) (hw _ q_1266) (fun _ h9 => h9) n302 dX10_next_60 ?_
      refine lv_icmp_lt (tgt := 80) hx hb dX10_next_63 (by decide) (fun c308 => ?_) (fun c308 => ?_)
      · have dc308 : u2.toInt < x_limit.toInt := lt_i (a := u2.toInt) (b := x_limit.toInt) rfl rfl c308
        have k309 : 0 ≤ u2.toInt ∧ u2.toInt ≤ 938 := ⟨i6.1, up_lt dc308 k304.2 (by decide)⟩
        exact cut12 (lim_2 (by omega)) _ _ _ hP hD hS (lv_sub hl [0] rfl)
      · have dc308 : x_limit.toInt ≤ u2.toInt := nlt_i (a := u2.toInt) (b := x_limit.toInt) rfl rfl c308
        have k310 : 200 ≤ u2.toInt ∧ u2.toInt ≤ 940 := ⟨Int.le_trans k304.1 dc308, i6.2⟩
        refine lv_aload_n hx hb dX10_next_66 rfl (lv_at hl 0 rfl) ?_
        refine lv_aload_n hx hb dX10_next_67 rfl (lv_at hl 0 rfl) ?_
        refine get_f (D := D) (ci := 10) (v := .int x_limit) (C := RX10) (T := TX10) (N := 67) hx hb hw inAX10 hown hK hP 0 rfl rfl 5 (by decide) (hw _ q_1266) (fun _ h9 => h9) n302 dX10_next_68 ?_
        refine put_f (D := D) (ci := 10) (v := .int x_limit) (ty := .int) (C := RX10) (T := TX10) (N := 67) hx hb hw inAX10 tyX10 tyX10_ok nmX10 hown hK hP hD hS 0 rfl rfl 12 (by decide) (hw _ q_1273) (fun _ h9 => h9) rfl (by decide +kernel) rfl rfl dX10_next_71 (fun H locs F311 eF311 hP hD hS => ?_)
        have hP : va_P D vwCl [(h0, .inr (10, vL 67 F311)), (h_tape, .inl (cB, 940, .inl f_tape))] H := hP
        have hD : va_D A [(h0, .inr (10, vL 67 F311)), (h_tape, .inl (cB, 940, .inl f_tape))] := hD
        refine lv_aload_n hx hb dX10_next_74 rfl (lv_at hl 0 rfl) ?_
        refine lv_iconst (v := 4) hx hb dX10_next_75 (by decide) ?_
        refine put_f (D := D) (ci := 10) (v := .int 4) (ty := .int) (C := RX10) (T := TX10) (N := 67) hx hb hw inAX10 tyX10 tyX10_ok nmX10 hown hK hP hD hS 0 rfl rfl 11 (by decide) (hw _ q_1272) (fun _ h9 => h9) rfl (by decide +kernel) rfl rfl dX10_next_76 (fun H locs F312 eF312 hP hD hS => ?_)
        have hP : va_P D vwCl [(h0, .inr (10, vL 67 F312)), (h_tape, .inl (cB, 940, .inl f_tape))] H := hP
        have hD : va_D A [(h0, .inr (10, vL 67 F312)), (h_tape, .inl (cB, 940, .inl f_tape))] := hD
        exact ret_v hx hb hr hlocks hS hP hD dX10_next_79 (Nat.le_of_ble_eq_true rfl) (Nat.le_of_ble_eq_true rfl) ⟨F312, u2, 4, x_limit, 0, x_number, x_word, (SAME.up eF312 (SAME.up eF311 (SAME.up eF11 (SAME.up eF10 (SAME.tr SAME.rf i4 (by decide)) (by decide)) (by decide)) (by decide)) (by decide)), (get_ne eF312 (by decide) (get_ne eF311 (by decide) n307)), (ir_wk k310 (by decide) (by decide)), (get_eq eF312), (show 0 ≤ (4 : Int32).toInt ∧ (4 : Int32).toInt ≤ 4 by decide), (get_ne eF312 (by decide) (get_eq eF311)), (ir_wk k304 (by decide) (by decide)), (get_ne eF312 (by decide) (get_ne eF311 (by decide) (get_eq eF11))), (show 0 ≤ (0 : Int32).toInt ∧ (0 : Int32).toInt ≤ 940 by decide), (get_ne eF312 (by decide) (get_ne eF311 (by decide) (get_ne eF11 (by decide) (get_ne eF10 (by decide) (SAME.at i4 (by decide) e_number))))), (get_ne eF312 (by decide) (get_ne eF311 (by decide) (get_ne eF11 (by decide) (get_ne eF10 (by decide) (SAME.at i4 (by decide) e_word))))), (by have zl0 : (0 : Int32).toInt = 0 := (by decide); have zl4 : (4 : Int32).toInt = 4 := (by decide); omega), (by have zl0 : (0 : Int32).toInt = 0 := (by decide); have zl4 : (4 : Int32).toInt = 4 := (by decide); omega), (nx_lim (u := u2.toInt) i8 i9 (by omega) (by omega) (by decide) rfl (by omega) (by omega)), (fun q => absurd q (by decide)), (by have zl0 : (0 : Int32).toInt = 0 := (by decide); have zl4 : (4 : Int32).toInt = 4 := (by decide); omega), rfl⟩
  refine mloop (α := (Nat → Value) × (Int32)) (nL := 4) (D := D) (A := A) (H0 := s.heap) (fun a => (x_size.toInt - a.2.toInt).toNat) (fun a => SAME [4] Fh a.1 ∧ a.1 4 = .int a.2 ∧ IR 0 940 a.2 ∧ (x_p.toInt ≤ a.2.toInt) ∧ (sk f_tape (x_size.toInt).toNat (x_p.toInt).toNat = sk f_tape (x_size.toInt).toNat (a.2.toInt).toNat)) (fun a => [(h0, .inr (10, vL 67 a.1)), (h_tape, .inl (cB, 940, .inl f_tape))]) (fun a => [(0, .ref h0)]) (fun H locs ls => W p l e ({ frames := 1, cells := 0, slots := 0, locals := 20 } : Room) s m [.ref h0].toArray below meth c H locs 0 0 (MQ below (va_Qv (fun (u : va_W) => ∃ (Gh : Nat → Value) (y_p : Int32) (y_token : Int32) (y_at : Int32) (y_span : Int32) (y_number : Int32) (y_word : Int64), SAME [4, 11, 12, 13, 14, 18] Fh Gh ∧ Gh 4 = .int y_p ∧ IR 0 940 y_p ∧ Gh 11 = .int y_token ∧ IR 0 4 y_token ∧ Gh 12 = .int y_at ∧ IR 0 940 y_at ∧ Gh 13 = .int y_span ∧ IR 0 940 y_span ∧ Gh 14 = .int y_number ∧ Gh 18 = .long y_word ∧ (x_p.toInt ≤ y_p.toInt) ∧ ((1 ≤ y_token.toInt → y_token.toInt ≤ 3 → x_p.toInt < y_p.toInt)) ∧ ((tkM y_token y_at y_number y_word y_p) = (tkA f_tape x_size.toInt x_limit.toInt) x_p.toInt) ∧ ((VWF y_token.toInt y_word.toInt)) ∧ ((y_token.toInt = 2 → 0 ≤ y_number.toInt ∧ y_number.toInt ≤ 999)) ∧ u = [(h0, .inr (10, vL 67 Gh)), (h_tape, .inl (cB, 940, .inl f_tape))]) (PO D A) A) [.ref h0].toArray s 0 0 A) (F0 m 0 ls [])) ?_ (Fh, x_p) ⟨SAME.rf, e_p, i_x_p, (by show x_p.toInt ≤ x_p.toInt; omega), (show sk f_tape (x_size.toInt).toNat (x_p.toInt).toNat = sk f_tape (x_size.toInt).toNat (x_p.toInt).toNat from rfl)⟩ _ _ _ hP hD hS hl
  rintro ⟨G1, u2⟩ ⟨i313, i314, i315, i316, i317⟩ ih H locs ls hP hD hS hl
  have i315 : 0 ≤ u2.toInt ∧ u2.toInt ≤ 940 := i315
  have i316 : x_p.toInt ≤ u2.toInt := i316
  have i317 : sk f_tape (x_size.toInt).toNat (x_p.toInt).toNat = sk f_tape (x_size.toInt).toNat (u2.toInt).toNat := i317
  have hP : va_P D vwCl [(h0, .inr (10, vL 67 G1)), (h_tape, .inl (cB, 940, .inl f_tape))] H := hP
  have hD : va_D A [(h0, .inr (10, vL 67 G1)), (h_tape, .inl (cB, 940, .inl f_tape))] := hD
  have hl : lv_has ls 4 [(0, .ref h0)] := hl
  refine lv_aload_n hx hb dX10_next_0 rfl (lv_at hl 0 rfl) ?_
  have n318 : G1 1 = .ref h_tape := (SAME.at i313 (by decide) e_tape)
  have n319 : G1 3 = .int x_size := (SAME.at i313 (by decide) e_size)
  refine call_Vi (wr := []) (As := []) (rest := []) hx hb hml hown hw (m_X10_peek l D cI cJ cB cP cM cZ h0 h_tape G1 x_size u2 f_tape _ n318 n319 i_x_size i314 i315) wV_X10_169_X10_peek dX10_next_1 hK hP hD hS hA [0, 1] [] rfl rfl (by decide) (by decide) (by decide) 0 10 rfl rfl GG.fb hG.at hl.1 rfl (Nat.le_of_ble_eq_true rfl) ⟨(Nat.le_of_ble_eq_true rfl), (Nat.le_of_ble_eq_true rfl)⟩ ⟨(Nat.le_of_ble_eq_true rfl), (Nat.le_of_ble_eq_true rfl)⟩ (fun r320 u H locs hp hP hD hS => ?_)
  obtain ⟨t321, t322, rfl⟩ := hp
  have hP : va_P D vwCl [(h0, .inr (10, vL 67 G1)), (h_tape, .inl (cB, 940, .inl f_tape))] H := hP
  have hD : va_D A [(h0, .inr (10, vL 67 G1)), (h_tape, .inl (cB, 940, .inl f_tape))] := hD
  refine W.widen (k := 0) (n := 0) (Nat.le_of_ble_eq_true rfl) (Nat.le_of_ble_eq_true rfl) ?_
  refine lv_bipush (v := 32) hx hb dX10_next_4 (by decide) ?_
  refine lv_icmp_eq (tgt := 18) hx hb dX10_next_6 (by decide) (fun c324 => ?_) (fun c324 => ?_)
  · have dc324 : r320.toInt = 32 := eq_i (a := r320.toInt) (b := 32) rfl rfl c324
    have k325 : 32 ≤ r320.toInt ∧ r320.toInt ≤ 32 := ⟨Int.le_trans (Int.le_refl _) (Int.le_of_eq dc324.symm), Int.le_trans (Int.le_of_eq dc324) (Int.le_refl _)⟩
    refine lv_aload_n hx hb dX10_next_18 rfl (lv_at hl 0 rfl) ?_
    refine lv_dup hx hb dX10_next_19 rfl ?_
    refine get_f (D := D) (ci := 10) (v := .int u2) (C := RX10) (T := TX10) (N := 67) hx hb hw inAX10 hown hK hP 0 rfl rfl 4 (by decide) (hw _ q_1265) (fun _ h9 => h9) i314 dX10_next_20 ?_
    refine lv_iconst (v := 1) hx hb dX10_next_23 (by decide) ?_
    refine lv_iadd hx hb dX10_next_24 ?_
    refine lv_topi (fun v326 ev326 => ?_)
    have bv326 : v326.toInt = u2.toInt + 1 := by rw [ev326]; exact add_k rfl rfl i315 ⟨Int.le_refl _, Int.le_refl _⟩ (by decide)
    have k327 : 1 ≤ v326.toInt ∧ v326.toInt ≤ 941 := add_r bv326 i315 ⟨Int.le_refl _, Int.le_refl _⟩ (by decide)
    refine put_f (D := D) (ci := 10) (v := .int v326) (ty := .int) (C := RX10) (T := TX10) (N := 67) hx hb hw inAX10 tyX10 tyX10_ok nmX10 hown hK hP hD hS 0 rfl rfl 4 (by decide) (hw _ q_1265) (fun _ h9 => h9) rfl (by decide +kernel) rfl rfl dX10_next_25 (fun H locs F328 eF328 hP hD hS => ?_)
    have hP : va_P D vwCl [(h0, .inr (10, vL 67 F328)), (h_tape, .inl (cB, 940, .inl f_tape))] H := hP
    have hD : va_D A [(h0, .inr (10, vL 67 F328)), (h_tape, .inl (cB, 940, .inl f_tape))] := hD
    refine lv_goto (tgt := 0) hx hb dX10_next_28 (by decide) ?_
    exact ih (F328, v326) ⟨(SAME.up eF328 (SAME.tr SAME.rf i313 (by decide)) (by decide)), (get_eq eF328), (show 0 ≤ v326.toInt ∧ v326.toInt ≤ 940 from ⟨by omega, by omega⟩), (by show x_p.toInt ≤ v326.toInt; omega), (show sk f_tape (x_size.toInt).toNat (x_p.toInt).toNat = sk f_tape (x_size.toInt).toNat (v326.toInt).toNat from (i317.trans (by rw [show (v326.toInt).toNat = (u2.toInt).toNat + 1 by omega]; exact sk_step (by omega) (by omega))))⟩ (by show (x_size.toInt - v326.toInt).toNat < (x_size.toInt - u2.toInt).toNat; omega) _ _ _ hP hD hS (lv_sub hl [0] rfl)
  · have dc324 : r320.toInt ≠ 32 := ne_i (a := r320.toInt) (b := 32) rfl rfl c324
    refine lv_aload_n hx hb dX10_next_9 rfl (lv_at hl 0 rfl) ?_
    refine call_Vi (wr := []) (As := []) (rest := []) hx hb hml hown hw (m_X10_peek l D cI cJ cB cP cM cZ h0 h_tape G1 x_size u2 f_tape _ n318 n319 i_x_size i314 i315) wV_X10_169_X10_peek dX10_next_10 hK hP hD hS hA [0, 1] [] rfl rfl (by decide) (by decide) (by decide) 0 10 rfl rfl GG.fb hG.at hl.1 rfl (Nat.le_of_ble_eq_true rfl) ⟨(Nat.le_of_ble_eq_true rfl), (Nat.le_of_ble_eq_true rfl)⟩ ⟨(Nat.le_of_ble_eq_true rfl), (Nat.le_of_ble_eq_true rfl)⟩ (fun r329 u H locs hp hP hD hS => ?_)
    obtain ⟨t330, t331, rfl⟩ := hp
    have hP : va_P D vwCl [(h0, .inr (10, vL 67 G1)), (h_tape, .inl (cB, 940, .inl f_tape))] H := hP
    have hD : va_D A [(h0, .inr (10, vL 67 G1)), (h_tape, .inl (cB, 940, .inl f_tape))] := hD
    refine W.widen (k := 0) (n := 0) (Nat.le_of_ble_eq_true rfl) (Nat.le_of_ble_eq_true rfl) ?_
    refine lv_bipush (v := 10) hx hb dX10_next_13 (by decide) ?_
    refine lv_icmp_ne (tgt := 31) hx hb dX10_next_15 (by decide) (fun c333 => ?_) (fun c333 => ?_)
    · have dc333 : r329.toInt ≠ 10 := ne_i (a := r329.toInt) (b := 10) rfl rfl c333
      exact cut3 G1 u2 (SAME.tr SAME.rf i313 (by decide)) i314 i315 (by show x_p.toInt ≤ u2.toInt; omega) (show sk f_tape (x_size.toInt).toNat (x_p.toInt).toNat = sk f_tape (x_size.toInt).toNat (u2.toInt).toNat from i317) (show sk f_tape (x_size.toInt).toNat (u2.toInt).toNat = (u2.toInt).toNat from (sk_stop (by omega))) _ _ _ hP hD hS (lv_sub hl [0] rfl)
    · have dc333 : r329.toInt = 10 := eq_i (a := r329.toInt) (b := 10) rfl rfl c333
      have k334 : 10 ≤ r329.toInt ∧ r329.toInt ≤ 10 := ⟨Int.le_trans (Int.le_refl _) (Int.le_of_eq dc333.symm), Int.le_trans (Int.le_of_eq dc333) (Int.le_refl _)⟩
      refine lv_aload_n hx hb dX10_next_18 rfl (lv_at hl 0 rfl) ?_
      refine lv_dup hx hb dX10_next_19 rfl ?_
      refine get_f (D := D) (ci := 10) (v := .int u2) (C := RX10) (T := TX10) (N := 67) hx hb hw inAX10 hown hK hP 0 rfl rfl 4 (by decide) (hw _ q_1265) (fun _ h9 => h9) i314 dX10_next_20 ?_
      refine lv_iconst (v := 1) hx hb dX10_next_23 (by decide) ?_
      refine lv_iadd hx hb dX10_next_24 ?_
      refine lv_topi (fun v335 ev335 => ?_)
      have bv335 : v335.toInt = u2.toInt + 1 := by rw [ev335]; exact add_k rfl rfl i315 ⟨Int.le_refl _, Int.le_refl _⟩ (by decide)
      have k336 : 1 ≤ v335.toInt ∧ v335.toInt ≤ 941 := add_r bv335 i315 ⟨Int.le_refl _, Int.le_refl _⟩ (by decide)
      refine put_f (D := D) (ci := 10) (v := .int v335) (ty := .int) (C := RX10) (T := TX10) (N := 67) hx hb hw inAX10 tyX10 tyX10_ok nmX10 hown hK hP hD hS 0 rfl rfl 4 (by decide) (hw _ q_1265) (fun _ h9 => h9) rfl (by decide +kernel) rfl rfl dX10_next_25 (fun H locs F337 eF337 hP hD hS => ?_)
      have hP : va_P D vwCl [(h0, .inr (10, vL 67 F337)), (h_tape, .inl (cB, 940, .inl f_tape))] H := hP
      have hD : va_D A [(h0, .inr (10, vL 67 F337)), (h_tape, .inl (cB, 940, .inl f_tape))] := hD
      refine lv_goto (tgt := 0) hx hb dX10_next_28 (by decide) ?_
      exact ih (F337, v335) ⟨(SAME.up eF337 (SAME.tr SAME.rf i313 (by decide)) (by decide)), (get_eq eF337), (show 0 ≤ v335.toInt ∧ v335.toInt ≤ 940 from ⟨by omega, by omega⟩), (by show x_p.toInt ≤ v335.toInt; omega), (show sk f_tape (x_size.toInt).toNat (x_p.toInt).toNat = sk f_tape (x_size.toInt).toNat (v335.toInt).toNat from (i317.trans (by rw [show (v335.toInt).toNat = (u2.toInt).toNat + 1 by omega]; exact sk_step (by omega) (by omega))))⟩ (by show (x_size.toInt - v335.toInt).toNat < (x_size.toInt - u2.toInt).toNat; omega) _ _ _ hP hD hS (lv_sub hl [0] rfl)
set_option maxHeartbeats 4000000 in
set_option maxRecDepth 100000 in
theorem m_X10_bad (l : Launch) (D : va_G) (cI cJ cB cP cM cZ : ClassId) (h0 : Nat) (Fh : Nat → Value) (x_at : Int32) (p0 : Int32) (sz : Nat) (e_at : Fh 12 = .int x_at) : CI l yX10_bad cX10_bad 2 (some .boolean) { frames := 0, cells := 0, slots := 0, locals := 0 } (GG D cI cJ cB cP cM cZ) D [(h0, .inr (10, vL 67 Fh))] sz [.ref h0, .int p0] (fun (r : Int32) (u : va_W) => ∃ (Gh : Nat → Value), SAME [15, 16] Fh Gh ∧ Gh 15 = .int p0 ∧ Gh 16 = .int x_at ∧ r = 0 ∧ u = [(h0, .inr (10, vL 67 Gh))]) := by
  refine CI_mk (by decide) (Nat.le_of_ble_eq_true rfl) ?_
  intro p e s m below meth c A ls E hAe hG hsz hP hD hA hS hl
  obtain ⟨hx, hb, hr, hw, hown, hlocks, hml, hnm⟩ := E
  have hK := hG.1
  have hl : lv_has ls 2 [(0, .ref h0), (1, .int p0)] := hl
  refine lv_aload_n hx hb dX10_bad_0 rfl (lv_at hl 0 rfl) ?_
  refine lv_iload_n hx hb dX10_bad_1 rfl (lv_at hl 1 rfl) ?_
  refine put_f (D := D) (ci := 10) (v := .int p0) (ty := .int) (C := RX10) (T := TX10) (N := 67) hx hb hw inAX10 tyX10 tyX10_ok nmX10 hown hK hP hD hS 0 rfl rfl 15 (by decide) (hw _ q_1276) (fun _ h9 => h9) rfl (by decide +kernel) rfl rfl dX10_bad_2 (fun H locs F1 eF1 hP hD hS => ?_)
  have hP : va_P D vwCl [(h0, .inr (10, vL 67 F1))] H := hP
  have hD : va_D A [(h0, .inr (10, vL 67 F1))] := hD
  refine lv_aload_n hx hb dX10_bad_5 rfl (lv_at hl 0 rfl) ?_
  refine lv_aload_n hx hb dX10_bad_6 rfl (lv_at hl 0 rfl) ?_
  have n2 : F1 12 = .int x_at := (get_ne eF1 (by decide) e_at)
  refine get_f (D := D) (ci := 10) (v := .int x_at) (C := RX10) (T := TX10) (N := 67) hx hb hw inAX10 hown hK hP 0 rfl rfl 12 (by decide) (hw _ q_1273) (fun _ h9 => h9) n2 dX10_bad_7 ?_
  refine put_f (D := D) (ci := 10) (v := .int x_at) (ty := .int) (C := RX10) (T := TX10) (N := 67) hx hb hw inAX10 tyX10 tyX10_ok nmX10 hown hK hP hD hS 0 rfl rfl 16 (by decide) (hw _ q_1277) (fun _ h9 => h9) rfl (by decide +kernel) rfl rfl dX10_bad_10 (fun H locs F3 eF3 hP hD hS => ?_)
  have hP : va_P D vwCl [(h0, .inr (10, vL 67 F3))] H := hP
  have hD : va_D A [(h0, .inr (10, vL 67 F3))] := hD
  refine lv_iconst (v := 0) hx hb dX10_bad_13 (by decide) ?_
  exact ret_i (v := 0) hx hb hr hlocks hS hP hD dX10_bad_14 rfl (Nat.le_of_ble_eq_true rfl) (Nat.le_of_ble_eq_true rfl) ⟨F3, (SAME.up eF3 (SAME.up eF1 SAME.rf (by decide)) (by decide)), (get_ne eF3 (by decide) (get_eq eF1)), (get_eq eF3), rfl, rfl⟩
set_option maxHeartbeats 4000000 in
set_option maxRecDepth 100000 in
theorem m_X10_isWord (l : Launch) (D : va_G) (cI cJ cB cP cM cZ : ClassId) (h0 : Nat) (Fh : Nat → Value) (x_token : Int32) (x_number : Int32) (x_word : Int64) (p0 : Int64) (sz : Nat) (e_token : Fh 11 = .int x_token) (i_x_token : IR 0 4 x_token) (e_number : Fh 14 = .int x_number) (e_word : Fh 18 = .long x_word) (o_0 : (x_token.toInt = 2 → 0 ≤ x_number.toInt ∧ x_number.toInt ≤ 999)) : CI l yX10_isWord cX10_isWord 3 (some .boolean) { frames := 0, cells := 0, slots := 0, locals := 0 } (GG D cI cJ cB cP cM cZ) D [(h0, .inr (10, vL 67 Fh))] sz [.ref h0, .long p0] (fun (r : Int32) (u : va_W) => IR 0 1 r ∧ ((r.toInt = 1 ∧ x_token.toInt = 1 ∧ x_word.toInt = p0.toInt) ∨ (r.toInt = 0 ∧ ¬ (x_token.toInt = 1 ∧ x_word.toInt = p0.toInt))) ∧ u = [(h0, .inr (10, vL 67 Fh))]) := by
  refine CI_mk (by decide) (Nat.le_of_ble_eq_true rfl) ?_
  intro p e s m below meth c A ls E hAe hG hsz hP hD hA hS hl
  obtain ⟨hx, hb, hr, hw, hown, hlocks, hml, hnm⟩ := E
  have hK := hG.1
  have i_x_token : 0 ≤ x_token.toInt ∧ x_token.toInt ≤ 4 := i_x_token
  have hl : lv_has ls 3 [(0, .ref h0), (1, .long p0)] := hl
  refine lv_aload_n hx hb dX10_isWord_0 rfl (lv_at hl 0 rfl) ?_
  refine get_f (D := D) (ci := 10) (v := .int x_token) (C := RX10) (T := TX10) (N := 67) hx hb hw inAX10 hown hK hP 0 rfl rfl 11 (by decide) (hw _ q_1272) (fun _ h9 => h9) e_token dX10_isWord_1 ?_
  refine lv_iconst (v := 1) hx hb dX10_isWord_4 (by decide) ?_
  refine lv_icmp_ne (tgt := 21) hx hb dX10_isWord_5 (by decide) (fun c1 => ?_) (fun c1 => ?_)
  · have dc1 : x_token.toInt ≠ 1 := ne_i (a := x_token.toInt) (b := 1) rfl rfl c1
    refine lv_iconst (v := 0) hx hb dX10_isWord_21 (by decide) ?_
    exact ret_i (v := 0) hx hb hr hlocks hS hP hD dX10_isWord_22 rfl (Nat.le_of_ble_eq_true rfl) (Nat.le_of_ble_eq_true rfl) ⟨(show 0 ≤ (0 : Int32).toInt ∧ (0 : Int32).toInt ≤ 1 by decide), (by have zl0 : (0 : Int32).toInt = 0 := (by decide); omega), rfl⟩
  · have dc1 : x_token.toInt = 1 := eq_i (a := x_token.toInt) (b := 1) rfl rfl c1
    have k2 : 1 ≤ x_token.toInt ∧ x_token.toInt ≤ 1 := ⟨Int.le_trans (Int.le_refl _) (Int.le_of_eq dc1.symm), Int.le_trans (Int.le_of_eq dc1) (Int.le_refl _)⟩
    refine lv_aload_n hx hb dX10_isWord_8 rfl (lv_at hl 0 rfl) ?_
    refine get_f (D := D) (ci := 10) (v := .long x_word) (C := RX10) (T := TX10) (N := 67) hx hb hw inAX10 hown hK hP 0 rfl rfl 18 (by decide) (hw _ q_1279) (fun _ h9 => h9) e_word dX10_isWord_9 ?_
    refine lv_lload_n hx hb dX10_isWord_12 rfl (lv_at hl 1 rfl) ?_
    refine W.lcmp hx hb dX10_isWord_13 ?_
    refine lv_topi (fun v3 ev3 => ?_)
    have bv3 : v3.toInt = 0 ↔ (x_word : Int64) = p0 := by rw [ev3]; exact lc0
    have av3 : v3.toInt = 0 ↔ (x_word : Int64).toInt = (p0 : Int64).toInt := by rw [ev3]; exact lc1
    refine lv_if_ne (tgt := 21) hx hb dX10_isWord_14 (by decide) (fun c4 => ?_) (fun c4 => ?_)
    · have dc4 : v3.toInt ≠ 0 := ne_i (a := v3.toInt) (b := 0) rfl rfl c4
      refine lv_iconst (v := 0) hx hb dX10_isWord_21 (by decide) ?_
      exact ret_i (v := 0) hx hb hr hlocks hS hP hD dX10_isWord_22 rfl (Nat.le_of_ble_eq_true rfl) (Nat.le_of_ble_eq_true rfl) ⟨(show 0 ≤ (0 : Int32).toInt ∧ (0 : Int32).toInt ≤ 1 by decide), (by have zl0 : (0 : Int32).toInt = 0 := (by decide); omega), rfl⟩
    · have dc4 : v3.toInt = 0 := eq_i (a := v3.toInt) (b := 0) rfl rfl c4
      have k5 : 0 ≤ v3.toInt ∧ v3.toInt ≤ 0 := ⟨Int.le_trans (Int.le_refl _) (Int.le_of_eq dc4.symm), Int.le_trans (Int.le_of_eq dc4) (Int.le_refl _)⟩
      refine lv_iconst (v := 1) hx hb dX10_isWord_17 (by decide) ?_
      refine lv_goto (tgt := 22) hx hb dX10_isWord_18 (by decide) ?_
      exact ret_i (v := 1) hx hb hr hlocks hS hP hD dX10_isWord_22 rfl (Nat.le_of_ble_eq_true rfl) (Nat.le_of_ble_eq_true rfl) ⟨(show 0 ≤ (1 : Int32).toInt ∧ (1 : Int32).toInt ≤ 1 by decide), (by have zl1 : (1 : Int32).toInt = 1 := (by decide); omega), rfl⟩
set_option maxHeartbeats 4000000 in
set_option maxRecDepth 100000 in
theorem m_X10_isSign (l : Launch) (D : va_G) (cI cJ cB cP cM cZ : ClassId) (h0 : Nat) (Fh : Nat → Value) (x_token : Int32) (x_number : Int32) (p0 : Int32) (sz : Nat) (e_token : Fh 11 = .int x_token) (i_x_token : IR 0 4 x_token) (e_number : Fh 14 = .int x_number) (o_0 : (x_token.toInt = 2 → 0 ≤ x_number.toInt ∧ x_number.toInt ≤ 999)) : CI l yX10_isSign cX10_isSign 2 (some .boolean) { frames := 0, cells := 0, slots := 0, locals := 0 } (GG D cI cJ cB cP cM cZ) D [(h0, .inr (10, vL 67 Fh))] sz [.ref h0, .int p0] (fun (r : Int32) (u : va_W) => IR 0 1 r ∧ ((r.toInt = 1 ∧ x_token.toInt = 3 ∧ x_number.toInt = p0.toInt) ∨ (r.toInt = 0 ∧ ¬ (x_token.toInt = 3 ∧ x_number.toInt = p0.toInt))) ∧ u = [(h0, .inr (10, vL 67 Fh))]) := by
  refine CI_mk (by decide) (Nat.le_of_ble_eq_true rfl) ?_
  intro p e s m below meth c A ls E hAe hG hsz hP hD hA hS hl
  obtain ⟨hx, hb, hr, hw, hown, hlocks, hml, hnm⟩ := E
  have hK := hG.1
  have i_x_token : 0 ≤ x_token.toInt ∧ x_token.toInt ≤ 4 := i_x_token
  have hl : lv_has ls 2 [(0, .ref h0), (1, .int p0)] := hl
  refine lv_aload_n hx hb dX10_isSign_0 rfl (lv_at hl 0 rfl) ?_
  refine get_f (D := D) (ci := 10) (v := .int x_token) (C := RX10) (T := TX10) (N := 67) hx hb hw inAX10 hown hK hP 0 rfl rfl 11 (by decide) (hw _ q_1272) (fun _ h9 => h9) e_token dX10_isSign_1 ?_
  refine lv_iconst (v := 3) hx hb dX10_isSign_4 (by decide) ?_
  refine lv_icmp_ne (tgt := 20) hx hb dX10_isSign_5 (by decide) (fun c1 => ?_) (fun c1 => ?_)
  · have dc1 : x_token.toInt ≠ 3 := ne_i (a := x_token.toInt) (b := 3) rfl rfl c1
    refine lv_iconst (v := 0) hx hb dX10_isSign_20 (by decide) ?_
    exact ret_i (v := 0) hx hb hr hlocks hS hP hD dX10_isSign_21 rfl (Nat.le_of_ble_eq_true rfl) (Nat.le_of_ble_eq_true rfl) ⟨(show 0 ≤ (0 : Int32).toInt ∧ (0 : Int32).toInt ≤ 1 by decide), (by have zl0 : (0 : Int32).toInt = 0 := (by decide); omega), rfl⟩
  · have dc1 : x_token.toInt = 3 := eq_i (a := x_token.toInt) (b := 3) rfl rfl c1
    have k2 : 3 ≤ x_token.toInt ∧ x_token.toInt ≤ 3 := ⟨Int.le_trans (Int.le_refl _) (Int.le_of_eq dc1.symm), Int.le_trans (Int.le_of_eq dc1) (Int.le_refl _)⟩
    refine lv_aload_n hx hb dX10_isSign_8 rfl (lv_at hl 0 rfl) ?_
    refine get_f (D := D) (ci := 10) (v := .int x_number) (C := RX10) (T := TX10) (N := 67) hx hb hw inAX10 hown hK hP 0 rfl rfl 14 (by decide) (hw _ q_1275) (fun _ h9 => h9) e_number dX10_isSign_9 ?_
    refine lv_iload_n hx hb dX10_isSign_12 rfl (lv_at hl 1 rfl) ?_
    refine lv_icmp_ne (tgt := 20) hx hb dX10_isSign_13 (by decide) (fun c3 => ?_) (fun c3 => ?_)
    · have dc3 : x_number.toInt ≠ p0.toInt := ne_i (a := x_number.toInt) (b := p0.toInt) rfl rfl c3
      refine lv_iconst (v := 0) hx hb dX10_isSign_20 (by decide) ?_
      exact ret_i (v := 0) hx hb hr hlocks hS hP hD dX10_isSign_21 rfl (Nat.le_of_ble_eq_true rfl) (Nat.le_of_ble_eq_true rfl) ⟨(show 0 ≤ (0 : Int32).toInt ∧ (0 : Int32).toInt ≤ 1 by decide), (by have zl0 : (0 : Int32).toInt = 0 := (by decide); omega), rfl⟩
    · have dc3 : x_number.toInt = p0.toInt := eq_i (a := x_number.toInt) (b := p0.toInt) rfl rfl c3
      refine lv_iconst (v := 1) hx hb dX10_isSign_16 (by decide) ?_
      refine lv_goto (tgt := 21) hx hb dX10_isSign_17 (by decide) ?_
      exact ret_i (v := 1) hx hb hr hlocks hS hP hD dX10_isSign_21 rfl (Nat.le_of_ble_eq_true rfl) (Nat.le_of_ble_eq_true rfl) ⟨(show 0 ≤ (1 : Int32).toInt ∧ (1 : Int32).toInt ≤ 1 by decide), (by have zl1 : (1 : Int32).toInt = 1 := (by decide); omega), rfl⟩
set_option maxHeartbeats 4000000 in
set_option maxRecDepth 100000 in
theorem m_X10_sign (l : Launch) (D : va_G) (cI cJ cB cP cM cZ : ClassId) (h0 : Nat) (h_tape : Nat) (Fh : Nat → Value) (x_size : Int32) (x_p : Int32) (x_limit : Int32) (x_token : Int32) (x_at : Int32) (x_number : Int32) (x_fault : Int32) (x_faultAt : Int32) (x_word : Int64) (f_tape : Nat → Int32) (p0 : Int32) (sz : Nat) (e_tape : Fh 1 = .ref h_tape) (e_size : Fh 3 = .int x_size) (i_x_size : IR 0 940 x_size) (e_p : Fh 4 = .int x_p) (i_x_p : IR 0 940 x_p) (e_limit : Fh 5 = .int x_limit) (i_x_limit : IR 200 940 x_limit) (e_token : Fh 11 = .int x_token) (i_x_token : IR 0 4 x_token) (e_at : Fh 12 = .int x_at) (e_number : Fh 14 = .int x_number) (e_fault : Fh 15 = .int x_fault) (e_faultAt : Fh 16 = .int x_faultAt) (e_word : Fh 18 = .long x_word) (o_0 : (x_token.toInt = 2 → 0 ≤ x_number.toInt ∧ x_number.toInt ≤ 999)) : CI l yX10_sign cX10_sign 2 (some .boolean) { frames := 2, cells := 0, slots := 0, locals := 43 } (GG D cI cJ cB cP cM cZ) D [(h0, .inr (10, vL 67 Fh)), (h_tape, .inl (cB, 940, .inl f_tape))] sz [.ref h0, .int p0] (fun (r : Int32) (u : va_W) => (∃ (Gh : Nat → Value) (y_p : Int32) (y_token : Int32) (y_at : Int32) (y_span : Int32) (y_number : Int32) (y_word : Int64), SAME [4, 11, 12, 13, 14, 18] Fh Gh ∧ Gh 4 = .int y_p ∧ IR 0 940 y_p ∧ Gh 11 = .int y_token ∧ IR 0 4 y_token ∧ Gh 12 = .int y_at ∧ IR 0 940 y_at ∧ Gh 13 = .int y_span ∧ IR 0 940 y_span ∧ Gh 14 = .int y_number ∧ Gh 18 = .long y_word ∧ (x_token.toInt = 3 ∧ x_p.toInt ≤ y_p.toInt) ∧ ((1 ≤ y_token.toInt → y_token.toInt ≤ 3 → x_p.toInt < y_p.toInt)) ∧ (sgn (tkA f_tape x_size.toInt x_limit.toInt) (tkM x_token x_at x_number x_word x_p) p0.toInt = .inr (tkM y_token y_at y_number y_word y_p)) ∧ ((VWF y_token.toInt y_word.toInt)) ∧ ((y_token.toInt = 2 → 0 ≤ y_number.toInt ∧ y_number.toInt ≤ 999)) ∧ r = 1 ∧ u = [(h0, .inr (10, vL 67 Gh)), (h_tape, .inl (cB, 940, .inl f_tape))]) ∨ (∃ (Gh : Nat → Value) (y_fault : Int32) (y_faultAt : Int32), SAME [15, 16] Fh Gh ∧ Gh 15 = .int y_fault ∧ IR 1 1 y_fault ∧ Gh 16 = .int y_faultAt ∧ (sgn (tkA f_tape x_size.toInt x_limit.toInt) (tkM x_token x_at x_number x_word x_p) p0.toInt = .inl (y_fault.toInt, y_faultAt.toInt)) ∧ ((x_token.toInt = 2 → 0 ≤ x_number.toInt ∧ x_number.toInt ≤ 999)) ∧ r = 0 ∧ u = [(h0, .inr (10, vL 67 Gh)), (h_tape, .inl (cB, 940, .inl f_tape))])) := by
  refine CI_mk (by decide) (Nat.le_of_ble_eq_true rfl) ?_
  intro p e s m below meth c A ls E hAe hG hsz hP hD hA hS hl
  obtain ⟨hx, hb, hr, hw, hown, hlocks, hml, hnm⟩ := E
  have hK := hG.1
  have i_x_size : 0 ≤ x_size.toInt ∧ x_size.toInt ≤ 940 := i_x_size
  have i_x_p : 0 ≤ x_p.toInt ∧ x_p.toInt ≤ 940 := i_x_p
  have i_x_limit : 200 ≤ x_limit.toInt ∧ x_limit.toInt ≤ 940 := i_x_limit
  have i_x_token : 0 ≤ x_token.toInt ∧ x_token.toInt ≤ 4 := i_x_token
  have hl : lv_has ls 2 [(0, .ref h0), (1, .int p0)] := hl
  refine lv_aload_n hx hb dX10_sign_0 rfl (lv_at hl 0 rfl) ?_
  refine lv_iload_n hx hb dX10_sign_1 rfl (lv_at hl 1 rfl) ?_
  refine call_Vi (wr := [(h_tape, .inl (cB, 940, .inl f_tape))]) (As := [.int p0]) (rest := []) hx hb hml hown hw (m_X10_isSign l D cI cJ cB cP cM cZ h0 Fh x_token x_number p0 _ e_token i_x_token e_number (by omega)) wV_X10_202_X10_isSign dX10_sign_2 hK hP hD hS hA [0] [1] rfl rfl (by decide) (by decide) (by decide) 0 10 rfl rfl GG.fb hG.at hl.1 rfl (Nat.le_of_ble_eq_true rfl) ⟨(Nat.le_of_ble_eq_true rfl), (Nat.le_of_ble_eq_true rfl)⟩ ⟨(Nat.le_of_ble_eq_true rfl), (Nat.le_of_ble_eq_true rfl)⟩ (fun r1 u H locs hp hP hD hS => ?_)
  obtain ⟨t2, t3, rfl⟩ := hp
  have hP : va_P D vwCl [(h_tape, .inl (cB, 940, .inl f_tape)), (h0, .inr (10, vL 67 Fh))] H := hP
  have hD : va_D A [(h_tape, .inl (cB, 940, .inl f_tape)), (h0, .inr (10, vL 67 Fh))] := hD
  refine W.widen (k := 0) (n := 0) (Nat.le_of_ble_eq_true rfl) (Nat.le_of_ble_eq_true rfl) ?_
  refine lv_if_ne (tgt := 14) hx hb dX10_sign_5 (by decide) (fun c5 => ?_) (fun c5 => ?_)
  · have dc5 : r1.toInt ≠ 0 := ne_i (a := r1.toInt) (b := 0) rfl rfl c5
    have k6 : 1 ≤ r1.toInt ∧ r1.toInt ≤ 1 := ⟨ne_lo dc5 t2.1 ⟨Int.le_refl _, Int.le_refl _⟩ (by decide), t2.2⟩
    refine lv_aload_n hx hb dX10_sign_14 rfl (lv_at hl 0 rfl) ?_
    refine call_Vv (wr := []) (As := []) (rest := []) hx hb hml hown hw (m_X10_next l D cI cJ cB cP cM cZ h0 h_tape Fh x_size x_p x_limit x_token x_at x_number x_word f_tape _ e_tape e_size i_x_size e_p i_x_p e_limit i_x_limit e_token i_x_token e_at e_number e_word (by omega)) wV_X10_208_X10_next dX10_sign_15 hK hP hD hS hA [1, 0] [] rfl rfl (by decide) (by decide) (by decide) 0 10 rfl rfl GG.fb hG.at hl.1 rfl (Nat.le_of_ble_eq_true rfl) ⟨(Nat.le_of_ble_eq_true rfl), (Nat.le_of_ble_eq_true rfl)⟩ ⟨(Nat.le_of_ble_eq_true rfl), (Nat.le_of_ble_eq_true rfl)⟩ (fun u H locs hp hP hD hS => ?_)
    obtain ⟨F8, y9, y10, y11, y12, y13, y14, t15, t16, t17, t18, t19, t20, t21, t22, t23, t24, t25, t26, t27, t28, t29, t30, rfl⟩ := hp
    have hP : va_P D vwCl [(h0, .inr (10, vL 67 F8)), (h_tape, .inl (cB, 940, .inl f_tape))] H := hP
    have hD : va_D A [(h0, .inr (10, vL 67 F8)), (h_tape, .inl (cB, 940, .inl f_tape))] := hD
    refine W.widen (k := 0) (n := 0) (Nat.le_of_ble_eq_true rfl) (Nat.le_of_ble_eq_true rfl) ?_
    refine lv_iconst (v := 1) hx hb dX10_sign_18 (by decide) ?_
    exact ret_i (v := 1) hx hb hr hlocks hS hP hD dX10_sign_19 rfl (Nat.le_of_ble_eq_true rfl) (Nat.le_of_ble_eq_true rfl) (Or.inl ⟨F8, y9, y10, y11, y12, y13, y14, (SAME.tr SAME.rf t15 (by decide)), t16, t17, t18, t19, t20, t21, t22, t23, t24, t25, (by have zl1 : (1 : Int32).toInt = 1 := (by decide); omega), (by have zl1 : (1 : Int32).toInt = 1 := (by decide); omega), (sgnM_1 (by omega) (by omega) t28), t29, (by omega), rfl, rfl⟩)
  · have dc5 : r1.toInt = 0 := eq_i (a := r1.toInt) (b := 0) rfl rfl c5
    have k32 : 0 ≤ r1.toInt ∧ r1.toInt ≤ 0 := ⟨t2.1, Int.le_trans (Int.le_of_eq dc5) (Int.le_refl _)⟩
    refine lv_aload_n hx hb dX10_sign_8 rfl (lv_at hl 0 rfl) ?_
    refine lv_iconst (v := 1) hx hb dX10_sign_9 (by decide) ?_
    refine call_Vi (wr := [(h_tape, .inl (cB, 940, .inl f_tape))]) (As := [.int 1]) (rest := []) hx hb hml hown hw (m_X10_bad l D cI cJ cB cP cM cZ h0 Fh x_at 1 _ e_at) wV_X10_205_X10_bad dX10_sign_10 hK hP hD hS hA [1] [0] rfl rfl (by decide) (by decide) (by decide) 0 10 rfl rfl GG.fb hG.at hl.1 rfl (Nat.le_of_ble_eq_true rfl) ⟨(Nat.le_of_ble_eq_true rfl), (Nat.le_of_ble_eq_true rfl)⟩ ⟨(Nat.le_of_ble_eq_true rfl), (Nat.le_of_ble_eq_true rfl)⟩ (fun r33 u H locs hp hP hD hS => ?_)
    have zl1 : (1 : Int32).toInt = 1 := by decide
    obtain ⟨F34, t35, t36, t37, rfl, rfl⟩ := hp
    have hP : va_P D vwCl [(h_tape, .inl (cB, 940, .inl f_tape)), (h0, .inr (10, vL 67 F34))] H := hP
    have hD : va_D A [(h_tape, .inl (cB, 940, .inl f_tape)), (h0, .inr (10, vL 67 F34))] := hD
    refine W.widen (k := 0) (n := 0) (Nat.le_of_ble_eq_true rfl) (Nat.le_of_ble_eq_true rfl) ?_
    exact ret_i (v := 0) hx hb hr hlocks hS (hP.sub (ws' := [(h0, .inr (10, vL 67 F34)), (h_tape, .inl (cB, 940, .inl f_tape))]) [1, 0] rfl) (hD.sub (ws' := [(h0, .inr (10, vL 67 F34)), (h_tape, .inl (cB, 940, .inl f_tape))]) [1, 0] (by decide) rfl) dX10_sign_13 rfl (Nat.le_of_ble_eq_true rfl) (Nat.le_of_ble_eq_true rfl) (Or.inr ⟨F34, 1, x_at, (SAME.tr SAME.rf t35 (by decide)), t36, (show 1 ≤ (1 : Int32).toInt ∧ (1 : Int32).toInt ≤ 1 by decide), t37, (sgnM_0 (by omega) (by decide) rfl), (by have zl1 : (1 : Int32).toInt = 1 := (by decide); omega), rfl, rfl⟩)
set_option maxHeartbeats 4000000 in
set_option maxRecDepth 100000 in
theorem m_X10_isName (l : Launch) (D : va_G) (cI cJ cB cP cM cZ : ClassId) (h0 : Nat) (h_reserved : Nat) (Fh : Nat → Value) (x_token : Int32) (x_number : Int32) (x_word : Int64) (f_reserved : Nat → Int64) (sz : Nat) (e_reserved : Fh 10 = .ref h_reserved) (e_token : Fh 11 = .int x_token) (i_x_token : IR 0 4 x_token) (e_number : Fh 14 = .int x_number) (e_word : Fh 18 = .long x_word) (s_reserved_KR : KRN f_reserved) (z_0 : (VWF x_token.toInt x_word.toInt)) (o_0 : (x_token.toInt = 2 → 0 ≤ x_number.toInt ∧ x_number.toInt ≤ 999)) : CI l yX10_isName cX10_isName 3 (some .boolean) { frames := 0, cells := 0, slots := 0, locals := 0 } (GG D cI cJ cB cP cM cZ) D [(h0, .inr (10, vL 67 Fh)), (h_reserved, .inl (cJ, 23, .inr (.inl f_reserved)))] sz [.ref h0] (fun (r : Int32) (u : va_W) => IR 0 1 r ∧ ((r.toInt = 1 ∧ x_token.toInt = 1 ∧ wix (g27 x_word.toInt) = -1) ∨ (r.toInt = 0 ∧ ¬ (x_token.toInt = 1 ∧ wix (g27 x_word.toInt) = -1))) ∧ u = [(h0, .inr (10, vL 67 Fh)), (h_reserved, .inl (cJ, 23, .inr (.inl f_reserved)))]) := by
  refine CI_mk (by decide) (Nat.le_of_ble_eq_true rfl) ?_
  intro p e s m below meth c A ls E hAe hG hsz hP hD hA hS hl
  obtain ⟨hx, hb, hr, hw, hown, hlocks, hml, hnm⟩ := E
  have hK := hG.1
  have i_x_token : 0 ≤ x_token.toInt ∧ x_token.toInt ≤ 4 := i_x_token
  have hl : lv_has ls 3 [(0, .ref h0)] := hl
  refine lv_aload_n hx hb dX10_isName_0 rfl (lv_at hl 0 rfl) ?_
  refine get_f (D := D) (ci := 10) (v := .int x_token) (C := RX10) (T := TX10) (N := 67) hx hb hw inAX10 hown hK hP 0 rfl rfl 11 (by decide) (hw _ q_1272) (fun _ h9 => h9) e_token dX10_isName_1 ?_
  refine lv_iconst (v := 1) hx hb dX10_isName_4 (by decide) ?_
  refine lv_icmp_ne (tgt := 12) hx hb dX10_isName_5 (by decide) (fun c1 => ?_) (fun c1 => ?_)
  · have dc1 : x_token.toInt ≠ 1 := ne_i (a := x_token.toInt) (b := 1) rfl rfl c1
    refine lv_iconst (v := 0) hx hb dX10_isName_12 (by decide) ?_
    refine lv_istore_n (lv' := [(1, .int 0), (0, .ref h0)]) hx hb dX10_isName_13 rfl hl (by decide) rfl (fun ls hl => ?_)
    refine lv_iconst (v := 0) hx hb dX10_isName_14 (by decide) ?_
    refine lv_istore_n (lv' := [(2, .int 0), (1, .int 0), (0, .ref h0)]) hx hb dX10_isName_15 rfl hl (by decide) rfl (fun ls hl => ?_)
    refine mloop (α := (Int32) × (Int32)) (nL := 3) (D := D) (A := A) (H0 := s.heap) (fun a => (23 - a.1.toInt).toNat) (fun a => IR 0 23 a.1 ∧ IR 0 1 a.2 ∧ (ISN f_reserved x_token.toInt x_word.toInt a.2.toInt a.1.toInt)) (fun a => [(h0, .inr (10, vL 67 Fh)), (h_reserved, .inl (cJ, 23, .inr (.inl f_reserved)))]) (fun a => [(2, .int a.1), (1, .int a.2), (0, .ref h0)]) (fun H locs ls => W p l e ({ frames := 0, cells := 0, slots := 0, locals := 0 } : Room) s m [.ref h0].toArray below meth c H locs 0 0 (MQ below (va_Qi (fun (r : Int32) (u : va_W) => IR 0 1 r ∧ ((r.toInt = 1 ∧ x_token.toInt = 1 ∧ wix (g27 x_word.toInt) = -1) ∨ (r.toInt = 0 ∧ ¬ (x_token.toInt = 1 ∧ wix (g27 x_word.toInt) = -1))) ∧ u = [(h0, .inr (10, vL 67 Fh)), (h_reserved, .inl (cJ, 23, .inr (.inl f_reserved)))]) (PO D A) A) [.ref h0].toArray s 0 0 A) (F0 m 16 ls [])) ?_ (0, 0) ⟨(show 0 ≤ (0 : Int32).toInt ∧ (0 : Int32).toInt ≤ 23 by decide), (show 0 ≤ (0 : Int32).toInt ∧ (0 : Int32).toInt ≤ 1 by decide), (show ISN f_reserved x_token.toInt x_word.toInt 0 0 from (ISN.zero (by first | omega | decide)))⟩ _ _ _ hP hD hS hl
    rintro ⟨u2, u3⟩ ⟨i4, i5, i6⟩ ih H locs ls hP hD hS hl
    have i4 : 0 ≤ u2.toInt ∧ u2.toInt ≤ 23 := i4
    have i5 : 0 ≤ u3.toInt ∧ u3.toInt ≤ 1 := i5
    have i6 : ISN f_reserved x_token.toInt x_word.toInt u3.toInt u2.toInt := i6
    have hP : va_P D vwCl [(h0, .inr (10, vL 67 Fh)), (h_reserved, .inl (cJ, 23, .inr (.inl f_reserved)))] H := hP
    have hD : va_D A [(h0, .inr (10, vL 67 Fh)), (h_reserved, .inl (cJ, 23, .inr (.inl f_reserved)))] := hD
    have hl : lv_has ls 3 [(2, .int u2), (1, .int u3), (0, .ref h0)] := hl
    refine lv_iload_n hx hb dX10_isName_16 rfl (lv_at hl 0 rfl) ?_
    refine lv_bipush (v := 23) hx hb dX10_isName_17 (by decide) ?_
    refine lv_icmp_ge (tgt := 52) hx hb dX10_isName_19 (by decide) (fun c7 => ?_) (fun c7 => ?_)
    · have dc7 : 23 ≤ u2.toInt := le_i (a := 23) (b := u2.toInt) rfl rfl c7
      have k8 : 23 ≤ u2.toInt ∧ u2.toInt ≤ 23 := ⟨Int.le_trans (Int.le_refl _) dc7, i4.2⟩
      refine lv_iload_n hx hb dX10_isName_52 rfl (lv_at hl 1 rfl) ?_
      exact ret_i (v := u3) hx hb hr hlocks hS hP hD dX10_isName_53 (nz_i i5.1 i5.2) (Nat.le_of_ble_eq_true rfl) (Nat.le_of_ble_eq_true rfl) ⟨i5, (ISN.fin i6 (by omega) s_reserved_KR z_0), rfl⟩
    · have dc7 : u2.toInt < 23 := nle_i (a := 23) (b := u2.toInt) rfl rfl c7
      have k9 : 0 ≤ u2.toInt ∧ u2.toInt ≤ 22 := ⟨i4.1, up_lt dc7 (Int.le_refl _) (by decide)⟩
      refine lv_iload_n hx hb dX10_isName_22 rfl (lv_at hl 1 rfl) ?_
      refine lv_if_eq (tgt := 44) hx hb dX10_isName_23 (by decide) (fun c10 => ?_) (fun c10 => ?_)
      · have dc10 : u3.toInt = 0 := eq_i (a := u3.toInt) (b := 0) rfl rfl c10
        have k11 : 0 ≤ u3.toInt ∧ u3.toInt ≤ 0 := ⟨i5.1, Int.le_trans (Int.le_of_eq dc10) (Int.le_refl _)⟩
        refine lv_iconst (v := 0) hx hb dX10_isName_44 (by decide) ?_
        refine lv_istore_n (lv' := [(1, .int 0), (2, .int u2), (0, .ref h0)]) hx hb dX10_isName_45 rfl hl (by decide) rfl (fun ls hl => ?_)
        obtain ⟨v12, ev12⟩ : ∃ z : Int32, z = u2 + 1 := ⟨_, rfl⟩
        have bv12 : v12.toInt = u2.toInt + 1 := by rw [ev12]; exact add_k rfl rfl k9 ⟨Int.le_refl _, Int.le_refl _⟩ (by decide)
        have k13 : 1 ≤ v12.toInt ∧ v12.toInt ≤ 23 := add_r bv12 k9 ⟨Int.le_refl _, Int.le_refl _⟩ (by decide)
        refine lv_iinc (v := v12) (lv' := [(2, .int v12), (1, .int 0), (0, .ref h0)]) hx hb dX10_isName_46 hl (k := 1) rfl (by rw [ev12]; rfl) (by decide) rfl (fun ls hl => ?_)
        refine lv_goto (tgt := 16) hx hb dX10_isName_49 (by decide) ?_
        exact ih (v12, 0) ⟨(ir_wk k13 (by decide) (by decide)), (show 0 ≤ (0 : Int32).toInt ∧ (0 : Int32).toInt ≤ 1 by decide), (show ISN f_reserved x_token.toInt x_word.toInt 0 v12.toInt from (ISN.no i6 (by omega) _ (by first | decide | omega)))⟩ (by show (23 - v12.toInt).toNat < (23 - u2.toInt).toNat; omega) _ _ _ hP hD hS (lv_sub hl [0, 1, 2] rfl)
      · have dc10 : u3.toInt ≠ 0 := ne_i (a := u3.toInt) (b := 0) rfl rfl c10
        have k14 : 1 ≤ u3.toInt ∧ u3.toInt ≤ 1 := ⟨ne_lo dc10 i5.1 ⟨Int.le_refl _, Int.le_refl _⟩ (by decide), i5.2⟩
        refine lv_aload_n hx hb dX10_isName_26 rfl (lv_at hl 2 rfl) ?_
        refine get_f (D := D) (ci := 10) (v := .long x_word) (C := RX10) (T := TX10) (N := 67) hx hb hw inAX10 hown hK hP 0 rfl rfl 18 (by decide) (hw _ q_1279) (fun _ h9 => h9) e_word dX10_isName_27 ?_
        refine lv_aload_n hx hb dX10_isName_30 rfl (lv_at hl 2 rfl) ?_
        refine get_f (D := D) (ci := 10) (v := .ref h_reserved) (C := RX10) (T := TX10) (N := 67) hx hb hw inAX10 hown hK hP 0 rfl rfl 10 (by decide) (hw _ q_1271) (fun _ h9 => h9) e_reserved dX10_isName_31 ?_
        refine lv_iload_n hx hb dX10_isName_34 rfl (lv_at hl 0 rfl) ?_
        refine va_lald hx hb hK hP 1 1 rfl rfl (ix_k k9 (by decide) (by decide)) dX10_isName_35 ?_
        refine lv_topl (fun v15 ev15 => ?_)
        refine W.lcmp hx hb dX10_isName_36 ?_
        refine lv_topi (fun v16 ev16 => ?_)
        have bv16 : v16.toInt = 0 ↔ (x_word : Int64) = v15 := by rw [ev16]; exact lc0
        have av16 : v16.toInt = 0 ↔ (x_word : Int64).toInt = (v15 : Int64).toInt := by rw [ev16]; exact lc1
        refine lv_if_eq (tgt := 44) hx hb dX10_isName_37 (by decide) (fun c17 => ?_) (fun c17 => ?_)
        · have dc17 : v16.toInt = 0 := eq_i (a := v16.toInt) (b := 0) rfl rfl c17
          have k18 : 0 ≤ v16.toInt ∧ v16.toInt ≤ 0 := ⟨Int.le_trans (Int.le_refl _) (Int.le_of_eq dc17.symm), Int.le_trans (Int.le_of_eq dc17) (Int.le_refl _)⟩
          refine lv_iconst (v := 0) hx hb dX10_isName_44 (by decide) ?_
          refine lv_istore_n (lv' := [(1, .int 0), (2, .int u2), (0, .ref h0)]) hx hb dX10_isName_45 rfl hl (by decide) rfl (fun ls hl => ?_)
          obtain ⟨v19, ev19⟩ : ∃ z : Int32, z = u2 + 1 := ⟨_, rfl⟩
          have bv19 : v19.toInt = u2.toInt + 1 := by rw [ev19]; exact add_k rfl rfl k9 ⟨Int.le_refl _, Int.le_refl _⟩ (by decide)
          have k20 : 1 ≤ v19.toInt ∧ v19.toInt ≤ 23 := add_r bv19 k9 ⟨Int.le_refl _, Int.le_refl _⟩ (by decide)
          refine lv_iinc (v := v19) (lv' := [(2, .int v19), (1, .int 0), (0, .ref h0)]) hx hb dX10_isName_46 hl (k := 1) rfl (by rw [ev19]; rfl) (by decide) rfl (fun ls hl => ?_)
          refine lv_goto (tgt := 16) hx hb dX10_isName_49 (by decide) ?_
          exact ih (v19, 0) ⟨(ir_wk k20 (by decide) (by decide)), (show 0 ≤ (0 : Int32).toInt ∧ (0 : Int32).toInt ≤ 1 by decide), (show ISN f_reserved x_token.toInt x_word.toInt 0 v19.toInt from (ISN.hit i6 (by omega) (by omega) (congrArg Int64.toInt (ev15.symm.trans (bv16.mp dc17).symm)) (by first | decide | omega)))⟩ (by show (23 - v19.toInt).toNat < (23 - u2.toInt).toNat; omega) _ _ _ hP hD hS (lv_sub hl [0, 1, 2] rfl)
        · have dc17 : v16.toInt ≠ 0 := ne_i (a := v16.toInt) (b := 0) rfl rfl c17
          refine lv_iconst (v := 1) hx hb dX10_isName_40 (by decide) ?_
          refine lv_goto (tgt := 45) hx hb dX10_isName_41 (by decide) ?_
          refine lv_istore_n (lv' := [(1, .int 1), (2, .int u2), (0, .ref h0)]) hx hb dX10_isName_45 rfl hl (by decide) rfl (fun ls hl => ?_)
          obtain ⟨v21, ev21⟩ : ∃ z : Int32, z = u2 + 1 := ⟨_, rfl⟩
          have bv21 : v21.toInt = u2.toInt + 1 := by rw [ev21]; exact add_k rfl rfl k9 ⟨Int.le_refl _, Int.le_refl _⟩ (by decide)
          have k22 : 1 ≤ v21.toInt ∧ v21.toInt ≤ 23 := add_r bv21 k9 ⟨Int.le_refl _, Int.le_refl _⟩ (by decide)
          refine lv_iinc (v := v21) (lv' := [(2, .int v21), (1, .int 1), (0, .ref h0)]) hx hb dX10_isName_46 hl (k := 1) rfl (by rw [ev21]; rfl) (by decide) rfl (fun ls hl => ?_)
          refine lv_goto (tgt := 16) hx hb dX10_isName_49 (by decide) ?_
          exact ih (v21, 1) ⟨(ir_wk k22 (by decide) (by decide)), (show 0 ≤ (1 : Int32).toInt ∧ (1 : Int32).toInt ≤ 1 by decide), (show ISN f_reserved x_token.toInt x_word.toInt 1 v21.toInt from (ISN.go i6 (by omega) (by omega) (fun q => dc17 (bv16.mpr (Int64.toInt_inj.mp (by rw [ev15]; exact q.symm)))) (by omega) (by first | decide | omega)))⟩ (by show (23 - v21.toInt).toNat < (23 - u2.toInt).toNat; omega) _ _ _ hP hD hS (lv_sub hl [0, 1, 2] rfl)
  · have dc1 : x_token.toInt = 1 := eq_i (a := x_token.toInt) (b := 1) rfl rfl c1
    have k23 : 1 ≤ x_token.toInt ∧ x_token.toInt ≤ 1 := ⟨Int.le_trans (Int.le_refl _) (Int.le_of_eq dc1.symm), Int.le_trans (Int.le_of_eq dc1) (Int.le_refl _)⟩
    refine lv_iconst (v := 1) hx hb dX10_isName_8 (by decide) ?_
    refine lv_goto (tgt := 13) hx hb dX10_isName_9 (by decide) ?_
    refine lv_istore_n (lv' := [(1, .int 1), (0, .ref h0)]) hx hb dX10_isName_13 rfl hl (by decide) rfl (fun ls hl => ?_)
    refine lv_iconst (v := 0) hx hb dX10_isName_14 (by decide) ?_
    refine lv_istore_n (lv' := [(2, .int 0), (1, .int 1), (0, .ref h0)]) hx hb dX10_isName_15 rfl hl (by decide) rfl (fun ls hl => ?_)
    refine mloop (α := (Int32) × (Int32)) (nL := 3) (D := D) (A := A) (H0 := s.heap) (fun a => (23 - a.1.toInt).toNat) (fun a => IR 0 23 a.1 ∧ IR 0 1 a.2 ∧ (ISN f_reserved x_token.toInt x_word.toInt a.2.toInt a.1.toInt)) (fun a => [(h0, .inr (10, vL 67 Fh)), (h_reserved, .inl (cJ, 23, .inr (.inl f_reserved)))]) (fun a => [(2, .int a.1), (1, .int a.2), (0, .ref h0)]) (fun H locs ls => W p l e ({ frames := 0, cells := 0, slots := 0, locals := 0 } : Room) s m [.ref h0].toArray below meth c H locs 0 0 (MQ below (va_Qi (fun (r : Int32) (u : va_W) => IR 0 1 r ∧ ((r.toInt = 1 ∧ x_token.toInt = 1 ∧ wix (g27 x_word.toInt) = -1) ∨ (r.toInt = 0 ∧ ¬ (x_token.toInt = 1 ∧ wix (g27 x_word.toInt) = -1))) ∧ u = [(h0, .inr (10, vL 67 Fh)), (h_reserved, .inl (cJ, 23, .inr (.inl f_reserved)))]) (PO D A) A) [.ref h0].toArray s 0 0 A) (F0 m 16 ls [])) ?_ (0, 1) ⟨(show 0 ≤ (0 : Int32).toInt ∧ (0 : Int32).toInt ≤ 23 by decide), (show 0 ≤ (1 : Int32).toInt ∧ (1 : Int32).toInt ≤ 1 by decide), (show ISN f_reserved x_token.toInt x_word.toInt 1 0 from (ISN.zero (by first | omega | decide)))⟩ _ _ _ hP hD hS hl
    rintro ⟨u24, u25⟩ ⟨i26, i27, i28⟩ ih H locs ls hP hD hS hl
    have i26 : 0 ≤ u24.toInt ∧ u24.toInt ≤ 23 := i26
    have i27 : 0 ≤ u25.toInt ∧ u25.toInt ≤ 1 := i27
    have i28 : ISN f_reserved x_token.toInt x_word.toInt u25.toInt u24.toInt := i28
    have hP : va_P D vwCl [(h0, .inr (10, vL 67 Fh)), (h_reserved, .inl (cJ, 23, .inr (.inl f_reserved)))] H := hP
    have hD : va_D A [(h0, .inr (10, vL 67 Fh)), (h_reserved, .inl (cJ, 23, .inr (.inl f_reserved)))] := hD
    have hl : lv_has ls 3 [(2, .int u24), (1, .int u25), (0, .ref h0)] := hl
    refine lv_iload_n hx hb dX10_isName_16 rfl (lv_at hl 0 rfl) ?_
    refine lv_bipush (v := 23) hx hb dX10_isName_17 (by decide) ?_
    refine lv_icmp_ge (tgt := 52) hx hb dX10_isName_19 (by decide) (fun c29 => ?_) (fun c29 => ?_)
    · have dc29 : 23 ≤ u24.toInt := le_i (a := 23) (b := u24.toInt) rfl rfl c29
      have k30 : 23 ≤ u24.toInt ∧ u24.toInt ≤ 23 := ⟨Int.le_trans (Int.le_refl _) dc29, i26.2⟩
      refine lv_iload_n hx hb dX10_isName_52 rfl (lv_at hl 1 rfl) ?_
      exact ret_i (v := u25) hx hb hr hlocks hS hP hD dX10_isName_53 (nz_i i27.1 i27.2) (Nat.le_of_ble_eq_true rfl) (Nat.le_of_ble_eq_true rfl) ⟨i27, (ISN.fin i28 (by omega) s_reserved_KR z_0), rfl⟩
    · have dc29 : u24.toInt < 23 := nle_i (a := 23) (b := u24.toInt) rfl rfl c29
      have k31 : 0 ≤ u24.toInt ∧ u24.toInt ≤ 22 := ⟨i26.1, up_lt dc29 (Int.le_refl _) (by decide)⟩
      refine lv_iload_n hx hb dX10_isName_22 rfl (lv_at hl 1 rfl) ?_
      refine lv_if_eq (tgt := 44) hx hb dX10_isName_23 (by decide) (fun c32 => ?_) (fun c32 => ?_)
      · have dc32 : u25.toInt = 0 := eq_i (a := u25.toInt) (b := 0) rfl rfl c32
        have k33 : 0 ≤ u25.toInt ∧ u25.toInt ≤ 0 := ⟨i27.1, Int.le_trans (Int.le_of_eq dc32) (Int.le_refl _)⟩
        refine lv_iconst (v := 0) hx hb dX10_isName_44 (by decide) ?_
        refine lv_istore_n (lv' := [(1, .int 0), (2, .int u24), (0, .ref h0)]) hx hb dX10_isName_45 rfl hl (by decide) rfl (fun ls hl => ?_)
        obtain ⟨v34, ev34⟩ : ∃ z : Int32, z = u24 + 1 := ⟨_, rfl⟩
        have bv34 : v34.toInt = u24.toInt + 1 := by rw [ev34]; exact add_k rfl rfl k31 ⟨Int.le_refl _, Int.le_refl _⟩ (by decide)
        have k35 : 1 ≤ v34.toInt ∧ v34.toInt ≤ 23 := add_r bv34 k31 ⟨Int.le_refl _, Int.le_refl _⟩ (by decide)
        refine lv_iinc (v := v34) (lv' := [(2, .int v34), (1, .int 0), (0, .ref h0)]) hx hb dX10_isName_46 hl (k := 1) rfl (by rw [ev34]; rfl) (by decide) rfl (fun ls hl => ?_)
        refine lv_goto (tgt := 16) hx hb dX10_isName_49 (by decide) ?_
        exact ih (v34, 0) ⟨(ir_wk k35 (by decide) (by decide)), (show 0 ≤ (0 : Int32).toInt ∧ (0 : Int32).toInt ≤ 1 by decide), (show ISN f_reserved x_token.toInt x_word.toInt 0 v34.toInt from (ISN.no i28 (by omega) _ (by first | decide | omega)))⟩ (by show (23 - v34.toInt).toNat < (23 - u24.toInt).toNat; omega) _ _ _ hP hD hS (lv_sub hl [0, 1, 2] rfl)
      · have dc32 : u25.toInt ≠ 0 := ne_i (a := u25.toInt) (b := 0) rfl rfl c32
        have k36 : 1 ≤ u25.toInt ∧ u25.toInt ≤ 1 := ⟨ne_lo dc32 i27.1 ⟨Int.le_refl _, Int.le_refl _⟩ (by decide), i27.2⟩
        refine lv_aload_n hx hb dX10_isName_26 rfl (lv_at hl 2 rfl) ?_
        refine get_f (D := D) (ci := 10) (v := .long x_word) (C := RX10) (T := TX10) (N := 67) hx hb hw inAX10 hown hK hP 0 rfl rfl 18 (by decide) (hw _ q_1279) (fun _ h9 => h9) e_word dX10_isName_27 ?_
        refine lv_aload_n hx hb dX10_isName_30 rfl (lv_at hl 2 rfl) ?_
        refine get_f (D := D) (ci := 10) (v := .ref h_reserved) (C := RX10) (T := TX10) (N := 67) hx hb hw inAX10 hown hK hP 0 rfl rfl 10 (by decide) (hw _ q_1271) (fun _ h9 => h9) e_reserved dX10_isName_31 ?_
        refine lv_iload_n hx hb dX10_isName_34 rfl (lv_at hl 0 rfl) ?_
        refine va_lald hx hb hK hP 1 1 rfl rfl (ix_k k31 (by decide) (by decide)) dX10_isName_35 ?_
        refine lv_topl (fun v37 ev37 => ?_)
        refine W.lcmp hx hb dX10_isName_36 ?_
        refine lv_topi (fun v38 ev38 => ?_)
        have bv38 : v38.toInt = 0 ↔ (x_word : Int64) = v37 := by rw [ev38]; exact lc0
        have av38 : v38.toInt = 0 ↔ (x_word : Int64).toInt = (v37 : Int64).toInt := by rw [ev38]; exact lc1
        refine lv_if_eq (tgt := 44) hx hb dX10_isName_37 (by decide) (fun c39 => ?_) (fun c39 => ?_)
        · have dc39 : v38.toInt = 0 := eq_i (a := v38.toInt) (b := 0) rfl rfl c39
          have k40 : 0 ≤ v38.toInt ∧ v38.toInt ≤ 0 := ⟨Int.le_trans (Int.le_refl _) (Int.le_of_eq dc39.symm), Int.le_trans (Int.le_of_eq dc39) (Int.le_refl _)⟩
          refine lv_iconst (v := 0) hx hb dX10_isName_44 (by decide) ?_
          refine lv_istore_n (lv' := [(1, .int 0), (2, .int u24), (0, .ref h0)]) hx hb dX10_isName_45 rfl hl (by decide) rfl (fun ls hl => ?_)
          obtain ⟨v41, ev41⟩ : ∃ z : Int32, z = u24 + 1 := ⟨_, rfl⟩
          have bv41 : v41.toInt = u24.toInt + 1 := by rw [ev41]; exact add_k rfl rfl k31 ⟨Int.le_refl _, Int.le_refl _⟩ (by decide)
          have k42 : 1 ≤ v41.toInt ∧ v41.toInt ≤ 23 := add_r bv41 k31 ⟨Int.le_refl _, Int.le_refl _⟩ (by decide)
          refine lv_iinc (v := v41) (lv' := [(2, .int v41), (1, .int 0), (0, .ref h0)]) hx hb dX10_isName_46 hl (k := 1) rfl (by rw [ev41]; rfl) (by decide) rfl (fun ls hl => ?_)
          refine lv_goto (tgt := 16) hx hb dX10_isName_49 (by decide) ?_
          exact ih (v41, 0) ⟨(ir_wk k42 (by decide) (by decide)), (show 0 ≤ (0 : Int32).toInt ∧ (0 : Int32).toInt ≤ 1 by decide), (show ISN f_reserved x_token.toInt x_word.toInt 0 v41.toInt from (ISN.hit i28 (by omega) (by omega) (congrArg Int64.toInt (ev37.symm.trans (bv38.mp dc39).symm)) (by first | decide | omega)))⟩ (by show (23 - v41.toInt).toNat < (23 - u24.toInt).toNat; omega) _ _ _ hP hD hS (lv_sub hl [0, 1, 2] rfl)
        · have dc39 : v38.toInt ≠ 0 := ne_i (a := v38.toInt) (b := 0) rfl rfl c39
          refine lv_iconst (v := 1) hx hb dX10_isName_40 (by decide) ?_
          refine lv_goto (tgt := 45) hx hb dX10_isName_41 (by decide) ?_
          refine lv_istore_n (lv' := [(1, .int 1), (2, .int u24), (0, .ref h0)]) hx hb dX10_isName_45 rfl hl (by decide) rfl (fun ls hl => ?_)
          obtain ⟨v43, ev43⟩ : ∃ z : Int32, z = u24 + 1 := ⟨_, rfl⟩
          have bv43 : v43.toInt = u24.toInt + 1 := by rw [ev43]; exact add_k rfl rfl k31 ⟨Int.le_refl _, Int.le_refl _⟩ (by decide)
          have k44 : 1 ≤ v43.toInt ∧ v43.toInt ≤ 23 := add_r bv43 k31 ⟨Int.le_refl _, Int.le_refl _⟩ (by decide)
          refine lv_iinc (v := v43) (lv' := [(2, .int v43), (1, .int 1), (0, .ref h0)]) hx hb dX10_isName_46 hl (k := 1) rfl (by rw [ev43]; rfl) (by decide) rfl (fun ls hl => ?_)
          refine lv_goto (tgt := 16) hx hb dX10_isName_49 (by decide) ?_
          exact ih (v43, 1) ⟨(ir_wk k44 (by decide) (by decide)), (show 0 ≤ (1 : Int32).toInt ∧ (1 : Int32).toInt ≤ 1 by decide), (show ISN f_reserved x_token.toInt x_word.toInt 1 v43.toInt from (ISN.go i28 (by omega) (by omega) (fun q => dc39 (bv38.mpr (Int64.toInt_inj.mp (by rw [ev37]; exact q.symm)))) (by omega) (by first | decide | omega)))⟩ (by show (23 - v43.toInt).toNat < (23 - u24.toInt).toNat; omega) _ _ _ hP hD hS (lv_sub hl [0, 1, 2] rfl)
set_option maxHeartbeats 4000000 in
set_option maxRecDepth 100000 in
theorem m_X10_takes (l : Launch) (D : va_G) (cI cJ cB cP cM cZ : ClassId) (h0 : Nat) (h_tape : Nat) (Fh : Nat → Value) (x_size : Int32) (x_p : Int32) (x_limit : Int32) (x_token : Int32) (x_at : Int32) (x_number : Int32) (x_fault : Int32) (x_faultAt : Int32) (x_word : Int64) (x_got : Int32) (f_tape : Nat → Int32) (p0 : Int32) (p1 : Int32) (sz : Nat) (e_tape : Fh 1 = .ref h_tape) (e_size : Fh 3 = .int x_size) (i_x_size : IR 0 940 x_size) (e_p : Fh 4 = .int x_p) (i_x_p : IR 0 940 x_p) (e_limit : Fh 5 = .int x_limit) (i_x_limit : IR 200 940 x_limit) (e_token : Fh 11 = .int x_token) (i_x_token : IR 0 4 x_token) (e_at : Fh 12 = .int x_at) (e_number : Fh 14 = .int x_number) (e_fault : Fh 15 = .int x_fault) (e_faultAt : Fh 16 = .int x_faultAt) (e_word : Fh 18 = .long x_word) (e_got : Fh 19 = .int x_got) (o_0 : (x_token.toInt = 2 → 0 ≤ x_number.toInt ∧ x_number.toInt ≤ 999)) : CI l yX10_takes cX10_takes 3 (some .boolean) { frames := 2, cells := 0, slots := 0, locals := 43 } (GG D cI cJ cB cP cM cZ) D [(h0, .inr (10, vL 67 Fh)), (h_tape, .inl (cB, 940, .inl f_tape))] sz [.ref h0, .int p0, .int p1] (fun (r : Int32) (u : va_W) => (∃ (Gh : Nat → Value) (y_fault : Int32) (y_faultAt : Int32), SAME [15, 16] Fh Gh ∧ Gh 15 = .int y_fault ∧ IR 1 2 y_fault ∧ Gh 16 = .int y_faultAt ∧ (num (tkA f_tape x_size.toInt x_limit.toInt) (tkM x_token x_at x_number x_word x_p) p0.toInt p1.toInt = .inl (y_fault.toInt, y_faultAt.toInt)) ∧ r = 0 ∧ u = [(h0, .inr (10, vL 67 Gh)), (h_tape, .inl (cB, 940, .inl f_tape))]) ∨ (∃ (Gh : Nat → Value) (y_p : Int32) (y_token : Int32) (y_at : Int32) (y_span : Int32) (y_number : Int32) (y_word : Int64) (y_got : Int32), SAME [4, 11, 12, 13, 14, 18, 19] Fh Gh ∧ Gh 4 = .int y_p ∧ IR 0 940 y_p ∧ Gh 11 = .int y_token ∧ IR 0 4 y_token ∧ Gh 12 = .int y_at ∧ IR 0 940 y_at ∧ Gh 13 = .int y_span ∧ IR 0 940 y_span ∧ Gh 14 = .int y_number ∧ Gh 18 = .long y_word ∧ Gh 19 = .int y_got ∧ x_token.toInt = 2 ∧ p0.toInt ≤ x_number.toInt ∧ x_number.toInt ≤ p1.toInt ∧ (p0.toInt ≤ y_got.toInt ∧ y_got.toInt ≤ p1.toInt) ∧ (x_p.toInt ≤ y_p.toInt) ∧ ((1 ≤ y_token.toInt → y_token.toInt ≤ 3 → x_p.toInt < y_p.toInt)) ∧ (num (tkA f_tape x_size.toInt x_limit.toInt) (tkM x_token x_at x_number x_word x_p) p0.toInt p1.toInt = .inr (tkM y_token y_at y_number y_word y_p)) ∧ (x_token.toInt = 2 ∧ y_got.toInt = x_number.toInt) ∧ ((VWF y_token.toInt y_word.toInt)) ∧ ((y_token.toInt = 2 → 0 ≤ y_number.toInt ∧ y_number.toInt ≤ 999)) ∧ r = 1 ∧ u = [(h0, .inr (10, vL 67 Gh)), (h_tape, .inl (cB, 940, .inl f_tape))])) := by
  refine CI_mk (by decide) (Nat.le_of_ble_eq_true rfl) ?_
  intro p e s m below meth c A ls E hAe hG hsz hP hD hA hS hl
  obtain ⟨hx, hb, hr, hw, hown, hlocks, hml, hnm⟩ := E
  have hK := hG.1
  have i_x_size : 0 ≤ x_size.toInt ∧ x_size.toInt ≤ 940 := i_x_size
  have i_x_p : 0 ≤ x_p.toInt ∧ x_p.toInt ≤ 940 := i_x_p
  have i_x_limit : 200 ≤ x_limit.toInt ∧ x_limit.toInt ≤ 940 := i_x_limit
  have i_x_token : 0 ≤ x_token.toInt ∧ x_token.toInt ≤ 4 := i_x_token
  have hl : lv_has ls 3 [(0, .ref h0), (1, .int p0), (2, .int p1)] := hl
  refine lv_aload_n hx hb dX10_takes_0 rfl (lv_at hl 0 rfl) ?_
  refine get_f (D := D) (ci := 10) (v := .int x_token) (C := RX10) (T := TX10) (N := 67) hx hb hw inAX10 hown hK hP 0 rfl rfl 11 (by decide) (hw _ q_1272) (fun _ h9 => h9) e_token dX10_takes_1 ?_
  refine lv_iconst (v := 2) hx hb dX10_takes_4 (by decide) ?_
  refine lv_icmp_eq (tgt := 14) hx hb dX10_takes_5 (by decide) (fun c1 => ?_) (fun c1 => ?_)
  · have dc1 : x_token.toInt = 2 := eq_i (a := x_token.toInt) (b := 2) rfl rfl c1
    have k2 : 2 ≤ x_token.toInt ∧ x_token.toInt ≤ 2 := ⟨Int.le_trans (Int.le_refl _) (Int.le_of_eq dc1.symm), Int.le_trans (Int.le_of_eq dc1) (Int.le_refl _)⟩
    refine lv_aload_n hx hb dX10_takes_14 rfl (lv_at hl 0 rfl) ?_
    refine get_f (D := D) (ci := 10) (v := .int x_number) (C := RX10) (T := TX10) (N := 67) hx hb hw inAX10 hown hK hP 0 rfl rfl 14 (by decide) (hw _ q_1275) (fun _ h9 => h9) e_number dX10_takes_15 ?_
    refine lv_iload_n hx hb dX10_takes_18 rfl (lv_at hl 1 rfl) ?_
    refine lv_iload_n hx hb dX10_takes_19 rfl (lv_at hl 2 rfl) ?_
    refine call_Si (wr := [(h0, .inr (10, vL 67 Fh)), (h_tape, .inl (cB, 940, .inl f_tape))]) (As := [.int x_number, .int p0, .int p1]) (rest := []) hx hb hml hown hw (m_X10_isIn l D cI cJ cB cP cM cZ x_number p0 p1 _ ) wS_X10_211_X10_isIn dX10_takes_20 hP hD hS hA [] [0, 1] rfl rfl (by decide) (by decide) (by decide) GG.fb hG.at hl.1 rfl (Nat.le_of_ble_eq_true rfl) ⟨(Nat.le_of_ble_eq_true rfl), (Nat.le_of_ble_eq_true rfl)⟩ ⟨(Nat.le_of_ble_eq_true rfl), (Nat.le_of_ble_eq_true rfl)⟩ (fun r3 u H locs hp hP hD hS => ?_)
    rcases hp with ⟨t4, rfl, rfl⟩ | ⟨t5, t6, rfl, rfl⟩ | ⟨t7, t8, rfl, rfl⟩
    · have hP : va_P D vwCl [(h0, .inr (10, vL 67 Fh)), (h_tape, .inl (cB, 940, .inl f_tape))] H := hP
      have hD : va_D A [(h0, .inr (10, vL 67 Fh)), (h_tape, .inl (cB, 940, .inl f_tape))] := hD
      refine W.widen (k := 0) (n := 0) (Nat.le_of_ble_eq_true rfl) (Nat.le_of_ble_eq_true rfl) ?_
      have k10 : (-2147483648) ≤ x_number.toInt ∧ x_number.toInt ≤ 2147483646 := ⟨(ir_any _).1, up_lt t4 (ir_any _).2 (by decide)⟩
      have k11 : (-2147483647) ≤ p0.toInt ∧ p0.toInt ≤ 2147483647 := ⟨lo_lt t4 (ir_any _).1 (by decide), (ir_any _).2⟩
      refine lv_if_ne (tgt := 32) hx hb dX10_takes_23 (by decide) (fun g => absurd (by decide) g) (fun _ => ?_)
      refine lv_aload_n hx hb dX10_takes_26 rfl (lv_at hl 0 rfl) ?_
      refine lv_iconst (v := 2) hx hb dX10_takes_27 (by decide) ?_
      refine call_Vi (wr := [(h_tape, .inl (cB, 940, .inl f_tape))]) (As := [.int 2]) (rest := []) hx hb hml hown hw (m_X10_bad l D cI cJ cB cP cM cZ h0 Fh x_at 2 _ e_at) wV_X10_205_X10_bad dX10_takes_28 hK hP hD hS hA [0] [1] rfl rfl (by decide) (by decide) (by decide) 0 10 rfl rfl GG.fb hG.at hl.1 rfl (Nat.le_of_ble_eq_true rfl) ⟨(Nat.le_of_ble_eq_true rfl), (Nat.le_of_ble_eq_true rfl)⟩ ⟨(Nat.le_of_ble_eq_true rfl), (Nat.le_of_ble_eq_true rfl)⟩ (fun r12 u H locs hp hP hD hS => ?_)
      have zl2 : (2 : Int32).toInt = 2 := by decide
      obtain ⟨F13, t14, t15, t16, rfl, rfl⟩ := hp
      have hP : va_P D vwCl [(h_tape, .inl (cB, 940, .inl f_tape)), (h0, .inr (10, vL 67 F13))] H := hP
      have hD : va_D A [(h_tape, .inl (cB, 940, .inl f_tape)), (h0, .inr (10, vL 67 F13))] := hD
      refine W.widen (k := 0) (n := 0) (Nat.le_of_ble_eq_true rfl) (Nat.le_of_ble_eq_true rfl) ?_
      exact ret_i (v := 0) hx hb hr hlocks hS (hP.sub (ws' := [(h0, .inr (10, vL 67 F13)), (h_tape, .inl (cB, 940, .inl f_tape))]) [1, 0] rfl) (hD.sub (ws' := [(h0, .inr (10, vL 67 F13)), (h_tape, .inl (cB, 940, .inl f_tape))]) [1, 0] (by decide) rfl) dX10_takes_31 rfl (Nat.le_of_ble_eq_true rfl) (Nat.le_of_ble_eq_true rfl) (Or.inl ⟨F13, 2, x_at, (SAME.tr SAME.rf t14 (by decide)), t15, (show 1 ≤ (2 : Int32).toInt ∧ (2 : Int32).toInt ≤ 2 by decide), t16, (numM_0 (by have zl1 : (1 : Int32).toInt = 1 := (by decide); have zl2 : (2 : Int32).toInt = 2 := (by decide); omega)), rfl, rfl⟩)
    · have hP : va_P D vwCl [(h0, .inr (10, vL 67 Fh)), (h_tape, .inl (cB, 940, .inl f_tape))] H := hP
      have hD : va_D A [(h0, .inr (10, vL 67 Fh)), (h_tape, .inl (cB, 940, .inl f_tape))] := hD
      refine W.widen (k := 0) (n := 0) (Nat.le_of_ble_eq_true rfl) (Nat.le_of_ble_eq_true rfl) ?_
      have k18 : (-2147483648) ≤ p1.toInt ∧ p1.toInt ≤ 2147483646 := ⟨(ir_any _).1, up_lt t6 (ir_any _).2 (by decide)⟩
      have k19 : (-2147483647) ≤ x_number.toInt ∧ x_number.toInt ≤ 2147483647 := ⟨lo_lt t6 (ir_any _).1 (by decide), (ir_any _).2⟩
      refine lv_if_ne (tgt := 32) hx hb dX10_takes_23 (by decide) (fun g => absurd (by decide) g) (fun _ => ?_)
      refine lv_aload_n hx hb dX10_takes_26 rfl (lv_at hl 0 rfl) ?_
      refine lv_iconst (v := 2) hx hb dX10_takes_27 (by decide) ?_
      refine call_Vi (wr := [(h_tape, .inl (cB, 940, .inl f_tape))]) (As := [.int 2]) (rest := []) hx hb hml hown hw (m_X10_bad l D cI cJ cB cP cM cZ h0 Fh x_at 2 _ e_at) wV_X10_205_X10_bad dX10_takes_28 hK hP hD hS hA [0] [1] rfl rfl (by decide) (by decide) (by decide) 0 10 rfl rfl GG.fb hG.at hl.1 rfl (Nat.le_of_ble_eq_true rfl) ⟨(Nat.le_of_ble_eq_true rfl), (Nat.le_of_ble_eq_true rfl)⟩ ⟨(Nat.le_of_ble_eq_true rfl), (Nat.le_of_ble_eq_true rfl)⟩ (fun r20 u H locs hp hP hD hS => ?_)
      have zl2 : (2 : Int32).toInt = 2 := by decide
      obtain ⟨F21, t22, t23, t24, rfl, rfl⟩ := hp
      have hP : va_P D vwCl [(h_tape, .inl (cB, 940, .inl f_tape)), (h0, .inr (10, vL 67 F21))] H := hP
      have hD : va_D A [(h_tape, .inl (cB, 940, .inl f_tape)), (h0, .inr (10, vL 67 F21))] := hD
      refine W.widen (k := 0) (n := 0) (Nat.le_of_ble_eq_true rfl) (Nat.le_of_ble_eq_true rfl) ?_
      exact ret_i (v := 0) hx hb hr hlocks hS (hP.sub (ws' := [(h0, .inr (10, vL 67 F21)), (h_tape, .inl (cB, 940, .inl f_tape))]) [1, 0] rfl) (hD.sub (ws' := [(h0, .inr (10, vL 67 F21)), (h_tape, .inl (cB, 940, .inl f_tape))]) [1, 0] (by decide) rfl) dX10_takes_31 rfl (Nat.le_of_ble_eq_true rfl) (Nat.le_of_ble_eq_true rfl) (Or.inl ⟨F21, 2, x_at, (SAME.tr SAME.rf t22 (by decide)), t23, (show 1 ≤ (2 : Int32).toInt ∧ (2 : Int32).toInt ≤ 2 by decide), t24, (numM_0 (by have zl1 : (1 : Int32).toInt = 1 := (by decide); have zl2 : (2 : Int32).toInt = 2 := (by decide); omega)), rfl, rfl⟩)
    · have hP : va_P D vwCl [(h0, .inr (10, vL 67 Fh)), (h_tape, .inl (cB, 940, .inl f_tape))] H := hP
      have hD : va_D A [(h0, .inr (10, vL 67 Fh)), (h_tape, .inl (cB, 940, .inl f_tape))] := hD
      refine W.widen (k := 0) (n := 0) (Nat.le_of_ble_eq_true rfl) (Nat.le_of_ble_eq_true rfl) ?_
      refine lv_if_ne (tgt := 32) hx hb dX10_takes_23 (by decide) (fun _ => ?_) (fun g => absurd g (by decide))
      refine lv_aload_n hx hb dX10_takes_32 rfl (lv_at hl 0 rfl) ?_
      refine lv_aload_n hx hb dX10_takes_33 rfl (lv_at hl 0 rfl) ?_
      refine get_f (D := D) (ci := 10) (v := .int x_number) (C := RX10) (T := TX10) (N := 67) hx hb hw inAX10 hown hK hP 0 rfl rfl 14 (by decide) (hw _ q_1275) (fun _ h9 => h9) e_number dX10_takes_34 ?_
      refine put_f (D := D) (ci := 10) (v := .int x_number) (ty := .int) (C := RX10) (T := TX10) (N := 67) hx hb hw inAX10 tyX10 tyX10_ok nmX10 hown hK hP hD hS 0 rfl rfl 19 (by decide) (hw _ q_1280) (fun _ h9 => h9) rfl (by decide +kernel) rfl rfl dX10_takes_37 (fun H locs F26 eF26 hP hD hS => ?_)
      have hP : va_P D vwCl [(h0, .inr (10, vL 67 F26)), (h_tape, .inl (cB, 940, .inl f_tape))] H := hP
      have hD : va_D A [(h0, .inr (10, vL 67 F26)), (h_tape, .inl (cB, 940, .inl f_tape))] := hD
      refine lv_aload_n hx hb dX10_takes_40 rfl (lv_at hl 0 rfl) ?_
      have n27 : F26 1 = .ref h_tape := (get_ne eF26 (by decide) e_tape)
      have n28 : F26 3 = .int x_size := (get_ne eF26 (by decide) e_size)
      have n29 : F26 4 = .int x_p := (get_ne eF26 (by decide) e_p)
      have n30 : F26 5 = .int x_limit := (get_ne eF26 (by decide) e_limit)
      have n31 : F26 11 = .int x_token := (get_ne eF26 (by decide) e_token)
      have n32 : F26 12 = .int x_at := (get_ne eF26 (by decide) e_at)
      have n33 : F26 14 = .int x_number := (get_ne eF26 (by decide) e_number)
      have n34 : F26 18 = .long x_word := (get_ne eF26 (by decide) e_word)
      refine call_Vv (wr := []) (As := []) (rest := []) hx hb hml hown hw (m_X10_next l D cI cJ cB cP cM cZ h0 h_tape F26 x_size x_p x_limit x_token x_at x_number x_word f_tape _ n27 n28 i_x_size n29 i_x_p n30 i_x_limit n31 (ir_wk k2 (by decide) (by decide)) n32 n33 n34 (by omega)) wV_X10_208_X10_next dX10_takes_41 hK hP hD hS hA [0, 1] [] rfl rfl (by decide) (by decide) (by decide) 0 10 rfl rfl GG.fb hG.at hl.1 rfl (Nat.le_of_ble_eq_true rfl) ⟨(Nat.le_of_ble_eq_true rfl), (Nat.le_of_ble_eq_true rfl)⟩ ⟨(Nat.le_of_ble_eq_true rfl), (Nat.le_of_ble_eq_true rfl)⟩ (fun u H locs hp hP hD hS => ?_)
      obtain ⟨F36, y37, y38, y39, y40, y41, y42, t43, t44, t45, t46, t47, t48, t49, t50, t51, t52, t53, t54, t55, t56, t57, t58, rfl⟩ := hp
      have hP : va_P D vwCl [(h0, .inr (10, vL 67 F36)), (h_tape, .inl (cB, 940, .inl f_tape))] H := hP
      have hD : va_D A [(h0, .inr (10, vL 67 F36)), (h_tape, .inl (cB, 940, .inl f_tape))] := hD
      refine W.widen (k := 0) (n := 0) (Nat.le_of_ble_eq_true rfl) (Nat.le_of_ble_eq_true rfl) ?_
      refine lv_iconst (v := 1) hx hb dX10_takes_44 (by decide) ?_
      exact ret_i (v := 1) hx hb hr hlocks hS hP hD dX10_takes_45 rfl (Nat.le_of_ble_eq_true rfl) (Nat.le_of_ble_eq_true rfl) (Or.inr ⟨F36, y37, y38, y39, y40, y41, y42, x_number, (SAME.tr (SAME.up eF26 SAME.rf (by decide)) t43 (by decide)), t44, t45, t46, t47, t48, t49, t50, t51, t52, t53, (SAME.at t43 (by decide) (get_eq eF26)), dc1, t7, t8, (by have zl1 : (1 : Int32).toInt = 1 := (by decide); omega), (by have zl1 : (1 : Int32).toInt = 1 := (by decide); omega), (by have zl1 : (1 : Int32).toInt = 1 := (by decide); omega), (numM_1 (by omega) ⟨by omega, by omega⟩ t56), (by have zl1 : (1 : Int32).toInt = 1 := (by decide); omega), t57, (by omega), rfl, rfl⟩)
  · have dc1 : x_token.toInt ≠ 2 := ne_i (a := x_token.toInt) (b := 2) rfl rfl c1
    refine lv_aload_n hx hb dX10_takes_8 rfl (lv_at hl 0 rfl) ?_
    refine lv_iconst (v := 1) hx hb dX10_takes_9 (by decide) ?_
    refine call_Vi (wr := [(h_tape, .inl (cB, 940, .inl f_tape))]) (As := [.int 1]) (rest := []) hx hb hml hown hw (m_X10_bad l D cI cJ cB cP cM cZ h0 Fh x_at 1 _ e_at) wV_X10_205_X10_bad dX10_takes_10 hK hP hD hS hA [0] [1] rfl rfl (by decide) (by decide) (by decide) 0 10 rfl rfl GG.fb hG.at hl.1 rfl (Nat.le_of_ble_eq_true rfl) ⟨(Nat.le_of_ble_eq_true rfl), (Nat.le_of_ble_eq_true rfl)⟩ ⟨(Nat.le_of_ble_eq_true rfl), (Nat.le_of_ble_eq_true rfl)⟩ (fun r60 u H locs hp hP hD hS => ?_)
    have zl1 : (1 : Int32).toInt = 1 := by decide
    obtain ⟨F61, t62, t63, t64, rfl, rfl⟩ := hp
    have hP : va_P D vwCl [(h_tape, .inl (cB, 940, .inl f_tape)), (h0, .inr (10, vL 67 F61))] H := hP
    have hD : va_D A [(h_tape, .inl (cB, 940, .inl f_tape)), (h0, .inr (10, vL 67 F61))] := hD
    refine W.widen (k := 0) (n := 0) (Nat.le_of_ble_eq_true rfl) (Nat.le_of_ble_eq_true rfl) ?_
    exact ret_i (v := 0) hx hb hr hlocks hS (hP.sub (ws' := [(h0, .inr (10, vL 67 F61)), (h_tape, .inl (cB, 940, .inl f_tape))]) [1, 0] rfl) (hD.sub (ws' := [(h0, .inr (10, vL 67 F61)), (h_tape, .inl (cB, 940, .inl f_tape))]) [1, 0] (by decide) rfl) dX10_takes_13 rfl (Nat.le_of_ble_eq_true rfl) (Nat.le_of_ble_eq_true rfl) (Or.inl ⟨F61, 1, x_at, (SAME.tr SAME.rf t62 (by decide)), t63, (show 1 ≤ (1 : Int32).toInt ∧ (1 : Int32).toInt ≤ 2 by decide), t64, (numM_0 (by have zl1 : (1 : Int32).toInt = 1 := (by decide); have zl2 : (2 : Int32).toInt = 2 := (by decide); omega)), rfl, rfl⟩)
set_option maxHeartbeats 4000000 in
set_option maxRecDepth 100000 in
theorem m_X10_find (l : Launch) (D : va_G) (cI cJ cB cP cM cZ : ClassId) (h0 : Nat) (h_names : Nat) (Fh : Nat → Value) (x_word : Int64) (f_names : Nat → Int64) (p0 : Int32) (p1 : Int32) (sz : Nat) (e_names : Fh 9 = .ref h_names) (e_word : Fh 18 = .long x_word) (i_p0 : IR 0 30 p0) (i_p1 : IR 0 12 p1) (z_0 : p0.toInt + p1.toInt ≤ 36) : CI l yX10_find cX10_find 4 (some .int) { frames := 0, cells := 0, slots := 0, locals := 0 } (GG D cI cJ cB cP cM cZ) D [(h0, .inr (10, vL 67 Fh)), (h_names, .inl (cJ, 36, .inr (.inl f_names)))] sz [.ref h0, .int p0, .int p1] (fun (r : Int32) (u : va_W) => (p1.toInt ≤ 12 ∧ ((0 ≤ r.toInt → r.toInt < p1.toInt)) ∧ (r.toInt = wixK (nmG (gO f_names p0.toInt.toNat) p1.toInt.toNat) 0 x_word.toInt) ∧ r = (-1) ∧ u = [(h0, .inr (10, vL 67 Fh)), (h_names, .inl (cJ, 36, .inr (.inl f_names)))]) ∨ (IR 0 11 r ∧ 0 < p1.toInt ∧ ((0 ≤ r.toInt → r.toInt < p1.toInt)) ∧ (r.toInt = wixK (nmG (gO f_names p0.toInt.toNat) p1.toInt.toNat) 0 x_word.toInt) ∧ u = [(h0, .inr (10, vL 67 Fh)), (h_names, .inl (cJ, 36, .inr (.inl f_names)))])) := by
  refine CI_mk (by decide) (Nat.le_of_ble_eq_true rfl) ?_
  intro p e s m below meth c A ls E hAe hG hsz hP hD hA hS hl
  obtain ⟨hx, hb, hr, hw, hown, hlocks, hml, hnm⟩ := E
  have hK := hG.1
  have i_p0 : 0 ≤ p0.toInt ∧ p0.toInt ≤ 30 := i_p0
  have i_p1 : 0 ≤ p1.toInt ∧ p1.toInt ≤ 12 := i_p1
  have hl : lv_has ls 4 [(0, .ref h0), (1, .int p0), (2, .int p1)] := hl
  refine lv_iconst (v := 0) hx hb dX10_find_0 (by decide) ?_
  refine lv_istore_n (lv' := [(3, .int 0), (0, .ref h0), (1, .int p0), (2, .int p1)]) hx hb dX10_find_1 rfl hl (by decide) rfl (fun ls hl => ?_)
  refine mloop (α := (Int32)) (nL := 4) (D := D) (A := A) (H0 := s.heap) (fun a => (12 - a.toInt).toNat) (fun a => IR 0 12 a ∧ (FI (gO f_names p0.toInt.toNat) x_word.toInt p1.toInt a.toInt)) (fun a => [(h0, .inr (10, vL 67 Fh)), (h_names, .inl (cJ, 36, .inr (.inl f_names)))]) (fun a => [(3, .int a), (0, .ref h0), (1, .int p0), (2, .int p1)]) (fun H locs ls => W p l e ({ frames := 0, cells := 0, slots := 0, locals := 0 } : Room) s m [.ref h0, .int p0, .int p1].toArray below meth c H locs 0 0 (MQ below (va_Qi (fun (r : Int32) (u : va_W) => (p1.toInt ≤ 12 ∧ ((0 ≤ r.toInt → r.toInt < p1.toInt)) ∧ (r.toInt = wixK (nmG (gO f_names p0.toInt.toNat) p1.toInt.toNat) 0 x_word.toInt) ∧ r = (-1) ∧ u = [(h0, .inr (10, vL 67 Fh)), (h_names, .inl (cJ, 36, .inr (.inl f_names)))]) ∨ (IR 0 11 r ∧ 0 < p1.toInt ∧ ((0 ≤ r.toInt → r.toInt < p1.toInt)) ∧ (r.toInt = wixK (nmG (gO f_names p0.toInt.toNat) p1.toInt.toNat) 0 x_word.toInt) ∧ u = [(h0, .inr (10, vL 67 Fh)), (h_names, .inl (cJ, 36, .inr (.inl f_names)))])) (PO D A) A) [.ref h0, .int p0, .int p1].toArray s 0 0 A) (F0 m 2 ls [])) ?_ (0) ⟨(show 0 ≤ (0 : Int32).toInt ∧ (0 : Int32).toInt ≤ 12 by decide), (show FI (gO f_names p0.toInt.toNat) x_word.toInt p1.toInt 0 from FI.zero)⟩ _ _ _ hP hD hS hl
  rintro u1 ⟨i2, i3⟩ ih H locs ls hP hD hS hl
  have i2 : 0 ≤ u1.toInt ∧ u1.toInt ≤ 12 := i2
  have i3 : FI (gO f_names p0.toInt.toNat) x_word.toInt p1.toInt u1.toInt := i3
  have hP : va_P D vwCl [(h0, .inr (10, vL 67 Fh)), (h_names, .inl (cJ, 36, .inr (.inl f_names)))] H := hP
  have hD : va_D A [(h0, .inr (10, vL 67 Fh)), (h_names, .inl (cJ, 36, .inr (.inl f_names)))] := hD
  have hl : lv_has ls 4 [(3, .int u1), (0, .ref h0), (1, .int p0), (2, .int p1)] := hl
  refine lv_iload_n hx hb dX10_find_2 rfl (lv_at hl 0 rfl) ?_
  refine lv_iload_n hx hb dX10_find_3 rfl (lv_at hl 3 rfl) ?_
  refine lv_icmp_ge (tgt := 31) hx hb dX10_find_4 (by decide) (fun c4 => ?_) (fun c4 => ?_)
  · have dc4 : p1.toInt ≤ u1.toInt := le_i (a := p1.toInt) (b := u1.toInt) rfl rfl c4
    refine lv_iconst (v := (-1)) hx hb dX10_find_31 (by decide) ?_
    exact ret_i (v := (-1)) hx hb hr hlocks hS hP hD dX10_find_32 rfl (Nat.le_of_ble_eq_true rfl) (Nat.le_of_ble_eq_true rfl) (Or.inl ⟨(by omega), (by have zlm1 : ((-1) : Int32).toInt = (-1) := (by decide); omega), ((show (-1 : Int32).toInt = -1 by decide).trans (FI.none i3 (by omega))), rfl, rfl⟩)
  · have dc4 : u1.toInt < p1.toInt := nle_i (a := p1.toInt) (b := u1.toInt) rfl rfl c4
    have k5 : 0 ≤ u1.toInt ∧ u1.toInt ≤ 11 := ⟨i2.1, up_lt dc4 i_p1.2 (by decide)⟩
    have k6 : 1 ≤ p1.toInt ∧ p1.toInt ≤ 12 := ⟨lo_lt dc4 i2.1 (by decide), i_p1.2⟩
    refine lv_aload_n hx hb dX10_find_7 rfl (lv_at hl 1 rfl) ?_
    refine get_f (D := D) (ci := 10) (v := .ref h_names) (C := RX10) (T := TX10) (N := 67) hx hb hw inAX10 hown hK hP 0 rfl rfl 9 (by decide) (hw _ q_1270) (fun _ h9 => h9) e_names dX10_find_8 ?_
    refine lv_iload_n hx hb dX10_find_11 rfl (lv_at hl 2 rfl) ?_
    refine lv_iload_n hx hb dX10_find_12 rfl (lv_at hl 0 rfl) ?_
    refine lv_iadd hx hb dX10_find_13 ?_
    refine lv_topi (fun v7 ev7 => ?_)
    have bv7 : v7.toInt = p0.toInt + u1.toInt := by rw [ev7]; exact add_k rfl rfl i_p0 k5 (by decide)
    have k8 : 0 ≤ v7.toInt ∧ v7.toInt ≤ 41 := add_r bv7 i_p0 k5 (by decide)
    refine va_lald hx hb hK hP 1 1 rfl rfl (ix_i (by omega) (by omega)) dX10_find_14 ?_
    refine lv_topl (fun v9 ev9 => ?_)
    refine lv_aload_n hx hb dX10_find_15 rfl (lv_at hl 1 rfl) ?_
    refine get_f (D := D) (ci := 10) (v := .long x_word) (C := RX10) (T := TX10) (N := 67) hx hb hw inAX10 hown hK hP 0 rfl rfl 18 (by decide) (hw _ q_1279) (fun _ h9 => h9) e_word dX10_find_16 ?_
    refine W.lcmp hx hb dX10_find_19 ?_
    refine lv_topi (fun v10 ev10 => ?_)
    have bv10 : v10.toInt = 0 ↔ (v9 : Int64) = x_word := by rw [ev10]; exact lc0
    have av10 : v10.toInt = 0 ↔ (v9 : Int64).toInt = (x_word : Int64).toInt := by rw [ev10]; exact lc1
    refine lv_if_ne (tgt := 25) hx hb dX10_find_20 (by decide) (fun c11 => ?_) (fun c11 => ?_)
    · have dc11 : v10.toInt ≠ 0 := ne_i (a := v10.toInt) (b := 0) rfl rfl c11
      obtain ⟨v12, ev12⟩ : ∃ z : Int32, z = u1 + 1 := ⟨_, rfl⟩
      have bv12 : v12.toInt = u1.toInt + 1 := by rw [ev12]; exact add_k rfl rfl k5 ⟨Int.le_refl _, Int.le_refl _⟩ (by decide)
      have k13 : 1 ≤ v12.toInt ∧ v12.toInt ≤ 12 := add_r bv12 k5 ⟨Int.le_refl _, Int.le_refl _⟩ (by decide)
      refine lv_iinc (v := v12) (lv' := [(3, .int v12), (0, .ref h0), (1, .int p0), (2, .int p1)]) hx hb dX10_find_25 hl (k := 0) rfl (by rw [ev12]; rfl) (by decide) rfl (fun ls hl => ?_)
      refine lv_goto (tgt := 2) hx hb dX10_find_28 (by decide) ?_
      exact ih (v12) ⟨(ir_wk k13 (by decide) (by decide)), (show FI (gO f_names p0.toInt.toNat) x_word.toInt p1.toInt v12.toInt from (FI.step i3 (by omega) (by omega) (fun q => dc11 (bv10.mpr (Int64.toInt_inj.mp (by rw [ev9]; exact (gO_at (by omega) (by omega)).trans q)))) (by omega)))⟩ (by show (12 - v12.toInt).toNat < (12 - u1.toInt).toNat; omega) _ _ _ hP hD hS (lv_sub hl [0, 1, 2, 3] rfl)
    · have dc11 : v10.toInt = 0 := eq_i (a := v10.toInt) (b := 0) rfl rfl c11
      have k14 : 0 ≤ v10.toInt ∧ v10.toInt ≤ 0 := ⟨Int.le_trans (Int.le_refl _) (Int.le_of_eq dc11.symm), Int.le_trans (Int.le_of_eq dc11) (Int.le_refl _)⟩
      refine lv_iload_n hx hb dX10_find_23 rfl (lv_at hl 0 rfl) ?_
      exact ret_i (v := u1) hx hb hr hlocks hS hP hD dX10_find_24 rfl (Nat.le_of_ble_eq_true rfl) (Nat.le_of_ble_eq_true rfl) (Or.inr ⟨k5, (by omega), (by omega), (FI.hit i3 (by omega) (by omega) ((gO_at (by omega) (by omega)).symm.trans (congrArg Int64.toInt (ev9.symm.trans (bv10.mp dc11))))), rfl⟩)
set_option maxHeartbeats 4000000 in
set_option maxRecDepth 100000 in
theorem m_X10_fresh (l : Launch) (D : va_G) (cI cJ cB cP cM cZ : ClassId) (h0 : Nat) (h_tape : Nat) (h_h : Nat) (h_names : Nat) (h_reserved : Nat) (Fh : Nat → Value) (x_size : Int32) (x_p : Int32) (x_limit : Int32) (x_token : Int32) (x_at : Int32) (x_number : Int32) (x_fault : Int32) (x_faultAt : Int32) (x_word : Int64) (f_tape : Nat → Int32) (f_h : Nat → Int32) (f_names : Nat → Int64) (f_reserved : Nat → Int64) (p0 : Int32) (sz : Nat) (e_tape : Fh 1 = .ref h_tape) (e_size : Fh 3 = .int x_size) (i_x_size : IR 0 940 x_size) (e_p : Fh 4 = .int x_p) (i_x_p : IR 0 940 x_p) (e_limit : Fh 5 = .int x_limit) (i_x_limit : IR 200 940 x_limit) (e_h : Fh 7 = .ref h_h) (e_names : Fh 9 = .ref h_names) (e_reserved : Fh 10 = .ref h_reserved) (e_token : Fh 11 = .int x_token) (i_x_token : IR 0 4 x_token) (e_at : Fh 12 = .int x_at) (e_number : Fh 14 = .int x_number) (e_fault : Fh 15 = .int x_fault) (e_faultAt : Fh 16 = .int x_faultAt) (e_word : Fh 18 = .long x_word) (s_h_0 : SG 0 0 0 40 f_h) (s_h_44 : SG 44 55 0 9 f_h) (s_h_5 : SG 5 5 0 12 f_h) (s_h_6 : SG 6 6 0 12 f_h) (s_h_7 : SG 7 7 0 6 f_h) (s_reserved_KR : KRN f_reserved) (i_p0 : IR 18 35 p0) (z_0 : (VWF x_token.toInt x_word.toInt)) (z_1 : AV f_names 18 (f_h 5).toInt) (z_2 : AV f_names 30 (f_h 7).toInt) (o_0 : (x_token.toInt = 2 → 0 ≤ x_number.toInt ∧ x_number.toInt ≤ 999)) : CI l yX10_fresh cX10_fresh 2 (some .boolean) { frames := 2, cells := 0, slots := 0, locals := 43 } (GG D cI cJ cB cP cM cZ) D [(h0, .inr (10, vL 67 Fh)), (h_tape, .inl (cB, 940, .inl f_tape)), (h_h, .inl (cI, 104, .inl f_h)), (h_names, .inl (cJ, 36, .inr (.inl f_names))), (h_reserved, .inl (cJ, 23, .inr (.inl f_reserved)))] sz [.ref h0, .int p0] (fun (r : Int32) (u : va_W) => (∃ (Gh : Nat → Value) (y_p : Int32) (y_token : Int32) (y_at : Int32) (y_span : Int32) (y_number : Int32) (y_word : Int64) (g_names : Nat → Int64), SAME [4, 11, 12, 13, 14, 18] Fh Gh ∧ Gh 4 = .int y_p ∧ IR 0 940 y_p ∧ Gh 11 = .int y_token ∧ IR 0 4 y_token ∧ Gh 12 = .int y_at ∧ IR 0 940 y_at ∧ Gh 13 = .int y_span ∧ IR 0 940 y_span ∧ Gh 14 = .int y_number ∧ Gh 18 = .long y_word ∧ (x_p.toInt ≤ y_p.toInt) ∧ ((1 ≤ y_token.toInt → y_token.toInt ≤ 3 → x_p.toInt < y_p.toInt)) ∧ (nam (tkA f_tape x_size.toInt x_limit.toInt) (tkM x_token x_at x_number x_word x_p) (nmM f_names 18 (f_h 5).toInt) (nmM f_names 30 (f_h 7).toInt) = .inr (tkM y_token y_at y_number y_word y_p)) ∧ (vp_updL f_names p0.toNatClampNeg x_word = g_names) ∧ (x_token.toInt = 1) ∧ (WVd x_word.toInt) ∧ ((VWF y_token.toInt y_word.toInt)) ∧ (UN f_names g_names) ∧ ((y_token.toInt = 2 → 0 ≤ y_number.toInt ∧ y_number.toInt ≤ 999)) ∧ r = 1 ∧ u = [(h0, .inr (10, vL 67 Gh)), (h_tape, .inl (cB, 940, .inl f_tape)), (h_h, .inl (cI, 104, .inl f_h)), (h_names, .inl (cJ, 36, .inr (.inl g_names))), (h_reserved, .inl (cJ, 23, .inr (.inl f_reserved)))]) ∨ (∃ (Gh : Nat → Value) (y_fault : Int32) (y_faultAt : Int32), SAME [15, 16] Fh Gh ∧ Gh 15 = .int y_fault ∧ IR 1 3 y_fault ∧ Gh 16 = .int y_faultAt ∧ (nam (tkA f_tape x_size.toInt x_limit.toInt) (tkM x_token x_at x_number x_word x_p) (nmM f_names 18 (f_h 5).toInt) (nmM f_names 30 (f_h 7).toInt) = .inl (y_fault.toInt, y_faultAt.toInt)) ∧ ((x_token.toInt = 2 → 0 ≤ x_number.toInt ∧ x_number.toInt ≤ 999)) ∧ r = 0 ∧ u = [(h0, .inr (10, vL 67 Gh)), (h_tape, .inl (cB, 940, .inl f_tape)), (h_h, .inl (cI, 104, .inl f_h)), (h_names, .inl (cJ, 36, .inr (.inl f_names))), (h_reserved, .inl (cJ, 23, .inr (.inl f_reserved)))])) := by
  refine CI_mk (by decide) (Nat.le_of_ble_eq_true rfl) ?_
  intro p e s m below meth c A ls E hAe hG hsz hP hD hA hS hl
  obtain ⟨hx, hb, hr, hw, hown, hlocks, hml, hnm⟩ := E
  have hK := hG.1
  have i_x_size : 0 ≤ x_size.toInt ∧ x_size.toInt ≤ 940 := i_x_size
  have i_x_p : 0 ≤ x_p.toInt ∧ x_p.toInt ≤ 940 := i_x_p
  have i_x_limit : 200 ≤ x_limit.toInt ∧ x_limit.toInt ≤ 940 := i_x_limit
  have i_x_token : 0 ≤ x_token.toInt ∧ x_token.toInt ≤ 4 := i_x_token
  have i_p0 : 18 ≤ p0.toInt ∧ p0.toInt ≤ 35 := i_p0
  have hl : lv_has ls 2 [(0, .ref h0), (1, .int p0)] := hl
  refine lv_aload_n hx hb dX10_fresh_0 rfl (lv_at hl 0 rfl) ?_
  refine call_Vi (wr := [(h_tape, .inl (cB, 940, .inl f_tape)), (h_h, .inl (cI, 104, .inl f_h)), (h_names, .inl (cJ, 36, .inr (.inl f_names)))]) (As := []) (rest := []) hx hb hml hown hw (m_X10_isName l D cI cJ cB cP cM cZ h0 h_reserved Fh x_token x_number x_word f_reserved _ e_reserved e_token i_x_token e_number e_word s_reserved_KR z_0 (by omega)) wV_X10_218_X10_isName dX10_fresh_1 hK hP hD hS hA [0, 4] [1, 2, 3] rfl rfl (by decide) (by decide) (by decide) 0 10 rfl rfl GG.fb hG.at hl.1 rfl (Nat.le_of_ble_eq_true rfl) ⟨(Nat.le_of_ble_eq_true rfl), (Nat.le_of_ble_eq_true rfl)⟩ ⟨(Nat.le_of_ble_eq_true rfl), (Nat.le_of_ble_eq_true rfl)⟩ (fun r1 u H locs hp hP hD hS => ?_)
  obtain ⟨t2, t3, rfl⟩ := hp
  have hP : va_P D vwCl [(h_tape, .inl (cB, 940, .inl f_tape)), (h_h, .inl (cI, 104, .inl f_h)), (h_names, .inl (cJ, 36, .inr (.inl f_names))), (h0, .inr (10, vL 67 Fh)), (h_reserved, .inl (cJ, 23, .inr (.inl f_reserved)))] H := hP
  have hD : va_D A [(h_tape, .inl (cB, 940, .inl f_tape)), (h_h, .inl (cI, 104, .inl f_h)), (h_names, .inl (cJ, 36, .inr (.inl f_names))), (h0, .inr (10, vL 67 Fh)), (h_reserved, .inl (cJ, 23, .inr (.inl f_reserved)))] := hD
  refine W.widen (k := 0) (n := 0) (Nat.le_of_ble_eq_true rfl) (Nat.le_of_ble_eq_true rfl) ?_
  refine lv_if_ne (tgt := 13) hx hb dX10_fresh_4 (by decide) (fun c5 => ?_) (fun c5 => ?_)
  · have dc5 : r1.toInt ≠ 0 := ne_i (a := r1.toInt) (b := 0) rfl rfl c5
    have k6 : 1 ≤ r1.toInt ∧ r1.toInt ≤ 1 := ⟨ne_lo dc5 t2.1 ⟨Int.le_refl _, Int.le_refl _⟩ (by decide), t2.2⟩
    refine lv_aload_n hx hb dX10_fresh_13 rfl (lv_at hl 0 rfl) ?_
    refine lv_bipush (v := 18) hx hb dX10_fresh_14 (by decide) ?_
    refine lv_aload_n hx hb dX10_fresh_16 rfl (lv_at hl 0 rfl) ?_
    refine get_f (D := D) (ci := 10) (v := .ref h_h) (C := RX10) (T := TX10) (N := 67) hx hb hw inAX10 hown hK hP 3 rfl rfl 7 (by decide) (hw _ q_1268) (fun _ h9 => h9) e_h dX10_fresh_17 ?_
    refine lv_iconst (v := 5) hx hb dX10_fresh_20 (by decide) ?_
    refine iald_n hx hb hK hP 1 0 rfl rfl 5 rfl (Nat.le_of_ble_eq_true rfl) (Nat.le_of_ble_eq_true rfl) rfl dX10_fresh_21 ?_
    refine lv_topi (fun v7 ev7 => ?_)
    have k8 : 0 ≤ v7.toInt ∧ v7.toInt ≤ 12 := by rw [ev7]; exact s_h_5.atN 5 (by decide) (by decide)
    refine call_Vi (wr := [(h_tape, .inl (cB, 940, .inl f_tape)), (h_h, .inl (cI, 104, .inl f_h)), (h_reserved, .inl (cJ, 23, .inr (.inl f_reserved)))]) (As := [.int 18, .int v7]) (rest := []) hx hb hml hown hw (m_X10_find l D cI cJ cB cP cM cZ h0 h_names Fh x_word f_names 18 v7 _ e_names e_word (show 0 ≤ (18 : Int32).toInt ∧ (18 : Int32).toInt ≤ 30 by decide) k8 (by have z0 : (18 : Int32).toInt = 18 := rfl; omega)) wV_X10_222_X10_find dX10_fresh_22 hK hP hD hS hA [3, 2] [0, 1, 4] rfl rfl (by decide) (by decide) (by decide) 0 10 rfl rfl GG.fb hG.at hl.1 rfl (Nat.le_of_ble_eq_true rfl) ⟨(Nat.le_of_ble_eq_true rfl), (Nat.le_of_ble_eq_true rfl)⟩ ⟨(Nat.le_of_ble_eq_true rfl), (Nat.le_of_ble_eq_true rfl)⟩ (fun r9 u H locs hp hP hD hS => ?_)
    have zl18 : (18 : Int32).toInt = 18 := by decide
    rcases hp with ⟨t10, t11, t12, rfl, rfl⟩ | ⟨t13, t14, t15, t16, rfl⟩
    · have hP : va_P D vwCl [(h_tape, .inl (cB, 940, .inl f_tape)), (h_h, .inl (cI, 104, .inl f_h)), (h_reserved, .inl (cJ, 23, .inr (.inl f_reserved))), (h0, .inr (10, vL 67 Fh)), (h_names, .inl (cJ, 36, .inr (.inl f_names)))] H := hP
      have hD : va_D A [(h_tape, .inl (cB, 940, .inl f_tape)), (h_h, .inl (cI, 104, .inl f_h)), (h_reserved, .inl (cJ, 23, .inr (.inl f_reserved))), (h0, .inr (10, vL 67 Fh)), (h_names, .inl (cJ, 36, .inr (.inl f_names)))] := hD
      refine W.widen (k := 0) (n := 0) (Nat.le_of_ble_eq_true rfl) (Nat.le_of_ble_eq_true rfl) ?_
      refine lv_if_ge (tgt := 44) hx hb dX10_fresh_25 (by decide) (fun g => absurd g (by decide)) (fun _ => ?_)
      refine lv_aload_n hx hb dX10_fresh_28 rfl (lv_at hl 0 rfl) ?_
      refine lv_bipush (v := 30) hx hb dX10_fresh_29 (by decide) ?_
      refine lv_aload_n hx hb dX10_fresh_31 rfl (lv_at hl 0 rfl) ?_
      refine get_f (D := D) (ci := 10) (v := .ref h_h) (C := RX10) (T := TX10) (N := 67) hx hb hw inAX10 hown hK hP 3 rfl rfl 7 (by decide) (hw _ q_1268) (fun _ h9 => h9) e_h dX10_fresh_32 ?_
      refine lv_bipush (v := 7) hx hb dX10_fresh_35 (by decide) ?_
      refine iald_n hx hb hK hP 1 0 rfl rfl 7 rfl (Nat.le_of_ble_eq_true rfl) (Nat.le_of_ble_eq_true rfl) rfl dX10_fresh_37 ?_
      refine lv_topi (fun v18 ev18 => ?_)
      have k19 : 0 ≤ v18.toInt ∧ v18.toInt ≤ 6 := by rw [ev18]; exact s_h_7.atN 7 (by decide) (by decide)
      refine call_Vi (wr := [(h_tape, .inl (cB, 940, .inl f_tape)), (h_h, .inl (cI, 104, .inl f_h)), (h_reserved, .inl (cJ, 23, .inr (.inl f_reserved)))]) (As := [.int 30, .int v18]) (rest := []) hx hb hml hown hw (m_X10_find l D cI cJ cB cP cM cZ h0 h_names Fh x_word f_names 30 v18 _ e_names e_word (show 0 ≤ (30 : Int32).toInt ∧ (30 : Int32).toInt ≤ 30 by decide) (ir_wk k19 (by decide) (by decide)) (by have z0 : (30 : Int32).toInt = 30 := rfl; omega)) wV_X10_222_X10_find dX10_fresh_38 hK hP hD hS hA [3, 4] [0, 1, 2] rfl rfl (by decide) (by decide) (by decide) 0 10 rfl rfl GG.fb hG.at hl.1 rfl (Nat.le_of_ble_eq_true rfl) ⟨(Nat.le_of_ble_eq_true rfl), (Nat.le_of_ble_eq_true rfl)⟩ ⟨(Nat.le_of_ble_eq_true rfl), (Nat.le_of_ble_eq_true rfl)⟩ (fun r20 u H locs hp hP hD hS => ?_)
      have zl30 : (30 : Int32).toInt = 30 := by decide
      rcases hp with ⟨t21, t22, t23, rfl, rfl⟩ | ⟨t24, t25, t26, t27, rfl⟩
      · have hP : va_P D vwCl [(h_tape, .inl (cB, 940, .inl f_tape)), (h_h, .inl (cI, 104, .inl f_h)), (h_reserved, .inl (cJ, 23, .inr (.inl f_reserved))), (h0, .inr (10, vL 67 Fh)), (h_names, .inl (cJ, 36, .inr (.inl f_names)))] H := hP
        have hD : va_D A [(h_tape, .inl (cB, 940, .inl f_tape)), (h_h, .inl (cI, 104, .inl f_h)), (h_reserved, .inl (cJ, 23, .inr (.inl f_reserved))), (h0, .inr (10, vL 67 Fh)), (h_names, .inl (cJ, 36, .inr (.inl f_names)))] := hD
        refine W.widen (k := 0) (n := 0) (Nat.le_of_ble_eq_true rfl) (Nat.le_of_ble_eq_true rfl) ?_
        refine lv_if_lt (tgt := 50) hx hb dX10_fresh_41 (by decide) (fun _ => ?_) (fun g => absurd (by decide) g)
        refine lv_aload_n hx hb dX10_fresh_50 rfl (lv_at hl 0 rfl) ?_
        refine get_f (D := D) (ci := 10) (v := .ref h_names) (C := RX10) (T := TX10) (N := 67) hx hb hw inAX10 hown hK hP 3 rfl rfl 9 (by decide) (hw _ q_1270) (fun _ h9 => h9) e_names dX10_fresh_51 ?_
        refine lv_iload_n hx hb dX10_fresh_54 rfl (lv_at hl 1 rfl) ?_
        refine lv_aload_n hx hb dX10_fresh_55 rfl (lv_at hl 0 rfl) ?_
        refine get_f (D := D) (ci := 10) (v := .long x_word) (C := RX10) (T := TX10) (N := 67) hx hb hw inAX10 hown hK hP 3 rfl rfl 18 (by decide) (hw _ q_1279) (fun _ h9 => h9) e_word dX10_fresh_56 ?_
        obtain ⟨g29, eg29⟩ : ∃ z : Nat → Int64, vp_updL f_names p0.toNatClampNeg x_word = z := ⟨_, rfl⟩
        refine last_g hx hb hK hP hD hS 4 1 rfl rfl (ix_k i_p0 (by decide) (by decide)) eg29 dX10_fresh_59 (fun H locs hP hD hS => ?_)
        have hP : va_P D vwCl [(h_tape, .inl (cB, 940, .inl f_tape)), (h_h, .inl (cI, 104, .inl f_h)), (h_reserved, .inl (cJ, 23, .inr (.inl f_reserved))), (h0, .inr (10, vL 67 Fh)), (h_names, .inl (cJ, 36, .inr (.inl g29)))] H := hP
        have hD : va_D A [(h_tape, .inl (cB, 940, .inl f_tape)), (h_h, .inl (cI, 104, .inl f_h)), (h_reserved, .inl (cJ, 23, .inr (.inl f_reserved))), (h0, .inr (10, vL 67 Fh)), (h_names, .inl (cJ, 36, .inr (.inl g29)))] := hD
        refine lv_aload_n hx hb dX10_fresh_60 rfl (lv_at hl 0 rfl) ?_
        refine call_Vv (wr := [(h_h, .inl (cI, 104, .inl f_h)), (h_reserved, .inl (cJ, 23, .inr (.inl f_reserved))), (h_names, .inl (cJ, 36, .inr (.inl g29)))]) (As := []) (rest := []) hx hb hml hown hw (m_X10_next l D cI cJ cB cP cM cZ h0 h_tape Fh x_size x_p x_limit x_token x_at x_number x_word f_tape _ e_tape e_size i_x_size e_p i_x_p e_limit i_x_limit e_token i_x_token e_at e_number e_word (by omega)) wV_X10_208_X10_next dX10_fresh_61 hK hP hD hS hA [3, 0] [1, 2, 4] rfl rfl (by decide) (by decide) (by decide) 0 10 rfl rfl GG.fb hG.at hl.1 rfl (Nat.le_of_ble_eq_true rfl) ⟨(Nat.le_of_ble_eq_true rfl), (Nat.le_of_ble_eq_true rfl)⟩ ⟨(Nat.le_of_ble_eq_true rfl), (Nat.le_of_ble_eq_true rfl)⟩ (fun u H locs hp hP hD hS => ?_)
        obtain ⟨F31, y32, y33, y34, y35, y36, y37, t38, t39, t40, t41, t42, t43, t44, t45, t46, t47, t48, t49, t50, t51, t52, t53, rfl⟩ := hp
        have hP : va_P D vwCl [(h_h, .inl (cI, 104, .inl f_h)), (h_reserved, .inl (cJ, 23, .inr (.inl f_reserved))), (h_names, .inl (cJ, 36, .inr (.inl g29))), (h0, .inr (10, vL 67 F31)), (h_tape, .inl (cB, 940, .inl f_tape))] H := hP
        have hD : va_D A [(h_h, .inl (cI, 104, .inl f_h)), (h_reserved, .inl (cJ, 23, .inr (.inl f_reserved))), (h_names, .inl (cJ, 36, .inr (.inl g29))), (h0, .inr (10, vL 67 F31)), (h_tape, .inl (cB, 940, .inl f_tape))] := hD
        refine W.widen (k := 0) (n := 0) (Nat.le_of_ble_eq_true rfl) (Nat.le_of_ble_eq_true rfl) ?_
        refine lv_iconst (v := 1) hx hb dX10_fresh_64 (by decide) ?_
        exact ret_i (v := 1) hx hb hr hlocks hS (hP.sub (ws' := [(h0, .inr (10, vL 67 F31)), (h_tape, .inl (cB, 940, .inl f_tape)), (h_h, .inl (cI, 104, .inl f_h)), (h_names, .inl (cJ, 36, .inr (.inl g29))), (h_reserved, .inl (cJ, 23, .inr (.inl f_reserved)))]) [3, 4, 0, 2, 1] rfl) (hD.sub (ws' := [(h0, .inr (10, vL 67 F31)), (h_tape, .inl (cB, 940, .inl f_tape)), (h_h, .inl (cI, 104, .inl f_h)), (h_names, .inl (cJ, 36, .inr (.inl g29))), (h_reserved, .inl (cJ, 23, .inr (.inl f_reserved)))]) [3, 4, 0, 2, 1] (by decide) rfl) dX10_fresh_65 rfl (Nat.le_of_ble_eq_true rfl) (Nat.le_of_ble_eq_true rfl) (Or.inl ⟨F31, y32, y33, y34, y35, y36, y37, g29, (SAME.tr SAME.rf t38 (by decide)), t39, t40, t41, t42, t43, t44, t45, t46, t47, t48, (by have zl1 : (1 : Int32).toInt = 1 := (by decide); omega), (by have zl1 : (1 : Int32).toInt = 1 := (by decide); omega), (by have zlm1 : (-1 : Int32).toInt = -1 := (by decide); have hf0 := find27 (r := ((-1) : Int32).toInt) (o := 18) (n := (f_h 5).toInt) (by rw [← ev7]; exact t12) (z_0 (by omega)) z_1; have hf1 := find27 (r := ((-1) : Int32).toInt) (o := 30) (n := (f_h 7).toInt) (by rw [← ev18]; exact t23) (z_0 (by omega)) z_2; exact namM_1 (by omega) (by omega) (by omega) (by omega) t51), eg29, (by have zl1 : (1 : Int32).toInt = 1 := (by decide); omega), (z_0 (by omega)), t52, (UN.up eg29 (by omega)), (by omega), rfl, rfl⟩)
      · have hP : va_P D vwCl [(h_tape, .inl (cB, 940, .inl f_tape)), (h_h, .inl (cI, 104, .inl f_h)), (h_reserved, .inl (cJ, 23, .inr (.inl f_reserved))), (h0, .inr (10, vL 67 Fh)), (h_names, .inl (cJ, 36, .inr (.inl f_names)))] H := hP
        have hD : va_D A [(h_tape, .inl (cB, 940, .inl f_tape)), (h_h, .inl (cI, 104, .inl f_h)), (h_reserved, .inl (cJ, 23, .inr (.inl f_reserved))), (h0, .inr (10, vL 67 Fh)), (h_names, .inl (cJ, 36, .inr (.inl f_names)))] := hD
        refine W.widen (k := 0) (n := 0) (Nat.le_of_ble_eq_true rfl) (Nat.le_of_ble_eq_true rfl) ?_
        have k55 : 1 ≤ v18.toInt ∧ v18.toInt ≤ 6 := ⟨lo_lt t25 (Int.le_refl _) (by decide), k19.2⟩
        refine lv_if_lt (tgt := 50) hx hb dX10_fresh_41 (by decide) (fun c56 => False.elim (bad_lt (lt_i (a := r20.toInt) (b := 0) rfl rfl c56) t24.1 (Int.le_refl _) (by decide))) (fun c56 => ?_)
        have dc56 : 0 ≤ r20.toInt := nlt_i (a := r20.toInt) (b := 0) rfl rfl c56
        refine lv_aload_n hx hb dX10_fresh_44 rfl (lv_at hl 0 rfl) ?_
        refine lv_iconst (v := 3) hx hb dX10_fresh_45 (by decide) ?_
        refine call_Vi (wr := [(h_tape, .inl (cB, 940, .inl f_tape)), (h_h, .inl (cI, 104, .inl f_h)), (h_reserved, .inl (cJ, 23, .inr (.inl f_reserved))), (h_names, .inl (cJ, 36, .inr (.inl f_names)))]) (As := [.int 3]) (rest := []) hx hb hml hown hw (m_X10_bad l D cI cJ cB cP cM cZ h0 Fh x_at 3 _ e_at) wV_X10_205_X10_bad dX10_fresh_46 hK hP hD hS hA [3] [0, 1, 2, 4] rfl rfl (by decide) (by decide) (by decide) 0 10 rfl rfl GG.fb hG.at hl.1 rfl (Nat.le_of_ble_eq_true rfl) ⟨(Nat.le_of_ble_eq_true rfl), (Nat.le_of_ble_eq_true rfl)⟩ ⟨(Nat.le_of_ble_eq_true rfl), (Nat.le_of_ble_eq_true rfl)⟩ (fun r57 u H locs hp hP hD hS => ?_)
        have zl3 : (3 : Int32).toInt = 3 := by decide
        obtain ⟨F58, t59, t60, t61, rfl, rfl⟩ := hp
        have hP : va_P D vwCl [(h_tape, .inl (cB, 940, .inl f_tape)), (h_h, .inl (cI, 104, .inl f_h)), (h_reserved, .inl (cJ, 23, .inr (.inl f_reserved))), (h_names, .inl (cJ, 36, .inr (.inl f_names))), (h0, .inr (10, vL 67 F58))] H := hP
        have hD : va_D A [(h_tape, .inl (cB, 940, .inl f_tape)), (h_h, .inl (cI, 104, .inl f_h)), (h_reserved, .inl (cJ, 23, .inr (.inl f_reserved))), (h_names, .inl (cJ, 36, .inr (.inl f_names))), (h0, .inr (10, vL 67 F58))] := hD
        refine W.widen (k := 0) (n := 0) (Nat.le_of_ble_eq_true rfl) (Nat.le_of_ble_eq_true rfl) ?_
        exact ret_i (v := 0) hx hb hr hlocks hS (hP.sub (ws' := [(h0, .inr (10, vL 67 F58)), (h_tape, .inl (cB, 940, .inl f_tape)), (h_h, .inl (cI, 104, .inl f_h)), (h_names, .inl (cJ, 36, .inr (.inl f_names))), (h_reserved, .inl (cJ, 23, .inr (.inl f_reserved)))]) [4, 0, 1, 3, 2] rfl) (hD.sub (ws' := [(h0, .inr (10, vL 67 F58)), (h_tape, .inl (cB, 940, .inl f_tape)), (h_h, .inl (cI, 104, .inl f_h)), (h_names, .inl (cJ, 36, .inr (.inl f_names))), (h_reserved, .inl (cJ, 23, .inr (.inl f_reserved)))]) [4, 0, 1, 3, 2] (by decide) rfl) dX10_fresh_49 rfl (Nat.le_of_ble_eq_true rfl) (Nat.le_of_ble_eq_true rfl) (Or.inr ⟨F58, 3, x_at, (SAME.tr SAME.rf t59 (by decide)), t60, (show 1 ≤ (3 : Int32).toInt ∧ (3 : Int32).toInt ≤ 3 by decide), t61, (by have zlm1 : (-1 : Int32).toInt = -1 := (by decide); have hf0 := find27 (r := ((-1) : Int32).toInt) (o := 18) (n := (f_h 5).toInt) (by rw [← ev7]; exact t12) (z_0 (by omega)) z_1; have hf1 := find27 (r := r20.toInt) (o := 30) (n := (f_h 7).toInt) (by rw [← ev18]; exact t27) (z_0 (by omega)) z_2; exact namM_0 (Or.inr ⟨by omega, by omega, by omega, by decide, rfl⟩)), (by have zl3 : (3 : Int32).toInt = 3 := (by decide); omega), rfl, rfl⟩)
    · have hP : va_P D vwCl [(h_tape, .inl (cB, 940, .inl f_tape)), (h_h, .inl (cI, 104, .inl f_h)), (h_reserved, .inl (cJ, 23, .inr (.inl f_reserved))), (h0, .inr (10, vL 67 Fh)), (h_names, .inl (cJ, 36, .inr (.inl f_names)))] H := hP
      have hD : va_D A [(h_tape, .inl (cB, 940, .inl f_tape)), (h_h, .inl (cI, 104, .inl f_h)), (h_reserved, .inl (cJ, 23, .inr (.inl f_reserved))), (h0, .inr (10, vL 67 Fh)), (h_names, .inl (cJ, 36, .inr (.inl f_names)))] := hD
      refine W.widen (k := 0) (n := 0) (Nat.le_of_ble_eq_true rfl) (Nat.le_of_ble_eq_true rfl) ?_
      have k63 : 1 ≤ v7.toInt ∧ v7.toInt ≤ 12 := ⟨lo_lt t14 (Int.le_refl _) (by decide), k8.2⟩
      refine lv_if_ge (tgt := 44) hx hb dX10_fresh_25 (by decide) (fun c64 => ?_) (fun c64 => False.elim (bad_lt (nle_i (a := 0) (b := r9.toInt) rfl rfl c64) t13.1 (Int.le_refl _) (by decide)))
      have dc64 : 0 ≤ r9.toInt := le_i (a := 0) (b := r9.toInt) rfl rfl c64
      refine lv_aload_n hx hb dX10_fresh_44 rfl (lv_at hl 0 rfl) ?_
      refine lv_iconst (v := 3) hx hb dX10_fresh_45 (by decide) ?_
      refine call_Vi (wr := [(h_tape, .inl (cB, 940, .inl f_tape)), (h_h, .inl (cI, 104, .inl f_h)), (h_reserved, .inl (cJ, 23, .inr (.inl f_reserved))), (h_names, .inl (cJ, 36, .inr (.inl f_names)))]) (As := [.int 3]) (rest := []) hx hb hml hown hw (m_X10_bad l D cI cJ cB cP cM cZ h0 Fh x_at 3 _ e_at) wV_X10_205_X10_bad dX10_fresh_46 hK hP hD hS hA [3] [0, 1, 2, 4] rfl rfl (by decide) (by decide) (by decide) 0 10 rfl rfl GG.fb hG.at hl.1 rfl (Nat.le_of_ble_eq_true rfl) ⟨(Nat.le_of_ble_eq_true rfl), (Nat.le_of_ble_eq_true rfl)⟩ ⟨(Nat.le_of_ble_eq_true rfl), (Nat.le_of_ble_eq_true rfl)⟩ (fun r65 u H locs hp hP hD hS => ?_)
      have zl3 : (3 : Int32).toInt = 3 := by decide
      obtain ⟨F66, t67, t68, t69, rfl, rfl⟩ := hp
      have hP : va_P D vwCl [(h_tape, .inl (cB, 940, .inl f_tape)), (h_h, .inl (cI, 104, .inl f_h)), (h_reserved, .inl (cJ, 23, .inr (.inl f_reserved))), (h_names, .inl (cJ, 36, .inr (.inl f_names))), (h0, .inr (10, vL 67 F66))] H := hP
      have hD : va_D A [(h_tape, .inl (cB, 940, .inl f_tape)), (h_h, .inl (cI, 104, .inl f_h)), (h_reserved, .inl (cJ, 23, .inr (.inl f_reserved))), (h_names, .inl (cJ, 36, .inr (.inl f_names))), (h0, .inr (10, vL 67 F66))] := hD
      refine W.widen (k := 0) (n := 0) (Nat.le_of_ble_eq_true rfl) (Nat.le_of_ble_eq_true rfl) ?_
      exact ret_i (v := 0) hx hb hr hlocks hS (hP.sub (ws' := [(h0, .inr (10, vL 67 F66)), (h_tape, .inl (cB, 940, .inl f_tape)), (h_h, .inl (cI, 104, .inl f_h)), (h_names, .inl (cJ, 36, .inr (.inl f_names))), (h_reserved, .inl (cJ, 23, .inr (.inl f_reserved)))]) [4, 0, 1, 3, 2] rfl) (hD.sub (ws' := [(h0, .inr (10, vL 67 F66)), (h_tape, .inl (cB, 940, .inl f_tape)), (h_h, .inl (cI, 104, .inl f_h)), (h_names, .inl (cJ, 36, .inr (.inl f_names))), (h_reserved, .inl (cJ, 23, .inr (.inl f_reserved)))]) [4, 0, 1, 3, 2] (by decide) rfl) dX10_fresh_49 rfl (Nat.le_of_ble_eq_true rfl) (Nat.le_of_ble_eq_true rfl) (Or.inr ⟨F66, 3, x_at, (SAME.tr SAME.rf t67 (by decide)), t68, (show 1 ≤ (3 : Int32).toInt ∧ (3 : Int32).toInt ≤ 3 by decide), t69, (by have zlm1 : (-1 : Int32).toInt = -1 := (by decide); have hf0 := find27 (r := r9.toInt) (o := 18) (n := (f_h 5).toInt) (by rw [← ev7]; exact t16) (z_0 (by omega)) z_1; exact namM_0 (Or.inr ⟨by omega, by omega, by omega, by decide, rfl⟩)), (by have zl3 : (3 : Int32).toInt = 3 := (by decide); omega), rfl, rfl⟩)
  · have dc5 : r1.toInt = 0 := eq_i (a := r1.toInt) (b := 0) rfl rfl c5
    have k71 : 0 ≤ r1.toInt ∧ r1.toInt ≤ 0 := ⟨t2.1, Int.le_trans (Int.le_of_eq dc5) (Int.le_refl _)⟩
    refine lv_aload_n hx hb dX10_fresh_7 rfl (lv_at hl 0 rfl) ?_
    refine lv_iconst (v := 1) hx hb dX10_fresh_8 (by decide) ?_
    refine call_Vi (wr := [(h_tape, .inl (cB, 940, .inl f_tape)), (h_h, .inl (cI, 104, .inl f_h)), (h_names, .inl (cJ, 36, .inr (.inl f_names))), (h_reserved, .inl (cJ, 23, .inr (.inl f_reserved)))]) (As := [.int 1]) (rest := []) hx hb hml hown hw (m_X10_bad l D cI cJ cB cP cM cZ h0 Fh x_at 1 _ e_at) wV_X10_205_X10_bad dX10_fresh_9 hK hP hD hS hA [3] [0, 1, 2, 4] rfl rfl (by decide) (by decide) (by decide) 0 10 rfl rfl GG.fb hG.at hl.1 rfl (Nat.le_of_ble_eq_true rfl) ⟨(Nat.le_of_ble_eq_true rfl), (Nat.le_of_ble_eq_true rfl)⟩ ⟨(Nat.le_of_ble_eq_true rfl), (Nat.le_of_ble_eq_true rfl)⟩ (fun r72 u H locs hp hP hD hS => ?_)
    have zl1 : (1 : Int32).toInt = 1 := by decide
    obtain ⟨F73, t74, t75, t76, rfl, rfl⟩ := hp
    have hP : va_P D vwCl [(h_tape, .inl (cB, 940, .inl f_tape)), (h_h, .inl (cI, 104, .inl f_h)), (h_names, .inl (cJ, 36, .inr (.inl f_names))), (h_reserved, .inl (cJ, 23, .inr (.inl f_reserved))), (h0, .inr (10, vL 67 F73))] H := hP
    have hD : va_D A [(h_tape, .inl (cB, 940, .inl f_tape)), (h_h, .inl (cI, 104, .inl f_h)), (h_names, .inl (cJ, 36, .inr (.inl f_names))), (h_reserved, .inl (cJ, 23, .inr (.inl f_reserved))), (h0, .inr (10, vL 67 F73))] := hD
    refine W.widen (k := 0) (n := 0) (Nat.le_of_ble_eq_true rfl) (Nat.le_of_ble_eq_true rfl) ?_
    exact ret_i (v := 0) hx hb hr hlocks hS (hP.sub (ws' := [(h0, .inr (10, vL 67 F73)), (h_tape, .inl (cB, 940, .inl f_tape)), (h_h, .inl (cI, 104, .inl f_h)), (h_names, .inl (cJ, 36, .inr (.inl f_names))), (h_reserved, .inl (cJ, 23, .inr (.inl f_reserved)))]) [4, 0, 1, 2, 3] rfl) (hD.sub (ws' := [(h0, .inr (10, vL 67 F73)), (h_tape, .inl (cB, 940, .inl f_tape)), (h_h, .inl (cI, 104, .inl f_h)), (h_names, .inl (cJ, 36, .inr (.inl f_names))), (h_reserved, .inl (cJ, 23, .inr (.inl f_reserved)))]) [4, 0, 1, 2, 3] (by decide) rfl) dX10_fresh_12 rfl (Nat.le_of_ble_eq_true rfl) (Nat.le_of_ble_eq_true rfl) (Or.inr ⟨F73, 1, x_at, (SAME.tr SAME.rf t74 (by decide)), t75, (show 1 ≤ (1 : Int32).toInt ∧ (1 : Int32).toInt ≤ 3 by decide), t76, (namM_0 (Or.inl ⟨by omega, by decide, rfl⟩)), (by have zl1 : (1 : Int32).toInt = 1 := (by decide); omega), rfl, rfl⟩)
set_option maxHeartbeats 4000000 in
set_option maxRecDepth 100000 in
theorem m_X10_onceOf (l : Launch) (D : va_G) (cI cJ cB cP cM cZ : ClassId) (h0 : Nat) (Fh : Nat → Value) (x_token : Int32) (x_number : Int32) (x_word : Int64) (sz : Nat) (e_token : Fh 11 = .int x_token) (i_x_token : IR 0 4 x_token) (e_number : Fh 14 = .int x_number) (e_word : Fh 18 = .long x_word) (z_0 : (VWF x_token.toInt x_word.toInt)) (o_0 : (x_token.toInt = 2 → 0 ≤ x_number.toInt ∧ x_number.toInt ≤ 999)) : CI l yX10_onceOf cX10_onceOf 1 (some .int) { frames := 1, cells := 0, slots := 0, locals := 22 } (GG D cI cJ cB cP cM cZ) D [(h0, .inr (10, vL 67 Fh))] sz [.ref h0] (fun (r : Int32) (u : va_W) => IR (-1) 4 r ∧ ((0 ≤ r.toInt ∧ r.toInt ≤ 4 ∧ x_token.toInt = 1 ∧ wix (g27 x_word.toInt) = r.toInt) ∨ (r.toInt = -1 ∧ ¬ (x_token.toInt = 1 ∧ 0 ≤ wix (g27 x_word.toInt) ∧ wix (g27 x_word.toInt) ≤ 4))) ∧ u = [(h0, .inr (10, vL 67 Fh))]) := by
  refine CI_mk (by decide) (Nat.le_of_ble_eq_true rfl) ?_
  intro p e s m below meth c A ls E hAe hG hsz hP hD hA hS hl
  obtain ⟨hx, hb, hr, hw, hown, hlocks, hml, hnm⟩ := E
  have hK := hG.1
  have i_x_token : 0 ≤ x_token.toInt ∧ x_token.toInt ≤ 4 := i_x_token
  have hl : lv_has ls 1 [(0, .ref h0)] := hl
  refine lv_aload_n hx hb dX10_onceOf_0 rfl (lv_at hl 0 rfl) ?_
  refine lv_ldc2 hx hb hown (hw _ q_1234) dX10_onceOf_1 ?_
  refine call_Vi (wr := []) (As := [.long 521325929587]) (rest := []) hx hb hml hown hw (m_X10_isWord l D cI cJ cB cP cM cZ h0 Fh x_token x_number x_word 521325929587 _ e_token i_x_token e_number e_word (by omega)) wV_X10_225_X10_isWord dX10_onceOf_4 hK hP hD hS hA [0] [] rfl rfl (by decide) (by decide) (by decide) 0 10 rfl rfl GG.fb hG.at hl.1 rfl (Nat.le_of_ble_eq_true rfl) ⟨(Nat.le_of_ble_eq_true rfl), (Nat.le_of_ble_eq_true rfl)⟩ ⟨(Nat.le_of_ble_eq_true rfl), (Nat.le_of_ble_eq_true rfl)⟩ (fun r1 u H locs hp hP hD hS => ?_)
  obtain ⟨t2, t3, rfl⟩ := hp
  have hP : va_P D vwCl [(h0, .inr (10, vL 67 Fh))] H := hP
  have hD : va_D A [(h0, .inr (10, vL 67 Fh))] := hD
  refine W.widen (k := 0) (n := 0) (Nat.le_of_ble_eq_true rfl) (Nat.le_of_ble_eq_true rfl) ?_
  replace t3 := (isw (k := 0) (a := 13318957) z_0 t3 (by decide) (by decide +kernel) (by decide +kernel) (by decide +kernel) (by decide +kernel))
  refine lv_if_eq (tgt := 14) hx hb dX10_onceOf_7 (by decide) (fun c5 => ?_) (fun c5 => ?_)
  · have dc5 : r1.toInt = 0 := eq_i (a := r1.toInt) (b := 0) rfl rfl c5
    have k6 : 0 ≤ r1.toInt ∧ r1.toInt ≤ 0 := ⟨t2.1, Int.le_trans (Int.le_of_eq dc5) (Int.le_refl _)⟩
    refine lv_aload_n hx hb dX10_onceOf_14 rfl (lv_at hl 0 rfl) ?_
    refine lv_ldc2 hx hb hown (hw _ q_1235) dX10_onceOf_15 ?_
    refine call_Vi (wr := []) (As := [.long 126909394741093]) (rest := []) hx hb hml hown hw (m_X10_isWord l D cI cJ cB cP cM cZ h0 Fh x_token x_number x_word 126909394741093 _ e_token i_x_token e_number e_word (by omega)) wV_X10_225_X10_isWord dX10_onceOf_18 hK hP hD hS hA [0] [] rfl rfl (by decide) (by decide) (by decide) 0 10 rfl rfl GG.fb hG.at hl.1 rfl (Nat.le_of_ble_eq_true rfl) ⟨(Nat.le_of_ble_eq_true rfl), (Nat.le_of_ble_eq_true rfl)⟩ ⟨(Nat.le_of_ble_eq_true rfl), (Nat.le_of_ble_eq_true rfl)⟩ (fun r7 u H locs hp hP hD hS => ?_)
    obtain ⟨t8, t9, rfl⟩ := hp
    have hP : va_P D vwCl [(h0, .inr (10, vL 67 Fh))] H := hP
    have hD : va_D A [(h0, .inr (10, vL 67 Fh))] := hD
    refine W.widen (k := 0) (n := 0) (Nat.le_of_ble_eq_true rfl) (Nat.le_of_ble_eq_true rfl) ?_
    replace t9 := (isw (k := 1) (a := 279108050) z_0 t9 (by decide) (by decide +kernel) (by decide +kernel) (by decide +kernel) (by decide +kernel))
    refine lv_if_eq (tgt := 28) hx hb dX10_onceOf_21 (by decide) (fun c11 => ?_) (fun c11 => ?_)
    · have dc11 : r7.toInt = 0 := eq_i (a := r7.toInt) (b := 0) rfl rfl c11
      have k12 : 0 ≤ r7.toInt ∧ r7.toInt ≤ 0 := ⟨t8.1, Int.le_trans (Int.le_of_eq dc11) (Int.le_refl _)⟩
      refine lv_aload_n hx hb dX10_onceOf_28 rfl (lv_at hl 0 rfl) ?_
      refine lv_ldc2 hx hb hown (hw _ q_1236) dX10_onceOf_29 ?_
      refine call_Vi (wr := []) (As := [.long 1836020596]) (rest := []) hx hb hml hown hw (m_X10_isWord l D cI cJ cB cP cM cZ h0 Fh x_token x_number x_word 1836020596 _ e_token i_x_token e_number e_word (by omega)) wV_X10_225_X10_isWord dX10_onceOf_32 hK hP hD hS hA [0] [] rfl rfl (by decide) (by decide) (by decide) 0 10 rfl rfl GG.fb hG.at hl.1 rfl (Nat.le_of_ble_eq_true rfl) ⟨(Nat.le_of_ble_eq_true rfl), (Nat.le_of_ble_eq_true rfl)⟩ ⟨(Nat.le_of_ble_eq_true rfl), (Nat.le_of_ble_eq_true rfl)⟩ (fun r13 u H locs hp hP hD hS => ?_)
      have zl1836020596 : (1836020596 : Int32).toInt = 1836020596 := by decide
      obtain ⟨t14, t15, rfl⟩ := hp
      have hP : va_P D vwCl [(h0, .inr (10, vL 67 Fh))] H := hP
      have hD : va_D A [(h0, .inr (10, vL 67 Fh))] := hD
      refine W.widen (k := 0) (n := 0) (Nat.le_of_ble_eq_true rfl) (Nat.le_of_ble_eq_true rfl) ?_
      replace t15 := (isw (k := 2) (a := 267347) z_0 t15 (by decide) (by decide +kernel) (by decide +kernel) (by decide +kernel) (by decide +kernel))
      refine lv_if_eq (tgt := 42) hx hb dX10_onceOf_35 (by decide) (fun c17 => ?_) (fun c17 => ?_)
      · have dc17 : r13.toInt = 0 := eq_i (a := r13.toInt) (b := 0) rfl rfl c17
        have k18 : 0 ≤ r13.toInt ∧ r13.toInt ≤ 0 := ⟨t14.1, Int.le_trans (Int.le_of_eq dc17) (Int.le_refl _)⟩
        refine lv_aload_n hx hb dX10_onceOf_42 rfl (lv_at hl 0 rfl) ?_
        refine lv_ldc2 hx hb hown (hw _ q_1237) dX10_onceOf_43 ?_
        refine call_Vi (wr := []) (As := [.long 6906725]) (rest := []) hx hb hml hown hw (m_X10_isWord l D cI cJ cB cP cM cZ h0 Fh x_token x_number x_word 6906725 _ e_token i_x_token e_number e_word (by omega)) wV_X10_225_X10_isWord dX10_onceOf_46 hK hP hD hS hA [0] [] rfl rfl (by decide) (by decide) (by decide) 0 10 rfl rfl GG.fb hG.at hl.1 rfl (Nat.le_of_ble_eq_true rfl) ⟨(Nat.le_of_ble_eq_true rfl), (Nat.le_of_ble_eq_true rfl)⟩ ⟨(Nat.le_of_ble_eq_true rfl), (Nat.le_of_ble_eq_true rfl)⟩ (fun r19 u H locs hp hP hD hS => ?_)
        have zl6906725 : (6906725 : Int32).toInt = 6906725 := by decide
        obtain ⟨t20, t21, rfl⟩ := hp
        have hP : va_P D vwCl [(h0, .inr (10, vL 67 Fh))] H := hP
        have hD : va_D A [(h0, .inr (10, vL 67 Fh))] := hD
        refine W.widen (k := 0) (n := 0) (Nat.le_of_ble_eq_true rfl) (Nat.le_of_ble_eq_true rfl) ?_
        replace t21 := (isw (k := 3) (a := 6647) z_0 t21 (by decide) (by decide +kernel) (by decide +kernel) (by decide +kernel) (by decide +kernel))
        refine lv_if_eq (tgt := 56) hx hb dX10_onceOf_49 (by decide) (fun c23 => ?_) (fun c23 => ?_)
        · have dc23 : r19.toInt = 0 := eq_i (a := r19.toInt) (b := 0) rfl rfl c23
          have k24 : 0 ≤ r19.toInt ∧ r19.toInt ≤ 0 := ⟨t20.1, Int.le_trans (Int.le_of_eq dc23) (Int.le_refl _)⟩
          refine lv_aload_n hx hb dX10_onceOf_56 rfl (lv_at hl 0 rfl) ?_
          refine lv_ldc2 hx hb hown (hw _ q_1238) dX10_onceOf_57 ?_
          refine call_Vi (wr := []) (As := [.long 2002874989]) (rest := []) hx hb hml hown hw (m_X10_isWord l D cI cJ cB cP cM cZ h0 Fh x_token x_number x_word 2002874989 _ e_token i_x_token e_number e_word (by omega)) wV_X10_225_X10_isWord dX10_onceOf_60 hK hP hD hS hA [0] [] rfl rfl (by decide) (by decide) (by decide) 0 10 rfl rfl GG.fb hG.at hl.1 rfl (Nat.le_of_ble_eq_true rfl) ⟨(Nat.le_of_ble_eq_true rfl), (Nat.le_of_ble_eq_true rfl)⟩ ⟨(Nat.le_of_ble_eq_true rfl), (Nat.le_of_ble_eq_true rfl)⟩ (fun r25 u H locs hp hP hD hS => ?_)
          have zl2002874989 : (2002874989 : Int32).toInt = 2002874989 := by decide
          obtain ⟨t26, t27, rfl⟩ := hp
          have hP : va_P D vwCl [(h0, .inr (10, vL 67 Fh))] H := hP
          have hD : va_D A [(h0, .inr (10, vL 67 Fh))] := hD
          refine W.widen (k := 0) (n := 0) (Nat.le_of_ble_eq_true rfl) (Nat.le_of_ble_eq_true rfl) ?_
          replace t27 := (isw (k := 4) (a := 453937) z_0 t27 (by decide) (by decide +kernel) (by decide +kernel) (by decide +kernel) (by decide +kernel))
          refine lv_if_eq (tgt := 70) hx hb dX10_onceOf_63 (by decide) (fun c29 => ?_) (fun c29 => ?_)
          · have dc29 : r25.toInt = 0 := eq_i (a := r25.toInt) (b := 0) rfl rfl c29
            have k30 : 0 ≤ r25.toInt ∧ r25.toInt ≤ 0 := ⟨t26.1, Int.le_trans (Int.le_of_eq dc29) (Int.le_refl _)⟩
            refine lv_iconst (v := (-1)) hx hb dX10_onceOf_70 (by decide) ?_
            exact ret_i (v := (-1)) hx hb hr hlocks hS hP hD dX10_onceOf_71 rfl (Nat.le_of_ble_eq_true rfl) (Nat.le_of_ble_eq_true rfl) ⟨(show (-1) ≤ ((-1) : Int32).toInt ∧ ((-1) : Int32).toInt ≤ 4 by decide), (by have zlm1 : ((-1) : Int32).toInt = (-1) := (by decide); omega), rfl⟩
          · have dc29 : r25.toInt ≠ 0 := ne_i (a := r25.toInt) (b := 0) rfl rfl c29
            have k31 : 1 ≤ r25.toInt ∧ r25.toInt ≤ 1 := ⟨ne_lo dc29 t26.1 ⟨Int.le_refl _, Int.le_refl _⟩ (by decide), t26.2⟩
            refine lv_iconst (v := 4) hx hb dX10_onceOf_66 (by decide) ?_
            refine lv_goto (tgt := 71) hx hb dX10_onceOf_67 (by decide) ?_
            exact ret_i (v := 4) hx hb hr hlocks hS hP hD dX10_onceOf_71 rfl (Nat.le_of_ble_eq_true rfl) (Nat.le_of_ble_eq_true rfl) ⟨(show (-1) ≤ (4 : Int32).toInt ∧ (4 : Int32).toInt ≤ 4 by decide), (by have zl4 : (4 : Int32).toInt = 4 := (by decide); omega), rfl⟩
        · have dc23 : r19.toInt ≠ 0 := ne_i (a := r19.toInt) (b := 0) rfl rfl c23
          have k32 : 1 ≤ r19.toInt ∧ r19.toInt ≤ 1 := ⟨ne_lo dc23 t20.1 ⟨Int.le_refl _, Int.le_refl _⟩ (by decide), t20.2⟩
          refine lv_iconst (v := 3) hx hb dX10_onceOf_52 (by decide) ?_
          refine lv_goto (tgt := 71) hx hb dX10_onceOf_53 (by decide) ?_
          exact ret_i (v := 3) hx hb hr hlocks hS hP hD dX10_onceOf_71 rfl (Nat.le_of_ble_eq_true rfl) (Nat.le_of_ble_eq_true rfl) ⟨(show (-1) ≤ (3 : Int32).toInt ∧ (3 : Int32).toInt ≤ 4 by decide), (by have zl3 : (3 : Int32).toInt = 3 := (by decide); omega), rfl⟩
      · have dc17 : r13.toInt ≠ 0 := ne_i (a := r13.toInt) (b := 0) rfl rfl c17
        have k33 : 1 ≤ r13.toInt ∧ r13.toInt ≤ 1 := ⟨ne_lo dc17 t14.1 ⟨Int.le_refl _, Int.le_refl _⟩ (by decide), t14.2⟩
        refine lv_iconst (v := 2) hx hb dX10_onceOf_38 (by decide) ?_
        refine lv_goto (tgt := 71) hx hb dX10_onceOf_39 (by decide) ?_
        exact ret_i (v := 2) hx hb hr hlocks hS hP hD dX10_onceOf_71 rfl (Nat.le_of_ble_eq_true rfl) (Nat.le_of_ble_eq_true rfl) ⟨(show (-1) ≤ (2 : Int32).toInt ∧ (2 : Int32).toInt ≤ 4 by decide), (by have zl2 : (2 : Int32).toInt = 2 := (by decide); omega), rfl⟩
    · have dc11 : r7.toInt ≠ 0 := ne_i (a := r7.toInt) (b := 0) rfl rfl c11
      have k34 : 1 ≤ r7.toInt ∧ r7.toInt ≤ 1 := ⟨ne_lo dc11 t8.1 ⟨Int.le_refl _, Int.le_refl _⟩ (by decide), t8.2⟩
      refine lv_iconst (v := 1) hx hb dX10_onceOf_24 (by decide) ?_
      refine lv_goto (tgt := 71) hx hb dX10_onceOf_25 (by decide) ?_
      exact ret_i (v := 1) hx hb hr hlocks hS hP hD dX10_onceOf_71 rfl (Nat.le_of_ble_eq_true rfl) (Nat.le_of_ble_eq_true rfl) ⟨(show (-1) ≤ (1 : Int32).toInt ∧ (1 : Int32).toInt ≤ 4 by decide), (by have zl1 : (1 : Int32).toInt = 1 := (by decide); omega), rfl⟩
  · have dc5 : r1.toInt ≠ 0 := ne_i (a := r1.toInt) (b := 0) rfl rfl c5
    have k35 : 1 ≤ r1.toInt ∧ r1.toInt ≤ 1 := ⟨ne_lo dc5 t2.1 ⟨Int.le_refl _, Int.le_refl _⟩ (by decide), t2.2⟩
    refine lv_iconst (v := 0) hx hb dX10_onceOf_10 (by decide) ?_
    refine lv_goto (tgt := 71) hx hb dX10_onceOf_11 (by decide) ?_
    exact ret_i (v := 0) hx hb hr hlocks hS hP hD dX10_onceOf_71 rfl (Nat.le_of_ble_eq_true rfl) (Nat.le_of_ble_eq_true rfl) ⟨(show (-1) ≤ (0 : Int32).toInt ∧ (0 : Int32).toInt ≤ 4 by decide), (by have zl0 : (0 : Int32).toInt = 0 := (by decide); omega), rfl⟩
set_option maxHeartbeats 4000000 in
set_option maxRecDepth 100000 in
theorem m_X10_isOnce (l : Launch) (D : va_G) (cI cJ cB cP cM cZ : ClassId) (h0 : Nat) (h_tape : Nat) (Fh : Nat → Value) (x_size : Int32) (x_p : Int32) (x_limit : Int32) (x_token : Int32) (x_at : Int32) (x_number : Int32) (x_fault : Int32) (x_faultAt : Int32) (x_word : Int64) (x_onces : Int32) (f_tape : Nat → Int32) (p0 : Int32) (sz : Nat) (e_tape : Fh 1 = .ref h_tape) (e_size : Fh 3 = .int x_size) (i_x_size : IR 0 940 x_size) (e_p : Fh 4 = .int x_p) (i_x_p : IR 0 940 x_p) (e_limit : Fh 5 = .int x_limit) (i_x_limit : IR 200 940 x_limit) (e_token : Fh 11 = .int x_token) (i_x_token : IR 0 4 x_token) (e_at : Fh 12 = .int x_at) (e_number : Fh 14 = .int x_number) (e_fault : Fh 15 = .int x_fault) (e_faultAt : Fh 16 = .int x_faultAt) (e_word : Fh 18 = .long x_word) (e_onces : Fh 21 = .int x_onces) (o_0 : (x_token.toInt = 2 → 0 ≤ x_number.toInt ∧ x_number.toInt ≤ 999)) : CI l yX10_isOnce cX10_isOnce 2 (some .boolean) { frames := 2, cells := 0, slots := 0, locals := 43 } (GG D cI cJ cB cP cM cZ) D [(h0, .inr (10, vL 67 Fh)), (h_tape, .inl (cB, 940, .inl f_tape))] sz [.ref h0, .int p0] (fun (r : Int32) (u : va_W) => (∃ (Gh : Nat → Value) (y_p : Int32) (y_token : Int32) (y_at : Int32) (y_span : Int32) (y_number : Int32) (y_word : Int64) (y_onces : Int32), SAME [4, 11, 12, 13, 14, 18, 21] Fh Gh ∧ Gh 4 = .int y_p ∧ IR 0 940 y_p ∧ Gh 11 = .int y_token ∧ IR 0 4 y_token ∧ Gh 12 = .int y_at ∧ IR 0 940 y_at ∧ Gh 13 = .int y_span ∧ IR 0 940 y_span ∧ Gh 14 = .int y_number ∧ Gh 18 = .long y_word ∧ Gh 21 = .int y_onces ∧ (x_p.toInt ≤ y_p.toInt) ∧ ((1 ≤ y_token.toInt → y_token.toInt ≤ 3 → x_p.toInt < y_p.toInt)) ∧ ((tkM y_token y_at y_number y_word y_p) = (tkA f_tape x_size.toInt x_limit.toInt) x_p.toInt) ∧ (tst x_onces p0 = 0) ∧ (y_onces = x_onces ||| (1 <<< (p0 &&& 31))) ∧ ((VWF y_token.toInt y_word.toInt)) ∧ ((y_token.toInt = 2 → 0 ≤ y_number.toInt ∧ y_number.toInt ≤ 999)) ∧ r = 1 ∧ u = [(h0, .inr (10, vL 67 Gh)), (h_tape, .inl (cB, 940, .inl f_tape))]) ∨ (∃ (Gh : Nat → Value) (y_fault : Int32) (y_faultAt : Int32), SAME [15, 16] Fh Gh ∧ Gh 15 = .int y_fault ∧ IR 3 3 y_fault ∧ Gh 16 = .int y_faultAt ∧ (tst x_onces p0 ≠ 0) ∧ (y_fault.toInt = 3 ∧ y_faultAt.toInt = x_at.toInt) ∧ ((x_token.toInt = 2 → 0 ≤ x_number.toInt ∧ x_number.toInt ≤ 999)) ∧ r = 0 ∧ u = [(h0, .inr (10, vL 67 Gh)), (h_tape, .inl (cB, 940, .inl f_tape))])) := by
  refine CI_mk (by decide) (Nat.le_of_ble_eq_true rfl) ?_
  intro p e s m below meth c A ls E hAe hG hsz hP hD hA hS hl
  obtain ⟨hx, hb, hr, hw, hown, hlocks, hml, hnm⟩ := E
  have hK := hG.1
  have i_x_size : 0 ≤ x_size.toInt ∧ x_size.toInt ≤ 940 := i_x_size
  have i_x_p : 0 ≤ x_p.toInt ∧ x_p.toInt ≤ 940 := i_x_p
  have i_x_limit : 200 ≤ x_limit.toInt ∧ x_limit.toInt ≤ 940 := i_x_limit
  have i_x_token : 0 ≤ x_token.toInt ∧ x_token.toInt ≤ 4 := i_x_token
  have hl : lv_has ls 2 [(0, .ref h0), (1, .int p0)] := hl
  refine lv_aload_n hx hb dX10_isOnce_0 rfl (lv_at hl 0 rfl) ?_
  refine get_f (D := D) (ci := 10) (v := .int x_onces) (C := RX10) (T := TX10) (N := 67) hx hb hw inAX10 hown hK hP 0 rfl rfl 21 (by decide) (hw _ q_1282) (fun _ h9 => h9) e_onces dX10_isOnce_1 ?_
  refine lv_iload_n hx hb dX10_isOnce_4 rfl (lv_at hl 1 rfl) ?_
  refine call_Si (wr := [(h0, .inr (10, vL 67 Fh)), (h_tape, .inl (cB, 940, .inl f_tape))]) (As := [.int x_onces, .int p0]) (rest := []) hx hb hml hown hw (m_X10_bitOf l D cI cJ cB cP cM cZ x_onces p0 _ ) wS_X10_232_X10_bitOf dX10_isOnce_5 hP hD hS hA [] [0, 1] rfl rfl (by decide) (by decide) (by decide) GG.fb hG.at hl.1 rfl (Nat.le_of_ble_eq_true rfl) ⟨(Nat.le_of_ble_eq_true rfl), (Nat.le_of_ble_eq_true rfl)⟩ ⟨(Nat.le_of_ble_eq_true rfl), (Nat.le_of_ble_eq_true rfl)⟩ (fun r1 u H locs hp hP hD hS => ?_)
  rcases hp with ⟨t2, rfl, rfl⟩ | ⟨t3, rfl, rfl⟩
  · have hP : va_P D vwCl [(h0, .inr (10, vL 67 Fh)), (h_tape, .inl (cB, 940, .inl f_tape))] H := hP
    have hD : va_D A [(h0, .inr (10, vL 67 Fh)), (h_tape, .inl (cB, 940, .inl f_tape))] := hD
    refine W.widen (k := 0) (n := 0) (Nat.le_of_ble_eq_true rfl) (Nat.le_of_ble_eq_true rfl) ?_
    refine lv_if_eq (tgt := 17) hx hb dX10_isOnce_8 (by decide) (fun _ => ?_) (fun g => absurd (by decide) g)
    refine lv_aload_n hx hb dX10_isOnce_17 rfl (lv_at hl 0 rfl) ?_
    refine lv_dup hx hb dX10_isOnce_18 rfl ?_
    refine get_f (D := D) (ci := 10) (v := .int x_onces) (C := RX10) (T := TX10) (N := 67) hx hb hw inAX10 hown hK hP 0 rfl rfl 21 (by decide) (hw _ q_1282) (fun _ h9 => h9) e_onces dX10_isOnce_19 ?_
    refine lv_iconst (v := 1) hx hb dX10_isOnce_22 (by decide) ?_
    refine lv_iload_n hx hb dX10_isOnce_23 rfl (lv_at hl 1 rfl) ?_
    refine lv_ishl hx hb dX10_isOnce_24 ?_
    refine lv_topi (fun v5 ev5 => ?_)
    refine lv_ior hx hb dX10_isOnce_25 ?_
    refine lv_topi (fun v6 ev6 => ?_)
    refine put_f (D := D) (ci := 10) (v := .int v6) (ty := .int) (C := RX10) (T := TX10) (N := 67) hx hb hw inAX10 tyX10 tyX10_ok nmX10 hown hK hP hD hS 0 rfl rfl 21 (by decide) (hw _ q_1282) (fun _ h9 => h9) rfl (by decide +kernel) rfl rfl dX10_isOnce_26 (fun H locs F7 eF7 hP hD hS => ?_)
    have hP : va_P D vwCl [(h0, .inr (10, vL 67 F7)), (h_tape, .inl (cB, 940, .inl f_tape))] H := hP
    have hD : va_D A [(h0, .inr (10, vL 67 F7)), (h_tape, .inl (cB, 940, .inl f_tape))] := hD
    refine lv_aload_n hx hb dX10_isOnce_29 rfl (lv_at hl 0 rfl) ?_
    have n8 : F7 1 = .ref h_tape := (get_ne eF7 (by decide) e_tape)
    have n9 : F7 3 = .int x_size := (get_ne eF7 (by decide) e_size)
    have n10 : F7 4 = .int x_p := (get_ne eF7 (by decide) e_p)
    have n11 : F7 5 = .int x_limit := (get_ne eF7 (by decide) e_limit)
    have n12 : F7 11 = .int x_token := (get_ne eF7 (by decide) e_token)
    have n13 : F7 12 = .int x_at := (get_ne eF7 (by decide) e_at)
    have n14 : F7 14 = .int x_number := (get_ne eF7 (by decide) e_number)
    have n15 : F7 18 = .long x_word := (get_ne eF7 (by decide) e_word)
    refine call_Vv (wr := []) (As := []) (rest := []) hx hb hml hown hw (m_X10_next l D cI cJ cB cP cM cZ h0 h_tape F7 x_size x_p x_limit x_token x_at x_number x_word f_tape _ n8 n9 i_x_size n10 i_x_p n11 i_x_limit n12 i_x_token n13 n14 n15 (by omega)) wV_X10_208_X10_next dX10_isOnce_30 hK hP hD hS hA [0, 1] [] rfl rfl (by decide) (by decide) (by decide) 0 10 rfl rfl GG.fb hG.at hl.1 rfl (Nat.le_of_ble_eq_true rfl) ⟨(Nat.le_of_ble_eq_true rfl), (Nat.le_of_ble_eq_true rfl)⟩ ⟨(Nat.le_of_ble_eq_true rfl), (Nat.le_of_ble_eq_true rfl)⟩ (fun u H locs hp hP hD hS => ?_)
    obtain ⟨F17, y18, y19, y20, y21, y22, y23, t24, t25, t26, t27, t28, t29, t30, t31, t32, t33, t34, t35, t36, t37, t38, t39, rfl⟩ := hp
    have hP : va_P D vwCl [(h0, .inr (10, vL 67 F17)), (h_tape, .inl (cB, 940, .inl f_tape))] H := hP
    have hD : va_D A [(h0, .inr (10, vL 67 F17)), (h_tape, .inl (cB, 940, .inl f_tape))] := hD
    refine W.widen (k := 0) (n := 0) (Nat.le_of_ble_eq_true rfl) (Nat.le_of_ble_eq_true rfl) ?_
    refine lv_iconst (v := 1) hx hb dX10_isOnce_33 (by decide) ?_
    exact ret_i (v := 1) hx hb hr hlocks hS hP hD dX10_isOnce_34 rfl (Nat.le_of_ble_eq_true rfl) (Nat.le_of_ble_eq_true rfl) (Or.inl ⟨F17, y18, y19, y20, y21, y22, y23, v6, (SAME.tr (SAME.up eF7 SAME.rf (by decide)) t24 (by decide)), t25, t26, t27, t28, t29, t30, t31, t32, t33, t34, (SAME.at t24 (by decide) (get_eq eF7)), (by have zl1 : (1 : Int32).toInt = 1 := (by decide); omega), (by have zl1 : (1 : Int32).toInt = 1 := (by decide); omega), t37, (bit_0 t2), (by rw [ev6, ev5]), t38, (by omega), rfl, rfl⟩)
  · have hP : va_P D vwCl [(h0, .inr (10, vL 67 Fh)), (h_tape, .inl (cB, 940, .inl f_tape))] H := hP
    have hD : va_D A [(h0, .inr (10, vL 67 Fh)), (h_tape, .inl (cB, 940, .inl f_tape))] := hD
    refine W.widen (k := 0) (n := 0) (Nat.le_of_ble_eq_true rfl) (Nat.le_of_ble_eq_true rfl) ?_
    refine lv_if_eq (tgt := 17) hx hb dX10_isOnce_8 (by decide) (fun g => absurd g (by decide)) (fun _ => ?_)
    refine lv_aload_n hx hb dX10_isOnce_11 rfl (lv_at hl 0 rfl) ?_
    refine lv_iconst (v := 3) hx hb dX10_isOnce_12 (by decide) ?_
    refine call_Vi (wr := [(h_tape, .inl (cB, 940, .inl f_tape))]) (As := [.int 3]) (rest := []) hx hb hml hown hw (m_X10_bad l D cI cJ cB cP cM cZ h0 Fh x_at 3 _ e_at) wV_X10_205_X10_bad dX10_isOnce_13 hK hP hD hS hA [0] [1] rfl rfl (by decide) (by decide) (by decide) 0 10 rfl rfl GG.fb hG.at hl.1 rfl (Nat.le_of_ble_eq_true rfl) ⟨(Nat.le_of_ble_eq_true rfl), (Nat.le_of_ble_eq_true rfl)⟩ ⟨(Nat.le_of_ble_eq_true rfl), (Nat.le_of_ble_eq_true rfl)⟩ (fun r41 u H locs hp hP hD hS => ?_)
    have zl3 : (3 : Int32).toInt = 3 := by decide
    obtain ⟨F42, t43, t44, t45, rfl, rfl⟩ := hp
    have hP : va_P D vwCl [(h_tape, .inl (cB, 940, .inl f_tape)), (h0, .inr (10, vL 67 F42))] H := hP
    have hD : va_D A [(h_tape, .inl (cB, 940, .inl f_tape)), (h0, .inr (10, vL 67 F42))] := hD
    refine W.widen (k := 0) (n := 0) (Nat.le_of_ble_eq_true rfl) (Nat.le_of_ble_eq_true rfl) ?_
    exact ret_i (v := 0) hx hb hr hlocks hS (hP.sub (ws' := [(h0, .inr (10, vL 67 F42)), (h_tape, .inl (cB, 940, .inl f_tape))]) [1, 0] rfl) (hD.sub (ws' := [(h0, .inr (10, vL 67 F42)), (h_tape, .inl (cB, 940, .inl f_tape))]) [1, 0] (by decide) rfl) dX10_isOnce_16 rfl (Nat.le_of_ble_eq_true rfl) (Nat.le_of_ble_eq_true rfl) (Or.inr ⟨F42, 3, x_at, (SAME.tr SAME.rf t43 (by decide)), t44, (show 3 ≤ (3 : Int32).toInt ∧ (3 : Int32).toInt ≤ 3 by decide), t45, (bit_1 t3), (by have zl0 : (0 : Int32).toInt = 0 := (by decide); have zl3 : (3 : Int32).toInt = 3 := (by decide); omega), (by have zl3 : (3 : Int32).toInt = 3 := (by decide); omega), rfl, rfl⟩)
