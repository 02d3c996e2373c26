set_option maxHeartbeats 4000000 in
set_option maxRecDepth 100000 in
theorem m_X10_next (l : Launch) (D : va_G) (cI cJ cB cP cM cZ : ClassId) (h0 : Nat) (h_tape : Nat) (Fh : Nat → Value) (x_size : Int32) (x_p : Int32) (x_limit : Int32) (x_token : Int32) (x_number : Int32) (x_word : Int64) (f_tape : Nat → Int32) (sz : Nat) (e_tape : Fh 1 = .ref h_tape) (e_size : Fh 3 = .int x_size) (i_x_size : IR 0 940 x_size) (e_p : Fh 4 = .int x_p) (i_x_p : IR 0 940 x_p) (e_limit : Fh 5 = .int x_limit) (i_x_limit : IR 200 940 x_limit) (e_token : Fh 11 = .int x_token) (i_x_token : IR 0 4 x_token) (e_number : Fh 14 = .int x_number) (e_word : Fh 18 = .long x_word) (o_0 : (x_token.toInt = 2 → 0 ≤ x_number.toInt ∧ x_number.toInt ≤ 999)) : CV l yX10_next cX10_next 4 none { frames := 1, cells := 0, slots := 0, locals := 20 } (GG D cI cJ cB cP cM cZ) D [(h0, .inr (10, vL 67 Fh)), (h_tape, .inl (cB, 940, .inl f_tape))] sz [.ref h0] (fun (u : va_W) => ∃ (Gh : Nat → Value) (y_p : Int32) (y_token : Int32) (y_at : Int32) (y_span : Int32) (y_number : Int32) (y_word : Int64), SAME [4, 11, 12, 13, 14, 18] Fh Gh ∧ Gh 4 = .int y_p ∧ IR 0 940 y_p ∧ Gh 11 = .int y_token ∧ IR 0 4 y_token ∧ Gh 12 = .int y_at ∧ IR 0 940 y_at ∧ Gh 13 = .int y_span ∧ IR 0 940 y_span ∧ Gh 14 = .int y_number ∧ Gh 18 = .long y_word ∧ (x_p.toInt ≤ y_p.toInt) ∧ ((1 ≤ y_token.toInt → y_token.toInt ≤ 3 → x_p.toInt < y_p.toInt)) ∧ ((y_token.toInt = 2 → 0 ≤ y_number.toInt ∧ y_number.toInt ≤ 999)) ∧ u = [(h0, .inr (10, vL 67 Gh)), (h_tape, .inl (cB, 940, .inl f_tape))]) := by
  refine CV_mk (by decide) (Nat.le_of_ble_eq_true rfl) ?_
  intro p e s m below meth c A ls E hAe hG hsz hP hD hA hS hl
  obtain ⟨hx, hb, hr, hw, hown, hlocks, hml, hnm⟩ := E
  have hK := hG.1
  have i_x_size : 0 ≤ x_size.toInt ∧ x_size.toInt ≤ 940 := i_x_size
  have i_x_p : 0 ≤ x_p.toInt ∧ x_p.toInt ≤ 940 := i_x_p
  have i_x_limit : 200 ≤ x_limit.toInt ∧ x_limit.toInt ≤ 940 := i_x_limit
  have i_x_token : 0 ≤ x_token.toInt ∧ x_token.toInt ≤ 4 := i_x_token
  have hl : lv_has ls 4 [(0, .ref h0)] := hl
  have cut3 : ∀ (G1 : Nat → Value) (u2 : Int32) (_ : SAME [4] Fh G1) (_ : G1 4 = .int u2) (_ : IR 0 940 u2) (_ : (x_p.toInt ≤ u2.toInt)) (H : Heap) (locs : List Loc) (ls : Array Slot), va_P D vwCl [(h0, .inr (10, vL 67 G1)), (h_tape, .inl (cB, 940, .inl f_tape))] H → va_D A [(h0, .inr (10, vL 67 G1)), (h_tape, .inl (cB, 940, .inl f_tape))] → va_S A s.heap H locs → lv_has ls 4 [(0, .ref h0)] → W p l e ({ frames := 1, cells := 0, slots := 0, locals := 20 } : Room) s m [.ref h0].toArray below meth c H locs 0 0 (MQ below (va_Qv (fun (u : va_W) => ∃ (Gh : Nat → Value) (y_p : Int32) (y_token : Int32) (y_at : Int32) (y_span : Int32) (y_number : Int32) (y_word : Int64), SAME [4, 11, 12, 13, 14, 18] Fh Gh ∧ Gh 4 = .int y_p ∧ IR 0 940 y_p ∧ Gh 11 = .int y_token ∧ IR 0 4 y_token ∧ Gh 12 = .int y_at ∧ IR 0 940 y_at ∧ Gh 13 = .int y_span ∧ IR 0 940 y_span ∧ Gh 14 = .int y_number ∧ Gh 18 = .long y_word ∧ (x_p.toInt ≤ y_p.toInt) ∧ ((1 ≤ y_token.toInt → y_token.toInt ≤ 3 → x_p.toInt < y_p.toInt)) ∧ ((y_token.toInt = 2 → 0 ≤ y_number.toInt ∧ y_number.toInt ≤ 999)) ∧ u = [(h0, .inr (10, vL 67 Gh)), (h_tape, .inl (cB, 940, .inl f_tape))]) (PO D A) A) [.ref h0].toArray s 0 0 A) (F0 m 31 ls []) := by
    intro G1 u2 i4 i5 i6 i7 H locs ls hP hD hS hl
    have i6 : 0 ≤ u2.toInt ∧ u2.toInt ≤ 940 := i6
    have i7 : x_p.toInt ≤ u2.toInt := i7
    refine lv_aload_n hx hb dX10_next_31 rfl (lv_at hl 0 rfl) ?_
    refine lv_aload_n hx hb dX10_next_32 rfl (lv_at hl 0 rfl) ?_
    refine get_f (D := D) (ci := 10) (v := .int u2) (C := RX10) (T := TX10) (N := 67) hx hb hw inAX10 hown hK hP 0 rfl rfl 4 (by decide) (hw _ q_1265) (fun _ h9 => h9) i5 dX10_next_33 ?_
    refine put_f (D := D) (ci := 10) (v := .int u2) (ty := .int) (C := RX10) (T := TX10) (N := 67) hx hb hw inAX10 tyX10 tyX10_ok nmX10 hown hK hP hD hS 0 rfl rfl 12 (by decide) (hw _ q_1273) (fun _ h9 => h9) rfl (by decide +kernel) rfl rfl dX10_next_36 (fun H locs F8 eF8 hP hD hS => ?_)
    have hP : va_P D vwCl [(h0, .inr (10, vL 67 F8)), (h_tape, .inl (cB, 940, .inl f_tape))] H := hP
    have hD : va_D A [(h0, .inr (10, vL 67 F8)), (h_tape, .inl (cB, 940, .inl f_tape))] := hD
    refine lv_aload_n hx hb dX10_next_39 rfl (lv_at hl 0 rfl) ?_
    refine lv_iconst (v := 0) hx hb dX10_next_40 (by decide) ?_
    refine put_f (D := D) (ci := 10) (v := .int 0) (ty := .int) (C := RX10) (T := TX10) (N := 67) hx hb hw inAX10 tyX10 tyX10_ok nmX10 hown hK hP hD hS 0 rfl rfl 13 (by decide) (hw _ q_1274) (fun _ h9 => h9) rfl (by decide +kernel) rfl rfl dX10_next_41 (fun H locs F9 eF9 hP hD hS => ?_)
    have hP : va_P D vwCl [(h0, .inr (10, vL 67 F9)), (h_tape, .inl (cB, 940, .inl f_tape))] H := hP
    have hD : va_D A [(h0, .inr (10, vL 67 F9)), (h_tape, .inl (cB, 940, .inl f_tape))] := hD
    refine lv_aload_n hx hb dX10_next_44 rfl (lv_at hl 0 rfl) ?_
    have n10 : G1 3 = .int x_size := (SAME.at i4 (by decide) e_size)
    have n11 : F8 3 = .int x_size := (get_ne eF8 (by decide) n10)
    have n12 : F9 3 = .int x_size := (get_ne eF9 (by decide) n11)
    refine get_f (D := D) (ci := 10) (v := .int x_size) (C := RX10) (T := TX10) (N := 67) hx hb hw inAX10 hown hK hP 0 rfl rfl 3 (by decide) (hw _ q_1264) (fun _ h9 => h9) n12 dX10_next_45 ?_
    refine lv_aload_n hx hb dX10_next_48 rfl (lv_at hl 0 rfl) ?_
    have n13 : G1 5 = .int x_limit := (SAME.at i4 (by decide) e_limit)
    have n14 : F8 5 = .int x_limit := (get_ne eF8 (by decide) n13)
    have n15 : F9 5 = .int x_limit := (get_ne eF9 (by decide) n14)
    refine get_f (D := D) (ci := 10) (v := .int x_limit) (C := RX10) (T := TX10) (N := 67) hx hb hw inAX10 hown hK hP 0 rfl rfl 5 (by decide) (hw _ q_1266) (fun _ h9 => h9) n15 dX10_next_49 ?_
    refine lv_icmp_le (tgt := 80) hx hb dX10_next_52 (by decide) (fun c16 => ?_) (fun c16 => ?_)
    · have dc16 : x_size.toInt ≤ x_limit.toInt := le_i (a := x_size.toInt) (b := x_limit.toInt) rfl rfl c16
      refine lv_aload_n hx hb dX10_next_80 rfl (lv_at hl 0 rfl) ?_
      have n17 : G1 1 = .ref h_tape := (SAME.at i4 (by decide) e_tape)
      have n18 : F8 1 = .ref h_tape := (get_ne eF8 (by decide) n17)
      have n19 : F9 1 = .ref h_tape := (get_ne eF9 (by decide) n18)
      have n20 : F8 4 = .int u2 := (get_ne eF8 (by decide) i5)
      have n21 : F9 4 = .int u2 := (get_ne eF9 (by decide) n20)
      refine call_Vi (wr := []) (As := []) (rest := []) hx hb hml hown hw (m_X10_peek l D cI cJ cB cP cM cZ h0 h_tape F9 x_size u2 f_tape _ n19 n12 i_x_size n21 i6) wV_X10_169_X10_peek dX10_next_81 hK hP hD hS hA [0, 1] [] rfl rfl (by decide) (by decide) (by decide) 0 10 rfl rfl GG.fb hG.at hl.1 rfl (Nat.le_of_ble_eq_true rfl) ⟨(Nat.le_of_ble_eq_true rfl), (Nat.le_of_ble_eq_true rfl)⟩ ⟨(Nat.le_of_ble_eq_true rfl), (Nat.le_of_ble_eq_true rfl)⟩ (fun r22 u H locs hp hP hD hS => ?_)
      rcases hp with ⟨t23, rfl, rfl⟩ | ⟨t24, t25, rfl, rfl⟩
      · have hP : va_P D vwCl [(h0, .inr (10, vL 67 F9)), (h_tape, .inl (cB, 940, .inl f_tape))] H := hP
        have hD : va_D A [(h0, .inr (10, vL 67 F9)), (h_tape, .inl (cB, 940, .inl f_tape))] := hD
        refine W.widen (k := 0) (n := 0) (Nat.le_of_ble_eq_true rfl) (Nat.le_of_ble_eq_true rfl) ?_
        refine lv_istore_n (lv' := [(1, .int (-1)), (0, .ref h0)]) hx hb dX10_next_84 rfl hl (by decide) rfl (fun ls hl => ?_)
        refine lv_iload_n hx hb dX10_next_85 rfl (lv_at hl 0 rfl) ?_
        refine lv_if_ge (tgt := 95) hx hb dX10_next_86 (by decide) (fun g => absurd g (by decide)) (fun _ => ?_)
        refine lv_aload_n hx hb dX10_next_89 rfl (lv_at hl 1 rfl) ?_
        refine lv_iconst (v := 0) hx hb dX10_next_90 (by decide) ?_
        refine put_f (D := D) (ci := 10) (v := .int 0) (ty := .int) (C := RX10) (T := TX10) (N := 67) hx hb hw inAX10 tyX10 tyX10_ok nmX10 hown hK hP hD hS 0 rfl rfl 11 (by decide) (hw _ q_1272) (fun _ h9 => h9) rfl (by decide +kernel) rfl rfl dX10_next_91 (fun H locs F27 eF27 hP hD hS => ?_)
        have hP : va_P D vwCl [(h0, .inr (10, vL 67 F27)), (h_tape, .inl (cB, 940, .inl f_tape))] H := hP
        have hD : va_D A [(h0, .inr (10, vL 67 F27)), (h_tape, .inl (cB, 940, .inl f_tape))] := hD
        exact ret_v hx hb hr hlocks hS hP hD dX10_next_94 (Nat.le_of_ble_eq_true rfl) (Nat.le_of_ble_eq_true rfl) ⟨F27, u2, 0, u2, 0, x_number, x_word, (SAME.up eF27 (SAME.up eF9 (SAME.up eF8 (SAME.tr SAME.rf i4 (by decide)) (by decide)) (by decide)) (by decide)), (get_ne eF27 (by decide) n21), i6, (get_eq eF27), (show 0 ≤ (0 : Int32).toInt ∧ (0 : Int32).toInt ≤ 4 by decide), (get_ne eF27 (by decide) (get_ne eF9 (by decide) (get_eq eF8))), i6, (get_ne eF27 (by decide) (get_eq eF9)), (show 0 ≤ (0 : Int32).toInt ∧ (0 : Int32).toInt ≤ 940 by decide), (get_ne eF27 (by decide) (get_ne eF9 (by decide) (get_ne eF8 (by decide) (SAME.at i4 (by decide) e_number)))), (get_ne eF27 (by decide) (get_ne eF9 (by decide) (get_ne eF8 (by decide) (SAME.at i4 (by decide) e_word)))), (by have zl0 : (0 : Int32).toInt = 0 := (by decide); have zl4 : (4 : Int32).toInt = 4 := (by decide); omega), (by have zl0 : (0 : Int32).toInt = 0 := (by decide); have zl4 : (4 : Int32).toInt = 4 := (by decide); omega), (by have zl0 : (0 : Int32).toInt = 0 := (by decide); omega), rfl⟩
      · have hP : va_P D vwCl [(h0, .inr (10, vL 67 F9)), (h_tape, .inl (cB, 940, .inl f_tape))] H := hP
        have hD : va_D A [(h0, .inr (10, vL 67 F9)), (h_tape, .inl (cB, 940, .inl f_tape))] := hD
        refine W.widen (k := 0) (n := 0) (Nat.le_of_ble_eq_true rfl) (Nat.le_of_ble_eq_true rfl) ?_
        refine lv_topi (fun v28 ev28 => ?_)
        have k29 : 0 ≤ v28.toInt ∧ v28.toInt ≤ 255 := by rw [ev28]; exact t24
        have k30 : 0 ≤ u2.toInt ∧ u2.toInt ≤ 939 := ⟨i6.1, up_lt t25 i_x_size.2 (by decide)⟩
        have k31 : 1 ≤ x_size.toInt ∧ x_size.toInt ≤ 940 := ⟨lo_lt t25 i6.1 (by decide), i_x_size.2⟩
        refine lv_istore_n (lv' := [(1, .int v28), (0, .ref h0)]) hx hb dX10_next_84 rfl hl (by decide) rfl (fun ls hl => ?_)
        refine lv_iload_n hx hb dX10_next_85 rfl (lv_at hl 0 rfl) ?_
        refine lv_if_ge (tgt := 95) hx hb dX10_next_86 (by decide) (fun c32 => ?_) (fun c32 => False.elim (bad_lt (nle_i (a := 0) (b := v28.toInt) rfl rfl c32) k29.1 (Int.le_refl _) (by decide)))
        have dc32 : 0 ≤ v28.toInt := le_i (a := 0) (b := v28.toInt) rfl rfl c32
        have cut34 : ∀ (u33 : Int32) (_ : IR 0 1 u33) (_ : (((48 ≤ v28.toInt ∧ v28.toInt ≤ 57 ∧ u33.toInt = 0) ∨ (97 ≤ v28.toInt ∧ v28.toInt ≤ 122 ∧ u33.toInt = 1)))) (H : Heap) (locs : List Loc) (ls : Array Slot), va_P D vwCl [(h0, .inr (10, vL 67 F9)), (h_tape, .inl (cB, 940, .inl f_tape))] H → va_D A [(h0, .inr (10, vL 67 F9)), (h_tape, .inl (cB, 940, .inl f_tape))] → va_S A s.heap H locs → lv_has ls 4 [(3, .int 1), (2, .int u33), (1, .int v28), (0, .ref h0)] → W p l e ({ frames := 1, cells := 0, slots := 0, locals := 20 } : Room) s m [.ref h0].toArray below meth c H locs 0 0 (MQ below (va_Qv (fun (u : va_W) => ∃ (Gh : Nat → Value) (y_p : Int32) (y_token : Int32) (y_at : Int32) (y_span : Int32) (y_number : Int32) (y_word : Int64), SAME [4, 11, 12, 13, 14, 18] Fh Gh ∧ Gh 4 = .int y_p ∧ IR 0 940 y_p ∧ Gh 11 = .int y_token ∧ IR 0 4 y_token ∧ Gh 12 = .int y_at ∧ IR 0 940 y_at ∧ Gh 13 = .int y_span ∧ IR 0 940 y_span ∧ Gh 14 = .int y_number ∧ Gh 18 = .long y_word ∧ (x_p.toInt ≤ y_p.toInt) ∧ ((1 ≤ y_token.toInt → y_token.toInt ≤ 3 → x_p.toInt < y_p.toInt)) ∧ ((y_token.toInt = 2 → 0 ≤ y_number.toInt ∧ y_number.toInt ≤ 999)) ∧ u = [(h0, .inr (10, vL 67 Gh)), (h_tape, .inl (cB, 940, .inl f_tape))]) (PO D A) A) [.ref h0].toArray s 0 0 A) (F0 m 171 ls []) := by
          intro u33 i35 i36 H locs ls hP hD hS hl
          have i35 : 0 ≤ u33.toInt ∧ u33.toInt ≤ 1 := i35
          have i36 : ((48 ≤ v28.toInt ∧ v28.toInt ≤ 57 ∧ u33.toInt = 0) ∨ (97 ≤ v28.toInt ∧ v28.toInt ≤ 122 ∧ u33.toInt = 1)) := i36
          refine lv_aload_n hx hb dX10_next_171 rfl (lv_at hl 3 rfl) ?_
          refine lv_lconst (v := 0) hx hb dX10_next_172 (by decide) ?_
          refine put_f (D := D) (ci := 10) (v := .long 0) (ty := .long) (C := RX10) (T := TX10) (N := 67) hx hb hw inAX10 tyX10 tyX10_ok nmX10 hown hK hP hD hS 0 rfl rfl 18 (by decide) (hw _ q_1279) (fun _ h9 => h9) rfl (by decide +kernel) rfl rfl dX10_next_173 (fun H locs F37 eF37 hP hD hS => ?_)
          have hP : va_P D vwCl [(h0, .inr (10, vL 67 F37)), (h_tape, .inl (cB, 940, .inl f_tape))] H := hP
          have hD : va_D A [(h0, .inr (10, vL 67 F37)), (h_tape, .inl (cB, 940, .inl f_tape))] := hD
          refine lv_aload_n hx hb dX10_next_176 rfl (lv_at hl 3 rfl) ?_
          refine lv_iconst (v := 0) hx hb dX10_next_177 (by decide) ?_
          refine put_f (D := D) (ci := 10) (v := .int 0) (ty := .int) (C := RX10) (T := TX10) (N := 67) hx hb hw inAX10 tyX10 tyX10_ok nmX10 hown hK hP hD hS 0 rfl rfl 14 (by decide) (hw _ q_1275) (fun _ h9 => h9) rfl (by decide +kernel) rfl rfl dX10_next_178 (fun H locs F38 eF38 hP hD hS => ?_)
          have hP : va_P D vwCl [(h0, .inr (10, vL 67 F38)), (h_tape, .inl (cB, 940, .inl f_tape))] H := hP
          have hD : va_D A [(h0, .inr (10, vL 67 F38)), (h_tape, .inl (cB, 940, .inl f_tape))] := hD
          have cut45 : ∀ (u39 : Int32) (G40 : Nat → Value) (u41 : Int32) (u42 : Int32) (u43 : Int32) (u44 : Int64) (_ : IR 0 1 u39) (_ : SAME [4, 13, 14, 18] F38 G40) (_ : G40 4 = .int u41) (_ : G40 13 = .int u42) (_ : G40 14 = .int u43) (_ : G40 18 = .long u44) (_ : IR 0 940 u41) (_ : IR 0 940 u42) (_ : (0 ≤ u42.toInt ∧ u42.toInt ≤ u41.toInt ∧ x_p.toInt + u42.toInt ≤ u41.toInt ∧ (u42.toInt = 0 → u41.toInt = u2.toInt))) (_ : (u39.toInt = 1 → u33.toInt = 0 → (0 ≤ u43.toInt ∧ u43.toInt ≤ 999 ∧ (u42.toInt = 0 → u43.toInt = 0) ∧ (u42.toInt = 1 → u43.toInt ≤ 9) ∧ (u42.toInt = 2 → u43.toInt ≤ 99)))) (_ : ((x_token.toInt = 2 → 0 ≤ u43.toInt ∧ u43.toInt ≤ 999))) (_ : (1 ≤ u42.toInt)) (H : Heap) (locs : List Loc) (ls : Array Slot), va_P D vwCl [(h0, .inr (10, vL 67 G40)), (h_tape, .inl (cB, 940, .inl f_tape))] H → va_D A [(h0, .inr (10, vL 67 G40)), (h_tape, .inl (cB, 940, .inl f_tape))] → va_S A s.heap H locs → lv_has ls 4 [(3, .int u39), (2, .int u33), (1, .int v28), (0, .ref h0)] → W p l e ({ frames := 1, cells := 0, slots := 0, locals := 20 } : Room) s m [.ref h0].toArray below meth c H locs 0 0 (MQ below (va_Qv (fun (u : va_W) => ∃ (Gh : Nat → Value) (y_p : Int32) (y_token : Int32) (y_at : Int32) (y_span : Int32) (y_number : Int32) (y_word : Int64), SAME [4, 11, 12, 13, 14, 18] Fh Gh ∧ Gh 4 = .int y_p ∧ IR 0 940 y_p ∧ Gh 11 = .int y_token ∧ IR 0 4 y_token ∧ Gh 12 = .int y_at ∧ IR 0 940 y_at ∧ Gh 13 = .int y_span ∧ IR 0 940 y_span ∧ Gh 14 = .int y_number ∧ Gh 18 = .long y_word ∧ (x_p.toInt ≤ y_p.toInt) ∧ ((1 ≤ y_token.toInt → y_token.toInt ≤ 3 → x_p.toInt < y_p.toInt)) ∧ ((y_token.toInt = 2 → 0 ≤ y_number.toInt ∧ y_number.toInt ≤ 999)) ∧ u = [(h0, .inr (10, vL 67 Gh)), (h_tape, .inl (cB, 940, .inl f_tape))]) (PO D A) A) [.ref h0].toArray s 0 0 A) (F0 m 298 ls []) := by
            intro u39 G40 u41 u42 u43 u44 i46 i47 i48 i49 i50 i51 i52 i53 i54 i55 i56 i57 H locs ls hP hD hS hl
            have i46 : 0 ≤ u39.toInt ∧ u39.toInt ≤ 1 := i46
            have i52 : 0 ≤ u41.toInt ∧ u41.toInt ≤ 940 := i52
            have i53 : 0 ≤ u42.toInt ∧ u42.toInt ≤ 940 := i53
            have i54 : 0 ≤ u42.toInt ∧ u42.toInt ≤ u41.toInt ∧ x_p.toInt + u42.toInt ≤ u41.toInt ∧ (u42.toInt = 0 → u41.toInt = u2.toInt) := i54
            have i55 : u39.toInt = 1 → u33.toInt = 0 → (0 ≤ u43.toInt ∧ u43.toInt ≤ 999 ∧ (u42.toInt = 0 → u43.toInt = 0) ∧ (u42.toInt = 1 → u43.toInt ≤ 9) ∧ (u42.toInt = 2 → u43.toInt ≤ 99)) := i55
            have i56 : (x_token.toInt = 2 → 0 ≤ u43.toInt ∧ u43.toInt ≤ 999) := i56
            have i57 : 1 ≤ u42.toInt := i57
            refine lv_aload_n hx hb dX10_next_298 rfl (lv_at hl 3 rfl) ?_
            refine lv_iload_n hx hb dX10_next_299 rfl (lv_at hl 0 rfl) ?_
            refine lv_if_eq (tgt := 320) hx hb dX10_next_300 (by decide) (fun c58 => ?_) (fun c58 => ?_)
            · have dc58 : u39.toInt = 0 := eq_i (a := u39.toInt) (b := 0) rfl rfl c58
              have k59 : 0 ≤ u39.toInt ∧ u39.toInt ≤ 0 := ⟨i46.1, Int.le_trans (Int.le_of_eq dc58) (Int.le_refl _)⟩
              refine lv_iconst (v := 4) hx hb dX10_next_320 (by decide) ?_
              refine lv_goto (tgt := 333) hx hb dX10_next_321 (by decide) ?_
              refine put_f (D := D) (ci := 10) (v := .int 4) (ty := .int) (C := RX10) (T := TX10) (N := 67) hx hb hw inAX10 tyX10 tyX10_ok nmX10 hown hK hP hD hS 0 rfl rfl 11 (by decide) (hw _ q_1272) (fun _ h9 => h9) rfl (by decide +kernel) rfl rfl dX10_next_333 (fun H locs F60 eF60 hP hD hS => ?_)
              have hP : va_P D vwCl [(h0, .inr (10, vL 67 F60)), (h_tape, .inl (cB, 940, .inl f_tape))] H := hP
              have hD : va_D A [(h0, .inr (10, vL 67 F60)), (h_tape, .inl (cB, 940, .inl f_tape))] := hD
              exact ret_v hx hb hr hlocks hS hP hD dX10_next_336 (Nat.le_of_ble_eq_true rfl) (Nat.le_of_ble_eq_true rfl) ⟨F60, u41, 4, u2, u42, u43, u44, (SAME.up eF60 (SAME.tr (SAME.up eF38 (SAME.up eF37 (SAME.up eF9 (SAME.up eF8 (SAME.tr SAME.rf i4 (by decide)) (by decide)) (by decide)) (by decide)) (by decide)) i47 (by decide)) (by decide)), (get_ne eF60 (by decide) i48), i52, (get_eq eF60), (show 0 ≤ (4 : Int32).toInt ∧ (4 : Int32).toInt ≤ 4 by decide), (get_ne eF60 (by decide) (SAME.at i47 (by decide) (get_ne eF38 (by decide) (get_ne eF37 (by decide) (get_ne eF9 (by decide) (get_eq eF8)))))), (ir_wk k30 (by decide) (by decide)), (get_ne eF60 (by decide) i49), i53, (get_ne eF60 (by decide) i50), (get_ne eF60 (by decide) i51), (by have zl0 : (0 : Int32).toInt = 0 := (by decide); have zl4 : (4 : Int32).toInt = 4 := (by decide); omega), (by have zl0 : (0 : Int32).toInt = 0 := (by decide); have zl4 : (4 : Int32).toInt = 4 := (by decide); omega), (by have zl4 : (4 : Int32).toInt = 4 := (by decide); omega), rfl⟩
            · have dc58 : u39.toInt ≠ 0 := ne_i (a := u39.toInt) (b := 0) rfl rfl c58
              have k61 : 1 ≤ u39.toInt ∧ u39.toInt ≤ 1 := ⟨ne_lo dc58 i46.1 ⟨Int.le_refl _, Int.le_refl _⟩ (by decide), i46.2⟩
              refine lv_aload_n hx hb dX10_next_303 rfl (lv_at hl 3 rfl) ?_
              refine get_f (D := D) (ci := 10) (v := .int u42) (C := RX10) (T := TX10) (N := 67) hx hb hw inAX10 hown hK hP 0 rfl rfl 13 (by decide) (hw _ q_1274) (fun _ h9 => h9) i49 dX10_next_304 ?_
              refine lv_iload_n hx hb dX10_next_307 rfl (lv_at hl 1 rfl) ?_
              refine lv_if_eq (tgt := 316) hx hb dX10_next_308 (by decide) (fun c62 => ?_) (fun c62 => ?_)
              · have dc62 : u33.toInt = 0 := eq_i (a := u33.toInt) (b := 0) rfl rfl c62
                have k63 : 0 ≤ u33.toInt ∧ u33.toInt ≤ 0 := ⟨i35.1, Int.le_trans (Int.le_of_eq dc62) (Int.le_refl _)⟩
                refine lv_iconst (v := 3) hx hb dX10_next_316 (by decide) ?_
                refine lv_icmp_le (tgt := 324) hx hb dX10_next_317 (by decide) (fun c64 => ?_) (fun c64 => ?_)
                · have dc64 : u42.toInt ≤ 3 := le_i (a := u42.toInt) (b := 3) rfl rfl c64
                  have k65 : 0 ≤ u42.toInt ∧ u42.toInt ≤ 3 := ⟨i53.1, Int.le_trans dc64 (Int.le_refl _)⟩
                  refine lv_iload_n hx hb dX10_next_324 rfl (lv_at hl 1 rfl) ?_
                  refine lv_if_eq (tgt := 332) hx hb dX10_next_325 (by decide) (fun c66 => ?_) (fun c66 => False.elim (bad_ne (ne_i (a := u33.toInt) (b := 0) rfl rfl c66) k63 ⟨Int.le_refl _, Int.le_refl _⟩ (by decide)))
                  have dc66 : u33.toInt = 0 := eq_i (a := u33.toInt) (b := 0) rfl rfl c66
                  refine lv_iconst (v := 2) hx hb dX10_next_332 (by decide) ?_
                  refine put_f (D := D) (ci := 10) (v := .int 2) (ty := .int) (C := RX10) (T := TX10) (N := 67) hx hb hw inAX10 tyX10 tyX10_ok nmX10 hown hK hP hD hS 0 rfl rfl 11 (by decide) (hw _ q_1272) (fun _ h9 => h9) rfl (by decide +kernel) rfl rfl dX10_next_333 (fun H locs F67 eF67 hP hD hS => ?_)
                  have hP : va_P D vwCl [(h0, .inr (10, vL 67 F67)), (h_tape, .inl (cB, 940, .inl f_tape))] H := hP
                  have hD : va_D A [(h0, .inr (10, vL 67 F67)), (h_tape, .inl (cB, 940, .inl f_tape))] := hD
                  exact ret_v hx hb hr hlocks hS hP hD dX10_next_336 (Nat.le_of_ble_eq_true rfl) (Nat.le_of_ble_eq_true rfl) ⟨F67, u41, 2, u2, u42, u43, u44, (SAME.up eF67 (SAME.tr (SAME.up eF38 (SAME.up eF37 (SAME.up eF9 (SAME.up eF8 (SAME.tr SAME.rf i4 (by decide)) (by decide)) (by decide)) (by decide)) (by decide)) i47 (by decide)) (by decide)), (get_ne eF67 (by decide) i48), i52, (get_eq eF67), (show 0 ≤ (2 : Int32).toInt ∧ (2 : Int32).toInt ≤ 4 by decide), (get_ne eF67 (by decide) (SAME.at i47 (by decide) (get_ne eF38 (by decide) (get_ne eF37 (by decide) (get_ne eF9 (by decide) (get_eq eF8)))))), (ir_wk k30 (by decide) (by decide)), (get_ne eF67 (by decide) i49), (ir_wk k65 (by decide) (by decide)), (get_ne eF67 (by decide) i50), (get_ne eF67 (by decide) i51), (by have zl0 : (0 : Int32).toInt = 0 := (by decide); have zl4 : (4 : Int32).toInt = 4 := (by decide); omega), (by have zl0 : (0 : Int32).toInt = 0 := (by decide); have zl4 : (4 : Int32).toInt = 4 := (by decide); omega), (by have zl2 : (2 : Int32).toInt = 2 := (by decide); omega), rfl⟩
                · have dc64 : 3 < u42.toInt := nle_i (a := u42.toInt) (b := 3) rfl rfl c64
                  have k68 : 4 ≤ u42.toInt ∧ u42.toInt ≤ 940 := ⟨lo_lt dc64 (Int.le_refl _) (by decide), i53.2⟩
                  refine lv_iconst (v := 4) hx hb dX10_next_320 (by decide) ?_
                  refine lv_goto (tgt := 333) hx hb dX10_next_321 (by decide) ?_
                  refine put_f (D := D) (ci := 10) (v := .int 4) (ty := .int) (C := RX10) (T := TX10) (N := 67) hx hb hw inAX10 tyX10 tyX10_ok nmX10 hown hK hP hD hS 0 rfl rfl 11 (by decide) (hw _ q_1272) (fun _ h9 => h9) rfl (by decide +kernel) rfl rfl dX10_next_333 (fun H locs F69 eF69 hP hD hS => ?_)
                  have hP : va_P D vwCl [(h0, .inr (10, vL 67 F69)), (h_tape, .inl (cB, 940, .inl f_tape))] H := hP
                  have hD : va_D A [(h0, .inr (10, vL 67 F69)), (h_tape, .inl (cB, 940, .inl f_tape))] := hD
                  exact ret_v hx hb hr hlocks hS hP hD dX10_next_336 (Nat.le_of_ble_eq_true rfl) (Nat.le_of_ble_eq_true rfl) ⟨F69, u41, 4, u2, u42, u43, u44, (SAME.up eF69 (SAME.tr (SAME.up eF38 (SAME.up eF37 (SAME.up eF9 (SAME.up eF8 (SAME.tr SAME.rf i4 (by decide)) (by decide)) (by decide)) (by decide)) (by decide)) i47 (by decide)) (by decide)), (get_ne eF69 (by decide) i48), i52, (get_eq eF69), (show 0 ≤ (4 : Int32).toInt ∧ (4 : Int32).toInt ≤ 4 by decide), (get_ne eF69 (by decide) (SAME.at i47 (by decide) (get_ne eF38 (by decide) (get_ne eF37 (by decide) (get_ne eF9 (by decide) (get_eq eF8)))))), (ir_wk k30 (by decide) (by decide)), (get_ne eF69 (by decide) i49), (ir_wk k68 (by decide) (by decide)), (get_ne eF69 (by decide) i50), (get_ne eF69 (by decide) i51), (by have zl0 : (0 : Int32).toInt = 0 := (by decide); have zl4 : (4 : Int32).toInt = 4 := (by decide); omega), (by have zl0 : (0 : Int32).toInt = 0 := (by decide); have zl4 : (4 : Int32).toInt = 4 := (by decide); omega), (by have zl4 : (4 : Int32).toInt = 4 := (by decide); omega), rfl⟩
              · have dc62 : u33.toInt ≠ 0 := ne_i (a := u33.toInt) (b := 0) rfl rfl c62
                have k70 : 1 ≤ u33.toInt ∧ u33.toInt ≤ 1 := ⟨ne_lo dc62 i35.1 ⟨Int.le_refl _, Int.le_refl _⟩ (by decide), i35.2⟩
                refine lv_bipush (v := 7) hx hb dX10_next_311 (by decide) ?_
                refine lv_goto (tgt := 317) hx hb dX10_next_313 (by decide) ?_
                refine lv_icmp_le (tgt := 324) hx hb dX10_next_317 (by decide) (fun c71 => ?_) (fun c71 => ?_)
                · have dc71 : u42.toInt ≤ 7 := le_i (a := u42.toInt) (b := 7) rfl rfl c71
                  have k72 : 0 ≤ u42.toInt ∧ u42.toInt ≤ 7 := ⟨i53.1, Int.le_trans dc71 (Int.le_refl _)⟩
                  refine lv_iload_n hx hb dX10_next_324 rfl (lv_at hl 1 rfl) ?_
                  refine lv_if_eq (tgt := 332) hx hb dX10_next_325 (by decide) (fun c73 => False.elim (bad_le (Int.le_of_eq (eq_i (a := u33.toInt) (b := 0) rfl rfl c73)) k70.1 (Int.le_refl _) (by decide))) (fun c73 => ?_)
                  have dc73 : u33.toInt ≠ 0 := ne_i (a := u33.toInt) (b := 0) rfl rfl c73
                  refine lv_iconst (v := 1) hx hb dX10_next_328 (by decide) ?_
                  refine lv_goto (tgt := 333) hx hb dX10_next_329 (by decide) ?_
                  refine put_f (D := D) (ci := 10) (v := .int 1) (ty := .int) (C := RX10) (T := TX10) (N := 67) hx hb hw inAX10 tyX10 tyX10_ok nmX10 hown hK hP hD hS 0 rfl rfl 11 (by decide) (hw _ q_1272) (fun _ h9 => h9) rfl (by decide +kernel) rfl rfl dX10_next_333 (fun H locs F74 eF74 hP hD hS => ?_)
                  have hP : va_P D vwCl [(h0, .inr (10, vL 67 F74)), (h_tape, .inl (cB, 940, .inl f_tape))] H := hP
                  have hD : va_D A [(h0, .inr (10, vL 67 F74)), (h_tape, .inl (cB, 940, .inl f_tape))] := hD
                  exact ret_v hx hb hr hlocks hS hP hD dX10_next_336 (Nat.le_of_ble_eq_true rfl) (Nat.le_of_ble_eq_true rfl) ⟨F74, u41, 1, u2, u42, u43, u44, (SAME.up eF74 (SAME.tr (SAME.up eF38 (SAME.up eF37 (SAME.up eF9 (SAME.up eF8 (SAME.tr SAME.rf i4 (by decide)) (by decide)) (by decide)) (by decide)) (by decide)) i47 (by decide)) (by decide)), (get_ne eF74 (by decide) i48), i52, (get_eq eF74), (show 0 ≤ (1 : Int32).toInt ∧ (1 : Int32).toInt ≤ 4 by decide), (get_ne eF74 (by decide) (SAME.at i47 (by decide) (get_ne eF38 (by decide) (get_ne eF37 (by decide) (get_ne eF9 (by decide) (get_eq eF8)))))), (ir_wk k30 (by decide) (by decide)), (get_ne eF74 (by decide) i49), (ir_wk k72 (by decide) (by decide)), (get_ne eF74 (by decide) i50), (get_ne eF74 (by decide) i51), (by have zl0 : (0 : Int32).toInt = 0 := (by decide); have zl4 : (4 : Int32).toInt = 4 := (by decide); omega), (by have zl0 : (0 : Int32).toInt = 0 := (by decide); have zl4 : (4 : Int32).toInt = 4 := (by decide); omega), (by have zl1 : (1 : Int32).toInt = 1 := (by decide); omega), rfl⟩
                · have dc71 : 7 < u42.toInt := nle_i (a := u42.toInt) (b := 7) rfl rfl c71
                  have k75 : 8 ≤ u42.toInt ∧ u42.toInt ≤ 940 := ⟨lo_lt dc71 (Int.le_refl _) (by decide), i53.2⟩
                  refine lv_iconst (v := 4) hx hb dX10_next_320 (by decide) ?_
                  refine lv_goto (tgt := 333) hx hb dX10_next_321 (by decide) ?_
                  refine put_f (D := D) (ci := 10) (v := .int 4) (ty := .int) (C := RX10) (T := TX10) (N := 67) hx hb hw inAX10 tyX10 tyX10_ok nmX10 hown hK hP hD hS 0 rfl rfl 11 (by decide) (hw _ q_1272) (fun _ h9 => h9) rfl (by decide +kernel) rfl rfl dX10_next_333 (fun H locs F76 eF76 hP hD hS => ?_)
                  have hP : va_P D vwCl [(h0, .inr (10, vL 67 F76)), (h_tape, .inl (cB, 940, .inl f_tape))] H := hP
                  have hD : va_D A [(h0, .inr (10, vL 67 F76)), (h_tape, .inl (cB, 940, .inl f_tape))] := hD
                  exact ret_v hx hb hr hlocks hS hP hD dX10_next_336 (Nat.le_of_ble_eq_true rfl) (Nat.le_of_ble_eq_true rfl) ⟨F76, u41, 4, u2, u42, u43, u44, (SAME.up eF76 (SAME.tr (SAME.up eF38 (SAME.up eF37 (SAME.up eF9 (SAME.up eF8 (SAME.tr SAME.rf i4 (by decide)) (by decide)) (by decide)) (by decide)) (by decide)) i47 (by decide)) (by decide)), (get_ne eF76 (by decide) i48), i52, (get_eq eF76), (show 0 ≤ (4 : Int32).toInt ∧ (4 : Int32).toInt ≤ 4 by decide), (get_ne eF76 (by decide) (SAME.at i47 (by decide) (get_ne eF38 (by decide) (get_ne eF37 (by decide) (get_ne eF9 (by decide) (get_eq eF8)))))), (ir_wk k30 (by decide) (by decide)), (get_ne eF76 (by decide) i49), (ir_wk k75 (by decide) (by decide)), (get_ne eF76 (by decide) i50), (get_ne eF76 (by decide) i51), (by have zl0 : (0 : Int32).toInt = 0 := (by decide); have zl4 : (4 : Int32).toInt = 4 := (by decide); omega), (by have zl0 : (0 : Int32).toInt = 0 := (by decide); have zl4 : (4 : Int32).toInt = 4 := (by decide); omega), (by have zl4 : (4 : Int32).toInt = 4 := (by decide); omega), rfl⟩
          have n77 : F37 4 = .int u2 := (get_ne eF37 (by decide) n21)
          have n78 : F38 4 = .int u2 := (get_ne eF38 (by decide) n77)
          have n79 : F37 13 = .int 0 := (get_ne eF37 (by decide) (get_eq eF9))
          have n80 : F38 13 = .int 0 := (get_ne eF38 (by decide) n79)
          have n81 : F38 18 = .long 0 := (get_ne eF38 (by decide) (get_eq eF37))
          refine mloop (α := (Int32) × (Nat → Value) × (Int32) × (Int32) × (Int32) × (Int64)) (nL := 4) (D := D) (A := A) (H0 := s.heap) (fun a => (x_size.toInt - a.2.2.1.toInt).toNat) (fun a => IR 0 1 a.1 ∧ SAME [4, 13, 14, 18] F38 a.2.1 ∧ a.2.1 4 = .int a.2.2.1 ∧ a.2.1 13 = .int a.2.2.2.1 ∧ a.2.1 14 = .int a.2.2.2.2.1 ∧ a.2.1 18 = .long a.2.2.2.2.2 ∧ IR 0 940 a.2.2.1 ∧ IR 0 940 a.2.2.2.1 ∧ (0 ≤ a.2.2.2.1.toInt ∧ a.2.2.2.1.toInt ≤ a.2.2.1.toInt ∧ x_p.toInt + a.2.2.2.1.toInt ≤ a.2.2.1.toInt ∧ (a.2.2.2.1.toInt = 0 → a.2.2.1.toInt = u2.toInt)) ∧ (a.1.toInt = 1 → u33.toInt = 0 → (0 ≤ a.2.2.2.2.1.toInt ∧ a.2.2.2.2.1.toInt ≤ 999 ∧ (a.2.2.2.1.toInt = 0 → a.2.2.2.2.1.toInt = 0) ∧ (a.2.2.2.1.toInt = 1 → a.2.2.2.2.1.toInt ≤ 9) ∧ (a.2.2.2.1.toInt = 2 → a.2.2.2.2.1.toInt ≤ 99))) ∧ ((x_token.toInt = 2 → 0 ≤ a.2.2.2.2.1.toInt ∧ a.2.2.2.2.1.toInt ≤ 999))) (fun a => [(h0, .inr (10, vL 67 a.2.1)), (h_tape, .inl (cB, 940, .inl f_tape))]) (fun a => [(3, .int a.1), (2, .int u33), (1, .int v28), (0, .ref h0)]) (fun H locs ls => W p l e ({ frames := 1, cells := 0, slots := 0, locals := 20 } : Room) s m [.ref h0].toArray below meth c H locs 0 0 (MQ below (va_Qv (fun (u : va_W) => ∃ (Gh : Nat → Value) (y_p : Int32) (y_token : Int32) (y_at : Int32) (y_span : Int32) (y_number : Int32) (y_word : Int64), SAME [4, 11, 12, 13, 14, 18] Fh Gh ∧ Gh 4 = .int y_p ∧ IR 0 940 y_p ∧ Gh 11 = .int y_token ∧ IR 0 4 y_token ∧ Gh 12 = .int y_at ∧ IR 0 940 y_at ∧ Gh 13 = .int y_span ∧ IR 0 940 y_span ∧ Gh 14 = .int y_number ∧ Gh 18 = .long y_word ∧ (x_p.toInt ≤ y_p.toInt) ∧ ((1 ≤ y_token.toInt → y_token.toInt ≤ 3 → x_p.toInt < y_p.toInt)) ∧ ((y_token.toInt = 2 → 0 ≤ y_number.toInt ∧ y_number.toInt ≤ 999)) ∧ u = [(h0, .inr (10, vL 67 Gh)), (h_tape, .inl (cB, 940, .inl f_tape))]) (PO D A) A) [.ref h0].toArray s 0 0 A) (F0 m 181 ls [])) ?_ (1, F38, u2, 0, 0, 0) ⟨(show 0 ≤ (1 : Int32).toInt ∧ (1 : Int32).toInt ≤ 1 by decide), SAME.rf, n78, n80, (get_eq eF38), n81, (ir_wk k30 (by decide) (by decide)), (show 0 ≤ (0 : Int32).toInt ∧ (0 : Int32).toInt ≤ 940 by decide), (by show 0 ≤ 0 ∧ 0 ≤ u2.toInt ∧ x_p.toInt + 0 ≤ u2.toInt ∧ (0 = 0 → u2.toInt = u2.toInt); omega), (by show 1 = 1 → u33.toInt = 0 → (0 ≤ 0 ∧ 0 ≤ 999 ∧ (0 = 0 → 0 = 0) ∧ (0 = 1 → 0 ≤ 9) ∧ (0 = 2 → 0 ≤ 99)); omega), (by show (x_token.toInt = 2 → 0 ≤ 0 ∧ 0 ≤ 999); omega)⟩ _ _ _ hP hD hS hl
          rintro ⟨u39, G40, u41, u42, u43, u44⟩ ⟨i82, i83, i84, i85, i86, i87, i88, i89, i90, i91, i92⟩ ih H locs ls hP hD hS hl
          have i82 : 0 ≤ u39.toInt ∧ u39.toInt ≤ 1 := i82
          have i88 : 0 ≤ u41.toInt ∧ u41.toInt ≤ 940 := i88
          have i89 : 0 ≤ u42.toInt ∧ u42.toInt ≤ 940 := i89
          have i90 : 0 ≤ u42.toInt ∧ u42.toInt ≤ u41.toInt ∧ x_p.toInt + u42.toInt ≤ u41.toInt ∧ (u42.toInt = 0 → u41.toInt = u2.toInt) := i90
          have i91 : u39.toInt = 1 → u33.toInt = 0 → (0 ≤ u43.toInt ∧ u43.toInt ≤ 999 ∧ (u42.toInt = 0 → u43.toInt = 0) ∧ (u42.toInt = 1 → u43.toInt ≤ 9) ∧ (u42.toInt = 2 → u43.toInt ≤ 99)) := i91
          have i92 : (x_token.toInt = 2 → 0 ≤ u43.toInt ∧ u43.toInt ≤ 999) := i92
          have hP : va_P D vwCl [(h0, .inr (10, vL 67 G40)), (h_tape, .inl (cB, 940, .inl f_tape))] H := hP
          have hD : va_D A [(h0, .inr (10, vL 67 G40)), (h_tape, .inl (cB, 940, .inl f_tape))] := hD
          have hl : lv_has ls 4 [(3, .int u39), (2, .int u33), (1, .int v28), (0, .ref h0)] := hl
          refine lv_aload_n hx hb dX10_next_181 rfl (lv_at hl 3 rfl) ?_
          have n93 : F37 1 = .ref h_tape := (get_ne eF37 (by decide) n19)
          have n94 : F38 1 = .ref h_tape := (get_ne eF38 (by decide) n93)
          have n95 : G40 1 = .ref h_tape := (SAME.at i83 (by decide) n94)
          have n96 : F37 3 = .int x_size := (get_ne eF37 (by decide) n12)
          have n97 : F38 3 = .int x_size := (get_ne eF38 (by decide) n96)
          have n98 : G40 3 = .int x_size := (SAME.at i83 (by decide) n97)
          refine call_Vi (wr := []) (As := []) (rest := []) hx hb hml hown hw (m_X10_peek l D cI cJ cB cP cM cZ h0 h_tape G40 x_size u41 f_tape _ n95 n98 (ir_wk k31 (by decide) (by decide)) i84 i88) wV_X10_169_X10_peek dX10_next_182 hK hP hD hS hA [0, 1] [] rfl rfl (by decide) (by decide) (by decide) 0 10 rfl rfl GG.fb hG.at hl.1 rfl (Nat.le_of_ble_eq_true rfl) ⟨(Nat.le_of_ble_eq_true rfl), (Nat.le_of_ble_eq_true rfl)⟩ ⟨(Nat.le_of_ble_eq_true rfl), (Nat.le_of_ble_eq_true rfl)⟩ (fun r99 u H locs hp hP hD hS => ?_)
          rcases hp with ⟨t100, rfl, rfl⟩ | ⟨t101, t102, rfl, rfl⟩
          · have hP : va_P D vwCl [(h0, .inr (10, vL 67 G40)), (h_tape, .inl (cB, 940, .inl f_tape))] H := hP
            have hD : va_D A [(h0, .inr (10, vL 67 G40)), (h_tape, .inl (cB, 940, .inl f_tape))] := hD
            refine W.widen (k := 0) (n := 0) (Nat.le_of_ble_eq_true rfl) (Nat.le_of_ble_eq_true rfl) ?_
            have k104 : 1 ≤ u41.toInt ∧ u41.toInt ≤ 940 := ⟨Int.le_trans k31.1 t100, i88.2⟩
            refine call_Si (wr := [(h0, .inr (10, vL 67 G40)), (h_tape, .inl (cB, 940, .inl f_tape))]) (As := [.int (-1)]) (rest := []) hx hb hml hown hw (m_X10_isSmall l D cI cJ cB cP cM cZ (-1) _ ) wS_X10_182_X10_isSmall dX10_next_185 hP hD hS hA [] [0, 1] rfl rfl (by decide) (by decide) (by decide) GG.fb hG.at hl.1 rfl (Nat.le_of_ble_eq_true rfl) ⟨(Nat.le_of_ble_eq_true rfl), (Nat.le_of_ble_eq_true rfl)⟩ ⟨(Nat.le_of_ble_eq_true rfl), (Nat.le_of_ble_eq_true rfl)⟩ (fun r105 u H locs hp hP hD hS => ?_)
            have zlm1 : ((-1) : Int32).toInt = (-1) := by decide
            rcases hp with ⟨t106, rfl, rfl⟩ | ⟨t107, t108, rfl, rfl⟩ | ⟨t109, t110, rfl, rfl⟩
            · have hP : va_P D vwCl [(h0, .inr (10, vL 67 G40)), (h_tape, .inl (cB, 940, .inl f_tape))] H := hP
              have hD : va_D A [(h0, .inr (10, vL 67 G40)), (h_tape, .inl (cB, 940, .inl f_tape))] := hD
              refine W.widen (k := 0) (n := 0) (Nat.le_of_ble_eq_true rfl) (Nat.le_of_ble_eq_true rfl) ?_
              refine lv_if_ne (tgt := 201) hx hb dX10_next_188 (by decide) (fun g => absurd (by decide) g) (fun _ => ?_)
              refine lv_aload_n hx hb dX10_next_191 rfl (lv_at hl 3 rfl) ?_
              refine call_Vi (wr := []) (As := []) (rest := []) hx hb hml hown hw (m_X10_peek l D cI cJ cB cP cM cZ h0 h_tape G40 x_size u41 f_tape _ n95 n98 (ir_wk k31 (by decide) (by decide)) i84 (ir_wk k104 (by decide) (by decide))) wV_X10_169_X10_peek dX10_next_192 hK hP hD hS hA [0, 1] [] rfl rfl (by decide) (by decide) (by decide) 0 10 rfl rfl GG.fb hG.at hl.1 rfl (Nat.le_of_ble_eq_true rfl) ⟨(Nat.le_of_ble_eq_true rfl), (Nat.le_of_ble_eq_true rfl)⟩ ⟨(Nat.le_of_ble_eq_true rfl), (Nat.le_of_ble_eq_true rfl)⟩ (fun r112 u H locs hp hP hD hS => ?_)
              rcases hp with ⟨t113, rfl, rfl⟩ | ⟨t114, t115, rfl, rfl⟩
              · have hP : va_P D vwCl [(h0, .inr (10, vL 67 G40)), (h_tape, .inl (cB, 940, .inl f_tape))] H := hP
                have hD : va_D A [(h0, .inr (10, vL 67 G40)), (h_tape, .inl (cB, 940, .inl f_tape))] := hD
                refine W.widen (k := 0) (n := 0) (Nat.le_of_ble_eq_true rfl) (Nat.le_of_ble_eq_true rfl) ?_
                refine call_Si (wr := [(h0, .inr (10, vL 67 G40)), (h_tape, .inl (cB, 940, .inl f_tape))]) (As := [.int (-1)]) (rest := []) hx hb hml hown hw (m_X10_isDigit l D cI cJ cB cP cM cZ (-1) _ ) wS_X10_186_X10_isDigit dX10_next_195 hP hD hS hA [] [0, 1] rfl rfl (by decide) (by decide) (by decide) GG.fb hG.at hl.1 rfl (Nat.le_of_ble_eq_true rfl) ⟨(Nat.le_of_ble_eq_true rfl), (Nat.le_of_ble_eq_true rfl)⟩ ⟨(Nat.le_of_ble_eq_true rfl), (Nat.le_of_ble_eq_true rfl)⟩ (fun r117 u H locs hp hP hD hS => ?_)
                rcases hp with ⟨t118, rfl, rfl⟩ | ⟨t119, t120, rfl, rfl⟩ | ⟨t121, t122, rfl, rfl⟩
                · have hP : va_P D vwCl [(h0, .inr (10, vL 67 G40)), (h_tape, .inl (cB, 940, .inl f_tape))] H := hP
                  have hD : va_D A [(h0, .inr (10, vL 67 G40)), (h_tape, .inl (cB, 940, .inl f_tape))] := hD
                  refine W.widen (k := 0) (n := 0) (Nat.le_of_ble_eq_true rfl) (Nat.le_of_ble_eq_true rfl) ?_
                  refine lv_if_eq (tgt := 298) hx hb dX10_next_198 (by decide) (fun _ => ?_) (fun g => absurd (by decide) g)
                  have hgv28 : v28.toInt = (((f_tape u2.toNatClampNeg) &&& 255)).toInt := by rw [ev28]
                  have hfst : u41.toInt = u2.toInt → (f_tape u41.toNatClampNeg &&& 255).toInt = (f_tape u2.toNatClampNeg &&& 255).toInt := fun h9 => by rw [Int32.toInt_inj.mp h9]
                  exact cut45 u39 G40 u41 u42 u43 u44 i82 (SAME.tr SAME.rf i83 (by decide)) i84 i85 i86 i87 (ir_wk k104 (by decide) (by decide)) i89 (by show 0 ≤ u42.toInt ∧ u42.toInt ≤ u41.toInt ∧ x_p.toInt + u42.toInt ≤ u41.toInt ∧ (u42.toInt = 0 → u41.toInt = u2.toInt); omega) (by show u39.toInt = 1 → u33.toInt = 0 → (0 ≤ u43.toInt ∧ u43.toInt ≤ 999 ∧ (u42.toInt = 0 → u43.toInt = 0) ∧ (u42.toInt = 1 → u43.toInt ≤ 9) ∧ (u42.toInt = 2 → u43.toInt ≤ 99)); omega) (by show (x_token.toInt = 2 → 0 ≤ u43.toInt ∧ u43.toInt ≤ 999); omega) (by show 1 ≤ u42.toInt; omega) _ _ _ hP hD hS (lv_sub hl [0, 1, 2, 3] rfl)
                · have hP : va_P D vwCl [(h0, .inr (10, vL 67 G40)), (h_tape, .inl (cB, 940, .inl f_tape))] H := hP
                  have hD : va_D A [(h0, .inr (10, vL 67 G40)), (h_tape, .inl (cB, 940, .inl f_tape))] := hD
                  refine W.widen (k := 0) (n := 0) (Nat.le_of_ble_eq_true rfl) (Nat.le_of_ble_eq_true rfl) ?_
                  exact absurd t119 (by decide)
                · have hP : va_P D vwCl [(h0, .inr (10, vL 67 G40)), (h_tape, .inl (cB, 940, .inl f_tape))] H := hP
                  have hD : va_D A [(h0, .inr (10, vL 67 G40)), (h_tape, .inl (cB, 940, .inl f_tape))] := hD
                  refine W.widen (k := 0) (n := 0) (Nat.le_of_ble_eq_true rfl) (Nat.le_of_ble_eq_true rfl) ?_
                  exact absurd t121 (by decide)
              · have hP : va_P D vwCl [(h0, .inr (10, vL 67 G40)), (h_tape, .inl (cB, 940, .inl f_tape))] H := hP
                have hD : va_D A [(h0, .inr (10, vL 67 G40)), (h_tape, .inl (cB, 940, .inl f_tape))] := hD
                refine W.widen (k := 0) (n := 0) (Nat.le_of_ble_eq_true rfl) (Nat.le_of_ble_eq_true rfl) ?_
                refine lv_topi (fun v124 ev124 => ?_)
                have k125 : 0 ≤ v124.toInt ∧ v124.toInt ≤ 255 := by rw [ev124]; exact t114
                have k126 : 1 ≤ u41.toInt ∧ u41.toInt ≤ 939 := ⟨k104.1, up_lt t115 k31.2 (by decide)⟩
                have k127 : 2 ≤ x_size.toInt ∧ x_size.toInt ≤ 940 := ⟨lo_lt t115 k104.1 (by decide), k31.2⟩
                refine call_Si (wr := [(h0, .inr (10, vL 67 G40)), (h_tape, .inl (cB, 940, .inl f_tape))]) (As := [.int v124]) (rest := []) hx hb hml hown hw (m_X10_isDigit l D cI cJ cB cP cM cZ v124 _ ) wS_X10_186_X10_isDigit dX10_next_195 hP hD hS hA [] [0, 1] rfl rfl (by decide) (by decide) (by decide) GG.fb hG.at hl.1 rfl (Nat.le_of_ble_eq_true rfl) ⟨(Nat.le_of_ble_eq_true rfl), (Nat.le_of_ble_eq_true rfl)⟩ ⟨(Nat.le_of_ble_eq_true rfl), (Nat.le_of_ble_eq_true rfl)⟩ (fun r128 u H locs hp hP hD hS => ?_)
                rcases hp with ⟨t129, rfl, rfl⟩ | ⟨t130, t131, rfl, rfl⟩ | ⟨t132, t133, rfl, rfl⟩
                · have hP : va_P D vwCl [(h0, .inr (10, vL 67 G40)), (h_tape, .inl (cB, 940, .inl f_tape))] H := hP
                  have hD : va_D A [(h0, .inr (10, vL 67 G40)), (h_tape, .inl (cB, 940, .inl f_tape))] := hD
                  refine W.widen (k := 0) (n := 0) (Nat.le_of_ble_eq_true rfl) (Nat.le_of_ble_eq_true rfl) ?_
                  have k135 : 0 ≤ v124.toInt ∧ v124.toInt ≤ 47 := ⟨k125.1, up_lt t129 (Int.le_refl _) (by decide)⟩
                  refine lv_if_eq (tgt := 298) hx hb dX10_next_198 (by decide) (fun _ => ?_) (fun g => absurd (by decide) g)
                  have hgv28 : v28.toInt = (((f_tape u2.toNatClampNeg) &&& 255)).toInt := by rw [ev28]
                  have hgv124 : v124.toInt = (((f_tape u41.toNatClampNeg) &&& 255)).toInt := by rw [ev124]
                  have hfst : u41.toInt = u2.toInt → (f_tape u41.toNatClampNeg &&& 255).toInt = (f_tape u2.toNatClampNeg &&& 255).toInt := fun h9 => by rw [Int32.toInt_inj.mp h9]
                  exact cut45 u39 G40 u41 u42 u43 u44 i82 (SAME.tr SAME.rf i83 (by decide)) i84 i85 i86 i87 (ir_wk k126 (by decide) (by decide)) i89 (by show 0 ≤ u42.toInt ∧ u42.toInt ≤ u41.toInt ∧ x_p.toInt + u42.toInt ≤ u41.toInt ∧ (u42.toInt = 0 → u41.toInt = u2.toInt); omega) (by show u39.toInt = 1 → u33.toInt = 0 → (0 ≤ u43.toInt ∧ u43.toInt ≤ 999 ∧ (u42.toInt = 0 → u43.toInt = 0) ∧ (u42.toInt = 1 → u43.toInt ≤ 9) ∧ (u42.toInt = 2 → u43.toInt ≤ 99)); omega) (by show (x_token.toInt = 2 → 0 ≤ u43.toInt ∧ u43.toInt ≤ 999); omega) (by show 1 ≤ u42.toInt; omega) _ _ _ hP hD hS (lv_sub hl [0, 1, 2, 3] rfl)
                · have hP : va_P D vwCl [(h0, .inr (10, vL 67 G40)), (h_tape, .inl (cB, 940, .inl f_tape))] H := hP
                  have hD : va_D A [(h0, .inr (10, vL 67 G40)), (h_tape, .inl (cB, 940, .inl f_tape))] := hD
                  refine W.widen (k := 0) (n := 0) (Nat.le_of_ble_eq_true rfl) (Nat.le_of_ble_eq_true rfl) ?_
                  have k136 : 48 ≤ v124.toInt ∧ v124.toInt ≤ 255 := ⟨Int.le_trans (Int.le_refl _) t130, k125.2⟩
                  have k137 : 58 ≤ v124.toInt ∧ v124.toInt ≤ 255 := ⟨lo_lt t131 (Int.le_refl _) (by decide), k136.2⟩
                  refine lv_if_eq (tgt := 298) hx hb dX10_next_198 (by decide) (fun _ => ?_) (fun g => absurd (by decide) g)
                  have hgv28 : v28.toInt = (((f_tape u2.toNatClampNeg) &&& 255)).toInt := by rw [ev28]
                  have hgv124 : v124.toInt = (((f_tape u41.toNatClampNeg) &&& 255)).toInt := by rw [ev124]
                  have hfst : u41.toInt = u2.toInt → (f_tape u41.toNatClampNeg &&& 255).toInt = (f_tape u2.toNatClampNeg &&& 255).toInt := fun h9 => by rw [Int32.toInt_inj.mp h9]
                  exact cut45 u39 G40 u41 u42 u43 u44 i82 (SAME.tr SAME.rf i83 (by decide)) i84 i85 i86 i87 (ir_wk k126 (by decide) (by decide)) i89 (by show 0 ≤ u42.toInt ∧ u42.toInt ≤ u41.toInt ∧ x_p.toInt + u42.toInt ≤ u41.toInt ∧ (u42.toInt = 0 → u41.toInt = u2.toInt); omega) (by show u39.toInt = 1 → u33.toInt = 0 → (0 ≤ u43.toInt ∧ u43.toInt ≤ 999 ∧ (u42.toInt = 0 → u43.toInt = 0) ∧ (u42.toInt = 1 → u43.toInt ≤ 9) ∧ (u42.toInt = 2 → u43.toInt ≤ 99)); omega) (by show (x_token.toInt = 2 → 0 ≤ u43.toInt ∧ u43.toInt ≤ 999); omega) (by show 1 ≤ u42.toInt; omega) _ _ _ hP hD hS (lv_sub hl [0, 1, 2, 3] rfl)
                · have hP : va_P D vwCl [(h0, .inr (10, vL 67 G40)), (h_tape, .inl (cB, 940, .inl f_tape))] H := hP
                  have hD : va_D A [(h0, .inr (10, vL 67 G40)), (h_tape, .inl (cB, 940, .inl f_tape))] := hD
                  refine W.widen (k := 0) (n := 0) (Nat.le_of_ble_eq_true rfl) (Nat.le_of_ble_eq_true rfl) ?_
                  have k138 : 48 ≤ v124.toInt ∧ v124.toInt ≤ 255 := ⟨Int.le_trans (Int.le_refl _) t132, k125.2⟩
                  have k139 : 48 ≤ v124.toInt ∧ v124.toInt ≤ 57 := ⟨k138.1, Int.le_trans t133 (Int.le_refl _)⟩
                  refine lv_if_eq (tgt := 298) hx hb dX10_next_198 (by decide) (fun g => absurd g (by decide)) (fun _ => ?_)
                  have cut141 : ∀ (u140 : Int32) (_ : IR 0 1 u140) (_ : ((u140.toInt = 1 → u33.toInt = 0 → (48 ≤ v124.toInt ∧ v124.toInt ≤ 57 ∧ 0 ≤ u43.toInt ∧ u43.toInt ≤ 999 ∧ (u42.toInt = 0 → u43.toInt = 0) ∧ (u42.toInt = 1 → u43.toInt ≤ 9) ∧ (u42.toInt = 2 → u43.toInt ≤ 99))))) (H : Heap) (locs : List Loc) (ls : Array Slot), va_P D vwCl [(h0, .inr (10, vL 67 G40)), (h_tape, .inl (cB, 940, .inl f_tape))] H → va_D A [(h0, .inr (10, vL 67 G40)), (h_tape, .inl (cB, 940, .inl f_tape))] → va_S A s.heap H locs → lv_has ls 4 [(3, .int u140), (2, .int u33), (1, .int v28), (0, .ref h0)] → W p l e ({ frames := 1, cells := 0, slots := 0, locals := 20 } : Room) s m [.ref h0].toArray below meth c H locs 0 0 (MQ below (va_Qv (fun (u : va_W) => ∃ (Gh : Nat → Value) (y_p : Int32) (y_token : Int32) (y_at : Int32) (y_span : Int32) (y_number : Int32) (y_word : Int64), SAME [4, 11, 12, 13, 14, 18] Fh Gh ∧ Gh 4 = .int y_p ∧ IR 0 940 y_p ∧ Gh 11 = .int y_token ∧ IR 0 4 y_token ∧ Gh 12 = .int y_at ∧ IR 0 940 y_at ∧ Gh 13 = .int y_span ∧ IR 0 940 y_span ∧ Gh 14 = .int y_number ∧ Gh 18 = .long y_word ∧ (x_p.toInt ≤ y_p.toInt) ∧ ((1 ≤ y_token.toInt → y_token.toInt ≤ 3 → x_p.toInt < y_p.toInt)) ∧ ((y_token.toInt = 2 → 0 ≤ y_number.toInt ∧ y_number.toInt ≤ 999)) ∧ u = [(h0, .inr (10, vL 67 Gh)), (h_tape, .inl (cB, 940, .inl f_tape))]) (PO D A) A) [.ref h0].toArray s 0 0 A) (F0 m 222 ls []) := by
                    intro u140 i142 i143 H locs ls hP hD hS hl
                    have i142 : 0 ≤ u140.toInt ∧ u140.toInt ≤ 1 := i142
                    have i143 : (u140.toInt = 1 → u33.toInt = 0 → (48 ≤ v124.toInt ∧ v124.toInt ≤ 57 ∧ 0 ≤ u43.toInt ∧ u43.toInt ≤ 999 ∧ (u42.toInt = 0 → u43.toInt = 0) ∧ (u42.toInt = 1 → u43.toInt ≤ 9) ∧ (u42.toInt = 2 → u43.toInt ≤ 99))) := i143
                    have cut146 : ∀ (G144 : Nat → Value) (u145 : Int64) (_ : SAME [18] G40 G144) (_ : G144 18 = .long u145) (H : Heap) (locs : List Loc) (ls : Array Slot), va_P D vwCl [(h0, .inr (10, vL 67 G144)), (h_tape, .inl (cB, 940, .inl f_tape))] H → va_D A [(h0, .inr (10, vL 67 G144)), (h_tape, .inl (cB, 940, .inl f_tape))] → va_S A s.heap H locs → lv_has ls 4 [(3, .int u140), (2, .int u33), (1, .int v28), (0, .ref h0)] → W p l e ({ frames := 1, cells := 0, slots := 0, locals := 20 } : Room) s m [.ref h0].toArray below meth c H locs 0 0 (MQ below (va_Qv (fun (u : va_W) => ∃ (Gh : Nat → Value) (y_p : Int32) (y_token : Int32) (y_at : Int32) (y_span : Int32) (y_number : Int32) (y_word : Int64), SAME [4, 11, 12, 13, 14, 18] Fh Gh ∧ Gh 4 = .int y_p ∧ IR 0 940 y_p ∧ Gh 11 = .int y_token ∧ IR 0 4 y_token ∧ Gh 12 = .int y_at ∧ IR 0 940 y_at ∧ Gh 13 = .int y_span ∧ IR 0 940 y_span ∧ Gh 14 = .int y_number ∧ Gh 18 = .long y_word ∧ (x_p.toInt ≤ y_p.toInt) ∧ ((1 ≤ y_token.toInt → y_token.toInt ≤ 3 → x_p.toInt < y_p.toInt)) ∧ ((y_token.toInt = 2 → 0 ≤ y_number.toInt ∧ y_number.toInt ≤ 999)) ∧ u = [(h0, .inr (10, vL 67 Gh)), (h_tape, .inl (cB, 940, .inl f_tape))]) (PO D A) A) [.ref h0].toArray s 0 0 A) (F0 m 248 ls []) := by
                      intro G144 u145 i147 i148 H locs ls hP hD hS hl
                      refine lv_aload_n hx hb dX10_next_248 rfl (lv_at hl 3 rfl) ?_
                      have n149 : G144 13 = .int u42 := (SAME.at i147 (by decide) i85)
                      refine get_f (D := D) (ci := 10) (v := .int u42) (C := RX10) (T := TX10) (N := 67) hx hb hw inAX10 hown hK hP 0 rfl rfl 13 (by decide) (hw _ q_1274) (fun _ h9 => h9) n149 dX10_next_249 ?_
                      refine lv_iconst (v := 3) hx hb dX10_next_252 (by decide) ?_
                      refine lv_icmp_ge (tgt := 275) hx hb dX10_next_253 (by decide) (fun c150 => ?_) (fun c150 => ?_)
                      · have dc150 : 3 ≤ u42.toInt := le_i (a := 3) (b := u42.toInt) rfl rfl c150
                        have k151 : 3 ≤ u42.toInt ∧ u42.toInt ≤ 940 := ⟨Int.le_trans (Int.le_refl _) dc150, i89.2⟩
                        refine lv_aload_n hx hb dX10_next_275 rfl (lv_at hl 3 rfl) ?_
                        refine lv_dup hx hb dX10_next_276 rfl ?_
                        refine get_f (D := D) (ci := 10) (v := .int u42) (C := RX10) (T := TX10) (N := 67) hx hb hw inAX10 hown hK hP 0 rfl rfl 13 (by decide) (hw _ q_1274) (fun _ h9 => h9) n149 dX10_next_277 ?_
                        refine lv_iconst (v := 1) hx hb dX10_next_280 (by decide) ?_
                        refine lv_iadd hx hb dX10_next_281 ?_
                        refine lv_topi (fun v152 ev152 => ?_)
                        have bv152 : v152.toInt = u42.toInt + 1 := by rw [ev152]; exact add_k rfl rfl k151 ⟨Int.le_refl _, Int.le_refl _⟩ (by decide)
                        have k153 : 4 ≤ v152.toInt ∧ v152.toInt ≤ 941 := add_r bv152 k151 ⟨Int.le_refl _, Int.le_refl _⟩ (by decide)
                        refine put_f (D := D) (ci := 10) (v := .int v152) (ty := .int) (C := RX10) (T := TX10) (N := 67) hx hb hw inAX10 tyX10 tyX10_ok nmX10 hown hK hP hD hS 0 rfl rfl 13 (by decide) (hw _ q_1274) (fun _ h9 => h9) rfl (by decide +kernel) rfl rfl dX10_next_282 (fun H locs F154 eF154 hP hD hS => ?_)
                        have hP : va_P D vwCl [(h0, .inr (10, vL 67 F154)), (h_tape, .inl (cB, 940, .inl f_tape))] H := hP
                        have hD : va_D A [(h0, .inr (10, vL 67 F154)), (h_tape, .inl (cB, 940, .inl f_tape))] := hD
                        refine lv_aload_n hx hb dX10_next_285 rfl (lv_at hl 3 rfl) ?_
                        refine lv_dup hx hb dX10_next_286 rfl ?_
                        have n155 : G144 4 = .int u41 := (SAME.at i147 (by decide) i84)
                        have n156 : F154 4 = .int u41 := (get_ne eF154 (by decide) n155)
                        refine get_f (D := D) (ci := 10) (v := .int u41) (C := RX10) (T := TX10) (N := 67) hx hb hw inAX10 hown hK hP 0 rfl rfl 4 (by decide) (hw _ q_1265) (fun _ h9 => h9) n156 dX10_next_287 ?_
                        refine lv_iconst (v := 1) hx hb dX10_next_290 (by decide) ?_
                        refine lv_iadd hx hb dX10_next_291 ?_
                        refine lv_topi (fun v157 ev157 => ?_)
                        have bv157 : v157.toInt = u41.toInt + 1 := by rw [ev157]; exact add_k rfl rfl k126 ⟨Int.le_refl _, Int.le_refl _⟩ (by decide)
                        have k158 : 2 ≤ v157.toInt ∧ v157.toInt ≤ 940 := add_r bv157 k126 ⟨Int.le_refl _, Int.le_refl _⟩ (by decide)
                        refine put_f (D := D) (ci := 10) (v := .int v157) (ty := .int) (C := RX10) (T := TX10) (N := 67) hx hb hw inAX10 tyX10 tyX10_ok nmX10 hown hK hP hD hS 0 rfl rfl 4 (by decide) (hw _ q_1265) (fun _ h9 => h9) rfl (by decide +kernel) rfl rfl dX10_next_292 (fun H locs F159 eF159 hP hD hS => ?_)
                        have hP : va_P D vwCl [(h0, .inr (10, vL 67 F159)), (h_tape, .inl (cB, 940, .inl f_tape))] H := hP
                        have hD : va_D A [(h0, .inr (10, vL 67 F159)), (h_tape, .inl (cB, 940, .inl f_tape))] := hD
                        refine lv_goto (tgt := 181) hx hb dX10_next_295 (by decide) ?_
                        have n160 : F159 13 = .int v152 := (get_ne eF159 (by decide) (get_eq eF154))
                        have n161 : G144 14 = .int u43 := (SAME.at i147 (by decide) i86)
                        have n162 : F154 14 = .int u43 := (get_ne eF154 (by decide) n161)
                        have n163 : F159 14 = .int u43 := (get_ne eF159 (by decide) n162)
                        have n164 : F154 18 = .long u145 := (get_ne eF154 (by decide) i148)
                        have n165 : F159 18 = .long u145 := (get_ne eF159 (by decide) n164)
                        exact ih (u140, F159, v157, v152, u43, u145) ⟨i142, (SAME.up eF159 (SAME.up eF154 (SAME.tr (SAME.tr SAME.rf i83 (by decide)) i147 (by decide)) (by decide)) (by decide)), (get_eq eF159), n160, n163, n165, (ir_wk k158 (by decide) (by decide)), ⟨by omega, by omega⟩, (by show 0 ≤ v152.toInt ∧ v152.toInt ≤ v157.toInt ∧ x_p.toInt + v152.toInt ≤ v157.toInt ∧ (v152.toInt = 0 → v157.toInt = u2.toInt); omega), (by show u140.toInt = 1 → u33.toInt = 0 → (0 ≤ u43.toInt ∧ u43.toInt ≤ 999 ∧ (v152.toInt = 0 → u43.toInt = 0) ∧ (v152.toInt = 1 → u43.toInt ≤ 9) ∧ (v152.toInt = 2 → u43.toInt ≤ 99)); omega), (by show (x_token.toInt = 2 → 0 ≤ u43.toInt ∧ u43.toInt ≤ 999); omega)⟩ (by show (x_size.toInt - v157.toInt).toNat < (x_size.toInt - u41.toInt).toNat; omega) _ _ _ hP hD hS (lv_sub hl [0, 1, 2, 3] rfl)
                      · have dc150 : u42.toInt < 3 := nle_i (a := 3) (b := u42.toInt) rfl rfl c150
                        have k166 : 0 ≤ u42.toInt ∧ u42.toInt ≤ 2 := ⟨i89.1, up_lt dc150 (Int.le_refl _) (by decide)⟩
                        refine lv_aload_n hx hb dX10_next_256 rfl (lv_at hl 3 rfl) ?_
                        refine lv_bipush (v := 10) hx hb dX10_next_257 (by decide) ?_
                        refine lv_aload_n hx hb dX10_next_259 rfl (lv_at hl 3 rfl) ?_
                        have n167 : G144 14 = .int u43 := (SAME.at i147 (by decide) i86)
                        refine get_f (D := D) (ci := 10) (v := .int u43) (C := RX10) (T := TX10) (N := 67) hx hb hw inAX10 hown hK hP 0 rfl rfl 14 (by decide) (hw _ q_1275) (fun _ h9 => h9) n167 dX10_next_260 ?_
                        refine lv_imul hx hb dX10_next_263 ?_
                        refine lv_topi (fun v168 ev168 => ?_)
                        refine lv_aload_n hx hb dX10_next_264 rfl (lv_at hl 3 rfl) ?_
                        have n169 : G144 1 = .ref h_tape := (SAME.at i147 (by decide) n95)
                        have n170 : G144 3 = .int x_size := (SAME.at i147 (by decide) n98)
                        have n171 : G144 4 = .int u41 := (SAME.at i147 (by decide) i84)
                        refine call_Vi (wr := []) (As := []) (rest := [.int v168, .ref h0]) hx hb hml hown hw (m_X10_peek l D cI cJ cB cP cM cZ h0 h_tape G144 x_size u41 f_tape _ n169 n170 (ir_wk k127 (by decide) (by decide)) n171 (ir_wk k126 (by decide) (by decide))) wV_X10_169_X10_peek dX10_next_265 hK hP hD hS hA [0, 1] [] rfl rfl (by decide) (by decide) (by decide) 0 10 rfl rfl GG.fb hG.at hl.1 rfl (Nat.le_of_ble_eq_true rfl) ⟨(Nat.le_of_ble_eq_true rfl), (Nat.le_of_ble_eq_true rfl)⟩ ⟨(Nat.le_of_ble_eq_true rfl), (Nat.le_of_ble_eq_true rfl)⟩ (fun r172 u H locs hp hP hD hS => ?_)
                        rcases hp with ⟨t173, rfl, rfl⟩ | ⟨t174, t175, rfl, rfl⟩
                        · have hP : va_P D vwCl [(h0, .inr (10, vL 67 G144)), (h_tape, .inl (cB, 940, .inl f_tape))] H := hP
                          have hD : va_D A [(h0, .inr (10, vL 67 G144)), (h_tape, .inl (cB, 940, .inl f_tape))] := hD
                          refine W.widen (k := 0) (n := 0) (Nat.le_of_ble_eq_true rfl) (Nat.le_of_ble_eq_true rfl) ?_
                          have k177 : 2 ≤ x_size.toInt ∧ x_size.toInt ≤ 939 := ⟨k127.1, Int.le_trans t173 k126.2⟩
                          have k178 : 2 ≤ u41.toInt ∧ u41.toInt ≤ 939 := ⟨Int.le_trans k127.1 t173, k126.2⟩
                          refine lv_iadd hx hb dX10_next_268 ?_
                          refine lv_topi (fun v179 ev179 => ?_)
                          refine lv_bipush (v := 48) hx hb dX10_next_269 (by decide) ?_
                          refine lv_isub hx hb dX10_next_271 ?_
                          refine lv_topi (fun v180 ev180 => ?_)
                          refine put_f (D := D) (ci := 10) (v := .int v180) (ty := .int) (C := RX10) (T := TX10) (N := 67) hx hb hw inAX10 tyX10 tyX10_ok nmX10 hown hK hP hD hS 0 rfl rfl 14 (by decide) (hw _ q_1275) (fun _ h9 => h9) rfl (by decide +kernel) rfl rfl dX10_next_272 (fun H locs F181 eF181 hP hD hS => ?_)
                          have hP : va_P D vwCl [(h0, .inr (10, vL 67 F181)), (h_tape, .inl (cB, 940, .inl f_tape))] H := hP
                          have hD : va_D A [(h0, .inr (10, vL 67 F181)), (h_tape, .inl (cB, 940, .inl f_tape))] := hD
                          refine lv_aload_n hx hb dX10_next_275 rfl (lv_at hl 3 rfl) ?_
                          refine lv_dup hx hb dX10_next_276 rfl ?_
                          have n182 : F181 13 = .int u42 := (get_ne eF181 (by decide) n149)
                          refine get_f (D := D) (ci := 10) (v := .int u42) (C := RX10) (T := TX10) (N := 67) hx hb hw inAX10 hown hK hP 0 rfl rfl 13 (by decide) (hw _ q_1274) (fun _ h9 => h9) n182 dX10_next_277 ?_
                          refine lv_iconst (v := 1) hx hb dX10_next_280 (by decide) ?_
                          refine lv_iadd hx hb dX10_next_281 ?_
                          refine lv_topi (fun v183 ev183 => ?_)
                          have bv183 : v183.toInt = u42.toInt + 1 := by rw [ev183]; exact add_k rfl rfl k166 ⟨Int.le_refl _, Int.le_refl _⟩ (by decide)
                          have k184 : 1 ≤ v183.toInt ∧ v183.toInt ≤ 3 := add_r bv183 k166 ⟨Int.le_refl _, Int.le_refl _⟩ (by decide)
                          refine put_f (D := D) (ci := 10) (v := .int v183) (ty := .int) (C := RX10) (T := TX10) (N := 67) hx hb hw inAX10 tyX10 tyX10_ok nmX10 hown hK hP hD hS 0 rfl rfl 13 (by decide) (hw _ q_1274) (fun _ h9 => h9) rfl (by decide +kernel) rfl rfl dX10_next_282 (fun H locs F185 eF185 hP hD hS => ?_)
                          have hP : va_P D vwCl [(h0, .inr (10, vL 67 F185)), (h_tape, .inl (cB, 940, .inl f_tape))] H := hP
                          have hD : va_D A [(h0, .inr (10, vL 67 F185)), (h_tape, .inl (cB, 940, .inl f_tape))] := hD
                          refine lv_aload_n hx hb dX10_next_285 rfl (lv_at hl 3 rfl) ?_
                          refine lv_dup hx hb dX10_next_286 rfl ?_
                          have n186 : F181 4 = .int u41 := (get_ne eF181 (by decide) n171)
                          have n187 : F185 4 = .int u41 := (get_ne eF185 (by decide) n186)
                          refine get_f (D := D) (ci := 10) (v := .int u41) (C := RX10) (T := TX10) (N := 67) hx hb hw inAX10 hown hK hP 0 rfl rfl 4 (by decide) (hw _ q_1265) (fun _ h9 => h9) n187 dX10_next_287 ?_
                          refine lv_iconst (v := 1) hx hb dX10_next_290 (by decide) ?_
                          refine lv_iadd hx hb dX10_next_291 ?_
                          refine lv_topi (fun v188 ev188 => ?_)
                          have bv188 : v188.toInt = u41.toInt + 1 := by rw [ev188]; exact add_k rfl rfl k178 ⟨Int.le_refl _, Int.le_refl _⟩ (by decide)
                          have k189 : 3 ≤ v188.toInt ∧ v188.toInt ≤ 940 := add_r bv188 k178 ⟨Int.le_refl _, Int.le_refl _⟩ (by decide)
                          refine put_f (D := D) (ci := 10) (v := .int v188) (ty := .int) (C := RX10) (T := TX10) (N := 67) hx hb hw inAX10 tyX10 tyX10_ok nmX10 hown hK hP hD hS 0 rfl rfl 4 (by decide) (hw _ q_1265) (fun _ h9 => h9) rfl (by decide +kernel) rfl rfl dX10_next_292 (fun H locs F190 eF190 hP hD hS => ?_)
                          have hP : va_P D vwCl [(h0, .inr (10, vL 67 F190)), (h_tape, .inl (cB, 940, .inl f_tape))] H := hP
                          have hD : va_D A [(h0, .inr (10, vL 67 F190)), (h_tape, .inl (cB, 940, .inl f_tape))] := hD
                          refine lv_goto (tgt := 181) hx hb dX10_next_295 (by decide) ?_
                          have n191 : F190 13 = .int v183 := (get_ne eF190 (by decide) (get_eq eF185))
                          have n192 : F185 14 = .int v180 := (get_ne eF185 (by decide) (get_eq eF181))
                          have n193 : F190 14 = .int v180 := (get_ne eF190 (by decide) n192)
                          have n194 : F181 18 = .long u145 := (get_ne eF181 (by decide) i148)
                          have n195 : F185 18 = .long u145 := (get_ne eF185 (by decide) n194)
                          have n196 : F190 18 = .long u145 := (get_ne eF190 (by decide) n195)
                          exact ih (u140, F190, v188, v183, v180, u145) ⟨i142, (SAME.up eF190 (SAME.up eF185 (SAME.up eF181 (SAME.tr (SAME.tr SAME.rf i83 (by decide)) i147 (by decide)) (by decide)) (by decide)) (by decide)), (get_eq eF190), n191, n193, n196, (ir_wk k189 (by decide) (by decide)), (ir_wk k184 (by decide) (by decide)), (by show 0 ≤ v183.toInt ∧ v183.toInt ≤ v188.toInt ∧ x_p.toInt + v183.toInt ≤ v188.toInt ∧ (v183.toInt = 0 → v188.toInt = u2.toInt); omega), (by show u140.toInt = 1 → u33.toInt = 0 → (0 ≤ v180.toInt ∧ v180.toInt ≤ 999 ∧ (v183.toInt = 0 → v180.toInt = 0) ∧ (v183.toInt = 1 → v180.toInt ≤ 9) ∧ (v183.toInt = 2 → v180.toInt ≤ 99)); omega), (by show (x_token.toInt = 2 → 0 ≤ v180.toInt ∧ v180.toInt ≤ 999); omega)⟩ (by show (x_size.toInt - v188.toInt).toNat < (x_size.toInt - u41.toInt).toNat; omega) _ _ _ hP hD hS (lv_sub hl [0, 1, 2, 3] rfl)
                        · have hP : va_P D vwCl [(h0, .inr (10, vL 67 G144)), (h_tape, .inl (cB, 940, .inl f_tape))] H := hP
                          have hD : va_D A [(h0, .inr (10, vL 67 G144)), (h_tape, .inl (cB, 940, .inl f_tape))] := hD
                          refine W.widen (k := 0) (n := 0) (Nat.le_of_ble_eq_true rfl) (Nat.le_of_ble_eq_true rfl) ?_
                          refine lv_ci (y := v124) ev124.symm ?_
                          refine lv_iadd hx hb dX10_next_268 ?_
                          refine lv_topi (fun v197 ev197 => ?_)
                          refine lv_bipush (v := 48) hx hb dX10_next_269 (by decide) ?_
                          refine lv_isub hx hb dX10_next_271 ?_
                          refine lv_topi (fun v198 ev198 => ?_)
                          refine put_f (D := D) (ci := 10) (v := .int v198) (ty := .int) (C := RX10) (T := TX10) (N := 67) hx hb hw inAX10 tyX10 tyX10_ok nmX10 hown hK hP hD hS 0 rfl rfl 14 (by decide) (hw _ q_1275) (fun _ h9 => h9) rfl (by decide +kernel) rfl rfl dX10_next_272 (fun H locs F199 eF199 hP hD hS => ?_)
                          have hP : va_P D vwCl [(h0, .inr (10, vL 67 F199)), (h_tape, .inl (cB, 940, .inl f_tape))] H := hP
                          have hD : va_D A [(h0, .inr (10, vL 67 F199)), (h_tape, .inl (cB, 940, .inl f_tape))] := hD
                          refine lv_aload_n hx hb dX10_next_275 rfl (lv_at hl 3 rfl) ?_
                          refine lv_dup hx hb dX10_next_276 rfl ?_
                          have n200 : F199 13 = .int u42 := (get_ne eF199 (by decide) n149)
                          refine get_f (D := D) (ci := 10) (v := .int u42) (C := RX10) (T := TX10) (N := 67) hx hb hw inAX10 hown hK hP 0 rfl rfl 13 (by decide) (hw _ q_1274) (fun _ h9 => h9) n200 dX10_next_277 ?_
                          refine lv_iconst (v := 1) hx hb dX10_next_280 (by decide) ?_
                          refine lv_iadd hx hb dX10_next_281 ?_
                          refine lv_topi (fun v201 ev201 => ?_)
                          have bv201 : v201.toInt = u42.toInt + 1 := by rw [ev201]; exact add_k rfl rfl k166 ⟨Int.le_refl _, Int.le_refl _⟩ (by decide)
                          have k202 : 1 ≤ v201.toInt ∧ v201.toInt ≤ 3 := add_r bv201 k166 ⟨Int.le_refl _, Int.le_refl _⟩ (by decide)
                          refine put_f (D := D) (ci := 10) (v := .int v201) (ty := .int) (C := RX10) (T := TX10) (N := 67) hx hb hw inAX10 tyX10 tyX10_ok nmX10 hown hK hP hD hS 0 rfl rfl 13 (by decide) (hw _ q_1274) (fun _ h9 => h9) rfl (by decide +kernel) rfl rfl dX10_next_282 (fun H locs F203 eF203 hP hD hS => ?_)
                          have hP : va_P D vwCl [(h0, .inr (10, vL 67 F203)), (h_tape, .inl (cB, 940, .inl f_tape))] H := hP
                          have hD : va_D A [(h0, .inr (10, vL 67 F203)), (h_tape, .inl (cB, 940, .inl f_tape))] := hD
                          refine lv_aload_n hx hb dX10_next_285 rfl (lv_at hl 3 rfl) ?_
                          refine lv_dup hx hb dX10_next_286 rfl ?_
                          have n204 : F199 4 = .int u41 := (get_ne eF199 (by decide) n171)
                          have n205 : F203 4 = .int u41 := (get_ne eF203 (by decide) n204)
                          refine get_f (D := D) (ci := 10) (v := .int u41) (C := RX10) (T := TX10) (N := 67) hx hb hw inAX10 hown hK hP 0 rfl rfl 4 (by decide) (hw _ q_1265) (fun _ h9 => h9) n205 dX10_next_287 ?_
                          refine lv_iconst (v := 1) hx hb dX10_next_290 (by decide) ?_
                          refine lv_iadd hx hb dX10_next_291 ?_
                          refine lv_topi (fun v206 ev206 => ?_)
                          have bv206 : v206.toInt = u41.toInt + 1 := by rw [ev206]; exact add_k rfl rfl k126 ⟨Int.le_refl _, Int.le_refl _⟩ (by decide)
                          have k207 : 2 ≤ v206.toInt ∧ v206.toInt ≤ 940 := add_r bv206 k126 ⟨Int.le_refl _, Int.le_refl _⟩ (by decide)
                          refine put_f (D := D) (ci := 10) (v := .int v206) (ty := .int) (C := RX10) (T := TX10) (N := 67) hx hb hw inAX10 tyX10 tyX10_ok nmX10 hown hK hP hD hS 0 rfl rfl 4 (by decide) (hw _ q_1265) (fun _ h9 => h9) rfl (by decide +kernel) rfl rfl dX10_next_292 (fun H locs F208 eF208 hP hD hS => ?_)
                          have hP : va_P D vwCl [(h0, .inr (10, vL 67 F208)), (h_tape, .inl (cB, 940, .inl f_tape))] H := hP
                          have hD : va_D A [(h0, .inr (10, vL 67 F208)), (h_tape, .inl (cB, 940, .inl f_tape))] := hD
                          refine lv_goto (tgt := 181) hx hb dX10_next_295 (by decide) ?_
                          have n209 : F208 13 = .int v201 := (get_ne eF208 (by decide) (get_eq eF203))
                          have n210 : F203 14 = .int v198 := (get_ne eF203 (by decide) (get_eq eF199))
                          have n211 : F208 14 = .int v198 := (get_ne eF208 (by decide) n210)
                          have n212 : F199 18 = .long u145 := (get_ne eF199 (by decide) i148)
                          have n213 : F203 18 = .long u145 := (get_ne eF203 (by decide) n212)
                          have n214 : F208 18 = .long u145 := (get_ne eF208 (by decide) n213)
                          exact ih (u140, F208, v206, v201, v198, u145) ⟨i142, (SAME.up eF208 (SAME.up eF203 (SAME.up eF199 (SAME.tr (SAME.tr SAME.rf i83 (by decide)) i147 (by decide)) (by decide)) (by decide)) (by decide)), (get_eq eF208), n209, n211, n214, (ir_wk k207 (by decide) (by decide)), (ir_wk k202 (by decide) (by decide)), (by show 0 ≤ v201.toInt ∧ v201.toInt ≤ v206.toInt ∧ x_p.toInt + v201.toInt ≤ v206.toInt ∧ (v201.toInt = 0 → v206.toInt = u2.toInt); omega), (by show u140.toInt = 1 → u33.toInt = 0 → (0 ≤ v198.toInt ∧ v198.toInt ≤ 999 ∧ (v201.toInt = 0 → v198.toInt = 0) ∧ (v201.toInt = 1 → v198.toInt ≤ 9) ∧ (v201.toInt = 2 → v198.toInt ≤ 99)); omega), (by show (x_token.toInt = 2 → 0 ≤ v198.toInt ∧ v198.toInt ≤ 999); omega)⟩ (by show (x_size.toInt - v206.toInt).toNat < (x_size.toInt - u41.toInt).toNat; omega) _ _ _ hP hD hS (lv_sub hl [0, 1, 2, 3] rfl)
                    refine lv_aload_n hx hb dX10_next_222 rfl (lv_at hl 3 rfl) ?_
                    refine get_f (D := D) (ci := 10) (v := .int u42) (C := RX10) (T := TX10) (N := 67) hx hb hw inAX10 hown hK hP 0 rfl rfl 13 (by decide) (hw _ q_1274) (fun _ h9 => h9) i85 dX10_next_223 ?_
                    refine lv_bipush (v := 7) hx hb dX10_next_226 (by decide) ?_
                    refine lv_icmp_ge (tgt := 248) hx hb dX10_next_228 (by decide) (fun c215 => ?_) (fun c215 => ?_)
                    · have dc215 : 7 ≤ u42.toInt := le_i (a := 7) (b := u42.toInt) rfl rfl c215
                      have k216 : 7 ≤ u42.toInt ∧ u42.toInt ≤ 940 := ⟨Int.le_trans (Int.le_refl _) dc215, i89.2⟩
                      exact cut146 G40 u44 SAME.rf i87 _ _ _ hP hD hS (lv_sub hl [0, 1, 2, 3] rfl)
                    · have dc215 : u42.toInt < 7 := nle_i (a := 7) (b := u42.toInt) rfl rfl c215
                      have k217 : 0 ≤ u42.toInt ∧ u42.toInt ≤ 6 := ⟨i89.1, up_lt dc215 (Int.le_refl _) (by decide)⟩
                      refine lv_aload_n hx hb dX10_next_231 rfl (lv_at hl 3 rfl) ?_
                      refine lv_aload_n hx hb dX10_next_232 rfl (lv_at hl 3 rfl) ?_
                      refine get_f (D := D) (ci := 10) (v := .long u44) (C := RX10) (T := TX10) (N := 67) hx hb hw inAX10 hown hK hP 0 rfl rfl 18 (by decide) (hw _ q_1279) (fun _ h9 => h9) i87 dX10_next_233 ?_
                      refine lv_bipush (v := 8) hx hb dX10_next_236 (by decide) ?_
                      obtain ⟨v218, ev218⟩ : ∃ z : Int64, (u44 : Int64) <<< ((8 : Int32).toInt64 &&& 63) = z := ⟨_, rfl⟩
                      refine lv_lshl (v := v218) hx hb dX10_next_238 ev218 ?_
                      refine lv_aload_n hx hb dX10_next_239 rfl (lv_at hl 3 rfl) ?_
                      refine call_Vi (wr := []) (As := []) (rest := [.long v218, .ref h0]) hx hb hml hown hw (m_X10_peek l D cI cJ cB cP cM cZ h0 h_tape G40 x_size u41 f_tape _ n95 n98 (ir_wk k127 (by decide) (by decide)) i84 (ir_wk k126 (by decide) (by decide))) wV_X10_169_X10_peek dX10_next_240 hK hP hD hS hA [0, 1] [] rfl rfl (by decide) (by decide) (by decide) 0 10 rfl rfl GG.fb hG.at hl.1 rfl (Nat.le_of_ble_eq_true rfl) ⟨(Nat.le_of_ble_eq_true rfl), (Nat.le_of_ble_eq_true rfl)⟩ ⟨(Nat.le_of_ble_eq_true rfl), (Nat.le_of_ble_eq_true rfl)⟩ (fun r219 u H locs hp hP hD hS => ?_)
                      rcases hp with ⟨t220, rfl, rfl⟩ | ⟨t221, t222, rfl, rfl⟩
                      · have hP : va_P D vwCl [(h0, .inr (10, vL 67 G40)), (h_tape, .inl (cB, 940, .inl f_tape))] H := hP
                        have hD : va_D A [(h0, .inr (10, vL 67 G40)), (h_tape, .inl (cB, 940, .inl f_tape))] := hD
                        refine W.widen (k := 0) (n := 0) (Nat.le_of_ble_eq_true rfl) (Nat.le_of_ble_eq_true rfl) ?_
                        have k224 : 2 ≤ x_size.toInt ∧ x_size.toInt ≤ 939 := ⟨k127.1, Int.le_trans t220 k126.2⟩
                        have k225 : 2 ≤ u41.toInt ∧ u41.toInt ≤ 939 := ⟨Int.le_trans k127.1 t220, k126.2⟩
                        obtain ⟨v226, ev226⟩ : ∃ z : Int64, ((-1) : Int32).toInt64 = z := ⟨_, rfl⟩
                        refine lv_i2l (v := v226) hx hb dX10_next_243 ev226 ?_
                        refine lv_lor hx hb dX10_next_244 ?_
                        refine lv_topl (fun v227 ev227 => ?_)
                        refine put_f (D := D) (ci := 10) (v := .long v227) (ty := .long) (C := RX10) (T := TX10) (N := 67) hx hb hw inAX10 tyX10 tyX10_ok nmX10 hown hK hP hD hS 0 rfl rfl 18 (by decide) (hw _ q_1279) (fun _ h9 => h9) rfl (by decide +kernel) rfl rfl dX10_next_245 (fun H locs F228 eF228 hP hD hS => ?_)
                        have hP : va_P D vwCl [(h0, .inr (10, vL 67 F228)), (h_tape, .inl (cB, 940, .inl f_tape))] H := hP
                        have hD : va_D A [(h0, .inr (10, vL 67 F228)), (h_tape, .inl (cB, 940, .inl f_tape))] := hD
                        exact cut146 F228 v227 (SAME.up eF228 SAME.rf (by decide)) (get_eq eF228) _ _ _ hP hD hS (lv_sub hl [0, 1, 2, 3] rfl)
                      · have hP : va_P D vwCl [(h0, .inr (10, vL 67 G40)), (h_tape, .inl (cB, 940, .inl f_tape))] H := hP
                        have hD : va_D A [(h0, .inr (10, vL 67 G40)), (h_tape, .inl (cB, 940, .inl f_tape))] := hD
                        refine W.widen (k := 0) (n := 0) (Nat.le_of_ble_eq_true rfl) (Nat.le_of_ble_eq_true rfl) ?_
                        refine lv_ci (y := v124) ev124.symm ?_
                        obtain ⟨v229, ev229⟩ : ∃ z : Int64, (v124 : Int32).toInt64 = z := ⟨_, rfl⟩
                        refine lv_i2l (v := v229) hx hb dX10_next_243 ev229 ?_
                        refine lv_lor hx hb dX10_next_244 ?_
                        refine lv_topl (fun v230 ev230 => ?_)
                        refine put_f (D := D) (ci := 10) (v := .long v230) (ty := .long) (C := RX10) (T := TX10) (N := 67) hx hb hw inAX10 tyX10 tyX10_ok nmX10 hown hK hP hD hS 0 rfl rfl 18 (by decide) (hw _ q_1279) (fun _ h9 => h9) rfl (by decide +kernel) rfl rfl dX10_next_245 (fun H locs F231 eF231 hP hD hS => ?_)
                        have hP : va_P D vwCl [(h0, .inr (10, vL 67 F231)), (h_tape, .inl (cB, 940, .inl f_tape))] H := hP
                        have hD : va_D A [(h0, .inr (10, vL 67 F231)), (h_tape, .inl (cB, 940, .inl f_tape))] := hD
                        exact cut146 F231 v230 (SAME.up eF231 SAME.rf (by decide)) (get_eq eF231) _ _ _ hP hD hS (lv_sub hl [0, 1, 2, 3] rfl)
                  refine lv_iload_n hx hb dX10_next_201 rfl (lv_at hl 0 rfl) ?_
                  refine lv_if_eq (tgt := 220) hx hb dX10_next_202 (by decide) (fun c232 => ?_) (fun c232 => ?_)
                  · have dc232 : u39.toInt = 0 := eq_i (a := u39.toInt) (b := 0) rfl rfl c232
                    have k233 : 0 ≤ u39.toInt ∧ u39.toInt ≤ 0 := ⟨i82.1, Int.le_trans (Int.le_of_eq dc232) (Int.le_refl _)⟩
                    refine lv_iconst (v := 0) hx hb dX10_next_220 (by decide) ?_
                    refine lv_istore_n (lv' := [(3, .int 0), (2, .int u33), (1, .int v28), (0, .ref h0)]) hx hb dX10_next_221 rfl hl (by decide) rfl (fun ls hl => ?_)
                    exact cut141 0 (show 0 ≤ (0 : Int32).toInt ∧ (0 : Int32).toInt ≤ 1 by decide) (by show (0 = 1 → u33.toInt = 0 → (48 ≤ v124.toInt ∧ v124.toInt ≤ 57 ∧ 0 ≤ u43.toInt ∧ u43.toInt ≤ 999 ∧ (u42.toInt = 0 → u43.toInt = 0) ∧ (u42.toInt = 1 → u43.toInt ≤ 9) ∧ (u42.toInt = 2 → u43.toInt ≤ 99))); omega) _ _ _ hP hD hS (lv_sub hl [0, 1, 2, 3] rfl)
                  · have dc232 : u39.toInt ≠ 0 := ne_i (a := u39.toInt) (b := 0) rfl rfl c232
                    have k234 : 1 ≤ u39.toInt ∧ u39.toInt ≤ 1 := ⟨ne_lo dc232 i82.1 ⟨Int.le_refl _, Int.le_refl _⟩ (by decide), i82.2⟩
                    refine lv_aload_n hx hb dX10_next_205 rfl (lv_at hl 3 rfl) ?_
                    refine call_Vi (wr := []) (As := []) (rest := []) hx hb hml hown hw (m_X10_peek l D cI cJ cB cP cM cZ h0 h_tape G40 x_size u41 f_tape _ n95 n98 (ir_wk k127 (by decide) (by decide)) i84 (ir_wk k126 (by decide) (by decide))) wV_X10_169_X10_peek dX10_next_206 hK hP hD hS hA [0, 1] [] rfl rfl (by decide) (by decide) (by decide) 0 10 rfl rfl GG.fb hG.at hl.1 rfl (Nat.le_of_ble_eq_true rfl) ⟨(Nat.le_of_ble_eq_true rfl), (Nat.le_of_ble_eq_true rfl)⟩ ⟨(Nat.le_of_ble_eq_true rfl), (Nat.le_of_ble_eq_true rfl)⟩ (fun r235 u H locs hp hP hD hS => ?_)
                    rcases hp with ⟨t236, rfl, rfl⟩ | ⟨t237, t238, rfl, rfl⟩
                    · have hP : va_P D vwCl [(h0, .inr (10, vL 67 G40)), (h_tape, .inl (cB, 940, .inl f_tape))] H := hP
                      have hD : va_D A [(h0, .inr (10, vL 67 G40)), (h_tape, .inl (cB, 940, .inl f_tape))] := hD
                      refine W.widen (k := 0) (n := 0) (Nat.le_of_ble_eq_true rfl) (Nat.le_of_ble_eq_true rfl) ?_
                      have k240 : 2 ≤ x_size.toInt ∧ x_size.toInt ≤ 939 := ⟨k127.1, Int.le_trans t236 k126.2⟩
                      have k241 : 2 ≤ u41.toInt ∧ u41.toInt ≤ 939 := ⟨Int.le_trans k127.1 t236, k126.2⟩
                      refine call_Si (wr := [(h0, .inr (10, vL 67 G40)), (h_tape, .inl (cB, 940, .inl f_tape))]) (As := [.int (-1)]) (rest := []) hx hb hml hown hw (m_X10_isSmall l D cI cJ cB cP cM cZ (-1) _ ) wS_X10_182_X10_isSmall dX10_next_209 hP hD hS hA [] [0, 1] rfl rfl (by decide) (by decide) (by decide) GG.fb hG.at hl.1 rfl (Nat.le_of_ble_eq_true rfl) ⟨(Nat.le_of_ble_eq_true rfl), (Nat.le_of_ble_eq_true rfl)⟩ ⟨(Nat.le_of_ble_eq_true rfl), (Nat.le_of_ble_eq_true rfl)⟩ (fun r242 u H locs hp hP hD hS => ?_)
                      rcases hp with ⟨t243, rfl, rfl⟩ | ⟨t244, t245, rfl, rfl⟩ | ⟨t246, t247, rfl, rfl⟩
                      · have hP : va_P D vwCl [(h0, .inr (10, vL 67 G40)), (h_tape, .inl (cB, 940, .inl f_tape))] H := hP
                        have hD : va_D A [(h0, .inr (10, vL 67 G40)), (h_tape, .inl (cB, 940, .inl f_tape))] := hD
                        refine W.widen (k := 0) (n := 0) (Nat.le_of_ble_eq_true rfl) (Nat.le_of_ble_eq_true rfl) ?_
                        refine lv_iload_n hx hb dX10_next_212 rfl (lv_at hl 1 rfl) ?_
                        refine lv_icmp_ne (tgt := 220) hx hb dX10_next_213 (by decide) (fun c249 => ?_) (fun c249 => ?_)
                        · have dc249 : 0 ≠ u33.toInt := ne_i (a := 0) (b := u33.toInt) rfl rfl c249
                          have k250 : 1 ≤ u33.toInt ∧ u33.toInt ≤ 1 := ⟨ne_lo dc249.symm i35.1 ⟨Int.le_refl _, Int.le_refl _⟩ (by decide), i35.2⟩
                          refine lv_iconst (v := 0) hx hb dX10_next_220 (by decide) ?_
                          refine lv_istore_n (lv' := [(3, .int 0), (2, .int u33), (1, .int v28), (0, .ref h0)]) hx hb dX10_next_221 rfl hl (by decide) rfl (fun ls hl => ?_)
                          exact cut141 0 (show 0 ≤ (0 : Int32).toInt ∧ (0 : Int32).toInt ≤ 1 by decide) (by show (0 = 1 → u33.toInt = 0 → (48 ≤ v124.toInt ∧ v124.toInt ≤ 57 ∧ 0 ≤ u43.toInt ∧ u43.toInt ≤ 999 ∧ (u42.toInt = 0 → u43.toInt = 0) ∧ (u42.toInt = 1 → u43.toInt ≤ 9) ∧ (u42.toInt = 2 → u43.toInt ≤ 99))); omega) _ _ _ hP hD hS (lv_sub hl [0, 1, 2, 3] rfl)
                        · have dc249 : 0 = u33.toInt := eq_i (a := 0) (b := u33.toInt) rfl rfl c249
                          have k251 : 0 ≤ u33.toInt ∧ u33.toInt ≤ 0 := ⟨i35.1, Int.le_trans (Int.le_of_eq dc249.symm) (Int.le_refl _)⟩
                          refine lv_iconst (v := 1) hx hb dX10_next_216 (by decide) ?_
                          refine lv_goto (tgt := 221) hx hb dX10_next_217 (by decide) ?_
                          refine lv_istore_n (lv' := [(3, .int 1), (2, .int u33), (1, .int v28), (0, .ref h0)]) hx hb dX10_next_221 rfl hl (by decide) rfl (fun ls hl => ?_)
                          exact cut141 1 (show 0 ≤ (1 : Int32).toInt ∧ (1 : Int32).toInt ≤ 1 by decide) (by show (1 = 1 → u33.toInt = 0 → (48 ≤ v124.toInt ∧ v124.toInt ≤ 57 ∧ 0 ≤ u43.toInt ∧ u43.toInt ≤ 999 ∧ (u42.toInt = 0 → u43.toInt = 0) ∧ (u42.toInt = 1 → u43.toInt ≤ 9) ∧ (u42.toInt = 2 → u43.toInt ≤ 99))); omega) _ _ _ hP hD hS (lv_sub hl [0, 1, 2, 3] rfl)
                      · have hP : va_P D vwCl [(h0, .inr (10, vL 67 G40)), (h_tape, .inl (cB, 940, .inl f_tape))] H := hP
                        have hD : va_D A [(h0, .inr (10, vL 67 G40)), (h_tape, .inl (cB, 940, .inl f_tape))] := hD
                        refine W.widen (k := 0) (n := 0) (Nat.le_of_ble_eq_true rfl) (Nat.le_of_ble_eq_true rfl) ?_
                        exact absurd t244 (by decide)
                      · have hP : va_P D vwCl [(h0, .inr (10, vL 67 G40)), (h_tape, .inl (cB, 940, .inl f_tape))] H := hP
                        have hD : va_D A [(h0, .inr (10, vL 67 G40)), (h_tape, .inl (cB, 940, .inl f_tape))] := hD
                        refine W.widen (k := 0) (n := 0) (Nat.le_of_ble_eq_true rfl) (Nat.le_of_ble_eq_true rfl) ?_
                        exact absurd t246 (by decide)
                    · have hP : va_P D vwCl [(h0, .inr (10, vL 67 G40)), (h_tape, .inl (cB, 940, .inl f_tape))] H := hP
                      have hD : va_D A [(h0, .inr (10, vL 67 G40)), (h_tape, .inl (cB, 940, .inl f_tape))] := hD
                      refine W.widen (k := 0) (n := 0) (Nat.le_of_ble_eq_true rfl) (Nat.le_of_ble_eq_true rfl) ?_
                      refine lv_ci (y := v124) ev124.symm ?_
                      refine call_Si (wr := [(h0, .inr (10, vL 67 G40)), (h_tape, .inl (cB, 940, .inl f_tape))]) (As := [.int v124]) (rest := []) hx hb hml hown hw (m_X10_isSmall l D cI cJ cB cP cM cZ v124 _ ) wS_X10_182_X10_isSmall dX10_next_209 hP hD hS hA [] [0, 1] rfl rfl (by decide) (by decide) (by decide) GG.fb hG.at hl.1 rfl (Nat.le_of_ble_eq_true rfl) ⟨(Nat.le_of_ble_eq_true rfl), (Nat.le_of_ble_eq_true rfl)⟩ ⟨(Nat.le_of_ble_eq_true rfl), (Nat.le_of_ble_eq_true rfl)⟩ (fun r252 u H locs hp hP hD hS => ?_)
                      rcases hp with ⟨t253, rfl, rfl⟩ | ⟨t254, t255, rfl, rfl⟩ | ⟨t256, t257, rfl, rfl⟩
                      · have hP : va_P D vwCl [(h0, .inr (10, vL 67 G40)), (h_tape, .inl (cB, 940, .inl f_tape))] H := hP
                        have hD : va_D A [(h0, .inr (10, vL 67 G40)), (h_tape, .inl (cB, 940, .inl f_tape))] := hD
                        refine W.widen (k := 0) (n := 0) (Nat.le_of_ble_eq_true rfl) (Nat.le_of_ble_eq_true rfl) ?_
                        refine lv_iload_n hx hb dX10_next_212 rfl (lv_at hl 1 rfl) ?_
                        refine lv_icmp_ne (tgt := 220) hx hb dX10_next_213 (by decide) (fun c259 => ?_) (fun c259 => ?_)
                        · have dc259 : 0 ≠ u33.toInt := ne_i (a := 0) (b := u33.toInt) rfl rfl c259
                          have k260 : 1 ≤ u33.toInt ∧ u33.toInt ≤ 1 := ⟨ne_lo dc259.symm i35.1 ⟨Int.le_refl _, Int.le_refl _⟩ (by decide), i35.2⟩
                          refine lv_iconst (v := 0) hx hb dX10_next_220 (by decide) ?_
                          refine lv_istore_n (lv' := [(3, .int 0), (2, .int u33), (1, .int v28), (0, .ref h0)]) hx hb dX10_next_221 rfl hl (by decide) rfl (fun ls hl => ?_)
                          exact cut141 0 (show 0 ≤ (0 : Int32).toInt ∧ (0 : Int32).toInt ≤ 1 by decide) (by show (0 = 1 → u33.toInt = 0 → (48 ≤ v124.toInt ∧ v124.toInt ≤ 57 ∧ 0 ≤ u43.toInt ∧ u43.toInt ≤ 999 ∧ (u42.toInt = 0 → u43.toInt = 0) ∧ (u42.toInt = 1 → u43.toInt ≤ 9) ∧ (u42.toInt = 2 → u43.toInt ≤ 99))); omega) _ _ _ hP hD hS (lv_sub hl [0, 1, 2, 3] rfl)
                        · have dc259 : 0 = u33.toInt := eq_i (a := 0) (b := u33.toInt) rfl rfl c259
                          have k261 : 0 ≤ u33.toInt ∧ u33.toInt ≤ 0 := ⟨i35.1, Int.le_trans (Int.le_of_eq dc259.symm) (Int.le_refl _)⟩
                          refine lv_iconst (v := 1) hx hb dX10_next_216 (by decide) ?_
                          refine lv_goto (tgt := 221) hx hb dX10_next_217 (by decide) ?_
                          refine lv_istore_n (lv' := [(3, .int 1), (2, .int u33), (1, .int v28), (0, .ref h0)]) hx hb dX10_next_221 rfl hl (by decide) rfl (fun ls hl => ?_)
                          exact cut141 1 (show 0 ≤ (1 : Int32).toInt ∧ (1 : Int32).toInt ≤ 1 by decide) (by show (1 = 1 → u33.toInt = 0 → (48 ≤ v124.toInt ∧ v124.toInt ≤ 57 ∧ 0 ≤ u43.toInt ∧ u43.toInt ≤ 999 ∧ (u42.toInt = 0 → u43.toInt = 0) ∧ (u42.toInt = 1 → u43.toInt ≤ 9) ∧ (u42.toInt = 2 → u43.toInt ≤ 99))); omega) _ _ _ hP hD hS (lv_sub hl [0, 1, 2, 3] rfl)
                      · have hP : va_P D vwCl [(h0, .inr (10, vL 67 G40)), (h_tape, .inl (cB, 940, .inl f_tape))] H := hP
                        have hD : va_D A [(h0, .inr (10, vL 67 G40)), (h_tape, .inl (cB, 940, .inl f_tape))] := hD
                        refine W.widen (k := 0) (n := 0) (Nat.le_of_ble_eq_true rfl) (Nat.le_of_ble_eq_true rfl) ?_
                        exact False.elim (bad_le t254 (Int.le_refl _) k139.2 (by decide))
                      · have hP : va_P D vwCl [(h0, .inr (10, vL 67 G40)), (h_tape, .inl (cB, 940, .inl f_tape))] H := hP
                        have hD : va_D A [(h0, .inr (10, vL 67 G40)), (h_tape, .inl (cB, 940, .inl f_tape))] := hD
                        refine W.widen (k := 0) (n := 0) (Nat.le_of_ble_eq_true rfl) (Nat.le_of_ble_eq_true rfl) ?_
                        exact False.elim (bad_le t256 (Int.le_refl _) k139.2 (by decide))
            · have hP : va_P D vwCl [(h0, .inr (10, vL 67 G40)), (h_tape, .inl (cB, 940, .inl f_tape))] H := hP
              have hD : va_D A [(h0, .inr (10, vL 67 G40)), (h_tape, .inl (cB, 940, .inl f_tape))] := hD
              refine W.widen (k := 0) (n := 0) (Nat.le_of_ble_eq_true rfl) (Nat.le_of_ble_eq_true rfl) ?_
              exact absurd t107 (by decide)
            · have hP : va_P D vwCl [(h0, .inr (10, vL 67 G40)), (h_tape, .inl (cB, 940, .inl f_tape))] H := hP
              have hD : va_D A [(h0, .inr (10, vL 67 G40)), (h_tape, .inl (cB, 940, .inl f_tape))] := hD
              refine W.widen (k := 0) (n := 0) (Nat.le_of_ble_eq_true rfl) (Nat.le_of_ble_eq_true rfl) ?_
              exact absurd t109 (by decide)
          · have hP : va_P D vwCl [(h0, .inr (10, vL 67 G40)), (h_tape, .inl (cB, 940, .inl f_tape))] H := hP
            have hD : va_D A [(h0, .inr (10, vL 67 G40)), (h_tape, .inl (cB, 940, .inl f_tape))] := hD
            refine W.widen (k := 0) (n := 0) (Nat.le_of_ble_eq_true rfl) (Nat.le_of_ble_eq_true rfl) ?_
            refine lv_topi (fun v262 ev262 => ?_)
            have k263 : 0 ≤ v262.toInt ∧ v262.toInt ≤ 255 := by rw [ev262]; exact t101
            have k264 : 0 ≤ u41.toInt ∧ u41.toInt ≤ 939 := ⟨i88.1, up_lt t102 k31.2 (by decide)⟩
            refine call_Si (wr := [(h0, .inr (10, vL 67 G40)), (h_tape, .inl (cB, 940, .inl f_tape))]) (As := [.int v262]) (rest := []) hx hb hml hown hw (m_X10_isSmall l D cI cJ cB cP cM cZ v262 _ ) wS_X10_182_X10_isSmall dX10_next_185 hP hD hS hA [] [0, 1] rfl rfl (by decide) (by decide) (by decide) GG.fb hG.at hl.1 rfl (Nat.le_of_ble_eq_true rfl) ⟨(Nat.le_of_ble_eq_true rfl), (Nat.le_of_ble_eq_true rfl)⟩ ⟨(Nat.le_of_ble_eq_true rfl), (Nat.le_of_ble_eq_true rfl)⟩ (fun r265 u H locs hp hP hD hS => ?_)
            rcases hp with ⟨t266, rfl, rfl⟩ | ⟨t267, t268, rfl, rfl⟩ | ⟨t269, t270, rfl, rfl⟩
            · have hP : va_P D vwCl [(h0, .inr (10, vL 67 G40)), (h_tape, .inl (cB, 940, .inl f_tape))] H := hP
              have hD : va_D A [(h0, .inr (10, vL 67 G40)), (h_tape, .inl (cB, 940, .inl f_tape))] := hD
              refine W.widen (k := 0) (n := 0) (Nat.le_of_ble_eq_true rfl) (Nat.le_of_ble_eq_true rfl) ?_
              have k272 : 0 ≤ v262.toInt ∧ v262.toInt ≤ 96 := ⟨k263.1, up_lt t266 (Int.le_refl _) (by decide)⟩
              refine lv_if_ne (tgt := 201) hx hb dX10_next_188 (by decide) (fun g => absurd (by decide) g) (fun _ => ?_)
              refine lv_aload_n hx hb dX10_next_191 rfl (lv_at hl 3 rfl) ?_
              refine call_Vi (wr := []) (As := []) (rest := []) hx hb hml hown hw (m_X10_peek l D cI cJ cB cP cM cZ h0 h_tape G40 x_size u41 f_tape _ n95 n98 (ir_wk k31 (by decide) (by decide)) i84 (ir_wk k264 (by decide) (by decide))) wV_X10_169_X10_peek dX10_next_192 hK hP hD hS hA [0, 1] [] rfl rfl (by decide) (by decide) (by decide) 0 10 rfl rfl GG.fb hG.at hl.1 rfl (Nat.le_of_ble_eq_true rfl) ⟨(Nat.le_of_ble_eq_true rfl), (Nat.le_of_ble_eq_true rfl)⟩ ⟨(Nat.le_of_ble_eq_true rfl), (Nat.le_of_ble_eq_true rfl)⟩ (fun r273 u H locs hp hP hD hS => ?_)
              rcases hp with ⟨t274, rfl, rfl⟩ | ⟨t275, t276, rfl, rfl⟩
              · have hP : va_P D vwCl [(h0, .inr (10, vL 67 G40)), (h_tape, .inl (cB, 940, .inl f_tape))] H := hP
                have hD : va_D A [(h0, .inr (10, vL 67 G40)), (h_tape, .inl (cB, 940, .inl f_tape))] := hD
                refine W.widen (k := 0) (n := 0) (Nat.le_of_ble_eq_true rfl) (Nat.le_of_ble_eq_true rfl) ?_
                have k278 : 1 ≤ x_size.toInt ∧ x_size.toInt ≤ 939 := ⟨k31.1, Int.le_trans t274 k264.2⟩
                have k279 : 1 ≤ u41.toInt ∧ u41.toInt ≤ 939 := ⟨Int.le_trans k31.1 t274, k264.2⟩
                refine call_Si (wr := [(h0, .inr (10, vL 67 G40)), (h_tape, .inl (cB, 940, .inl f_tape))]) (As := [.int (-1)]) (rest := []) hx hb hml hown hw (m_X10_isDigit l D cI cJ cB cP cM cZ (-1) _ ) wS_X10_186_X10_isDigit dX10_next_195 hP hD hS hA [] [0, 1] rfl rfl (by decide) (by decide) (by decide) GG.fb hG.at hl.1 rfl (Nat.le_of_ble_eq_true rfl) ⟨(Nat.le_of_ble_eq_true rfl), (Nat.le_of_ble_eq_true rfl)⟩ ⟨(Nat.le_of_ble_eq_true rfl), (Nat.le_of_ble_eq_true rfl)⟩ (fun r280 u H locs hp hP hD hS => ?_)
                have zlm1 : ((-1) : Int32).toInt = (-1) := by decide
                rcases hp with ⟨t281, rfl, rfl⟩ | ⟨t282, t283, rfl, rfl⟩ | ⟨t284, t285, rfl, rfl⟩
                · have hP : va_P D vwCl [(h0, .inr (10, vL 67 G40)), (h_tape, .inl (cB, 940, .inl f_tape))] H := hP
                  have hD : va_D A [(h0, .inr (10, vL 67 G40)), (h_tape, .inl (cB, 940, .inl f_tape))] := hD
                  refine W.widen (k := 0) (n := 0) (Nat.le_of_ble_eq_true rfl) (Nat.le_of_ble_eq_true rfl) ?_
                  refine lv_if_eq (tgt := 298) hx hb dX10_next_198 (by decide) (fun _ => ?_) (fun g => absurd (by decide) g)
                  have hgv28 : v28.toInt = (((f_tape u2.toNatClampNeg) &&& 255)).toInt := by rw [ev28]
                  have hgv262 : v262.toInt = (((f_tape u41.toNatClampNeg) &&& 255)).toInt := by rw [ev262]
                  have hfst : u41.toInt = u2.toInt → (f_tape u41.toNatClampNeg &&& 255).toInt = (f_tape u2.toNatClampNeg &&& 255).toInt := fun h9 => by rw [Int32.toInt_inj.mp h9]
                  exact cut45 u39 G40 u41 u42 u43 u44 i82 (SAME.tr SAME.rf i83 (by decide)) i84 i85 i86 i87 (ir_wk k279 (by decide) (by decide)) i89 (by show 0 ≤ u42.toInt ∧ u42.toInt ≤ u41.toInt ∧ x_p.toInt + u42.toInt ≤ u41.toInt ∧ (u42.toInt = 0 → u41.toInt = u2.toInt); omega) (by show u39.toInt = 1 → u33.toInt = 0 → (0 ≤ u43.toInt ∧ u43.toInt ≤ 999 ∧ (u42.toInt = 0 → u43.toInt = 0) ∧ (u42.toInt = 1 → u43.toInt ≤ 9) ∧ (u42.toInt = 2 → u43.toInt ≤ 99)); omega) (by show (x_token.toInt = 2 → 0 ≤ u43.toInt ∧ u43.toInt ≤ 999); omega) (by show 1 ≤ u42.toInt; omega) _ _ _ hP hD hS (lv_sub hl [0, 1, 2, 3] rfl)
                · have hP : va_P D vwCl [(h0, .inr (10, vL 67 G40)), (h_tape, .inl (cB, 940, .inl f_tape))] H := hP
                  have hD : va_D A [(h0, .inr (10, vL 67 G40)), (h_tape, .inl (cB, 940, .inl f_tape))] := hD
                  refine W.widen (k := 0) (n := 0) (Nat.le_of_ble_eq_true rfl) (Nat.le_of_ble_eq_true rfl) ?_
                  exact absurd t282 (by decide)
                · have hP : va_P D vwCl [(h0, .inr (10, vL 67 G40)), (h_tape, .inl (cB, 940, .inl f_tape))] H := hP
                  have hD : va_D A [(h0, .inr (10, vL 67 G40)), (h_tape, .inl (cB, 940, .inl f_tape))] := hD
                  refine W.widen (k := 0) (n := 0) (Nat.le_of_ble_eq_true rfl) (Nat.le_of_ble_eq_true rfl) ?_
                  exact absurd t284 (by decide)
              · have hP : va_P D vwCl [(h0, .inr (10, vL 67 G40)), (h_tape, .inl (cB, 940, .inl f_tape))] H := hP
                have hD : va_D A [(h0, .inr (10, vL 67 G40)), (h_tape, .inl (cB, 940, .inl f_tape))] := hD
                refine W.widen (k := 0) (n := 0) (Nat.le_of_ble_eq_true rfl) (Nat.le_of_ble_eq_true rfl) ?_
                refine lv_ci (y := v262) ev262.symm ?_
                refine call_Si (wr := [(h0, .inr (10, vL 67 G40)), (h_tape, .inl (cB, 940, .inl f_tape))]) (As := [.int v262]) (rest := []) hx hb hml hown hw (m_X10_isDigit l D cI cJ cB cP cM cZ v262 _ ) wS_X10_186_X10_isDigit dX10_next_195 hP hD hS hA [] [0, 1] rfl rfl (by decide) (by decide) (by decide) GG.fb hG.at hl.1 rfl (Nat.le_of_ble_eq_true rfl) ⟨(Nat.le_of_ble_eq_true rfl), (Nat.le_of_ble_eq_true rfl)⟩ ⟨(Nat.le_of_ble_eq_true rfl), (Nat.le_of_ble_eq_true rfl)⟩ (fun r287 u H locs hp hP hD hS => ?_)
                rcases hp with ⟨t288, rfl, rfl⟩ | ⟨t289, t290, rfl, rfl⟩ | ⟨t291, t292, rfl, rfl⟩
                · have hP : va_P D vwCl [(h0, .inr (10, vL 67 G40)), (h_tape, .inl (cB, 940, .inl f_tape))] H := hP
                  have hD : va_D A [(h0, .inr (10, vL 67 G40)), (h_tape, .inl (cB, 940, .inl f_tape))] := hD
                  refine W.widen (k := 0) (n := 0) (Nat.le_of_ble_eq_true rfl) (Nat.le_of_ble_eq_true rfl) ?_
                  have k294 : 0 ≤ v262.toInt ∧ v262.toInt ≤ 47 := ⟨k272.1, up_lt t288 (Int.le_refl _) (by decide)⟩
                  refine lv_if_eq (tgt := 298) hx hb dX10_next_198 (by decide) (fun _ => ?_) (fun g => absurd (by decide) g)
                  have hgv28 : v28.toInt = (((f_tape u2.toNatClampNeg) &&& 255)).toInt := by rw [ev28]
                  have hgv262 : v262.toInt = (((f_tape u41.toNatClampNeg) &&& 255)).toInt := by rw [ev262]
                  have hfst : u41.toInt = u2.toInt → (f_tape u41.toNatClampNeg &&& 255).toInt = (f_tape u2.toNatClampNeg &&& 255).toInt := fun h9 => by rw [Int32.toInt_inj.mp h9]
                  exact cut45 u39 G40 u41 u42 u43 u44 i82 (SAME.tr SAME.rf i83 (by decide)) i84 i85 i86 i87 (ir_wk k264 (by decide) (by decide)) i89 (by show 0 ≤ u42.toInt ∧ u42.toInt ≤ u41.toInt ∧ x_p.toInt + u42.toInt ≤ u41.toInt ∧ (u42.toInt = 0 → u41.toInt = u2.toInt); omega) (by show u39.toInt = 1 → u33.toInt = 0 → (0 ≤ u43.toInt ∧ u43.toInt ≤ 999 ∧ (u42.toInt = 0 → u43.toInt = 0) ∧ (u42.toInt = 1 → u43.toInt ≤ 9) ∧ (u42.toInt = 2 → u43.toInt ≤ 99)); omega) (by show (x_token.toInt = 2 → 0 ≤ u43.toInt ∧ u43.toInt ≤ 999); omega) (by show 1 ≤ u42.toInt; omega) _ _ _ hP hD hS (lv_sub hl [0, 1, 2, 3] rfl)
                · have hP : va_P D vwCl [(h0, .inr (10, vL 67 G40)), (h_tape, .inl (cB, 940, .inl f_tape))] H := hP
                  have hD : va_D A [(h0, .inr (10, vL 67 G40)), (h_tape, .inl (cB, 940, .inl f_tape))] := hD
                  refine W.widen (k := 0) (n := 0) (Nat.le_of_ble_eq_true rfl) (Nat.le_of_ble_eq_true rfl) ?_
                  have k295 : 48 ≤ v262.toInt ∧ v262.toInt ≤ 96 := ⟨Int.le_trans (Int.le_refl _) t289, k272.2⟩
                  have k296 : 58 ≤ v262.toInt ∧ v262.toInt ≤ 96 := ⟨lo_lt t290 (Int.le_refl _) (by decide), k295.2⟩
                  refine lv_if_eq (tgt := 298) hx hb dX10_next_198 (by decide) (fun _ => ?_) (fun g => absurd (by decide) g)
                  have hgv28 : v28.toInt = (((f_tape u2.toNatClampNeg) &&& 255)).toInt := by rw [ev28]
                  have hgv262 : v262.toInt = (((f_tape u41.toNatClampNeg) &&& 255)).toInt := by rw [ev262]
                  have hfst : u41.toInt = u2.toInt → (f_tape u41.toNatClampNeg &&& 255).toInt = (f_tape u2.toNatClampNeg &&& 255).toInt := fun h9 => by rw [Int32.toInt_inj.mp h9]
                  exact cut45 u39 G40 u41 u42 u43 u44 i82 (SAME.tr SAME.rf i83 (by decide)) i84 i85 i86 i87 (ir_wk k264 (by decide) (by decide)) i89 (by show 0 ≤ u42.toInt ∧ u42.toInt ≤ u41.toInt ∧ x_p.toInt + u42.toInt ≤ u41.toInt ∧ (u42.toInt = 0 → u41.toInt = u2.toInt); omega) (by show u39.toInt = 1 → u33.toInt = 0 → (0 ≤ u43.toInt ∧ u43.toInt ≤ 999 ∧ (u42.toInt = 0 → u43.toInt = 0) ∧ (u42.toInt = 1 → u43.toInt ≤ 9) ∧ (u42.toInt = 2 → u43.toInt ≤ 99)); omega) (by show (x_token.toInt = 2 → 0 ≤ u43.toInt ∧ u43.toInt ≤ 999); omega) (by show 1 ≤ u42.toInt; omega) _ _ _ hP hD hS (lv_sub hl [0, 1, 2, 3] rfl)
                · have hP : va_P D vwCl [(h0, .inr (10, vL 67 G40)), (h_tape, .inl (cB, 940, .inl f_tape))] H := hP
                  have hD : va_D A [(h0, .inr (10, vL 67 G40)), (h_tape, .inl (cB, 940, .inl f_tape))] := hD
                  refine W.widen (k := 0) (n := 0) (Nat.le_of_ble_eq_true rfl) (Nat.le_of_ble_eq_true rfl) ?_
                  have k297 : 48 ≤ v262.toInt ∧ v262.toInt ≤ 96 := ⟨Int.le_trans (Int.le_refl _) t291, k272.2⟩
                  have k298 : 48 ≤ v262.toInt ∧ v262.toInt ≤ 57 := ⟨k297.1, Int.le_trans t292 (Int.le_refl _)⟩
                  refine lv_if_eq (tgt := 298) hx hb dX10_next_198 (by decide) (fun g => absurd g (by decide)) (fun _ => ?_)
                  have cut300 : ∀ (u299 : Int32) (_ : IR 0 1 u299) (_ : ((u299.toInt = 1 → u33.toInt = 0 → (48 ≤ v262.toInt ∧ v262.toInt ≤ 57 ∧ 0 ≤ u43.toInt ∧ u43.toInt ≤ 999 ∧ (u42.toInt = 0 → u43.toInt = 0) ∧ (u42.toInt = 1 → u43.toInt ≤ 9) ∧ (u42.toInt = 2 → u43.toInt ≤ 99))))) (H : Heap) (locs : List Loc) (ls : Array Slot), va_P D vwCl [(h0, .inr (10, vL 67 G40)), (h_tape, .inl (cB, 940, .inl f_tape))] H → va_D A [(h0, .inr (10, vL 67 G40)), (h_tape, .inl (cB, 940, .inl f_tape))] → va_S A s.heap H locs → lv_has ls 4 [(3, .int u299), (2, .int u33), (1, .int v28), (0, .ref h0)] → W p l e ({ frames := 1, cells := 0, slots := 0, locals := 20 } : Room) s m [.ref h0].toArray below meth c H locs 0 0 (MQ below (va_Qv (fun (u : va_W) => ∃ (Gh : Nat → Value) (y_p : Int32) (y_token : Int32) (y_at : Int32) (y_span : Int32) (y_number : Int32) (y_word : Int64), SAME [4, 11, 12, 13, 14, 18] Fh Gh ∧ Gh 4 = .int y_p ∧ IR 0 940 y_p ∧ Gh 11 = .int y_token ∧ IR 0 4 y_token ∧ Gh 12 = .int y_at ∧ IR 0 940 y_at ∧ Gh 13 = .int y_span ∧ IR 0 940 y_span ∧ Gh 14 = .int y_number ∧ Gh 18 = .long y_word ∧ (x_p.toInt ≤ y_p.toInt) ∧ ((1 ≤ y_token.toInt → y_token.toInt ≤ 3 → x_p.toInt < y_p.toInt)) ∧ ((y_token.toInt = 2 → 0 ≤ y_number.toInt ∧ y_number.toInt ≤ 999)) ∧ u = [(h0, .inr (10, vL 67 Gh)), (h_tape, .inl (cB, 940, .inl f_tape))]) (PO D A) A) [.ref h0].toArray s 0 0 A) (F0 m 222 ls []) := by
                    intro u299 i301 i302 H locs ls hP hD hS hl
                    have i301 : 0 ≤ u299.toInt ∧ u299.toInt ≤ 1 := i301
                    have i302 : (u299.toInt = 1 → u33.toInt = 0 → (48 ≤ v262.toInt ∧ v262.toInt ≤ 57 ∧ 0 ≤ u43.toInt ∧ u43.toInt ≤ 999 ∧ (u42.toInt = 0 → u43.toInt = 0) ∧ (u42.toInt = 1 → u43.toInt ≤ 9) ∧ (u42.toInt = 2 → u43.toInt ≤ 99))) := i302
                    have cut305 : ∀ (G303 : Nat → Value) (u304 : Int64) (_ : SAME [18] G40 G303) (_ : G303 18 = .long u304) (H : Heap) (locs : List Loc) (ls : Array Slot), va_P D vwCl [(h0, .inr (10, vL 67 G303)), (h_tape, .inl (cB, 940, .inl f_tape))] H → va_D A [(h0, .inr (10, vL 67 G303)), (h_tape, .inl (cB, 940, .inl f_tape))] → va_S A s.heap H locs → lv_has ls 4 [(3, .int u299), (2, .int u33), (1, .int v28), (0, .ref h0)] → W p l e ({ frames := 1, cells := 0, slots := 0, locals := 20 } : Room) s m [.ref h0].toArray below meth c H locs 0 0 (MQ below (va_Qv (fun (u : va_W) => ∃ (Gh : Nat → Value) (y_p : Int32) (y_token : Int32) (y_at : Int32) (y_span : Int32) (y_number : Int32) (y_word : Int64), SAME [4, 11, 12, 13, 14, 18] Fh Gh ∧ Gh 4 = .int y_p ∧ IR 0 940 y_p ∧ Gh 11 = .int y_token ∧ IR 0 4 y_token ∧ Gh 12 = .int y_at ∧ IR 0 940 y_at ∧ Gh 13 = .int y_span ∧ IR 0 940 y_span ∧ Gh 14 = .int y_number ∧ Gh 18 = .long y_word ∧ (x_p.toInt ≤ y_p.toInt) ∧ ((1 ≤ y_token.toInt → y_token.toInt ≤ 3 → x_p.toInt < y_p.toInt)) ∧ ((y_token.toInt = 2 → 0 ≤ y_number.toInt ∧ y_number.toInt ≤ 999)) ∧ u = [(h0, .inr (10, vL 67 Gh)), (h_tape, .inl (cB, 940, .inl f_tape))]) (PO D A) A) [.ref h0].toArray s 0 0 A) (F0 m 248 ls []) := by
                      intro G303 u304 i306 i307 H locs ls hP hD hS hl
                      refine lv_aload_n hx hb dX10_next_248 rfl (lv_at hl 3 rfl) ?_
                      have n308 : G303 13 = .int u42 := (SAME.at i306 (by decide) i85)
                      refine get_f (D := D) (ci := 10) (v := .int u42) (C := RX10) (T := TX10) (N := 67) hx hb hw inAX10 hown hK hP 0 rfl rfl 13 (by decide) (hw _ q_1274) (fun _ h9 => h9) n308 dX10_next_249 ?_
                      refine lv_iconst (v := 3) hx hb dX10_next_252 (by decide) ?_
                      refine lv_icmp_ge (tgt := 275) hx hb dX10_next_253 (by decide) (fun c309 => ?_) (fun c309 => ?_)
                      · have dc309 : 3 ≤ u42.toInt := le_i (a := 3) (b := u42.toInt) rfl rfl c309
                        have k310 : 3 ≤ u42.toInt ∧ u42.toInt ≤ 940 := ⟨Int.le_trans (Int.le_refl _) dc309, i89.2⟩
                        refine lv_aload_n hx hb dX10_next_275 rfl (lv_at hl 3 rfl) ?_
                        refine lv_dup hx hb dX10_next_276 rfl ?_
                        refine get_f (D := D) (ci := 10) (v := .int u42) (C := RX10) (T := TX10) (N := 67) hx hb hw inAX10 hown hK hP 0 rfl rfl 13 (by decide) (hw _ q_1274) (fun _ h9 => h9) n308 dX10_next_277 ?_
                        refine lv_iconst (v := 1) hx hb dX10_next_280 (by decide) ?_
                        refine lv_iadd hx hb dX10_next_281 ?_
                        refine lv_topi (fun v311 ev311 => ?_)
                        have bv311 : v311.toInt = u42.toInt + 1 := by rw [ev311]; exact add_k rfl rfl k310 ⟨Int.le_refl _, Int.le_refl _⟩ (by decide)
                        have k312 : 4 ≤ v311.toInt ∧ v311.toInt ≤ 941 := add_r bv311 k310 ⟨Int.le_refl _, Int.le_refl _⟩ (by decide)
                        refine put_f (D := D) (ci := 10) (v := .int v311) (ty := .int) (C := RX10) (T := TX10) (N := 67) hx hb hw inAX10 tyX10 tyX10_ok nmX10 hown hK hP hD hS 0 rfl rfl 13 (by decide) (hw _ q_1274) (fun _ h9 => h9) rfl (by decide +kernel) rfl rfl dX10_next_282 (fun H locs F313 eF313 hP hD hS => ?_)
                        have hP : va_P D vwCl [(h0, .inr (10, vL 67 F313)), (h_tape, .inl (cB, 940, .inl f_tape))] H := hP
                        have hD : va_D A [(h0, .inr (10, vL 67 F313)), (h_tape, .inl (cB, 940, .inl f_tape))] := hD
                        refine lv_aload_n hx hb dX10_next_285 rfl (lv_at hl 3 rfl) ?_
                        refine lv_dup hx hb dX10_next_286 rfl ?_
                        have n314 : G303 4 = .int u41 := (SAME.at i306 (by decide) i84)
                        have n315 : F313 4 = .int u41 := (get_ne eF313 (by decide) n314)
                        refine get_f (D := D) (ci := 10) (v := .int u41) (C := RX10) (T := TX10) (N := 67) hx hb hw inAX10 hown hK hP 0 rfl rfl 4 (by decide) (hw _ q_1265) (fun _ h9 => h9) n315 dX10_next_287 ?_
                        refine lv_iconst (v := 1) hx hb dX10_next_290 (by decide) ?_
                        refine lv_iadd hx hb dX10_next_291 ?_
                        refine lv_topi (fun v316 ev316 => ?_)
                        have bv316 : v316.toInt = u41.toInt + 1 := by rw [ev316]; exact add_k rfl rfl k264 ⟨Int.le_refl _, Int.le_refl _⟩ (by decide)
                        have k317 : 1 ≤ v316.toInt ∧ v316.toInt ≤ 940 := add_r bv316 k264 ⟨Int.le_refl _, Int.le_refl _⟩ (by decide)
                        refine put_f (D := D) (ci := 10) (v := .int v316) (ty := .int) (C := RX10) (T := TX10) (N := 67) hx hb hw inAX10 tyX10 tyX10_ok nmX10 hown hK hP hD hS 0 rfl rfl 4 (by decide) (hw _ q_1265) (fun _ h9 => h9) rfl (by decide +kernel) rfl rfl dX10_next_292 (fun H locs F318 eF318 hP hD hS => ?_)
                        have hP : va_P D vwCl [(h0, .inr (10, vL 67 F318)), (h_tape, .inl (cB, 940, .inl f_tape))] H := hP
                        have hD : va_D A [(h0, .inr (10, vL 67 F318)), (h_tape, .inl (cB, 940, .inl f_tape))] := hD
                        refine lv_goto (tgt := 181) hx hb dX10_next_295 (by decide) ?_
                        have n319 : F318 13 = .int v311 := (get_ne eF318 (by decide) (get_eq eF313))
                        have n320 : G303 14 = .int u43 := (SAME.at i306 (by decide) i86)
                        have n321 : F313 14 = .int u43 := (get_ne eF313 (by decide) n320)
                        have n322 : F318 14 = .int u43 := (get_ne eF318 (by decide) n321)
                        have n323 : F313 18 = .long u304 := (get_ne eF313 (by decide) i307)
                        have n324 : F318 18 = .long u304 := (get_ne eF318 (by decide) n323)
                        exact ih (u299, F318, v316, v311, u43, u304) ⟨i301, (SAME.up eF318 (SAME.up eF313 (SAME.tr (SAME.tr SAME.rf i83 (by decide)) i306 (by decide)) (by decide)) (by decide)), (get_eq eF318), n319, n322, n324, (ir_wk k317 (by decide) (by decide)), ⟨by omega, by omega⟩, (by show 0 ≤ v311.toInt ∧ v311.toInt ≤ v316.toInt ∧ x_p.toInt + v311.toInt ≤ v316.toInt ∧ (v311.toInt = 0 → v316.toInt = u2.toInt); omega), (by show u299.toInt = 1 → u33.toInt = 0 → (0 ≤ u43.toInt ∧ u43.toInt ≤ 999 ∧ (v311.toInt = 0 → u43.toInt = 0) ∧ (v311.toInt = 1 → u43.toInt ≤ 9) ∧ (v311.toInt = 2 → u43.toInt ≤ 99)); omega), (by show (x_token.toInt = 2 → 0 ≤ u43.toInt ∧ u43.toInt ≤ 999); omega)⟩ (by show (x_size.toInt - v316.toInt).toNat < (x_size.toInt - u41.toInt).toNat; omega) _ _ _ hP hD hS (lv_sub hl [0, 1, 2, 3] rfl)
                      · have dc309 : u42.toInt < 3 := nle_i (a := 3) (b := u42.toInt) rfl rfl c309
                        have k325 : 0 ≤ u42.toInt ∧ u42.toInt ≤ 2 := ⟨i89.1, up_lt dc309 (Int.le_refl _) (by decide)⟩
                        refine lv_aload_n hx hb dX10_next_256 rfl (lv_at hl 3 rfl) ?_
                        refine lv_bipush (v := 10) hx hb dX10_next_257 (by decide) ?_
                        refine lv_aload_n hx hb dX10_next_259 rfl (lv_at hl 3 rfl) ?_
                        have n326 : G303 14 = .int u43 := (SAME.at i306 (by decide) i86)
                        refine get_f (D := D) (ci := 10) (v := .int u43) (C := RX10) (T := TX10) (N := 67) hx hb hw inAX10 hown hK hP 0 rfl rfl 14 (by decide) (hw _ q_1275) (fun _ h9 => h9) n326 dX10_next_260 ?_
                        refine lv_imul hx hb dX10_next_263 ?_
                        refine lv_topi (fun v327 ev327 => ?_)
                        refine lv_aload_n hx hb dX10_next_264 rfl (lv_at hl 3 rfl) ?_
                        have n328 : G303 1 = .ref h_tape := (SAME.at i306 (by decide) n95)
                        have n329 : G303 3 = .int x_size := (SAME.at i306 (by decide) n98)
                        have n330 : G303 4 = .int u41 := (SAME.at i306 (by decide) i84)
                        refine call_Vi (wr := []) (As := []) (rest := [.int v327, .ref h0]) hx hb hml hown hw (m_X10_peek l D cI cJ cB cP cM cZ h0 h_tape G303 x_size u41 f_tape _ n328 n329 (ir_wk k31 (by decide) (by decide)) n330 (ir_wk k264 (by decide) (by decide))) wV_X10_169_X10_peek dX10_next_265 hK hP hD hS hA [0, 1] [] rfl rfl (by decide) (by decide) (by decide) 0 10 rfl rfl GG.fb hG.at hl.1 rfl (Nat.le_of_ble_eq_true rfl) ⟨(Nat.le_of_ble_eq_true rfl), (Nat.le_of_ble_eq_true rfl)⟩ ⟨(Nat.le_of_ble_eq_true rfl), (Nat.le_of_ble_eq_true rfl)⟩ (fun r331 u H locs hp hP hD hS => ?_)
                        rcases hp with ⟨t332, rfl, rfl⟩ | ⟨t333, t334, rfl, rfl⟩
                        · have hP : va_P D vwCl [(h0, .inr (10, vL 67 G303)), (h_tape, .inl (cB, 940, .inl f_tape))] H := hP
                          have hD : va_D A [(h0, .inr (10, vL 67 G303)), (h_tape, .inl (cB, 940, .inl f_tape))] := hD
                          refine W.widen (k := 0) (n := 0) (Nat.le_of_ble_eq_true rfl) (Nat.le_of_ble_eq_true rfl) ?_
                          have k336 : 1 ≤ x_size.toInt ∧ x_size.toInt ≤ 939 := ⟨k31.1, Int.le_trans t332 k264.2⟩
                          have k337 : 1 ≤ u41.toInt ∧ u41.toInt ≤ 939 := ⟨Int.le_trans k31.1 t332, k264.2⟩
                          refine lv_iadd hx hb dX10_next_268 ?_
                          refine lv_topi (fun v338 ev338 => ?_)
                          refine lv_bipush (v := 48) hx hb dX10_next_269 (by decide) ?_
                          refine lv_isub hx hb dX10_next_271 ?_
                          refine lv_topi (fun v339 ev339 => ?_)
                          refine put_f (D := D) (ci := 10) (v := .int v339) (ty := .int) (C := RX10) (T := TX10) (N := 67) hx hb hw inAX10 tyX10 tyX10_ok nmX10 hown hK hP hD hS 0 rfl rfl 14 (by decide) (hw _ q_1275) (fun _ h9 => h9) rfl (by decide +kernel) rfl rfl dX10_next_272 (fun H locs F340 eF340 hP hD hS => ?_)
                          have hP : va_P D vwCl [(h0, .inr (10, vL 67 F340)), (h_tape, .inl (cB, 940, .inl f_tape))] H := hP
                          have hD : va_D A [(h0, .inr (10, vL 67 F340)), (h_tape, .inl (cB, 940, .inl f_tape))] := hD
                          refine lv_aload_n hx hb dX10_next_275 rfl (lv_at hl 3 rfl) ?_
                          refine lv_dup hx hb dX10_next_276 rfl ?_
                          have n341 : F340 13 = .int u42 := (get_ne eF340 (by decide) n308)
                          refine get_f (D := D) (ci := 10) (v := .int u42) (C := RX10) (T := TX10) (N := 67) hx hb hw inAX10 hown hK hP 0 rfl rfl 13 (by decide) (hw _ q_1274) (fun _ h9 => h9) n341 dX10_next_277 ?_
                          refine lv_iconst (v := 1) hx hb dX10_next_280 (by decide) ?_
                          refine lv_iadd hx hb dX10_next_281 ?_
                          refine lv_topi (fun v342 ev342 => ?_)
                          have bv342 : v342.toInt = u42.toInt + 1 := by rw [ev342]; exact add_k rfl rfl k325 ⟨Int.le_refl _, Int.le_refl _⟩ (by decide)
                          have k343 : 1 ≤ v342.toInt ∧ v342.toInt ≤ 3 := add_r bv342 k325 ⟨Int.le_refl _, Int.le_refl _⟩ (by decide)
                          refine put_f (D := D) (ci := 10) (v := .int v342) (ty := .int) (C := RX10) (T := TX10) (N := 67) hx hb hw inAX10 tyX10 tyX10_ok nmX10 hown hK hP hD hS 0 rfl rfl 13 (by decide) (hw _ q_1274) (fun _ h9 => h9) rfl (by decide +kernel) rfl rfl dX10_next_282 (fun H locs F344 eF344 hP hD hS => ?_)
                          have hP : va_P D vwCl [(h0, .inr (10, vL 67 F344)), (h_tape, .inl (cB, 940, .inl f_tape))] H := hP
                          have hD : va_D A [(h0, .inr (10, vL 67 F344)), (h_tape, .inl (cB, 940, .inl f_tape))] := hD
                          refine lv_aload_n hx hb dX10_next_285 rfl (lv_at hl 3 rfl) ?_
                          refine lv_dup hx hb dX10_next_286 rfl ?_
                          have n345 : F340 4 = .int u41 := (get_ne eF340 (by decide) n330)
                          have n346 : F344 4 = .int u41 := (get_ne eF344 (by decide) n345)
                          refine get_f (D := D) (ci := 10) (v := .int u41) (C := RX10) (T := TX10) (N := 67) hx hb hw inAX10 hown hK hP 0 rfl rfl 4 (by decide) (hw _ q_1265) (fun _ h9 => h9) n346 dX10_next_287 ?_
                          refine lv_iconst (v := 1) hx hb dX10_next_290 (by decide) ?_
                          refine lv_iadd hx hb dX10_next_291 ?_
                          refine lv_topi (fun v347 ev347 => ?_)
                          have bv347 : v347.toInt = u41.toInt + 1 := by rw [ev347]; exact add_k rfl rfl k337 ⟨Int.le_refl _, Int.le_refl _⟩ (by decide)
                          have k348 : 2 ≤ v347.toInt ∧ v347.toInt ≤ 940 := add_r bv347 k337 ⟨Int.le_refl _, Int.le_refl _⟩ (by decide)
                          refine put_f (D := D) (ci := 10) (v := .int v347) (ty := .int) (C := RX10) (T := TX10) (N := 67) hx hb hw inAX10 tyX10 tyX10_ok nmX10 hown hK hP hD hS 0 rfl rfl 4 (by decide) (hw _ q_1265) (fun _ h9 => h9) rfl (by decide +kernel) rfl rfl dX10_next_292 (fun H locs F349 eF349 hP hD hS => ?_)
                          have hP : va_P D vwCl [(h0, .inr (10, vL 67 F349)), (h_tape, .inl (cB, 940, .inl f_tape))] H := hP
                          have hD : va_D A [(h0, .inr (10, vL 67 F349)), (h_tape, .inl (cB, 940, .inl f_tape))] := hD
                          refine lv_goto (tgt := 181) hx hb dX10_next_295 (by decide) ?_
                          have n350 : F349 13 = .int v342 := (get_ne eF349 (by decide) (get_eq eF344))
                          have n351 : F344 14 = .int v339 := (get_ne eF344 (by decide) (get_eq eF340))
                          have n352 : F349 14 = .int v339 := (get_ne eF349 (by decide) n351)
                          have n353 : F340 18 = .long u304 := (get_ne eF340 (by decide) i307)
                          have n354 : F344 18 = .long u304 := (get_ne eF344 (by decide) n353)
                          have n355 : F349 18 = .long u304 := (get_ne eF349 (by decide) n354)
                          exact ih (u299, F349, v347, v342, v339, u304) ⟨i301, (SAME.up eF349 (SAME.up eF344 (SAME.up eF340 (SAME.tr (SAME.tr SAME.rf i83 (by decide)) i306 (by decide)) (by decide)) (by decide)) (by decide)), (get_eq eF349), n350, n352, n355, (ir_wk k348 (by decide) (by decide)), (ir_wk k343 (by decide) (by decide)), (by show 0 ≤ v342.toInt ∧ v342.toInt ≤ v347.toInt ∧ x_p.toInt + v342.toInt ≤ v347.toInt ∧ (v342.toInt = 0 → v347.toInt = u2.toInt); omega), (by show u299.toInt = 1 → u33.toInt = 0 → (0 ≤ v339.toInt ∧ v339.toInt ≤ 999 ∧ (v342.toInt = 0 → v339.toInt = 0) ∧ (v342.toInt = 1 → v339.toInt ≤ 9) ∧ (v342.toInt = 2 → v339.toInt ≤ 99)); omega), (by show (x_token.toInt = 2 → 0 ≤ v339.toInt ∧ v339.toInt ≤ 999); omega)⟩ (by show (x_size.toInt - v347.toInt).toNat < (x_size.toInt - u41.toInt).toNat; omega) _ _ _ hP hD hS (lv_sub hl [0, 1, 2, 3] rfl)
                        · have hP : va_P D vwCl [(h0, .inr (10, vL 67 G303)), (h_tape, .inl (cB, 940, .inl f_tape))] H := hP
                          have hD : va_D A [(h0, .inr (10, vL 67 G303)), (h_tape, .inl (cB, 940, .inl f_tape))] := hD
                          refine W.widen (k := 0) (n := 0) (Nat.le_of_ble_eq_true rfl) (Nat.le_of_ble_eq_true rfl) ?_
                          refine lv_ci (y := v262) ev262.symm ?_
                          refine lv_iadd hx hb dX10_next_268 ?_
                          refine lv_topi (fun v356 ev356 => ?_)
                          refine lv_bipush (v := 48) hx hb dX10_next_269 (by decide) ?_
                          refine lv_isub hx hb dX10_next_271 ?_
                          refine lv_topi (fun v357 ev357 => ?_)
                          refine put_f (D := D) (ci := 10) (v := .int v357) (ty := .int) (C := RX10) (T := TX10) (N := 67) hx hb hw inAX10 tyX10 tyX10_ok nmX10 hown hK hP hD hS 0 rfl rfl 14 (by decide) (hw _ q_1275) (fun _ h9 => h9) rfl (by decide +kernel) rfl rfl dX10_next_272 (fun H locs F358 eF358 hP hD hS => ?_)
                          have hP : va_P D vwCl [(h0, .inr (10, vL 67 F358)), (h_tape, .inl (cB, 940, .inl f_tape))] H := hP
                          have hD : va_D A [(h0, .inr (10, vL 67 F358)), (h_tape, .inl (cB, 940, .inl f_tape))] := hD
                          refine lv_aload_n hx hb dX10_next_275 rfl (lv_at hl 3 rfl) ?_
                          refine lv_dup hx hb dX10_next_276 rfl ?_
                          have n359 : F358 13 = .int u42 := (get_ne eF358 (by decide) n308)
                          refine get_f (D := D) (ci := 10) (v := .int u42) (C := RX10) (T := TX10) (N := 67) hx hb hw inAX10 hown hK hP 0 rfl rfl 13 (by decide) (hw _ q_1274) (fun _ h9 => h9) n359 dX10_next_277 ?_
                          refine lv_iconst (v := 1) hx hb dX10_next_280 (by decide) ?_
                          refine lv_iadd hx hb dX10_next_281 ?_
                          refine lv_topi (fun v360 ev360 => ?_)
                          have bv360 : v360.toInt = u42.toInt + 1 := by rw [ev360]; exact add_k rfl rfl k325 ⟨Int.le_refl _, Int.le_refl _⟩ (by decide)
                          have k361 : 1 ≤ v360.toInt ∧ v360.toInt ≤ 3 := add_r bv360 k325 ⟨Int.le_refl _, Int.le_refl _⟩ (by decide)
                          refine put_f (D := D) (ci := 10) (v := .int v360) (ty := .int) (C := RX10) (T := TX10) (N := 67) hx hb hw inAX10 tyX10 tyX10_ok nmX10 hown hK hP hD hS 0 rfl rfl 13 (by decide) (hw _ q_1274) (fun _ h9 => h9) rfl (by decide +kernel) rfl rfl dX10_next_282 (fun H locs F362 eF362 hP hD hS => ?_)
                          have hP : va_P D vwCl [(h0, .inr (10, vL 67 F362)), (h_tape, .inl (cB, 940, .inl f_tape))] H := hP
                          have hD : va_D A [(h0, .inr (10, vL 67 F362)), (h_tape, .inl (cB, 940, .inl f_tape))] := hD
                          refine lv_aload_n hx hb dX10_next_285 rfl (lv_at hl 3 rfl) ?_
                          refine lv_dup hx hb dX10_next_286 rfl ?_
                          have n363 : F358 4 = .int u41 := (get_ne eF358 (by decide) n330)
                          have n364 : F362 4 = .int u41 := (get_ne eF362 (by decide) n363)
                          refine get_f (D := D) (ci := 10) (v := .int u41) (C := RX10) (T := TX10) (N := 67) hx hb hw inAX10 hown hK hP 0 rfl rfl 4 (by decide) (hw _ q_1265) (fun _ h9 => h9) n364 dX10_next_287 ?_
                          refine lv_iconst (v := 1) hx hb dX10_next_290 (by decide) ?_
                          refine lv_iadd hx hb dX10_next_291 ?_
                          refine lv_topi (fun v365 ev365 => ?_)
                          have bv365 : v365.toInt = u41.toInt + 1 := by rw [ev365]; exact add_k rfl rfl k264 ⟨Int.le_refl _, Int.le_refl _⟩ (by decide)
                          have k366 : 1 ≤ v365.toInt ∧ v365.toInt ≤ 940 := add_r bv365 k264 ⟨Int.le_refl _, Int.le_refl _⟩ (by decide)
                          refine put_f (D := D) (ci := 10) (v := .int v365) (ty := .int) (C := RX10) (T := TX10) (N := 67) hx hb hw inAX10 tyX10 tyX10_ok nmX10 hown hK hP hD hS 0 rfl rfl 4 (by decide) (hw _ q_1265) (fun _ h9 => h9) rfl (by decide +kernel) rfl rfl dX10_next_292 (fun H locs F367 eF367 hP hD hS => ?_)
                          have hP : va_P D vwCl [(h0, .inr (10, vL 67 F367)), (h_tape, .inl (cB, 940, .inl f_tape))] H := hP
                          have hD : va_D A [(h0, .inr (10, vL 67 F367)), (h_tape, .inl (cB, 940, .inl f_tape))] := hD
                          refine lv_goto (tgt := 181) hx hb dX10_next_295 (by decide) ?_
                          have n368 : F367 13 = .int v360 := (get_ne eF367 (by decide) (get_eq eF362))
                          have n369 : F362 14 = .int v357 := (get_ne eF362 (by decide) (get_eq eF358))
                          have n370 : F367 14 = .int v357 := (get_ne eF367 (by decide) n369)
                          have n371 : F358 18 = .long u304 := (get_ne eF358 (by decide) i307)
                          have n372 : F362 18 = .long u304 := (get_ne eF362 (by decide) n371)
                          have n373 : F367 18 = .long u304 := (get_ne eF367 (by decide) n372)
                          exact ih (u299, F367, v365, v360, v357, u304) ⟨i301, (SAME.up eF367 (SAME.up eF362 (SAME.up eF358 (SAME.tr (SAME.tr SAME.rf i83 (by decide)) i306 (by decide)) (by decide)) (by decide)) (by decide)), (get_eq eF367), n368, n370, n373, (ir_wk k366 (by decide) (by decide)), (ir_wk k361 (by decide) (by decide)), (by show 0 ≤ v360.toInt ∧ v360.toInt ≤ v365.toInt ∧ x_p.toInt + v360.toInt ≤ v365.toInt ∧ (v360.toInt = 0 → v365.toInt = u2.toInt); omega), (by show u299.toInt = 1 → u33.toInt = 0 → (0 ≤ v357.toInt ∧ v357.toInt ≤ 999 ∧ (v360.toInt = 0 → v357.toInt = 0) ∧ (v360.toInt = 1 → v357.toInt ≤ 9) ∧ (v360.toInt = 2 → v357.toInt ≤ 99)); omega), (by show (x_token.toInt = 2 → 0 ≤ v357.toInt ∧ v357.toInt ≤ 999); omega)⟩ (by show (x_size.toInt - v365.toInt).toNat < (x_size.toInt - u41.toInt).toNat; omega) _ _ _ hP hD hS (lv_sub hl [0, 1, 2, 3] rfl)
                    refine lv_aload_n hx hb dX10_next_222 rfl (lv_at hl 3 rfl) ?_
                    refine get_f (D := D) (ci := 10) (v := .int u42) (C := RX10) (T := TX10) (N := 67) hx hb hw inAX10 hown hK hP 0 rfl rfl 13 (by decide) (hw _ q_1274) (fun _ h9 => h9) i85 dX10_next_223 ?_
                    refine lv_bipush (v := 7) hx hb dX10_next_226 (by decide) ?_
                    refine lv_icmp_ge (tgt := 248) hx hb dX10_next_228 (by decide) (fun c374 => ?_) (fun c374 => ?_)
                    · have dc374 : 7 ≤ u42.toInt := le_i (a := 7) (b := u42.toInt) rfl rfl c374
                      have k375 : 7 ≤ u42.toInt ∧ u42.toInt ≤ 940 := ⟨Int.le_trans (Int.le_refl _) dc374, i89.2⟩
                      exact cut305 G40 u44 SAME.rf i87 _ _ _ hP hD hS (lv_sub hl [0, 1, 2, 3] rfl)
                    · have dc374 : u42.toInt < 7 := nle_i (a := 7) (b := u42.toInt) rfl rfl c374
                      have k376 : 0 ≤ u42.toInt ∧ u42.toInt ≤ 6 := ⟨i89.1, up_lt dc374 (Int.le_refl _) (by decide)⟩
                      refine lv_aload_n hx hb dX10_next_231 rfl (lv_at hl 3 rfl) ?_
                      refine lv_aload_n hx hb dX10_next_232 rfl (lv_at hl 3 rfl) ?_
                      refine get_f (D := D) (ci := 10) (v := .long u44) (C := RX10) (T := TX10) (N := 67) hx hb hw inAX10 hown hK hP 0 rfl rfl 18 (by decide) (hw _ q_1279) (fun _ h9 => h9) i87 dX10_next_233 ?_
                      refine lv_bipush (v := 8) hx hb dX10_next_236 (by decide) ?_
                      obtain ⟨v377, ev377⟩ : ∃ z : Int64, (u44 : Int64) <<< ((8 : Int32).toInt64 &&& 63) = z := ⟨_, rfl⟩
                      refine lv_lshl (v := v377) hx hb dX10_next_238 ev377 ?_
                      refine lv_aload_n hx hb dX10_next_239 rfl (lv_at hl 3 rfl) ?_
                      refine call_Vi (wr := []) (As := []) (rest := [.long v377, .ref h0]) hx hb hml hown hw (m_X10_peek l D cI cJ cB cP cM cZ h0 h_tape G40 x_size u41 f_tape _ n95 n98 (ir_wk k31 (by decide) (by decide)) i84 (ir_wk k264 (by decide) (by decide))) wV_X10_169_X10_peek dX10_next_240 hK hP hD hS hA [0, 1] [] rfl rfl (by decide) (by decide) (by decide) 0 10 rfl rfl GG.fb hG.at hl.1 rfl (Nat.le_of_ble_eq_true rfl) ⟨(Nat.le_of_ble_eq_true rfl), (Nat.le_of_ble_eq_true rfl)⟩ ⟨(Nat.le_of_ble_eq_true rfl), (Nat.le_of_ble_eq_true rfl)⟩ (fun r378 u H locs hp hP hD hS => ?_)
                      rcases hp with ⟨t379, rfl, rfl⟩ | ⟨t380, t381, rfl, rfl⟩
                      · have hP : va_P D vwCl [(h0, .inr (10, vL 67 G40)), (h_tape, .inl (cB, 940, .inl f_tape))] H := hP
                        have hD : va_D A [(h0, .inr (10, vL 67 G40)), (h_tape, .inl (cB, 940, .inl f_tape))] := hD
                        refine W.widen (k := 0) (n := 0) (Nat.le_of_ble_eq_true rfl) (Nat.le_of_ble_eq_true rfl) ?_
                        have k383 : 1 ≤ x_size.toInt ∧ x_size.toInt ≤ 939 := ⟨k31.1, Int.le_trans t379 k264.2⟩
                        have k384 : 1 ≤ u41.toInt ∧ u41.toInt ≤ 939 := ⟨Int.le_trans k31.1 t379, k264.2⟩
                        obtain ⟨v385, ev385⟩ : ∃ z : Int64, ((-1) : Int32).toInt64 = z := ⟨_, rfl⟩
                        refine lv_i2l (v := v385) hx hb dX10_next_243 ev385 ?_
                        refine lv_lor hx hb dX10_next_244 ?_
                        refine lv_topl (fun v386 ev386 => ?_)
                        refine put_f (D := D) (ci := 10) (v := .long v386) (ty := .long) (C := RX10) (T := TX10) (N := 67) hx hb hw inAX10 tyX10 tyX10_ok nmX10 hown hK hP hD hS 0 rfl rfl 18 (by decide) (hw _ q_1279) (fun _ h9 => h9) rfl (by decide +kernel) rfl rfl dX10_next_245 (fun H locs F387 eF387 hP hD hS => ?_)
                        have hP : va_P D vwCl [(h0, .inr (10, vL 67 F387)), (h_tape, .inl (cB, 940, .inl f_tape))] H := hP
                        have hD : va_D A [(h0, .inr (10, vL 67 F387)), (h_tape, .inl (cB, 940, .inl f_tape))] := hD
                        exact cut305 F387 v386 (SAME.up eF387 SAME.rf (by decide)) (get_eq eF387) _ _ _ hP hD hS (lv_sub hl [0, 1, 2, 3] rfl)
                      · have hP : va_P D vwCl [(h0, .inr (10, vL 67 G40)), (h_tape, .inl (cB, 940, .inl f_tape))] H := hP
                        have hD : va_D A [(h0, .inr (10, vL 67 G40)), (h_tape, .inl (cB, 940, .inl f_tape))] := hD
                        refine W.widen (k := 0) (n := 0) (Nat.le_of_ble_eq_true rfl) (Nat.le_of_ble_eq_true rfl) ?_
                        refine lv_ci (y := v262) ev262.symm ?_
                        obtain ⟨v388, ev388⟩ : ∃ z : Int64, (v262 : Int32).toInt64 = z := ⟨_, rfl⟩
                        refine lv_i2l (v := v388) hx hb dX10_next_243 ev388 ?_
                        refine lv_lor hx hb dX10_next_244 ?_
                        refine lv_topl (fun v389 ev389 => ?_)
                        refine put_f (D := D) (ci := 10) (v := .long v389) (ty := .long) (C := RX10) (T := TX10) (N := 67) hx hb hw inAX10 tyX10 tyX10_ok nmX10 hown hK hP hD hS 0 rfl rfl 18 (by decide) (hw _ q_1279) (fun _ h9 => h9) rfl (by decide +kernel) rfl rfl dX10_next_245 (fun H locs F390 eF390 hP hD hS => ?_)
                        have hP : va_P D vwCl [(h0, .inr (10, vL 67 F390)), (h_tape, .inl (cB, 940, .inl f_tape))] H := hP
                        have hD : va_D A [(h0, .inr (10, vL 67 F390)), (h_tape, .inl (cB, 940, .inl f_tape))] := hD
                        exact cut305 F390 v389 (SAME.up eF390 SAME.rf (by decide)) (get_eq eF390) _ _ _ hP hD hS (lv_sub hl [0, 1, 2, 3] rfl)
                  refine lv_iload_n hx hb dX10_next_201 rfl (lv_at hl 0 rfl) ?_
                  refine lv_if_eq (tgt := 220) hx hb dX10_next_202 (by decide) (fun c391 => ?_) (fun c391 => ?_)
                  · have dc391 : u39.toInt = 0 := eq_i (a := u39.toInt) (b := 0) rfl rfl c391
                    have k392 : 0 ≤ u39.toInt ∧ u39.toInt ≤ 0 := ⟨i82.1, Int.le_trans (Int.le_of_eq dc391) (Int.le_refl _)⟩
                    refine lv_iconst (v := 0) hx hb dX10_next_220 (by decide) ?_
                    refine lv_istore_n (lv' := [(3, .int 0), (2, .int u33), (1, .int v28), (0, .ref h0)]) hx hb dX10_next_221 rfl hl (by decide) rfl (fun ls hl => ?_)
                    exact cut300 0 (show 0 ≤ (0 : Int32).toInt ∧ (0 : Int32).toInt ≤ 1 by decide) (by show (0 = 1 → u33.toInt = 0 → (48 ≤ v262.toInt ∧ v262.toInt ≤ 57 ∧ 0 ≤ u43.toInt ∧ u43.toInt ≤ 999 ∧ (u42.toInt = 0 → u43.toInt = 0) ∧ (u42.toInt = 1 → u43.toInt ≤ 9) ∧ (u42.toInt = 2 → u43.toInt ≤ 99))); omega) _ _ _ hP hD hS (lv_sub hl [0, 1, 2, 3] rfl)
                  · have dc391 : u39.toInt ≠ 0 := ne_i (a := u39.toInt) (b := 0) rfl rfl c391
                    have k393 : 1 ≤ u39.toInt ∧ u39.toInt ≤ 1 := ⟨ne_lo dc391 i82.1 ⟨Int.le_refl _, Int.le_refl _⟩ (by decide), i82.2⟩
                    refine lv_aload_n hx hb dX10_next_205 rfl (lv_at hl 3 rfl) ?_
                    refine call_Vi (wr := []) (As := []) (rest := []) hx hb hml hown hw (m_X10_peek l D cI cJ cB cP cM cZ h0 h_tape G40 x_size u41 f_tape _ n95 n98 (ir_wk k31 (by decide) (by decide)) i84 (ir_wk k264 (by decide) (by decide))) wV_X10_169_X10_peek dX10_next_206 hK hP hD hS hA [0, 1] [] rfl rfl (by decide) (by decide) (by decide) 0 10 rfl rfl GG.fb hG.at hl.1 rfl (Nat.le_of_ble_eq_true rfl) ⟨(Nat.le_of_ble_eq_true rfl), (Nat.le_of_ble_eq_true rfl)⟩ ⟨(Nat.le_of_ble_eq_true rfl), (Nat.le_of_ble_eq_true rfl)⟩ (fun r394 u H locs hp hP hD hS => ?_)
                    rcases hp with ⟨t395, rfl, rfl⟩ | ⟨t396, t397, rfl, rfl⟩
                    · have hP : va_P D vwCl [(h0, .inr (10, vL 67 G40)), (h_tape, .inl (cB, 940, .inl f_tape))] H := hP
                      have hD : va_D A [(h0, .inr (10, vL 67 G40)), (h_tape, .inl (cB, 940, .inl f_tape))] := hD
                      refine W.widen (k := 0) (n := 0) (Nat.le_of_ble_eq_true rfl) (Nat.le_of_ble_eq_true rfl) ?_
                      have k399 : 1 ≤ x_size.toInt ∧ x_size.toInt ≤ 939 := ⟨k31.1, Int.le_trans t395 k264.2⟩
                      have k400 : 1 ≤ u41.toInt ∧ u41.toInt ≤ 939 := ⟨Int.le_trans k31.1 t395, k264.2⟩
                      refine call_Si (wr := [(h0, .inr (10, vL 67 G40)), (h_tape, .inl (cB, 940, .inl f_tape))]) (As := [.int (-1)]) (rest := []) hx hb hml hown hw (m_X10_isSmall l D cI cJ cB cP cM cZ (-1) _ ) wS_X10_182_X10_isSmall dX10_next_209 hP hD hS hA [] [0, 1] rfl rfl (by decide) (by decide) (by decide) GG.fb hG.at hl.1 rfl (Nat.le_of_ble_eq_true rfl) ⟨(Nat.le_of_ble_eq_true rfl), (Nat.le_of_ble_eq_true rfl)⟩ ⟨(Nat.le_of_ble_eq_true rfl), (Nat.le_of_ble_eq_true rfl)⟩ (fun r401 u H locs hp hP hD hS => ?_)
                      have zlm1 : ((-1) : Int32).toInt = (-1) := by decide
                      rcases hp with ⟨t402, rfl, rfl⟩ | ⟨t403, t404, rfl, rfl⟩ | ⟨t405, t406, rfl, rfl⟩
                      · have hP : va_P D vwCl [(h0, .inr (10, vL 67 G40)), (h_tape, .inl (cB, 940, .inl f_tape))] H := hP
                        have hD : va_D A [(h0, .inr (10, vL 67 G40)), (h_tape, .inl (cB, 940, .inl f_tape))] := hD
                        refine W.widen (k := 0) (n := 0) (Nat.le_of_ble_eq_true rfl) (Nat.le_of_ble_eq_true rfl) ?_
                        refine lv_iload_n hx hb dX10_next_212 rfl (lv_at hl 1 rfl) ?_
                        refine lv_icmp_ne (tgt := 220) hx hb dX10_next_213 (by decide) (fun c408 => ?_) (fun c408 => ?_)
                        · have dc408 : 0 ≠ u33.toInt := ne_i (a := 0) (b := u33.toInt) rfl rfl c408
                          have k409 : 1 ≤ u33.toInt ∧ u33.toInt ≤ 1 := ⟨ne_lo dc408.symm i35.1 ⟨Int.le_refl _, Int.le_refl _⟩ (by decide), i35.2⟩
                          refine lv_iconst (v := 0) hx hb dX10_next_220 (by decide) ?_
                          refine lv_istore_n (lv' := [(3, .int 0), (2, .int u33), (1, .int v28), (0, .ref h0)]) hx hb dX10_next_221 rfl hl (by decide) rfl (fun ls hl => ?_)
                          exact cut300 0 (show 0 ≤ (0 : Int32).toInt ∧ (0 : Int32).toInt ≤ 1 by decide) (by show (0 = 1 → u33.toInt = 0 → (48 ≤ v262.toInt ∧ v262.toInt ≤ 57 ∧ 0 ≤ u43.toInt ∧ u43.toInt ≤ 999 ∧ (u42.toInt = 0 → u43.toInt = 0) ∧ (u42.toInt = 1 → u43.toInt ≤ 9) ∧ (u42.toInt = 2 → u43.toInt ≤ 99))); omega) _ _ _ hP hD hS (lv_sub hl [0, 1, 2, 3] rfl)
                        · have dc408 : 0 = u33.toInt := eq_i (a := 0) (b := u33.toInt) rfl rfl c408
                          have k410 : 0 ≤ u33.toInt ∧ u33.toInt ≤ 0 := ⟨i35.1, Int.le_trans (Int.le_of_eq dc408.symm) (Int.le_refl _)⟩
                          refine lv_iconst (v := 1) hx hb dX10_next_216 (by decide) ?_
                          refine lv_goto (tgt := 221) hx hb dX10_next_217 (by decide) ?_
                          refine lv_istore_n (lv' := [(3, .int 1), (2, .int u33), (1, .int v28), (0, .ref h0)]) hx hb dX10_next_221 rfl hl (by decide) rfl (fun ls hl => ?_)
                          exact cut300 1 (show 0 ≤ (1 : Int32).toInt ∧ (1 : Int32).toInt ≤ 1 by decide) (by show (1 = 1 → u33.toInt = 0 → (48 ≤ v262.toInt ∧ v262.toInt ≤ 57 ∧ 0 ≤ u43.toInt ∧ u43.toInt ≤ 999 ∧ (u42.toInt = 0 → u43.toInt = 0) ∧ (u42.toInt = 1 → u43.toInt ≤ 9) ∧ (u42.toInt = 2 → u43.toInt ≤ 99))); omega) _ _ _ hP hD hS (lv_sub hl [0, 1, 2, 3] rfl)
                      · have hP : va_P D vwCl [(h0, .inr (10, vL 67 G40)), (h_tape, .inl (cB, 940, .inl f_tape))] H := hP
                        have hD : va_D A [(h0, .inr (10, vL 67 G40)), (h_tape, .inl (cB, 940, .inl f_tape))] := hD
                        refine W.widen (k := 0) (n := 0) (Nat.le_of_ble_eq_true rfl) (Nat.le_of_ble_eq_true rfl) ?_
                        exact absurd t403 (by decide)
                      · have hP : va_P D vwCl [(h0, .inr (10, vL 67 G40)), (h_tape, .inl (cB, 940, .inl f_tape))] H := hP
                        have hD : va_D A [(h0, .inr (10, vL 67 G40)), (h_tape, .inl (cB, 940, .inl f_tape))] := hD
                        refine W.widen (k := 0) (n := 0) (Nat.le_of_ble_eq_true rfl) (Nat.le_of_ble_eq_true rfl) ?_
                        exact absurd t405 (by decide)
                    · have hP : va_P D vwCl [(h0, .inr (10, vL 67 G40)), (h_tape, .inl (cB, 940, .inl f_tape))] H := hP
                      have hD : va_D A [(h0, .inr (10, vL 67 G40)), (h_tape, .inl (cB, 940, .inl f_tape))] := hD
                      refine W.widen (k := 0) (n := 0) (Nat.le_of_ble_eq_true rfl) (Nat.le_of_ble_eq_true rfl) ?_
                      refine lv_ci (y := v262) ev262.symm ?_
                      refine call_Si (wr := [(h0, .inr (10, vL 67 G40)), (h_tape, .inl (cB, 940, .inl f_tape))]) (As := [.int v262]) (rest := []) hx hb hml hown hw (m_X10_isSmall l D cI cJ cB cP cM cZ v262 _ ) wS_X10_182_X10_isSmall dX10_next_209 hP hD hS hA [] [0, 1] rfl rfl (by decide) (by decide) (by decide) GG.fb hG.at hl.1 rfl (Nat.le_of_ble_eq_true rfl) ⟨(Nat.le_of_ble_eq_true rfl), (Nat.le_of_ble_eq_true rfl)⟩ ⟨(Nat.le_of_ble_eq_true rfl), (Nat.le_of_ble_eq_true rfl)⟩ (fun r411 u H locs hp hP hD hS => ?_)
                      rcases hp with ⟨t412, rfl, rfl⟩ | ⟨t413, t414, rfl, rfl⟩ | ⟨t415, t416, rfl, rfl⟩
                      · have hP : va_P D vwCl [(h0, .inr (10, vL 67 G40)), (h_tape, .inl (cB, 940, .inl f_tape))] H := hP
                        have hD : va_D A [(h0, .inr (10, vL 67 G40)), (h_tape, .inl (cB, 940, .inl f_tape))] := hD
                        refine W.widen (k := 0) (n := 0) (Nat.le_of_ble_eq_true rfl) (Nat.le_of_ble_eq_true rfl) ?_
                        refine lv_iload_n hx hb dX10_next_212 rfl (lv_at hl 1 rfl) ?_
                        refine lv_icmp_ne (tgt := 220) hx hb dX10_next_213 (by decide) (fun c418 => ?_) (fun c418 => ?_)
                        · have dc418 : 0 ≠ u33.toInt := ne_i (a := 0) (b := u33.toInt) rfl rfl c418
                          have k419 : 1 ≤ u33.toInt ∧ u33.toInt ≤ 1 := ⟨ne_lo dc418.symm i35.1 ⟨Int.le_refl _, Int.le_refl _⟩ (by decide), i35.2⟩
                          refine lv_iconst (v := 0) hx hb dX10_next_220 (by decide) ?_
                          refine lv_istore_n (lv' := [(3, .int 0), (2, .int u33), (1, .int v28), (0, .ref h0)]) hx hb dX10_next_221 rfl hl (by decide) rfl (fun ls hl => ?_)
                          exact cut300 0 (show 0 ≤ (0 : Int32).toInt ∧ (0 : Int32).toInt ≤ 1 by decide) (by show (0 = 1 → u33.toInt = 0 → (48 ≤ v262.toInt ∧ v262.toInt ≤ 57 ∧ 0 ≤ u43.toInt ∧ u43.toInt ≤ 999 ∧ (u42.toInt = 0 → u43.toInt = 0) ∧ (u42.toInt = 1 → u43.toInt ≤ 9) ∧ (u42.toInt = 2 → u43.toInt ≤ 99))); omega) _ _ _ hP hD hS (lv_sub hl [0, 1, 2, 3] rfl)
                        · have dc418 : 0 = u33.toInt := eq_i (a := 0) (b := u33.toInt) rfl rfl c418
                          have k420 : 0 ≤ u33.toInt ∧ u33.toInt ≤ 0 := ⟨i35.1, Int.le_trans (Int.le_of_eq dc418.symm) (Int.le_refl _)⟩
                          refine lv_iconst (v := 1) hx hb dX10_next_216 (by decide) ?_
                          refine lv_goto (tgt := 221) hx hb dX10_next_217 (by decide) ?_
                          refine lv_istore_n (lv' := [(3, .int 1), (2, .int u33), (1, .int v28), (0, .ref h0)]) hx hb dX10_next_221 rfl hl (by decide) rfl (fun ls hl => ?_)
                          exact cut300 1 (show 0 ≤ (1 : Int32).toInt ∧ (1 : Int32).toInt ≤ 1 by decide) (by show (1 = 1 → u33.toInt = 0 → (48 ≤ v262.toInt ∧ v262.toInt ≤ 57 ∧ 0 ≤ u43.toInt ∧ u43.toInt ≤ 999 ∧ (u42.toInt = 0 → u43.toInt = 0) ∧ (u42.toInt = 1 → u43.toInt ≤ 9) ∧ (u42.toInt = 2 → u43.toInt ≤ 99))); omega) _ _ _ hP hD hS (lv_sub hl [0, 1, 2, 3] rfl)
                      · have hP : va_P D vwCl [(h0, .inr (10, vL 67 G40)), (h_tape, .inl (cB, 940, .inl f_tape))] H := hP
                        have hD : va_D A [(h0, .inr (10, vL 67 G40)), (h_tape, .inl (cB, 940, .inl f_tape))] := hD
                        refine W.widen (k := 0) (n := 0) (Nat.le_of_ble_eq_true rfl) (Nat.le_of_ble_eq_true rfl) ?_
                        exact False.elim (bad_le t413 (Int.le_refl _) k298.2 (by decide))
                      · have hP : va_P D vwCl [(h0, .inr (10, vL 67 G40)), (h_tape, .inl (cB, 940, .inl f_tape))] H := hP
                        have hD : va_D A [(h0, .inr (10, vL 67 G40)), (h_tape, .inl (cB, 940, .inl f_tape))] := hD
                        refine W.widen (k := 0) (n := 0) (Nat.le_of_ble_eq_true rfl) (Nat.le_of_ble_eq_true rfl) ?_
                        exact False.elim (bad_le t415 (Int.le_refl _) k298.2 (by decide))
            · have hP : va_P D vwCl [(h0, .inr (10, vL 67 G40)), (h_tape, .inl (cB, 940, .inl f_tape))] H := hP
              have hD : va_D A [(h0, .inr (10, vL 67 G40)), (h_tape, .inl (cB, 940, .inl f_tape))] := hD
              refine W.widen (k := 0) (n := 0) (Nat.le_of_ble_eq_true rfl) (Nat.le_of_ble_eq_true rfl) ?_
              have k421 : 97 ≤ v262.toInt ∧ v262.toInt ≤ 255 := ⟨Int.le_trans (Int.le_refl _) t267, k263.2⟩
              have k422 : 123 ≤ v262.toInt ∧ v262.toInt ≤ 255 := ⟨lo_lt t268 (Int.le_refl _) (by decide), k421.2⟩
              refine lv_if_ne (tgt := 201) hx hb dX10_next_188 (by decide) (fun g => absurd (by decide) g) (fun _ => ?_)
              refine lv_aload_n hx hb dX10_next_191 rfl (lv_at hl 3 rfl) ?_
              refine call_Vi (wr := []) (As := []) (rest := []) hx hb hml hown hw (m_X10_peek l D cI cJ cB cP cM cZ h0 h_tape G40 x_size u41 f_tape _ n95 n98 (ir_wk k31 (by decide) (by decide)) i84 (ir_wk k264 (by decide) (by decide))) wV_X10_169_X10_peek dX10_next_192 hK hP hD hS hA [0, 1] [] rfl rfl (by decide) (by decide) (by decide) 0 10 rfl rfl GG.fb hG.at hl.1 rfl (Nat.le_of_ble_eq_true rfl) ⟨(Nat.le_of_ble_eq_true rfl), (Nat.le_of_ble_eq_true rfl)⟩ ⟨(Nat.le_of_ble_eq_true rfl), (Nat.le_of_ble_eq_true rfl)⟩ (fun r423 u H locs hp hP hD hS => ?_)
              rcases hp with ⟨t424, rfl, rfl⟩ | ⟨t425, t426, rfl, rfl⟩
              · have hP : va_P D vwCl [(h0, .inr (10, vL 67 G40)), (h_tape, .inl (cB, 940, .inl f_tape))] H := hP
                have hD : va_D A [(h0, .inr (10, vL 67 G40)), (h_tape, .inl (cB, 940, .inl f_tape))] := hD
                refine W.widen (k := 0) (n := 0) (Nat.le_of_ble_eq_true rfl) (Nat.le_of_ble_eq_true rfl) ?_
                have k428 : 1 ≤ x_size.toInt ∧ x_size.toInt ≤ 939 := ⟨k31.1, Int.le_trans t424 k264.2⟩
                have k429 : 1 ≤ u41.toInt ∧ u41.toInt ≤ 939 := ⟨Int.le_trans k31.1 t424, k264.2⟩
                refine call_Si (wr := [(h0, .inr (10, vL 67 G40)), (h_tape, .inl (cB, 940, .inl f_tape))]) (As := [.int (-1)]) (rest := []) hx hb hml hown hw (m_X10_isDigit l D cI cJ cB cP cM cZ (-1) _ ) wS_X10_186_X10_isDigit dX10_next_195 hP hD hS hA [] [0, 1] rfl rfl (by decide) (by decide) (by decide) GG.fb hG.at hl.1 rfl (Nat.le_of_ble_eq_true rfl) ⟨(Nat.le_of_ble_eq_true rfl), (Nat.le_of_ble_eq_true rfl)⟩ ⟨(Nat.le_of_ble_eq_true rfl), (Nat.le_of_ble_eq_true rfl)⟩ (fun r430 u H locs hp hP hD hS => ?_)
                have zlm1 : ((-1) : Int32).toInt = (-1) := by decide
                rcases hp with ⟨t431, rfl, rfl⟩ | ⟨t432, t433, rfl, rfl⟩ | ⟨t434, t435, rfl, rfl⟩
                · have hP : va_P D vwCl [(h0, .inr (10, vL 67 G40)), (h_tape, .inl (cB, 940, .inl f_tape))] H := hP
                  have hD : va_D A [(h0, .inr (10, vL 67 G40)), (h_tape, .inl (cB, 940, .inl f_tape))] := hD
                  refine W.widen (k := 0) (n := 0) (Nat.le_of_ble_eq_true rfl) (Nat.le_of_ble_eq_true rfl) ?_
                  refine lv_if_eq (tgt := 298) hx hb dX10_next_198 (by decide) (fun _ => ?_) (fun g => absurd (by decide) g)
                  have hgv28 : v28.toInt = (((f_tape u2.toNatClampNeg) &&& 255)).toInt := by rw [ev28]
                  have hgv262 : v262.toInt = (((f_tape u41.toNatClampNeg) &&& 255)).toInt := by rw [ev262]
                  have hfst : u41.toInt = u2.toInt → (f_tape u41.toNatClampNeg &&& 255).toInt = (f_tape u2.toNatClampNeg &&& 255).toInt := fun h9 => by rw [Int32.toInt_inj.mp h9]
                  exact cut45 u39 G40 u41 u42 u43 u44 i82 (SAME.tr SAME.rf i83 (by decide)) i84 i85 i86 i87 (ir_wk k429 (by decide) (by decide)) i89 (by show 0 ≤ u42.toInt ∧ u42.toInt ≤ u41.toInt ∧ x_p.toInt + u42.toInt ≤ u41.toInt ∧ (u42.toInt = 0 → u41.toInt = u2.toInt); omega) (by show u39.toInt = 1 → u33.toInt = 0 → (0 ≤ u43.toInt ∧ u43.toInt ≤ 999 ∧ (u42.toInt = 0 → u43.toInt = 0) ∧ (u42.toInt = 1 → u43.toInt ≤ 9) ∧ (u42.toInt = 2 → u43.toInt ≤ 99)); omega) (by show (x_token.toInt = 2 → 0 ≤ u43.toInt ∧ u43.toInt ≤ 999); omega) (by show 1 ≤ u42.toInt; omega) _ _ _ hP hD hS (lv_sub hl [0, 1, 2, 3] rfl)
                · have hP : va_P D vwCl [(h0, .inr (10, vL 67 G40)), (h_tape, .inl (cB, 940, .inl f_tape))] H := hP
                  have hD : va_D A [(h0, .inr (10, vL 67 G40)), (h_tape, .inl (cB, 940, .inl f_tape))] := hD
                  refine W.widen (k := 0) (n := 0) (Nat.le_of_ble_eq_true rfl) (Nat.le_of_ble_eq_true rfl) ?_
                  exact absurd t432 (by decide)
                · have hP : va_P D vwCl [(h0, .inr (10, vL 67 G40)), (h_tape, .inl (cB, 940, .inl f_tape))] H := hP
                  have hD : va_D A [(h0, .inr (10, vL 67 G40)), (h_tape, .inl (cB, 940, .inl f_tape))] := hD
                  refine W.widen (k := 0) (n := 0) (Nat.le_of_ble_eq_true rfl) (Nat.le_of_ble_eq_true rfl) ?_
                  exact absurd t434 (by decide)
              · have hP : va_P D vwCl [(h0, .inr (10, vL 67 G40)), (h_tape, .inl (cB, 940, .inl f_tape))] H := hP
                have hD : va_D A [(h0, .inr (10, vL 67 G40)), (h_tape, .inl (cB, 940, .inl f_tape))] := hD
                refine W.widen (k := 0) (n := 0) (Nat.le_of_ble_eq_true rfl) (Nat.le_of_ble_eq_true rfl) ?_
                refine lv_ci (y := v262) ev262.symm ?_
                refine call_Si (wr := [(h0, .inr (10, vL 67 G40)), (h_tape, .inl (cB, 940, .inl f_tape))]) (As := [.int v262]) (rest := []) hx hb hml hown hw (m_X10_isDigit l D cI cJ cB cP cM cZ v262 _ ) wS_X10_186_X10_isDigit dX10_next_195 hP hD hS hA [] [0, 1] rfl rfl (by decide) (by decide) (by decide) GG.fb hG.at hl.1 rfl (Nat.le_of_ble_eq_true rfl) ⟨(Nat.le_of_ble_eq_true rfl), (Nat.le_of_ble_eq_true rfl)⟩ ⟨(Nat.le_of_ble_eq_true rfl), (Nat.le_of_ble_eq_true rfl)⟩ (fun r437 u H locs hp hP hD hS => ?_)
                rcases hp with ⟨t438, rfl, rfl⟩ | ⟨t439, t440, rfl, rfl⟩ | ⟨t441, t442, rfl, rfl⟩
                · have hP : va_P D vwCl [(h0, .inr (10, vL 67 G40)), (h_tape, .inl (cB, 940, .inl f_tape))] H := hP
                  have hD : va_D A [(h0, .inr (10, vL 67 G40)), (h_tape, .inl (cB, 940, .inl f_tape))] := hD
                  refine W.widen (k := 0) (n := 0) (Nat.le_of_ble_eq_true rfl) (Nat.le_of_ble_eq_true rfl) ?_
                  exact False.elim (bad_lt t438 k422.1 (Int.le_refl _) (by decide))
                · have hP : va_P D vwCl [(h0, .inr (10, vL 67 G40)), (h_tape, .inl (cB, 940, .inl f_tape))] H := hP
                  have hD : va_D A [(h0, .inr (10, vL 67 G40)), (h_tape, .inl (cB, 940, .inl f_tape))] := hD
                  refine W.widen (k := 0) (n := 0) (Nat.le_of_ble_eq_true rfl) (Nat.le_of_ble_eq_true rfl) ?_
                  refine lv_if_eq (tgt := 298) hx hb dX10_next_198 (by decide) (fun _ => ?_) (fun g => absurd (by decide) g)
                  have hgv28 : v28.toInt = (((f_tape u2.toNatClampNeg) &&& 255)).toInt := by rw [ev28]
                  have hgv262 : v262.toInt = (((f_tape u41.toNatClampNeg) &&& 255)).toInt := by rw [ev262]
                  have hfst : u41.toInt = u2.toInt → (f_tape u41.toNatClampNeg &&& 255).toInt = (f_tape u2.toNatClampNeg &&& 255).toInt := fun h9 => by rw [Int32.toInt_inj.mp h9]
                  exact cut45 u39 G40 u41 u42 u43 u44 i82 (SAME.tr SAME.rf i83 (by decide)) i84 i85 i86 i87 (ir_wk k264 (by decide) (by decide)) i89 (by show 0 ≤ u42.toInt ∧ u42.toInt ≤ u41.toInt ∧ x_p.toInt + u42.toInt ≤ u41.toInt ∧ (u42.toInt = 0 → u41.toInt = u2.toInt); omega) (by show u39.toInt = 1 → u33.toInt = 0 → (0 ≤ u43.toInt ∧ u43.toInt ≤ 999 ∧ (u42.toInt = 0 → u43.toInt = 0) ∧ (u42.toInt = 1 → u43.toInt ≤ 9) ∧ (u42.toInt = 2 → u43.toInt ≤ 99)); omega) (by show (x_token.toInt = 2 → 0 ≤ u43.toInt ∧ u43.toInt ≤ 999); omega) (by show 1 ≤ u42.toInt; omega) _ _ _ hP hD hS (lv_sub hl [0, 1, 2, 3] rfl)
                · have hP : va_P D vwCl [(h0, .inr (10, vL 67 G40)), (h_tape, .inl (cB, 940, .inl f_tape))] H := hP
                  have hD : va_D A [(h0, .inr (10, vL 67 G40)), (h_tape, .inl (cB, 940, .inl f_tape))] := hD
                  refine W.widen (k := 0) (n := 0) (Nat.le_of_ble_eq_true rfl) (Nat.le_of_ble_eq_true rfl) ?_
                  exact False.elim (bad_le t442 k422.1 (Int.le_refl _) (by decide))
            · have hP : va_P D vwCl [(h0, .inr (10, vL 67 G40)), (h_tape, .inl (cB, 940, .inl f_tape))] H := hP
              have hD : va_D A [(h0, .inr (10, vL 67 G40)), (h_tape, .inl (cB, 940, .inl f_tape))] := hD
              refine W.widen (k := 0) (n := 0) (Nat.le_of_ble_eq_true rfl) (Nat.le_of_ble_eq_true rfl) ?_
              have k444 : 97 ≤ v262.toInt ∧ v262.toInt ≤ 255 := ⟨Int.le_trans (Int.le_refl _) t269, k263.2⟩
              have k445 : 97 ≤ v262.toInt ∧ v262.toInt ≤ 122 := ⟨k444.1, Int.le_trans t270 (Int.le_refl _)⟩
              refine lv_if_ne (tgt := 201) hx hb dX10_next_188 (by decide) (fun _ => ?_) (fun g => absurd g (by decide))
              have cut447 : ∀ (u446 : Int32) (_ : IR 0 1 u446) (_ : ((u446.toInt = 1 → u33.toInt = 0 → (48 ≤ v262.toInt ∧ v262.toInt ≤ 57 ∧ 0 ≤ u43.toInt ∧ u43.toInt ≤ 999 ∧ (u42.toInt = 0 → u43.toInt = 0) ∧ (u42.toInt = 1 → u43.toInt ≤ 9) ∧ (u42.toInt = 2 → u43.toInt ≤ 99))))) (H : Heap) (locs : List Loc) (ls : Array Slot), va_P D vwCl [(h0, .inr (10, vL 67 G40)), (h_tape, .inl (cB, 940, .inl f_tape))] H → va_D A [(h0, .inr (10, vL 67 G40)), (h_tape, .inl (cB, 940, .inl f_tape))] → va_S A s.heap H locs → lv_has ls 4 [(3, .int u446), (2, .int u33), (1, .int v28), (0, .ref h0)] → W p l e ({ frames := 1, cells := 0, slots := 0, locals := 20 } : Room) s m [.ref h0].toArray below meth c H locs 0 0 (MQ below (va_Qv (fun (u : va_W) => ∃ (Gh : Nat → Value) (y_p : Int32) (y_token : Int32) (y_at : Int32) (y_span : Int32) (y_number : Int32) (y_word : Int64), SAME [4, 11, 12, 13, 14, 18] Fh Gh ∧ Gh 4 = .int y_p ∧ IR 0 940 y_p ∧ Gh 11 = .int y_token ∧ IR 0 4 y_token ∧ Gh 12 = .int y_at ∧ IR 0 940 y_at ∧ Gh 13 = .int y_span ∧ IR 0 940 y_span ∧ Gh 14 = .int y_number ∧ Gh 18 = .long y_word ∧ (x_p.toInt ≤ y_p.toInt) ∧ ((1 ≤ y_token.toInt → y_token.toInt ≤ 3 → x_p.toInt < y_p.toInt)) ∧ ((y_token.toInt = 2 → 0 ≤ y_number.toInt ∧ y_number.toInt ≤ 999)) ∧ u = [(h0, .inr (10, vL 67 Gh)), (h_tape, .inl (cB, 940, .inl f_tape))]) (PO D A) A) [.ref h0].toArray s 0 0 A) (F0 m 222 ls []) := by
                intro u446 i448 i449 H locs ls hP hD hS hl
                have i448 : 0 ≤ u446.toInt ∧ u446.toInt ≤ 1 := i448
                have i449 : (u446.toInt = 1 → u33.toInt = 0 → (48 ≤ v262.toInt ∧ v262.toInt ≤ 57 ∧ 0 ≤ u43.toInt ∧ u43.toInt ≤ 999 ∧ (u42.toInt = 0 → u43.toInt = 0) ∧ (u42.toInt = 1 → u43.toInt ≤ 9) ∧ (u42.toInt = 2 → u43.toInt ≤ 99))) := i449
                have cut452 : ∀ (G450 : Nat → Value) (u451 : Int64) (_ : SAME [18] G40 G450) (_ : G450 18 = .long u451) (H : Heap) (locs : List Loc) (ls : Array Slot), va_P D vwCl [(h0, .inr (10, vL 67 G450)), (h_tape, .inl (cB, 940, .inl f_tape))] H → va_D A [(h0, .inr (10, vL 67 G450)), (h_tape, .inl (cB, 940, .inl f_tape))] → va_S A s.heap H locs → lv_has ls 4 [(3, .int u446), (2, .int u33), (1, .int v28), (0, .ref h0)] → W p l e ({ frames := 1, cells := 0, slots := 0, locals := 20 } : Room) s m [.ref h0].toArray below meth c H locs 0 0 (MQ below (va_Qv (fun (u : va_W) => ∃ (Gh : Nat → Value) (y_p : Int32) (y_token : Int32) (y_at : Int32) (y_span : Int32) (y_number : Int32) (y_word : Int64), SAME [4, 11, 12, 13, 14, 18] Fh Gh ∧ Gh 4 = .int y_p ∧ IR 0 940 y_p ∧ Gh 11 = .int y_token ∧ IR 0 4 y_token ∧ Gh 12 = .int y_at ∧ IR 0 940 y_at ∧ Gh 13 = .int y_span ∧ IR 0 940 y_span ∧ Gh 14 = .int y_number ∧ Gh 18 = .long y_word ∧ (x_p.toInt ≤ y_p.toInt) ∧ ((1 ≤ y_token.toInt → y_token.toInt ≤ 3 → x_p.toInt < y_p.toInt)) ∧ ((y_token.toInt = 2 → 0 ≤ y_number.toInt ∧ y_number.toInt ≤ 999)) ∧ u = [(h0, .inr (10, vL 67 Gh)), (h_tape, .inl (cB, 940, .inl f_tape))]) (PO D A) A) [.ref h0].toArray s 0 0 A) (F0 m 248 ls []) := by
                  intro G450 u451 i453 i454 H locs ls hP hD hS hl
                  refine lv_aload_n hx hb dX10_next_248 rfl (lv_at hl 3 rfl) ?_
                  have n455 : G450 13 = .int u42 := (SAME.at i453 (by decide) i85)
                  refine get_f (D := D) (ci := 10) (v := .int u42) (C := RX10) (T := TX10) (N := 67) hx hb hw inAX10 hown hK hP 0 rfl rfl 13 (by decide) (hw _ q_1274) (fun _ h9 => h9) n455 dX10_next_249 ?_
                  refine lv_iconst (v := 3) hx hb dX10_next_252 (by decide) ?_
                  refine lv_icmp_ge (tgt := 275) hx hb dX10_next_253 (by decide) (fun c456 => ?_) (fun c456 => ?_)
                  · have dc456 : 3 ≤ u42.toInt := le_i (a := 3) (b := u42.toInt) rfl rfl c456
                    have k457 : 3 ≤ u42.toInt ∧ u42.toInt ≤ 940 := ⟨Int.le_trans (Int.le_refl _) dc456, i89.2⟩
                    refine lv_aload_n hx hb dX10_next_275 rfl (lv_at hl 3 rfl) ?_
                    refine lv_dup hx hb dX10_next_276 rfl ?_
                    refine get_f (D := D) (ci := 10) (v := .int u42) (C := RX10) (T := TX10) (N := 67) hx hb hw inAX10 hown hK hP 0 rfl rfl 13 (by decide) (hw _ q_1274) (fun _ h9 => h9) n455 dX10_next_277 ?_
                    refine lv_iconst (v := 1) hx hb dX10_next_280 (by decide) ?_
                    refine lv_iadd hx hb dX10_next_281 ?_
                    refine lv_topi (fun v458 ev458 => ?_)
                    have bv458 : v458.toInt = u42.toInt + 1 := by rw [ev458]; exact add_k rfl rfl k457 ⟨Int.le_refl _, Int.le_refl _⟩ (by decide)
                    have k459 : 4 ≤ v458.toInt ∧ v458.toInt ≤ 941 := add_r bv458 k457 ⟨Int.le_refl _, Int.le_refl _⟩ (by decide)
                    refine put_f (D := D) (ci := 10) (v := .int v458) (ty := .int) (C := RX10) (T := TX10) (N := 67) hx hb hw inAX10 tyX10 tyX10_ok nmX10 hown hK hP hD hS 0 rfl rfl 13 (by decide) (hw _ q_1274) (fun _ h9 => h9) rfl (by decide +kernel) rfl rfl dX10_next_282 (fun H locs F460 eF460 hP hD hS => ?_)
                    have hP : va_P D vwCl [(h0, .inr (10, vL 67 F460)), (h_tape, .inl (cB, 940, .inl f_tape))] H := hP
                    have hD : va_D A [(h0, .inr (10, vL 67 F460)), (h_tape, .inl (cB, 940, .inl f_tape))] := hD
                    refine lv_aload_n hx hb dX10_next_285 rfl (lv_at hl 3 rfl) ?_
                    refine lv_dup hx hb dX10_next_286 rfl ?_
                    have n461 : G450 4 = .int u41 := (SAME.at i453 (by decide) i84)
                    have n462 : F460 4 = .int u41 := (get_ne eF460 (by decide) n461)
                    refine get_f (D := D) (ci := 10) (v := .int u41) (C := RX10) (T := TX10) (N := 67) hx hb hw inAX10 hown hK hP 0 rfl rfl 4 (by decide) (hw _ q_1265) (fun _ h9 => h9) n462 dX10_next_287 ?_
                    refine lv_iconst (v := 1) hx hb dX10_next_290 (by decide) ?_
                    refine lv_iadd hx hb dX10_next_291 ?_
                    refine lv_topi (fun v463 ev463 => ?_)
                    have bv463 : v463.toInt = u41.toInt + 1 := by rw [ev463]; exact add_k rfl rfl k264 ⟨Int.le_refl _, Int.le_refl _⟩ (by decide)
                    have k464 : 1 ≤ v463.toInt ∧ v463.toInt ≤ 940 := add_r bv463 k264 ⟨Int.le_refl _, Int.le_refl _⟩ (by decide)
                    refine put_f (D := D) (ci := 10) (v := .int v463) (ty := .int) (C := RX10) (T := TX10) (N := 67) hx hb hw inAX10 tyX10 tyX10_ok nmX10 hown hK hP hD hS 0 rfl rfl 4 (by decide) (hw _ q_1265) (fun _ h9 => h9) rfl (by decide +kernel) rfl rfl dX10_next_292 (fun H locs F465 eF465 hP hD hS => ?_)
                    have hP : va_P D vwCl [(h0, .inr (10, vL 67 F465)), (h_tape, .inl (cB, 940, .inl f_tape))] H := hP
                    have hD : va_D A [(h0, .inr (10, vL 67 F465)), (h_tape, .inl (cB, 940, .inl f_tape))] := hD
                    refine lv_goto (tgt := 181) hx hb dX10_next_295 (by decide) ?_
                    have n466 : F465 13 = .int v458 := (get_ne eF465 (by decide) (get_eq eF460))
                    have n467 : G450 14 = .int u43 := (SAME.at i453 (by decide) i86)
                    have n468 : F460 14 = .int u43 := (get_ne eF460 (by decide) n467)
                    have n469 : F465 14 = .int u43 := (get_ne eF465 (by decide) n468)
                    have n470 : F460 18 = .long u451 := (get_ne eF460 (by decide) i454)
                    have n471 : F465 18 = .long u451 := (get_ne eF465 (by decide) n470)
                    exact ih (u446, F465, v463, v458, u43, u451) ⟨i448, (SAME.up eF465 (SAME.up eF460 (SAME.tr (SAME.tr SAME.rf i83 (by decide)) i453 (by decide)) (by decide)) (by decide)), (get_eq eF465), n466, n469, n471, (ir_wk k464 (by decide) (by decide)), ⟨by omega, by omega⟩, (by show 0 ≤ v458.toInt ∧ v458.toInt ≤ v463.toInt ∧ x_p.toInt + v458.toInt ≤ v463.toInt ∧ (v458.toInt = 0 → v463.toInt = u2.toInt); omega), (by show u446.toInt = 1 → u33.toInt = 0 → (0 ≤ u43.toInt ∧ u43.toInt ≤ 999 ∧ (v458.toInt = 0 → u43.toInt = 0) ∧ (v458.toInt = 1 → u43.toInt ≤ 9) ∧ (v458.toInt = 2 → u43.toInt ≤ 99)); omega), (by show (x_token.toInt = 2 → 0 ≤ u43.toInt ∧ u43.toInt ≤ 999); omega)⟩ (by show (x_size.toInt - v463.toInt).toNat < (x_size.toInt - u41.toInt).toNat; omega) _ _ _ hP hD hS (lv_sub hl [0, 1, 2, 3] rfl)
                  · have dc456 : u42.toInt < 3 := nle_i (a := 3) (b := u42.toInt) rfl rfl c456
                    have k472 : 0 ≤ u42.toInt ∧ u42.toInt ≤ 2 := ⟨i89.1, up_lt dc456 (Int.le_refl _) (by decide)⟩
                    refine lv_aload_n hx hb dX10_next_256 rfl (lv_at hl 3 rfl) ?_
                    refine lv_bipush (v := 10) hx hb dX10_next_257 (by decide) ?_
                    refine lv_aload_n hx hb dX10_next_259 rfl (lv_at hl 3 rfl) ?_
                    have n473 : G450 14 = .int u43 := (SAME.at i453 (by decide) i86)
                    refine get_f (D := D) (ci := 10) (v := .int u43) (C := RX10) (T := TX10) (N := 67) hx hb hw inAX10 hown hK hP 0 rfl rfl 14 (by decide) (hw _ q_1275) (fun _ h9 => h9) n473 dX10_next_260 ?_
                    refine lv_imul hx hb dX10_next_263 ?_
                    refine lv_topi (fun v474 ev474 => ?_)
                    refine lv_aload_n hx hb dX10_next_264 rfl (lv_at hl 3 rfl) ?_
                    have n475 : G450 1 = .ref h_tape := (SAME.at i453 (by decide) n95)
                    have n476 : G450 3 = .int x_size := (SAME.at i453 (by decide) n98)
                    have n477 : G450 4 = .int u41 := (SAME.at i453 (by decide) i84)
                    refine call_Vi (wr := []) (As := []) (rest := [.int v474, .ref h0]) hx hb hml hown hw (m_X10_peek l D cI cJ cB cP cM cZ h0 h_tape G450 x_size u41 f_tape _ n475 n476 (ir_wk k31 (by decide) (by decide)) n477 (ir_wk k264 (by decide) (by decide))) wV_X10_169_X10_peek dX10_next_265 hK hP hD hS hA [0, 1] [] rfl rfl (by decide) (by decide) (by decide) 0 10 rfl rfl GG.fb hG.at hl.1 rfl (Nat.le_of_ble_eq_true rfl) ⟨(Nat.le_of_ble_eq_true rfl), (Nat.le_of_ble_eq_true rfl)⟩ ⟨(Nat.le_of_ble_eq_true rfl), (Nat.le_of_ble_eq_true rfl)⟩ (fun r478 u H locs hp hP hD hS => ?_)
                    rcases hp with ⟨t479, rfl, rfl⟩ | ⟨t480, t481, rfl, rfl⟩
                    · have hP : va_P D vwCl [(h0, .inr (10, vL 67 G450)), (h_tape, .inl (cB, 940, .inl f_tape))] H := hP
                      have hD : va_D A [(h0, .inr (10, vL 67 G450)), (h_tape, .inl (cB, 940, .inl f_tape))] := hD
                      refine W.widen (k := 0) (n := 0) (Nat.le_of_ble_eq_true rfl) (Nat.le_of_ble_eq_true rfl) ?_
                      have k483 : 1 ≤ x_size.toInt ∧ x_size.toInt ≤ 939 := ⟨k31.1, Int.le_trans t479 k264.2⟩
                      have k484 : 1 ≤ u41.toInt ∧ u41.toInt ≤ 939 := ⟨Int.le_trans k31.1 t479, k264.2⟩
                      refine lv_iadd hx hb dX10_next_268 ?_
                      refine lv_topi (fun v485 ev485 => ?_)
                      refine lv_bipush (v := 48) hx hb dX10_next_269 (by decide) ?_
                      refine lv_isub hx hb dX10_next_271 ?_
                      refine lv_topi (fun v486 ev486 => ?_)
                      refine put_f (D := D) (ci := 10) (v := .int v486) (ty := .int) (C := RX10) (T := TX10) (N := 67) hx hb hw inAX10 tyX10 tyX10_ok nmX10 hown hK hP hD hS 0 rfl rfl 14 (by decide) (hw _ q_1275) (fun _ h9 => h9) rfl (by decide +kernel) rfl rfl dX10_next_272 (fun H locs F487 eF487 hP hD hS => ?_)
                      have hP : va_P D vwCl [(h0, .inr (10, vL 67 F487)), (h_tape, .inl (cB, 940, .inl f_tape))] H := hP
                      have hD : va_D A [(h0, .inr (10, vL 67 F487)), (h_tape, .inl (cB, 940, .inl f_tape))] := hD
                      refine lv_aload_n hx hb dX10_next_275 rfl (lv_at hl 3 rfl) ?_
                      refine lv_dup hx hb dX10_next_276 rfl ?_
                      have n488 : F487 13 = .int u42 := (get_ne eF487 (by decide) n455)
                      refine get_f (D := D) (ci := 10) (v := .int u42) (C := RX10) (T := TX10) (N := 67) hx hb hw inAX10 hown hK hP 0 rfl rfl 13 (by decide) (hw _ q_1274) (fun _ h9 => h9) n488 dX10_next_277 ?_
                      refine lv_iconst (v := 1) hx hb dX10_next_280 (by decide) ?_
                      refine lv_iadd hx hb dX10_next_281 ?_
                      refine lv_topi (fun v489 ev489 => ?_)
                      have bv489 : v489.toInt = u42.toInt + 1 := by rw [ev489]; exact add_k rfl rfl k472 ⟨Int.le_refl _, Int.le_refl _⟩ (by decide)
                      have k490 : 1 ≤ v489.toInt ∧ v489.toInt ≤ 3 := add_r bv489 k472 ⟨Int.le_refl _, Int.le_refl _⟩ (by decide)
                      refine put_f (D := D) (ci := 10) (v := .int v489) (ty := .int) (C := RX10) (T := TX10) (N := 67) hx hb hw inAX10 tyX10 tyX10_ok nmX10 hown hK hP hD hS 0 rfl rfl 13 (by decide) (hw _ q_1274) (fun _ h9 => h9) rfl (by decide +kernel) rfl rfl dX10_next_282 (fun H locs F491 eF491 hP hD hS => ?_)
                      have hP : va_P D vwCl [(h0, .inr (10, vL 67 F491)), (h_tape, .inl (cB, 940, .inl f_tape))] H := hP
                      have hD : va_D A [(h0, .inr (10, vL 67 F491)), (h_tape, .inl (cB, 940, .inl f_tape))] := hD
                      refine lv_aload_n hx hb dX10_next_285 rfl (lv_at hl 3 rfl) ?_
                      refine lv_dup hx hb dX10_next_286 rfl ?_
                      have n492 : F487 4 = .int u41 := (get_ne eF487 (by decide) n477)
                      have n493 : F491 4 = .int u41 := (get_ne eF491 (by decide) n492)
                      refine get_f (D := D) (ci := 10) (v := .int u41) (C := RX10) (T := TX10) (N := 67) hx hb hw inAX10 hown hK hP 0 rfl rfl 4 (by decide) (hw _ q_1265) (fun _ h9 => h9) n493 dX10_next_287 ?_
                      refine lv_iconst (v := 1) hx hb dX10_next_290 (by decide) ?_
                      refine lv_iadd hx hb dX10_next_291 ?_
                      refine lv_topi (fun v494 ev494 => ?_)
                      have bv494 : v494.toInt = u41.toInt + 1 := by rw [ev494]; exact add_k rfl rfl k484 ⟨Int.le_refl _, Int.le_refl _⟩ (by decide)
                      have k495 : 2 ≤ v494.toInt ∧ v494.toInt ≤ 940 := add_r bv494 k484 ⟨Int.le_refl _, Int.le_refl _⟩ (by decide)
                      refine put_f (D := D) (ci := 10) (v := .int v494) (ty := .int) (C := RX10) (T := TX10) (N := 67) hx hb hw inAX10 tyX10 tyX10_ok nmX10 hown hK hP hD hS 0 rfl rfl 4 (by decide) (hw _ q_1265) (fun _ h9 => h9) rfl (by decide +kernel) rfl rfl dX10_next_292 (fun H locs F496 eF496 hP hD hS => ?_)
                      have hP : va_P D vwCl [(h0, .inr (10, vL 67 F496)), (h_tape, .inl (cB, 940, .inl f_tape))] H := hP
                      have hD : va_D A [(h0, .inr (10, vL 67 F496)), (h_tape, .inl (cB, 940, .inl f_tape))] := hD
                      refine lv_goto (tgt := 181) hx hb dX10_next_295 (by decide) ?_
                      have n497 : F496 13 = .int v489 := (get_ne eF496 (by decide) (get_eq eF491))
                      have n498 : F491 14 = .int v486 := (get_ne eF491 (by decide) (get_eq eF487))
                      have n499 : F496 14 = .int v486 := (get_ne eF496 (by decide) n498)
                      have n500 : F487 18 = .long u451 := (get_ne eF487 (by decide) i454)
                      have n501 : F491 18 = .long u451 := (get_ne eF491 (by decide) n500)
                      have n502 : F496 18 = .long u451 := (get_ne eF496 (by decide) n501)
                      exact ih (u446, F496, v494, v489, v486, u451) ⟨i448, (SAME.up eF496 (SAME.up eF491 (SAME.up eF487 (SAME.tr (SAME.tr SAME.rf i83 (by decide)) i453 (by decide)) (by decide)) (by decide)) (by decide)), (get_eq eF496), n497, n499, n502, (ir_wk k495 (by decide) (by decide)), (ir_wk k490 (by decide) (by decide)), (by show 0 ≤ v489.toInt ∧ v489.toInt ≤ v494.toInt ∧ x_p.toInt + v489.toInt ≤ v494.toInt ∧ (v489.toInt = 0 → v494.toInt = u2.toInt); omega), (by show u446.toInt = 1 → u33.toInt = 0 → (0 ≤ v486.toInt ∧ v486.toInt ≤ 999 ∧ (v489.toInt = 0 → v486.toInt = 0) ∧ (v489.toInt = 1 → v486.toInt ≤ 9) ∧ (v489.toInt = 2 → v486.toInt ≤ 99)); omega), (by show (x_token.toInt = 2 → 0 ≤ v486.toInt ∧ v486.toInt ≤ 999); omega)⟩ (by show (x_size.toInt - v494.toInt).toNat < (x_size.toInt - u41.toInt).toNat; omega) _ _ _ hP hD hS (lv_sub hl [0, 1, 2, 3] rfl)
                    · have hP : va_P D vwCl [(h0, .inr (10, vL 67 G450)), (h_tape, .inl (cB, 940, .inl f_tape))] H := hP
                      have hD : va_D A [(h0, .inr (10, vL 67 G450)), (h_tape, .inl (cB, 940, .inl f_tape))] := hD
                      refine W.widen (k := 0) (n := 0) (Nat.le_of_ble_eq_true rfl) (Nat.le_of_ble_eq_true rfl) ?_
                      refine lv_ci (y := v262) ev262.symm ?_
                      refine lv_iadd hx hb dX10_next_268 ?_
                      refine lv_topi (fun v503 ev503 => ?_)
                      refine lv_bipush (v := 48) hx hb dX10_next_269 (by decide) ?_
                      refine lv_isub hx hb dX10_next_271 ?_
                      refine lv_topi (fun v504 ev504 => ?_)
                      refine put_f (D := D) (ci := 10) (v := .int v504) (ty := .int) (C := RX10) (T := TX10) (N := 67) hx hb hw inAX10 tyX10 tyX10_ok nmX10 hown hK hP hD hS 0 rfl rfl 14 (by decide) (hw _ q_1275) (fun _ h9 => h9) rfl (by decide +kernel) rfl rfl dX10_next_272 (fun H locs F505 eF505 hP hD hS => ?_)
                      have hP : va_P D vwCl [(h0, .inr (10, vL 67 F505)), (h_tape, .inl (cB, 940, .inl f_tape))] H := hP
                      have hD : va_D A [(h0, .inr (10, vL 67 F505)), (h_tape, .inl (cB, 940, .inl f_tape))] := hD
                      refine lv_aload_n hx hb dX10_next_275 rfl (lv_at hl 3 rfl) ?_
                      refine lv_dup hx hb dX10_next_276 rfl ?_
                      have n506 : F505 13 = .int u42 := (get_ne eF505 (by decide) n455)
                      refine get_f (D := D) (ci := 10) (v := .int u42) (C := RX10) (T := TX10) (N := 67) hx hb hw inAX10 hown hK hP 0 rfl rfl 13 (by decide) (hw _ q_1274) (fun _ h9 => h9) n506 dX10_next_277 ?_
                      refine lv_iconst (v := 1) hx hb dX10_next_280 (by decide) ?_
                      refine lv_iadd hx hb dX10_next_281 ?_
                      refine lv_topi (fun v507 ev507 => ?_)
                      have bv507 : v507.toInt = u42.toInt + 1 := by rw [ev507]; exact add_k rfl rfl k472 ⟨Int.le_refl _, Int.le_refl _⟩ (by decide)
                      have k508 : 1 ≤ v507.toInt ∧ v507.toInt ≤ 3 := add_r bv507 k472 ⟨Int.le_refl _, Int.le_refl _⟩ (by decide)
                      refine put_f (D := D) (ci := 10) (v := .int v507) (ty := .int) (C := RX10) (T := TX10) (N := 67) hx hb hw inAX10 tyX10 tyX10_ok nmX10 hown hK hP hD hS 0 rfl rfl 13 (by decide) (hw _ q_1274) (fun _ h9 => h9) rfl (by decide +kernel) rfl rfl dX10_next_282 (fun H locs F509 eF509 hP hD hS => ?_)
                      have hP : va_P D vwCl [(h0, .inr (10, vL 67 F509)), (h_tape, .inl (cB, 940, .inl f_tape))] H := hP
                      have hD : va_D A [(h0, .inr (10, vL 67 F509)), (h_tape, .inl (cB, 940, .inl f_tape))] := hD
                      refine lv_aload_n hx hb dX10_next_285 rfl (lv_at hl 3 rfl) ?_
                      refine lv_dup hx hb dX10_next_286 rfl ?_
                      have n510 : F505 4 = .int u41 := (get_ne eF505 (by decide) n477)
                      have n511 : F509 4 = .int u41 := (get_ne eF509 (by decide) n510)
                      refine get_f (D := D) (ci := 10) (v := .int u41) (C := RX10) (T := TX10) (N := 67) hx hb hw inAX10 hown hK hP 0 rfl rfl 4 (by decide) (hw _ q_1265) (fun _ h9 => h9) n511 dX10_next_287 ?_
                      refine lv_iconst (v := 1) hx hb dX10_next_290 (by decide) ?_
                      refine lv_iadd hx hb dX10_next_291 ?_
                      refine lv_topi (fun v512 ev512 => ?_)
                      have bv512 : v512.toInt = u41.toInt + 1 := by rw [ev512]; exact add_k rfl rfl k264 ⟨Int.le_refl _, Int.le_refl _⟩ (by decide)
                      have k513 : 1 ≤ v512.toInt ∧ v512.toInt ≤ 940 := add_r bv512 k264 ⟨Int.le_refl _, Int.le_refl _⟩ (by decide)
                      refine put_f (D := D) (ci := 10) (v := .int v512) (ty := .int) (C := RX10) (T := TX10) (N := 67) hx hb hw inAX10 tyX10 tyX10_ok nmX10 hown hK hP hD hS 0 rfl rfl 4 (by decide) (hw _ q_1265) (fun _ h9 => h9) rfl (by decide +kernel) rfl rfl dX10_next_292 (fun H locs F514 eF514 hP hD hS => ?_)
                      have hP : va_P D vwCl [(h0, .inr (10, vL 67 F514)), (h_tape, .inl (cB, 940, .inl f_tape))] H := hP
                      have hD : va_D A [(h0, .inr (10, vL 67 F514)), (h_tape, .inl (cB, 940, .inl f_tape))] := hD
                      refine lv_goto (tgt := 181) hx hb dX10_next_295 (by decide) ?_
                      have n515 : F514 13 = .int v507 := (get_ne eF514 (by decide) (get_eq eF509))
                      have n516 : F509 14 = .int v504 := (get_ne eF509 (by decide) (get_eq eF505))
                      have n517 : F514 14 = .int v504 := (get_ne eF514 (by decide) n516)
                      have n518 : F505 18 = .long u451 := (get_ne eF505 (by decide) i454)
                      have n519 : F509 18 = .long u451 := (get_ne eF509 (by decide) n518)
                      have n520 : F514 18 = .long u451 := (get_ne eF514 (by decide) n519)
                      exact ih (u446, F514, v512, v507, v504, u451) ⟨i448, (SAME.up eF514 (SAME.up eF509 (SAME.up eF505 (SAME.tr (SAME.tr SAME.rf i83 (by decide)) i453 (by decide)) (by decide)) (by decide)) (by decide)), (get_eq eF514), n515, n517, n520, (ir_wk k513 (by decide) (by decide)), (ir_wk k508 (by decide) (by decide)), (by show 0 ≤ v507.toInt ∧ v507.toInt ≤ v512.toInt ∧ x_p.toInt + v507.toInt ≤ v512.toInt ∧ (v507.toInt = 0 → v512.toInt = u2.toInt); omega), (by show u446.toInt = 1 → u33.toInt = 0 → (0 ≤ v504.toInt ∧ v504.toInt ≤ 999 ∧ (v507.toInt = 0 → v504.toInt = 0) ∧ (v507.toInt = 1 → v504.toInt ≤ 9) ∧ (v507.toInt = 2 → v504.toInt ≤ 99)); omega), (by show (x_token.toInt = 2 → 0 ≤ v504.toInt ∧ v504.toInt ≤ 999); omega)⟩ (by show (x_size.toInt - v512.toInt).toNat < (x_size.toInt - u41.toInt).toNat; omega) _ _ _ hP hD hS (lv_sub hl [0, 1, 2, 3] rfl)
                refine lv_aload_n hx hb dX10_next_222 rfl (lv_at hl 3 rfl) ?_
                refine get_f (D := D) (ci := 10) (v := .int u42) (C := RX10) (T := TX10) (N := 67) hx hb hw inAX10 hown hK hP 0 rfl rfl 13 (by decide) (hw _ q_1274) (fun _ h9 => h9) i85 dX10_next_223 ?_
                refine lv_bipush (v := 7) hx hb dX10_next_226 (by decide) ?_
                refine lv_icmp_ge (tgt := 248) hx hb dX10_next_228 (by decide) (fun c521 => ?_) (fun c521 => ?_)
                · have dc521 : 7 ≤ u42.toInt := le_i (a := 7) (b := u42.toInt) rfl rfl c521
                  have k522 : 7 ≤ u42.toInt ∧ u42.toInt ≤ 940 := ⟨Int.le_trans (Int.le_refl _) dc521, i89.2⟩
                  exact cut452 G40 u44 SAME.rf i87 _ _ _ hP hD hS (lv_sub hl [0, 1, 2, 3] rfl)
                · have dc521 : u42.toInt < 7 := nle_i (a := 7) (b := u42.toInt) rfl rfl c521
                  have k523 : 0 ≤ u42.toInt ∧ u42.toInt ≤ 6 := ⟨i89.1, up_lt dc521 (Int.le_refl _) (by decide)⟩
                  refine lv_aload_n hx hb dX10_next_231 rfl (lv_at hl 3 rfl) ?_
                  refine lv_aload_n hx hb dX10_next_232 rfl (lv_at hl 3 rfl) ?_
                  refine get_f (D := D) (ci := 10) (v := .long u44) (C := RX10) (T := TX10) (N := 67) hx hb hw inAX10 hown hK hP 0 rfl rfl 18 (by decide) (hw _ q_1279) (fun _ h9 => h9) i87 dX10_next_233 ?_
                  refine lv_bipush (v := 8) hx hb dX10_next_236 (by decide) ?_
                  obtain ⟨v524, ev524⟩ : ∃ z : Int64, (u44 : Int64) <<< ((8 : Int32).toInt64 &&& 63) = z := ⟨_, rfl⟩
                  refine lv_lshl (v := v524) hx hb dX10_next_238 ev524 ?_
                  refine lv_aload_n hx hb dX10_next_239 rfl (lv_at hl 3 rfl) ?_
                  refine call_Vi (wr := []) (As := []) (rest := [.long v524, .ref h0]) hx hb hml hown hw (m_X10_peek l D cI cJ cB cP cM cZ h0 h_tape G40 x_size u41 f_tape _ n95 n98 (ir_wk k31 (by decide) (by decide)) i84 (ir_wk k264 (by decide) (by decide))) wV_X10_169_X10_peek dX10_next_240 hK hP hD hS hA [0, 1] [] rfl rfl (by decide) (by decide) (by decide) 0 10 rfl rfl GG.fb hG.at hl.1 rfl (Nat.le_of_ble_eq_true rfl) ⟨(Nat.le_of_ble_eq_true rfl), (Nat.le_of_ble_eq_true rfl)⟩ ⟨(Nat.le_of_ble_eq_true rfl), (Nat.le_of_ble_eq_true rfl)⟩ (fun r525 u H locs hp hP hD hS => ?_)
                  rcases hp with ⟨t526, rfl, rfl⟩ | ⟨t527, t528, rfl, rfl⟩
                  · have hP : va_P D vwCl [(h0, .inr (10, vL 67 G40)), (h_tape, .inl (cB, 940, .inl f_tape))] H := hP
                    have hD : va_D A [(h0, .inr (10, vL 67 G40)), (h_tape, .inl (cB, 940, .inl f_tape))] := hD
                    refine W.widen (k := 0) (n := 0) (Nat.le_of_ble_eq_true rfl) (Nat.le_of_ble_eq_true rfl) ?_
                    have k530 : 1 ≤ x_size.toInt ∧ x_size.toInt ≤ 939 := ⟨k31.1, Int.le_trans t526 k264.2⟩
                    have k531 : 1 ≤ u41.toInt ∧ u41.toInt ≤ 939 := ⟨Int.le_trans k31.1 t526, k264.2⟩
                    obtain ⟨v532, ev532⟩ : ∃ z : Int64, ((-1) : Int32).toInt64 = z := ⟨_, rfl⟩
                    refine lv_i2l (v := v532) hx hb dX10_next_243 ev532 ?_
                    refine lv_lor hx hb dX10_next_244 ?_
                    refine lv_topl (fun v533 ev533 => ?_)
                    refine put_f (D := D) (ci := 10) (v := .long v533) (ty := .long) (C := RX10) (T := TX10) (N := 67) hx hb hw inAX10 tyX10 tyX10_ok nmX10 hown hK hP hD hS 0 rfl rfl 18 (by decide) (hw _ q_1279) (fun _ h9 => h9) rfl (by decide +kernel) rfl rfl dX10_next_245 (fun H locs F534 eF534 hP hD hS => ?_)
                    have hP : va_P D vwCl [(h0, .inr (10, vL 67 F534)), (h_tape, .inl (cB, 940, .inl f_tape))] H := hP
                    have hD : va_D A [(h0, .inr (10, vL 67 F534)), (h_tape, .inl (cB, 940, .inl f_tape))] := hD
                    exact cut452 F534 v533 (SAME.up eF534 SAME.rf (by decide)) (get_eq eF534) _ _ _ hP hD hS (lv_sub hl [0, 1, 2, 3] rfl)
                  · have hP : va_P D vwCl [(h0, .inr (10, vL 67 G40)), (h_tape, .inl (cB, 940, .inl f_tape))] H := hP
                    have hD : va_D A [(h0, .inr (10, vL 67 G40)), (h_tape, .inl (cB, 940, .inl f_tape))] := hD
                    refine W.widen (k := 0) (n := 0) (Nat.le_of_ble_eq_true rfl) (Nat.le_of_ble_eq_true rfl) ?_
                    refine lv_ci (y := v262) ev262.symm ?_
                    obtain ⟨v535, ev535⟩ : ∃ z : Int64, (v262 : Int32).toInt64 = z := ⟨_, rfl⟩
                    refine lv_i2l (v := v535) hx hb dX10_next_243 ev535 ?_
                    refine lv_lor hx hb dX10_next_244 ?_
                    refine lv_topl (fun v536 ev536 => ?_)
                    refine put_f (D := D) (ci := 10) (v := .long v536) (ty := .long) (C := RX10) (T := TX10) (N := 67) hx hb hw inAX10 tyX10 tyX10_ok nmX10 hown hK hP hD hS 0 rfl rfl 18 (by decide) (hw _ q_1279) (fun _ h9 => h9) rfl (by decide +kernel) rfl rfl dX10_next_245 (fun H locs F537 eF537 hP hD hS => ?_)
                    have hP : va_P D vwCl [(h0, .inr (10, vL 67 F537)), (h_tape, .inl (cB, 940, .inl f_tape))] H := hP
                    have hD : va_D A [(h0, .inr (10, vL 67 F537)), (h_tape, .inl (cB, 940, .inl f_tape))] := hD
                    exact cut452 F537 v536 (SAME.up eF537 SAME.rf (by decide)) (get_eq eF537) _ _ _ hP hD hS (lv_sub hl [0, 1, 2, 3] rfl)
              refine lv_iload_n hx hb dX10_next_201 rfl (lv_at hl 0 rfl) ?_
              refine lv_if_eq (tgt := 220) hx hb dX10_next_202 (by decide) (fun c538 => ?_) (fun c538 => ?_)
              · have dc538 : u39.toInt = 0 := eq_i (a := u39.toInt) (b := 0) rfl rfl c538
                have k539 : 0 ≤ u39.toInt ∧ u39.toInt ≤ 0 := ⟨i82.1, Int.le_trans (Int.le_of_eq dc538) (Int.le_refl _)⟩
                refine lv_iconst (v := 0) hx hb dX10_next_220 (by decide) ?_
                refine lv_istore_n (lv' := [(3, .int 0), (2, .int u33), (1, .int v28), (0, .ref h0)]) hx hb dX10_next_221 rfl hl (by decide) rfl (fun ls hl => ?_)
                exact cut447 0 (show 0 ≤ (0 : Int32).toInt ∧ (0 : Int32).toInt ≤ 1 by decide) (by show (0 = 1 → u33.toInt = 0 → (48 ≤ v262.toInt ∧ v262.toInt ≤ 57 ∧ 0 ≤ u43.toInt ∧ u43.toInt ≤ 999 ∧ (u42.toInt = 0 → u43.toInt = 0) ∧ (u42.toInt = 1 → u43.toInt ≤ 9) ∧ (u42.toInt = 2 → u43.toInt ≤ 99))); omega) _ _ _ hP hD hS (lv_sub hl [0, 1, 2, 3] rfl)
              · have dc538 : u39.toInt ≠ 0 := ne_i (a := u39.toInt) (b := 0) rfl rfl c538
                have k540 : 1 ≤ u39.toInt ∧ u39.toInt ≤ 1 := ⟨ne_lo dc538 i82.1 ⟨Int.le_refl _, Int.le_refl _⟩ (by decide), i82.2⟩
                refine lv_aload_n hx hb dX10_next_205 rfl (lv_at hl 3 rfl) ?_
                refine call_Vi (wr := []) (As := []) (rest := []) hx hb hml hown hw (m_X10_peek l D cI cJ cB cP cM cZ h0 h_tape G40 x_size u41 f_tape _ n95 n98 (ir_wk k31 (by decide) (by decide)) i84 (ir_wk k264 (by decide) (by decide))) wV_X10_169_X10_peek dX10_next_206 hK hP hD hS hA [0, 1] [] rfl rfl (by decide) (by decide) (by decide) 0 10 rfl rfl GG.fb hG.at hl.1 rfl (Nat.le_of_ble_eq_true rfl) ⟨(Nat.le_of_ble_eq_true rfl), (Nat.le_of_ble_eq_true rfl)⟩ ⟨(Nat.le_of_ble_eq_true rfl), (Nat.le_of_ble_eq_true rfl)⟩ (fun r541 u H locs hp hP hD hS => ?_)
                rcases hp with ⟨t542, rfl, rfl⟩ | ⟨t543, t544, rfl, rfl⟩
                · have hP : va_P D vwCl [(h0, .inr (10, vL 67 G40)), (h_tape, .inl (cB, 940, .inl f_tape))] H := hP
                  have hD : va_D A [(h0, .inr (10, vL 67 G40)), (h_tape, .inl (cB, 940, .inl f_tape))] := hD
                  refine W.widen (k := 0) (n := 0) (Nat.le_of_ble_eq_true rfl) (Nat.le_of_ble_eq_true rfl) ?_
                  have k546 : 1 ≤ x_size.toInt ∧ x_size.toInt ≤ 939 := ⟨k31.1, Int.le_trans t542 k264.2⟩
                  have k547 : 1 ≤ u41.toInt ∧ u41.toInt ≤ 939 := ⟨Int.le_trans k31.1 t542, k264.2⟩
                  refine call_Si (wr := [(h0, .inr (10, vL 67 G40)), (h_tape, .inl (cB, 940, .inl f_tape))]) (As := [.int (-1)]) (rest := []) hx hb hml hown hw (m_X10_isSmall l D cI cJ cB cP cM cZ (-1) _ ) wS_X10_182_X10_isSmall dX10_next_209 hP hD hS hA [] [0, 1] rfl rfl (by decide) (by decide) (by decide) GG.fb hG.at hl.1 rfl (Nat.le_of_ble_eq_true rfl) ⟨(Nat.le_of_ble_eq_true rfl), (Nat.le_of_ble_eq_true rfl)⟩ ⟨(Nat.le_of_ble_eq_true rfl), (Nat.le_of_ble_eq_true rfl)⟩ (fun r548 u H locs hp hP hD hS => ?_)
                  have zlm1 : ((-1) : Int32).toInt = (-1) := by decide
                  rcases hp with ⟨t549, rfl, rfl⟩ | ⟨t550, t551, rfl, rfl⟩ | ⟨t552, t553, rfl, rfl⟩
                  · have hP : va_P D vwCl [(h0, .inr (10, vL 67 G40)), (h_tape, .inl (cB, 940, .inl f_tape))] H := hP
                    have hD : va_D A [(h0, .inr (10, vL 67 G40)), (h_tape, .inl (cB, 940, .inl f_tape))] := hD
                    refine W.widen (k := 0) (n := 0) (Nat.le_of_ble_eq_true rfl) (Nat.le_of_ble_eq_true rfl) ?_
                    refine lv_iload_n hx hb dX10_next_212 rfl (lv_at hl 1 rfl) ?_
                    refine lv_icmp_ne (tgt := 220) hx hb dX10_next_213 (by decide) (fun c555 => ?_) (fun c555 => ?_)
                    · have dc555 : 0 ≠ u33.toInt := ne_i (a := 0) (b := u33.toInt) rfl rfl c555
                      have k556 : 1 ≤ u33.toInt ∧ u33.toInt ≤ 1 := ⟨ne_lo dc555.symm i35.1 ⟨Int.le_refl _, Int.le_refl _⟩ (by decide), i35.2⟩
                      refine lv_iconst (v := 0) hx hb dX10_next_220 (by decide) ?_
                      refine lv_istore_n (lv' := [(3, .int 0), (2, .int u33), (1, .int v28), (0, .ref h0)]) hx hb dX10_next_221 rfl hl (by decide) rfl (fun ls hl => ?_)
                      exact cut447 0 (show 0 ≤ (0 : Int32).toInt ∧ (0 : Int32).toInt ≤ 1 by decide) (by show (0 = 1 → u33.toInt = 0 → (48 ≤ v262.toInt ∧ v262.toInt ≤ 57 ∧ 0 ≤ u43.toInt ∧ u43.toInt ≤ 999 ∧ (u42.toInt = 0 → u43.toInt = 0) ∧ (u42.toInt = 1 → u43.toInt ≤ 9) ∧ (u42.toInt = 2 → u43.toInt ≤ 99))); omega) _ _ _ hP hD hS (lv_sub hl [0, 1, 2, 3] rfl)
                    · have dc555 : 0 = u33.toInt := eq_i (a := 0) (b := u33.toInt) rfl rfl c555
                      have k557 : 0 ≤ u33.toInt ∧ u33.toInt ≤ 0 := ⟨i35.1, Int.le_trans (Int.le_of_eq dc555.symm) (Int.le_refl _)⟩
                      refine lv_iconst (v := 1) hx hb dX10_next_216 (by decide) ?_
                      refine lv_goto (tgt := 221) hx hb dX10_next_217 (by decide) ?_
                      refine lv_istore_n (lv' := [(3, .int 1), (2, .int u33), (1, .int v28), (0, .ref h0)]) hx hb dX10_next_221 rfl hl (by decide) rfl (fun ls hl => ?_)
                      exact cut447 1 (show 0 ≤ (1 : Int32).toInt ∧ (1 : Int32).toInt ≤ 1 by decide) (by show (1 = 1 → u33.toInt = 0 → (48 ≤ v262.toInt ∧ v262.toInt ≤ 57 ∧ 0 ≤ u43.toInt ∧ u43.toInt ≤ 999 ∧ (u42.toInt = 0 → u43.toInt = 0) ∧ (u42.toInt = 1 → u43.toInt ≤ 9) ∧ (u42.toInt = 2 → u43.toInt ≤ 99))); omega) _ _ _ hP hD hS (lv_sub hl [0, 1, 2, 3] rfl)
                  · have hP : va_P D vwCl [(h0, .inr (10, vL 67 G40)), (h_tape, .inl (cB, 940, .inl f_tape))] H := hP
                    have hD : va_D A [(h0, .inr (10, vL 67 G40)), (h_tape, .inl (cB, 940, .inl f_tape))] := hD
                    refine W.widen (k := 0) (n := 0) (Nat.le_of_ble_eq_true rfl) (Nat.le_of_ble_eq_true rfl) ?_
                    exact absurd t550 (by decide)
                  · have hP : va_P D vwCl [(h0, .inr (10, vL 67 G40)), (h_tape, .inl (cB, 940, .inl f_tape))] H := hP
                    have hD : va_D A [(h0, .inr (10, vL 67 G40)), (h_tape, .inl (cB, 940, .inl f_tape))] := hD
                    refine W.widen (k := 0) (n := 0) (Nat.le_of_ble_eq_true rfl) (Nat.le_of_ble_eq_true rfl) ?_
                    exact absurd t552 (by decide)
                · have hP : va_P D vwCl [(h0, .inr (10, vL 67 G40)), (h_tape, .inl (cB, 940, .inl f_tape))] H := hP
                  have hD : va_D A [(h0, .inr (10, vL 67 G40)), (h_tape, .inl (cB, 940, .inl f_tape))] := hD
                  refine W.widen (k := 0) (n := 0) (Nat.le_of_ble_eq_true rfl) (Nat.le_of_ble_eq_true rfl) ?_
                  refine lv_ci (y := v262) ev262.symm ?_
                  refine call_Si (wr := [(h0, .inr (10, vL 67 G40)), (h_tape, .inl (cB, 940, .inl f_tape))]) (As := [.int v262]) (rest := []) hx hb hml hown hw (m_X10_isSmall l D cI cJ cB cP cM cZ v262 _ ) wS_X10_182_X10_isSmall dX10_next_209 hP hD hS hA [] [0, 1] rfl rfl (by decide) (by decide) (by decide) GG.fb hG.at hl.1 rfl (Nat.le_of_ble_eq_true rfl) ⟨(Nat.le_of_ble_eq_true rfl), (Nat.le_of_ble_eq_true rfl)⟩ ⟨(Nat.le_of_ble_eq_true rfl), (Nat.le_of_ble_eq_true rfl)⟩ (fun r558 u H locs hp hP hD hS => ?_)
                  rcases hp with ⟨t559, rfl, rfl⟩ | ⟨t560, t561, rfl, rfl⟩ | ⟨t562, t563, rfl, rfl⟩
                  · have hP : va_P D vwCl [(h0, .inr (10, vL 67 G40)), (h_tape, .inl (cB, 940, .inl f_tape))] H := hP
                    have hD : va_D A [(h0, .inr (10, vL 67 G40)), (h_tape, .inl (cB, 940, .inl f_tape))] := hD
                    refine W.widen (k := 0) (n := 0) (Nat.le_of_ble_eq_true rfl) (Nat.le_of_ble_eq_true rfl) ?_
                    exact False.elim (bad_lt t559 k445.1 (Int.le_refl _) (by decide))
                  · have hP : va_P D vwCl [(h0, .inr (10, vL 67 G40)), (h_tape, .inl (cB, 940, .inl f_tape))] H := hP
                    have hD : va_D A [(h0, .inr (10, vL 67 G40)), (h_tape, .inl (cB, 940, .inl f_tape))] := hD
                    refine W.widen (k := 0) (n := 0) (Nat.le_of_ble_eq_true rfl) (Nat.le_of_ble_eq_true rfl) ?_
                    exact False.elim (bad_lt t561 (Int.le_refl _) k445.2 (by decide))
                  · have hP : va_P D vwCl [(h0, .inr (10, vL 67 G40)), (h_tape, .inl (cB, 940, .inl f_tape))] H := hP
                    have hD : va_D A [(h0, .inr (10, vL 67 G40)), (h_tape, .inl (cB, 940, .inl f_tape))] := hD
                    refine W.widen (k := 0) (n := 0) (Nat.le_of_ble_eq_true rfl) (Nat.le_of_ble_eq_true rfl) ?_
                    refine lv_iload_n hx hb dX10_next_212 rfl (lv_at hl 1 rfl) ?_
                    refine lv_icmp_ne (tgt := 220) hx hb dX10_next_213 (by decide) (fun c565 => ?_) (fun c565 => ?_)
                    · have dc565 : 1 ≠ u33.toInt := ne_i (a := 1) (b := u33.toInt) rfl rfl c565
                      have k566 : 0 ≤ u33.toInt ∧ u33.toInt ≤ 0 := ⟨i35.1, ne_hi dc565.symm i35.2 ⟨Int.le_refl _, Int.le_refl _⟩ (by decide)⟩
                      refine lv_iconst (v := 0) hx hb dX10_next_220 (by decide) ?_
                      refine lv_istore_n (lv' := [(3, .int 0), (2, .int u33), (1, .int v28), (0, .ref h0)]) hx hb dX10_next_221 rfl hl (by decide) rfl (fun ls hl => ?_)
                      exact cut447 0 (show 0 ≤ (0 : Int32).toInt ∧ (0 : Int32).toInt ≤ 1 by decide) (by show (0 = 1 → u33.toInt = 0 → (48 ≤ v262.toInt ∧ v262.toInt ≤ 57 ∧ 0 ≤ u43.toInt ∧ u43.toInt ≤ 999 ∧ (u42.toInt = 0 → u43.toInt = 0) ∧ (u42.toInt = 1 → u43.toInt ≤ 9) ∧ (u42.toInt = 2 → u43.toInt ≤ 99))); omega) _ _ _ hP hD hS (lv_sub hl [0, 1, 2, 3] rfl)
                    · have dc565 : 1 = u33.toInt := eq_i (a := 1) (b := u33.toInt) rfl rfl c565
                      have k567 : 1 ≤ u33.toInt ∧ u33.toInt ≤ 1 := ⟨Int.le_trans (Int.le_refl _) (Int.le_of_eq dc565.symm.symm), i35.2⟩
                      refine lv_iconst (v := 1) hx hb dX10_next_216 (by decide) ?_
                      refine lv_goto (tgt := 221) hx hb dX10_next_217 (by decide) ?_
                      refine lv_istore_n (lv' := [(3, .int 1), (2, .int u33), (1, .int v28), (0, .ref h0)]) hx hb dX10_next_221 rfl hl (by decide) rfl (fun ls hl => ?_)
                      exact cut447 1 (show 0 ≤ (1 : Int32).toInt ∧ (1 : Int32).toInt ≤ 1 by decide) (by show (1 = 1 → u33.toInt = 0 → (48 ≤ v262.toInt ∧ v262.toInt ≤ 57 ∧ 0 ≤ u43.toInt ∧ u43.toInt ≤ 999 ∧ (u42.toInt = 0 → u43.toInt = 0) ∧ (u42.toInt = 1 → u43.toInt ≤ 9) ∧ (u42.toInt = 2 → u43.toInt ≤ 99))); omega) _ _ _ hP hD hS (lv_sub hl [0, 1, 2, 3] rfl)
        refine lv_iload_n hx hb dX10_next_95 rfl (lv_at hl 0 rfl) ?_
        refine call_Si (wr := [(h0, .inr (10, vL 67 F9)), (h_tape, .inl (cB, 940, .inl f_tape))]) (As := [.int v28]) (rest := []) hx hb hml hown hw (m_X10_isSmall l D cI cJ cB cP cM cZ v28 _ ) wS_X10_182_X10_isSmall dX10_next_96 hP hD hS hA [] [0, 1] rfl rfl (by decide) (by decide) (by decide) GG.fb hG.at hl.1 rfl (Nat.le_of_ble_eq_true rfl) ⟨(Nat.le_of_ble_eq_true rfl), (Nat.le_of_ble_eq_true rfl)⟩ ⟨(Nat.le_of_ble_eq_true rfl), (Nat.le_of_ble_eq_true rfl)⟩ (fun r568 u H locs hp hP hD hS => ?_)
        rcases hp with ⟨t569, rfl, rfl⟩ | ⟨t570, t571, rfl, rfl⟩ | ⟨t572, t573, rfl, rfl⟩
        · have hP : va_P D vwCl [(h0, .inr (10, vL 67 F9)), (h_tape, .inl (cB, 940, .inl f_tape))] H := hP
          have hD : va_D A [(h0, .inr (10, vL 67 F9)), (h_tape, .inl (cB, 940, .inl f_tape))] := hD
          refine W.widen (k := 0) (n := 0) (Nat.le_of_ble_eq_true rfl) (Nat.le_of_ble_eq_true rfl) ?_
          have k575 : 0 ≤ v28.toInt ∧ v28.toInt ≤ 96 := ⟨k29.1, up_lt t569 (Int.le_refl _) (by decide)⟩
          refine lv_if_ne (tgt := 164) hx hb dX10_next_99 (by decide) (fun g => absurd (by decide) g) (fun _ => ?_)
          refine lv_iload_n hx hb dX10_next_102 rfl (lv_at hl 0 rfl) ?_
          refine call_Si (wr := [(h0, .inr (10, vL 67 F9)), (h_tape, .inl (cB, 940, .inl f_tape))]) (As := [.int v28]) (rest := []) hx hb hml hown hw (m_X10_isDigit l D cI cJ cB cP cM cZ v28 _ ) wS_X10_186_X10_isDigit dX10_next_103 hP hD hS hA [] [0, 1] rfl rfl (by decide) (by decide) (by decide) GG.fb hG.at hl.1 rfl (Nat.le_of_ble_eq_true rfl) ⟨(Nat.le_of_ble_eq_true rfl), (Nat.le_of_ble_eq_true rfl)⟩ ⟨(Nat.le_of_ble_eq_true rfl), (Nat.le_of_ble_eq_true rfl)⟩ (fun r576 u H locs hp hP hD hS => ?_)
          rcases hp with ⟨t577, rfl, rfl⟩ | ⟨t578, t579, rfl, rfl⟩ | ⟨t580, t581, rfl, rfl⟩
          · have hP : va_P D vwCl [(h0, .inr (10, vL 67 F9)), (h_tape, .inl (cB, 940, .inl f_tape))] H := hP
            have hD : va_D A [(h0, .inr (10, vL 67 F9)), (h_tape, .inl (cB, 940, .inl f_tape))] := hD
            refine W.widen (k := 0) (n := 0) (Nat.le_of_ble_eq_true rfl) (Nat.le_of_ble_eq_true rfl) ?_
            have k583 : 0 ≤ v28.toInt ∧ v28.toInt ≤ 47 := ⟨k575.1, up_lt t577 (Int.le_refl _) (by decide)⟩
            refine lv_if_ne (tgt := 164) hx hb dX10_next_106 (by decide) (fun g => absurd (by decide) g) (fun _ => ?_)
            refine lv_aload_n hx hb dX10_next_109 rfl (lv_at hl 1 rfl) ?_
            refine lv_iload_n hx hb dX10_next_110 rfl (lv_at hl 0 rfl) ?_
            refine lv_bipush (v := 59) hx hb dX10_next_111 (by decide) ?_
            refine lv_icmp_eq (tgt := 140) hx hb dX10_next_113 (by decide) (fun c584 => False.elim (bad_le (Int.le_of_eq (eq_i (a := v28.toInt) (b := 59) rfl rfl c584).symm) (Int.le_refl _) k583.2 (by decide))) (fun c584 => ?_)
            have dc584 : v28.toInt ≠ 59 := ne_i (a := v28.toInt) (b := 59) rfl rfl c584
            refine lv_iload_n hx hb dX10_next_116 rfl (lv_at hl 0 rfl) ?_
            refine lv_bipush (v := 40) hx hb dX10_next_117 (by decide) ?_
            refine lv_icmp_eq (tgt := 140) hx hb dX10_next_119 (by decide) (fun c585 => ?_) (fun c585 => ?_)
            · have dc585 : v28.toInt = 40 := eq_i (a := v28.toInt) (b := 40) rfl rfl c585
              have k586 : 40 ≤ v28.toInt ∧ v28.toInt ≤ 40 := ⟨Int.le_trans (Int.le_refl _) (Int.le_of_eq dc585.symm), Int.le_trans (Int.le_of_eq dc585) (Int.le_refl _)⟩
              refine lv_iconst (v := 3) hx hb dX10_next_140 (by decide) ?_
              refine lv_goto (tgt := 145) hx hb dX10_next_141 (by decide) ?_
              refine put_f (D := D) (ci := 10) (v := .int 3) (ty := .int) (C := RX10) (T := TX10) (N := 67) hx hb hw inAX10 tyX10 tyX10_ok nmX10 hown hK hP hD hS 0 rfl rfl 11 (by decide) (hw _ q_1272) (fun _ h9 => h9) rfl (by decide +kernel) rfl rfl dX10_next_145 (fun H locs F587 eF587 hP hD hS => ?_)
              have hP : va_P D vwCl [(h0, .inr (10, vL 67 F587)), (h_tape, .inl (cB, 940, .inl f_tape))] H := hP
              have hD : va_D A [(h0, .inr (10, vL 67 F587)), (h_tape, .inl (cB, 940, .inl f_tape))] := hD
              refine lv_aload_n hx hb dX10_next_148 rfl (lv_at hl 1 rfl) ?_
              refine lv_iload_n hx hb dX10_next_149 rfl (lv_at hl 0 rfl) ?_
              refine put_f (D := D) (ci := 10) (v := .int v28) (ty := .int) (C := RX10) (T := TX10) (N := 67) hx hb hw inAX10 tyX10 tyX10_ok nmX10 hown hK hP hD hS 0 rfl rfl 14 (by decide) (hw _ q_1275) (fun _ h9 => h9) rfl (by decide +kernel) rfl rfl dX10_next_150 (fun H locs F588 eF588 hP hD hS => ?_)
              have hP : va_P D vwCl [(h0, .inr (10, vL 67 F588)), (h_tape, .inl (cB, 940, .inl f_tape))] H := hP
              have hD : va_D A [(h0, .inr (10, vL 67 F588)), (h_tape, .inl (cB, 940, .inl f_tape))] := hD
              refine lv_aload_n hx hb dX10_next_153 rfl (lv_at hl 1 rfl) ?_
              refine lv_dup hx hb dX10_next_154 rfl ?_
              have n589 : F587 4 = .int u2 := (get_ne eF587 (by decide) n21)
              have n590 : F588 4 = .int u2 := (get_ne eF588 (by decide) n589)
              refine get_f (D := D) (ci := 10) (v := .int u2) (C := RX10) (T := TX10) (N := 67) hx hb hw inAX10 hown hK hP 0 rfl rfl 4 (by decide) (hw _ q_1265) (fun _ h9 => h9) n590 dX10_next_155 ?_
              refine lv_iconst (v := 1) hx hb dX10_next_158 (by decide) ?_
              refine lv_iadd hx hb dX10_next_159 ?_
              refine lv_topi (fun v591 ev591 => ?_)
              have bv591 : v591.toInt = u2.toInt + 1 := by rw [ev591]; exact add_k rfl rfl k30 ⟨Int.le_refl _, Int.le_refl _⟩ (by decide)
              have k592 : 1 ≤ v591.toInt ∧ v591.toInt ≤ 940 := add_r bv591 k30 ⟨Int.le_refl _, Int.le_refl _⟩ (by decide)
              refine put_f (D := D) (ci := 10) (v := .int v591) (ty := .int) (C := RX10) (T := TX10) (N := 67) hx hb hw inAX10 tyX10 tyX10_ok nmX10 hown hK hP hD hS 0 rfl rfl 4 (by decide) (hw _ q_1265) (fun _ h9 => h9) rfl (by decide +kernel) rfl rfl dX10_next_160 (fun H locs F593 eF593 hP hD hS => ?_)
              have hP : va_P D vwCl [(h0, .inr (10, vL 67 F593)), (h_tape, .inl (cB, 940, .inl f_tape))] H := hP
              have hD : va_D A [(h0, .inr (10, vL 67 F593)), (h_tape, .inl (cB, 940, .inl f_tape))] := hD
              exact ret_v hx hb hr hlocks hS hP hD dX10_next_163 (Nat.le_of_ble_eq_true rfl) (Nat.le_of_ble_eq_true rfl) ⟨F593, v591, 3, u2, 0, v28, x_word, (SAME.up eF593 (SAME.up eF588 (SAME.up eF587 (SAME.up eF9 (SAME.up eF8 (SAME.tr SAME.rf i4 (by decide)) (by decide)) (by decide)) (by decide)) (by decide)) (by decide)), (get_eq eF593), (ir_wk k592 (by decide) (by decide)), (get_ne eF593 (by decide) (get_ne eF588 (by decide) (get_eq eF587))), (show 0 ≤ (3 : Int32).toInt ∧ (3 : Int32).toInt ≤ 4 by decide), (get_ne eF593 (by decide) (get_ne eF588 (by decide) (get_ne eF587 (by decide) (get_ne eF9 (by decide) (get_eq eF8))))), (ir_wk k30 (by decide) (by decide)), (get_ne eF593 (by decide) (get_ne eF588 (by decide) (get_ne eF587 (by decide) (get_eq eF9)))), (show 0 ≤ (0 : Int32).toInt ∧ (0 : Int32).toInt ≤ 940 by decide), (get_ne eF593 (by decide) (get_eq eF588)), (get_ne eF593 (by decide) (get_ne eF588 (by decide) (get_ne eF587 (by decide) (get_ne eF9 (by decide) (get_ne eF8 (by decide) (SAME.at i4 (by decide) e_word)))))), (by have zl0 : (0 : Int32).toInt = 0 := (by decide); have zl4 : (4 : Int32).toInt = 4 := (by decide); omega), (by have zl0 : (0 : Int32).toInt = 0 := (by decide); have zl4 : (4 : Int32).toInt = 4 := (by decide); omega), (by have zl0 : (0 : Int32).toInt = 0 := (by decide); have zl3 : (3 : Int32).toInt = 3 := (by decide); omega), rfl⟩
            · have dc585 : v28.toInt ≠ 40 := ne_i (a := v28.toInt) (b := 40) rfl rfl c585
              refine lv_iload_n hx hb dX10_next_122 rfl (lv_at hl 0 rfl) ?_
              refine lv_bipush (v := 41) hx hb dX10_next_123 (by decide) ?_
              refine lv_icmp_eq (tgt := 140) hx hb dX10_next_125 (by decide) (fun c594 => ?_) (fun c594 => ?_)
              · have dc594 : v28.toInt = 41 := eq_i (a := v28.toInt) (b := 41) rfl rfl c594
                have k595 : 41 ≤ v28.toInt ∧ v28.toInt ≤ 41 := ⟨Int.le_trans (Int.le_refl _) (Int.le_of_eq dc594.symm), Int.le_trans (Int.le_of_eq dc594) (Int.le_refl _)⟩
                refine lv_iconst (v := 3) hx hb dX10_next_140 (by decide) ?_
                refine lv_goto (tgt := 145) hx hb dX10_next_141 (by decide) ?_
                refine put_f (D := D) (ci := 10) (v := .int 3) (ty := .int) (C := RX10) (T := TX10) (N := 67) hx hb hw inAX10 tyX10 tyX10_ok nmX10 hown hK hP hD hS 0 rfl rfl 11 (by decide) (hw _ q_1272) (fun _ h9 => h9) rfl (by decide +kernel) rfl rfl dX10_next_145 (fun H locs F596 eF596 hP hD hS => ?_)
                have hP : va_P D vwCl [(h0, .inr (10, vL 67 F596)), (h_tape, .inl (cB, 940, .inl f_tape))] H := hP
                have hD : va_D A [(h0, .inr (10, vL 67 F596)), (h_tape, .inl (cB, 940, .inl f_tape))] := hD
                refine lv_aload_n hx hb dX10_next_148 rfl (lv_at hl 1 rfl) ?_
                refine lv_iload_n hx hb dX10_next_149 rfl (lv_at hl 0 rfl) ?_
                refine put_f (D := D) (ci := 10) (v := .int v28) (ty := .int) (C := RX10) (T := TX10) (N := 67) hx hb hw inAX10 tyX10 tyX10_ok nmX10 hown hK hP hD hS 0 rfl rfl 14 (by decide) (hw _ q_1275) (fun _ h9 => h9) rfl (by decide +kernel) rfl rfl dX10_next_150 (fun H locs F597 eF597 hP hD hS => ?_)
                have hP : va_P D vwCl [(h0, .inr (10, vL 67 F597)), (h_tape, .inl (cB, 940, .inl f_tape))] H := hP
                have hD : va_D A [(h0, .inr (10, vL 67 F597)), (h_tape, .inl (cB, 940, .inl f_tape))] := hD
                refine lv_aload_n hx hb dX10_next_153 rfl (lv_at hl 1 rfl) ?_
                refine lv_dup hx hb dX10_next_154 rfl ?_
                have n598 : F596 4 = .int u2 := (get_ne eF596 (by decide) n21)
                have n599 : F597 4 = .int u2 := (get_ne eF597 (by decide) n598)
                refine get_f (D := D) (ci := 10) (v := .int u2) (C := RX10) (T := TX10) (N := 67) hx hb hw inAX10 hown hK hP 0 rfl rfl 4 (by decide) (hw _ q_1265) (fun _ h9 => h9) n599 dX10_next_155 ?_
                refine lv_iconst (v := 1) hx hb dX10_next_158 (by decide) ?_
                refine lv_iadd hx hb dX10_next_159 ?_
                refine lv_topi (fun v600 ev600 => ?_)
                have bv600 : v600.toInt = u2.toInt + 1 := by rw [ev600]; exact add_k rfl rfl k30 ⟨Int.le_refl _, Int.le_refl _⟩ (by decide)
                have k601 : 1 ≤ v600.toInt ∧ v600.toInt ≤ 940 := add_r bv600 k30 ⟨Int.le_refl _, Int.le_refl _⟩ (by decide)
                refine put_f (D := D) (ci := 10) (v := .int v600) (ty := .int) (C := RX10) (T := TX10) (N := 67) hx hb hw inAX10 tyX10 tyX10_ok nmX10 hown hK hP hD hS 0 rfl rfl 4 (by decide) (hw _ q_1265) (fun _ h9 => h9) rfl (by decide +kernel) rfl rfl dX10_next_160 (fun H locs F602 eF602 hP hD hS => ?_)
                have hP : va_P D vwCl [(h0, .inr (10, vL 67 F602)), (h_tape, .inl (cB, 940, .inl f_tape))] H := hP
                have hD : va_D A [(h0, .inr (10, vL 67 F602)), (h_tape, .inl (cB, 940, .inl f_tape))] := hD
                exact ret_v hx hb hr hlocks hS hP hD dX10_next_163 (Nat.le_of_ble_eq_true rfl) (Nat.le_of_ble_eq_true rfl) ⟨F602, v600, 3, u2, 0, v28, x_word, (SAME.up eF602 (SAME.up eF597 (SAME.up eF596 (SAME.up eF9 (SAME.up eF8 (SAME.tr SAME.rf i4 (by decide)) (by decide)) (by decide)) (by decide)) (by decide)) (by decide)), (get_eq eF602), (ir_wk k601 (by decide) (by decide)), (get_ne eF602 (by decide) (get_ne eF597 (by decide) (get_eq eF596))), (show 0 ≤ (3 : Int32).toInt ∧ (3 : Int32).toInt ≤ 4 by decide), (get_ne eF602 (by decide) (get_ne eF597 (by decide) (get_ne eF596 (by decide) (get_ne eF9 (by decide) (get_eq eF8))))), (ir_wk k30 (by decide) (by decide)), (get_ne eF602 (by decide) (get_ne eF597 (by decide) (get_ne eF596 (by decide) (get_eq eF9)))), (show 0 ≤ (0 : Int32).toInt ∧ (0 : Int32).toInt ≤ 940 by decide), (get_ne eF602 (by decide) (get_eq eF597)), (get_ne eF602 (by decide) (get_ne eF597 (by decide) (get_ne eF596 (by decide) (get_ne eF9 (by decide) (get_ne eF8 (by decide) (SAME.at i4 (by decide) e_word)))))), (by have zl0 : (0 : Int32).toInt = 0 := (by decide); have zl4 : (4 : Int32).toInt = 4 := (by decide); omega), (by have zl0 : (0 : Int32).toInt = 0 := (by decide); have zl4 : (4 : Int32).toInt = 4 := (by decide); omega), (by have zl0 : (0 : Int32).toInt = 0 := (by decide); have zl3 : (3 : Int32).toInt = 3 := (by decide); omega), rfl⟩
              · have dc594 : v28.toInt ≠ 41 := ne_i (a := v28.toInt) (b := 41) rfl rfl c594
                refine lv_iload_n hx hb dX10_next_128 rfl (lv_at hl 0 rfl) ?_
                refine lv_bipush (v := 60) hx hb dX10_next_129 (by decide) ?_
                refine lv_icmp_lt (tgt := 144) hx hb dX10_next_131 (by decide) (fun c603 => ?_) (fun c603 => False.elim (bad_le (nlt_i (a := v28.toInt) (b := 60) rfl rfl c603) (Int.le_refl _) k583.2 (by decide)))
                have dc603 : v28.toInt < 60 := lt_i (a := v28.toInt) (b := 60) rfl rfl c603
                refine lv_iconst (v := 4) hx hb dX10_next_144 (by decide) ?_
                refine put_f (D := D) (ci := 10) (v := .int 4) (ty := .int) (C := RX10) (T := TX10) (N := 67) hx hb hw inAX10 tyX10 tyX10_ok nmX10 hown hK hP hD hS 0 rfl rfl 11 (by decide) (hw _ q_1272) (fun _ h9 => h9) rfl (by decide +kernel) rfl rfl dX10_next_145 (fun H locs F604 eF604 hP hD hS => ?_)
                have hP : va_P D vwCl [(h0, .inr (10, vL 67 F604)), (h_tape, .inl (cB, 940, .inl f_tape))] H := hP
                have hD : va_D A [(h0, .inr (10, vL 67 F604)), (h_tape, .inl (cB, 940, .inl f_tape))] := hD
                refine lv_aload_n hx hb dX10_next_148 rfl (lv_at hl 1 rfl) ?_
                refine lv_iload_n hx hb dX10_next_149 rfl (lv_at hl 0 rfl) ?_
                refine put_f (D := D) (ci := 10) (v := .int v28) (ty := .int) (C := RX10) (T := TX10) (N := 67) hx hb hw inAX10 tyX10 tyX10_ok nmX10 hown hK hP hD hS 0 rfl rfl 14 (by decide) (hw _ q_1275) (fun _ h9 => h9) rfl (by decide +kernel) rfl rfl dX10_next_150 (fun H locs F605 eF605 hP hD hS => ?_)
                have hP : va_P D vwCl [(h0, .inr (10, vL 67 F605)), (h_tape, .inl (cB, 940, .inl f_tape))] H := hP
                have hD : va_D A [(h0, .inr (10, vL 67 F605)), (h_tape, .inl (cB, 940, .inl f_tape))] := hD
                refine lv_aload_n hx hb dX10_next_153 rfl (lv_at hl 1 rfl) ?_
                refine lv_dup hx hb dX10_next_154 rfl ?_
                have n606 : F604 4 = .int u2 := (get_ne eF604 (by decide) n21)
                have n607 : F605 4 = .int u2 := (get_ne eF605 (by decide) n606)
                refine get_f (D := D) (ci := 10) (v := .int u2) (C := RX10) (T := TX10) (N := 67) hx hb hw inAX10 hown hK hP 0 rfl rfl 4 (by decide) (hw _ q_1265) (fun _ h9 => h9) n607 dX10_next_155 ?_
                refine lv_iconst (v := 1) hx hb dX10_next_158 (by decide) ?_
                refine lv_iadd hx hb dX10_next_159 ?_
                refine lv_topi (fun v608 ev608 => ?_)
                have bv608 : v608.toInt = u2.toInt + 1 := by rw [ev608]; exact add_k rfl rfl k30 ⟨Int.le_refl _, Int.le_refl _⟩ (by decide)
                have k609 : 1 ≤ v608.toInt ∧ v608.toInt ≤ 940 := add_r bv608 k30 ⟨Int.le_refl _, Int.le_refl _⟩ (by decide)
                refine put_f (D := D) (ci := 10) (v := .int v608) (ty := .int) (C := RX10) (T := TX10) (N := 67) hx hb hw inAX10 tyX10 tyX10_ok nmX10 hown hK hP hD hS 0 rfl rfl 4 (by decide) (hw _ q_1265) (fun _ h9 => h9) rfl (by decide +kernel) rfl rfl dX10_next_160 (fun H locs F610 eF610 hP hD hS => ?_)
                have hP : va_P D vwCl [(h0, .inr (10, vL 67 F610)), (h_tape, .inl (cB, 940, .inl f_tape))] H := hP
                have hD : va_D A [(h0, .inr (10, vL 67 F610)), (h_tape, .inl (cB, 940, .inl f_tape))] := hD
                exact ret_v hx hb hr hlocks hS hP hD dX10_next_163 (Nat.le_of_ble_eq_true rfl) (Nat.le_of_ble_eq_true rfl) ⟨F610, v608, 4, u2, 0, v28, x_word, (SAME.up eF610 (SAME.up eF605 (SAME.up eF604 (SAME.up eF9 (SAME.up eF8 (SAME.tr SAME.rf i4 (by decide)) (by decide)) (by decide)) (by decide)) (by decide)) (by decide)), (get_eq eF610), (ir_wk k609 (by decide) (by decide)), (get_ne eF610 (by decide) (get_ne eF605 (by decide) (get_eq eF604))), (show 0 ≤ (4 : Int32).toInt ∧ (4 : Int32).toInt ≤ 4 by decide), (get_ne eF610 (by decide) (get_ne eF605 (by decide) (get_ne eF604 (by decide) (get_ne eF9 (by decide) (get_eq eF8))))), (ir_wk k30 (by decide) (by decide)), (get_ne eF610 (by decide) (get_ne eF605 (by decide) (get_ne eF604 (by decide) (get_eq eF9)))), (show 0 ≤ (0 : Int32).toInt ∧ (0 : Int32).toInt ≤ 940 by decide), (get_ne eF610 (by decide) (get_eq eF605)), (get_ne eF610 (by decide) (get_ne eF605 (by decide) (get_ne eF604 (by decide) (get_ne eF9 (by decide) (get_ne eF8 (by decide) (SAME.at i4 (by decide) e_word)))))), (by have zl0 : (0 : Int32).toInt = 0 := (by decide); have zl4 : (4 : Int32).toInt = 4 := (by decide); omega), (by have zl0 : (0 : Int32).toInt = 0 := (by decide); have zl4 : (4 : Int32).toInt = 4 := (by decide); omega), (by have zl0 : (0 : Int32).toInt = 0 := (by decide); have zl4 : (4 : Int32).toInt = 4 := (by decide); omega), rfl⟩
          · have hP : va_P D vwCl [(h0, .inr (10, vL 67 F9)), (h_tape, .inl (cB, 940, .inl f_tape))] H := hP
            have hD : va_D A [(h0, .inr (10, vL 67 F9)), (h_tape, .inl (cB, 940, .inl f_tape))] := hD
            refine W.widen (k := 0) (n := 0) (Nat.le_of_ble_eq_true rfl) (Nat.le_of_ble_eq_true rfl) ?_
            have k611 : 48 ≤ v28.toInt ∧ v28.toInt ≤ 96 := ⟨Int.le_trans (Int.le_refl _) t578, k575.2⟩
            have k612 : 58 ≤ v28.toInt ∧ v28.toInt ≤ 96 := ⟨lo_lt t579 (Int.le_refl _) (by decide), k611.2⟩
            refine lv_if_ne (tgt := 164) hx hb dX10_next_106 (by decide) (fun g => absurd (by decide) g) (fun _ => ?_)
            refine lv_aload_n hx hb dX10_next_109 rfl (lv_at hl 1 rfl) ?_
            refine lv_iload_n hx hb dX10_next_110 rfl (lv_at hl 0 rfl) ?_
            refine lv_bipush (v := 59) hx hb dX10_next_111 (by decide) ?_
            refine lv_icmp_eq (tgt := 140) hx hb dX10_next_113 (by decide) (fun c613 => ?_) (fun c613 => ?_)
            · have dc613 : v28.toInt = 59 := eq_i (a := v28.toInt) (b := 59) rfl rfl c613
              have k614 : 59 ≤ v28.toInt ∧ v28.toInt ≤ 59 := ⟨Int.le_trans (Int.le_refl _) (Int.le_of_eq dc613.symm), Int.le_trans (Int.le_of_eq dc613) (Int.le_refl _)⟩
              refine lv_iconst (v := 3) hx hb dX10_next_140 (by decide) ?_
              refine lv_goto (tgt := 145) hx hb dX10_next_141 (by decide) ?_
              refine put_f (D := D) (ci := 10) (v := .int 3) (ty := .int) (C := RX10) (T := TX10) (N := 67) hx hb hw inAX10 tyX10 tyX10_ok nmX10 hown hK hP hD hS 0 rfl rfl 11 (by decide) (hw _ q_1272) (fun _ h9 => h9) rfl (by decide +kernel) rfl rfl dX10_next_145 (fun H locs F615 eF615 hP hD hS => ?_)
              have hP : va_P D vwCl [(h0, .inr (10, vL 67 F615)), (h_tape, .inl (cB, 940, .inl f_tape))] H := hP
              have hD : va_D A [(h0, .inr (10, vL 67 F615)), (h_tape, .inl (cB, 940, .inl f_tape))] := hD
              refine lv_aload_n hx hb dX10_next_148 rfl (lv_at hl 1 rfl) ?_
              refine lv_iload_n hx hb dX10_next_149 rfl (lv_at hl 0 rfl) ?_
              refine put_f (D := D) (ci := 10) (v := .int v28) (ty := .int) (C := RX10) (T := TX10) (N := 67) hx hb hw inAX10 tyX10 tyX10_ok nmX10 hown hK hP hD hS 0 rfl rfl 14 (by decide) (hw _ q_1275) (fun _ h9 => h9) rfl (by decide +kernel) rfl rfl dX10_next_150 (fun H locs F616 eF616 hP hD hS => ?_)
              have hP : va_P D vwCl [(h0, .inr (10, vL 67 F616)), (h_tape, .inl (cB, 940, .inl f_tape))] H := hP
              have hD : va_D A [(h0, .inr (10, vL 67 F616)), (h_tape, .inl (cB, 940, .inl f_tape))] := hD
              refine lv_aload_n hx hb dX10_next_153 rfl (lv_at hl 1 rfl) ?_
              refine lv_dup hx hb dX10_next_154 rfl ?_
              have n617 : F615 4 = .int u2 := (get_ne eF615 (by decide) n21)
              have n618 : F616 4 = .int u2 := (get_ne eF616 (by decide) n617)
              refine get_f (D := D) (ci := 10) (v := .int u2) (C := RX10) (T := TX10) (N := 67) hx hb hw inAX10 hown hK hP 0 rfl rfl 4 (by decide) (hw _ q_1265) (fun _ h9 => h9) n618 dX10_next_155 ?_
              refine lv_iconst (v := 1) hx hb dX10_next_158 (by decide) ?_
              refine lv_iadd hx hb dX10_next_159 ?_
              refine lv_topi (fun v619 ev619 => ?_)
              have bv619 : v619.toInt = u2.toInt + 1 := by rw [ev619]; exact add_k rfl rfl k30 ⟨Int.le_refl _, Int.le_refl _⟩ (by decide)
              have k620 : 1 ≤ v619.toInt ∧ v619.toInt ≤ 940 := add_r bv619 k30 ⟨Int.le_refl _, Int.le_refl _⟩ (by decide)
              refine put_f (D := D) (ci := 10) (v := .int v619) (ty := .int) (C := RX10) (T := TX10) (N := 67) hx hb hw inAX10 tyX10 tyX10_ok nmX10 hown hK hP hD hS 0 rfl rfl 4 (by decide) (hw _ q_1265) (fun _ h9 => h9) rfl (by decide +kernel) rfl rfl dX10_next_160 (fun H locs F621 eF621 hP hD hS => ?_)
              have hP : va_P D vwCl [(h0, .inr (10, vL 67 F621)), (h_tape, .inl (cB, 940, .inl f_tape))] H := hP
              have hD : va_D A [(h0, .inr (10, vL 67 F621)), (h_tape, .inl (cB, 940, .inl f_tape))] := hD
              exact ret_v hx hb hr hlocks hS hP hD dX10_next_163 (Nat.le_of_ble_eq_true rfl) (Nat.le_of_ble_eq_true rfl) ⟨F621, v619, 3, u2, 0, v28, x_word, (SAME.up eF621 (SAME.up eF616 (SAME.up eF615 (SAME.up eF9 (SAME.up eF8 (SAME.tr SAME.rf i4 (by decide)) (by decide)) (by decide)) (by decide)) (by decide)) (by decide)), (get_eq eF621), (ir_wk k620 (by decide) (by decide)), (get_ne eF621 (by decide) (get_ne eF616 (by decide) (get_eq eF615))), (show 0 ≤ (3 : Int32).toInt ∧ (3 : Int32).toInt ≤ 4 by decide), (get_ne eF621 (by decide) (get_ne eF616 (by decide) (get_ne eF615 (by decide) (get_ne eF9 (by decide) (get_eq eF8))))), (ir_wk k30 (by decide) (by decide)), (get_ne eF621 (by decide) (get_ne eF616 (by decide) (get_ne eF615 (by decide) (get_eq eF9)))), (show 0 ≤ (0 : Int32).toInt ∧ (0 : Int32).toInt ≤ 940 by decide), (get_ne eF621 (by decide) (get_eq eF616)), (get_ne eF621 (by decide) (get_ne eF616 (by decide) (get_ne eF615 (by decide) (get_ne eF9 (by decide) (get_ne eF8 (by decide) (SAME.at i4 (by decide) e_word)))))), (by have zl0 : (0 : Int32).toInt = 0 := (by decide); have zl4 : (4 : Int32).toInt = 4 := (by decide); omega), (by have zl0 : (0 : Int32).toInt = 0 := (by decide); have zl4 : (4 : Int32).toInt = 4 := (by decide); omega), (by have zl0 : (0 : Int32).toInt = 0 := (by decide); have zl3 : (3 : Int32).toInt = 3 := (by decide); omega), rfl⟩
            · have dc613 : v28.toInt ≠ 59 := ne_i (a := v28.toInt) (b := 59) rfl rfl c613
              refine lv_iload_n hx hb dX10_next_116 rfl (lv_at hl 0 rfl) ?_
              refine lv_bipush (v := 40) hx hb dX10_next_117 (by decide) ?_
              refine lv_icmp_eq (tgt := 140) hx hb dX10_next_119 (by decide) (fun c622 => False.elim (bad_le (Int.le_of_eq (eq_i (a := v28.toInt) (b := 40) rfl rfl c622)) k612.1 (Int.le_refl _) (by decide))) (fun c622 => ?_)
              have dc622 : v28.toInt ≠ 40 := ne_i (a := v28.toInt) (b := 40) rfl rfl c622
              refine lv_iload_n hx hb dX10_next_122 rfl (lv_at hl 0 rfl) ?_
              refine lv_bipush (v := 41) hx hb dX10_next_123 (by decide) ?_
              refine lv_icmp_eq (tgt := 140) hx hb dX10_next_125 (by decide) (fun c623 => False.elim (bad_le (Int.le_of_eq (eq_i (a := v28.toInt) (b := 41) rfl rfl c623)) k612.1 (Int.le_refl _) (by decide))) (fun c623 => ?_)
              have dc623 : v28.toInt ≠ 41 := ne_i (a := v28.toInt) (b := 41) rfl rfl c623
              refine lv_iload_n hx hb dX10_next_128 rfl (lv_at hl 0 rfl) ?_
              refine lv_bipush (v := 60) hx hb dX10_next_129 (by decide) ?_
              refine lv_icmp_lt (tgt := 144) hx hb dX10_next_131 (by decide) (fun c624 => ?_) (fun c624 => ?_)
              · have dc624 : v28.toInt < 60 := lt_i (a := v28.toInt) (b := 60) rfl rfl c624
                have k625 : 58 ≤ v28.toInt ∧ v28.toInt ≤ 59 := ⟨k612.1, up_lt dc624 (Int.le_refl _) (by decide)⟩
                refine lv_iconst (v := 4) hx hb dX10_next_144 (by decide) ?_
                refine put_f (D := D) (ci := 10) (v := .int 4) (ty := .int) (C := RX10) (T := TX10) (N := 67) hx hb hw inAX10 tyX10 tyX10_ok nmX10 hown hK hP hD hS 0 rfl rfl 11 (by decide) (hw _ q_1272) (fun _ h9 => h9) rfl (by decide +kernel) rfl rfl dX10_next_145 (fun H locs F626 eF626 hP hD hS => ?_)
                have hP : va_P D vwCl [(h0, .inr (10, vL 67 F626)), (h_tape, .inl (cB, 940, .inl f_tape))] H := hP
                have hD : va_D A [(h0, .inr (10, vL 67 F626)), (h_tape, .inl (cB, 940, .inl f_tape))] := hD
                refine lv_aload_n hx hb dX10_next_148 rfl (lv_at hl 1 rfl) ?_
                refine lv_iload_n hx hb dX10_next_149 rfl (lv_at hl 0 rfl) ?_
                refine put_f (D := D) (ci := 10) (v := .int v28) (ty := .int) (C := RX10) (T := TX10) (N := 67) hx hb hw inAX10 tyX10 tyX10_ok nmX10 hown hK hP hD hS 0 rfl rfl 14 (by decide) (hw _ q_1275) (fun _ h9 => h9) rfl (by decide +kernel) rfl rfl dX10_next_150 (fun H locs F627 eF627 hP hD hS => ?_)
                have hP : va_P D vwCl [(h0, .inr (10, vL 67 F627)), (h_tape, .inl (cB, 940, .inl f_tape))] H := hP
                have hD : va_D A [(h0, .inr (10, vL 67 F627)), (h_tape, .inl (cB, 940, .inl f_tape))] := hD
                refine lv_aload_n hx hb dX10_next_153 rfl (lv_at hl 1 rfl) ?_
                refine lv_dup hx hb dX10_next_154 rfl ?_
                have n628 : F626 4 = .int u2 := (get_ne eF626 (by decide) n21)
                have n629 : F627 4 = .int u2 := (get_ne eF627 (by decide) n628)
                refine get_f (D := D) (ci := 10) (v := .int u2) (C := RX10) (T := TX10) (N := 67) hx hb hw inAX10 hown hK hP 0 rfl rfl 4 (by decide) (hw _ q_1265) (fun _ h9 => h9) n629 dX10_next_155 ?_
                refine lv_iconst (v := 1) hx hb dX10_next_158 (by decide) ?_
                refine lv_iadd hx hb dX10_next_159 ?_
                refine lv_topi (fun v630 ev630 => ?_)
                have bv630 : v630.toInt = u2.toInt + 1 := by rw [ev630]; exact add_k rfl rfl k30 ⟨Int.le_refl _, Int.le_refl _⟩ (by decide)
                have k631 : 1 ≤ v630.toInt ∧ v630.toInt ≤ 940 := add_r bv630 k30 ⟨Int.le_refl _, Int.le_refl _⟩ (by decide)
                refine put_f (D := D) (ci := 10) (v := .int v630) (ty := .int) (C := RX10) (T := TX10) (N := 67) hx hb hw inAX10 tyX10 tyX10_ok nmX10 hown hK hP hD hS 0 rfl rfl 4 (by decide) (hw _ q_1265) (fun _ h9 => h9) rfl (by decide +kernel) rfl rfl dX10_next_160 (fun H locs F632 eF632 hP hD hS => ?_)
                have hP : va_P D vwCl [(h0, .inr (10, vL 67 F632)), (h_tape, .inl (cB, 940, .inl f_tape))] H := hP
                have hD : va_D A [(h0, .inr (10, vL 67 F632)), (h_tape, .inl (cB, 940, .inl f_tape))] := hD
                exact ret_v hx hb hr hlocks hS hP hD dX10_next_163 (Nat.le_of_ble_eq_true rfl) (Nat.le_of_ble_eq_true rfl) ⟨F632, v630, 4, u2, 0, v28, x_word, (SAME.up eF632 (SAME.up eF627 (SAME.up eF626 (SAME.up eF9 (SAME.up eF8 (SAME.tr SAME.rf i4 (by decide)) (by decide)) (by decide)) (by decide)) (by decide)) (by decide)), (get_eq eF632), (ir_wk k631 (by decide) (by decide)), (get_ne eF632 (by decide) (get_ne eF627 (by decide) (get_eq eF626))), (show 0 ≤ (4 : Int32).toInt ∧ (4 : Int32).toInt ≤ 4 by decide), (get_ne eF632 (by decide) (get_ne eF627 (by decide) (get_ne eF626 (by decide) (get_ne eF9 (by decide) (get_eq eF8))))), (ir_wk k30 (by decide) (by decide)), (get_ne eF632 (by decide) (get_ne eF627 (by decide) (get_ne eF626 (by decide) (get_eq eF9)))), (show 0 ≤ (0 : Int32).toInt ∧ (0 : Int32).toInt ≤ 940 by decide), (get_ne eF632 (by decide) (get_eq eF627)), (get_ne eF632 (by decide) (get_ne eF627 (by decide) (get_ne eF626 (by decide) (get_ne eF9 (by decide) (get_ne eF8 (by decide) (SAME.at i4 (by decide) e_word)))))), (by have zl0 : (0 : Int32).toInt = 0 := (by decide); have zl4 : (4 : Int32).toInt = 4 := (by decide); omega), (by have zl0 : (0 : Int32).toInt = 0 := (by decide); have zl4 : (4 : Int32).toInt = 4 := (by decide); omega), (by have zl0 : (0 : Int32).toInt = 0 := (by decide); have zl4 : (4 : Int32).toInt = 4 := (by decide); omega), rfl⟩
              · have dc624 : 60 ≤ v28.toInt := nlt_i (a := v28.toInt) (b := 60) rfl rfl c624
                have k633 : 60 ≤ v28.toInt ∧ v28.toInt ≤ 96 := ⟨Int.le_trans (Int.le_refl _) dc624, k612.2⟩
                refine lv_iload_n hx hb dX10_next_134 rfl (lv_at hl 0 rfl) ?_
                refine lv_bipush (v := 62) hx hb dX10_next_135 (by decide) ?_
                refine lv_icmp_gt (tgt := 144) hx hb dX10_next_137 (by decide) (fun c634 => ?_) (fun c634 => ?_)
                · have dc634 : 62 < v28.toInt := lt_i (a := 62) (b := v28.toInt) rfl rfl c634
                  have k635 : 63 ≤ v28.toInt ∧ v28.toInt ≤ 96 := ⟨lo_lt dc634 (Int.le_refl _) (by decide), k633.2⟩
                  refine lv_iconst (v := 4) hx hb dX10_next_144 (by decide) ?_
                  refine put_f (D := D) (ci := 10) (v := .int 4) (ty := .int) (C := RX10) (T := TX10) (N := 67) hx hb hw inAX10 tyX10 tyX10_ok nmX10 hown hK hP hD hS 0 rfl rfl 11 (by decide) (hw _ q_1272) (fun _ h9 => h9) rfl (by decide +kernel) rfl rfl dX10_next_145 (fun H locs F636 eF636 hP hD hS => ?_)
                  have hP : va_P D vwCl [(h0, .inr (10, vL 67 F636)), (h_tape, .inl (cB, 940, .inl f_tape))] H := hP
                  have hD : va_D A [(h0, .inr (10, vL 67 F636)), (h_tape, .inl (cB, 940, .inl f_tape))] := hD
                  refine lv_aload_n hx hb dX10_next_148 rfl (lv_at hl 1 rfl) ?_
                  refine lv_iload_n hx hb dX10_next_149 rfl (lv_at hl 0 rfl) ?_
                  refine put_f (D := D) (ci := 10) (v := .int v28) (ty := .int) (C := RX10) (T := TX10) (N := 67) hx hb hw inAX10 tyX10 tyX10_ok nmX10 hown hK hP hD hS 0 rfl rfl 14 (by decide) (hw _ q_1275) (fun _ h9 => h9) rfl (by decide +kernel) rfl rfl dX10_next_150 (fun H locs F637 eF637 hP hD hS => ?_)
                  have hP : va_P D vwCl [(h0, .inr (10, vL 67 F637)), (h_tape, .inl (cB, 940, .inl f_tape))] H := hP
                  have hD : va_D A [(h0, .inr (10, vL 67 F637)), (h_tape, .inl (cB, 940, .inl f_tape))] := hD
                  refine lv_aload_n hx hb dX10_next_153 rfl (lv_at hl 1 rfl) ?_
                  refine lv_dup hx hb dX10_next_154 rfl ?_
                  have n638 : F636 4 = .int u2 := (get_ne eF636 (by decide) n21)
                  have n639 : F637 4 = .int u2 := (get_ne eF637 (by decide) n638)
                  refine get_f (D := D) (ci := 10) (v := .int u2) (C := RX10) (T := TX10) (N := 67) hx hb hw inAX10 hown hK hP 0 rfl rfl 4 (by decide) (hw _ q_1265) (fun _ h9 => h9) n639 dX10_next_155 ?_
                  refine lv_iconst (v := 1) hx hb dX10_next_158 (by decide) ?_
                  refine lv_iadd hx hb dX10_next_159 ?_
                  refine lv_topi (fun v640 ev640 => ?_)
                  have bv640 : v640.toInt = u2.toInt + 1 := by rw [ev640]; exact add_k rfl rfl k30 ⟨Int.le_refl _, Int.le_refl _⟩ (by decide)
                  have k641 : 1 ≤ v640.toInt ∧ v640.toInt ≤ 940 := add_r bv640 k30 ⟨Int.le_refl _, Int.le_refl _⟩ (by decide)
                  refine put_f (D := D) (ci := 10) (v := .int v640) (ty := .int) (C := RX10) (T := TX10) (N := 67) hx hb hw inAX10 tyX10 tyX10_ok nmX10 hown hK hP hD hS 0 rfl rfl 4 (by decide) (hw _ q_1265) (fun _ h9 => h9) rfl (by decide +kernel) rfl rfl dX10_next_160 (fun H locs F642 eF642 hP hD hS => ?_)
                  have hP : va_P D vwCl [(h0, .inr (10, vL 67 F642)), (h_tape, .inl (cB, 940, .inl f_tape))] H := hP
                  have hD : va_D A [(h0, .inr (10, vL 67 F642)), (h_tape, .inl (cB, 940, .inl f_tape))] := hD
                  exact ret_v hx hb hr hlocks hS hP hD dX10_next_163 (Nat.le_of_ble_eq_true rfl) (Nat.le_of_ble_eq_true rfl) ⟨F642, v640, 4, u2, 0, v28, x_word, (SAME.up eF642 (SAME.up eF637 (SAME.up eF636 (SAME.up eF9 (SAME.up eF8 (SAME.tr SAME.rf i4 (by decide)) (by decide)) (by decide)) (by decide)) (by decide)) (by decide)), (get_eq eF642), (ir_wk k641 (by decide) (by decide)), (get_ne eF642 (by decide) (get_ne eF637 (by decide) (get_eq eF636))), (show 0 ≤ (4 : Int32).toInt ∧ (4 : Int32).toInt ≤ 4 by decide), (get_ne eF642 (by decide) (get_ne eF637 (by decide) (get_ne eF636 (by decide) (get_ne eF9 (by decide) (get_eq eF8))))), (ir_wk k30 (by decide) (by decide)), (get_ne eF642 (by decide) (get_ne eF637 (by decide) (get_ne eF636 (by decide) (get_eq eF9)))), (show 0 ≤ (0 : Int32).toInt ∧ (0 : Int32).toInt ≤ 940 by decide), (get_ne eF642 (by decide) (get_eq eF637)), (get_ne eF642 (by decide) (get_ne eF637 (by decide) (get_ne eF636 (by decide) (get_ne eF9 (by decide) (get_ne eF8 (by decide) (SAME.at i4 (by decide) e_word)))))), (by have zl0 : (0 : Int32).toInt = 0 := (by decide); have zl4 : (4 : Int32).toInt = 4 := (by decide); omega), (by have zl0 : (0 : Int32).toInt = 0 := (by decide); have zl4 : (4 : Int32).toInt = 4 := (by decide); omega), (by have zl0 : (0 : Int32).toInt = 0 := (by decide); have zl4 : (4 : Int32).toInt = 4 := (by decide); omega), rfl⟩
                · have dc634 : v28.toInt ≤ 62 := nlt_i (a := 62) (b := v28.toInt) rfl rfl c634
                  have k643 : 60 ≤ v28.toInt ∧ v28.toInt ≤ 62 := ⟨k633.1, Int.le_trans dc634 (Int.le_refl _)⟩
                  refine lv_iconst (v := 3) hx hb dX10_next_140 (by decide) ?_
                  refine lv_goto (tgt := 145) hx hb dX10_next_141 (by decide) ?_
                  refine put_f (D := D) (ci := 10) (v := .int 3) (ty := .int) (C := RX10) (T := TX10) (N := 67) hx hb hw inAX10 tyX10 tyX10_ok nmX10 hown hK hP hD hS 0 rfl rfl 11 (by decide) (hw _ q_1272) (fun _ h9 => h9) rfl (by decide +kernel) rfl rfl dX10_next_145 (fun H locs F644 eF644 hP hD hS => ?_)
                  have hP : va_P D vwCl [(h0, .inr (10, vL 67 F644)), (h_tape, .inl (cB, 940, .inl f_tape))] H := hP
                  have hD : va_D A [(h0, .inr (10, vL 67 F644)), (h_tape, .inl (cB, 940, .inl f_tape))] := hD
                  refine lv_aload_n hx hb dX10_next_148 rfl (lv_at hl 1 rfl) ?_
                  refine lv_iload_n hx hb dX10_next_149 rfl (lv_at hl 0 rfl) ?_
                  refine put_f (D := D) (ci := 10) (v := .int v28) (ty := .int) (C := RX10) (T := TX10) (N := 67) hx hb hw inAX10 tyX10 tyX10_ok nmX10 hown hK hP hD hS 0 rfl rfl 14 (by decide) (hw _ q_1275) (fun _ h9 => h9) rfl (by decide +kernel) rfl rfl dX10_next_150 (fun H locs F645 eF645 hP hD hS => ?_)
                  have hP : va_P D vwCl [(h0, .inr (10, vL 67 F645)), (h_tape, .inl (cB, 940, .inl f_tape))] H := hP
                  have hD : va_D A [(h0, .inr (10, vL 67 F645)), (h_tape, .inl (cB, 940, .inl f_tape))] := hD
                  refine lv_aload_n hx hb dX10_next_153 rfl (lv_at hl 1 rfl) ?_
                  refine lv_dup hx hb dX10_next_154 rfl ?_
                  have n646 : F644 4 = .int u2 := (get_ne eF644 (by decide) n21)
                  have n647 : F645 4 = .int u2 := (get_ne eF645 (by decide) n646)
                  refine get_f (D := D) (ci := 10) (v := .int u2) (C := RX10) (T := TX10) (N := 67) hx hb hw inAX10 hown hK hP 0 rfl rfl 4 (by decide) (hw _ q_1265) (fun _ h9 => h9) n647 dX10_next_155 ?_
                  refine lv_iconst (v := 1) hx hb dX10_next_158 (by decide) ?_
                  refine lv_iadd hx hb dX10_next_159 ?_
                  refine lv_topi (fun v648 ev648 => ?_)
                  have bv648 : v648.toInt = u2.toInt + 1 := by rw [ev648]; exact add_k rfl rfl k30 ⟨Int.le_refl _, Int.le_refl _⟩ (by decide)
                  have k649 : 1 ≤ v648.toInt ∧ v648.toInt ≤ 940 := add_r bv648 k30 ⟨Int.le_refl _, Int.le_refl _⟩ (by decide)
                  refine put_f (D := D) (ci := 10) (v := .int v648) (ty := .int) (C := RX10) (T := TX10) (N := 67) hx hb hw inAX10 tyX10 tyX10_ok nmX10 hown hK hP hD hS 0 rfl rfl 4 (by decide) (hw _ q_1265) (fun _ h9 => h9) rfl (by decide +kernel) rfl rfl dX10_next_160 (fun H locs F650 eF650 hP hD hS => ?_)
                  have hP : va_P D vwCl [(h0, .inr (10, vL 67 F650)), (h_tape, .inl (cB, 940, .inl f_tape))] H := hP
                  have hD : va_D A [(h0, .inr (10, vL 67 F650)), (h_tape, .inl (cB, 940, .inl f_tape))] := hD
                  exact ret_v hx hb hr hlocks hS hP hD dX10_next_163 (Nat.le_of_ble_eq_true rfl) (Nat.le_of_ble_eq_true rfl) ⟨F650, v648, 3, u2, 0, v28, x_word, (SAME.up eF650 (SAME.up eF645 (SAME.up eF644 (SAME.up eF9 (SAME.up eF8 (SAME.tr SAME.rf i4 (by decide)) (by decide)) (by decide)) (by decide)) (by decide)) (by decide)), (get_eq eF650), (ir_wk k649 (by decide) (by decide)), (get_ne eF650 (by decide) (get_ne eF645 (by decide) (get_eq eF644))), (show 0 ≤ (3 : Int32).toInt ∧ (3 : Int32).toInt ≤ 4 by decide), (get_ne eF650 (by decide) (get_ne eF645 (by decide) (get_ne eF644 (by decide) (get_ne eF9 (by decide) (get_eq eF8))))), (ir_wk k30 (by decide) (by decide)), (get_ne eF650 (by decide) (get_ne eF645 (by decide) (get_ne eF644 (by decide) (get_eq eF9)))), (show 0 ≤ (0 : Int32).toInt ∧ (0 : Int32).toInt ≤ 940 by decide), (get_ne eF650 (by decide) (get_eq eF645)), (get_ne eF650 (by decide) (get_ne eF645 (by decide) (get_ne eF644 (by decide) (get_ne eF9 (by decide) (get_ne eF8 (by decide) (SAME.at i4 (by decide) e_word)))))), (by have zl0 : (0 : Int32).toInt = 0 := (by decide); have zl4 : (4 : Int32).toInt = 4 := (by decide); omega), (by have zl0 : (0 : Int32).toInt = 0 := (by decide); have zl4 : (4 : Int32).toInt = 4 := (by decide); omega), (by have zl0 : (0 : Int32).toInt = 0 := (by decide); have zl3 : (3 : Int32).toInt = 3 := (by decide); omega), rfl⟩
          · have hP : va_P D vwCl [(h0, .inr (10, vL 67 F9)), (h_tape, .inl (cB, 940, .inl f_tape))] H := hP
            have hD : va_D A [(h0, .inr (10, vL 67 F9)), (h_tape, .inl (cB, 940, .inl f_tape))] := hD
            refine W.widen (k := 0) (n := 0) (Nat.le_of_ble_eq_true rfl) (Nat.le_of_ble_eq_true rfl) ?_
            have k651 : 48 ≤ v28.toInt ∧ v28.toInt ≤ 96 := ⟨Int.le_trans (Int.le_refl _) t580, k575.2⟩
            have k652 : 48 ≤ v28.toInt ∧ v28.toInt ≤ 57 := ⟨k651.1, Int.le_trans t581 (Int.le_refl _)⟩
            refine lv_if_ne (tgt := 164) hx hb dX10_next_106 (by decide) (fun _ => ?_) (fun g => absurd g (by decide))
            refine lv_iload_n hx hb dX10_next_164 rfl (lv_at hl 0 rfl) ?_
            refine call_Si (wr := [(h0, .inr (10, vL 67 F9)), (h_tape, .inl (cB, 940, .inl f_tape))]) (As := [.int v28]) (rest := []) hx hb hml hown hw (m_X10_isSmall l D cI cJ cB cP cM cZ v28 _ ) wS_X10_182_X10_isSmall dX10_next_165 hP hD hS hA [] [0, 1] rfl rfl (by decide) (by decide) (by decide) GG.fb hG.at hl.1 rfl (Nat.le_of_ble_eq_true rfl) ⟨(Nat.le_of_ble_eq_true rfl), (Nat.le_of_ble_eq_true rfl)⟩ ⟨(Nat.le_of_ble_eq_true rfl), (Nat.le_of_ble_eq_true rfl)⟩ (fun r653 u H locs hp hP hD hS => ?_)
            rcases hp with ⟨t654, rfl, rfl⟩ | ⟨t655, t656, rfl, rfl⟩ | ⟨t657, t658, rfl, rfl⟩
            · have hP : va_P D vwCl [(h0, .inr (10, vL 67 F9)), (h_tape, .inl (cB, 940, .inl f_tape))] H := hP
              have hD : va_D A [(h0, .inr (10, vL 67 F9)), (h_tape, .inl (cB, 940, .inl f_tape))] := hD
              refine W.widen (k := 0) (n := 0) (Nat.le_of_ble_eq_true rfl) (Nat.le_of_ble_eq_true rfl) ?_
              refine lv_istore_n (lv' := [(2, .int 0), (1, .int v28), (0, .ref h0)]) hx hb dX10_next_168 rfl hl (by decide) rfl (fun ls hl => ?_)
              refine lv_iconst (v := 1) hx hb dX10_next_169 (by decide) ?_
              refine lv_istore_n (lv' := [(3, .int 1), (2, .int 0), (1, .int v28), (0, .ref h0)]) hx hb dX10_next_170 rfl hl (by decide) rfl (fun ls hl => ?_)
              exact cut34 0 (show 0 ≤ (0 : Int32).toInt ∧ (0 : Int32).toInt ≤ 1 by decide) (by show ((48 ≤ v28.toInt ∧ v28.toInt ≤ 57 ∧ 0 = 0) ∨ (97 ≤ v28.toInt ∧ v28.toInt ≤ 122 ∧ 0 = 1)); omega) _ _ _ hP hD hS (lv_sub hl [0, 1, 2, 3] rfl)
            · have hP : va_P D vwCl [(h0, .inr (10, vL 67 F9)), (h_tape, .inl (cB, 940, .inl f_tape))] H := hP
              have hD : va_D A [(h0, .inr (10, vL 67 F9)), (h_tape, .inl (cB, 940, .inl f_tape))] := hD
              refine W.widen (k := 0) (n := 0) (Nat.le_of_ble_eq_true rfl) (Nat.le_of_ble_eq_true rfl) ?_
              exact False.elim (bad_le t655 (Int.le_refl _) k652.2 (by decide))
            · have hP : va_P D vwCl [(h0, .inr (10, vL 67 F9)), (h_tape, .inl (cB, 940, .inl f_tape))] H := hP
              have hD : va_D A [(h0, .inr (10, vL 67 F9)), (h_tape, .inl (cB, 940, .inl f_tape))] := hD
              refine W.widen (k := 0) (n := 0) (Nat.le_of_ble_eq_true rfl) (Nat.le_of_ble_eq_true rfl) ?_
              exact False.elim (bad_le t657 (Int.le_refl _) k652.2 (by decide))
        · have hP : va_P D vwCl [(h0, .inr (10, vL 67 F9)), (h_tape, .inl (cB, 940, .inl f_tape))] H := hP
          have hD : va_D A [(h0, .inr (10, vL 67 F9)), (h_tape, .inl (cB, 940, .inl f_tape))] := hD
          refine W.widen (k := 0) (n := 0) (Nat.le_of_ble_eq_true rfl) (Nat.le_of_ble_eq_true rfl) ?_
          have k660 : 97 ≤ v28.toInt ∧ v28.toInt ≤ 255 := ⟨Int.le_trans (Int.le_refl _) t570, k29.2⟩
          have k661 : 123 ≤ v28.toInt ∧ v28.toInt ≤ 255 := ⟨lo_lt t571 (Int.le_refl _) (by decide), k660.2⟩
          refine lv_if_ne (tgt := 164) hx hb dX10_next_99 (by decide) (fun g => absurd (by decide) g) (fun _ => ?_)
          refine lv_iload_n hx hb dX10_next_102 rfl (lv_at hl 0 rfl) ?_
          refine call_Si (wr := [(h0, .inr (10, vL 67 F9)), (h_tape, .inl (cB, 940, .inl f_tape))]) (As := [.int v28]) (rest := []) hx hb hml hown hw (m_X10_isDigit l D cI cJ cB cP cM cZ v28 _ ) wS_X10_186_X10_isDigit dX10_next_103 hP hD hS hA [] [0, 1] rfl rfl (by decide) (by decide) (by decide) GG.fb hG.at hl.1 rfl (Nat.le_of_ble_eq_true rfl) ⟨(Nat.le_of_ble_eq_true rfl), (Nat.le_of_ble_eq_true rfl)⟩ ⟨(Nat.le_of_ble_eq_true rfl), (Nat.le_of_ble_eq_true rfl)⟩ (fun r662 u H locs hp hP hD hS => ?_)
          rcases hp with ⟨t663, rfl, rfl⟩ | ⟨t664, t665, rfl, rfl⟩ | ⟨t666, t667, rfl, rfl⟩
          · have hP : va_P D vwCl [(h0, .inr (10, vL 67 F9)), (h_tape, .inl (cB, 940, .inl f_tape))] H := hP
            have hD : va_D A [(h0, .inr (10, vL 67 F9)), (h_tape, .inl (cB, 940, .inl f_tape))] := hD
            refine W.widen (k := 0) (n := 0) (Nat.le_of_ble_eq_true rfl) (Nat.le_of_ble_eq_true rfl) ?_
            exact False.elim (bad_lt t663 k661.1 (Int.le_refl _) (by decide))
          · have hP : va_P D vwCl [(h0, .inr (10, vL 67 F9)), (h_tape, .inl (cB, 940, .inl f_tape))] H := hP
            have hD : va_D A [(h0, .inr (10, vL 67 F9)), (h_tape, .inl (cB, 940, .inl f_tape))] := hD
            refine W.widen (k := 0) (n := 0) (Nat.le_of_ble_eq_true rfl) (Nat.le_of_ble_eq_true rfl) ?_
            refine lv_if_ne (tgt := 164) hx hb dX10_next_106 (by decide) (fun g => absurd (by decide) g) (fun _ => ?_)
            refine lv_aload_n hx hb dX10_next_109 rfl (lv_at hl 1 rfl) ?_
            refine lv_iload_n hx hb dX10_next_110 rfl (lv_at hl 0 rfl) ?_
            refine lv_bipush (v := 59) hx hb dX10_next_111 (by decide) ?_
            refine lv_icmp_eq (tgt := 140) hx hb dX10_next_113 (by decide) (fun c669 => False.elim (bad_le (Int.le_of_eq (eq_i (a := v28.toInt) (b := 59) rfl rfl c669)) k661.1 (Int.le_refl _) (by decide))) (fun c669 => ?_)
            have dc669 : v28.toInt ≠ 59 := ne_i (a := v28.toInt) (b := 59) rfl rfl c669
            refine lv_iload_n hx hb dX10_next_116 rfl (lv_at hl 0 rfl) ?_
            refine lv_bipush (v := 40) hx hb dX10_next_117 (by decide) ?_
            refine lv_icmp_eq (tgt := 140) hx hb dX10_next_119 (by decide) (fun c670 => False.elim (bad_le (Int.le_of_eq (eq_i (a := v28.toInt) (b := 40) rfl rfl c670)) k661.1 (Int.le_refl _) (by decide))) (fun c670 => ?_)
            have dc670 : v28.toInt ≠ 40 := ne_i (a := v28.toInt) (b := 40) rfl rfl c670
            refine lv_iload_n hx hb dX10_next_122 rfl (lv_at hl 0 rfl) ?_
            refine lv_bipush (v := 41) hx hb dX10_next_123 (by decide) ?_
            refine lv_icmp_eq (tgt := 140) hx hb dX10_next_125 (by decide) (fun c671 => False.elim (bad_le (Int.le_of_eq (eq_i (a := v28.toInt) (b := 41) rfl rfl c671)) k661.1 (Int.le_refl _) (by decide))) (fun c671 => ?_)
            have dc671 : v28.toInt ≠ 41 := ne_i (a := v28.toInt) (b := 41) rfl rfl c671
            refine lv_iload_n hx hb dX10_next_128 rfl (lv_at hl 0 rfl) ?_
            refine lv_bipush (v := 60) hx hb dX10_next_129 (by decide) ?_
            refine lv_icmp_lt (tgt := 144) hx hb dX10_next_131 (by decide) (fun c672 => False.elim (bad_lt (lt_i (a := v28.toInt) (b := 60) rfl rfl c672) k661.1 (Int.le_refl _) (by decide))) (fun c672 => ?_)
            have dc672 : 60 ≤ v28.toInt := nlt_i (a := v28.toInt) (b := 60) rfl rfl c672
            refine lv_iload_n hx hb dX10_next_134 rfl (lv_at hl 0 rfl) ?_
            refine lv_bipush (v := 62) hx hb dX10_next_135 (by decide) ?_
            refine lv_icmp_gt (tgt := 144) hx hb dX10_next_137 (by decide) (fun c673 => ?_) (fun c673 => False.elim (bad_le (nlt_i (a := 62) (b := v28.toInt) rfl rfl c673) k661.1 (Int.le_refl _) (by decide)))
            have dc673 : 62 < v28.toInt := lt_i (a := 62) (b := v28.toInt) rfl rfl c673
            refine lv_iconst (v := 4) hx hb dX10_next_144 (by decide) ?_
            refine put_f (D := D) (ci := 10) (v := .int 4) (ty := .int) (C := RX10) (T := TX10) (N := 67) hx hb hw inAX10 tyX10 tyX10_ok nmX10 hown hK hP hD hS 0 rfl rfl 11 (by decide) (hw _ q_1272) (fun _ h9 => h9) rfl (by decide +kernel) rfl rfl dX10_next_145 (fun H locs F674 eF674 hP hD hS => ?_)
            have hP : va_P D vwCl [(h0, .inr (10, vL 67 F674)), (h_tape, .inl (cB, 940, .inl f_tape))] H := hP
            have hD : va_D A [(h0, .inr (10, vL 67 F674)), (h_tape, .inl (cB, 940, .inl f_tape))] := hD
            refine lv_aload_n hx hb dX10_next_148 rfl (lv_at hl 1 rfl) ?_
            refine lv_iload_n hx hb dX10_next_149 rfl (lv_at hl 0 rfl) ?_
            refine put_f (D := D) (ci := 10) (v := .int v28) (ty := .int) (C := RX10) (T := TX10) (N := 67) hx hb hw inAX10 tyX10 tyX10_ok nmX10 hown hK hP hD hS 0 rfl rfl 14 (by decide) (hw _ q_1275) (fun _ h9 => h9) rfl (by decide +kernel) rfl rfl dX10_next_150 (fun H locs F675 eF675 hP hD hS => ?_)
            have hP : va_P D vwCl [(h0, .inr (10, vL 67 F675)), (h_tape, .inl (cB, 940, .inl f_tape))] H := hP
            have hD : va_D A [(h0, .inr (10, vL 67 F675)), (h_tape, .inl (cB, 940, .inl f_tape))] := hD
            refine lv_aload_n hx hb dX10_next_153 rfl (lv_at hl 1 rfl) ?_
            refine lv_dup hx hb dX10_next_154 rfl ?_
            have n676 : F674 4 = .int u2 := (get_ne eF674 (by decide) n21)
            have n677 : F675 4 = .int u2 := (get_ne eF675 (by decide) n676)
            refine get_f (D := D) (ci := 10) (v := .int u2) (C := RX10) (T := TX10) (N := 67) hx hb hw inAX10 hown hK hP 0 rfl rfl 4 (by decide) (hw _ q_1265) (fun _ h9 => h9) n677 dX10_next_155 ?_
            refine lv_iconst (v := 1) hx hb dX10_next_158 (by decide) ?_
            refine lv_iadd hx hb dX10_next_159 ?_
            refine lv_topi (fun v678 ev678 => ?_)
            have bv678 : v678.toInt = u2.toInt + 1 := by rw [ev678]; exact add_k rfl rfl k30 ⟨Int.le_refl _, Int.le_refl _⟩ (by decide)
            have k679 : 1 ≤ v678.toInt ∧ v678.toInt ≤ 940 := add_r bv678 k30 ⟨Int.le_refl _, Int.le_refl _⟩ (by decide)
            refine put_f (D := D) (ci := 10) (v := .int v678) (ty := .int) (C := RX10) (T := TX10) (N := 67) hx hb hw inAX10 tyX10 tyX10_ok nmX10 hown hK hP hD hS 0 rfl rfl 4 (by decide) (hw _ q_1265) (fun _ h9 => h9) rfl (by decide +kernel) rfl rfl dX10_next_160 (fun H locs F680 eF680 hP hD hS => ?_)
            have hP : va_P D vwCl [(h0, .inr (10, vL 67 F680)), (h_tape, .inl (cB, 940, .inl f_tape))] H := hP
            have hD : va_D A [(h0, .inr (10, vL 67 F680)), (h_tape, .inl (cB, 940, .inl f_tape))] := hD
            exact ret_v hx hb hr hlocks hS hP hD dX10_next_163 (Nat.le_of_ble_eq_true rfl) (Nat.le_of_ble_eq_true rfl) ⟨F680, v678, 4, u2, 0, v28, x_word, (SAME.up eF680 (SAME.up eF675 (SAME.up eF674 (SAME.up eF9 (SAME.up eF8 (SAME.tr SAME.rf i4 (by decide)) (by decide)) (by decide)) (by decide)) (by decide)) (by decide)), (get_eq eF680), (ir_wk k679 (by decide) (by decide)), (get_ne eF680 (by decide) (get_ne eF675 (by decide) (get_eq eF674))), (show 0 ≤ (4 : Int32).toInt ∧ (4 : Int32).toInt ≤ 4 by decide), (get_ne eF680 (by decide) (get_ne eF675 (by decide) (get_ne eF674 (by decide) (get_ne eF9 (by decide) (get_eq eF8))))), (ir_wk k30 (by decide) (by decide)), (get_ne eF680 (by decide) (get_ne eF675 (by decide) (get_ne eF674 (by decide) (get_eq eF9)))), (show 0 ≤ (0 : Int32).toInt ∧ (0 : Int32).toInt ≤ 940 by decide), (get_ne eF680 (by decide) (get_eq eF675)), (get_ne eF680 (by decide) (get_ne eF675 (by decide) (get_ne eF674 (by decide) (get_ne eF9 (by decide) (get_ne eF8 (by decide) (SAME.at i4 (by decide) e_word)))))), (by have zl0 : (0 : Int32).toInt = 0 := (by decide); have zl4 : (4 : Int32).toInt = 4 := (by decide); omega), (by have zl0 : (0 : Int32).toInt = 0 := (by decide); have zl4 : (4 : Int32).toInt = 4 := (by decide); omega), (by have zl0 : (0 : Int32).toInt = 0 := (by decide); have zl4 : (4 : Int32).toInt = 4 := (by decide); omega), rfl⟩
          · have hP : va_P D vwCl [(h0, .inr (10, vL 67 F9)), (h_tape, .inl (cB, 940, .inl f_tape))] H := hP
            have hD : va_D A [(h0, .inr (10, vL 67 F9)), (h_tape, .inl (cB, 940, .inl f_tape))] := hD
            refine W.widen (k := 0) (n := 0) (Nat.le_of_ble_eq_true rfl) (Nat.le_of_ble_eq_true rfl) ?_
            exact False.elim (bad_le t667 k661.1 (Int.le_refl _) (by decide))
        · have hP : va_P D vwCl [(h0, .inr (10, vL 67 F9)), (h_tape, .inl (cB, 940, .inl f_tape))] H := hP
          have hD : va_D A [(h0, .inr (10, vL 67 F9)), (h_tape, .inl (cB, 940, .inl f_tape))] := hD
          refine W.widen (k := 0) (n := 0) (Nat.le_of_ble_eq_true rfl) (Nat.le_of_ble_eq_true rfl) ?_
          have k681 : 97 ≤ v28.toInt ∧ v28.toInt ≤ 255 := ⟨Int.le_trans (Int.le_refl _) t572, k29.2⟩
          have k682 : 97 ≤ v28.toInt ∧ v28.toInt ≤ 122 := ⟨k681.1, Int.le_trans t573 (Int.le_refl _)⟩
          refine lv_if_ne (tgt := 164) hx hb dX10_next_99 (by decide) (fun _ => ?_) (fun g => absurd g (by decide))
          refine lv_iload_n hx hb dX10_next_164 rfl (lv_at hl 0 rfl) ?_
          refine call_Si (wr := [(h0, .inr (10, vL 67 F9)), (h_tape, .inl (cB, 940, .inl f_tape))]) (As := [.int v28]) (rest := []) hx hb hml hown hw (m_X10_isSmall l D cI cJ cB cP cM cZ v28 _ ) wS_X10_182_X10_isSmall dX10_next_165 hP hD hS hA [] [0, 1] rfl rfl (by decide) (by decide) (by decide) GG.fb hG.at hl.1 rfl (Nat.le_of_ble_eq_true rfl) ⟨(Nat.le_of_ble_eq_true rfl), (Nat.le_of_ble_eq_true rfl)⟩ ⟨(Nat.le_of_ble_eq_true rfl), (Nat.le_of_ble_eq_true rfl)⟩ (fun r683 u H locs hp hP hD hS => ?_)
          rcases hp with ⟨t684, rfl, rfl⟩ | ⟨t685, t686, rfl, rfl⟩ | ⟨t687, t688, rfl, rfl⟩
          · have hP : va_P D vwCl [(h0, .inr (10, vL 67 F9)), (h_tape, .inl (cB, 940, .inl f_tape))] H := hP
            have hD : va_D A [(h0, .inr (10, vL 67 F9)), (h_tape, .inl (cB, 940, .inl f_tape))] := hD
            refine W.widen (k := 0) (n := 0) (Nat.le_of_ble_eq_true rfl) (Nat.le_of_ble_eq_true rfl) ?_
            exact False.elim (bad_lt t684 k682.1 (Int.le_refl _) (by decide))
          · have hP : va_P D vwCl [(h0, .inr (10, vL 67 F9)), (h_tape, .inl (cB, 940, .inl f_tape))] H := hP
            have hD : va_D A [(h0, .inr (10, vL 67 F9)), (h_tape, .inl (cB, 940, .inl f_tape))] := hD
            refine W.widen (k := 0) (n := 0) (Nat.le_of_ble_eq_true rfl) (Nat.le_of_ble_eq_true rfl) ?_
            exact False.elim (bad_lt t686 (Int.le_refl _) k682.2 (by decide))
          · have hP : va_P D vwCl [(h0, .inr (10, vL 67 F9)), (h_tape, .inl (cB, 940, .inl f_tape))] H := hP
            have hD : va_D A [(h0, .inr (10, vL 67 F9)), (h_tape, .inl (cB, 940, .inl f_tape))] := hD
            refine W.widen (k := 0) (n := 0) (Nat.le_of_ble_eq_true rfl) (Nat.le_of_ble_eq_true rfl) ?_
            refine lv_istore_n (lv' := [(2, .int 1), (1, .int v28), (0, .ref h0)]) hx hb dX10_next_168 rfl hl (by decide) rfl (fun ls hl => ?_)
            refine lv_iconst (v := 1) hx hb dX10_next_169 (by decide) ?_
            refine lv_istore_n (lv' := [(3, .int 1), (2, .int 1), (1, .int v28), (0, .ref h0)]) hx hb dX10_next_170 rfl hl (by decide) rfl (fun ls hl => ?_)
            exact cut34 1 (show 0 ≤ (1 : Int32).toInt ∧ (1 : Int32).toInt ≤ 1 by decide) (by show ((48 ≤ v28.toInt ∧ v28.toInt ≤ 57 ∧ 1 = 0) ∨ (97 ≤ v28.toInt ∧ v28.toInt ≤ 122 ∧ 1 = 1)); omega) _ _ _ hP hD hS (lv_sub hl [0, 1, 2, 3] rfl)
    · have dc16 : x_limit.toInt < x_size.toInt := nle_i (a := x_size.toInt) (b := x_limit.toInt) rfl rfl c16
      have k690 : 200 ≤ x_limit.toInt ∧ x_limit.toInt ≤ 939 := ⟨i_x_limit.1, up_lt dc16 i_x_size.2 (by decide)⟩
      have k691 : 201 ≤ x_size.toInt ∧ x_size.toInt ≤ 940 := ⟨lo_lt dc16 i_x_limit.1 (by decide), i_x_size.2⟩
      refine lv_aload_n hx hb dX10_next_55 rfl (lv_at hl 0 rfl) ?_
      have n692 : F8 4 = .int u2 := (get_ne eF8 (by decide) i5)
      have n693 : F9 4 = .int u2 := (get_ne eF9 (by decide) n692)
      refine get_f (D := D) (ci := 10) (v := .int u2) (C := RX10) (T := TX10) (N := 67) hx hb hw inAX10 hown hK hP 0 rfl rfl 4 (by decide) (hw _ q_1265) (fun _ h9 => h9) n693 dX10_next_56 ?_
      refine lv_aload_n hx hb dX10_next_59 rfl (lv_at hl 0 rfl) ?_
      refine get_f (D := D) (ci := 10) (v := .int x_limit) (C := RX10) (T := TX10) (N := 67) hx hb hw inAX10 hown hK hP 0 rfl rfl 5 (by decide) (hw _ q_1266) (fun _ h9 => h9) n15 dX10_next_60 ?_
      refine lv_icmp_lt (tgt := 80) hx hb dX10_next_63 (by decide) (fun c694 => ?_) (fun c694 => ?_)
      · have dc694 : u2.toInt < x_limit.toInt := lt_i (a := u2.toInt) (b := x_limit.toInt) rfl rfl c694
        have k695 : 0 ≤ u2.toInt ∧ u2.toInt ≤ 938 := ⟨i6.1, up_lt dc694 k690.2 (by decide)⟩
        refine lv_aload_n hx hb dX10_next_80 rfl (lv_at hl 0 rfl) ?_
        have n696 : G1 1 = .ref h_tape := (SAME.at i4 (by decide) e_tape)
        have n697 : F8 1 = .ref h_tape := (get_ne eF8 (by decide) n696)
        have n698 : F9 1 = .ref h_tape := (get_ne eF9 (by decide) n697)
        refine call_Vi (wr := []) (As := []) (rest := []) hx hb hml hown hw (m_X10_peek l D cI cJ cB cP cM cZ h0 h_tape F9 x_size u2 f_tape _ n698 n12 (ir_wk k691 (by decide) (by decide)) n693 (ir_wk k695 (by decide) (by decide))) wV_X10_169_X10_peek dX10_next_81 hK hP hD hS hA [0, 1] [] rfl rfl (by decide) (by decide) (by decide) 0 10 rfl rfl GG.fb hG.at hl.1 rfl (Nat.le_of_ble_eq_true rfl) ⟨(Nat.le_of_ble_eq_true rfl), (Nat.le_of_ble_eq_true rfl)⟩ ⟨(Nat.le_of_ble_eq_true rfl), (Nat.le_of_ble_eq_true rfl)⟩ (fun r699 u H locs hp hP hD hS => ?_)
        rcases hp with ⟨t700, rfl, rfl⟩ | ⟨t701, t702, rfl, rfl⟩
        · have hP : va_P D vwCl [(h0, .inr (10, vL 67 F9)), (h_tape, .inl (cB, 940, .inl f_tape))] H := hP
          have hD : va_D A [(h0, .inr (10, vL 67 F9)), (h_tape, .inl (cB, 940, .inl f_tape))] := hD
          refine W.widen (k := 0) (n := 0) (Nat.le_of_ble_eq_true rfl) (Nat.le_of_ble_eq_true rfl) ?_
          have k704 : 201 ≤ x_size.toInt ∧ x_size.toInt ≤ 938 := ⟨k691.1, Int.le_trans t700 k695.2⟩
          have k705 : 201 ≤ u2.toInt ∧ u2.toInt ≤ 938 := ⟨Int.le_trans k691.1 t700, k695.2⟩
          refine lv_istore_n (lv' := [(1, .int (-1)), (0, .ref h0)]) hx hb dX10_next_84 rfl hl (by decide) rfl (fun ls hl => ?_)
          refine lv_iload_n hx hb dX10_next_85 rfl (lv_at hl 0 rfl) ?_
          refine lv_if_ge (tgt := 95) hx hb dX10_next_86 (by decide) (fun g => absurd g (by decide)) (fun _ => ?_)
          refine lv_aload_n hx hb dX10_next_89 rfl (lv_at hl 1 rfl) ?_
          refine lv_iconst (v := 0) hx hb dX10_next_90 (by decide) ?_
          refine put_f (D := D) (ci := 10) (v := .int 0) (ty := .int) (C := RX10) (T := TX10) (N := 67) hx hb hw inAX10 tyX10 tyX10_ok nmX10 hown hK hP hD hS 0 rfl rfl 11 (by decide) (hw _ q_1272) (fun _ h9 => h9) rfl (by decide +kernel) rfl rfl dX10_next_91 (fun H locs F706 eF706 hP hD hS => ?_)
          have hP : va_P D vwCl [(h0, .inr (10, vL 67 F706)), (h_tape, .inl (cB, 940, .inl f_tape))] H := hP
          have hD : va_D A [(h0, .inr (10, vL 67 F706)), (h_tape, .inl (cB, 940, .inl f_tape))] := hD
          exact ret_v hx hb hr hlocks hS hP hD dX10_next_94 (Nat.le_of_ble_eq_true rfl) (Nat.le_of_ble_eq_true rfl) ⟨F706, u2, 0, u2, 0, x_number, x_word, (SAME.up eF706 (SAME.up eF9 (SAME.up eF8 (SAME.tr SAME.rf i4 (by decide)) (by decide)) (by decide)) (by decide)), (get_ne eF706 (by decide) n693), (ir_wk k705 (by decide) (by decide)), (get_eq eF706), (show 0 ≤ (0 : Int32).toInt ∧ (0 : Int32).toInt ≤ 4 by decide), (get_ne eF706 (by decide) (get_ne eF9 (by decide) (get_eq eF8))), (ir_wk k705 (by decide) (by decide)), (get_ne eF706 (by decide) (get_eq eF9)), (show 0 ≤ (0 : Int32).toInt ∧ (0 : Int32).toInt ≤ 940 by decide), (get_ne eF706 (by decide) (get_ne eF9 (by decide) (get_ne eF8 (by decide) (SAME.at i4 (by decide) e_number)))), (get_ne eF706 (by decide) (get_ne eF9 (by decide) (get_ne eF8 (by decide) (SAME.at i4 (by decide) e_word)))), (by have zl0 : (0 : Int32).toInt = 0 := (by decide); have zl4 : (4 : Int32).toInt = 4 := (by decide); omega), (by have zl0 : (0 : Int32).toInt = 0 := (by decide); have zl4 : (4 : Int32).toInt = 4 := (by decide); omega), (by have zl0 : (0 : Int32).toInt = 0 := (by decide); omega), rfl⟩
        · have hP : va_P D vwCl [(h0, .inr (10, vL 67 F9)), (h_tape, .inl (cB, 940, .inl f_tape))] H := hP
          have hD : va_D A [(h0, .inr (10, vL 67 F9)), (h_tape, .inl (cB, 940, .inl f_tape))] := hD
          refine W.widen (k := 0) (n := 0) (Nat.le_of_ble_eq_true rfl) (Nat.le_of_ble_eq_true rfl) ?_
          refine lv_topi (fun v707 ev707 => ?_)
          have k708 : 0 ≤ v707.toInt ∧ v707.toInt ≤ 255 := by rw [ev707]; exact t701
          refine lv_istore_n (lv' := [(1, .int v707), (0, .ref h0)]) hx hb dX10_next_84 rfl hl (by decide) rfl (fun ls hl => ?_)
          refine lv_iload_n hx hb dX10_next_85 rfl (lv_at hl 0 rfl) ?_
          refine lv_if_ge (tgt := 95) hx hb dX10_next_86 (by decide) (fun c709 => ?_) (fun c709 => False.elim (bad_lt (nle_i (a := 0) (b := v707.toInt) rfl rfl c709) k708.1 (Int.le_refl _) (by decide)))
          have dc709 : 0 ≤ v707.toInt := le_i (a := 0) (b := v707.toInt) rfl rfl c709
          have cut711 : ∀ (u710 : Int32) (_ : IR 0 1 u710) (_ : (((48 ≤ v707.toInt ∧ v707.toInt ≤ 57 ∧ u710.toInt = 0) ∨ (97 ≤ v707.toInt ∧ v707.toInt ≤ 122 ∧ u710.toInt = 1)))) (H : Heap) (locs : List Loc) (ls : Array Slot), va_P D vwCl [(h0, .inr (10, vL 67 F9)), (h_tape, .inl (cB, 940, .inl f_tape))] H → va_D A [(h0, .inr (10, vL 67 F9)), (h_tape, .inl (cB, 940, .inl f_tape))] → va_S A s.heap H locs → lv_has ls 4 [(3, .int 1), (2, .int u710), (1, .int v707), (0, .ref h0)] → W p l e ({ frames := 1, cells := 0, slots := 0, locals := 20 } : Room) s m [.ref h0].toArray below meth c H locs 0 0 (MQ below (va_Qv (fun (u : va_W) => ∃ (Gh : Nat → Value) (y_p : Int32) (y_token : Int32) (y_at : Int32) (y_span : Int32) (y_number : Int32) (y_word : Int64), SAME [4, 11, 12, 13, 14, 18] Fh Gh ∧ Gh 4 = .int y_p ∧ IR 0 940 y_p ∧ Gh 11 = .int y_token ∧ IR 0 4 y_token ∧ Gh 12 = .int y_at ∧ IR 0 940 y_at ∧ Gh 13 = .int y_span ∧ IR 0 940 y_span ∧ Gh 14 = .int y_number ∧ Gh 18 = .long y_word ∧ (x_p.toInt ≤ y_p.toInt) ∧ ((1 ≤ y_token.toInt → y_token.toInt ≤ 3 → x_p.toInt < y_p.toInt)) ∧ ((y_token.toInt = 2 → 0 ≤ y_number.toInt ∧ y_number.toInt ≤ 999)) ∧ u = [(h0, .inr (10, vL 67 Gh)), (h_tape, .inl (cB, 940, .inl f_tape))]) (PO D A) A) [.ref h0].toArray s 0 0 A) (F0 m 171 ls []) := by
            intro u710 i712 i713 H locs ls hP hD hS hl
            have i712 : 0 ≤ u710.toInt ∧ u710.toInt ≤ 1 := i712
            have i713 : ((48 ≤ v707.toInt ∧ v707.toInt ≤ 57 ∧ u710.toInt = 0) ∨ (97 ≤ v707.toInt ∧ v707.toInt ≤ 122 ∧ u710.toInt = 1)) := i713
            refine lv_aload_n hx hb dX10_next_171 rfl (lv_at hl 3 rfl) ?_
            refine lv_lconst (v := 0) hx hb dX10_next_172 (by decide) ?_
            refine put_f (D := D) (ci := 10) (v := .long 0) (ty := .long) (C := RX10) (T := TX10) (N := 67) hx hb hw inAX10 tyX10 tyX10_ok nmX10 hown hK hP hD hS 0 rfl rfl 18 (by decide) (hw _ q_1279) (fun _ h9 => h9) rfl (by decide +kernel) rfl rfl dX10_next_173 (fun H locs F714 eF714 hP hD hS => ?_)
            have hP : va_P D vwCl [(h0, .inr (10, vL 67 F714)), (h_tape, .inl (cB, 940, .inl f_tape))] H := hP
            have hD : va_D A [(h0, .inr (10, vL 67 F714)), (h_tape, .inl (cB, 940, .inl f_tape))] := hD
            refine lv_aload_n hx hb dX10_next_176 rfl (lv_at hl 3 rfl) ?_
            refine lv_iconst (v := 0) hx hb dX10_next_177 (by decide) ?_
            refine put_f (D := D) (ci := 10) (v := .int 0) (ty := .int) (C := RX10) (T := TX10) (N := 67) hx hb hw inAX10 tyX10 tyX10_ok nmX10 hown hK hP hD hS 0 rfl rfl 14 (by decide) (hw _ q_1275) (fun _ h9 => h9) rfl (by decide +kernel) rfl rfl dX10_next_178 (fun H locs F715 eF715 hP hD hS => ?_)
            have hP : va_P D vwCl [(h0, .inr (10, vL 67 F715)), (h_tape, .inl (cB, 940, .inl f_tape))] H := hP
            have hD : va_D A [(h0, .inr (10, vL 67 F715)), (h_tape, .inl (cB, 940, .inl f_tape))] := hD
            have cut722 : ∀ (u716 : Int32) (G717 : Nat → Value) (u718 : Int32) (u719 : Int32) (u720 : Int32) (u721 : Int64) (_ : IR 0 1 u716) (_ : SAME [4, 13, 14, 18] F715 G717) (_ : G717 4 = .int u718) (_ : G717 13 = .int u719) (_ : G717 14 = .int u720) (_ : G717 18 = .long u721) (_ : IR 0 940 u718) (_ : IR 0 940 u719) (_ : (0 ≤ u719.toInt ∧ u719.toInt ≤ u718.toInt ∧ x_p.toInt + u719.toInt ≤ u718.toInt ∧ (u719.toInt = 0 → u718.toInt = u2.toInt))) (_ : (u716.toInt = 1 → u710.toInt = 0 → (0 ≤ u720.toInt ∧ u720.toInt ≤ 999 ∧ (u719.toInt = 0 → u720.toInt = 0) ∧ (u719.toInt = 1 → u720.toInt ≤ 9) ∧ (u719.toInt = 2 → u720.toInt ≤ 99)))) (_ : ((x_token.toInt = 2 → 0 ≤ u720.toInt ∧ u720.toInt ≤ 999))) (_ : (1 ≤ u719.toInt)) (H : Heap) (locs : List Loc) (ls : Array Slot), va_P D vwCl [(h0, .inr (10, vL 67 G717)), (h_tape, .inl (cB, 940, .inl f_tape))] H → va_D A [(h0, .inr (10, vL 67 G717)), (h_tape, .inl (cB, 940, .inl f_tape))] → va_S A s.heap H locs → lv_has ls 4 [(3, .int u716), (2, .int u710), (1, .int v707), (0, .ref h0)] → W p l e ({ frames := 1, cells := 0, slots := 0, locals := 20 } : Room) s m [.ref h0].toArray below meth c H locs 0 0 (MQ below (va_Qv (fun (u : va_W) => ∃ (Gh : Nat → Value) (y_p : Int32) (y_token : Int32) (y_at : Int32) (y_span : Int32) (y_number : Int32) (y_word : Int64), SAME [4, 11, 12, 13, 14, 18] Fh Gh ∧ Gh 4 = .int y_p ∧ IR 0 940 y_p ∧ Gh 11 = .int y_token ∧ IR 0 4 y_token ∧ Gh 12 = .int y_at ∧ IR 0 940 y_at ∧ Gh 13 = .int y_span ∧ IR 0 940 y_span ∧ Gh 14 = .int y_number ∧ Gh 18 = .long y_word ∧ (x_p.toInt ≤ y_p.toInt) ∧ ((1 ≤ y_token.toInt → y_token.toInt ≤ 3 → x_p.toInt < y_p.toInt)) ∧ ((y_token.toInt = 2 → 0 ≤ y_number.toInt ∧ y_number.toInt ≤ 999)) ∧ u = [(h0, .inr (10, vL 67 Gh)), (h_tape, .inl (cB, 940, .inl f_tape))]) (PO D A) A) [.ref h0].toArray s 0 0 A) (F0 m 298 ls []) := by
              intro u716 G717 u718 u719 u720 u721 i723 i724 i725 i726 i727 i728 i729 i730 i731 i732 i733 i734 H locs ls hP hD hS hl
              have i723 : 0 ≤ u716.toInt ∧ u716.toInt ≤ 1 := i723
              have i729 : 0 ≤ u718.toInt ∧ u718.toInt ≤ 940 := i729
              have i730 : 0 ≤ u719.toInt ∧ u719.toInt ≤ 940 := i730
              have i731 : 0 ≤ u719.toInt ∧ u719.toInt ≤ u718.toInt ∧ x_p.toInt + u719.toInt ≤ u718.toInt ∧ (u719.toInt = 0 → u718.toInt = u2.toInt) := i731
              have i732 : u716.toInt = 1 → u710.toInt = 0 → (0 ≤ u720.toInt ∧ u720.toInt ≤ 999 ∧ (u719.toInt = 0 → u720.toInt = 0) ∧ (u719.toInt = 1 → u720.toInt ≤ 9) ∧ (u719.toInt = 2 → u720.toInt ≤ 99)) := i732
              have i733 : (x_token.toInt = 2 → 0 ≤ u720.toInt ∧ u720.toInt ≤ 999) := i733
              have i734 : 1 ≤ u719.toInt := i734
              refine lv_aload_n hx hb dX10_next_298 rfl (lv_at hl 3 rfl) ?_
              refine lv_iload_n hx hb dX10_next_299 rfl (lv_at hl 0 rfl) ?_
              refine lv_if_eq (tgt := 320) hx hb dX10_next_300 (by decide) (fun c735 => ?_) (fun c735 => ?_)
              · have dc735 : u716.toInt = 0 := eq_i (a := u716.toInt) (b := 0) rfl rfl c735
                have k736 : 0 ≤ u716.toInt ∧ u716.toInt ≤ 0 := ⟨i723.1, Int.le_trans (Int.le_of_eq dc735) (Int.le_refl _)⟩
                refine lv_iconst (v := 4) hx hb dX10_next_320 (by decide) ?_
                refine lv_goto (tgt := 333) hx hb dX10_next_321 (by decide) ?_
                refine put_f (D := D) (ci := 10) (v := .int 4) (ty := .int) (C := RX10) (T := TX10) (N := 67) hx hb hw inAX10 tyX10 tyX10_ok nmX10 hown hK hP hD hS 0 rfl rfl 11 (by decide) (hw _ q_1272) (fun _ h9 => h9) rfl (by decide +kernel) rfl rfl dX10_next_333 (fun H locs F737 eF737 hP hD hS => ?_)
                have hP : va_P D vwCl [(h0, .inr (10, vL 67 F737)), (h_tape, .inl (cB, 940, .inl f_tape))] H := hP
                have hD : va_D A [(h0, .inr (10, vL 67 F737)), (h_tape, .inl (cB, 940, .inl f_tape))] := hD
                exact ret_v hx hb hr hlocks hS hP hD dX10_next_336 (Nat.le_of_ble_eq_true rfl) (Nat.le_of_ble_eq_true rfl) ⟨F737, u718, 4, u2, u719, u720, u721, (SAME.up eF737 (SAME.tr (SAME.up eF715 (SAME.up eF714 (SAME.up eF9 (SAME.up eF8 (SAME.tr SAME.rf i4 (by decide)) (by decide)) (by decide)) (by decide)) (by decide)) i724 (by decide)) (by decide)), (get_ne eF737 (by decide) i725), i729, (get_eq eF737), (show 0 ≤ (4 : Int32).toInt ∧ (4 : Int32).toInt ≤ 4 by decide), (get_ne eF737 (by decide) (SAME.at i724 (by decide) (get_ne eF715 (by decide) (get_ne eF714 (by decide) (get_ne eF9 (by decide) (get_eq eF8)))))), (ir_wk k695 (by decide) (by decide)), (get_ne eF737 (by decide) i726), i730, (get_ne eF737 (by decide) i727), (get_ne eF737 (by decide) i728), (by have zl0 : (0 : Int32).toInt = 0 := (by decide); have zl4 : (4 : Int32).toInt = 4 := (by decide); omega), (by have zl0 : (0 : Int32).toInt = 0 := (by decide); have zl4 : (4 : Int32).toInt = 4 := (by decide); omega), (by have zl4 : (4 : Int32).toInt = 4 := (by decide); omega), rfl⟩
              · have dc735 : u716.toInt ≠ 0 := ne_i (a := u716.toInt) (b := 0) rfl rfl c735
                have k738 : 1 ≤ u716.toInt ∧ u716.toInt ≤ 1 := ⟨ne_lo dc735 i723.1 ⟨Int.le_refl _, Int.le_refl _⟩ (by decide), i723.2⟩
                refine lv_aload_n hx hb dX10_next_303 rfl (lv_at hl 3 rfl) ?_
                refine get_f (D := D) (ci := 10) (v := .int u719) (C := RX10) (T := TX10) (N := 67) hx hb hw inAX10 hown hK hP 0 rfl rfl 13 (by decide) (hw _ q_1274) (fun _ h9 => h9) i726 dX10_next_304 ?_
                refine lv_iload_n hx hb dX10_next_307 rfl (lv_at hl 1 rfl) ?_
                refine lv_if_eq (tgt := 316) hx hb dX10_next_308 (by decide) (fun c739 => ?_) (fun c739 => ?_)
                · have dc739 : u710.toInt = 0 := eq_i (a := u710.toInt) (b := 0) rfl rfl c739
                  have k740 : 0 ≤ u710.toInt ∧ u710.toInt ≤ 0 := ⟨i712.1, Int.le_trans (Int.le_of_eq dc739) (Int.le_refl _)⟩
                  refine lv_iconst (v := 3) hx hb dX10_next_316 (by decide) ?_
                  refine lv_icmp_le (tgt := 324) hx hb dX10_next_317 (by decide) (fun c741 => ?_) (fun c741 => ?_)
                  · have dc741 : u719.toInt ≤ 3 := le_i (a := u719.toInt) (b := 3) rfl rfl c741
                    have k742 : 0 ≤ u719.toInt ∧ u719.toInt ≤ 3 := ⟨i730.1, Int.le_trans dc741 (Int.le_refl _)⟩
                    refine lv_iload_n hx hb dX10_next_324 rfl (lv_at hl 1 rfl) ?_
                    refine lv_if_eq (tgt := 332) hx hb dX10_next_325 (by decide) (fun c743 => ?_) (fun c743 => False.elim (bad_ne (ne_i (a := u710.toInt) (b := 0) rfl rfl c743) k740 ⟨Int.le_refl _, Int.le_refl _⟩ (by decide)))
                    have dc743 : u710.toInt = 0 := eq_i (a := u710.toInt) (b := 0) rfl rfl c743
                    refine lv_iconst (v := 2) hx hb dX10_next_332 (by decide) ?_
                    refine put_f (D := D) (ci := 10) (v := .int 2) (ty := .int) (C := RX10) (T := TX10) (N := 67) hx hb hw inAX10 tyX10 tyX10_ok nmX10 hown hK hP hD hS 0 rfl rfl 11 (by decide) (hw _ q_1272) (fun _ h9 => h9) rfl (by decide +kernel) rfl rfl dX10_next_333 (fun H locs F744 eF744 hP hD hS => ?_)
                    have hP : va_P D vwCl [(h0, .inr (10, vL 67 F744)), (h_tape, .inl (cB, 940, .inl f_tape))] H := hP
                    have hD : va_D A [(h0, .inr (10, vL 67 F744)), (h_tape, .inl (cB, 940, .inl f_tape))] := hD
                    exact ret_v hx hb hr hlocks hS hP hD dX10_next_336 (Nat.le_of_ble_eq_true rfl) (Nat.le_of_ble_eq_true rfl) ⟨F744, u718, 2, u2, u719, u720, u721, (SAME.up eF744 (SAME.tr (SAME.up eF715 (SAME.up eF714 (SAME.up eF9 (SAME.up eF8 (SAME.tr SAME.rf i4 (by decide)) (by decide)) (by decide)) (by decide)) (by decide)) i724 (by decide)) (by decide)), (get_ne eF744 (by decide) i725), i729, (get_eq eF744), (show 0 ≤ (2 : Int32).toInt ∧ (2 : Int32).toInt ≤ 4 by decide), (get_ne eF744 (by decide) (SAME.at i724 (by decide) (get_ne eF715 (by decide) (get_ne eF714 (by decide) (get_ne eF9 (by decide) (get_eq eF8)))))), (ir_wk k695 (by decide) (by decide)), (get_ne eF744 (by decide) i726), (ir_wk k742 (by decide) (by decide)), (get_ne eF744 (by decide) i727), (get_ne eF744 (by decide) i728), (by have zl0 : (0 : Int32).toInt = 0 := (by decide); have zl4 : (4 : Int32).toInt = 4 := (by decide); omega), (by have zl0 : (0 : Int32).toInt = 0 := (by decide); have zl4 : (4 : Int32).toInt = 4 := (by decide); omega), (by have zl2 : (2 : Int32).toInt = 2 := (by decide); omega), rfl⟩
                  · have dc741 : 3 < u719.toInt := nle_i (a := u719.toInt) (b := 3) rfl rfl c741
                    have k745 : 4 ≤ u719.toInt ∧ u719.toInt ≤ 940 := ⟨lo_lt dc741 (Int.le_refl _) (by decide), i730.2⟩
                    refine lv_iconst (v := 4) hx hb dX10_next_320 (by decide) ?_
                    refine lv_goto (tgt := 333) hx hb dX10_next_321 (by decide) ?_
                    refine put_f (D := D) (ci := 10) (v := .int 4) (ty := .int) (C := RX10) (T := TX10) (N := 67) hx hb hw inAX10 tyX10 tyX10_ok nmX10 hown hK hP hD hS 0 rfl rfl 11 (by decide) (hw _ q_1272) (fun _ h9 => h9) rfl (by decide +kernel) rfl rfl dX10_next_333 (fun H locs F746 eF746 hP hD hS => ?_)
                    have hP : va_P D vwCl [(h0, .inr (10, vL 67 F746)), (h_tape, .inl (cB, 940, .inl f_tape))] H := hP
                    have hD : va_D A [(h0, .inr (10, vL 67 F746)), (h_tape, .inl (cB, 940, .inl f_tape))] := hD
                    exact ret_v hx hb hr hlocks hS hP hD dX10_next_336 (Nat.le_of_ble_eq_true rfl) (Nat.le_of_ble_eq_true rfl) ⟨F746, u718, 4, u2, u719, u720, u721, (SAME.up eF746 (SAME.tr (SAME.up eF715 (SAME.up eF714 (SAME.up eF9 (SAME.up eF8 (SAME.tr SAME.rf i4 (by decide)) (by decide)) (by decide)) (by decide)) (by decide)) i724 (by decide)) (by decide)), (get_ne eF746 (by decide) i725), i729, (get_eq eF746), (show 0 ≤ (4 : Int32).toInt ∧ (4 : Int32).toInt ≤ 4 by decide), (get_ne eF746 (by decide) (SAME.at i724 (by decide) (get_ne eF715 (by decide) (get_ne eF714 (by decide) (get_ne eF9 (by decide) (get_eq eF8)))))), (ir_wk k695 (by decide) (by decide)), (get_ne eF746 (by decide) i726), (ir_wk k745 (by decide) (by decide)), (get_ne eF746 (by decide) i727), (get_ne eF746 (by decide) i728), (by have zl0 : (0 : Int32).toInt = 0 := (by decide); have zl4 : (4 : Int32).toInt = 4 := (by decide); omega), (by have zl0 : (0 : Int32).toInt = 0 := (by decide); have zl4 : (4 : Int32).toInt = 4 := (by decide); omega), (by have zl4 : (4 : Int32).toInt = 4 := (by decide); omega), rfl⟩
                · have dc739 : u710.toInt ≠ 0 := ne_i (a := u710.toInt) (b := 0) rfl rfl c739
                  have k747 : 1 ≤ u710.toInt ∧ u710.toInt ≤ 1 := ⟨ne_lo dc739 i712.1 ⟨Int.le_refl _, Int.le_refl _⟩ (by decide), i712.2⟩
                  refine lv_bipush (v := 7) hx hb dX10_next_311 (by decide) ?_
                  refine lv_goto (tgt := 317) hx hb dX10_next_313 (by decide) ?_
                  refine lv_icmp_le (tgt := 324) hx hb dX10_next_317 (by decide) (fun c748 => ?_) (fun c748 => ?_)
                  · have dc748 : u719.toInt ≤ 7 := le_i (a := u719.toInt) (b := 7) rfl rfl c748
                    have k749 : 0 ≤ u719.toInt ∧ u719.toInt ≤ 7 := ⟨i730.1, Int.le_trans dc748 (Int.le_refl _)⟩
                    refine lv_iload_n hx hb dX10_next_324 rfl (lv_at hl 1 rfl) ?_
                    refine lv_if_eq (tgt := 332) hx hb dX10_next_325 (by decide) (fun c750 => False.elim (bad_le (Int.le_of_eq (eq_i (a := u710.toInt) (b := 0) rfl rfl c750)) k747.1 (Int.le_refl _) (by decide))) (fun c750 => ?_)
                    have dc750 : u710.toInt ≠ 0 := ne_i (a := u710.toInt) (b := 0) rfl rfl c750
                    refine lv_iconst (v := 1) hx hb dX10_next_328 (by decide) ?_
                    refine lv_goto (tgt := 333) hx hb dX10_next_329 (by decide) ?_
                    refine put_f (D := D) (ci := 10) (v := .int 1) (ty := .int) (C := RX10) (T := TX10) (N := 67) hx hb hw inAX10 tyX10 tyX10_ok nmX10 hown hK hP hD hS 0 rfl rfl 11 (by decide) (hw _ q_1272) (fun _ h9 => h9) rfl (by decide +kernel) rfl rfl dX10_next_333 (fun H locs F751 eF751 hP hD hS => ?_)
                    have hP : va_P D vwCl [(h0, .inr (10, vL 67 F751)), (h_tape, .inl (cB, 940, .inl f_tape))] H := hP
                    have hD : va_D A [(h0, .inr (10, vL 67 F751)), (h_tape, .inl (cB, 940, .inl f_tape))] := hD
                    exact ret_v hx hb hr hlocks hS hP hD dX10_next_336 (Nat.le_of_ble_eq_true rfl) (Nat.le_of_ble_eq_true rfl) ⟨F751, u718, 1, u2, u719, u720, u721, (SAME.up eF751 (SAME.tr (SAME.up eF715 (SAME.up eF714 (SAME.up eF9 (SAME.up eF8 (SAME.tr SAME.rf i4 (by decide)) (by decide)) (by decide)) (by decide)) (by decide)) i724 (by decide)) (by decide)), (get_ne eF751 (by decide) i725), i729, (get_eq eF751), (show 0 ≤ (1 : Int32).toInt ∧ (1 : Int32).toInt ≤ 4 by decide), (get_ne eF751 (by decide) (SAME.at i724 (by decide) (get_ne eF715 (by decide) (get_ne eF714 (by decide) (get_ne eF9 (by decide) (get_eq eF8)))))), (ir_wk k695 (by decide) (by decide)), (get_ne eF751 (by decide) i726), (ir_wk k749 (by decide) (by decide)), (get_ne eF751 (by decide) i727), (get_ne eF751 (by decide) i728), (by have zl0 : (0 : Int32).toInt = 0 := (by decide); have zl4 : (4 : Int32).toInt = 4 := (by decide); omega), (by have zl0 : (0 : Int32).toInt = 0 := (by decide); have zl4 : (4 : Int32).toInt = 4 := (by decide); omega), (by have zl1 : (1 : Int32).toInt = 1 := (by decide); omega), rfl⟩
                  · have dc748 : 7 < u719.toInt := nle_i (a := u719.toInt) (b := 7) rfl rfl c748
                    have k752 : 8 ≤ u719.toInt ∧ u719.toInt ≤ 940 := ⟨lo_lt dc748 (Int.le_refl _) (by decide), i730.2⟩
                    refine lv_iconst (v := 4) hx hb dX10_next_320 (by decide) ?_
                    refine lv_goto (tgt := 333) hx hb dX10_next_321 (by decide) ?_
                    refine put_f (D := D) (ci := 10) (v := .int 4) (ty := .int) (C := RX10) (T := TX10) (N := 67) hx hb hw inAX10 tyX10 tyX10_ok nmX10 hown hK hP hD hS 0 rfl rfl 11 (by decide) (hw _ q_1272) (fun _ h9 => h9) rfl (by decide +kernel) rfl rfl dX10_next_333 (fun H locs F753 eF753 hP hD hS => ?_)
                    have hP : va_P D vwCl [(h0, .inr (10, vL 67 F753)), (h_tape, .inl (cB, 940, .inl f_tape))] H := hP
                    have hD : va_D A [(h0, .inr (10, vL 67 F753)), (h_tape, .inl (cB, 940, .inl f_tape))] := hD
                    exact ret_v hx hb hr hlocks hS hP hD dX10_next_336 (Nat.le_of_ble_eq_true rfl) (Nat.le_of_ble_eq_true rfl) ⟨F753, u718, 4, u2, u719, u720, u721, (SAME.up eF753 (SAME.tr (SAME.up eF715 (SAME.up eF714 (SAME.up eF9 (SAME.up eF8 (SAME.tr SAME.rf i4 (by decide)) (by decide)) (by decide)) (by decide)) (by decide)) i724 (by decide)) (by decide)), (get_ne eF753 (by decide) i725), i729, (get_eq eF753), (show 0 ≤ (4 : Int32).toInt ∧ (4 : Int32).toInt ≤ 4 by decide), (get_ne eF753 (by decide) (SAME.at i724 (by decide) (get_ne eF715 (by decide) (get_ne eF714 (by decide) (get_ne eF9 (by decide) (get_eq eF8)))))), (ir_wk k695 (by decide) (by decide)), (get_ne eF753 (by decide) i726), (ir_wk k752 (by decide) (by decide)), (get_ne eF753 (by decide) i727), (get_ne eF753 (by decide) i728), (by have zl0 : (0 : Int32).toInt = 0 := (by decide); have zl4 : (4 : Int32).toInt = 4 := (by decide); omega), (by have zl0 : (0 : Int32).toInt = 0 := (by decide); have zl4 : (4 : Int32).toInt = 4 := (by decide); omega), (by have zl4 : (4 : Int32).toInt = 4 := (by decide); omega), rfl⟩
            have n754 : F714 4 = .int u2 := (get_ne eF714 (by decide) n693)
            have n755 : F715 4 = .int u2 := (get_ne eF715 (by decide) n754)
            have n756 : F714 13 = .int 0 := (get_ne eF714 (by decide) (get_eq eF9))
            have n757 : F715 13 = .int 0 := (get_ne eF715 (by decide) n756)
            have n758 : F715 18 = .long 0 := (get_ne eF715 (by decide) (get_eq eF714))
            refine mloop (α := (Int32) × (Nat → Value) × (Int32) × (Int32) × (Int32) × (Int64)) (nL := 4) (D := D) (A := A) (H0 := s.heap) (fun a => (x_size.toInt - a.2.2.1.toInt).toNat) (fun a => IR 0 1 a.1 ∧ SAME [4, 13, 14, 18] F715 a.2.1 ∧ a.2.1 4 = .int a.2.2.1 ∧ a.2.1 13 = .int a.2.2.2.1 ∧ a.2.1 14 = .int a.2.2.2.2.1 ∧ a.2.1 18 = .long a.2.2.2.2.2 ∧ IR 0 940 a.2.2.1 ∧ IR 0 940 a.2.2.2.1 ∧ (0 ≤ a.2.2.2.1.toInt ∧ a.2.2.2.1.toInt ≤ a.2.2.1.toInt ∧ x_p.toInt + a.2.2.2.1.toInt ≤ a.2.2.1.toInt ∧ (a.2.2.2.1.toInt = 0 → a.2.2.1.toInt = u2.toInt)) ∧ (a.1.toInt = 1 → u710.toInt = 0 → (0 ≤ a.2.2.2.2.1.toInt ∧ a.2.2.2.2.1.toInt ≤ 999 ∧ (a.2.2.2.1.toInt = 0 → a.2.2.2.2.1.toInt = 0) ∧ (a.2.2.2.1.toInt = 1 → a.2.2.2.2.1.toInt ≤ 9) ∧ (a.2.2.2.1.toInt = 2 → a.2.2.2.2.1.toInt ≤ 99))) ∧ ((x_token.toInt = 2 → 0 ≤ a.2.2.2.2.1.toInt ∧ a.2.2.2.2.1.toInt ≤ 999))) (fun a => [(h0, .inr (10, vL 67 a.2.1)), (h_tape, .inl (cB, 940, .inl f_tape))]) (fun a => [(3, .int a.1), (2, .int u710), (1, .int v707), (0, .ref h0)]) (fun H locs ls => W p l e ({ frames := 1, cells := 0, slots := 0, locals := 20 } : Room) s m [.ref h0].toArray below meth c H locs 0 0 (MQ below (va_Qv (fun (u : va_W) => ∃ (Gh : Nat → Value) (y_p : Int32) (y_token : Int32) (y_at : Int32) (y_span : Int32) (y_number : Int32) (y_word : Int64), SAME [4, 11, 12, 13, 14, 18] Fh Gh ∧ Gh 4 = .int y_p ∧ IR 0 940 y_p ∧ Gh 11 = .int y_token ∧ IR 0 4 y_token ∧ Gh 12 = .int y_at ∧ IR 0 940 y_at ∧ Gh 13 = .int y_span ∧ IR 0 940 y_span ∧ Gh 14 = .int y_number ∧ Gh 18 = .long y_word ∧ (x_p.toInt ≤ y_p.toInt) ∧ ((1 ≤ y_token.toInt → y_token.toInt ≤ 3 → x_p.toInt < y_p.toInt)) ∧ ((y_token.toInt = 2 → 0 ≤ y_number.toInt ∧ y_number.toInt ≤ 999)) ∧ u = [(h0, .inr (10, vL 67 Gh)), (h_tape, .inl (cB, 940, .inl f_tape))]) (PO D A) A) [.ref h0].toArray s 0 0 A) (F0 m 181 ls [])) ?_ (1, F715, u2, 0, 0, 0) ⟨(show 0 ≤ (1 : Int32).toInt ∧ (1 : Int32).toInt ≤ 1 by decide), SAME.rf, n755, n757, (get_eq eF715), n758, (ir_wk k695 (by decide) (by decide)), (show 0 ≤ (0 : Int32).toInt ∧ (0 : Int32).toInt ≤ 940 by decide), (by show 0 ≤ 0 ∧ 0 ≤ u2.toInt ∧ x_p.toInt + 0 ≤ u2.toInt ∧ (0 = 0 → u2.toInt = u2.toInt); omega), (by show 1 = 1 → u710.toInt = 0 → (0 ≤ 0 ∧ 0 ≤ 999 ∧ (0 = 0 → 0 = 0) ∧ (0 = 1 → 0 ≤ 9) ∧ (0 = 2 → 0 ≤ 99)); omega), (by show (x_token.toInt = 2 → 0 ≤ 0 ∧ 0 ≤ 999); omega)⟩ _ _ _ hP hD hS hl
            rintro ⟨u716, G717, u718, u719, u720, u721⟩ ⟨i759, i760, i761, i762, i763, i764, i765, i766, i767, i768, i769⟩ ih H locs ls hP hD hS hl
            have i759 : 0 ≤ u716.toInt ∧ u716.toInt ≤ 1 := i759
            have i765 : 0 ≤ u718.toInt ∧ u718.toInt ≤ 940 := i765
            have i766 : 0 ≤ u719.toInt ∧ u719.toInt ≤ 940 := i766
            have i767 : 0 ≤ u719.toInt ∧ u719.toInt ≤ u718.toInt ∧ x_p.toInt + u719.toInt ≤ u718.toInt ∧ (u719.toInt = 0 → u718.toInt = u2.toInt) := i767
            have i768 : u716.toInt = 1 → u710.toInt = 0 → (0 ≤ u720.toInt ∧ u720.toInt ≤ 999 ∧ (u719.toInt = 0 → u720.toInt = 0) ∧ (u719.toInt = 1 → u720.toInt ≤ 9) ∧ (u719.toInt = 2 → u720.toInt ≤ 99)) := i768
            have i769 : (x_token.toInt = 2 → 0 ≤ u720.toInt ∧ u720.toInt ≤ 999) := i769
            have hP : va_P D vwCl [(h0, .inr (10, vL 67 G717)), (h_tape, .inl (cB, 940, .inl f_tape))] H := hP
            have hD : va_D A [(h0, .inr (10, vL 67 G717)), (h_tape, .inl (cB, 940, .inl f_tape))] := hD
            have hl : lv_has ls 4 [(3, .int u716), (2, .int u710), (1, .int v707), (0, .ref h0)] := hl
            refine lv_aload_n hx hb dX10_next_181 rfl (lv_at hl 3 rfl) ?_
            have n770 : F714 1 = .ref h_tape := (get_ne eF714 (by decide) n698)
            have n771 : F715 1 = .ref h_tape := (get_ne eF715 (by decide) n770)
            have n772 : G717 1 = .ref h_tape := (SAME.at i760 (by decide) n771)
            have n773 : F714 3 = .int x_size := (get_ne eF714 (by decide) n12)
            have n774 : F715 3 = .int x_size := (get_ne eF715 (by decide) n773)
            have n775 : G717 3 = .int x_size := (SAME.at i760 (by decide) n774)
            refine call_Vi (wr := []) (As := []) (rest := []) hx hb hml hown hw (m_X10_peek l D cI cJ cB cP cM cZ h0 h_tape G717 x_size u718 f_tape _ n772 n775 (ir_wk k691 (by decide) (by decide)) i761 i765) wV_X10_169_X10_peek dX10_next_182 hK hP hD hS hA [0, 1] [] rfl rfl (by decide) (by decide) (by decide) 0 10 rfl rfl GG.fb hG.at hl.1 rfl (Nat.le_of_ble_eq_true rfl) ⟨(Nat.le_of_ble_eq_true rfl), (Nat.le_of_ble_eq_true rfl)⟩ ⟨(Nat.le_of_ble_eq_true rfl), (Nat.le_of_ble_eq_true rfl)⟩ (fun r776 u H locs hp hP hD hS => ?_)
            rcases hp with ⟨t777, rfl, rfl⟩ | ⟨t778, t779, rfl, rfl⟩
            · have hP : va_P D vwCl [(h0, .inr (10, vL 67 G717)), (h_tape, .inl (cB, 940, .inl f_tape))] H := hP
              have hD : va_D A [(h0, .inr (10, vL 67 G717)), (h_tape, .inl (cB, 940, .inl f_tape))] := hD
              refine W.widen (k := 0) (n := 0) (Nat.le_of_ble_eq_true rfl) (Nat.le_of_ble_eq_true rfl) ?_
              have k781 : 201 ≤ u718.toInt ∧ u718.toInt ≤ 940 := ⟨Int.le_trans k691.1 t777, i765.2⟩
              refine call_Si (wr := [(h0, .inr (10, vL 67 G717)), (h_tape, .inl (cB, 940, .inl f_tape))]) (As := [.int (-1)]) (rest := []) hx hb hml hown hw (m_X10_isSmall l D cI cJ cB cP cM cZ (-1) _ ) wS_X10_182_X10_isSmall dX10_next_185 hP hD hS hA [] [0, 1] rfl rfl (by decide) (by decide) (by decide) GG.fb hG.at hl.1 rfl (Nat.le_of_ble_eq_true rfl) ⟨(Nat.le_of_ble_eq_true rfl), (Nat.le_of_ble_eq_true rfl)⟩ ⟨(Nat.le_of_ble_eq_true rfl), (Nat.le_of_ble_eq_true rfl)⟩ (fun r782 u H locs hp hP hD hS => ?_)
              have zlm1 : ((-1) : Int32).toInt = (-1) := by decide
              rcases hp with ⟨t783, rfl, rfl⟩ | ⟨t784, t785, rfl, rfl⟩ | ⟨t786, t787, rfl, rfl⟩
              · have hP : va_P D vwCl [(h0, .inr (10, vL 67 G717)), (h_tape, .inl (cB, 940, .inl f_tape))] H := hP
                have hD : va_D A [(h0, .inr (10, vL 67 G717)), (h_tape, .inl (cB, 940, .inl f_tape))] := hD
                refine W.widen (k := 0) (n := 0) (Nat.le_of_ble_eq_true rfl) (Nat.le_of_ble_eq_true rfl) ?_
                refine lv_if_ne (tgt := 201) hx hb dX10_next_188 (by decide) (fun g => absurd (by decide) g) (fun _ => ?_)
                refine lv_aload_n hx hb dX10_next_191 rfl (lv_at hl 3 rfl) ?_
                refine call_Vi (wr := []) (As := []) (rest := []) hx hb hml hown hw (m_X10_peek l D cI cJ cB cP cM cZ h0 h_tape G717 x_size u718 f_tape _ n772 n775 (ir_wk k691 (by decide) (by decide)) i761 (ir_wk k781 (by decide) (by decide))) wV_X10_169_X10_peek dX10_next_192 hK hP hD hS hA [0, 1] [] rfl rfl (by decide) (by decide) (by decide) 0 10 rfl rfl GG.fb hG.at hl.1 rfl (Nat.le_of_ble_eq_true rfl) ⟨(Nat.le_of_ble_eq_true rfl), (Nat.le_of_ble_eq_true rfl)⟩ ⟨(Nat.le_of_ble_eq_true rfl), (Nat.le_of_ble_eq_true rfl)⟩ (fun r789 u H locs hp hP hD hS => ?_)
                rcases hp with ⟨t790, rfl, rfl⟩ | ⟨t791, t792, rfl, rfl⟩
                · have hP : va_P D vwCl [(h0, .inr (10, vL 67 G717)), (h_tape, .inl (cB, 940, .inl f_tape))] H := hP
                  have hD : va_D A [(h0, .inr (10, vL 67 G717)), (h_tape, .inl (cB, 940, .inl f_tape))] := hD
                  refine W.widen (k := 0) (n := 0) (Nat.le_of_ble_eq_true rfl) (Nat.le_of_ble_eq_true rfl) ?_
                  refine call_Si (wr := [(h0, .inr (10, vL 67 G717)), (h_tape, .inl (cB, 940, .inl f_tape))]) (As := [.int (-1)]) (rest := []) hx hb hml hown hw (m_X10_isDigit l D cI cJ cB cP cM cZ (-1) _ ) wS_X10_186_X10_isDigit dX10_next_195 hP hD hS hA [] [0, 1] rfl rfl (by decide) (by decide) (by decide) GG.fb hG.at hl.1 rfl (Nat.le_of_ble_eq_true rfl) ⟨(Nat.le_of_ble_eq_true rfl), (Nat.le_of_ble_eq_true rfl)⟩ ⟨(Nat.le_of_ble_eq_true rfl), (Nat.le_of_ble_eq_true rfl)⟩ (fun r794 u H locs hp hP hD hS => ?_)
                  rcases hp with ⟨t795, rfl, rfl⟩ | ⟨t796, t797, rfl, rfl⟩ | ⟨t798, t799, rfl, rfl⟩
                  · have hP : va_P D vwCl [(h0, .inr (10, vL 67 G717)), (h_tape, .inl (cB, 940, .inl f_tape))] H := hP
                    have hD : va_D A [(h0, .inr (10, vL 67 G717)), (h_tape, .inl (cB, 940, .inl f_tape))] := hD
                    refine W.widen (k := 0) (n := 0) (Nat.le_of_ble_eq_true rfl) (Nat.le_of_ble_eq_true rfl) ?_
                    refine lv_if_eq (tgt := 298) hx hb dX10_next_198 (by decide) (fun _ => ?_) (fun g => absurd (by decide) g)
                    have hgv707 : v707.toInt = (((f_tape u2.toNatClampNeg) &&& 255)).toInt := by rw [ev707]
                    have hfst : u718.toInt = u2.toInt → (f_tape u718.toNatClampNeg &&& 255).toInt = (f_tape u2.toNatClampNeg &&& 255).toInt := fun h9 => by rw [Int32.toInt_inj.mp h9]
                    exact cut722 u716 G717 u718 u719 u720 u721 i759 (SAME.tr SAME.rf i760 (by decide)) i761 i762 i763 i764 (ir_wk k781 (by decide) (by decide)) i766 (by show 0 ≤ u719.toInt ∧ u719.toInt ≤ u718.toInt ∧ x_p.toInt + u719.toInt ≤ u718.toInt ∧ (u719.toInt = 0 → u718.toInt = u2.toInt); omega) (by show u716.toInt = 1 → u710.toInt = 0 → (0 ≤ u720.toInt ∧ u720.toInt ≤ 999 ∧ (u719.toInt = 0 → u720.toInt = 0) ∧ (u719.toInt = 1 → u720.toInt ≤ 9) ∧ (u719.toInt = 2 → u720.toInt ≤ 99)); omega) (by show (x_token.toInt = 2 → 0 ≤ u720.toInt ∧ u720.toInt ≤ 999); omega) (by show 1 ≤ u719.toInt; omega) _ _ _ hP hD hS (lv_sub hl [0, 1, 2, 3] rfl)
                  · have hP : va_P D vwCl [(h0, .inr (10, vL 67 G717)), (h_tape, .inl (cB, 940, .inl f_tape))] H := hP
                    have hD : va_D A [(h0, .inr (10, vL 67 G717)), (h_tape, .inl (cB, 940, .inl f_tape))] := hD
                    refine W.widen (k := 0) (n := 0) (Nat.le_of_ble_eq_true rfl) (Nat.le_of_ble_eq_true rfl) ?_
                    exact absurd t796 (by decide)
                  · have hP : va_P D vwCl [(h0, .inr (10, vL 67 G717)), (h_tape, .inl (cB, 940, .inl f_tape))] H := hP
                    have hD : va_D A [(h0, .inr (10, vL 67 G717)), (h_tape, .inl (cB, 940, .inl f_tape))] := hD
                    refine W.widen (k := 0) (n := 0) (Nat.le_of_ble_eq_true rfl) (Nat.le_of_ble_eq_true rfl) ?_
                    exact absurd t798 (by decide)
                · have hP : va_P D vwCl [(h0, .inr (10, vL 67 G717)), (h_tape, .inl (cB, 940, .inl f_tape))] H := hP
                  have hD : va_D A [(h0, .inr (10, vL 67 G717)), (h_tape, .inl (cB, 940, .inl f_tape))] := hD
                  refine W.widen (k := 0) (n := 0) (Nat.le_of_ble_eq_true rfl) (Nat.le_of_ble_eq_true rfl) ?_
                  refine lv_topi (fun v801 ev801 => ?_)
                  have k802 : 0 ≤ v801.toInt ∧ v801.toInt ≤ 255 := by rw [ev801]; exact t791
                  have k803 : 201 ≤ u718.toInt ∧ u718.toInt ≤ 939 := ⟨k781.1, up_lt t792 k691.2 (by decide)⟩
                  have k804 : 202 ≤ x_size.toInt ∧ x_size.toInt ≤ 940 := ⟨lo_lt t792 k781.1 (by decide), k691.2⟩
                  refine call_Si (wr := [(h0, .inr (10, vL 67 G717)), (h_tape, .inl (cB, 940, .inl f_tape))]) (As := [.int v801]) (rest := []) hx hb hml hown hw (m_X10_isDigit l D cI cJ cB cP cM cZ v801 _ ) wS_X10_186_X10_isDigit dX10_next_195 hP hD hS hA [] [0, 1] rfl rfl (by decide) (by decide) (by decide) GG.fb hG.at hl.1 rfl (Nat.le_of_ble_eq_true rfl) ⟨(Nat.le_of_ble_eq_true rfl), (Nat.le_of_ble_eq_true rfl)⟩ ⟨(Nat.le_of_ble_eq_true rfl), (Nat.le_of_ble_eq_true rfl)⟩ (fun r805 u H locs hp hP hD hS => ?_)
                  rcases hp with ⟨t806, rfl, rfl⟩ | ⟨t807, t808, rfl, rfl⟩ | ⟨t809, t810, rfl, rfl⟩
                  · have hP : va_P D vwCl [(h0, .inr (10, vL 67 G717)), (h_tape, .inl (cB, 940, .inl f_tape))] H := hP
                    have hD : va_D A [(h0, .inr (10, vL 67 G717)), (h_tape, .inl (cB, 940, .inl f_tape))] := hD
                    refine W.widen (k := 0) (n := 0) (Nat.le_of_ble_eq_true rfl) (Nat.le_of_ble_eq_true rfl) ?_
                    have k812 : 0 ≤ v801.toInt ∧ v801.toInt ≤ 47 := ⟨k802.1, up_lt t806 (Int.le_refl _) (by decide)⟩
                    refine lv_if_eq (tgt := 298) hx hb dX10_next_198 (by decide) (fun _ => ?_) (fun g => absurd (by decide) g)
                    have hgv707 : v707.toInt = (((f_tape u2.toNatClampNeg) &&& 255)).toInt := by rw [ev707]
                    have hgv801 : v801.toInt = (((f_tape u718.toNatClampNeg) &&& 255)).toInt := by rw [ev801]
                    have hfst : u718.toInt = u2.toInt → (f_tape u718.toNatClampNeg &&& 255).toInt = (f_tape u2.toNatClampNeg &&& 255).toInt := fun h9 => by rw [Int32.toInt_inj.mp h9]
                    exact cut722 u716 G717 u718 u719 u720 u721 i759 (SAME.tr SAME.rf i760 (by decide)) i761 i762 i763 i764 (ir_wk k803 (by decide) (by decide)) i766 (by show 0 ≤ u719.toInt ∧ u719.toInt ≤ u718.toInt ∧ x_p.toInt + u719.toInt ≤ u718.toInt ∧ (u719.toInt = 0 → u718.toInt = u2.toInt); omega) (by show u716.toInt = 1 → u710.toInt = 0 → (0 ≤ u720.toInt ∧ u720.toInt ≤ 999 ∧ (u719.toInt = 0 → u720.toInt = 0) ∧ (u719.toInt = 1 → u720.toInt ≤ 9) ∧ (u719.toInt = 2 → u720.toInt ≤ 99)); omega) (by show (x_token.toInt = 2 → 0 ≤ u720.toInt ∧ u720.toInt ≤ 999); omega) (by show 1 ≤ u719.toInt; omega) _ _ _ hP hD hS (lv_sub hl [0, 1, 2, 3] rfl)
                  · have hP : va_P D vwCl [(h0, .inr (10, vL 67 G717)), (h_tape, .inl (cB, 940, .inl f_tape))] H := hP
                    have hD : va_D A [(h0, .inr (10, vL 67 G717)), (h_tape, .inl (cB, 940, .inl f_tape))] := hD
                    refine W.widen (k := 0) (n := 0) (Nat.le_of_ble_eq_true rfl) (Nat.le_of_ble_eq_true rfl) ?_
                    have k813 : 48 ≤ v801.toInt ∧ v801.toInt ≤ 255 := ⟨Int.le_trans (Int.le_refl _) t807, k802.2⟩
                    have k814 : 58 ≤ v801.toInt ∧ v801.toInt ≤ 255 := ⟨lo_lt t808 (Int.le_refl _) (by decide), k813.2⟩
                    refine lv_if_eq (tgt := 298) hx hb dX10_next_198 (by decide) (fun _ => ?_) (fun g => absurd (by decide) g)
                    have hgv707 : v707.toInt = (((f_tape u2.toNatClampNeg) &&& 255)).toInt := by rw [ev707]
                    have hgv801 : v801.toInt = (((f_tape u718.toNatClampNeg) &&& 255)).toInt := by rw [ev801]
                    have hfst : u718.toInt = u2.toInt → (f_tape u718.toNatClampNeg &&& 255).toInt = (f_tape u2.toNatClampNeg &&& 255).toInt := fun h9 => by rw [Int32.toInt_inj.mp h9]
                    exact cut722 u716 G717 u718 u719 u720 u721 i759 (SAME.tr SAME.rf i760 (by decide)) i761 i762 i763 i764 (ir_wk k803 (by decide) (by decide)) i766 (by show 0 ≤ u719.toInt ∧ u719.toInt ≤ u718.toInt ∧ x_p.toInt + u719.toInt ≤ u718.toInt ∧ (u719.toInt = 0 → u718.toInt = u2.toInt); omega) (by show u716.toInt = 1 → u710.toInt = 0 → (0 ≤ u720.toInt ∧ u720.toInt ≤ 999 ∧ (u719.toInt = 0 → u720.toInt = 0) ∧ (u719.toInt = 1 → u720.toInt ≤ 9) ∧ (u719.toInt = 2 → u720.toInt ≤ 99)); omega) (by show (x_token.toInt = 2 → 0 ≤ u720.toInt ∧ u720.toInt ≤ 999); omega) (by show 1 ≤ u719.toInt; omega) _ _ _ hP hD hS (lv_sub hl [0, 1, 2, 3] rfl)
                  · have hP : va_P D vwCl [(h0, .inr (10, vL 67 G717)), (h_tape, .inl (cB, 940, .inl f_tape))] H := hP
                    have hD : va_D A [(h0, .inr (10, vL 67 G717)), (h_tape, .inl (cB, 940, .inl f_tape))] := hD
                    refine W.widen (k := 0) (n := 0) (Nat.le_of_ble_eq_true rfl) (Nat.le_of_ble_eq_true rfl) ?_
                    have k815 : 48 ≤ v801.toInt ∧ v801.toInt ≤ 255 := ⟨Int.le_trans (Int.le_refl _) t809, k802.2⟩
                    have k816 : 48 ≤ v801.toInt ∧ v801.toInt ≤ 57 := ⟨k815.1, Int.le_trans t810 (Int.le_refl _)⟩
                    refine lv_if_eq (tgt := 298) hx hb dX10_next_198 (by decide) (fun g => absurd g (by decide)) (fun _ => ?_)
                    have cut818 : ∀ (u817 : Int32) (_ : IR 0 1 u817) (_ : ((u817.toInt = 1 → u710.toInt = 0 → (48 ≤ v801.toInt ∧ v801.toInt ≤ 57 ∧ 0 ≤ u720.toInt ∧ u720.toInt ≤ 999 ∧ (u719.toInt = 0 → u720.toInt = 0) ∧ (u719.toInt = 1 → u720.toInt ≤ 9) ∧ (u719.toInt = 2 → u720.toInt ≤ 99))))) (H : Heap) (locs : List Loc) (ls : Array Slot), va_P D vwCl [(h0, .inr (10, vL 67 G717)), (h_tape, .inl (cB, 940, .inl f_tape))] H → va_D A [(h0, .inr (10, vL 67 G717)), (h_tape, .inl (cB, 940, .inl f_tape))] → va_S A s.heap H locs → lv_has ls 4 [(3, .int u817), (2, .int u710), (1, .int v707), (0, .ref h0)] → W p l e ({ frames := 1, cells := 0, slots := 0, locals := 20 } : Room) s m [.ref h0].toArray below meth c H locs 0 0 (MQ below (va_Qv (fun (u : va_W) => ∃ (Gh : Nat → Value) (y_p : Int32) (y_token : Int32) (y_at : Int32) (y_span : Int32) (y_number : Int32) (y_word : Int64), SAME [4, 11, 12, 13, 14, 18] Fh Gh ∧ Gh 4 = .int y_p ∧ IR 0 940 y_p ∧ Gh 11 = .int y_token ∧ IR 0 4 y_token ∧ Gh 12 = .int y_at ∧ IR 0 940 y_at ∧ Gh 13 = .int y_span ∧ IR 0 940 y_span ∧ Gh 14 = .int y_number ∧ Gh 18 = .long y_word ∧ (x_p.toInt ≤ y_p.toInt) ∧ ((1 ≤ y_token.toInt → y_token.toInt ≤ 3 → x_p.toInt < y_p.toInt)) ∧ ((y_token.toInt = 2 → 0 ≤ y_number.toInt ∧ y_number.toInt ≤ 999)) ∧ u = [(h0, .inr (10, vL 67 Gh)), (h_tape, .inl (cB, 940, .inl f_tape))]) (PO D A) A) [.ref h0].toArray s 0 0 A) (F0 m 222 ls []) := by
                      intro u817 i819 i820 H locs ls hP hD hS hl
                      have i819 : 0 ≤ u817.toInt ∧ u817.toInt ≤ 1 := i819
                      have i820 : (u817.toInt = 1 → u710.toInt = 0 → (48 ≤ v801.toInt ∧ v801.toInt ≤ 57 ∧ 0 ≤ u720.toInt ∧ u720.toInt ≤ 999 ∧ (u719.toInt = 0 → u720.toInt = 0) ∧ (u719.toInt = 1 → u720.toInt ≤ 9) ∧ (u719.toInt = 2 → u720.toInt ≤ 99))) := i820
                      have cut823 : ∀ (G821 : Nat → Value) (u822 : Int64) (_ : SAME [18] G717 G821) (_ : G821 18 = .long u822) (H : Heap) (locs : List Loc) (ls : Array Slot), va_P D vwCl [(h0, .inr (10, vL 67 G821)), (h_tape, .inl (cB, 940, .inl f_tape))] H → va_D A [(h0, .inr (10, vL 67 G821)), (h_tape, .inl (cB, 940, .inl f_tape))] → va_S A s.heap H locs → lv_has ls 4 [(3, .int u817), (2, .int u710), (1, .int v707), (0, .ref h0)] → W p l e ({ frames := 1, cells := 0, slots := 0, locals := 20 } : Room) s m [.ref h0].toArray below meth c H locs 0 0 (MQ below (va_Qv (fun (u : va_W) => ∃ (Gh : Nat → Value) (y_p : Int32) (y_token : Int32) (y_at : Int32) (y_span : Int32) (y_number : Int32) (y_word : Int64), SAME [4, 11, 12, 13, 14, 18] Fh Gh ∧ Gh 4 = .int y_p ∧ IR 0 940 y_p ∧ Gh 11 = .int y_token ∧ IR 0 4 y_token ∧ Gh 12 = .int y_at ∧ IR 0 940 y_at ∧ Gh 13 = .int y_span ∧ IR 0 940 y_span ∧ Gh 14 = .int y_number ∧ Gh 18 = .long y_word ∧ (x_p.toInt ≤ y_p.toInt) ∧ ((1 ≤ y_token.toInt → y_token.toInt ≤ 3 → x_p.toInt < y_p.toInt)) ∧ ((y_token.toInt = 2 → 0 ≤ y_number.toInt ∧ y_number.toInt ≤ 999)) ∧ u = [(h0, .inr (10, vL 67 Gh)), (h_tape, .inl (cB, 940, .inl f_tape))]) (PO D A) A) [.ref h0].toArray s 0 0 A) (F0 m 248 ls []) := by
                        intro G821 u822 i824 i825 H locs ls hP hD hS hl
                        refine lv_aload_n hx hb dX10_next_248 rfl (lv_at hl 3 rfl) ?_
                        have n826 : G821 13 = .int u719 := (SAME.at i824 (by decide) i762)
                        refine get_f (D := D) (ci := 10) (v := .int u719) (C := RX10) (T := TX10) (N := 67) hx hb hw inAX10 hown hK hP 0 rfl rfl 13 (by decide) (hw _ q_1274) (fun _ h9 => h9) n826 dX10_next_249 ?_
                        refine lv_iconst (v := 3) hx hb dX10_next_252 (by decide) ?_
                        refine lv_icmp_ge (tgt := 275) hx hb dX10_next_253 (by decide) (fun c827 => ?_) (fun c827 => ?_)
                        · have dc827 : 3 ≤ u719.toInt := le_i (a := 3) (b := u719.toInt) rfl rfl c827
                          have k828 : 3 ≤ u719.toInt ∧ u719.toInt ≤ 940 := ⟨Int.le_trans (Int.le_refl _) dc827, i766.2⟩
                          refine lv_aload_n hx hb dX10_next_275 rfl (lv_at hl 3 rfl) ?_
                          refine lv_dup hx hb dX10_next_276 rfl ?_
                          refine get_f (D := D) (ci := 10) (v := .int u719) (C := RX10) (T := TX10) (N := 67) hx hb hw inAX10 hown hK hP 0 rfl rfl 13 (by decide) (hw _ q_1274) (fun _ h9 => h9) n826 dX10_next_277 ?_
                          refine lv_iconst (v := 1) hx hb dX10_next_280 (by decide) ?_
                          refine lv_iadd hx hb dX10_next_281 ?_
                          refine lv_topi (fun v829 ev829 => ?_)
                          have bv829 : v829.toInt = u719.toInt + 1 := by rw [ev829]; exact add_k rfl rfl k828 ⟨Int.le_refl _, Int.le_refl _⟩ (by decide)
                          have k830 : 4 ≤ v829.toInt ∧ v829.toInt ≤ 941 := add_r bv829 k828 ⟨Int.le_refl _, Int.le_refl _⟩ (by decide)
                          refine put_f (D := D) (ci := 10) (v := .int v829) (ty := .int) (C := RX10) (T := TX10) (N := 67) hx hb hw inAX10 tyX10 tyX10_ok nmX10 hown hK hP hD hS 0 rfl rfl 13 (by decide) (hw _ q_1274) (fun _ h9 => h9) rfl (by decide +kernel) rfl rfl dX10_next_282 (fun H locs F831 eF831 hP hD hS => ?_)
                          have hP : va_P D vwCl [(h0, .inr (10, vL 67 F831)), (h_tape, .inl (cB, 940, .inl f_tape))] H := hP
                          have hD : va_D A [(h0, .inr (10, vL 67 F831)), (h_tape, .inl (cB, 940, .inl f_tape))] := hD
                          refine lv_aload_n hx hb dX10_next_285 rfl (lv_at hl 3 rfl) ?_
                          refine lv_dup hx hb dX10_next_286 rfl ?_
                          have n832 : G821 4 = .int u718 := (SAME.at i824 (by decide) i761)
                          have n833 : F831 4 = .int u718 := (get_ne eF831 (by decide) n832)
                          refine get_f (D := D) (ci := 10) (v := .int u718) (C := RX10) (T := TX10) (N := 67) hx hb hw inAX10 hown hK hP 0 rfl rfl 4 (by decide) (hw _ q_1265) (fun _ h9 => h9) n833 dX10_next_287 ?_
                          refine lv_iconst (v := 1) hx hb dX10_next_290 (by decide) ?_
                          refine lv_iadd hx hb dX10_next_291 ?_
                          refine lv_topi (fun v834 ev834 => ?_)
                          have bv834 : v834.toInt = u718.toInt + 1 := by rw [ev834]; exact add_k rfl rfl k803 ⟨Int.le_refl _, Int.le_refl _⟩ (by decide)
                          have k835 : 202 ≤ v834.toInt ∧ v834.toInt ≤ 940 := add_r bv834 k803 ⟨Int.le_refl _, Int.le_refl _⟩ (by decide)
                          refine put_f (D := D) (ci := 10) (v := .int v834) (ty := .int) (C := RX10) (T := TX10) (N := 67) hx hb hw inAX10 tyX10 tyX10_ok nmX10 hown hK hP hD hS 0 rfl rfl 4 (by decide) (hw _ q_1265) (fun _ h9 => h9) rfl (by decide +kernel) rfl rfl dX10_next_292 (fun H locs F836 eF836 hP hD hS => ?_)
                          have hP : va_P D vwCl [(h0, .inr (10, vL 67 F836)), (h_tape, .inl (cB, 940, .inl f_tape))] H := hP
                          have hD : va_D A [(h0, .inr (10, vL 67 F836)), (h_tape, .inl (cB, 940, .inl f_tape))] := hD
                          refine lv_goto (tgt := 181) hx hb dX10_next_295 (by decide) ?_
                          have n837 : F836 13 = .int v829 := (get_ne eF836 (by decide) (get_eq eF831))
                          have n838 : G821 14 = .int u720 := (SAME.at i824 (by decide) i763)
                          have n839 : F831 14 = .int u720 := (get_ne eF831 (by decide) n838)
                          have n840 : F836 14 = .int u720 := (get_ne eF836 (by decide) n839)
                          have n841 : F831 18 = .long u822 := (get_ne eF831 (by decide) i825)
                          have n842 : F836 18 = .long u822 := (get_ne eF836 (by decide) n841)
                          exact ih (u817, F836, v834, v829, u720, u822) ⟨i819, (SAME.up eF836 (SAME.up eF831 (SAME.tr (SAME.tr SAME.rf i760 (by decide)) i824 (by decide)) (by decide)) (by decide)), (get_eq eF836), n837, n840, n842, (ir_wk k835 (by decide) (by decide)), ⟨by omega, by omega⟩, (by show 0 ≤ v829.toInt ∧ v829.toInt ≤ v834.toInt ∧ x_p.toInt + v829.toInt ≤ v834.toInt ∧ (v829.toInt = 0 → v834.toInt = u2.toInt); omega), (by show u817.toInt = 1 → u710.toInt = 0 → (0 ≤ u720.toInt ∧ u720.toInt ≤ 999 ∧ (v829.toInt = 0 → u720.toInt = 0) ∧ (v829.toInt = 1 → u720.toInt ≤ 9) ∧ (v829.toInt = 2 → u720.toInt ≤ 99)); omega), (by show (x_token.toInt = 2 → 0 ≤ u720.toInt ∧ u720.toInt ≤ 999); omega)⟩ (by show (x_size.toInt - v834.toInt).toNat < (x_size.toInt - u718.toInt).toNat; omega) _ _ _ hP hD hS (lv_sub hl [0, 1, 2, 3] rfl)
                        · have dc827 : u719.toInt < 3 := nle_i (a := 3) (b := u719.toInt) rfl rfl c827
                          have k843 : 0 ≤ u719.toInt ∧ u719.toInt ≤ 2 := ⟨i766.1, up_lt dc827 (Int.le_refl _) (by decide)⟩
                          refine lv_aload_n hx hb dX10_next_256 rfl (lv_at hl 3 rfl) ?_
                          refine lv_bipush (v := 10) hx hb dX10_next_257 (by decide) ?_
                          refine lv_aload_n hx hb dX10_next_259 rfl (lv_at hl 3 rfl) ?_
                          have n844 : G821 14 = .int u720 := (SAME.at i824 (by decide) i763)
                          refine get_f (D := D) (ci := 10) (v := .int u720) (C := RX10) (T := TX10) (N := 67) hx hb hw inAX10 hown hK hP 0 rfl rfl 14 (by decide) (hw _ q_1275) (fun _ h9 => h9) n844 dX10_next_260 ?_
                          refine lv_imul hx hb dX10_next_263 ?_
                          refine lv_topi (fun v845 ev845 => ?_)
                          refine lv_aload_n hx hb dX10_next_264 rfl (lv_at hl 3 rfl) ?_
                          have n846 : G821 1 = .ref h_tape := (SAME.at i824 (by decide) n772)
                          have n847 : G821 3 = .int x_size := (SAME.at i824 (by decide) n775)
                          have n848 : G821 4 = .int u718 := (SAME.at i824 (by decide) i761)
                          refine call_Vi (wr := []) (As := []) (rest := [.int v845, .ref h0]) hx hb hml hown hw (m_X10_peek l D cI cJ cB cP cM cZ h0 h_tape G821 x_size u718 f_tape _ n846 n847 (ir_wk k804 (by decide) (by decide)) n848 (ir_wk k803 (by decide) (by decide))) wV_X10_169_X10_peek dX10_next_265 hK hP hD hS hA [0, 1] [] rfl rfl (by decide) (by decide) (by decide) 0 10 rfl rfl GG.fb hG.at hl.1 rfl (Nat.le_of_ble_eq_true rfl) ⟨(Nat.le_of_ble_eq_true rfl), (Nat.le_of_ble_eq_true rfl)⟩ ⟨(Nat.le_of_ble_eq_true rfl), (Nat.le_of_ble_eq_true rfl)⟩ (fun r849 u H locs hp hP hD hS => ?_)
                          rcases hp with ⟨t850, rfl, rfl⟩ | ⟨t851, t852, rfl, rfl⟩
                          · have hP : va_P D vwCl [(h0, .inr (10, vL 67 G821)), (h_tape, .inl (cB, 940, .inl f_tape))] H := hP
                            have hD : va_D A [(h0, .inr (10, vL 67 G821)), (h_tape, .inl (cB, 940, .inl f_tape))] := hD
                            refine W.widen (k := 0) (n := 0) (Nat.le_of_ble_eq_true rfl) (Nat.le_of_ble_eq_true rfl) ?_
                            have k854 : 202 ≤ x_size.toInt ∧ x_size.toInt ≤ 939 := ⟨k804.1, Int.le_trans t850 k803.2⟩
                            have k855 : 202 ≤ u718.toInt ∧ u718.toInt ≤ 939 := ⟨Int.le_trans k804.1 t850, k803.2⟩
                            refine lv_iadd hx hb dX10_next_268 ?_
                            refine lv_topi (fun v856 ev856 => ?_)
                            refine lv_bipush (v := 48) hx hb dX10_next_269 (by decide) ?_
                            refine lv_isub hx hb dX10_next_271 ?_
                            refine lv_topi (fun v857 ev857 => ?_)
                            refine put_f (D := D) (ci := 10) (v := .int v857) (ty := .int) (C := RX10) (T := TX10) (N := 67) hx hb hw inAX10 tyX10 tyX10_ok nmX10 hown hK hP hD hS 0 rfl rfl 14 (by decide) (hw _ q_1275) (fun _ h9 => h9) rfl (by decide +kernel) rfl rfl dX10_next_272 (fun H locs F858 eF858 hP hD hS => ?_)
                            have hP : va_P D vwCl [(h0, .inr (10, vL 67 F858)), (h_tape, .inl (cB, 940, .inl f_tape))] H := hP
                            have hD : va_D A [(h0, .inr (10, vL 67 F858)), (h_tape, .inl (cB, 940, .inl f_tape))] := hD
                            refine lv_aload_n hx hb dX10_next_275 rfl (lv_at hl 3 rfl) ?_
                            refine lv_dup hx hb dX10_next_276 rfl ?_
                            have n859 : F858 13 = .int u719 := (get_ne eF858 (by decide) n826)
                            refine get_f (D := D) (ci := 10) (v := .int u719) (C := RX10) (T := TX10) (N := 67) hx hb hw inAX10 hown hK hP 0 rfl rfl 13 (by decide) (hw _ q_1274) (fun _ h9 => h9) n859 dX10_next_277 ?_
                            refine lv_iconst (v := 1) hx hb dX10_next_280 (by decide) ?_
                            refine lv_iadd hx hb dX10_next_281 ?_
                            refine lv_topi (fun v860 ev860 => ?_)
                            have bv860 : v860.toInt = u719.toInt + 1 := by rw [ev860]; exact add_k rfl rfl k843 ⟨Int.le_refl _, Int.le_refl _⟩ (by decide)
                            have k861 : 1 ≤ v860.toInt ∧ v860.toInt ≤ 3 := add_r bv860 k843 ⟨Int.le_refl _, Int.le_refl _⟩ (by decide)
                            refine put_f (D := D) (ci := 10) (v := .int v860) (ty := .int) (C := RX10) (T := TX10) (N := 67) hx hb hw inAX10 tyX10 tyX10_ok nmX10 hown hK hP hD hS 0 rfl rfl 13 (by decide) (hw _ q_1274) (fun _ h9 => h9) rfl (by decide +kernel) rfl rfl dX10_next_282 (fun H locs F862 eF862 hP hD hS => ?_)
                            have hP : va_P D vwCl [(h0, .inr (10, vL 67 F862)), (h_tape, .inl (cB, 940, .inl f_tape))] H := hP
                            have hD : va_D A [(h0, .inr (10, vL 67 F862)), (h_tape, .inl (cB, 940, .inl f_tape))] := hD
                            refine lv_aload_n hx hb dX10_next_285 rfl (lv_at hl 3 rfl) ?_
                            refine lv_dup hx hb dX10_next_286 rfl ?_
                            have n863 : F858 4 = .int u718 := (get_ne eF858 (by decide) n848)
                            have n864 : F862 4 = .int u718 := (get_ne eF862 (by decide) n863)
                            refine get_f (D := D) (ci := 10) (v := .int u718) (C := RX10) (T := TX10) (N := 67) hx hb hw inAX10 hown hK hP 0 rfl rfl 4 (by decide) (hw _ q_1265) (fun _ h9 => h9) n864 dX10_next_287 ?_
                            refine lv_iconst (v := 1) hx hb dX10_next_290 (by decide) ?_
                            refine lv_iadd hx hb dX10_next_291 ?_
                            refine lv_topi (fun v865 ev865 => ?_)
                            have bv865 : v865.toInt = u718.toInt + 1 := by rw [ev865]; exact add_k rfl rfl k855 ⟨Int.le_refl _, Int.le_refl _⟩ (by decide)
                            have k866 : 203 ≤ v865.toInt ∧ v865.toInt ≤ 940 := add_r bv865 k855 ⟨Int.le_refl _, Int.le_refl _⟩ (by decide)
                            refine put_f (D := D) (ci := 10) (v := .int v865) (ty := .int) (C := RX10) (T := TX10) (N := 67) hx hb hw inAX10 tyX10 tyX10_ok nmX10 hown hK hP hD hS 0 rfl rfl 4 (by decide) (hw _ q_1265) (fun _ h9 => h9) rfl (by decide +kernel) rfl rfl dX10_next_292 (fun H locs F867 eF867 hP hD hS => ?_)
                            have hP : va_P D vwCl [(h0, .inr (10, vL 67 F867)), (h_tape, .inl (cB, 940, .inl f_tape))] H := hP
                            have hD : va_D A [(h0, .inr (10, vL 67 F867)), (h_tape, .inl (cB, 940, .inl f_tape))] := hD
                            refine lv_goto (tgt := 181) hx hb dX10_next_295 (by decide) ?_
                            have n868 : F867 13 = .int v860 := (get_ne eF867 (by decide) (get_eq eF862))
                            have n869 : F862 14 = .int v857 := (get_ne eF862 (by decide) (get_eq eF858))
                            have n870 : F867 14 = .int v857 := (get_ne eF867 (by decide) n869)
                            have n871 : F858 18 = .long u822 := (get_ne eF858 (by decide) i825)
                            have n872 : F862 18 = .long u822 := (get_ne eF862 (by decide) n871)
                            have n873 : F867 18 = .long u822 := (get_ne eF867 (by decide) n872)
                            exact ih (u817, F867, v865, v860, v857, u822) ⟨i819, (SAME.up eF867 (SAME.up eF862 (SAME.up eF858 (SAME.tr (SAME.tr SAME.rf i760 (by decide)) i824 (by decide)) (by decide)) (by decide)) (by decide)), (get_eq eF867), n868, n870, n873, (ir_wk k866 (by decide) (by decide)), (ir_wk k861 (by decide) (by decide)), (by show 0 ≤ v860.toInt ∧ v860.toInt ≤ v865.toInt ∧ x_p.toInt + v860.toInt ≤ v865.toInt ∧ (v860.toInt = 0 → v865.toInt = u2.toInt); omega), (by show u817.toInt = 1 → u710.toInt = 0 → (0 ≤ v857.toInt ∧ v857.toInt ≤ 999 ∧ (v860.toInt = 0 → v857.toInt = 0) ∧ (v860.toInt = 1 → v857.toInt ≤ 9) ∧ (v860.toInt = 2 → v857.toInt ≤ 99)); omega), (by show (x_token.toInt = 2 → 0 ≤ v857.toInt ∧ v857.toInt ≤ 999); omega)⟩ (by show (x_size.toInt - v865.toInt).toNat < (x_size.toInt - u718.toInt).toNat; omega) _ _ _ hP hD hS (lv_sub hl [0, 1, 2, 3] rfl)
                          · have hP : va_P D vwCl [(h0, .inr (10, vL 67 G821)), (h_tape, .inl (cB, 940, .inl f_tape))] H := hP
                            have hD : va_D A [(h0, .inr (10, vL 67 G821)), (h_tape, .inl (cB, 940, .inl f_tape))] := hD
                            refine W.widen (k := 0) (n := 0) (Nat.le_of_ble_eq_true rfl) (Nat.le_of_ble_eq_true rfl) ?_
                            refine lv_ci (y := v801) ev801.symm ?_
                            refine lv_iadd hx hb dX10_next_268 ?_
                            refine lv_topi (fun v874 ev874 => ?_)
                            refine lv_bipush (v := 48) hx hb dX10_next_269 (by decide) ?_
                            refine lv_isub hx hb dX10_next_271 ?_
                            refine lv_topi (fun v875 ev875 => ?_)
                            refine put_f (D := D) (ci := 10) (v := .int v875) (ty := .int) (C := RX10) (T := TX10) (N := 67) hx hb hw inAX10 tyX10 tyX10_ok nmX10 hown hK hP hD hS 0 rfl rfl 14 (by decide) (hw _ q_1275) (fun _ h9 => h9) rfl (by decide +kernel) rfl rfl dX10_next_272 (fun H locs F876 eF876 hP hD hS => ?_)
                            have hP : va_P D vwCl [(h0, .inr (10, vL 67 F876)), (h_tape, .inl (cB, 940, .inl f_tape))] H := hP
                            have hD : va_D A [(h0, .inr (10, vL 67 F876)), (h_tape, .inl (cB, 940, .inl f_tape))] := hD
                            refine lv_aload_n hx hb dX10_next_275 rfl (lv_at hl 3 rfl) ?_
                            refine lv_dup hx hb dX10_next_276 rfl ?_
                            have n877 : F876 13 = .int u719 := (get_ne eF876 (by decide) n826)
                            refine get_f (D := D) (ci := 10) (v := .int u719) (C := RX10) (T := TX10) (N := 67) hx hb hw inAX10 hown hK hP 0 rfl rfl 13 (by decide) (hw _ q_1274) (fun _ h9 => h9) n877 dX10_next_277 ?_
                            refine lv_iconst (v := 1) hx hb dX10_next_280 (by decide) ?_
                            refine lv_iadd hx hb dX10_next_281 ?_
                            refine lv_topi (fun v878 ev878 => ?_)
                            have bv878 : v878.toInt = u719.toInt + 1 := by rw [ev878]; exact add_k rfl rfl k843 ⟨Int.le_refl _, Int.le_refl _⟩ (by decide)
                            have k879 : 1 ≤ v878.toInt ∧ v878.toInt ≤ 3 := add_r bv878 k843 ⟨Int.le_refl _, Int.le_refl _⟩ (by decide)
                            refine put_f (D := D) (ci := 10) (v := .int v878) (ty := .int) (C := RX10) (T := TX10) (N := 67) hx hb hw inAX10 tyX10 tyX10_ok nmX10 hown hK hP hD hS 0 rfl rfl 13 (by decide) (hw _ q_1274) (fun _ h9 => h9) rfl (by decide +kernel) rfl rfl dX10_next_282 (fun H locs F880 eF880 hP hD hS => ?_)
                            have hP : va_P D vwCl [(h0, .inr (10, vL 67 F880)), (h_tape, .inl (cB, 940, .inl f_tape))] H := hP
                            have hD : va_D A [(h0, .inr (10, vL 67 F880)), (h_tape, .inl (cB, 940, .inl f_tape))] := hD
                            refine lv_aload_n hx hb dX10_next_285 rfl (lv_at hl 3 rfl) ?_
                            refine lv_dup hx hb dX10_next_286 rfl ?_
                            have n881 : F876 4 = .int u718 := (get_ne eF876 (by decide) n848)
                            have n882 : F880 4 = .int u718 := (get_ne eF880 (by decide) n881)
                            refine get_f (D := D) (ci := 10) (v := .int u718) (C := RX10) (T := TX10) (N := 67) hx hb hw inAX10 hown hK hP 0 rfl rfl 4 (by decide) (hw _ q_1265) (fun _ h9 => h9) n882 dX10_next_287 ?_
                            refine lv_iconst (v := 1) hx hb dX10_next_290 (by decide) ?_
                            refine lv_iadd hx hb dX10_next_291 ?_
                            refine lv_topi (fun v883 ev883 => ?_)
                            have bv883 : v883.toInt = u718.toInt + 1 := by rw [ev883]; exact add_k rfl rfl k803 ⟨Int.le_refl _, Int.le_refl _⟩ (by decide)
                            have k884 : 202 ≤ v883.toInt ∧ v883.toInt ≤ 940 := add_r bv883 k803 ⟨Int.le_refl _, Int.le_refl _⟩ (by decide)
                            refine put_f (D := D) (ci := 10) (v := .int v883) (ty := .int) (C := RX10) (T := TX10) (N := 67) hx hb hw inAX10 tyX10 tyX10_ok nmX10 hown hK hP hD hS 0 rfl rfl 4 (by decide) (hw _ q_1265) (fun _ h9 => h9) rfl (by decide +kernel) rfl rfl dX10_next_292 (fun H locs F885 eF885 hP hD hS => ?_)
                            have hP : va_P D vwCl [(h0, .inr (10, vL 67 F885)), (h_tape, .inl (cB, 940, .inl f_tape))] H := hP
                            have hD : va_D A [(h0, .inr (10, vL 67 F885)), (h_tape, .inl (cB, 940, .inl f_tape))] := hD
                            refine lv_goto (tgt := 181) hx hb dX10_next_295 (by decide) ?_
                            have n886 : F885 13 = .int v878 := (get_ne eF885 (by decide) (get_eq eF880))
                            have n887 : F880 14 = .int v875 := (get_ne eF880 (by decide) (get_eq eF876))
                            have n888 : F885 14 = .int v875 := (get_ne eF885 (by decide) n887)
                            have n889 : F876 18 = .long u822 := (get_ne eF876 (by decide) i825)
                            have n890 : F880 18 = .long u822 := (get_ne eF880 (by decide) n889)
                            have n891 : F885 18 = .long u822 := (get_ne eF885 (by decide) n890)
                            exact ih (u817, F885, v883, v878, v875, u822) ⟨i819, (SAME.up eF885 (SAME.up eF880 (SAME.up eF876 (SAME.tr (SAME.tr SAME.rf i760 (by decide)) i824 (by decide)) (by decide)) (by decide)) (by decide)), (get_eq eF885), n886, n888, n891, (ir_wk k884 (by decide) (by decide)), (ir_wk k879 (by decide) (by decide)), (by show 0 ≤ v878.toInt ∧ v878.toInt ≤ v883.toInt ∧ x_p.toInt + v878.toInt ≤ v883.toInt ∧ (v878.toInt = 0 → v883.toInt = u2.toInt); omega), (by show u817.toInt = 1 → u710.toInt = 0 → (0 ≤ v875.toInt ∧ v875.toInt ≤ 999 ∧ (v878.toInt = 0 → v875.toInt = 0) ∧ (v878.toInt = 1 → v875.toInt ≤ 9) ∧ (v878.toInt = 2 → v875.toInt ≤ 99)); omega), (by show (x_token.toInt = 2 → 0 ≤ v875.toInt ∧ v875.toInt ≤ 999); omega)⟩ (by show (x_size.toInt - v883.toInt).toNat < (x_size.toInt - u718.toInt).toNat; omega) _ _ _ hP hD hS (lv_sub hl [0, 1, 2, 3] rfl)
                      refine lv_aload_n hx hb dX10_next_222 rfl (lv_at hl 3 rfl) ?_
                      refine get_f (D := D) (ci := 10) (v := .int u719) (C := RX10) (T := TX10) (N := 67) hx hb hw inAX10 hown hK hP 0 rfl rfl 13 (by decide) (hw _ q_1274) (fun _ h9 => h9) i762 dX10_next_223 ?_
                      refine lv_bipush (v := 7) hx hb dX10_next_226 (by decide) ?_
                      refine lv_icmp_ge (tgt := 248) hx hb dX10_next_228 (by decide) (fun c892 => ?_) (fun c892 => ?_)
                      · have dc892 : 7 ≤ u719.toInt := le_i (a := 7) (b := u719.toInt) rfl rfl c892
                        have k893 : 7 ≤ u719.toInt ∧ u719.toInt ≤ 940 := ⟨Int.le_trans (Int.le_refl _) dc892, i766.2⟩
                        exact cut823 G717 u721 SAME.rf i764 _ _ _ hP hD hS (lv_sub hl [0, 1, 2, 3] rfl)
                      · have dc892 : u719.toInt < 7 := nle_i (a := 7) (b := u719.toInt) rfl rfl c892
                        have k894 : 0 ≤ u719.toInt ∧ u719.toInt ≤ 6 := ⟨i766.1, up_lt dc892 (Int.le_refl _) (by decide)⟩
                        refine lv_aload_n hx hb dX10_next_231 rfl (lv_at hl 3 rfl) ?_
                        refine lv_aload_n hx hb dX10_next_232 rfl (lv_at hl 3 rfl) ?_
                        refine get_f (D := D) (ci := 10) (v := .long u721) (C := RX10) (T := TX10) (N := 67) hx hb hw inAX10 hown hK hP 0 rfl rfl 18 (by decide) (hw _ q_1279) (fun _ h9 => h9) i764 dX10_next_233 ?_
                        refine lv_bipush (v := 8) hx hb dX10_next_236 (by decide) ?_
                        obtain ⟨v895, ev895⟩ : ∃ z : Int64, (u721 : Int64) <<< ((8 : Int32).toInt64 &&& 63) = z := ⟨_, rfl⟩
                        refine lv_lshl (v := v895) hx hb dX10_next_238 ev895 ?_
                        refine lv_aload_n hx hb dX10_next_239 rfl (lv_at hl 3 rfl) ?_
                        refine call_Vi (wr := []) (As := []) (rest := [.long v895, .ref h0]) hx hb hml hown hw (m_X10_peek l D cI cJ cB cP cM cZ h0 h_tape G717 x_size u718 f_tape _ n772 n775 (ir_wk k804 (by decide) (by decide)) i761 (ir_wk k803 (by decide) (by decide))) wV_X10_169_X10_peek dX10_next_240 hK hP hD hS hA [0, 1] [] rfl rfl (by decide) (by decide) (by decide) 0 10 rfl rfl GG.fb hG.at hl.1 rfl (Nat.le_of_ble_eq_true rfl) ⟨(Nat.le_of_ble_eq_true rfl), (Nat.le_of_ble_eq_true rfl)⟩ ⟨(Nat.le_of_ble_eq_true rfl), (Nat.le_of_ble_eq_true rfl)⟩ (fun r896 u H locs hp hP hD hS => ?_)
                        rcases hp with ⟨t897, rfl, rfl⟩ | ⟨t898, t899, rfl, rfl⟩
                        · have hP : va_P D vwCl [(h0, .inr (10, vL 67 G717)), (h_tape, .inl (cB, 940, .inl f_tape))] H := hP
                          have hD : va_D A [(h0, .inr (10, vL 67 G717)), (h_tape, .inl (cB, 940, .inl f_tape))] := hD
                          refine W.widen (k := 0) (n := 0) (Nat.le_of_ble_eq_true rfl) (Nat.le_of_ble_eq_true rfl) ?_
                          have k901 : 202 ≤ x_size.toInt ∧ x_size.toInt ≤ 939 := ⟨k804.1, Int.le_trans t897 k803.2⟩
                          have k902 : 202 ≤ u718.toInt ∧ u718.toInt ≤ 939 := ⟨Int.le_trans k804.1 t897, k803.2⟩
                          obtain ⟨v903, ev903⟩ : ∃ z : Int64, ((-1) : Int32).toInt64 = z := ⟨_, rfl⟩
                          refine lv_i2l (v := v903) hx hb dX10_next_243 ev903 ?_
                          refine lv_lor hx hb dX10_next_244 ?_
                          refine lv_topl (fun v904 ev904 => ?_)
                          refine put_f (D := D) (ci := 10) (v := .long v904) (ty := .long) (C := RX10) (T := TX10) (N := 67) hx hb hw inAX10 tyX10 tyX10_ok nmX10 hown hK hP hD hS 0 rfl rfl 18 (by decide) (hw _ q_1279) (fun _ h9 => h9) rfl (by decide +kernel) rfl rfl dX10_next_245 (fun H locs F905 eF905 hP hD hS => ?_)
                          have hP : va_P D vwCl [(h0, .inr (10, vL 67 F905)), (h_tape, .inl (cB, 940, .inl f_tape))] H := hP
                          have hD : va_D A [(h0, .inr (10, vL 67 F905)), (h_tape, .inl (cB, 940, .inl f_tape))] := hD
                          exact cut823 F905 v904 (SAME.up eF905 SAME.rf (by decide)) (get_eq eF905) _ _ _ hP hD hS (lv_sub hl [0, 1, 2, 3] rfl)
                        · have hP : va_P D vwCl [(h0, .inr (10, vL 67 G717)), (h_tape, .inl (cB, 940, .inl f_tape))] H := hP
                          have hD : va_D A [(h0, .inr (10, vL 67 G717)), (h_tape, .inl (cB, 940, .inl f_tape))] := hD
                          refine W.widen (k := 0) (n := 0) (Nat.le_of_ble_eq_true rfl) (Nat.le_of_ble_eq_true rfl) ?_
                          refine lv_ci (y := v801) ev801.symm ?_
                          obtain ⟨v906, ev906⟩ : ∃ z : Int64, (v801 : Int32).toInt64 = z := ⟨_, rfl⟩
                          refine lv_i2l (v := v906) hx hb dX10_next_243 ev906 ?_
                          refine lv_lor hx hb dX10_next_244 ?_
                          refine lv_topl (fun v907 ev907 => ?_)
                          refine put_f (D := D) (ci := 10) (v := .long v907) (ty := .long) (C := RX10) (T := TX10) (N := 67) hx hb hw inAX10 tyX10 tyX10_ok nmX10 hown hK hP hD hS 0 rfl rfl 18 (by decide) (hw _ q_1279) (fun _ h9 => h9) rfl (by decide +kernel) rfl rfl dX10_next_245 (fun H locs F908 eF908 hP hD hS => ?_)
                          have hP : va_P D vwCl [(h0, .inr (10, vL 67 F908)), (h_tape, .inl (cB, 940, .inl f_tape))] H := hP
                          have hD : va_D A [(h0, .inr (10, vL 67 F908)), (h_tape, .inl (cB, 940, .inl f_tape))] := hD
                          exact cut823 F908 v907 (SAME.up eF908 SAME.rf (by decide)) (get_eq eF908) _ _ _ hP hD hS (lv_sub hl [0, 1, 2, 3] rfl)
                    refine lv_iload_n hx hb dX10_next_201 rfl (lv_at hl 0 rfl) ?_
                    refine lv_if_eq (tgt := 220) hx hb dX10_next_202 (by decide) (fun c909 => ?_) (fun c909 => ?_)
                    · have dc909 : u716.toInt = 0 := eq_i (a := u716.toInt) (b := 0) rfl rfl c909
                      have k910 : 0 ≤ u716.toInt ∧ u716.toInt ≤ 0 := ⟨i759.1, Int.le_trans (Int.le_of_eq dc909) (Int.le_refl _)⟩
                      refine lv_iconst (v := 0) hx hb dX10_next_220 (by decide) ?_
                      refine lv_istore_n (lv' := [(3, .int 0), (2, .int u710), (1, .int v707), (0, .ref h0)]) hx hb dX10_next_221 rfl hl (by decide) rfl (fun ls hl => ?_)
                      exact cut818 0 (show 0 ≤ (0 : Int32).toInt ∧ (0 : Int32).toInt ≤ 1 by decide) (by show (0 = 1 → u710.toInt = 0 → (48 ≤ v801.toInt ∧ v801.toInt ≤ 57 ∧ 0 ≤ u720.toInt ∧ u720.toInt ≤ 999 ∧ (u719.toInt = 0 → u720.toInt = 0) ∧ (u719.toInt = 1 → u720.toInt ≤ 9) ∧ (u719.toInt = 2 → u720.toInt ≤ 99))); omega) _ _ _ hP hD hS (lv_sub hl [0, 1, 2, 3] rfl)
                    · have dc909 : u716.toInt ≠ 0 := ne_i (a := u716.toInt) (b := 0) rfl rfl c909
                      have k911 : 1 ≤ u716.toInt ∧ u716.toInt ≤ 1 := ⟨ne_lo dc909 i759.1 ⟨Int.le_refl _, Int.le_refl _⟩ (by decide), i759.2⟩
                      refine lv_aload_n hx hb dX10_next_205 rfl (lv_at hl 3 rfl) ?_
                      refine call_Vi (wr := []) (As := []) (rest := []) hx hb hml hown hw (m_X10_peek l D cI cJ cB cP cM cZ h0 h_tape G717 x_size u718 f_tape _ n772 n775 (ir_wk k804 (by decide) (by decide)) i761 (ir_wk k803 (by decide) (by decide))) wV_X10_169_X10_peek dX10_next_206 hK hP hD hS hA [0, 1] [] rfl rfl (by decide) (by decide) (by decide) 0 10 rfl rfl GG.fb hG.at hl.1 rfl (Nat.le_of_ble_eq_true rfl) ⟨(Nat.le_of_ble_eq_true rfl), (Nat.le_of_ble_eq_true rfl)⟩ ⟨(Nat.le_of_ble_eq_true rfl), (Nat.le_of_ble_eq_true rfl)⟩ (fun r912 u H locs hp hP hD hS => ?_)
                      rcases hp with ⟨t913, rfl, rfl⟩ | ⟨t914, t915, rfl, rfl⟩
                      · have hP : va_P D vwCl [(h0, .inr (10, vL 67 G717)), (h_tape, .inl (cB, 940, .inl f_tape))] H := hP
                        have hD : va_D A [(h0, .inr (10, vL 67 G717)), (h_tape, .inl (cB, 940, .inl f_tape))] := hD
                        refine W.widen (k := 0) (n := 0) (Nat.le_of_ble_eq_true rfl) (Nat.le_of_ble_eq_true rfl) ?_
                        have k917 : 202 ≤ x_size.toInt ∧ x_size.toInt ≤ 939 := ⟨k804.1, Int.le_trans t913 k803.2⟩
                        have k918 : 202 ≤ u718.toInt ∧ u718.toInt ≤ 939 := ⟨Int.le_trans k804.1 t913, k803.2⟩
                        refine call_Si (wr := [(h0, .inr (10, vL 67 G717)), (h_tape, .inl (cB, 940, .inl f_tape))]) (As := [.int (-1)]) (rest := []) hx hb hml hown hw (m_X10_isSmall l D cI cJ cB cP cM cZ (-1) _ ) wS_X10_182_X10_isSmall dX10_next_209 hP hD hS hA [] [0, 1] rfl rfl (by decide) (by decide) (by decide) GG.fb hG.at hl.1 rfl (Nat.le_of_ble_eq_true rfl) ⟨(Nat.le_of_ble_eq_true rfl), (Nat.le_of_ble_eq_true rfl)⟩ ⟨(Nat.le_of_ble_eq_true rfl), (Nat.le_of_ble_eq_true rfl)⟩ (fun r919 u H locs hp hP hD hS => ?_)
                        rcases hp with ⟨t920, rfl, rfl⟩ | ⟨t921, t922, rfl, rfl⟩ | ⟨t923, t924, rfl, rfl⟩
                        · have hP : va_P D vwCl [(h0, .inr (10, vL 67 G717)), (h_tape, .inl (cB, 940, .inl f_tape))] H := hP
                          have hD : va_D A [(h0, .inr (10, vL 67 G717)), (h_tape, .inl (cB, 940, .inl f_tape))] := hD
                          refine W.widen (k := 0) (n := 0) (Nat.le_of_ble_eq_true rfl) (Nat.le_of_ble_eq_true rfl) ?_
                          refine lv_iload_n hx hb dX10_next_212 rfl (lv_at hl 1 rfl) ?_
                          refine lv_icmp_ne (tgt := 220) hx hb dX10_next_213 (by decide) (fun c926 => ?_) (fun c926 => ?_)
                          · have dc926 : 0 ≠ u710.toInt := ne_i (a := 0) (b := u710.toInt) rfl rfl c926
                            have k927 : 1 ≤ u710.toInt ∧ u710.toInt ≤ 1 := ⟨ne_lo dc926.symm i712.1 ⟨Int.le_refl _, Int.le_refl _⟩ (by decide), i712.2⟩
                            refine lv_iconst (v := 0) hx hb dX10_next_220 (by decide) ?_
                            refine lv_istore_n (lv' := [(3, .int 0), (2, .int u710), (1, .int v707), (0, .ref h0)]) hx hb dX10_next_221 rfl hl (by decide) rfl (fun ls hl => ?_)
                            exact cut818 0 (show 0 ≤ (0 : Int32).toInt ∧ (0 : Int32).toInt ≤ 1 by decide) (by show (0 = 1 → u710.toInt = 0 → (48 ≤ v801.toInt ∧ v801.toInt ≤ 57 ∧ 0 ≤ u720.toInt ∧ u720.toInt ≤ 999 ∧ (u719.toInt = 0 → u720.toInt = 0) ∧ (u719.toInt = 1 → u720.toInt ≤ 9) ∧ (u719.toInt = 2 → u720.toInt ≤ 99))); omega) _ _ _ hP hD hS (lv_sub hl [0, 1, 2, 3] rfl)
                          · have dc926 : 0 = u710.toInt := eq_i (a := 0) (b := u710.toInt) rfl rfl c926
                            have k928 : 0 ≤ u710.toInt ∧ u710.toInt ≤ 0 := ⟨i712.1, Int.le_trans (Int.le_of_eq dc926.symm) (Int.le_refl _)⟩
                            refine lv_iconst (v := 1) hx hb dX10_next_216 (by decide) ?_
                            refine lv_goto (tgt := 221) hx hb dX10_next_217 (by decide) ?_
                            refine lv_istore_n (lv' := [(3, .int 1), (2, .int u710), (1, .int v707), (0, .ref h0)]) hx hb dX10_next_221 rfl hl (by decide) rfl (fun ls hl => ?_)
                            exact cut818 1 (show 0 ≤ (1 : Int32).toInt ∧ (1 : Int32).toInt ≤ 1 by decide) (by show (1 = 1 → u710.toInt = 0 → (48 ≤ v801.toInt ∧ v801.toInt ≤ 57 ∧ 0 ≤ u720.toInt ∧ u720.toInt ≤ 999 ∧ (u719.toInt = 0 → u720.toInt = 0) ∧ (u719.toInt = 1 → u720.toInt ≤ 9) ∧ (u719.toInt = 2 → u720.toInt ≤ 99))); omega) _ _ _ hP hD hS (lv_sub hl [0, 1, 2, 3] rfl)
                        · have hP : va_P D vwCl [(h0, .inr (10, vL 67 G717)), (h_tape, .inl (cB, 940, .inl f_tape))] H := hP
                          have hD : va_D A [(h0, .inr (10, vL 67 G717)), (h_tape, .inl (cB, 940, .inl f_tape))] := hD
                          refine W.widen (k := 0) (n := 0) (Nat.le_of_ble_eq_true rfl) (Nat.le_of_ble_eq_true rfl) ?_
                          exact absurd t921 (by decide)
                        · have hP : va_P D vwCl [(h0, .inr (10, vL 67 G717)), (h_tape, .inl (cB, 940, .inl f_tape))] H := hP
                          have hD : va_D A [(h0, .inr (10, vL 67 G717)), (h_tape, .inl (cB, 940, .inl f_tape))] := hD
                          refine W.widen (k := 0) (n := 0) (Nat.le_of_ble_eq_true rfl) (Nat.le_of_ble_eq_true rfl) ?_
                          exact absurd t923 (by decide)
                      · have hP : va_P D vwCl [(h0, .inr (10, vL 67 G717)), (h_tape, .inl (cB, 940, .inl f_tape))] H := hP
                        have hD : va_D A [(h0, .inr (10, vL 67 G717)), (h_tape, .inl (cB, 940, .inl f_tape))] := hD
                        refine W.widen (k := 0) (n := 0) (Nat.le_of_ble_eq_true rfl) (Nat.le_of_ble_eq_true rfl) ?_
                        refine lv_ci (y := v801) ev801.symm ?_
                        refine call_Si (wr := [(h0, .inr (10, vL 67 G717)), (h_tape, .inl (cB, 940, .inl f_tape))]) (As := [.int v801]) (rest := []) hx hb hml hown hw (m_X10_isSmall l D cI cJ cB cP cM cZ v801 _ ) wS_X10_182_X10_isSmall dX10_next_209 hP hD hS hA [] [0, 1] rfl rfl (by decide) (by decide) (by decide) GG.fb hG.at hl.1 rfl (Nat.le_of_ble_eq_true rfl) ⟨(Nat.le_of_ble_eq_true rfl), (Nat.le_of_ble_eq_true rfl)⟩ ⟨(Nat.le_of_ble_eq_true rfl), (Nat.le_of_ble_eq_true rfl)⟩ (fun r929 u H locs hp hP hD hS => ?_)
                        rcases hp with ⟨t930, rfl, rfl⟩ | ⟨t931, t932, rfl, rfl⟩ | ⟨t933, t934, rfl, rfl⟩
                        · have hP : va_P D vwCl [(h0, .inr (10, vL 67 G717)), (h_tape, .inl (cB, 940, .inl f_tape))] H := hP
                          have hD : va_D A [(h0, .inr (10, vL 67 G717)), (h_tape, .inl (cB, 940, .inl f_tape))] := hD
                          refine W.widen (k := 0) (n := 0) (Nat.le_of_ble_eq_true rfl) (Nat.le_of_ble_eq_true rfl) ?_
                          refine lv_iload_n hx hb dX10_next_212 rfl (lv_at hl 1 rfl) ?_
                          refine lv_icmp_ne (tgt := 220) hx hb dX10_next_213 (by decide) (fun c936 => ?_) (fun c936 => ?_)
                          · have dc936 : 0 ≠ u710.toInt := ne_i (a := 0) (b := u710.toInt) rfl rfl c936
                            have k937 : 1 ≤ u710.toInt ∧ u710.toInt ≤ 1 := ⟨ne_lo dc936.symm i712.1 ⟨Int.le_refl _, Int.le_refl _⟩ (by decide), i712.2⟩
                            refine lv_iconst (v := 0) hx hb dX10_next_220 (by decide) ?_
                            refine lv_istore_n (lv' := [(3, .int 0), (2, .int u710), (1, .int v707), (0, .ref h0)]) hx hb dX10_next_221 rfl hl (by decide) rfl (fun ls hl => ?_)
                            exact cut818 0 (show 0 ≤ (0 : Int32).toInt ∧ (0 : Int32).toInt ≤ 1 by decide) (by show (0 = 1 → u710.toInt = 0 → (48 ≤ v801.toInt ∧ v801.toInt ≤ 57 ∧ 0 ≤ u720.toInt ∧ u720.toInt ≤ 999 ∧ (u719.toInt = 0 → u720.toInt = 0) ∧ (u719.toInt = 1 → u720.toInt ≤ 9) ∧ (u719.toInt = 2 → u720.toInt ≤ 99))); omega) _ _ _ hP hD hS (lv_sub hl [0, 1, 2, 3] rfl)
                          · have dc936 : 0 = u710.toInt := eq_i (a := 0) (b := u710.toInt) rfl rfl c936
                            have k938 : 0 ≤ u710.toInt ∧ u710.toInt ≤ 0 := ⟨i712.1, Int.le_trans (Int.le_of_eq dc936.symm) (Int.le_refl _)⟩
                            refine lv_iconst (v := 1) hx hb dX10_next_216 (by decide) ?_
                            refine lv_goto (tgt := 221) hx hb dX10_next_217 (by decide) ?_
                            refine lv_istore_n (lv' := [(3, .int 1), (2, .int u710), (1, .int v707), (0, .ref h0)]) hx hb dX10_next_221 rfl hl (by decide) rfl (fun ls hl => ?_)
                            exact cut818 1 (show 0 ≤ (1 : Int32).toInt ∧ (1 : Int32).toInt ≤ 1 by decide) (by show (1 = 1 → u710.toInt = 0 → (48 ≤ v801.toInt ∧ v801.toInt ≤ 57 ∧ 0 ≤ u720.toInt ∧ u720.toInt ≤ 999 ∧ (u719.toInt = 0 → u720.toInt = 0) ∧ (u719.toInt = 1 → u720.toInt ≤ 9) ∧ (u719.toInt = 2 → u720.toInt ≤ 99))); omega) _ _ _ hP hD hS (lv_sub hl [0, 1, 2, 3] rfl)
                        · have hP : va_P D vwCl [(h0, .inr (10, vL 67 G717)), (h_tape, .inl (cB, 940, .inl f_tape))] H := hP
                          have hD : va_D A [(h0, .inr (10, vL 67 G717)), (h_tape, .inl (cB, 940, .inl f_tape))] := hD
                          refine W.widen (k := 0) (n := 0) (Nat.le_of_ble_eq_true rfl) (Nat.le_of_ble_eq_true rfl) ?_
                          exact False.elim (bad_le t931 (Int.le_refl _) k816.2 (by decide))
                        · have hP : va_P D vwCl [(h0, .inr (10, vL 67 G717)), (h_tape, .inl (cB, 940, .inl f_tape))] H := hP
                          have hD : va_D A [(h0, .inr (10, vL 67 G717)), (h_tape, .inl (cB, 940, .inl f_tape))] := hD
                          refine W.widen (k := 0) (n := 0) (Nat.le_of_ble_eq_true rfl) (Nat.le_of_ble_eq_true rfl) ?_
                          exact False.elim (bad_le t933 (Int.le_refl _) k816.2 (by decide))
              · have hP : va_P D vwCl [(h0, .inr (10, vL 67 G717)), (h_tape, .inl (cB, 940, .inl f_tape))] H := hP
                have hD : va_D A [(h0, .inr (10, vL 67 G717)), (h_tape, .inl (cB, 940, .inl f_tape))] := hD
                refine W.widen (k := 0) (n := 0) (Nat.le_of_ble_eq_true rfl) (Nat.le_of_ble_eq_true rfl) ?_
                exact absurd t784 (by decide)
              · have hP : va_P D vwCl [(h0, .inr (10, vL 67 G717)), (h_tape, .inl (cB, 940, .inl f_tape))] H := hP
                have hD : va_D A [(h0, .inr (10, vL 67 G717)), (h_tape, .inl (cB, 940, .inl f_tape))] := hD
                refine W.widen (k := 0) (n := 0) (Nat.le_of_ble_eq_true rfl) (Nat.le_of_ble_eq_true rfl) ?_
                exact absurd t786 (by decide)
            · have hP : va_P D vwCl [(h0, .inr (10, vL 67 G717)), (h_tape, .inl (cB, 940, .inl f_tape))] H := hP
              have hD : va_D A [(h0, .inr (10, vL 67 G717)), (h_tape, .inl (cB, 940, .inl f_tape))] := hD
              refine W.widen (k := 0) (n := 0) (Nat.le_of_ble_eq_true rfl) (Nat.le_of_ble_eq_true rfl) ?_
              refine lv_topi (fun v939 ev939 => ?_)
              have k940 : 0 ≤ v939.toInt ∧ v939.toInt ≤ 255 := by rw [ev939]; exact t778
              have k941 : 0 ≤ u718.toInt ∧ u718.toInt ≤ 939 := ⟨i765.1, up_lt t779 k691.2 (by decide)⟩
              refine call_Si (wr := [(h0, .inr (10, vL 67 G717)), (h_tape, .inl (cB, 940, .inl f_tape))]) (As := [.int v939]) (rest := []) hx hb hml hown hw (m_X10_isSmall l D cI cJ cB cP cM cZ v939 _ ) wS_X10_182_X10_isSmall dX10_next_185 hP hD hS hA [] [0, 1] rfl rfl (by decide) (by decide) (by decide) GG.fb hG.at hl.1 rfl (Nat.le_of_ble_eq_true rfl) ⟨(Nat.le_of_ble_eq_true rfl), (Nat.le_of_ble_eq_true rfl)⟩ ⟨(Nat.le_of_ble_eq_true rfl), (Nat.le_of_ble_eq_true rfl)⟩ (fun r942 u H locs hp hP hD hS => ?_)
              rcases hp with ⟨t943, rfl, rfl⟩ | ⟨t944, t945, rfl, rfl⟩ | ⟨t946, t947, rfl, rfl⟩
              · have hP : va_P D vwCl [(h0, .inr (10, vL 67 G717)), (h_tape, .inl (cB, 940, .inl f_tape))] H := hP
                have hD : va_D A [(h0, .inr (10, vL 67 G717)), (h_tape, .inl (cB, 940, .inl f_tape))] := hD
                refine W.widen (k := 0) (n := 0) (Nat.le_of_ble_eq_true rfl) (Nat.le_of_ble_eq_true rfl) ?_
                have k949 : 0 ≤ v939.toInt ∧ v939.toInt ≤ 96 := ⟨k940.1, up_lt t943 (Int.le_refl _) (by decide)⟩
                refine lv_if_ne (tgt := 201) hx hb dX10_next_188 (by decide) (fun g => absurd (by decide) g) (fun _ => ?_)
                refine lv_aload_n hx hb dX10_next_191 rfl (lv_at hl 3 rfl) ?_
                refine call_Vi (wr := []) (As := []) (rest := []) hx hb hml hown hw (m_X10_peek l D cI cJ cB cP cM cZ h0 h_tape G717 x_size u718 f_tape _ n772 n775 (ir_wk k691 (by decide) (by decide)) i761 (ir_wk k941 (by decide) (by decide))) wV_X10_169_X10_peek dX10_next_192 hK hP hD hS hA [0, 1] [] rfl rfl (by decide) (by decide) (by decide) 0 10 rfl rfl GG.fb hG.at hl.1 rfl (Nat.le_of_ble_eq_true rfl) ⟨(Nat.le_of_ble_eq_true rfl), (Nat.le_of_ble_eq_true rfl)⟩ ⟨(Nat.le_of_ble_eq_true rfl), (Nat.le_of_ble_eq_true rfl)⟩ (fun r950 u H locs hp hP hD hS => ?_)
                rcases hp with ⟨t951, rfl, rfl⟩ | ⟨t952, t953, rfl, rfl⟩
                · have hP : va_P D vwCl [(h0, .inr (10, vL 67 G717)), (h_tape, .inl (cB, 940, .inl f_tape))] H := hP
                  have hD : va_D A [(h0, .inr (10, vL 67 G717)), (h_tape, .inl (cB, 940, .inl f_tape))] := hD
                  refine W.widen (k := 0) (n := 0) (Nat.le_of_ble_eq_true rfl) (Nat.le_of_ble_eq_true rfl) ?_
                  have k955 : 201 ≤ x_size.toInt ∧ x_size.toInt ≤ 939 := ⟨k691.1, Int.le_trans t951 k941.2⟩
                  have k956 : 201 ≤ u718.toInt ∧ u718.toInt ≤ 939 := ⟨Int.le_trans k691.1 t951, k941.2⟩
                  refine call_Si (wr := [(h0, .inr (10, vL 67 G717)), (h_tape, .inl (cB, 940, .inl f_tape))]) (As := [.int (-1)]) (rest := []) hx hb hml hown hw (m_X10_isDigit l D cI cJ cB cP cM cZ (-1) _ ) wS_X10_186_X10_isDigit dX10_next_195 hP hD hS hA [] [0, 1] rfl rfl (by decide) (by decide) (by decide) GG.fb hG.at hl.1 rfl (Nat.le_of_ble_eq_true rfl) ⟨(Nat.le_of_ble_eq_true rfl), (Nat.le_of_ble_eq_true rfl)⟩ ⟨(Nat.le_of_ble_eq_true rfl), (Nat.le_of_ble_eq_true rfl)⟩ (fun r957 u H locs hp hP hD hS => ?_)
                  have zlm1 : ((-1) : Int32).toInt = (-1) := by decide
                  rcases hp with ⟨t958, rfl, rfl⟩ | ⟨t959, t960, rfl, rfl⟩ | ⟨t961, t962, rfl, rfl⟩
                  · have hP : va_P D vwCl [(h0, .inr (10, vL 67 G717)), (h_tape, .inl (cB, 940, .inl f_tape))] H := hP
                    have hD : va_D A [(h0, .inr (10, vL 67 G717)), (h_tape, .inl (cB, 940, .inl f_tape))] := hD
                    refine W.widen (k := 0) (n := 0) (Nat.le_of_ble_eq_true rfl) (Nat.le_of_ble_eq_true rfl) ?_
                    refine lv_if_eq (tgt := 298) hx hb dX10_next_198 (by decide) (fun _ => ?_) (fun g => absurd (by decide) g)
                    have hgv707 : v707.toInt = (((f_tape u2.toNatClampNeg) &&& 255)).toInt := by rw [ev707]
                    have hgv939 : v939.toInt = (((f_tape u718.toNatClampNeg) &&& 255)).toInt := by rw [ev939]
                    have hfst : u718.toInt = u2.toInt → (f_tape u718.toNatClampNeg &&& 255).toInt = (f_tape u2.toNatClampNeg &&& 255).toInt := fun h9 => by rw [Int32.toInt_inj.mp h9]
                    exact cut722 u716 G717 u718 u719 u720 u721 i759 (SAME.tr SAME.rf i760 (by decide)) i761 i762 i763 i764 (ir_wk k956 (by decide) (by decide)) i766 (by show 0 ≤ u719.toInt ∧ u719.toInt ≤ u718.toInt ∧ x_p.toInt + u719.toInt ≤ u718.toInt ∧ (u719.toInt = 0 → u718.toInt = u2.toInt); omega) (by show u716.toInt = 1 → u710.toInt = 0 → (0 ≤ u720.toInt ∧ u720.toInt ≤ 999 ∧ (u719.toInt = 0 → u720.toInt = 0) ∧ (u719.toInt = 1 → u720.toInt ≤ 9) ∧ (u719.toInt = 2 → u720.toInt ≤ 99)); omega) (by show (x_token.toInt = 2 → 0 ≤ u720.toInt ∧ u720.toInt ≤ 999); omega) (by show 1 ≤ u719.toInt; omega) _ _ _ hP hD hS (lv_sub hl [0, 1, 2, 3] rfl)
                  · have hP : va_P D vwCl [(h0, .inr (10, vL 67 G717)), (h_tape, .inl (cB, 940, .inl f_tape))] H := hP
                    have hD : va_D A [(h0, .inr (10, vL 67 G717)), (h_tape, .inl (cB, 940, .inl f_tape))] := hD
                    refine W.widen (k := 0) (n := 0) (Nat.le_of_ble_eq_true rfl) (Nat.le_of_ble_eq_true rfl) ?_
                    exact absurd t959 (by decide)
                  · have hP : va_P D vwCl [(h0, .inr (10, vL 67 G717)), (h_tape, .inl (cB, 940, .inl f_tape))] H := hP
                    have hD : va_D A [(h0, .inr (10, vL 67 G717)), (h_tape, .inl (cB, 940, .inl f_tape))] := hD
                    refine W.widen (k := 0) (n := 0) (Nat.le_of_ble_eq_true rfl) (Nat.le_of_ble_eq_true rfl) ?_
                    exact absurd t961 (by decide)
                · have hP : va_P D vwCl [(h0, .inr (10, vL 67 G717)), (h_tape, .inl (cB, 940, .inl f_tape))] H := hP
                  have hD : va_D A [(h0, .inr (10, vL 67 G717)), (h_tape, .inl (cB, 940, .inl f_tape))] := hD
                  refine W.widen (k := 0) (n := 0) (Nat.le_of_ble_eq_true rfl) (Nat.le_of_ble_eq_true rfl) ?_
                  refine lv_ci (y := v939) ev939.symm ?_
                  refine call_Si (wr := [(h0, .inr (10, vL 67 G717)), (h_tape, .inl (cB, 940, .inl f_tape))]) (As := [.int v939]) (rest := []) hx hb hml hown hw (m_X10_isDigit l D cI cJ cB cP cM cZ v939 _ ) wS_X10_186_X10_isDigit dX10_next_195 hP hD hS hA [] [0, 1] rfl rfl (by decide) (by decide) (by decide) GG.fb hG.at hl.1 rfl (Nat.le_of_ble_eq_true rfl) ⟨(Nat.le_of_ble_eq_true rfl), (Nat.le_of_ble_eq_true rfl)⟩ ⟨(Nat.le_of_ble_eq_true rfl), (Nat.le_of_ble_eq_true rfl)⟩ (fun r964 u H locs hp hP hD hS => ?_)
                  rcases hp with ⟨t965, rfl, rfl⟩ | ⟨t966, t967, rfl, rfl⟩ | ⟨t968, t969, rfl, rfl⟩
                  · have hP : va_P D vwCl [(h0, .inr (10, vL 67 G717)), (h_tape, .inl (cB, 940, .inl f_tape))] H := hP
                    have hD : va_D A [(h0, .inr (10, vL 67 G717)), (h_tape, .inl (cB, 940, .inl f_tape))] := hD
                    refine W.widen (k := 0) (n := 0) (Nat.le_of_ble_eq_true rfl) (Nat.le_of_ble_eq_true rfl) ?_
                    have k971 : 0 ≤ v939.toInt ∧ v939.toInt ≤ 47 := ⟨k949.1, up_lt t965 (Int.le_refl _) (by decide)⟩
                    refine lv_if_eq (tgt := 298) hx hb dX10_next_198 (by decide) (fun _ => ?_) (fun g => absurd (by decide) g)
                    have hgv707 : v707.toInt = (((f_tape u2.toNatClampNeg) &&& 255)).toInt := by rw [ev707]
                    have hgv939 : v939.toInt = (((f_tape u718.toNatClampNeg) &&& 255)).toInt := by rw [ev939]
                    have hfst : u718.toInt = u2.toInt → (f_tape u718.toNatClampNeg &&& 255).toInt = (f_tape u2.toNatClampNeg &&& 255).toInt := fun h9 => by rw [Int32.toInt_inj.mp h9]
                    exact cut722 u716 G717 u718 u719 u720 u721 i759 (SAME.tr SAME.rf i760 (by decide)) i761 i762 i763 i764 (ir_wk k941 (by decide) (by decide)) i766 (by show 0 ≤ u719.toInt ∧ u719.toInt ≤ u718.toInt ∧ x_p.toInt + u719.toInt ≤ u718.toInt ∧ (u719.toInt = 0 → u718.toInt = u2.toInt); omega) (by show u716.toInt = 1 → u710.toInt = 0 → (0 ≤ u720.toInt ∧ u720.toInt ≤ 999 ∧ (u719.toInt = 0 → u720.toInt = 0) ∧ (u719.toInt = 1 → u720.toInt ≤ 9) ∧ (u719.toInt = 2 → u720.toInt ≤ 99)); omega) (by show (x_token.toInt = 2 → 0 ≤ u720.toInt ∧ u720.toInt ≤ 999); omega) (by show 1 ≤ u719.toInt; omega) _ _ _ hP hD hS (lv_sub hl [0, 1, 2, 3] rfl)
                  · have hP : va_P D vwCl [(h0, .inr (10, vL 67 G717)), (h_tape, .inl (cB, 940, .inl f_tape))] H := hP
                    have hD : va_D A [(h0, .inr (10, vL 67 G717)), (h_tape, .inl (cB, 940, .inl f_tape))] := hD
                    refine W.widen (k := 0) (n := 0) (Nat.le_of_ble_eq_true rfl) (Nat.le_of_ble_eq_true rfl) ?_
                    have k972 : 48 ≤ v939.toInt ∧ v939.toInt ≤ 96 := ⟨Int.le_trans (Int.le_refl _) t966, k949.2⟩
                    have k973 : 58 ≤ v939.toInt ∧ v939.toInt ≤ 96 := ⟨lo_lt t967 (Int.le_refl _) (by decide), k972.2⟩
                    refine lv_if_eq (tgt := 298) hx hb dX10_next_198 (by decide) (fun _ => ?_) (fun g => absurd (by decide) g)
                    have hgv707 : v707.toInt = (((f_tape u2.toNatClampNeg) &&& 255)).toInt := by rw [ev707]
                    have hgv939 : v939.toInt = (((f_tape u718.toNatClampNeg) &&& 255)).toInt := by rw [ev939]
                    have hfst : u718.toInt = u2.toInt → (f_tape u718.toNatClampNeg &&& 255).toInt = (f_tape u2.toNatClampNeg &&& 255).toInt := fun h9 => by rw [Int32.toInt_inj.mp h9]
                    exact cut722 u716 G717 u718 u719 u720 u721 i759 (SAME.tr SAME.rf i760 (by decide)) i761 i762 i763 i764 (ir_wk k941 (by decide) (by decide)) i766 (by show 0 ≤ u719.toInt ∧ u719.toInt ≤ u718.toInt ∧ x_p.toInt + u719.toInt ≤ u718.toInt ∧ (u719.toInt = 0 → u718.toInt = u2.toInt); omega) (by show u716.toInt = 1 → u710.toInt = 0 → (0 ≤ u720.toInt ∧ u720.toInt ≤ 999 ∧ (u719.toInt = 0 → u720.toInt = 0) ∧ (u719.toInt = 1 → u720.toInt ≤ 9) ∧ (u719.toInt = 2 → u720.toInt ≤ 99)); omega) (by show (x_token.toInt = 2 → 0 ≤ u720.toInt ∧ u720.toInt ≤ 999); omega) (by show 1 ≤ u719.toInt; omega) _ _ _ hP hD hS (lv_sub hl [0, 1, 2, 3] rfl)
                  · have hP : va_P D vwCl [(h0, .inr (10, vL 67 G717)), (h_tape, .inl (cB, 940, .inl f_tape))] H := hP
                    have hD : va_D A [(h0, .inr (10, vL 67 G717)), (h_tape, .inl (cB, 940, .inl f_tape))] := hD
                    refine W.widen (k := 0) (n := 0) (Nat.le_of_ble_eq_true rfl) (Nat.le_of_ble_eq_true rfl) ?_
                    have k974 : 48 ≤ v939.toInt ∧ v939.toInt ≤ 96 := ⟨Int.le_trans (Int.le_refl _) t968, k949.2⟩
                    have k975 : 48 ≤ v939.toInt ∧ v939.toInt ≤ 57 := ⟨k974.1, Int.le_trans t969 (Int.le_refl _)⟩
                    refine lv_if_eq (tgt := 298) hx hb dX10_next_198 (by decide) (fun g => absurd g (by decide)) (fun _ => ?_)
                    have cut977 : ∀ (u976 : Int32) (_ : IR 0 1 u976) (_ : ((u976.toInt = 1 → u710.toInt = 0 → (48 ≤ v939.toInt ∧ v939.toInt ≤ 57 ∧ 0 ≤ u720.toInt ∧ u720.toInt ≤ 999 ∧ (u719.toInt = 0 → u720.toInt = 0) ∧ (u719.toInt = 1 → u720.toInt ≤ 9) ∧ (u719.toInt = 2 → u720.toInt ≤ 99))))) (H : Heap) (locs : List Loc) (ls : Array Slot), va_P D vwCl [(h0, .inr (10, vL 67 G717)), (h_tape, .inl (cB, 940, .inl f_tape))] H → va_D A [(h0, .inr (10, vL 67 G717)), (h_tape, .inl (cB, 940, .inl f_tape))] → va_S A s.heap H locs → lv_has ls 4 [(3, .int u976), (2, .int u710), (1, .int v707), (0, .ref h0)] → W p l e ({ frames := 1, cells := 0, slots := 0, locals := 20 } : Room) s m [.ref h0].toArray below meth c H locs 0 0 (MQ below (va_Qv (fun (u : va_W) => ∃ (Gh : Nat → Value) (y_p : Int32) (y_token : Int32) (y_at : Int32) (y_span : Int32) (y_number : Int32) (y_word : Int64), SAME [4, 11, 12, 13, 14, 18] Fh Gh ∧ Gh 4 = .int y_p ∧ IR 0 940 y_p ∧ Gh 11 = .int y_token ∧ IR 0 4 y_token ∧ Gh 12 = .int y_at ∧ IR 0 940 y_at ∧ Gh 13 = .int y_span ∧ IR 0 940 y_span ∧ Gh 14 = .int y_number ∧ Gh 18 = .long y_word ∧ (x_p.toInt ≤ y_p.toInt) ∧ ((1 ≤ y_token.toInt → y_token.toInt ≤ 3 → x_p.toInt < y_p.toInt)) ∧ ((y_token.toInt = 2 → 0 ≤ y_number.toInt ∧ y_number.toInt ≤ 999)) ∧ u = [(h0, .inr (10, vL 67 Gh)), (h_tape, .inl (cB, 940, .inl f_tape))]) (PO D A) A) [.ref h0].toArray s 0 0 A) (F0 m 222 ls []) := by
                      intro u976 i978 i979 H locs ls hP hD hS hl
                      have i978 : 0 ≤ u976.toInt ∧ u976.toInt ≤ 1 := i978
                      have i979 : (u976.toInt = 1 → u710.toInt = 0 → (48 ≤ v939.toInt ∧ v939.toInt ≤ 57 ∧ 0 ≤ u720.toInt ∧ u720.toInt ≤ 999 ∧ (u719.toInt = 0 → u720.toInt = 0) ∧ (u719.toInt = 1 → u720.toInt ≤ 9) ∧ (u719.toInt = 2 → u720.toInt ≤ 99))) := i979
                      have cut982 : ∀ (G980 : Nat → Value) (u981 : Int64) (_ : SAME [18] G717 G980) (_ : G980 18 = .long u981) (H : Heap) (locs : List Loc) (ls : Array Slot), va_P D vwCl [(h0, .inr (10, vL 67 G980)), (h_tape, .inl (cB, 940, .inl f_tape))] H → va_D A [(h0, .inr (10, vL 67 G980)), (h_tape, .inl (cB, 940, .inl f_tape))] → va_S A s.heap H locs → lv_has ls 4 [(3, .int u976), (2, .int u710), (1, .int v707), (0, .ref h0)] → W p l e ({ frames := 1, cells := 0, slots := 0, locals := 20 } : Room) s m [.ref h0].toArray below meth c H locs 0 0 (MQ below (va_Qv (fun (u : va_W) => ∃ (Gh : Nat → Value) (y_p : Int32) (y_token : Int32) (y_at : Int32) (y_span : Int32) (y_number : Int32) (y_word : Int64), SAME [4, 11, 12, 13, 14, 18] Fh Gh ∧ Gh 4 = .int y_p ∧ IR 0 940 y_p ∧ Gh 11 = .int y_token ∧ IR 0 4 y_token ∧ Gh 12 = .int y_at ∧ IR 0 940 y_at ∧ Gh 13 = .int y_span ∧ IR 0 940 y_span ∧ Gh 14 = .int y_number ∧ Gh 18 = .long y_word ∧ (x_p.toInt ≤ y_p.toInt) ∧ ((1 ≤ y_token.toInt → y_token.toInt ≤ 3 → x_p.toInt < y_p.toInt)) ∧ ((y_token.toInt = 2 → 0 ≤ y_number.toInt ∧ y_number.toInt ≤ 999)) ∧ u = [(h0, .inr (10, vL 67 Gh)), (h_tape, .inl (cB, 940, .inl f_tape))]) (PO D A) A) [.ref h0].toArray s 0 0 A) (F0 m 248 ls []) := by
                        intro G980 u981 i983 i984 H locs ls hP hD hS hl
                        refine lv_aload_n hx hb dX10_next_248 rfl (lv_at hl 3 rfl) ?_
                        have n985 : G980 13 = .int u719 := (SAME.at i983 (by decide) i762)
                        refine get_f (D := D) (ci := 10) (v := .int u719) (C := RX10) (T := TX10) (N := 67) hx hb hw inAX10 hown hK hP 0 rfl rfl 13 (by decide) (hw _ q_1274) (fun _ h9 => h9) n985 dX10_next_249 ?_
                        refine lv_iconst (v := 3) hx hb dX10_next_252 (by decide) ?_
                        refine lv_icmp_ge (tgt := 275) hx hb dX10_next_253 (by decide) (fun c986 => ?_) (fun c986 => ?_)
                        · have dc986 : 3 ≤ u719.toInt := le_i (a := 3) (b := u719.toInt) rfl rfl c986
                          have k987 : 3 ≤ u719.toInt ∧ u719.toInt ≤ 940 := ⟨Int.le_trans (Int.le_refl _) dc986, i766.2⟩
                          refine lv_aload_n hx hb dX10_next_275 rfl (lv_at hl 3 rfl) ?_
                          refine lv_dup hx hb dX10_next_276 rfl ?_
                          refine get_f (D := D) (ci := 10) (v := .int u719) (C := RX10) (T := TX10) (N := 67) hx hb hw inAX10 hown hK hP 0 rfl rfl 13 (by decide) (hw _ q_1274) (fun _ h9 => h9) n985 dX10_next_277 ?_
                          refine lv_iconst (v := 1) hx hb dX10_next_280 (by decide) ?_
                          refine lv_iadd hx hb dX10_next_281 ?_
                          refine lv_topi (fun v988 ev988 => ?_)
                          have bv988 : v988.toInt = u719.toInt + 1 := by rw [ev988]; exact add_k rfl rfl k987 ⟨Int.le_refl _, Int.le_refl _⟩ (by decide)
                          have k989 : 4 ≤ v988.toInt ∧ v988.toInt ≤ 941 := add_r bv988 k987 ⟨Int.le_refl _, Int.le_refl _⟩ (by decide)
                          refine put_f (D := D) (ci := 10) (v := .int v988) (ty := .int) (C := RX10) (T := TX10) (N := 67) hx hb hw inAX10 tyX10 tyX10_ok nmX10 hown hK hP hD hS 0 rfl rfl 13 (by decide) (hw _ q_1274) (fun _ h9 => h9) rfl (by decide +kernel) rfl rfl dX10_next_282 (fun H locs F990 eF990 hP hD hS => ?_)
                          have hP : va_P D vwCl [(h0, .inr (10, vL 67 F990)), (h_tape, .inl (cB, 940, .inl f_tape))] H := hP
                          have hD : va_D A [(h0, .inr (10, vL 67 F990)), (h_tape, .inl (cB, 940, .inl f_tape))] := hD
                          refine lv_aload_n hx hb dX10_next_285 rfl (lv_at hl 3 rfl) ?_
                          refine lv_dup hx hb dX10_next_286 rfl ?_
                          have n991 : G980 4 = .int u718 := (SAME.at i983 (by decide) i761)
                          have n992 : F990 4 = .int u718 := (get_ne eF990 (by decide) n991)
                          refine get_f (D := D) (ci := 10) (v := .int u718) (C := RX10) (T := TX10) (N := 67) hx hb hw inAX10 hown hK hP 0 rfl rfl 4 (by decide) (hw _ q_1265) (fun _ h9 => h9) n992 dX10_next_287 ?_
                          refine lv_iconst (v := 1) hx hb dX10_next_290 (by decide) ?_
                          refine lv_iadd hx hb dX10_next_291 ?_
                          refine lv_topi (fun v993 ev993 => ?_)
                          have bv993 : v993.toInt = u718.toInt + 1 := by rw [ev993]; exact add_k rfl rfl k941 ⟨Int.le_refl _, Int.le_refl _⟩ (by decide)
                          have k994 : 1 ≤ v993.toInt ∧ v993.toInt ≤ 940 := add_r bv993 k941 ⟨Int.le_refl _, Int.le_refl _⟩ (by decide)
                          refine put_f (D := D) (ci := 10) (v := .int v993) (ty := .int) (C := RX10) (T := TX10) (N := 67) hx hb hw inAX10 tyX10 tyX10_ok nmX10 hown hK hP hD hS 0 rfl rfl 4 (by decide) (hw _ q_1265) (fun _ h9 => h9) rfl (by decide +kernel) rfl rfl dX10_next_292 (fun H locs F995 eF995 hP hD hS => ?_)
                          have hP : va_P D vwCl [(h0, .inr (10, vL 67 F995)), (h_tape, .inl (cB, 940, .inl f_tape))] H := hP
                          have hD : va_D A [(h0, .inr (10, vL 67 F995)), (h_tape, .inl (cB, 940, .inl f_tape))] := hD
                          refine lv_goto (tgt := 181) hx hb dX10_next_295 (by decide) ?_
                          have n996 : F995 13 = .int v988 := (get_ne eF995 (by decide) (get_eq eF990))
                          have n997 : G980 14 = .int u720 := (SAME.at i983 (by decide) i763)
                          have n998 : F990 14 = .int u720 := (get_ne eF990 (by decide) n997)
                          have n999 : F995 14 = .int u720 := (get_ne eF995 (by decide) n998)
                          have n1000 : F990 18 = .long u981 := (get_ne eF990 (by decide) i984)
                          have n1001 : F995 18 = .long u981 := (get_ne eF995 (by decide) n1000)
                          exact ih (u976, F995, v993, v988, u720, u981) ⟨i978, (SAME.up eF995 (SAME.up eF990 (SAME.tr (SAME.tr SAME.rf i760 (by decide)) i983 (by decide)) (by decide)) (by decide)), (get_eq eF995), n996, n999, n1001, (ir_wk k994 (by decide) (by decide)), ⟨by omega, by omega⟩, (by show 0 ≤ v988.toInt ∧ v988.toInt ≤ v993.toInt ∧ x_p.toInt + v988.toInt ≤ v993.toInt ∧ (v988.toInt = 0 → v993.toInt = u2.toInt); omega), (by show u976.toInt = 1 → u710.toInt = 0 → (0 ≤ u720.toInt ∧ u720.toInt ≤ 999 ∧ (v988.toInt = 0 → u720.toInt = 0) ∧ (v988.toInt = 1 → u720.toInt ≤ 9) ∧ (v988.toInt = 2 → u720.toInt ≤ 99)); omega), (by show (x_token.toInt = 2 → 0 ≤ u720.toInt ∧ u720.toInt ≤ 999); omega)⟩ (by show (x_size.toInt - v993.toInt).toNat < (x_size.toInt - u718.toInt).toNat; omega) _ _ _ hP hD hS (lv_sub hl [0, 1, 2, 3] rfl)
                        · have dc986 : u719.toInt < 3 := nle_i (a := 3) (b := u719.toInt) rfl rfl c986
                          have k1002 : 0 ≤ u719.toInt ∧ u719.toInt ≤ 2 := ⟨i766.1, up_lt dc986 (Int.le_refl _) (by decide)⟩
                          refine lv_aload_n hx hb dX10_next_256 rfl (lv_at hl 3 rfl) ?_
                          refine lv_bipush (v := 10) hx hb dX10_next_257 (by decide) ?_
                          refine lv_aload_n hx hb dX10_next_259 rfl (lv_at hl 3 rfl) ?_
                          have n1003 : G980 14 = .int u720 := (SAME.at i983 (by decide) i763)
                          refine get_f (D := D) (ci := 10) (v := .int u720) (C := RX10) (T := TX10) (N := 67) hx hb hw inAX10 hown hK hP 0 rfl rfl 14 (by decide) (hw _ q_1275) (fun _ h9 => h9) n1003 dX10_next_260 ?_
                          refine lv_imul hx hb dX10_next_263 ?_
                          refine lv_topi (fun v1004 ev1004 => ?_)
                          refine lv_aload_n hx hb dX10_next_264 rfl (lv_at hl 3 rfl) ?_
                          have n1005 : G980 1 = .ref h_tape := (SAME.at i983 (by decide) n772)
                          have n1006 : G980 3 = .int x_size := (SAME.at i983 (by decide) n775)
                          have n1007 : G980 4 = .int u718 := (SAME.at i983 (by decide) i761)
                          refine call_Vi (wr := []) (As := []) (rest := [.int v1004, .ref h0]) hx hb hml hown hw (m_X10_peek l D cI cJ cB cP cM cZ h0 h_tape G980 x_size u718 f_tape _ n1005 n1006 (ir_wk k691 (by decide) (by decide)) n1007 (ir_wk k941 (by decide) (by decide))) wV_X10_169_X10_peek dX10_next_265 hK hP hD hS hA [0, 1] [] rfl rfl (by decide) (by decide) (by decide) 0 10 rfl rfl GG.fb hG.at hl.1 rfl (Nat.le_of_ble_eq_true rfl) ⟨(Nat.le_of_ble_eq_true rfl), (Nat.le_of_ble_eq_true rfl)⟩ ⟨(Nat.le_of_ble_eq_true rfl), (Nat.le_of_ble_eq_true rfl)⟩ (fun r1008 u H locs hp hP hD hS => ?_)
                          rcases hp with ⟨t1009, rfl, rfl⟩ | ⟨t1010, t1011, rfl, rfl⟩
                          · have hP : va_P D vwCl [(h0, .inr (10, vL 67 G980)), (h_tape, .inl (cB, 940, .inl f_tape))] H := hP
                            have hD : va_D A [(h0, .inr (10, vL 67 G980)), (h_tape, .inl (cB, 940, .inl f_tape))] := hD
                            refine W.widen (k := 0) (n := 0) (Nat.le_of_ble_eq_true rfl) (Nat.le_of_ble_eq_true rfl) ?_
                            have k1013 : 201 ≤ x_size.toInt ∧ x_size.toInt ≤ 939 := ⟨k691.1, Int.le_trans t1009 k941.2⟩
                            have k1014 : 201 ≤ u718.toInt ∧ u718.toInt ≤ 939 := ⟨Int.le_trans k691.1 t1009, k941.2⟩
                            refine lv_iadd hx hb dX10_next_268 ?_
                            refine lv_topi (fun v1015 ev1015 => ?_)
                            refine lv_bipush (v := 48) hx hb dX10_next_269 (by decide) ?_
                            refine lv_isub hx hb dX10_next_271 ?_
                            refine lv_topi (fun v1016 ev1016 => ?_)
                            refine put_f (D := D) (ci := 10) (v := .int v1016) (ty := .int) (C := RX10) (T := TX10) (N := 67) hx hb hw inAX10 tyX10 tyX10_ok nmX10 hown hK hP hD hS 0 rfl rfl 14 (by decide) (hw _ q_1275) (fun _ h9 => h9) rfl (by decide +kernel) rfl rfl dX10_next_272 (fun H locs F1017 eF1017 hP hD hS => ?_)
                            have hP : va_P D vwCl [(h0, .inr (10, vL 67 F1017)), (h_tape, .inl (cB, 940, .inl f_tape))] H := hP
                            have hD : va_D A [(h0, .inr (10, vL 67 F1017)), (h_tape, .inl (cB, 940, .inl f_tape))] := hD
                            refine lv_aload_n hx hb dX10_next_275 rfl (lv_at hl 3 rfl) ?_
                            refine lv_dup hx hb dX10_next_276 rfl ?_
                            have n1018 : F1017 13 = .int u719 := (get_ne eF1017 (by decide) n985)
                            refine get_f (D := D) (ci := 10) (v := .int u719) (C := RX10) (T := TX10) (N := 67) hx hb hw inAX10 hown hK hP 0 rfl rfl 13 (by decide) (hw _ q_1274) (fun _ h9 => h9) n1018 dX10_next_277 ?_
                            refine lv_iconst (v := 1) hx hb dX10_next_280 (by decide) ?_
                            refine lv_iadd hx hb dX10_next_281 ?_
                            refine lv_topi (fun v1019 ev1019 => ?_)
                            have bv1019 : v1019.toInt = u719.toInt + 1 := by rw [ev1019]; exact add_k rfl rfl k1002 ⟨Int.le_refl _, Int.le_refl _⟩ (by decide)
                            have k1020 : 1 ≤ v1019.toInt ∧ v1019.toInt ≤ 3 := add_r bv1019 k1002 ⟨Int.le_refl _, Int.le_refl _⟩ (by decide)
                            refine put_f (D := D) (ci := 10) (v := .int v1019) (ty := .int) (C := RX10) (T := TX10) (N := 67) hx hb hw inAX10 tyX10 tyX10_ok nmX10 hown hK hP hD hS 0 rfl rfl 13 (by decide) (hw _ q_1274) (fun _ h9 => h9) rfl (by decide +kernel) rfl rfl dX10_next_282 (fun H locs F1021 eF1021 hP hD hS => ?_)
                            have hP : va_P D vwCl [(h0, .inr (10, vL 67 F1021)), (h_tape, .inl (cB, 940, .inl f_tape))] H := hP
                            have hD : va_D A [(h0, .inr (10, vL 67 F1021)), (h_tape, .inl (cB, 940, .inl f_tape))] := hD
                            refine lv_aload_n hx hb dX10_next_285 rfl (lv_at hl 3 rfl) ?_
                            refine lv_dup hx hb dX10_next_286 rfl ?_
                            have n1022 : F1017 4 = .int u718 := (get_ne eF1017 (by decide) n1007)
                            have n1023 : F1021 4 = .int u718 := (get_ne eF1021 (by decide) n1022)
                            refine get_f (D := D) (ci := 10) (v := .int u718) (C := RX10) (T := TX10) (N := 67) hx hb hw inAX10 hown hK hP 0 rfl rfl 4 (by decide) (hw _ q_1265) (fun _ h9 => h9) n1023 dX10_next_287 ?_
                            refine lv_iconst (v := 1) hx hb dX10_next_290 (by decide) ?_
                            refine lv_iadd hx hb dX10_next_291 ?_
                            refine lv_topi (fun v1024 ev1024 => ?_)
                            have bv1024 : v1024.toInt = u718.toInt + 1 := by rw [ev1024]; exact add_k rfl rfl k1014 ⟨Int.le_refl _, Int.le_refl _⟩ (by decide)
                            have k1025 : 202 ≤ v1024.toInt ∧ v1024.toInt ≤ 940 := add_r bv1024 k1014 ⟨Int.le_refl _, Int.le_refl _⟩ (by decide)
                            refine put_f (D := D) (ci := 10) (v := .int v1024) (ty := .int) (C := RX10) (T := TX10) (N := 67) hx hb hw inAX10 tyX10 tyX10_ok nmX10 hown hK hP hD hS 0 rfl rfl 4 (by decide) (hw _ q_1265) (fun _ h9 => h9) rfl (by decide +kernel) rfl rfl dX10_next_292 (fun H locs F1026 eF1026 hP hD hS => ?_)
                            have hP : va_P D vwCl [(h0, .inr (10, vL 67 F1026)), (h_tape, .inl (cB, 940, .inl f_tape))] H := hP
                            have hD : va_D A [(h0, .inr (10, vL 67 F1026)), (h_tape, .inl (cB, 940, .inl f_tape))] := hD
                            refine lv_goto (tgt := 181) hx hb dX10_next_295 (by decide) ?_
                            have n1027 : F1026 13 = .int v1019 := (get_ne eF1026 (by decide) (get_eq eF1021))
                            have n1028 : F1021 14 = .int v1016 := (get_ne eF1021 (by decide) (get_eq eF1017))
                            have n1029 : F1026 14 = .int v1016 := (get_ne eF1026 (by decide) n1028)
                            have n1030 : F1017 18 = .long u981 := (get_ne eF1017 (by decide) i984)
                            have n1031 : F1021 18 = .long u981 := (get_ne eF1021 (by decide) n1030)
                            have n1032 : F1026 18 = .long u981 := (get_ne eF1026 (by decide) n1031)
                            exact ih (u976, F1026, v1024, v1019, v1016, u981) ⟨i978, (SAME.up eF1026 (SAME.up eF1021 (SAME.up eF1017 (SAME.tr (SAME.tr SAME.rf i760 (by decide)) i983 (by decide)) (by decide)) (by decide)) (by decide)), (get_eq eF1026), n1027, n1029, n1032, (ir_wk k1025 (by decide) (by decide)), (ir_wk k1020 (by decide) (by decide)), (by show 0 ≤ v1019.toInt ∧ v1019.toInt ≤ v1024.toInt ∧ x_p.toInt + v1019.toInt ≤ v1024.toInt ∧ (v1019.toInt = 0 → v1024.toInt = u2.toInt); omega), (by show u976.toInt = 1 → u710.toInt = 0 → (0 ≤ v1016.toInt ∧ v1016.toInt ≤ 999 ∧ (v1019.toInt = 0 → v1016.toInt = 0) ∧ (v1019.toInt = 1 → v1016.toInt ≤ 9) ∧ (v1019.toInt = 2 → v1016.toInt ≤ 99)); omega), (by show (x_token.toInt = 2 → 0 ≤ v1016.toInt ∧ v1016.toInt ≤ 999); omega)⟩ (by show (x_size.toInt - v1024.toInt).toNat < (x_size.toInt - u718.toInt).toNat; omega) _ _ _ hP hD hS (lv_sub hl [0, 1, 2, 3] rfl)
                          · have hP : va_P D vwCl [(h0, .inr (10, vL 67 G980)), (h_tape, .inl (cB, 940, .inl f_tape))] H := hP
                            have hD : va_D A [(h0, .inr (10, vL 67 G980)), (h_tape, .inl (cB, 940, .inl f_tape))] := hD
                            refine W.widen (k := 0) (n := 0) (Nat.le_of_ble_eq_true rfl) (Nat.le_of_ble_eq_true rfl) ?_
                            refine lv_ci (y := v939) ev939.symm ?_
                            refine lv_iadd hx hb dX10_next_268 ?_
                            refine lv_topi (fun v1033 ev1033 => ?_)
                            refine lv_bipush (v := 48) hx hb dX10_next_269 (by decide) ?_
                            refine lv_isub hx hb dX10_next_271 ?_
                            refine lv_topi (fun v1034 ev1034 => ?_)
                            refine put_f (D := D) (ci := 10) (v := .int v1034) (ty := .int) (C := RX10) (T := TX10) (N := 67) hx hb hw inAX10 tyX10 tyX10_ok nmX10 hown hK hP hD hS 0 rfl rfl 14 (by decide) (hw _ q_1275) (fun _ h9 => h9) rfl (by decide +kernel) rfl rfl dX10_next_272 (fun H locs F1035 eF1035 hP hD hS => ?_)
                            have hP : va_P D vwCl [(h0, .inr (10, vL 67 F1035)), (h_tape, .inl (cB, 940, .inl f_tape))] H := hP
                            have hD : va_D A [(h0, .inr (10, vL 67 F1035)), (h_tape, .inl (cB, 940, .inl f_tape))] := hD
                            refine lv_aload_n hx hb dX10_next_275 rfl (lv_at hl 3 rfl) ?_
                            refine lv_dup hx hb dX10_next_276 rfl ?_
                            have n1036 : F1035 13 = .int u719 := (get_ne eF1035 (by decide) n985)
                            refine get_f (D := D) (ci := 10) (v := .int u719) (C := RX10) (T := TX10) (N := 67) hx hb hw inAX10 hown hK hP 0 rfl rfl 13 (by decide) (hw _ q_1274) (fun _ h9 => h9) n1036 dX10_next_277 ?_
                            refine lv_iconst (v := 1) hx hb dX10_next_280 (by decide) ?_
                            refine lv_iadd hx hb dX10_next_281 ?_
                            refine lv_topi (fun v1037 ev1037 => ?_)
                            have bv1037 : v1037.toInt = u719.toInt + 1 := by rw [ev1037]; exact add_k rfl rfl k1002 ⟨Int.le_refl _, Int.le_refl _⟩ (by decide)
                            have k1038 : 1 ≤ v1037.toInt ∧ v1037.toInt ≤ 3 := add_r bv1037 k1002 ⟨Int.le_refl _, Int.le_refl _⟩ (by decide)
                            refine put_f (D := D) (ci := 10) (v := .int v1037) (ty := .int) (C := RX10) (T := TX10) (N := 67) hx hb hw inAX10 tyX10 tyX10_ok nmX10 hown hK hP hD hS 0 rfl rfl 13 (by decide) (hw _ q_1274) (fun _ h9 => h9) rfl (by decide +kernel) rfl rfl dX10_next_282 (fun H locs F1039 eF1039 hP hD hS => ?_)
                            have hP : va_P D vwCl [(h0, .inr (10, vL 67 F1039)), (h_tape, .inl (cB, 940, .inl f_tape))] H := hP
                            have hD : va_D A [(h0, .inr (10, vL 67 F1039)), (h_tape, .inl (cB, 940, .inl f_tape))] := hD
                            refine lv_aload_n hx hb dX10_next_285 rfl (lv_at hl 3 rfl) ?_
                            refine lv_dup hx hb dX10_next_286 rfl ?_
                            have n1040 : F1035 4 = .int u718 := (get_ne eF1035 (by decide) n1007)
                            have n1041 : F1039 4 = .int u718 := (get_ne eF1039 (by decide) n1040)
                            refine get_f (D := D) (ci := 10) (v := .int u718) (C := RX10) (T := TX10) (N := 67) hx hb hw inAX10 hown hK hP 0 rfl rfl 4 (by decide) (hw _ q_1265) (fun _ h9 => h9) n1041 dX10_next_287 ?_
                            refine lv_iconst (v := 1) hx hb dX10_next_290 (by decide) ?_
                            refine lv_iadd hx hb dX10_next_291 ?_
                            refine lv_topi (fun v1042 ev1042 => ?_)
                            have bv1042 : v1042.toInt = u718.toInt + 1 := by rw [ev1042]; exact add_k rfl rfl k941 ⟨Int.le_refl _, Int.le_refl _⟩ (by decide)
                            have k1043 : 1 ≤ v1042.toInt ∧ v1042.toInt ≤ 940 := add_r bv1042 k941 ⟨Int.le_refl _, Int.le_refl _⟩ (by decide)
                            refine put_f (D := D) (ci := 10) (v := .int v1042) (ty := .int) (C := RX10) (T := TX10) (N := 67) hx hb hw inAX10 tyX10 tyX10_ok nmX10 hown hK hP hD hS 0 rfl rfl 4 (by decide) (hw _ q_1265) (fun _ h9 => h9) rfl (by decide +kernel) rfl rfl dX10_next_292 (fun H locs F1044 eF1044 hP hD hS => ?_)
                            have hP : va_P D vwCl [(h0, .inr (10, vL 67 F1044)), (h_tape, .inl (cB, 940, .inl f_tape))] H := hP
                            have hD : va_D A [(h0, .inr (10, vL 67 F1044)), (h_tape, .inl (cB, 940, .inl f_tape))] := hD
                            refine lv_goto (tgt := 181) hx hb dX10_next_295 (by decide) ?_
                            have n1045 : F1044 13 = .int v1037 := (get_ne eF1044 (by decide) (get_eq eF1039))
                            have n1046 : F1039 14 = .int v1034 := (get_ne eF1039 (by decide) (get_eq eF1035))
                            have n1047 : F1044 14 = .int v1034 := (get_ne eF1044 (by decide) n1046)
                            have n1048 : F1035 18 = .long u981 := (get_ne eF1035 (by decide) i984)
                            have n1049 : F1039 18 = .long u981 := (get_ne eF1039 (by decide) n1048)
                            have n1050 : F1044 18 = .long u981 := (get_ne eF1044 (by decide) n1049)
                            exact ih (u976, F1044, v1042, v1037, v1034, u981) ⟨i978, (SAME.up eF1044 (SAME.up eF1039 (SAME.up eF1035 (SAME.tr (SAME.tr SAME.rf i760 (by decide)) i983 (by decide)) (by decide)) (by decide)) (by decide)), (get_eq eF1044), n1045, n1047, n1050, (ir_wk k1043 (by decide) (by decide)), (ir_wk k1038 (by decide) (by decide)), (by show 0 ≤ v1037.toInt ∧ v1037.toInt ≤ v1042.toInt ∧ x_p.toInt + v1037.toInt ≤ v1042.toInt ∧ (v1037.toInt = 0 → v1042.toInt = u2.toInt); omega), (by show u976.toInt = 1 → u710.toInt = 0 → (0 ≤ v1034.toInt ∧ v1034.toInt ≤ 999 ∧ (v1037.toInt = 0 → v1034.toInt = 0) ∧ (v1037.toInt = 1 → v1034.toInt ≤ 9) ∧ (v1037.toInt = 2 → v1034.toInt ≤ 99)); omega), (by show (x_token.toInt = 2 → 0 ≤ v1034.toInt ∧ v1034.toInt ≤ 999); omega)⟩ (by show (x_size.toInt - v1042.toInt).toNat < (x_size.toInt - u718.toInt).toNat; omega) _ _ _ hP hD hS (lv_sub hl [0, 1, 2, 3] rfl)
                      refine lv_aload_n hx hb dX10_next_222 rfl (lv_at hl 3 rfl) ?_
                      refine get_f (D := D) (ci := 10) (v := .int u719) (C := RX10) (T := TX10) (N := 67) hx hb hw inAX10 hown hK hP 0 rfl rfl 13 (by decide) (hw _ q_1274) (fun _ h9 => h9) i762 dX10_next_223 ?_
                      refine lv_bipush (v := 7) hx hb dX10_next_226 (by decide) ?_
                      refine lv_icmp_ge (tgt := 248) hx hb dX10_next_228 (by decide) (fun c1051 => ?_) (fun c1051 => ?_)
                      · have dc1051 : 7 ≤ u719.toInt := le_i (a := 7) (b := u719.toInt) rfl rfl c1051
                        have k1052 : 7 ≤ u719.toInt ∧ u719.toInt ≤ 940 := ⟨Int.le_trans (Int.le_refl _) dc1051, i766.2⟩
                        exact cut982 G717 u721 SAME.rf i764 _ _ _ hP hD hS (lv_sub hl [0, 1, 2, 3] rfl)
                      · have dc1051 : u719.toInt < 7 := nle_i (a := 7) (b := u719.toInt) rfl rfl c1051
                        have k1053 : 0 ≤ u719.toInt ∧ u719.toInt ≤ 6 := ⟨i766.1, up_lt dc1051 (Int.le_refl _) (by decide)⟩
                        refine lv_aload_n hx hb dX10_next_231 rfl (lv_at hl 3 rfl) ?_
                        refine lv_aload_n hx hb dX10_next_232 rfl (lv_at hl 3 rfl) ?_
                        refine get_f (D := D) (ci := 10) (v := .long u721) (C := RX10) (T := TX10) (N := 67) hx hb hw inAX10 hown hK hP 0 rfl rfl 18 (by decide) (hw _ q_1279) (fun _ h9 => h9) i764 dX10_next_233 ?_
                        refine lv_bipush (v := 8) hx hb dX10_next_236 (by decide) ?_
                        obtain ⟨v1054, ev1054⟩ : ∃ z : Int64, (u721 : Int64) <<< ((8 : Int32).toInt64 &&& 63) = z := ⟨_, rfl⟩
                        refine lv_lshl (v := v1054) hx hb dX10_next_238 ev1054 ?_
                        refine lv_aload_n hx hb dX10_next_239 rfl (lv_at hl 3 rfl) ?_
                        refine call_Vi (wr := []) (As := []) (rest := [.long v1054, .ref h0]) hx hb hml hown hw (m_X10_peek l D cI cJ cB cP cM cZ h0 h_tape G717 x_size u718 f_tape _ n772 n775 (ir_wk k691 (by decide) (by decide)) i761 (ir_wk k941 (by decide) (by decide))) wV_X10_169_X10_peek dX10_next_240 hK hP hD hS hA [0, 1] [] rfl rfl (by decide) (by decide) (by decide) 0 10 rfl rfl GG.fb hG.at hl.1 rfl (Nat.le_of_ble_eq_true rfl) ⟨(Nat.le_of_ble_eq_true rfl), (Nat.le_of_ble_eq_true rfl)⟩ ⟨(Nat.le_of_ble_eq_true rfl), (Nat.le_of_ble_eq_true rfl)⟩ (fun r1055 u H locs hp hP hD hS => ?_)
                        rcases hp with ⟨t1056, rfl, rfl⟩ | ⟨t1057, t1058, rfl, rfl⟩
                        · have hP : va_P D vwCl [(h0, .inr (10, vL 67 G717)), (h_tape, .inl (cB, 940, .inl f_tape))] H := hP
                          have hD : va_D A [(h0, .inr (10, vL 67 G717)), (h_tape, .inl (cB, 940, .inl f_tape))] := hD
                          refine W.widen (k := 0) (n := 0) (Nat.le_of_ble_eq_true rfl) (Nat.le_of_ble_eq_true rfl) ?_
                          have k1060 : 201 ≤ x_size.toInt ∧ x_size.toInt ≤ 939 := ⟨k691.1, Int.le_trans t1056 k941.2⟩
                          have k1061 : 201 ≤ u718.toInt ∧ u718.toInt ≤ 939 := ⟨Int.le_trans k691.1 t1056, k941.2⟩
                          obtain ⟨v1062, ev1062⟩ : ∃ z : Int64, ((-1) : Int32).toInt64 = z := ⟨_, rfl⟩
                          refine lv_i2l (v := v1062) hx hb dX10_next_243 ev1062 ?_
                          refine lv_lor hx hb dX10_next_244 ?_
                          refine lv_topl (fun v1063 ev1063 => ?_)
                          refine put_f (D := D) (ci := 10) (v := .long v1063) (ty := .long) (C := RX10) (T := TX10) (N := 67) hx hb hw inAX10 tyX10 tyX10_ok nmX10 hown hK hP hD hS 0 rfl rfl 18 (by decide) (hw _ q_1279) (fun _ h9 => h9) rfl (by decide +kernel) rfl rfl dX10_next_245 (fun H locs F1064 eF1064 hP hD hS => ?_)
                          have hP : va_P D vwCl [(h0, .inr (10, vL 67 F1064)), (h_tape, .inl (cB, 940, .inl f_tape))] H := hP
                          have hD : va_D A [(h0, .inr (10, vL 67 F1064)), (h_tape, .inl (cB, 940, .inl f_tape))] := hD
                          exact cut982 F1064 v1063 (SAME.up eF1064 SAME.rf (by decide)) (get_eq eF1064) _ _ _ hP hD hS (lv_sub hl [0, 1, 2, 3] rfl)
                        · have hP : va_P D vwCl [(h0, .inr (10, vL 67 G717)), (h_tape, .inl (cB, 940, .inl f_tape))] H := hP
                          have hD : va_D A [(h0, .inr (10, vL 67 G717)), (h_tape, .inl (cB, 940, .inl f_tape))] := hD
                          refine W.widen (k := 0) (n := 0) (Nat.le_of_ble_eq_true rfl) (Nat.le_of_ble_eq_true rfl) ?_
                          refine lv_ci (y := v939) ev939.symm ?_
                          obtain ⟨v1065, ev1065⟩ : ∃ z : Int64, (v939 : Int32).toInt64 = z := ⟨_, rfl⟩
                          refine lv_i2l (v := v1065) hx hb dX10_next_243 ev1065 ?_
                          refine lv_lor hx hb dX10_next_244 ?_
                          refine lv_topl (fun v1066 ev1066 => ?_)
                          refine put_f (D := D) (ci := 10) (v := .long v1066) (ty := .long) (C := RX10) (T := TX10) (N := 67) hx hb hw inAX10 tyX10 tyX10_ok nmX10 hown hK hP hD hS 0 rfl rfl 18 (by decide) (hw _ q_1279) (fun _ h9 => h9) rfl (by decide +kernel) rfl rfl dX10_next_245 (fun H locs F1067 eF1067 hP hD hS => ?_)
                          have hP : va_P D vwCl [(h0, .inr (10, vL 67 F1067)), (h_tape, .inl (cB, 940, .inl f_tape))] H := hP
                          have hD : va_D A [(h0, .inr (10, vL 67 F1067)), (h_tape, .inl (cB, 940, .inl f_tape))] := hD
                          exact cut982 F1067 v1066 (SAME.up eF1067 SAME.rf (by decide)) (get_eq eF1067) _ _ _ hP hD hS (lv_sub hl [0, 1, 2, 3] rfl)
                    refine lv_iload_n hx hb dX10_next_201 rfl (lv_at hl 0 rfl) ?_
                    refine lv_if_eq (tgt := 220) hx hb dX10_next_202 (by decide) (fun c1068 => ?_) (fun c1068 => ?_)
                    · have dc1068 : u716.toInt = 0 := eq_i (a := u716.toInt) (b := 0) rfl rfl c1068
                      have k1069 : 0 ≤ u716.toInt ∧ u716.toInt ≤ 0 := ⟨i759.1, Int.le_trans (Int.le_of_eq dc1068) (Int.le_refl _)⟩
                      refine lv_iconst (v := 0) hx hb dX10_next_220 (by decide) ?_
                      refine lv_istore_n (lv' := [(3, .int 0), (2, .int u710), (1, .int v707), (0, .ref h0)]) hx hb dX10_next_221 rfl hl (by decide) rfl (fun ls hl => ?_)
                      exact cut977 0 (show 0 ≤ (0 : Int32).toInt ∧ (0 : Int32).toInt ≤ 1 by decide) (by show (0 = 1 → u710.toInt = 0 → (48 ≤ v939.toInt ∧ v939.toInt ≤ 57 ∧ 0 ≤ u720.toInt ∧ u720.toInt ≤ 999 ∧ (u719.toInt = 0 → u720.toInt = 0) ∧ (u719.toInt = 1 → u720.toInt ≤ 9) ∧ (u719.toInt = 2 → u720.toInt ≤ 99))); omega) _ _ _ hP hD hS (lv_sub hl [0, 1, 2, 3] rfl)
                    · have dc1068 : u716.toInt ≠ 0 := ne_i (a := u716.toInt) (b := 0) rfl rfl c1068
                      have k1070 : 1 ≤ u716.toInt ∧ u716.toInt ≤ 1 := ⟨ne_lo dc1068 i759.1 ⟨Int.le_refl _, Int.le_refl _⟩ (by decide), i759.2⟩
                      refine lv_aload_n hx hb dX10_next_205 rfl (lv_at hl 3 rfl) ?_
                      refine call_Vi (wr := []) (As := []) (rest := []) hx hb hml hown hw (m_X10_peek l D cI cJ cB cP cM cZ h0 h_tape G717 x_size u718 f_tape _ n772 n775 (ir_wk k691 (by decide) (by decide)) i761 (ir_wk k941 (by decide) (by decide))) wV_X10_169_X10_peek dX10_next_206 hK hP hD hS hA [0, 1] [] rfl rfl (by decide) (by decide) (by decide) 0 10 rfl rfl GG.fb hG.at hl.1 rfl (Nat.le_of_ble_eq_true rfl) ⟨(Nat.le_of_ble_eq_true rfl), (Nat.le_of_ble_eq_true rfl)⟩ ⟨(Nat.le_of_ble_eq_true rfl), (Nat.le_of_ble_eq_true rfl)⟩ (fun r1071 u H locs hp hP hD hS => ?_)
                      rcases hp with ⟨t1072, rfl, rfl⟩ | ⟨t1073, t1074, rfl, rfl⟩
                      · have hP : va_P D vwCl [(h0, .inr (10, vL 67 G717)), (h_tape, .inl (cB, 940, .inl f_tape))] H := hP
                        have hD : va_D A [(h0, .inr (10, vL 67 G717)), (h_tape, .inl (cB, 940, .inl f_tape))] := hD
                        refine W.widen (k := 0) (n := 0) (Nat.le_of_ble_eq_true rfl) (Nat.le_of_ble_eq_true rfl) ?_
                        have k1076 : 201 ≤ x_size.toInt ∧ x_size.toInt ≤ 939 := ⟨k691.1, Int.le_trans t1072 k941.2⟩
                        have k1077 : 201 ≤ u718.toInt ∧ u718.toInt ≤ 939 := ⟨Int.le_trans k691.1 t1072, k941.2⟩
                        refine call_Si (wr := [(h0, .inr (10, vL 67 G717)), (h_tape, .inl (cB, 940, .inl f_tape))]) (As := [.int (-1)]) (rest := []) hx hb hml hown hw (m_X10_isSmall l D cI cJ cB cP cM cZ (-1) _ ) wS_X10_182_X10_isSmall dX10_next_209 hP hD hS hA [] [0, 1] rfl rfl (by decide) (by decide) (by decide) GG.fb hG.at hl.1 rfl (Nat.le_of_ble_eq_true rfl) ⟨(Nat.le_of_ble_eq_true rfl), (Nat.le_of_ble_eq_true rfl)⟩ ⟨(Nat.le_of_ble_eq_true rfl), (Nat.le_of_ble_eq_true rfl)⟩ (fun r1078 u H locs hp hP hD hS => ?_)
                        have zlm1 : ((-1) : Int32).toInt = (-1) := by decide
                        rcases hp with ⟨t1079, rfl, rfl⟩ | ⟨t1080, t1081, rfl, rfl⟩ | ⟨t1082, t1083, rfl, rfl⟩
                        · have hP : va_P D vwCl [(h0, .inr (10, vL 67 G717)), (h_tape, .inl (cB, 940, .inl f_tape))] H := hP
                          have hD : va_D A [(h0, .inr (10, vL 67 G717)), (h_tape, .inl (cB, 940, .inl f_tape))] := hD
                          refine W.widen (k := 0) (n := 0) (Nat.le_of_ble_eq_true rfl) (Nat.le_of_ble_eq_true rfl) ?_
                          refine lv_iload_n hx hb dX10_next_212 rfl (lv_at hl 1 rfl) ?_
                          refine lv_icmp_ne (tgt := 220) hx hb dX10_next_213 (by decide) (fun c1085 => ?_) (fun c1085 => ?_)
                          · have dc1085 : 0 ≠ u710.toInt := ne_i (a := 0) (b := u710.toInt) rfl rfl c1085
                            have k1086 : 1 ≤ u710.toInt ∧ u710.toInt ≤ 1 := ⟨ne_lo dc1085.symm i712.1 ⟨Int.le_refl _, Int.le_refl _⟩ (by decide), i712.2⟩
                            refine lv_iconst (v := 0) hx hb dX10_next_220 (by decide) ?_
                            refine lv_istore_n (lv' := [(3, .int 0), (2, .int u710), (1, .int v707), (0, .ref h0)]) hx hb dX10_next_221 rfl hl (by decide) rfl (fun ls hl => ?_)
                            exact cut977 0 (show 0 ≤ (0 : Int32).toInt ∧ (0 : Int32).toInt ≤ 1 by decide) (by show (0 = 1 → u710.toInt = 0 → (48 ≤ v939.toInt ∧ v939.toInt ≤ 57 ∧ 0 ≤ u720.toInt ∧ u720.toInt ≤ 999 ∧ (u719.toInt = 0 → u720.toInt = 0) ∧ (u719.toInt = 1 → u720.toInt ≤ 9) ∧ (u719.toInt = 2 → u720.toInt ≤ 99))); omega) _ _ _ hP hD hS (lv_sub hl [0, 1, 2, 3] rfl)
                          · have dc1085 : 0 = u710.toInt := eq_i (a := 0) (b := u710.toInt) rfl rfl c1085
                            have k1087 : 0 ≤ u710.toInt ∧ u710.toInt ≤ 0 := ⟨i712.1, Int.le_trans (Int.le_of_eq dc1085.symm) (Int.le_refl _)⟩
                            refine lv_iconst (v := 1) hx hb dX10_next_216 (by decide) ?_
                            refine lv_goto (tgt := 221) hx hb dX10_next_217 (by decide) ?_
                            refine lv_istore_n (lv' := [(3, .int 1), (2, .int u710), (1, .int v707), (0, .ref h0)]) hx hb dX10_next_221 rfl hl (by decide) rfl (fun ls hl => ?_)
                            exact cut977 1 (show 0 ≤ (1 : Int32).toInt ∧ (1 : Int32).toInt ≤ 1 by decide) (by show (1 = 1 → u710.toInt = 0 → (48 ≤ v939.toInt ∧ v939.toInt ≤ 57 ∧ 0 ≤ u720.toInt ∧ u720.toInt ≤ 999 ∧ (u719.toInt = 0 → u720.toInt = 0) ∧ (u719.toInt = 1 → u720.toInt ≤ 9) ∧ (u719.toInt = 2 → u720.toInt ≤ 99))); omega) _ _ _ hP hD hS (lv_sub hl [0, 1, 2, 3] rfl)
                        · have hP : va_P D vwCl [(h0, .inr (10, vL 67 G717)), (h_tape, .inl (cB, 940, .inl f_tape))] H := hP
                          have hD : va_D A [(h0, .inr (10, vL 67 G717)), (h_tape, .inl (cB, 940, .inl f_tape))] := hD
                          refine W.widen (k := 0) (n := 0) (Nat.le_of_ble_eq_true rfl) (Nat.le_of_ble_eq_true rfl) ?_
                          exact absurd t1080 (by decide)
                        · have hP : va_P D vwCl [(h0, .inr (10, vL 67 G717)), (h_tape, .inl (cB, 940, .inl f_tape))] H := hP
                          have hD : va_D A [(h0, .inr (10, vL 67 G717)), (h_tape, .inl (cB, 940, .inl f_tape))] := hD
                          refine W.widen (k := 0) (n := 0) (Nat.le_of_ble_eq_true rfl) (Nat.le_of_ble_eq_true rfl) ?_
                          exact absurd t1082 (by decide)
                      · have hP : va_P D vwCl [(h0, .inr (10, vL 67 G717)), (h_tape, .inl (cB, 940, .inl f_tape))] H := hP
                        have hD : va_D A [(h0, .inr (10, vL 67 G717)), (h_tape, .inl (cB, 940, .inl f_tape))] := hD
                        refine W.widen (k := 0) (n := 0) (Nat.le_of_ble_eq_true rfl) (Nat.le_of_ble_eq_true rfl) ?_
                        refine lv_ci (y := v939) ev939.symm ?_
                        refine call_Si (wr := [(h0, .inr (10, vL 67 G717)), (h_tape, .inl (cB, 940, .inl f_tape))]) (As := [.int v939]) (rest := []) hx hb hml hown hw (m_X10_isSmall l D cI cJ cB cP cM cZ v939 _ ) wS_X10_182_X10_isSmall dX10_next_209 hP hD hS hA [] [0, 1] rfl rfl (by decide) (by decide) (by decide) GG.fb hG.at hl.1 rfl (Nat.le_of_ble_eq_true rfl) ⟨(Nat.le_of_ble_eq_true rfl), (Nat.le_of_ble_eq_true rfl)⟩ ⟨(Nat.le_of_ble_eq_true rfl), (Nat.le_of_ble_eq_true rfl)⟩ (fun r1088 u H locs hp hP hD hS => ?_)
                        rcases hp with ⟨t1089, rfl, rfl⟩ | ⟨t1090, t1091, rfl, rfl⟩ | ⟨t1092, t1093, rfl, rfl⟩
                        · have hP : va_P D vwCl [(h0, .inr (10, vL 67 G717)), (h_tape, .inl (cB, 940, .inl f_tape))] H := hP
                          have hD : va_D A [(h0, .inr (10, vL 67 G717)), (h_tape, .inl (cB, 940, .inl f_tape))] := hD
                          refine W.widen (k := 0) (n := 0) (Nat.le_of_ble_eq_true rfl) (Nat.le_of_ble_eq_true rfl) ?_
                          refine lv_iload_n hx hb dX10_next_212 rfl (lv_at hl 1 rfl) ?_
                          refine lv_icmp_ne (tgt := 220) hx hb dX10_next_213 (by decide) (fun c1095 => ?_) (fun c1095 => ?_)
                          · have dc1095 : 0 ≠ u710.toInt := ne_i (a := 0) (b := u710.toInt) rfl rfl c1095
                            have k1096 : 1 ≤ u710.toInt ∧ u710.toInt ≤ 1 := ⟨ne_lo dc1095.symm i712.1 ⟨Int.le_refl _, Int.le_refl _⟩ (by decide), i712.2⟩
                            refine lv_iconst (v := 0) hx hb dX10_next_220 (by decide) ?_
                            refine lv_istore_n (lv' := [(3, .int 0), (2, .int u710), (1, .int v707), (0, .ref h0)]) hx hb dX10_next_221 rfl hl (by decide) rfl (fun ls hl => ?_)
                            exact cut977 0 (show 0 ≤ (0 : Int32).toInt ∧ (0 : Int32).toInt ≤ 1 by decide) (by show (0 = 1 → u710.toInt = 0 → (48 ≤ v939.toInt ∧ v939.toInt ≤ 57 ∧ 0 ≤ u720.toInt ∧ u720.toInt ≤ 999 ∧ (u719.toInt = 0 → u720.toInt = 0) ∧ (u719.toInt = 1 → u720.toInt ≤ 9) ∧ (u719.toInt = 2 → u720.toInt ≤ 99))); omega) _ _ _ hP hD hS (lv_sub hl [0, 1, 2, 3] rfl)
                          · have dc1095 : 0 = u710.toInt := eq_i (a := 0) (b := u710.toInt) rfl rfl c1095
                            have k1097 : 0 ≤ u710.toInt ∧ u710.toInt ≤ 0 := ⟨i712.1, Int.le_trans (Int.le_of_eq dc1095.symm) (Int.le_refl _)⟩
                            refine lv_iconst (v := 1) hx hb dX10_next_216 (by decide) ?_
                            refine lv_goto (tgt := 221) hx hb dX10_next_217 (by decide) ?_
                            refine lv_istore_n (lv' := [(3, .int 1), (2, .int u710), (1, .int v707), (0, .ref h0)]) hx hb dX10_next_221 rfl hl (by decide) rfl (fun ls hl => ?_)
                            exact cut977 1 (show 0 ≤ (1 : Int32).toInt ∧ (1 : Int32).toInt ≤ 1 by decide) (by show (1 = 1 → u710.toInt = 0 → (48 ≤ v939.toInt ∧ v939.toInt ≤ 57 ∧ 0 ≤ u720.toInt ∧ u720.toInt ≤ 999 ∧ (u719.toInt = 0 → u720.toInt = 0) ∧ (u719.toInt = 1 → u720.toInt ≤ 9) ∧ (u719.toInt = 2 → u720.toInt ≤ 99))); omega) _ _ _ hP hD hS (lv_sub hl [0, 1, 2, 3] rfl)
                        · have hP : va_P D vwCl [(h0, .inr (10, vL 67 G717)), (h_tape, .inl (cB, 940, .inl f_tape))] H := hP
                          have hD : va_D A [(h0, .inr (10, vL 67 G717)), (h_tape, .inl (cB, 940, .inl f_tape))] := hD
                          refine W.widen (k := 0) (n := 0) (Nat.le_of_ble_eq_true rfl) (Nat.le_of_ble_eq_true rfl) ?_
                          exact False.elim (bad_le t1090 (Int.le_refl _) k975.2 (by decide))
                        · have hP : va_P D vwCl [(h0, .inr (10, vL 67 G717)), (h_tape, .inl (cB, 940, .inl f_tape))] H := hP
                          have hD : va_D A [(h0, .inr (10, vL 67 G717)), (h_tape, .inl (cB, 940, .inl f_tape))] := hD
                          refine W.widen (k := 0) (n := 0) (Nat.le_of_ble_eq_true rfl) (Nat.le_of_ble_eq_true rfl) ?_
                          exact False.elim (bad_le t1092 (Int.le_refl _) k975.2 (by decide))
              · have hP : va_P D vwCl [(h0, .inr (10, vL 67 G717)), (h_tape, .inl (cB, 940, .inl f_tape))] H := hP
                have hD : va_D A [(h0, .inr (10, vL 67 G717)), (h_tape, .inl (cB, 940, .inl f_tape))] := hD
                refine W.widen (k := 0) (n := 0) (Nat.le_of_ble_eq_true rfl) (Nat.le_of_ble_eq_true rfl) ?_
                have k1098 : 97 ≤ v939.toInt ∧ v939.toInt ≤ 255 := ⟨Int.le_trans (Int.le_refl _) t944, k940.2⟩
                have k1099 : 123 ≤ v939.toInt ∧ v939.toInt ≤ 255 := ⟨lo_lt t945 (Int.le_refl _) (by decide), k1098.2⟩
                refine lv_if_ne (tgt := 201) hx hb dX10_next_188 (by decide) (fun g => absurd (by decide) g) (fun _ => ?_)
                refine lv_aload_n hx hb dX10_next_191 rfl (lv_at hl 3 rfl) ?_
                refine call_Vi (wr := []) (As := []) (rest := []) hx hb hml hown hw (m_X10_peek l D cI cJ cB cP cM cZ h0 h_tape G717 x_size u718 f_tape _ n772 n775 (ir_wk k691 (by decide) (by decide)) i761 (ir_wk k941 (by decide) (by decide))) wV_X10_169_X10_peek dX10_next_192 hK hP hD hS hA [0, 1] [] rfl rfl (by decide) (by decide) (by decide) 0 10 rfl rfl GG.fb hG.at hl.1 rfl (Nat.le_of_ble_eq_true rfl) ⟨(Nat.le_of_ble_eq_true rfl), (Nat.le_of_ble_eq_true rfl)⟩ ⟨(Nat.le_of_ble_eq_true rfl), (Nat.le_of_ble_eq_true rfl)⟩ (fun r1100 u H locs hp hP hD hS => ?_)
                rcases hp with ⟨t1101, rfl, rfl⟩ | ⟨t1102, t1103, rfl, rfl⟩
                · have hP : va_P D vwCl [(h0, .inr (10, vL 67 G717)), (h_tape, .inl (cB, 940, .inl f_tape))] H := hP
                  have hD : va_D A [(h0, .inr (10, vL 67 G717)), (h_tape, .inl (cB, 940, .inl f_tape))] := hD
                  refine W.widen (k := 0) (n := 0) (Nat.le_of_ble_eq_true rfl) (Nat.le_of_ble_eq_true rfl) ?_
                  have k1105 : 201 ≤ x_size.toInt ∧ x_size.toInt ≤ 939 := ⟨k691.1, Int.le_trans t1101 k941.2⟩
                  have k1106 : 201 ≤ u718.toInt ∧ u718.toInt ≤ 939 := ⟨Int.le_trans k691.1 t1101, k941.2⟩
                  refine call_Si (wr := [(h0, .inr (10, vL 67 G717)), (h_tape, .inl (cB, 940, .inl f_tape))]) (As := [.int (-1)]) (rest := []) hx hb hml hown hw (m_X10_isDigit l D cI cJ cB cP cM cZ (-1) _ ) wS_X10_186_X10_isDigit dX10_next_195 hP hD hS hA [] [0, 1] rfl rfl (by decide) (by decide) (by decide) GG.fb hG.at hl.1 rfl (Nat.le_of_ble_eq_true rfl) ⟨(Nat.le_of_ble_eq_true rfl), (Nat.le_of_ble_eq_true rfl)⟩ ⟨(Nat.le_of_ble_eq_true rfl), (Nat.le_of_ble_eq_true rfl)⟩ (fun r1107 u H locs hp hP hD hS => ?_)
                  have zlm1 : ((-1) : Int32).toInt = (-1) := by decide
                  rcases hp with ⟨t1108, rfl, rfl⟩ | ⟨t1109, t1110, rfl, rfl⟩ | ⟨t1111, t1112, rfl, rfl⟩
                  · have hP : va_P D vwCl [(h0, .inr (10, vL 67 G717)), (h_tape, .inl (cB, 940, .inl f_tape))] H := hP
                    have hD : va_D A [(h0, .inr (10, vL 67 G717)), (h_tape, .inl (cB, 940, .inl f_tape))] := hD
                    refine W.widen (k := 0) (n := 0) (Nat.le_of_ble_eq_true rfl) (Nat.le_of_ble_eq_true rfl) ?_
                    refine lv_if_eq (tgt := 298) hx hb dX10_next_198 (by decide) (fun _ => ?_) (fun g => absurd (by decide) g)
                    have hgv707 : v707.toInt = (((f_tape u2.toNatClampNeg) &&& 255)).toInt := by rw [ev707]
                    have hgv939 : v939.toInt = (((f_tape u718.toNatClampNeg) &&& 255)).toInt := by rw [ev939]
                    have hfst : u718.toInt = u2.toInt → (f_tape u718.toNatClampNeg &&& 255).toInt = (f_tape u2.toNatClampNeg &&& 255).toInt := fun h9 => by rw [Int32.toInt_inj.mp h9]
                    exact cut722 u716 G717 u718 u719 u720 u721 i759 (SAME.tr SAME.rf i760 (by decide)) i761 i762 i763 i764 (ir_wk k1106 (by decide) (by decide)) i766 (by show 0 ≤ u719.toInt ∧ u719.toInt ≤ u718.toInt ∧ x_p.toInt + u719.toInt ≤ u718.toInt ∧ (u719.toInt = 0 → u718.toInt = u2.toInt); omega) (by show u716.toInt = 1 → u710.toInt = 0 → (0 ≤ u720.toInt ∧ u720.toInt ≤ 999 ∧ (u719.toInt = 0 → u720.toInt = 0) ∧ (u719.toInt = 1 → u720.toInt ≤ 9) ∧ (u719.toInt = 2 → u720.toInt ≤ 99)); omega) (by show (x_token.toInt = 2 → 0 ≤ u720.toInt ∧ u720.toInt ≤ 999); omega) (by show 1 ≤ u719.toInt; omega) _ _ _ hP hD hS (lv_sub hl [0, 1, 2, 3] rfl)
                  · have hP : va_P D vwCl [(h0, .inr (10, vL 67 G717)), (h_tape, .inl (cB, 940, .inl f_tape))] H := hP
                    have hD : va_D A [(h0, .inr (10, vL 67 G717)), (h_tape, .inl (cB, 940, .inl f_tape))] := hD
                    refine W.widen (k := 0) (n := 0) (Nat.le_of_ble_eq_true rfl) (Nat.le_of_ble_eq_true rfl) ?_
                    exact absurd t1109 (by decide)
                  · have hP : va_P D vwCl [(h0, .inr (10, vL 67 G717)), (h_tape, .inl (cB, 940, .inl f_tape))] H := hP
                    have hD : va_D A [(h0, .inr (10, vL 67 G717)), (h_tape, .inl (cB, 940, .inl f_tape))] := hD
                    refine W.widen (k := 0) (n := 0) (Nat.le_of_ble_eq_true rfl) (Nat.le_of_ble_eq_true rfl) ?_
                    exact absurd t1111 (by decide)
                · have hP : va_P D vwCl [(h0, .inr (10, vL 67 G717)), (h_tape, .inl (cB, 940, .inl f_tape))] H := hP
                  have hD : va_D A [(h0, .inr (10, vL 67 G717)), (h_tape, .inl (cB, 940, .inl f_tape))] := hD
                  refine W.widen (k := 0) (n := 0) (Nat.le_of_ble_eq_true rfl) (Nat.le_of_ble_eq_true rfl) ?_
                  refine lv_ci (y := v939) ev939.symm ?_
                  refine call_Si (wr := [(h0, .inr (10, vL 67 G717)), (h_tape, .inl (cB, 940, .inl f_tape))]) (As := [.int v939]) (rest := []) hx hb hml hown hw (m_X10_isDigit l D cI cJ cB cP cM cZ v939 _ ) wS_X10_186_X10_isDigit dX10_next_195 hP hD hS hA [] [0, 1] rfl rfl (by decide) (by decide) (by decide) GG.fb hG.at hl.1 rfl (Nat.le_of_ble_eq_true rfl) ⟨(Nat.le_of_ble_eq_true rfl), (Nat.le_of_ble_eq_true rfl)⟩ ⟨(Nat.le_of_ble_eq_true rfl), (Nat.le_of_ble_eq_true rfl)⟩ (fun r1114 u H locs hp hP hD hS => ?_)
                  rcases hp with ⟨t1115, rfl, rfl⟩ | ⟨t1116, t1117, rfl, rfl⟩ | ⟨t1118, t1119, rfl, rfl⟩
                  · have hP : va_P D vwCl [(h0, .inr (10, vL 67 G717)), (h_tape, .inl (cB, 940, .inl f_tape))] H := hP
                    have hD : va_D A [(h0, .inr (10, vL 67 G717)), (h_tape, .inl (cB, 940, .inl f_tape))] := hD
                    refine W.widen (k := 0) (n := 0) (Nat.le_of_ble_eq_true rfl) (Nat.le_of_ble_eq_true rfl) ?_
                    exact False.elim (bad_lt t1115 k1099.1 (Int.le_refl _) (by decide))
                  · have hP : va_P D vwCl [(h0, .inr (10, vL 67 G717)), (h_tape, .inl (cB, 940, .inl f_tape))] H := hP
                    have hD : va_D A [(h0, .inr (10, vL 67 G717)), (h_tape, .inl (cB, 940, .inl f_tape))] := hD
                    refine W.widen (k := 0) (n := 0) (Nat.le_of_ble_eq_true rfl) (Nat.le_of_ble_eq_true rfl) ?_
                    refine lv_if_eq (tgt := 298) hx hb dX10_next_198 (by decide) (fun _ => ?_) (fun g => absurd (by decide) g)
                    have hgv707 : v707.toInt = (((f_tape u2.toNatClampNeg) &&& 255)).toInt := by rw [ev707]
                    have hgv939 : v939.toInt = (((f_tape u718.toNatClampNeg) &&& 255)).toInt := by rw [ev939]
                    have hfst : u718.toInt = u2.toInt → (f_tape u718.toNatClampNeg &&& 255).toInt = (f_tape u2.toNatClampNeg &&& 255).toInt := fun h9 => by rw [Int32.toInt_inj.mp h9]
                    exact cut722 u716 G717 u718 u719 u720 u721 i759 (SAME.tr SAME.rf i760 (by decide)) i761 i762 i763 i764 (ir_wk k941 (by decide) (by decide)) i766 (by show 0 ≤ u719.toInt ∧ u719.toInt ≤ u718.toInt ∧ x_p.toInt + u719.toInt ≤ u718.toInt ∧ (u719.toInt = 0 → u718.toInt = u2.toInt); omega) (by show u716.toInt = 1 → u710.toInt = 0 → (0 ≤ u720.toInt ∧ u720.toInt ≤ 999 ∧ (u719.toInt = 0 → u720.toInt = 0) ∧ (u719.toInt = 1 → u720.toInt ≤ 9) ∧ (u719.toInt = 2 → u720.toInt ≤ 99)); omega) (by show (x_token.toInt = 2 → 0 ≤ u720.toInt ∧ u720.toInt ≤ 999); omega) (by show 1 ≤ u719.toInt; omega) _ _ _ hP hD hS (lv_sub hl [0, 1, 2, 3] rfl)
                  · have hP : va_P D vwCl [(h0, .inr (10, vL 67 G717)), (h_tape, .inl (cB, 940, .inl f_tape))] H := hP
                    have hD : va_D A [(h0, .inr (10, vL 67 G717)), (h_tape, .inl (cB, 940, .inl f_tape))] := hD
                    refine W.widen (k := 0) (n := 0) (Nat.le_of_ble_eq_true rfl) (Nat.le_of_ble_eq_true rfl) ?_
                    exact False.elim (bad_le t1119 k1099.1 (Int.le_refl _) (by decide))
              · have hP : va_P D vwCl [(h0, .inr (10, vL 67 G717)), (h_tape, .inl (cB, 940, .inl f_tape))] H := hP
                have hD : va_D A [(h0, .inr (10, vL 67 G717)), (h_tape, .inl (cB, 940, .inl f_tape))] := hD
                refine W.widen (k := 0) (n := 0) (Nat.le_of_ble_eq_true rfl) (Nat.le_of_ble_eq_true rfl) ?_
                have k1121 : 97 ≤ v939.toInt ∧ v939.toInt ≤ 255 := ⟨Int.le_trans (Int.le_refl _) t946, k940.2⟩
                have k1122 : 97 ≤ v939.toInt ∧ v939.toInt ≤ 122 := ⟨k1121.1, Int.le_trans t947 (Int.le_refl _)⟩
                refine lv_if_ne (tgt := 201) hx hb dX10_next_188 (by decide) (fun _ => ?_) (fun g => absurd g (by decide))
                have cut1124 : ∀ (u1123 : Int32) (_ : IR 0 1 u1123) (_ : ((u1123.toInt = 1 → u710.toInt = 0 → (48 ≤ v939.toInt ∧ v939.toInt ≤ 57 ∧ 0 ≤ u720.toInt ∧ u720.toInt ≤ 999 ∧ (u719.toInt = 0 → u720.toInt = 0) ∧ (u719.toInt = 1 → u720.toInt ≤ 9) ∧ (u719.toInt = 2 → u720.toInt ≤ 99))))) (H : Heap) (locs : List Loc) (ls : Array Slot), va_P D vwCl [(h0, .inr (10, vL 67 G717)), (h_tape, .inl (cB, 940, .inl f_tape))] H → va_D A [(h0, .inr (10, vL 67 G717)), (h_tape, .inl (cB, 940, .inl f_tape))] → va_S A s.heap H locs → lv_has ls 4 [(3, .int u1123), (2, .int u710), (1, .int v707), (0, .ref h0)] → W p l e ({ frames := 1, cells := 0, slots := 0, locals := 20 } : Room) s m [.ref h0].toArray below meth c H locs 0 0 (MQ below (va_Qv (fun (u : va_W) => ∃ (Gh : Nat → Value) (y_p : Int32) (y_token : Int32) (y_at : Int32) (y_span : Int32) (y_number : Int32) (y_word : Int64), SAME [4, 11, 12, 13, 14, 18] Fh Gh ∧ Gh 4 = .int y_p ∧ IR 0 940 y_p ∧ Gh 11 = .int y_token ∧ IR 0 4 y_token ∧ Gh 12 = .int y_at ∧ IR 0 940 y_at ∧ Gh 13 = .int y_span ∧ IR 0 940 y_span ∧ Gh 14 = .int y_number ∧ Gh 18 = .long y_word ∧ (x_p.toInt ≤ y_p.toInt) ∧ ((1 ≤ y_token.toInt → y_token.toInt ≤ 3 → x_p.toInt < y_p.toInt)) ∧ ((y_token.toInt = 2 → 0 ≤ y_number.toInt ∧ y_number.toInt ≤ 999)) ∧ u = [(h0, .inr (10, vL 67 Gh)), (h_tape, .inl (cB, 940, .inl f_tape))]) (PO D A) A) [.ref h0].toArray s 0 0 A) (F0 m 222 ls []) := by
                  intro u1123 i1125 i1126 H locs ls hP hD hS hl
                  have i1125 : 0 ≤ u1123.toInt ∧ u1123.toInt ≤ 1 := i1125
                  have i1126 : (u1123.toInt = 1 → u710.toInt = 0 → (48 ≤ v939.toInt ∧ v939.toInt ≤ 57 ∧ 0 ≤ u720.toInt ∧ u720.toInt ≤ 999 ∧ (u719.toInt = 0 → u720.toInt = 0) ∧ (u719.toInt = 1 → u720.toInt ≤ 9) ∧ (u719.toInt = 2 → u720.toInt ≤ 99))) := i1126
                  have cut1129 : ∀ (G1127 : Nat → Value) (u1128 : Int64) (_ : SAME [18] G717 G1127) (_ : G1127 18 = .long u1128) (H : Heap) (locs : List Loc) (ls : Array Slot), va_P D vwCl [(h0, .inr (10, vL 67 G1127)), (h_tape, .inl (cB, 940, .inl f_tape))] H → va_D A [(h0, .inr (10, vL 67 G1127)), (h_tape, .inl (cB, 940, .inl f_tape))] → va_S A s.heap H locs → lv_has ls 4 [(3, .int u1123), (2, .int u710), (1, .int v707), (0, .ref h0)] → W p l e ({ frames := 1, cells := 0, slots := 0, locals := 20 } : Room) s m [.ref h0].toArray below meth c H locs 0 0 (MQ below (va_Qv (fun (u : va_W) => ∃ (Gh : Nat → Value) (y_p : Int32) (y_token : Int32) (y_at : Int32) (y_span : Int32) (y_number : Int32) (y_word : Int64), SAME [4, 11, 12, 13, 14, 18] Fh Gh ∧ Gh 4 = .int y_p ∧ IR 0 940 y_p ∧ Gh 11 = .int y_token ∧ IR 0 4 y_token ∧ Gh 12 = .int y_at ∧ IR 0 940 y_at ∧ Gh 13 = .int y_span ∧ IR 0 940 y_span ∧ Gh 14 = .int y_number ∧ Gh 18 = .long y_word ∧ (x_p.toInt ≤ y_p.toInt) ∧ ((1 ≤ y_token.toInt → y_token.toInt ≤ 3 → x_p.toInt < y_p.toInt)) ∧ ((y_token.toInt = 2 → 0 ≤ y_number.toInt ∧ y_number.toInt ≤ 999)) ∧ u = [(h0, .inr (10, vL 67 Gh)), (h_tape, .inl (cB, 940, .inl f_tape))]) (PO D A) A) [.ref h0].toArray s 0 0 A) (F0 m 248 ls []) := by
                    intro G1127 u1128 i1130 i1131 H locs ls hP hD hS hl
                    refine lv_aload_n hx hb dX10_next_248 rfl (lv_at hl 3 rfl) ?_
                    have n1132 : G1127 13 = .int u719 := (SAME.at i1130 (by decide) i762)
                    refine get_f (D := D) (ci := 10) (v := .int u719) (C := RX10) (T := TX10) (N := 67) hx hb hw inAX10 hown hK hP 0 rfl rfl 13 (by decide) (hw _ q_1274) (fun _ h9 => h9) n1132 dX10_next_249 ?_
                    refine lv_iconst (v := 3) hx hb dX10_next_252 (by decide) ?_
                    refine lv_icmp_ge (tgt := 275) hx hb dX10_next_253 (by decide) (fun c1133 => ?_) (fun c1133 => ?_)
                    · have dc1133 : 3 ≤ u719.toInt := le_i (a := 3) (b := u719.toInt) rfl rfl c1133
                      have k1134 : 3 ≤ u719.toInt ∧ u719.toInt ≤ 940 := ⟨Int.le_trans (Int.le_refl _) dc1133, i766.2⟩
                      refine lv_aload_n hx hb dX10_next_275 rfl (lv_at hl 3 rfl) ?_
                      refine lv_dup hx hb dX10_next_276 rfl ?_
                      refine get_f (D := D) (ci := 10) (v := .int u719) (C := RX10) (T := TX10) (N := 67) hx hb hw inAX10 hown hK hP 0 rfl rfl 13 (by decide) (hw _ q_1274) (fun _ h9 => h9) n1132 dX10_next_277 ?_
                      refine lv_iconst (v := 1) hx hb dX10_next_280 (by decide) ?_
                      refine lv_iadd hx hb dX10_next_281 ?_
                      refine lv_topi (fun v1135 ev1135 => ?_)
                      have bv1135 : v1135.toInt = u719.toInt + 1 := by rw [ev1135]; exact add_k rfl rfl k1134 ⟨Int.le_refl _, Int.le_refl _⟩ (by decide)
                      have k1136 : 4 ≤ v1135.toInt ∧ v1135.toInt ≤ 941 := add_r bv1135 k1134 ⟨Int.le_refl _, Int.le_refl _⟩ (by decide)
                      refine put_f (D := D) (ci := 10) (v := .int v1135) (ty := .int) (C := RX10) (T := TX10) (N := 67) hx hb hw inAX10 tyX10 tyX10_ok nmX10 hown hK hP hD hS 0 rfl rfl 13 (by decide) (hw _ q_1274) (fun _ h9 => h9) rfl (by decide +kernel) rfl rfl dX10_next_282 (fun H locs F1137 eF1137 hP hD hS => ?_)
                      have hP : va_P D vwCl [(h0, .inr (10, vL 67 F1137)), (h_tape, .inl (cB, 940, .inl f_tape))] H := hP
                      have hD : va_D A [(h0, .inr (10, vL 67 F1137)), (h_tape, .inl (cB, 940, .inl f_tape))] := hD
                      refine lv_aload_n hx hb dX10_next_285 rfl (lv_at hl 3 rfl) ?_
                      refine lv_dup hx hb dX10_next_286 rfl ?_
                      have n1138 : G1127 4 = .int u718 := (SAME.at i1130 (by decide) i761)
                      have n1139 : F1137 4 = .int u718 := (get_ne eF1137 (by decide) n1138)
                      refine get_f (D := D) (ci := 10) (v := .int u718) (C := RX10) (T := TX10) (N := 67) hx hb hw inAX10 hown hK hP 0 rfl rfl 4 (by decide) (hw _ q_1265) (fun _ h9 => h9) n1139 dX10_next_287 ?_
                      refine lv_iconst (v := 1) hx hb dX10_next_290 (by decide) ?_
                      refine lv_iadd hx hb dX10_next_291 ?_
                      refine lv_topi (fun v1140 ev1140 => ?_)
                      have bv1140 : v1140.toInt = u718.toInt + 1 := by rw [ev1140]; exact add_k rfl rfl k941 ⟨Int.le_refl _, Int.le_refl _⟩ (by decide)
                      have k1141 : 1 ≤ v1140.toInt ∧ v1140.toInt ≤ 940 := add_r bv1140 k941 ⟨Int.le_refl _, Int.le_refl _⟩ (by decide)
                      refine put_f (D := D) (ci := 10) (v := .int v1140) (ty := .int) (C := RX10) (T := TX10) (N := 67) hx hb hw inAX10 tyX10 tyX10_ok nmX10 hown hK hP hD hS 0 rfl rfl 4 (by decide) (hw _ q_1265) (fun _ h9 => h9) rfl (by decide +kernel) rfl rfl dX10_next_292 (fun H locs F1142 eF1142 hP hD hS => ?_)
                      have hP : va_P D vwCl [(h0, .inr (10, vL 67 F1142)), (h_tape, .inl (cB, 940, .inl f_tape))] H := hP
                      have hD : va_D A [(h0, .inr (10, vL 67 F1142)), (h_tape, .inl (cB, 940, .inl f_tape))] := hD
                      refine lv_goto (tgt := 181) hx hb dX10_next_295 (by decide) ?_
                      have n1143 : F1142 13 = .int v1135 := (get_ne eF1142 (by decide) (get_eq eF1137))
                      have n1144 : G1127 14 = .int u720 := (SAME.at i1130 (by decide) i763)
                      have n1145 : F1137 14 = .int u720 := (get_ne eF1137 (by decide) n1144)
                      have n1146 : F1142 14 = .int u720 := (get_ne eF1142 (by decide) n1145)
                      have n1147 : F1137 18 = .long u1128 := (get_ne eF1137 (by decide) i1131)
                      have n1148 : F1142 18 = .long u1128 := (get_ne eF1142 (by decide) n1147)
                      exact ih (u1123, F1142, v1140, v1135, u720, u1128) ⟨i1125, (SAME.up eF1142 (SAME.up eF1137 (SAME.tr (SAME.tr SAME.rf i760 (by decide)) i1130 (by decide)) (by decide)) (by decide)), (get_eq eF1142), n1143, n1146, n1148, (ir_wk k1141 (by decide) (by decide)), ⟨by omega, by omega⟩, (by show 0 ≤ v1135.toInt ∧ v1135.toInt ≤ v1140.toInt ∧ x_p.toInt + v1135.toInt ≤ v1140.toInt ∧ (v1135.toInt = 0 → v1140.toInt = u2.toInt); omega), (by show u1123.toInt = 1 → u710.toInt = 0 → (0 ≤ u720.toInt ∧ u720.toInt ≤ 999 ∧ (v1135.toInt = 0 → u720.toInt = 0) ∧ (v1135.toInt = 1 → u720.toInt ≤ 9) ∧ (v1135.toInt = 2 → u720.toInt ≤ 99)); omega), (by show (x_token.toInt = 2 → 0 ≤ u720.toInt ∧ u720.toInt ≤ 999); omega)⟩ (by show (x_size.toInt - v1140.toInt).toNat < (x_size.toInt - u718.toInt).toNat; omega) _ _ _ hP hD hS (lv_sub hl [0, 1, 2, 3] rfl)
                    · have dc1133 : u719.toInt < 3 := nle_i (a := 3) (b := u719.toInt) rfl rfl c1133
                      have k1149 : 0 ≤ u719.toInt ∧ u719.toInt ≤ 2 := ⟨i766.1, up_lt dc1133 (Int.le_refl _) (by decide)⟩
                      refine lv_aload_n hx hb dX10_next_256 rfl (lv_at hl 3 rfl) ?_
                      refine lv_bipush (v := 10) hx hb dX10_next_257 (by decide) ?_
                      refine lv_aload_n hx hb dX10_next_259 rfl (lv_at hl 3 rfl) ?_
                      have n1150 : G1127 14 = .int u720 := (SAME.at i1130 (by decide) i763)
                      refine get_f (D := D) (ci := 10) (v := .int u720) (C := RX10) (T := TX10) (N := 67) hx hb hw inAX10 hown hK hP 0 rfl rfl 14 (by decide) (hw _ q_1275) (fun _ h9 => h9) n1150 dX10_next_260 ?_
                      refine lv_imul hx hb dX10_next_263 ?_
                      refine lv_topi (fun v1151 ev1151 => ?_)
                      refine lv_aload_n hx hb dX10_next_264 rfl (lv_at hl 3 rfl) ?_
                      have n1152 : G1127 1 = .ref h_tape := (SAME.at i1130 (by decide) n772)
                      have n1153 : G1127 3 = .int x_size := (SAME.at i1130 (by decide) n775)
                      have n1154 : G1127 4 = .int u718 := (SAME.at i1130 (by decide) i761)
                      refine call_Vi (wr := []) (As := []) (rest := [.int v1151, .ref h0]) hx hb hml hown hw (m_X10_peek l D cI cJ cB cP cM cZ h0 h_tape G1127 x_size u718 f_tape _ n1152 n1153 (ir_wk k691 (by decide) (by decide)) n1154 (ir_wk k941 (by decide) (by decide))) wV_X10_169_X10_peek dX10_next_265 hK hP hD hS hA [0, 1] [] rfl rfl (by decide) (by decide) (by decide) 0 10 rfl rfl GG.fb hG.at hl.1 rfl (Nat.le_of_ble_eq_true rfl) ⟨(Nat.le_of_ble_eq_true rfl), (Nat.le_of_ble_eq_true rfl)⟩ ⟨(Nat.le_of_ble_eq_true rfl), (Nat.le_of_ble_eq_true rfl)⟩ (fun r1155 u H locs hp hP hD hS => ?_)
                      rcases hp with ⟨t1156, rfl, rfl⟩ | ⟨t1157, t1158, rfl, rfl⟩
                      · have hP : va_P D vwCl [(h0, .inr (10, vL 67 G1127)), (h_tape, .inl (cB, 940, .inl f_tape))] H := hP
                        have hD : va_D A [(h0, .inr (10, vL 67 G1127)), (h_tape, .inl (cB, 940, .inl f_tape))] := hD
                        refine W.widen (k := 0) (n := 0) (Nat.le_of_ble_eq_true rfl) (Nat.le_of_ble_eq_true rfl) ?_
                        have k1160 : 201 ≤ x_size.toInt ∧ x_size.toInt ≤ 939 := ⟨k691.1, Int.le_trans t1156 k941.2⟩
                        have k1161 : 201 ≤ u718.toInt ∧ u718.toInt ≤ 939 := ⟨Int.le_trans k691.1 t1156, k941.2⟩
                        refine lv_iadd hx hb dX10_next_268 ?_
                        refine lv_topi (fun v1162 ev1162 => ?_)
                        refine lv_bipush (v := 48) hx hb dX10_next_269 (by decide) ?_
                        refine lv_isub hx hb dX10_next_271 ?_
                        refine lv_topi (fun v1163 ev1163 => ?_)
                        refine put_f (D := D) (ci := 10) (v := .int v1163) (ty := .int) (C := RX10) (T := TX10) (N := 67) hx hb hw inAX10 tyX10 tyX10_ok nmX10 hown hK hP hD hS 0 rfl rfl 14 (by decide) (hw _ q_1275) (fun _ h9 => h9) rfl (by decide +kernel) rfl rfl dX10_next_272 (fun H locs F1164 eF1164 hP hD hS => ?_)
                        have hP : va_P D vwCl [(h0, .inr (10, vL 67 F1164)), (h_tape, .inl (cB, 940, .inl f_tape))] H := hP
                        have hD : va_D A [(h0, .inr (10, vL 67 F1164)), (h_tape, .inl (cB, 940, .inl f_tape))] := hD
                        refine lv_aload_n hx hb dX10_next_275 rfl (lv_at hl 3 rfl) ?_
                        refine lv_dup hx hb dX10_next_276 rfl ?_
                        have n1165 : F1164 13 = .int u719 := (get_ne eF1164 (by decide) n1132)
                        refine get_f (D := D) (ci := 10) (v := .int u719) (C := RX10) (T := TX10) (N := 67) hx hb hw inAX10 hown hK hP 0 rfl rfl 13 (by decide) (hw _ q_1274) (fun _ h9 => h9) n1165 dX10_next_277 ?_
                        refine lv_iconst (v := 1) hx hb dX10_next_280 (by decide) ?_
                        refine lv_iadd hx hb dX10_next_281 ?_
                        refine lv_topi (fun v1166 ev1166 => ?_)
                        have bv1166 : v1166.toInt = u719.toInt + 1 := by rw [ev1166]; exact add_k rfl rfl k1149 ⟨Int.le_refl _, Int.le_refl _⟩ (by decide)
                        have k1167 : 1 ≤ v1166.toInt ∧ v1166.toInt ≤ 3 := add_r bv1166 k1149 ⟨Int.le_refl _, Int.le_refl _⟩ (by decide)
                        refine put_f (D := D) (ci := 10) (v := .int v1166) (ty := .int) (C := RX10) (T := TX10) (N := 67) hx hb hw inAX10 tyX10 tyX10_ok nmX10 hown hK hP hD hS 0 rfl rfl 13 (by decide) (hw _ q_1274) (fun _ h9 => h9) rfl (by decide +kernel) rfl rfl dX10_next_282 (fun H locs F1168 eF1168 hP hD hS => ?_)
                        have hP : va_P D vwCl [(h0, .inr (10, vL 67 F1168)), (h_tape, .inl (cB, 940, .inl f_tape))] H := hP
                        have hD : va_D A [(h0, .inr (10, vL 67 F1168)), (h_tape, .inl (cB, 940, .inl f_tape))] := hD
                        refine lv_aload_n hx hb dX10_next_285 rfl (lv_at hl 3 rfl) ?_
                        refine lv_dup hx hb dX10_next_286 rfl ?_
                        have n1169 : F1164 4 = .int u718 := (get_ne eF1164 (by decide) n1154)
                        have n1170 : F1168 4 = .int u718 := (get_ne eF1168 (by decide) n1169)
                        refine get_f (D := D) (ci := 10) (v := .int u718) (C := RX10) (T := TX10) (N := 67) hx hb hw inAX10 hown hK hP 0 rfl rfl 4 (by decide) (hw _ q_1265) (fun _ h9 => h9) n1170 dX10_next_287 ?_
                        refine lv_iconst (v := 1) hx hb dX10_next_290 (by decide) ?_
                        refine lv_iadd hx hb dX10_next_291 ?_
                        refine lv_topi (fun v1171 ev1171 => ?_)
                        have bv1171 : v1171.toInt = u718.toInt + 1 := by rw [ev1171]; exact add_k rfl rfl k1161 ⟨Int.le_refl _, Int.le_refl _⟩ (by decide)
                        have k1172 : 202 ≤ v1171.toInt ∧ v1171.toInt ≤ 940 := add_r bv1171 k1161 ⟨Int.le_refl _, Int.le_refl _⟩ (by decide)
                        refine put_f (D := D) (ci := 10) (v := .int v1171) (ty := .int) (C := RX10) (T := TX10) (N := 67) hx hb hw inAX10 tyX10 tyX10_ok nmX10 hown hK hP hD hS 0 rfl rfl 4 (by decide) (hw _ q_1265) (fun _ h9 => h9) rfl (by decide +kernel) rfl rfl dX10_next_292 (fun H locs F1173 eF1173 hP hD hS => ?_)
                        have hP : va_P D vwCl [(h0, .inr (10, vL 67 F1173)), (h_tape, .inl (cB, 940, .inl f_tape))] H := hP
                        have hD : va_D A [(h0, .inr (10, vL 67 F1173)), (h_tape, .inl (cB, 940, .inl f_tape))] := hD
                        refine lv_goto (tgt := 181) hx hb dX10_next_295 (by decide) ?_
                        have n1174 : F1173 13 = .int v1166 := (get_ne eF1173 (by decide) (get_eq eF1168))
                        have n1175 : F1168 14 = .int v1163 := (get_ne eF1168 (by decide) (get_eq eF1164))
                        have n1176 : F1173 14 = .int v1163 := (get_ne eF1173 (by decide) n1175)
                        have n1177 : F1164 18 = .long u1128 := (get_ne eF1164 (by decide) i1131)
                        have n1178 : F1168 18 = .long u1128 := (get_ne eF1168 (by decide) n1177)
                        have n1179 : F1173 18 = .long u1128 := (get_ne eF1173 (by decide) n1178)
                        exact ih (u1123, F1173, v1171, v1166, v1163, u1128) ⟨i1125, (SAME.up eF1173 (SAME.up eF1168 (SAME.up eF1164 (SAME.tr (SAME.tr SAME.rf i760 (by decide)) i1130 (by decide)) (by decide)) (by decide)) (by decide)), (get_eq eF1173), n1174, n1176, n1179, (ir_wk k1172 (by decide) (by decide)), (ir_wk k1167 (by decide) (by decide)), (by show 0 ≤ v1166.toInt ∧ v1166.toInt ≤ v1171.toInt ∧ x_p.toInt + v1166.toInt ≤ v1171.toInt ∧ (v1166.toInt = 0 → v1171.toInt = u2.toInt); omega), (by show u1123.toInt = 1 → u710.toInt = 0 → (0 ≤ v1163.toInt ∧ v1163.toInt ≤ 999 ∧ (v1166.toInt = 0 → v1163.toInt = 0) ∧ (v1166.toInt = 1 → v1163.toInt ≤ 9) ∧ (v1166.toInt = 2 → v1163.toInt ≤ 99)); omega), (by show (x_token.toInt = 2 → 0 ≤ v1163.toInt ∧ v1163.toInt ≤ 999); omega)⟩ (by show (x_size.toInt - v1171.toInt).toNat < (x_size.toInt - u718.toInt).toNat; omega) _ _ _ hP hD hS (lv_sub hl [0, 1, 2, 3] rfl)
                      · have hP : va_P D vwCl [(h0, .inr (10, vL 67 G1127)), (h_tape, .inl (cB, 940, .inl f_tape))] H := hP
                        have hD : va_D A [(h0, .inr (10, vL 67 G1127)), (h_tape, .inl (cB, 940, .inl f_tape))] := hD
                        refine W.widen (k := 0) (n := 0) (Nat.le_of_ble_eq_true rfl) (Nat.le_of_ble_eq_true rfl) ?_
                        refine lv_ci (y := v939) ev939.symm ?_
                        refine lv_iadd hx hb dX10_next_268 ?_
                        refine lv_topi (fun v1180 ev1180 => ?_)
                        refine lv_bipush (v := 48) hx hb dX10_next_269 (by decide) ?_
                        refine lv_isub hx hb dX10_next_271 ?_
                        refine lv_topi (fun v1181 ev1181 => ?_)
                        refine put_f (D := D) (ci := 10) (v := .int v1181) (ty := .int) (C := RX10) (T := TX10) (N := 67) hx hb hw inAX10 tyX10 tyX10_ok nmX10 hown hK hP hD hS 0 rfl rfl 14 (by decide) (hw _ q_1275) (fun _ h9 => h9) rfl (by decide +kernel) rfl rfl dX10_next_272 (fun H locs F1182 eF1182 hP hD hS => ?_)
                        have hP : va_P D vwCl [(h0, .inr (10, vL 67 F1182)), (h_tape, .inl (cB, 940, .inl f_tape))] H := hP
                        have hD : va_D A [(h0, .inr (10, vL 67 F1182)), (h_tape, .inl (cB, 940, .inl f_tape))] := hD
                        refine lv_aload_n hx hb dX10_next_275 rfl (lv_at hl 3 rfl) ?_
                        refine lv_dup hx hb dX10_next_276 rfl ?_
                        have n1183 : F1182 13 = .int u719 := (get_ne eF1182 (by decide) n1132)
                        refine get_f (D := D) (ci := 10) (v := .int u719) (C := RX10) (T := TX10) (N := 67) hx hb hw inAX10 hown hK hP 0 rfl rfl 13 (by decide) (hw _ q_1274) (fun _ h9 => h9) n1183 dX10_next_277 ?_
                        refine lv_iconst (v := 1) hx hb dX10_next_280 (by decide) ?_
                        refine lv_iadd hx hb dX10_next_281 ?_
                        refine lv_topi (fun v1184 ev1184 => ?_)
                        have bv1184 : v1184.toInt = u719.toInt + 1 := by rw [ev1184]; exact add_k rfl rfl k1149 ⟨Int.le_refl _, Int.le_refl _⟩ (by decide)
                        have k1185 : 1 ≤ v1184.toInt ∧ v1184.toInt ≤ 3 := add_r bv1184 k1149 ⟨Int.le_refl _, Int.le_refl _⟩ (by decide)
                        refine put_f (D := D) (ci := 10) (v := .int v1184) (ty := .int) (C := RX10) (T := TX10) (N := 67) hx hb hw inAX10 tyX10 tyX10_ok nmX10 hown hK hP hD hS 0 rfl rfl 13 (by decide) (hw _ q_1274) (fun _ h9 => h9) rfl (by decide +kernel) rfl rfl dX10_next_282 (fun H locs F1186 eF1186 hP hD hS => ?_)
                        have hP : va_P D vwCl [(h0, .inr (10, vL 67 F1186)), (h_tape, .inl (cB, 940, .inl f_tape))] H := hP
                        have hD : va_D A [(h0, .inr (10, vL 67 F1186)), (h_tape, .inl (cB, 940, .inl f_tape))] := hD
                        refine lv_aload_n hx hb dX10_next_285 rfl (lv_at hl 3 rfl) ?_
                        refine lv_dup hx hb dX10_next_286 rfl ?_
                        have n1187 : F1182 4 = .int u718 := (get_ne eF1182 (by decide) n1154)
                        have n1188 : F1186 4 = .int u718 := (get_ne eF1186 (by decide) n1187)
                        refine get_f (D := D) (ci := 10) (v := .int u718) (C := RX10) (T := TX10) (N := 67) hx hb hw inAX10 hown hK hP 0 rfl rfl 4 (by decide) (hw _ q_1265) (fun _ h9 => h9) n1188 dX10_next_287 ?_
                        refine lv_iconst (v := 1) hx hb dX10_next_290 (by decide) ?_
                        refine lv_iadd hx hb dX10_next_291 ?_
                        refine lv_topi (fun v1189 ev1189 => ?_)
                        have bv1189 : v1189.toInt = u718.toInt + 1 := by rw [ev1189]; exact add_k rfl rfl k941 ⟨Int.le_refl _, Int.le_refl _⟩ (by decide)
                        have k1190 : 1 ≤ v1189.toInt ∧ v1189.toInt ≤ 940 := add_r bv1189 k941 ⟨Int.le_refl _, Int.le_refl _⟩ (by decide)
                        refine put_f (D := D) (ci := 10) (v := .int v1189) (ty := .int) (C := RX10) (T := TX10) (N := 67) hx hb hw inAX10 tyX10 tyX10_ok nmX10 hown hK hP hD hS 0 rfl rfl 4 (by decide) (hw _ q_1265) (fun _ h9 => h9) rfl (by decide +kernel) rfl rfl dX10_next_292 (fun H locs F1191 eF1191 hP hD hS => ?_)
                        have hP : va_P D vwCl [(h0, .inr (10, vL 67 F1191)), (h_tape, .inl (cB, 940, .inl f_tape))] H := hP
                        have hD : va_D A [(h0, .inr (10, vL 67 F1191)), (h_tape, .inl (cB, 940, .inl f_tape))] := hD
                        refine lv_goto (tgt := 181) hx hb dX10_next_295 (by decide) ?_
                        have n1192 : F1191 13 = .int v1184 := (get_ne eF1191 (by decide) (get_eq eF1186))
                        have n1193 : F1186 14 = .int v1181 := (get_ne eF1186 (by decide) (get_eq eF1182))
                        have n1194 : F1191 14 = .int v1181 := (get_ne eF1191 (by decide) n1193)
                        have n1195 : F1182 18 = .long u1128 := (get_ne eF1182 (by decide) i1131)
                        have n1196 : F1186 18 = .long u1128 := (get_ne eF1186 (by decide) n1195)
                        have n1197 : F1191 18 = .long u1128 := (get_ne eF1191 (by decide) n1196)
                        exact ih (u1123, F1191, v1189, v1184, v1181, u1128) ⟨i1125, (SAME.up eF1191 (SAME.up eF1186 (SAME.up eF1182 (SAME.tr (SAME.tr SAME.rf i760 (by decide)) i1130 (by decide)) (by decide)) (by decide)) (by decide)), (get_eq eF1191), n1192, n1194, n1197, (ir_wk k1190 (by decide) (by decide)), (ir_wk k1185 (by decide) (by decide)), (by show 0 ≤ v1184.toInt ∧ v1184.toInt ≤ v1189.toInt ∧ x_p.toInt + v1184.toInt ≤ v1189.toInt ∧ (v1184.toInt = 0 → v1189.toInt = u2.toInt); omega), (by show u1123.toInt = 1 → u710.toInt = 0 → (0 ≤ v1181.toInt ∧ v1181.toInt ≤ 999 ∧ (v1184.toInt = 0 → v1181.toInt = 0) ∧ (v1184.toInt = 1 → v1181.toInt ≤ 9) ∧ (v1184.toInt = 2 → v1181.toInt ≤ 99)); omega), (by show (x_token.toInt = 2 → 0 ≤ v1181.toInt ∧ v1181.toInt ≤ 999); omega)⟩ (by show (x_size.toInt - v1189.toInt).toNat < (x_size.toInt - u718.toInt).toNat; omega) _ _ _ hP hD hS (lv_sub hl [0, 1, 2, 3] rfl)
                  refine lv_aload_n hx hb dX10_next_222 rfl (lv_at hl 3 rfl) ?_
                  refine get_f (D := D) (ci := 10) (v := .int u719) (C := RX10) (T := TX10) (N := 67) hx hb hw inAX10 hown hK hP 0 rfl rfl 13 (by decide) (hw _ q_1274) (fun _ h9 => h9) i762 dX10_next_223 ?_
                  refine lv_bipush (v := 7) hx hb dX10_next_226 (by decide) ?_
                  refine lv_icmp_ge (tgt := 248) hx hb dX10_next_228 (by decide) (fun c1198 => ?_) (fun c1198 => ?_)
                  · have dc1198 : 7 ≤ u719.toInt := le_i (a := 7) (b := u719.toInt) rfl rfl c1198
                    have k1199 : 7 ≤ u719.toInt ∧ u719.toInt ≤ 940 := ⟨Int.le_trans (Int.le_refl _) dc1198, i766.2⟩
                    exact cut1129 G717 u721 SAME.rf i764 _ _ _ hP hD hS (lv_sub hl [0, 1, 2, 3] rfl)
                  · have dc1198 : u719.toInt < 7 := nle_i (a := 7) (b := u719.toInt) rfl rfl c1198
                    have k1200 : 0 ≤ u719.toInt ∧ u719.toInt ≤ 6 := ⟨i766.1, up_lt dc1198 (Int.le_refl _) (by decide)⟩
                    refine lv_aload_n hx hb dX10_next_231 rfl (lv_at hl 3 rfl) ?_
                    refine lv_aload_n hx hb dX10_next_232 rfl (lv_at hl 3 rfl) ?_
                    refine get_f (D := D) (ci := 10) (v := .long u721) (C := RX10) (T := TX10) (N := 67) hx hb hw inAX10 hown hK hP 0 rfl rfl 18 (by decide) (hw _ q_1279) (fun _ h9 => h9) i764 dX10_next_233 ?_
                    refine lv_bipush (v := 8) hx hb dX10_next_236 (by decide) ?_
                    obtain ⟨v1201, ev1201⟩ : ∃ z : Int64, (u721 : Int64) <<< ((8 : Int32).toInt64 &&& 63) = z := ⟨_, rfl⟩
                    refine lv_lshl (v := v1201) hx hb dX10_next_238 ev1201 ?_
                    refine lv_aload_n hx hb dX10_next_239 rfl (lv_at hl 3 rfl) ?_
                    refine call_Vi (wr := []) (As := []) (rest := [.long v1201, .ref h0]) hx hb hml hown hw (m_X10_peek l D cI cJ cB cP cM cZ h0 h_tape G717 x_size u718 f_tape _ n772 n775 (ir_wk k691 (by decide) (by decide)) i761 (ir_wk k941 (by decide) (by decide))) wV_X10_169_X10_peek dX10_next_240 hK hP hD hS hA [0, 1] [] rfl rfl (by decide) (by decide) (by decide) 0 10 rfl rfl GG.fb hG.at hl.1 rfl (Nat.le_of_ble_eq_true rfl) ⟨(Nat.le_of_ble_eq_true rfl), (Nat.le_of_ble_eq_true rfl)⟩ ⟨(Nat.le_of_ble_eq_true rfl), (Nat.le_of_ble_eq_true rfl)⟩ (fun r1202 u H locs hp hP hD hS => ?_)
                    rcases hp with ⟨t1203, rfl, rfl⟩ | ⟨t1204, t1205, rfl, rfl⟩
                    · have hP : va_P D vwCl [(h0, .inr (10, vL 67 G717)), (h_tape, .inl (cB, 940, .inl f_tape))] H := hP
                      have hD : va_D A [(h0, .inr (10, vL 67 G717)), (h_tape, .inl (cB, 940, .inl f_tape))] := hD
                      refine W.widen (k := 0) (n := 0) (Nat.le_of_ble_eq_true rfl) (Nat.le_of_ble_eq_true rfl) ?_
                      have k1207 : 201 ≤ x_size.toInt ∧ x_size.toInt ≤ 939 := ⟨k691.1, Int.le_trans t1203 k941.2⟩
                      have k1208 : 201 ≤ u718.toInt ∧ u718.toInt ≤ 939 := ⟨Int.le_trans k691.1 t1203, k941.2⟩
                      obtain ⟨v1209, ev1209⟩ : ∃ z : Int64, ((-1) : Int32).toInt64 = z := ⟨_, rfl⟩
                      refine lv_i2l (v := v1209) hx hb dX10_next_243 ev1209 ?_
                      refine lv_lor hx hb dX10_next_244 ?_
                      refine lv_topl (fun v1210 ev1210 => ?_)
                      refine put_f (D := D) (ci := 10) (v := .long v1210) (ty := .long) (C := RX10) (T := TX10) (N := 67) hx hb hw inAX10 tyX10 tyX10_ok nmX10 hown hK hP hD hS 0 rfl rfl 18 (by decide) (hw _ q_1279) (fun _ h9 => h9) rfl (by decide +kernel) rfl rfl dX10_next_245 (fun H locs F1211 eF1211 hP hD hS => ?_)
                      have hP : va_P D vwCl [(h0, .inr (10, vL 67 F1211)), (h_tape, .inl (cB, 940, .inl f_tape))] H := hP
                      have hD : va_D A [(h0, .inr (10, vL 67 F1211)), (h_tape, .inl (cB, 940, .inl f_tape))] := hD
                      exact cut1129 F1211 v1210 (SAME.up eF1211 SAME.rf (by decide)) (get_eq eF1211) _ _ _ hP hD hS (lv_sub hl [0, 1, 2, 3] rfl)
                    · have hP : va_P D vwCl [(h0, .inr (10, vL 67 G717)), (h_tape, .inl (cB, 940, .inl f_tape))] H := hP
                      have hD : va_D A [(h0, .inr (10, vL 67 G717)), (h_tape, .inl (cB, 940, .inl f_tape))] := hD
                      refine W.widen (k := 0) (n := 0) (Nat.le_of_ble_eq_true rfl) (Nat.le_of_ble_eq_true rfl) ?_
                      refine lv_ci (y := v939) ev939.symm ?_
                      obtain ⟨v1212, ev1212⟩ : ∃ z : Int64, (v939 : Int32).toInt64 = z := ⟨_, rfl⟩
                      refine lv_i2l (v := v1212) hx hb dX10_next_243 ev1212 ?_
                      refine lv_lor hx hb dX10_next_244 ?_
                      refine lv_topl (fun v1213 ev1213 => ?_)
                      refine put_f (D := D) (ci := 10) (v := .long v1213) (ty := .long) (C := RX10) (T := TX10) (N := 67) hx hb hw inAX10 tyX10 tyX10_ok nmX10 hown hK hP hD hS 0 rfl rfl 18 (by decide) (hw _ q_1279) (fun _ h9 => h9) rfl (by decide +kernel) rfl rfl dX10_next_245 (fun H locs F1214 eF1214 hP hD hS => ?_)
                      have hP : va_P D vwCl [(h0, .inr (10, vL 67 F1214)), (h_tape, .inl (cB, 940, .inl f_tape))] H := hP
                      have hD : va_D A [(h0, .inr (10, vL 67 F1214)), (h_tape, .inl (cB, 940, .inl f_tape))] := hD
                      exact cut1129 F1214 v1213 (SAME.up eF1214 SAME.rf (by decide)) (get_eq eF1214) _ _ _ hP hD hS (lv_sub hl [0, 1, 2, 3] rfl)
                refine lv_iload_n hx hb dX10_next_201 rfl (lv_at hl 0 rfl) ?_
                refine lv_if_eq (tgt := 220) hx hb dX10_next_202 (by decide) (fun c1215 => ?_) (fun c1215 => ?_)
                · have dc1215 : u716.toInt = 0 := eq_i (a := u716.toInt) (b := 0) rfl rfl c1215
                  have k1216 : 0 ≤ u716.toInt ∧ u716.toInt ≤ 0 := ⟨i759.1, Int.le_trans (Int.le_of_eq dc1215) (Int.le_refl _)⟩
                  refine lv_iconst (v := 0) hx hb dX10_next_220 (by decide) ?_
                  refine lv_istore_n (lv' := [(3, .int 0), (2, .int u710), (1, .int v707), (0, .ref h0)]) hx hb dX10_next_221 rfl hl (by decide) rfl (fun ls hl => ?_)
                  exact cut1124 0 (show 0 ≤ (0 : Int32).toInt ∧ (0 : Int32).toInt ≤ 1 by decide) (by show (0 = 1 → u710.toInt = 0 → (48 ≤ v939.toInt ∧ v939.toInt ≤ 57 ∧ 0 ≤ u720.toInt ∧ u720.toInt ≤ 999 ∧ (u719.toInt = 0 → u720.toInt = 0) ∧ (u719.toInt = 1 → u720.toInt ≤ 9) ∧ (u719.toInt = 2 → u720.toInt ≤ 99))); omega) _ _ _ hP hD hS (lv_sub hl [0, 1, 2, 3] rfl)
                · have dc1215 : u716.toInt ≠ 0 := ne_i (a := u716.toInt) (b := 0) rfl rfl c1215
                  have k1217 : 1 ≤ u716.toInt ∧ u716.toInt ≤ 1 := ⟨ne_lo dc1215 i759.1 ⟨Int.le_refl _, Int.le_refl _⟩ (by decide), i759.2⟩
                  refine lv_aload_n hx hb dX10_next_205 rfl (lv_at hl 3 rfl) ?_
                  refine call_Vi (wr := []) (As := []) (rest := []) hx hb hml hown hw (m_X10_peek l D cI cJ cB cP cM cZ h0 h_tape G717 x_size u718 f_tape _ n772 n775 (ir_wk k691 (by decide) (by decide)) i761 (ir_wk k941 (by decide) (by decide))) wV_X10_169_X10_peek dX10_next_206 hK hP hD hS hA [0, 1] [] rfl rfl (by decide) (by decide) (by decide) 0 10 rfl rfl GG.fb hG.at hl.1 rfl (Nat.le_of_ble_eq_true rfl) ⟨(Nat.le_of_ble_eq_true rfl), (Nat.le_of_ble_eq_true rfl)⟩ ⟨(Nat.le_of_ble_eq_true rfl), (Nat.le_of_ble_eq_true rfl)⟩ (fun r1218 u H locs hp hP hD hS => ?_)
                  rcases hp with ⟨t1219, rfl, rfl⟩ | ⟨t1220, t1221, rfl, rfl⟩
                  · have hP : va_P D vwCl [(h0, .inr (10, vL 67 G717)), (h_tape, .inl (cB, 940, .inl f_tape))] H := hP
                    have hD : va_D A [(h0, .inr (10, vL 67 G717)), (h_tape, .inl (cB, 940, .inl f_tape))] := hD
                    refine W.widen (k := 0) (n := 0) (Nat.le_of_ble_eq_true rfl) (Nat.le_of_ble_eq_true rfl) ?_
                    have k1223 : 201 ≤ x_size.toInt ∧ x_size.toInt ≤ 939 := ⟨k691.1, Int.le_trans t1219 k941.2⟩
                    have k1224 : 201 ≤ u718.toInt ∧ u718.toInt ≤ 939 := ⟨Int.le_trans k691.1 t1219, k941.2⟩
                    refine call_Si (wr := [(h0, .inr (10, vL 67 G717)), (h_tape, .inl (cB, 940, .inl f_tape))]) (As := [.int (-1)]) (rest := []) hx hb hml hown hw (m_X10_isSmall l D cI cJ cB cP cM cZ (-1) _ ) wS_X10_182_X10_isSmall dX10_next_209 hP hD hS hA [] [0, 1] rfl rfl (by decide) (by decide) (by decide) GG.fb hG.at hl.1 rfl (Nat.le_of_ble_eq_true rfl) ⟨(Nat.le_of_ble_eq_true rfl), (Nat.le_of_ble_eq_true rfl)⟩ ⟨(Nat.le_of_ble_eq_true rfl), (Nat.le_of_ble_eq_true rfl)⟩ (fun r1225 u H locs hp hP hD hS => ?_)
                    have zlm1 : ((-1) : Int32).toInt = (-1) := by decide
                    rcases hp with ⟨t1226, rfl, rfl⟩ | ⟨t1227, t1228, rfl, rfl⟩ | ⟨t1229, t1230, rfl, rfl⟩
                    · have hP : va_P D vwCl [(h0, .inr (10, vL 67 G717)), (h_tape, .inl (cB, 940, .inl f_tape))] H := hP
                      have hD : va_D A [(h0, .inr (10, vL 67 G717)), (h_tape, .inl (cB, 940, .inl f_tape))] := hD
                      refine W.widen (k := 0) (n := 0) (Nat.le_of_ble_eq_true rfl) (Nat.le_of_ble_eq_true rfl) ?_
                      refine lv_iload_n hx hb dX10_next_212 rfl (lv_at hl 1 rfl) ?_
                      refine lv_icmp_ne (tgt := 220) hx hb dX10_next_213 (by decide) (fun c1232 => ?_) (fun c1232 => ?_)
                      · have dc1232 : 0 ≠ u710.toInt := ne_i (a := 0) (b := u710.toInt) rfl rfl c1232
                        have k1233 : 1 ≤ u710.toInt ∧ u710.toInt ≤ 1 := ⟨ne_lo dc1232.symm i712.1 ⟨Int.le_refl _, Int.le_refl _⟩ (by decide), i712.2⟩
                        refine lv_iconst (v := 0) hx hb dX10_next_220 (by decide) ?_
                        refine lv_istore_n (lv' := [(3, .int 0), (2, .int u710), (1, .int v707), (0, .ref h0)]) hx hb dX10_next_221 rfl hl (by decide) rfl (fun ls hl => ?_)
                        exact cut1124 0 (show 0 ≤ (0 : Int32).toInt ∧ (0 : Int32).toInt ≤ 1 by decide) (by show (0 = 1 → u710.toInt = 0 → (48 ≤ v939.toInt ∧ v939.toInt ≤ 57 ∧ 0 ≤ u720.toInt ∧ u720.toInt ≤ 999 ∧ (u719.toInt = 0 → u720.toInt = 0) ∧ (u719.toInt = 1 → u720.toInt ≤ 9) ∧ (u719.toInt = 2 → u720.toInt ≤ 99))); omega) _ _ _ hP hD hS (lv_sub hl [0, 1, 2, 3] rfl)
                      · have dc1232 : 0 = u710.toInt := eq_i (a := 0) (b := u710.toInt) rfl rfl c1232
                        have k1234 : 0 ≤ u710.toInt ∧ u710.toInt ≤ 0 := ⟨i712.1, Int.le_trans (Int.le_of_eq dc1232.symm) (Int.le_refl _)⟩
                        refine lv_iconst (v := 1) hx hb dX10_next_216 (by decide) ?_
                        refine lv_goto (tgt := 221) hx hb dX10_next_217 (by decide) ?_
                        refine lv_istore_n (lv' := [(3, .int 1), (2, .int u710), (1, .int v707), (0, .ref h0)]) hx hb dX10_next_221 rfl hl (by decide) rfl (fun ls hl => ?_)
                        exact cut1124 1 (show 0 ≤ (1 : Int32).toInt ∧ (1 : Int32).toInt ≤ 1 by decide) (by show (1 = 1 → u710.toInt = 0 → (48 ≤ v939.toInt ∧ v939.toInt ≤ 57 ∧ 0 ≤ u720.toInt ∧ u720.toInt ≤ 999 ∧ (u719.toInt = 0 → u720.toInt = 0) ∧ (u719.toInt = 1 → u720.toInt ≤ 9) ∧ (u719.toInt = 2 → u720.toInt ≤ 99))); omega) _ _ _ hP hD hS (lv_sub hl [0, 1, 2, 3] rfl)
                    · have hP : va_P D vwCl [(h0, .inr (10, vL 67 G717)), (h_tape, .inl (cB, 940, .inl f_tape))] H := hP
                      have hD : va_D A [(h0, .inr (10, vL 67 G717)), (h_tape, .inl (cB, 940, .inl f_tape))] := hD
                      refine W.widen (k := 0) (n := 0) (Nat.le_of_ble_eq_true rfl) (Nat.le_of_ble_eq_true rfl) ?_
                      exact absurd t1227 (by decide)
                    · have hP : va_P D vwCl [(h0, .inr (10, vL 67 G717)), (h_tape, .inl (cB, 940, .inl f_tape))] H := hP
                      have hD : va_D A [(h0, .inr (10, vL 67 G717)), (h_tape, .inl (cB, 940, .inl f_tape))] := hD
                      refine W.widen (k := 0) (n := 0) (Nat.le_of_ble_eq_true rfl) (Nat.le_of_ble_eq_true rfl) ?_
                      exact absurd t1229 (by decide)
                  · have hP : va_P D vwCl [(h0, .inr (10, vL 67 G717)), (h_tape, .inl (cB, 940, .inl f_tape))] H := hP
                    have hD : va_D A [(h0, .inr (10, vL 67 G717)), (h_tape, .inl (cB, 940, .inl f_tape))] := hD
                    refine W.widen (k := 0) (n := 0) (Nat.le_of_ble_eq_true rfl) (Nat.le_of_ble_eq_true rfl) ?_
                    refine lv_ci (y := v939) ev939.symm ?_
                    refine call_Si (wr := [(h0, .inr (10, vL 67 G717)), (h_tape, .inl (cB, 940, .inl f_tape))]) (As := [.int v939]) (rest := []) hx hb hml hown hw (m_X10_isSmall l D cI cJ cB cP cM cZ v939 _ ) wS_X10_182_X10_isSmall dX10_next_209 hP hD hS hA [] [0, 1] rfl rfl (by decide) (by decide) (by decide) GG.fb hG.at hl.1 rfl (Nat.le_of_ble_eq_true rfl) ⟨(Nat.le_of_ble_eq_true rfl), (Nat.le_of_ble_eq_true rfl)⟩ ⟨(Nat.le_of_ble_eq_true rfl), (Nat.le_of_ble_eq_true rfl)⟩ (fun r1235 u H locs hp hP hD hS => ?_)
                    rcases hp with ⟨t1236, rfl, rfl⟩ | ⟨t1237, t1238, rfl, rfl⟩ | ⟨t1239, t1240, rfl, rfl⟩
                    · have hP : va_P D vwCl [(h0, .inr (10, vL 67 G717)), (h_tape, .inl (cB, 940, .inl f_tape))] H := hP
                      have hD : va_D A [(h0, .inr (10, vL 67 G717)), (h_tape, .inl (cB, 940, .inl f_tape))] := hD
                      refine W.widen (k := 0) (n := 0) (Nat.le_of_ble_eq_true rfl) (Nat.le_of_ble_eq_true rfl) ?_
                      exact False.elim (bad_lt t1236 k1122.1 (Int.le_refl _) (by decide))
                    · have hP : va_P D vwCl [(h0, .inr (10, vL 67 G717)), (h_tape, .inl (cB, 940, .inl f_tape))] H := hP
                      have hD : va_D A [(h0, .inr (10, vL 67 G717)), (h_tape, .inl (cB, 940, .inl f_tape))] := hD
                      refine W.widen (k := 0) (n := 0) (Nat.le_of_ble_eq_true rfl) (Nat.le_of_ble_eq_true rfl) ?_
                      exact False.elim (bad_lt t1238 (Int.le_refl _) k1122.2 (by decide))
                    · have hP : va_P D vwCl [(h0, .inr (10, vL 67 G717)), (h_tape, .inl (cB, 940, .inl f_tape))] H := hP
                      have hD : va_D A [(h0, .inr (10, vL 67 G717)), (h_tape, .inl (cB, 940, .inl f_tape))] := hD
                      refine W.widen (k := 0) (n := 0) (Nat.le_of_ble_eq_true rfl) (Nat.le_of_ble_eq_true rfl) ?_
                      refine lv_iload_n hx hb dX10_next_212 rfl (lv_at hl 1 rfl) ?_
                      refine lv_icmp_ne (tgt := 220) hx hb dX10_next_213 (by decide) (fun c1242 => ?_) (fun c1242 => ?_)
                      · have dc1242 : 1 ≠ u710.toInt := ne_i (a := 1) (b := u710.toInt) rfl rfl c1242
                        have k1243 : 0 ≤ u710.toInt ∧ u710.toInt ≤ 0 := ⟨i712.1, ne_hi dc1242.symm i712.2 ⟨Int.le_refl _, Int.le_refl _⟩ (by decide)⟩
                        refine lv_iconst (v := 0) hx hb dX10_next_220 (by decide) ?_
                        refine lv_istore_n (lv' := [(3, .int 0), (2, .int u710), (1, .int v707), (0, .ref h0)]) hx hb dX10_next_221 rfl hl (by decide) rfl (fun ls hl => ?_)
                        exact cut1124 0 (show 0 ≤ (0 : Int32).toInt ∧ (0 : Int32).toInt ≤ 1 by decide) (by show (0 = 1 → u710.toInt = 0 → (48 ≤ v939.toInt ∧ v939.toInt ≤ 57 ∧ 0 ≤ u720.toInt ∧ u720.toInt ≤ 999 ∧ (u719.toInt = 0 → u720.toInt = 0) ∧ (u719.toInt = 1 → u720.toInt ≤ 9) ∧ (u719.toInt = 2 → u720.toInt ≤ 99))); omega) _ _ _ hP hD hS (lv_sub hl [0, 1, 2, 3] rfl)
                      · have dc1242 : 1 = u710.toInt := eq_i (a := 1) (b := u710.toInt) rfl rfl c1242
                        have k1244 : 1 ≤ u710.toInt ∧ u710.toInt ≤ 1 := ⟨Int.le_trans (Int.le_refl _) (Int.le_of_eq dc1242.symm.symm), i712.2⟩
                        refine lv_iconst (v := 1) hx hb dX10_next_216 (by decide) ?_
                        refine lv_goto (tgt := 221) hx hb dX10_next_217 (by decide) ?_
                        refine lv_istore_n (lv' := [(3, .int 1), (2, .int u710), (1, .int v707), (0, .ref h0)]) hx hb dX10_next_221 rfl hl (by decide) rfl (fun ls hl => ?_)
                        exact cut1124 1 (show 0 ≤ (1 : Int32).toInt ∧ (1 : Int32).toInt ≤ 1 by decide) (by show (1 = 1 → u710.toInt = 0 → (48 ≤ v939.toInt ∧ v939.toInt ≤ 57 ∧ 0 ≤ u720.toInt ∧ u720.toInt ≤ 999 ∧ (u719.toInt = 0 → u720.toInt = 0) ∧ (u719.toInt = 1 → u720.toInt ≤ 9) ∧ (u719.toInt = 2 → u720.toInt ≤ 99))); omega) _ _ _ hP hD hS (lv_sub hl [0, 1, 2, 3] rfl)
          refine lv_iload_n hx hb dX10_next_95 rfl (lv_at hl 0 rfl) ?_
          refine call_Si (wr := [(h0, .inr (10, vL 67 F9)), (h_tape, .inl (cB, 940, .inl f_tape))]) (As := [.int v707]) (rest := []) hx hb hml hown hw (m_X10_isSmall l D cI cJ cB cP cM cZ v707 _ ) wS_X10_182_X10_isSmall dX10_next_96 hP hD hS hA [] [0, 1] rfl rfl (by decide) (by decide) (by decide) GG.fb hG.at hl.1 rfl (Nat.le_of_ble_eq_true rfl) ⟨(Nat.le_of_ble_eq_true rfl), (Nat.le_of_ble_eq_true rfl)⟩ ⟨(Nat.le_of_ble_eq_true rfl), (Nat.le_of_ble_eq_true rfl)⟩ (fun r1245 u H locs hp hP hD hS => ?_)
          rcases hp with ⟨t1246, rfl, rfl⟩ | ⟨t1247, t1248, rfl, rfl⟩ | ⟨t1249, t1250, rfl, rfl⟩
          · have hP : va_P D vwCl [(h0, .inr (10, vL 67 F9)), (h_tape, .inl (cB, 940, .inl f_tape))] H := hP
            have hD : va_D A [(h0, .inr (10, vL 67 F9)), (h_tape, .inl (cB, 940, .inl f_tape))] := hD
            refine W.widen (k := 0) (n := 0) (Nat.le_of_ble_eq_true rfl) (Nat.le_of_ble_eq_true rfl) ?_
            have k1252 : 0 ≤ v707.toInt ∧ v707.toInt ≤ 96 := ⟨k708.1, up_lt t1246 (Int.le_refl _) (by decide)⟩
            refine lv_if_ne (tgt := 164) hx hb dX10_next_99 (by decide) (fun g => absurd (by decide) g) (fun _ => ?_)
            refine lv_iload_n hx hb dX10_next_102 rfl (lv_at hl 0 rfl) ?_
            refine call_Si (wr := [(h0, .inr (10, vL 67 F9)), (h_tape, .inl (cB, 940, .inl f_tape))]) (As := [.int v707]) (rest := []) hx hb hml hown hw (m_X10_isDigit l D cI cJ cB cP cM cZ v707 _ ) wS_X10_186_X10_isDigit dX10_next_103 hP hD hS hA [] [0, 1] rfl rfl (by decide) (by decide) (by decide) GG.fb hG.at hl.1 rfl (Nat.le_of_ble_eq_true rfl) ⟨(Nat.le_of_ble_eq_true rfl), (Nat.le_of_ble_eq_true rfl)⟩ ⟨(Nat.le_of_ble_eq_true rfl), (Nat.le_of_ble_eq_true rfl)⟩ (fun r1253 u H locs hp hP hD hS => ?_)
            rcases hp with ⟨t1254, rfl, rfl⟩ | ⟨t1255, t1256, rfl, rfl⟩ | ⟨t1257, t1258, rfl, rfl⟩
            · have hP : va_P D vwCl [(h0, .inr (10, vL 67 F9)), (h_tape, .inl (cB, 940, .inl f_tape))] H := hP
              have hD : va_D A [(h0, .inr (10, vL 67 F9)), (h_tape, .inl (cB, 940, .inl f_tape))] := hD
              refine W.widen (k := 0) (n := 0) (Nat.le_of_ble_eq_true rfl) (Nat.le_of_ble_eq_true rfl) ?_
              have k1260 : 0 ≤ v707.toInt ∧ v707.toInt ≤ 47 := ⟨k1252.1, up_lt t1254 (Int.le_refl _) (by decide)⟩
              refine lv_if_ne (tgt := 164) hx hb dX10_next_106 (by decide) (fun g => absurd (by decide) g) (fun _ => ?_)
              refine lv_aload_n hx hb dX10_next_109 rfl (lv_at hl 1 rfl) ?_
              refine lv_iload_n hx hb dX10_next_110 rfl (lv_at hl 0 rfl) ?_
              refine lv_bipush (v := 59) hx hb dX10_next_111 (by decide) ?_
              refine lv_icmp_eq (tgt := 140) hx hb dX10_next_113 (by decide) (fun c1261 => False.elim (bad_le (Int.le_of_eq (eq_i (a := v707.toInt) (b := 59) rfl rfl c1261).symm) (Int.le_refl _) k1260.2 (by decide))) (fun c1261 => ?_)
              have dc1261 : v707.toInt ≠ 59 := ne_i (a := v707.toInt) (b := 59) rfl rfl c1261
              refine lv_iload_n hx hb dX10_next_116 rfl (lv_at hl 0 rfl) ?_
              refine lv_bipush (v := 40) hx hb dX10_next_117 (by decide) ?_
              refine lv_icmp_eq (tgt := 140) hx hb dX10_next_119 (by decide) (fun c1262 => ?_) (fun c1262 => ?_)
              · have dc1262 : v707.toInt = 40 := eq_i (a := v707.toInt) (b := 40) rfl rfl c1262
                have k1263 : 40 ≤ v707.toInt ∧ v707.toInt ≤ 40 := ⟨Int.le_trans (Int.le_refl _) (Int.le_of_eq dc1262.symm), Int.le_trans (Int.le_of_eq dc1262) (Int.le_refl _)⟩
                refine lv_iconst (v := 3) hx hb dX10_next_140 (by decide) ?_
                refine lv_goto (tgt := 145) hx hb dX10_next_141 (by decide) ?_
                refine put_f (D := D) (ci := 10) (v := .int 3) (ty := .int) (C := RX10) (T := TX10) (N := 67) hx hb hw inAX10 tyX10 tyX10_ok nmX10 hown hK hP hD hS 0 rfl rfl 11 (by decide) (hw _ q_1272) (fun _ h9 => h9) rfl (by decide +kernel) rfl rfl dX10_next_145 (fun H locs F1264 eF1264 hP hD hS => ?_)
                have hP : va_P D vwCl [(h0, .inr (10, vL 67 F1264)), (h_tape, .inl (cB, 940, .inl f_tape))] H := hP
                have hD : va_D A [(h0, .inr (10, vL 67 F1264)), (h_tape, .inl (cB, 940, .inl f_tape))] := hD
                refine lv_aload_n hx hb dX10_next_148 rfl (lv_at hl 1 rfl) ?_
                refine lv_iload_n hx hb dX10_next_149 rfl (lv_at hl 0 rfl) ?_
                refine put_f (D := D) (ci := 10) (v := .int v707) (ty := .int) (C := RX10) (T := TX10) (N := 67) hx hb hw inAX10 tyX10 tyX10_ok nmX10 hown hK hP hD hS 0 rfl rfl 14 (by decide) (hw _ q_1275) (fun _ h9 => h9) rfl (by decide +kernel) rfl rfl dX10_next_150 (fun H locs F1265 eF1265 hP hD hS => ?_)
                have hP : va_P D vwCl [(h0, .inr (10, vL 67 F1265)), (h_tape, .inl (cB, 940, .inl f_tape))] H := hP
                have hD : va_D A [(h0, .inr (10, vL 67 F1265)), (h_tape, .inl (cB, 940, .inl f_tape))] := hD
                refine lv_aload_n hx hb dX10_next_153 rfl (lv_at hl 1 rfl) ?_
                refine lv_dup hx hb dX10_next_154 rfl ?_
                have n1266 : F1264 4 = .int u2 := (get_ne eF1264 (by decide) n693)
                have n1267 : F1265 4 = .int u2 := (get_ne eF1265 (by decide) n1266)
                refine get_f (D := D) (ci := 10) (v := .int u2) (C := RX10) (T := TX10) (N := 67) hx hb hw inAX10 hown hK hP 0 rfl rfl 4 (by decide) (hw _ q_1265) (fun _ h9 => h9) n1267 dX10_next_155 ?_
                refine lv_iconst (v := 1) hx hb dX10_next_158 (by decide) ?_
                refine lv_iadd hx hb dX10_next_159 ?_
                refine lv_topi (fun v1268 ev1268 => ?_)
                have bv1268 : v1268.toInt = u2.toInt + 1 := by rw [ev1268]; exact add_k rfl rfl k695 ⟨Int.le_refl _, Int.le_refl _⟩ (by decide)
                have k1269 : 1 ≤ v1268.toInt ∧ v1268.toInt ≤ 939 := add_r bv1268 k695 ⟨Int.le_refl _, Int.le_refl _⟩ (by decide)
                refine put_f (D := D) (ci := 10) (v := .int v1268) (ty := .int) (C := RX10) (T := TX10) (N := 67) hx hb hw inAX10 tyX10 tyX10_ok nmX10 hown hK hP hD hS 0 rfl rfl 4 (by decide) (hw _ q_1265) (fun _ h9 => h9) rfl (by decide +kernel) rfl rfl dX10_next_160 (fun H locs F1270 eF1270 hP hD hS => ?_)
                have hP : va_P D vwCl [(h0, .inr (10, vL 67 F1270)), (h_tape, .inl (cB, 940, .inl f_tape))] H := hP
                have hD : va_D A [(h0, .inr (10, vL 67 F1270)), (h_tape, .inl (cB, 940, .inl f_tape))] := hD
                exact ret_v hx hb hr hlocks hS hP hD dX10_next_163 (Nat.le_of_ble_eq_true rfl) (Nat.le_of_ble_eq_true rfl) ⟨F1270, v1268, 3, u2, 0, v707, x_word, (SAME.up eF1270 (SAME.up eF1265 (SAME.up eF1264 (SAME.up eF9 (SAME.up eF8 (SAME.tr SAME.rf i4 (by decide)) (by decide)) (by decide)) (by decide)) (by decide)) (by decide)), (get_eq eF1270), (ir_wk k1269 (by decide) (by decide)), (get_ne eF1270 (by decide) (get_ne eF1265 (by decide) (get_eq eF1264))), (show 0 ≤ (3 : Int32).toInt ∧ (3 : Int32).toInt ≤ 4 by decide), (get_ne eF1270 (by decide) (get_ne eF1265 (by decide) (get_ne eF1264 (by decide) (get_ne eF9 (by decide) (get_eq eF8))))), (ir_wk k695 (by decide) (by decide)), (get_ne eF1270 (by decide) (get_ne eF1265 (by decide) (get_ne eF1264 (by decide) (get_eq eF9)))), (show 0 ≤ (0 : Int32).toInt ∧ (0 : Int32).toInt ≤ 940 by decide), (get_ne eF1270 (by decide) (get_eq eF1265)), (get_ne eF1270 (by decide) (get_ne eF1265 (by decide) (get_ne eF1264 (by decide) (get_ne eF9 (by decide) (get_ne eF8 (by decide) (SAME.at i4 (by decide) e_word)))))), (by have zl0 : (0 : Int32).toInt = 0 := (by decide); have zl4 : (4 : Int32).toInt = 4 := (by decide); omega), (by have zl0 : (0 : Int32).toInt = 0 := (by decide); have zl4 : (4 : Int32).toInt = 4 := (by decide); omega), (by have zl0 : (0 : Int32).toInt = 0 := (by decide); have zl3 : (3 : Int32).toInt = 3 := (by decide); omega), rfl⟩
              · have dc1262 : v707.toInt ≠ 40 := ne_i (a := v707.toInt) (b := 40) rfl rfl c1262
                refine lv_iload_n hx hb dX10_next_122 rfl (lv_at hl 0 rfl) ?_
                refine lv_bipush (v := 41) hx hb dX10_next_123 (by decide) ?_
                refine lv_icmp_eq (tgt := 140) hx hb dX10_next_125 (by decide) (fun c1271 => ?_) (fun c1271 => ?_)
                · have dc1271 : v707.toInt = 41 := eq_i (a := v707.toInt) (b := 41) rfl rfl c1271
                  have k1272 : 41 ≤ v707.toInt ∧ v707.toInt ≤ 41 := ⟨Int.le_trans (Int.le_refl _) (Int.le_of_eq dc1271.symm), Int.le_trans (Int.le_of_eq dc1271) (Int.le_refl _)⟩
                  refine lv_iconst (v := 3) hx hb dX10_next_140 (by decide) ?_
                  refine lv_goto (tgt := 145) hx hb dX10_next_141 (by decide) ?_
                  refine put_f (D := D) (ci := 10) (v := .int 3) (ty := .int) (C := RX10) (T := TX10) (N := 67) hx hb hw inAX10 tyX10 tyX10_ok nmX10 hown hK hP hD hS 0 rfl rfl 11 (by decide) (hw _ q_1272) (fun _ h9 => h9) rfl (by decide +kernel) rfl rfl dX10_next_145 (fun H locs F1273 eF1273 hP hD hS => ?_)
                  have hP : va_P D vwCl [(h0, .inr (10, vL 67 F1273)), (h_tape, .inl (cB, 940, .inl f_tape))] H := hP
                  have hD : va_D A [(h0, .inr (10, vL 67 F1273)), (h_tape, .inl (cB, 940, .inl f_tape))] := hD
                  refine lv_aload_n hx hb dX10_next_148 rfl (lv_at hl 1 rfl) ?_
                  refine lv_iload_n hx hb dX10_next_149 rfl (lv_at hl 0 rfl) ?_
                  refine put_f (D := D) (ci := 10) (v := .int v707) (ty := .int) (C := RX10) (T := TX10) (N := 67) hx hb hw inAX10 tyX10 tyX10_ok nmX10 hown hK hP hD hS 0 rfl rfl 14 (by decide) (hw _ q_1275) (fun _ h9 => h9) rfl (by decide +kernel) rfl rfl dX10_next_150 (fun H locs F1274 eF1274 hP hD hS => ?_)
                  have hP : va_P D vwCl [(h0, .inr (10, vL 67 F1274)), (h_tape, .inl (cB, 940, .inl f_tape))] H := hP
                  have hD : va_D A [(h0, .inr (10, vL 67 F1274)), (h_tape, .inl (cB, 940, .inl f_tape))] := hD
                  refine lv_aload_n hx hb dX10_next_153 rfl (lv_at hl 1 rfl) ?_
                  refine lv_dup hx hb dX10_next_154 rfl ?_
                  have n1275 : F1273 4 = .int u2 := (get_ne eF1273 (by decide) n693)
                  have n1276 : F1274 4 = .int u2 := (get_ne eF1274 (by decide) n1275)
                  refine get_f (D := D) (ci := 10) (v := .int u2) (C := RX10) (T := TX10) (N := 67) hx hb hw inAX10 hown hK hP 0 rfl rfl 4 (by decide) (hw _ q_1265) (fun _ h9 => h9) n1276 dX10_next_155 ?_
                  refine lv_iconst (v := 1) hx hb dX10_next_158 (by decide) ?_
                  refine lv_iadd hx hb dX10_next_159 ?_
                  refine lv_topi (fun v1277 ev1277 => ?_)
                  have bv1277 : v1277.toInt = u2.toInt + 1 := by rw [ev1277]; exact add_k rfl rfl k695 ⟨Int.le_refl _, Int.le_refl _⟩ (by decide)
                  have k1278 : 1 ≤ v1277.toInt ∧ v1277.toInt ≤ 939 := add_r bv1277 k695 ⟨Int.le_refl _, Int.le_refl _⟩ (by decide)
                  refine put_f (D := D) (ci := 10) (v := .int v1277) (ty := .int) (C := RX10) (T := TX10) (N := 67) hx hb hw inAX10 tyX10 tyX10_ok nmX10 hown hK hP hD hS 0 rfl rfl 4 (by decide) (hw _ q_1265) (fun _ h9 => h9) rfl (by decide +kernel) rfl rfl dX10_next_160 (fun H locs F1279 eF1279 hP hD hS => ?_)
                  have hP : va_P D vwCl [(h0, .inr (10, vL 67 F1279)), (h_tape, .inl (cB, 940, .inl f_tape))] H := hP
                  have hD : va_D A [(h0, .inr (10, vL 67 F1279)), (h_tape, .inl (cB, 940, .inl f_tape))] := hD
                  exact ret_v hx hb hr hlocks hS hP hD dX10_next_163 (Nat.le_of_ble_eq_true rfl) (Nat.le_of_ble_eq_true rfl) ⟨F1279, v1277, 3, u2, 0, v707, x_word, (SAME.up eF1279 (SAME.up eF1274 (SAME.up eF1273 (SAME.up eF9 (SAME.up eF8 (SAME.tr SAME.rf i4 (by decide)) (by decide)) (by decide)) (by decide)) (by decide)) (by decide)), (get_eq eF1279), (ir_wk k1278 (by decide) (by decide)), (get_ne eF1279 (by decide) (get_ne eF1274 (by decide) (get_eq eF1273))), (show 0 ≤ (3 : Int32).toInt ∧ (3 : Int32).toInt ≤ 4 by decide), (get_ne eF1279 (by decide) (get_ne eF1274 (by decide) (get_ne eF1273 (by decide) (get_ne eF9 (by decide) (get_eq eF8))))), (ir_wk k695 (by decide) (by decide)), (get_ne eF1279 (by decide) (get_ne eF1274 (by decide) (get_ne eF1273 (by decide) (get_eq eF9)))), (show 0 ≤ (0 : Int32).toInt ∧ (0 : Int32).toInt ≤ 940 by decide), (get_ne eF1279 (by decide) (get_eq eF1274)), (get_ne eF1279 (by decide) (get_ne eF1274 (by decide) (get_ne eF1273 (by decide) (get_ne eF9 (by decide) (get_ne eF8 (by decide) (SAME.at i4 (by decide) e_word)))))), (by have zl0 : (0 : Int32).toInt = 0 := (by decide); have zl4 : (4 : Int32).toInt = 4 := (by decide); omega), (by have zl0 : (0 : Int32).toInt = 0 := (by decide); have zl4 : (4 : Int32).toInt = 4 := (by decide); omega), (by have zl0 : (0 : Int32).toInt = 0 := (by decide); have zl3 : (3 : Int32).toInt = 3 := (by decide); omega), rfl⟩
                · have dc1271 : v707.toInt ≠ 41 := ne_i (a := v707.toInt) (b := 41) rfl rfl c1271
                  refine lv_iload_n hx hb dX10_next_128 rfl (lv_at hl 0 rfl) ?_
                  refine lv_bipush (v := 60) hx hb dX10_next_129 (by decide) ?_
                  refine lv_icmp_lt (tgt := 144) hx hb dX10_next_131 (by decide) (fun c1280 => ?_) (fun c1280 => False.elim (bad_le (nlt_i (a := v707.toInt) (b := 60) rfl rfl c1280) (Int.le_refl _) k1260.2 (by decide)))
                  have dc1280 : v707.toInt < 60 := lt_i (a := v707.toInt) (b := 60) rfl rfl c1280
                  refine lv_iconst (v := 4) hx hb dX10_next_144 (by decide) ?_
                  refine put_f (D := D) (ci := 10) (v := .int 4) (ty := .int) (C := RX10) (T := TX10) (N := 67) hx hb hw inAX10 tyX10 tyX10_ok nmX10 hown hK hP hD hS 0 rfl rfl 11 (by decide) (hw _ q_1272) (fun _ h9 => h9) rfl (by decide +kernel) rfl rfl dX10_next_145 (fun H locs F1281 eF1281 hP hD hS => ?_)
                  have hP : va_P D vwCl [(h0, .inr (10, vL 67 F1281)), (h_tape, .inl (cB, 940, .inl f_tape))] H := hP
                  have hD : va_D A [(h0, .inr (10, vL 67 F1281)), (h_tape, .inl (cB, 940, .inl f_tape))] := hD
                  refine lv_aload_n hx hb dX10_next_148 rfl (lv_at hl 1 rfl) ?_
                  refine lv_iload_n hx hb dX10_next_149 rfl (lv_at hl 0 rfl) ?_
                  refine put_f (D := D) (ci := 10) (v := .int v707) (ty := .int) (C := RX10) (T := TX10) (N := 67) hx hb hw inAX10 tyX10 tyX10_ok nmX10 hown hK hP hD hS 0 rfl rfl 14 (by decide) (hw _ q_1275) (fun _ h9 => h9) rfl (by decide +kernel) rfl rfl dX10_next_150 (fun H locs F1282 eF1282 hP hD hS => ?_)
                  have hP : va_P D vwCl [(h0, .inr (10, vL 67 F1282)), (h_tape, .inl (cB, 940, .inl f_tape))] H := hP
                  have hD : va_D A [(h0, .inr (10, vL 67 F1282)), (h_tape, .inl (cB, 940, .inl f_tape))] := hD
                  refine lv_aload_n hx hb dX10_next_153 rfl (lv_at hl 1 rfl) ?_
                  refine lv_dup hx hb dX10_next_154 rfl ?_
                  have n1283 : F1281 4 = .int u2 := (get_ne eF1281 (by decide) n693)
                  have n1284 : F1282 4 = .int u2 := (get_ne eF1282 (by decide) n1283)
                  refine get_f (D := D) (ci := 10) (v := .int u2) (C := RX10) (T := TX10) (N := 67) hx hb hw inAX10 hown hK hP 0 rfl rfl 4 (by decide) (hw _ q_1265) (fun _ h9 => h9) n1284 dX10_next_155 ?_
                  refine lv_iconst (v := 1) hx hb dX10_next_158 (by decide) ?_
                  refine lv_iadd hx hb dX10_next_159 ?_
                  refine lv_topi (fun v1285 ev1285 => ?_)
                  have bv1285 : v1285.toInt = u2.toInt + 1 := by rw [ev1285]; exact add_k rfl rfl k695 ⟨Int.le_refl _, Int.le_refl _⟩ (by decide)
                  have k1286 : 1 ≤ v1285.toInt ∧ v1285.toInt ≤ 939 := add_r bv1285 k695 ⟨Int.le_refl _, Int.le_refl _⟩ (by decide)
                  refine put_f (D := D) (ci := 10) (v := .int v1285) (ty := .int) (C := RX10) (T := TX10) (N := 67) hx hb hw inAX10 tyX10 tyX10_ok nmX10 hown hK hP hD hS 0 rfl rfl 4 (by decide) (hw _ q_1265) (fun _ h9 => h9) rfl (by decide +kernel) rfl rfl dX10_next_160 (fun H locs F1287 eF1287 hP hD hS => ?_)
                  have hP : va_P D vwCl [(h0, .inr (10, vL 67 F1287)), (h_tape, .inl (cB, 940, .inl f_tape))] H := hP
                  have hD : va_D A [(h0, .inr (10, vL 67 F1287)), (h_tape, .inl (cB, 940, .inl f_tape))] := hD
                  exact ret_v hx hb hr hlocks hS hP hD dX10_next_163 (Nat.le_of_ble_eq_true rfl) (Nat.le_of_ble_eq_true rfl) ⟨F1287, v1285, 4, u2, 0, v707, x_word, (SAME.up eF1287 (SAME.up eF1282 (SAME.up eF1281 (SAME.up eF9 (SAME.up eF8 (SAME.tr SAME.rf i4 (by decide)) (by decide)) (by decide)) (by decide)) (by decide)) (by decide)), (get_eq eF1287), (ir_wk k1286 (by decide) (by decide)), (get_ne eF1287 (by decide) (get_ne eF1282 (by decide) (get_eq eF1281))), (show 0 ≤ (4 : Int32).toInt ∧ (4 : Int32).toInt ≤ 4 by decide), (get_ne eF1287 (by decide) (get_ne eF1282 (by decide) (get_ne eF1281 (by decide) (get_ne eF9 (by decide) (get_eq eF8))))), (ir_wk k695 (by decide) (by decide)), (get_ne eF1287 (by decide) (get_ne eF1282 (by decide) (get_ne eF1281 (by decide) (get_eq eF9)))), (show 0 ≤ (0 : Int32).toInt ∧ (0 : Int32).toInt ≤ 940 by decide), (get_ne eF1287 (by decide) (get_eq eF1282)), (get_ne eF1287 (by decide) (get_ne eF1282 (by decide) (get_ne eF1281 (by decide) (get_ne eF9 (by decide) (get_ne eF8 (by decide) (SAME.at i4 (by decide) e_word)))))), (by have zl0 : (0 : Int32).toInt = 0 := (by decide); have zl4 : (4 : Int32).toInt = 4 := (by decide); omega), (by have zl0 : (0 : Int32).toInt = 0 := (by decide); have zl4 : (4 : Int32).toInt = 4 := (by decide); omega), (by have zl0 : (0 : Int32).toInt = 0 := (by decide); have zl4 : (4 : Int32).toInt = 4 := (by decide); omega), rfl⟩
            · have hP : va_P D vwCl [(h0, .inr (10, vL 67 F9)), (h_tape, .inl (cB, 940, .inl f_tape))] H := hP
              have hD : va_D A [(h0, .inr (10, vL 67 F9)), (h_tape, .inl (cB, 940, .inl f_tape))] := hD
              refine W.widen (k := 0) (n := 0) (Nat.le_of_ble_eq_true rfl) (Nat.le_of_ble_eq_true rfl) ?_
              have k1288 : 48 ≤ v707.toInt ∧ v707.toInt ≤ 96 := ⟨Int.le_trans (Int.le_refl _) t1255, k1252.2⟩
              have k1289 : 58 ≤ v707.toInt ∧ v707.toInt ≤ 96 := ⟨lo_lt t1256 (Int.le_refl _) (by decide), k1288.2⟩
              refine lv_if_ne (tgt := 164) hx hb dX10_next_106 (by decide) (fun g => absurd (by decide) g) (fun _ => ?_)
              refine lv_aload_n hx hb dX10_next_109 rfl (lv_at hl 1 rfl) ?_
              refine lv_iload_n hx hb dX10_next_110 rfl (lv_at hl 0 rfl) ?_
              refine lv_bipush (v := 59) hx hb dX10_next_111 (by decide) ?_
              refine lv_icmp_eq (tgt := 140) hx hb dX10_next_113 (by decide) (fun c1290 => ?_) (fun c1290 => ?_)
              · have dc1290 : v707.toInt = 59 := eq_i (a := v707.toInt) (b := 59) rfl rfl c1290
                have k1291 : 59 ≤ v707.toInt ∧ v707.toInt ≤ 59 := ⟨Int.le_trans (Int.le_refl _) (Int.le_of_eq dc1290.symm), Int.le_trans (Int.le_of_eq dc1290) (Int.le_refl _)⟩
                refine lv_iconst (v := 3) hx hb dX10_next_140 (by decide) ?_
                refine lv_goto (tgt := 145) hx hb dX10_next_141 (by decide) ?_
                refine put_f (D := D) (ci := 10) (v := .int 3) (ty := .int) (C := RX10) (T := TX10) (N := 67) hx hb hw inAX10 tyX10 tyX10_ok nmX10 hown hK hP hD hS 0 rfl rfl 11 (by decide) (hw _ q_1272) (fun _ h9 => h9) rfl (by decide +kernel) rfl rfl dX10_next_145 (fun H locs F1292 eF1292 hP hD hS => ?_)
                have hP : va_P D vwCl [(h0, .inr (10, vL 67 F1292)), (h_tape, .inl (cB, 940, .inl f_tape))] H := hP
                have hD : va_D A [(h0, .inr (10, vL 67 F1292)), (h_tape, .inl (cB, 940, .inl f_tape))] := hD
                refine lv_aload_n hx hb dX10_next_148 rfl (lv_at hl 1 rfl) ?_
                refine lv_iload_n hx hb dX10_next_149 rfl (lv_at hl 0 rfl) ?_
                refine put_f (D := D) (ci := 10) (v := .int v707) (ty := .int) (C := RX10) (T := TX10) (N := 67) hx hb hw inAX10 tyX10 tyX10_ok nmX10 hown hK hP hD hS 0 rfl rfl 14 (by decide) (hw _ q_1275) (fun _ h9 => h9) rfl (by decide +kernel) rfl rfl dX10_next_150 (fun H locs F1293 eF1293 hP hD hS => ?_)
                have hP : va_P D vwCl [(h0, .inr (10, vL 67 F1293)), (h_tape, .inl (cB, 940, .inl f_tape))] H := hP
                have hD : va_D A [(h0, .inr (10, vL 67 F1293)), (h_tape, .inl (cB, 940, .inl f_tape))] := hD
                refine lv_aload_n hx hb dX10_next_153 rfl (lv_at hl 1 rfl) ?_
                refine lv_dup hx hb dX10_next_154 rfl ?_
                have n1294 : F1292 4 = .int u2 := (get_ne eF1292 (by decide) n693)
                have n1295 : F1293 4 = .int u2 := (get_ne eF1293 (by decide) n1294)
                refine get_f (D := D) (ci := 10) (v := .int u2) (C := RX10) (T := TX10) (N := 67) hx hb hw inAX10 hown hK hP 0 rfl rfl 4 (by decide) (hw _ q_1265) (fun _ h9 => h9) n1295 dX10_next_155 ?_
                refine lv_iconst (v := 1) hx hb dX10_next_158 (by decide) ?_
                refine lv_iadd hx hb dX10_next_159 ?_
                refine lv_topi (fun v1296 ev1296 => ?_)
                have bv1296 : v1296.toInt = u2.toInt + 1 := by rw [ev1296]; exact add_k rfl rfl k695 ⟨Int.le_refl _, Int.le_refl _⟩ (by decide)
                have k1297 : 1 ≤ v1296.toInt ∧ v1296.toInt ≤ 939 := add_r bv1296 k695 ⟨Int.le_refl _, Int.le_refl _⟩ (by decide)
                refine put_f (D := D) (ci := 10) (v := .int v1296) (ty := .int) (C := RX10) (T := TX10) (N := 67) hx hb hw inAX10 tyX10 tyX10_ok nmX10 hown hK hP hD hS 0 rfl rfl 4 (by decide) (hw _ q_1265) (fun _ h9 => h9) rfl (by decide +kernel) rfl rfl dX10_next_160 (fun H locs F1298 eF1298 hP hD hS => ?_)
                have hP : va_P D vwCl [(h0, .inr (10, vL 67 F1298)), (h_tape, .inl (cB, 940, .inl f_tape))] H := hP
                have hD : va_D A [(h0, .inr (10, vL 67 F1298)), (h_tape, .inl (cB, 940, .inl f_tape))] := hD
                exact ret_v hx hb hr hlocks hS hP hD dX10_next_163 (Nat.le_of_ble_eq_true rfl) (Nat.le_of_ble_eq_true rfl) ⟨F1298, v1296, 3, u2, 0, v707, x_word, (SAME.up eF1298 (SAME.up eF1293 (SAME.up eF1292 (SAME.up eF9 (SAME.up eF8 (SAME.tr SAME.rf i4 (by decide)) (by decide)) (by decide)) (by decide)) (by decide)) (by decide)), (get_eq eF1298), (ir_wk k1297 (by decide) (by decide)), (get_ne eF1298 (by decide) (get_ne eF1293 (by decide) (get_eq eF1292))), (show 0 ≤ (3 : Int32).toInt ∧ (3 : Int32).toInt ≤ 4 by decide), (get_ne eF1298 (by decide) (get_ne eF1293 (by decide) (get_ne eF1292 (by decide) (get_ne eF9 (by decide) (get_eq eF8))))), (ir_wk k695 (by decide) (by decide)), (get_ne eF1298 (by decide) (get_ne eF1293 (by decide) (get_ne eF1292 (by decide) (get_eq eF9)))), (show 0 ≤ (0 : Int32).toInt ∧ (0 : Int32).toInt ≤ 940 by decide), (get_ne eF1298 (by decide) (get_eq eF1293)), (get_ne eF1298 (by decide) (get_ne eF1293 (by decide) (get_ne eF1292 (by decide) (get_ne eF9 (by decide) (get_ne eF8 (by decide) (SAME.at i4 (by decide) e_word)))))), (by have zl0 : (0 : Int32).toInt = 0 := (by decide); have zl4 : (4 : Int32).toInt = 4 := (by decide); omega), (by have zl0 : (0 : Int32).toInt = 0 := (by decide); have zl4 : (4 : Int32).toInt = 4 := (by decide); omega), (by have zl0 : (0 : Int32).toInt = 0 := (by decide); have zl3 : (3 : Int32).toInt = 3 := (by decide); omega), rfl⟩
              · have dc1290 : v707.toInt ≠ 59 := ne_i (a := v707.toInt) (b := 59) rfl rfl c1290
                refine lv_iload_n hx hb dX10_next_116 rfl (lv_at hl 0 rfl) ?_
                refine lv_bipush (v := 40) hx hb dX10_next_117 (by decide) ?_
                refine lv_icmp_eq (tgt := 140) hx hb dX10_next_119 (by decide) (fun c1299 => False.elim (bad_le (Int.le_of_eq (eq_i (a := v707.toInt) (b := 40) rfl rfl c1299)) k1289.1 (Int.le_refl _) (by decide))) (fun c1299 => ?_)
                have dc1299 : v707.toInt ≠ 40 := ne_i (a := v707.toInt) (b := 40) rfl rfl c1299
                refine lv_iload_n hx hb dX10_next_122 rfl (lv_at hl 0 rfl) ?_
                refine lv_bipush (v := 41) hx hb dX10_next_123 (by decide) ?_
                refine lv_icmp_eq (tgt := 140) hx hb dX10_next_125 (by decide) (fun c1300 => False.elim (bad_le (Int.le_of_eq (eq_i (a := v707.toInt) (b := 41) rfl rfl c1300)) k1289.1 (Int.le_refl _) (by decide))) (fun c1300 => ?_)
                have dc1300 : v707.toInt ≠ 41 := ne_i (a := v707.toInt) (b := 41) rfl rfl c1300
                refine lv_iload_n hx hb dX10_next_128 rfl (lv_at hl 0 rfl) ?_
                refine lv_bipush (v := 60) hx hb dX10_next_129 (by decide) ?_
                refine lv_icmp_lt (tgt := 144) hx hb dX10_next_131 (by decide) (fun c1301 => ?_) (fun c1301 => ?_)
                · have dc1301 : v707.toInt < 60 := lt_i (a := v707.toInt) (b := 60) rfl rfl c1301
                  have k1302 : 58 ≤ v707.toInt ∧ v707.toInt ≤ 59 := ⟨k1289.1, up_lt dc1301 (Int.le_refl _) (by decide)⟩
                  refine lv_iconst (v := 4) hx hb dX10_next_144 (by decide) ?_
                  refine put_f (D := D) (ci := 10) (v := .int 4) (ty := .int) (C := RX10) (T := TX10) (N := 67) hx hb hw inAX10 tyX10 tyX10_ok nmX10 hown hK hP hD hS 0 rfl rfl 11 (by decide) (hw _ q_1272) (fun _ h9 => h9) rfl (by decide +kernel) rfl rfl dX10_next_145 (fun H locs F1303 eF1303 hP hD hS => ?_)
                  have hP : va_P D vwCl [(h0, .inr (10, vL 67 F1303)), (h_tape, .inl (cB, 940, .inl f_tape))] H := hP
                  have hD : va_D A [(h0, .inr (10, vL 67 F1303)), (h_tape, .inl (cB, 940, .inl f_tape))] := hD
                  refine lv_aload_n hx hb dX10_next_148 rfl (lv_at hl 1 rfl) ?_
                  refine lv_iload_n hx hb dX10_next_149 rfl (lv_at hl 0 rfl) ?_
                  refine put_f (D := D) (ci := 10) (v := .int v707) (ty := .int) (C := RX10) (T := TX10) (N := 67) hx hb hw inAX10 tyX10 tyX10_ok nmX10 hown hK hP hD hS 0 rfl rfl 14 (by decide) (hw _ q_1275) (fun _ h9 => h9) rfl (by decide +kernel) rfl rfl dX10_next_150 (fun H locs F1304 eF1304 hP hD hS => ?_)
                  have hP : va_P D vwCl [(h0, .inr (10, vL 67 F1304)), (h_tape, .inl (cB, 940, .inl f_tape))] H := hP
                  have hD : va_D A [(h0, .inr (10, vL 67 F1304)), (h_tape, .inl (cB, 940, .inl f_tape))] := hD
                  refine lv_aload_n hx hb dX10_next_153 rfl (lv_at hl 1 rfl) ?_
                  refine lv_dup hx hb dX10_next_154 rfl ?_
                  have n1305 : F1303 4 = .int u2 := (get_ne eF1303 (by decide) n693)
                  have n1306 : F1304 4 = .int u2 := (get_ne eF1304 (by decide) n1305)
                  refine get_f (D := D) (ci := 10) (v := .int u2) (C := RX10) (T := TX10) (N := 67) hx hb hw inAX10 hown hK hP 0 rfl rfl 4 (by decide) (hw _ q_1265) (fun _ h9 => h9) n1306 dX10_next_155 ?_
                  refine lv_iconst (v := 1) hx hb dX10_next_158 (by decide) ?_
                  refine lv_iadd hx hb dX10_next_159 ?_
                  refine lv_topi (fun v1307 ev1307 => ?_)
                  have bv1307 : v1307.toInt = u2.toInt + 1 := by rw [ev1307]; exact add_k rfl rfl k695 ⟨Int.le_refl _, Int.le_refl _⟩ (by decide)
                  have k1308 : 1 ≤ v1307.toInt ∧ v1307.toInt ≤ 939 := add_r bv1307 k695 ⟨Int.le_refl _, Int.le_refl _⟩ (by decide)
                  refine put_f (D := D) (ci := 10) (v := .int v1307) (ty := .int) (C := RX10) (T := TX10) (N := 67) hx hb hw inAX10 tyX10 tyX10_ok nmX10 hown hK hP hD hS 0 rfl rfl 4 (by decide) (hw _ q_1265) (fun _ h9 => h9) rfl (by decide +kernel) rfl rfl dX10_next_160 (fun H locs F1309 eF1309 hP hD hS => ?_)
                  have hP : va_P D vwCl [(h0, .inr (10, vL 67 F1309)), (h_tape, .inl (cB, 940, .inl f_tape))] H := hP
                  have hD : va_D A [(h0, .inr (10, vL 67 F1309)), (h_tape, .inl (cB, 940, .inl f_tape))] := hD
                  exact ret_v hx hb hr hlocks hS hP hD dX10_next_163 (Nat.le_of_ble_eq_true rfl) (Nat.le_of_ble_eq_true rfl) ⟨F1309, v1307, 4, u2, 0, v707, x_word, (SAME.up eF1309 (SAME.up eF1304 (SAME.up eF1303 (SAME.up eF9 (SAME.up eF8 (SAME.tr SAME.rf i4 (by decide)) (by decide)) (by decide)) (by decide)) (by decide)) (by decide)), (get_eq eF1309), (ir_wk k1308 (by decide) (by decide)), (get_ne eF1309 (by decide) (get_ne eF1304 (by decide) (get_eq eF1303))), (show 0 ≤ (4 : Int32).toInt ∧ (4 : Int32).toInt ≤ 4 by decide), (get_ne eF1309 (by decide) (get_ne eF1304 (by decide) (get_ne eF1303 (by decide) (get_ne eF9 (by decide) (get_eq eF8))))), (ir_wk k695 (by decide) (by decide)), (get_ne eF1309 (by decide) (get_ne eF1304 (by decide) (get_ne eF1303 (by decide) (get_eq eF9)))), (show 0 ≤ (0 : Int32).toInt ∧ (0 : Int32).toInt ≤ 940 by decide), (get_ne eF1309 (by decide) (get_eq eF1304)), (get_ne eF1309 (by decide) (get_ne eF1304 (by decide) (get_ne eF1303 (by decide) (get_ne eF9 (by decide) (get_ne eF8 (by decide) (SAME.at i4 (by decide) e_word)))))), (by have zl0 : (0 : Int32).toInt = 0 := (by decide); have zl4 : (4 : Int32).toInt = 4 := (by decide); omega), (by have zl0 : (0 : Int32).toInt = 0 := (by decide); have zl4 : (4 : Int32).toInt = 4 := (by decide); omega), (by have zl0 : (0 : Int32).toInt = 0 := (by decide); have zl4 : (4 : Int32).toInt = 4 := (by decide); omega), rfl⟩
                · have dc1301 : 60 ≤ v707.toInt := nlt_i (a := v707.toInt) (b := 60) rfl rfl c1301
                  have k1310 : 60 ≤ v707.toInt ∧ v707.toInt ≤ 96 := ⟨Int.le_trans (Int.le_refl _) dc1301, k1289.2⟩
                  refine lv_iload_n hx hb dX10_next_134 rfl (lv_at hl 0 rfl) ?_
                  refine lv_bipush (v := 62) hx hb dX10_next_135 (by decide) ?_
                  refine lv_icmp_gt (tgt := 144) hx hb dX10_next_137 (by decide) (fun c1311 => ?_) (fun c1311 => ?_)
                  · have dc1311 : 62 < v707.toInt := lt_i (a := 62) (b := v707.toInt) rfl rfl c1311
                    have k1312 : 63 ≤ v707.toInt ∧ v707.toInt ≤ 96 := ⟨lo_lt dc1311 (Int.le_refl _) (by decide), k1310.2⟩
                    refine lv_iconst (v := 4) hx hb dX10_next_144 (by decide) ?_
                    refine put_f (D := D) (ci := 10) (v := .int 4) (ty := .int) (C := RX10) (T := TX10) (N := 67) hx hb hw inAX10 tyX10 tyX10_ok nmX10 hown hK hP hD hS 0 rfl rfl 11 (by decide) (hw _ q_1272) (fun _ h9 => h9) rfl (by decide +kernel) rfl rfl dX10_next_145 (fun H locs F1313 eF1313 hP hD hS => ?_)
                    have hP : va_P D vwCl [(h0, .inr (10, vL 67 F1313)), (h_tape, .inl (cB, 940, .inl f_tape))] H := hP
                    have hD : va_D A [(h0, .inr (10, vL 67 F1313)), (h_tape, .inl (cB, 940, .inl f_tape))] := hD
                    refine lv_aload_n hx hb dX10_next_148 rfl (lv_at hl 1 rfl) ?_
                    refine lv_iload_n hx hb dX10_next_149 rfl (lv_at hl 0 rfl) ?_
                    refine put_f (D := D) (ci := 10) (v := .int v707) (ty := .int) (C := RX10) (T := TX10) (N := 67) hx hb hw inAX10 tyX10 tyX10_ok nmX10 hown hK hP hD hS 0 rfl rfl 14 (by decide) (hw _ q_1275) (fun _ h9 => h9) rfl (by decide +kernel) rfl rfl dX10_next_150 (fun H locs F1314 eF1314 hP hD hS => ?_)
                    have hP : va_P D vwCl [(h0, .inr (10, vL 67 F1314)), (h_tape, .inl (cB, 940, .inl f_tape))] H := hP
                    have hD : va_D A [(h0, .inr (10, vL 67 F1314)), (h_tape, .inl (cB, 940, .inl f_tape))] := hD
                    refine lv_aload_n hx hb dX10_next_153 rfl (lv_at hl 1 rfl) ?_
                    refine lv_dup hx hb dX10_next_154 rfl ?_
                    have n1315 : F1313 4 = .int u2 := (get_ne eF1313 (by decide) n693)
                    have n1316 : F1314 4 = .int u2 := (get_ne eF1314 (by decide) n1315)
                    refine get_f (D := D) (ci := 10) (v := .int u2) (C := RX10) (T := TX10) (N := 67) hx hb hw inAX10 hown hK hP 0 rfl rfl 4 (by decide) (hw _ q_1265) (fun _ h9 => h9) n1316 dX10_next_155 ?_
                    refine lv_iconst (v := 1) hx hb dX10_next_158 (by decide) ?_
                    refine lv_iadd hx hb dX10_next_159 ?_
                    refine lv_topi (fun v1317 ev1317 => ?_)
                    have bv1317 : v1317.toInt = u2.toInt + 1 := by rw [ev1317]; exact add_k rfl rfl k695 ⟨Int.le_refl _, Int.le_refl _⟩ (by decide)
                    have k1318 : 1 ≤ v1317.toInt ∧ v1317.toInt ≤ 939 := add_r bv1317 k695 ⟨Int.le_refl _, Int.le_refl _⟩ (by decide)
                    refine put_f (D := D) (ci := 10) (v := .int v1317) (ty := .int) (C := RX10) (T := TX10) (N := 67) hx hb hw inAX10 tyX10 tyX10_ok nmX10 hown hK hP hD hS 0 rfl rfl 4 (by decide) (hw _ q_1265) (fun _ h9 => h9) rfl (by decide +kernel) rfl rfl dX10_next_160 (fun H locs F1319 eF1319 hP hD hS => ?_)
                    have hP : va_P D vwCl [(h0, .inr (10, vL 67 F1319)), (h_tape, .inl (cB, 940, .inl f_tape))] H := hP
                    have hD : va_D A [(h0, .inr (10, vL 67 F1319)), (h_tape, .inl (cB, 940, .inl f_tape))] := hD
                    exact ret_v hx hb hr hlocks hS hP hD dX10_next_163 (Nat.le_of_ble_eq_true rfl) (Nat.le_of_ble_eq_true rfl) ⟨F1319, v1317, 4, u2, 0, v707, x_word, (SAME.up eF1319 (SAME.up eF1314 (SAME.up eF1313 (SAME.up eF9 (SAME.up eF8 (SAME.tr SAME.rf i4 (by decide)) (by decide)) (by decide)) (by decide)) (by decide)) (by decide)), (get_eq eF1319), (ir_wk k1318 (by decide) (by decide)), (get_ne eF1319 (by decide) (get_ne eF1314 (by decide) (get_eq eF1313))), (show 0 ≤ (4 : Int32).toInt ∧ (4 : Int32).toInt ≤ 4 by decide), (get_ne eF1319 (by decide) (get_ne eF1314 (by decide) (get_ne eF1313 (by decide) (get_ne eF9 (by decide) (get_eq eF8))))), (ir_wk k695 (by decide) (by decide)), (get_ne eF1319 (by decide) (get_ne eF1314 (by decide) (get_ne eF1313 (by decide) (get_eq eF9)))), (show 0 ≤ (0 : Int32).toInt ∧ (0 : Int32).toInt ≤ 940 by decide), (get_ne eF1319 (by decide) (get_eq eF1314)), (get_ne eF1319 (by decide) (get_ne eF1314 (by decide) (get_ne eF1313 (by decide) (get_ne eF9 (by decide) (get_ne eF8 (by decide) (SAME.at i4 (by decide) e_word)))))), (by have zl0 : (0 : Int32).toInt = 0 := (by decide); have zl4 : (4 : Int32).toInt = 4 := (by decide); omega), (by have zl0 : (0 : Int32).toInt = 0 := (by decide); have zl4 : (4 : Int32).toInt = 4 := (by decide); omega), (by have zl0 : (0 : Int32).toInt = 0 := (by decide); have zl4 : (4 : Int32).toInt = 4 := (by decide); omega), rfl⟩
                  · have dc1311 : v707.toInt ≤ 62 := nlt_i (a := 62) (b := v707.toInt) rfl rfl c1311
                    have k1320 : 60 ≤ v707.toInt ∧ v707.toInt ≤ 62 := ⟨k1310.1, Int.le_trans dc1311 (Int.le_refl _)⟩
                    refine lv_iconst (v := 3) hx hb dX10_next_140 (by decide) ?_
                    refine lv_goto (tgt := 145) hx hb dX10_next_141 (by decide) ?_
                    refine put_f (D := D) (ci := 10) (v := .int 3) (ty := .int) (C := RX10) (T := TX10) (N := 67) hx hb hw inAX10 tyX10 tyX10_ok nmX10 hown hK hP hD hS 0 rfl rfl 11 (by decide) (hw _ q_1272) (fun _ h9 => h9) rfl (by decide +kernel) rfl rfl dX10_next_145 (fun H locs F1321 eF1321 hP hD hS => ?_)
                    have hP : va_P D vwCl [(h0, .inr (10, vL 67 F1321)), (h_tape, .inl (cB, 940, .inl f_tape))] H := hP
                    have hD : va_D A [(h0, .inr (10, vL 67 F1321)), (h_tape, .inl (cB, 940, .inl f_tape))] := hD
                    refine lv_aload_n hx hb dX10_next_148 rfl (lv_at hl 1 rfl) ?_
                    refine lv_iload_n hx hb dX10_next_149 rfl (lv_at hl 0 rfl) ?_
                    refine put_f (D := D) (ci := 10) (v := .int v707) (ty := .int) (C := RX10) (T := TX10) (N := 67) hx hb hw inAX10 tyX10 tyX10_ok nmX10 hown hK hP hD hS 0 rfl rfl 14 (by decide) (hw _ q_1275) (fun _ h9 => h9) rfl (by decide +kernel) rfl rfl dX10_next_150 (fun H locs F1322 eF1322 hP hD hS => ?_)
                    have hP : va_P D vwCl [(h0, .inr (10, vL 67 F1322)), (h_tape, .inl (cB, 940, .inl f_tape))] H := hP
                    have hD : va_D A [(h0, .inr (10, vL 67 F1322)), (h_tape, .inl (cB, 940, .inl f_tape))] := hD
                    refine lv_aload_n hx hb dX10_next_153 rfl (lv_at hl 1 rfl) ?_
                    refine lv_dup hx hb dX10_next_154 rfl ?_
                    have n1323 : F1321 4 = .int u2 := (get_ne eF1321 (by decide) n693)
                    have n1324 : F1322 4 = .int u2 := (get_ne eF1322 (by decide) n1323)
                    refine get_f (D := D) (ci := 10) (v := .int u2) (C := RX10) (T := TX10) (N := 67) hx hb hw inAX10 hown hK hP 0 rfl rfl 4 (by decide) (hw _ q_1265) (fun _ h9 => h9) n1324 dX10_next_155 ?_
                    refine lv_iconst (v := 1) hx hb dX10_next_158 (by decide) ?_
                    refine lv_iadd hx hb dX10_next_159 ?_
                    refine lv_topi (fun v1325 ev1325 => ?_)
                    have bv1325 : v1325.toInt = u2.toInt + 1 := by rw [ev1325]; exact add_k rfl rfl k695 ⟨Int.le_refl _, Int.le_refl _⟩ (by decide)
                    have k1326 : 1 ≤ v1325.toInt ∧ v1325.toInt ≤ 939 := add_r bv1325 k695 ⟨Int.le_refl _, Int.le_refl _⟩ (by decide)
                    refine put_f (D := D) (ci := 10) (v := .int v1325) (ty := .int) (C := RX10) (T := TX10) (N := 67) hx hb hw inAX10 tyX10 tyX10_ok nmX10 hown hK hP hD hS 0 rfl rfl 4 (by decide) (hw _ q_1265) (fun _ h9 => h9) rfl (by decide +kernel) rfl rfl dX10_next_160 (fun H locs F1327 eF1327 hP hD hS => ?_)
                    have hP : va_P D vwCl [(h0, .inr (10, vL 67 F1327)), (h_tape, .inl (cB, 940, .inl f_tape))] H := hP
                    have hD : va_D A [(h0, .inr (10, vL 67 F1327)), (h_tape, .inl (cB, 940, .inl f_tape))] := hD
                    exact ret_v hx hb hr hlocks hS hP hD dX10_next_163 (Nat.le_of_ble_eq_true rfl) (Nat.le_of_ble_eq_true rfl) ⟨F1327, v1325, 3, u2, 0, v707, x_word, (SAME.up eF1327 (SAME.up eF1322 (SAME.up eF1321 (SAME.up eF9 (SAME.up eF8 (SAME.tr SAME.rf i4 (by decide)) (by decide)) (by decide)) (by decide)) (by decide)) (by decide)), (get_eq eF1327), (ir_wk k1326 (by decide) (by decide)), (get_ne eF1327 (by decide) (get_ne eF1322 (by decide) (get_eq eF1321))), (show 0 ≤ (3 : Int32).toInt ∧ (3 : Int32).toInt ≤ 4 by decide), (get_ne eF1327 (by decide) (get_ne eF1322 (by decide) (get_ne eF1321 (by decide) (get_ne eF9 (by decide) (get_eq eF8))))), (ir_wk k695 (by decide) (by decide)), (get_ne eF1327 (by decide) (get_ne eF1322 (by decide) (get_ne eF1321 (by decide) (get_eq eF9)))), (show 0 ≤ (0 : Int32).toInt ∧ (0 : Int32).toInt ≤ 940 by decide), (get_ne eF1327 (by decide) (get_eq eF1322)), (get_ne eF1327 (by decide) (get_ne eF1322 (by decide) (get_ne eF1321 (by decide) (get_ne eF9 (by decide) (get_ne eF8 (by decide) (SAME.at i4 (by decide) e_word)))))), (by have zl0 : (0 : Int32).toInt = 0 := (by decide); have zl4 : (4 : Int32).toInt = 4 := (by decide); omega), (by have zl0 : (0 : Int32).toInt = 0 := (by decide); have zl4 : (4 : Int32).toInt = 4 := (by decide); omega), (by have zl0 : (0 : Int32).toInt = 0 := (by decide); have zl3 : (3 : Int32).toInt = 3 := (by decide); omega), rfl⟩
            · have hP : va_P D vwCl [(h0, .inr (10, vL 67 F9)), (h_tape, .inl (cB, 940, .inl f_tape))] H := hP
              have hD : va_D A [(h0, .inr (10, vL 67 F9)), (h_tape, .inl (cB, 940, .inl f_tape))] := hD
              refine W.widen (k := 0) (n := 0) (Nat.le_of_ble_eq_true rfl) (Nat.le_of_ble_eq_true rfl) ?_
              have k1328 : 48 ≤ v707.toInt ∧ v707.toInt ≤ 96 := ⟨Int.le_trans (Int.le_refl _) t1257, k1252.2⟩
              have k1329 : 48 ≤ v707.toInt ∧ v707.toInt ≤ 57 := ⟨k1328.1, Int.le_trans t1258 (Int.le_refl _)⟩
              refine lv_if_ne (tgt := 164) hx hb dX10_next_106 (by decide) (fun _ => ?_) (fun g => absurd g (by decide))
              refine lv_iload_n hx hb dX10_next_164 rfl (lv_at hl 0 rfl) ?_
              refine call_Si (wr := [(h0, .inr (10, vL 67 F9)), (h_tape, .inl (cB, 940, .inl f_tape))]) (As := [.int v707]) (rest := []) hx hb hml hown hw (m_X10_isSmall l D cI cJ cB cP cM cZ v707 _ ) wS_X10_182_X10_isSmall dX10_next_165 hP hD hS hA [] [0, 1] rfl rfl (by decide) (by decide) (by decide) GG.fb hG.at hl.1 rfl (Nat.le_of_ble_eq_true rfl) ⟨(Nat.le_of_ble_eq_true rfl), (Nat.le_of_ble_eq_true rfl)⟩ ⟨(Nat.le_of_ble_eq_true rfl), (Nat.le_of_ble_eq_true rfl)⟩ (fun r1330 u H locs hp hP hD hS => ?_)
              rcases hp with ⟨t1331, rfl, rfl⟩ | ⟨t1332, t1333, rfl, rfl⟩ | ⟨t1334, t1335, rfl, rfl⟩
              · have hP : va_P D vwCl [(h0, .inr (10, vL 67 F9)), (h_tape, .inl (cB, 940, .inl f_tape))] H := hP
                have hD : va_D A [(h0, .inr (10, vL 67 F9)), (h_tape, .inl (cB, 940, .inl f_tape))] := hD
                refine W.widen (k := 0) (n := 0) (Nat.le_of_ble_eq_true rfl) (Nat.le_of_ble_eq_true rfl) ?_
                refine lv_istore_n (lv' := [(2, .int 0), (1, .int v707), (0, .ref h0)]) hx hb dX10_next_168 rfl hl (by decide) rfl (fun ls hl => ?_)
                refine lv_iconst (v := 1) hx hb dX10_next_169 (by decide) ?_
                refine lv_istore_n (lv' := [(3, .int 1), (2, .int 0), (1, .int v707), (0, .ref h0)]) hx hb dX10_next_170 rfl hl (by decide) rfl (fun ls hl => ?_)
                exact cut711 0 (show 0 ≤ (0 : Int32).toInt ∧ (0 : Int32).toInt ≤ 1 by decide) (by show ((48 ≤ v707.toInt ∧ v707.toInt ≤ 57 ∧ 0 = 0) ∨ (97 ≤ v707.toInt ∧ v707.toInt ≤ 122 ∧ 0 = 1)); omega) _ _ _ hP hD hS (lv_sub hl [0, 1, 2, 3] rfl)
              · have hP : va_P D vwCl [(h0, .inr (10, vL 67 F9)), (h_tape, .inl (cB, 940, .inl f_tape))] H := hP
                have hD : va_D A [(h0, .inr (10, vL 67 F9)), (h_tape, .inl (cB, 940, .inl f_tape))] := hD
                refine W.widen (k := 0) (n := 0) (Nat.le_of_ble_eq_true rfl) (Nat.le_of_ble_eq_true rfl) ?_
                exact False.elim (bad_le t1332 (Int.le_refl _) k1329.2 (by decide))
              · have hP : va_P D vwCl [(h0, .inr (10, vL 67 F9)), (h_tape, .inl (cB, 940, .inl f_tape))] H := hP
                have hD : va_D A [(h0, .inr (10, vL 67 F9)), (h_tape, .inl (cB, 940, .inl f_tape))] := hD
                refine W.widen (k := 0) (n := 0) (Nat.le_of_ble_eq_true rfl) (Nat.le_of_ble_eq_true rfl) ?_
                exact False.elim (bad_le t1334 (Int.le_refl _) k1329.2 (by decide))
          · have hP : va_P D vwCl [(h0, .inr (10, vL 67 F9)), (h_tape, .inl (cB, 940, .inl f_tape))] H := hP
            have hD : va_D A [(h0, .inr (10, vL 67 F9)), (h_tape, .inl (cB, 940, .inl f_tape))] := hD
            refine W.widen (k := 0) (n := 0) (Nat.le_of_ble_eq_true rfl) (Nat.le_of_ble_eq_true rfl) ?_
            have k1337 : 97 ≤ v707.toInt ∧ v707.toInt ≤ 255 := ⟨Int.le_trans (Int.le_refl _) t1247, k708.2⟩
            have k1338 : 123 ≤ v707.toInt ∧ v707.toInt ≤ 255 := ⟨lo_lt t1248 (Int.le_refl _) (by decide), k1337.2⟩
            refine lv_if_ne (tgt := 164) hx hb dX10_next_99 (by decide) (fun g => absurd (by decide) g) (fun _ => ?_)
            refine lv_iload_n hx hb dX10_next_102 rfl (lv_at hl 0 rfl) ?_
            refine call_Si (wr := [(h0, .inr (10, vL 67 F9)), (h_tape, .inl (cB, 940, .inl f_tape))]) (As := [.int v707]) (rest := []) hx hb hml hown hw (m_X10_isDigit l D cI cJ cB cP cM cZ v707 _ ) wS_X10_186_X10_isDigit dX10_next_103 hP hD hS hA [] [0, 1] rfl rfl (by decide) (by decide) (by decide) GG.fb hG.at hl.1 rfl (Nat.le_of_ble_eq_true rfl) ⟨(Nat.le_of_ble_eq_true rfl), (Nat.le_of_ble_eq_true rfl)⟩ ⟨(Nat.le_of_ble_eq_true rfl), (Nat.le_of_ble_eq_true rfl)⟩ (fun r1339 u H locs hp hP hD hS => ?_)
            rcases hp with ⟨t1340, rfl, rfl⟩ | ⟨t1341, t1342, rfl, rfl⟩ | ⟨t1343, t1344, rfl, rfl⟩
            · have hP : va_P D vwCl [(h0, .inr (10, vL 67 F9)), (h_tape, .inl (cB, 940, .inl f_tape))] H := hP
              have hD : va_D A [(h0, .inr (10, vL 67 F9)), (h_tape, .inl (cB, 940, .inl f_tape))] := hD
              refine W.widen (k := 0) (n := 0) (Nat.le_of_ble_eq_true rfl) (Nat.le_of_ble_eq_true rfl) ?_
              exact False.elim (bad_lt t1340 k1338.1 (Int.le_refl _) (by decide))
            · have hP : va_P D vwCl [(h0, .inr (10, vL 67 F9)), (h_tape, .inl (cB, 940, .inl f_tape))] H := hP
              have hD : va_D A [(h0, .inr (10, vL 67 F9)), (h_tape, .inl (cB, 940, .inl f_tape))] := hD
              refine W.widen (k := 0) (n := 0) (Nat.le_of_ble_eq_true rfl) (Nat.le_of_ble_eq_true rfl) ?_
              refine lv_if_ne (tgt := 164) hx hb dX10_next_106 (by decide) (fun g => absurd (by decide) g) (fun _ => ?_)
              refine lv_aload_n hx hb dX10_next_109 rfl (lv_at hl 1 rfl) ?_
              refine lv_iload_n hx hb dX10_next_110 rfl (lv_at hl 0 rfl) ?_
              refine lv_bipush (v := 59) hx hb dX10_next_111 (by decide) ?_
              refine lv_icmp_eq (tgt := 140) hx hb dX10_next_113 (by decide) (fun c1346 => False.elim (bad_le (Int.le_of_eq (eq_i (a := v707.toInt) (b := 59) rfl rfl c1346)) k1338.1 (Int.le_refl _) (by decide))) (fun c1346 => ?_)
              have dc1346 : v707.toInt ≠ 59 := ne_i (a := v707.toInt) (b := 59) rfl rfl c1346
              refine lv_iload_n hx hb dX10_next_116 rfl (lv_at hl 0 rfl) ?_
              refine lv_bipush (v := 40) hx hb dX10_next_117 (by decide) ?_
              refine lv_icmp_eq (tgt := 140) hx hb dX10_next_119 (by decide) (fun c1347 => False.elim (bad_le (Int.le_of_eq (eq_i (a := v707.toInt) (b := 40) rfl rfl c1347)) k1338.1 (Int.le_refl _) (by decide))) (fun c1347 => ?_)
              have dc1347 : v707.toInt ≠ 40 := ne_i (a := v707.toInt) (b := 40) rfl rfl c1347
              refine lv_iload_n hx hb dX10_next_122 rfl (lv_at hl 0 rfl) ?_
              refine lv_bipush (v := 41) hx hb dX10_next_123 (by decide) ?_
              refine lv_icmp_eq (tgt := 140) hx hb dX10_next_125 (by decide) (fun c1348 => False.elim (bad_le (Int.le_of_eq (eq_i (a := v707.toInt) (b := 41) rfl rfl c1348)) k1338.1 (Int.le_refl _) (by decide))) (fun c1348 => ?_)
              have dc1348 : v707.toInt ≠ 41 := ne_i (a := v707.toInt) (b := 41) rfl rfl c1348
              refine lv_iload_n hx hb dX10_next_128 rfl (lv_at hl 0 rfl) ?_
              refine lv_bipush (v := 60) hx hb dX10_next_129 (by decide) ?_
              refine lv_icmp_lt (tgt := 144) hx hb dX10_next_131 (by decide) (fun c1349 => False.elim (bad_lt (lt_i (a := v707.toInt) (b := 60) rfl rfl c1349) k1338.1 (Int.le_refl _) (by decide))) (fun c1349 => ?_)
              have dc1349 : 60 ≤ v707.toInt := nlt_i (a := v707.toInt) (b := 60) rfl rfl c1349
              refine lv_iload_n hx hb dX10_next_134 rfl (lv_at hl 0 rfl) ?_
              refine lv_bipush (v := 62) hx hb dX10_next_135 (by decide) ?_
              refine lv_icmp_gt (tgt := 144) hx hb dX10_next_137 (by decide) (fun c1350 => ?_) (fun c1350 => False.elim (bad_le (nlt_i (a := 62) (b := v707.toInt) rfl rfl c1350) k1338.1 (Int.le_refl _) (by decide)))
              have dc1350 : 62 < v707.toInt := lt_i (a := 62) (b := v707.toInt) rfl rfl c1350
              refine lv_iconst (v := 4) hx hb dX10_next_144 (by decide) ?_
              refine put_f (D := D) (ci := 10) (v := .int 4) (ty := .int) (C := RX10) (T := TX10) (N := 67) hx hb hw inAX10 tyX10 tyX10_ok nmX10 hown hK hP hD hS 0 rfl rfl 11 (by decide) (hw _ q_1272) (fun _ h9 => h9) rfl (by decide +kernel) rfl rfl dX10_next_145 (fun H locs F1351 eF1351 hP hD hS => ?_)
              have hP : va_P D vwCl [(h0, .inr (10, vL 67 F1351)), (h_tape, .inl (cB, 940, .inl f_tape))] H := hP
              have hD : va_D A [(h0, .inr (10, vL 67 F1351)), (h_tape, .inl (cB, 940, .inl f_tape))] := hD
              refine lv_aload_n hx hb dX10_next_148 rfl (lv_at hl 1 rfl) ?_
              refine lv_iload_n hx hb dX10_next_149 rfl (lv_at hl 0 rfl) ?_
              refine put_f (D := D) (ci := 10) (v := .int v707) (ty := .int) (C := RX10) (T := TX10) (N := 67) hx hb hw inAX10 tyX10 tyX10_ok nmX10 hown hK hP hD hS 0 rfl rfl 14 (by decide) (hw _ q_1275) (fun _ h9 => h9) rfl (by decide +kernel) rfl rfl dX10_next_150 (fun H locs F1352 eF1352 hP hD hS => ?_)
              have hP : va_P D vwCl [(h0, .inr (10, vL 67 F1352)), (h_tape, .inl (cB, 940, .inl f_tape))] H := hP
              have hD : va_D A [(h0, .inr (10, vL 67 F1352)), (h_tape, .inl (cB, 940, .inl f_tape))] := hD
              refine lv_aload_n hx hb dX10_next_153 rfl (lv_at hl 1 rfl) ?_
              refine lv_dup hx hb dX10_next_154 rfl ?_
              have n1353 : F1351 4 = .int u2 := (get_ne eF1351 (by decide) n693)
              have n1354 : F1352 4 = .int u2 := (get_ne eF1352 (by decide) n1353)
              refine get_f (D := D) (ci := 10) (v := .int u2) (C := RX10) (T := TX10) (N := 67) hx hb hw inAX10 hown hK hP 0 rfl rfl 4 (by decide) (hw _ q_1265) (fun _ h9 => h9) n1354 dX10_next_155 ?_
              refine lv_iconst (v := 1) hx hb dX10_next_158 (by decide) ?_
              refine lv_iadd hx hb dX10_next_159 ?_
              refine lv_topi (fun v1355 ev1355 => ?_)
              have bv1355 : v1355.toInt = u2.toInt + 1 := by rw [ev1355]; exact add_k rfl rfl k695 ⟨Int.le_refl _, Int.le_refl _⟩ (by decide)
              have k1356 : 1 ≤ v1355.toInt ∧ v1355.toInt ≤ 939 := add_r bv1355 k695 ⟨Int.le_refl _, Int.le_refl _⟩ (by decide)
              refine put_f (D := D) (ci := 10) (v := .int v1355) (ty := .int) (C := RX10) (T := TX10) (N := 67) hx hb hw inAX10 tyX10 tyX10_ok nmX10 hown hK hP hD hS 0 rfl rfl 4 (by decide) (hw _ q_1265) (fun _ h9 => h9) rfl (by decide +kernel) rfl rfl dX10_next_160 (fun H locs F1357 eF1357 hP hD hS => ?_)
              have hP : va_P D vwCl [(h0, .inr (10, vL 67 F1357)), (h_tape, .inl (cB, 940, .inl f_tape))] H := hP
              have hD : va_D A [(h0, .inr (10, vL 67 F1357)), (h_tape, .inl (cB, 940, .inl f_tape))] := hD
              exact ret_v hx hb hr hlocks hS hP hD dX10_next_163 (Nat.le_of_ble_eq_true rfl) (Nat.le_of_ble_eq_true rfl) ⟨F1357, v1355, 4, u2, 0, v707, x_word, (SAME.up eF1357 (SAME.up eF1352 (SAME.up eF1351 (SAME.up eF9 (SAME.up eF8 (SAME.tr SAME.rf i4 (by decide)) (by decide)) (by decide)) (by decide)) (by decide)) (by decide)), (get_eq eF1357), (ir_wk k1356 (by decide) (by decide)), (get_ne eF1357 (by decide) (get_ne eF1352 (by decide) (get_eq eF1351))), (show 0 ≤ (4 : Int32).toInt ∧ (4 : Int32).toInt ≤ 4 by decide), (get_ne eF1357 (by decide) (get_ne eF1352 (by decide) (get_ne eF1351 (by decide) (get_ne eF9 (by decide) (get_eq eF8))))), (ir_wk k695 (by decide) (by decide)), (get_ne eF1357 (by decide) (get_ne eF1352 (by decide) (get_ne eF1351 (by decide) (get_eq eF9)))), (show 0 ≤ (0 : Int32).toInt ∧ (0 : Int32).toInt ≤ 940 by decide), (get_ne eF1357 (by decide) (get_eq eF1352)), (get_ne eF1357 (by decide) (get_ne eF1352 (by decide) (get_ne eF1351 (by decide) (get_ne eF9 (by decide) (get_ne eF8 (by decide) (SAME.at i4 (by decide) e_word)))))), (by have zl0 : (0 : Int32).toInt = 0 := (by decide); have zl4 : (4 : Int32).toInt = 4 := (by decide); omega), (by have zl0 : (0 : Int32).toInt = 0 := (by decide); have zl4 : (4 : Int32).toInt = 4 := (by decide); omega), (by have zl0 : (0 : Int32).toInt = 0 := (by decide); have zl4 : (4 : Int32).toInt = 4 := (by decide); omega), rfl⟩
            · have hP : va_P D vwCl [(h0, .inr (10, vL 67 F9)), (h_tape, .inl (cB, 940, .inl f_tape))] H := hP
              have hD : va_D A [(h0, .inr (10, vL 67 F9)), (h_tape, .inl (cB, 940, .inl f_tape))] := hD
              refine W.widen (k := 0) (n := 0) (Nat.le_of_ble_eq_true rfl) (Nat.le_of_ble_eq_true rfl) ?_
              exact False.elim (bad_le t1344 k1338.1 (Int.le_refl _) (by decide))
          · have hP : va_P D vwCl [(h0, .inr (10, vL 67 F9)), (h_tape, .inl (cB, 940, .inl f_tape))] H := hP
            have hD : va_D A [(h0, .inr (10, vL 67 F9)), (h_tape, .inl (cB, 940, .inl f_tape))] := hD
            refine W.widen (k := 0) (n := 0) (Nat.le_of_ble_eq_true rfl) (Nat.le_of_ble_eq_true rfl) ?_
            have k1358 : 97 ≤ v707.toInt ∧ v707.toInt ≤ 255 := ⟨Int.le_trans (Int.le_refl _) t1249, k708.2⟩
            have k1359 : 97 ≤ v707.toInt ∧ v707.toInt ≤ 122 := ⟨k1358.1, Int.le_trans t1250 (Int.le_refl _)⟩
            refine lv_if_ne (tgt := 164) hx hb dX10_next_99 (by decide) (fun _ => ?_) (fun g => absurd g (by decide))
            refine lv_iload_n hx hb dX10_next_164 rfl (lv_at hl 0 rfl) ?_
            refine call_Si (wr := [(h0, .inr (10, vL 67 F9)), (h_tape, .inl (cB, 940, .inl f_tape))]) (As := [.int v707]) (rest := []) hx hb hml hown hw (m_X10_isSmall l D cI cJ cB cP cM cZ v707 _ ) wS_X10_182_X10_isSmall dX10_next_165 hP hD hS hA [] [0, 1] rfl rfl (by decide) (by decide) (by decide) GG.fb hG.at hl.1 rfl (Nat.le_of_ble_eq_true rfl) ⟨(Nat.le_of_ble_eq_true rfl), (Nat.le_of_ble_eq_true rfl)⟩ ⟨(Nat.le_of_ble_eq_true rfl), (Nat.le_of_ble_eq_true rfl)⟩ (fun r1360 u H locs hp hP hD hS => ?_)
            rcases hp with ⟨t1361, rfl, rfl⟩ | ⟨t1362, t1363, rfl, rfl⟩ | ⟨t1364, t1365, rfl, rfl⟩
            · have hP : va_P D vwCl [(h0, .inr (10, vL 67 F9)), (h_tape, .inl (cB, 940, .inl f_tape))] H := hP
              have hD : va_D A [(h0, .inr (10, vL 67 F9)), (h_tape, .inl (cB, 940, .inl f_tape))] := hD
              refine W.widen (k := 0) (n := 0) (Nat.le_of_ble_eq_true rfl) (Nat.le_of_ble_eq_true rfl) ?_
              exact False.elim (bad_lt t1361 k1359.1 (Int.le_refl _) (by decide))
            · have hP : va_P D vwCl [(h0, .inr (10, vL 67 F9)), (h_tape, .inl (cB, 940, .inl f_tape))] H := hP
              have hD : va_D A [(h0, .inr (10, vL 67 F9)), (h_tape, .inl (cB, 940, .inl f_tape))] := hD
              refine W.widen (k := 0) (n := 0) (Nat.le_of_ble_eq_true rfl) (Nat.le_of_ble_eq_true rfl) ?_
              exact False.elim (bad_lt t1363 (Int.le_refl _) k1359.2 (by decide))
            · have hP : va_P D vwCl [(h0, .inr (10, vL 67 F9)), (h_tape, .inl (cB, 940, .inl f_tape))] H := hP
              have hD : va_D A [(h0, .inr (10, vL 67 F9)), (h_tape, .inl (cB, 940, .inl f_tape))] := hD
              refine W.widen (k := 0) (n := 0) (Nat.le_of_ble_eq_true rfl) (Nat.le_of_ble_eq_true rfl) ?_
              refine lv_istore_n (lv' := [(2, .int 1), (1, .int v707), (0, .ref h0)]) hx hb dX10_next_168 rfl hl (by decide) rfl (fun ls hl => ?_)
              refine lv_iconst (v := 1) hx hb dX10_next_169 (by decide) ?_
              refine lv_istore_n (lv' := [(3, .int 1), (2, .int 1), (1, .int v707), (0, .ref h0)]) hx hb dX10_next_170 rfl hl (by decide) rfl (fun ls hl => ?_)
              exact cut711 1 (show 0 ≤ (1 : Int32).toInt ∧ (1 : Int32).toInt ≤ 1 by decide) (by show ((48 ≤ v707.toInt ∧ v707.toInt ≤ 57 ∧ 1 = 0) ∨ (97 ≤ v707.toInt ∧ v707.toInt ≤ 122 ∧ 1 = 1)); omega) _ _ _ hP hD hS (lv_sub hl [0, 1, 2, 3] rfl)
      · have dc694 : x_limit.toInt ≤ u2.toInt := nlt_i (a := u2.toInt) (b := x_limit.toInt) rfl rfl c694
        have k1367 : 200 ≤ u2.toInt ∧ u2.toInt ≤ 940 := ⟨Int.le_trans k690.1 dc694, i6.2⟩
        refine lv_aload_n hx hb dX10_next_66 rfl (lv_at hl 0 rfl) ?_
        refine lv_aload_n hx hb dX10_next_67 rfl (lv_at hl 0 rfl) ?_
        refine get_f (D := D) (ci := 10) (v := .int x_limit) (C := RX10) (T := TX10) (N := 67) hx hb hw inAX10 hown hK hP 0 rfl rfl 5 (by decide) (hw _ q_1266) (fun _ h9 => h9) n15 dX10_next_68 ?_
        refine put_f (D := D) (ci := 10) (v := .int x_limit) (ty := .int) (C := RX10) (T := TX10) (N := 67) hx hb hw inAX10 tyX10 tyX10_ok nmX10 hown hK hP hD hS 0 rfl rfl 12 (by decide) (hw _ q_1273) (fun _ h9 => h9) rfl (by decide +kernel) rfl rfl dX10_next_71 (fun H locs F1368 eF1368 hP hD hS => ?_)
        have hP : va_P D vwCl [(h0, .inr (10, vL 67 F1368)), (h_tape, .inl (cB, 940, .inl f_tape))] H := hP
        have hD : va_D A [(h0, .inr (10, vL 67 F1368)), (h_tape, .inl (cB, 940, .inl f_tape))] := hD
        refine lv_aload_n hx hb dX10_next_74 rfl (lv_at hl 0 rfl) ?_
        refine lv_iconst (v := 4) hx hb dX10_next_75 (by decide) ?_
        refine put_f (D := D) (ci := 10) (v := .int 4) (ty := .int) (C := RX10) (T := TX10) (N := 67) hx hb hw inAX10 tyX10 tyX10_ok nmX10 hown hK hP hD hS 0 rfl rfl 11 (by decide) (hw _ q_1272) (fun _ h9 => h9) rfl (by decide +kernel) rfl rfl dX10_next_76 (fun H locs F1369 eF1369 hP hD hS => ?_)
        have hP : va_P D vwCl [(h0, .inr (10, vL 67 F1369)), (h_tape, .inl (cB, 940, .inl f_tape))] H := hP
        have hD : va_D A [(h0, .inr (10, vL 67 F1369)), (h_tape, .inl (cB, 940, .inl f_tape))] := hD
        exact ret_v hx hb hr hlocks hS hP hD dX10_next_79 (Nat.le_of_ble_eq_true rfl) (Nat.le_of_ble_eq_true rfl) ⟨F1369, u2, 4, x_limit, 0, x_number, x_word, (SAME.up eF1369 (SAME.up eF1368 (SAME.up eF9 (SAME.up eF8 (SAME.tr SAME.rf i4 (by decide)) (by decide)) (by decide)) (by decide)) (by decide)), (get_ne eF1369 (by decide) (get_ne eF1368 (by decide) n693)), (ir_wk k1367 (by decide) (by decide)), (get_eq eF1369), (show 0 ≤ (4 : Int32).toInt ∧ (4 : Int32).toInt ≤ 4 by decide), (get_ne eF1369 (by decide) (get_eq eF1368)), (ir_wk k690 (by decide) (by decide)), (get_ne eF1369 (by decide) (get_ne eF1368 (by decide) (get_eq eF9))), (show 0 ≤ (0 : Int32).toInt ∧ (0 : Int32).toInt ≤ 940 by decide), (get_ne eF1369 (by decide) (get_ne eF1368 (by decide) (get_ne eF9 (by decide) (get_ne eF8 (by decide) (SAME.at i4 (by decide) e_number))))), (get_ne eF1369 (by decide) (get_ne eF1368 (by decide) (get_ne eF9 (by decide) (get_ne eF8 (by decide) (SAME.at i4 (by decide) e_word))))), (by have zl0 : (0 : Int32).toInt = 0 := (by decide); have zl4 : (4 : Int32).toInt = 4 := (by decide); omega), (by have zl0 : (0 : Int32).toInt = 0 := (by decide); have zl4 : (4 : Int32).toInt = 4 := (by decide); omega), (by have zl0 : (0 : Int32).toInt = 0 := (by decide); have zl4 : (4 : Int32).toInt = 4 := (by decide); omega), rfl⟩
  refine mloop (α := (Nat → Value) × (Int32)) (nL := 4) (D := D) (A := A) (H0 := s.heap) (fun a => (x_size.toInt - a.2.toInt).toNat) (fun a => SAME [4] Fh a.1 ∧ a.1 4 = .int a.2 ∧ IR 0 940 a.2 ∧ (x_p.toInt ≤ a.2.toInt)) (fun a => [(h0, .inr (10, vL 67 a.1)), (h_tape, .inl (cB, 940, .inl f_tape))]) (fun a => [(0, .ref h0)]) (fun H locs ls => W p l e ({ frames := 1, cells := 0, slots := 0, locals := 20 } : Room) s m [.ref h0].toArray below meth c H locs 0 0 (MQ below (va_Qv (fun (u : va_W) => ∃ (Gh : Nat → Value) (y_p : Int32) (y_token : Int32) (y_at : Int32) (y_span : Int32) (y_number : Int32) (y_word : Int64), SAME [4, 11, 12, 13, 14, 18] Fh Gh ∧ Gh 4 = .int y_p ∧ IR 0 940 y_p ∧ Gh 11 = .int y_token ∧ IR 0 4 y_token ∧ Gh 12 = .int y_at ∧ IR 0 940 y_at ∧ Gh 13 = .int y_span ∧ IR 0 940 y_span ∧ Gh 14 = .int y_number ∧ Gh 18 = .long y_word ∧ (x_p.toInt ≤ y_p.toInt) ∧ ((1 ≤ y_token.toInt → y_token.toInt ≤ 3 → x_p.toInt < y_p.toInt)) ∧ ((y_token.toInt = 2 → 0 ≤ y_number.toInt ∧ y_number.toInt ≤ 999)) ∧ u = [(h0, .inr (10, vL 67 Gh)), (h_tape, .inl (cB, 940, .inl f_tape))]) (PO D A) A) [.ref h0].toArray s 0 0 A) (F0 m 0 ls [])) ?_ (Fh, x_p) ⟨SAME.rf, e_p, i_x_p, (by show x_p.toInt ≤ x_p.toInt; omega)⟩ _ _ _ hP hD hS hl
  rintro ⟨G1, u2⟩ ⟨i1370, i1371, i1372, i1373⟩ ih H locs ls hP hD hS hl
  have i1372 : 0 ≤ u2.toInt ∧ u2.toInt ≤ 940 := i1372
  have i1373 : x_p.toInt ≤ u2.toInt := i1373
  have hP : va_P D vwCl [(h0, .inr (10, vL 67 G1)), (h_tape, .inl (cB, 940, .inl f_tape))] H := hP
  have hD : va_D A [(h0, .inr (10, vL 67 G1)), (h_tape, .inl (cB, 940, .inl f_tape))] := hD
  have hl : lv_has ls 4 [(0, .ref h0)] := hl
  refine lv_aload_n hx hb dX10_next_0 rfl (lv_at hl 0 rfl) ?_
  have n1374 : G1 1 = .ref h_tape := (SAME.at i1370 (by decide) e_tape)
  have n1375 : G1 3 = .int x_size := (SAME.at i1370 (by decide) e_size)
  refine call_Vi (wr := []) (As := []) (rest := []) hx hb hml hown hw (m_X10_peek l D cI cJ cB cP cM cZ h0 h_tape G1 x_size u2 f_tape _ n1374 n1375 i_x_size i1371 i1372) wV_X10_169_X10_peek dX10_next_1 hK hP hD hS hA [0, 1] [] rfl rfl (by decide) (by decide) (by decide) 0 10 rfl rfl GG.fb hG.at hl.1 rfl (Nat.le_of_ble_eq_true rfl) ⟨(Nat.le_of_ble_eq_true rfl), (Nat.le_of_ble_eq_true rfl)⟩ ⟨(Nat.le_of_ble_eq_true rfl), (Nat.le_of_ble_eq_true rfl)⟩ (fun r1376 u H locs hp hP hD hS => ?_)
  rcases hp with ⟨t1377, rfl, rfl⟩ | ⟨t1378, t1379, rfl, rfl⟩
  · have hP : va_P D vwCl [(h0, .inr (10, vL 67 G1)), (h_tape, .inl (cB, 940, .inl f_tape))] H := hP
    have hD : va_D A [(h0, .inr (10, vL 67 G1)), (h_tape, .inl (cB, 940, .inl f_tape))] := hD
    refine W.widen (k := 0) (n := 0) (Nat.le_of_ble_eq_true rfl) (Nat.le_of_ble_eq_true rfl) ?_
    refine lv_bipush (v := 32) hx hb dX10_next_4 (by decide) ?_
    refine lv_icmp_eq (tgt := 18) hx hb dX10_next_6 (by decide) (fun g => absurd g (by decide)) (fun _ => ?_)
    refine lv_aload_n hx hb dX10_next_9 rfl (lv_at hl 0 rfl) ?_
    refine call_Vi (wr := []) (As := []) (rest := []) hx hb hml hown hw (m_X10_peek l D cI cJ cB cP cM cZ h0 h_tape G1 x_size u2 f_tape _ n1374 n1375 i_x_size i1371 i1372) wV_X10_169_X10_peek dX10_next_10 hK hP hD hS hA [0, 1] [] rfl rfl (by decide) (by decide) (by decide) 0 10 rfl rfl GG.fb hG.at hl.1 rfl (Nat.le_of_ble_eq_true rfl) ⟨(Nat.le_of_ble_eq_true rfl), (Nat.le_of_ble_eq_true rfl)⟩ ⟨(Nat.le_of_ble_eq_true rfl), (Nat.le_of_ble_eq_true rfl)⟩ (fun r1381 u H locs hp hP hD hS => ?_)
    rcases hp with ⟨t1382, rfl, rfl⟩ | ⟨t1383, t1384, rfl, rfl⟩
    · have hP : va_P D vwCl [(h0, .inr (10, vL 67 G1)), (h_tape, .inl (cB, 940, .inl f_tape))] H := hP
      have hD : va_D A [(h0, .inr (10, vL 67 G1)), (h_tape, .inl (cB, 940, .inl f_tape))] := hD
      refine W.widen (k := 0) (n := 0) (Nat.le_of_ble_eq_true rfl) (Nat.le_of_ble_eq_true rfl) ?_
      refine lv_bipush (v := 10) hx hb dX10_next_13 (by decide) ?_
      refine lv_icmp_ne (tgt := 31) hx hb dX10_next_15 (by decide) (fun _ => ?_) (fun g => absurd g (by decide))
      exact cut3 G1 u2 (SAME.tr SAME.rf i1370 (by decide)) i1371 i1372 (by show x_p.toInt ≤ u2.toInt; omega) _ _ _ hP hD hS (lv_sub hl [0] rfl)
    · have hP : va_P D vwCl [(h0, .inr (10, vL 67 G1)), (h_tape, .inl (cB, 940, .inl f_tape))] H := hP
      have hD : va_D A [(h0, .inr (10, vL 67 G1)), (h_tape, .inl (cB, 940, .inl f_tape))] := hD
      refine W.widen (k := 0) (n := 0) (Nat.le_of_ble_eq_true rfl) (Nat.le_of_ble_eq_true rfl) ?_
      refine lv_topi (fun v1386 ev1386 => ?_)
      have k1387 : 0 ≤ v1386.toInt ∧ v1386.toInt ≤ 255 := by rw [ev1386]; exact t1383
      have k1388 : 0 ≤ u2.toInt ∧ u2.toInt ≤ 939 := ⟨i1372.1, up_lt t1384 i_x_size.2 (by decide)⟩
      have k1389 : 1 ≤ x_size.toInt ∧ x_size.toInt ≤ 940 := ⟨lo_lt t1384 i1372.1 (by decide), i_x_size.2⟩
      refine lv_bipush (v := 10) hx hb dX10_next_13 (by decide) ?_
      refine lv_icmp_ne (tgt := 31) hx hb dX10_next_15 (by decide) (fun c1390 => ?_) (fun c1390 => ?_)
      · have dc1390 : v1386.toInt ≠ 10 := ne_i (a := v1386.toInt) (b := 10) rfl rfl c1390
        exact cut3 G1 u2 (SAME.tr SAME.rf i1370 (by decide)) i1371 (ir_wk k1388 (by decide) (by decide)) (by show x_p.toInt ≤ u2.toInt; omega) _ _ _ hP hD hS (lv_sub hl [0] rfl)
      · have dc1390 : v1386.toInt = 10 := eq_i (a := v1386.toInt) (b := 10) rfl rfl c1390
        have k1391 : 10 ≤ v1386.toInt ∧ v1386.toInt ≤ 10 := ⟨Int.le_trans (Int.le_refl _) (Int.le_of_eq dc1390.symm), Int.le_trans (Int.le_of_eq dc1390) (Int.le_refl _)⟩
        refine lv_aload_n hx hb dX10_next_18 rfl (lv_at hl 0 rfl) ?_
        refine lv_dup hx hb dX10_next_19 rfl ?_
        refine get_f (D := D) (ci := 10) (v := .int u2) (C := RX10) (T := TX10) (N := 67) hx hb hw inAX10 hown hK hP 0 rfl rfl 4 (by decide) (hw _ q_1265) (fun _ h9 => h9) i1371 dX10_next_20 ?_
        refine lv_iconst (v := 1) hx hb dX10_next_23 (by decide) ?_
        refine lv_iadd hx hb dX10_next_24 ?_
        refine lv_topi (fun v1392 ev1392 => ?_)
        have bv1392 : v1392.toInt = u2.toInt + 1 := by rw [ev1392]; exact add_k rfl rfl k1388 ⟨Int.le_refl _, Int.le_refl _⟩ (by decide)
        have k1393 : 1 ≤ v1392.toInt ∧ v1392.toInt ≤ 940 := add_r bv1392 k1388 ⟨Int.le_refl _, Int.le_refl _⟩ (by decide)
        refine put_f (D := D) (ci := 10) (v := .int v1392) (ty := .int) (C := RX10) (T := TX10) (N := 67) hx hb hw inAX10 tyX10 tyX10_ok nmX10 hown hK hP hD hS 0 rfl rfl 4 (by decide) (hw _ q_1265) (fun _ h9 => h9) rfl (by decide +kernel) rfl rfl dX10_next_25 (fun H locs F1394 eF1394 hP hD hS => ?_)
        have hP : va_P D vwCl [(h0, .inr (10, vL 67 F1394)), (h_tape, .inl (cB, 940, .inl f_tape))] H := hP
        have hD : va_D A [(h0, .inr (10, vL 67 F1394)), (h_tape, .inl (cB, 940, .inl f_tape))] := hD
        refine lv_goto (tgt := 0) hx hb dX10_next_28 (by decide) ?_
        exact ih (F1394, v1392) ⟨(SAME.up eF1394 (SAME.tr SAME.rf i1370 (by decide)) (by decide)), (get_eq eF1394), (ir_wk k1393 (by decide) (by decide)), (by show x_p.toInt ≤ v1392.toInt; omega)⟩ (by show (x_size.toInt - v1392.toInt).toNat < (x_size.toInt - u2.toInt).toNat; omega) _ _ _ hP hD hS (lv_sub hl [0] rfl)
  · have hP : va_P D vwCl [(h0, .inr (10, vL 67 G1)), (h_tape, .inl (cB, 940, .inl f_tape))] H := hP
    have hD : va_D A [(h0, .inr (10, vL 67 G1)), (h_tape, .inl (cB, 940, .inl f_tape))] := hD
    refine W.widen (k := 0) (n := 0) (Nat.le_of_ble_eq_true rfl) (Nat.le_of_ble_eq_true rfl) ?_
    refine lv_topi (fun v1395 ev1395 => ?_)
    have k1396 : 0 ≤ v1395.toInt ∧ v1395.toInt ≤ 255 := by rw [ev1395]; exact t1378
    have k1397 : 0 ≤ u2.toInt ∧ u2.toInt ≤ 939 := ⟨i1372.1, up_lt t1379 i_x_size.2 (by decide)⟩
    have k1398 : 1 ≤ x_size.toInt ∧ x_size.toInt ≤ 940 := ⟨lo_lt t1379 i1372.1 (by decide), i_x_size.2⟩
    refine lv_bipush (v := 32) hx hb dX10_next_4 (by decide) ?_
    refine lv_icmp_eq (tgt := 18) hx hb dX10_next_6 (by decide) (fun c1399 => ?_) (fun c1399 => ?_)
    · have dc1399 : v1395.toInt = 32 := eq_i (a := v1395.toInt) (b := 32) rfl rfl c1399
      have k1400 : 32 ≤ v1395.toInt ∧ v1395.toInt ≤ 32 := ⟨Int.le_trans (Int.le_refl _) (Int.le_of_eq dc1399.symm), Int.le_trans (Int.le_of_eq dc1399) (Int.le_refl _)⟩
      refine lv_aload_n hx hb dX10_next_18 rfl (lv_at hl 0 rfl) ?_
      refine lv_dup hx hb dX10_next_19 rfl ?_
      refine get_f (D := D) (ci := 10) (v := .int u2) (C := RX10) (T := TX10) (N := 67) hx hb hw inAX10 hown hK hP 0 rfl rfl 4 (by decide) (hw _ q_1265) (fun _ h9 => h9) i1371 dX10_next_20 ?_
      refine lv_iconst (v := 1) hx hb dX10_next_23 (by decide) ?_
      refine lv_iadd hx hb dX10_next_24 ?_
      refine lv_topi (fun v1401 ev1401 => ?_)
      have bv1401 : v1401.toInt = u2.toInt + 1 := by rw [ev1401]; exact add_k rfl rfl k1397 ⟨Int.le_refl _, Int.le_refl _⟩ (by decide)
      have k1402 : 1 ≤ v1401.toInt ∧ v1401.toInt ≤ 940 := add_r bv1401 k1397 ⟨Int.le_refl _, Int.le_refl _⟩ (by decide)
      refine put_f (D := D) (ci := 10) (v := .int v1401) (ty := .int) (C := RX10) (T := TX10) (N := 67) hx hb hw inAX10 tyX10 tyX10_ok nmX10 hown hK hP hD hS 0 rfl rfl 4 (by decide) (hw _ q_1265) (fun _ h9 => h9) rfl (by decide +kernel) rfl rfl dX10_next_25 (fun H locs F1403 eF1403 hP hD hS => ?_)
      have hP : va_P D vwCl [(h0, .inr (10, vL 67 F1403)), (h_tape, .inl (cB, 940, .inl f_tape))] H := hP
      have hD : va_D A [(h0, .inr (10, vL 67 F1403)), (h_tape, .inl (cB, 940, .inl f_tape))] := hD
      refine lv_goto (tgt := 0) hx hb dX10_next_28 (by decide) ?_
      exact ih (F1403, v1401) ⟨(SAME.up eF1403 (SAME.tr SAME.rf i1370 (by decide)) (by decide)), (get_eq eF1403), (ir_wk k1402 (by decide) (by decide)), (by show x_p.toInt ≤ v1401.toInt; omega)⟩ (by show (x_size.toInt - v1401.toInt).toNat < (x_size.toInt - u2.toInt).toNat; omega) _ _ _ hP hD hS (lv_sub hl [0] rfl)
    · have dc1399 : v1395.toInt ≠ 32 := ne_i (a := v1395.toInt) (b := 32) rfl rfl c1399
      refine lv_aload_n hx hb dX10_next_9 rfl (lv_at hl 0 rfl) ?_
      refine call_Vi (wr := []) (As := []) (rest := []) hx hb hml hown hw (m_X10_peek l D cI cJ cB cP cM cZ h0 h_tape G1 x_size u2 f_tape _ n1374 n1375 (ir_wk k1398 (by decide) (by decide)) i1371 (ir_wk k1397 (by decide) (by decide))) wV_X10_169_X10_peek dX10_next_10 hK hP hD hS hA [0, 1] [] rfl rfl (by decide) (by decide) (by decide) 0 10 rfl rfl GG.fb hG.at hl.1 rfl (Nat.le_of_ble_eq_true rfl) ⟨(Nat.le_of_ble_eq_true rfl), (Nat.le_of_ble_eq_true rfl)⟩ ⟨(Nat.le_of_ble_eq_true rfl), (Nat.le_of_ble_eq_true rfl)⟩ (fun r1404 u H locs hp hP hD hS => ?_)
      rcases hp with ⟨t1405, rfl, rfl⟩ | ⟨t1406, t1407, rfl, rfl⟩
      · have hP : va_P D vwCl [(h0, .inr (10, vL 67 G1)), (h_tape, .inl (cB, 940, .inl f_tape))] H := hP
        have hD : va_D A [(h0, .inr (10, vL 67 G1)), (h_tape, .inl (cB, 940, .inl f_tape))] := hD
        refine W.widen (k := 0) (n := 0) (Nat.le_of_ble_eq_true rfl) (Nat.le_of_ble_eq_true rfl) ?_
        have k1409 : 1 ≤ x_size.toInt ∧ x_size.toInt ≤ 939 := ⟨k1398.1, Int.le_trans t1405 k1397.2⟩
        have k1410 : 1 ≤ u2.toInt ∧ u2.toInt ≤ 939 := ⟨Int.le_trans k1398.1 t1405, k1397.2⟩
        refine lv_bipush (v := 10) hx hb dX10_next_13 (by decide) ?_
        refine lv_icmp_ne (tgt := 31) hx hb dX10_next_15 (by decide) (fun _ => ?_) (fun g => absurd g (by decide))
        exact cut3 G1 u2 (SAME.tr SAME.rf i1370 (by decide)) i1371 (ir_wk k1410 (by decide) (by decide)) (by show x_p.toInt ≤ u2.toInt; omega) _ _ _ hP hD hS (lv_sub hl [0] rfl)
      · have hP : va_P D vwCl [(h0, .inr (10, vL 67 G1)), (h_tape, .inl (cB, 940, .inl f_tape))] H := hP
        have hD : va_D A [(h0, .inr (10, vL 67 G1)), (h_tape, .inl (cB, 940, .inl f_tape))] := hD
        refine W.widen (k := 0) (n := 0) (Nat.le_of_ble_eq_true rfl) (Nat.le_of_ble_eq_true rfl) ?_
        refine lv_ci (y := v1395) ev1395.symm ?_
        refine lv_bipush (v := 10) hx hb dX10_next_13 (by decide) ?_
        refine lv_icmp_ne (tgt := 31) hx hb dX10_next_15 (by decide) (fun c1411 => ?_) (fun c1411 => ?_)
        · have dc1411 : v1395.toInt ≠ 10 := ne_i (a := v1395.toInt) (b := 10) rfl rfl c1411
          exact cut3 G1 u2 (SAME.tr SAME.rf i1370 (by decide)) i1371 (ir_wk k1397 (by decide) (by decide)) (by show x_p.toInt ≤ u2.toInt; omega) _ _ _ hP hD hS (lv_sub hl [0] rfl)
        · have dc1411 : v1395.toInt = 10 := eq_i (a := v1395.toInt) (b := 10) rfl rfl c1411
          have k1412 : 10 ≤ v1395.toInt ∧ v1395.toInt ≤ 10 := ⟨Int.le_trans (Int.le_refl _) (Int.le_of_eq dc1411.symm), Int.le_trans (Int.le_of_eq dc1411) (Int.le_refl _)⟩
          refine lv_aload_n hx hb dX10_next_18 rfl (lv_at hl 0 rfl) ?_
          refine lv_dup hx hb dX10_next_19 rfl ?_
          refine get_f (D := D) (ci := 10) (v := .int u2) (C := RX10) (T := TX10) (N := 67) hx hb hw inAX10 hown hK hP 0 rfl rfl 4 (by decide) (hw _ q_1265) (fun _ h9 => h9) i1371 dX10_next_20 ?_
          refine lv_iconst (v := 1) hx hb dX10_next_23 (by decide) ?_
          refine lv_iadd hx hb dX10_next_24 ?_
          refine lv_topi (fun v1413 ev1413 => ?_)
          have bv1413 : v1413.toInt = u2.toInt + 1 := by rw [ev1413]; exact add_k rfl rfl k1397 ⟨Int.le_refl _, Int.le_refl _⟩ (by decide)
          have k1414 : 1 ≤ v1413.toInt ∧ v1413.toInt ≤ 940 := add_r bv1413 k1397 ⟨Int.le_refl _, Int.le_refl _⟩ (by decide)
          refine put_f (D := D) (ci := 10) (v := .int v1413) (ty := .int) (C := RX10) (T := TX10) (N := 67) hx hb hw inAX10 tyX10 tyX10_ok nmX10 hown hK hP hD hS 0 rfl rfl 4 (by decide) (hw _ q_1265) (fun _ h9 => h9) rfl (by decide +kernel) rfl rfl dX10_next_25 (fun H locs F1415 eF1415 hP hD hS => ?_)
          have hP : va_P D vwCl [(h0, .inr (10, vL 67 F1415)), (h_tape, .inl (cB, 940, .inl f_tape))] H := hP
          have hD : va_D A [(h0, .inr (10, vL 67 F1415)), (h_tape, .inl (cB, 940, .inl f_tape))] := hD
          refine lv_goto (tgt := 0) hx hb dX10_next_28 (by decide) ?_
          exact ih (F1415, v1413) ⟨(SAME.up eF1415 (SAME.tr SAME.rf i1370 (by decide)) (by decide)), (get_eq eF1415), (ir_wk k1414 (by decide) (by decide)), (by show x_p.toInt ≤ v1413.toInt; omega)⟩ (by show (x_size.toInt - v1413.toInt).toNat < (x_size.toInt - u2.toInt).toNat; omega) _ _ _ hP hD hS (lv_sub hl [0] rfl)
