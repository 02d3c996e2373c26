set_option maxHeartbeats 4000000 in
set_option maxRecDepth 100000 in
theorem m_X6_hasRoom (l : Launch) (D : va_G) (cI cJ cB cP cM cZ : ClassId) (h0 : Nat) (Fh : Nat → Value) (x_length : Int32) (sz : Nat) (e_length : Fh 1 = .int x_length) (i_x_length : IR 0 940 x_length) : CI l yX6_hasRoom cX6_hasRoom 1 (some .boolean) { frames := 0, cells := 0, slots := 0, locals := 0 } (GG D cI cJ cB cP cM cZ) D [(h0, .inr (6, vL 12 Fh))] sz [.ref h0] (fun (r : Int32) (u : va_W) => IR 0 1 r ∧ ((r.toInt = 1 ∧ x_length.toInt ≤ 920) ∨ (r.toInt = 0 ∧ 920 < x_length.toInt)) ∧ u = [(h0, .inr (6, vL 12 Fh))]) := by
  refine CI_mk (by decide) (Nat.le_of_ble_eq_true rfl) ?_
  intro p e s m below meth c A ls E hAe hG hsz hP hD hA hS hl
  obtain ⟨hx, hb, hr, hw, hown, hlocks, hml, hnm⟩ := E
  have hK := hG.1
  have i_x_length : 0 ≤ x_length.toInt ∧ x_length.toInt ≤ 940 := i_x_length
  have hl : lv_has ls 1 [(0, .ref h0)] := hl
  refine lv_aload_n hx hb dX6_hasRoom_0 rfl (lv_at hl 0 rfl) ?_
  refine get_f (D := D) (ci := 6) (v := .int x_length) (C := RX6) (T := TX6) (N := 12) hx hb hw inAX6 hown hK hP 0 rfl rfl 1 (by decide) (hw _ q_90) (fun _ h9 => h9) e_length dX6_hasRoom_1 ?_
  refine lv_bipush (v := 20) hx hb dX6_hasRoom_4 (by decide) ?_
  refine lv_iadd hx hb dX6_hasRoom_6 ?_
  refine lv_topi (fun v1 ev1 => ?_)
  have bv1 : v1.toInt = x_length.toInt + 20 := by rw [ev1]; exact add_k rfl rfl i_x_length ⟨Int.le_refl _, Int.le_refl _⟩ (by decide)
  have k2 : 20 ≤ v1.toInt ∧ v1.toInt ≤ 960 := add_r bv1 i_x_length ⟨Int.le_refl _, Int.le_refl _⟩ (by decide)
  refine lv_sipush (v := 940) hx hb dX6_hasRoom_7 (by decide) ?_
  refine lv_icmp_gt (tgt := 17) hx hb dX6_hasRoom_10 (by decide) (fun c3 => ?_) (fun c3 => ?_)
  · have dc3 : 940 < v1.toInt := lt_i (a := 940) (b := v1.toInt) rfl rfl c3
    have k4 : 941 ≤ v1.toInt ∧ v1.toInt ≤ 960 := ⟨lo_lt dc3 (Int.le_refl _) (by decide), k2.2⟩
    have k5 : 921 ≤ x_length.toInt ∧ x_length.toInt ≤ 940 := ⟨lin_lo bv1 k4.1 (by decide), i_x_length.2⟩
    refine lv_iconst (v := 0) hx hb dX6_hasRoom_17 (by decide) ?_
    exact ret_i (v := 0) hx hb hr hlocks hS hP hD dX6_hasRoom_18 rfl (Nat.le_of_ble_eq_true rfl) (Nat.le_of_ble_eq_true rfl) ⟨(show 0 ≤ (0 : Int32).toInt ∧ (0 : Int32).toInt ≤ 1 by decide), (by have zl0 : (0 : Int32).toInt = 0 := (by decide); omega), rfl⟩
  · have dc3 : v1.toInt ≤ 940 := nlt_i (a := 940) (b := v1.toInt) rfl rfl c3
    have k6 : 20 ≤ v1.toInt ∧ v1.toInt ≤ 940 := ⟨k2.1, Int.le_trans dc3 (Int.le_refl _)⟩
    have k7 : 0 ≤ x_length.toInt ∧ x_length.toInt ≤ 920 := ⟨i_x_length.1, lin_hi bv1 k6.2 (by decide)⟩
    refine lv_iconst (v := 1) hx hb dX6_hasRoom_13 (by decide) ?_
    refine lv_goto (tgt := 18) hx hb dX6_hasRoom_14 (by decide) ?_
    exact ret_i (v := 1) hx hb hr hlocks hS hP hD dX6_hasRoom_18 rfl (Nat.le_of_ble_eq_true rfl) (Nat.le_of_ble_eq_true rfl) ⟨(show 0 ≤ (1 : Int32).toInt ∧ (1 : Int32).toInt ≤ 1 by decide), (by have zl1 : (1 : Int32).toInt = 1 := (by decide); omega), rfl⟩
set_option maxHeartbeats 4000000 in
set_option maxRecDepth 100000 in
theorem m_X6_append (l : Launch) (D : va_G) (cI cJ cB cP cM cZ : ClassId) (h0 : Nat) (h_bytes : Nat) (Fh : Nat → Value) (x_length : Int32) (f_bytes : Nat → Int32) (p0 : Int32) (sz : Nat) (e_bytes : Fh 0 = .ref h_bytes) (e_length : Fh 1 = .int x_length) (i_x_length : IR 0 936 x_length) (s_bytes_0 : SG 0 939 (-128) 127 f_bytes) : CV l yX6_append cX6_append 3 none { frames := 0, cells := 0, slots := 0, locals := 0 } (GG D cI cJ cB cP cM cZ) D [(h0, .inr (6, vL 12 Fh)), (h_bytes, .inl (cB, 940, .inl f_bytes))] sz [.ref h0, .int p0] (fun (u : va_W) => ∃ (Gh : Nat → Value) (y_length : Int32) (g_bytes : Nat → Int32), SAME [1] Fh Gh ∧ Gh 1 = .int y_length ∧ IR 4 940 y_length ∧ SG 0 939 (-128) 127 g_bytes ∧ (y_length.toInt = x_length.toInt + 4) ∧ (g_bytes = ap4 f_bytes x_length.toInt.toNat p0) ∧ u = [(h0, .inr (6, vL 12 Gh)), (h_bytes, .inl (cB, 940, .inl g_bytes))]) := by
  refine CV_mk (by decide) (Nat.le_of_ble_eq_true rfl) ?_
  intro p e s m below meth c A ls E hAe hG hsz hP hD hA hS hl
  obtain ⟨hx, hb, hr, hw, hown, hlocks, hml, hnm⟩ := E
  have hK := hG.1
  have i_x_length : 0 ≤ x_length.toInt ∧ x_length.toInt ≤ 936 := i_x_length
  have hl : lv_has ls 3 [(0, .ref h0), (1, .int p0)] := hl
  refine lv_bipush (v := 24) hx hb dX6_append_0 (by decide) ?_
  refine lv_istore_n (lv' := [(2, .int 24), (0, .ref h0), (1, .int p0)]) hx hb dX6_append_2 rfl hl (by decide) rfl (fun ls hl => ?_)
  refine lv_iload_n hx hb dX6_append_3 rfl (lv_at hl 0 rfl) ?_
  refine lv_if_lt (tgt := 46) hx hb dX6_append_4 (by decide) (fun g => absurd g (by decide)) (fun _ => ?_)
  refine lv_aload_n hx hb dX6_append_7 rfl (lv_at hl 1 rfl) ?_
  refine get_f (D := D) (ci := 6) (v := .int x_length) (C := RX6) (T := TX6) (N := 12) hx hb hw inAX6 hown hK hP 0 rfl rfl 1 (by decide) (hw _ q_90) (fun _ h9 => h9) e_length dX6_append_8 ?_
  refine lv_sipush (v := 940) hx hb dX6_append_11 (by decide) ?_
  refine lv_icmp_ge (tgt := 46) hx hb dX6_append_14 (by decide) (fun c1 => False.elim (bad_le (le_i (a := 940) (b := x_length.toInt) rfl rfl c1) (Int.le_refl _) i_x_length.2 (by decide))) (fun c1 => ?_)
  have dc1 : x_length.toInt < 940 := nle_i (a := 940) (b := x_length.toInt) rfl rfl c1
  refine lv_aload_n hx hb dX6_append_17 rfl (lv_at hl 1 rfl) ?_
  refine get_f (D := D) (ci := 6) (v := .ref h_bytes) (C := RX6) (T := TX6) (N := 12) hx hb hw inAX6 hown hK hP 0 rfl rfl 0 (by decide) (hw _ q_89) (fun _ h9 => h9) e_bytes dX6_append_18 ?_
  refine lv_aload_n hx hb dX6_append_21 rfl (lv_at hl 1 rfl) ?_
  refine get_f (D := D) (ci := 6) (v := .int x_length) (C := RX6) (T := TX6) (N := 12) hx hb hw inAX6 hown hK hP 0 rfl rfl 1 (by decide) (hw _ q_90) (fun _ h9 => h9) e_length dX6_append_22 ?_
  refine lv_iload_n hx hb dX6_append_25 rfl (lv_at hl 2 rfl) ?_
  refine lv_iload_n hx hb dX6_append_26 rfl (lv_at hl 0 rfl) ?_
  obtain ⟨v2, ev2⟩ : ∃ z : Int32, ((p0 : Int32).toUInt32 >>> ((24 : Int32).toUInt32 &&& Int32.toUInt32 31)).toInt32 = z := ⟨_, rfl⟩
  refine lv_iushr (v := v2) hx hb dX6_append_27 ev2 ?_
  obtain ⟨v3, ev3⟩ : ∃ z : Int32, (v2 : Int32).toInt8.toInt32 = z := ⟨_, rfl⟩
  refine lv_i2b (v := v3) hx hb dX6_append_28 ev3 ?_
  obtain ⟨g4, eg4⟩ : ∃ z : Nat → Int32, upd f_bytes x_length.toNatClampNeg (vp_nar .byte v3) = z := ⟨_, rfl⟩
  have r5 : SG 0 939 (-128) 127 g4 := by rw [← eg4]; exact SG.upB s_bytes_0
  refine bast_g hx hb hK hP hD hS 1 2 rfl rfl (ix_k i_x_length (by decide) (by decide)) eg4 dX6_append_29 (fun H locs hP hD hS => ?_)
  have hP : va_P D vwCl [(h0, .inr (6, vL 12 Fh)), (h_bytes, .inl (cB, 940, .inl g4))] H := hP
  have hD : va_D A [(h0, .inr (6, vL 12 Fh)), (h_bytes, .inl (cB, 940, .inl g4))] := hD
  refine lv_aload_n hx hb dX6_append_30 rfl (lv_at hl 1 rfl) ?_
  refine lv_dup hx hb dX6_append_31 rfl ?_
  refine get_f (D := D) (ci := 6) (v := .int x_length) (C := RX6) (T := TX6) (N := 12) hx hb hw inAX6 hown hK hP 0 rfl rfl 1 (by decide) (hw _ q_90) (fun _ h9 => h9) e_length dX6_append_32 ?_
  refine lv_iconst (v := 1) hx hb dX6_append_35 (by decide) ?_
  refine lv_iadd hx hb dX6_append_36 ?_
  refine lv_topi (fun v6 ev6 => ?_)
  have bv6 : v6.toInt = x_length.toInt + 1 := by rw [ev6]; exact add_k rfl rfl i_x_length ⟨Int.le_refl _, Int.le_refl _⟩ (by decide)
  have k7 : 1 ≤ v6.toInt ∧ v6.toInt ≤ 937 := add_r bv6 i_x_length ⟨Int.le_refl _, Int.le_refl _⟩ (by decide)
  refine put_f (D := D) (ci := 6) (v := .int v6) (ty := .int) (C := RX6) (T := TX6) (N := 12) hx hb hw inAX6 tyX6 tyX6_ok nmX6 hown hK hP hD hS 0 rfl rfl 1 (by decide) (hw _ q_90) (fun _ h9 => h9) rfl (by decide +kernel) rfl rfl dX6_append_37 (fun H locs F8 eF8 hP hD hS => ?_)
  have hP : va_P D vwCl [(h0, .inr (6, vL 12 F8)), (h_bytes, .inl (cB, 940, .inl g4))] H := hP
  have hD : va_D A [(h0, .inr (6, vL 12 F8)), (h_bytes, .inl (cB, 940, .inl g4))] := hD
  refine lv_iinc (v := 16) (lv' := [(2, .int 16), (0, .ref h0), (1, .int p0)]) hx hb dX6_append_40 hl (k := 0) rfl (by decide +kernel) (by decide) rfl (fun ls hl => ?_)
  refine lv_goto (tgt := 3) hx hb dX6_append_43 (by decide) ?_
  refine lv_iload_n hx hb dX6_append_3 rfl (lv_at hl 0 rfl) ?_
  refine lv_if_lt (tgt := 46) hx hb dX6_append_4 (by decide) (fun g => absurd g (by decide)) (fun _ => ?_)
  refine lv_aload_n hx hb dX6_append_7 rfl (lv_at hl 1 rfl) ?_
  refine get_f (D := D) (ci := 6) (v := .int v6) (C := RX6) (T := TX6) (N := 12) hx hb hw inAX6 hown hK hP 0 rfl rfl 1 (by decide) (hw _ q_90) (fun _ h9 => h9) (get_eq eF8) dX6_append_8 ?_
  refine lv_sipush (v := 940) hx hb dX6_append_11 (by decide) ?_
  refine lv_icmp_ge (tgt := 46) hx hb dX6_append_14 (by decide) (fun c9 => False.elim (bad_le (le_i (a := 940) (b := v6.toInt) rfl rfl c9) (Int.le_refl _) k7.2 (by decide))) (fun c9 => ?_)
  have dc9 : v6.toInt < 940 := nle_i (a := 940) (b := v6.toInt) rfl rfl c9
  refine lv_aload_n hx hb dX6_append_17 rfl (lv_at hl 1 rfl) ?_
  have n10 : F8 0 = .ref h_bytes := (get_ne eF8 (by decide) e_bytes)
  refine get_f (D := D) (ci := 6) (v := .ref h_bytes) (C := RX6) (T := TX6) (N := 12) hx hb hw inAX6 hown hK hP 0 rfl rfl 0 (by decide) (hw _ q_89) (fun _ h9 => h9) n10 dX6_append_18 ?_
  refine lv_aload_n hx hb dX6_append_21 rfl (lv_at hl 1 rfl) ?_
  refine get_f (D := D) (ci := 6) (v := .int v6) (C := RX6) (T := TX6) (N := 12) hx hb hw inAX6 hown hK hP 0 rfl rfl 1 (by decide) (hw _ q_90) (fun _ h9 => h9) (get_eq eF8) dX6_append_22 ?_
  refine lv_iload_n hx hb dX6_append_25 rfl (lv_at hl 2 rfl) ?_
  refine lv_iload_n hx hb dX6_append_26 rfl (lv_at hl 0 rfl) ?_
  obtain ⟨v11, ev11⟩ : ∃ z : Int32, ((p0 : Int32).toUInt32 >>> ((16 : Int32).toUInt32 &&& Int32.toUInt32 31)).toInt32 = z := ⟨_, rfl⟩
  refine lv_iushr (v := v11) hx hb dX6_append_27 ev11 ?_
  obtain ⟨v12, ev12⟩ : ∃ z : Int32, (v11 : Int32).toInt8.toInt32 = z := ⟨_, rfl⟩
  refine lv_i2b (v := v12) hx hb dX6_append_28 ev12 ?_
  obtain ⟨g13, eg13⟩ : ∃ z : Nat → Int32, upd g4 v6.toNatClampNeg (vp_nar .byte v12) = z := ⟨_, rfl⟩
  have r14 : SG 0 939 (-128) 127 g13 := by rw [← eg13]; exact SG.upB r5
  refine bast_g hx hb hK hP hD hS 1 2 rfl rfl (ix_k k7 (by decide) (by decide)) eg13 dX6_append_29 (fun H locs hP hD hS => ?_)
  have hP : va_P D vwCl [(h0, .inr (6, vL 12 F8)), (h_bytes, .inl (cB, 940, .inl g13))] H := hP
  have hD : va_D A [(h0, .inr (6, vL 12 F8)), (h_bytes, .inl (cB, 940, .inl g13))] := hD
  refine lv_aload_n hx hb dX6_append_30 rfl (lv_at hl 1 rfl) ?_
  refine lv_dup hx hb dX6_append_31 rfl ?_
  refine get_f (D := D) (ci := 6) (v := .int v6) (C := RX6) (T := TX6) (N := 12) hx hb hw inAX6 hown hK hP 0 rfl rfl 1 (by decide) (hw _ q_90) (fun _ h9 => h9) (get_eq eF8) dX6_append_32 ?_
  refine lv_iconst (v := 1) hx hb dX6_append_35 (by decide) ?_
  refine lv_iadd hx hb dX6_append_36 ?_
  refine lv_topi (fun v15 ev15 => ?_)
  have bv15 : v15.toInt = v6.toInt + 1 := by rw [ev15]; exact add_k rfl rfl k7 ⟨Int.le_refl _, Int.le_refl _⟩ (by decide)
  have k16 : 2 ≤ v15.toInt ∧ v15.toInt ≤ 938 := add_r bv15 k7 ⟨Int.le_refl _, Int.le_refl _⟩ (by decide)
  refine put_f (D := D) (ci := 6) (v := .int v15) (ty := .int) (C := RX6) (T := TX6) (N := 12) hx hb hw inAX6 tyX6 tyX6_ok nmX6 hown hK hP hD hS 0 rfl rfl 1 (by decide) (hw _ q_90) (fun _ h9 => h9) rfl (by decide +kernel) rfl rfl dX6_append_37 (fun H locs F17 eF17 hP hD hS => ?_)
  have hP : va_P D vwCl [(h0, .inr (6, vL 12 F17)), (h_bytes, .inl (cB, 940, .inl g13))] H := hP
  have hD : va_D A [(h0, .inr (6, vL 12 F17)), (h_bytes, .inl (cB, 940, .inl g13))] := hD
  refine lv_iinc (v := 8) (lv' := [(2, .int 8), (0, .ref h0), (1, .int p0)]) hx hb dX6_append_40 hl (k := 0) rfl (by decide +kernel) (by decide) rfl (fun ls hl => ?_)
  refine lv_goto (tgt := 3) hx hb dX6_append_43 (by decide) ?_
  refine lv_iload_n hx hb dX6_append_3 rfl (lv_at hl 0 rfl) ?_
  refine lv_if_lt (tgt := 46) hx hb dX6_append_4 (by decide) (fun g => absurd g (by decide)) (fun _ => ?_)
  refine lv_aload_n hx hb dX6_append_7 rfl (lv_at hl 1 rfl) ?_
  refine get_f (D := D) (ci := 6) (v := .int v15) (C := RX6) (T := TX6) (N := 12) hx hb hw inAX6 hown hK hP 0 rfl rfl 1 (by decide) (hw _ q_90) (fun _ h9 => h9) (get_eq eF17) dX6_append_8 ?_
  refine lv_sipush (v := 940) hx hb dX6_append_11 (by decide) ?_
  refine lv_icmp_ge (tgt := 46) hx hb dX6_append_14 (by decide) (fun c18 => False.elim (bad_le (le_i (a := 940) (b := v15.toInt) rfl rfl c18) (Int.le_refl _) k16.2 (by decide))) (fun c18 => ?_)
  have dc18 : v15.toInt < 940 := nle_i (a := 940) (b := v15.toInt) rfl rfl c18
  refine lv_aload_n hx hb dX6_append_17 rfl (lv_at hl 1 rfl) ?_
  have n19 : F17 0 = .ref h_bytes := (get_ne eF17 (by decide) n10)
  refine get_f (D := D) (ci := 6) (v := .ref h_bytes) (C := RX6) (T := TX6) (N := 12) hx hb hw inAX6 hown hK hP 0 rfl rfl 0 (by decide) (hw _ q_89) (fun _ h9 => h9) n19 dX6_append_18 ?_
  refine lv_aload_n hx hb dX6_append_21 rfl (lv_at hl 1 rfl) ?_
  refine get_f (D := D) (ci := 6) (v := .int v15) (C := RX6) (T := TX6) (N := 12) hx hb hw inAX6 hown hK hP 0 rfl rfl 1 (by decide) (hw _ q_90) (fun _ h9 => h9) (get_eq eF17) dX6_append_22 ?_
  refine lv_iload_n hx hb dX6_append_25 rfl (lv_at hl 2 rfl) ?_
  refine lv_iload_n hx hb dX6_append_26 rfl (lv_at hl 0 rfl) ?_
  obtain ⟨v20, ev20⟩ : ∃ z : Int32, ((p0 : Int32).toUInt32 >>> ((8 : Int32).toUInt32 &&& Int32.toUInt32 31)).toInt32 = z := ⟨_, rfl⟩
  refine lv_iushr (v := v20) hx hb dX6_append_27 ev20 ?_
  have k21 : 0 ≤ v20.toInt ∧ v20.toInt ≤ 16777215 := by rw [← ev20]; exact ushr8_i _
  obtain ⟨v22, ev22⟩ : ∃ z : Int32, (v20 : Int32).toInt8.toInt32 = z := ⟨_, rfl⟩
  refine lv_i2b (v := v22) hx hb dX6_append_28 ev22 ?_
  obtain ⟨g23, eg23⟩ : ∃ z : Nat → Int32, upd g13 v15.toNatClampNeg (vp_nar .byte v22) = z := ⟨_, rfl⟩
  have r24 : SG 0 939 (-128) 127 g23 := by rw [← eg23]; exact SG.upB r14
  refine bast_g hx hb hK hP hD hS 1 2 rfl rfl (ix_k k16 (by decide) (by decide)) eg23 dX6_append_29 (fun H locs hP hD hS => ?_)
  have hP : va_P D vwCl [(h0, .inr (6, vL 12 F17)), (h_bytes, .inl (cB, 940, .inl g23))] H := hP
  have hD : va_D A [(h0, .inr (6, vL 12 F17)), (h_bytes, .inl (cB, 940, .inl g23))] := hD
  refine lv_aload_n hx hb dX6_append_30 rfl (lv_at hl 1 rfl) ?_
  refine lv_dup hx hb dX6_append_31 rfl ?_
  refine get_f (D := D) (ci := 6) (v := .int v15) (C := RX6) (T := TX6) (N := 12) hx hb hw inAX6 hown hK hP 0 rfl rfl 1 (by decide) (hw _ q_90) (fun _ h9 => h9) (get_eq eF17) dX6_append_32 ?_
  refine lv_iconst (v := 1) hx hb dX6_append_35 (by decide) ?_
  refine lv_iadd hx hb dX6_append_36 ?_
  refine lv_topi (fun v25 ev25 => ?_)
  have bv25 : v25.toInt = v15.toInt + 1 := by rw [ev25]; exact add_k rfl rfl k16 ⟨Int.le_refl _, Int.le_refl _⟩ (by decide)
  have k26 : 3 ≤ v25.toInt ∧ v25.toInt ≤ 939 := add_r bv25 k16 ⟨Int.le_refl _, Int.le_refl _⟩ (by decide)
  refine put_f (D := D) (ci := 6) (v := .int v25) (ty := .int) (C := RX6) (T := TX6) (N := 12) hx hb hw inAX6 tyX6 tyX6_ok nmX6 hown hK hP hD hS 0 rfl rfl 1 (by decide) (hw _ q_90) (fun _ h9 => h9) rfl (by decide +kernel) rfl rfl dX6_append_37 (fun H locs F27 eF27 hP hD hS => ?_)
  have hP : va_P D vwCl [(h0, .inr (6, vL 12 F27)), (h_bytes, .inl (cB, 940, .inl g23))] H := hP
  have hD : va_D A [(h0, .inr (6, vL 12 F27)), (h_bytes, .inl (cB, 940, .inl g23))] := hD
  refine lv_iinc (v := 0) (lv' := [(2, .int 0), (0, .ref h0), (1, .int p0)]) hx hb dX6_append_40 hl (k := 0) rfl (by decide +kernel) (by decide) rfl (fun ls hl => ?_)
  refine lv_goto (tgt := 3) hx hb dX6_append_43 (by decide) ?_
  refine lv_iload_n hx hb dX6_append_3 rfl (lv_at hl 0 rfl) ?_
  refine lv_if_lt (tgt := 46) hx hb dX6_append_4 (by decide) (fun g => absurd g (by decide)) (fun _ => ?_)
  refine lv_aload_n hx hb dX6_append_7 rfl (lv_at hl 1 rfl) ?_
  refine get_f (D := D) (ci := 6) (v := .int v25) (C := RX6) (T := TX6) (N := 12) hx hb hw inAX6 hown hK hP 0 rfl rfl 1 (by decide) (hw _ q_90) (fun _ h9 => h9) (get_eq eF27) dX6_append_8 ?_
  refine lv_sipush (v := 940) hx hb dX6_append_11 (by decide) ?_
  refine lv_icmp_ge (tgt := 46) hx hb dX6_append_14 (by decide) (fun c28 => False.elim (bad_le (le_i (a := 940) (b := v25.toInt) rfl rfl c28) (Int.le_refl _) k26.2 (by decide))) (fun c28 => ?_)
  have dc28 : v25.toInt < 940 := nle_i (a := 940) (b := v25.toInt) rfl rfl c28
  refine lv_aload_n hx hb dX6_append_17 rfl (lv_at hl 1 rfl) ?_
  have n29 : F27 0 = .ref h_bytes := (get_ne eF27 (by decide) n19)
  refine get_f (D := D) (ci := 6) (v := .ref h_bytes) (C := RX6) (T := TX6) (N := 12) hx hb hw inAX6 hown hK hP 0 rfl rfl 0 (by decide) (hw _ q_89) (fun _ h9 => h9) n29 dX6_append_18 ?_
  refine lv_aload_n hx hb dX6_append_21 rfl (lv_at hl 1 rfl) ?_
  refine get_f (D := D) (ci := 6) (v := .int v25) (C := RX6) (T := TX6) (N := 12) hx hb hw inAX6 hown hK hP 0 rfl rfl 1 (by decide) (hw _ q_90) (fun _ h9 => h9) (get_eq eF27) dX6_append_22 ?_
  refine lv_iload_n hx hb dX6_append_25 rfl (lv_at hl 2 rfl) ?_
  refine lv_iload_n hx hb dX6_append_26 rfl (lv_at hl 0 rfl) ?_
  obtain ⟨v30, ev30⟩ : ∃ z : Int32, ((p0 : Int32).toUInt32 >>> ((0 : Int32).toUInt32 &&& Int32.toUInt32 31)).toInt32 = z := ⟨_, rfl⟩
  refine lv_iushr (v := v30) hx hb dX6_append_27 ev30 ?_
  obtain ⟨v31, ev31⟩ : ∃ z : Int32, (v30 : Int32).toInt8.toInt32 = z := ⟨_, rfl⟩
  refine lv_i2b (v := v31) hx hb dX6_append_28 ev31 ?_
  obtain ⟨g32, eg32⟩ : ∃ z : Nat → Int32, upd g23 v25.toNatClampNeg (vp_nar .byte v31) = z := ⟨_, rfl⟩
  have r33 : SG 0 939 (-128) 127 g32 := by rw [← eg32]; exact SG.upB r24
  refine bast_g hx hb hK hP hD hS 1 2 rfl rfl (ix_k k26 (by decide) (by decide)) eg32 dX6_append_29 (fun H locs hP hD hS => ?_)
  have hP : va_P D vwCl [(h0, .inr (6, vL 12 F27)), (h_bytes, .inl (cB, 940, .inl g32))] H := hP
  have hD : va_D A [(h0, .inr (6, vL 12 F27)), (h_bytes, .inl (cB, 940, .inl g32))] := hD
  refine lv_aload_n hx hb dX6_append_30 rfl (lv_at hl 1 rfl) ?_
  refine lv_dup hx hb dX6_append_31 rfl ?_
  refine get_f (D := D) (ci := 6) (v := .int v25) (C := RX6) (T := TX6) (N := 12) hx hb hw inAX6 hown hK hP 0 rfl rfl 1 (by decide) (hw _ q_90) (fun _ h9 => h9) (get_eq eF27) dX6_append_32 ?_
  refine lv_iconst (v := 1) hx hb dX6_append_35 (by decide) ?_
  refine lv_iadd hx hb dX6_append_36 ?_
  refine lv_topi (fun v34 ev34 => ?_)
  have bv34 : v34.toInt = v25.toInt + 1 := by rw [ev34]; exact add_k rfl rfl k26 ⟨Int.le_refl _, Int.le_refl _⟩ (by decide)
  have k35 : 4 ≤ v34.toInt ∧ v34.toInt ≤ 940 := add_r bv34 k26 ⟨Int.le_refl _, Int.le_refl _⟩ (by decide)
  refine put_f (D := D) (ci := 6) (v := .int v34) (ty := .int) (C := RX6) (T := TX6) (N := 12) hx hb hw inAX6 tyX6 tyX6_ok nmX6 hown hK hP hD hS 0 rfl rfl 1 (by decide) (hw _ q_90) (fun _ h9 => h9) rfl (by decide +kernel) rfl rfl dX6_append_37 (fun H locs F36 eF36 hP hD hS => ?_)
  have hP : va_P D vwCl [(h0, .inr (6, vL 12 F36)), (h_bytes, .inl (cB, 940, .inl g32))] H := hP
  have hD : va_D A [(h0, .inr (6, vL 12 F36)), (h_bytes, .inl (cB, 940, .inl g32))] := hD
  refine lv_iinc (v := (-8)) (lv' := [(2, .int (-8)), (0, .ref h0), (1, .int p0)]) hx hb dX6_append_40 hl (k := 0) rfl (by decide +kernel) (by decide) rfl (fun ls hl => ?_)
  refine lv_goto (tgt := 3) hx hb dX6_append_43 (by decide) ?_
  refine lv_iload_n hx hb dX6_append_3 rfl (lv_at hl 0 rfl) ?_
  refine lv_if_lt (tgt := 46) hx hb dX6_append_4 (by decide) (fun _ => ?_) (fun g => absurd (by decide) g)
  exact ret_v hx hb hr hlocks hS hP hD dX6_append_46 (Nat.le_of_ble_eq_true rfl) (Nat.le_of_ble_eq_true rfl) ⟨F36, v34, g32, (SAME.up eF36 (SAME.up eF27 (SAME.up eF17 (SAME.up eF8 SAME.rf (by decide)) (by decide)) (by decide)) (by decide)), (get_eq eF36), k35, r33, (by omega), (ap4_of eg4 eg13 eg23 eg32 (by omega) (by omega) (by omega) (by omega) (by8_U (k := 24) 24 16777216 (by decide) (by decide) (by decide) (by decide) ev2 ev3) (by8_U (k := 16) 16 65536 (by decide) (by decide) (by decide) (by decide) ev11 ev12) (by8_U (k := 8) 8 256 (by decide) (by decide) (by decide) (by decide) ev20 ev22) (by8_U (k := 0) 0 1 (by decide) (by decide) (by decide) (by decide) ev30 ev31)), rfl⟩
set_option maxHeartbeats 4000000 in
set_option maxRecDepth 100000 in
theorem m_X9_feed (l : Launch) (D : va_G) (cI cJ cB cP cM cZ : ClassId) (h0 : Nat) (h_tape : Nat) (h_tape_bytes : Nat) (h_tape_wordNames : Nat) (Fh : Nat → Value) (F_tape_ : Nat → Value) (x_tape_length : Int32) (f_tape_bytes : Nat → Int32) (f_tape_wordNames : Nat → Int64) (p0 : Int32) (p1 : Int32) (p2 : Int32) (p3 : Int32) (p4 : Int32) (sz : Nat) (e_tape : Fh 0 = .ref h_tape) (e_tape_bytes : F_tape_ 0 = .ref h_tape_bytes) (e_tape_length : F_tape_ 1 = .int x_tape_length) (i_x_tape_length : IR 0 940 x_tape_length) (e_tape_wordNames : F_tape_ 9 = .ref h_tape_wordNames) (s_tape_bytes_0 : SG 0 939 (-128) 127 f_tape_bytes) (s_tape_wordNames_KN : KWN f_tape_wordNames) : CI l yX9_feed cX9_feed 6 (some .int) { frames := 1, cells := 0, slots := 0, locals := 22 } (GG D cI cJ cB cP cM cZ) D [(h0, .inr (9, vL 19 Fh)), (h_tape, .inr (6, vL 12 F_tape_)), (h_tape_bytes, .inl (cB, 940, .inl f_tape_bytes)), (h_tape_wordNames, .inl (cJ, 23, .inr (.inl f_tape_wordNames)))] sz [.ref h0, .int p0, .int p1, .int p2, .int p3, .int p4] (fun (r : Int32) (u : va_W) => ∃ (G_tape_ : Nat → Value) (y_tape_length : Int32) (g_tape_bytes : Nat → Int32), SAME [1] F_tape_ G_tape_ ∧ G_tape_ 1 = .int y_tape_length ∧ IR 0 940 y_tape_length ∧ SG 0 939 (-128) 127 g_tape_bytes ∧ IR (-1) 940 r ∧ ((x_tape_length.toInt ≤ 920 ∧ r.toInt = x_tape_length.toInt + 20 ∧ y_tape_length.toInt = x_tape_length.toInt + 20 ∧ g_tape_bytes = ap20 f_tape_bytes x_tape_length.toInt.toNat p0 p1 p2 p3 p4) ∨ (920 < x_tape_length.toInt ∧ r.toInt = -1 ∧ y_tape_length = x_tape_length ∧ g_tape_bytes = f_tape_bytes)) ∧ u = [(h0, .inr (9, vL 19 Fh)), (h_tape, .inr (6, vL 12 G_tape_)), (h_tape_bytes, .inl (cB, 940, .inl g_tape_bytes)), (h_tape_wordNames, .inl (cJ, 23, .inr (.inl f_tape_wordNames)))]) := by
  refine CI_mk (by decide) (Nat.le_of_ble_eq_true rfl) ?_
  intro p e s m below meth c A ls E hAe hG hsz hP hD hA hS hl
  obtain ⟨hx, hb, hr, hw, hown, hlocks, hml, hnm⟩ := E
  have hK := hG.1
  have i_x_tape_length : 0 ≤ x_tape_length.toInt ∧ x_tape_length.toInt ≤ 940 := i_x_tape_length
  have hl : lv_has ls 6 [(0, .ref h0), (1, .int p0), (2, .int p1), (3, .int p2), (4, .int p3), (5, .int p4)] := hl
  refine lv_aload_n hx hb dX9_feed_0 rfl (lv_at hl 0 rfl) ?_
  refine get_f (D := D) (ci := 9) (v := .ref h_tape) (C := RX9) (T := TX9) (N := 19) hx hb hw inAX9 hown hK hP 0 rfl rfl 0 (by decide) (hw _ q_440) (fun _ h9 => h9) e_tape dX9_feed_1 ?_
  refine call_Vi (wr := [(h0, .inr (9, vL 19 Fh)), (h_tape_bytes, .inl (cB, 940, .inl f_tape_bytes)), (h_tape_wordNames, .inl (cJ, 23, .inr (.inl f_tape_wordNames)))]) (As := []) (rest := []) hx hb hml hown hw (m_X6_hasRoom l D cI cJ cB cP cM cZ h_tape F_tape_ x_tape_length _ e_tape_length i_x_tape_length) wV_X9_102_X6_hasRoom dX9_feed_4 hK hP hD hS hA [1] [0, 2, 3] rfl rfl (by decide) (by decide) (by decide) 0 6 rfl rfl GG.fb hG.at hl.1 rfl (Nat.le_of_ble_eq_true rfl) ⟨(Nat.le_of_ble_eq_true rfl), (Nat.le_of_ble_eq_true rfl)⟩ ⟨(Nat.le_of_ble_eq_true rfl), (Nat.le_of_ble_eq_true rfl)⟩ (fun r1 u H locs hp hP hD hS => ?_)
  obtain ⟨t2, t3, rfl⟩ := hp
  have hP : va_P D vwCl [(h0, .inr (9, vL 19 Fh)), (h_tape_bytes, .inl (cB, 940, .inl f_tape_bytes)), (h_tape_wordNames, .inl (cJ, 23, .inr (.inl f_tape_wordNames))), (h_tape, .inr (6, vL 12 F_tape_))] H := hP
  have hD : va_D A [(h0, .inr (9, vL 19 Fh)), (h_tape_bytes, .inl (cB, 940, .inl f_tape_bytes)), (h_tape_wordNames, .inl (cJ, 23, .inr (.inl f_tape_wordNames))), (h_tape, .inr (6, vL 12 F_tape_))] := hD
  refine W.widen (k := 0) (n := 0) (Nat.le_of_ble_eq_true rfl) (Nat.le_of_ble_eq_true rfl) ?_
  refine lv_if_ne (tgt := 12) hx hb dX9_feed_7 (by decide) (fun c5 => ?_) (fun c5 => ?_)
  · have dc5 : r1.toInt ≠ 0 := ne_i (a := r1.toInt) (b := 0) rfl rfl c5
    have k6 : 1 ≤ r1.toInt ∧ r1.toInt ≤ 1 := ⟨ne_lo dc5 t2.1 ⟨Int.le_refl _, Int.le_refl _⟩ (by decide), t2.2⟩
    have k7 : 0 ≤ x_tape_length.toInt ∧ x_tape_length.toInt ≤ 920 := ⟨by omega, by omega⟩
    refine lv_aload_n hx hb dX9_feed_12 rfl (lv_at hl 0 rfl) ?_
    refine get_f (D := D) (ci := 9) (v := .ref h_tape) (C := RX9) (T := TX9) (N := 19) hx hb hw inAX9 hown hK hP 0 rfl rfl 0 (by decide) (hw _ q_440) (fun _ h9 => h9) e_tape dX9_feed_13 ?_
    refine lv_iload_n hx hb dX9_feed_16 rfl (lv_at hl 1 rfl) ?_
    refine call_Vv (wr := [(h0, .inr (9, vL 19 Fh)), (h_tape_wordNames, .inl (cJ, 23, .inr (.inl f_tape_wordNames)))]) (As := [.int p0]) (rest := []) hx hb hml hown hw (m_X6_append l D cI cJ cB cP cM cZ h_tape h_tape_bytes F_tape_ x_tape_length f_tape_bytes p0 _ e_tape_bytes e_tape_length (ir_wk k7 (by decide) (by decide)) s_tape_bytes_0) wV_X9_106_X6_append dX9_feed_17 hK hP hD hS hA [3, 1] [0, 2] rfl rfl (by decide) (by decide) (by decide) 0 6 rfl rfl GG.fb hG.at hl.1 rfl (Nat.le_of_ble_eq_true rfl) ⟨(Nat.le_of_ble_eq_true rfl), (Nat.le_of_ble_eq_true rfl)⟩ ⟨(Nat.le_of_ble_eq_true rfl), (Nat.le_of_ble_eq_true rfl)⟩ (fun u H locs hp hP hD hS => ?_)
    obtain ⟨F9, y10, g11, t12, t13, t14, t15, t16, t17, rfl⟩ := hp
    have hP : va_P D vwCl [(h0, .inr (9, vL 19 Fh)), (h_tape_wordNames, .inl (cJ, 23, .inr (.inl f_tape_wordNames))), (h_tape, .inr (6, vL 12 F9)), (h_tape_bytes, .inl (cB, 940, .inl g11))] H := hP
    have hD : va_D A [(h0, .inr (9, vL 19 Fh)), (h_tape_wordNames, .inl (cJ, 23, .inr (.inl f_tape_wordNames))), (h_tape, .inr (6, vL 12 F9)), (h_tape_bytes, .inl (cB, 940, .inl g11))] := hD
    refine W.widen (k := 0) (n := 0) (Nat.le_of_ble_eq_true rfl) (Nat.le_of_ble_eq_true rfl) ?_
    have k19 : 4 ≤ y10.toInt ∧ y10.toInt ≤ 924 := ⟨by omega, by omega⟩
    refine lv_aload_n hx hb dX9_feed_20 rfl (lv_at hl 0 rfl) ?_
    refine get_f (D := D) (ci := 9) (v := .ref h_tape) (C := RX9) (T := TX9) (N := 19) hx hb hw inAX9 hown hK hP 0 rfl rfl 0 (by decide) (hw _ q_440) (fun _ h9 => h9) e_tape dX9_feed_21 ?_
    refine lv_iload_n hx hb dX9_feed_24 rfl (lv_at hl 2 rfl) ?_
    have n20 : F9 0 = .ref h_tape_bytes := (SAME.at t12 (by decide) e_tape_bytes)
    refine call_Vv (wr := [(h0, .inr (9, vL 19 Fh)), (h_tape_wordNames, .inl (cJ, 23, .inr (.inl f_tape_wordNames)))]) (As := [.int p1]) (rest := []) hx hb hml hown hw (m_X6_append l D cI cJ cB cP cM cZ h_tape h_tape_bytes F9 y10 g11 p1 _ n20 t13 (ir_wk k19 (by decide) (by decide)) t15) wV_X9_106_X6_append dX9_feed_25 hK hP hD hS hA [2, 3] [0, 1] rfl rfl (by decide) (by decide) (by decide) 0 6 rfl rfl GG.fb hG.at hl.1 rfl (Nat.le_of_ble_eq_true rfl) ⟨(Nat.le_of_ble_eq_true rfl), (Nat.le_of_ble_eq_true rfl)⟩ ⟨(Nat.le_of_ble_eq_true rfl), (Nat.le_of_ble_eq_true rfl)⟩ (fun u H locs hp hP hD hS => ?_)
    obtain ⟨F22, y23, g24, t25, t26, t27, t28, t29, t30, rfl⟩ := hp
    have hP : va_P D vwCl [(h0, .inr (9, vL 19 Fh)), (h_tape_wordNames, .inl (cJ, 23, .inr (.inl f_tape_wordNames))), (h_tape, .inr (6, vL 12 F22)), (h_tape_bytes, .inl (cB, 940, .inl g24))] H := hP
    have hD : va_D A [(h0, .inr (9, vL 19 Fh)), (h_tape_wordNames, .inl (cJ, 23, .inr (.inl f_tape_wordNames))), (h_tape, .inr (6, vL 12 F22)), (h_tape_bytes, .inl (cB, 940, .inl g24))] := hD
    refine W.widen (k := 0) (n := 0) (Nat.le_of_ble_eq_true rfl) (Nat.le_of_ble_eq_true rfl) ?_
    have k32 : 8 ≤ y23.toInt ∧ y23.toInt ≤ 928 := ⟨by omega, by omega⟩
    refine lv_aload_n hx hb dX9_feed_28 rfl (lv_at hl 0 rfl) ?_
    refine get_f (D := D) (ci := 9) (v := .ref h_tape) (C := RX9) (T := TX9) (N := 19) hx hb hw inAX9 hown hK hP 0 rfl rfl 0 (by decide) (hw _ q_440) (fun _ h9 => h9) e_tape dX9_feed_29 ?_
    refine lv_iload_n hx hb dX9_feed_32 rfl (lv_at hl 3 rfl) ?_
    have n33 : F22 0 = .ref h_tape_bytes := (SAME.at t25 (by decide) n20)
    refine call_Vv (wr := [(h0, .inr (9, vL 19 Fh)), (h_tape_wordNames, .inl (cJ, 23, .inr (.inl f_tape_wordNames)))]) (As := [.int p2]) (rest := []) hx hb hml hown hw (m_X6_append l D cI cJ cB cP cM cZ h_tape h_tape_bytes F22 y23 g24 p2 _ n33 t26 (ir_wk k32 (by decide) (by decide)) t28) wV_X9_106_X6_append dX9_feed_33 hK hP hD hS hA [2, 3] [0, 1] rfl rfl (by decide) (by decide) (by decide) 0 6 rfl rfl GG.fb hG.at hl.1 rfl (Nat.le_of_ble_eq_true rfl) ⟨(Nat.le_of_ble_eq_true rfl), (Nat.le_of_ble_eq_true rfl)⟩ ⟨(Nat.le_of_ble_eq_true rfl), (Nat.le_of_ble_eq_true rfl)⟩ (fun u H locs hp hP hD hS => ?_)
    obtain ⟨F35, y36, g37, t38, t39, t40, t41, t42, t43, rfl⟩ := hp
    have hP : va_P D vwCl [(h0, .inr (9, vL 19 Fh)), (h_tape_wordNames, .inl (cJ, 23, .inr (.inl f_tape_wordNames))), (h_tape, .inr (6, vL 12 F35)), (h_tape_bytes, .inl (cB, 940, .inl g37))] H := hP
    have hD : va_D A [(h0, .inr (9, vL 19 Fh)), (h_tape_wordNames, .inl (cJ, 23, .inr (.inl f_tape_wordNames))), (h_tape, .inr (6, vL 12 F35)), (h_tape_bytes, .inl (cB, 940, .inl g37))] := hD
    refine W.widen (k := 0) (n := 0) (Nat.le_of_ble_eq_true rfl) (Nat.le_of_ble_eq_true rfl) ?_
    have k45 : 12 ≤ y36.toInt ∧ y36.toInt ≤ 932 := ⟨by omega, by omega⟩
    refine lv_aload_n hx hb dX9_feed_36 rfl (lv_at hl 0 rfl) ?_
    refine get_f (D := D) (ci := 9) (v := .ref h_tape) (C := RX9) (T := TX9) (N := 19) hx hb hw inAX9 hown hK hP 0 rfl rfl 0 (by decide) (hw _ q_440) (fun _ h9 => h9) e_tape dX9_feed_37 ?_
    refine lv_iload hx hb dX9_feed_40 (lv_at hl 4 rfl) ?_
    have n46 : F35 0 = .ref h_tape_bytes := (SAME.at t38 (by decide) n33)
    refine call_Vv (wr := [(h0, .inr (9, vL 19 Fh)), (h_tape_wordNames, .inl (cJ, 23, .inr (.inl f_tape_wordNames)))]) (As := [.int p3]) (rest := []) hx hb hml hown hw (m_X6_append l D cI cJ cB cP cM cZ h_tape h_tape_bytes F35 y36 g37 p3 _ n46 t39 (ir_wk k45 (by decide) (by decide)) t41) wV_X9_106_X6_append dX9_feed_42 hK hP hD hS hA [2, 3] [0, 1] rfl rfl (by decide) (by decide) (by decide) 0 6 rfl rfl GG.fb hG.at hl.1 rfl (Nat.le_of_ble_eq_true rfl) ⟨(Nat.le_of_ble_eq_true rfl), (Nat.le_of_ble_eq_true rfl)⟩ ⟨(Nat.le_of_ble_eq_true rfl), (Nat.le_of_ble_eq_true rfl)⟩ (fun u H locs hp hP hD hS => ?_)
    obtain ⟨F48, y49, g50, t51, t52, t53, t54, t55, t56, rfl⟩ := hp
    have hP : va_P D vwCl [(h0, .inr (9, vL 19 Fh)), (h_tape_wordNames, .inl (cJ, 23, .inr (.inl f_tape_wordNames))), (h_tape, .inr (6, vL 12 F48)), (h_tape_bytes, .inl (cB, 940, .inl g50))] H := hP
    have hD : va_D A [(h0, .inr (9, vL 19 Fh)), (h_tape_wordNames, .inl (cJ, 23, .inr (.inl f_tape_wordNames))), (h_tape, .inr (6, vL 12 F48)), (h_tape_bytes, .inl (cB, 940, .inl g50))] := hD
    refine W.widen (k := 0) (n := 0) (Nat.le_of_ble_eq_true rfl) (Nat.le_of_ble_eq_true rfl) ?_
    have k58 : 16 ≤ y49.toInt ∧ y49.toInt ≤ 936 := ⟨by omega, by omega⟩
    refine lv_aload_n hx hb dX9_feed_45 rfl (lv_at hl 0 rfl) ?_
    refine get_f (D := D) (ci := 9) (v := .ref h_tape) (C := RX9) (T := TX9) (N := 19) hx hb hw inAX9 hown hK hP 0 rfl rfl 0 (by decide) (hw _ q_440) (fun _ h9 => h9) e_tape dX9_feed_46 ?_
    refine lv_iload hx hb dX9_feed_49 (lv_at hl 5 rfl) ?_
    have n59 : F48 0 = .ref h_tape_bytes := (SAME.at t51 (by decide) n46)
    refine call_Vv (wr := [(h0, .inr (9, vL 19 Fh)), (h_tape_wordNames, .inl (cJ, 23, .inr (.inl f_tape_wordNames)))]) (As := [.int p4]) (rest := []) hx hb hml hown hw (m_X6_append l D cI cJ cB cP cM cZ h_tape h_tape_bytes F48 y49 g50 p4 _ n59 t52 (ir_wk k58 (by decide) (by decide)) t54) wV_X9_106_X6_append dX9_feed_51 hK hP hD hS hA [2, 3] [0, 1] rfl rfl (by decide) (by decide) (by decide) 0 6 rfl rfl GG.fb hG.at hl.1 rfl (Nat.le_of_ble_eq_true rfl) ⟨(Nat.le_of_ble_eq_true rfl), (Nat.le_of_ble_eq_true rfl)⟩ ⟨(Nat.le_of_ble_eq_true rfl), (Nat.le_of_ble_eq_true rfl)⟩ (fun u H locs hp hP hD hS => ?_)
    obtain ⟨F61, y62, g63, t64, t65, t66, t67, t68, t69, rfl⟩ := hp
    have hP : va_P D vwCl [(h0, .inr (9, vL 19 Fh)), (h_tape_wordNames, .inl (cJ, 23, .inr (.inl f_tape_wordNames))), (h_tape, .inr (6, vL 12 F61)), (h_tape_bytes, .inl (cB, 940, .inl g63))] H := hP
    have hD : va_D A [(h0, .inr (9, vL 19 Fh)), (h_tape_wordNames, .inl (cJ, 23, .inr (.inl f_tape_wordNames))), (h_tape, .inr (6, vL 12 F61)), (h_tape_bytes, .inl (cB, 940, .inl g63))] := hD
    refine W.widen (k := 0) (n := 0) (Nat.le_of_ble_eq_true rfl) (Nat.le_of_ble_eq_true rfl) ?_
    have k71 : 20 ≤ y62.toInt ∧ y62.toInt ≤ 940 := ⟨by omega, by omega⟩
    refine lv_aload_n hx hb dX9_feed_54 rfl (lv_at hl 0 rfl) ?_
    refine get_f (D := D) (ci := 9) (v := .ref h_tape) (C := RX9) (T := TX9) (N := 19) hx hb hw inAX9 hown hK hP 0 rfl rfl 0 (by decide) (hw _ q_440) (fun _ h9 => h9) e_tape dX9_feed_55 ?_
    refine get_f (D := D) (ci := 6) (v := .int y62) (C := RX6) (T := TX6) (N := 12) hx hb hw inAX6 hown hK hP 2 rfl rfl 1 (by decide) (hw _ q_91) (fun _ h9 => h9) t65 dX9_feed_58 ?_
    exact ret_i (v := y62) hx hb hr hlocks hS (hP.sub (ws' := [(h0, .inr (9, vL 19 Fh)), (h_tape, .inr (6, vL 12 F61)), (h_tape_bytes, .inl (cB, 940, .inl g63)), (h_tape_wordNames, .inl (cJ, 23, .inr (.inl f_tape_wordNames)))]) [0, 2, 3, 1] rfl) (hD.sub (ws' := [(h0, .inr (9, vL 19 Fh)), (h_tape, .inr (6, vL 12 F61)), (h_tape_bytes, .inl (cB, 940, .inl g63)), (h_tape_wordNames, .inl (cJ, 23, .inr (.inl f_tape_wordNames)))]) [0, 2, 3, 1] (by decide) rfl) dX9_feed_61 rfl (Nat.le_of_ble_eq_true rfl) (Nat.le_of_ble_eq_true rfl) ⟨F61, y62, g63, (SAME.tr (SAME.tr (SAME.tr (SAME.tr (SAME.tr SAME.rf t12 (by decide)) t25 (by decide)) t38 (by decide)) t51 (by decide)) t64 (by decide)), t65, (ir_wk k71 (by decide) (by decide)), t67, (ir_wk k71 (by decide) (by decide)), (Or.inl ⟨by omega, by omega, by omega, ap20_of t17 t30 t43 t56 t69 (by omega) (by omega) (by omega) (by omega) (by omega)⟩), rfl⟩
  · have dc5 : r1.toInt = 0 := eq_i (a := r1.toInt) (b := 0) rfl rfl c5
    have k72 : 0 ≤ r1.toInt ∧ r1.toInt ≤ 0 := ⟨t2.1, Int.le_trans (Int.le_of_eq dc5) (Int.le_refl _)⟩
    refine lv_iconst (v := (-1)) hx hb dX9_feed_10 (by decide) ?_
    exact ret_i (v := (-1)) hx hb hr hlocks hS (hP.sub (ws' := [(h0, .inr (9, vL 19 Fh)), (h_tape, .inr (6, vL 12 F_tape_)), (h_tape_bytes, .inl (cB, 940, .inl f_tape_bytes)), (h_tape_wordNames, .inl (cJ, 23, .inr (.inl f_tape_wordNames)))]) [0, 3, 1, 2] rfl) (hD.sub (ws' := [(h0, .inr (9, vL 19 Fh)), (h_tape, .inr (6, vL 12 F_tape_)), (h_tape_bytes, .inl (cB, 940, .inl f_tape_bytes)), (h_tape_wordNames, .inl (cJ, 23, .inr (.inl f_tape_wordNames)))]) [0, 3, 1, 2] (by decide) rfl) dX9_feed_11 rfl (Nat.le_of_ble_eq_true rfl) (Nat.le_of_ble_eq_true rfl) ⟨F_tape_, x_tape_length, f_tape_bytes, SAME.rf, e_tape_length, i_x_tape_length, s_tape_bytes_0, (show (-1) ≤ ((-1) : Int32).toInt ∧ ((-1) : Int32).toInt ≤ 940 by decide), (Or.inr ⟨by omega, by decide, rfl, rfl⟩), rfl⟩
set_option maxHeartbeats 4000000 in
set_option maxRecDepth 100000 in
theorem m_X9_end (l : Launch) (D : va_G) (cI cJ cB cP cM cZ : ClassId) (h0 : Nat) (h_tape : Nat) (h_tape_bytes : Nat) (h_tape_wordNames : Nat) (Fh : Nat → Value) (F_tape_ : Nat → Value) (x_tape_length : Int32) (f_tape_bytes : Nat → Int32) (f_tape_wordNames : Nat → Int64) (p0 : Int32) (sz : Nat) (e_tape : Fh 0 = .ref h_tape) (e_tape_bytes : F_tape_ 0 = .ref h_tape_bytes) (e_tape_length : F_tape_ 1 = .int x_tape_length) (i_x_tape_length : IR 0 940 x_tape_length) (e_tape_wordNames : F_tape_ 9 = .ref h_tape_wordNames) (s_tape_bytes_0 : SG 0 939 (-128) 127 f_tape_bytes) (s_tape_wordNames_KN : KWN f_tape_wordNames) : CI l yX9_end cX9_end 2 (some .boolean) { frames := 0, cells := 0, slots := 0, locals := 0 } (GG D cI cJ cB cP cM cZ) D [(h0, .inr (9, vL 19 Fh)), (h_tape, .inr (6, vL 12 F_tape_)), (h_tape_bytes, .inl (cB, 940, .inl f_tape_bytes)), (h_tape_wordNames, .inl (cJ, 23, .inr (.inl f_tape_wordNames)))] sz [.ref h0, .int p0] (fun (r : Int32) (u : va_W) => ∃ (G_tape_ : Nat → Value) (y_tape_length : Int32), SAME [1] F_tape_ G_tape_ ∧ G_tape_ 1 = .int y_tape_length ∧ IR 0 940 y_tape_length ∧ IR 0 1 r ∧ ((0 ≤ p0.toInt → p0.toInt ≤ x_tape_length.toInt → r.toInt = 1 ∧ y_tape_length.toInt = p0.toInt) ∧ ((p0.toInt < 0 ∨ x_tape_length.toInt < p0.toInt) → r.toInt = 0 ∧ y_tape_length.toInt = x_tape_length.toInt)) ∧ u = [(h0, .inr (9, vL 19 Fh)), (h_tape, .inr (6, vL 12 G_tape_)), (h_tape_bytes, .inl (cB, 940, .inl f_tape_bytes)), (h_tape_wordNames, .inl (cJ, 23, .inr (.inl f_tape_wordNames)))]) := by
  refine CI_mk (by decide) (Nat.le_of_ble_eq_true rfl) ?_
  intro p e s m below meth c A ls E hAe hG hsz hP hD hA hS hl
  obtain ⟨hx, hb, hr, hw, hown, hlocks, hml, hnm⟩ := E
  have hK := hG.1
  have i_x_tape_length : 0 ≤ x_tape_length.toInt ∧ x_tape_length.toInt ≤ 940 := i_x_tape_length
  have hl : lv_has ls 2 [(0, .ref h0), (1, .int p0)] := hl
  refine lv_iload_n hx hb dX9_end_0 rfl (lv_at hl 1 rfl) ?_
  refine lv_if_lt (tgt := 15) hx hb dX9_end_1 (by decide) (fun c1 => ?_) (fun c1 => ?_)
  · have dc1 : p0.toInt < 0 := lt_i (a := p0.toInt) (b := 0) rfl rfl c1
    have k2 : (-2147483648) ≤ p0.toInt ∧ p0.toInt ≤ (-1) := ⟨(ir_any _).1, up_lt dc1 (Int.le_refl _) (by decide)⟩
    refine lv_iconst (v := 0) hx hb dX9_end_15 (by decide) ?_
    exact ret_i (v := 0) hx hb hr hlocks hS hP hD dX9_end_16 rfl (Nat.le_of_ble_eq_true rfl) (Nat.le_of_ble_eq_true rfl) ⟨F_tape_, x_tape_length, SAME.rf, e_tape_length, i_x_tape_length, (show 0 ≤ (0 : Int32).toInt ∧ (0 : Int32).toInt ≤ 1 by decide), (by have zl0 : (0 : Int32).toInt = 0 := (by decide); omega), rfl⟩
  · have dc1 : 0 ≤ p0.toInt := nlt_i (a := p0.toInt) (b := 0) rfl rfl c1
    have k3 : 0 ≤ p0.toInt ∧ p0.toInt ≤ 2147483647 := ⟨Int.le_trans (Int.le_refl _) dc1, (ir_any _).2⟩
    refine lv_iload_n hx hb dX9_end_4 rfl (lv_at hl 1 rfl) ?_
    refine lv_aload_n hx hb dX9_end_5 rfl (lv_at hl 0 rfl) ?_
    refine get_f (D := D) (ci := 9) (v := .ref h_tape) (C := RX9) (T := TX9) (N := 19) hx hb hw inAX9 hown hK hP 0 rfl rfl 0 (by decide) (hw _ q_440) (fun _ h9 => h9) e_tape dX9_end_6 ?_
    refine get_f (D := D) (ci := 6) (v := .int x_tape_length) (C := RX6) (T := TX6) (N := 12) hx hb hw inAX6 hown hK hP 1 rfl rfl 1 (by decide) (hw _ q_91) (fun _ h9 => h9) e_tape_length dX9_end_9 ?_
    refine lv_icmp_le (tgt := 17) hx hb dX9_end_12 (by decide) (fun c4 => ?_) (fun c4 => ?_)
    · have dc4 : p0.toInt ≤ x_tape_length.toInt := le_i (a := p0.toInt) (b := x_tape_length.toInt) rfl rfl c4
      have k5 : 0 ≤ p0.toInt ∧ p0.toInt ≤ 940 := ⟨k3.1, Int.le_trans dc4 i_x_tape_length.2⟩
      refine lv_aload_n hx hb dX9_end_17 rfl (lv_at hl 0 rfl) ?_
      refine get_f (D := D) (ci := 9) (v := .ref h_tape) (C := RX9) (T := TX9) (N := 19) hx hb hw inAX9 hown hK hP 0 rfl rfl 0 (by decide) (hw _ q_440) (fun _ h9 => h9) e_tape dX9_end_18 ?_
      refine lv_iload_n hx hb dX9_end_21 rfl (lv_at hl 1 rfl) ?_
      refine put_f (D := D) (ci := 6) (v := .int p0) (ty := .int) (C := RX6) (T := TX6) (N := 12) hx hb hw inAX6 tyX6 tyX6_ok nmX6 hown hK hP hD hS 1 rfl rfl 1 (by decide) (hw _ q_91) (fun _ h9 => h9) rfl (by decide +kernel) rfl rfl dX9_end_22 (fun H locs F6 eF6 hP hD hS => ?_)
      have hP : va_P D vwCl [(h0, .inr (9, vL 19 Fh)), (h_tape, .inr (6, vL 12 F6)), (h_tape_bytes, .inl (cB, 940, .inl f_tape_bytes)), (h_tape_wordNames, .inl (cJ, 23, .inr (.inl f_tape_wordNames)))] H := hP
      have hD : va_D A [(h0, .inr (9, vL 19 Fh)), (h_tape, .inr (6, vL 12 F6)), (h_tape_bytes, .inl (cB, 940, .inl f_tape_bytes)), (h_tape_wordNames, .inl (cJ, 23, .inr (.inl f_tape_wordNames)))] := hD
      refine lv_iconst (v := 1) hx hb dX9_end_25 (by decide) ?_
      exact ret_i (v := 1) hx hb hr hlocks hS hP hD dX9_end_26 rfl (Nat.le_of_ble_eq_true rfl) (Nat.le_of_ble_eq_true rfl) ⟨F6, p0, (SAME.up eF6 SAME.rf (by decide)), (get_eq eF6), k5, (show 0 ≤ (1 : Int32).toInt ∧ (1 : Int32).toInt ≤ 1 by decide), (by have zl1 : (1 : Int32).toInt = 1 := (by decide); omega), rfl⟩
    · have dc4 : x_tape_length.toInt < p0.toInt := nle_i (a := p0.toInt) (b := x_tape_length.toInt) rfl rfl c4
      have k7 : 1 ≤ p0.toInt ∧ p0.toInt ≤ 2147483647 := ⟨lo_lt dc4 i_x_tape_length.1 (by decide), k3.2⟩
      refine lv_iconst (v := 0) hx hb dX9_end_15 (by decide) ?_
      exact ret_i (v := 0) hx hb hr hlocks hS hP hD dX9_end_16 rfl (Nat.le_of_ble_eq_true rfl) (Nat.le_of_ble_eq_true rfl) ⟨F_tape_, x_tape_length, SAME.rf, e_tape_length, i_x_tape_length, (show 0 ≤ (0 : Int32).toInt ∧ (0 : Int32).toInt ≤ 1 by decide), (by have zl0 : (0 : Int32).toInt = 0 := (by decide); omega), rfl⟩
set_option maxHeartbeats 4000000 in
set_option maxRecDepth 100000 in
theorem m_X1_init (l : Launch) (D : va_G) (cI cJ cB cP cM cZ : ClassId) (z0 tU tL tM : Nat) (h0 : Nat) (Fh : Nat → Value) (p0 : Int32) (sz : Nat)  : CV l yX1_init cX1_init 2 none { frames := 1, cells := 12, slots := 119, locals := 40 } (GY D cI cJ cB cP cM cZ z0 tU tL tM [(h0, .inr (1, vL 18 Fh))]) D [(h0, .inr (1, vL 18 Fh))] sz [.ref h0, .int p0] (fun (u : va_W) => ∃ (Gh : Nat → Value) (n_settings : Nat) (n_manName : Nat) (n_push : Nat) (n_feet : Nat) (n_weight : Nat) (n_length : Nat) (n_drop : Nat) (n_ideal : Nat) (n_over : Nat) (n_runnerName : Nat) (n_bestAt : Nat) (n_bad : Nat) (g_settings : Nat → Int32) (g_manName : Nat → Int64) (g_push : Nat → Int32) (g_feet : Nat → Int32) (g_weight : Nat → Int32) (g_length : Nat → Int32) (g_drop : Nat → Int32) (g_ideal : Nat → Int32) (g_over : Nat → Int32) (g_runnerName : Nat → Int64) (g_bestAt : Nat → Int32) (g_bad : Nat → Int32), SAME [0, 1, 2, 3, 4, 5, 6, 7, 8, 9, 10, 11, 12, 13, 14, 15, 16, 17] Fh Gh ∧ Gh 0 = .int p0 ∧ Gh 1 = .ref n_settings ∧ Gh 2 = .ref n_manName ∧ Gh 3 = .ref n_push ∧ Gh 4 = .ref n_feet ∧ Gh 5 = .ref n_weight ∧ Gh 6 = .ref n_length ∧ Gh 7 = .ref n_drop ∧ Gh 8 = .ref n_ideal ∧ Gh 9 = .ref n_over ∧ Gh 10 = .ref n_runnerName ∧ Gh 11 = .ref n_bestAt ∧ Gh 12 = .ref n_bad ∧ Gh 13 = .int 0 ∧ Gh 14 = .int 0 ∧ Gh 15 = .int 0 ∧ Gh 16 = .int 0 ∧ Gh 17 = .int 0 ∧ SG 0 0 5 40 g_settings ∧ ((g_settings 0).toInt = 40) ∧ u = [(h0, .inr (1, vL 18 Gh)), (n_settings, .inl (cI, 5, .inl g_settings)), (n_manName, .inl (cJ, 12, .inr (.inl g_manName))), (n_push, .inl (cI, 12, .inl g_push)), (n_feet, .inl (cI, 12, .inl g_feet)), (n_weight, .inl (cI, 12, .inl g_weight)), (n_length, .inl (cI, 12, .inl g_length)), (n_drop, .inl (cI, 12, .inl g_drop)), (n_ideal, .inl (cI, 12, .inl g_ideal)), (n_over, .inl (cI, 12, .inl g_over)), (n_runnerName, .inl (cJ, 6, .inr (.inl g_runnerName))), (n_bestAt, .inl (cI, 6, .inl g_bestAt)), (n_bad, .inl (cI, 6, .inl g_bad))]) := by
  refine CV_mk (by decide) (Nat.le_of_ble_eq_true rfl) ?_
  intro p e s m below meth c A ls E hAe hG hsz hP hD hA hS hl
  obtain ⟨hx, hb, hr, hw, hown, hlocks, hml, hnm⟩ := E
  have hK := hG.1.1
  have hAz := hG.hAz hAe hsz
  have hST := hG.st hAz
  have hl : lv_has ls 2 [(0, .ref h0), (1, .int p0)] := hl
  refine lv_aload_n hx hb dX1_init_0 rfl (lv_at hl 0 rfl) ?_
  refine W.objInit hx hb hown (hw _ q_303) (hw _ q_30) (hw _ q_31) rfl (by rw [hml]; exact hl.1) rfl dX1_init_1 (Nat.le_of_ble_eq_true rfl) (Nat.le_of_ble_eq_true rfl) ?_
  refine W.eq (g2 := F0 m 4 ls []) rfl ?_
  refine lv_aload_n hx hb dX1_init_4 rfl (lv_at hl 0 rfl) ?_
  refine va_getsN hx hb hST.1 hS hown (va_Nw.use rfl (hG.1.2.1 (.fieldLinkNest "FourSledge$Course" 9 "FourSledge" "SETTING_USUAL" "[I" "FourSledge") (by decide +kernel))) (fun _ h9 => h9) dX1_init_5 ?_
  refine cloneT hx hb (hml.trans hl.1.symm) hown (hw _ q_306) (hw _ q_307) (hw _ q_308) (hw _ q_309) (hw _ q_310) (hG.1.2.1 _ (by decide +kernel)) hST.2.1 hS hK 0 rfl hP hD hA (Nat.le_of_ble_eq_true rfl) (Nat.le_of_ble_eq_true rfl) (Nat.le_of_ble_eq_true rfl) (Nat.le_of_ble_eq_true rfl) dX1_init_8 (fun q1 H hP hD hS => ?_)
  have hP : va_P D vwCl [(h0, .inr (1, vL 18 Fh)), (q1, .inl (cI, 5, .inl uF))] H := hP
  have hD : va_D A [(h0, .inr (1, vL 18 Fh)), (q1, .inl (cI, 5, .inl uF))] := hD
  refine W.widen (k := 1) (n := 5) (Nat.le_of_ble_eq_true rfl) (Nat.le_of_ble_eq_true rfl) ?_
  refine va_castA hx hb hown (hw _ q_312) hP 1 rfl (va_nm_int (hK.2 0 _ rfl).2) dX1_init_11 ?_
  refine put_fF (D := D) (ci := 1) (v := .ref q1) (ty := (.array .int)) (C := RX1) (T := TX1) (N := 18) hx hb hw inAX1 tyX1 tyX1_ok nmX1 hown hK hP hD hS 0 rfl rfl 1 (by decide) (hw _ q_315) (fun _ h9 => h9) rfl hnm rfl (by decide +kernel) rfl rfl dX1_init_14 (fun H locs F2 eF2 hP hD hS => ?_)
  have hP : va_P D vwCl [(h0, .inr (1, vL 18 F2)), (q1, .inl (cI, 5, .inl uF))] H := hP
  have hD : va_D A [(h0, .inr (1, vL 18 F2)), (q1, .inl (cI, 5, .inl uF))] := hD
  refine lv_aload_n hx hb dX1_init_17 rfl (lv_at hl 0 rfl) ?_
  refine lv_bipush (v := 12) hx hb dX1_init_18 (by decide) ?_
  refine newA (atype := .long) (ty := .long) (N' := 12) (a0 := (12, .inr <| .inl (fun _ => 0))) hx hb (hw _ q_138) rfl hK 1 rfl (by intro C; exact nofun) hP hD hS hA (fun cA => rfl) (by decide) (by decide +kernel) (Nat.le_of_ble_eq_true rfl) (Nat.le_of_ble_eq_true rfl) (Nat.le_of_ble_eq_true rfl) dX1_init_20 (fun q3 H hP hD hS => ?_)
  obtain ⟨g4, eg4⟩ : ∃ z : Nat → Int64, (fun _ => 0) = z := ⟨_, rfl⟩
  rw [eg4] at hP hD
  have hP : va_P D vwCl [(h0, .inr (1, vL 18 F2)), (q1, .inl (cI, 5, .inl uF)), (q3, .inl (cJ, 12, .inr (.inl g4)))] H := hP
  have hD : va_D A [(h0, .inr (1, vL 18 F2)), (q1, .inl (cI, 5, .inl uF)), (q3, .inl (cJ, 12, .inr (.inl g4)))] := hD
  refine W.widen (k := 2) (n := 17) (Nat.le_of_ble_eq_true rfl) (Nat.le_of_ble_eq_true rfl) ?_
  refine put_fF (D := D) (ci := 1) (v := .ref q3) (ty := (.array .long)) (C := RX1) (T := TX1) (N := 18) hx hb hw inAX1 tyX1 tyX1_ok nmX1 hown hK hP hD hS 0 rfl rfl 2 (by decide) (hw _ q_320) (fun _ h9 => h9) rfl hnm rfl (by decide +kernel) rfl rfl dX1_init_22 (fun H locs F5 eF5 hP hD hS => ?_)
  have hP : va_P D vwCl [(h0, .inr (1, vL 18 F5)), (q1, .inl (cI, 5, .inl uF)), (q3, .inl (cJ, 12, .inr (.inl g4)))] H := hP
  have hD : va_D A [(h0, .inr (1, vL 18 F5)), (q1, .inl (cI, 5, .inl uF)), (q3, .inl (cJ, 12, .inr (.inl g4)))] := hD
  refine lv_aload_n hx hb dX1_init_25 rfl (lv_at hl 0 rfl) ?_
  refine lv_bipush (v := 12) hx hb dX1_init_26 (by decide) ?_
  refine newA (atype := .int) (ty := .int) (N' := 12) (a0 := (12, .inl (fun _ => 0))) hx hb (hw _ q_198) rfl hK 0 rfl (by intro C; exact nofun) hP hD hS hA (fun cA => rfl) (by decide) (by decide +kernel) (Nat.le_of_ble_eq_true rfl) (Nat.le_of_ble_eq_true rfl) (Nat.le_of_ble_eq_true rfl) dX1_init_28 (fun q6 H hP hD hS => ?_)
  obtain ⟨g7, eg7⟩ : ∃ z : Nat → Int32, (fun _ => 0) = z := ⟨_, rfl⟩
  rw [eg7] at hP hD
  have hP : va_P D vwCl [(h0, .inr (1, vL 18 F5)), (q1, .inl (cI, 5, .inl uF)), (q3, .inl (cJ, 12, .inr (.inl g4))), (q6, .inl (cI, 12, .inl g7))] H := hP
  have hD : va_D A [(h0, .inr (1, vL 18 F5)), (q1, .inl (cI, 5, .inl uF)), (q3, .inl (cJ, 12, .inr (.inl g4))), (q6, .inl (cI, 12, .inl g7))] := hD
  refine W.widen (k := 3) (n := 29) (Nat.le_of_ble_eq_true rfl) (Nat.le_of_ble_eq_true rfl) ?_
  refine put_fF (D := D) (ci := 1) (v := .ref q6) (ty := (.array .int)) (C := RX1) (T := TX1) (N := 18) hx hb hw inAX1 tyX1 tyX1_ok nmX1 hown hK hP hD hS 0 rfl rfl 3 (by decide) (hw _ q_321) (fun _ h9 => h9) rfl hnm rfl (by decide +kernel) rfl rfl dX1_init_30 (fun H locs F8 eF8 hP hD hS => ?_)
  have hP : va_P D vwCl [(h0, .inr (1, vL 18 F8)), (q1, .inl (cI, 5, .inl uF)), (q3, .inl (cJ, 12, .inr (.inl g4))), (q6, .inl (cI, 12, .inl g7))] H := hP
  have hD : va_D A [(h0, .inr (1, vL 18 F8)), (q1, .inl (cI, 5, .inl uF)), (q3, .inl (cJ, 12, .inr (.inl g4))), (q6, .inl (cI, 12, .inl g7))] := hD
  refine lv_aload_n hx hb dX1_init_33 rfl (lv_at hl 0 rfl) ?_
  refine lv_bipush (v := 12) hx hb dX1_init_34 (by decide) ?_
  refine newA (atype := .int) (ty := .int) (N' := 12) (a0 := (12, .inl (fun _ => 0))) hx hb (hw _ q_198) rfl hK 0 rfl (by intro C; exact nofun) hP hD hS hA (fun cA => rfl) (by decide) (by decide +kernel) (Nat.le_of_ble_eq_true rfl) (Nat.le_of_ble_eq_true rfl) (Nat.le_of_ble_eq_true rfl) dX1_init_36 (fun q9 H hP hD hS => ?_)
  obtain ⟨g10, eg10⟩ : ∃ z : Nat → Int32, (fun _ => 0) = z := ⟨_, rfl⟩
  rw [eg10] at hP hD
  have hP : va_P D vwCl [(h0, .inr (1, vL 18 F8)), (q1, .inl (cI, 5, .inl uF)), (q3, .inl (cJ, 12, .inr (.inl g4))), (q6, .inl (cI, 12, .inl g7)), (q9, .inl (cI, 12, .inl g10))] H := hP
  have hD : va_D A [(h0, .inr (1, vL 18 F8)), (q1, .inl (cI, 5, .inl uF)), (q3, .inl (cJ, 12, .inr (.inl g4))), (q6, .inl (cI, 12, .inl g7)), (q9, .inl (cI, 12, .inl g10))] := hD
  refine W.widen (k := 4) (n := 41) (Nat.le_of_ble_eq_true rfl) (Nat.le_of_ble_eq_true rfl) ?_
  refine put_fF (D := D) (ci := 1) (v := .ref q9) (ty := (.array .int)) (C := RX1) (T := TX1) (N := 18) hx hb hw inAX1 tyX1 tyX1_ok nmX1 hown hK hP hD hS 0 rfl rfl 4 (by decide) (hw _ q_326) (fun _ h9 => h9) rfl hnm rfl (by decide +kernel) rfl rfl dX1_init_38 (fun H locs F11 eF11 hP hD hS => ?_)
  have hP : va_P D vwCl [(h0, .inr (1, vL 18 F11)), (q1, .inl (cI, 5, .inl uF)), (q3, .inl (cJ, 12, .inr (.inl g4))), (q6, .inl (cI, 12, .inl g7)), (q9, .inl (cI, 12, .inl g10))] H := hP
  have hD : va_D A [(h0, .inr (1, vL 18 F11)), (q1, .inl (cI, 5, .inl uF)), (q3, .inl (cJ, 12, .inr (.inl g4))), (q6, .inl (cI, 12, .inl g7)), (q9, .inl (cI, 12, .inl g10))] := hD
  refine lv_aload_n hx hb dX1_init_41 rfl (lv_at hl 0 rfl) ?_
  refine lv_bipush (v := 12) hx hb dX1_init_42 (by decide) ?_
  refine newA (atype := .int) (ty := .int) (N' := 12) (a0 := (12, .inl (fun _ => 0))) hx hb (hw _ q_198) rfl hK 0 rfl (by intro C; exact nofun) hP hD hS hA (fun cA => rfl) (by decide) (by decide +kernel) (Nat.le_of_ble_eq_true rfl) (Nat.le_of_ble_eq_true rfl) (Nat.le_of_ble_eq_true rfl) dX1_init_44 (fun q12 H hP hD hS => ?_)
  obtain ⟨g13, eg13⟩ : ∃ z : Nat → Int32, (fun _ => 0) = z := ⟨_, rfl⟩
  rw [eg13] at hP hD
  have hP : va_P D vwCl [(h0, .inr (1, vL 18 F11)), (q1, .inl (cI, 5, .inl uF)), (q3, .inl (cJ, 12, .inr (.inl g4))), (q6, .inl (cI, 12, .inl g7)), (q9, .inl (cI, 12, .inl g10)), (q12, .inl (cI, 12, .inl g13))] H := hP
  have hD : va_D A [(h0, .inr (1, vL 18 F11)), (q1, .inl (cI, 5, .inl uF)), (q3, .inl (cJ, 12, .inr (.inl g4))), (q6, .inl (cI, 12, .inl g7)), (q9, .inl (cI, 12, .inl g10)), (q12, .inl (cI, 12, .inl g13))] := hD
  refine W.widen (k := 5) (n := 53) (Nat.le_of_ble_eq_true rfl) (Nat.le_of_ble_eq_true rfl) ?_
  refine put_fF (D := D) (ci := 1) (v := .ref q12) (ty := (.array .int)) (C := RX1) (T := TX1) (N := 18) hx hb hw inAX1 tyX1 tyX1_ok nmX1 hown hK hP hD hS 0 rfl rfl 5 (by decide) (hw _ q_331) (fun _ h9 => h9) rfl hnm rfl (by decide +kernel) rfl rfl dX1_init_46 (fun H locs F14 eF14 hP hD hS => ?_)
  have hP : va_P D vwCl [(h0, .inr (1, vL 18 F14)), (q1, .inl (cI, 5, .inl uF)), (q3, .inl (cJ, 12, .inr (.inl g4))), (q6, .inl (cI, 12, .inl g7)), (q9, .inl (cI, 12, .inl g10)), (q12, .inl (cI, 12, .inl g13))] H := hP
  have hD : va_D A [(h0, .inr (1, vL 18 F14)), (q1, .inl (cI, 5, .inl uF)), (q3, .inl (cJ, 12, .inr (.inl g4))), (q6, .inl (cI, 12, .inl g7)), (q9, .inl (cI, 12, .inl g10)), (q12, .inl (cI, 12, .inl g13))] := hD
  refine lv_aload_n hx hb dX1_init_49 rfl (lv_at hl 0 rfl) ?_
  refine lv_bipush (v := 12) hx hb dX1_init_50 (by decide) ?_
  refine newA (atype := .int) (ty := .int) (N' := 12) (a0 := (12, .inl (fun _ => 0))) hx hb (hw _ q_198) rfl hK 0 rfl (by intro C; exact nofun) hP hD hS hA (fun cA => rfl) (by decide) (by decide +kernel) (Nat.le_of_ble_eq_true rfl) (Nat.le_of_ble_eq_true rfl) (Nat.le_of_ble_eq_true rfl) dX1_init_52 (fun q15 H hP hD hS => ?_)
  obtain ⟨g16, eg16⟩ : ∃ z : Nat → Int32, (fun _ => 0) = z := ⟨_, rfl⟩
  rw [eg16] at hP hD
  have hP : va_P D vwCl [(h0, .inr (1, vL 18 F14)), (q1, .inl (cI, 5, .inl uF)), (q3, .inl (cJ, 12, .inr (.inl g4))), (q6, .inl (cI, 12, .inl g7)), (q9, .inl (cI, 12, .inl g10)), (q12, .inl (cI, 12, .inl g13)), (q15, .inl (cI, 12, .inl g16))] H := hP
  have hD : va_D A [(h0, .inr (1, vL 18 F14)), (q1, .inl (cI, 5, .inl uF)), (q3, .inl (cJ, 12, .inr (.inl g4))), (q6, .inl (cI, 12, .inl g7)), (q9, .inl (cI, 12, .inl g10)), (q12, .inl (cI, 12, .inl g13)), (q15, .inl (cI, 12, .inl g16))] := hD
  refine W.widen (k := 6) (n := 65) (Nat.le_of_ble_eq_true rfl) (Nat.le_of_ble_eq_true rfl) ?_
  refine put_fF (D := D) (ci := 1) (v := .ref q15) (ty := (.array .int)) (C := RX1) (T := TX1) (N := 18) hx hb hw inAX1 tyX1 tyX1_ok nmX1 hown hK hP hD hS 0 rfl rfl 6 (by decide) (hw _ q_336) (fun _ h9 => h9) rfl hnm rfl (by decide +kernel) rfl rfl dX1_init_54 (fun H locs F17 eF17 hP hD hS => ?_)
  have hP : va_P D vwCl [(h0, .inr (1, vL 18 F17)), (q1, .inl (cI, 5, .inl uF)), (q3, .inl (cJ, 12, .inr (.inl g4))), (q6, .inl (cI, 12, .inl g7)), (q9, .inl (cI, 12, .inl g10)), (q12, .inl (cI, 12, .inl g13)), (q15, .inl (cI, 12, .inl g16))] H := hP
  have hD : va_D A [(h0, .inr (1, vL 18 F17)), (q1, .inl (cI, 5, .inl uF)), (q3, .inl (cJ, 12, .inr (.inl g4))), (q6, .inl (cI, 12, .inl g7)), (q9, .inl (cI, 12, .inl g10)), (q12, .inl (cI, 12, .inl g13)), (q15, .inl (cI, 12, .inl g16))] := hD
  refine lv_aload_n hx hb dX1_init_57 rfl (lv_at hl 0 rfl) ?_
  refine lv_bipush (v := 12) hx hb dX1_init_58 (by decide) ?_
  refine newA (atype := .int) (ty := .int) (N' := 12) (a0 := (12, .inl (fun _ => 0))) hx hb (hw _ q_198) rfl hK 0 rfl (by intro C; exact nofun) hP hD hS hA (fun cA => rfl) (by decide) (by decide +kernel) (Nat.le_of_ble_eq_true rfl) (Nat.le_of_ble_eq_true rfl) (Nat.le_of_ble_eq_true rfl) dX1_init_60 (fun q18 H hP hD hS => ?_)
  obtain ⟨g19, eg19⟩ : ∃ z : Nat → Int32, (fun _ => 0) = z := ⟨_, rfl⟩
  rw [eg19] at hP hD
  have hP : va_P D vwCl [(h0, .inr (1, vL 18 F17)), (q1, .inl (cI, 5, .inl uF)), (q3, .inl (cJ, 12, .inr (.inl g4))), (q6, .inl (cI, 12, .inl g7)), (q9, .inl (cI, 12, .inl g10)), (q12, .inl (cI, 12, .inl g13)), (q15, .inl (cI, 12, .inl g16)), (q18, .inl (cI, 12, .inl g19))] H := hP
  have hD : va_D A [(h0, .inr (1, vL 18 F17)), (q1, .inl (cI, 5, .inl uF)), (q3, .inl (cJ, 12, .inr (.inl g4))), (q6, .inl (cI, 12, .inl g7)), (q9, .inl (cI, 12, .inl g10)), (q12, .inl (cI, 12, .inl g13)), (q15, .inl (cI, 12, .inl g16)), (q18, .inl (cI, 12, .inl g19))] := hD
  refine W.widen (k := 7) (n := 77) (Nat.le_of_ble_eq_true rfl) (Nat.le_of_ble_eq_true rfl) ?_
  refine put_fF (D := D) (ci := 1) (v := .ref q18) (ty := (.array .int)) (C := RX1) (T := TX1) (N := 18) hx hb hw inAX1 tyX1 tyX1_ok nmX1 hown hK hP hD hS 0 rfl rfl 7 (by decide) (hw _ q_340) (fun _ h9 => h9) rfl hnm rfl (by decide +kernel) rfl rfl dX1_init_62 (fun H locs F20 eF20 hP hD hS => ?_)
  have hP : va_P D vwCl [(h0, .inr (1, vL 18 F20)), (q1, .inl (cI, 5, .inl uF)), (q3, .inl (cJ, 12, .inr (.inl g4))), (q6, .inl (cI, 12, .inl g7)), (q9, .inl (cI, 12, .inl g10)), (q12, .inl (cI, 12, .inl g13)), (q15, .inl (cI, 12, .inl g16)), (q18, .inl (cI, 12, .inl g19))] H := hP
  have hD : va_D A [(h0, .inr (1, vL 18 F20)), (q1, .inl (cI, 5, .inl uF)), (q3, .inl (cJ, 12, .inr (.inl g4))), (q6, .inl (cI, 12, .inl g7)), (q9, .inl (cI, 12, .inl g10)), (q12, .inl (cI, 12, .inl g13)), (q15, .inl (cI, 12, .inl g16)), (q18, .inl (cI, 12, .inl g19))] := hD
  refine lv_aload_n hx hb dX1_init_65 rfl (lv_at hl 0 rfl) ?_
  refine lv_bipush (v := 12) hx hb dX1_init_66 (by decide) ?_
  refine newA (atype := .int) (ty := .int) (N' := 12) (a0 := (12, .inl (fun _ => 0))) hx hb (hw _ q_198) rfl hK 0 rfl (by intro C; exact nofun) hP hD hS hA (fun cA => rfl) (by decide) (by decide +kernel) (Nat.le_of_ble_eq_true rfl) (Nat.le_of_ble_eq_true rfl) (Nat.le_of_ble_eq_true rfl) dX1_init_68 (fun q21 H hP hD hS => ?_)
  obtain ⟨g22, eg22⟩ : ∃ z : Nat → Int32, (fun _ => 0) = z := ⟨_, rfl⟩
  rw [eg22] at hP hD
  have hP : va_P D vwCl [(h0, .inr (1, vL 18 F20)), (q1, .inl (cI, 5, .inl uF)), (q3, .inl (cJ, 12, .inr (.inl g4))), (q6, .inl (cI, 12, .inl g7)), (q9, .inl (cI, 12, .inl g10)), (q12, .inl (cI, 12, .inl g13)), (q15, .inl (cI, 12, .inl g16)), (q18, .inl (cI, 12, .inl g19)), (q21, .inl (cI, 12, .inl g22))] H := hP
  have hD : va_D A [(h0, .inr (1, vL 18 F20)), (q1, .inl (cI, 5, .inl uF)), (q3, .inl (cJ, 12, .inr (.inl g4))), (q6, .inl (cI, 12, .inl g7)), (q9, .inl (cI, 12, .inl g10)), (q12, .inl (cI, 12, .inl g13)), (q15, .inl (cI, 12, .inl g16)), (q18, .inl (cI, 12, .inl g19)), (q21, .inl (cI, 12, .inl g22))] := hD
  refine W.widen (k := 8) (n := 89) (Nat.le_of_ble_eq_true rfl) (Nat.le_of_ble_eq_true rfl) ?_
  refine put_fF (D := D) (ci := 1) (v := .ref q21) (ty := (.array .int)) (C := RX1) (T := TX1) (N := 18) hx hb hw inAX1 tyX1 tyX1_ok nmX1 hown hK hP hD hS 0 rfl rfl 8 (by decide) (hw _ q_342) (fun _ h9 => h9) rfl hnm rfl (by decide +kernel) rfl rfl dX1_init_70 (fun H locs F23 eF23 hP hD hS => ?_)
  have hP : va_P D vwCl [(h0, .inr (1, vL 18 F23)), (q1, .inl (cI, 5, .inl uF)), (q3, .inl (cJ, 12, .inr (.inl g4))), (q6, .inl (cI, 12, .inl g7)), (q9, .inl (cI, 12, .inl g10)), (q12, .inl (cI, 12, .inl g13)), (q15, .inl (cI, 12, .inl g16)), (q18, .inl (cI, 12, .inl g19)), (q21, .inl (cI, 12, .inl g22))] H := hP
  have hD : va_D A [(h0, .inr (1, vL 18 F23)), (q1, .inl (cI, 5, .inl uF)), (q3, .inl (cJ, 12, .inr (.inl g4))), (q6, .inl (cI, 12, .inl g7)), (q9, .inl (cI, 12, .inl g10)), (q12, .inl (cI, 12, .inl g13)), (q15, .inl (cI, 12, .inl g16)), (q18, .inl (cI, 12, .inl g19)), (q21, .inl (cI, 12, .inl g22))] := hD
  refine lv_aload_n hx hb dX1_init_73 rfl (lv_at hl 0 rfl) ?_
  refine lv_bipush (v := 12) hx hb dX1_init_74 (by decide) ?_
  refine newA (atype := .int) (ty := .int) (N' := 12) (a0 := (12, .inl (fun _ => 0))) hx hb (hw _ q_198) rfl hK 0 rfl (by intro C; exact nofun) hP hD hS hA (fun cA => rfl) (by decide) (by decide +kernel) (Nat.le_of_ble_eq_true rfl) (Nat.le_of_ble_eq_true rfl) (Nat.le_of_ble_eq_true rfl) dX1_init_76 (fun q24 H hP hD hS => ?_)
  obtain ⟨g25, eg25⟩ : ∃ z : Nat → Int32, (fun _ => 0) = z := ⟨_, rfl⟩
  rw [eg25] at hP hD
  have hP : va_P D vwCl [(h0, .inr (1, vL 18 F23)), (q1, .inl (cI, 5, .inl uF)), (q3, .inl (cJ, 12, .inr (.inl g4))), (q6, .inl (cI, 12, .inl g7)), (q9, .inl (cI, 12, .inl g10)), (q12, .inl (cI, 12, .inl g13)), (q15, .inl (cI, 12, .inl g16)), (q18, .inl (cI, 12, .inl g19)), (q21, .inl (cI, 12, .inl g22)), (q24, .inl (cI, 12, .inl g25))] H := hP
  have hD : va_D A [(h0, .inr (1, vL 18 F23)), (q1, .inl (cI, 5, .inl uF)), (q3, .inl (cJ, 12, .inr (.inl g4))), (q6, .inl (cI, 12, .inl g7)), (q9, .inl (cI, 12, .inl g10)), (q12, .inl (cI, 12, .inl g13)), (q15, .inl (cI, 12, .inl g16)), (q18, .inl (cI, 12, .inl g19)), (q21, .inl (cI, 12, .inl g22)), (q24, .inl (cI, 12, .inl g25))] := hD
  refine W.widen (k := 9) (n := 101) (Nat.le_of_ble_eq_true rfl) (Nat.le_of_ble_eq_true rfl) ?_
  refine put_fF (D := D) (ci := 1) (v := .ref q24) (ty := (.array .int)) (C := RX1) (T := TX1) (N := 18) hx hb hw inAX1 tyX1 tyX1_ok nmX1 hown hK hP hD hS 0 rfl rfl 9 (by decide) (hw _ q_345) (fun _ h9 => h9) rfl hnm rfl (by decide +kernel) rfl rfl dX1_init_78 (fun H locs F26 eF26 hP hD hS => ?_)
  have hP : va_P D vwCl [(h0, .inr (1, vL 18 F26)), (q1, .inl (cI, 5, .inl uF)), (q3, .inl (cJ, 12, .inr (.inl g4))), (q6, .inl (cI, 12, .inl g7)), (q9, .inl (cI, 12, .inl g10)), (q12, .inl (cI, 12, .inl g13)), (q15, .inl (cI, 12, .inl g16)), (q18, .inl (cI, 12, .inl g19)), (q21, .inl (cI, 12, .inl g22)), (q24, .inl (cI, 12, .inl g25))] H := hP
  have hD : va_D A [(h0, .inr (1, vL 18 F26)), (q1, .inl (cI, 5, .inl uF)), (q3, .inl (cJ, 12, .inr (.inl g4))), (q6, .inl (cI, 12, .inl g7)), (q9, .inl (cI, 12, .inl g10)), (q12, .inl (cI, 12, .inl g13)), (q15, .inl (cI, 12, .inl g16)), (q18, .inl (cI, 12, .inl g19)), (q21, .inl (cI, 12, .inl g22)), (q24, .inl (cI, 12, .inl g25))] := hD
  refine lv_aload_n hx hb dX1_init_81 rfl (lv_at hl 0 rfl) ?_
  refine lv_bipush (v := 6) hx hb dX1_init_82 (by decide) ?_
  refine newA (atype := .long) (ty := .long) (N' := 6) (a0 := (6, .inr <| .inl (fun _ => 0))) hx hb (hw _ q_138) rfl hK 1 rfl (by intro C; exact nofun) hP hD hS hA (fun cA => rfl) (by decide) (by decide +kernel) (Nat.le_of_ble_eq_true rfl) (Nat.le_of_ble_eq_true rfl) (Nat.le_of_ble_eq_true rfl) dX1_init_84 (fun q27 H hP hD hS => ?_)
  obtain ⟨g28, eg28⟩ : ∃ z : Nat → Int64, (fun _ => 0) = z := ⟨_, rfl⟩
  rw [eg28] at hP hD
  have hP : va_P D vwCl [(h0, .inr (1, vL 18 F26)), (q1, .inl (cI, 5, .inl uF)), (q3, .inl (cJ, 12, .inr (.inl g4))), (q6, .inl (cI, 12, .inl g7)), (q9, .inl (cI, 12, .inl g10)), (q12, .inl (cI, 12, .inl g13)), (q15, .inl (cI, 12, .inl g16)), (q18, .inl (cI, 12, .inl g19)), (q21, .inl (cI, 12, .inl g22)), (q24, .inl (cI, 12, .inl g25)), (q27, .inl (cJ, 6, .inr (.inl g28)))] H := hP
  have hD : va_D A [(h0, .inr (1, vL 18 F26)), (q1, .inl (cI, 5, .inl uF)), (q3, .inl (cJ, 12, .inr (.inl g4))), (q6, .inl (cI, 12, .inl g7)), (q9, .inl (cI, 12, .inl g10)), (q12, .inl (cI, 12, .inl g13)), (q15, .inl (cI, 12, .inl g16)), (q18, .inl (cI, 12, .inl g19)), (q21, .inl (cI, 12, .inl g22)), (q24, .inl (cI, 12, .inl g25)), (q27, .inl (cJ, 6, .inr (.inl g28)))] := hD
  refine W.widen (k := 10) (n := 107) (Nat.le_of_ble_eq_true rfl) (Nat.le_of_ble_eq_true rfl) ?_
  refine put_fF (D := D) (ci := 1) (v := .ref q27) (ty := (.array .long)) (C := RX1) (T := TX1) (N := 18) hx hb hw inAX1 tyX1 tyX1_ok nmX1 hown hK hP hD hS 0 rfl rfl 10 (by decide) (hw _ q_347) (fun _ h9 => h9) rfl hnm rfl (by decide +kernel) rfl rfl dX1_init_86 (fun H locs F29 eF29 hP hD hS => ?_)
  have hP : va_P D vwCl [(h0, .inr (1, vL 18 F29)), (q1, .inl (cI, 5, .inl uF)), (q3, .inl (cJ, 12, .inr (.inl g4))), (q6, .inl (cI, 12, .inl g7)), (q9, .inl (cI, 12, .inl g10)), (q12, .inl (cI, 12, .inl g13)), (q15, .inl (cI, 12, .inl g16)), (q18, .inl (cI, 12, .inl g19)), (q21, .inl (cI, 12, .inl g22)), (q24, .inl (cI, 12, .inl g25)), (q27, .inl (cJ, 6, .inr (.inl g28)))] H := hP
  have hD : va_D A [(h0, .inr (1, vL 18 F29)), (q1, .inl (cI, 5, .inl uF)), (q3, .inl (cJ, 12, .inr (.inl g4))), (q6, .inl (cI, 12, .inl g7)), (q9, .inl (cI, 12, .inl g10)), (q12, .inl (cI, 12, .inl g13)), (q15, .inl (cI, 12, .inl g16)), (q18, .inl (cI, 12, .inl g19)), (q21, .inl (cI, 12, .inl g22)), (q24, .inl (cI, 12, .inl g25)), (q27, .inl (cJ, 6, .inr (.inl g28)))] := hD
  refine lv_aload_n hx hb dX1_init_89 rfl (lv_at hl 0 rfl) ?_
  refine lv_bipush (v := 6) hx hb dX1_init_90 (by decide) ?_
  refine newA (atype := .int) (ty := .int) (N' := 6) (a0 := (6, .inl (fun _ => 0))) hx hb (hw _ q_198) rfl hK 0 rfl (by intro C; exact nofun) hP hD hS hA (fun cA => rfl) (by decide) (by decide +kernel) (Nat.le_of_ble_eq_true rfl) (Nat.le_of_ble_eq_true rfl) (Nat.le_of_ble_eq_true rfl) dX1_init_92 (fun q30 H hP hD hS => ?_)
  obtain ⟨g31, eg31⟩ : ∃ z : Nat → Int32, (fun _ => 0) = z := ⟨_, rfl⟩
  rw [eg31] at hP hD
  have hP : va_P D vwCl [(h0, .inr (1, vL 18 F29)), (q1, .inl (cI, 5, .inl uF)), (q3, .inl (cJ, 12, .inr (.inl g4))), (q6, .inl (cI, 12, .inl g7)), (q9, .inl (cI, 12, .inl g10)), (q12, .inl (cI, 12, .inl g13)), (q15, .inl (cI, 12, .inl g16)), (q18, .inl (cI, 12, .inl g19)), (q21, .inl (cI, 12, .inl g22)), (q24, .inl (cI, 12, .inl g25)), (q27, .inl (cJ, 6, .inr (.inl g28))), (q30, .inl (cI, 6, .inl g31))] H := hP
  have hD : va_D A [(h0, .inr (1, vL 18 F29)), (q1, .inl (cI, 5, .inl uF)), (q3, .inl (cJ, 12, .inr (.inl g4))), (q6, .inl (cI, 12, .inl g7)), (q9, .inl (cI, 12, .inl g10)), (q12, .inl (cI, 12, .inl g13)), (q15, .inl (cI, 12, .inl g16)), (q18, .inl (cI, 12, .inl g19)), (q21, .inl (cI, 12, .inl g22)), (q24, .inl (cI, 12, .inl g25)), (q27, .inl (cJ, 6, .inr (.inl g28))), (q30, .inl (cI, 6, .inl g31))] := hD
  refine W.widen (k := 11) (n := 113) (Nat.le_of_ble_eq_true rfl) (Nat.le_of_ble_eq_true rfl) ?_
  refine put_fF (D := D) (ci := 1) (v := .ref q30) (ty := (.array .int)) (C := RX1) (T := TX1) (N := 18) hx hb hw inAX1 tyX1 tyX1_ok nmX1 hown hK hP hD hS 0 rfl rfl 11 (by decide) (hw _ q_348) (fun _ h9 => h9) rfl hnm rfl (by decide +kernel) rfl rfl dX1_init_94 (fun H locs F32 eF32 hP hD hS => ?_)
  have hP : va_P D vwCl [(h0, .inr (1, vL 18 F32)), (q1, .inl (cI, 5, .inl uF)), (q3, .inl (cJ, 12, .inr (.inl g4))), (q6, .inl (cI, 12, .inl g7)), (q9, .inl (cI, 12, .inl g10)), (q12, .inl (cI, 12, .inl g13)), (q15, .inl (cI, 12, .inl g16)), (q18, .inl (cI, 12, .inl g19)), (q21, .inl (cI, 12, .inl g22)), (q24, .inl (cI, 12, .inl g25)), (q27, .inl (cJ, 6, .inr (.inl g28))), (q30, .inl (cI, 6, .inl g31))] H := hP
  have hD : va_D A [(h0, .inr (1, vL 18 F32)), (q1, .inl (cI, 5, .inl uF)), (q3, .inl (cJ, 12, .inr (.inl g4))), (q6, .inl (cI, 12, .inl g7)), (q9, .inl (cI, 12, .inl g10)), (q12, .inl (cI, 12, .inl g13)), (q15, .inl (cI, 12, .inl g16)), (q18, .inl (cI, 12, .inl g19)), (q21, .inl (cI, 12, .inl g22)), (q24, .inl (cI, 12, .inl g25)), (q27, .inl (cJ, 6, .inr (.inl g28))), (q30, .inl (cI, 6, .inl g31))] := hD
  refine lv_aload_n hx hb dX1_init_97 rfl (lv_at hl 0 rfl) ?_
  refine lv_bipush (v := 6) hx hb dX1_init_98 (by decide) ?_
  refine newA (atype := .int) (ty := .int) (N' := 6) (a0 := (6, .inl (fun _ => 0))) hx hb (hw _ q_198) rfl hK 0 rfl (by intro C; exact nofun) hP hD hS hA (fun cA => rfl) (by decide) (by decide +kernel) (Nat.le_of_ble_eq_true rfl) (Nat.le_of_ble_eq_true rfl) (Nat.le_of_ble_eq_true rfl) dX1_init_100 (fun q33 H hP hD hS => ?_)
  obtain ⟨g34, eg34⟩ : ∃ z : Nat → Int32, (fun _ => 0) = z := ⟨_, rfl⟩
  rw [eg34] at hP hD
  have hP : va_P D vwCl [(h0, .inr (1, vL 18 F32)), (q1, .inl (cI, 5, .inl uF)), (q3, .inl (cJ, 12, .inr (.inl g4))), (q6, .inl (cI, 12, .inl g7)), (q9, .inl (cI, 12, .inl g10)), (q12, .inl (cI, 12, .inl g13)), (q15, .inl (cI, 12, .inl g16)), (q18, .inl (cI, 12, .inl g19)), (q21, .inl (cI, 12, .inl g22)), (q24, .inl (cI, 12, .inl g25)), (q27, .inl (cJ, 6, .inr (.inl g28))), (q30, .inl (cI, 6, .inl g31)), (q33, .inl (cI, 6, .inl g34))] H := hP
  have hD : va_D A [(h0, .inr (1, vL 18 F32)), (q1, .inl (cI, 5, .inl uF)), (q3, .inl (cJ, 12, .inr (.inl g4))), (q6, .inl (cI, 12, .inl g7)), (q9, .inl (cI, 12, .inl g10)), (q12, .inl (cI, 12, .inl g13)), (q15, .inl (cI, 12, .inl g16)), (q18, .inl (cI, 12, .inl g19)), (q21, .inl (cI, 12, .inl g22)), (q24, .inl (cI, 12, .inl g25)), (q27, .inl (cJ, 6, .inr (.inl g28))), (q30, .inl (cI, 6, .inl g31)), (q33, .inl (cI, 6, .inl g34))] := hD
  refine W.widen (k := 12) (n := 119) (Nat.le_of_ble_eq_true rfl) (Nat.le_of_ble_eq_true rfl) ?_
  refine put_fF (D := D) (ci := 1) (v := .ref q33) (ty := (.array .int)) (C := RX1) (T := TX1) (N := 18) hx hb hw inAX1 tyX1 tyX1_ok nmX1 hown hK hP hD hS 0 rfl rfl 12 (by decide) (hw _ q_350) (fun _ h9 => h9) rfl hnm rfl (by decide +kernel) rfl rfl dX1_init_102 (fun H locs F35 eF35 hP hD hS => ?_)
  have hP : va_P D vwCl [(h0, .inr (1, vL 18 F35)), (q1, .inl (cI, 5, .inl uF)), (q3, .inl (cJ, 12, .inr (.inl g4))), (q6, .inl (cI, 12, .inl g7)), (q9, .inl (cI, 12, .inl g10)), (q12, .inl (cI, 12, .inl g13)), (q15, .inl (cI, 12, .inl g16)), (q18, .inl (cI, 12, .inl g19)), (q21, .inl (cI, 12, .inl g22)), (q24, .inl (cI, 12, .inl g25)), (q27, .inl (cJ, 6, .inr (.inl g28))), (q30, .inl (cI, 6, .inl g31)), (q33, .inl (cI, 6, .inl g34))] H := hP
  have hD : va_D A [(h0, .inr (1, vL 18 F35)), (q1, .inl (cI, 5, .inl uF)), (q3, .inl (cJ, 12, .inr (.inl g4))), (q6, .inl (cI, 12, .inl g7)), (q9, .inl (cI, 12, .inl g10)), (q12, .inl (cI, 12, .inl g13)), (q15, .inl (cI, 12, .inl g16)), (q18, .inl (cI, 12, .inl g19)), (q21, .inl (cI, 12, .inl g22)), (q24, .inl (cI, 12, .inl g25)), (q27, .inl (cJ, 6, .inr (.inl g28))), (q30, .inl (cI, 6, .inl g31)), (q33, .inl (cI, 6, .inl g34))] := hD
  refine lv_aload_n hx hb dX1_init_105 rfl (lv_at hl 0 rfl) ?_
  refine lv_iconst (v := 0) hx hb dX1_init_106 (by decide) ?_
  refine put_f (D := D) (ci := 1) (v := .int 0) (ty := .int) (C := RX1) (T := TX1) (N := 18) hx hb hw inAX1 tyX1 tyX1_ok nmX1 hown hK hP hD hS 0 rfl rfl 13 (by decide) (hw _ q_352) (fun _ h9 => h9) rfl (by decide +kernel) rfl rfl dX1_init_107 (fun H locs F36 eF36 hP hD hS => ?_)
  have hP : va_P D vwCl [(h0, .inr (1, vL 18 F36)), (q1, .inl (cI, 5, .inl uF)), (q3, .inl (cJ, 12, .inr (.inl g4))), (q6, .inl (cI, 12, .inl g7)), (q9, .inl (cI, 12, .inl g10)), (q12, .inl (cI, 12, .inl g13)), (q15, .inl (cI, 12, .inl g16)), (q18, .inl (cI, 12, .inl g19)), (q21, .inl (cI, 12, .inl g22)), (q24, .inl (cI, 12, .inl g25)), (q27, .inl (cJ, 6, .inr (.inl g28))), (q30, .inl (cI, 6, .inl g31)), (q33, .inl (cI, 6, .inl g34))] H := hP
  have hD : va_D A [(h0, .inr (1, vL 18 F36)), (q1, .inl (cI, 5, .inl uF)), (q3, .inl (cJ, 12, .inr (.inl g4))), (q6, .inl (cI, 12, .inl g7)), (q9, .inl (cI, 12, .inl g10)), (q12, .inl (cI, 12, .inl g13)), (q15, .inl (cI, 12, .inl g16)), (q18, .inl (cI, 12, .inl g19)), (q21, .inl (cI, 12, .inl g22)), (q24, .inl (cI, 12, .inl g25)), (q27, .inl (cJ, 6, .inr (.inl g28))), (q30, .inl (cI, 6, .inl g31)), (q33, .inl (cI, 6, .inl g34))] := hD
  refine lv_aload_n hx hb dX1_init_110 rfl (lv_at hl 0 rfl) ?_
  refine lv_iconst (v := 0) hx hb dX1_init_111 (by decide) ?_
  refine put_f (D := D) (ci := 1) (v := .int 0) (ty := .int) (C := RX1) (T := TX1) (N := 18) hx hb hw inAX1 tyX1 tyX1_ok nmX1 hown hK hP hD hS 0 rfl rfl 14 (by decide) (hw _ q_354) (fun _ h9 => h9) rfl (by decide +kernel) rfl rfl dX1_init_112 (fun H locs F37 eF37 hP hD hS => ?_)
  have hP : va_P D vwCl [(h0, .inr (1, vL 18 F37)), (q1, .inl (cI, 5, .inl uF)), (q3, .inl (cJ, 12, .inr (.inl g4))), (q6, .inl (cI, 12, .inl g7)), (q9, .inl (cI, 12, .inl g10)), (q12, .inl (cI, 12, .inl g13)), (q15, .inl (cI, 12, .inl g16)), (q18, .inl (cI, 12, .inl g19)), (q21, .inl (cI, 12, .inl g22)), (q24, .inl (cI, 12, .inl g25)), (q27, .inl (cJ, 6, .inr (.inl g28))), (q30, .inl (cI, 6, .inl g31)), (q33, .inl (cI, 6, .inl g34))] H := hP
  have hD : va_D A [(h0, .inr (1, vL 18 F37)), (q1, .inl (cI, 5, .inl uF)), (q3, .inl (cJ, 12, .inr (.inl g4))), (q6, .inl (cI, 12, .inl g7)), (q9, .inl (cI, 12, .inl g10)), (q12, .inl (cI, 12, .inl g13)), (q15, .inl (cI, 12, .inl g16)), (q18, .inl (cI, 12, .inl g19)), (q21, .inl (cI, 12, .inl g22)), (q24, .inl (cI, 12, .inl g25)), (q27, .inl (cJ, 6, .inr (.inl g28))), (q30, .inl (cI, 6, .inl g31)), (q33, .inl (cI, 6, .inl g34))] := hD
  refine lv_aload_n hx hb dX1_init_115 rfl (lv_at hl 0 rfl) ?_
  refine lv_iconst (v := 0) hx hb dX1_init_116 (by decide) ?_
  refine put_f (D := D) (ci := 1) (v := .int 0) (ty := .int) (C := RX1) (T := TX1) (N := 18) hx hb hw inAX1 tyX1 tyX1_ok nmX1 hown hK hP hD hS 0 rfl rfl 15 (by decide) (hw _ q_359) (fun _ h9 => h9) rfl (by decide +kernel) rfl rfl dX1_init_117 (fun H locs F38 eF38 hP hD hS => ?_)
  have hP : va_P D vwCl [(h0, .inr (1, vL 18 F38)), (q1, .inl (cI, 5, .inl uF)), (q3, .inl (cJ, 12, .inr (.inl g4))), (q6, .inl (cI, 12, .inl g7)), (q9, .inl (cI, 12, .inl g10)), (q12, .inl (cI, 12, .inl g13)), (q15, .inl (cI, 12, .inl g16)), (q18, .inl (cI, 12, .inl g19)), (q21, .inl (cI, 12, .inl g22)), (q24, .inl (cI, 12, .inl g25)), (q27, .inl (cJ, 6, .inr (.inl g28))), (q30, .inl (cI, 6, .inl g31)), (q33, .inl (cI, 6, .inl g34))] H := hP
  have hD : va_D A [(h0, .inr (1, vL 18 F38)), (q1, .inl (cI, 5, .inl uF)), (q3, .inl (cJ, 12, .inr (.inl g4))), (q6, .inl (cI, 12, .inl g7)), (q9, .inl (cI, 12, .inl g10)), (q12, .inl (cI, 12, .inl g13)), (q15, .inl (cI, 12, .inl g16)), (q18, .inl (cI, 12, .inl g19)), (q21, .inl (cI, 12, .inl g22)), (q24, .inl (cI, 12, .inl g25)), (q27, .inl (cJ, 6, .inr (.inl g28))), (q30, .inl (cI, 6, .inl g31)), (q33, .inl (cI, 6, .inl g34))] := hD
  refine lv_aload_n hx hb dX1_init_120 rfl (lv_at hl 0 rfl) ?_
  refine lv_iconst (v := 0) hx hb dX1_init_121 (by decide) ?_
  refine put_f (D := D) (ci := 1) (v := .int 0) (ty := .int) (C := RX1) (T := TX1) (N := 18) hx hb hw inAX1 tyX1 tyX1_ok nmX1 hown hK hP hD hS 0 rfl rfl 16 (by decide) (hw _ q_362) (fun _ h9 => h9) rfl (by decide +kernel) rfl rfl dX1_init_122 (fun H locs F39 eF39 hP hD hS => ?_)
  have hP : va_P D vwCl [(h0, .inr (1, vL 18 F39)), (q1, .inl (cI, 5, .inl uF)), (q3, .inl (cJ, 12, .inr (.inl g4))), (q6, .inl (cI, 12, .inl g7)), (q9, .inl (cI, 12, .inl g10)), (q12, .inl (cI, 12, .inl g13)), (q15, .inl (cI, 12, .inl g16)), (q18, .inl (cI, 12, .inl g19)), (q21, .inl (cI, 12, .inl g22)), (q24, .inl (cI, 12, .inl g25)), (q27, .inl (cJ, 6, .inr (.inl g28))), (q30, .inl (cI, 6, .inl g31)), (q33, .inl (cI, 6, .inl g34))] H := hP
  have hD : va_D A [(h0, .inr (1, vL 18 F39)), (q1, .inl (cI, 5, .inl uF)), (q3, .inl (cJ, 12, .inr (.inl g4))), (q6, .inl (cI, 12, .inl g7)), (q9, .inl (cI, 12, .inl g10)), (q12, .inl (cI, 12, .inl g13)), (q15, .inl (cI, 12, .inl g16)), (q18, .inl (cI, 12, .inl g19)), (q21, .inl (cI, 12, .inl g22)), (q24, .inl (cI, 12, .inl g25)), (q27, .inl (cJ, 6, .inr (.inl g28))), (q30, .inl (cI, 6, .inl g31)), (q33, .inl (cI, 6, .inl g34))] := hD
  refine lv_aload_n hx hb dX1_init_125 rfl (lv_at hl 0 rfl) ?_
  refine lv_iconst (v := 0) hx hb dX1_init_126 (by decide) ?_
  refine put_f (D := D) (ci := 1) (v := .int 0) (ty := .int) (C := RX1) (T := TX1) (N := 18) hx hb hw inAX1 tyX1 tyX1_ok nmX1 hown hK hP hD hS 0 rfl rfl 17 (by decide) (hw _ q_364) (fun _ h9 => h9) rfl (by decide +kernel) rfl rfl dX1_init_127 (fun H locs F40 eF40 hP hD hS => ?_)
  have hP : va_P D vwCl [(h0, .inr (1, vL 18 F40)), (q1, .inl (cI, 5, .inl uF)), (q3, .inl (cJ, 12, .inr (.inl g4))), (q6, .inl (cI, 12, .inl g7)), (q9, .inl (cI, 12, .inl g10)), (q12, .inl (cI, 12, .inl g13)), (q15, .inl (cI, 12, .inl g16)), (q18, .inl (cI, 12, .inl g19)), (q21, .inl (cI, 12, .inl g22)), (q24, .inl (cI, 12, .inl g25)), (q27, .inl (cJ, 6, .inr (.inl g28))), (q30, .inl (cI, 6, .inl g31)), (q33, .inl (cI, 6, .inl g34))] H := hP
  have hD : va_D A [(h0, .inr (1, vL 18 F40)), (q1, .inl (cI, 5, .inl uF)), (q3, .inl (cJ, 12, .inr (.inl g4))), (q6, .inl (cI, 12, .inl g7)), (q9, .inl (cI, 12, .inl g10)), (q12, .inl (cI, 12, .inl g13)), (q15, .inl (cI, 12, .inl g16)), (q18, .inl (cI, 12, .inl g19)), (q21, .inl (cI, 12, .inl g22)), (q24, .inl (cI, 12, .inl g25)), (q27, .inl (cJ, 6, .inr (.inl g28))), (q30, .inl (cI, 6, .inl g31)), (q33, .inl (cI, 6, .inl g34))] := hD
  refine lv_aload_n hx hb dX1_init_130 rfl (lv_at hl 0 rfl) ?_
  refine lv_iload_n hx hb dX1_init_131 rfl (lv_at hl 1 rfl) ?_
  refine put_fF (D := D) (ci := 1) (v := .int p0) (ty := .int) (C := RX1) (T := TX1) (N := 18) hx hb hw inAX1 tyX1 tyX1_ok nmX1 hown hK hP hD hS 0 rfl rfl 0 (by decide) (hw _ q_313) (fun _ h9 => h9) rfl hnm rfl (by decide +kernel) rfl rfl dX1_init_132 (fun H locs F41 eF41 hP hD hS => ?_)
  have hP : va_P D vwCl [(h0, .inr (1, vL 18 F41)), (q1, .inl (cI, 5, .inl uF)), (q3, .inl (cJ, 12, .inr (.inl g4))), (q6, .inl (cI, 12, .inl g7)), (q9, .inl (cI, 12, .inl g10)), (q12, .inl (cI, 12, .inl g13)), (q15, .inl (cI, 12, .inl g16)), (q18, .inl (cI, 12, .inl g19)), (q21, .inl (cI, 12, .inl g22)), (q24, .inl (cI, 12, .inl g25)), (q27, .inl (cJ, 6, .inr (.inl g28))), (q30, .inl (cI, 6, .inl g31)), (q33, .inl (cI, 6, .inl g34))] H := hP
  have hD : va_D A [(h0, .inr (1, vL 18 F41)), (q1, .inl (cI, 5, .inl uF)), (q3, .inl (cJ, 12, .inr (.inl g4))), (q6, .inl (cI, 12, .inl g7)), (q9, .inl (cI, 12, .inl g10)), (q12, .inl (cI, 12, .inl g13)), (q15, .inl (cI, 12, .inl g16)), (q18, .inl (cI, 12, .inl g19)), (q21, .inl (cI, 12, .inl g22)), (q24, .inl (cI, 12, .inl g25)), (q27, .inl (cJ, 6, .inr (.inl g28))), (q30, .inl (cI, 6, .inl g31)), (q33, .inl (cI, 6, .inl g34))] := hD
  exact ret_v hx hb hr hlocks hS hP hD dX1_init_135 (Nat.le_of_ble_eq_true rfl) (Nat.le_of_ble_eq_true rfl) ⟨F41, q1, q3, q6, q9, q12, q15, q18, q21, q24, q27, q30, q33, uF, g4, g7, g10, g13, g16, g19, g22, g25, g28, g31, g34, (SAME.up eF41 (SAME.up eF40 (SAME.up eF39 (SAME.up eF38 (SAME.up eF37 (SAME.up eF36 (SAME.up eF35 (SAME.up eF32 (SAME.up eF29 (SAME.up eF26 (SAME.up eF23 (SAME.up eF20 (SAME.up eF17 (SAME.up eF14 (SAME.up eF11 (SAME.up eF8 (SAME.up eF5 (SAME.up eF2 SAME.rf (by decide)) (by decide)) (by decide)) (by decide)) (by decide)) (by decide)) (by decide)) (by decide)) (by decide)) (by decide)) (by decide)) (by decide)) (by decide)) (by decide)) (by decide)) (by decide)) (by decide)) (by decide)), (get_eq eF41), (get_ne eF41 (by decide) (get_ne eF40 (by decide) (get_ne eF39 (by decide) (get_ne eF38 (by decide) (get_ne eF37 (by decide) (get_ne eF36 (by decide) (get_ne eF35 (by decide) (get_ne eF32 (by decide) (get_ne eF29 (by decide) (get_ne eF26 (by decide) (get_ne eF23 (by decide) (get_ne eF20 (by decide) (get_ne eF17 (by decide) (get_ne eF14 (by decide) (get_ne eF11 (by decide) (get_ne eF8 (by decide) (get_ne eF5 (by decide) (get_eq eF2)))))))))))))))))), (get_ne eF41 (by decide) (get_ne eF40 (by decide) (get_ne eF39 (by decide) (get_ne eF38 (by decide) (get_ne eF37 (by decide) (get_ne eF36 (by decide) (get_ne eF35 (by decide) (get_ne eF32 (by decide) (get_ne eF29 (by decide) (get_ne eF26 (by decide) (get_ne eF23 (by decide) (get_ne eF20 (by decide) (get_ne eF17 (by decide) (get_ne eF14 (by decide) (get_ne eF11 (by decide) (get_ne eF8 (by decide) (get_eq eF5))))))))))))))))), (get_ne eF41 (by decide) (get_ne eF40 (by decide) (get_ne eF39 (by decide) (get_ne eF38 (by decide) (get_ne eF37 (by decide) (get_ne eF36 (by decide) (get_ne eF35 (by decide) (get_ne eF32 (by decide) (get_ne eF29 (by decide) (get_ne eF26 (by decide) (get_ne eF23 (by decide) (get_ne eF20 (by decide) (get_ne eF17 (by decide) (get_ne eF14 (by decide) (get_ne eF11 (by decide) (get_eq eF8)))))))))))))))), (get_ne eF41 (by decide) (get_ne eF40 (by decide) (get_ne eF39 (by decide) (get_ne eF38 (by decide) (get_ne eF37 (by decide) (get_ne eF36 (by decide) (get_ne eF35 (by decide) (get_ne eF32 (by decide) (get_ne eF29 (by decide) (get_ne eF26 (by decide) (get_ne eF23 (by decide) (get_ne eF20 (by decide) (get_ne eF17 (by decide) (get_ne eF14 (by decide) (get_eq eF11))))))))))))))), (get_ne eF41 (by decide) (get_ne eF40 (by decide) (get_ne eF39 (by decide) (get_ne eF38 (by decide) (get_ne eF37 (by decide) (get_ne eF36 (by decide) (get_ne eF35 (by decide) (get_ne eF32 (by decide) (get_ne eF29 (by decide) (get_ne eF26 (by decide) (get_ne eF23 (by decide) (get_ne eF20 (by decide) (get_ne eF17 (by decide) (get_eq eF14)))))))))))))), (get_ne eF41 (by decide) (get_ne eF40 (by decide) (get_ne eF39 (by decide) (get_ne eF38 (by decide) (get_ne eF37 (by decide) (get_ne eF36 (by decide) (get_ne eF35 (by decide) (get_ne eF32 (by decide) (get_ne eF29 (by decide) (get_ne eF26 (by decide) (get_ne eF23 (by decide) (get_ne eF20 (by decide) (get_eq eF17))))))))))))), (get_ne eF41 (by decide) (get_ne eF40 (by decide) (get_ne eF39 (by decide) (get_ne eF38 (by decide) (get_ne eF37 (by decide) (get_ne eF36 (by decide) (get_ne eF35 (by decide) (get_ne eF32 (by decide) (get_ne eF29 (by decide) (get_ne eF26 (by decide) (get_ne eF23 (by decide) (get_eq eF20)))))))))))), (get_ne eF41 (by decide) (get_ne eF40 (by decide) (get_ne eF39 (by decide) (get_ne eF38 (by decide) (get_ne eF37 (by decide) (get_ne eF36 (by decide) (get_ne eF35 (by decide) (get_ne eF32 (by decide) (get_ne eF29 (by decide) (get_ne eF26 (by decide) (get_eq eF23))))))))))), (get_ne eF41 (by decide) (get_ne eF40 (by decide) (get_ne eF39 (by decide) (get_ne eF38 (by decide) (get_ne eF37 (by decide) (get_ne eF36 (by decide) (get_ne eF35 (by decide) (get_ne eF32 (by decide) (get_ne eF29 (by decide) (get_eq eF26)))))))))), (get_ne eF41 (by decide) (get_ne eF40 (by decide) (get_ne eF39 (by decide) (get_ne eF38 (by decide) (get_ne eF37 (by decide) (get_ne eF36 (by decide) (get_ne eF35 (by decide) (get_ne eF32 (by decide) (get_eq eF29))))))))), (get_ne eF41 (by decide) (get_ne eF40 (by decide) (get_ne eF39 (by decide) (get_ne eF38 (by decide) (get_ne eF37 (by decide) (get_ne eF36 (by decide) (get_ne eF35 (by decide) (get_eq eF32)))))))), (get_ne eF41 (by decide) (get_ne eF40 (by decide) (get_ne eF39 (by decide) (get_ne eF38 (by decide) (get_ne eF37 (by decide) (get_ne eF36 (by decide) (get_eq eF35))))))), (get_ne eF41 (by decide) (get_ne eF40 (by decide) (get_ne eF39 (by decide) (get_ne eF38 (by decide) (get_ne eF37 (by decide) (get_eq eF36)))))), (get_ne eF41 (by decide) (get_ne eF40 (by decide) (get_ne eF39 (by decide) (get_ne eF38 (by decide) (get_eq eF37))))), (get_ne eF41 (by decide) (get_ne eF40 (by decide) (get_ne eF39 (by decide) (get_eq eF38)))), (get_ne eF41 (by decide) (get_ne eF40 (by decide) (get_eq eF39))), (get_ne eF41 (by decide) (get_eq eF40)), uF_0, (by decide), rfl⟩
set_option maxHeartbeats 4000000 in
set_option maxRecDepth 100000 in
theorem m_X6_isSign (l : Launch) (D : va_G) (cI cJ cB cP cM cZ : ClassId) (p0 : Int32) (sz : Nat)  : CI l yX6_isSign cX6_isSign 1 (some .boolean) { frames := 0, cells := 0, slots := 0, locals := 0 } (GG D cI cJ cB cP cM cZ) D [] sz [.int p0] (fun (r : Int32) (u : va_W) => IR 0 1 r ∧ ((r.toInt = 1 ∧ (p0.toInt = 40 ∨ p0.toInt = 41 ∨ (59 ≤ p0.toInt ∧ p0.toInt ≤ 62))) ∨ (r.toInt = 0 ∧ ¬ (p0.toInt = 40 ∨ p0.toInt = 41 ∨ (59 ≤ p0.toInt ∧ p0.toInt ≤ 62)))) ∧ u = []) := by
  refine CI_mk (by decide) (Nat.le_of_ble_eq_true rfl) ?_
  intro p e s m below meth c A ls E hAe hG hsz hP hD hA hS hl
  obtain ⟨hx, hb, hr, hw, hown, hlocks, hml, hnm⟩ := E
  have hK := hG.1
  have hl : lv_has ls 1 [(0, .int p0)] := hl
  refine lv_iload_n hx hb dX6_isSign_0 rfl (lv_at hl 0 rfl) ?_
  refine lv_bipush (v := 59) hx hb dX6_isSign_1 (by decide) ?_
  refine lv_icmp_eq (tgt := 36) hx hb dX6_isSign_3 (by decide) (fun c1 => ?_) (fun c1 => ?_)
  · have dc1 : p0.toInt = 59 := eq_i (a := p0.toInt) (b := 59) rfl rfl c1
    have k2 : 59 ≤ p0.toInt ∧ p0.toInt ≤ 59 := ⟨Int.le_trans (Int.le_refl _) (Int.le_of_eq dc1.symm), Int.le_trans (Int.le_of_eq dc1) (Int.le_refl _)⟩
    refine lv_iconst (v := 1) hx hb dX6_isSign_36 (by decide) ?_
    refine lv_goto (tgt := 41) hx hb dX6_isSign_37 (by decide) ?_
    exact ret_i (v := 1) hx hb hr hlocks hS hP hD dX6_isSign_41 rfl (Nat.le_of_ble_eq_true rfl) (Nat.le_of_ble_eq_true rfl) ⟨(show 0 ≤ (1 : Int32).toInt ∧ (1 : Int32).toInt ≤ 1 by decide), (by have zl1 : (1 : Int32).toInt = 1 := (by decide); omega), rfl⟩
  · have dc1 : p0.toInt ≠ 59 := ne_i (a := p0.toInt) (b := 59) rfl rfl c1
    refine lv_iload_n hx hb dX6_isSign_6 rfl (lv_at hl 0 rfl) ?_
    refine lv_bipush (v := 60) hx hb dX6_isSign_7 (by decide) ?_
    refine lv_icmp_eq (tgt := 36) hx hb dX6_isSign_9 (by decide) (fun c3 => ?_) (fun c3 => ?_)
    · have dc3 : p0.toInt = 60 := eq_i (a := p0.toInt) (b := 60) rfl rfl c3
      have k4 : 60 ≤ p0.toInt ∧ p0.toInt ≤ 60 := ⟨Int.le_trans (Int.le_refl _) (Int.le_of_eq dc3.symm), Int.le_trans (Int.le_of_eq dc3) (Int.le_refl _)⟩
      refine lv_iconst (v := 1) hx hb dX6_isSign_36 (by decide) ?_
      refine lv_goto (tgt := 41) hx hb dX6_isSign_37 (by decide) ?_
      exact ret_i (v := 1) hx hb hr hlocks hS hP hD dX6_isSign_41 rfl (Nat.le_of_ble_eq_true rfl) (Nat.le_of_ble_eq_true rfl) ⟨(show 0 ≤ (1 : Int32).toInt ∧ (1 : Int32).toInt ≤ 1 by decide), (by have zl1 : (1 : Int32).toInt = 1 := (by decide); omega), rfl⟩
    · have dc3 : p0.toInt ≠ 60 := ne_i (a := p0.toInt) (b := 60) rfl rfl c3
      refine lv_iload_n hx hb dX6_isSign_12 rfl (lv_at hl 0 rfl) ?_
      refine lv_bipush (v := 61) hx hb dX6_isSign_13 (by decide) ?_
      refine lv_icmp_eq (tgt := 36) hx hb dX6_isSign_15 (by decide) (fun c5 => ?_) (fun c5 => ?_)
      · have dc5 : p0.toInt = 61 := eq_i (a := p0.toInt) (b := 61) rfl rfl c5
        have k6 : 61 ≤ p0.toInt ∧ p0.toInt ≤ 61 := ⟨Int.le_trans (Int.le_refl _) (Int.le_of_eq dc5.symm), Int.le_trans (Int.le_of_eq dc5) (Int.le_refl _)⟩
        refine lv_iconst (v := 1) hx hb dX6_isSign_36 (by decide) ?_
        refine lv_goto (tgt := 41) hx hb dX6_isSign_37 (by decide) ?_
        exact ret_i (v := 1) hx hb hr hlocks hS hP hD dX6_isSign_41 rfl (Nat.le_of_ble_eq_true rfl) (Nat.le_of_ble_eq_true rfl) ⟨(show 0 ≤ (1 : Int32).toInt ∧ (1 : Int32).toInt ≤ 1 by decide), (by have zl1 : (1 : Int32).toInt = 1 := (by decide); omega), rfl⟩
      · have dc5 : p0.toInt ≠ 61 := ne_i (a := p0.toInt) (b := 61) rfl rfl c5
        refine lv_iload_n hx hb dX6_isSign_18 rfl (lv_at hl 0 rfl) ?_
        refine lv_bipush (v := 62) hx hb dX6_isSign_19 (by decide) ?_
        refine lv_icmp_eq (tgt := 36) hx hb dX6_isSign_21 (by decide) (fun c7 => ?_) (fun c7 => ?_)
        · have dc7 : p0.toInt = 62 := eq_i (a := p0.toInt) (b := 62) rfl rfl c7
          have k8 : 62 ≤ p0.toInt ∧ p0.toInt ≤ 62 := ⟨Int.le_trans (Int.le_refl _) (Int.le_of_eq dc7.symm), Int.le_trans (Int.le_of_eq dc7) (Int.le_refl _)⟩
          refine lv_iconst (v := 1) hx hb dX6_isSign_36 (by decide) ?_
          refine lv_goto (tgt := 41) hx hb dX6_isSign_37 (by decide) ?_
          exact ret_i (v := 1) hx hb hr hlocks hS hP hD dX6_isSign_41 rfl (Nat.le_of_ble_eq_true rfl) (Nat.le_of_ble_eq_true rfl) ⟨(show 0 ≤ (1 : Int32).toInt ∧ (1 : Int32).toInt ≤ 1 by decide), (by have zl1 : (1 : Int32).toInt = 1 := (by decide); omega), rfl⟩
        · have dc7 : p0.toInt ≠ 62 := ne_i (a := p0.toInt) (b := 62) rfl rfl c7
          refine lv_iload_n hx hb dX6_isSign_24 rfl (lv_at hl 0 rfl) ?_
          refine lv_bipush (v := 40) hx hb dX6_isSign_25 (by decide) ?_
          refine lv_icmp_eq (tgt := 36) hx hb dX6_isSign_27 (by decide) (fun c9 => ?_) (fun c9 => ?_)
          · have dc9 : p0.toInt = 40 := eq_i (a := p0.toInt) (b := 40) rfl rfl c9
            have k10 : 40 ≤ p0.toInt ∧ p0.toInt ≤ 40 := ⟨Int.le_trans (Int.le_refl _) (Int.le_of_eq dc9.symm), Int.le_trans (Int.le_of_eq dc9) (Int.le_refl _)⟩
            refine lv_iconst (v := 1) hx hb dX6_isSign_36 (by decide) ?_
            refine lv_goto (tgt := 41) hx hb dX6_isSign_37 (by decide) ?_
            exact ret_i (v := 1) hx hb hr hlocks hS hP hD dX6_isSign_41 rfl (Nat.le_of_ble_eq_true rfl) (Nat.le_of_ble_eq_true rfl) ⟨(show 0 ≤ (1 : Int32).toInt ∧ (1 : Int32).toInt ≤ 1 by decide), (by have zl1 : (1 : Int32).toInt = 1 := (by decide); omega), rfl⟩
          · have dc9 : p0.toInt ≠ 40 := ne_i (a := p0.toInt) (b := 40) rfl rfl c9
            refine lv_iload_n hx hb dX6_isSign_30 rfl (lv_at hl 0 rfl) ?_
            refine lv_bipush (v := 41) hx hb dX6_isSign_31 (by decide) ?_
            refine lv_icmp_ne (tgt := 40) hx hb dX6_isSign_33 (by decide) (fun c11 => ?_) (fun c11 => ?_)
            · have dc11 : p0.toInt ≠ 41 := ne_i (a := p0.toInt) (b := 41) rfl rfl c11
              refine lv_iconst (v := 0) hx hb dX6_isSign_40 (by decide) ?_
              exact ret_i (v := 0) hx hb hr hlocks hS hP hD dX6_isSign_41 rfl (Nat.le_of_ble_eq_true rfl) (Nat.le_of_ble_eq_true rfl) ⟨(show 0 ≤ (0 : Int32).toInt ∧ (0 : Int32).toInt ≤ 1 by decide), (by have zl0 : (0 : Int32).toInt = 0 := (by decide); omega), rfl⟩
            · have dc11 : p0.toInt = 41 := eq_i (a := p0.toInt) (b := 41) rfl rfl c11
              have k12 : 41 ≤ p0.toInt ∧ p0.toInt ≤ 41 := ⟨Int.le_trans (Int.le_refl _) (Int.le_of_eq dc11.symm), Int.le_trans (Int.le_of_eq dc11) (Int.le_refl _)⟩
              refine lv_iconst (v := 1) hx hb dX6_isSign_36 (by decide) ?_
              refine lv_goto (tgt := 41) hx hb dX6_isSign_37 (by decide) ?_
              exact ret_i (v := 1) hx hb hr hlocks hS hP hD dX6_isSign_41 rfl (Nat.le_of_ble_eq_true rfl) (Nat.le_of_ble_eq_true rfl) ⟨(show 0 ≤ (1 : Int32).toInt ∧ (1 : Int32).toInt ≤ 1 by decide), (by have zl1 : (1 : Int32).toInt = 1 := (by decide); omega), rfl⟩
set_option maxHeartbeats 4000000 in
set_option maxRecDepth 100000 in
theorem m_X6_readRow (l : Launch) (D : va_G) (cI cJ cB cP cM cZ : ClassId) (h0 : Nat) (h_bytes : Nat) (Fh : Nat → Value) (x_length : Int32) (x_kind : Int32) (x_value : Int32) (x_name : Int64) (x_at : Int32) (f_bytes : Nat → Int32) (sz : Nat) (e_bytes : Fh 0 = .ref h_bytes) (e_length : Fh 1 = .int x_length) (i_x_length : IR 0 940 x_length) (e_kind : Fh 2 = .int x_kind) (e_value : Fh 4 = .int x_value) (e_name : Fh 5 = .long x_name) (e_at : Fh 10 = .int x_at) (i_x_at : IR 0 940 x_at) (s_bytes_0 : SG 0 939 (-128) 127 f_bytes) : CV l yX6_readRow cX6_readRow 4 none { frames := 0, cells := 0, slots := 0, locals := 0 } (GG D cI cJ cB cP cM cZ) D [(h0, .inr (6, vL 12 Fh)), (h_bytes, .inl (cB, 940, .inl f_bytes))] sz [.ref h0] (fun (u : va_W) => ∃ (Gh : Nat → Value) (y_kind : Int32) (y_value : Int32) (y_name : Int64) (y_at : Int32), SAME [2, 4, 5, 10] Fh Gh ∧ Gh 2 = .int y_kind ∧ IR 1 3 y_kind ∧ Gh 4 = .int y_value ∧ Gh 5 = .long y_name ∧ Gh 10 = .int y_at ∧ IR 0 940 y_at ∧ (x_at.toInt < x_length.toInt → ((y_kind.toInt = 2 ∧ tkP f_bytes x_length.toInt x_at.toInt = (1, x_at.toInt, 0, y_name.toInt, y_at.toInt)) ∨ (y_kind.toInt = 3 ∧ tkP f_bytes x_length.toInt x_at.toInt = (2, x_at.toInt, y_value.toInt, 0, y_at.toInt)) ∨ (y_kind.toInt = 1 ∧ tkP f_bytes x_length.toInt x_at.toInt = (4, x_at.toInt, 0, 0, 0)))) ∧ u = [(h0, .inr (6, vL 12 Gh)), (h_bytes, .inl (cB, 940, .inl f_bytes))]) := by
  refine CV_mk (by decide) (Nat.le_of_ble_eq_true rfl) ?_
  intro p e s m below meth c A ls E hAe hG hsz hP hD hA hS hl
  obtain ⟨hx, hb, hr, hw, hown, hlocks, hml, hnm⟩ := E
  have hK := hG.1
  have i_x_length : 0 ≤ x_length.toInt ∧ x_length.toInt ≤ 940 := i_x_length
  have i_x_at : 0 ≤ x_at.toInt ∧ x_at.toInt ≤ 940 := i_x_at
  have hl : lv_has ls 4 [(0, .ref h0)] := hl
  refine lv_iconst (v := 0) hx hb dX6_readRow_0 (by decide) ?_
  refine lv_istore_n (lv' := [(1, .int 0), (0, .ref h0)]) hx hb dX6_readRow_1 rfl hl (by decide) rfl (fun ls hl => ?_)
  refine lv_iconst (v := 0) hx hb dX6_readRow_2 (by decide) ?_
  refine lv_istore_n (lv' := [(2, .int 0), (1, .int 0), (0, .ref h0)]) hx hb dX6_readRow_3 rfl hl (by decide) rfl (fun ls hl => ?_)
  refine lv_aload_n hx hb dX6_readRow_4 rfl (lv_at hl 2 rfl) ?_
  refine lv_iconst (v := 0) hx hb dX6_readRow_5 (by decide) ?_
  refine put_f (D := D) (ci := 6) (v := .int 0) (ty := .int) (C := RX6) (T := TX6) (N := 12) hx hb hw inAX6 tyX6 tyX6_ok nmX6 hown hK hP hD hS 0 rfl rfl 4 (by decide) (hw _ q_97) (fun _ h9 => h9) rfl (by decide +kernel) rfl rfl dX6_readRow_6 (fun H locs F1 eF1 hP hD hS => ?_)
  have hP : va_P D vwCl [(h0, .inr (6, vL 12 F1)), (h_bytes, .inl (cB, 940, .inl f_bytes))] H := hP
  have hD : va_D A [(h0, .inr (6, vL 12 F1)), (h_bytes, .inl (cB, 940, .inl f_bytes))] := hD
  refine lv_aload_n hx hb dX6_readRow_9 rfl (lv_at hl 2 rfl) ?_
  refine lv_lconst (v := 0) hx hb dX6_readRow_10 (by decide) ?_
  refine put_f (D := D) (ci := 6) (v := .long 0) (ty := .long) (C := RX6) (T := TX6) (N := 12) hx hb hw inAX6 tyX6 tyX6_ok nmX6 hown hK hP hD hS 0 rfl rfl 5 (by decide) (hw _ q_98) (fun _ h9 => h9) rfl (by decide +kernel) rfl rfl dX6_readRow_11 (fun H locs F2 eF2 hP hD hS => ?_)
  have hP : va_P D vwCl [(h0, .inr (6, vL 12 F2)), (h_bytes, .inl (cB, 940, .inl f_bytes))] H := hP
  have hD : va_D A [(h0, .inr (6, vL 12 F2)), (h_bytes, .inl (cB, 940, .inl f_bytes))] := hD
  have cut9 : ∀ (u3 : Int32) (u4 : Int32) (G5 : Nat → Value) (u6 : Int32) (u7 : Int64) (u8 : Int32) (_ : IR 0 940 u3) (_ : IR 0 940 u4) (_ : SAME [4, 5, 10] F2 G5) (_ : G5 4 = .int u6) (_ : G5 5 = .long u7) (_ : G5 10 = .int u8) (_ : IR 0 940 u8) (_ : (0 ≤ u4.toInt ∧ 0 ≤ u3.toInt ∧ u4.toInt + u3.toInt = u8.toInt - x_at.toInt)) (_ : (RRI f_bytes x_length.toInt x_at.toInt u8.toInt u4.toInt u3.toInt u6.toInt u7.toInt)) (_ : (¬ (u8.toInt < x_length.toInt ∧ (isSm (tb f_bytes (u8.toInt).toNat) ∨ isDg (tb f_bytes (u8.toInt).toNat))))) (H : Heap) (locs : List Loc) (ls : Array Slot), va_P D vwCl [(h0, .inr (6, vL 12 G5)), (h_bytes, .inl (cB, 940, .inl f_bytes))] H → va_D A [(h0, .inr (6, vL 12 G5)), (h_bytes, .inl (cB, 940, .inl f_bytes))] → va_S A s.heap H locs → lv_has ls 4 [(2, .int u3), (1, .int u4), (0, .ref h0)] → W p l e ({ frames := 0, cells := 0, slots := 0, locals := 0 } : Room) s m [.ref h0].toArray below meth c H locs 0 0 (MQ below (va_Qv (fun (u : va_W) => ∃ (Gh : Nat → Value) (y_kind : Int32) (y_value : Int32) (y_name : Int64) (y_at : Int32), SAME [2, 4, 5, 10] Fh Gh ∧ Gh 2 = .int y_kind ∧ IR 1 3 y_kind ∧ Gh 4 = .int y_value ∧ Gh 5 = .long y_name ∧ Gh 10 = .int y_at ∧ IR 0 940 y_at ∧ (x_at.toInt < x_length.toInt → ((y_kind.toInt = 2 ∧ tkP f_bytes x_length.toInt x_at.toInt = (1, x_at.toInt, 0, y_name.toInt, y_at.toInt)) ∨ (y_kind.toInt = 3 ∧ tkP f_bytes x_length.toInt x_at.toInt = (2, x_at.toInt, y_value.toInt, 0, y_at.toInt)) ∨ (y_kind.toInt = 1 ∧ tkP f_bytes x_length.toInt x_at.toInt = (4, x_at.toInt, 0, 0, 0)))) ∧ u = [(h0, .inr (6, vL 12 Gh)), (h_bytes, .inl (cB, 940, .inl f_bytes))]) (PO D A) A) [.ref h0].toArray s 0 0 A) (F0 m 118 ls []) := by
    intro u3 u4 G5 u6 u7 u8 i10 i11 i12 i13 i14 i15 i16 i17 i18 i19 H locs ls hP hD hS hl
    have i10 : 0 ≤ u3.toInt ∧ u3.toInt ≤ 940 := i10
    have i11 : 0 ≤ u4.toInt ∧ u4.toInt ≤ 940 := i11
    have i16 : 0 ≤ u8.toInt ∧ u8.toInt ≤ 940 := i16
    have i17 : 0 ≤ u4.toInt ∧ 0 ≤ u3.toInt ∧ u4.toInt + u3.toInt = u8.toInt - x_at.toInt := i17
    have i18 : RRI f_bytes x_length.toInt x_at.toInt u8.toInt u4.toInt u3.toInt u6.toInt u7.toInt := i18
    have i19 : ¬ (u8.toInt < x_length.toInt ∧ (isSm (tb f_bytes (u8.toInt).toNat) ∨ isDg (tb f_bytes (u8.toInt).toNat))) := i19
    refine lv_aload_n hx hb dX6_readRow_118 rfl (lv_at hl 2 rfl) ?_
    refine lv_iconst (v := 1) hx hb dX6_readRow_119 (by decide) ?_
    refine put_f (D := D) (ci := 6) (v := .int 1) (ty := .int) (C := RX6) (T := TX6) (N := 12) hx hb hw inAX6 tyX6 tyX6_ok nmX6 hown hK hP hD hS 0 rfl rfl 2 (by decide) (hw _ q_92) (fun _ h9 => h9) rfl (by decide +kernel) rfl rfl dX6_readRow_120 (fun H locs F20 eF20 hP hD hS => ?_)
    have hP : va_P D vwCl [(h0, .inr (6, vL 12 F20)), (h_bytes, .inl (cB, 940, .inl f_bytes))] H := hP
    have hD : va_D A [(h0, .inr (6, vL 12 F20)), (h_bytes, .inl (cB, 940, .inl f_bytes))] := hD
    refine lv_iload_n hx hb dX6_readRow_123 rfl (lv_at hl 0 rfl) ?_
    refine lv_if_ne (tgt := 145) hx hb dX6_readRow_124 (by decide) (fun c21 => ?_) (fun c21 => ?_)
    · have dc21 : u3.toInt ≠ 0 := ne_i (a := u3.toInt) (b := 0) rfl rfl c21
      have k22 : 1 ≤ u3.toInt ∧ u3.toInt ≤ 940 := ⟨ne_lo dc21 i10.1 ⟨Int.le_refl _, Int.le_refl _⟩ (by decide), i10.2⟩
      refine lv_iload_n hx hb dX6_readRow_145 rfl (lv_at hl 1 rfl) ?_
      refine lv_if_ne (tgt := 163) hx hb dX6_readRow_146 (by decide) (fun c23 => ?_) (fun c23 => ?_)
      · have dc23 : u4.toInt ≠ 0 := ne_i (a := u4.toInt) (b := 0) rfl rfl c23
        have k24 : 1 ≤ u4.toInt ∧ u4.toInt ≤ 940 := ⟨ne_lo dc23 i11.1 ⟨Int.le_refl _, Int.le_refl _⟩ (by decide), i11.2⟩
        exact ret_v hx hb hr hlocks hS hP hD dX6_readRow_163 (Nat.le_of_ble_eq_true rfl) (Nat.le_of_ble_eq_true rfl) ⟨F20, 1, u6, u7, u8, (SAME.up eF20 (SAME.tr (SAME.up eF2 (SAME.up eF1 SAME.rf (by decide)) (by decide)) i12 (by decide)) (by decide)), (get_eq eF20), (show 1 ≤ (1 : Int32).toInt ∧ (1 : Int32).toInt ≤ 3 by decide), (get_ne eF20 (by decide) i13), (get_ne eF20 (by decide) i14), (get_ne eF20 (by decide) i15), i16, (fun q => Or.inr (Or.inr ⟨rfl, (RRI.fin i18 q i19).2.2 (by omega) (by omega)⟩)), rfl⟩
      · have dc23 : u4.toInt = 0 := eq_i (a := u4.toInt) (b := 0) rfl rfl c23
        have k25 : 0 ≤ u4.toInt ∧ u4.toInt ≤ 0 := ⟨i11.1, Int.le_trans (Int.le_of_eq dc23) (Int.le_refl _)⟩
        refine lv_iload_n hx hb dX6_readRow_149 rfl (lv_at hl 0 rfl) ?_
        refine lv_if_le (tgt := 163) hx hb dX6_readRow_150 (by decide) (fun c26 => False.elim (bad_le (le_i (a := u3.toInt) (b := 0) rfl rfl c26) k22.1 (Int.le_refl _) (by decide))) (fun c26 => ?_)
        have dc26 : 0 < u3.toInt := nle_i (a := u3.toInt) (b := 0) rfl rfl c26
        refine lv_iload_n hx hb dX6_readRow_153 rfl (lv_at hl 0 rfl) ?_
        refine lv_iconst (v := 3) hx hb dX6_readRow_154 (by decide) ?_
        refine lv_icmp_gt (tgt := 163) hx hb dX6_readRow_155 (by decide) (fun c27 => ?_) (fun c27 => ?_)
        · have dc27 : 3 < u3.toInt := lt_i (a := 3) (b := u3.toInt) rfl rfl c27
          have k28 : 4 ≤ u3.toInt ∧ u3.toInt ≤ 940 := ⟨lo_lt dc27 (Int.le_refl _) (by decide), k22.2⟩
          exact ret_v hx hb hr hlocks hS hP hD dX6_readRow_163 (Nat.le_of_ble_eq_true rfl) (Nat.le_of_ble_eq_true rfl) ⟨F20, 1, u6, u7, u8, (SAME.up eF20 (SAME.tr (SAME.up eF2 (SAME.up eF1 SAME.rf (by decide)) (by decide)) i12 (by decide)) (by decide)), (get_eq eF20), (show 1 ≤ (1 : Int32).toInt ∧ (1 : Int32).toInt ≤ 3 by decide), (get_ne eF20 (by decide) i13), (get_ne eF20 (by decide) i14), (get_ne eF20 (by decide) i15), i16, (fun q => Or.inr (Or.inr ⟨rfl, (RRI.fin i18 q i19).2.2 (by omega) (by omega)⟩)), rfl⟩
        · have dc27 : u3.toInt ≤ 3 := nlt_i (a := 3) (b := u3.toInt) rfl rfl c27
          have k29 : 1 ≤ u3.toInt ∧ u3.toInt ≤ 3 := ⟨k22.1, Int.le_trans dc27 (Int.le_refl _)⟩
          refine lv_aload_n hx hb dX6_readRow_158 rfl (lv_at hl 2 rfl) ?_
          refine lv_iconst (v := 3) hx hb dX6_readRow_159 (by decide) ?_
          refine put_f (D := D) (ci := 6) (v := .int 3) (ty := .int) (C := RX6) (T := TX6) (N := 12) hx hb hw inAX6 tyX6 tyX6_ok nmX6 hown hK hP hD hS 0 rfl rfl 2 (by decide) (hw _ q_92) (fun _ h9 => h9) rfl (by decide +kernel) rfl rfl dX6_readRow_160 (fun H locs F30 eF30 hP hD hS => ?_)
          have hP : va_P D vwCl [(h0, .inr (6, vL 12 F30)), (h_bytes, .inl (cB, 940, .inl f_bytes))] H := hP
          have hD : va_D A [(h0, .inr (6, vL 12 F30)), (h_bytes, .inl (cB, 940, .inl f_bytes))] := hD
          exact ret_v hx hb hr hlocks hS hP hD dX6_readRow_163 (Nat.le_of_ble_eq_true rfl) (Nat.le_of_ble_eq_true rfl) ⟨F30, 3, u6, u7, u8, (SAME.up eF30 (SAME.up eF20 (SAME.tr (SAME.up eF2 (SAME.up eF1 SAME.rf (by decide)) (by decide)) i12 (by decide)) (by decide)) (by decide)), (get_eq eF30), (show 1 ≤ (3 : Int32).toInt ∧ (3 : Int32).toInt ≤ 3 by decide), (get_ne eF30 (by decide) (get_ne eF20 (by decide) i13)), (get_ne eF30 (by decide) (get_ne eF20 (by decide) i14)), (get_ne eF30 (by decide) (get_ne eF20 (by decide) i15)), i16, (fun q => Or.inr (Or.inl ⟨rfl, (RRI.fin i18 q i19).2.1 (by omega) (by omega) (by omega)⟩)), rfl⟩
    · have dc21 : u3.toInt = 0 := eq_i (a := u3.toInt) (b := 0) rfl rfl c21
      have k31 : 0 ≤ u3.toInt ∧ u3.toInt ≤ 0 := ⟨i10.1, Int.le_trans (Int.le_of_eq dc21) (Int.le_refl _)⟩
      refine lv_iload_n hx hb dX6_readRow_127 rfl (lv_at hl 1 rfl) ?_
      refine lv_if_le (tgt := 145) hx hb dX6_readRow_128 (by decide) (fun c32 => ?_) (fun c32 => ?_)
      · have dc32 : u4.toInt ≤ 0 := le_i (a := u4.toInt) (b := 0) rfl rfl c32
        have k33 : 0 ≤ u4.toInt ∧ u4.toInt ≤ 0 := ⟨i11.1, Int.le_trans dc32 (Int.le_refl _)⟩
        refine lv_iload_n hx hb dX6_readRow_145 rfl (lv_at hl 1 rfl) ?_
        refine lv_if_ne (tgt := 163) hx hb dX6_readRow_146 (by decide) (fun c34 => False.elim (bad_ne (ne_i (a := u4.toInt) (b := 0) rfl rfl c34) k33 ⟨Int.le_refl _, Int.le_refl _⟩ (by decide))) (fun c34 => ?_)
        have dc34 : u4.toInt = 0 := eq_i (a := u4.toInt) (b := 0) rfl rfl c34
        refine lv_iload_n hx hb dX6_readRow_149 rfl (lv_at hl 0 rfl) ?_
        refine lv_if_le (tgt := 163) hx hb dX6_readRow_150 (by decide) (fun c35 => ?_) (fun c35 => False.elim (bad_lt (nle_i (a := u3.toInt) (b := 0) rfl rfl c35) (Int.le_refl _) k31.2 (by decide)))
        have dc35 : u3.toInt ≤ 0 := le_i (a := u3.toInt) (b := 0) rfl rfl c35
        exact ret_v hx hb hr hlocks hS hP hD dX6_readRow_163 (Nat.le_of_ble_eq_true rfl) (Nat.le_of_ble_eq_true rfl) ⟨F20, 1, u6, u7, u8, (SAME.up eF20 (SAME.tr (SAME.up eF2 (SAME.up eF1 SAME.rf (by decide)) (by decide)) i12 (by decide)) (by decide)), (get_eq eF20), (show 1 ≤ (1 : Int32).toInt ∧ (1 : Int32).toInt ≤ 3 by decide), (get_ne eF20 (by decide) i13), (get_ne eF20 (by decide) i14), (get_ne eF20 (by decide) i15), i16, (fun q => Or.inr (Or.inr ⟨rfl, (RRI.fin i18 q i19).2.2 (by omega) (by omega)⟩)), rfl⟩
      · have dc32 : 0 < u4.toInt := nle_i (a := u4.toInt) (b := 0) rfl rfl c32
        have k36 : 1 ≤ u4.toInt ∧ u4.toInt ≤ 940 := ⟨lo_lt dc32 (Int.le_refl _) (by decide), i11.2⟩
        refine lv_iload_n hx hb dX6_readRow_131 rfl (lv_at hl 1 rfl) ?_
        refine lv_bipush (v := 7) hx hb dX6_readRow_132 (by decide) ?_
        refine lv_icmp_gt (tgt := 145) hx hb dX6_readRow_134 (by decide) (fun c37 => ?_) (fun c37 => ?_)
        · have dc37 : 7 < u4.toInt := lt_i (a := 7) (b := u4.toInt) rfl rfl c37
          have k38 : 8 ≤ u4.toInt ∧ u4.toInt ≤ 940 := ⟨lo_lt dc37 (Int.le_refl _) (by decide), k36.2⟩
          refine lv_iload_n hx hb dX6_readRow_145 rfl (lv_at hl 1 rfl) ?_
          refine lv_if_ne (tgt := 163) hx hb dX6_readRow_146 (by decide) (fun c39 => ?_) (fun c39 => False.elim (bad_le (Int.le_of_eq (eq_i (a := u4.toInt) (b := 0) rfl rfl c39)) k38.1 (Int.le_refl _) (by decide)))
          have dc39 : u4.toInt ≠ 0 := ne_i (a := u4.toInt) (b := 0) rfl rfl c39
          exact ret_v hx hb hr hlocks hS hP hD dX6_readRow_163 (Nat.le_of_ble_eq_true rfl) (Nat.le_of_ble_eq_true rfl) ⟨F20, 1, u6, u7, u8, (SAME.up eF20 (SAME.tr (SAME.up eF2 (SAME.up eF1 SAME.rf (by decide)) (by decide)) i12 (by decide)) (by decide)), (get_eq eF20), (show 1 ≤ (1 : Int32).toInt ∧ (1 : Int32).toInt ≤ 3 by decide), (get_ne eF20 (by decide) i13), (get_ne eF20 (by decide) i14), (get_ne eF20 (by decide) i15), i16, (fun q => Or.inr (Or.inr ⟨rfl, (RRI.fin i18 q i19).2.2 (by omega) (by omega)⟩)), rfl⟩
        · have dc37 : u4.toInt ≤ 7 := nlt_i (a := 7) (b := u4.toInt) rfl rfl c37
          have k40 : 1 ≤ u4.toInt ∧ u4.toInt ≤ 7 := ⟨k36.1, Int.le_trans dc37 (Int.le_refl _)⟩
          refine lv_aload_n hx hb dX6_readRow_137 rfl (lv_at hl 2 rfl) ?_
          refine lv_iconst (v := 2) hx hb dX6_readRow_138 (by decide) ?_
          refine put_f (D := D) (ci := 6) (v := .int 2) (ty := .int) (C := RX6) (T := TX6) (N := 12) hx hb hw inAX6 tyX6 tyX6_ok nmX6 hown hK hP hD hS 0 rfl rfl 2 (by decide) (hw _ q_92) (fun _ h9 => h9) rfl (by decide +kernel) rfl rfl dX6_readRow_139 (fun H locs F41 eF41 hP hD hS => ?_)
          have hP : va_P D vwCl [(h0, .inr (6, vL 12 F41)), (h_bytes, .inl (cB, 940, .inl f_bytes))] H := hP
          have hD : va_D A [(h0, .inr (6, vL 12 F41)), (h_bytes, .inl (cB, 940, .inl f_bytes))] := hD
          refine lv_goto (tgt := 163) hx hb dX6_readRow_142 (by decide) ?_
          exact ret_v hx hb hr hlocks hS hP hD dX6_readRow_163 (Nat.le_of_ble_eq_true rfl) (Nat.le_of_ble_eq_true rfl) ⟨F41, 2, u6, u7, u8, (SAME.up eF41 (SAME.up eF20 (SAME.tr (SAME.up eF2 (SAME.up eF1 SAME.rf (by decide)) (by decide)) i12 (by decide)) (by decide)) (by decide)), (get_eq eF41), (show 1 ≤ (2 : Int32).toInt ∧ (2 : Int32).toInt ≤ 3 by decide), (get_ne eF41 (by decide) (get_ne eF20 (by decide) i13)), (get_ne eF41 (by decide) (get_ne eF20 (by decide) i14)), (get_ne eF41 (by decide) (get_ne eF20 (by decide) i15)), i16, (fun q => Or.inl ⟨rfl, (RRI.fin i18 q i19).1 (by omega) (by omega) (by omega)⟩), rfl⟩
  have n42 : F2 4 = .int 0 := (get_ne eF2 (by decide) (get_eq eF1))
  have n43 : F1 10 = .int x_at := (get_ne eF1 (by decide) e_at)
  have n44 : F2 10 = .int x_at := (get_ne eF2 (by decide) n43)
  refine mloop (α := (Int32) × (Int32) × (Nat → Value) × (Int32) × (Int64) × (Int32)) (nL := 4) (D := D) (A := A) (H0 := s.heap) (fun a => (x_length.toInt - a.2.2.2.2.2.toInt).toNat) (fun a => IR 0 940 a.1 ∧ IR 0 940 a.2.1 ∧ SAME [4, 5, 10] F2 a.2.2.1 ∧ a.2.2.1 4 = .int a.2.2.2.1 ∧ a.2.2.1 5 = .long a.2.2.2.2.1 ∧ a.2.2.1 10 = .int a.2.2.2.2.2 ∧ IR 0 940 a.2.2.2.2.2 ∧ (0 ≤ a.2.1.toInt ∧ 0 ≤ a.1.toInt ∧ a.2.1.toInt + a.1.toInt = a.2.2.2.2.2.toInt - x_at.toInt) ∧ (RRI f_bytes x_length.toInt x_at.toInt a.2.2.2.2.2.toInt a.2.1.toInt a.1.toInt a.2.2.2.1.toInt a.2.2.2.2.1.toInt)) (fun a => [(h0, .inr (6, vL 12 a.2.2.1)), (h_bytes, .inl (cB, 940, .inl f_bytes))]) (fun a => [(2, .int a.1), (1, .int a.2.1), (0, .ref h0)]) (fun H locs ls => W p l e ({ frames := 0, cells := 0, slots := 0, locals := 0 } : Room) s m [.ref h0].toArray below meth c H locs 0 0 (MQ below (va_Qv (fun (u : va_W) => ∃ (Gh : Nat → Value) (y_kind : Int32) (y_value : Int32) (y_name : Int64) (y_at : Int32), SAME [2, 4, 5, 10] Fh Gh ∧ Gh 2 = .int y_kind ∧ IR 1 3 y_kind ∧ Gh 4 = .int y_value ∧ Gh 5 = .long y_name ∧ Gh 10 = .int y_at ∧ IR 0 940 y_at ∧ (x_at.toInt < x_length.toInt → ((y_kind.toInt = 2 ∧ tkP f_bytes x_length.toInt x_at.toInt = (1, x_at.toInt, 0, y_name.toInt, y_at.toInt)) ∨ (y_kind.toInt = 3 ∧ tkP f_bytes x_length.toInt x_at.toInt = (2, x_at.toInt, y_value.toInt, 0, y_at.toInt)) ∨ (y_kind.toInt = 1 ∧ tkP f_bytes x_length.toInt x_at.toInt = (4, x_at.toInt, 0, 0, 0)))) ∧ u = [(h0, .inr (6, vL 12 Gh)), (h_bytes, .inl (cB, 940, .inl f_bytes))]) (PO D A) A) [.ref h0].toArray s 0 0 A) (F0 m 14 ls [])) ?_ (0, 0, F2, 0, 0, x_at) ⟨(show 0 ≤ (0 : Int32).toInt ∧ (0 : Int32).toInt ≤ 940 by decide), (show 0 ≤ (0 : Int32).toInt ∧ (0 : Int32).toInt ≤ 940 by decide), SAME.rf, n42, (get_eq eF2), n44, i_x_at, (by show 0 ≤ 0 ∧ 0 ≤ 0 ∧ 0 + 0 = x_at.toInt - x_at.toInt; omega), (show RRI f_bytes x_length.toInt x_at.toInt x_at.toInt 0 0 0 0 from (RRI.zero (by omega)))⟩ _ _ _ hP hD hS hl
  rintro ⟨u3, u4, G5, u6, u7, u8⟩ ⟨i45, i46, i47, i48, i49, i50, i51, i52, i53⟩ ih H locs ls hP hD hS hl
  have i45 : 0 ≤ u3.toInt ∧ u3.toInt ≤ 940 := i45
  have i46 : 0 ≤ u4.toInt ∧ u4.toInt ≤ 940 := i46
  have i51 : 0 ≤ u8.toInt ∧ u8.toInt ≤ 940 := i51
  have i52 : 0 ≤ u4.toInt ∧ 0 ≤ u3.toInt ∧ u4.toInt + u3.toInt = u8.toInt - x_at.toInt := i52
  have i53 : RRI f_bytes x_length.toInt x_at.toInt u8.toInt u4.toInt u3.toInt u6.toInt u7.toInt := i53
  have hP : va_P D vwCl [(h0, .inr (6, vL 12 G5)), (h_bytes, .inl (cB, 940, .inl f_bytes))] H := hP
  have hD : va_D A [(h0, .inr (6, vL 12 G5)), (h_bytes, .inl (cB, 940, .inl f_bytes))] := hD
  have hl : lv_has ls 4 [(2, .int u3), (1, .int u4), (0, .ref h0)] := hl
  refine lv_aload_n hx hb dX6_readRow_14 rfl (lv_at hl 2 rfl) ?_
  refine get_f (D := D) (ci := 6) (v := .int u8) (C := RX6) (T := TX6) (N := 12) hx hb hw inAX6 hown hK hP 0 rfl rfl 10 (by decide) (hw _ q_110) (fun _ h9 => h9) i50 dX6_readRow_15 ?_
  refine lv_aload_n hx hb dX6_readRow_18 rfl (lv_at hl 2 rfl) ?_
  have n54 : F1 1 = .int x_length := (get_ne eF1 (by decide) e_length)
  have n55 : F2 1 = .int x_length := (get_ne eF2 (by decide) n54)
  have n56 : G5 1 = .int x_length := (SAME.at i47 (by decide) n55)
  refine get_f (D := D) (ci := 6) (v := .int x_length) (C := RX6) (T := TX6) (N := 12) hx hb hw inAX6 hown hK hP 0 rfl rfl 1 (by decide) (hw _ q_90) (fun _ h9 => h9) n56 dX6_readRow_19 ?_
  refine lv_icmp_ge (tgt := 118) hx hb dX6_readRow_22 (by decide) (fun c57 => ?_) (fun c57 => ?_)
  · have dc57 : x_length.toInt ≤ u8.toInt := le_i (a := x_length.toInt) (b := u8.toInt) rfl rfl c57
    exact cut9 u3 u4 G5 u6 u7 u8 i45 i46 (SAME.tr SAME.rf i47 (by decide)) i48 i49 i50 i51 (by show 0 ≤ u4.toInt ∧ 0 ≤ u3.toInt ∧ u4.toInt + u3.toInt = u8.toInt - x_at.toInt; omega) (show RRI f_bytes x_length.toInt x_at.toInt u8.toInt u4.toInt u3.toInt u6.toInt u7.toInt from i53) (show ¬ (u8.toInt < x_length.toInt ∧ (isSm (tb f_bytes (u8.toInt).toNat) ∨ isDg (tb f_bytes (u8.toInt).toNat))) from (by omega)) _ _ _ hP hD hS (lv_sub hl [0, 1, 2] rfl)
  · have dc57 : u8.toInt < x_length.toInt := nle_i (a := x_length.toInt) (b := u8.toInt) rfl rfl c57
    have k58 : 0 ≤ u8.toInt ∧ u8.toInt ≤ 939 := ⟨i51.1, up_lt dc57 i_x_length.2 (by decide)⟩
    have k59 : 1 ≤ x_length.toInt ∧ x_length.toInt ≤ 940 := ⟨lo_lt dc57 i51.1 (by decide), i_x_length.2⟩
    refine lv_aload_n hx hb dX6_readRow_25 rfl (lv_at hl 2 rfl) ?_
    have n60 : F1 0 = .ref h_bytes := (get_ne eF1 (by decide) e_bytes)
    have n61 : F2 0 = .ref h_bytes := (get_ne eF2 (by decide) n60)
    have n62 : G5 0 = .ref h_bytes := (SAME.at i47 (by decide) n61)
    refine get_f (D := D) (ci := 6) (v := .ref h_bytes) (C := RX6) (T := TX6) (N := 12) hx hb hw inAX6 hown hK hP 0 rfl rfl 0 (by decide) (hw _ q_89) (fun _ h9 => h9) n62 dX6_readRow_26 ?_
    refine lv_aload_n hx hb dX6_readRow_29 rfl (lv_at hl 2 rfl) ?_
    refine get_f (D := D) (ci := 6) (v := .int u8) (C := RX6) (T := TX6) (N := 12) hx hb hw inAX6 hown hK hP 0 rfl rfl 10 (by decide) (hw _ q_110) (fun _ h9 => h9) i50 dX6_readRow_30 ?_
    refine va_bald hx hb hK hP 1 2 rfl rfl (ix_k k58 (by decide) (by decide)) dX6_readRow_33 ?_
    refine lv_topi (fun v63 ev63 => ?_)
    have k64 : (-128) ≤ v63.toInt ∧ v63.toInt ≤ 127 := by rw [ev63]; exact s_bytes_0.at _ (Int.le_trans (by decide) k58.1) (Int.le_trans k58.2 (by decide))
    have tv63 := tb_of ev63 k64
    refine lv_istore_n (lv' := [(3, .int v63), (2, .int u3), (1, .int u4), (0, .ref h0)]) hx hb dX6_readRow_34 rfl hl (by decide) rfl (fun ls hl => ?_)
    refine lv_iload_n hx hb dX6_readRow_35 rfl (lv_at hl 0 rfl) ?_
    refine lv_bipush (v := 97) hx hb dX6_readRow_36 (by decide) ?_
    refine lv_icmp_lt (tgt := 74) hx hb dX6_readRow_38 (by decide) (fun c65 => ?_) (fun c65 => ?_)
    · have dc65 : v63.toInt < 97 := lt_i (a := v63.toInt) (b := 97) rfl rfl c65
      have k66 : (-128) ≤ v63.toInt ∧ v63.toInt ≤ 96 := ⟨k64.1, up_lt dc65 (Int.le_refl _) (by decide)⟩
      refine lv_iload_n hx hb dX6_readRow_74 rfl (lv_at hl 0 rfl) ?_
      refine lv_bipush (v := 48) hx hb dX6_readRow_75 (by decide) ?_
      refine lv_icmp_lt (tgt := 118) hx hb dX6_readRow_77 (by decide) (fun c67 => ?_) (fun c67 => ?_)
      · have dc67 : v63.toInt < 48 := lt_i (a := v63.toInt) (b := 48) rfl rfl c67
        have k68 : (-128) ≤ v63.toInt ∧ v63.toInt ≤ 47 := ⟨k66.1, up_lt dc67 (Int.le_refl _) (by decide)⟩
        exact cut9 u3 u4 G5 u6 u7 u8 i45 i46 (SAME.tr SAME.rf i47 (by decide)) i48 i49 i50 (ir_wk k58 (by decide) (by decide)) (by show 0 ≤ u4.toInt ∧ 0 ≤ u3.toInt ∧ u4.toInt + u3.toInt = u8.toInt - x_at.toInt; omega) (show RRI f_bytes x_length.toInt x_at.toInt u8.toInt u4.toInt u3.toInt u6.toInt u7.toInt from i53) (show ¬ (u8.toInt < x_length.toInt ∧ (isSm (tb f_bytes (u8.toInt).toNat) ∨ isDg (tb f_bytes (u8.toInt).toNat))) from (by omega)) _ _ _ hP hD hS (lv_sub hl [1, 2, 3] rfl)
      · have dc67 : 48 ≤ v63.toInt := nlt_i (a := v63.toInt) (b := 48) rfl rfl c67
        have k69 : 48 ≤ v63.toInt ∧ v63.toInt ≤ 96 := ⟨Int.le_trans (Int.le_refl _) dc67, k66.2⟩
        refine lv_iload_n hx hb dX6_readRow_80 rfl (lv_at hl 0 rfl) ?_
        refine lv_bipush (v := 57) hx hb dX6_readRow_81 (by decide) ?_
        refine lv_icmp_gt (tgt := 118) hx hb dX6_readRow_83 (by decide) (fun c70 => ?_) (fun c70 => ?_)
        · have dc70 : 57 < v63.toInt := lt_i (a := 57) (b := v63.toInt) rfl rfl c70
          have k71 : 58 ≤ v63.toInt ∧ v63.toInt ≤ 96 := ⟨lo_lt dc70 (Int.le_refl _) (by decide), k69.2⟩
          exact cut9 u3 u4 G5 u6 u7 u8 i45 i46 (SAME.tr SAME.rf i47 (by decide)) i48 i49 i50 (ir_wk k58 (by decide) (by decide)) (by show 0 ≤ u4.toInt ∧ 0 ≤ u3.toInt ∧ u4.toInt + u3.toInt = u8.toInt - x_at.toInt; omega) (show RRI f_bytes x_length.toInt x_at.toInt u8.toInt u4.toInt u3.toInt u6.toInt u7.toInt from i53) (show ¬ (u8.toInt < x_length.toInt ∧ (isSm (tb f_bytes (u8.toInt).toNat) ∨ isDg (tb f_bytes (u8.toInt).toNat))) from (by omega)) _ _ _ hP hD hS (lv_sub hl [1, 2, 3] rfl)
        · have dc70 : v63.toInt ≤ 57 := nlt_i (a := 57) (b := v63.toInt) rfl rfl c70
          have k72 : 48 ≤ v63.toInt ∧ v63.toInt ≤ 57 := ⟨k69.1, Int.le_trans dc70 (Int.le_refl _)⟩
          obtain ⟨v73, ev73⟩ : ∃ z : Int32, z = u3 + 1 := ⟨_, rfl⟩
          have bv73 : v73.toInt = u3.toInt + 1 := by rw [ev73]; exact add_k rfl rfl i45 ⟨Int.le_refl _, Int.le_refl _⟩ (by decide)
          have k74 : 1 ≤ v73.toInt ∧ v73.toInt ≤ 941 := add_r bv73 i45 ⟨Int.le_refl _, Int.le_refl _⟩ (by decide)
          refine lv_iinc (v := v73) (lv' := [(2, .int v73), (3, .int v63), (1, .int u4), (0, .ref h0)]) hx hb dX6_readRow_86 hl (k := 1) rfl (by rw [ev73]; rfl) (by decide) rfl (fun ls hl => ?_)
          refine lv_aload_n hx hb dX6_readRow_89 rfl (lv_at hl 3 rfl) ?_
          refine lv_aload_n hx hb dX6_readRow_90 rfl (lv_at hl 3 rfl) ?_
          refine get_f (D := D) (ci := 6) (v := .int u6) (C := RX6) (T := TX6) (N := 12) hx hb hw inAX6 hown hK hP 0 rfl rfl 4 (by decide) (hw _ q_97) (fun _ h9 => h9) i48 dX6_readRow_91 ?_
          refine lv_bipush (v := 10) hx hb dX6_readRow_94 (by decide) ?_
          refine lv_imul hx hb dX6_readRow_96 ?_
          refine lv_topi (fun v75 ev75 => ?_)
          refine lv_iload_n hx hb dX6_readRow_97 rfl (lv_at hl 1 rfl) ?_
          refine lv_iadd hx hb dX6_readRow_98 ?_
          refine lv_topi (fun v76 ev76 => ?_)
          refine lv_bipush (v := 48) hx hb dX6_readRow_99 (by decide) ?_
          refine lv_isub hx hb dX6_readRow_101 ?_
          refine lv_topi (fun v77 ev77 => ?_)
          refine put_f (D := D) (ci := 6) (v := .int v77) (ty := .int) (C := RX6) (T := TX6) (N := 12) hx hb hw inAX6 tyX6 tyX6_ok nmX6 hown hK hP hD hS 0 rfl rfl 4 (by decide) (hw _ q_97) (fun _ h9 => h9) rfl (by decide +kernel) rfl rfl dX6_readRow_102 (fun H locs F78 eF78 hP hD hS => ?_)
          have hP : va_P D vwCl [(h0, .inr (6, vL 12 F78)), (h_bytes, .inl (cB, 940, .inl f_bytes))] H := hP
          have hD : va_D A [(h0, .inr (6, vL 12 F78)), (h_bytes, .inl (cB, 940, .inl f_bytes))] := hD
          refine lv_aload_n hx hb dX6_readRow_105 rfl (lv_at hl 3 rfl) ?_
          refine lv_dup hx hb dX6_readRow_106 rfl ?_
          have n79 : F78 10 = .int u8 := (get_ne eF78 (by decide) i50)
          refine get_f (D := D) (ci := 6) (v := .int u8) (C := RX6) (T := TX6) (N := 12) hx hb hw inAX6 hown hK hP 0 rfl rfl 10 (by decide) (hw _ q_110) (fun _ h9 => h9) n79 dX6_readRow_107 ?_
          refine lv_iconst (v := 1) hx hb dX6_readRow_110 (by decide) ?_
          refine lv_iadd hx hb dX6_readRow_111 ?_
          refine lv_topi (fun v80 ev80 => ?_)
          have bv80 : v80.toInt = u8.toInt + 1 := by rw [ev80]; exact add_k rfl rfl k58 ⟨Int.le_refl _, Int.le_refl _⟩ (by decide)
          have k81 : 1 ≤ v80.toInt ∧ v80.toInt ≤ 940 := add_r bv80 k58 ⟨Int.le_refl _, Int.le_refl _⟩ (by decide)
          refine put_f (D := D) (ci := 6) (v := .int v80) (ty := .int) (C := RX6) (T := TX6) (N := 12) hx hb hw inAX6 tyX6 tyX6_ok nmX6 hown hK hP hD hS 0 rfl rfl 10 (by decide) (hw _ q_110) (fun _ h9 => h9) rfl (by decide +kernel) rfl rfl dX6_readRow_112 (fun H locs F82 eF82 hP hD hS => ?_)
          have hP : va_P D vwCl [(h0, .inr (6, vL 12 F82)), (h_bytes, .inl (cB, 940, .inl f_bytes))] H := hP
          have hD : va_D A [(h0, .inr (6, vL 12 F82)), (h_bytes, .inl (cB, 940, .inl f_bytes))] := hD
          refine lv_goto (tgt := 14) hx hb dX6_readRow_115 (by decide) ?_
          have n83 : F82 4 = .int v77 := (get_ne eF82 (by decide) (get_eq eF78))
          have n84 : F78 5 = .long u7 := (get_ne eF78 (by decide) i49)
          have n85 : F82 5 = .long u7 := (get_ne eF82 (by decide) n84)
          exact ih (v73, u4, F82, v77, u7, v80) ⟨(show 0 ≤ v73.toInt ∧ v73.toInt ≤ 940 from ⟨by omega, by omega⟩), i46, (SAME.up eF82 (SAME.up eF78 (SAME.tr SAME.rf i47 (by decide)) (by decide)) (by decide)), n83, n85, (get_eq eF82), (ir_wk k81 (by decide) (by decide)), (by show 0 ≤ u4.toInt ∧ 0 ≤ v73.toInt ∧ u4.toInt + v73.toInt = v80.toInt - x_at.toInt; omega), (show RRI f_bytes x_length.toInt x_at.toInt v80.toInt u4.toInt v73.toInt v77.toInt u7.toInt from (RRI.dg i53 (by omega) ⟨by omega, by omega⟩ (by omega) (by omega) (fun q1 q2 => by rw [ev77, ev76, ev75, vl_st q1 q2 ⟨by omega, by omega⟩]; omega)))⟩ (by show (x_length.toInt - v80.toInt).toNat < (x_length.toInt - u8.toInt).toNat; omega) _ _ _ hP hD hS (lv_sub hl [0, 2, 3] rfl)
    · have dc65 : 97 ≤ v63.toInt := nlt_i (a := v63.toInt) (b := 97) rfl rfl c65
      have k86 : 97 ≤ v63.toInt ∧ v63.toInt ≤ 127 := ⟨Int.le_trans (Int.le_refl _) dc65, k64.2⟩
      refine lv_iload_n hx hb dX6_readRow_41 rfl (lv_at hl 0 rfl) ?_
      refine lv_bipush (v := 122) hx hb dX6_readRow_42 (by decide) ?_
      refine lv_icmp_gt (tgt := 74) hx hb dX6_readRow_44 (by decide) (fun c87 => ?_) (fun c87 => ?_)
      · have dc87 : 122 < v63.toInt := lt_i (a := 122) (b := v63.toInt) rfl rfl c87
        have k88 : 123 ≤ v63.toInt ∧ v63.toInt ≤ 127 := ⟨lo_lt dc87 (Int.le_refl _) (by decide), k86.2⟩
        refine lv_iload_n hx hb dX6_readRow_74 rfl (lv_at hl 0 rfl) ?_
        refine lv_bipush (v := 48) hx hb dX6_readRow_75 (by decide) ?_
        refine lv_icmp_lt (tgt := 118) hx hb dX6_readRow_77 (by decide) (fun c89 => False.elim (bad_lt (lt_i (a := v63.toInt) (b := 48) rfl rfl c89) k88.1 (Int.le_refl _) (by decide))) (fun c89 => ?_)
        have dc89 : 48 ≤ v63.toInt := nlt_i (a := v63.toInt) (b := 48) rfl rfl c89
        refine lv_iload_n hx hb dX6_readRow_80 rfl (lv_at hl 0 rfl) ?_
        refine lv_bipush (v := 57) hx hb dX6_readRow_81 (by decide) ?_
        refine lv_icmp_gt (tgt := 118) hx hb dX6_readRow_83 (by decide) (fun c90 => ?_) (fun c90 => False.elim (bad_le (nlt_i (a := 57) (b := v63.toInt) rfl rfl c90) k88.1 (Int.le_refl _) (by decide)))
        have dc90 : 57 < v63.toInt := lt_i (a := 57) (b := v63.toInt) rfl rfl c90
        exact cut9 u3 u4 G5 u6 u7 u8 i45 i46 (SAME.tr SAME.rf i47 (by decide)) i48 i49 i50 (ir_wk k58 (by decide) (by decide)) (by show 0 ≤ u4.toInt ∧ 0 ≤ u3.toInt ∧ u4.toInt + u3.toInt = u8.toInt - x_at.toInt; omega) (show RRI f_bytes x_length.toInt x_at.toInt u8.toInt u4.toInt u3.toInt u6.toInt u7.toInt from i53) (show ¬ (u8.toInt < x_length.toInt ∧ (isSm (tb f_bytes (u8.toInt).toNat) ∨ isDg (tb f_bytes (u8.toInt).toNat))) from (by omega)) _ _ _ hP hD hS (lv_sub hl [1, 2, 3] rfl)
      · have dc87 : v63.toInt ≤ 122 := nlt_i (a := 122) (b := v63.toInt) rfl rfl c87
        have k91 : 97 ≤ v63.toInt ∧ v63.toInt ≤ 122 := ⟨k86.1, Int.le_trans dc87 (Int.le_refl _)⟩
        obtain ⟨v92, ev92⟩ : ∃ z : Int32, z = u4 + 1 := ⟨_, rfl⟩
        have bv92 : v92.toInt = u4.toInt + 1 := by rw [ev92]; exact add_k rfl rfl i46 ⟨Int.le_refl _, Int.le_refl _⟩ (by decide)
        have k93 : 1 ≤ v92.toInt ∧ v92.toInt ≤ 941 := add_r bv92 i46 ⟨Int.le_refl _, Int.le_refl _⟩ (by decide)
        refine lv_iinc (v := v92) (lv' := [(1, .int v92), (3, .int v63), (2, .int u3), (0, .ref h0)]) hx hb dX6_readRow_47 hl (k := 2) rfl (by rw [ev92]; rfl) (by decide) rfl (fun ls hl => ?_)
        refine lv_aload_n hx hb dX6_readRow_50 rfl (lv_at hl 3 rfl) ?_
        refine lv_aload_n hx hb dX6_readRow_51 rfl (lv_at hl 3 rfl) ?_
        refine get_f (D := D) (ci := 6) (v := .long u7) (C := RX6) (T := TX6) (N := 12) hx hb hw inAX6 hown hK hP 0 rfl rfl 5 (by decide) (hw _ q_98) (fun _ h9 => h9) i49 dX6_readRow_52 ?_
        refine lv_ldc2 hx hb hown (hw _ q_87) dX6_readRow_55 ?_
        refine lv_lmul hx hb dX6_readRow_58 ?_
        refine lv_topl (fun v94 ev94 => ?_)
        refine lv_iload_n hx hb dX6_readRow_59 rfl (lv_at hl 1 rfl) ?_
        obtain ⟨v95, ev95⟩ : ∃ z : Int64, (v63 : Int32).toInt64 = z := ⟨_, rfl⟩
        refine lv_i2l (v := v95) hx hb dX6_readRow_60 ev95 ?_
        refine lv_ladd hx hb dX6_readRow_61 ?_
        refine lv_topl (fun v96 ev96 => ?_)
        refine lv_ldc2 hx hb hown (hw _ q_88) dX6_readRow_62 ?_
        refine lv_lsub hx hb dX6_readRow_65 ?_
        refine lv_topl (fun v97 ev97 => ?_)
        refine lv_lconst (v := 1) hx hb dX6_readRow_66 (by decide) ?_
        refine lv_ladd hx hb dX6_readRow_67 ?_
        refine lv_topl (fun v98 ev98 => ?_)
        refine put_f (D := D) (ci := 6) (v := .long v98) (ty := .long) (C := RX6) (T := TX6) (N := 12) hx hb hw inAX6 tyX6 tyX6_ok nmX6 hown hK hP hD hS 0 rfl rfl 5 (by decide) (hw _ q_98) (fun _ h9 => h9) rfl (by decide +kernel) rfl rfl dX6_readRow_68 (fun H locs F99 eF99 hP hD hS => ?_)
        have hP : va_P D vwCl [(h0, .inr (6, vL 12 F99)), (h_bytes, .inl (cB, 940, .inl f_bytes))] H := hP
        have hD : va_D A [(h0, .inr (6, vL 12 F99)), (h_bytes, .inl (cB, 940, .inl f_bytes))] := hD
        refine lv_goto (tgt := 105) hx hb dX6_readRow_71 (by decide) ?_
        refine lv_aload_n hx hb dX6_readRow_105 rfl (lv_at hl 3 rfl) ?_
        refine lv_dup hx hb dX6_readRow_106 rfl ?_
        have n100 : F99 10 = .int u8 := (get_ne eF99 (by decide) i50)
        refine get_f (D := D) (ci := 6) (v := .int u8) (C := RX6) (T := TX6) (N := 12) hx hb hw inAX6 hown hK hP 0 rfl rfl 10 (by decide) (hw _ q_110) (fun _ h9 => h9) n100 dX6_readRow_107 ?_
        refine lv_iconst (v := 1) hx hb dX6_readRow_110 (by decide) ?_
        refine lv_iadd hx hb dX6_readRow_111 ?_
        refine lv_topi (fun v101 ev101 => ?_)
        have bv101 : v101.toInt = u8.toInt + 1 := by rw [ev101]; exact add_k rfl rfl k58 ⟨Int.le_refl _, Int.le_refl _⟩ (by decide)
        have k102 : 1 ≤ v101.toInt ∧ v101.toInt ≤ 940 := add_r bv101 k58 ⟨Int.le_refl _, Int.le_refl _⟩ (by decide)
        refine put_f (D := D) (ci := 6) (v := .int v101) (ty := .int) (C := RX6) (T := TX6) (N := 12) hx hb hw inAX6 tyX6 tyX6_ok nmX6 hown hK hP hD hS 0 rfl rfl 10 (by decide) (hw _ q_110) (fun _ h9 => h9) rfl (by decide +kernel) rfl rfl dX6_readRow_112 (fun H locs F103 eF103 hP hD hS => ?_)
        have hP : va_P D vwCl [(h0, .inr (6, vL 12 F103)), (h_bytes, .inl (cB, 940, .inl f_bytes))] H := hP
        have hD : va_D A [(h0, .inr (6, vL 12 F103)), (h_bytes, .inl (cB, 940, .inl f_bytes))] := hD
        refine lv_goto (tgt := 14) hx hb dX6_readRow_115 (by decide) ?_
        have n104 : F99 4 = .int u6 := (get_ne eF99 (by decide) i48)
        have n105 : F103 4 = .int u6 := (get_ne eF103 (by decide) n104)
        have n106 : F103 5 = .long v98 := (get_ne eF103 (by decide) (get_eq eF99))
        exact ih (u3, v92, F103, u6, v98, v101) ⟨i45, (show 0 ≤ v92.toInt ∧ v92.toInt ≤ 940 from ⟨by omega, by omega⟩), (SAME.up eF103 (SAME.up eF99 (SAME.tr SAME.rf i47 (by decide)) (by decide)) (by decide)), n105, n106, (get_eq eF103), (ir_wk k102 (by decide) (by decide)), (by show 0 ≤ v92.toInt ∧ 0 ≤ u3.toInt ∧ v92.toInt + u3.toInt = v101.toInt - x_at.toInt; omega), (show RRI f_bytes x_length.toInt x_at.toInt v101.toInt v92.toInt u3.toInt u6.toInt v98.toInt from (RRI.sm i53 (by omega) ⟨by omega, by omega⟩ (by omega) (by omega) (fun q1 q2 => by rw [ev98, ev97, ev96, ev94, ← ev95, nm_st q1 q2 ⟨by omega, by omega⟩]; omega)))⟩ (by show (x_length.toInt - v101.toInt).toNat < (x_length.toInt - u8.toInt).toNat; omega) _ _ _ hP hD hS (lv_sub hl [2, 0, 3] rfl)
set_option maxHeartbeats 4000000 in
set_option maxRecDepth 100000 in
theorem m_X6_wordNamed (l : Launch) (D : va_G) (cI cJ cB cP cM cZ : ClassId) (h0 : Nat) (h_wordNames : Nat) (Fh : Nat → Value) (f_wordNames : Nat → Int64) (p0 : Int64) (sz : Nat) (e_wordNames : Fh 9 = .ref h_wordNames) (s_wordNames_KN : KWN f_wordNames) : CI l yX6_wordNamed cX6_wordNamed 4 (some .int) { frames := 0, cells := 0, slots := 0, locals := 0 } (GG D cI cJ cB cP cM cZ) D [(h0, .inr (6, vL 12 Fh)), (h_wordNames, .inl (cJ, 23, .inr (.inl f_wordNames)))] sz [.ref h0, .long p0] (fun (r : Int32) (u : va_W) => IR (-1) 22 r ∧ (r.toInt = wix p0.toInt) ∧ u = [(h0, .inr (6, vL 12 Fh)), (h_wordNames, .inl (cJ, 23, .inr (.inl f_wordNames)))]) := by
  refine CI_mk (by decide) (Nat.le_of_ble_eq_true rfl) ?_
  intro p e s m below meth c A ls E hAe hG hsz hP hD hA hS hl
  obtain ⟨hx, hb, hr, hw, hown, hlocks, hml, hnm⟩ := E
  have hK := hG.1
  have hl : lv_has ls 4 [(0, .ref h0), (1, .long p0)] := hl
  refine lv_iconst (v := 0) hx hb dX6_wordNamed_0 (by decide) ?_
  refine lv_istore_n (lv' := [(3, .int 0), (0, .ref h0), (1, .long p0)]) hx hb dX6_wordNamed_1 rfl hl (by decide) rfl (fun ls hl => ?_)
  refine mloop (α := (Int32)) (nL := 4) (D := D) (A := A) (H0 := s.heap) (fun a => (23 - a.toInt).toNat) (fun a => IR 0 23 a ∧ (FI (gL f_wordNames) p0.toInt 23 a.toInt)) (fun a => [(h0, .inr (6, vL 12 Fh)), (h_wordNames, .inl (cJ, 23, .inr (.inl f_wordNames)))]) (fun a => [(3, .int a), (0, .ref h0), (1, .long p0)]) (fun H locs ls => W p l e ({ frames := 0, cells := 0, slots := 0, locals := 0 } : Room) s m [.ref h0, .long p0].toArray below meth c H locs 0 0 (MQ below (va_Qi (fun (r : Int32) (u : va_W) => IR (-1) 22 r ∧ (r.toInt = wix p0.toInt) ∧ u = [(h0, .inr (6, vL 12 Fh)), (h_wordNames, .inl (cJ, 23, .inr (.inl f_wordNames)))]) (PO D A) A) [.ref h0, .long p0].toArray s 0 0 A) (F0 m 2 ls [])) ?_ (0) ⟨(show 0 ≤ (0 : Int32).toInt ∧ (0 : Int32).toInt ≤ 23 by decide), (show FI (gL f_wordNames) p0.toInt 23 0 from FI.zero)⟩ _ _ _ hP hD hS hl
  rintro u1 ⟨i2, i3⟩ ih H locs ls hP hD hS hl
  have i2 : 0 ≤ u1.toInt ∧ u1.toInt ≤ 23 := i2
  have i3 : FI (gL f_wordNames) p0.toInt 23 u1.toInt := i3
  have hP : va_P D vwCl [(h0, .inr (6, vL 12 Fh)), (h_wordNames, .inl (cJ, 23, .inr (.inl f_wordNames)))] H := hP
  have hD : va_D A [(h0, .inr (6, vL 12 Fh)), (h_wordNames, .inl (cJ, 23, .inr (.inl f_wordNames)))] := hD
  have hl : lv_has ls 4 [(3, .int u1), (0, .ref h0), (1, .long p0)] := hl
  refine lv_iload_n hx hb dX6_wordNamed_2 rfl (lv_at hl 0 rfl) ?_
  refine lv_bipush (v := 23) hx hb dX6_wordNamed_3 (by decide) ?_
  refine lv_icmp_ge (tgt := 27) hx hb dX6_wordNamed_5 (by decide) (fun c4 => ?_) (fun c4 => ?_)
  · have dc4 : 23 ≤ u1.toInt := le_i (a := 23) (b := u1.toInt) rfl rfl c4
    have k5 : 23 ≤ u1.toInt ∧ u1.toInt ≤ 23 := ⟨Int.le_trans (Int.le_refl _) dc4, i2.2⟩
    refine lv_iconst (v := (-1)) hx hb dX6_wordNamed_27 (by decide) ?_
    exact ret_i (v := (-1)) hx hb hr hlocks hS hP hD dX6_wordNamed_28 rfl (Nat.le_of_ble_eq_true rfl) (Nat.le_of_ble_eq_true rfl) ⟨(show (-1) ≤ ((-1) : Int32).toInt ∧ ((-1) : Int32).toInt ≤ 22 by decide), (((show (-1 : Int32).toInt = -1 by decide).trans (FI.none i3 (by omega))).trans (KWN.wix s_wordNames_KN)), rfl⟩
  · have dc4 : u1.toInt < 23 := nle_i (a := 23) (b := u1.toInt) rfl rfl c4
    have k6 : 0 ≤ u1.toInt ∧ u1.toInt ≤ 22 := ⟨i2.1, up_lt dc4 (Int.le_refl _) (by decide)⟩
    refine lv_aload_n hx hb dX6_wordNamed_8 rfl (lv_at hl 1 rfl) ?_
    refine get_f (D := D) (ci := 6) (v := .ref h_wordNames) (C := RX6) (T := TX6) (N := 12) hx hb hw inAX6 hown hK hP 0 rfl rfl 9 (by decide) (hw _ q_109) (fun _ h9 => h9) e_wordNames dX6_wordNamed_9 ?_
    refine lv_iload_n hx hb dX6_wordNamed_12 rfl (lv_at hl 0 rfl) ?_
    refine va_lald hx hb hK hP 1 1 rfl rfl (ix_k k6 (by decide) (by decide)) dX6_wordNamed_13 ?_
    refine lv_topl (fun v7 ev7 => ?_)
    refine lv_lload_n hx hb dX6_wordNamed_14 rfl (lv_at hl 2 rfl) ?_
    refine W.lcmp hx hb dX6_wordNamed_15 ?_
    refine lv_topi (fun v8 ev8 => ?_)
    have bv8 : v8.toInt = 0 ↔ (v7 : Int64) = p0 := by rw [ev8]; exact lc0
    have av8 : v8.toInt = 0 ↔ (v7 : Int64).toInt = (p0 : Int64).toInt := by rw [ev8]; exact lc1
    refine lv_if_ne (tgt := 21) hx hb dX6_wordNamed_16 (by decide) (fun c9 => ?_) (fun c9 => ?_)
    · have dc9 : v8.toInt ≠ 0 := ne_i (a := v8.toInt) (b := 0) rfl rfl c9
      obtain ⟨v10, ev10⟩ : ∃ z : Int32, z = u1 + 1 := ⟨_, rfl⟩
      have bv10 : v10.toInt = u1.toInt + 1 := by rw [ev10]; exact add_k rfl rfl k6 ⟨Int.le_refl _, Int.le_refl _⟩ (by decide)
      have k11 : 1 ≤ v10.toInt ∧ v10.toInt ≤ 23 := add_r bv10 k6 ⟨Int.le_refl _, Int.le_refl _⟩ (by decide)
      refine lv_iinc (v := v10) (lv' := [(3, .int v10), (0, .ref h0), (1, .long p0)]) hx hb dX6_wordNamed_21 hl (k := 0) rfl (by rw [ev10]; rfl) (by decide) rfl (fun ls hl => ?_)
      refine lv_goto (tgt := 2) hx hb dX6_wordNamed_24 (by decide) ?_
      exact ih (v10) ⟨(ir_wk k11 (by decide) (by decide)), (show FI (gL f_wordNames) p0.toInt 23 v10.toInt from (FI.step i3 (by omega) (by omega) (fun q => dc9 (bv8.mpr (Int64.toInt_inj.mp (by rw [ev7]; exact q)))) (by omega)))⟩ (by show (23 - v10.toInt).toNat < (23 - u1.toInt).toNat; omega) _ _ _ hP hD hS (lv_sub hl [0, 1, 2] rfl)
    · have dc9 : v8.toInt = 0 := eq_i (a := v8.toInt) (b := 0) rfl rfl c9
      have k12 : 0 ≤ v8.toInt ∧ v8.toInt ≤ 0 := ⟨Int.le_trans (Int.le_refl _) (Int.le_of_eq dc9.symm), Int.le_trans (Int.le_of_eq dc9) (Int.le_refl _)⟩
      refine lv_iload_n hx hb dX6_wordNamed_19 rfl (lv_at hl 0 rfl) ?_
      exact ret_i (v := u1) hx hb hr hlocks hS hP hD dX6_wordNamed_20 rfl (Nat.le_of_ble_eq_true rfl) (Nat.le_of_ble_eq_true rfl) ⟨(ir_wk k6 (by decide) (by decide)), ((FI.hit i3 (by omega) (by omega) (congrArg Int64.toInt (ev7.symm.trans (bv8.mp dc9)))).trans (KWN.wix s_wordNames_KN)), rfl⟩
set_option maxHeartbeats 4000000 in
set_option maxRecDepth 100000 in
theorem m_X6_advance (l : Launch) (D : va_G) (cI cJ cB cP cM cZ : ClassId) (h0 : Nat) (h_bytes : Nat) (h_wordNames : Nat) (Fh : Nat → Value) (x_length : Int32) (x_kind : Int32) (x_place : Int32) (x_value : Int32) (x_name : Int64) (x_at : Int32) (x_mostBytes : Int32) (f_bytes : Nat → Int32) (f_wordNames : Nat → Int64) (sz : Nat) (e_bytes : Fh 0 = .ref h_bytes) (e_length : Fh 1 = .int x_length) (i_x_length : IR 0 940 x_length) (e_kind : Fh 2 = .int x_kind) (e_place : Fh 3 = .int x_place) (e_value : Fh 4 = .int x_value) (e_name : Fh 5 = .long x_name) (e_wordNames : Fh 9 = .ref h_wordNames) (e_at : Fh 10 = .int x_at) (i_x_at : IR 0 940 x_at) (e_mostBytes : Fh 11 = .int x_mostBytes) (s_bytes_0 : SG 0 939 (-128) 127 f_bytes) (s_wordNames_KN : KWN f_wordNames) : CV l yX6_advance cX6_advance 1 none { frames := 1, cells := 0, slots := 0, locals := 23 } (GG D cI cJ cB cP cM cZ) D [(h0, .inr (6, vL 12 Fh)), (h_bytes, .inl (cB, 940, .inl f_bytes)), (h_wordNames, .inl (cJ, 23, .inr (.inl f_wordNames)))] sz [.ref h0] (fun (u : va_W) => ∃ (Gh : Nat → Value) (y_kind : Int32) (y_place : Int32) (y_value : Int32) (y_name : Int64) (y_at : Int32), SAME [2, 3, 4, 5, 10] Fh Gh ∧ Gh 2 = .int y_kind ∧ IR (-128) 127 y_kind ∧ Gh 3 = .int y_place ∧ IR (-2147483648) 940 y_place ∧ Gh 4 = .int y_value ∧ Gh 5 = .long y_name ∧ Gh 10 = .int y_at ∧ IR 0 940 y_at ∧ ((tkC y_kind y_place y_value y_name y_at) = (tkA f_bytes x_length.toInt x_mostBytes.toInt) x_at.toInt) ∧ ((y_kind.toInt = 2 → y_value.toInt = wix y_name.toInt)) ∧ ((y_kind.toInt = 3 → 0 ≤ y_value.toInt)) ∧ u = [(h0, .inr (6, vL 12 Gh)), (h_bytes, .inl (cB, 940, .inl f_bytes)), (h_wordNames, .inl (cJ, 23, .inr (.inl f_wordNames)))]) := by
  refine CV_mk (by decide) (Nat.le_of_ble_eq_true rfl) ?_
  intro p e s m below meth c A ls E hAe hG hsz hP hD hA hS hl
  obtain ⟨hx, hb, hr, hw, hown, hlocks, hml, hnm⟩ := E
  have hK := hG.1
  have i_x_length : 0 ≤ x_length.toInt ∧ x_length.toInt ≤ 940 := i_x_length
  have i_x_at : 0 ≤ x_at.toInt ∧ x_at.toInt ≤ 940 := i_x_at
  have hl : lv_has ls 1 [(0, .ref h0)] := hl
  have cut3 : ∀ (G1 : Nat → Value) (u2 : Int32) (_ : SAME [10] Fh G1) (_ : G1 10 = .int u2) (_ : IR 0 940 u2) (_ : (sk f_bytes (x_length.toInt).toNat (x_at.toInt).toNat = sk f_bytes (x_length.toInt).toNat (u2.toInt).toNat)) (_ : (sk f_bytes (x_length.toInt).toNat (u2.toInt).toNat = (u2.toInt).toNat)) (H : Heap) (locs : List Loc) (ls : Array Slot), va_P D vwCl [(h0, .inr (6, vL 12 G1)), (h_bytes, .inl (cB, 940, .inl f_bytes)), (h_wordNames, .inl (cJ, 23, .inr (.inl f_wordNames)))] H → va_D A [(h0, .inr (6, vL 12 G1)), (h_bytes, .inl (cB, 940, .inl f_bytes)), (h_wordNames, .inl (cJ, 23, .inr (.inl f_wordNames)))] → va_S A s.heap H locs → lv_has ls 1 [(0, .ref h0)] → W p l e ({ frames := 1, cells := 0, slots := 0, locals := 23 } : Room) s m [.ref h0].toArray below meth c H locs 0 0 (MQ below (va_Qv (fun (u : va_W) => ∃ (Gh : Nat → Value) (y_kind : Int32) (y_place : Int32) (y_value : Int32) (y_name : Int64) (y_at : Int32), SAME [2, 3, 4, 5, 10] Fh Gh ∧ Gh 2 = .int y_kind ∧ IR (-128) 127 y_kind ∧ Gh 3 = .int y_place ∧ IR (-2147483648) 940 y_place ∧ Gh 4 = .int y_value ∧ Gh 5 = .long y_name ∧ Gh 10 = .int y_at ∧ IR 0 940 y_at ∧ ((tkC y_kind y_place y_value y_name y_at) = (tkA f_bytes x_length.toInt x_mostBytes.toInt) x_at.toInt) ∧ ((y_kind.toInt = 2 → y_value.toInt = wix y_name.toInt)) ∧ ((y_kind.toInt = 3 → 0 ≤ y_value.toInt)) ∧ u = [(h0, .inr (6, vL 12 Gh)), (h_bytes, .inl (cB, 940, .inl f_bytes)), (h_wordNames, .inl (cJ, 23, .inr (.inl f_wordNames)))]) (PO D A) A) [.ref h0].toArray s 0 0 A) (F0 m 52 ls []) := by
    intro G1 u2 i4 i5 i6 i7 i8 H locs ls hP hD hS hl
    have i6 : 0 ≤ u2.toInt ∧ u2.toInt ≤ 940 := i6
    have i7 : sk f_bytes (x_length.toInt).toNat (x_at.toInt).toNat = sk f_bytes (x_length.toInt).toNat (u2.toInt).toNat := i7
    have i8 : sk f_bytes (x_length.toInt).toNat (u2.toInt).toNat = (u2.toInt).toNat := i8
    refine lv_aload_n hx hb dX6_advance_52 rfl (lv_at hl 0 rfl) ?_
    refine lv_aload_n hx hb dX6_advance_53 rfl (lv_at hl 0 rfl) ?_
    refine get_f (D := D) (ci := 6) (v := .int u2) (C := RX6) (T := TX6) (N := 12) hx hb hw inAX6 hown hK hP 0 rfl rfl 10 (by decide) (hw _ q_110) (fun _ h9 => h9) i5 dX6_advance_54 ?_
    refine put_f (D := D) (ci := 6) (v := .int u2) (ty := .int) (C := RX6) (T := TX6) (N := 12) hx hb hw inAX6 tyX6 tyX6_ok nmX6 hown hK hP hD hS 0 rfl rfl 3 (by decide) (hw _ q_96) (fun _ h9 => h9) rfl (by decide +kernel) rfl rfl dX6_advance_57 (fun H locs F9 eF9 hP hD hS => ?_)
    have hP : va_P D vwCl [(h0, .inr (6, vL 12 F9)), (h_bytes, .inl (cB, 940, .inl f_bytes)), (h_wordNames, .inl (cJ, 23, .inr (.inl f_wordNames)))] H := hP
    have hD : va_D A [(h0, .inr (6, vL 12 F9)), (h_bytes, .inl (cB, 940, .inl f_bytes)), (h_wordNames, .inl (cJ, 23, .inr (.inl f_wordNames)))] := hD
    refine lv_aload_n hx hb dX6_advance_60 rfl (lv_at hl 0 rfl) ?_
    have n10 : G1 1 = .int x_length := (SAME.at i4 (by decide) e_length)
    have n11 : F9 1 = .int x_length := (get_ne eF9 (by decide) n10)
    refine get_f (D := D) (ci := 6) (v := .int x_length) (C := RX6) (T := TX6) (N := 12) hx hb hw inAX6 hown hK hP 0 rfl rfl 1 (by decide) (hw _ q_90) (fun _ h9 => h9) n11 dX6_advance_61 ?_
    refine lv_aload_n hx hb dX6_advance_64 rfl (lv_at hl 0 rfl) ?_
    have n12 : G1 11 = .int x_mostBytes := (SAME.at i4 (by decide) e_mostBytes)
    have n13 : F9 11 = .int x_mostBytes := (get_ne eF9 (by decide) n12)
    refine get_f (D := D) (ci := 6) (v := .int x_mostBytes) (C := RX6) (T := TX6) (N := 12) hx hb hw inAX6 hown hK hP 0 rfl rfl 11 (by decide) (hw _ q_111) (fun _ h9 => h9) n13 dX6_advance_65 ?_
    refine lv_icmp_le (tgt := 98) hx hb dX6_advance_68 (by decide) (fun c14 => ?_) (fun c14 => ?_)
    · have dc14 : x_length.toInt ≤ x_mostBytes.toInt := le_i (a := x_length.toInt) (b := x_mostBytes.toInt) rfl rfl c14
      have k15 : 0 ≤ x_mostBytes.toInt ∧ x_mostBytes.toInt ≤ 2147483647 := ⟨Int.le_trans i_x_length.1 dc14, (ir_any _).2⟩
      refine lv_aload_n hx hb dX6_advance_98 rfl (lv_at hl 0 rfl) ?_
      have n16 : F9 10 = .int u2 := (get_ne eF9 (by decide) i5)
      refine get_f (D := D) (ci := 6) (v := .int u2) (C := RX6) (T := TX6) (N := 12) hx hb hw inAX6 hown hK hP 0 rfl rfl 10 (by decide) (hw _ q_110) (fun _ h9 => h9) n16 dX6_advance_99 ?_
      refine lv_aload_n hx hb dX6_advance_102 rfl (lv_at hl 0 rfl) ?_
      refine get_f (D := D) (ci := 6) (v := .int x_length) (C := RX6) (T := TX6) (N := 12) hx hb hw inAX6 hown hK hP 0 rfl rfl 1 (by decide) (hw _ q_90) (fun _ h9 => h9) n11 dX6_advance_103 ?_
      refine lv_icmp_lt (tgt := 117) hx hb dX6_advance_106 (by decide) (fun c17 => ?_) (fun c17 => ?_)
      · have dc17 : u2.toInt < x_length.toInt := lt_i (a := u2.toInt) (b := x_length.toInt) rfl rfl c17
        have k18 : 0 ≤ u2.toInt ∧ u2.toInt ≤ 939 := ⟨i6.1, up_lt dc17 i_x_length.2 (by decide)⟩
        have k19 : 1 ≤ x_length.toInt ∧ x_length.toInt ≤ 940 := ⟨lo_lt dc17 i6.1 (by decide), i_x_length.2⟩
        refine lv_aload_n hx hb dX6_advance_117 rfl (lv_at hl 0 rfl) ?_
        have n20 : G1 0 = .ref h_bytes := (SAME.at i4 (by decide) e_bytes)
        have n21 : F9 0 = .ref h_bytes := (get_ne eF9 (by decide) n20)
        refine get_f (D := D) (ci := 6) (v := .ref h_bytes) (C := RX6) (T := TX6) (N := 12) hx hb hw inAX6 hown hK hP 0 rfl rfl 0 (by decide) (hw _ q_89) (fun _ h9 => h9) n21 dX6_advance_118 ?_
        refine lv_aload_n hx hb dX6_advance_121 rfl (lv_at hl 0 rfl) ?_
        refine get_f (D := D) (ci := 6) (v := .int u2) (C := RX6) (T := TX6) (N := 12) hx hb hw inAX6 hown hK hP 0 rfl rfl 10 (by decide) (hw _ q_110) (fun _ h9 => h9) n16 dX6_advance_122 ?_
        refine va_bald hx hb hK hP 1 2 rfl rfl (ix_k k18 (by decide) (by decide)) dX6_advance_125 ?_
        refine lv_topi (fun v22 ev22 => ?_)
        have k23 : (-128) ≤ v22.toInt ∧ v22.toInt ≤ 127 := by rw [ev22]; exact s_bytes_0.at _ (Int.le_trans (by decide) k18.1) (Int.le_trans k18.2 (by decide))
        have tv22 := tb_of ev22 k23
        refine call_Si (wr := [(h0, .inr (6, vL 12 F9)), (h_bytes, .inl (cB, 940, .inl f_bytes)), (h_wordNames, .inl (cJ, 23, .inr (.inl f_wordNames)))]) (As := [.int v22]) (rest := []) hx hb hml hown hw (m_X6_isSign l D cI cJ cB cP cM cZ v22 _ ) wS_X6_69_X6_isSign dX6_advance_126 hP hD hS hA [] [0, 1, 2] rfl rfl (by decide) (by decide) (by decide) GG.fb hG.at hl.1 rfl (Nat.le_of_ble_eq_true rfl) ⟨(Nat.le_of_ble_eq_true rfl), (Nat.le_of_ble_eq_true rfl)⟩ ⟨(Nat.le_of_ble_eq_true rfl), (Nat.le_of_ble_eq_true rfl)⟩ (fun r24 u H locs hp hP hD hS => ?_)
        obtain ⟨t25, t26, rfl⟩ := hp
        have hP : va_P D vwCl [(h0, .inr (6, vL 12 F9)), (h_bytes, .inl (cB, 940, .inl f_bytes)), (h_wordNames, .inl (cJ, 23, .inr (.inl f_wordNames)))] H := hP
        have hD : va_D A [(h0, .inr (6, vL 12 F9)), (h_bytes, .inl (cB, 940, .inl f_bytes)), (h_wordNames, .inl (cJ, 23, .inr (.inl f_wordNames)))] := hD
        refine W.widen (k := 0) (n := 0) (Nat.le_of_ble_eq_true rfl) (Nat.le_of_ble_eq_true rfl) ?_
        refine lv_if_eq (tgt := 158) hx hb dX6_advance_129 (by decide) (fun c28 => ?_) (fun c28 => ?_)
        · have dc28 : r24.toInt = 0 := eq_i (a := r24.toInt) (b := 0) rfl rfl c28
          have k29 : 0 ≤ r24.toInt ∧ r24.toInt ≤ 0 := ⟨t25.1, Int.le_trans (Int.le_of_eq dc28) (Int.le_refl _)⟩
          refine lv_aload_n hx hb dX6_advance_158 rfl (lv_at hl 0 rfl) ?_
          have n30 : G1 2 = .int x_kind := (SAME.at i4 (by decide) e_kind)
          have n31 : F9 2 = .int x_kind := (get_ne eF9 (by decide) n30)
          have n32 : G1 4 = .int x_value := (SAME.at i4 (by decide) e_value)
          have n33 : F9 4 = .int x_value := (get_ne eF9 (by decide) n32)
          have n34 : G1 5 = .long x_name := (SAME.at i4 (by decide) e_name)
          have n35 : F9 5 = .long x_name := (get_ne eF9 (by decide) n34)
          refine call_Vv (wr := [(h_wordNames, .inl (cJ, 23, .inr (.inl f_wordNames)))]) (As := []) (rest := []) hx hb hml hown hw (m_X6_readRow l D cI cJ cB cP cM cZ h0 h_bytes F9 x_length x_kind x_value x_name u2 f_bytes _ n21 n11 (ir_wk k19 (by decide) (by decide)) n31 n33 n35 n16 (ir_wk k18 (by decide) (by decide)) s_bytes_0) wV_X6_73_X6_readRow dX6_advance_159 hK hP hD hS hA [0, 1] [2] rfl rfl (by decide) (by decide) (by decide) 0 6 rfl rfl GG.fb hG.at hl.1 rfl (Nat.le_of_ble_eq_true rfl) ⟨(Nat.le_of_ble_eq_true rfl), (Nat.le_of_ble_eq_true rfl)⟩ ⟨(Nat.le_of_ble_eq_true rfl), (Nat.le_of_ble_eq_true rfl)⟩ (fun u H locs hp hP hD hS => ?_)
          obtain ⟨F37, y38, y39, y40, y41, t42, t43, t44, t45, t46, t47, t48, t49, rfl⟩ := hp
          have hP : va_P D vwCl [(h_wordNames, .inl (cJ, 23, .inr (.inl f_wordNames))), (h0, .inr (6, vL 12 F37)), (h_bytes, .inl (cB, 940, .inl f_bytes))] H := hP
          have hD : va_D A [(h_wordNames, .inl (cJ, 23, .inr (.inl f_wordNames))), (h0, .inr (6, vL 12 F37)), (h_bytes, .inl (cB, 940, .inl f_bytes))] := hD
          refine W.widen (k := 0) (n := 0) (Nat.le_of_ble_eq_true rfl) (Nat.le_of_ble_eq_true rfl) ?_
          refine lv_aload_n hx hb dX6_advance_162 rfl (lv_at hl 0 rfl) ?_
          refine lv_aload_n hx hb dX6_advance_163 rfl (lv_at hl 0 rfl) ?_
          refine get_f (D := D) (ci := 6) (v := .int y38) (C := RX6) (T := TX6) (N := 12) hx hb hw inAX6 hown hK hP 1 rfl rfl 2 (by decide) (hw _ q_92) (fun _ h9 => h9) t43 dX6_advance_164 ?_
          refine lv_iconst (v := 2) hx hb dX6_advance_167 (by decide) ?_
          refine lv_icmp_ne (tgt := 182) hx hb dX6_advance_168 (by decide) (fun c51 => ?_) (fun c51 => ?_)
          · have dc51 : y38.toInt ≠ 2 := ne_i (a := y38.toInt) (b := 2) rfl rfl c51
            refine lv_aload_n hx hb dX6_advance_182 rfl (lv_at hl 0 rfl) ?_
            refine get_f (D := D) (ci := 6) (v := .int y39) (C := RX6) (T := TX6) (N := 12) hx hb hw inAX6 hown hK hP 1 rfl rfl 4 (by decide) (hw _ q_97) (fun _ h9 => h9) t45 dX6_advance_183 ?_
            refine put_f (D := D) (ci := 6) (v := .int y39) (ty := .int) (C := RX6) (T := TX6) (N := 12) hx hb hw inAX6 tyX6 tyX6_ok nmX6 hown hK hP hD hS 1 rfl rfl 4 (by decide) (hw _ q_97) (fun _ h9 => h9) rfl (by decide +kernel) rfl rfl dX6_advance_186 (fun H locs F52 eF52 hP hD hS => ?_)
            have hP : va_P D vwCl [(h_wordNames, .inl (cJ, 23, .inr (.inl f_wordNames))), (h0, .inr (6, vL 12 F52)), (h_bytes, .inl (cB, 940, .inl f_bytes))] H := hP
            have hD : va_D A [(h_wordNames, .inl (cJ, 23, .inr (.inl f_wordNames))), (h0, .inr (6, vL 12 F52)), (h_bytes, .inl (cB, 940, .inl f_bytes))] := hD
            exact ret_v hx hb hr hlocks hS (hP.sub (ws' := [(h0, .inr (6, vL 12 F52)), (h_bytes, .inl (cB, 940, .inl f_bytes)), (h_wordNames, .inl (cJ, 23, .inr (.inl f_wordNames)))]) [1, 2, 0] rfl) (hD.sub (ws' := [(h0, .inr (6, vL 12 F52)), (h_bytes, .inl (cB, 940, .inl f_bytes)), (h_wordNames, .inl (cJ, 23, .inr (.inl f_wordNames)))]) [1, 2, 0] (by decide) rfl) dX6_advance_189 (Nat.le_of_ble_eq_true rfl) (Nat.le_of_ble_eq_true rfl) ⟨F52, y38, u2, y39, y40, y41, (SAME.up eF52 (SAME.tr (SAME.up eF9 (SAME.tr SAME.rf i4 (by decide)) (by decide)) t42 (by decide)) (by decide)), (get_ne eF52 (by decide) t43), (ir_wk t44 (by decide) (by decide)), (get_ne eF52 (by decide) (SAME.at t42 (by decide) (get_eq eF9))), (ir_wk k18 (by decide) (by decide)), (get_eq eF52), (get_ne eF52 (by decide) t46), (get_ne eF52 (by decide) t47), t48, (adv_row (u := u2.toInt) i7 i8 (by omega) (by omega) rfl (by omega) (by omega) (by omega) (t49 (by omega)) (Or.inr rfl)), (fun q => False.elim (by omega)), (fun q => tk_nn (f := f_bytes) (n := x_length.toInt) (lim := x_mostBytes.toInt) (p0 := x_at.toInt) (k := y38) (a := u2) (v := y39) (p := y41) (nm := y40) (adv_row (u := u2.toInt) i7 i8 (by omega) (by omega) rfl (by omega) (by omega) (by omega) (t49 (by omega)) (Or.inr rfl)) q), rfl⟩
          · have dc51 : y38.toInt = 2 := eq_i (a := y38.toInt) (b := 2) rfl rfl c51
            have k53 : 2 ≤ y38.toInt ∧ y38.toInt ≤ 2 := ⟨Int.le_trans (Int.le_refl _) (Int.le_of_eq dc51.symm), Int.le_trans (Int.le_of_eq dc51) (Int.le_refl _)⟩
            refine lv_aload_n hx hb dX6_advance_171 rfl (lv_at hl 0 rfl) ?_
            refine lv_aload_n hx hb dX6_advance_172 rfl (lv_at hl 0 rfl) ?_
            refine get_f (D := D) (ci := 6) (v := .long y40) (C := RX6) (T := TX6) (N := 12) hx hb hw inAX6 hown hK hP 1 rfl rfl 5 (by decide) (hw _ q_98) (fun _ h9 => h9) t46 dX6_advance_173 ?_
            have n54 : G1 9 = .ref h_wordNames := (SAME.at i4 (by decide) e_wordNames)
            have n55 : F9 9 = .ref h_wordNames := (get_ne eF9 (by decide) n54)
            have n56 : F37 9 = .ref h_wordNames := (SAME.at t42 (by decide) n55)
            refine call_Vi (wr := [(h_bytes, .inl (cB, 940, .inl f_bytes))]) (As := [.long y40]) (rest := [.ref h0]) hx hb hml hown hw (m_X6_wordNamed l D cI cJ cB cP cM cZ h0 h_wordNames F37 f_wordNames y40 _ n56 s_wordNames_KN) wV_X6_76_X6_wordNamed dX6_advance_176 hK hP hD hS hA [1, 0] [2] rfl rfl (by decide) (by decide) (by decide) 0 6 rfl rfl GG.fb hG.at hl.1 rfl (Nat.le_of_ble_eq_true rfl) ⟨(Nat.le_of_ble_eq_true rfl), (Nat.le_of_ble_eq_true rfl)⟩ ⟨(Nat.le_of_ble_eq_true rfl), (Nat.le_of_ble_eq_true rfl)⟩ (fun r57 u H locs hp hP hD hS => ?_)
            obtain ⟨t58, t59, rfl⟩ := hp
            have hP : va_P D vwCl [(h_bytes, .inl (cB, 940, .inl f_bytes)), (h0, .inr (6, vL 12 F37)), (h_wordNames, .inl (cJ, 23, .inr (.inl f_wordNames)))] H := hP
            have hD : va_D A [(h_bytes, .inl (cB, 940, .inl f_bytes)), (h0, .inr (6, vL 12 F37)), (h_wordNames, .inl (cJ, 23, .inr (.inl f_wordNames)))] := hD
            refine W.widen (k := 0) (n := 0) (Nat.le_of_ble_eq_true rfl) (Nat.le_of_ble_eq_true rfl) ?_
            refine lv_goto (tgt := 186) hx hb dX6_advance_179 (by decide) ?_
            refine put_f (D := D) (ci := 6) (v := .int r57) (ty := .int) (C := RX6) (T := TX6) (N := 12) hx hb hw inAX6 tyX6 tyX6_ok nmX6 hown hK hP hD hS 1 rfl rfl 4 (by decide) (hw _ q_97) (fun _ h9 => h9) rfl (by decide +kernel) rfl rfl dX6_advance_186 (fun H locs F61 eF61 hP hD hS => ?_)
            have hP : va_P D vwCl [(h_bytes, .inl (cB, 940, .inl f_bytes)), (h0, .inr (6, vL 12 F61)), (h_wordNames, .inl (cJ, 23, .inr (.inl f_wordNames)))] H := hP
            have hD : va_D A [(h_bytes, .inl (cB, 940, .inl f_bytes)), (h0, .inr (6, vL 12 F61)), (h_wordNames, .inl (cJ, 23, .inr (.inl f_wordNames)))] := hD
            exact ret_v hx hb hr hlocks hS (hP.sub (ws' := [(h0, .inr (6, vL 12 F61)), (h_bytes, .inl (cB, 940, .inl f_bytes)), (h_wordNames, .inl (cJ, 23, .inr (.inl f_wordNames)))]) [1, 0, 2] rfl) (hD.sub (ws' := [(h0, .inr (6, vL 12 F61)), (h_bytes, .inl (cB, 940, .inl f_bytes)), (h_wordNames, .inl (cJ, 23, .inr (.inl f_wordNames)))]) [1, 0, 2] (by decide) rfl) dX6_advance_189 (Nat.le_of_ble_eq_true rfl) (Nat.le_of_ble_eq_true rfl) ⟨F61, y38, u2, r57, y40, y41, (SAME.up eF61 (SAME.tr (SAME.up eF9 (SAME.tr SAME.rf i4 (by decide)) (by decide)) t42 (by decide)) (by decide)), (get_ne eF61 (by decide) t43), (ir_wk k53 (by decide) (by decide)), (get_ne eF61 (by decide) (SAME.at t42 (by decide) (get_eq eF9))), (ir_wk k18 (by decide) (by decide)), (get_eq eF61), (get_ne eF61 (by decide) t46), (get_ne eF61 (by decide) t47), t48, (adv_row (u := u2.toInt) i7 i8 (by omega) (by omega) rfl (by omega) (by omega) (by omega) (t49 (by omega)) (Or.inl (by omega))), (fun _ => t59), (fun q => tk_nn (f := f_bytes) (n := x_length.toInt) (lim := x_mostBytes.toInt) (p0 := x_at.toInt) (k := y38) (a := u2) (v := r57) (p := y41) (nm := y40) (adv_row (u := u2.toInt) i7 i8 (by omega) (by omega) rfl (by omega) (by omega) (by omega) (t49 (by omega)) (Or.inl (by omega))) q), rfl⟩
        · have dc28 : r24.toInt ≠ 0 := ne_i (a := r24.toInt) (b := 0) rfl rfl c28
          have k62 : 1 ≤ r24.toInt ∧ r24.toInt ≤ 1 := ⟨ne_lo dc28 t25.1 ⟨Int.le_refl _, Int.le_refl _⟩ (by decide), t25.2⟩
          refine lv_aload_n hx hb dX6_advance_132 rfl (lv_at hl 0 rfl) ?_
          refine lv_aload_n hx hb dX6_advance_133 rfl (lv_at hl 0 rfl) ?_
          refine get_f (D := D) (ci := 6) (v := .ref h_bytes) (C := RX6) (T := TX6) (N := 12) hx hb hw inAX6 hown hK hP 0 rfl rfl 0 (by decide) (hw _ q_89) (fun _ h9 => h9) n21 dX6_advance_134 ?_
          refine lv_aload_n hx hb dX6_advance_137 rfl (lv_at hl 0 rfl) ?_
          refine get_f (D := D) (ci := 6) (v := .int u2) (C := RX6) (T := TX6) (N := 12) hx hb hw inAX6 hown hK hP 0 rfl rfl 10 (by decide) (hw _ q_110) (fun _ h9 => h9) n16 dX6_advance_138 ?_
          refine va_bald hx hb hK hP 1 2 rfl rfl (ix_k k18 (by decide) (by decide)) dX6_advance_141 ?_
          refine lv_ci (y := v22) ev22.symm ?_
          refine put_f (D := D) (ci := 6) (v := .int v22) (ty := .int) (C := RX6) (T := TX6) (N := 12) hx hb hw inAX6 tyX6 tyX6_ok nmX6 hown hK hP hD hS 0 rfl rfl 2 (by decide) (hw _ q_92) (fun _ h9 => h9) rfl (by decide +kernel) rfl rfl dX6_advance_142 (fun H locs F63 eF63 hP hD hS => ?_)
          have hP : va_P D vwCl [(h0, .inr (6, vL 12 F63)), (h_bytes, .inl (cB, 940, .inl f_bytes)), (h_wordNames, .inl (cJ, 23, .inr (.inl f_wordNames)))] H := hP
          have hD : va_D A [(h0, .inr (6, vL 12 F63)), (h_bytes, .inl (cB, 940, .inl f_bytes)), (h_wordNames, .inl (cJ, 23, .inr (.inl f_wordNames)))] := hD
          refine lv_aload_n hx hb dX6_advance_145 rfl (lv_at hl 0 rfl) ?_
          refine lv_dup hx hb dX6_advance_146 rfl ?_
          have n64 : F63 10 = .int u2 := (get_ne eF63 (by decide) n16)
          refine get_f (D := D) (ci := 6) (v := .int u2) (C := RX6) (T := TX6) (N := 12) hx hb hw inAX6 hown hK hP 0 rfl rfl 10 (by decide) (hw _ q_110) (fun _ h9 => h9) n64 dX6_advance_147 ?_
          refine lv_iconst (v := 1) hx hb dX6_advance_150 (by decide) ?_
          refine lv_iadd hx hb dX6_advance_151 ?_
          refine lv_topi (fun v65 ev65 => ?_)
          have bv65 : v65.toInt = u2.toInt + 1 := by rw [ev65]; exact add_k rfl rfl k18 ⟨Int.le_refl _, Int.le_refl _⟩ (by decide)
          have k66 : 1 ≤ v65.toInt ∧ v65.toInt ≤ 940 := add_r bv65 k18 ⟨Int.le_refl _, Int.le_refl _⟩ (by decide)
          refine put_f (D := D) (ci := 6) (v := .int v65) (ty := .int) (C := RX6) (T := TX6) (N := 12) hx hb hw inAX6 tyX6 tyX6_ok nmX6 hown hK hP hD hS 0 rfl rfl 10 (by decide) (hw _ q_110) (fun _ h9 => h9) rfl (by decide +kernel) rfl rfl dX6_advance_152 (fun H locs F67 eF67 hP hD hS => ?_)
          have hP : va_P D vwCl [(h0, .inr (6, vL 12 F67)), (h_bytes, .inl (cB, 940, .inl f_bytes)), (h_wordNames, .inl (cJ, 23, .inr (.inl f_wordNames)))] H := hP
          have hD : va_D A [(h0, .inr (6, vL 12 F67)), (h_bytes, .inl (cB, 940, .inl f_bytes)), (h_wordNames, .inl (cJ, 23, .inr (.inl f_wordNames)))] := hD
          refine lv_goto (tgt := 189) hx hb dX6_advance_155 (by decide) ?_
          exact ret_v hx hb hr hlocks hS hP hD dX6_advance_189 (Nat.le_of_ble_eq_true rfl) (Nat.le_of_ble_eq_true rfl) ⟨F67, v22, u2, x_value, x_name, v65, (SAME.up eF67 (SAME.up eF63 (SAME.up eF9 (SAME.tr SAME.rf i4 (by decide)) (by decide)) (by decide)) (by decide)), (get_ne eF67 (by decide) (get_eq eF63)), k23, (get_ne eF67 (by decide) (get_ne eF63 (by decide) (get_eq eF9))), (ir_wk k18 (by decide) (by decide)), (get_ne eF67 (by decide) (get_ne eF63 (by decide) (get_ne eF9 (by decide) (SAME.at i4 (by decide) e_value)))), (get_ne eF67 (by decide) (get_ne eF63 (by decide) (get_ne eF9 (by decide) (SAME.at i4 (by decide) e_name)))), (get_eq eF67), (ir_wk k66 (by decide) (by decide)), (adv_sign (u := u2.toInt) i7 i8 (by omega) (by omega) (by omega) (by omega) rfl (by omega) (by omega) (by omega)), (fun q => False.elim (by omega)), (fun q => False.elim (by omega)), rfl⟩
      · have dc17 : x_length.toInt ≤ u2.toInt := nlt_i (a := u2.toInt) (b := x_length.toInt) rfl rfl c17
        refine lv_aload_n hx hb dX6_advance_109 rfl (lv_at hl 0 rfl) ?_
        refine lv_iconst (v := 0) hx hb dX6_advance_110 (by decide) ?_
        refine put_f (D := D) (ci := 6) (v := .int 0) (ty := .int) (C := RX6) (T := TX6) (N := 12) hx hb hw inAX6 tyX6 tyX6_ok nmX6 hown hK hP hD hS 0 rfl rfl 2 (by decide) (hw _ q_92) (fun _ h9 => h9) rfl (by decide +kernel) rfl rfl dX6_advance_111 (fun H locs F68 eF68 hP hD hS => ?_)
        have hP : va_P D vwCl [(h0, .inr (6, vL 12 F68)), (h_bytes, .inl (cB, 940, .inl f_bytes)), (h_wordNames, .inl (cJ, 23, .inr (.inl f_wordNames)))] H := hP
        have hD : va_D A [(h0, .inr (6, vL 12 F68)), (h_bytes, .inl (cB, 940, .inl f_bytes)), (h_wordNames, .inl (cJ, 23, .inr (.inl f_wordNames)))] := hD
        refine lv_goto (tgt := 189) hx hb dX6_advance_114 (by decide) ?_
        exact ret_v hx hb hr hlocks hS hP hD dX6_advance_189 (Nat.le_of_ble_eq_true rfl) (Nat.le_of_ble_eq_true rfl) ⟨F68, 0, u2, x_value, x_name, u2, (SAME.up eF68 (SAME.up eF9 (SAME.tr SAME.rf i4 (by decide)) (by decide)) (by decide)), (get_eq eF68), (show (-128) ≤ (0 : Int32).toInt ∧ (0 : Int32).toInt ≤ 127 by decide), (get_ne eF68 (by decide) (get_eq eF9)), (ir_wk i6 (by decide) (by decide)), (get_ne eF68 (by decide) (get_ne eF9 (by decide) (SAME.at i4 (by decide) e_value))), (get_ne eF68 (by decide) (get_ne eF9 (by decide) (SAME.at i4 (by decide) e_name))), (get_ne eF68 (by decide) n16), i6, (adv_stop (u := u2.toInt) i7 i8 (by omega) (by omega) (by decide) rfl rfl (by omega) (by omega)), (fun q => absurd q (by decide)), (fun q => absurd q (by decide)), rfl⟩
    · have dc14 : x_mostBytes.toInt < x_length.toInt := nle_i (a := x_length.toInt) (b := x_mostBytes.toInt) rfl rfl c14
      have k69 : (-2147483648) ≤ x_mostBytes.toInt ∧ x_mostBytes.toInt ≤ 939 := ⟨(ir_any _).1, up_lt dc14 i_x_length.2 (by decide)⟩
      refine lv_aload_n hx hb dX6_advance_71 rfl (lv_at hl 0 rfl) ?_
      have n70 : F9 10 = .int u2 := (get_ne eF9 (by decide) i5)
      refine get_f (D := D) (ci := 6) (v := .int u2) (C := RX6) (T := TX6) (N := 12) hx hb hw inAX6 hown hK hP 0 rfl rfl 10 (by decide) (hw _ q_110) (fun _ h9 => h9) n70 dX6_advance_72 ?_
      refine lv_aload_n hx hb dX6_advance_75 rfl (lv_at hl 0 rfl) ?_
      refine get_f (D := D) (ci := 6) (v := .int x_mostBytes) (C := RX6) (T := TX6) (N := 12) hx hb hw inAX6 hown hK hP 0 rfl rfl 11 (by decide) (hw _ q_111) (fun _ h9 => h9) n13 dX6_advance_76 ?_
      refine lv_icmp_lt (tgt := 98) hx hb dX6_advance_79 (by decide) (fun c71 => ?_) (fun c71 => ?_)
      · have dc71 : u2.toInt < x_mostBytes.toInt := lt_i (a := u2.toInt) (b := x_mostBytes.toInt) rfl rfl c71
        have k72 : 0 ≤ u2.toInt ∧ u2.toInt ≤ 938 := ⟨i6.1, up_lt dc71 k69.2 (by decide)⟩
        have k73 : 1 ≤ x_mostBytes.toInt ∧ x_mostBytes.toInt ≤ 939 := ⟨lo_lt dc71 i6.1 (by decide), k69.2⟩
        refine lv_aload_n hx hb dX6_advance_98 rfl (lv_at hl 0 rfl) ?_
        refine get_f (D := D) (ci := 6) (v := .int u2) (C := RX6) (T := TX6) (N := 12) hx hb hw inAX6 hown hK hP 0 rfl rfl 10 (by decide) (hw _ q_110) (fun _ h9 => h9) n70 dX6_advance_99 ?_
        refine lv_aload_n hx hb dX6_advance_102 rfl (lv_at hl 0 rfl) ?_
        refine get_f (D := D) (ci := 6) (v := .int x_length) (C := RX6) (T := TX6) (N := 12) hx hb hw inAX6 hown hK hP 0 rfl rfl 1 (by decide) (hw _ q_90) (fun _ h9 => h9) n11 dX6_advance_103 ?_
        refine lv_icmp_lt (tgt := 117) hx hb dX6_advance_106 (by decide) (fun c74 => ?_) (fun c74 => ?_)
        · have dc74 : u2.toInt < x_length.toInt := lt_i (a := u2.toInt) (b := x_length.toInt) rfl rfl c74
          have k75 : 1 ≤ x_length.toInt ∧ x_length.toInt ≤ 940 := ⟨lo_lt dc74 k72.1 (by decide), i_x_length.2⟩
          refine lv_aload_n hx hb dX6_advance_117 rfl (lv_at hl 0 rfl) ?_
          have n76 : G1 0 = .ref h_bytes := (SAME.at i4 (by decide) e_bytes)
          have n77 : F9 0 = .ref h_bytes := (get_ne eF9 (by decide) n76)
          refine get_f (D := D) (ci := 6) (v := .ref h_bytes) (C := RX6) (T := TX6) (N := 12) hx hb hw inAX6 hown hK hP 0 rfl rfl 0 (by decide) (hw _ q_89) (fun _ h9 => h9) n77 dX6_advance_118 ?_
          refine lv_aload_n hx hb dX6_advance_121 rfl (lv_at hl 0 rfl) ?_
          refine get_f (D := D) (ci := 6) (v := .int u2) (C := RX6) (T := TX6) (N := 12) hx hb hw inAX6 hown hK hP 0 rfl rfl 10 (by decide) (hw _ q_110) (fun _ h9 => h9) n70 dX6_advance_122 ?_
          refine va_bald hx hb hK hP 1 2 rfl rfl (ix_k k72 (by decide) (by decide)) dX6_advance_125 ?_
          refine lv_topi (fun v78 ev78 => ?_)
          have k79 : (-128) ≤ v78.toInt ∧ v78.toInt ≤ 127 := by rw [ev78]; exact s_bytes_0.at _ (Int.le_trans (by decide) k72.1) (Int.le_trans k72.2 (by decide))
          have tv78 := tb_of ev78 k79
          refine call_Si (wr := [(h0, .inr (6, vL 12 F9)), (h_bytes, .inl (cB, 940, .inl f_bytes)), (h_wordNames, .inl (cJ, 23, .inr (.inl f_wordNames)))]) (As := [.int v78]) (rest := []) hx hb hml hown hw (m_X6_isSign l D cI cJ cB cP cM cZ v78 _ ) wS_X6_69_X6_isSign dX6_advance_126 hP hD hS hA [] [0, 1, 2] rfl rfl (by decide) (by decide) (by decide) GG.fb hG.at hl.1 rfl (Nat.le_of_ble_eq_true rfl) ⟨(Nat.le_of_ble_eq_true rfl), (Nat.le_of_ble_eq_true rfl)⟩ ⟨(Nat.le_of_ble_eq_true rfl), (Nat.le_of_ble_eq_true rfl)⟩ (fun r80 u H locs hp hP hD hS => ?_)
          obtain ⟨t81, t82, rfl⟩ := hp
          have hP : va_P D vwCl [(h0, .inr (6, vL 12 F9)), (h_bytes, .inl (cB, 940, .inl f_bytes)), (h_wordNames, .inl (cJ, 23, .inr (.inl f_wordNames)))] H := hP
          have hD : va_D A [(h0, .inr (6, vL 12 F9)), (h_bytes, .inl (cB, 940, .inl f_bytes)), (h_wordNames, .inl (cJ, 23, .inr (.inl f_wordNames)))] := hD
          refine W.widen (k := 0) (n := 0) (Nat.le_of_ble_eq_true rfl) (Nat.le_of_ble_eq_true rfl) ?_
          refine lv_if_eq (tgt := 158) hx hb dX6_advance_129 (by decide) (fun c84 => ?_) (fun c84 => ?_)
          · have dc84 : r80.toInt = 0 := eq_i (a := r80.toInt) (b := 0) rfl rfl c84
            have k85 : 0 ≤ r80.toInt ∧ r80.toInt ≤ 0 := ⟨t81.1, Int.le_trans (Int.le_of_eq dc84) (Int.le_refl _)⟩
            refine lv_aload_n hx hb dX6_advance_158 rfl (lv_at hl 0 rfl) ?_
            have n86 : G1 2 = .int x_kind := (SAME.at i4 (by decide) e_kind)
            have n87 : F9 2 = .int x_kind := (get_ne eF9 (by decide) n86)
            have n88 : G1 4 = .int x_value := (SAME.at i4 (by decide) e_value)
            have n89 : F9 4 = .int x_value := (get_ne eF9 (by decide) n88)
            have n90 : G1 5 = .long x_name := (SAME.at i4 (by decide) e_name)
            have n91 : F9 5 = .long x_name := (get_ne eF9 (by decide) n90)
            refine call_Vv (wr := [(h_wordNames, .inl (cJ, 23, .inr (.inl f_wordNames)))]) (As := []) (rest := []) hx hb hml hown hw (m_X6_readRow l D cI cJ cB cP cM cZ h0 h_bytes F9 x_length x_kind x_value x_name u2 f_bytes _ n77 n11 (ir_wk k75 (by decide) (by decide)) n87 n89 n91 n70 (ir_wk k72 (by decide) (by decide)) s_bytes_0) wV_X6_73_X6_readRow dX6_advance_159 hK hP hD hS hA [0, 1] [2] rfl rfl (by decide) (by decide) (by decide) 0 6 rfl rfl GG.fb hG.at hl.1 rfl (Nat.le_of_ble_eq_true rfl) ⟨(Nat.le_of_ble_eq_true rfl), (Nat.le_of_ble_eq_true rfl)⟩ ⟨(Nat.le_of_ble_eq_true rfl), (Nat.le_of_ble_eq_true rfl)⟩ (fun u H locs hp hP hD hS => ?_)
            obtain ⟨F93, y94, y95, y96, y97, t98, t99, t100, t101, t102, t103, t104, t105, rfl⟩ := hp
            have hP : va_P D vwCl [(h_wordNames, .inl (cJ, 23, .inr (.inl f_wordNames))), (h0, .inr (6, vL 12 F93)), (h_bytes, .inl (cB, 940, .inl f_bytes))] H := hP
            have hD : va_D A [(h_wordNames, .inl (cJ, 23, .inr (.inl f_wordNames))), (h0, .inr (6, vL 12 F93)), (h_bytes, .inl (cB, 940, .inl f_bytes))] := hD
            refine W.widen (k := 0) (n := 0) (Nat.le_of_ble_eq_true rfl) (Nat.le_of_ble_eq_true rfl) ?_
            refine lv_aload_n hx hb dX6_advance_162 rfl (lv_at hl 0 rfl) ?_
            refine lv_aload_n hx hb dX6_advance_163 rfl (lv_at hl 0 rfl) ?_
            refine get_f (D := D) (ci := 6) (v := .int y94) (C := RX6) (T := TX6) (N := 12) hx hb hw inAX6 hown hK hP 1 rfl rfl 2 (by decide) (hw _ q_92) (fun _ h9 => h9) t99 dX6_advance_164 ?_
            refine lv_iconst (v := 2) hx hb dX6_advance_167 (by decide) ?_
            refine lv_icmp_ne (tgt := 182) hx hb dX6_advance_168 (by decide) (fun c107 => ?_) (fun c107 => ?_)
            · have dc107 : y94.toInt ≠ 2 := ne_i (a := y94.toInt) (b := 2) rfl rfl c107
              refine lv_aload_n hx hb dX6_advance_182 rfl (lv_at hl 0 rfl) ?_
              refine get_f (D := D) (ci := 6) (v := .int y95) (C := RX6) (T := TX6) (N := 12) hx hb hw inAX6 hown hK hP 1 rfl rfl 4 (by decide) (hw _ q_97) (fun _ h9 => h9) t101 dX6_advance_183 ?_
              refine put_f (D := D) (ci := 6) (v := .int y95) (ty := .int) (C := RX6) (T := TX6) (N := 12) hx hb hw inAX6 tyX6 tyX6_ok nmX6 hown hK hP hD hS 1 rfl rfl 4 (by decide) (hw _ q_97) (fun _ h9 => h9) rfl (by decide +kernel) rfl rfl dX6_advance_186 (fun H locs F108 eF108 hP hD hS => ?_)
              have hP : va_P D vwCl [(h_wordNames, .inl (cJ, 23, .inr (.inl f_wordNames))), (h0, .inr (6, vL 12 F108)), (h_bytes, .inl (cB, 940, .inl f_bytes))] H := hP
              have hD : va_D A [(h_wordNames, .inl (cJ, 23, .inr (.inl f_wordNames))), (h0, .inr (6, vL 12 F108)), (h_bytes, .inl (cB, 940, .inl f_bytes))] := hD
              exact ret_v hx hb hr hlocks hS (hP.sub (ws' := [(h0, .inr (6, vL 12 F108)), (h_bytes, .inl (cB, 940, .inl f_bytes)), (h_wordNames, .inl (cJ, 23, .inr (.inl f_wordNames)))]) [1, 2, 0] rfl) (hD.sub (ws' := [(h0, .inr (6, vL 12 F108)), (h_bytes, .inl (cB, 940, .inl f_bytes)), (h_wordNames, .inl (cJ, 23, .inr (.inl f_wordNames)))]) [1, 2, 0] (by decide) rfl) dX6_advance_189 (Nat.le_of_ble_eq_true rfl) (Nat.le_of_ble_eq_true rfl) ⟨F108, y94, u2, y95, y96, y97, (SAME.up eF108 (SAME.tr (SAME.up eF9 (SAME.tr SAME.rf i4 (by decide)) (by decide)) t98 (by decide)) (by decide)), (get_ne eF108 (by decide) t99), (ir_wk t100 (by decide) (by decide)), (get_ne eF108 (by decide) (SAME.at t98 (by decide) (get_eq eF9))), (ir_wk k72 (by decide) (by decide)), (get_eq eF108), (get_ne eF108 (by decide) t102), (get_ne eF108 (by decide) t103), t104, (adv_row (u := u2.toInt) i7 i8 (by omega) (by omega) rfl (by omega) (by omega) (by omega) (t105 (by omega)) (Or.inr rfl)), (fun q => False.elim (by omega)), (fun q => tk_nn (f := f_bytes) (n := x_length.toInt) (lim := x_mostBytes.toInt) (p0 := x_at.toInt) (k := y94) (a := u2) (v := y95) (p := y97) (nm := y96) (adv_row (u := u2.toInt) i7 i8 (by omega) (by omega) rfl (by omega) (by omega) (by omega) (t105 (by omega)) (Or.inr rfl)) q), rfl⟩
            · have dc107 : y94.toInt = 2 := eq_i (a := y94.toInt) (b := 2) rfl rfl c107
              have k109 : 2 ≤ y94.toInt ∧ y94.toInt ≤ 2 := ⟨Int.le_trans (Int.le_refl _) (Int.le_of_eq dc107.symm), Int.le_trans (Int.le_of_eq dc107) (Int.le_refl _)⟩
              refine lv_aload_n hx hb dX6_advance_171 rfl (lv_at hl 0 rfl) ?_
              refine lv_aload_n hx hb dX6_advance_172 rfl (lv_at hl 0 rfl) ?_
              refine get_f (D := D) (ci := 6) (v := .long y96) (C := RX6) (T := TX6) (N := 12) hx hb hw inAX6 hown hK hP 1 rfl rfl 5 (by decide) (hw _ q_98) (fun _ h9 => h9) t102 dX6_advance_173 ?_
              have n110 : G1 9 = .ref h_wordNames := (SAME.at i4 (by decide) e_wordNames)
              have n111 : F9 9 = .ref h_wordNames := (get_ne eF9 (by decide) n110)
              have n112 : F93 9 = .ref h_wordNames := (SAME.at t98 (by decide) n111)
              refine call_Vi (wr := [(h_bytes, .inl (cB, 940, .inl f_bytes))]) (As := [.long y96]) (rest := [.ref h0]) hx hb hml hown hw (m_X6_wordNamed l D cI cJ cB cP cM cZ h0 h_wordNames F93 f_wordNames y96 _ n112 s_wordNames_KN) wV_X6_76_X6_wordNamed dX6_advance_176 hK hP hD hS hA [1, 0] [2] rfl rfl (by decide) (by decide) (by decide) 0 6 rfl rfl GG.fb hG.at hl.1 rfl (Nat.le_of_ble_eq_true rfl) ⟨(Nat.le_of_ble_eq_true rfl), (Nat.le_of_ble_eq_true rfl)⟩ ⟨(Nat.le_of_ble_eq_true rfl), (Nat.le_of_ble_eq_true rfl)⟩ (fun r113 u H locs hp hP hD hS => ?_)
              obtain ⟨t114, t115, rfl⟩ := hp
              have hP : va_P D vwCl [(h_bytes, .inl (cB, 940, .inl f_bytes)), (h0, .inr (6, vL 12 F93)), (h_wordNames, .inl (cJ, 23, .inr (.inl f_wordNames)))] H := hP
              have hD : va_D A [(h_bytes, .inl (cB, 940, .inl f_bytes)), (h0, .inr (6, vL 12 F93)), (h_wordNames, .inl (cJ, 23, .inr (.inl f_wordNames)))] := hD
              refine W.widen (k := 0) (n := 0) (Nat.le_of_ble_eq_true rfl) (Nat.le_of_ble_eq_true rfl) ?_
              refine lv_goto (tgt := 186) hx hb dX6_advance_179 (by decide) ?_
              refine put_f (D := D) (ci := 6) (v := .int r113) (ty := .int) (C := RX6) (T := TX6) (N := 12) hx hb hw inAX6 tyX6 tyX6_ok nmX6 hown hK hP hD hS 1 rfl rfl 4 (by decide) (hw _ q_97) (fun _ h9 => h9) rfl (by decide +kernel) rfl rfl dX6_advance_186 (fun H locs F117 eF117 hP hD hS => ?_)
              have hP : va_P D vwCl [(h_bytes, .inl (cB, 940, .inl f_bytes)), (h0, .inr (6, vL 12 F117)), (h_wordNames, .inl (cJ, 23, .inr (.inl f_wordNames)))] H := hP
              have hD : va_D A [(h_bytes, .inl (cB, 940, .inl f_bytes)), (h0, .inr (6, vL 12 F117)), (h_wordNames, .inl (cJ, 23, .inr (.inl f_wordNames)))] := hD
              exact ret_v hx hb hr hlocks hS (hP.sub (ws' := [(h0, .inr (6, vL 12 F117)), (h_bytes, .inl (cB, 940, .inl f_bytes)), (h_wordNames, .inl (cJ, 23, .inr (.inl f_wordNames)))]) [1, 0, 2] rfl) (hD.sub (ws' := [(h0, .inr (6, vL 12 F117)), (h_bytes, .inl (cB, 940, .inl f_bytes)), (h_wordNames, .inl (cJ, 23, .inr (.inl f_wordNames)))]) [1, 0, 2] (by decide) rfl) dX6_advance_189 (Nat.le_of_ble_eq_true rfl) (Nat.le_of_ble_eq_true rfl) ⟨F117, y94, u2, r113, y96, y97, (SAME.up eF117 (SAME.tr (SAME.up eF9 (SAME.tr SAME.rf i4 (by decide)) (by decide)) t98 (by decide)) (by decide)), (get_ne eF117 (by decide) t99), (ir_wk k109 (by decide) (by decide)), (get_ne eF117 (by decide) (SAME.at t98 (by decide) (get_eq eF9))), (ir_wk k72 (by decide) (by decide)), (get_eq eF117), (get_ne eF117 (by decide) t102), (get_ne eF117 (by decide) t103), t104, (adv_row (u := u2.toInt) i7 i8 (by omega) (by omega) rfl (by omega) (by omega) (by omega) (t105 (by omega)) (Or.inl (by omega))), (fun _ => t115), (fun q => tk_nn (f := f_bytes) (n := x_length.toInt) (lim := x_mostBytes.toInt) (p0 := x_at.toInt) (k := y94) (a := u2) (v := r113) (p := y97) (nm := y96) (adv_row (u := u2.toInt) i7 i8 (by omega) (by omega) rfl (by omega) (by omega) (by omega) (t105 (by omega)) (Or.inl (by omega))) q), rfl⟩
          · have dc84 : r80.toInt ≠ 0 := ne_i (a := r80.toInt) (b := 0) rfl rfl c84
            have k118 : 1 ≤ r80.toInt ∧ r80.toInt ≤ 1 := ⟨ne_lo dc84 t81.1 ⟨Int.le_refl _, Int.le_refl _⟩ (by decide), t81.2⟩
            refine lv_aload_n hx hb dX6_advance_132 rfl (lv_at hl 0 rfl) ?_
            refine lv_aload_n hx hb dX6_advance_133 rfl (lv_at hl 0 rfl) ?_
            refine get_f (D := D) (ci := 6) (v := .ref h_bytes) (C := RX6) (T := TX6) (N := 12) hx hb hw inAX6 hown hK hP 0 rfl rfl 0 (by decide) (hw _ q_89) (fun _ h9 => h9) n77 dX6_advance_134 ?_
            refine lv_aload_n hx hb dX6_advance_137 rfl (lv_at hl 0 rfl) ?_
            refine get_f (D := D) (ci := 6) (v := .int u2) (C := RX6) (T := TX6) (N := 12) hx hb hw inAX6 hown hK hP 0 rfl rfl 10 (by decide) (hw _ q_110) (fun _ h9 => h9) n70 dX6_advance_138 ?_
            refine va_bald hx hb hK hP 1 2 rfl rfl (ix_k k72 (by decide) (by decide)) dX6_advance_141 ?_
            refine lv_ci (y := v78) ev78.symm ?_
            refine put_f (D := D) (ci := 6) (v := .int v78) (ty := .int) (C := RX6) (T := TX6) (N := 12) hx hb hw inAX6 tyX6 tyX6_ok nmX6 hown hK hP hD hS 0 rfl rfl 2 (by decide) (hw _ q_92) (fun _ h9 => h9) rfl (by decide +kernel) rfl rfl dX6_advance_142 (fun H locs F119 eF119 hP hD hS => ?_)
            have hP : va_P D vwCl [(h0, .inr (6, vL 12 F119)), (h_bytes, .inl (cB, 940, .inl f_bytes)), (h_wordNames, .inl (cJ, 23, .inr (.inl f_wordNames)))] H := hP
            have hD : va_D A [(h0, .inr (6, vL 12 F119)), (h_bytes, .inl (cB, 940, .inl f_bytes)), (h_wordNames, .inl (cJ, 23, .inr (.inl f_wordNames)))] := hD
            refine lv_aload_n hx hb dX6_advance_145 rfl (lv_at hl 0 rfl) ?_
            refine lv_dup hx hb dX6_advance_146 rfl ?_
            have n120 : F119 10 = .int u2 := (get_ne eF119 (by decide) n70)
            refine get_f (D := D) (ci := 6) (v := .int u2) (C := RX6) (T := TX6) (N := 12) hx hb hw inAX6 hown hK hP 0 rfl rfl 10 (by decide) (hw _ q_110) (fun _ h9 => h9) n120 dX6_advance_147 ?_
            refine lv_iconst (v := 1) hx hb dX6_advance_150 (by decide) ?_
            refine lv_iadd hx hb dX6_advance_151 ?_
            refine lv_topi (fun v121 ev121 => ?_)
            have bv121 : v121.toInt = u2.toInt + 1 := by rw [ev121]; exact add_k rfl rfl k72 ⟨Int.le_refl _, Int.le_refl _⟩ (by decide)
            have k122 : 1 ≤ v121.toInt ∧ v121.toInt ≤ 939 := add_r bv121 k72 ⟨Int.le_refl _, Int.le_refl _⟩ (by decide)
            refine put_f (D := D) (ci := 6) (v := .int v121) (ty := .int) (C := RX6) (T := TX6) (N := 12) hx hb hw inAX6 tyX6 tyX6_ok nmX6 hown hK hP hD hS 0 rfl rfl 10 (by decide) (hw _ q_110) (fun _ h9 => h9) rfl (by decide +kernel) rfl rfl dX6_advance_152 (fun H locs F123 eF123 hP hD hS => ?_)
            have hP : va_P D vwCl [(h0, .inr (6, vL 12 F123)), (h_bytes, .inl (cB, 940, .inl f_bytes)), (h_wordNames, .inl (cJ, 23, .inr (.inl f_wordNames)))] H := hP
            have hD : va_D A [(h0, .inr (6, vL 12 F123)), (h_bytes, .inl (cB, 940, .inl f_bytes)), (h_wordNames, .inl (cJ, 23, .inr (.inl f_wordNames)))] := hD
            refine lv_goto (tgt := 189) hx hb dX6_advance_155 (by decide) ?_
            exact ret_v hx hb hr hlocks hS hP hD dX6_advance_189 (Nat.le_of_ble_eq_true rfl) (Nat.le_of_ble_eq_true rfl) ⟨F123, v78, u2, x_value, x_name, v121, (SAME.up eF123 (SAME.up eF119 (SAME.up eF9 (SAME.tr SAME.rf i4 (by decide)) (by decide)) (by decide)) (by decide)), (get_ne eF123 (by decide) (get_eq eF119)), k79, (get_ne eF123 (by decide) (get_ne eF119 (by decide) (get_eq eF9))), (ir_wk k72 (by decide) (by decide)), (get_ne eF123 (by decide) (get_ne eF119 (by decide) (get_ne eF9 (by decide) (SAME.at i4 (by decide) e_value)))), (get_ne eF123 (by decide) (get_ne eF119 (by decide) (get_ne eF9 (by decide) (SAME.at i4 (by decide) e_name)))), (get_eq eF123), (ir_wk k122 (by decide) (by decide)), (adv_sign (u := u2.toInt) i7 i8 (by omega) (by omega) (by omega) (by omega) rfl (by omega) (by omega) (by omega)), (fun q => False.elim (by omega)), (fun q => False.elim (by omega)), rfl⟩
        · have dc74 : x_length.toInt ≤ u2.toInt := nlt_i (a := u2.toInt) (b := x_length.toInt) rfl rfl c74
          have k124 : 0 ≤ x_length.toInt ∧ x_length.toInt ≤ 938 := ⟨i_x_length.1, Int.le_trans dc74 k72.2⟩
          refine lv_aload_n hx hb dX6_advance_109 rfl (lv_at hl 0 rfl) ?_
          refine lv_iconst (v := 0) hx hb dX6_advance_110 (by decide) ?_
          refine put_f (D := D) (ci := 6) (v := .int 0) (ty := .int) (C := RX6) (T := TX6) (N := 12) hx hb hw inAX6 tyX6 tyX6_ok nmX6 hown hK hP hD hS 0 rfl rfl 2 (by decide) (hw _ q_92) (fun _ h9 => h9) rfl (by decide +kernel) rfl rfl dX6_advance_111 (fun H locs F125 eF125 hP hD hS => ?_)
          have hP : va_P D vwCl [(h0, .inr (6, vL 12 F125)), (h_bytes, .inl (cB, 940, .inl f_bytes)), (h_wordNames, .inl (cJ, 23, .inr (.inl f_wordNames)))] H := hP
          have hD : va_D A [(h0, .inr (6, vL 12 F125)), (h_bytes, .inl (cB, 940, .inl f_bytes)), (h_wordNames, .inl (cJ, 23, .inr (.inl f_wordNames)))] := hD
          refine lv_goto (tgt := 189) hx hb dX6_advance_114 (by decide) ?_
          exact ret_v hx hb hr hlocks hS hP hD dX6_advance_189 (Nat.le_of_ble_eq_true rfl) (Nat.le_of_ble_eq_true rfl) ⟨F125, 0, u2, x_value, x_name, u2, (SAME.up eF125 (SAME.up eF9 (SAME.tr SAME.rf i4 (by decide)) (by decide)) (by decide)), (get_eq eF125), (show (-128) ≤ (0 : Int32).toInt ∧ (0 : Int32).toInt ≤ 127 by decide), (get_ne eF125 (by decide) (get_eq eF9)), (ir_wk k72 (by decide) (by decide)), (get_ne eF125 (by decide) (get_ne eF9 (by decide) (SAME.at i4 (by decide) e_value))), (get_ne eF125 (by decide) (get_ne eF9 (by decide) (SAME.at i4 (by decide) e_name))), (get_ne eF125 (by decide) n70), (ir_wk k72 (by decide) (by decide)), (adv_stop (u := u2.toInt) i7 i8 (by omega) (by omega) (by decide) rfl rfl (by omega) (by omega)), (fun q => absurd q (by decide)), (fun q => absurd q (by decide)), rfl⟩
      · have dc71 : x_mostBytes.toInt ≤ u2.toInt := nlt_i (a := u2.toInt) (b := x_mostBytes.toInt) rfl rfl c71
        refine lv_aload_n hx hb dX6_advance_82 rfl (lv_at hl 0 rfl) ?_
        refine lv_aload_n hx hb dX6_advance_83 rfl (lv_at hl 0 rfl) ?_
        refine get_f (D := D) (ci := 6) (v := .int x_mostBytes) (C := RX6) (T := TX6) (N := 12) hx hb hw inAX6 hown hK hP 0 rfl rfl 11 (by decide) (hw _ q_111) (fun _ h9 => h9) n13 dX6_advance_84 ?_
        refine put_f (D := D) (ci := 6) (v := .int x_mostBytes) (ty := .int) (C := RX6) (T := TX6) (N := 12) hx hb hw inAX6 tyX6 tyX6_ok nmX6 hown hK hP hD hS 0 rfl rfl 3 (by decide) (hw _ q_96) (fun _ h9 => h9) rfl (by decide +kernel) rfl rfl dX6_advance_87 (fun H locs F126 eF126 hP hD hS => ?_)
        have hP : va_P D vwCl [(h0, .inr (6, vL 12 F126)), (h_bytes, .inl (cB, 940, .inl f_bytes)), (h_wordNames, .inl (cJ, 23, .inr (.inl f_wordNames)))] H := hP
        have hD : va_D A [(h0, .inr (6, vL 12 F126)), (h_bytes, .inl (cB, 940, .inl f_bytes)), (h_wordNames, .inl (cJ, 23, .inr (.inl f_wordNames)))] := hD
        refine lv_aload_n hx hb dX6_advance_90 rfl (lv_at hl 0 rfl) ?_
        refine lv_iconst (v := 1) hx hb dX6_advance_91 (by decide) ?_
        refine put_f (D := D) (ci := 6) (v := .int 1) (ty := .int) (C := RX6) (T := TX6) (N := 12) hx hb hw inAX6 tyX6 tyX6_ok nmX6 hown hK hP hD hS 0 rfl rfl 2 (by decide) (hw _ q_92) (fun _ h9 => h9) rfl (by decide +kernel) rfl rfl dX6_advance_92 (fun H locs F127 eF127 hP hD hS => ?_)
        have hP : va_P D vwCl [(h0, .inr (6, vL 12 F127)), (h_bytes, .inl (cB, 940, .inl f_bytes)), (h_wordNames, .inl (cJ, 23, .inr (.inl f_wordNames)))] H := hP
        have hD : va_D A [(h0, .inr (6, vL 12 F127)), (h_bytes, .inl (cB, 940, .inl f_bytes)), (h_wordNames, .inl (cJ, 23, .inr (.inl f_wordNames)))] := hD
        refine lv_goto (tgt := 189) hx hb dX6_advance_95 (by decide) ?_
        exact ret_v hx hb hr hlocks hS hP hD dX6_advance_189 (Nat.le_of_ble_eq_true rfl) (Nat.le_of_ble_eq_true rfl) ⟨F127, 1, x_mostBytes, x_value, x_name, u2, (SAME.up eF127 (SAME.up eF126 (SAME.up eF9 (SAME.tr SAME.rf i4 (by decide)) (by decide)) (by decide)) (by decide)), (get_eq eF127), (show (-128) ≤ (1 : Int32).toInt ∧ (1 : Int32).toInt ≤ 127 by decide), (get_ne eF127 (by decide) (get_eq eF126)), (ir_wk k69 (by decide) (by decide)), (get_ne eF127 (by decide) (get_ne eF126 (by decide) (get_ne eF9 (by decide) (SAME.at i4 (by decide) e_value)))), (get_ne eF127 (by decide) (get_ne eF126 (by decide) (get_ne eF9 (by decide) (SAME.at i4 (by decide) e_name)))), (get_ne eF127 (by decide) (get_ne eF126 (by decide) n70)), i6, (adv_lim (u := u2.toInt) i7 i8 (by omega) (by omega) (by decide) rfl (by omega) (by omega)), (fun q => absurd q (by decide)), (fun q => absurd q (by decide)), rfl⟩
  refine mloop (α := (Nat → Value) × (Int32)) (nL := 1) (D := D) (A := A) (H0 := s.heap) (fun a => (x_length.toInt - a.2.toInt).toNat) (fun a => SAME [10] Fh a.1 ∧ a.1 10 = .int a.2 ∧ IR 0 940 a.2 ∧ (sk f_bytes (x_length.toInt).toNat (x_at.toInt).toNat = sk f_bytes (x_length.toInt).toNat (a.2.toInt).toNat)) (fun a => [(h0, .inr (6, vL 12 a.1)), (h_bytes, .inl (cB, 940, .inl f_bytes)), (h_wordNames, .inl (cJ, 23, .inr (.inl f_wordNames)))]) (fun a => [(0, .ref h0)]) (fun H locs ls => W p l e ({ frames := 1, cells := 0, slots := 0, locals := 23 } : Room) s m [.ref h0].toArray below meth c H locs 0 0 (MQ below (va_Qv (fun (u : va_W) => ∃ (Gh : Nat → Value) (y_kind : Int32) (y_place : Int32) (y_value : Int32) (y_name : Int64) (y_at : Int32), SAME [2, 3, 4, 5, 10] Fh Gh ∧ Gh 2 = .int y_kind ∧ IR (-128) 127 y_kind ∧ Gh 3 = .int y_place ∧ IR (-2147483648) 940 y_place ∧ Gh 4 = .int y_value ∧ Gh 5 = .long y_name ∧ Gh 10 = .int y_at ∧ IR 0 940 y_at ∧ ((tkC y_kind y_place y_value y_name y_at) = (tkA f_bytes x_length.toInt x_mostBytes.toInt) x_at.toInt) ∧ ((y_kind.toInt = 2 → y_value.toInt = wix y_name.toInt)) ∧ ((y_kind.toInt = 3 → 0 ≤ y_value.toInt)) ∧ u = [(h0, .inr (6, vL 12 Gh)), (h_bytes, .inl (cB, 940, .inl f_bytes)), (h_wordNames, .inl (cJ, 23, .inr (.inl f_wordNames)))]) (PO D A) A) [.ref h0].toArray s 0 0 A) (F0 m 0 ls [])) ?_ (Fh, x_at) ⟨SAME.rf, e_at, i_x_at, (show sk f_bytes (x_length.toInt).toNat (x_at.toInt).toNat = sk f_bytes (x_length.toInt).toNat (x_at.toInt).toNat from rfl)⟩ _ _ _ hP hD hS hl
  rintro ⟨G1, u2⟩ ⟨i128, i129, i130, i131⟩ ih H locs ls hP hD hS hl
  have i130 : 0 ≤ u2.toInt ∧ u2.toInt ≤ 940 := i130
  have i131 : sk f_bytes (x_length.toInt).toNat (x_at.toInt).toNat = sk f_bytes (x_length.toInt).toNat (u2.toInt).toNat := i131
  have hP : va_P D vwCl [(h0, .inr (6, vL 12 G1)), (h_bytes, .inl (cB, 940, .inl f_bytes)), (h_wordNames, .inl (cJ, 23, .inr (.inl f_wordNames)))] H := hP
  have hD : va_D A [(h0, .inr (6, vL 12 G1)), (h_bytes, .inl (cB, 940, .inl f_bytes)), (h_wordNames, .inl (cJ, 23, .inr (.inl f_wordNames)))] := hD
  have hl : lv_has ls 1 [(0, .ref h0)] := hl
  refine lv_aload_n hx hb dX6_advance_0 rfl (lv_at hl 0 rfl) ?_
  refine get_f (D := D) (ci := 6) (v := .int u2) (C := RX6) (T := TX6) (N := 12) hx hb hw inAX6 hown hK hP 0 rfl rfl 10 (by decide) (hw _ q_110) (fun _ h9 => h9) i129 dX6_advance_1 ?_
  refine lv_aload_n hx hb dX6_advance_4 rfl (lv_at hl 0 rfl) ?_
  have n132 : G1 1 = .int x_length := (SAME.at i128 (by decide) e_length)
  refine get_f (D := D) (ci := 6) (v := .int x_length) (C := RX6) (T := TX6) (N := 12) hx hb hw inAX6 hown hK hP 0 rfl rfl 1 (by decide) (hw _ q_90) (fun _ h9 => h9) n132 dX6_advance_5 ?_
  refine lv_icmp_ge (tgt := 52) hx hb dX6_advance_8 (by decide) (fun c133 => ?_) (fun c133 => ?_)
  · have dc133 : x_length.toInt ≤ u2.toInt := le_i (a := x_length.toInt) (b := u2.toInt) rfl rfl c133
    exact cut3 G1 u2 (SAME.tr SAME.rf i128 (by decide)) i129 i130 (show sk f_bytes (x_length.toInt).toNat (x_at.toInt).toNat = sk f_bytes (x_length.toInt).toNat (u2.toInt).toNat from i131) (show sk f_bytes (x_length.toInt).toNat (u2.toInt).toNat = (u2.toInt).toNat from (sk_stop (by omega))) _ _ _ hP hD hS (lv_sub hl [0] rfl)
  · have dc133 : u2.toInt < x_length.toInt := nle_i (a := x_length.toInt) (b := u2.toInt) rfl rfl c133
    have k134 : 0 ≤ u2.toInt ∧ u2.toInt ≤ 939 := ⟨i130.1, up_lt dc133 i_x_length.2 (by decide)⟩
    have k135 : 1 ≤ x_length.toInt ∧ x_length.toInt ≤ 940 := ⟨lo_lt dc133 i130.1 (by decide), i_x_length.2⟩
    refine lv_aload_n hx hb dX6_advance_11 rfl (lv_at hl 0 rfl) ?_
    have n136 : G1 0 = .ref h_bytes := (SAME.at i128 (by decide) e_bytes)
    refine get_f (D := D) (ci := 6) (v := .ref h_bytes) (C := RX6) (T := TX6) (N := 12) hx hb hw inAX6 hown hK hP 0 rfl rfl 0 (by decide) (hw _ q_89) (fun _ h9 => h9) n136 dX6_advance_12 ?_
    refine lv_aload_n hx hb dX6_advance_15 rfl (lv_at hl 0 rfl) ?_
    refine get_f (D := D) (ci := 6) (v := .int u2) (C := RX6) (T := TX6) (N := 12) hx hb hw inAX6 hown hK hP 0 rfl rfl 10 (by decide) (hw _ q_110) (fun _ h9 => h9) i129 dX6_advance_16 ?_
    refine va_bald hx hb hK hP 1 2 rfl rfl (ix_k k134 (by decide) (by decide)) dX6_advance_19 ?_
    refine lv_topi (fun v137 ev137 => ?_)
    have k138 : (-128) ≤ v137.toInt ∧ v137.toInt ≤ 127 := by rw [ev137]; exact s_bytes_0.at _ (Int.le_trans (by decide) k134.1) (Int.le_trans k134.2 (by decide))
    have tv137 := tb_of ev137 k138
    refine lv_bipush (v := 32) hx hb dX6_advance_20 (by decide) ?_
    refine lv_icmp_eq (tgt := 39) hx hb dX6_advance_22 (by decide) (fun c139 => ?_) (fun c139 => ?_)
    · have dc139 : v137.toInt = 32 := eq_i (a := v137.toInt) (b := 32) rfl rfl c139
      have k140 : 32 ≤ v137.toInt ∧ v137.toInt ≤ 32 := ⟨Int.le_trans (Int.le_refl _) (Int.le_of_eq dc139.symm), Int.le_trans (Int.le_of_eq dc139) (Int.le_refl _)⟩
      refine lv_aload_n hx hb dX6_advance_39 rfl (lv_at hl 0 rfl) ?_
      refine lv_dup hx hb dX6_advance_40 rfl ?_
      refine get_f (D := D) (ci := 6) (v := .int u2) (C := RX6) (T := TX6) (N := 12) hx hb hw inAX6 hown hK hP 0 rfl rfl 10 (by decide) (hw _ q_110) (fun _ h9 => h9) i129 dX6_advance_41 ?_
      refine lv_iconst (v := 1) hx hb dX6_advance_44 (by decide) ?_
      refine lv_iadd hx hb dX6_advance_45 ?_
      refine lv_topi (fun v141 ev141 => ?_)
      have bv141 : v141.toInt = u2.toInt + 1 := by rw [ev141]; exact add_k rfl rfl k134 ⟨Int.le_refl _, Int.le_refl _⟩ (by decide)
      have k142 : 1 ≤ v141.toInt ∧ v141.toInt ≤ 940 := add_r bv141 k134 ⟨Int.le_refl _, Int.le_refl _⟩ (by decide)
      refine put_f (D := D) (ci := 6) (v := .int v141) (ty := .int) (C := RX6) (T := TX6) (N := 12) hx hb hw inAX6 tyX6 tyX6_ok nmX6 hown hK hP hD hS 0 rfl rfl 10 (by decide) (hw _ q_110) (fun _ h9 => h9) rfl (by decide +kernel) rfl rfl dX6_advance_46 (fun H locs F143 eF143 hP hD hS => ?_)
      have hP : va_P D vwCl [(h0, .inr (6, vL 12 F143)), (h_bytes, .inl (cB, 940, .inl f_bytes)), (h_wordNames, .inl (cJ, 23, .inr (.inl f_wordNames)))] H := hP
      have hD : va_D A [(h0, .inr (6, vL 12 F143)), (h_bytes, .inl (cB, 940, .inl f_bytes)), (h_wordNames, .inl (cJ, 23, .inr (.inl f_wordNames)))] := hD
      refine lv_goto (tgt := 0) hx hb dX6_advance_49 (by decide) ?_
      exact ih (F143, v141) ⟨(SAME.up eF143 (SAME.tr SAME.rf i128 (by decide)) (by decide)), (get_eq eF143), (ir_wk k142 (by decide) (by decide)), (show sk f_bytes (x_length.toInt).toNat (x_at.toInt).toNat = sk f_bytes (x_length.toInt).toNat (v141.toInt).toNat from (i131.trans (by rw [show (v141.toInt).toNat = (u2.toInt).toNat + 1 by omega]; exact sk_step (by omega) (by omega))))⟩ (by show (x_length.toInt - v141.toInt).toNat < (x_length.toInt - u2.toInt).toNat; omega) _ _ _ hP hD hS (lv_sub hl [0] rfl)
    · have dc139 : v137.toInt ≠ 32 := ne_i (a := v137.toInt) (b := 32) rfl rfl c139
      refine lv_aload_n hx hb dX6_advance_25 rfl (lv_at hl 0 rfl) ?_
      refine get_f (D := D) (ci := 6) (v := .ref h_bytes) (C := RX6) (T := TX6) (N := 12) hx hb hw inAX6 hown hK hP 0 rfl rfl 0 (by decide) (hw _ q_89) (fun _ h9 => h9) n136 dX6_advance_26 ?_
      refine lv_aload_n hx hb dX6_advance_29 rfl (lv_at hl 0 rfl) ?_
      refine get_f (D := D) (ci := 6) (v := .int u2) (C := RX6) (T := TX6) (N := 12) hx hb hw inAX6 hown hK hP 0 rfl rfl 10 (by decide) (hw _ q_110) (fun _ h9 => h9) i129 dX6_advance_30 ?_
      refine va_bald hx hb hK hP 1 2 rfl rfl (ix_k k134 (by decide) (by decide)) dX6_advance_33 ?_
      refine lv_ci (y := v137) ev137.symm ?_
      refine lv_bipush (v := 10) hx hb dX6_advance_34 (by decide) ?_
      refine lv_icmp_ne (tgt := 52) hx hb dX6_advance_36 (by decide) (fun c144 => ?_) (fun c144 => ?_)
      · have dc144 : v137.toInt ≠ 10 := ne_i (a := v137.toInt) (b := 10) rfl rfl c144
        exact cut3 G1 u2 (SAME.tr SAME.rf i128 (by decide)) i129 (ir_wk k134 (by decide) (by decide)) (show sk f_bytes (x_length.toInt).toNat (x_at.toInt).toNat = sk f_bytes (x_length.toInt).toNat (u2.toInt).toNat from i131) (show sk f_bytes (x_length.toInt).toNat (u2.toInt).toNat = (u2.toInt).toNat from (sk_stop (by omega))) _ _ _ hP hD hS (lv_sub hl [0] rfl)
      · have dc144 : v137.toInt = 10 := eq_i (a := v137.toInt) (b := 10) rfl rfl c144
        have k145 : 10 ≤ v137.toInt ∧ v137.toInt ≤ 10 := ⟨Int.le_trans (Int.le_refl _) (Int.le_of_eq dc144.symm), Int.le_trans (Int.le_of_eq dc144) (Int.le_refl _)⟩
        refine lv_aload_n hx hb dX6_advance_39 rfl (lv_at hl 0 rfl) ?_
        refine lv_dup hx hb dX6_advance_40 rfl ?_
        refine get_f (D := D) (ci := 6) (v := .int u2) (C := RX6) (T := TX6) (N := 12) hx hb hw inAX6 hown hK hP 0 rfl rfl 10 (by decide) (hw _ q_110) (fun _ h9 => h9) i129 dX6_advance_41 ?_
        refine lv_iconst (v := 1) hx hb dX6_advance_44 (by decide) ?_
        refine lv_iadd hx hb dX6_advance_45 ?_
        refine lv_topi (fun v146 ev146 => ?_)
        have bv146 : v146.toInt = u2.toInt + 1 := by rw [ev146]; exact add_k rfl rfl k134 ⟨Int.le_refl _, Int.le_refl _⟩ (by decide)
        have k147 : 1 ≤ v146.toInt ∧ v146.toInt ≤ 940 := add_r bv146 k134 ⟨Int.le_refl _, Int.le_refl _⟩ (by decide)
        refine put_f (D := D) (ci := 6) (v := .int v146) (ty := .int) (C := RX6) (T := TX6) (N := 12) hx hb hw inAX6 tyX6 tyX6_ok nmX6 hown hK hP hD hS 0 rfl rfl 10 (by decide) (hw _ q_110) (fun _ h9 => h9) rfl (by decide +kernel) rfl rfl dX6_advance_46 (fun H locs F148 eF148 hP hD hS => ?_)
        have hP : va_P D vwCl [(h0, .inr (6, vL 12 F148)), (h_bytes, .inl (cB, 940, .inl f_bytes)), (h_wordNames, .inl (cJ, 23, .inr (.inl f_wordNames)))] H := hP
        have hD : va_D A [(h0, .inr (6, vL 12 F148)), (h_bytes, .inl (cB, 940, .inl f_bytes)), (h_wordNames, .inl (cJ, 23, .inr (.inl f_wordNames)))] := hD
        refine lv_goto (tgt := 0) hx hb dX6_advance_49 (by decide) ?_
        exact ih (F148, v146) ⟨(SAME.up eF148 (SAME.tr SAME.rf i128 (by decide)) (by decide)), (get_eq eF148), (ir_wk k147 (by decide) (by decide)), (show sk f_bytes (x_length.toInt).toNat (x_at.toInt).toNat = sk f_bytes (x_length.toInt).toNat (v146.toInt).toNat from (i131.trans (by rw [show (v146.toInt).toNat = (u2.toInt).toNat + 1 by omega]; exact sk_step (by omega) (by omega))))⟩ (by show (x_length.toInt - v146.toInt).toNat < (x_length.toInt - u2.toInt).toNat; omega) _ _ _ hP hD hS (lv_sub hl [0] rfl)
set_option maxHeartbeats 4000000 in
set_option maxRecDepth 100000 in
theorem m_X6_open (l : Launch) (D : va_G) (cI cJ cB cP cM cZ : ClassId) (h0 : Nat) (h_bytes : Nat) (h_wordNames : Nat) (Fh : Nat → Value) (x_length : Int32) (x_kind : Int32) (x_place : Int32) (x_value : Int32) (x_name : Int64) (x_at : Int32) (f_bytes : Nat → Int32) (f_wordNames : Nat → Int64) (p0 : Int32) (sz : Nat) (e_bytes : Fh 0 = .ref h_bytes) (e_length : Fh 1 = .int x_length) (i_x_length : IR 0 940 x_length) (e_kind : Fh 2 = .int x_kind) (e_place : Fh 3 = .int x_place) (e_value : Fh 4 = .int x_value) (e_name : Fh 5 = .long x_name) (e_wordNames : Fh 9 = .ref h_wordNames) (e_at : Fh 10 = .int x_at) (i_x_at : IR 0 940 x_at) (s_bytes_0 : SG 0 939 (-128) 127 f_bytes) (s_wordNames_KN : KWN f_wordNames) : CV l yX6_open cX6_open 2 none { frames := 2, cells := 0, slots := 0, locals := 43 } (GG D cI cJ cB cP cM cZ) D [(h0, .inr (6, vL 12 Fh)), (h_bytes, .inl (cB, 940, .inl f_bytes)), (h_wordNames, .inl (cJ, 23, .inr (.inl f_wordNames)))] sz [.ref h0, .int p0] (fun (u : va_W) => ∃ (Gh : Nat → Value) (y_kind : Int32) (y_place : Int32) (y_value : Int32) (y_name : Int64) (y_at : Int32), SAME [2, 3, 4, 5, 10, 11] Fh Gh ∧ Gh 2 = .int y_kind ∧ IR (-128) 127 y_kind ∧ Gh 3 = .int y_place ∧ IR (-2147483648) 940 y_place ∧ Gh 4 = .int y_value ∧ Gh 5 = .long y_name ∧ Gh 10 = .int y_at ∧ IR 0 940 y_at ∧ Gh 11 = .int p0 ∧ ((tkC y_kind y_place y_value y_name y_at) = tkA f_bytes x_length.toInt p0.toInt (0 : Int32).toInt) ∧ ((y_kind.toInt = 2 → y_value.toInt = wix y_name.toInt)) ∧ ((y_kind.toInt = 3 → 0 ≤ y_value.toInt)) ∧ u = [(h0, .inr (6, vL 12 Gh)), (h_bytes, .inl (cB, 940, .inl f_bytes)), (h_wordNames, .inl (cJ, 23, .inr (.inl f_wordNames)))]) := by
  refine CV_mk (by decide) (Nat.le_of_ble_eq_true rfl) ?_
  intro p e s m below meth c A ls E hAe hG hsz hP hD hA hS hl
  obtain ⟨hx, hb, hr, hw, hown, hlocks, hml, hnm⟩ := E
  have hK := hG.1
  have i_x_length : 0 ≤ x_length.toInt ∧ x_length.toInt ≤ 940 := i_x_length
  have i_x_at : 0 ≤ x_at.toInt ∧ x_at.toInt ≤ 940 := i_x_at
  have hl : lv_has ls 2 [(0, .ref h0), (1, .int p0)] := hl
  refine lv_aload_n hx hb dX6_open_0 rfl (lv_at hl 0 rfl) ?_
  refine lv_iload_n hx hb dX6_open_1 rfl (lv_at hl 1 rfl) ?_
  refine put_f (D := D) (ci := 6) (v := .int p0) (ty := .int) (C := RX6) (T := TX6) (N := 12) hx hb hw inAX6 tyX6 tyX6_ok nmX6 hown hK hP hD hS 0 rfl rfl 11 (by decide) (hw _ q_111) (fun _ h9 => h9) rfl (by decide +kernel) rfl rfl dX6_open_2 (fun H locs F1 eF1 hP hD hS => ?_)
  have hP : va_P D vwCl [(h0, .inr (6, vL 12 F1)), (h_bytes, .inl (cB, 940, .inl f_bytes)), (h_wordNames, .inl (cJ, 23, .inr (.inl f_wordNames)))] H := hP
  have hD : va_D A [(h0, .inr (6, vL 12 F1)), (h_bytes, .inl (cB, 940, .inl f_bytes)), (h_wordNames, .inl (cJ, 23, .inr (.inl f_wordNames)))] := hD
  refine lv_aload_n hx hb dX6_open_5 rfl (lv_at hl 0 rfl) ?_
  refine lv_iconst (v := 0) hx hb dX6_open_6 (by decide) ?_
  refine put_f (D := D) (ci := 6) (v := .int 0) (ty := .int) (C := RX6) (T := TX6) (N := 12) hx hb hw inAX6 tyX6 tyX6_ok nmX6 hown hK hP hD hS 0 rfl rfl 10 (by decide) (hw _ q_110) (fun _ h9 => h9) rfl (by decide +kernel) rfl rfl dX6_open_7 (fun H locs F2 eF2 hP hD hS => ?_)
  have hP : va_P D vwCl [(h0, .inr (6, vL 12 F2)), (h_bytes, .inl (cB, 940, .inl f_bytes)), (h_wordNames, .inl (cJ, 23, .inr (.inl f_wordNames)))] H := hP
  have hD : va_D A [(h0, .inr (6, vL 12 F2)), (h_bytes, .inl (cB, 940, .inl f_bytes)), (h_wordNames, .inl (cJ, 23, .inr (.inl f_wordNames)))] := hD
  refine lv_aload_n hx hb dX6_open_10 rfl (lv_at hl 0 rfl) ?_
  have n3 : F1 0 = .ref h_bytes := (get_ne eF1 (by decide) e_bytes)
  have n4 : F2 0 = .ref h_bytes := (get_ne eF2 (by decide) n3)
  have n5 : F1 1 = .int x_length := (get_ne eF1 (by decide) e_length)
  have n6 : F2 1 = .int x_length := (get_ne eF2 (by decide) n5)
  have n7 : F1 2 = .int x_kind := (get_ne eF1 (by decide) e_kind)
  have n8 : F2 2 = .int x_kind := (get_ne eF2 (by decide) n7)
  have n9 : F1 3 = .int x_place := (get_ne eF1 (by decide) e_place)
  have n10 : F2 3 = .int x_place := (get_ne eF2 (by decide) n9)
  have n11 : F1 4 = .int x_value := (get_ne eF1 (by decide) e_value)
  have n12 : F2 4 = .int x_value := (get_ne eF2 (by decide) n11)
  have n13 : F1 5 = .long x_name := (get_ne eF1 (by decide) e_name)
  have n14 : F2 5 = .long x_name := (get_ne eF2 (by decide) n13)
  have n15 : F1 9 = .ref h_wordNames := (get_ne eF1 (by decide) e_wordNames)
  have n16 : F2 9 = .ref h_wordNames := (get_ne eF2 (by decide) n15)
  have n17 : F2 11 = .int p0 := (get_ne eF2 (by decide) (get_eq eF1))
  refine call_Vv (wr := []) (As := []) (rest := []) hx hb hml hown hw (m_X6_advance l D cI cJ cB cP cM cZ h0 h_bytes h_wordNames F2 x_length x_kind x_place x_value x_name 0 p0 f_bytes f_wordNames _ n4 n6 i_x_length n8 n10 n12 n14 n16 (get_eq eF2) (show 0 ≤ (0 : Int32).toInt ∧ (0 : Int32).toInt ≤ 940 by decide) n17 s_bytes_0 s_wordNames_KN) wV_X6_66_X6_advance dX6_open_11 hK hP hD hS hA [0, 1, 2] [] rfl rfl (by decide) (by decide) (by decide) 0 6 rfl rfl GG.fb hG.at hl.1 rfl (Nat.le_of_ble_eq_true rfl) ⟨(Nat.le_of_ble_eq_true rfl), (Nat.le_of_ble_eq_true rfl)⟩ ⟨(Nat.le_of_ble_eq_true rfl), (Nat.le_of_ble_eq_true rfl)⟩ (fun u H locs hp hP hD hS => ?_)
  have zl0 : (0 : Int32).toInt = 0 := by decide
  obtain ⟨F19, y20, y21, y22, y23, y24, t25, t26, t27, t28, t29, t30, t31, t32, t33, t34, t35, t36, rfl⟩ := hp
  have hP : va_P D vwCl [(h0, .inr (6, vL 12 F19)), (h_bytes, .inl (cB, 940, .inl f_bytes)), (h_wordNames, .inl (cJ, 23, .inr (.inl f_wordNames)))] H := hP
  have hD : va_D A [(h0, .inr (6, vL 12 F19)), (h_bytes, .inl (cB, 940, .inl f_bytes)), (h_wordNames, .inl (cJ, 23, .inr (.inl f_wordNames)))] := hD
  refine W.widen (k := 0) (n := 0) (Nat.le_of_ble_eq_true rfl) (Nat.le_of_ble_eq_true rfl) ?_
  exact ret_v hx hb hr hlocks hS hP hD dX6_open_14 (Nat.le_of_ble_eq_true rfl) (Nat.le_of_ble_eq_true rfl) ⟨F19, y20, y21, y22, y23, y24, (SAME.tr (SAME.up eF2 (SAME.up eF1 SAME.rf (by decide)) (by decide)) t25 (by decide)), t26, t27, t28, t29, t30, t31, t32, t33, (SAME.at t25 (by decide) n17), t34, t35, t36, rfl⟩
set_option maxHeartbeats 4000000 in
set_option maxRecDepth 100000 in
theorem m_X6_wordHere (l : Launch) (D : va_G) (cI cJ cB cP cM cZ : ClassId) (h0 : Nat) (Fh : Nat → Value) (x_kind : Int32) (x_value : Int32) (sz : Nat) (e_kind : Fh 2 = .int x_kind) (e_value : Fh 4 = .int x_value) : CI l yX6_wordHere cX6_wordHere 1 (some .int) { frames := 0, cells := 0, slots := 0, locals := 0 } (GG D cI cJ cB cP cM cZ) D [(h0, .inr (6, vL 12 Fh))] sz [.ref h0] (fun (r : Int32) (u : va_W) => (x_kind.toInt ≠ 2 ∧ r = (-1) ∧ u = [(h0, .inr (6, vL 12 Fh))]) ∨ (x_kind.toInt = 2 ∧ r = x_value ∧ u = [(h0, .inr (6, vL 12 Fh))])) := by
  refine CI_mk (by decide) (Nat.le_of_ble_eq_true rfl) ?_
  intro p e s m below meth c A ls E hAe hG hsz hP hD hA hS hl
  obtain ⟨hx, hb, hr, hw, hown, hlocks, hml, hnm⟩ := E
  have hK := hG.1
  have hl : lv_has ls 1 [(0, .ref h0)] := hl
  refine lv_aload_n hx hb dX6_wordHere_0 rfl (lv_at hl 0 rfl) ?_
  refine get_f (D := D) (ci := 6) (v := .int x_kind) (C := RX6) (T := TX6) (N := 12) hx hb hw inAX6 hown hK hP 0 rfl rfl 2 (by decide) (hw _ q_92) (fun _ h9 => h9) e_kind dX6_wordHere_1 ?_
  refine lv_iconst (v := 2) hx hb dX6_wordHere_4 (by decide) ?_
  refine lv_icmp_ne (tgt := 15) hx hb dX6_wordHere_5 (by decide) (fun c1 => ?_) (fun c1 => ?_)
  · have dc1 : x_kind.toInt ≠ 2 := ne_i (a := x_kind.toInt) (b := 2) rfl rfl c1
    refine lv_iconst (v := (-1)) hx hb dX6_wordHere_15 (by decide) ?_
    exact ret_i (v := (-1)) hx hb hr hlocks hS hP hD dX6_wordHere_16 rfl (Nat.le_of_ble_eq_true rfl) (Nat.le_of_ble_eq_true rfl) (Or.inl ⟨dc1, rfl, rfl⟩)
  · have dc1 : x_kind.toInt = 2 := eq_i (a := x_kind.toInt) (b := 2) rfl rfl c1
    have k2 : 2 ≤ x_kind.toInt ∧ x_kind.toInt ≤ 2 := ⟨Int.le_trans (Int.le_refl _) (Int.le_of_eq dc1.symm), Int.le_trans (Int.le_of_eq dc1) (Int.le_refl _)⟩
    refine lv_aload_n hx hb dX6_wordHere_8 rfl (lv_at hl 0 rfl) ?_
    refine get_f (D := D) (ci := 6) (v := .int x_value) (C := RX6) (T := TX6) (N := 12) hx hb hw inAX6 hown hK hP 0 rfl rfl 4 (by decide) (hw _ q_97) (fun _ h9 => h9) e_value dX6_wordHere_9 ?_
    refine lv_goto (tgt := 16) hx hb dX6_wordHere_12 (by decide) ?_
    exact ret_i (v := x_value) hx hb hr hlocks hS hP hD dX6_wordHere_16 rfl (Nat.le_of_ble_eq_true rfl) (Nat.le_of_ble_eq_true rfl) (Or.inr ⟨dc1, rfl, rfl⟩)
set_option maxHeartbeats 4000000 in
set_option maxRecDepth 100000 in
theorem m_X6_fail (l : Launch) (D : va_G) (cI cJ cB cP cM cZ : ClassId) (h0 : Nat) (Fh : Nat → Value) (x_place : Int32) (p0 : Int32) (sz : Nat) (e_place : Fh 3 = .int x_place) : CI l yX6_fail cX6_fail 2 (some .boolean) { frames := 0, cells := 0, slots := 0, locals := 0 } (GG D cI cJ cB cP cM cZ) D [(h0, .inr (6, vL 12 Fh))] sz [.ref h0, .int p0] (fun (r : Int32) (u : va_W) => ∃ (Gh : Nat → Value), SAME [7, 8] Fh Gh ∧ Gh 7 = .int p0 ∧ Gh 8 = .int x_place ∧ r = 0 ∧ u = [(h0, .inr (6, vL 12 Gh))]) := by
  refine CI_mk (by decide) (Nat.le_of_ble_eq_true rfl) ?_
  intro p e s m below meth c A ls E hAe hG hsz hP hD hA hS hl
  obtain ⟨hx, hb, hr, hw, hown, hlocks, hml, hnm⟩ := E
  have hK := hG.1
  have hl : lv_has ls 2 [(0, .ref h0), (1, .int p0)] := hl
  refine lv_aload_n hx hb dX6_fail_0 rfl (lv_at hl 0 rfl) ?_
  refine lv_iload_n hx hb dX6_fail_1 rfl (lv_at hl 1 rfl) ?_
  refine put_f (D := D) (ci := 6) (v := .int p0) (ty := .int) (C := RX6) (T := TX6) (N := 12) hx hb hw inAX6 tyX6 tyX6_ok nmX6 hown hK hP hD hS 0 rfl rfl 7 (by decide) (hw _ q_105) (fun _ h9 => h9) rfl (by decide +kernel) rfl rfl dX6_fail_2 (fun H locs F1 eF1 hP hD hS => ?_)
  have hP : va_P D vwCl [(h0, .inr (6, vL 12 F1))] H := hP
  have hD : va_D A [(h0, .inr (6, vL 12 F1))] := hD
  refine lv_aload_n hx hb dX6_fail_5 rfl (lv_at hl 0 rfl) ?_
  refine lv_aload_n hx hb dX6_fail_6 rfl (lv_at hl 0 rfl) ?_
  have n2 : F1 3 = .int x_place := (get_ne eF1 (by decide) e_place)
  refine get_f (D := D) (ci := 6) (v := .int x_place) (C := RX6) (T := TX6) (N := 12) hx hb hw inAX6 hown hK hP 0 rfl rfl 3 (by decide) (hw _ q_96) (fun _ h9 => h9) n2 dX6_fail_7 ?_
  refine put_f (D := D) (ci := 6) (v := .int x_place) (ty := .int) (C := RX6) (T := TX6) (N := 12) hx hb hw inAX6 tyX6 tyX6_ok nmX6 hown hK hP hD hS 0 rfl rfl 8 (by decide) (hw _ q_107) (fun _ h9 => h9) rfl (by decide +kernel) rfl rfl dX6_fail_10 (fun H locs F3 eF3 hP hD hS => ?_)
  have hP : va_P D vwCl [(h0, .inr (6, vL 12 F3))] H := hP
  have hD : va_D A [(h0, .inr (6, vL 12 F3))] := hD
  refine lv_iconst (v := 0) hx hb dX6_fail_13 (by decide) ?_
  exact ret_i (v := 0) hx hb hr hlocks hS hP hD dX6_fail_14 rfl (Nat.le_of_ble_eq_true rfl) (Nat.le_of_ble_eq_true rfl) ⟨F3, (SAME.up eF3 (SAME.up eF1 SAME.rf (by decide)) (by decide)), (get_ne eF3 (by decide) (get_eq eF1)), (get_eq eF3), rfl, rfl⟩
set_option maxHeartbeats 4000000 in
set_option maxRecDepth 100000 in
theorem m_X6_isNumberWithin (l : Launch) (D : va_G) (cI cJ cB cP cM cZ : ClassId) (h0 : Nat) (Fh : Nat → Value) (x_kind : Int32) (x_place : Int32) (x_value : Int32) (x_faultKind : Int32) (x_faultPlace : Int32) (p0 : Int32) (p1 : Int32) (sz : Nat) (e_kind : Fh 2 = .int x_kind) (e_place : Fh 3 = .int x_place) (e_value : Fh 4 = .int x_value) (e_faultKind : Fh 7 = .int x_faultKind) (e_faultPlace : Fh 8 = .int x_faultPlace) : CI l yX6_isNumberWithin cX6_isNumberWithin 3 (some .boolean) { frames := 1, cells := 0, slots := 0, locals := 21 } (GG D cI cJ cB cP cM cZ) D [(h0, .inr (6, vL 12 Fh))] sz [.ref h0, .int p0, .int p1] (fun (r : Int32) (u : va_W) => (∃ (Gh : Nat → Value) (y_faultKind : Int32) (y_faultPlace : Int32), SAME [7, 8] Fh Gh ∧ Gh 7 = .int y_faultKind ∧ IR 1 2 y_faultKind ∧ Gh 8 = .int y_faultPlace ∧ ((x_kind.toInt ≠ 3 ∧ y_faultKind.toInt = 1 ∧ y_faultPlace.toInt = x_place.toInt) ∨ (x_kind.toInt = 3 ∧ (x_value.toInt < p0.toInt ∨ p1.toInt < x_value.toInt) ∧ y_faultKind.toInt = 2 ∧ y_faultPlace.toInt = x_place.toInt)) ∧ r = 0 ∧ u = [(h0, .inr (6, vL 12 Gh))]) ∨ (x_kind.toInt = 3 ∧ p0.toInt ≤ x_value.toInt ∧ x_value.toInt ≤ p1.toInt ∧ (x_kind.toInt = 3 ∧ p0.toInt ≤ x_value.toInt ∧ x_value.toInt ≤ p1.toInt) ∧ r = 1 ∧ u = [(h0, .inr (6, vL 12 Fh))])) := by
  refine CI_mk (by decide) (Nat.le_of_ble_eq_true rfl) ?_
  intro p e s m below meth c A ls E hAe hG hsz hP hD hA hS hl
  obtain ⟨hx, hb, hr, hw, hown, hlocks, hml, hnm⟩ := E
  have hK := hG.1
  have hl : lv_has ls 3 [(0, .ref h0), (1, .int p0), (2, .int p1)] := hl
  refine lv_aload_n hx hb dX6_isNumberWithin_0 rfl (lv_at hl 0 rfl) ?_
  refine get_f (D := D) (ci := 6) (v := .int x_kind) (C := RX6) (T := TX6) (N := 12) hx hb hw inAX6 hown hK hP 0 rfl rfl 2 (by decide) (hw _ q_92) (fun _ h9 => h9) e_kind dX6_isNumberWithin_1 ?_
  refine lv_iconst (v := 3) hx hb dX6_isNumberWithin_4 (by decide) ?_
  refine lv_icmp_eq (tgt := 14) hx hb dX6_isNumberWithin_5 (by decide) (fun c1 => ?_) (fun c1 => ?_)
  · have dc1 : x_kind.toInt = 3 := eq_i (a := x_kind.toInt) (b := 3) rfl rfl c1
    have k2 : 3 ≤ x_kind.toInt ∧ x_kind.toInt ≤ 3 := ⟨Int.le_trans (Int.le_refl _) (Int.le_of_eq dc1.symm), Int.le_trans (Int.le_of_eq dc1) (Int.le_refl _)⟩
    refine lv_aload_n hx hb dX6_isNumberWithin_14 rfl (lv_at hl 0 rfl) ?_
    refine get_f (D := D) (ci := 6) (v := .int x_value) (C := RX6) (T := TX6) (N := 12) hx hb hw inAX6 hown hK hP 0 rfl rfl 4 (by decide) (hw _ q_97) (fun _ h9 => h9) e_value dX6_isNumberWithin_15 ?_
    refine lv_iload_n hx hb dX6_isNumberWithin_18 rfl (lv_at hl 1 rfl) ?_
    refine lv_icmp_lt (tgt := 30) hx hb dX6_isNumberWithin_19 (by decide) (fun c3 => ?_) (fun c3 => ?_)
    · have dc3 : x_value.toInt < p0.toInt := lt_i (a := x_value.toInt) (b := p0.toInt) rfl rfl c3
      have k4 : (-2147483648) ≤ x_value.toInt ∧ x_value.toInt ≤ 2147483646 := ⟨(ir_any _).1, up_lt dc3 (ir_any _).2 (by decide)⟩
      have k5 : (-2147483647) ≤ p0.toInt ∧ p0.toInt ≤ 2147483647 := ⟨lo_lt dc3 (ir_any _).1 (by decide), (ir_any _).2⟩
      refine lv_aload_n hx hb dX6_isNumberWithin_30 rfl (lv_at hl 0 rfl) ?_
      refine lv_iconst (v := 2) hx hb dX6_isNumberWithin_31 (by decide) ?_
      refine call_Vi (wr := []) (As := [.int 2]) (rest := []) hx hb hml hown hw (m_X6_fail l D cI cJ cB cP cM cZ h0 Fh x_place 2 _ e_place) wV_X6_80_X6_fail dX6_isNumberWithin_32 hK hP hD hS hA [0] [] rfl rfl (by decide) (by decide) (by decide) 0 6 rfl rfl GG.fb hG.at hl.1 rfl (Nat.le_of_ble_eq_true rfl) ⟨(Nat.le_of_ble_eq_true rfl), (Nat.le_of_ble_eq_true rfl)⟩ ⟨(Nat.le_of_ble_eq_true rfl), (Nat.le_of_ble_eq_true rfl)⟩ (fun r6 u H locs hp hP hD hS => ?_)
      have zl2 : (2 : Int32).toInt = 2 := by decide
      obtain ⟨F7, t8, t9, t10, rfl, rfl⟩ := hp
      have hP : va_P D vwCl [(h0, .inr (6, vL 12 F7))] H := hP
      have hD : va_D A [(h0, .inr (6, vL 12 F7))] := hD
      refine W.widen (k := 0) (n := 0) (Nat.le_of_ble_eq_true rfl) (Nat.le_of_ble_eq_true rfl) ?_
      refine lv_if_eq (tgt := 42) hx hb dX6_isNumberWithin_35 (by decide) (fun _ => ?_) (fun g => absurd (by decide) g)
      refine lv_iconst (v := 0) hx hb dX6_isNumberWithin_42 (by decide) ?_
      exact ret_i (v := 0) hx hb hr hlocks hS hP hD dX6_isNumberWithin_43 rfl (Nat.le_of_ble_eq_true rfl) (Nat.le_of_ble_eq_true rfl) (Or.inl ⟨F7, 2, x_place, (SAME.tr SAME.rf t8 (by decide)), t9, (show 1 ≤ (2 : Int32).toInt ∧ (2 : Int32).toInt ≤ 2 by decide), t10, (by have zl0 : (0 : Int32).toInt = 0 := (by decide); have zl2 : (2 : Int32).toInt = 2 := (by decide); omega), rfl, rfl⟩)
    · have dc3 : p0.toInt ≤ x_value.toInt := nlt_i (a := x_value.toInt) (b := p0.toInt) rfl rfl c3
      refine lv_aload_n hx hb dX6_isNumberWithin_22 rfl (lv_at hl 0 rfl) ?_
      refine get_f (D := D) (ci := 6) (v := .int x_value) (C := RX6) (T := TX6) (N := 12) hx hb hw inAX6 hown hK hP 0 rfl rfl 4 (by decide) (hw _ q_97) (fun _ h9 => h9) e_value dX6_isNumberWithin_23 ?_
      refine lv_iload_n hx hb dX6_isNumberWithin_26 rfl (lv_at hl 2 rfl) ?_
      refine lv_icmp_le (tgt := 38) hx hb dX6_isNumberWithin_27 (by decide) (fun c12 => ?_) (fun c12 => ?_)
      · have dc12 : x_value.toInt ≤ p1.toInt := le_i (a := x_value.toInt) (b := p1.toInt) rfl rfl c12
        refine lv_iconst (v := 1) hx hb dX6_isNumberWithin_38 (by decide) ?_
        refine lv_goto (tgt := 43) hx hb dX6_isNumberWithin_39 (by decide) ?_
        exact ret_i (v := 1) hx hb hr hlocks hS hP hD dX6_isNumberWithin_43 rfl (Nat.le_of_ble_eq_true rfl) (Nat.le_of_ble_eq_true rfl) (Or.inr ⟨dc1, dc3, dc12, (by have zl1 : (1 : Int32).toInt = 1 := (by decide); omega), rfl, rfl⟩)
      · have dc12 : p1.toInt < x_value.toInt := nle_i (a := x_value.toInt) (b := p1.toInt) rfl rfl c12
        have k13 : (-2147483648) ≤ p1.toInt ∧ p1.toInt ≤ 2147483646 := ⟨(ir_any _).1, up_lt dc12 (ir_any _).2 (by decide)⟩
        have k14 : (-2147483647) ≤ x_value.toInt ∧ x_value.toInt ≤ 2147483647 := ⟨lo_lt dc12 (ir_any _).1 (by decide), (ir_any _).2⟩
        refine lv_aload_n hx hb dX6_isNumberWithin_30 rfl (lv_at hl 0 rfl) ?_
        refine lv_iconst (v := 2) hx hb dX6_isNumberWithin_31 (by decide) ?_
        refine call_Vi (wr := []) (As := [.int 2]) (rest := []) hx hb hml hown hw (m_X6_fail l D cI cJ cB cP cM cZ h0 Fh x_place 2 _ e_place) wV_X6_80_X6_fail dX6_isNumberWithin_32 hK hP hD hS hA [0] [] rfl rfl (by decide) (by decide) (by decide) 0 6 rfl rfl GG.fb hG.at hl.1 rfl (Nat.le_of_ble_eq_true rfl) ⟨(Nat.le_of_ble_eq_true rfl), (Nat.le_of_ble_eq_true rfl)⟩ ⟨(Nat.le_of_ble_eq_true rfl), (Nat.le_of_ble_eq_true rfl)⟩ (fun r15 u H locs hp hP hD hS => ?_)
        have zl2 : (2 : Int32).toInt = 2 := by decide
        obtain ⟨F16, t17, t18, t19, rfl, rfl⟩ := hp
        have hP : va_P D vwCl [(h0, .inr (6, vL 12 F16))] H := hP
        have hD : va_D A [(h0, .inr (6, vL 12 F16))] := hD
        refine W.widen (k := 0) (n := 0) (Nat.le_of_ble_eq_true rfl) (Nat.le_of_ble_eq_true rfl) ?_
        refine lv_if_eq (tgt := 42) hx hb dX6_isNumberWithin_35 (by decide) (fun _ => ?_) (fun g => absurd (by decide) g)
        refine lv_iconst (v := 0) hx hb dX6_isNumberWithin_42 (by decide) ?_
        exact ret_i (v := 0) hx hb hr hlocks hS hP hD dX6_isNumberWithin_43 rfl (Nat.le_of_ble_eq_true rfl) (Nat.le_of_ble_eq_true rfl) (Or.inl ⟨F16, 2, x_place, (SAME.tr SAME.rf t17 (by decide)), t18, (show 1 ≤ (2 : Int32).toInt ∧ (2 : Int32).toInt ≤ 2 by decide), t19, (by have zl0 : (0 : Int32).toInt = 0 := (by decide); have zl2 : (2 : Int32).toInt = 2 := (by decide); omega), rfl, rfl⟩)
  · have dc1 : x_kind.toInt ≠ 3 := ne_i (a := x_kind.toInt) (b := 3) rfl rfl c1
    refine lv_aload_n hx hb dX6_isNumberWithin_8 rfl (lv_at hl 0 rfl) ?_
    refine lv_iconst (v := 1) hx hb dX6_isNumberWithin_9 (by decide) ?_
    refine call_Vi (wr := []) (As := [.int 1]) (rest := []) hx hb hml hown hw (m_X6_fail l D cI cJ cB cP cM cZ h0 Fh x_place 1 _ e_place) wV_X6_80_X6_fail dX6_isNumberWithin_10 hK hP hD hS hA [0] [] rfl rfl (by decide) (by decide) (by decide) 0 6 rfl rfl GG.fb hG.at hl.1 rfl (Nat.le_of_ble_eq_true rfl) ⟨(Nat.le_of_ble_eq_true rfl), (Nat.le_of_ble_eq_true rfl)⟩ ⟨(Nat.le_of_ble_eq_true rfl), (Nat.le_of_ble_eq_true rfl)⟩ (fun r21 u H locs hp hP hD hS => ?_)
    have zl1 : (1 : Int32).toInt = 1 := by decide
    obtain ⟨F22, t23, t24, t25, rfl, rfl⟩ := hp
    have hP : va_P D vwCl [(h0, .inr (6, vL 12 F22))] H := hP
    have hD : va_D A [(h0, .inr (6, vL 12 F22))] := hD
    refine W.widen (k := 0) (n := 0) (Nat.le_of_ble_eq_true rfl) (Nat.le_of_ble_eq_true rfl) ?_
    exact ret_i (v := 0) hx hb hr hlocks hS hP hD dX6_isNumberWithin_13 rfl (Nat.le_of_ble_eq_true rfl) (Nat.le_of_ble_eq_true rfl) (Or.inl ⟨F22, 1, x_place, (SAME.tr SAME.rf t23 (by decide)), t24, (show 1 ≤ (1 : Int32).toInt ∧ (1 : Int32).toInt ≤ 2 by decide), t25, (by have zl0 : (0 : Int32).toInt = 0 := (by decide); have zl1 : (1 : Int32).toInt = 1 := (by decide); omega), rfl, rfl⟩)
set_option maxHeartbeats 4000000 in
set_option maxRecDepth 100000 in
theorem m_X6_takeInto_5 (l : Launch) (D : va_G) (cI cJ cB cP cM cZ : ClassId) (h0 : Nat) (h_bytes : Nat) (h_wordNames : Nat) (p0 : Nat) (Fh : Nat → Value) (x_length : Int32) (x_kind : Int32) (x_place : Int32) (x_value : Int32) (x_name : Int64) (x_faultKind : Int32) (x_faultPlace : Int32) (x_at : Int32) (x_mostBytes : Int32) (f_bytes : Nat → Int32) (f_wordNames : Nat → Int64) (f_p0 : Nat → Int32) (p1 : Int32) (p2 : Int32) (p3 : Int32) (sz : Nat) (e_bytes : Fh 0 = .ref h_bytes) (e_length : Fh 1 = .int x_length) (i_x_length : IR 0 940 x_length) (e_kind : Fh 2 = .int x_kind) (e_place : Fh 3 = .int x_place) (e_value : Fh 4 = .int x_value) (e_name : Fh 5 = .long x_name) (e_faultKind : Fh 7 = .int x_faultKind) (e_faultPlace : Fh 8 = .int x_faultPlace) (e_wordNames : Fh 9 = .ref h_wordNames) (e_at : Fh 10 = .int x_at) (i_x_at : IR 0 940 x_at) (e_mostBytes : Fh 11 = .int x_mostBytes) (s_bytes_0 : SG 0 939 (-128) 127 f_bytes) (s_wordNames_KN : KWN f_wordNames) (i_p1 : IR 0 4 p1) : CI l yX6_takeInto cX6_takeInto 5 (some .boolean) { frames := 2, cells := 0, slots := 0, locals := 43 } (GG D cI cJ cB cP cM cZ) D [(h0, .inr (6, vL 12 Fh)), (h_bytes, .inl (cB, 940, .inl f_bytes)), (h_wordNames, .inl (cJ, 23, .inr (.inl f_wordNames))), (p0, .inl (cI, 5, .inl f_p0))] sz [.ref h0, .ref p0, .int p1, .int p2, .int p3] (fun (r : Int32) (u : va_W) => (∃ (Gh : Nat → Value) (y_faultKind : Int32) (y_faultPlace : Int32), SAME [7, 8] Fh Gh ∧ Gh 7 = .int y_faultKind ∧ IR 1 2 y_faultKind ∧ Gh 8 = .int y_faultPlace ∧ 0 ≤ p1.toInt ∧ p1.toInt < 5 ∧ (num (tkA f_bytes x_length.toInt x_mostBytes.toInt) (tkC x_kind x_place x_value x_name x_at) p2.toInt p3.toInt = .inl (y_faultKind.toInt, y_faultPlace.toInt)) ∧ r = 0 ∧ u = [(h0, .inr (6, vL 12 Gh)), (h_bytes, .inl (cB, 940, .inl f_bytes)), (h_wordNames, .inl (cJ, 23, .inr (.inl f_wordNames))), (p0, .inl (cI, 5, .inl f_p0))]) ∨ (∃ (Gh : Nat → Value) (y_kind : Int32) (y_place : Int32) (y_value : Int32) (y_name : Int64) (y_at : Int32) (g_p0 : Nat → Int32), SAME [2, 3, 4, 5, 10] Fh Gh ∧ Gh 2 = .int y_kind ∧ IR (-128) 127 y_kind ∧ Gh 3 = .int y_place ∧ IR (-2147483648) 940 y_place ∧ Gh 4 = .int y_value ∧ Gh 5 = .long y_name ∧ Gh 10 = .int y_at ∧ IR 0 940 y_at ∧ 0 ≤ p1.toInt ∧ p1.toInt < 5 ∧ x_kind.toInt = 3 ∧ p2.toInt ≤ x_value.toInt ∧ x_value.toInt ≤ p3.toInt ∧ (upd f_p0 p1.toNatClampNeg x_value = g_p0) ∧ (num (tkA f_bytes x_length.toInt x_mostBytes.toInt) (tkC x_kind x_place x_value x_name x_at) p2.toInt p3.toInt = .inr (tkC y_kind y_place y_value y_name y_at)) ∧ (x_kind.toInt = 3) ∧ ((y_kind.toInt = 2 → y_value.toInt = wix y_name.toInt)) ∧ ((y_kind.toInt = 3 → 0 ≤ y_value.toInt)) ∧ r = 1 ∧ u = [(h0, .inr (6, vL 12 Gh)), (h_bytes, .inl (cB, 940, .inl f_bytes)), (h_wordNames, .inl (cJ, 23, .inr (.inl f_wordNames))), (p0, .inl (cI, 5, .inl g_p0))])) := by
  refine CI_mk (by decide) (Nat.le_of_ble_eq_true rfl) ?_
  intro p e s m below meth c A ls E hAe hG hsz hP hD hA hS hl
  obtain ⟨hx, hb, hr, hw, hown, hlocks, hml, hnm⟩ := E
  have hK := hG.1
  have i_x_length : 0 ≤ x_length.toInt ∧ x_length.toInt ≤ 940 := i_x_length
  have i_x_at : 0 ≤ x_at.toInt ∧ x_at.toInt ≤ 940 := i_x_at
  have i_p1 : 0 ≤ p1.toInt ∧ p1.toInt ≤ 4 := i_p1
  have hl : lv_has ls 5 [(0, .ref h0), (1, .ref p0), (2, .int p1), (3, .int p2), (4, .int p3)] := hl
  refine lv_iload_n hx hb dX6_takeInto_0 rfl (lv_at hl 2 rfl) ?_
  refine lv_if_lt (tgt := 10) hx hb dX6_takeInto_1 (by decide) (fun c1 => False.elim (bad_lt (lt_i (a := p1.toInt) (b := 0) rfl rfl c1) i_p1.1 (Int.le_refl _) (by decide))) (fun c1 => ?_)
  have dc1 : 0 ≤ p1.toInt := nlt_i (a := p1.toInt) (b := 0) rfl rfl c1
  refine lv_iload_n hx hb dX6_takeInto_4 rfl (lv_at hl 2 rfl) ?_
  refine lv_aload_n hx hb dX6_takeInto_5 rfl (lv_at hl 1 rfl) ?_
  refine va_alen (v := 5) hx hb hK hP 3 0 rfl rfl rfl dX6_takeInto_6 ?_
  refine lv_icmp_lt (tgt := 16) hx hb dX6_takeInto_7 (by decide) (fun c2 => ?_) (fun c2 => False.elim (bad_le (nlt_i (a := p1.toInt) (b := 5) rfl rfl c2) (Int.le_refl _) i_p1.2 (by decide)))
  have dc2 : p1.toInt < 5 := lt_i (a := p1.toInt) (b := 5) rfl rfl c2
  refine lv_aload_n hx hb dX6_takeInto_16 rfl (lv_at hl 0 rfl) ?_
  refine lv_iload_n hx hb dX6_takeInto_17 rfl (lv_at hl 3 rfl) ?_
  refine lv_iload hx hb dX6_takeInto_18 (lv_at hl 4 rfl) ?_
  refine call_Vi (wr := [(h_bytes, .inl (cB, 940, .inl f_bytes)), (h_wordNames, .inl (cJ, 23, .inr (.inl f_wordNames))), (p0, .inl (cI, 5, .inl f_p0))]) (As := [.int p2, .int p3]) (rest := []) hx hb hml hown hw (m_X6_isNumberWithin l D cI cJ cB cP cM cZ h0 Fh x_kind x_place x_value x_faultKind x_faultPlace p2 p3 _ e_kind e_place e_value e_faultKind e_faultPlace) wV_X6_83_X6_isNumberWithin dX6_takeInto_20 hK hP hD hS hA [0] [1, 2, 3] rfl rfl (by decide) (by decide) (by decide) 0 6 rfl rfl GG.fb hG.at hl.1 rfl (Nat.le_of_ble_eq_true rfl) ⟨(Nat.le_of_ble_eq_true rfl), (Nat.le_of_ble_eq_true rfl)⟩ ⟨(Nat.le_of_ble_eq_true rfl), (Nat.le_of_ble_eq_true rfl)⟩ (fun r3 u H locs hp hP hD hS => ?_)
  rcases hp with ⟨F4, y5, y6, t7, t8, t9, t10, t11, rfl, rfl⟩ | ⟨t12, t13, t14, t15, rfl, rfl⟩
  · have hP : va_P D vwCl [(h_bytes, .inl (cB, 940, .inl f_bytes)), (h_wordNames, .inl (cJ, 23, .inr (.inl f_wordNames))), (p0, .inl (cI, 5, .inl f_p0)), (h0, .inr (6, vL 12 F4))] H := hP
    have hD : va_D A [(h_bytes, .inl (cB, 940, .inl f_bytes)), (h_wordNames, .inl (cJ, 23, .inr (.inl f_wordNames))), (p0, .inl (cI, 5, .inl f_p0)), (h0, .inr (6, vL 12 F4))] := hD
    refine W.widen (k := 0) (n := 0) (Nat.le_of_ble_eq_true rfl) (Nat.le_of_ble_eq_true rfl) ?_
    refine lv_if_ne (tgt := 28) hx hb dX6_takeInto_23 (by decide) (fun g => absurd (by decide) g) (fun _ => ?_)
    refine lv_iconst (v := 0) hx hb dX6_takeInto_26 (by decide) ?_
    exact ret_i (v := 0) hx hb hr hlocks hS (hP.sub (ws' := [(h0, .inr (6, vL 12 F4)), (h_bytes, .inl (cB, 940, .inl f_bytes)), (h_wordNames, .inl (cJ, 23, .inr (.inl f_wordNames))), (p0, .inl (cI, 5, .inl f_p0))]) [3, 0, 1, 2] rfl) (hD.sub (ws' := [(h0, .inr (6, vL 12 F4)), (h_bytes, .inl (cB, 940, .inl f_bytes)), (h_wordNames, .inl (cJ, 23, .inr (.inl f_wordNames))), (p0, .inl (cI, 5, .inl f_p0))]) [3, 0, 1, 2] (by decide) rfl) dX6_takeInto_27 rfl (Nat.le_of_ble_eq_true rfl) (Nat.le_of_ble_eq_true rfl) (Or.inl ⟨F4, y5, y6, (SAME.tr SAME.rf t7 (by decide)), t8, t9, t10, dc1, dc2, (num_0 t11), rfl, rfl⟩)
  · have hP : va_P D vwCl [(h_bytes, .inl (cB, 940, .inl f_bytes)), (h_wordNames, .inl (cJ, 23, .inr (.inl f_wordNames))), (p0, .inl (cI, 5, .inl f_p0)), (h0, .inr (6, vL 12 Fh))] H := hP
    have hD : va_D A [(h_bytes, .inl (cB, 940, .inl f_bytes)), (h_wordNames, .inl (cJ, 23, .inr (.inl f_wordNames))), (p0, .inl (cI, 5, .inl f_p0)), (h0, .inr (6, vL 12 Fh))] := hD
    refine W.widen (k := 0) (n := 0) (Nat.le_of_ble_eq_true rfl) (Nat.le_of_ble_eq_true rfl) ?_
    have k17 : 3 ≤ x_kind.toInt ∧ x_kind.toInt ≤ 3 := ⟨Int.le_trans (Int.le_refl _) (Int.le_of_eq t12.symm), Int.le_trans (Int.le_of_eq t12) (Int.le_refl _)⟩
    refine lv_if_ne (tgt := 28) hx hb dX6_takeInto_23 (by decide) (fun _ => ?_) (fun g => absurd g (by decide))
    refine lv_aload_n hx hb dX6_takeInto_28 rfl (lv_at hl 1 rfl) ?_
    refine lv_iload_n hx hb dX6_takeInto_29 rfl (lv_at hl 2 rfl) ?_
    refine lv_aload_n hx hb dX6_takeInto_30 rfl (lv_at hl 0 rfl) ?_
    refine get_f (D := D) (ci := 6) (v := .int x_value) (C := RX6) (T := TX6) (N := 12) hx hb hw inAX6 hown hK hP 3 rfl rfl 4 (by decide) (hw _ q_97) (fun _ h9 => h9) e_value dX6_takeInto_31 ?_
    obtain ⟨g18, eg18⟩ : ∃ z : Nat → Int32, upd f_p0 p1.toNatClampNeg x_value = z := ⟨_, rfl⟩
    refine iast_g hx hb hK hP hD hS 2 0 rfl rfl (ix_k i_p1 (by decide) (by decide)) eg18 dX6_takeInto_34 (fun H locs hP hD hS => ?_)
    have hP : va_P D vwCl [(h_bytes, .inl (cB, 940, .inl f_bytes)), (h_wordNames, .inl (cJ, 23, .inr (.inl f_wordNames))), (p0, .inl (cI, 5, .inl g18)), (h0, .inr (6, vL 12 Fh))] H := hP
    have hD : va_D A [(h_bytes, .inl (cB, 940, .inl f_bytes)), (h_wordNames, .inl (cJ, 23, .inr (.inl f_wordNames))), (p0, .inl (cI, 5, .inl g18)), (h0, .inr (6, vL 12 Fh))] := hD
    refine lv_aload_n hx hb dX6_takeInto_35 rfl (lv_at hl 0 rfl) ?_
    refine call_Vv (wr := [(p0, .inl (cI, 5, .inl g18))]) (As := []) (rest := []) hx hb hml hown hw (m_X6_advance l D cI cJ cB cP cM cZ h0 h_bytes h_wordNames Fh x_length x_kind x_place x_value x_name x_at x_mostBytes f_bytes f_wordNames _ e_bytes e_length i_x_length e_kind e_place e_value e_name e_wordNames e_at i_x_at e_mostBytes s_bytes_0 s_wordNames_KN) wV_X6_66_X6_advance dX6_takeInto_36 hK hP hD hS hA [3, 0, 1] [2] rfl rfl (by decide) (by decide) (by decide) 0 6 rfl rfl GG.fb hG.at hl.1 rfl (Nat.le_of_ble_eq_true rfl) ⟨(Nat.le_of_ble_eq_true rfl), (Nat.le_of_ble_eq_true rfl)⟩ ⟨(Nat.le_of_ble_eq_true rfl), (Nat.le_of_ble_eq_true rfl)⟩ (fun u H locs hp hP hD hS => ?_)
    obtain ⟨F20, y21, y22, y23, y24, y25, t26, t27, t28, t29, t30, t31, t32, t33, t34, t35, t36, t37, rfl⟩ := hp
    have hP : va_P D vwCl [(p0, .inl (cI, 5, .inl g18)), (h0, .inr (6, vL 12 F20)), (h_bytes, .inl (cB, 940, .inl f_bytes)), (h_wordNames, .inl (cJ, 23, .inr (.inl f_wordNames)))] H := hP
    have hD : va_D A [(p0, .inl (cI, 5, .inl g18)), (h0, .inr (6, vL 12 F20)), (h_bytes, .inl (cB, 940, .inl f_bytes)), (h_wordNames, .inl (cJ, 23, .inr (.inl f_wordNames)))] := hD
    refine W.widen (k := 0) (n := 0) (Nat.le_of_ble_eq_true rfl) (Nat.le_of_ble_eq_true rfl) ?_
    refine lv_iconst (v := 1) hx hb dX6_takeInto_39 (by decide) ?_
    exact ret_i (v := 1) hx hb hr hlocks hS (hP.sub (ws' := [(h0, .inr (6, vL 12 F20)), (h_bytes, .inl (cB, 940, .inl f_bytes)), (h_wordNames, .inl (cJ, 23, .inr (.inl f_wordNames))), (p0, .inl (cI, 5, .inl g18))]) [1, 2, 3, 0] rfl) (hD.sub (ws' := [(h0, .inr (6, vL 12 F20)), (h_bytes, .inl (cB, 940, .inl f_bytes)), (h_wordNames, .inl (cJ, 23, .inr (.inl f_wordNames))), (p0, .inl (cI, 5, .inl g18))]) [1, 2, 3, 0] (by decide) rfl) dX6_takeInto_40 rfl (Nat.le_of_ble_eq_true rfl) (Nat.le_of_ble_eq_true rfl) (Or.inr ⟨F20, y21, y22, y23, y24, y25, g18, (SAME.tr SAME.rf t26 (by decide)), t27, t28, t29, t30, t31, t32, t33, t34, dc1, dc2, t12, t13, t14, eg18, (num_1 (by omega) ⟨by omega, by omega⟩ t35), (by have zl1 : (1 : Int32).toInt = 1 := (by decide); omega), t36, t37, rfl, rfl⟩)
set_option maxHeartbeats 4000000 in
set_option maxRecDepth 100000 in
theorem m_X1_readSetting (l : Launch) (D : va_G) (cI cJ cB cP cM cZ : ClassId) (z0 tU tL tM : Nat) (h0 : Nat) (h_settings : Nat) (p0 : Nat) (h_p0_bytes : Nat) (h_p0_wordNames : Nat) (Fh : Nat → Value) (x_settingsTold : Int32) (f_settings : Nat → Int32) (F_p0_ : Nat → Value) (x_p0_length : Int32) (x_p0_kind : Int32) (x_p0_place : Int32) (x_p0_value : Int32) (x_p0_name : Int64) (x_p0_faultKind : Int32) (x_p0_faultPlace : Int32) (x_p0_at : Int32) (x_p0_mostBytes : Int32) (f_p0_bytes : Nat → Int32) (f_p0_wordNames : Nat → Int64) (p1 : Int32) (sz : Nat) (e_settings : Fh 1 = .ref h_settings) (e_settingsTold : Fh 17 = .int x_settingsTold) (s_settings_0 : SG 0 0 5 40 f_settings) (e_p0_bytes : F_p0_ 0 = .ref h_p0_bytes) (e_p0_length : F_p0_ 1 = .int x_p0_length) (i_x_p0_length : IR 0 940 x_p0_length) (e_p0_kind : F_p0_ 2 = .int x_p0_kind) (e_p0_place : F_p0_ 3 = .int x_p0_place) (e_p0_value : F_p0_ 4 = .int x_p0_value) (e_p0_name : F_p0_ 5 = .long x_p0_name) (e_p0_faultKind : F_p0_ 7 = .int x_p0_faultKind) (e_p0_faultPlace : F_p0_ 8 = .int x_p0_faultPlace) (e_p0_wordNames : F_p0_ 9 = .ref h_p0_wordNames) (e_p0_at : F_p0_ 10 = .int x_p0_at) (i_x_p0_at : IR 0 940 x_p0_at) (e_p0_mostBytes : F_p0_ 11 = .int x_p0_mostBytes) (s_p0_bytes_0 : SG 0 939 (-128) 127 f_p0_bytes) (s_p0_wordNames_KN : KWN f_p0_wordNames) (i_p1 : IR 0 4 p1) (z_0 : (x_p0_kind.toInt = 2 → x_p0_value.toInt = wix x_p0_name.toInt)) (z_1 : x_p0_kind.toInt = 2) : CI l yX1_readSetting cX1_readSetting 3 (some .boolean) { frames := 3, cells := 0, slots := 0, locals := 67 } (GY D cI cJ cB cP cM cZ z0 tU tL tM [(h0, .inr (1, vL 18 Fh)), (h_settings, .inl (cI, 5, .inl f_settings)), (p0, .inr (6, vL 12 F_p0_)), (h_p0_bytes, .inl (cB, 940, .inl f_p0_bytes)), (h_p0_wordNames, .inl (cJ, 23, .inr (.inl f_p0_wordNames)))]) D [(h0, .inr (1, vL 18 Fh)), (h_settings, .inl (cI, 5, .inl f_settings)), (p0, .inr (6, vL 12 F_p0_)), (h_p0_bytes, .inl (cB, 940, .inl f_p0_bytes)), (h_p0_wordNames, .inl (cJ, 23, .inr (.inl f_p0_wordNames)))] sz [.ref h0, .ref p0, .int p1] (fun (r : Int32) (u : va_W) => (∃ (Gh : Nat → Value) (y_settingsTold : Int32) (G_p0_ : Nat → Value) (y_p0_kind : Int32) (y_p0_place : Int32) (y_p0_value : Int32) (y_p0_name : Int64) (y_p0_faultKind : Int32) (y_p0_faultPlace : Int32) (y_p0_at : Int32), SAME [17] Fh Gh ∧ Gh 17 = .int y_settingsTold ∧ SAME [2, 3, 4, 5, 7, 8, 10] F_p0_ G_p0_ ∧ G_p0_ 2 = .int y_p0_kind ∧ G_p0_ 3 = .int y_p0_place ∧ G_p0_ 4 = .int y_p0_value ∧ G_p0_ 5 = .long y_p0_name ∧ G_p0_ 7 = .int y_p0_faultKind ∧ IR 1 3 y_p0_faultKind ∧ G_p0_ 8 = .int y_p0_faultPlace ∧ G_p0_ 10 = .int y_p0_at ∧ IR 0 940 y_p0_at ∧ (∀ (ms : List Int) (b : Int) (rs : List Int), cSetK (tkA f_p0_bytes x_p0_length.toInt x_p0_mostBytes.toInt) (tkC x_p0_kind x_p0_place x_p0_value x_p0_name x_p0_at) (x_settingsTold, (f_settings 0).toInt, ms, b, rs) p1 = .inl (y_p0_faultKind.toInt, y_p0_faultPlace.toInt)) ∧ r = 0 ∧ u = [(h0, .inr (1, vL 18 Gh)), (h_settings, .inl (cI, 5, .inl f_settings)), (p0, .inr (6, vL 12 G_p0_)), (h_p0_bytes, .inl (cB, 940, .inl f_p0_bytes)), (h_p0_wordNames, .inl (cJ, 23, .inr (.inl f_p0_wordNames)))]) ∨ (∃ (Gh : Nat → Value) (y_settingsTold : Int32) (G_p0_ : Nat → Value) (y_p0_kind : Int32) (y_p0_place : Int32) (y_p0_value : Int32) (y_p0_name : Int64) (y_p0_at : Int32) (g_settings : Nat → Int32), SAME [17] Fh Gh ∧ Gh 17 = .int y_settingsTold ∧ SAME [2, 3, 4, 5, 10] F_p0_ G_p0_ ∧ G_p0_ 2 = .int y_p0_kind ∧ IR (-128) 127 y_p0_kind ∧ G_p0_ 3 = .int y_p0_place ∧ IR (-2147483648) 940 y_p0_place ∧ G_p0_ 4 = .int y_p0_value ∧ G_p0_ 5 = .long y_p0_name ∧ G_p0_ 10 = .int y_p0_at ∧ IR 0 940 y_p0_at ∧ SG 0 0 5 40 g_settings ∧ (∀ (ms : List Int) (b : Int) (rs : List Int), cSetK (tkA f_p0_bytes x_p0_length.toInt x_p0_mostBytes.toInt) (tkC x_p0_kind x_p0_place x_p0_value x_p0_name x_p0_at) (x_settingsTold, (f_settings 0).toInt, ms, b, rs) p1 = .inr ((tkC y_p0_kind y_p0_place y_p0_value y_p0_name y_p0_at), (y_settingsTold, (g_settings 0).toInt, ms, b, rs))) ∧ ((y_p0_kind.toInt = 2 → y_p0_value.toInt = wix y_p0_name.toInt)) ∧ r = 1 ∧ u = [(h0, .inr (1, vL 18 Gh)), (h_settings, .inl (cI, 5, .inl g_settings)), (p0, .inr (6, vL 12 G_p0_)), (h_p0_bytes, .inl (cB, 940, .inl f_p0_bytes)), (h_p0_wordNames, .inl (cJ, 23, .inr (.inl f_p0_wordNames)))])) := by
  refine CI_mk (by decide) (Nat.le_of_ble_eq_true rfl) ?_
  intro p e s m below meth c A ls E hAe hG hsz hP hD hA hS hl
  obtain ⟨hx, hb, hr, hw, hown, hlocks, hml, hnm⟩ := E
  have hK := hG.1.1
  have hAz := hG.hAz hAe hsz
  have hST := hG.st hAz
  have i_x_p0_length : 0 ≤ x_p0_length.toInt ∧ x_p0_length.toInt ≤ 940 := i_x_p0_length
  have i_x_p0_at : 0 ≤ x_p0_at.toInt ∧ x_p0_at.toInt ≤ 940 := i_x_p0_at
  have i_p1 : 0 ≤ p1.toInt ∧ p1.toInt ≤ 4 := i_p1
  have hl : lv_has ls 3 [(0, .ref h0), (1, .ref p0), (2, .int p1)] := hl
  by_cases k1 : p1 = 0
  · have dk1 : p1.toInt = 0 := eq_i rfl rfl k1
    have k2 : 0 ≤ p1.toInt ∧ p1.toInt ≤ 0 := ⟨i_p1.1, Int.le_trans (Int.le_of_eq dk1) (Int.le_refl _)⟩
    have hl : lv_has ls 3 [(0, .ref h0), (1, .ref p0), (2, .int 0)] := by have q := hl; rw [k1] at q; exact q
    refine lv_aload_n hx hb dX1_readSetting_0 rfl (lv_at hl 0 rfl) ?_
    refine get_f (D := D) (ci := 1) (v := .int x_settingsTold) (C := RX1) (T := TX1) (N := 18) hx hb hw inAX1 hown hK hP 0 rfl rfl 17 (by decide) (hw _ q_364) (fun _ h9 => h9) e_settingsTold dX1_readSetting_1 ?_
    refine lv_iload_n hx hb dX1_readSetting_4 rfl (lv_at hl 2 rfl) ?_
    refine lv_ishr hx hb dX1_readSetting_5 ?_
    refine lv_topi (fun v3 ev3 => ?_)
    refine lv_iconst (v := 1) hx hb dX1_readSetting_6 (by decide) ?_
    refine lv_iand hx hb dX1_readSetting_7 ?_
    refine lv_topi (fun v4 ev4 => ?_)
    have k5 : 0 ≤ v4.toInt ∧ v4.toInt ≤ 1 := by rw [ev4]; exact and_i v3 1 (by decide)
    refine lv_if_eq (tgt := 17) hx hb dX1_readSetting_8 (by decide) (fun c6 => ?_) (fun c6 => ?_)
    · have dc6 : v4.toInt = 0 := eq_i (a := v4.toInt) (b := 0) rfl rfl c6
      have k7 : 0 ≤ v4.toInt ∧ v4.toInt ≤ 0 := ⟨k5.1, Int.le_trans (Int.le_of_eq dc6) (Int.le_refl _)⟩
      refine lv_aload_n hx hb dX1_readSetting_17 rfl (lv_at hl 0 rfl) ?_
      refine lv_dup hx hb dX1_readSetting_18 rfl ?_
      refine get_f (D := D) (ci := 1) (v := .int x_settingsTold) (C := RX1) (T := TX1) (N := 18) hx hb hw inAX1 hown hK hP 0 rfl rfl 17 (by decide) (hw _ q_364) (fun _ h9 => h9) e_settingsTold dX1_readSetting_19 ?_
      refine lv_iconst (v := 1) hx hb dX1_readSetting_22 (by decide) ?_
      refine lv_iload_n hx hb dX1_readSetting_23 rfl (lv_at hl 2 rfl) ?_
      refine lv_ishl hx hb dX1_readSetting_24 ?_
      refine lv_ci (y := 1) (by decide +kernel) ?_
      refine lv_ior hx hb dX1_readSetting_25 ?_
      refine lv_topi (fun v8 ev8 => ?_)
      refine put_f (D := D) (ci := 1) (v := .int v8) (ty := .int) (C := RX1) (T := TX1) (N := 18) hx hb hw inAX1 tyX1 tyX1_ok nmX1 hown hK hP hD hS 0 rfl rfl 17 (by decide) (hw _ q_364) (fun _ h9 => h9) rfl (by decide +kernel) rfl rfl dX1_readSetting_26 (fun H locs F9 eF9 hP hD hS => ?_)
      have hP : va_P D vwCl [(h0, .inr (1, vL 18 F9)), (h_settings, .inl (cI, 5, .inl f_settings)), (p0, .inr (6, vL 12 F_p0_)), (h_p0_bytes, .inl (cB, 940, .inl f_p0_bytes)), (h_p0_wordNames, .inl (cJ, 23, .inr (.inl f_p0_wordNames)))] H := hP
      have hD : va_D A [(h0, .inr (1, vL 18 F9)), (h_settings, .inl (cI, 5, .inl f_settings)), (p0, .inr (6, vL 12 F_p0_)), (h_p0_bytes, .inl (cB, 940, .inl f_p0_bytes)), (h_p0_wordNames, .inl (cJ, 23, .inr (.inl f_p0_wordNames)))] := hD
      refine lv_aload_n hx hb dX1_readSetting_29 rfl (lv_at hl 1 rfl) ?_
      refine call_Vv (wr := [(h0, .inr (1, vL 18 F9)), (h_settings, .inl (cI, 5, .inl f_settings))]) (As := []) (rest := []) hx hb hml hown hw (m_X6_advance l D cI cJ cB cP cM cZ p0 h_p0_bytes h_p0_wordNames F_p0_ x_p0_length x_p0_kind x_p0_place x_p0_value x_p0_name x_p0_at x_p0_mostBytes f_p0_bytes f_p0_wordNames _ e_p0_bytes e_p0_length i_x_p0_length e_p0_kind e_p0_place e_p0_value e_p0_name e_p0_wordNames e_p0_at i_x_p0_at e_p0_mostBytes s_p0_bytes_0 s_p0_wordNames_KN) wV_X1_131_X6_advance dX1_readSetting_30 hK hP hD hS hA [2, 3, 4] [0, 1] rfl rfl (by decide) (by decide) (by decide) 0 6 rfl rfl GG.fb hG.1.at hl.1 rfl (Nat.le_of_ble_eq_true rfl) ⟨(Nat.le_of_ble_eq_true rfl), (Nat.le_of_ble_eq_true rfl)⟩ ⟨(Nat.le_of_ble_eq_true rfl), (Nat.le_of_ble_eq_true rfl)⟩ (fun u H locs hp hP hD hS => ?_)
      obtain ⟨F11, y12, y13, y14, y15, y16, t17, t18, t19, t20, t21, t22, t23, t24, t25, t26, t27, t28, rfl⟩ := hp
      have hP : va_P D vwCl [(h0, .inr (1, vL 18 F9)), (h_settings, .inl (cI, 5, .inl f_settings)), (p0, .inr (6, vL 12 F11)), (h_p0_bytes, .inl (cB, 940, .inl f_p0_bytes)), (h_p0_wordNames, .inl (cJ, 23, .inr (.inl f_p0_wordNames)))] H := hP
      have hD : va_D A [(h0, .inr (1, vL 18 F9)), (h_settings, .inl (cI, 5, .inl f_settings)), (p0, .inr (6, vL 12 F11)), (h_p0_bytes, .inl (cB, 940, .inl f_p0_bytes)), (h_p0_wordNames, .inl (cJ, 23, .inr (.inl f_p0_wordNames)))] := hD
      refine W.widen (k := 0) (n := 0) (Nat.le_of_ble_eq_true rfl) (Nat.le_of_ble_eq_true rfl) ?_
      refine lv_aload_n hx hb dX1_readSetting_33 rfl (lv_at hl 1 rfl) ?_
      refine lv_aload_n hx hb dX1_readSetting_34 rfl (lv_at hl 0 rfl) ?_
      have n30 : F9 1 = .ref h_settings := (get_ne eF9 (by decide) e_settings)
      refine get_f (D := D) (ci := 1) (v := .ref h_settings) (C := RX1) (T := TX1) (N := 18) hx hb hw inAX1 hown hK hP 0 rfl rfl 1 (by decide) (hw _ q_315) (fun _ h9 => h9) n30 dX1_readSetting_35 ?_
      refine lv_iload_n hx hb dX1_readSetting_38 rfl (lv_at hl 2 rfl) ?_
      refine va_getsN hx hb hST.2.2.1 hS hown (va_Nw.use rfl (hG.1.2.1 (.fieldLinkNest "FourSledge$Course" 134 "FourSledge" "SETTING_LEAST" "[I" "FourSledge") (by decide +kernel))) (fun _ h9 => h9) dX1_readSetting_39 ?_
      refine lv_iload_n hx hb dX1_readSetting_42 rfl (lv_at hl 2 rfl) ?_
      refine va_ti (v := .int (lF 0)) hx hb hST.2.2.2.1 hS (vp_in_nI (n := 0) (N := 5) (Nat.le_of_ble_eq_true rfl) (Nat.le_of_ble_eq_true rfl)) rfl dX1_readSetting_43 ?_
      refine lv_ci (y := 5) (by decide +kernel) ?_
      refine va_getsN hx hb hST.2.2.2.2.1 hS hown (va_Nw.use rfl (hG.1.2.1 (.fieldLinkNest "FourSledge$Course" 137 "FourSledge" "SETTING_MOST" "[I" "FourSledge") (by decide +kernel))) (fun _ h9 => h9) dX1_readSetting_44 ?_
      refine lv_iload_n hx hb dX1_readSetting_47 rfl (lv_at hl 2 rfl) ?_
      refine va_ti (v := .int (mF 0)) hx hb hST.2.2.2.2.2 hS (vp_in_nI (n := 0) (N := 5) (Nat.le_of_ble_eq_true rfl) (Nat.le_of_ble_eq_true rfl)) rfl dX1_readSetting_48 ?_
      refine lv_ci (y := 40) (by decide +kernel) ?_
      have n31 : F11 0 = .ref h_p0_bytes := (SAME.at t17 (by decide) e_p0_bytes)
      have n32 : F11 1 = .int x_p0_length := (SAME.at t17 (by decide) e_p0_length)
      have n33 : F11 7 = .int x_p0_faultKind := (SAME.at t17 (by decide) e_p0_faultKind)
      have n34 : F11 8 = .int x_p0_faultPlace := (SAME.at t17 (by decide) e_p0_faultPlace)
      have n35 : F11 9 = .ref h_p0_wordNames := (SAME.at t17 (by decide) e_p0_wordNames)
      have n36 : F11 11 = .int x_p0_mostBytes := (SAME.at t17 (by decide) e_p0_mostBytes)
      refine call_Vi (wr := [(h0, .inr (1, vL 18 F9))]) (As := [.ref h_settings, .int 0, .int 5, .int 40]) (rest := []) hx hb hml hown hw (m_X6_takeInto_5 l D cI cJ cB cP cM cZ p0 h_p0_bytes h_p0_wordNames h_settings F11 x_p0_length y12 y13 y14 y15 x_p0_faultKind x_p0_faultPlace y16 x_p0_mostBytes f_p0_bytes f_p0_wordNames f_settings 0 5 40 _ n31 n32 i_x_p0_length t18 t20 t22 t23 n33 n34 n35 t24 t25 n36 s_p0_bytes_0 s_p0_wordNames_KN (show 0 ≤ (0 : Int32).toInt ∧ (0 : Int32).toInt ≤ 4 by decide)) wV_X1_140_X6_takeInto dX1_readSetting_49 hK hP hD hS hA [2, 3, 4, 1] [0] rfl rfl (by decide) (by decide) (by decide) 0 6 rfl rfl GG.fb hG.1.at hl.1 rfl (Nat.le_of_ble_eq_true rfl) ⟨(Nat.le_of_ble_eq_true rfl), (Nat.le_of_ble_eq_true rfl)⟩ ⟨(Nat.le_of_ble_eq_true rfl), (Nat.le_of_ble_eq_true rfl)⟩ (fun r37 u H locs hp hP hD hS => ?_)
      have zl0 : (0 : Int32).toInt = 0 := by decide
      have zl5 : (5 : Int32).toInt = 5 := by decide
      have zl40 : (40 : Int32).toInt = 40 := by decide
      rcases hp with hp | hp
      · obtain ⟨F38, y39, y40, t41, t42, t43, t44, t45, t46, t47, rfl, rfl⟩ := hp
        have hP : va_P D vwCl [(h0, .inr (1, vL 18 F9)), (p0, .inr (6, vL 12 F38)), (h_p0_bytes, .inl (cB, 940, .inl f_p0_bytes)), (h_p0_wordNames, .inl (cJ, 23, .inr (.inl f_p0_wordNames))), (h_settings, .inl (cI, 5, .inl f_settings))] H := hP
        have hD : va_D A [(h0, .inr (1, vL 18 F9)), (p0, .inr (6, vL 12 F38)), (h_p0_bytes, .inl (cB, 940, .inl f_p0_bytes)), (h_p0_wordNames, .inl (cJ, 23, .inr (.inl f_p0_wordNames))), (h_settings, .inl (cI, 5, .inl f_settings))] := hD
        refine W.widen (k := 0) (n := 0) (Nat.le_of_ble_eq_true rfl) (Nat.le_of_ble_eq_true rfl) ?_
        exact ret_i (v := 0) hx hb hr hlocks hS (hP.sub (ws' := [(h0, .inr (1, vL 18 F9)), (h_settings, .inl (cI, 5, .inl f_settings)), (p0, .inr (6, vL 12 F38)), (h_p0_bytes, .inl (cB, 940, .inl f_p0_bytes)), (h_p0_wordNames, .inl (cJ, 23, .inr (.inl f_p0_wordNames)))]) [0, 4, 1, 2, 3] rfl) (hD.sub (ws' := [(h0, .inr (1, vL 18 F9)), (h_settings, .inl (cI, 5, .inl f_settings)), (p0, .inr (6, vL 12 F38)), (h_p0_bytes, .inl (cB, 940, .inl f_p0_bytes)), (h_p0_wordNames, .inl (cJ, 23, .inr (.inl f_p0_wordNames)))]) [0, 4, 1, 2, 3] (by decide) rfl) dX1_readSetting_52 rfl (Nat.le_of_ble_eq_true rfl) (Nat.le_of_ble_eq_true rfl) (Or.inl ⟨F9, v8, F38, y12, y13, y14, y15, y39, y40, y16, (SAME.up eF9 SAME.rf (by decide)), (get_eq eF9), (SAME.tr (SAME.tr SAME.rf t17 (by decide)) t41 (by decide)), (SAME.at t41 (by decide) t18), (SAME.at t41 (by decide) t20), (SAME.at t41 (by decide) t22), (SAME.at t41 (by decide) t23), t42, (ir_wk t43 (by decide) (by decide)), t44, (SAME.at t41 (by decide) t24), t25, (fun ms b rs => by rw [k1, cSetK_0]; exact cSet_f (show ((x_settingsTold >>> ((0 : Int32) &&& 31)) &&& 1).toInt = 0 by rw [← ev3, ← ev4]; exact dc6) (at_tk t26 (by omega)) t47), rfl, rfl⟩)
      · refine hp.elim (fun F48 h9z0 => h9z0.elim (fun y49 h9z1 => h9z1.elim (fun y50 h9z2 => h9z2.elim (fun y51 h9z3 => h9z3.elim (fun y52 h9z4 => h9z4.elim (fun y53 h9z5 => h9z5.elim (fun g54 h9z6 => h9z6.elim (fun t55 h9z7 => h9z7.elim (fun t56 h9z8 => h9z8.elim (fun t57 h9z9 => h9z9.elim (fun t58 h9z10 => h9z10.elim (fun t59 h9z11 => h9z11.elim (fun t60 h9z12 => h9z12.elim (fun t61 h9z13 => h9z13.elim (fun t62 h9z14 => h9z14.elim (fun t63 h9z15 => h9z15.elim (fun t64 h9z16 => h9z16.elim (fun t65 h9z17 => h9z17.elim (fun t66 h9z18 => h9z18.elim (fun t67 h9z19 => h9z19.elim (fun t68 h9z20 => h9z20.elim (fun t69 h9z21 => h9z21.elim (fun t70 h9z22 => h9z22.elim (fun t71 h9z23 => h9z23.elim (fun t72 h9z24 => h9z24.elim (fun t73 h9z25 => h9z25.elim (fun heq926 h9z26 => ?_)))))))))))))))))))))))))))
        clear h9z0 h9z1 h9z2 h9z3 h9z4 h9z5 h9z6 h9z7 h9z8 h9z9 h9z10 h9z11 h9z12 h9z13 h9z14 h9z15 h9z16 h9z17 h9z18 h9z19 h9z20 h9z21 h9z22 h9z23 h9z24 h9z25
        subst heq926
        subst h9z26
        have hP : va_P D vwCl [(h0, .inr (1, vL 18 F9)), (p0, .inr (6, vL 12 F48)), (h_p0_bytes, .inl (cB, 940, .inl f_p0_bytes)), (h_p0_wordNames, .inl (cJ, 23, .inr (.inl f_p0_wordNames))), (h_settings, .inl (cI, 5, .inl g54))] H := hP
        have hD : va_D A [(h0, .inr (1, vL 18 F9)), (p0, .inr (6, vL 12 F48)), (h_p0_bytes, .inl (cB, 940, .inl f_p0_bytes)), (h_p0_wordNames, .inl (cJ, 23, .inr (.inl f_p0_wordNames))), (h_settings, .inl (cI, 5, .inl g54))] := hD
        refine W.widen (k := 0) (n := 0) (Nat.le_of_ble_eq_true rfl) (Nat.le_of_ble_eq_true rfl) ?_
        have k75 : 3 ≤ y12.toInt ∧ y12.toInt ≤ 3 := ⟨Int.le_trans (Int.le_refl _) (Int.le_of_eq t66.symm), Int.le_trans (Int.le_of_eq t66) (Int.le_refl _)⟩
        have k76 : 5 ≤ y14.toInt ∧ y14.toInt ≤ 2147483647 := ⟨Int.le_trans (Int.le_refl _) t67, (ir_any _).2⟩
        have k77 : 5 ≤ y14.toInt ∧ y14.toInt ≤ 40 := ⟨k76.1, Int.le_trans t68 (Int.le_refl _)⟩
        have r78 : SG 0 0 5 40 g54 := by rw [← t69]; exact s_settings_0.up (by decide) (Or.inr (Or.inr k77))
        exact ret_i (v := 1) hx hb hr hlocks hS (hP.sub (ws' := [(h0, .inr (1, vL 18 F9)), (h_settings, .inl (cI, 5, .inl g54)), (p0, .inr (6, vL 12 F48)), (h_p0_bytes, .inl (cB, 940, .inl f_p0_bytes)), (h_p0_wordNames, .inl (cJ, 23, .inr (.inl f_p0_wordNames)))]) [0, 4, 1, 2, 3] rfl) (hD.sub (ws' := [(h0, .inr (1, vL 18 F9)), (h_settings, .inl (cI, 5, .inl g54)), (p0, .inr (6, vL 12 F48)), (h_p0_bytes, .inl (cB, 940, .inl f_p0_bytes)), (h_p0_wordNames, .inl (cJ, 23, .inr (.inl f_p0_wordNames)))]) [0, 4, 1, 2, 3] (by decide) rfl) dX1_readSetting_52 rfl (Nat.le_of_ble_eq_true rfl) (Nat.le_of_ble_eq_true rfl) (Or.inr ⟨F9, v8, F48, y49, y50, y51, y52, y53, g54, (SAME.up eF9 SAME.rf (by decide)), (get_eq eF9), (SAME.tr (SAME.tr SAME.rf t17 (by decide)) t55 (by decide)), t56, t57, t58, t59, t60, t61, t62, t63, r78, (fun ms b rs => by rw [k1, cSetK_0]; exact cSet_o (show ((x_settingsTold >>> ((0 : Int32) &&& 31)) &&& 1).toInt = 0 by rw [← ev3, ← ev4]; exact dc6) (at_tk t26 (by omega)) t70 (ev8.trans (congrArg (fun z => x_settingsTold ||| z) (show (1 : Int32) = 1 <<< ((0 : Int32) &&& 31) by decide))) (by rw [if_pos rfl, tkC_v t71]; exact upd_0 t69 (by decide))), t72, rfl, rfl⟩)
    · have dc6 : v4.toInt ≠ 0 := ne_i (a := v4.toInt) (b := 0) rfl rfl c6
      have k79 : 1 ≤ v4.toInt ∧ v4.toInt ≤ 1 := ⟨ne_lo dc6 k5.1 ⟨Int.le_refl _, Int.le_refl _⟩ (by decide), k5.2⟩
      refine lv_aload_n hx hb dX1_readSetting_11 rfl (lv_at hl 1 rfl) ?_
      refine lv_iconst (v := 3) hx hb dX1_readSetting_12 (by decide) ?_
      refine call_Vi (wr := [(h0, .inr (1, vL 18 Fh)), (h_settings, .inl (cI, 5, .inl f_settings)), (h_p0_bytes, .inl (cB, 940, .inl f_p0_bytes)), (h_p0_wordNames, .inl (cJ, 23, .inr (.inl f_p0_wordNames)))]) (As := [.int 3]) (rest := []) hx hb hml hown hw (m_X6_fail l D cI cJ cB cP cM cZ p0 F_p0_ x_p0_place 3 _ e_p0_place) wV_X1_128_X6_fail dX1_readSetting_13 hK hP hD hS hA [2] [0, 1, 3, 4] rfl rfl (by decide) (by decide) (by decide) 0 6 rfl rfl GG.fb hG.1.at hl.1 rfl (Nat.le_of_ble_eq_true rfl) ⟨(Nat.le_of_ble_eq_true rfl), (Nat.le_of_ble_eq_true rfl)⟩ ⟨(Nat.le_of_ble_eq_true rfl), (Nat.le_of_ble_eq_true rfl)⟩ (fun r80 u H locs hp hP hD hS => ?_)
      have zl3 : (3 : Int32).toInt = 3 := by decide
      obtain ⟨F81, t82, t83, t84, rfl, rfl⟩ := hp
      have hP : va_P D vwCl [(h0, .inr (1, vL 18 Fh)), (h_settings, .inl (cI, 5, .inl f_settings)), (h_p0_bytes, .inl (cB, 940, .inl f_p0_bytes)), (h_p0_wordNames, .inl (cJ, 23, .inr (.inl f_p0_wordNames))), (p0, .inr (6, vL 12 F81))] H := hP
      have hD : va_D A [(h0, .inr (1, vL 18 Fh)), (h_settings, .inl (cI, 5, .inl f_settings)), (h_p0_bytes, .inl (cB, 940, .inl f_p0_bytes)), (h_p0_wordNames, .inl (cJ, 23, .inr (.inl f_p0_wordNames))), (p0, .inr (6, vL 12 F81))] := hD
      refine W.widen (k := 0) (n := 0) (Nat.le_of_ble_eq_true rfl) (Nat.le_of_ble_eq_true rfl) ?_
      exact ret_i (v := 0) hx hb hr hlocks hS (hP.sub (ws' := [(h0, .inr (1, vL 18 Fh)), (h_settings, .inl (cI, 5, .inl f_settings)), (p0, .inr (6, vL 12 F81)), (h_p0_bytes, .inl (cB, 940, .inl f_p0_bytes)), (h_p0_wordNames, .inl (cJ, 23, .inr (.inl f_p0_wordNames)))]) [0, 1, 4, 2, 3] rfl) (hD.sub (ws' := [(h0, .inr (1, vL 18 Fh)), (h_settings, .inl (cI, 5, .inl f_settings)), (p0, .inr (6, vL 12 F81)), (h_p0_bytes, .inl (cB, 940, .inl f_p0_bytes)), (h_p0_wordNames, .inl (cJ, 23, .inr (.inl f_p0_wordNames)))]) [0, 1, 4, 2, 3] (by decide) rfl) dX1_readSetting_16 rfl (Nat.le_of_ble_eq_true rfl) (Nat.le_of_ble_eq_true rfl) (Or.inl ⟨Fh, x_settingsTold, F81, x_p0_kind, x_p0_place, x_p0_value, x_p0_name, 3, x_p0_place, x_p0_at, SAME.rf, e_settingsTold, (SAME.tr SAME.rf t82 (by decide)), (SAME.at t82 (by decide) e_p0_kind), (SAME.at t82 (by decide) e_p0_place), (SAME.at t82 (by decide) e_p0_value), (SAME.at t82 (by decide) e_p0_name), t83, (show 1 ≤ (3 : Int32).toInt ∧ (3 : Int32).toInt ≤ 3 by decide), t84, (SAME.at t82 (by decide) e_p0_at), i_x_p0_at, (fun ms b rs => by rw [k1, cSetK_0]; exact inl_eq (cSet_t (show ((x_settingsTold >>> ((0 : Int32) &&& 31)) &&& 1).toInt ≠ 0 by rw [← ev3, ← ev4]; exact dc6)) (by decide) tkC_pl.symm), rfl, rfl⟩)
  have dk1 : p1.toInt ≠ 0 := ne_i rfl rfl k1
  have k86 : 1 ≤ p1.toInt ∧ p1.toInt ≤ 4 := ⟨ne_lo dk1 i_p1.1 ⟨Int.le_refl _, Int.le_refl _⟩ (by decide), i_p1.2⟩
  by_cases k87 : p1 = 1
  · have dk87 : p1.toInt = 1 := eq_i rfl rfl k87
    have k88 : 1 ≤ p1.toInt ∧ p1.toInt ≤ 1 := ⟨k86.1, Int.le_trans (Int.le_of_eq dk87) (Int.le_refl _)⟩
    have hl : lv_has ls 3 [(0, .ref h0), (1, .ref p0), (2, .int 1)] := by have q := hl; rw [k87] at q; exact q
    refine lv_aload_n hx hb dX1_readSetting_0 rfl (lv_at hl 0 rfl) ?_
    refine get_f (D := D) (ci := 1) (v := .int x_settingsTold) (C := RX1) (T := TX1) (N := 18) hx hb hw inAX1 hown hK hP 0 rfl rfl 17 (by decide) (hw _ q_364) (fun _ h9 => h9) e_settingsTold dX1_readSetting_1 ?_
    refine lv_iload_n hx hb dX1_readSetting_4 rfl (lv_at hl 2 rfl) ?_
    refine lv_ishr hx hb dX1_readSetting_5 ?_
    refine lv_topi (fun v89 ev89 => ?_)
    refine lv_iconst (v := 1) hx hb dX1_readSetting_6 (by decide) ?_
    refine lv_iand hx hb dX1_readSetting_7 ?_
    refine lv_topi (fun v90 ev90 => ?_)
    have k91 : 0 ≤ v90.toInt ∧ v90.toInt ≤ 1 := by rw [ev90]; exact and_i v89 1 (by decide)
    refine lv_if_eq (tgt := 17) hx hb dX1_readSetting_8 (by decide) (fun c92 => ?_) (fun c92 => ?_)
    · have dc92 : v90.toInt = 0 := eq_i (a := v90.toInt) (b := 0) rfl rfl c92
      have k93 : 0 ≤ v90.toInt ∧ v90.toInt ≤ 0 := ⟨k91.1, Int.le_trans (Int.le_of_eq dc92) (Int.le_refl _)⟩
      refine lv_aload_n hx hb dX1_readSetting_17 rfl (lv_at hl 0 rfl) ?_
      refine lv_dup hx hb dX1_readSetting_18 rfl ?_
      refine get_f (D := D) (ci := 1) (v := .int x_settingsTold) (C := RX1) (T := TX1) (N := 18) hx hb hw inAX1 hown hK hP 0 rfl rfl 17 (by decide) (hw _ q_364) (fun _ h9 => h9) e_settingsTold dX1_readSetting_19 ?_
      refine lv_iconst (v := 1) hx hb dX1_readSetting_22 (by decide) ?_
      refine lv_iload_n hx hb dX1_readSetting_23 rfl (lv_at hl 2 rfl) ?_
      refine lv_ishl hx hb dX1_readSetting_24 ?_
      refine lv_ci (y := 2) (by decide +kernel) ?_
      refine lv_ior hx hb dX1_readSetting_25 ?_
      refine lv_topi (fun v94 ev94 => ?_)
      refine put_f (D := D) (ci := 1) (v := .int v94) (ty := .int) (C := RX1) (T := TX1) (N := 18) hx hb hw inAX1 tyX1 tyX1_ok nmX1 hown hK hP hD hS 0 rfl rfl 17 (by decide) (hw _ q_364) (fun _ h9 => h9) rfl (by decide +kernel) rfl rfl dX1_readSetting_26 (fun H locs F95 eF95 hP hD hS => ?_)
      have hP : va_P D vwCl [(h0, .inr (1, vL 18 F95)), (h_settings, .inl (cI, 5, .inl f_settings)), (p0, .inr (6, vL 12 F_p0_)), (h_p0_bytes, .inl (cB, 940, .inl f_p0_bytes)), (h_p0_wordNames, .inl (cJ, 23, .inr (.inl f_p0_wordNames)))] H := hP
      have hD : va_D A [(h0, .inr (1, vL 18 F95)), (h_settings, .inl (cI, 5, .inl f_settings)), (p0, .inr (6, vL 12 F_p0_)), (h_p0_bytes, .inl (cB, 940, .inl f_p0_bytes)), (h_p0_wordNames, .inl (cJ, 23, .inr (.inl f_p0_wordNames)))] := hD
      refine lv_aload_n hx hb dX1_readSetting_29 rfl (lv_at hl 1 rfl) ?_
      refine call_Vv (wr := [(h0, .inr (1, vL 18 F95)), (h_settings, .inl (cI, 5, .inl f_settings))]) (As := []) (rest := []) hx hb hml hown hw (m_X6_advance l D cI cJ cB cP cM cZ p0 h_p0_bytes h_p0_wordNames F_p0_ x_p0_length x_p0_kind x_p0_place x_p0_value x_p0_name x_p0_at x_p0_mostBytes f_p0_bytes f_p0_wordNames _ e_p0_bytes e_p0_length i_x_p0_length e_p0_kind e_p0_place e_p0_value e_p0_name e_p0_wordNames e_p0_at i_x_p0_at e_p0_mostBytes s_p0_bytes_0 s_p0_wordNames_KN) wV_X1_131_X6_advance dX1_readSetting_30 hK hP hD hS hA [2, 3, 4] [0, 1] rfl rfl (by decide) (by decide) (by decide) 0 6 rfl rfl GG.fb hG.1.at hl.1 rfl (Nat.le_of_ble_eq_true rfl) ⟨(Nat.le_of_ble_eq_true rfl), (Nat.le_of_ble_eq_true rfl)⟩ ⟨(Nat.le_of_ble_eq_true rfl), (Nat.le_of_ble_eq_true rfl)⟩ (fun u H locs hp hP hD hS => ?_)
      obtain ⟨F97, y98, y99, y100, y101, y102, t103, t104, t105, t106, t107, t108, t109, t110, t111, t112, t113, t114, rfl⟩ := hp
      have hP : va_P D vwCl [(h0, .inr (1, vL 18 F95)), (h_settings, .inl (cI, 5, .inl f_settings)), (p0, .inr (6, vL 12 F97)), (h_p0_bytes, .inl (cB, 940, .inl f_p0_bytes)), (h_p0_wordNames, .inl (cJ, 23, .inr (.inl f_p0_wordNames)))] H := hP
      have hD : va_D A [(h0, .inr (1, vL 18 F95)), (h_settings, .inl (cI, 5, .inl f_settings)), (p0, .inr (6, vL 12 F97)), (h_p0_bytes, .inl (cB, 940, .inl f_p0_bytes)), (h_p0_wordNames, .inl (cJ, 23, .inr (.inl f_p0_wordNames)))] := hD
      refine W.widen (k := 0) (n := 0) (Nat.le_of_ble_eq_true rfl) (Nat.le_of_ble_eq_true rfl) ?_
      refine lv_aload_n hx hb dX1_readSetting_33 rfl (lv_at hl 1 rfl) ?_
      refine lv_aload_n hx hb dX1_readSetting_34 rfl (lv_at hl 0 rfl) ?_
      have n116 : F95 1 = .ref h_settings := (get_ne eF95 (by decide) e_settings)
      refine get_f (D := D) (ci := 1) (v := .ref h_settings) (C := RX1) (T := TX1) (N := 18) hx hb hw inAX1 hown hK hP 0 rfl rfl 1 (by decide) (hw _ q_315) (fun _ h9 => h9) n116 dX1_readSetting_35 ?_
      refine lv_iload_n hx hb dX1_readSetting_38 rfl (lv_at hl 2 rfl) ?_
      refine va_getsN hx hb hST.2.2.1 hS hown (va_Nw.use rfl (hG.1.2.1 (.fieldLinkNest "FourSledge$Course" 134 "FourSledge" "SETTING_LEAST" "[I" "FourSledge") (by decide +kernel))) (fun _ h9 => h9) dX1_readSetting_39 ?_
      refine lv_iload_n hx hb dX1_readSetting_42 rfl (lv_at hl 2 rfl) ?_
      refine va_ti (v := .int (lF 1)) hx hb hST.2.2.2.1 hS (vp_in_nI (n := 1) (N := 5) (Nat.le_of_ble_eq_true rfl) (Nat.le_of_ble_eq_true rfl)) rfl dX1_readSetting_43 ?_
      refine lv_ci (y := 100) (by decide +kernel) ?_
      refine va_getsN hx hb hST.2.2.2.2.1 hS hown (va_Nw.use rfl (hG.1.2.1 (.fieldLinkNest "FourSledge$Course" 137 "FourSledge" "SETTING_MOST" "[I" "FourSledge") (by decide +kernel))) (fun _ h9 => h9) dX1_readSetting_44 ?_
      refine lv_iload_n hx hb dX1_readSetting_47 rfl (lv_at hl 2 rfl) ?_
      refine va_ti (v := .int (mF 1)) hx hb hST.2.2.2.2.2 hS (vp_in_nI (n := 1) (N := 5) (Nat.le_of_ble_eq_true rfl) (Nat.le_of_ble_eq_true rfl)) rfl dX1_readSetting_48 ?_
      refine lv_ci (y := 300) (by decide +kernel) ?_
      have n117 : F97 0 = .ref h_p0_bytes := (SAME.at t103 (by decide) e_p0_bytes)
      have n118 : F97 1 = .int x_p0_length := (SAME.at t103 (by decide) e_p0_length)
      have n119 : F97 7 = .int x_p0_faultKind := (SAME.at t103 (by decide) e_p0_faultKind)
      have n120 : F97 8 = .int x_p0_faultPlace := (SAME.at t103 (by decide) e_p0_faultPlace)
      have n121 : F97 9 = .ref h_p0_wordNames := (SAME.at t103 (by decide) e_p0_wordNames)
      have n122 : F97 11 = .int x_p0_mostBytes := (SAME.at t103 (by decide) e_p0_mostBytes)
      refine call_Vi (wr := [(h0, .inr (1, vL 18 F95))]) (As := [.ref h_settings, .int 1, .int 100, .int 300]) (rest := []) hx hb hml hown hw (m_X6_takeInto_5 l D cI cJ cB cP cM cZ p0 h_p0_bytes h_p0_wordNames h_settings F97 x_p0_length y98 y99 y100 y101 x_p0_faultKind x_p0_faultPlace y102 x_p0_mostBytes f_p0_bytes f_p0_wordNames f_settings 1 100 300 _ n117 n118 i_x_p0_length t104 t106 t108 t109 n119 n120 n121 t110 t111 n122 s_p0_bytes_0 s_p0_wordNames_KN (show 0 ≤ (1 : Int32).toInt ∧ (1 : Int32).toInt ≤ 4 by decide)) wV_X1_140_X6_takeInto dX1_readSetting_49 hK hP hD hS hA [2, 3, 4, 1] [0] rfl rfl (by decide) (by decide) (by decide) 0 6 rfl rfl GG.fb hG.1.at hl.1 rfl (Nat.le_of_ble_eq_true rfl) ⟨(Nat.le_of_ble_eq_true rfl), (Nat.le_of_ble_eq_true rfl)⟩ ⟨(Nat.le_of_ble_eq_true rfl), (Nat.le_of_ble_eq_true rfl)⟩ (fun r123 u H locs hp hP hD hS => ?_)
      have zl1 : (1 : Int32).toInt = 1 := by decide
      have zl100 : (100 : Int32).toInt = 100 := by decide
      have zl300 : (300 : Int32).toInt = 300 := by decide
      rcases hp with hp | hp
      · obtain ⟨F124, y125, y126, t127, t128, t129, t130, t131, t132, t133, rfl, rfl⟩ := hp
        have hP : va_P D vwCl [(h0, .inr (1, vL 18 F95)), (p0, .inr (6, vL 12 F124)), (h_p0_bytes, .inl (cB, 940, .inl f_p0_bytes)), (h_p0_wordNames, .inl (cJ, 23, .inr (.inl f_p0_wordNames))), (h_settings, .inl (cI, 5, .inl f_settings))] H := hP
        have hD : va_D A [(h0, .inr (1, vL 18 F95)), (p0, .inr (6, vL 12 F124)), (h_p0_bytes, .inl (cB, 940, .inl f_p0_bytes)), (h_p0_wordNames, .inl (cJ, 23, .inr (.inl f_p0_wordNames))), (h_settings, .inl (cI, 5, .inl f_settings))] := hD
        refine W.widen (k := 0) (n := 0) (Nat.le_of_ble_eq_true rfl) (Nat.le_of_ble_eq_true rfl) ?_
        exact ret_i (v := 0) hx hb hr hlocks hS (hP.sub (ws' := [(h0, .inr (1, vL 18 F95)), (h_settings, .inl (cI, 5, .inl f_settings)), (p0, .inr (6, vL 12 F124)), (h_p0_bytes, .inl (cB, 940, .inl f_p0_bytes)), (h_p0_wordNames, .inl (cJ, 23, .inr (.inl f_p0_wordNames)))]) [0, 4, 1, 2, 3] rfl) (hD.sub (ws' := [(h0, .inr (1, vL 18 F95)), (h_settings, .inl (cI, 5, .inl f_settings)), (p0, .inr (6, vL 12 F124)), (h_p0_bytes, .inl (cB, 940, .inl f_p0_bytes)), (h_p0_wordNames, .inl (cJ, 23, .inr (.inl f_p0_wordNames)))]) [0, 4, 1, 2, 3] (by decide) rfl) dX1_readSetting_52 rfl (Nat.le_of_ble_eq_true rfl) (Nat.le_of_ble_eq_true rfl) (Or.inl ⟨F95, v94, F124, y98, y99, y100, y101, y125, y126, y102, (SAME.up eF95 SAME.rf (by decide)), (get_eq eF95), (SAME.tr (SAME.tr SAME.rf t103 (by decide)) t127 (by decide)), (SAME.at t127 (by decide) t104), (SAME.at t127 (by decide) t106), (SAME.at t127 (by decide) t108), (SAME.at t127 (by decide) t109), t128, (ir_wk t129 (by decide) (by decide)), t130, (SAME.at t127 (by decide) t110), t111, (fun ms b rs => by rw [k87, cSetK_1]; exact cSet_f (show ((x_settingsTold >>> ((1 : Int32) &&& 31)) &&& 1).toInt = 0 by rw [← ev89, ← ev90]; exact dc92) (at_tk t112 (by omega)) t133), rfl, rfl⟩)
      · refine hp.elim (fun F134 h9z0 => h9z0.elim (fun y135 h9z1 => h9z1.elim (fun y136 h9z2 => h9z2.elim (fun y137 h9z3 => h9z3.elim (fun y138 h9z4 => h9z4.elim (fun y139 h9z5 => h9z5.elim (fun g140 h9z6 => h9z6.elim (fun t141 h9z7 => h9z7.elim (fun t142 h9z8 => h9z8.elim (fun t143 h9z9 => h9z9.elim (fun t144 h9z10 => h9z10.elim (fun t145 h9z11 => h9z11.elim (fun t146 h9z12 => h9z12.elim (fun t147 h9z13 => h9z13.elim (fun t148 h9z14 => h9z14.elim (fun t149 h9z15 => h9z15.elim (fun t150 h9z16 => h9z16.elim (fun t151 h9z17 => h9z17.elim (fun t152 h9z18 => h9z18.elim (fun t153 h9z19 => h9z19.elim (fun t154 h9z20 => h9z20.elim (fun t155 h9z21 => h9z21.elim (fun t156 h9z22 => h9z22.elim (fun t157 h9z23 => h9z23.elim (fun t158 h9z24 => h9z24.elim (fun t159 h9z25 => h9z25.elim (fun heq926 h9z26 => ?_)))))))))))))))))))))))))))
        clear h9z0 h9z1 h9z2 h9z3 h9z4 h9z5 h9z6 h9z7 h9z8 h9z9 h9z10 h9z11 h9z12 h9z13 h9z14 h9z15 h9z16 h9z17 h9z18 h9z19 h9z20 h9z21 h9z22 h9z23 h9z24 h9z25
        subst heq926
        subst h9z26
        have hP : va_P D vwCl [(h0, .inr (1, vL 18 F95)), (p0, .inr (6, vL 12 F134)), (h_p0_bytes, .inl (cB, 940, .inl f_p0_bytes)), (h_p0_wordNames, .inl (cJ, 23, .inr (.inl f_p0_wordNames))), (h_settings, .inl (cI, 5, .inl g140))] H := hP
        have hD : va_D A [(h0, .inr (1, vL 18 F95)), (p0, .inr (6, vL 12 F134)), (h_p0_bytes, .inl (cB, 940, .inl f_p0_bytes)), (h_p0_wordNames, .inl (cJ, 23, .inr (.inl f_p0_wordNames))), (h_settings, .inl (cI, 5, .inl g140))] := hD
        refine W.widen (k := 0) (n := 0) (Nat.le_of_ble_eq_true rfl) (Nat.le_of_ble_eq_true rfl) ?_
        have k161 : 3 ≤ y98.toInt ∧ y98.toInt ≤ 3 := ⟨Int.le_trans (Int.le_refl _) (Int.le_of_eq t152.symm), Int.le_trans (Int.le_of_eq t152) (Int.le_refl _)⟩
        have k162 : 100 ≤ y100.toInt ∧ y100.toInt ≤ 2147483647 := ⟨Int.le_trans (Int.le_refl _) t153, (ir_any _).2⟩
        have k163 : 100 ≤ y100.toInt ∧ y100.toInt ≤ 300 := ⟨k162.1, Int.le_trans t154 (Int.le_refl _)⟩
        have r164 : SG 0 0 5 40 g140 := by rw [← t155]; exact s_settings_0.up (by decide) (Or.inr (Or.inl (by decide)))
        exact ret_i (v := 1) hx hb hr hlocks hS (hP.sub (ws' := [(h0, .inr (1, vL 18 F95)), (h_settings, .inl (cI, 5, .inl g140)), (p0, .inr (6, vL 12 F134)), (h_p0_bytes, .inl (cB, 940, .inl f_p0_bytes)), (h_p0_wordNames, .inl (cJ, 23, .inr (.inl f_p0_wordNames)))]) [0, 4, 1, 2, 3] rfl) (hD.sub (ws' := [(h0, .inr (1, vL 18 F95)), (h_settings, .inl (cI, 5, .inl g140)), (p0, .inr (6, vL 12 F134)), (h_p0_bytes, .inl (cB, 940, .inl f_p0_bytes)), (h_p0_wordNames, .inl (cJ, 23, .inr (.inl f_p0_wordNames)))]) [0, 4, 1, 2, 3] (by decide) rfl) dX1_readSetting_52 rfl (Nat.le_of_ble_eq_true rfl) (Nat.le_of_ble_eq_true rfl) (Or.inr ⟨F95, v94, F134, y135, y136, y137, y138, y139, g140, (SAME.up eF95 SAME.rf (by decide)), (get_eq eF95), (SAME.tr (SAME.tr SAME.rf t103 (by decide)) t141 (by decide)), t142, t143, t144, t145, t146, t147, t148, t149, r164, (fun ms b rs => by rw [k87, cSetK_1]; exact cSet_o (show ((x_settingsTold >>> ((1 : Int32) &&& 31)) &&& 1).toInt = 0 by rw [← ev89, ← ev90]; exact dc92) (at_tk t112 (by omega)) t156 (ev94.trans (congrArg (fun z => x_settingsTold ||| z) (show (2 : Int32) = 1 <<< ((1 : Int32) &&& 31) by decide))) (by rw [if_neg (by decide)]; exact upd_n t155 (by decide))), t158, rfl, rfl⟩)
    · have dc92 : v90.toInt ≠ 0 := ne_i (a := v90.toInt) (b := 0) rfl rfl c92
      have k165 : 1 ≤ v90.toInt ∧ v90.toInt ≤ 1 := ⟨ne_lo dc92 k91.1 ⟨Int.le_refl _, Int.le_refl _⟩ (by decide), k91.2⟩
      refine lv_aload_n hx hb dX1_readSetting_11 rfl (lv_at hl 1 rfl) ?_
      refine lv_iconst (v := 3) hx hb dX1_readSetting_12 (by decide) ?_
      refine call_Vi (wr := [(h0, .inr (1, vL 18 Fh)), (h_settings, .inl (cI, 5, .inl f_settings)), (h_p0_bytes, .inl (cB, 940, .inl f_p0_bytes)), (h_p0_wordNames, .inl (cJ, 23, .inr (.inl f_p0_wordNames)))]) (As := [.int 3]) (rest := []) hx hb hml hown hw (m_X6_fail l D cI cJ cB cP cM cZ p0 F_p0_ x_p0_place 3 _ e_p0_place) wV_X1_128_X6_fail dX1_readSetting_13 hK hP hD hS hA [2] [0, 1, 3, 4] rfl rfl (by decide) (by decide) (by decide) 0 6 rfl rfl GG.fb hG.1.at hl.1 rfl (Nat.le_of_ble_eq_true rfl) ⟨(Nat.le_of_ble_eq_true rfl), (Nat.le_of_ble_eq_true rfl)⟩ ⟨(Nat.le_of_ble_eq_true rfl), (Nat.le_of_ble_eq_true rfl)⟩ (fun r166 u H locs hp hP hD hS => ?_)
      have zl3 : (3 : Int32).toInt = 3 := by decide
      obtain ⟨F167, t168, t169, t170, rfl, rfl⟩ := hp
      have hP : va_P D vwCl [(h0, .inr (1, vL 18 Fh)), (h_settings, .inl (cI, 5, .inl f_settings)), (h_p0_bytes, .inl (cB, 940, .inl f_p0_bytes)), (h_p0_wordNames, .inl (cJ, 23, .inr (.inl f_p0_wordNames))), (p0, .inr (6, vL 12 F167))] H := hP
      have hD : va_D A [(h0, .inr (1, vL 18 Fh)), (h_settings, .inl (cI, 5, .inl f_settings)), (h_p0_bytes, .inl (cB, 940, .inl f_p0_bytes)), (h_p0_wordNames, .inl (cJ, 23, .inr (.inl f_p0_wordNames))), (p0, .inr (6, vL 12 F167))] := hD
      refine W.widen (k := 0) (n := 0) (Nat.le_of_ble_eq_true rfl) (Nat.le_of_ble_eq_true rfl) ?_
      exact ret_i (v := 0) hx hb hr hlocks hS (hP.sub (ws' := [(h0, .inr (1, vL 18 Fh)), (h_settings, .inl (cI, 5, .inl f_settings)), (p0, .inr (6, vL 12 F167)), (h_p0_bytes, .inl (cB, 940, .inl f_p0_bytes)), (h_p0_wordNames, .inl (cJ, 23, .inr (.inl f_p0_wordNames)))]) [0, 1, 4, 2, 3] rfl) (hD.sub (ws' := [(h0, .inr (1, vL 18 Fh)), (h_settings, .inl (cI, 5, .inl f_settings)), (p0, .inr (6, vL 12 F167)), (h_p0_bytes, .inl (cB, 940, .inl f_p0_bytes)), (h_p0_wordNames, .inl (cJ, 23, .inr (.inl f_p0_wordNames)))]) [0, 1, 4, 2, 3] (by decide) rfl) dX1_readSetting_16 rfl (Nat.le_of_ble_eq_true rfl) (Nat.le_of_ble_eq_true rfl) (Or.inl ⟨Fh, x_settingsTold, F167, x_p0_kind, x_p0_place, x_p0_value, x_p0_name, 3, x_p0_place, x_p0_at, SAME.rf, e_settingsTold, (SAME.tr SAME.rf t168 (by decide)), (SAME.at t168 (by decide) e_p0_kind), (SAME.at t168 (by decide) e_p0_place), (SAME.at t168 (by decide) e_p0_value), (SAME.at t168 (by decide) e_p0_name), t169, (show 1 ≤ (3 : Int32).toInt ∧ (3 : Int32).toInt ≤ 3 by decide), t170, (SAME.at t168 (by decide) e_p0_at), i_x_p0_at, (fun ms b rs => by rw [k87, cSetK_1]; exact inl_eq (cSet_t (show ((x_settingsTold >>> ((1 : Int32) &&& 31)) &&& 1).toInt ≠ 0 by rw [← ev89, ← ev90]; exact dc92)) (by decide) tkC_pl.symm), rfl, rfl⟩)
  have dk87 : p1.toInt ≠ 1 := ne_i rfl rfl k87
  have k172 : 2 ≤ p1.toInt ∧ p1.toInt ≤ 4 := ⟨ne_lo dk87 k86.1 ⟨Int.le_refl _, Int.le_refl _⟩ (by decide), k86.2⟩
  by_cases k173 : p1 = 2
  · have dk173 : p1.toInt = 2 := eq_i rfl rfl k173
    have k174 : 2 ≤ p1.toInt ∧ p1.toInt ≤ 2 := ⟨k172.1, Int.le_trans (Int.le_of_eq dk173) (Int.le_refl _)⟩
    have hl : lv_has ls 3 [(0, .ref h0), (1, .ref p0), (2, .int 2)] := by have q := hl; rw [k173] at q; exact q
    refine lv_aload_n hx hb dX1_readSetting_0 rfl (lv_at hl 0 rfl) ?_
    refine get_f (D := D) (ci := 1) (v := .int x_settingsTold) (C := RX1) (T := TX1) (N := 18) hx hb hw inAX1 hown hK hP 0 rfl rfl 17 (by decide) (hw _ q_364) (fun _ h9 => h9) e_settingsTold dX1_readSetting_1 ?_
    refine lv_iload_n hx hb dX1_readSetting_4 rfl (lv_at hl 2 rfl) ?_
    refine lv_ishr hx hb dX1_readSetting_5 ?_
    refine lv_topi (fun v175 ev175 => ?_)
    refine lv_iconst (v := 1) hx hb dX1_readSetting_6 (by decide) ?_
    refine lv_iand hx hb dX1_readSetting_7 ?_
    refine lv_topi (fun v176 ev176 => ?_)
    have k177 : 0 ≤ v176.toInt ∧ v176.toInt ≤ 1 := by rw [ev176]; exact and_i v175 1 (by decide)
    refine lv_if_eq (tgt := 17) hx hb dX1_readSetting_8 (by decide) (fun c178 => ?_) (fun c178 => ?_)
    · have dc178 : v176.toInt = 0 := eq_i (a := v176.toInt) (b := 0) rfl rfl c178
      have k179 : 0 ≤ v176.toInt ∧ v176.toInt ≤ 0 := ⟨k177.1, Int.le_trans (Int.le_of_eq dc178) (Int.le_refl _)⟩
      refine lv_aload_n hx hb dX1_readSetting_17 rfl (lv_at hl 0 rfl) ?_
      refine lv_dup hx hb dX1_readSetting_18 rfl ?_
      refine get_f (D := D) (ci := 1) (v := .int x_settingsTold) (C := RX1) (T := TX1) (N := 18) hx hb hw inAX1 hown hK hP 0 rfl rfl 17 (by decide) (hw _ q_364) (fun _ h9 => h9) e_settingsTold dX1_readSetting_19 ?_
      refine lv_iconst (v := 1) hx hb dX1_readSetting_22 (by decide) ?_
      refine lv_iload_n hx hb dX1_readSetting_23 rfl (lv_at hl 2 rfl) ?_
      refine lv_ishl hx hb dX1_readSetting_24 ?_
      refine lv_ci (y := 4) (by decide +kernel) ?_
      refine lv_ior hx hb dX1_readSetting_25 ?_
      refine lv_topi (fun v180 ev180 => ?_)
      refine put_f (D := D) (ci := 1) (v := .int v180) (ty := .int) (C := RX1) (T := TX1) (N := 18) hx hb hw inAX1 tyX1 tyX1_ok nmX1 hown hK hP hD hS 0 rfl rfl 17 (by decide) (hw _ q_364) (fun _ h9 => h9) rfl (by decide +kernel) rfl rfl dX1_readSetting_26 (fun H locs F181 eF181 hP hD hS => ?_)
      have hP : va_P D vwCl [(h0, .inr (1, vL 18 F181)), (h_settings, .inl (cI, 5, .inl f_settings)), (p0, .inr (6, vL 12 F_p0_)), (h_p0_bytes, .inl (cB, 940, .inl f_p0_bytes)), (h_p0_wordNames, .inl (cJ, 23, .inr (.inl f_p0_wordNames)))] H := hP
      have hD : va_D A [(h0, .inr (1, vL 18 F181)), (h_settings, .inl (cI, 5, .inl f_settings)), (p0, .inr (6, vL 12 F_p0_)), (h_p0_bytes, .inl (cB, 940, .inl f_p0_bytes)), (h_p0_wordNames, .inl (cJ, 23, .inr (.inl f_p0_wordNames)))] := hD
      refine lv_aload_n hx hb dX1_readSetting_29 rfl (lv_at hl 1 rfl) ?_
      refine call_Vv (wr := [(h0, .inr (1, vL 18 F181)), (h_settings, .inl (cI, 5, .inl f_settings))]) (As := []) (rest := []) hx hb hml hown hw (m_X6_advance l D cI cJ cB cP cM cZ p0 h_p0_bytes h_p0_wordNames F_p0_ x_p0_length x_p0_kind x_p0_place x_p0_value x_p0_name x_p0_at x_p0_mostBytes f_p0_bytes f_p0_wordNames _ e_p0_bytes e_p0_length i_x_p0_length e_p0_kind e_p0_place e_p0_value e_p0_name e_p0_wordNames e_p0_at i_x_p0_at e_p0_mostBytes s_p0_bytes_0 s_p0_wordNames_KN) wV_X1_131_X6_advance dX1_readSetting_30 hK hP hD hS hA [2, 3, 4] [0, 1] rfl rfl (by decide) (by decide) (by decide) 0 6 rfl rfl GG.fb hG.1.at hl.1 rfl (Nat.le_of_ble_eq_true rfl) ⟨(Nat.le_of_ble_eq_true rfl), (Nat.le_of_ble_eq_true rfl)⟩ ⟨(Nat.le_of_ble_eq_true rfl), (Nat.le_of_ble_eq_true rfl)⟩ (fun u H locs hp hP hD hS => ?_)
      obtain ⟨F183, y184, y185, y186, y187, y188, t189, t190, t191, t192, t193, t194, t195, t196, t197, t198, t199, t200, rfl⟩ := hp
      have hP : va_P D vwCl [(h0, .inr (1, vL 18 F181)), (h_settings, .inl (cI, 5, .inl f_settings)), (p0, .inr (6, vL 12 F183)), (h_p0_bytes, .inl (cB, 940, .inl f_p0_bytes)), (h_p0_wordNames, .inl (cJ, 23, .inr (.inl f_p0_wordNames)))] H := hP
      have hD : va_D A [(h0, .inr (1, vL 18 F181)), (h_settings, .inl (cI, 5, .inl f_settings)), (p0, .inr (6, vL 12 F183)), (h_p0_bytes, .inl (cB, 940, .inl f_p0_bytes)), (h_p0_wordNames, .inl (cJ, 23, .inr (.inl f_p0_wordNames)))] := hD
      refine W.widen (k := 0) (n := 0) (Nat.le_of_ble_eq_true rfl) (Nat.le_of_ble_eq_true rfl) ?_
      refine lv_aload_n hx hb dX1_readSetting_33 rfl (lv_at hl 1 rfl) ?_
      refine lv_aload_n hx hb dX1_readSetting_34 rfl (lv_at hl 0 rfl) ?_
      have n202 : F181 1 = .ref h_settings := (get_ne eF181 (by decide) e_settings)
      refine get_f (D := D) (ci := 1) (v := .ref h_settings) (C := RX1) (T := TX1) (N := 18) hx hb hw inAX1 hown hK hP 0 rfl rfl 1 (by decide) (hw _ q_315) (fun _ h9 => h9) n202 dX1_readSetting_35 ?_
      refine lv_iload_n hx hb dX1_readSetting_38 rfl (lv_at hl 2 rfl) ?_
      refine va_getsN hx hb hST.2.2.1 hS hown (va_Nw.use rfl (hG.1.2.1 (.fieldLinkNest "FourSledge$Course" 134 "FourSledge" "SETTING_LEAST" "[I" "FourSledge") (by decide +kernel))) (fun _ h9 => h9) dX1_readSetting_39 ?_
      refine lv_iload_n hx hb dX1_readSetting_42 rfl (lv_at hl 2 rfl) ?_
      refine va_ti (v := .int (lF 2)) hx hb hST.2.2.2.1 hS (vp_in_nI (n := 2) (N := 5) (Nat.le_of_ble_eq_true rfl) (Nat.le_of_ble_eq_true rfl)) rfl dX1_readSetting_43 ?_
      refine lv_ci (y := 300) (by decide +kernel) ?_
      refine va_getsN hx hb hST.2.2.2.2.1 hS hown (va_Nw.use rfl (hG.1.2.1 (.fieldLinkNest "FourSledge$Course" 137 "FourSledge" "SETTING_MOST" "[I" "FourSledge") (by decide +kernel))) (fun _ h9 => h9) dX1_readSetting_44 ?_
      refine lv_iload_n hx hb dX1_readSetting_47 rfl (lv_at hl 2 rfl) ?_
      refine va_ti (v := .int (mF 2)) hx hb hST.2.2.2.2.2 hS (vp_in_nI (n := 2) (N := 5) (Nat.le_of_ble_eq_true rfl) (Nat.le_of_ble_eq_true rfl)) rfl dX1_readSetting_48 ?_
      refine lv_ci (y := 900) (by decide +kernel) ?_
      have n203 : F183 0 = .ref h_p0_bytes := (SAME.at t189 (by decide) e_p0_bytes)
      have n204 : F183 1 = .int x_p0_length := (SAME.at t189 (by decide) e_p0_length)
      have n205 : F183 7 = .int x_p0_faultKind := (SAME.at t189 (by decide) e_p0_faultKind)
      have n206 : F183 8 = .int x_p0_faultPlace := (SAME.at t189 (by decide) e_p0_faultPlace)
      have n207 : F183 9 = .ref h_p0_wordNames := (SAME.at t189 (by decide) e_p0_wordNames)
      have n208 : F183 11 = .int x_p0_mostBytes := (SAME.at t189 (by decide) e_p0_mostBytes)
      refine call_Vi (wr := [(h0, .inr (1, vL 18 F181))]) (As := [.ref h_settings, .int 2, .int 300, .int 900]) (rest := []) hx hb hml hown hw (m_X6_takeInto_5 l D cI cJ cB cP cM cZ p0 h_p0_bytes h_p0_wordNames h_settings F183 x_p0_length y184 y185 y186 y187 x_p0_faultKind x_p0_faultPlace y188 x_p0_mostBytes f_p0_bytes f_p0_wordNames f_settings 2 300 900 _ n203 n204 i_x_p0_length t190 t192 t194 t195 n205 n206 n207 t196 t197 n208 s_p0_bytes_0 s_p0_wordNames_KN (show 0 ≤ (2 : Int32).toInt ∧ (2 : Int32).toInt ≤ 4 by decide)) wV_X1_140_X6_takeInto dX1_readSetting_49 hK hP hD hS hA [2, 3, 4, 1] [0] rfl rfl (by decide) (by decide) (by decide) 0 6 rfl rfl GG.fb hG.1.at hl.1 rfl (Nat.le_of_ble_eq_true rfl) ⟨(Nat.le_of_ble_eq_true rfl), (Nat.le_of_ble_eq_true rfl)⟩ ⟨(Nat.le_of_ble_eq_true rfl), (Nat.le_of_ble_eq_true rfl)⟩ (fun r209 u H locs hp hP hD hS => ?_)
      have zl2 : (2 : Int32).toInt = 2 := by decide
      have zl300 : (300 : Int32).toInt = 300 := by decide
      have zl900 : (900 : Int32).toInt = 900 := by decide
      rcases hp with hp | hp
      · obtain ⟨F210, y211, y212, t213, t214, t215, t216, t217, t218, t219, rfl, rfl⟩ := hp
        have hP : va_P D vwCl [(h0, .inr (1, vL 18 F181)), (p0, .inr (6, vL 12 F210)), (h_p0_bytes, .inl (cB, 940, .inl f_p0_bytes)), (h_p0_wordNames, .inl (cJ, 23, .inr (.inl f_p0_wordNames))), (h_settings, .inl (cI, 5, .inl f_settings))] H := hP
        have hD : va_D A [(h0, .inr (1, vL 18 F181)), (p0, .inr (6, vL 12 F210)), (h_p0_bytes, .inl (cB, 940, .inl f_p0_bytes)), (h_p0_wordNames, .inl (cJ, 23, .inr (.inl f_p0_wordNames))), (h_settings, .inl (cI, 5, .inl f_settings))] := hD
        refine W.widen (k := 0) (n := 0) (Nat.le_of_ble_eq_true rfl) (Nat.le_of_ble_eq_true rfl) ?_
        exact ret_i (v := 0) hx hb hr hlocks hS (hP.sub (ws' := [(h0, .inr (1, vL 18 F181)), (h_settings, .inl (cI, 5, .inl f_settings)), (p0, .inr (6, vL 12 F210)), (h_p0_bytes, .inl (cB, 940, .inl f_p0_bytes)), (h_p0_wordNames, .inl (cJ, 23, .inr (.inl f_p0_wordNames)))]) [0, 4, 1, 2, 3] rfl) (hD.sub (ws' := [(h0, .inr (1, vL 18 F181)), (h_settings, .inl (cI, 5, .inl f_settings)), (p0, .inr (6, vL 12 F210)), (h_p0_bytes, .inl (cB, 940, .inl f_p0_bytes)), (h_p0_wordNames, .inl (cJ, 23, .inr (.inl f_p0_wordNames)))]) [0, 4, 1, 2, 3] (by decide) rfl) dX1_readSetting_52 rfl (Nat.le_of_ble_eq_true rfl) (Nat.le_of_ble_eq_true rfl) (Or.inl ⟨F181, v180, F210, y184, y185, y186, y187, y211, y212, y188, (SAME.up eF181 SAME.rf (by decide)), (get_eq eF181), (SAME.tr (SAME.tr SAME.rf t189 (by decide)) t213 (by decide)), (SAME.at t213 (by decide) t190), (SAME.at t213 (by decide) t192), (SAME.at t213 (by decide) t194), (SAME.at t213 (by decide) t195), t214, (ir_wk t215 (by decide) (by decide)), t216, (SAME.at t213 (by decide) t196), t197, (fun ms b rs => by rw [k173, cSetK_2]; exact cSet_f (show ((x_settingsTold >>> ((2 : Int32) &&& 31)) &&& 1).toInt = 0 by rw [← ev175, ← ev176]; exact dc178) (at_tk t198 (by omega)) t219), rfl, rfl⟩)
      · refine hp.elim (fun F220 h9z0 => h9z0.elim (fun y221 h9z1 => h9z1.elim (fun y222 h9z2 => h9z2.elim (fun y223 h9z3 => h9z3.elim (fun y224 h9z4 => h9z4.elim (fun y225 h9z5 => h9z5.elim (fun g226 h9z6 => h9z6.elim (fun t227 h9z7 => h9z7.elim (fun t228 h9z8 => h9z8.elim (fun t229 h9z9 => h9z9.elim (fun t230 h9z10 => h9z10.elim (fun t231 h9z11 => h9z11.elim (fun t232 h9z12 => h9z12.elim (fun t233 h9z13 => h9z13.elim (fun t234 h9z14 => h9z14.elim (fun t235 h9z15 => h9z15.elim (fun t236 h9z16 => h9z16.elim (fun t237 h9z17 => h9z17.elim (fun t238 h9z18 => h9z18.elim (fun t239 h9z19 => h9z19.elim (fun t240 h9z20 => h9z20.elim (fun t241 h9z21 => h9z21.elim (fun t242 h9z22 => h9z22.elim (fun t243 h9z23 => h9z23.elim (fun t244 h9z24 => h9z24.elim (fun t245 h9z25 => h9z25.elim (fun heq926 h9z26 => ?_)))))))))))))))))))))))))))
        clear h9z0 h9z1 h9z2 h9z3 h9z4 h9z5 h9z6 h9z7 h9z8 h9z9 h9z10 h9z11 h9z12 h9z13 h9z14 h9z15 h9z16 h9z17 h9z18 h9z19 h9z20 h9z21 h9z22 h9z23 h9z24 h9z25
        subst heq926
        subst h9z26
        have hP : va_P D vwCl [(h0, .inr (1, vL 18 F181)), (p0, .inr (6, vL 12 F220)), (h_p0_bytes, .inl (cB, 940, .inl f_p0_bytes)), (h_p0_wordNames, .inl (cJ, 23, .inr (.inl f_p0_wordNames))), (h_settings, .inl (cI, 5, .inl g226))] H := hP
        have hD : va_D A [(h0, .inr (1, vL 18 F181)), (p0, .inr (6, vL 12 F220)), (h_p0_bytes, .inl (cB, 940, .inl f_p0_bytes)), (h_p0_wordNames, .inl (cJ, 23, .inr (.inl f_p0_wordNames))), (h_settings, .inl (cI, 5, .inl g226))] := hD
        refine W.widen (k := 0) (n := 0) (Nat.le_of_ble_eq_true rfl) (Nat.le_of_ble_eq_true rfl) ?_
        have k247 : 3 ≤ y184.toInt ∧ y184.toInt ≤ 3 := ⟨Int.le_trans (Int.le_refl _) (Int.le_of_eq t238.symm), Int.le_trans (Int.le_of_eq t238) (Int.le_refl _)⟩
        have k248 : 300 ≤ y186.toInt ∧ y186.toInt ≤ 2147483647 := ⟨Int.le_trans (Int.le_refl _) t239, (ir_any _).2⟩
        have k249 : 300 ≤ y186.toInt ∧ y186.toInt ≤ 900 := ⟨k248.1, Int.le_trans t240 (Int.le_refl _)⟩
        have r250 : SG 0 0 5 40 g226 := by rw [← t241]; exact s_settings_0.up (by decide) (Or.inr (Or.inl (by decide)))
        exact ret_i (v := 1) hx hb hr hlocks hS (hP.sub (ws' := [(h0, .inr (1, vL 18 F181)), (h_settings, .inl (cI, 5, .inl g226)), (p0, .inr (6, vL 12 F220)), (h_p0_bytes, .inl (cB, 940, .inl f_p0_bytes)), (h_p0_wordNames, .inl (cJ, 23, .inr (.inl f_p0_wordNames)))]) [0, 4, 1, 2, 3] rfl) (hD.sub (ws' := [(h0, .inr (1, vL 18 F181)), (h_settings, .inl (cI, 5, .inl g226)), (p0, .inr (6, vL 12 F220)), (h_p0_bytes, .inl (cB, 940, .inl f_p0_bytes)), (h_p0_wordNames, .inl (cJ, 23, .inr (.inl f_p0_wordNames)))]) [0, 4, 1, 2, 3] (by decide) rfl) dX1_readSetting_52 rfl (Nat.le_of_ble_eq_true rfl) (Nat.le_of_ble_eq_true rfl) (Or.inr ⟨F181, v180, F220, y221, y222, y223, y224, y225, g226, (SAME.up eF181 SAME.rf (by decide)), (get_eq eF181), (SAME.tr (SAME.tr SAME.rf t189 (by decide)) t227 (by decide)), t228, t229, t230, t231, t232, t233, t234, t235, r250, (fun ms b rs => by rw [k173, cSetK_2]; exact cSet_o (show ((x_settingsTold >>> ((2 : Int32) &&& 31)) &&& 1).toInt = 0 by rw [← ev175, ← ev176]; exact dc178) (at_tk t198 (by omega)) t242 (ev180.trans (congrArg (fun z => x_settingsTold ||| z) (show (4 : Int32) = 1 <<< ((2 : Int32) &&& 31) by decide))) (by rw [if_neg (by decide)]; exact upd_n t241 (by decide))), t244, rfl, rfl⟩)
    · have dc178 : v176.toInt ≠ 0 := ne_i (a := v176.toInt) (b := 0) rfl rfl c178
      have k251 : 1 ≤ v176.toInt ∧ v176.toInt ≤ 1 := ⟨ne_lo dc178 k177.1 ⟨Int.le_refl _, Int.le_refl _⟩ (by decide), k177.2⟩
      refine lv_aload_n hx hb dX1_readSetting_11 rfl (lv_at hl 1 rfl) ?_
      refine lv_iconst (v := 3) hx hb dX1_readSetting_12 (by decide) ?_
      refine call_Vi (wr := [(h0, .inr (1, vL 18 Fh)), (h_settings, .inl (cI, 5, .inl f_settings)), (h_p0_bytes, .inl (cB, 940, .inl f_p0_bytes)), (h_p0_wordNames, .inl (cJ, 23, .inr (.inl f_p0_wordNames)))]) (As := [.int 3]) (rest := []) hx hb hml hown hw (m_X6_fail l D cI cJ cB cP cM cZ p0 F_p0_ x_p0_place 3 _ e_p0_place) wV_X1_128_X6_fail dX1_readSetting_13 hK hP hD hS hA [2] [0, 1, 3, 4] rfl rfl (by decide) (by decide) (by decide) 0 6 rfl rfl GG.fb hG.1.at hl.1 rfl (Nat.le_of_ble_eq_true rfl) ⟨(Nat.le_of_ble_eq_true rfl), (Nat.le_of_ble_eq_true rfl)⟩ ⟨(Nat.le_of_ble_eq_true rfl), (Nat.le_of_ble_eq_true rfl)⟩ (fun r252 u H locs hp hP hD hS => ?_)
      have zl3 : (3 : Int32).toInt = 3 := by decide
      obtain ⟨F253, t254, t255, t256, rfl, rfl⟩ := hp
      have hP : va_P D vwCl [(h0, .inr (1, vL 18 Fh)), (h_settings, .inl (cI, 5, .inl f_settings)), (h_p0_bytes, .inl (cB, 940, .inl f_p0_bytes)), (h_p0_wordNames, .inl (cJ, 23, .inr (.inl f_p0_wordNames))), (p0, .inr (6, vL 12 F253))] H := hP
      have hD : va_D A [(h0, .inr (1, vL 18 Fh)), (h_settings, .inl (cI, 5, .inl f_settings)), (h_p0_bytes, .inl (cB, 940, .inl f_p0_bytes)), (h_p0_wordNames, .inl (cJ, 23, .inr (.inl f_p0_wordNames))), (p0, .inr (6, vL 12 F253))] := hD
      refine W.widen (k := 0) (n := 0) (Nat.le_of_ble_eq_true rfl) (Nat.le_of_ble_eq_true rfl) ?_
      exact ret_i (v := 0) hx hb hr hlocks hS (hP.sub (ws' := [(h0, .inr (1, vL 18 Fh)), (h_settings, .inl (cI, 5, .inl f_settings)), (p0, .inr (6, vL 12 F253)), (h_p0_bytes, .inl (cB, 940, .inl f_p0_bytes)), (h_p0_wordNames, .inl (cJ, 23, .inr (.inl f_p0_wordNames)))]) [0, 1, 4, 2, 3] rfl) (hD.sub (ws' := [(h0, .inr (1, vL 18 Fh)), (h_settings, .inl (cI, 5, .inl f_settings)), (p0, .inr (6, vL 12 F253)), (h_p0_bytes, .inl (cB, 940, .inl f_p0_bytes)), (h_p0_wordNames, .inl (cJ, 23, .inr (.inl f_p0_wordNames)))]) [0, 1, 4, 2, 3] (by decide) rfl) dX1_readSetting_16 rfl (Nat.le_of_ble_eq_true rfl) (Nat.le_of_ble_eq_true rfl) (Or.inl ⟨Fh, x_settingsTold, F253, x_p0_kind, x_p0_place, x_p0_value, x_p0_name, 3, x_p0_place, x_p0_at, SAME.rf, e_settingsTold, (SAME.tr SAME.rf t254 (by decide)), (SAME.at t254 (by decide) e_p0_kind), (SAME.at t254 (by decide) e_p0_place), (SAME.at t254 (by decide) e_p0_value), (SAME.at t254 (by decide) e_p0_name), t255, (show 1 ≤ (3 : Int32).toInt ∧ (3 : Int32).toInt ≤ 3 by decide), t256, (SAME.at t254 (by decide) e_p0_at), i_x_p0_at, (fun ms b rs => by rw [k173, cSetK_2]; exact inl_eq (cSet_t (show ((x_settingsTold >>> ((2 : Int32) &&& 31)) &&& 1).toInt ≠ 0 by rw [← ev175, ← ev176]; exact dc178)) (by decide) tkC_pl.symm), rfl, rfl⟩)
  have dk173 : p1.toInt ≠ 2 := ne_i rfl rfl k173
  have k258 : 3 ≤ p1.toInt ∧ p1.toInt ≤ 4 := ⟨ne_lo dk173 k172.1 ⟨Int.le_refl _, Int.le_refl _⟩ (by decide), k172.2⟩
  by_cases k259 : p1 = 3
  · have dk259 : p1.toInt = 3 := eq_i rfl rfl k259
    have k260 : 3 ≤ p1.toInt ∧ p1.toInt ≤ 3 := ⟨k258.1, Int.le_trans (Int.le_of_eq dk259) (Int.le_refl _)⟩
    have hl : lv_has ls 3 [(0, .ref h0), (1, .ref p0), (2, .int 3)] := by have q := hl; rw [k259] at q; exact q
    refine lv_aload_n hx hb dX1_readSetting_0 rfl (lv_at hl 0 rfl) ?_
    refine get_f (D := D) (ci := 1) (v := .int x_settingsTold) (C := RX1) (T := TX1) (N := 18) hx hb hw inAX1 hown hK hP 0 rfl rfl 17 (by decide) (hw _ q_364) (fun _ h9 => h9) e_settingsTold dX1_readSetting_1 ?_
    refine lv_iload_n hx hb dX1_readSetting_4 rfl (lv_at hl 2 rfl) ?_
    refine lv_ishr hx hb dX1_readSetting_5 ?_
    refine lv_topi (fun v261 ev261 => ?_)
    refine lv_iconst (v := 1) hx hb dX1_readSetting_6 (by decide) ?_
    refine lv_iand hx hb dX1_readSetting_7 ?_
    refine lv_topi (fun v262 ev262 => ?_)
    have k263 : 0 ≤ v262.toInt ∧ v262.toInt ≤ 1 := by rw [ev262]; exact and_i v261 1 (by decide)
    refine lv_if_eq (tgt := 17) hx hb dX1_readSetting_8 (by decide) (fun c264 => ?_) (fun c264 => ?_)
    · have dc264 : v262.toInt = 0 := eq_i (a := v262.toInt) (b := 0) rfl rfl c264
      have k265 : 0 ≤ v262.toInt ∧ v262.toInt ≤ 0 := ⟨k263.1, Int.le_trans (Int.le_of_eq dc264) (Int.le_refl _)⟩
      refine lv_aload_n hx hb dX1_readSetting_17 rfl (lv_at hl 0 rfl) ?_
      refine lv_dup hx hb dX1_readSetting_18 rfl ?_
      refine get_f (D := D) (ci := 1) (v := .int x_settingsTold) (C := RX1) (T := TX1) (N := 18) hx hb hw inAX1 hown hK hP 0 rfl rfl 17 (by decide) (hw _ q_364) (fun _ h9 => h9) e_settingsTold dX1_readSetting_19 ?_
      refine lv_iconst (v := 1) hx hb dX1_readSetting_22 (by decide) ?_
      refine lv_iload_n hx hb dX1_readSetting_23 rfl (lv_at hl 2 rfl) ?_
      refine lv_ishl hx hb dX1_readSetting_24 ?_
      refine lv_ci (y := 8) (by decide +kernel) ?_
      refine lv_ior hx hb dX1_readSetting_25 ?_
      refine lv_topi (fun v266 ev266 => ?_)
      refine put_f (D := D) (ci := 1) (v := .int v266) (ty := .int) (C := RX1) (T := TX1) (N := 18) hx hb hw inAX1 tyX1 tyX1_ok nmX1 hown hK hP hD hS 0 rfl rfl 17 (by decide) (hw _ q_364) (fun _ h9 => h9) rfl (by decide +kernel) rfl rfl dX1_readSetting_26 (fun H locs F267 eF267 hP hD hS => ?_)
      have hP : va_P D vwCl [(h0, .inr (1, vL 18 F267)), (h_settings, .inl (cI, 5, .inl f_settings)), (p0, .inr (6, vL 12 F_p0_)), (h_p0_bytes, .inl (cB, 940, .inl f_p0_bytes)), (h_p0_wordNames, .inl (cJ, 23, .inr (.inl f_p0_wordNames)))] H := hP
      have hD : va_D A [(h0, .inr (1, vL 18 F267)), (h_settings, .inl (cI, 5, .inl f_settings)), (p0, .inr (6, vL 12 F_p0_)), (h_p0_bytes, .inl (cB, 940, .inl f_p0_bytes)), (h_p0_wordNames, .inl (cJ, 23, .inr (.inl f_p0_wordNames)))] := hD
      refine lv_aload_n hx hb dX1_readSetting_29 rfl (lv_at hl 1 rfl) ?_
      refine call_Vv (wr := [(h0, .inr (1, vL 18 F267)), (h_settings, .inl (cI, 5, .inl f_settings))]) (As := []) (rest := []) hx hb hml hown hw (m_X6_advance l D cI cJ cB cP cM cZ p0 h_p0_bytes h_p0_wordNames F_p0_ x_p0_length x_p0_kind x_p0_place x_p0_value x_p0_name x_p0_at x_p0_mostBytes f_p0_bytes f_p0_wordNames _ e_p0_bytes e_p0_length i_x_p0_length e_p0_kind e_p0_place e_p0_value e_p0_name e_p0_wordNames e_p0_at i_x_p0_at e_p0_mostBytes s_p0_bytes_0 s_p0_wordNames_KN) wV_X1_131_X6_advance dX1_readSetting_30 hK hP hD hS hA [2, 3, 4] [0, 1] rfl rfl (by decide) (by decide) (by decide) 0 6 rfl rfl GG.fb hG.1.at hl.1 rfl (Nat.le_of_ble_eq_true rfl) ⟨(Nat.le_of_ble_eq_true rfl), (Nat.le_of_ble_eq_true rfl)⟩ ⟨(Nat.le_of_ble_eq_true rfl), (Nat.le_of_ble_eq_true rfl)⟩ (fun u H locs hp hP hD hS => ?_)
      obtain ⟨F269, y270, y271, y272, y273, y274, t275, t276, t277, t278, t279, t280, t281, t282, t283, t284, t285, t286, rfl⟩ := hp
      have hP : va_P D vwCl [(h0, .inr (1, vL 18 F267)), (h_settings, .inl (cI, 5, .inl f_settings)), (p0, .inr (6, vL 12 F269)), (h_p0_bytes, .inl (cB, 940, .inl f_p0_bytes)), (h_p0_wordNames, .inl (cJ, 23, .inr (.inl f_p0_wordNames)))] H := hP
      have hD : va_D A [(h0, .inr (1, vL 18 F267)), (h_settings, .inl (cI, 5, .inl f_settings)), (p0, .inr (6, vL 12 F269)), (h_p0_bytes, .inl (cB, 940, .inl f_p0_bytes)), (h_p0_wordNames, .inl (cJ, 23, .inr (.inl f_p0_wordNames)))] := hD
      refine W.widen (k := 0) (n := 0) (Nat.le_of_ble_eq_true rfl) (Nat.le_of_ble_eq_true rfl) ?_
      refine lv_aload_n hx hb dX1_readSetting_33 rfl (lv_at hl 1 rfl) ?_
      refine lv_aload_n hx hb dX1_readSetting_34 rfl (lv_at hl 0 rfl) ?_
      have n288 : F267 1 = .ref h_settings := (get_ne eF267 (by decide) e_settings)
      refine get_f (D := D) (ci := 1) (v := .ref h_settings) (C := RX1) (T := TX1) (N := 18) hx hb hw inAX1 hown hK hP 0 rfl rfl 1 (by decide) (hw _ q_315) (fun _ h9 => h9) n288 dX1_readSetting_35 ?_
      refine lv_iload_n hx hb dX1_readSetting_38 rfl (lv_at hl 2 rfl) ?_
      refine va_getsN hx hb hST.2.2.1 hS hown (va_Nw.use rfl (hG.1.2.1 (.fieldLinkNest "FourSledge$Course" 134 "FourSledge" "SETTING_LEAST" "[I" "FourSledge") (by decide +kernel))) (fun _ h9 => h9) dX1_readSetting_39 ?_
      refine lv_iload_n hx hb dX1_readSetting_42 rfl (lv_at hl 2 rfl) ?_
      refine va_ti (v := .int (lF 3)) hx hb hST.2.2.2.1 hS (vp_in_nI (n := 3) (N := 5) (Nat.le_of_ble_eq_true rfl) (Nat.le_of_ble_eq_true rfl)) rfl dX1_readSetting_43 ?_
      refine lv_ci (y := 0) (by decide +kernel) ?_
      refine va_getsN hx hb hST.2.2.2.2.1 hS hown (va_Nw.use rfl (hG.1.2.1 (.fieldLinkNest "FourSledge$Course" 137 "FourSledge" "SETTING_MOST" "[I" "FourSledge") (by decide +kernel))) (fun _ h9 => h9) dX1_readSetting_44 ?_
      refine lv_iload_n hx hb dX1_readSetting_47 rfl (lv_at hl 2 rfl) ?_
      refine va_ti (v := .int (mF 3)) hx hb hST.2.2.2.2.2 hS (vp_in_nI (n := 3) (N := 5) (Nat.le_of_ble_eq_true rfl) (Nat.le_of_ble_eq_true rfl)) rfl dX1_readSetting_48 ?_
      refine lv_ci (y := 9) (by decide +kernel) ?_
      have n289 : F269 0 = .ref h_p0_bytes := (SAME.at t275 (by decide) e_p0_bytes)
      have n290 : F269 1 = .int x_p0_length := (SAME.at t275 (by decide) e_p0_length)
      have n291 : F269 7 = .int x_p0_faultKind := (SAME.at t275 (by decide) e_p0_faultKind)
      have n292 : F269 8 = .int x_p0_faultPlace := (SAME.at t275 (by decide) e_p0_faultPlace)
      have n293 : F269 9 = .ref h_p0_wordNames := (SAME.at t275 (by decide) e_p0_wordNames)
      have n294 : F269 11 = .int x_p0_mostBytes := (SAME.at t275 (by decide) e_p0_mostBytes)
      refine call_Vi (wr := [(h0, .inr (1, vL 18 F267))]) (As := [.ref h_settings, .int 3, .int 0, .int 9]) (rest := []) hx hb hml hown hw (m_X6_takeInto_5 l D cI cJ cB cP cM cZ p0 h_p0_bytes h_p0_wordNames h_settings F269 x_p0_length y270 y271 y272 y273 x_p0_faultKind x_p0_faultPlace y274 x_p0_mostBytes f_p0_bytes f_p0_wordNames f_settings 3 0 9 _ n289 n290 i_x_p0_length t276 t278 t280 t281 n291 n292 n293 t282 t283 n294 s_p0_bytes_0 s_p0_wordNames_KN (show 0 ≤ (3 : Int32).toInt ∧ (3 : Int32).toInt ≤ 4 by decide)) wV_X1_140_X6_takeInto dX1_readSetting_49 hK hP hD hS hA [2, 3, 4, 1] [0] rfl rfl (by decide) (by decide) (by decide) 0 6 rfl rfl GG.fb hG.1.at hl.1 rfl (Nat.le_of_ble_eq_true rfl) ⟨(Nat.le_of_ble_eq_true rfl), (Nat.le_of_ble_eq_true rfl)⟩ ⟨(Nat.le_of_ble_eq_true rfl), (Nat.le_of_ble_eq_true rfl)⟩ (fun r295 u H locs hp hP hD hS => ?_)
      have zl0 : (0 : Int32).toInt = 0 := by decide
      have zl3 : (3 : Int32).toInt = 3 := by decide
      have zl9 : (9 : Int32).toInt = 9 := by decide
      rcases hp with hp | hp
      · obtain ⟨F296, y297, y298, t299, t300, t301, t302, t303, t304, t305, rfl, rfl⟩ := hp
        have hP : va_P D vwCl [(h0, .inr (1, vL 18 F267)), (p0, .inr (6, vL 12 F296)), (h_p0_bytes, .inl (cB, 940, .inl f_p0_bytes)), (h_p0_wordNames, .inl (cJ, 23, .inr (.inl f_p0_wordNames))), (h_settings, .inl (cI, 5, .inl f_settings))] H := hP
        have hD : va_D A [(h0, .inr (1, vL 18 F267)), (p0, .inr (6, vL 12 F296)), (h_p0_bytes, .inl (cB, 940, .inl f_p0_bytes)), (h_p0_wordNames, .inl (cJ, 23, .inr (.inl f_p0_wordNames))), (h_settings, .inl (cI, 5, .inl f_settings))] := hD
        refine W.widen (k := 0) (n := 0) (Nat.le_of_ble_eq_true rfl) (Nat.le_of_ble_eq_true rfl) ?_
        exact ret_i (v := 0) hx hb hr hlocks hS (hP.sub (ws' := [(h0, .inr (1, vL 18 F267)), (h_settings, .inl (cI, 5, .inl f_settings)), (p0, .inr (6, vL 12 F296)), (h_p0_bytes, .inl (cB, 940, .inl f_p0_bytes)), (h_p0_wordNames, .inl (cJ, 23, .inr (.inl f_p0_wordNames)))]) [0, 4, 1, 2, 3] rfl) (hD.sub (ws' := [(h0, .inr (1, vL 18 F267)), (h_settings, .inl (cI, 5, .inl f_settings)), (p0, .inr (6, vL 12 F296)), (h_p0_bytes, .inl (cB, 940, .inl f_p0_bytes)), (h_p0_wordNames, .inl (cJ, 23, .inr (.inl f_p0_wordNames)))]) [0, 4, 1, 2, 3] (by decide) rfl) dX1_readSetting_52 rfl (Nat.le_of_ble_eq_true rfl) (Nat.le_of_ble_eq_true rfl) (Or.inl ⟨F267, v266, F296, y270, y271, y272, y273, y297, y298, y274, (SAME.up eF267 SAME.rf (by decide)), (get_eq eF267), (SAME.tr (SAME.tr SAME.rf t275 (by decide)) t299 (by decide)), (SAME.at t299 (by decide) t276), (SAME.at t299 (by decide) t278), (SAME.at t299 (by decide) t280), (SAME.at t299 (by decide) t281), t300, (ir_wk t301 (by decide) (by decide)), t302, (SAME.at t299 (by decide) t282), t283, (fun ms b rs => by rw [k259, cSetK_3]; exact cSet_f (show ((x_settingsTold >>> ((3 : Int32) &&& 31)) &&& 1).toInt = 0 by rw [← ev261, ← ev262]; exact dc264) (at_tk t284 (by omega)) t305), rfl, rfl⟩)
      · refine hp.elim (fun F306 h9z0 => h9z0.elim (fun y307 h9z1 => h9z1.elim (fun y308 h9z2 => h9z2.elim (fun y309 h9z3 => h9z3.elim (fun y310 h9z4 => h9z4.elim (fun y311 h9z5 => h9z5.elim (fun g312 h9z6 => h9z6.elim (fun t313 h9z7 => h9z7.elim (fun t314 h9z8 => h9z8.elim (fun t315 h9z9 => h9z9.elim (fun t316 h9z10 => h9z10.elim (fun t317 h9z11 => h9z11.elim (fun t318 h9z12 => h9z12.elim (fun t319 h9z13 => h9z13.elim (fun t320 h9z14 => h9z14.elim (fun t321 h9z15 => h9z15.elim (fun t322 h9z16 => h9z16.elim (fun t323 h9z17 => h9z17.elim (fun t324 h9z18 => h9z18.elim (fun t325 h9z19 => h9z19.elim (fun t326 h9z20 => h9z20.elim (fun t327 h9z21 => h9z21.elim (fun t328 h9z22 => h9z22.elim (fun t329 h9z23 => h9z23.elim (fun t330 h9z24 => h9z24.elim (fun t331 h9z25 => h9z25.elim (fun heq926 h9z26 => ?_)))))))))))))))))))))))))))
        clear h9z0 h9z1 h9z2 h9z3 h9z4 h9z5 h9z6 h9z7 h9z8 h9z9 h9z10 h9z11 h9z12 h9z13 h9z14 h9z15 h9z16 h9z17 h9z18 h9z19 h9z20 h9z21 h9z22 h9z23 h9z24 h9z25
        subst heq926
        subst h9z26
        have hP : va_P D vwCl [(h0, .inr (1, vL 18 F267)), (p0, .inr (6, vL 12 F306)), (h_p0_bytes, .inl (cB, 940, .inl f_p0_bytes)), (h_p0_wordNames, .inl (cJ, 23, .inr (.inl f_p0_wordNames))), (h_settings, .inl (cI, 5, .inl g312))] H := hP
        have hD : va_D A [(h0, .inr (1, vL 18 F267)), (p0, .inr (6, vL 12 F306)), (h_p0_bytes, .inl (cB, 940, .inl f_p0_bytes)), (h_p0_wordNames, .inl (cJ, 23, .inr (.inl f_p0_wordNames))), (h_settings, .inl (cI, 5, .inl g312))] := hD
        refine W.widen (k := 0) (n := 0) (Nat.le_of_ble_eq_true rfl) (Nat.le_of_ble_eq_true rfl) ?_
        have k333 : 3 ≤ y270.toInt ∧ y270.toInt ≤ 3 := ⟨Int.le_trans (Int.le_refl _) (Int.le_of_eq t324.symm), Int.le_trans (Int.le_of_eq t324) (Int.le_refl _)⟩
        have k334 : 0 ≤ y272.toInt ∧ y272.toInt ≤ 2147483647 := ⟨Int.le_trans (Int.le_refl _) t325, (ir_any _).2⟩
        have k335 : 0 ≤ y272.toInt ∧ y272.toInt ≤ 9 := ⟨k334.1, Int.le_trans t326 (Int.le_refl _)⟩
        have r336 : SG 0 0 5 40 g312 := by rw [← t327]; exact s_settings_0.up (by decide) (Or.inr (Or.inl (by decide)))
        exact ret_i (v := 1) hx hb hr hlocks hS (hP.sub (ws' := [(h0, .inr (1, vL 18 F267)), (h_settings, .inl (cI, 5, .inl g312)), (p0, .inr (6, vL 12 F306)), (h_p0_bytes, .inl (cB, 940, .inl f_p0_bytes)), (h_p0_wordNames, .inl (cJ, 23, .inr (.inl f_p0_wordNames)))]) [0, 4, 1, 2, 3] rfl) (hD.sub (ws' := [(h0, .inr (1, vL 18 F267)), (h_settings, .inl (cI, 5, .inl g312)), (p0, .inr (6, vL 12 F306)), (h_p0_bytes, .inl (cB, 940, .inl f_p0_bytes)), (h_p0_wordNames, .inl (cJ, 23, .inr (.inl f_p0_wordNames)))]) [0, 4, 1, 2, 3] (by decide) rfl) dX1_readSetting_52 rfl (Nat.le_of_ble_eq_true rfl) (Nat.le_of_ble_eq_true rfl) (Or.inr ⟨F267, v266, F306, y307, y308, y309, y310, y311, g312, (SAME.up eF267 SAME.rf (by decide)), (get_eq eF267), (SAME.tr (SAME.tr SAME.rf t275 (by decide)) t313 (by decide)), t314, t315, t316, t317, t318, t319, t320, t321, r336, (fun ms b rs => by rw [k259, cSetK_3]; exact cSet_o (show ((x_settingsTold >>> ((3 : Int32) &&& 31)) &&& 1).toInt = 0 by rw [← ev261, ← ev262]; exact dc264) (at_tk t284 (by omega)) t328 (ev266.trans (congrArg (fun z => x_settingsTold ||| z) (show (8 : Int32) = 1 <<< ((3 : Int32) &&& 31) by decide))) (by rw [if_neg (by decide)]; exact upd_n t327 (by decide))), t330, rfl, rfl⟩)
    · have dc264 : v262.toInt ≠ 0 := ne_i (a := v262.toInt) (b := 0) rfl rfl c264
      have k337 : 1 ≤ v262.toInt ∧ v262.toInt ≤ 1 := ⟨ne_lo dc264 k263.1 ⟨Int.le_refl _, Int.le_refl _⟩ (by decide), k263.2⟩
      refine lv_aload_n hx hb dX1_readSetting_11 rfl (lv_at hl 1 rfl) ?_
      refine lv_iconst (v := 3) hx hb dX1_readSetting_12 (by decide) ?_
      refine call_Vi (wr := [(h0, .inr (1, vL 18 Fh)), (h_settings, .inl (cI, 5, .inl f_settings)), (h_p0_bytes, .inl (cB, 940, .inl f_p0_bytes)), (h_p0_wordNames, .inl (cJ, 23, .inr (.inl f_p0_wordNames)))]) (As := [.int 3]) (rest := []) hx hb hml hown hw (m_X6_fail l D cI cJ cB cP cM cZ p0 F_p0_ x_p0_place 3 _ e_p0_place) wV_X1_128_X6_fail dX1_readSetting_13 hK hP hD hS hA [2] [0, 1, 3, 4] rfl rfl (by decide) (by decide) (by decide) 0 6 rfl rfl GG.fb hG.1.at hl.1 rfl (Nat.le_of_ble_eq_true rfl) ⟨(Nat.le_of_ble_eq_true rfl), (Nat.le_of_ble_eq_true rfl)⟩ ⟨(Nat.le_of_ble_eq_true rfl), (Nat.le_of_ble_eq_true rfl)⟩ (fun r338 u H locs hp hP hD hS => ?_)
      have zl3 : (3 : Int32).toInt = 3 := by decide
      obtain ⟨F339, t340, t341, t342, rfl, rfl⟩ := hp
      have hP : va_P D vwCl [(h0, .inr (1, vL 18 Fh)), (h_settings, .inl (cI, 5, .inl f_settings)), (h_p0_bytes, .inl (cB, 940, .inl f_p0_bytes)), (h_p0_wordNames, .inl (cJ, 23, .inr (.inl f_p0_wordNames))), (p0, .inr (6, vL 12 F339))] H := hP
      have hD : va_D A [(h0, .inr (1, vL 18 Fh)), (h_settings, .inl (cI, 5, .inl f_settings)), (h_p0_bytes, .inl (cB, 940, .inl f_p0_bytes)), (h_p0_wordNames, .inl (cJ, 23, .inr (.inl f_p0_wordNames))), (p0, .inr (6, vL 12 F339))] := hD
      refine W.widen (k := 0) (n := 0) (Nat.le_of_ble_eq_true rfl) (Nat.le_of_ble_eq_true rfl) ?_
      exact ret_i (v := 0) hx hb hr hlocks hS (hP.sub (ws' := [(h0, .inr (1, vL 18 Fh)), (h_settings, .inl (cI, 5, .inl f_settings)), (p0, .inr (6, vL 12 F339)), (h_p0_bytes, .inl (cB, 940, .inl f_p0_bytes)), (h_p0_wordNames, .inl (cJ, 23, .inr (.inl f_p0_wordNames)))]) [0, 1, 4, 2, 3] rfl) (hD.sub (ws' := [(h0, .inr (1, vL 18 Fh)), (h_settings, .inl (cI, 5, .inl f_settings)), (p0, .inr (6, vL 12 F339)), (h_p0_bytes, .inl (cB, 940, .inl f_p0_bytes)), (h_p0_wordNames, .inl (cJ, 23, .inr (.inl f_p0_wordNames)))]) [0, 1, 4, 2, 3] (by decide) rfl) dX1_readSetting_16 rfl (Nat.le_of_ble_eq_true rfl) (Nat.le_of_ble_eq_true rfl) (Or.inl ⟨Fh, x_settingsTold, F339, x_p0_kind, x_p0_place, x_p0_value, x_p0_name, 3, x_p0_place, x_p0_at, SAME.rf, e_settingsTold, (SAME.tr SAME.rf t340 (by decide)), (SAME.at t340 (by decide) e_p0_kind), (SAME.at t340 (by decide) e_p0_place), (SAME.at t340 (by decide) e_p0_value), (SAME.at t340 (by decide) e_p0_name), t341, (show 1 ≤ (3 : Int32).toInt ∧ (3 : Int32).toInt ≤ 3 by decide), t342, (SAME.at t340 (by decide) e_p0_at), i_x_p0_at, (fun ms b rs => by rw [k259, cSetK_3]; exact inl_eq (cSet_t (show ((x_settingsTold >>> ((3 : Int32) &&& 31)) &&& 1).toInt ≠ 0 by rw [← ev261, ← ev262]; exact dc264)) (by decide) tkC_pl.symm), rfl, rfl⟩)
  have dk259 : p1.toInt ≠ 3 := ne_i rfl rfl k259
  have k344 : 4 ≤ p1.toInt ∧ p1.toInt ≤ 4 := ⟨ne_lo dk259 k258.1 ⟨Int.le_refl _, Int.le_refl _⟩ (by decide), k258.2⟩
  have k345 : p1 = 4 := Int32.toInt_inj.mp (show p1.toInt = 4 by omega)
  have dk345 : p1.toInt = 4 := eq_i rfl rfl k345
  have hl : lv_has ls 3 [(0, .ref h0), (1, .ref p0), (2, .int 4)] := by have q := hl; rw [k345] at q; exact q
  refine lv_aload_n hx hb dX1_readSetting_0 rfl (lv_at hl 0 rfl) ?_
  refine get_f (D := D) (ci := 1) (v := .int x_settingsTold) (C := RX1) (T := TX1) (N := 18) hx hb hw inAX1 hown hK hP 0 rfl rfl 17 (by decide) (hw _ q_364) (fun _ h9 => h9) e_settingsTold dX1_readSetting_1 ?_
  refine lv_iload_n hx hb dX1_readSetting_4 rfl (lv_at hl 2 rfl) ?_
  refine lv_ishr hx hb dX1_readSetting_5 ?_
  refine lv_topi (fun v346 ev346 => ?_)
  refine lv_iconst (v := 1) hx hb dX1_readSetting_6 (by decide) ?_
  refine lv_iand hx hb dX1_readSetting_7 ?_
  refine lv_topi (fun v347 ev347 => ?_)
  have k348 : 0 ≤ v347.toInt ∧ v347.toInt ≤ 1 := by rw [ev347]; exact and_i v346 1 (by decide)
  refine lv_if_eq (tgt := 17) hx hb dX1_readSetting_8 (by decide) (fun c349 => ?_) (fun c349 => ?_)
  · have dc349 : v347.toInt = 0 := eq_i (a := v347.toInt) (b := 0) rfl rfl c349
    have k350 : 0 ≤ v347.toInt ∧ v347.toInt ≤ 0 := ⟨k348.1, Int.le_trans (Int.le_of_eq dc349) (Int.le_refl _)⟩
    refine lv_aload_n hx hb dX1_readSetting_17 rfl (lv_at hl 0 rfl) ?_
    refine lv_dup hx hb dX1_readSetting_18 rfl ?_
    refine get_f (D := D) (ci := 1) (v := .int x_settingsTold) (C := RX1) (T := TX1) (N := 18) hx hb hw inAX1 hown hK hP 0 rfl rfl 17 (by decide) (hw _ q_364) (fun _ h9 => h9) e_settingsTold dX1_readSetting_19 ?_
    refine lv_iconst (v := 1) hx hb dX1_readSetting_22 (by decide) ?_
    refine lv_iload_n hx hb dX1_readSetting_23 rfl (lv_at hl 2 rfl) ?_
    refine lv_ishl hx hb dX1_readSetting_24 ?_
    refine lv_ci (y := 16) (by decide +kernel) ?_
    refine lv_ior hx hb dX1_readSetting_25 ?_
    refine lv_topi (fun v351 ev351 => ?_)
    refine put_f (D := D) (ci := 1) (v := .int v351) (ty := .int) (C := RX1) (T := TX1) (N := 18) hx hb hw inAX1 tyX1 tyX1_ok nmX1 hown hK hP hD hS 0 rfl rfl 17 (by decide) (hw _ q_364) (fun _ h9 => h9) rfl (by decide +kernel) rfl rfl dX1_readSetting_26 (fun H locs F352 eF352 hP hD hS => ?_)
    have hP : va_P D vwCl [(h0, .inr (1, vL 18 F352)), (h_settings, .inl (cI, 5, .inl f_settings)), (p0, .inr (6, vL 12 F_p0_)), (h_p0_bytes, .inl (cB, 940, .inl f_p0_bytes)), (h_p0_wordNames, .inl (cJ, 23, .inr (.inl f_p0_wordNames)))] H := hP
    have hD : va_D A [(h0, .inr (1, vL 18 F352)), (h_settings, .inl (cI, 5, .inl f_settings)), (p0, .inr (6, vL 12 F_p0_)), (h_p0_bytes, .inl (cB, 940, .inl f_p0_bytes)), (h_p0_wordNames, .inl (cJ, 23, .inr (.inl f_p0_wordNames)))] := hD
    refine lv_aload_n hx hb dX1_readSetting_29 rfl (lv_at hl 1 rfl) ?_
    refine call_Vv (wr := [(h0, .inr (1, vL 18 F352)), (h_settings, .inl (cI, 5, .inl f_settings))]) (As := []) (rest := []) hx hb hml hown hw (m_X6_advance l D cI cJ cB cP cM cZ p0 h_p0_bytes h_p0_wordNames F_p0_ x_p0_length x_p0_kind x_p0_place x_p0_value x_p0_name x_p0_at x_p0_mostBytes f_p0_bytes f_p0_wordNames _ e_p0_bytes e_p0_length i_x_p0_length e_p0_kind e_p0_place e_p0_value e_p0_name e_p0_wordNames e_p0_at i_x_p0_at e_p0_mostBytes s_p0_bytes_0 s_p0_wordNames_KN) wV_X1_131_X6_advance dX1_readSetting_30 hK hP hD hS hA [2, 3, 4] [0, 1] rfl rfl (by decide) (by decide) (by decide) 0 6 rfl rfl GG.fb hG.1.at hl.1 rfl (Nat.le_of_ble_eq_true rfl) ⟨(Nat.le_of_ble_eq_true rfl), (Nat.le_of_ble_eq_true rfl)⟩ ⟨(Nat.le_of_ble_eq_true rfl), (Nat.le_of_ble_eq_true rfl)⟩ (fun u H locs hp hP hD hS => ?_)
    obtain ⟨F354, y355, y356, y357, y358, y359, t360, t361, t362, t363, t364, t365, t366, t367, t368, t369, t370, t371, rfl⟩ := hp
    have hP : va_P D vwCl [(h0, .inr (1, vL 18 F352)), (h_settings, .inl (cI, 5, .inl f_settings)), (p0, .inr (6, vL 12 F354)), (h_p0_bytes, .inl (cB, 940, .inl f_p0_bytes)), (h_p0_wordNames, .inl (cJ, 23, .inr (.inl f_p0_wordNames)))] H := hP
    have hD : va_D A [(h0, .inr (1, vL 18 F352)), (h_settings, .inl (cI, 5, .inl f_settings)), (p0, .inr (6, vL 12 F354)), (h_p0_bytes, .inl (cB, 940, .inl f_p0_bytes)), (h_p0_wordNames, .inl (cJ, 23, .inr (.inl f_p0_wordNames)))] := hD
    refine W.widen (k := 0) (n := 0) (Nat.le_of_ble_eq_true rfl) (Nat.le_of_ble_eq_true rfl) ?_
    refine lv_aload_n hx hb dX1_readSetting_33 rfl (lv_at hl 1 rfl) ?_
    refine lv_aload_n hx hb dX1_readSetting_34 rfl (lv_at hl 0 rfl) ?_
    have n373 : F352 1 = .ref h_settings := (get_ne eF352 (by decide) e_settings)
    refine get_f (D := D) (ci := 1) (v := .ref h_settings) (C := RX1) (T := TX1) (N := 18) hx hb hw inAX1 hown hK hP 0 rfl rfl 1 (by decide) (hw _ q_315) (fun _ h9 => h9) n373 dX1_readSetting_35 ?_
    refine lv_iload_n hx hb dX1_readSetting_38 rfl (lv_at hl 2 rfl) ?_
    refine va_getsN hx hb hST.2.2.1 hS hown (va_Nw.use rfl (hG.1.2.1 (.fieldLinkNest "FourSledge$Course" 134 "FourSledge" "SETTING_LEAST" "[I" "FourSledge") (by decide +kernel))) (fun _ h9 => h9) dX1_readSetting_39 ?_
    refine lv_iload_n hx hb dX1_readSetting_42 rfl (lv_at hl 2 rfl) ?_
    refine va_ti (v := .int (lF 4)) hx hb hST.2.2.2.1 hS (vp_in_nI (n := 4) (N := 5) (Nat.le_of_ble_eq_true rfl) (Nat.le_of_ble_eq_true rfl)) rfl dX1_readSetting_43 ?_
    refine lv_ci (y := 0) (by decide +kernel) ?_
    refine va_getsN hx hb hST.2.2.2.2.1 hS hown (va_Nw.use rfl (hG.1.2.1 (.fieldLinkNest "FourSledge$Course" 137 "FourSledge" "SETTING_MOST" "[I" "FourSledge") (by decide +kernel))) (fun _ h9 => h9) dX1_readSetting_44 ?_
    refine lv_iload_n hx hb dX1_readSetting_47 rfl (lv_at hl 2 rfl) ?_
    refine va_ti (v := .int (mF 4)) hx hb hST.2.2.2.2.2 hS (vp_in_nI (n := 4) (N := 5) (Nat.le_of_ble_eq_true rfl) (Nat.le_of_ble_eq_true rfl)) rfl dX1_readSetting_48 ?_
    refine lv_ci (y := 20) (by decide +kernel) ?_
    have n374 : F354 0 = .ref h_p0_bytes := (SAME.at t360 (by decide) e_p0_bytes)
    have n375 : F354 1 = .int x_p0_length := (SAME.at t360 (by decide) e_p0_length)
    have n376 : F354 7 = .int x_p0_faultKind := (SAME.at t360 (by decide) e_p0_faultKind)
    have n377 : F354 8 = .int x_p0_faultPlace := (SAME.at t360 (by decide) e_p0_faultPlace)
    have n378 : F354 9 = .ref h_p0_wordNames := (SAME.at t360 (by decide) e_p0_wordNames)
    have n379 : F354 11 = .int x_p0_mostBytes := (SAME.at t360 (by decide) e_p0_mostBytes)
    refine call_Vi (wr := [(h0, .inr (1, vL 18 F352))]) (As := [.ref h_settings, .int 4, .int 0, .int 20]) (rest := []) hx hb hml hown hw (m_X6_takeInto_5 l D cI cJ cB cP cM cZ p0 h_p0_bytes h_p0_wordNames h_settings F354 x_p0_length y355 y356 y357 y358 x_p0_faultKind x_p0_faultPlace y359 x_p0_mostBytes f_p0_bytes f_p0_wordNames f_settings 4 0 20 _ n374 n375 i_x_p0_length t361 t363 t365 t366 n376 n377 n378 t367 t368 n379 s_p0_bytes_0 s_p0_wordNames_KN (show 0 ≤ (4 : Int32).toInt ∧ (4 : Int32).toInt ≤ 4 by decide)) wV_X1_140_X6_takeInto dX1_readSetting_49 hK hP hD hS hA [2, 3, 4, 1] [0] rfl rfl (by decide) (by decide) (by decide) 0 6 rfl rfl GG.fb hG.1.at hl.1 rfl (Nat.le_of_ble_eq_true rfl) ⟨(Nat.le_of_ble_eq_true rfl), (Nat.le_of_ble_eq_true rfl)⟩ ⟨(Nat.le_of_ble_eq_true rfl), (Nat.le_of_ble_eq_true rfl)⟩ (fun r380 u H locs hp hP hD hS => ?_)
    have zl0 : (0 : Int32).toInt = 0 := by decide
    have zl4 : (4 : Int32).toInt = 4 := by decide
    have zl20 : (20 : Int32).toInt = 20 := by decide
    rcases hp with hp | hp
    · obtain ⟨F381, y382, y383, t384, t385, t386, t387, t388, t389, t390, rfl, rfl⟩ := hp
      have hP : va_P D vwCl [(h0, .inr (1, vL 18 F352)), (p0, .inr (6, vL 12 F381)), (h_p0_bytes, .inl (cB, 940, .inl f_p0_bytes)), (h_p0_wordNames, .inl (cJ, 23, .inr (.inl f_p0_wordNames))), (h_settings, .inl (cI, 5, .inl f_settings))] H := hP
      have hD : va_D A [(h0, .inr (1, vL 18 F352)), (p0, .inr (6, vL 12 F381)), (h_p0_bytes, .inl (cB, 940, .inl f_p0_bytes)), (h_p0_wordNames, .inl (cJ, 23, .inr (.inl f_p0_wordNames))), (h_settings, .inl (cI, 5, .inl f_settings))] := hD
      refine W.widen (k := 0) (n := 0) (Nat.le_of_ble_eq_true rfl) (Nat.le_of_ble_eq_true rfl) ?_
      exact ret_i (v := 0) hx hb hr hlocks hS (hP.sub (ws' := [(h0, .inr (1, vL 18 F352)), (h_settings, .inl (cI, 5, .inl f_settings)), (p0, .inr (6, vL 12 F381)), (h_p0_bytes, .inl (cB, 940, .inl f_p0_bytes)), (h_p0_wordNames, .inl (cJ, 23, .inr (.inl f_p0_wordNames)))]) [0, 4, 1, 2, 3] rfl) (hD.sub (ws' := [(h0, .inr (1, vL 18 F352)), (h_settings, .inl (cI, 5, .inl f_settings)), (p0, .inr (6, vL 12 F381)), (h_p0_bytes, .inl (cB, 940, .inl f_p0_bytes)), (h_p0_wordNames, .inl (cJ, 23, .inr (.inl f_p0_wordNames)))]) [0, 4, 1, 2, 3] (by decide) rfl) dX1_readSetting_52 rfl (Nat.le_of_ble_eq_true rfl) (Nat.le_of_ble_eq_true rfl) (Or.inl ⟨F352, v351, F381, y355, y356, y357, y358, y382, y383, y359, (SAME.up eF352 SAME.rf (by decide)), (get_eq eF352), (SAME.tr (SAME.tr SAME.rf t360 (by decide)) t384 (by decide)), (SAME.at t384 (by decide) t361), (SAME.at t384 (by decide) t363), (SAME.at t384 (by decide) t365), (SAME.at t384 (by decide) t366), t385, (ir_wk t386 (by decide) (by decide)), t387, (SAME.at t384 (by decide) t367), t368, (fun ms b rs => by rw [k345, cSetK_4]; exact cSet_f (show ((x_settingsTold >>> ((4 : Int32) &&& 31)) &&& 1).toInt = 0 by rw [← ev346, ← ev347]; exact dc349) (at_tk t369 (by omega)) t390), rfl, rfl⟩)
    · refine hp.elim (fun F391 h9z0 => h9z0.elim (fun y392 h9z1 => h9z1.elim (fun y393 h9z2 => h9z2.elim (fun y394 h9z3 => h9z3.elim (fun y395 h9z4 => h9z4.elim (fun y396 h9z5 => h9z5.elim (fun g397 h9z6 => h9z6.elim (fun t398 h9z7 => h9z7.elim (fun t399 h9z8 => h9z8.elim (fun t400 h9z9 => h9z9.elim (fun t401 h9z10 => h9z10.elim (fun t402 h9z11 => h9z11.elim (fun t403 h9z12 => h9z12.elim (fun t404 h9z13 => h9z13.elim (fun t405 h9z14 => h9z14.elim (fun t406 h9z15 => h9z15.elim (fun t407 h9z16 => h9z16.elim (fun t408 h9z17 => h9z17.elim (fun t409 h9z18 => h9z18.elim (fun t410 h9z19 => h9z19.elim (fun t411 h9z20 => h9z20.elim (fun t412 h9z21 => h9z21.elim (fun t413 h9z22 => h9z22.elim (fun t414 h9z23 => h9z23.elim (fun t415 h9z24 => h9z24.elim (fun t416 h9z25 => h9z25.elim (fun heq926 h9z26 => ?_)))))))))))))))))))))))))))
      clear h9z0 h9z1 h9z2 h9z3 h9z4 h9z5 h9z6 h9z7 h9z8 h9z9 h9z10 h9z11 h9z12 h9z13 h9z14 h9z15 h9z16 h9z17 h9z18 h9z19 h9z20 h9z21 h9z22 h9z23 h9z24 h9z25
      subst heq926
      subst h9z26
      have hP : va_P D vwCl [(h0, .inr (1, vL 18 F352)), (p0, .inr (6, vL 12 F391)), (h_p0_bytes, .inl (cB, 940, .inl f_p0_bytes)), (h_p0_wordNames, .inl (cJ, 23, .inr (.inl f_p0_wordNames))), (h_settings, .inl (cI, 5, .inl g397))] H := hP
      have hD : va_D A [(h0, .inr (1, vL 18 F352)), (p0, .inr (6, vL 12 F391)), (h_p0_bytes, .inl (cB, 940, .inl f_p0_bytes)), (h_p0_wordNames, .inl (cJ, 23, .inr (.inl f_p0_wordNames))), (h_settings, .inl (cI, 5, .inl g397))] := hD
      refine W.widen (k := 0) (n := 0) (Nat.le_of_ble_eq_true rfl) (Nat.le_of_ble_eq_true rfl) ?_
      have k418 : 3 ≤ y355.toInt ∧ y355.toInt ≤ 3 := ⟨Int.le_trans (Int.le_refl _) (Int.le_of_eq t409.symm), Int.le_trans (Int.le_of_eq t409) (Int.le_refl _)⟩
      have k419 : 0 ≤ y357.toInt ∧ y357.toInt ≤ 2147483647 := ⟨Int.le_trans (Int.le_refl _) t410, (ir_any _).2⟩
      have k420 : 0 ≤ y357.toInt ∧ y357.toInt ≤ 20 := ⟨k419.1, Int.le_trans t411 (Int.le_refl _)⟩
      have r421 : SG 0 0 5 40 g397 := by rw [← t412]; exact s_settings_0.up (by decide) (Or.inr (Or.inl (by decide)))
      exact ret_i (v := 1) hx hb hr hlocks hS (hP.sub (ws' := [(h0, .inr (1, vL 18 F352)), (h_settings, .inl (cI, 5, .inl g397)), (p0, .inr (6, vL 12 F391)), (h_p0_bytes, .inl (cB, 940, .inl f_p0_bytes)), (h_p0_wordNames, .inl (cJ, 23, .inr (.inl f_p0_wordNames)))]) [0, 4, 1, 2, 3] rfl) (hD.sub (ws' := [(h0, .inr (1, vL 18 F352)), (h_settings, .inl (cI, 5, .inl g397)), (p0, .inr (6, vL 12 F391)), (h_p0_bytes, .inl (cB, 940, .inl f_p0_bytes)), (h_p0_wordNames, .inl (cJ, 23, .inr (.inl f_p0_wordNames)))]) [0, 4, 1, 2, 3] (by decide) rfl) dX1_readSetting_52 rfl (Nat.le_of_ble_eq_true rfl) (Nat.le_of_ble_eq_true rfl) (Or.inr ⟨F352, v351, F391, y392, y393, y394, y395, y396, g397, (SAME.up eF352 SAME.rf (by decide)), (get_eq eF352), (SAME.tr (SAME.tr SAME.rf t360 (by decide)) t398 (by decide)), t399, t400, t401, t402, t403, t404, t405, t406, r421, (fun ms b rs => by rw [k345, cSetK_4]; exact cSet_o (show ((x_settingsTold >>> ((4 : Int32) &&& 31)) &&& 1).toInt = 0 by rw [← ev346, ← ev347]; exact dc349) (at_tk t369 (by omega)) t413 (ev351.trans (congrArg (fun z => x_settingsTold ||| z) (show (16 : Int32) = 1 <<< ((4 : Int32) &&& 31) by decide))) (by rw [if_neg (by decide)]; exact upd_n t412 (by decide))), t415, rfl, rfl⟩)
  · have dc349 : v347.toInt ≠ 0 := ne_i (a := v347.toInt) (b := 0) rfl rfl c349
    have k422 : 1 ≤ v347.toInt ∧ v347.toInt ≤ 1 := ⟨ne_lo dc349 k348.1 ⟨Int.le_refl _, Int.le_refl _⟩ (by decide), k348.2⟩
    refine lv_aload_n hx hb dX1_readSetting_11 rfl (lv_at hl 1 rfl) ?_
    refine lv_iconst (v := 3) hx hb dX1_readSetting_12 (by decide) ?_
    refine call_Vi (wr := [(h0, .inr (1, vL 18 Fh)), (h_settings, .inl (cI, 5, .inl f_settings)), (h_p0_bytes, .inl (cB, 940, .inl f_p0_bytes)), (h_p0_wordNames, .inl (cJ, 23, .inr (.inl f_p0_wordNames)))]) (As := [.int 3]) (rest := []) hx hb hml hown hw (m_X6_fail l D cI cJ cB cP cM cZ p0 F_p0_ x_p0_place 3 _ e_p0_place) wV_X1_128_X6_fail dX1_readSetting_13 hK hP hD hS hA [2] [0, 1, 3, 4] rfl rfl (by decide) (by decide) (by decide) 0 6 rfl rfl GG.fb hG.1.at hl.1 rfl (Nat.le_of_ble_eq_true rfl) ⟨(Nat.le_of_ble_eq_true rfl), (Nat.le_of_ble_eq_true rfl)⟩ ⟨(Nat.le_of_ble_eq_true rfl), (Nat.le_of_ble_eq_true rfl)⟩ (fun r423 u H locs hp hP hD hS => ?_)
    have zl3 : (3 : Int32).toInt = 3 := by decide
    obtain ⟨F424, t425, t426, t427, rfl, rfl⟩ := hp
    have hP : va_P D vwCl [(h0, .inr (1, vL 18 Fh)), (h_settings, .inl (cI, 5, .inl f_settings)), (h_p0_bytes, .inl (cB, 940, .inl f_p0_bytes)), (h_p0_wordNames, .inl (cJ, 23, .inr (.inl f_p0_wordNames))), (p0, .inr (6, vL 12 F424))] H := hP
    have hD : va_D A [(h0, .inr (1, vL 18 Fh)), (h_settings, .inl (cI, 5, .inl f_settings)), (h_p0_bytes, .inl (cB, 940, .inl f_p0_bytes)), (h_p0_wordNames, .inl (cJ, 23, .inr (.inl f_p0_wordNames))), (p0, .inr (6, vL 12 F424))] := hD
    refine W.widen (k := 0) (n := 0) (Nat.le_of_ble_eq_true rfl) (Nat.le_of_ble_eq_true rfl) ?_
    exact ret_i (v := 0) hx hb hr hlocks hS (hP.sub (ws' := [(h0, .inr (1, vL 18 Fh)), (h_settings, .inl (cI, 5, .inl f_settings)), (p0, .inr (6, vL 12 F424)), (h_p0_bytes, .inl (cB, 940, .inl f_p0_bytes)), (h_p0_wordNames, .inl (cJ, 23, .inr (.inl f_p0_wordNames)))]) [0, 1, 4, 2, 3] rfl) (hD.sub (ws' := [(h0, .inr (1, vL 18 Fh)), (h_settings, .inl (cI, 5, .inl f_settings)), (p0, .inr (6, vL 12 F424)), (h_p0_bytes, .inl (cB, 940, .inl f_p0_bytes)), (h_p0_wordNames, .inl (cJ, 23, .inr (.inl f_p0_wordNames)))]) [0, 1, 4, 2, 3] (by decide) rfl) dX1_readSetting_16 rfl (Nat.le_of_ble_eq_true rfl) (Nat.le_of_ble_eq_true rfl) (Or.inl ⟨Fh, x_settingsTold, F424, x_p0_kind, x_p0_place, x_p0_value, x_p0_name, 3, x_p0_place, x_p0_at, SAME.rf, e_settingsTold, (SAME.tr SAME.rf t425 (by decide)), (SAME.at t425 (by decide) e_p0_kind), (SAME.at t425 (by decide) e_p0_place), (SAME.at t425 (by decide) e_p0_value), (SAME.at t425 (by decide) e_p0_name), t426, (show 1 ≤ (3 : Int32).toInt ∧ (3 : Int32).toInt ≤ 3 by decide), t427, (SAME.at t425 (by decide) e_p0_at), i_x_p0_at, (fun ms b rs => by rw [k345, cSetK_4]; exact inl_eq (cSet_t (show ((x_settingsTold >>> ((4 : Int32) &&& 31)) &&& 1).toInt ≠ 0 by rw [← ev346, ← ev347]; exact dc349)) (by decide) tkC_pl.symm), rfl, rfl⟩)
set_option maxHeartbeats 4000000 in
set_option maxRecDepth 100000 in
theorem m_X6_isName (l : Launch) (D : va_G) (cI cJ cB cP cM cZ : ClassId) (h0 : Nat) (Fh : Nat → Value) (x_kind : Int32) (x_value : Int32) (sz : Nat) (e_kind : Fh 2 = .int x_kind) (e_value : Fh 4 = .int x_value) : CI l yX6_isName cX6_isName 1 (some .boolean) { frames := 0, cells := 0, slots := 0, locals := 0 } (GG D cI cJ cB cP cM cZ) D [(h0, .inr (6, vL 12 Fh))] sz [.ref h0] (fun (r : Int32) (u : va_W) => IR 0 1 r ∧ ((r.toInt = 1 ∧ x_kind.toInt = 2 ∧ x_value.toInt = -1) ∨ (r.toInt = 0 ∧ ¬ (x_kind.toInt = 2 ∧ x_value.toInt = -1))) ∧ u = [(h0, .inr (6, vL 12 Fh))]) := by
  refine CI_mk (by decide) (Nat.le_of_ble_eq_true rfl) ?_
  intro p e s m below meth c A ls E hAe hG hsz hP hD hA hS hl
  obtain ⟨hx, hb, hr, hw, hown, hlocks, hml, hnm⟩ := E
  have hK := hG.1
  have hl : lv_has ls 1 [(0, .ref h0)] := hl
  refine lv_aload_n hx hb dX6_isName_0 rfl (lv_at hl 0 rfl) ?_
  refine get_f (D := D) (ci := 6) (v := .int x_kind) (C := RX6) (T := TX6) (N := 12) hx hb hw inAX6 hown hK hP 0 rfl rfl 2 (by decide) (hw _ q_92) (fun _ h9 => h9) e_kind dX6_isName_1 ?_
  refine lv_iconst (v := 2) hx hb dX6_isName_4 (by decide) ?_
  refine lv_icmp_ne (tgt := 20) hx hb dX6_isName_5 (by decide) (fun c1 => ?_) (fun c1 => ?_)
  · have dc1 : x_kind.toInt ≠ 2 := ne_i (a := x_kind.toInt) (b := 2) rfl rfl c1
    refine lv_iconst (v := 0) hx hb dX6_isName_20 (by decide) ?_
    exact ret_i (v := 0) hx hb hr hlocks hS hP hD dX6_isName_21 rfl (Nat.le_of_ble_eq_true rfl) (Nat.le_of_ble_eq_true rfl) ⟨(show 0 ≤ (0 : Int32).toInt ∧ (0 : Int32).toInt ≤ 1 by decide), (by have zl0 : (0 : Int32).toInt = 0 := (by decide); omega), rfl⟩
  · have dc1 : x_kind.toInt = 2 := eq_i (a := x_kind.toInt) (b := 2) rfl rfl c1
    have k2 : 2 ≤ x_kind.toInt ∧ x_kind.toInt ≤ 2 := ⟨Int.le_trans (Int.le_refl _) (Int.le_of_eq dc1.symm), Int.le_trans (Int.le_of_eq dc1) (Int.le_refl _)⟩
    refine lv_aload_n hx hb dX6_isName_8 rfl (lv_at hl 0 rfl) ?_
    refine get_f (D := D) (ci := 6) (v := .int x_value) (C := RX6) (T := TX6) (N := 12) hx hb hw inAX6 hown hK hP 0 rfl rfl 4 (by decide) (hw _ q_97) (fun _ h9 => h9) e_value dX6_isName_9 ?_
    refine lv_iconst (v := (-1)) hx hb dX6_isName_12 (by decide) ?_
    refine lv_icmp_ne (tgt := 20) hx hb dX6_isName_13 (by decide) (fun c3 => ?_) (fun c3 => ?_)
    · have dc3 : x_value.toInt ≠ (-1) := ne_i (a := x_value.toInt) (b := (-1)) rfl rfl c3
      refine lv_iconst (v := 0) hx hb dX6_isName_20 (by decide) ?_
      exact ret_i (v := 0) hx hb hr hlocks hS hP hD dX6_isName_21 rfl (Nat.le_of_ble_eq_true rfl) (Nat.le_of_ble_eq_true rfl) ⟨(show 0 ≤ (0 : Int32).toInt ∧ (0 : Int32).toInt ≤ 1 by decide), (by have zl0 : (0 : Int32).toInt = 0 := (by decide); omega), rfl⟩
    · have dc3 : x_value.toInt = (-1) := eq_i (a := x_value.toInt) (b := (-1)) rfl rfl c3
      have k4 : (-1) ≤ x_value.toInt ∧ x_value.toInt ≤ (-1) := ⟨Int.le_trans (Int.le_refl _) (Int.le_of_eq dc3.symm), Int.le_trans (Int.le_of_eq dc3) (Int.le_refl _)⟩
      refine lv_iconst (v := 1) hx hb dX6_isName_16 (by decide) ?_
      refine lv_goto (tgt := 21) hx hb dX6_isName_17 (by decide) ?_
      exact ret_i (v := 1) hx hb hr hlocks hS hP hD dX6_isName_21 rfl (Nat.le_of_ble_eq_true rfl) (Nat.le_of_ble_eq_true rfl) ⟨(show 0 ≤ (1 : Int32).toInt ∧ (1 : Int32).toInt ≤ 1 by decide), (by have zl1 : (1 : Int32).toInt = 1 := (by decide); omega), rfl⟩
set_option maxHeartbeats 4000000 in
set_option maxRecDepth 100000 in
theorem m_X1_indexOf_12 (l : Launch) (D : va_G) (cI cJ cB cP cM cZ : ClassId) (p0 : Nat) (f_p0 : Nat → Int64) (p1 : Int32) (p2 : Int64) (sz : Nat) (i_p1 : IR 0 12 p1) : CI l yX1_indexOf cX1_indexOf 5 (some .int) { frames := 0, cells := 0, slots := 0, locals := 0 } (GG D cI cJ cB cP cM cZ) D [(p0, .inl (cJ, 12, .inr (.inl f_p0)))] sz [.ref p0, .int p1, .long p2] (fun (r : Int32) (u : va_W) => IR (-1) 11 r ∧ (r.toInt = wixK (nmL f_p0 p1.toInt) 0 p2.toInt) ∧ u = [(p0, .inl (cJ, 12, .inr (.inl f_p0)))]) := by
  refine CI_mk (by decide) (Nat.le_of_ble_eq_true rfl) ?_
  intro p e s m below meth c A ls E hAe hG hsz hP hD hA hS hl
  obtain ⟨hx, hb, hr, hw, hown, hlocks, hml, hnm⟩ := E
  have hK := hG.1
  have i_p1 : 0 ≤ p1.toInt ∧ p1.toInt ≤ 12 := i_p1
  have hl : lv_has ls 5 [(0, .ref p0), (1, .int p1), (2, .long p2)] := hl
  refine lv_iconst (v := 0) hx hb dX1_indexOf_0 (by decide) ?_
  refine lv_istore (lv' := [(4, .int 0), (0, .ref p0), (1, .int p1), (2, .long p2)]) hx hb dX1_indexOf_1 hl (by decide) rfl (fun ls hl => ?_)
  refine mloop (α := (Int32)) (nL := 5) (D := D) (A := A) (H0 := s.heap) (fun a => (12 - a.toInt).toNat) (fun a => IR 0 12 a ∧ (FI (gL f_p0) p2.toInt p1.toInt a.toInt)) (fun a => [(p0, .inl (cJ, 12, .inr (.inl f_p0)))]) (fun a => [(4, .int a), (0, .ref p0), (1, .int p1), (2, .long p2)]) (fun H locs ls => W p l e ({ frames := 0, cells := 0, slots := 0, locals := 0 } : Room) s m [.ref p0, .int p1, .long p2].toArray below meth c H locs 0 0 (MQ below (va_Qi (fun (r : Int32) (u : va_W) => IR (-1) 11 r ∧ (r.toInt = wixK (nmL f_p0 p1.toInt) 0 p2.toInt) ∧ u = [(p0, .inl (cJ, 12, .inr (.inl f_p0)))]) (PO D A) A) [.ref p0, .int p1, .long p2].toArray s 0 0 A) (F0 m 3 ls [])) ?_ (0) ⟨(show 0 ≤ (0 : Int32).toInt ∧ (0 : Int32).toInt ≤ 12 by decide), (show FI (gL f_p0) p2.toInt p1.toInt 0 from FI.zero)⟩ _ _ _ hP hD hS hl
  rintro u1 ⟨i2, i3⟩ ih H locs ls hP hD hS hl
  have i2 : 0 ≤ u1.toInt ∧ u1.toInt ≤ 12 := i2
  have i3 : FI (gL f_p0) p2.toInt p1.toInt u1.toInt := i3
  have hP : va_P D vwCl [(p0, .inl (cJ, 12, .inr (.inl f_p0)))] H := hP
  have hD : va_D A [(p0, .inl (cJ, 12, .inr (.inl f_p0)))] := hD
  have hl : lv_has ls 5 [(4, .int u1), (0, .ref p0), (1, .int p1), (2, .long p2)] := hl
  refine lv_iload hx hb dX1_indexOf_3 (lv_at hl 0 rfl) ?_
  refine lv_iload_n hx hb dX1_indexOf_5 rfl (lv_at hl 2 rfl) ?_
  refine lv_icmp_ge (tgt := 34) hx hb dX1_indexOf_6 (by decide) (fun c4 => ?_) (fun c4 => ?_)
  · have dc4 : p1.toInt ≤ u1.toInt := le_i (a := p1.toInt) (b := u1.toInt) rfl rfl c4
    refine lv_iconst (v := (-1)) hx hb dX1_indexOf_34 (by decide) ?_
    exact ret_i (v := (-1)) hx hb hr hlocks hS hP hD dX1_indexOf_35 rfl (Nat.le_of_ble_eq_true rfl) (Nat.le_of_ble_eq_true rfl) ⟨(show (-1) ≤ ((-1) : Int32).toInt ∧ ((-1) : Int32).toInt ≤ 11 by decide), ((show (-1 : Int32).toInt = -1 by decide).trans (FI.none i3 (by omega))), rfl⟩
  · have dc4 : u1.toInt < p1.toInt := nle_i (a := p1.toInt) (b := u1.toInt) rfl rfl c4
    have k5 : 0 ≤ u1.toInt ∧ u1.toInt ≤ 11 := ⟨i2.1, up_lt dc4 i_p1.2 (by decide)⟩
    have k6 : 1 ≤ p1.toInt ∧ p1.toInt ≤ 12 := ⟨lo_lt dc4 i2.1 (by decide), i_p1.2⟩
    refine lv_iload hx hb dX1_indexOf_9 (lv_at hl 0 rfl) ?_
    refine lv_aload_n hx hb dX1_indexOf_11 rfl (lv_at hl 1 rfl) ?_
    refine va_alen (v := 12) hx hb hK hP 0 1 rfl rfl rfl dX1_indexOf_12 ?_
    refine lv_icmp_ge (tgt := 34) hx hb dX1_indexOf_13 (by decide) (fun c7 => False.elim (bad_le (le_i (a := 12) (b := u1.toInt) rfl rfl c7) (Int.le_refl _) k5.2 (by decide))) (fun c7 => ?_)
    have dc7 : u1.toInt < 12 := nle_i (a := 12) (b := u1.toInt) rfl rfl c7
    refine lv_aload_n hx hb dX1_indexOf_16 rfl (lv_at hl 1 rfl) ?_
    refine lv_iload hx hb dX1_indexOf_17 (lv_at hl 0 rfl) ?_
    refine va_lald hx hb hK hP 0 1 rfl rfl (ix_k k5 (by decide) (by decide)) dX1_indexOf_19 ?_
    refine lv_topl (fun v8 ev8 => ?_)
    refine lv_lload_n hx hb dX1_indexOf_20 rfl (lv_at hl 3 rfl) ?_
    refine W.lcmp hx hb dX1_indexOf_21 ?_
    refine lv_topi (fun v9 ev9 => ?_)
    have bv9 : v9.toInt = 0 ↔ (v8 : Int64) = p2 := by rw [ev9]; exact lc0
    have av9 : v9.toInt = 0 ↔ (v8 : Int64).toInt = (p2 : Int64).toInt := by rw [ev9]; exact lc1
    refine lv_if_ne (tgt := 28) hx hb dX1_indexOf_22 (by decide) (fun c10 => ?_) (fun c10 => ?_)
    · have dc10 : v9.toInt ≠ 0 := ne_i (a := v9.toInt) (b := 0) rfl rfl c10
      obtain ⟨v11, ev11⟩ : ∃ z : Int32, z = u1 + 1 := ⟨_, rfl⟩
      have bv11 : v11.toInt = u1.toInt + 1 := by rw [ev11]; exact add_k rfl rfl k5 ⟨Int.le_refl _, Int.le_refl _⟩ (by decide)
      have k12 : 1 ≤ v11.toInt ∧ v11.toInt ≤ 12 := add_r bv11 k5 ⟨Int.le_refl _, Int.le_refl _⟩ (by decide)
      refine lv_iinc (v := v11) (lv' := [(4, .int v11), (0, .ref p0), (1, .int p1), (2, .long p2)]) hx hb dX1_indexOf_28 hl (k := 0) rfl (by rw [ev11]; rfl) (by decide) rfl (fun ls hl => ?_)
      refine lv_goto (tgt := 3) hx hb dX1_indexOf_31 (by decide) ?_
      exact ih (v11) ⟨(ir_wk k12 (by decide) (by decide)), (show FI (gL f_p0) p2.toInt p1.toInt v11.toInt from (FI.step i3 (by omega) (by omega) (fun q => dc10 (bv9.mpr (Int64.toInt_inj.mp (by rw [ev8]; exact q)))) (by omega)))⟩ (by show (12 - v11.toInt).toNat < (12 - u1.toInt).toNat; omega) _ _ _ hP hD hS (lv_sub hl [0, 1, 2, 3] rfl)
    · have dc10 : v9.toInt = 0 := eq_i (a := v9.toInt) (b := 0) rfl rfl c10
      have k13 : 0 ≤ v9.toInt ∧ v9.toInt ≤ 0 := ⟨Int.le_trans (Int.le_refl _) (Int.le_of_eq dc10.symm), Int.le_trans (Int.le_of_eq dc10) (Int.le_refl _)⟩
      refine lv_iload hx hb dX1_indexOf_25 (lv_at hl 0 rfl) ?_
      exact ret_i (v := u1) hx hb hr hlocks hS hP hD dX1_indexOf_27 rfl (Nat.le_of_ble_eq_true rfl) (Nat.le_of_ble_eq_true rfl) ⟨(ir_wk k5 (by decide) (by decide)), (FI.hit i3 (by omega) (by omega) (congrArg Int64.toInt (ev8.symm.trans (bv9.mp dc10)))), rfl⟩
set_option maxHeartbeats 4000000 in
set_option maxRecDepth 100000 in
theorem m_X1_manNamed (l : Launch) (D : va_G) (cI cJ cB cP cM cZ : ClassId) (h0 : Nat) (h_manName : Nat) (Fh : Nat → Value) (x_men : Int32) (f_manName : Nat → Int64) (p0 : Int64) (sz : Nat) (e_manName : Fh 2 = .ref h_manName) (e_men : Fh 13 = .int x_men) (i_x_men : IR 0 12 x_men) : CI l yX1_manNamed cX1_manNamed 3 (some .int) { frames := 1, cells := 0, slots := 0, locals := 24 } (GG D cI cJ cB cP cM cZ) D [(h0, .inr (1, vL 18 Fh)), (h_manName, .inl (cJ, 12, .inr (.inl f_manName)))] sz [.ref h0, .long p0] (fun (r : Int32) (u : va_W) => IR (-1) 11 r ∧ (r.toInt = wixK (nmL f_manName x_men.toInt) 0 p0.toInt) ∧ u = [(h0, .inr (1, vL 18 Fh)), (h_manName, .inl (cJ, 12, .inr (.inl f_manName)))]) := by
  refine CI_mk (by decide) (Nat.le_of_ble_eq_true rfl) ?_
  intro p e s m below meth c A ls E hAe hG hsz hP hD hA hS hl
  obtain ⟨hx, hb, hr, hw, hown, hlocks, hml, hnm⟩ := E
  have hK := hG.1
  have i_x_men : 0 ≤ x_men.toInt ∧ x_men.toInt ≤ 12 := i_x_men
  have hl : lv_has ls 3 [(0, .ref h0), (1, .long p0)] := hl
  refine lv_aload_n hx hb dX1_manNamed_0 rfl (lv_at hl 0 rfl) ?_
  refine get_f (D := D) (ci := 1) (v := .ref h_manName) (C := RX1) (T := TX1) (N := 18) hx hb hw inAX1 hown hK hP 0 rfl rfl 2 (by decide) (hw _ q_320) (fun _ h9 => h9) e_manName dX1_manNamed_1 ?_
  refine lv_aload_n hx hb dX1_manNamed_4 rfl (lv_at hl 0 rfl) ?_
  refine get_f (D := D) (ci := 1) (v := .int x_men) (C := RX1) (T := TX1) (N := 18) hx hb hw inAX1 hown hK hP 0 rfl rfl 13 (by decide) (hw _ q_352) (fun _ h9 => h9) e_men dX1_manNamed_5 ?_
  refine lv_lload_n hx hb dX1_manNamed_8 rfl (lv_at hl 1 rfl) ?_
  refine call_Si (wr := [(h0, .inr (1, vL 18 Fh))]) (As := [.ref h_manName, .int x_men, .long p0]) (rest := []) hx hb hml hown hw (m_X1_indexOf_12 l D cI cJ cB cP cM cZ h_manName f_manName x_men p0 _ i_x_men) wS_X1_76_X1_indexOf dX1_manNamed_9 hP hD hS hA [1] [0] rfl rfl (by decide) (by decide) (by decide) GG.fb hG.at hl.1 rfl (Nat.le_of_ble_eq_true rfl) ⟨(Nat.le_of_ble_eq_true rfl), (Nat.le_of_ble_eq_true rfl)⟩ ⟨(Nat.le_of_ble_eq_true rfl), (Nat.le_of_ble_eq_true rfl)⟩ (fun r1 u H locs hp hP hD hS => ?_)
  obtain ⟨t2, t3, rfl⟩ := hp
  have hP : va_P D vwCl [(h0, .inr (1, vL 18 Fh)), (h_manName, .inl (cJ, 12, .inr (.inl f_manName)))] H := hP
  have hD : va_D A [(h0, .inr (1, vL 18 Fh)), (h_manName, .inl (cJ, 12, .inr (.inl f_manName)))] := hD
  refine W.widen (k := 0) (n := 0) (Nat.le_of_ble_eq_true rfl) (Nat.le_of_ble_eq_true rfl) ?_
  exact ret_i (v := r1) hx hb hr hlocks hS hP hD dX1_manNamed_12 rfl (Nat.le_of_ble_eq_true rfl) (Nat.le_of_ble_eq_true rfl) ⟨t2, t3, rfl⟩
set_option maxHeartbeats 4000000 in
set_option maxRecDepth 100000 in
theorem m_X1_indexOf_6 (l : Launch) (D : va_G) (cI cJ cB cP cM cZ : ClassId) (p0 : Nat) (f_p0 : Nat → Int64) (p1 : Int32) (p2 : Int64) (sz : Nat) (i_p1 : IR 0 6 p1) : CI l yX1_indexOf cX1_indexOf 5 (some .int) { frames := 0, cells := 0, slots := 0, locals := 0 } (GG D cI cJ cB cP cM cZ) D [(p0, .inl (cJ, 6, .inr (.inl f_p0)))] sz [.ref p0, .int p1, .long p2] (fun (r : Int32) (u : va_W) => IR (-1) 5 r ∧ (r.toInt = wixK (nmL f_p0 p1.toInt) 0 p2.toInt) ∧ u = [(p0, .inl (cJ, 6, .inr (.inl f_p0)))]) := by
  refine CI_mk (by decide) (Nat.le_of_ble_eq_true rfl) ?_
  intro p e s m below meth c A ls E hAe hG hsz hP hD hA hS hl
  obtain ⟨hx, hb, hr, hw, hown, hlocks, hml, hnm⟩ := E
  have hK := hG.1
  have i_p1 : 0 ≤ p1.toInt ∧ p1.toInt ≤ 6 := i_p1
  have hl : lv_has ls 5 [(0, .ref p0), (1, .int p1), (2, .long p2)] := hl
  refine lv_iconst (v := 0) hx hb dX1_indexOf_0 (by decide) ?_
  refine lv_istore (lv' := [(4, .int 0), (0, .ref p0), (1, .int p1), (2, .long p2)]) hx hb dX1_indexOf_1 hl (by decide) rfl (fun ls hl => ?_)
  refine mloop (α := (Int32)) (nL := 5) (D := D) (A := A) (H0 := s.heap) (fun a => (6 - a.toInt).toNat) (fun a => IR 0 6 a ∧ (FI (gL f_p0) p2.toInt p1.toInt a.toInt)) (fun a => [(p0, .inl (cJ, 6, .inr (.inl f_p0)))]) (fun a => [(4, .int a), (0, .ref p0), (1, .int p1), (2, .long p2)]) (fun H locs ls => W p l e ({ frames := 0, cells := 0, slots := 0, locals := 0 } : Room) s m [.ref p0, .int p1, .long p2].toArray below meth c H locs 0 0 (MQ below (va_Qi (fun (r : Int32) (u : va_W) => IR (-1) 5 r ∧ (r.toInt = wixK (nmL f_p0 p1.toInt) 0 p2.toInt) ∧ u = [(p0, .inl (cJ, 6, .inr (.inl f_p0)))]) (PO D A) A) [.ref p0, .int p1, .long p2].toArray s 0 0 A) (F0 m 3 ls [])) ?_ (0) ⟨(show 0 ≤ (0 : Int32).toInt ∧ (0 : Int32).toInt ≤ 6 by decide), (show FI (gL f_p0) p2.toInt p1.toInt 0 from FI.zero)⟩ _ _ _ hP hD hS hl
  rintro u1 ⟨i2, i3⟩ ih H locs ls hP hD hS hl
  have i2 : 0 ≤ u1.toInt ∧ u1.toInt ≤ 6 := i2
  have i3 : FI (gL f_p0) p2.toInt p1.toInt u1.toInt := i3
  have hP : va_P D vwCl [(p0, .inl (cJ, 6, .inr (.inl f_p0)))] H := hP
  have hD : va_D A [(p0, .inl (cJ, 6, .inr (.inl f_p0)))] := hD
  have hl : lv_has ls 5 [(4, .int u1), (0, .ref p0), (1, .int p1), (2, .long p2)] := hl
  refine lv_iload hx hb dX1_indexOf_3 (lv_at hl 0 rfl) ?_
  refine lv_iload_n hx hb dX1_indexOf_5 rfl (lv_at hl 2 rfl) ?_
  refine lv_icmp_ge (tgt := 34) hx hb dX1_indexOf_6 (by decide) (fun c4 => ?_) (fun c4 => ?_)
  · have dc4 : p1.toInt ≤ u1.toInt := le_i (a := p1.toInt) (b := u1.toInt) rfl rfl c4
    refine lv_iconst (v := (-1)) hx hb dX1_indexOf_34 (by decide) ?_
    exact ret_i (v := (-1)) hx hb hr hlocks hS hP hD dX1_indexOf_35 rfl (Nat.le_of_ble_eq_true rfl) (Nat.le_of_ble_eq_true rfl) ⟨(show (-1) ≤ ((-1) : Int32).toInt ∧ ((-1) : Int32).toInt ≤ 5 by decide), ((show (-1 : Int32).toInt = -1 by decide).trans (FI.none i3 (by omega))), rfl⟩
  · have dc4 : u1.toInt < p1.toInt := nle_i (a := p1.toInt) (b := u1.toInt) rfl rfl c4
    have k5 : 0 ≤ u1.toInt ∧ u1.toInt ≤ 5 := ⟨i2.1, up_lt dc4 i_p1.2 (by decide)⟩
    have k6 : 1 ≤ p1.toInt ∧ p1.toInt ≤ 6 := ⟨lo_lt dc4 i2.1 (by decide), i_p1.2⟩
    refine lv_iload hx hb dX1_indexOf_9 (lv_at hl 0 rfl) ?_
    refine lv_aload_n hx hb dX1_indexOf_11 rfl (lv_at hl 1 rfl) ?_
    refine va_alen (v := 6) hx hb hK hP 0 1 rfl rfl rfl dX1_indexOf_12 ?_
    refine lv_icmp_ge (tgt := 34) hx hb dX1_indexOf_13 (by decide) (fun c7 => False.elim (bad_le (le_i (a := 6) (b := u1.toInt) rfl rfl c7) (Int.le_refl _) k5.2 (by decide))) (fun c7 => ?_)
    have dc7 : u1.toInt < 6 := nle_i (a := 6) (b := u1.toInt) rfl rfl c7
    refine lv_aload_n hx hb dX1_indexOf_16 rfl (lv_at hl 1 rfl) ?_
    refine lv_iload hx hb dX1_indexOf_17 (lv_at hl 0 rfl) ?_
    refine va_lald hx hb hK hP 0 1 rfl rfl (ix_k k5 (by decide) (by decide)) dX1_indexOf_19 ?_
    refine lv_topl (fun v8 ev8 => ?_)
    refine lv_lload_n hx hb dX1_indexOf_20 rfl (lv_at hl 3 rfl) ?_
    refine W.lcmp hx hb dX1_indexOf_21 ?_
    refine lv_topi (fun v9 ev9 => ?_)
    have bv9 : v9.toInt = 0 ↔ (v8 : Int64) = p2 := by rw [ev9]; exact lc0
    have av9 : v9.toInt = 0 ↔ (v8 : Int64).toInt = (p2 : Int64).toInt := by rw [ev9]; exact lc1
    refine lv_if_ne (tgt := 28) hx hb dX1_indexOf_22 (by decide) (fun c10 => ?_) (fun c10 => ?_)
    · have dc10 : v9.toInt ≠ 0 := ne_i (a := v9.toInt) (b := 0) rfl rfl c10
      obtain ⟨v11, ev11⟩ : ∃ z : Int32, z = u1 + 1 := ⟨_, rfl⟩
      have bv11 : v11.toInt = u1.toInt + 1 := by rw [ev11]; exact add_k rfl rfl k5 ⟨Int.le_refl _, Int.le_refl _⟩ (by decide)
      have k12 : 1 ≤ v11.toInt ∧ v11.toInt ≤ 6 := add_r bv11 k5 ⟨Int.le_refl _, Int.le_refl _⟩ (by decide)
      refine lv_iinc (v := v11) (lv' := [(4, .int v11), (0, .ref p0), (1, .int p1), (2, .long p2)]) hx hb dX1_indexOf_28 hl (k := 0) rfl (by rw [ev11]; rfl) (by decide) rfl (fun ls hl => ?_)
      refine lv_goto (tgt := 3) hx hb dX1_indexOf_31 (by decide) ?_
      exact ih (v11) ⟨(ir_wk k12 (by decide) (by decide)), (show FI (gL f_p0) p2.toInt p1.toInt v11.toInt from (FI.step i3 (by omega) (by omega) (fun q => dc10 (bv9.mpr (Int64.toInt_inj.mp (by rw [ev8]; exact q)))) (by omega)))⟩ (by show (6 - v11.toInt).toNat < (6 - u1.toInt).toNat; omega) _ _ _ hP hD hS (lv_sub hl [0, 1, 2, 3] rfl)
    · have dc10 : v9.toInt = 0 := eq_i (a := v9.toInt) (b := 0) rfl rfl c10
      have k13 : 0 ≤ v9.toInt ∧ v9.toInt ≤ 0 := ⟨Int.le_trans (Int.le_refl _) (Int.le_of_eq dc10.symm), Int.le_trans (Int.le_of_eq dc10) (Int.le_refl _)⟩
      refine lv_iload hx hb dX1_indexOf_25 (lv_at hl 0 rfl) ?_
      exact ret_i (v := u1) hx hb hr hlocks hS hP hD dX1_indexOf_27 rfl (Nat.le_of_ble_eq_true rfl) (Nat.le_of_ble_eq_true rfl) ⟨(ir_wk k5 (by decide) (by decide)), (FI.hit i3 (by omega) (by omega) (congrArg Int64.toInt (ev8.symm.trans (bv9.mp dc10)))), rfl⟩
set_option maxHeartbeats 4000000 in
set_option maxRecDepth 100000 in
theorem m_X1_runnerNamed (l : Launch) (D : va_G) (cI cJ cB cP cM cZ : ClassId) (h0 : Nat) (h_runnerName : Nat) (Fh : Nat → Value) (x_runners : Int32) (f_runnerName : Nat → Int64) (p0 : Int64) (sz : Nat) (e_runnerName : Fh 10 = .ref h_runnerName) (e_runners : Fh 15 = .int x_runners) (i_x_runners : IR 0 6 x_runners) : CI l yX1_runnerNamed cX1_runnerNamed 3 (some .int) { frames := 1, cells := 0, slots := 0, locals := 24 } (GG D cI cJ cB cP cM cZ) D [(h0, .inr (1, vL 18 Fh)), (h_runnerName, .inl (cJ, 6, .inr (.inl f_runnerName)))] sz [.ref h0, .long p0] (fun (r : Int32) (u : va_W) => IR (-1) 5 r ∧ (r.toInt = wixK (nmL f_runnerName x_runners.toInt) 0 p0.toInt) ∧ u = [(h0, .inr (1, vL 18 Fh)), (h_runnerName, .inl (cJ, 6, .inr (.inl f_runnerName)))]) := by
  refine CI_mk (by decide) (Nat.le_of_ble_eq_true rfl) ?_
  intro p e s m below meth c A ls E hAe hG hsz hP hD hA hS hl
  obtain ⟨hx, hb, hr, hw, hown, hlocks, hml, hnm⟩ := E
  have hK := hG.1
  have i_x_runners : 0 ≤ x_runners.toInt ∧ x_runners.toInt ≤ 6 := i_x_runners
  have hl : lv_has ls 3 [(0, .ref h0), (1, .long p0)] := hl
  refine lv_aload_n hx hb dX1_runnerNamed_0 rfl (lv_at hl 0 rfl) ?_
  refine get_f (D := D) (ci := 1) (v := .ref h_runnerName) (C := RX1) (T := TX1) (N := 18) hx hb hw inAX1 hown hK hP 0 rfl rfl 10 (by decide) (hw _ q_347) (fun _ h9 => h9) e_runnerName dX1_runnerNamed_1 ?_
  refine lv_aload_n hx hb dX1_runnerNamed_4 rfl (lv_at hl 0 rfl) ?_
  refine get_f (D := D) (ci := 1) (v := .int x_runners) (C := RX1) (T := TX1) (N := 18) hx hb hw inAX1 hown hK hP 0 rfl rfl 15 (by decide) (hw _ q_359) (fun _ h9 => h9) e_runners dX1_runnerNamed_5 ?_
  refine lv_lload_n hx hb dX1_runnerNamed_8 rfl (lv_at hl 1 rfl) ?_
  refine call_Si (wr := [(h0, .inr (1, vL 18 Fh))]) (As := [.ref h_runnerName, .int x_runners, .long p0]) (rest := []) hx hb hml hown hw (m_X1_indexOf_6 l D cI cJ cB cP cM cZ h_runnerName f_runnerName x_runners p0 _ i_x_runners) wS_X1_76_X1_indexOf dX1_runnerNamed_9 hP hD hS hA [1] [0] rfl rfl (by decide) (by decide) (by decide) GG.fb hG.at hl.1 rfl (Nat.le_of_ble_eq_true rfl) ⟨(Nat.le_of_ble_eq_true rfl), (Nat.le_of_ble_eq_true rfl)⟩ ⟨(Nat.le_of_ble_eq_true rfl), (Nat.le_of_ble_eq_true rfl)⟩ (fun r1 u H locs hp hP hD hS => ?_)
  obtain ⟨t2, t3, rfl⟩ := hp
  have hP : va_P D vwCl [(h0, .inr (1, vL 18 Fh)), (h_runnerName, .inl (cJ, 6, .inr (.inl f_runnerName)))] H := hP
  have hD : va_D A [(h0, .inr (1, vL 18 Fh)), (h_runnerName, .inl (cJ, 6, .inr (.inl f_runnerName)))] := hD
  refine W.widen (k := 0) (n := 0) (Nat.le_of_ble_eq_true rfl) (Nat.le_of_ble_eq_true rfl) ?_
  exact ret_i (v := r1) hx hb hr hlocks hS hP hD dX1_runnerNamed_12 rfl (Nat.le_of_ble_eq_true rfl) (Nat.le_of_ble_eq_true rfl) ⟨t2, t3, rfl⟩
set_option maxHeartbeats 4000000 in
set_option maxRecDepth 100000 in
theorem m_X1_readName_manName (l : Launch) (D : va_G) (cI cJ cB cP cM cZ : ClassId) (h0 : Nat) (h_manName : Nat) (h_runnerName : Nat) (p0 : Nat) (h_p0_bytes : Nat) (h_p0_wordNames : Nat) (Fh : Nat → Value) (x_men : Int32) (x_runners : Int32) (f_manName : Nat → Int64) (f_runnerName : Nat → Int64) (F_p0_ : Nat → Value) (x_p0_length : Int32) (x_p0_kind : Int32) (x_p0_place : Int32) (x_p0_value : Int32) (x_p0_name : Int64) (x_p0_faultKind : Int32) (x_p0_faultPlace : Int32) (x_p0_at : Int32) (x_p0_mostBytes : Int32) (f_p0_bytes : Nat → Int32) (f_p0_wordNames : Nat → Int64) (p2 : Int32) (sz : Nat) (e_manName : Fh 2 = .ref h_manName) (e_runnerName : Fh 10 = .ref h_runnerName) (e_men : Fh 13 = .int x_men) (i_x_men : IR 0 12 x_men) (e_runners : Fh 15 = .int x_runners) (i_x_runners : IR 0 6 x_runners) (e_p0_bytes : F_p0_ 0 = .ref h_p0_bytes) (e_p0_length : F_p0_ 1 = .int x_p0_length) (i_x_p0_length : IR 0 940 x_p0_length) (e_p0_kind : F_p0_ 2 = .int x_p0_kind) (e_p0_place : F_p0_ 3 = .int x_p0_place) (e_p0_value : F_p0_ 4 = .int x_p0_value) (e_p0_name : F_p0_ 5 = .long x_p0_name) (e_p0_faultKind : F_p0_ 7 = .int x_p0_faultKind) (e_p0_faultPlace : F_p0_ 8 = .int x_p0_faultPlace) (e_p0_wordNames : F_p0_ 9 = .ref h_p0_wordNames) (e_p0_at : F_p0_ 10 = .int x_p0_at) (i_x_p0_at : IR 0 940 x_p0_at) (e_p0_mostBytes : F_p0_ 11 = .int x_p0_mostBytes) (s_p0_bytes_0 : SG 0 939 (-128) 127 f_p0_bytes) (s_p0_wordNames_KN : KWN f_p0_wordNames) (i_p2 : IR 0 11 p2) (z_0 : (x_p0_kind.toInt = 2 → x_p0_value.toInt = wix x_p0_name.toInt)) : CI l yX1_readName cX1_readName 4 (some .boolean) { frames := 2, cells := 0, slots := 0, locals := 46 } (GG D cI cJ cB cP cM cZ) D [(h0, .inr (1, vL 18 Fh)), (h_manName, .inl (cJ, 12, .inr (.inl f_manName))), (h_runnerName, .inl (cJ, 6, .inr (.inl f_runnerName))), (p0, .inr (6, vL 12 F_p0_)), (h_p0_bytes, .inl (cB, 940, .inl f_p0_bytes)), (h_p0_wordNames, .inl (cJ, 23, .inr (.inl f_p0_wordNames)))] sz [.ref h0, .ref p0, .ref h_manName, .int p2] (fun (r : Int32) (u : va_W) => (∃ (G_p0_ : Nat → Value) (y_p0_faultKind : Int32) (y_p0_faultPlace : Int32), SAME [7, 8] F_p0_ G_p0_ ∧ G_p0_ 7 = .int y_p0_faultKind ∧ IR 1 3 y_p0_faultKind ∧ G_p0_ 8 = .int y_p0_faultPlace ∧ (nam (tkA f_p0_bytes x_p0_length.toInt x_p0_mostBytes.toInt) (tkC x_p0_kind x_p0_place x_p0_value x_p0_name x_p0_at) (nmL f_manName x_men.toInt) (nmL f_runnerName x_runners.toInt) = .inl (y_p0_faultKind.toInt, y_p0_faultPlace.toInt)) ∧ r = 0 ∧ u = [(h0, .inr (1, vL 18 Fh)), (h_manName, .inl (cJ, 12, .inr (.inl f_manName))), (h_runnerName, .inl (cJ, 6, .inr (.inl f_runnerName))), (p0, .inr (6, vL 12 G_p0_)), (h_p0_bytes, .inl (cB, 940, .inl f_p0_bytes)), (h_p0_wordNames, .inl (cJ, 23, .inr (.inl f_p0_wordNames)))]) ∨ (∃ (G_p0_ : Nat → Value) (y_p0_kind : Int32) (y_p0_place : Int32) (y_p0_value : Int32) (y_p0_name : Int64) (y_p0_at : Int32) (g_manName : Nat → Int64), SAME [2, 3, 4, 5, 10] F_p0_ G_p0_ ∧ G_p0_ 2 = .int y_p0_kind ∧ IR (-128) 127 y_p0_kind ∧ G_p0_ 3 = .int y_p0_place ∧ IR (-2147483648) 940 y_p0_place ∧ G_p0_ 4 = .int y_p0_value ∧ G_p0_ 5 = .long y_p0_name ∧ G_p0_ 10 = .int y_p0_at ∧ IR 0 940 y_p0_at ∧ (nam (tkA f_p0_bytes x_p0_length.toInt x_p0_mostBytes.toInt) (tkC x_p0_kind x_p0_place x_p0_value x_p0_name x_p0_at) (nmL f_manName x_men.toInt) (nmL f_runnerName x_runners.toInt) = .inr (tkC y_p0_kind y_p0_place y_p0_value y_p0_name y_p0_at)) ∧ (vp_updL f_manName p2.toNatClampNeg x_p0_name = g_manName) ∧ (x_p0_kind.toInt = 2) ∧ ((y_p0_kind.toInt = 2 → y_p0_value.toInt = wix y_p0_name.toInt)) ∧ r = 1 ∧ u = [(h0, .inr (1, vL 18 Fh)), (h_manName, .inl (cJ, 12, .inr (.inl g_manName))), (h_runnerName, .inl (cJ, 6, .inr (.inl f_runnerName))), (p0, .inr (6, vL 12 G_p0_)), (h_p0_bytes, .inl (cB, 940, .inl f_p0_bytes)), (h_p0_wordNames, .inl (cJ, 23, .inr (.inl f_p0_wordNames)))])) := by
  refine CI_mk (by decide) (Nat.le_of_ble_eq_true rfl) ?_
  intro p e s m below meth c A ls E hAe hG hsz hP hD hA hS hl
  obtain ⟨hx, hb, hr, hw, hown, hlocks, hml, hnm⟩ := E
  have hK := hG.1
  have i_x_men : 0 ≤ x_men.toInt ∧ x_men.toInt ≤ 12 := i_x_men
  have i_x_runners : 0 ≤ x_runners.toInt ∧ x_runners.toInt ≤ 6 := i_x_runners
  have i_x_p0_length : 0 ≤ x_p0_length.toInt ∧ x_p0_length.toInt ≤ 940 := i_x_p0_length
  have i_x_p0_at : 0 ≤ x_p0_at.toInt ∧ x_p0_at.toInt ≤ 940 := i_x_p0_at
  have i_p2 : 0 ≤ p2.toInt ∧ p2.toInt ≤ 11 := i_p2
  have hl : lv_has ls 4 [(0, .ref h0), (1, .ref p0), (2, .ref h_manName), (3, .int p2)] := hl
  refine lv_aload_n hx hb dX1_readName_0 rfl (lv_at hl 1 rfl) ?_
  refine call_Vi (wr := [(h0, .inr (1, vL 18 Fh)), (h_manName, .inl (cJ, 12, .inr (.inl f_manName))), (h_runnerName, .inl (cJ, 6, .inr (.inl f_runnerName))), (h_p0_bytes, .inl (cB, 940, .inl f_p0_bytes)), (h_p0_wordNames, .inl (cJ, 23, .inr (.inl f_p0_wordNames)))]) (As := []) (rest := []) hx hb hml hown hw (m_X6_isName l D cI cJ cB cP cM cZ p0 F_p0_ x_p0_kind x_p0_value _ e_p0_kind e_p0_value) wV_X1_148_X6_isName dX1_readName_1 hK hP hD hS hA [3] [0, 1, 2, 4, 5] rfl rfl (by decide) (by decide) (by decide) 0 6 rfl rfl GG.fb hG.at hl.1 rfl (Nat.le_of_ble_eq_true rfl) ⟨(Nat.le_of_ble_eq_true rfl), (Nat.le_of_ble_eq_true rfl)⟩ ⟨(Nat.le_of_ble_eq_true rfl), (Nat.le_of_ble_eq_true rfl)⟩ (fun r1 u H locs hp hP hD hS => ?_)
  obtain ⟨t2, t3, rfl⟩ := hp
  have hP : va_P D vwCl [(h0, .inr (1, vL 18 Fh)), (h_manName, .inl (cJ, 12, .inr (.inl f_manName))), (h_runnerName, .inl (cJ, 6, .inr (.inl f_runnerName))), (h_p0_bytes, .inl (cB, 940, .inl f_p0_bytes)), (h_p0_wordNames, .inl (cJ, 23, .inr (.inl f_p0_wordNames))), (p0, .inr (6, vL 12 F_p0_))] H := hP
  have hD : va_D A [(h0, .inr (1, vL 18 Fh)), (h_manName, .inl (cJ, 12, .inr (.inl f_manName))), (h_runnerName, .inl (cJ, 6, .inr (.inl f_runnerName))), (h_p0_bytes, .inl (cB, 940, .inl f_p0_bytes)), (h_p0_wordNames, .inl (cJ, 23, .inr (.inl f_p0_wordNames))), (p0, .inr (6, vL 12 F_p0_))] := hD
  refine W.widen (k := 0) (n := 0) (Nat.le_of_ble_eq_true rfl) (Nat.le_of_ble_eq_true rfl) ?_
  refine lv_if_ne (tgt := 13) hx hb dX1_readName_4 (by decide) (fun c5 => ?_) (fun c5 => ?_)
  · have dc5 : r1.toInt ≠ 0 := ne_i (a := r1.toInt) (b := 0) rfl rfl c5
    have k6 : 1 ≤ r1.toInt ∧ r1.toInt ≤ 1 := ⟨ne_lo dc5 t2.1 ⟨Int.le_refl _, Int.le_refl _⟩ (by decide), t2.2⟩
    refine lv_aload_n hx hb dX1_readName_13 rfl (lv_at hl 0 rfl) ?_
    refine lv_aload_n hx hb dX1_readName_14 rfl (lv_at hl 1 rfl) ?_
    refine get_f (D := D) (ci := 6) (v := .long x_p0_name) (C := RX6) (T := TX6) (N := 12) hx hb hw inAX6 hown hK hP 5 rfl rfl 5 (by decide) (hw _ q_101) (fun _ h9 => h9) e_p0_name dX1_readName_15 ?_
    refine call_Vi (wr := [(h_runnerName, .inl (cJ, 6, .inr (.inl f_runnerName))), (h_p0_bytes, .inl (cB, 940, .inl f_p0_bytes)), (h_p0_wordNames, .inl (cJ, 23, .inr (.inl f_p0_wordNames))), (p0, .inr (6, vL 12 F_p0_))]) (As := [.long x_p0_name]) (rest := []) hx hb hml hown hw (m_X1_manNamed l D cI cJ cB cP cM cZ h0 h_manName Fh x_men f_manName x_p0_name _ e_manName e_men i_x_men) wV_X1_156_X1_manNamed dX1_readName_18 hK hP hD hS hA [0, 1] [2, 3, 4, 5] rfl rfl (by decide) (by decide) (by decide) 0 1 rfl rfl GG.fb hG.at hl.1 rfl (Nat.le_of_ble_eq_true rfl) ⟨(Nat.le_of_ble_eq_true rfl), (Nat.le_of_ble_eq_true rfl)⟩ ⟨(Nat.le_of_ble_eq_true rfl), (Nat.le_of_ble_eq_true rfl)⟩ (fun r7 u H locs hp hP hD hS => ?_)
    obtain ⟨t8, t9, rfl⟩ := hp
    have hP : va_P D vwCl [(h_runnerName, .inl (cJ, 6, .inr (.inl f_runnerName))), (h_p0_bytes, .inl (cB, 940, .inl f_p0_bytes)), (h_p0_wordNames, .inl (cJ, 23, .inr (.inl f_p0_wordNames))), (p0, .inr (6, vL 12 F_p0_)), (h0, .inr (1, vL 18 Fh)), (h_manName, .inl (cJ, 12, .inr (.inl f_manName)))] H := hP
    have hD : va_D A [(h_runnerName, .inl (cJ, 6, .inr (.inl f_runnerName))), (h_p0_bytes, .inl (cB, 940, .inl f_p0_bytes)), (h_p0_wordNames, .inl (cJ, 23, .inr (.inl f_p0_wordNames))), (p0, .inr (6, vL 12 F_p0_)), (h0, .inr (1, vL 18 Fh)), (h_manName, .inl (cJ, 12, .inr (.inl f_manName)))] := hD
    refine W.widen (k := 0) (n := 0) (Nat.le_of_ble_eq_true rfl) (Nat.le_of_ble_eq_true rfl) ?_
    refine lv_iconst (v := (-1)) hx hb dX1_readName_21 (by decide) ?_
    refine lv_icmp_ne (tgt := 37) hx hb dX1_readName_22 (by decide) (fun c11 => ?_) (fun c11 => ?_)
    · have dc11 : r7.toInt ≠ (-1) := ne_i (a := r7.toInt) (b := (-1)) rfl rfl c11
      have k12 : 0 ≤ r7.toInt ∧ r7.toInt ≤ 11 := ⟨ne_lo dc11 t8.1 ⟨Int.le_refl _, Int.le_refl _⟩ (by decide), t8.2⟩
      refine lv_aload_n hx hb dX1_readName_37 rfl (lv_at hl 1 rfl) ?_
      refine lv_iconst (v := 3) hx hb dX1_readName_38 (by decide) ?_
      refine call_Vi (wr := [(h_runnerName, .inl (cJ, 6, .inr (.inl f_runnerName))), (h_p0_bytes, .inl (cB, 940, .inl f_p0_bytes)), (h_p0_wordNames, .inl (cJ, 23, .inr (.inl f_p0_wordNames))), (h0, .inr (1, vL 18 Fh)), (h_manName, .inl (cJ, 12, .inr (.inl f_manName)))]) (As := [.int 3]) (rest := []) hx hb hml hown hw (m_X6_fail l D cI cJ cB cP cM cZ p0 F_p0_ x_p0_place 3 _ e_p0_place) wV_X1_128_X6_fail dX1_readName_39 hK hP hD hS hA [3] [0, 1, 2, 4, 5] rfl rfl (by decide) (by decide) (by decide) 0 6 rfl rfl GG.fb hG.at hl.1 rfl (Nat.le_of_ble_eq_true rfl) ⟨(Nat.le_of_ble_eq_true rfl), (Nat.le_of_ble_eq_true rfl)⟩ ⟨(Nat.le_of_ble_eq_true rfl), (Nat.le_of_ble_eq_true rfl)⟩ (fun r13 u H locs hp hP hD hS => ?_)
      have zl3 : (3 : Int32).toInt = 3 := by decide
      obtain ⟨F14, t15, t16, t17, rfl, rfl⟩ := hp
      have hP : va_P D vwCl [(h_runnerName, .inl (cJ, 6, .inr (.inl f_runnerName))), (h_p0_bytes, .inl (cB, 940, .inl f_p0_bytes)), (h_p0_wordNames, .inl (cJ, 23, .inr (.inl f_p0_wordNames))), (h0, .inr (1, vL 18 Fh)), (h_manName, .inl (cJ, 12, .inr (.inl f_manName))), (p0, .inr (6, vL 12 F14))] H := hP
      have hD : va_D A [(h_runnerName, .inl (cJ, 6, .inr (.inl f_runnerName))), (h_p0_bytes, .inl (cB, 940, .inl f_p0_bytes)), (h_p0_wordNames, .inl (cJ, 23, .inr (.inl f_p0_wordNames))), (h0, .inr (1, vL 18 Fh)), (h_manName, .inl (cJ, 12, .inr (.inl f_manName))), (p0, .inr (6, vL 12 F14))] := hD
      refine W.widen (k := 0) (n := 0) (Nat.le_of_ble_eq_true rfl) (Nat.le_of_ble_eq_true rfl) ?_
      exact ret_i (v := 0) hx hb hr hlocks hS (hP.sub (ws' := [(h0, .inr (1, vL 18 Fh)), (h_manName, .inl (cJ, 12, .inr (.inl f_manName))), (h_runnerName, .inl (cJ, 6, .inr (.inl f_runnerName))), (p0, .inr (6, vL 12 F14)), (h_p0_bytes, .inl (cB, 940, .inl f_p0_bytes)), (h_p0_wordNames, .inl (cJ, 23, .inr (.inl f_p0_wordNames)))]) [3, 4, 0, 5, 1, 2] rfl) (hD.sub (ws' := [(h0, .inr (1, vL 18 Fh)), (h_manName, .inl (cJ, 12, .inr (.inl f_manName))), (h_runnerName, .inl (cJ, 6, .inr (.inl f_runnerName))), (p0, .inr (6, vL 12 F14)), (h_p0_bytes, .inl (cB, 940, .inl f_p0_bytes)), (h_p0_wordNames, .inl (cJ, 23, .inr (.inl f_p0_wordNames)))]) [3, 4, 0, 5, 1, 2] (by decide) rfl) dX1_readName_42 rfl (Nat.le_of_ble_eq_true rfl) (Nat.le_of_ble_eq_true rfl) (Or.inl ⟨F14, 3, x_p0_place, (SAME.tr SAME.rf t15 (by decide)), t16, (show 1 ≤ (3 : Int32).toInt ∧ (3 : Int32).toInt ≤ 3 by decide), t17, (nam_0 z_0 (Or.inr ⟨by omega, by omega, by omega, by decide, rfl⟩)), rfl, rfl⟩)
    · have dc11 : r7.toInt = (-1) := eq_i (a := r7.toInt) (b := (-1)) rfl rfl c11
      have k19 : (-1) ≤ r7.toInt ∧ r7.toInt ≤ (-1) := ⟨t8.1, Int.le_trans (Int.le_of_eq dc11) (Int.le_refl _)⟩
      refine lv_aload_n hx hb dX1_readName_25 rfl (lv_at hl 0 rfl) ?_
      refine lv_aload_n hx hb dX1_readName_26 rfl (lv_at hl 1 rfl) ?_
      refine get_f (D := D) (ci := 6) (v := .long x_p0_name) (C := RX6) (T := TX6) (N := 12) hx hb hw inAX6 hown hK hP 3 rfl rfl 5 (by decide) (hw _ q_101) (fun _ h9 => h9) e_p0_name dX1_readName_27 ?_
      refine call_Vi (wr := [(h_p0_bytes, .inl (cB, 940, .inl f_p0_bytes)), (h_p0_wordNames, .inl (cJ, 23, .inr (.inl f_p0_wordNames))), (p0, .inr (6, vL 12 F_p0_)), (h_manName, .inl (cJ, 12, .inr (.inl f_manName)))]) (As := [.long x_p0_name]) (rest := []) hx hb hml hown hw (m_X1_runnerNamed l D cI cJ cB cP cM cZ h0 h_runnerName Fh x_runners f_runnerName x_p0_name _ e_runnerName e_runners i_x_runners) wV_X1_160_X1_runnerNamed dX1_readName_30 hK hP hD hS hA [4, 0] [1, 2, 3, 5] rfl rfl (by decide) (by decide) (by decide) 0 1 rfl rfl GG.fb hG.at hl.1 rfl (Nat.le_of_ble_eq_true rfl) ⟨(Nat.le_of_ble_eq_true rfl), (Nat.le_of_ble_eq_true rfl)⟩ ⟨(Nat.le_of_ble_eq_true rfl), (Nat.le_of_ble_eq_true rfl)⟩ (fun r20 u H locs hp hP hD hS => ?_)
      obtain ⟨t21, t22, rfl⟩ := hp
      have hP : va_P D vwCl [(h_p0_bytes, .inl (cB, 940, .inl f_p0_bytes)), (h_p0_wordNames, .inl (cJ, 23, .inr (.inl f_p0_wordNames))), (p0, .inr (6, vL 12 F_p0_)), (h_manName, .inl (cJ, 12, .inr (.inl f_manName))), (h0, .inr (1, vL 18 Fh)), (h_runnerName, .inl (cJ, 6, .inr (.inl f_runnerName)))] H := hP
      have hD : va_D A [(h_p0_bytes, .inl (cB, 940, .inl f_p0_bytes)), (h_p0_wordNames, .inl (cJ, 23, .inr (.inl f_p0_wordNames))), (p0, .inr (6, vL 12 F_p0_)), (h_manName, .inl (cJ, 12, .inr (.inl f_manName))), (h0, .inr (1, vL 18 Fh)), (h_runnerName, .inl (cJ, 6, .inr (.inl f_runnerName)))] := hD
      refine W.widen (k := 0) (n := 0) (Nat.le_of_ble_eq_true rfl) (Nat.le_of_ble_eq_true rfl) ?_
      refine lv_iconst (v := (-1)) hx hb dX1_readName_33 (by decide) ?_
      refine lv_icmp_eq (tgt := 43) hx hb dX1_readName_34 (by decide) (fun c24 => ?_) (fun c24 => ?_)
      · have dc24 : r20.toInt = (-1) := eq_i (a := r20.toInt) (b := (-1)) rfl rfl c24
        have k25 : (-1) ≤ r20.toInt ∧ r20.toInt ≤ (-1) := ⟨t21.1, Int.le_trans (Int.le_of_eq dc24) (Int.le_refl _)⟩
        refine lv_aload_n hx hb dX1_readName_43 rfl (lv_at hl 2 rfl) ?_
        refine lv_iload_n hx hb dX1_readName_44 rfl (lv_at hl 3 rfl) ?_
        refine lv_aload_n hx hb dX1_readName_45 rfl (lv_at hl 1 rfl) ?_
        refine get_f (D := D) (ci := 6) (v := .long x_p0_name) (C := RX6) (T := TX6) (N := 12) hx hb hw inAX6 hown hK hP 2 rfl rfl 5 (by decide) (hw _ q_101) (fun _ h9 => h9) e_p0_name dX1_readName_46 ?_
        obtain ⟨g26, eg26⟩ : ∃ z : Nat → Int64, vp_updL f_manName p2.toNatClampNeg x_p0_name = z := ⟨_, rfl⟩
        refine last_g hx hb hK hP hD hS 3 1 rfl rfl (ix_k i_p2 (by decide) (by decide)) eg26 dX1_readName_49 (fun H locs hP hD hS => ?_)
        have hP : va_P D vwCl [(h_p0_bytes, .inl (cB, 940, .inl f_p0_bytes)), (h_p0_wordNames, .inl (cJ, 23, .inr (.inl f_p0_wordNames))), (p0, .inr (6, vL 12 F_p0_)), (h_manName, .inl (cJ, 12, .inr (.inl g26))), (h0, .inr (1, vL 18 Fh)), (h_runnerName, .inl (cJ, 6, .inr (.inl f_runnerName)))] H := hP
        have hD : va_D A [(h_p0_bytes, .inl (cB, 940, .inl f_p0_bytes)), (h_p0_wordNames, .inl (cJ, 23, .inr (.inl f_p0_wordNames))), (p0, .inr (6, vL 12 F_p0_)), (h_manName, .inl (cJ, 12, .inr (.inl g26))), (h0, .inr (1, vL 18 Fh)), (h_runnerName, .inl (cJ, 6, .inr (.inl f_runnerName)))] := hD
        refine lv_aload_n hx hb dX1_readName_50 rfl (lv_at hl 1 rfl) ?_
        refine call_Vv (wr := [(h_manName, .inl (cJ, 12, .inr (.inl g26))), (h0, .inr (1, vL 18 Fh)), (h_runnerName, .inl (cJ, 6, .inr (.inl f_runnerName)))]) (As := []) (rest := []) hx hb hml hown hw (m_X6_advance l D cI cJ cB cP cM cZ p0 h_p0_bytes h_p0_wordNames F_p0_ x_p0_length x_p0_kind x_p0_place x_p0_value x_p0_name x_p0_at x_p0_mostBytes f_p0_bytes f_p0_wordNames _ e_p0_bytes e_p0_length i_x_p0_length e_p0_kind e_p0_place e_p0_value e_p0_name e_p0_wordNames e_p0_at i_x_p0_at e_p0_mostBytes s_p0_bytes_0 s_p0_wordNames_KN) wV_X1_131_X6_advance dX1_readName_51 hK hP hD hS hA [2, 0, 1] [3, 4, 5] rfl rfl (by decide) (by decide) (by decide) 0 6 rfl rfl GG.fb hG.at hl.1 rfl (Nat.le_of_ble_eq_true rfl) ⟨(Nat.le_of_ble_eq_true rfl), (Nat.le_of_ble_eq_true rfl)⟩ ⟨(Nat.le_of_ble_eq_true rfl), (Nat.le_of_ble_eq_true rfl)⟩ (fun u H locs hp hP hD hS => ?_)
        obtain ⟨F28, y29, y30, y31, y32, y33, t34, t35, t36, t37, t38, t39, t40, t41, t42, t43, t44, t45, rfl⟩ := hp
        have hP : va_P D vwCl [(h_manName, .inl (cJ, 12, .inr (.inl g26))), (h0, .inr (1, vL 18 Fh)), (h_runnerName, .inl (cJ, 6, .inr (.inl f_runnerName))), (p0, .inr (6, vL 12 F28)), (h_p0_bytes, .inl (cB, 940, .inl f_p0_bytes)), (h_p0_wordNames, .inl (cJ, 23, .inr (.inl f_p0_wordNames)))] H := hP
        have hD : va_D A [(h_manName, .inl (cJ, 12, .inr (.inl g26))), (h0, .inr (1, vL 18 Fh)), (h_runnerName, .inl (cJ, 6, .inr (.inl f_runnerName))), (p0, .inr (6, vL 12 F28)), (h_p0_bytes, .inl (cB, 940, .inl f_p0_bytes)), (h_p0_wordNames, .inl (cJ, 23, .inr (.inl f_p0_wordNames)))] := hD
        refine W.widen (k := 0) (n := 0) (Nat.le_of_ble_eq_true rfl) (Nat.le_of_ble_eq_true rfl) ?_
        refine lv_iconst (v := 1) hx hb dX1_readName_54 (by decide) ?_
        exact ret_i (v := 1) hx hb hr hlocks hS (hP.sub (ws' := [(h0, .inr (1, vL 18 Fh)), (h_manName, .inl (cJ, 12, .inr (.inl g26))), (h_runnerName, .inl (cJ, 6, .inr (.inl f_runnerName))), (p0, .inr (6, vL 12 F28)), (h_p0_bytes, .inl (cB, 940, .inl f_p0_bytes)), (h_p0_wordNames, .inl (cJ, 23, .inr (.inl f_p0_wordNames)))]) [1, 0, 2, 3, 4, 5] rfl) (hD.sub (ws' := [(h0, .inr (1, vL 18 Fh)), (h_manName, .inl (cJ, 12, .inr (.inl g26))), (h_runnerName, .inl (cJ, 6, .inr (.inl f_runnerName))), (p0, .inr (6, vL 12 F28)), (h_p0_bytes, .inl (cB, 940, .inl f_p0_bytes)), (h_p0_wordNames, .inl (cJ, 23, .inr (.inl f_p0_wordNames)))]) [1, 0, 2, 3, 4, 5] (by decide) rfl) dX1_readName_55 rfl (Nat.le_of_ble_eq_true rfl) (Nat.le_of_ble_eq_true rfl) (Or.inr ⟨F28, y29, y30, y31, y32, y33, g26, (SAME.tr SAME.rf t34 (by decide)), t35, t36, t37, t38, t39, t40, t41, t42, (nam_1 (by omega) (by omega) z_0 (by omega) (by omega) t43), eg26, (by have zl1 : (1 : Int32).toInt = 1 := (by decide); omega), t44, rfl, rfl⟩)
      · have dc24 : r20.toInt ≠ (-1) := ne_i (a := r20.toInt) (b := (-1)) rfl rfl c24
        have k47 : 0 ≤ r20.toInt ∧ r20.toInt ≤ 5 := ⟨ne_lo dc24 t21.1 ⟨Int.le_refl _, Int.le_refl _⟩ (by decide), t21.2⟩
        refine lv_aload_n hx hb dX1_readName_37 rfl (lv_at hl 1 rfl) ?_
        refine lv_iconst (v := 3) hx hb dX1_readName_38 (by decide) ?_
        refine call_Vi (wr := [(h_p0_bytes, .inl (cB, 940, .inl f_p0_bytes)), (h_p0_wordNames, .inl (cJ, 23, .inr (.inl f_p0_wordNames))), (h_manName, .inl (cJ, 12, .inr (.inl f_manName))), (h0, .inr (1, vL 18 Fh)), (h_runnerName, .inl (cJ, 6, .inr (.inl f_runnerName)))]) (As := [.int 3]) (rest := []) hx hb hml hown hw (m_X6_fail l D cI cJ cB cP cM cZ p0 F_p0_ x_p0_place 3 _ e_p0_place) wV_X1_128_X6_fail dX1_readName_39 hK hP hD hS hA [2] [0, 1, 3, 4, 5] rfl rfl (by decide) (by decide) (by decide) 0 6 rfl rfl GG.fb hG.at hl.1 rfl (Nat.le_of_ble_eq_true rfl) ⟨(Nat.le_of_ble_eq_true rfl), (Nat.le_of_ble_eq_true rfl)⟩ ⟨(Nat.le_of_ble_eq_true rfl), (Nat.le_of_ble_eq_true rfl)⟩ (fun r48 u H locs hp hP hD hS => ?_)
        have zl3 : (3 : Int32).toInt = 3 := by decide
        obtain ⟨F49, t50, t51, t52, rfl, rfl⟩ := hp
        have hP : va_P D vwCl [(h_p0_bytes, .inl (cB, 940, .inl f_p0_bytes)), (h_p0_wordNames, .inl (cJ, 23, .inr (.inl f_p0_wordNames))), (h_manName, .inl (cJ, 12, .inr (.inl f_manName))), (h0, .inr (1, vL 18 Fh)), (h_runnerName, .inl (cJ, 6, .inr (.inl f_runnerName))), (p0, .inr (6, vL 12 F49))] H := hP
        have hD : va_D A [(h_p0_bytes, .inl (cB, 940, .inl f_p0_bytes)), (h_p0_wordNames, .inl (cJ, 23, .inr (.inl f_p0_wordNames))), (h_manName, .inl (cJ, 12, .inr (.inl f_manName))), (h0, .inr (1, vL 18 Fh)), (h_runnerName, .inl (cJ, 6, .inr (.inl f_runnerName))), (p0, .inr (6, vL 12 F49))] := hD
        refine W.widen (k := 0) (n := 0) (Nat.le_of_ble_eq_true rfl) (Nat.le_of_ble_eq_true rfl) ?_
        exact ret_i (v := 0) hx hb hr hlocks hS (hP.sub (ws' := [(h0, .inr (1, vL 18 Fh)), (h_manName, .inl (cJ, 12, .inr (.inl f_manName))), (h_runnerName, .inl (cJ, 6, .inr (.inl f_runnerName))), (p0, .inr (6, vL 12 F49)), (h_p0_bytes, .inl (cB, 940, .inl f_p0_bytes)), (h_p0_wordNames, .inl (cJ, 23, .inr (.inl f_p0_wordNames)))]) [3, 2, 4, 5, 0, 1] rfl) (hD.sub (ws' := [(h0, .inr (1, vL 18 Fh)), (h_manName, .inl (cJ, 12, .inr (.inl f_manName))), (h_runnerName, .inl (cJ, 6, .inr (.inl f_runnerName))), (p0, .inr (6, vL 12 F49)), (h_p0_bytes, .inl (cB, 940, .inl f_p0_bytes)), (h_p0_wordNames, .inl (cJ, 23, .inr (.inl f_p0_wordNames)))]) [3, 2, 4, 5, 0, 1] (by decide) rfl) dX1_readName_42 rfl (Nat.le_of_ble_eq_true rfl) (Nat.le_of_ble_eq_true rfl) (Or.inl ⟨F49, 3, x_p0_place, (SAME.tr SAME.rf t50 (by decide)), t51, (show 1 ≤ (3 : Int32).toInt ∧ (3 : Int32).toInt ≤ 3 by decide), t52, (nam_0 z_0 (Or.inr ⟨by omega, by omega, by omega, by decide, rfl⟩)), rfl, rfl⟩)
  · have dc5 : r1.toInt = 0 := eq_i (a := r1.toInt) (b := 0) rfl rfl c5
    have k54 : 0 ≤ r1.toInt ∧ r1.toInt ≤ 0 := ⟨t2.1, Int.le_trans (Int.le_of_eq dc5) (Int.le_refl _)⟩
    refine lv_aload_n hx hb dX1_readName_7 rfl (lv_at hl 1 rfl) ?_
    refine lv_iconst (v := 1) hx hb dX1_readName_8 (by decide) ?_
    refine call_Vi (wr := [(h0, .inr (1, vL 18 Fh)), (h_manName, .inl (cJ, 12, .inr (.inl f_manName))), (h_runnerName, .inl (cJ, 6, .inr (.inl f_runnerName))), (h_p0_bytes, .inl (cB, 940, .inl f_p0_bytes)), (h_p0_wordNames, .inl (cJ, 23, .inr (.inl f_p0_wordNames)))]) (As := [.int 1]) (rest := []) hx hb hml hown hw (m_X6_fail l D cI cJ cB cP cM cZ p0 F_p0_ x_p0_place 1 _ e_p0_place) wV_X1_128_X6_fail dX1_readName_9 hK hP hD hS hA [5] [0, 1, 2, 3, 4] rfl rfl (by decide) (by decide) (by decide) 0 6 rfl rfl GG.fb hG.at hl.1 rfl (Nat.le_of_ble_eq_true rfl) ⟨(Nat.le_of_ble_eq_true rfl), (Nat.le_of_ble_eq_true rfl)⟩ ⟨(Nat.le_of_ble_eq_true rfl), (Nat.le_of_ble_eq_true rfl)⟩ (fun r55 u H locs hp hP hD hS => ?_)
    have zl1 : (1 : Int32).toInt = 1 := by decide
    obtain ⟨F56, t57, t58, t59, rfl, rfl⟩ := hp
    have hP : va_P D vwCl [(h0, .inr (1, vL 18 Fh)), (h_manName, .inl (cJ, 12, .inr (.inl f_manName))), (h_runnerName, .inl (cJ, 6, .inr (.inl f_runnerName))), (h_p0_bytes, .inl (cB, 940, .inl f_p0_bytes)), (h_p0_wordNames, .inl (cJ, 23, .inr (.inl f_p0_wordNames))), (p0, .inr (6, vL 12 F56))] H := hP
    have hD : va_D A [(h0, .inr (1, vL 18 Fh)), (h_manName, .inl (cJ, 12, .inr (.inl f_manName))), (h_runnerName, .inl (cJ, 6, .inr (.inl f_runnerName))), (h_p0_bytes, .inl (cB, 940, .inl f_p0_bytes)), (h_p0_wordNames, .inl (cJ, 23, .inr (.inl f_p0_wordNames))), (p0, .inr (6, vL 12 F56))] := hD
    refine W.widen (k := 0) (n := 0) (Nat.le_of_ble_eq_true rfl) (Nat.le_of_ble_eq_true rfl) ?_
    exact ret_i (v := 0) hx hb hr hlocks hS (hP.sub (ws' := [(h0, .inr (1, vL 18 Fh)), (h_manName, .inl (cJ, 12, .inr (.inl f_manName))), (h_runnerName, .inl (cJ, 6, .inr (.inl f_runnerName))), (p0, .inr (6, vL 12 F56)), (h_p0_bytes, .inl (cB, 940, .inl f_p0_bytes)), (h_p0_wordNames, .inl (cJ, 23, .inr (.inl f_p0_wordNames)))]) [0, 1, 2, 5, 3, 4] rfl) (hD.sub (ws' := [(h0, .inr (1, vL 18 Fh)), (h_manName, .inl (cJ, 12, .inr (.inl f_manName))), (h_runnerName, .inl (cJ, 6, .inr (.inl f_runnerName))), (p0, .inr (6, vL 12 F56)), (h_p0_bytes, .inl (cB, 940, .inl f_p0_bytes)), (h_p0_wordNames, .inl (cJ, 23, .inr (.inl f_p0_wordNames)))]) [0, 1, 2, 5, 3, 4] (by decide) rfl) dX1_readName_12 rfl (Nat.le_of_ble_eq_true rfl) (Nat.le_of_ble_eq_true rfl) (Or.inl ⟨F56, 1, x_p0_place, (SAME.tr SAME.rf t57 (by decide)), t58, (show 1 ≤ (1 : Int32).toInt ∧ (1 : Int32).toInt ≤ 3 by decide), t59, (nam_0 z_0 (Or.inl ⟨by omega, by decide, rfl⟩)), rfl, rfl⟩)
set_option maxHeartbeats 4000000 in
set_option maxRecDepth 100000 in
theorem m_X6_takeInto_12 (l : Launch) (D : va_G) (cI cJ cB cP cM cZ : ClassId) (h0 : Nat) (h_bytes : Nat) (h_wordNames : Nat) (p0 : Nat) (Fh : Nat → Value) (x_length : Int32) (x_kind : Int32) (x_place : Int32) (x_value : Int32) (x_name : Int64) (x_faultKind : Int32) (x_faultPlace : Int32) (x_at : Int32) (x_mostBytes : Int32) (f_bytes : Nat → Int32) (f_wordNames : Nat → Int64) (f_p0 : Nat → Int32) (p1 : Int32) (p2 : Int32) (p3 : Int32) (sz : Nat) (e_bytes : Fh 0 = .ref h_bytes) (e_length : Fh 1 = .int x_length) (i_x_length : IR 0 940 x_length) (e_kind : Fh 2 = .int x_kind) (e_place : Fh 3 = .int x_place) (e_value : Fh 4 = .int x_value) (e_name : Fh 5 = .long x_name) (e_faultKind : Fh 7 = .int x_faultKind) (e_faultPlace : Fh 8 = .int x_faultPlace) (e_wordNames : Fh 9 = .ref h_wordNames) (e_at : Fh 10 = .int x_at) (i_x_at : IR 0 940 x_at) (e_mostBytes : Fh 11 = .int x_mostBytes) (s_bytes_0 : SG 0 939 (-128) 127 f_bytes) (s_wordNames_KN : KWN f_wordNames) (i_p1 : IR 0 11 p1) : CI l yX6_takeInto cX6_takeInto 5 (some .boolean) { frames := 2, cells := 0, slots := 0, locals := 43 } (GG D cI cJ cB cP cM cZ) D [(h0, .inr (6, vL 12 Fh)), (h_bytes, .inl (cB, 940, .inl f_bytes)), (h_wordNames, .inl (cJ, 23, .inr (.inl f_wordNames))), (p0, .inl (cI, 12, .inl f_p0))] sz [.ref h0, .ref p0, .int p1, .int p2, .int p3] (fun (r : Int32) (u : va_W) => (∃ (Gh : Nat → Value) (y_faultKind : Int32) (y_faultPlace : Int32), SAME [7, 8] Fh Gh ∧ Gh 7 = .int y_faultKind ∧ IR 1 2 y_faultKind ∧ Gh 8 = .int y_faultPlace ∧ 0 ≤ p1.toInt ∧ p1.toInt < 12 ∧ (num (tkA f_bytes x_length.toInt x_mostBytes.toInt) (tkC x_kind x_place x_value x_name x_at) p2.toInt p3.toInt = .inl (y_faultKind.toInt, y_faultPlace.toInt)) ∧ r = 0 ∧ u = [(h0, .inr (6, vL 12 Gh)), (h_bytes, .inl (cB, 940, .inl f_bytes)), (h_wordNames, .inl (cJ, 23, .inr (.inl f_wordNames))), (p0, .inl (cI, 12, .inl f_p0))]) ∨ (∃ (Gh : Nat → Value) (y_kind : Int32) (y_place : Int32) (y_value : Int32) (y_name : Int64) (y_at : Int32) (g_p0 : Nat → Int32), SAME [2, 3, 4, 5, 10] Fh Gh ∧ Gh 2 = .int y_kind ∧ IR (-128) 127 y_kind ∧ Gh 3 = .int y_place ∧ IR (-2147483648) 940 y_place ∧ Gh 4 = .int y_value ∧ Gh 5 = .long y_name ∧ Gh 10 = .int y_at ∧ IR 0 940 y_at ∧ 0 ≤ p1.toInt ∧ p1.toInt < 12 ∧ x_kind.toInt = 3 ∧ p2.toInt ≤ x_value.toInt ∧ x_value.toInt ≤ p3.toInt ∧ (upd f_p0 p1.toNatClampNeg x_value = g_p0) ∧ (num (tkA f_bytes x_length.toInt x_mostBytes.toInt) (tkC x_kind x_place x_value x_name x_at) p2.toInt p3.toInt = .inr (tkC y_kind y_place y_value y_name y_at)) ∧ (x_kind.toInt = 3) ∧ ((y_kind.toInt = 2 → y_value.toInt = wix y_name.toInt)) ∧ ((y_kind.toInt = 3 → 0 ≤ y_value.toInt)) ∧ r = 1 ∧ u = [(h0, .inr (6, vL 12 Gh)), (h_bytes, .inl (cB, 940, .inl f_bytes)), (h_wordNames, .inl (cJ, 23, .inr (.inl f_wordNames))), (p0, .inl (cI, 12, .inl g_p0))])) := by
  refine CI_mk (by decide) (Nat.le_of_ble_eq_true rfl) ?_
  intro p e s m below meth c A ls E hAe hG hsz hP hD hA hS hl
  obtain ⟨hx, hb, hr, hw, hown, hlocks, hml, hnm⟩ := E
  have hK := hG.1
  have i_x_length : 0 ≤ x_length.toInt ∧ x_length.toInt ≤ 940 := i_x_length
  have i_x_at : 0 ≤ x_at.toInt ∧ x_at.toInt ≤ 940 := i_x_at
  have i_p1 : 0 ≤ p1.toInt ∧ p1.toInt ≤ 11 := i_p1
  have hl : lv_has ls 5 [(0, .ref h0), (1, .ref p0), (2, .int p1), (3, .int p2), (4, .int p3)] := hl
  refine lv_iload_n hx hb dX6_takeInto_0 rfl (lv_at hl 2 rfl) ?_
  refine lv_if_lt (tgt := 10) hx hb dX6_takeInto_1 (by decide) (fun c1 => False.elim (bad_lt (lt_i (a := p1.toInt) (b := 0) rfl rfl c1) i_p1.1 (Int.le_refl _) (by decide))) (fun c1 => ?_)
  have dc1 : 0 ≤ p1.toInt := nlt_i (a := p1.toInt) (b := 0) rfl rfl c1
  refine lv_iload_n hx hb dX6_takeInto_4 rfl (lv_at hl 2 rfl) ?_
  refine lv_aload_n hx hb dX6_takeInto_5 rfl (lv_at hl 1 rfl) ?_
  refine va_alen (v := 12) hx hb hK hP 3 0 rfl rfl rfl dX6_takeInto_6 ?_
  refine lv_icmp_lt (tgt := 16) hx hb dX6_takeInto_7 (by decide) (fun c2 => ?_) (fun c2 => False.elim (bad_le (nlt_i (a := p1.toInt) (b := 12) rfl rfl c2) (Int.le_refl _) i_p1.2 (by decide)))
  have dc2 : p1.toInt < 12 := lt_i (a := p1.toInt) (b := 12) rfl rfl c2
  refine lv_aload_n hx hb dX6_takeInto_16 rfl (lv_at hl 0 rfl) ?_
  refine lv_iload_n hx hb dX6_takeInto_17 rfl (lv_at hl 3 rfl) ?_
  refine lv_iload hx hb dX6_takeInto_18 (lv_at hl 4 rfl) ?_
  refine call_Vi (wr := [(h_bytes, .inl (cB, 940, .inl f_bytes)), (h_wordNames, .inl (cJ, 23, .inr (.inl f_wordNames))), (p0, .inl (cI, 12, .inl f_p0))]) (As := [.int p2, .int p3]) (rest := []) hx hb hml hown hw (m_X6_isNumberWithin l D cI cJ cB cP cM cZ h0 Fh x_kind x_place x_value x_faultKind x_faultPlace p2 p3 _ e_kind e_place e_value e_faultKind e_faultPlace) wV_X6_83_X6_isNumberWithin dX6_takeInto_20 hK hP hD hS hA [0] [1, 2, 3] rfl rfl (by decide) (by decide) (by decide) 0 6 rfl rfl GG.fb hG.at hl.1 rfl (Nat.le_of_ble_eq_true rfl) ⟨(Nat.le_of_ble_eq_true rfl), (Nat.le_of_ble_eq_true rfl)⟩ ⟨(Nat.le_of_ble_eq_true rfl), (Nat.le_of_ble_eq_true rfl)⟩ (fun r3 u H locs hp hP hD hS => ?_)
  rcases hp with ⟨F4, y5, y6, t7, t8, t9, t10, t11, rfl, rfl⟩ | ⟨t12, t13, t14, t15, rfl, rfl⟩
  · have hP : va_P D vwCl [(h_bytes, .inl (cB, 940, .inl f_bytes)), (h_wordNames, .inl (cJ, 23, .inr (.inl f_wordNames))), (p0, .inl (cI, 12, .inl f_p0)), (h0, .inr (6, vL 12 F4))] H := hP
    have hD : va_D A [(h_bytes, .inl (cB, 940, .inl f_bytes)), (h_wordNames, .inl (cJ, 23, .inr (.inl f_wordNames))), (p0, .inl (cI, 12, .inl f_p0)), (h0, .inr (6, vL 12 F4))] := hD
    refine W.widen (k := 0) (n := 0) (Nat.le_of_ble_eq_true rfl) (Nat.le_of_ble_eq_true rfl) ?_
    refine lv_if_ne (tgt := 28) hx hb dX6_takeInto_23 (by decide) (fun g => absurd (by decide) g) (fun _ => ?_)
    refine lv_iconst (v := 0) hx hb dX6_takeInto_26 (by decide) ?_
    exact ret_i (v := 0) hx hb hr hlocks hS (hP.sub (ws' := [(h0, .inr (6, vL 12 F4)), (h_bytes, .inl (cB, 940, .inl f_bytes)), (h_wordNames, .inl (cJ, 23, .inr (.inl f_wordNames))), (p0, .inl (cI, 12, .inl f_p0))]) [3, 0, 1, 2] rfl) (hD.sub (ws' := [(h0, .inr (6, vL 12 F4)), (h_bytes, .inl (cB, 940, .inl f_bytes)), (h_wordNames, .inl (cJ, 23, .inr (.inl f_wordNames))), (p0, .inl (cI, 12, .inl f_p0))]) [3, 0, 1, 2] (by decide) rfl) dX6_takeInto_27 rfl (Nat.le_of_ble_eq_true rfl) (Nat.le_of_ble_eq_true rfl) (Or.inl ⟨F4, y5, y6, (SAME.tr SAME.rf t7 (by decide)), t8, t9, t10, dc1, dc2, (num_0 t11), rfl, rfl⟩)
  · have hP : va_P D vwCl [(h_bytes, .inl (cB, 940, .inl f_bytes)), (h_wordNames, .inl (cJ, 23, .inr (.inl f_wordNames))), (p0, .inl (cI, 12, .inl f_p0)), (h0, .inr (6, vL 12 Fh))] H := hP
    have hD : va_D A [(h_bytes, .inl (cB, 940, .inl f_bytes)), (h_wordNames, .inl (cJ, 23, .inr (.inl f_wordNames))), (p0, .inl (cI, 12, .inl f_p0)), (h0, .inr (6, vL 12 Fh))] := hD
    refine W.widen (k := 0) (n := 0) (Nat.le_of_ble_eq_true rfl) (Nat.le_of_ble_eq_true rfl) ?_
    have k17 : 3 ≤ x_kind.toInt ∧ x_kind.toInt ≤ 3 := ⟨Int.le_trans (Int.le_refl _) (Int.le_of_eq t12.symm), Int.le_trans (Int.le_of_eq t12) (Int.le_refl _)⟩
    refine lv_if_ne (tgt := 28) hx hb dX6_takeInto_23 (by decide) (fun _ => ?_) (fun g => absurd g (by decide))
    refine lv_aload_n hx hb dX6_takeInto_28 rfl (lv_at hl 1 rfl) ?_
    refine lv_iload_n hx hb dX6_takeInto_29 rfl (lv_at hl 2 rfl) ?_
    refine lv_aload_n hx hb dX6_takeInto_30 rfl (lv_at hl 0 rfl) ?_
    refine get_f (D := D) (ci := 6) (v := .int x_value) (C := RX6) (T := TX6) (N := 12) hx hb hw inAX6 hown hK hP 3 rfl rfl 4 (by decide) (hw _ q_97) (fun _ h9 => h9) e_value dX6_takeInto_31 ?_
    obtain ⟨g18, eg18⟩ : ∃ z : Nat → Int32, upd f_p0 p1.toNatClampNeg x_value = z := ⟨_, rfl⟩
    refine iast_g hx hb hK hP hD hS 2 0 rfl rfl (ix_k i_p1 (by decide) (by decide)) eg18 dX6_takeInto_34 (fun H locs hP hD hS => ?_)
    have hP : va_P D vwCl [(h_bytes, .inl (cB, 940, .inl f_bytes)), (h_wordNames, .inl (cJ, 23, .inr (.inl f_wordNames))), (p0, .inl (cI, 12, .inl g18)), (h0, .inr (6, vL 12 Fh))] H := hP
    have hD : va_D A [(h_bytes, .inl (cB, 940, .inl f_bytes)), (h_wordNames, .inl (cJ, 23, .inr (.inl f_wordNames))), (p0, .inl (cI, 12, .inl g18)), (h0, .inr (6, vL 12 Fh))] := hD
    refine lv_aload_n hx hb dX6_takeInto_35 rfl (lv_at hl 0 rfl) ?_
    refine call_Vv (wr := [(p0, .inl (cI, 12, .inl g18))]) (As := []) (rest := []) hx hb hml hown hw (m_X6_advance l D cI cJ cB cP cM cZ h0 h_bytes h_wordNames Fh x_length x_kind x_place x_value x_name x_at x_mostBytes f_bytes f_wordNames _ e_bytes e_length i_x_length e_kind e_place e_value e_name e_wordNames e_at i_x_at e_mostBytes s_bytes_0 s_wordNames_KN) wV_X6_66_X6_advance dX6_takeInto_36 hK hP hD hS hA [3, 0, 1] [2] rfl rfl (by decide) (by decide) (by decide) 0 6 rfl rfl GG.fb hG.at hl.1 rfl (Nat.le_of_ble_eq_true rfl) ⟨(Nat.le_of_ble_eq_true rfl), (Nat.le_of_ble_eq_true rfl)⟩ ⟨(Nat.le_of_ble_eq_true rfl), (Nat.le_of_ble_eq_true rfl)⟩ (fun u H locs hp hP hD hS => ?_)
    obtain ⟨F20, y21, y22, y23, y24, y25, t26, t27, t28, t29, t30, t31, t32, t33, t34, t35, t36, t37, rfl⟩ := hp
    have hP : va_P D vwCl [(p0, .inl (cI, 12, .inl g18)), (h0, .inr (6, vL 12 F20)), (h_bytes, .inl (cB, 940, .inl f_bytes)), (h_wordNames, .inl (cJ, 23, .inr (.inl f_wordNames)))] H := hP
    have hD : va_D A [(p0, .inl (cI, 12, .inl g18)), (h0, .inr (6, vL 12 F20)), (h_bytes, .inl (cB, 940, .inl f_bytes)), (h_wordNames, .inl (cJ, 23, .inr (.inl f_wordNames)))] := hD
    refine W.widen (k := 0) (n := 0) (Nat.le_of_ble_eq_true rfl) (Nat.le_of_ble_eq_true rfl) ?_
    refine lv_iconst (v := 1) hx hb dX6_takeInto_39 (by decide) ?_
    exact ret_i (v := 1) hx hb hr hlocks hS (hP.sub (ws' := [(h0, .inr (6, vL 12 F20)), (h_bytes, .inl (cB, 940, .inl f_bytes)), (h_wordNames, .inl (cJ, 23, .inr (.inl f_wordNames))), (p0, .inl (cI, 12, .inl g18))]) [1, 2, 3, 0] rfl) (hD.sub (ws' := [(h0, .inr (6, vL 12 F20)), (h_bytes, .inl (cB, 940, .inl f_bytes)), (h_wordNames, .inl (cJ, 23, .inr (.inl f_wordNames))), (p0, .inl (cI, 12, .inl g18))]) [1, 2, 3, 0] (by decide) rfl) dX6_takeInto_40 rfl (Nat.le_of_ble_eq_true rfl) (Nat.le_of_ble_eq_true rfl) (Or.inr ⟨F20, y21, y22, y23, y24, y25, g18, (SAME.tr SAME.rf t26 (by decide)), t27, t28, t29, t30, t31, t32, t33, t34, dc1, dc2, t12, t13, t14, eg18, (num_1 (by omega) ⟨by omega, by omega⟩ t35), (by have zl1 : (1 : Int32).toInt = 1 := (by decide); omega), t36, t37, rfl, rfl⟩)
set_option maxHeartbeats 4000000 in
set_option maxRecDepth 100000 in
theorem m_X1_readMan (l : Launch) (D : va_G) (cI cJ cB cP cM cZ : ClassId) (h0 : Nat) (h_manName : Nat) (h_push : Nat) (h_feet : Nat) (h_weight : Nat) (h_runnerName : Nat) (p0 : Nat) (h_p0_bytes : Nat) (h_p0_wordNames : Nat) (Fh : Nat → Value) (x_men : Int32) (x_runners : Int32) (f_manName : Nat → Int64) (f_push : Nat → Int32) (f_feet : Nat → Int32) (f_weight : Nat → Int32) (f_runnerName : Nat → Int64) (F_p0_ : Nat → Value) (x_p0_length : Int32) (x_p0_kind : Int32) (x_p0_place : Int32) (x_p0_value : Int32) (x_p0_name : Int64) (x_p0_faultKind : Int32) (x_p0_faultPlace : Int32) (x_p0_at : Int32) (x_p0_mostBytes : Int32) (f_p0_bytes : Nat → Int32) (f_p0_wordNames : Nat → Int64) (sz : Nat) (e_manName : Fh 2 = .ref h_manName) (e_push : Fh 3 = .ref h_push) (e_feet : Fh 4 = .ref h_feet) (e_weight : Fh 5 = .ref h_weight) (e_runnerName : Fh 10 = .ref h_runnerName) (e_men : Fh 13 = .int x_men) (i_x_men : IR 0 12 x_men) (e_runners : Fh 15 = .int x_runners) (i_x_runners : IR 0 6 x_runners) (e_p0_bytes : F_p0_ 0 = .ref h_p0_bytes) (e_p0_length : F_p0_ 1 = .int x_p0_length) (i_x_p0_length : IR 0 940 x_p0_length) (e_p0_kind : F_p0_ 2 = .int x_p0_kind) (e_p0_place : F_p0_ 3 = .int x_p0_place) (e_p0_value : F_p0_ 4 = .int x_p0_value) (e_p0_name : F_p0_ 5 = .long x_p0_name) (e_p0_faultKind : F_p0_ 7 = .int x_p0_faultKind) (e_p0_faultPlace : F_p0_ 8 = .int x_p0_faultPlace) (e_p0_wordNames : F_p0_ 9 = .ref h_p0_wordNames) (e_p0_at : F_p0_ 10 = .int x_p0_at) (i_x_p0_at : IR 0 940 x_p0_at) (e_p0_mostBytes : F_p0_ 11 = .int x_p0_mostBytes) (s_p0_bytes_0 : SG 0 939 (-128) 127 f_p0_bytes) (s_p0_wordNames_KN : KWN f_p0_wordNames) (z_0 : (x_p0_kind.toInt = 2 → x_p0_value.toInt = wix x_p0_name.toInt)) (z_1 : x_p0_kind.toInt = 2) : CI l yX1_readMan cX1_readMan 3 (some .boolean) { frames := 3, cells := 0, slots := 0, locals := 69 } (GG D cI cJ cB cP cM cZ) D [(h0, .inr (1, vL 18 Fh)), (h_manName, .inl (cJ, 12, .inr (.inl f_manName))), (h_push, .inl (cI, 12, .inl f_push)), (h_feet, .inl (cI, 12, .inl f_feet)), (h_weight, .inl (cI, 12, .inl f_weight)), (h_runnerName, .inl (cJ, 6, .inr (.inl f_runnerName))), (p0, .inr (6, vL 12 F_p0_)), (h_p0_bytes, .inl (cB, 940, .inl f_p0_bytes)), (h_p0_wordNames, .inl (cJ, 23, .inr (.inl f_p0_wordNames)))] sz [.ref h0, .ref p0] (fun (r : Int32) (u : va_W) => (∃ (Gh : Nat → Value) (y_men : Int32) (G_p0_ : Nat → Value) (y_p0_kind : Int32) (y_p0_place : Int32) (y_p0_value : Int32) (y_p0_name : Int64) (y_p0_faultKind : Int32) (y_p0_faultPlace : Int32) (y_p0_at : Int32) (g_manName : Nat → Int64) (g_push : Nat → Int32) (g_feet : Nat → Int32), SAME [13] Fh Gh ∧ Gh 13 = .int y_men ∧ IR 0 12 y_men ∧ SAME [2, 3, 4, 5, 7, 8, 10] F_p0_ G_p0_ ∧ G_p0_ 2 = .int y_p0_kind ∧ G_p0_ 3 = .int y_p0_place ∧ G_p0_ 4 = .int y_p0_value ∧ G_p0_ 5 = .long y_p0_name ∧ G_p0_ 7 = .int y_p0_faultKind ∧ IR 1 4 y_p0_faultKind ∧ G_p0_ 8 = .int y_p0_faultPlace ∧ G_p0_ 10 = .int y_p0_at ∧ IR 0 940 y_p0_at ∧ (∀ (tl : Int32) (yd b : Int), cMan (tkA f_p0_bytes x_p0_length.toInt x_p0_mostBytes.toInt) (tkC x_p0_kind x_p0_place x_p0_value x_p0_name x_p0_at) (tl, yd, (nmL f_manName x_men.toInt), b, (nmL f_runnerName x_runners.toInt)) = .inl (y_p0_faultKind.toInt, y_p0_faultPlace.toInt)) ∧ r = 0 ∧ u = [(h0, .inr (1, vL 18 Gh)), (h_manName, .inl (cJ, 12, .inr (.inl g_manName))), (h_push, .inl (cI, 12, .inl g_push)), (h_feet, .inl (cI, 12, .inl g_feet)), (h_weight, .inl (cI, 12, .inl f_weight)), (h_runnerName, .inl (cJ, 6, .inr (.inl f_runnerName))), (p0, .inr (6, vL 12 G_p0_)), (h_p0_bytes, .inl (cB, 940, .inl f_p0_bytes)), (h_p0_wordNames, .inl (cJ, 23, .inr (.inl f_p0_wordNames)))]) ∨ (∃ (Gh : Nat → Value) (y_men : Int32) (G_p0_ : Nat → Value) (y_p0_kind : Int32) (y_p0_place : Int32) (y_p0_value : Int32) (y_p0_name : Int64) (y_p0_at : Int32) (g_manName : Nat → Int64) (g_push : Nat → Int32) (g_feet : Nat → Int32) (g_weight : Nat → Int32), SAME [13] Fh Gh ∧ Gh 13 = .int y_men ∧ IR 1 12 y_men ∧ SAME [2, 3, 4, 5, 10] F_p0_ G_p0_ ∧ G_p0_ 2 = .int y_p0_kind ∧ IR (-128) 127 y_p0_kind ∧ G_p0_ 3 = .int y_p0_place ∧ IR (-2147483648) 940 y_p0_place ∧ G_p0_ 4 = .int y_p0_value ∧ G_p0_ 5 = .long y_p0_name ∧ G_p0_ 10 = .int y_p0_at ∧ IR 0 940 y_p0_at ∧ x_men.toInt < 12 ∧ 0 ≤ x_men.toInt ∧ (∀ (tl : Int32) (yd b : Int), cMan (tkA f_p0_bytes x_p0_length.toInt x_p0_mostBytes.toInt) (tkC x_p0_kind x_p0_place x_p0_value x_p0_name x_p0_at) (tl, yd, (nmL f_manName x_men.toInt), b, (nmL f_runnerName x_runners.toInt)) = .inr ((tkC y_p0_kind y_p0_place y_p0_value y_p0_name y_p0_at), (tl, yd, nmL g_manName y_men.toInt, b, (nmL f_runnerName x_runners.toInt)))) ∧ ((y_p0_kind.toInt = 2 → y_p0_value.toInt = wix y_p0_name.toInt)) ∧ r = 1 ∧ u = [(h0, .inr (1, vL 18 Gh)), (h_manName, .inl (cJ, 12, .inr (.inl g_manName))), (h_push, .inl (cI, 12, .inl g_push)), (h_feet, .inl (cI, 12, .inl g_feet)), (h_weight, .inl (cI, 12, .inl g_weight)), (h_runnerName, .inl (cJ, 6, .inr (.inl f_runnerName))), (p0, .inr (6, vL 12 G_p0_)), (h_p0_bytes, .inl (cB, 940, .inl f_p0_bytes)), (h_p0_wordNames, .inl (cJ, 23, .inr (.inl f_p0_wordNames)))])) := by
  refine CI_mk (by decide) (Nat.le_of_ble_eq_true rfl) ?_
  intro p e s m below meth c A ls E hAe hG hsz hP hD hA hS hl
  obtain ⟨hx, hb, hr, hw, hown, hlocks, hml, hnm⟩ := E
  have hK := hG.1
  have i_x_men : 0 ≤ x_men.toInt ∧ x_men.toInt ≤ 12 := i_x_men
  have i_x_runners : 0 ≤ x_runners.toInt ∧ x_runners.toInt ≤ 6 := i_x_runners
  have i_x_p0_length : 0 ≤ x_p0_length.toInt ∧ x_p0_length.toInt ≤ 940 := i_x_p0_length
  have i_x_p0_at : 0 ≤ x_p0_at.toInt ∧ x_p0_at.toInt ≤ 940 := i_x_p0_at
  have hl : lv_has ls 3 [(0, .ref h0), (1, .ref p0)] := hl
  refine lv_aload_n hx hb dX1_readMan_0 rfl (lv_at hl 0 rfl) ?_
  refine get_f (D := D) (ci := 1) (v := .int x_men) (C := RX1) (T := TX1) (N := 18) hx hb hw inAX1 hown hK hP 0 rfl rfl 13 (by decide) (hw _ q_352) (fun _ h9 => h9) e_men dX1_readMan_1 ?_
  refine lv_bipush (v := 12) hx hb dX1_readMan_4 (by decide) ?_
  refine lv_icmp_lt (tgt := 15) hx hb dX1_readMan_6 (by decide) (fun c1 => ?_) (fun c1 => ?_)
  · have dc1 : x_men.toInt < 12 := lt_i (a := x_men.toInt) (b := 12) rfl rfl c1
    have k2 : 0 ≤ x_men.toInt ∧ x_men.toInt ≤ 11 := ⟨i_x_men.1, up_lt dc1 (Int.le_refl _) (by decide)⟩
    refine lv_aload_n hx hb dX1_readMan_15 rfl (lv_at hl 1 rfl) ?_
    refine call_Vv (wr := [(h0, .inr (1, vL 18 Fh)), (h_manName, .inl (cJ, 12, .inr (.inl f_manName))), (h_push, .inl (cI, 12, .inl f_push)), (h_feet, .inl (cI, 12, .inl f_feet)), (h_weight, .inl (cI, 12, .inl f_weight)), (h_runnerName, .inl (cJ, 6, .inr (.inl f_runnerName)))]) (As := []) (rest := []) hx hb hml hown hw (m_X6_advance l D cI cJ cB cP cM cZ p0 h_p0_bytes h_p0_wordNames F_p0_ x_p0_length x_p0_kind x_p0_place x_p0_value x_p0_name x_p0_at x_p0_mostBytes f_p0_bytes f_p0_wordNames _ e_p0_bytes e_p0_length i_x_p0_length e_p0_kind e_p0_place e_p0_value e_p0_name e_p0_wordNames e_p0_at i_x_p0_at e_p0_mostBytes s_p0_bytes_0 s_p0_wordNames_KN) wV_X1_131_X6_advance dX1_readMan_16 hK hP hD hS hA [6, 7, 8] [0, 1, 2, 3, 4, 5] rfl rfl (by decide) (by decide) (by decide) 0 6 rfl rfl GG.fb hG.at hl.1 rfl (Nat.le_of_ble_eq_true rfl) ⟨(Nat.le_of_ble_eq_true rfl), (Nat.le_of_ble_eq_true rfl)⟩ ⟨(Nat.le_of_ble_eq_true rfl), (Nat.le_of_ble_eq_true rfl)⟩ (fun u H locs hp hP hD hS => ?_)
    obtain ⟨F4, y5, y6, y7, y8, y9, t10, t11, t12, t13, t14, t15, t16, t17, t18, t19, t20, t21, rfl⟩ := hp
    have hP : va_P D vwCl [(h0, .inr (1, vL 18 Fh)), (h_manName, .inl (cJ, 12, .inr (.inl f_manName))), (h_push, .inl (cI, 12, .inl f_push)), (h_feet, .inl (cI, 12, .inl f_feet)), (h_weight, .inl (cI, 12, .inl f_weight)), (h_runnerName, .inl (cJ, 6, .inr (.inl f_runnerName))), (p0, .inr (6, vL 12 F4)), (h_p0_bytes, .inl (cB, 940, .inl f_p0_bytes)), (h_p0_wordNames, .inl (cJ, 23, .inr (.inl f_p0_wordNames)))] H := hP
    have hD : va_D A [(h0, .inr (1, vL 18 Fh)), (h_manName, .inl (cJ, 12, .inr (.inl f_manName))), (h_push, .inl (cI, 12, .inl f_push)), (h_feet, .inl (cI, 12, .inl f_feet)), (h_weight, .inl (cI, 12, .inl f_weight)), (h_runnerName, .inl (cJ, 6, .inr (.inl f_runnerName))), (p0, .inr (6, vL 12 F4)), (h_p0_bytes, .inl (cB, 940, .inl f_p0_bytes)), (h_p0_wordNames, .inl (cJ, 23, .inr (.inl f_p0_wordNames)))] := hD
    refine W.widen (k := 0) (n := 0) (Nat.le_of_ble_eq_true rfl) (Nat.le_of_ble_eq_true rfl) ?_
    refine lv_aload_n hx hb dX1_readMan_19 rfl (lv_at hl 0 rfl) ?_
    refine lv_aload_n hx hb dX1_readMan_20 rfl (lv_at hl 1 rfl) ?_
    refine lv_aload_n hx hb dX1_readMan_21 rfl (lv_at hl 0 rfl) ?_
    refine get_f (D := D) (ci := 1) (v := .ref h_manName) (C := RX1) (T := TX1) (N := 18) hx hb hw inAX1 hown hK hP 0 rfl rfl 2 (by decide) (hw _ q_320) (fun _ h9 => h9) e_manName dX1_readMan_22 ?_
    refine lv_aload_n hx hb dX1_readMan_25 rfl (lv_at hl 0 rfl) ?_
    refine get_f (D := D) (ci := 1) (v := .int x_men) (C := RX1) (T := TX1) (N := 18) hx hb hw inAX1 hown hK hP 0 rfl rfl 13 (by decide) (hw _ q_352) (fun _ h9 => h9) e_men dX1_readMan_26 ?_
    have n23 : F4 0 = .ref h_p0_bytes := (SAME.at t10 (by decide) e_p0_bytes)
    have n24 : F4 1 = .int x_p0_length := (SAME.at t10 (by decide) e_p0_length)
    have n25 : F4 7 = .int x_p0_faultKind := (SAME.at t10 (by decide) e_p0_faultKind)
    have n26 : F4 8 = .int x_p0_faultPlace := (SAME.at t10 (by decide) e_p0_faultPlace)
    have n27 : F4 9 = .ref h_p0_wordNames := (SAME.at t10 (by decide) e_p0_wordNames)
    have n28 : F4 11 = .int x_p0_mostBytes := (SAME.at t10 (by decide) e_p0_mostBytes)
    refine call_Vi (wr := [(h_push, .inl (cI, 12, .inl f_push)), (h_feet, .inl (cI, 12, .inl f_feet)), (h_weight, .inl (cI, 12, .inl f_weight))]) (As := [.ref p0, .ref h_manName, .int x_men]) (rest := []) hx hb hml hown hw (m_X1_readName_manName l D cI cJ cB cP cM cZ h0 h_manName h_runnerName p0 h_p0_bytes h_p0_wordNames Fh x_men x_runners f_manName f_runnerName F4 x_p0_length y5 y6 y7 y8 x_p0_faultKind x_p0_faultPlace y9 x_p0_mostBytes f_p0_bytes f_p0_wordNames x_men _ e_manName e_runnerName e_men (ir_wk k2 (by decide) (by decide)) e_runners i_x_runners n23 n24 i_x_p0_length t11 t13 t15 t16 n25 n26 n27 t17 t18 n28 s_p0_bytes_0 s_p0_wordNames_KN k2 t20) wV_X1_144_X1_readName dX1_readMan_29 hK hP hD hS hA [0, 1, 5, 6, 7, 8] [2, 3, 4] rfl rfl (by decide) (by decide) (by decide) 0 1 rfl rfl GG.fb hG.at hl.1 rfl (Nat.le_of_ble_eq_true rfl) ⟨(Nat.le_of_ble_eq_true rfl), (Nat.le_of_ble_eq_true rfl)⟩ ⟨(Nat.le_of_ble_eq_true rfl), (Nat.le_of_ble_eq_true rfl)⟩ (fun r29 u H locs hp hP hD hS => ?_)
    rcases hp with ⟨F30, y31, y32, t33, t34, t35, t36, t37, rfl, rfl⟩ | ⟨F38, y39, y40, y41, y42, y43, g44, t45, t46, t47, t48, t49, t50, t51, t52, t53, t54, t55, t56, t57, rfl, rfl⟩
    · have hP : va_P D vwCl [(h_push, .inl (cI, 12, .inl f_push)), (h_feet, .inl (cI, 12, .inl f_feet)), (h_weight, .inl (cI, 12, .inl f_weight)), (h0, .inr (1, vL 18 Fh)), (h_manName, .inl (cJ, 12, .inr (.inl f_manName))), (h_runnerName, .inl (cJ, 6, .inr (.inl f_runnerName))), (p0, .inr (6, vL 12 F30)), (h_p0_bytes, .inl (cB, 940, .inl f_p0_bytes)), (h_p0_wordNames, .inl (cJ, 23, .inr (.inl f_p0_wordNames)))] H := hP
      have hD : va_D A [(h_push, .inl (cI, 12, .inl f_push)), (h_feet, .inl (cI, 12, .inl f_feet)), (h_weight, .inl (cI, 12, .inl f_weight)), (h0, .inr (1, vL 18 Fh)), (h_manName, .inl (cJ, 12, .inr (.inl f_manName))), (h_runnerName, .inl (cJ, 6, .inr (.inl f_runnerName))), (p0, .inr (6, vL 12 F30)), (h_p0_bytes, .inl (cB, 940, .inl f_p0_bytes)), (h_p0_wordNames, .inl (cJ, 23, .inr (.inl f_p0_wordNames)))] := hD
      refine W.widen (k := 0) (n := 0) (Nat.le_of_ble_eq_true rfl) (Nat.le_of_ble_eq_true rfl) ?_
      refine lv_if_eq (tgt := 95) hx hb dX1_readMan_32 (by decide) (fun _ => ?_) (fun g => absurd (by decide) g)
      refine lv_iconst (v := 0) hx hb dX1_readMan_95 (by decide) ?_
      refine lv_istore_n (lv' := [(2, .int 0), (0, .ref h0), (1, .ref p0)]) hx hb dX1_readMan_96 rfl hl (by decide) rfl (fun ls hl => ?_)
      refine lv_aload_n hx hb dX1_readMan_97 rfl (lv_at hl 1 rfl) ?_
      refine lv_dup hx hb dX1_readMan_98 rfl ?_
      refine get_f (D := D) (ci := 1) (v := .int x_men) (C := RX1) (T := TX1) (N := 18) hx hb hw inAX1 hown hK hP 3 rfl rfl 13 (by decide) (hw _ q_352) (fun _ h9 => h9) e_men dX1_readMan_99 ?_
      refine lv_iload_n hx hb dX1_readMan_102 rfl (lv_at hl 0 rfl) ?_
      refine lv_if_eq (tgt := 110) hx hb dX1_readMan_103 (by decide) (fun _ => ?_) (fun g => absurd (by decide) g)
      refine lv_iconst (v := 0) hx hb dX1_readMan_110 (by decide) ?_
      refine lv_iadd hx hb dX1_readMan_111 ?_
      refine lv_topi (fun v59 ev59 => ?_)
      have bv59 : v59.toInt = x_men.toInt + 0 := by rw [ev59]; exact add_k rfl rfl k2 ⟨Int.le_refl _, Int.le_refl _⟩ (by decide)
      have k60 : 0 ≤ v59.toInt ∧ v59.toInt ≤ 11 := add_r bv59 k2 ⟨Int.le_refl _, Int.le_refl _⟩ (by decide)
      refine put_f (D := D) (ci := 1) (v := .int v59) (ty := .int) (C := RX1) (T := TX1) (N := 18) hx hb hw inAX1 tyX1 tyX1_ok nmX1 hown hK hP hD hS 3 rfl rfl 13 (by decide) (hw _ q_352) (fun _ h9 => h9) rfl (by decide +kernel) rfl rfl dX1_readMan_112 (fun H locs F61 eF61 hP hD hS => ?_)
      have hP : va_P D vwCl [(h_push, .inl (cI, 12, .inl f_push)), (h_feet, .inl (cI, 12, .inl f_feet)), (h_weight, .inl (cI, 12, .inl f_weight)), (h0, .inr (1, vL 18 F61)), (h_manName, .inl (cJ, 12, .inr (.inl f_manName))), (h_runnerName, .inl (cJ, 6, .inr (.inl f_runnerName))), (p0, .inr (6, vL 12 F30)), (h_p0_bytes, .inl (cB, 940, .inl f_p0_bytes)), (h_p0_wordNames, .inl (cJ, 23, .inr (.inl f_p0_wordNames)))] H := hP
      have hD : va_D A [(h_push, .inl (cI, 12, .inl f_push)), (h_feet, .inl (cI, 12, .inl f_feet)), (h_weight, .inl (cI, 12, .inl f_weight)), (h0, .inr (1, vL 18 F61)), (h_manName, .inl (cJ, 12, .inr (.inl f_manName))), (h_runnerName, .inl (cJ, 6, .inr (.inl f_runnerName))), (p0, .inr (6, vL 12 F30)), (h_p0_bytes, .inl (cB, 940, .inl f_p0_bytes)), (h_p0_wordNames, .inl (cJ, 23, .inr (.inl f_p0_wordNames)))] := hD
      refine lv_iload_n hx hb dX1_readMan_115 rfl (lv_at hl 0 rfl) ?_
      exact ret_i (v := 0) hx hb hr hlocks hS (hP.sub (ws' := [(h0, .inr (1, vL 18 F61)), (h_manName, .inl (cJ, 12, .inr (.inl f_manName))), (h_push, .inl (cI, 12, .inl f_push)), (h_feet, .inl (cI, 12, .inl f_feet)), (h_weight, .inl (cI, 12, .inl f_weight)), (h_runnerName, .inl (cJ, 6, .inr (.inl f_runnerName))), (p0, .inr (6, vL 12 F30)), (h_p0_bytes, .inl (cB, 940, .inl f_p0_bytes)), (h_p0_wordNames, .inl (cJ, 23, .inr (.inl f_p0_wordNames)))]) [3, 4, 0, 1, 2, 5, 6, 7, 8] rfl) (hD.sub (ws' := [(h0, .inr (1, vL 18 F61)), (h_manName, .inl (cJ, 12, .inr (.inl f_manName))), (h_push, .inl (cI, 12, .inl f_push)), (h_feet, .inl (cI, 12, .inl f_feet)), (h_weight, .inl (cI, 12, .inl f_weight)), (h_runnerName, .inl (cJ, 6, .inr (.inl f_runnerName))), (p0, .inr (6, vL 12 F30)), (h_p0_bytes, .inl (cB, 940, .inl f_p0_bytes)), (h_p0_wordNames, .inl (cJ, 23, .inr (.inl f_p0_wordNames)))]) [3, 4, 0, 1, 2, 5, 6, 7, 8] (by decide) rfl) dX1_readMan_116 rfl (Nat.le_of_ble_eq_true rfl) (Nat.le_of_ble_eq_true rfl) (Or.inl ⟨F61, v59, F30, y5, y6, y7, y8, y31, y32, y9, f_manName, f_push, f_feet, (SAME.up eF61 SAME.rf (by decide)), (get_eq eF61), (ir_wk k60 (by decide) (by decide)), (SAME.tr (SAME.tr SAME.rf t10 (by decide)) t33 (by decide)), (SAME.at t33 (by decide) t11), (SAME.at t33 (by decide) t13), (SAME.at t33 (by decide) t15), (SAME.at t33 (by decide) t16), t34, (ir_wk t35 (by decide) (by decide)), t36, (SAME.at t33 (by decide) t17), t18, (fun tl yd b => cMan_0 (show ¬ 12 ≤ (nmL f_manName x_men.toInt).length by rw [nmL_len]; omega) (at_tk t19 (by omega)) t37), rfl, rfl⟩)
    · have hP : va_P D vwCl [(h_push, .inl (cI, 12, .inl f_push)), (h_feet, .inl (cI, 12, .inl f_feet)), (h_weight, .inl (cI, 12, .inl f_weight)), (h0, .inr (1, vL 18 Fh)), (h_manName, .inl (cJ, 12, .inr (.inl g44))), (h_runnerName, .inl (cJ, 6, .inr (.inl f_runnerName))), (p0, .inr (6, vL 12 F38)), (h_p0_bytes, .inl (cB, 940, .inl f_p0_bytes)), (h_p0_wordNames, .inl (cJ, 23, .inr (.inl f_p0_wordNames)))] H := hP
      have hD : va_D A [(h_push, .inl (cI, 12, .inl f_push)), (h_feet, .inl (cI, 12, .inl f_feet)), (h_weight, .inl (cI, 12, .inl f_weight)), (h0, .inr (1, vL 18 Fh)), (h_manName, .inl (cJ, 12, .inr (.inl g44))), (h_runnerName, .inl (cJ, 6, .inr (.inl f_runnerName))), (p0, .inr (6, vL 12 F38)), (h_p0_bytes, .inl (cB, 940, .inl f_p0_bytes)), (h_p0_wordNames, .inl (cJ, 23, .inr (.inl f_p0_wordNames)))] := hD
      refine W.widen (k := 0) (n := 0) (Nat.le_of_ble_eq_true rfl) (Nat.le_of_ble_eq_true rfl) ?_
      refine lv_if_eq (tgt := 95) hx hb dX1_readMan_32 (by decide) (fun g => absurd g (by decide)) (fun _ => ?_)
      refine lv_aload_n hx hb dX1_readMan_35 rfl (lv_at hl 1 rfl) ?_
      refine lv_aload_n hx hb dX1_readMan_36 rfl (lv_at hl 0 rfl) ?_
      refine get_f (D := D) (ci := 1) (v := .ref h_push) (C := RX1) (T := TX1) (N := 18) hx hb hw inAX1 hown hK hP 3 rfl rfl 3 (by decide) (hw _ q_321) (fun _ h9 => h9) e_push dX1_readMan_37 ?_
      refine lv_aload_n hx hb dX1_readMan_40 rfl (lv_at hl 0 rfl) ?_
      refine get_f (D := D) (ci := 1) (v := .int x_men) (C := RX1) (T := TX1) (N := 18) hx hb hw inAX1 hown hK hP 3 rfl rfl 13 (by decide) (hw _ q_352) (fun _ h9 => h9) e_men dX1_readMan_41 ?_
      refine lv_iconst (v := 1) hx hb dX1_readMan_44 (by decide) ?_
      refine lv_bipush (v := 9) hx hb dX1_readMan_45 (by decide) ?_
      have n62 : F38 0 = .ref h_p0_bytes := (SAME.at t45 (by decide) n23)
      have n63 : F38 1 = .int x_p0_length := (SAME.at t45 (by decide) n24)
      have n64 : F38 7 = .int x_p0_faultKind := (SAME.at t45 (by decide) n25)
      have n65 : F38 8 = .int x_p0_faultPlace := (SAME.at t45 (by decide) n26)
      have n66 : F38 9 = .ref h_p0_wordNames := (SAME.at t45 (by decide) n27)
      have n67 : F38 11 = .int x_p0_mostBytes := (SAME.at t45 (by decide) n28)
      refine call_Vi (wr := [(h_feet, .inl (cI, 12, .inl f_feet)), (h_weight, .inl (cI, 12, .inl f_weight)), (h0, .inr (1, vL 18 Fh)), (h_manName, .inl (cJ, 12, .inr (.inl g44))), (h_runnerName, .inl (cJ, 6, .inr (.inl f_runnerName)))]) (As := [.ref h_push, .int x_men, .int 1, .int 9]) (rest := []) hx hb hml hown hw (m_X6_takeInto_12 l D cI cJ cB cP cM cZ p0 h_p0_bytes h_p0_wordNames h_push F38 x_p0_length y39 y40 y41 y42 x_p0_faultKind x_p0_faultPlace y43 x_p0_mostBytes f_p0_bytes f_p0_wordNames f_push x_men 1 9 _ n62 n63 i_x_p0_length t46 t48 t50 t51 n64 n65 n66 t52 t53 n67 s_p0_bytes_0 s_p0_wordNames_KN k2) wV_X1_140_X6_takeInto dX1_readMan_47 hK hP hD hS hA [6, 7, 8, 0] [1, 2, 3, 4, 5] rfl rfl (by decide) (by decide) (by decide) 0 6 rfl rfl GG.fb hG.at hl.1 rfl (Nat.le_of_ble_eq_true rfl) ⟨(Nat.le_of_ble_eq_true rfl), (Nat.le_of_ble_eq_true rfl)⟩ ⟨(Nat.le_of_ble_eq_true rfl), (Nat.le_of_ble_eq_true rfl)⟩ (fun r68 u H locs hp hP hD hS => ?_)
      have zl1 : (1 : Int32).toInt = 1 := by decide
      have zl9 : (9 : Int32).toInt = 9 := by decide
      rcases hp with hp | hp
      · obtain ⟨F69, y70, y71, t72, t73, t74, t75, t76, t77, t78, rfl, rfl⟩ := hp
        have hP : va_P D vwCl [(h_feet, .inl (cI, 12, .inl f_feet)), (h_weight, .inl (cI, 12, .inl f_weight)), (h0, .inr (1, vL 18 Fh)), (h_manName, .inl (cJ, 12, .inr (.inl g44))), (h_runnerName, .inl (cJ, 6, .inr (.inl f_runnerName))), (p0, .inr (6, vL 12 F69)), (h_p0_bytes, .inl (cB, 940, .inl f_p0_bytes)), (h_p0_wordNames, .inl (cJ, 23, .inr (.inl f_p0_wordNames))), (h_push, .inl (cI, 12, .inl f_push))] H := hP
        have hD : va_D A [(h_feet, .inl (cI, 12, .inl f_feet)), (h_weight, .inl (cI, 12, .inl f_weight)), (h0, .inr (1, vL 18 Fh)), (h_manName, .inl (cJ, 12, .inr (.inl g44))), (h_runnerName, .inl (cJ, 6, .inr (.inl f_runnerName))), (p0, .inr (6, vL 12 F69)), (h_p0_bytes, .inl (cB, 940, .inl f_p0_bytes)), (h_p0_wordNames, .inl (cJ, 23, .inr (.inl f_p0_wordNames))), (h_push, .inl (cI, 12, .inl f_push))] := hD
        refine W.widen (k := 0) (n := 0) (Nat.le_of_ble_eq_true rfl) (Nat.le_of_ble_eq_true rfl) ?_
        refine lv_if_eq (tgt := 95) hx hb dX1_readMan_50 (by decide) (fun _ => ?_) (fun g => absurd (by decide) g)
        refine lv_iconst (v := 0) hx hb dX1_readMan_95 (by decide) ?_
        refine lv_istore_n (lv' := [(2, .int 0), (0, .ref h0), (1, .ref p0)]) hx hb dX1_readMan_96 rfl hl (by decide) rfl (fun ls hl => ?_)
        refine lv_aload_n hx hb dX1_readMan_97 rfl (lv_at hl 1 rfl) ?_
        refine lv_dup hx hb dX1_readMan_98 rfl ?_
        refine get_f (D := D) (ci := 1) (v := .int x_men) (C := RX1) (T := TX1) (N := 18) hx hb hw inAX1 hown hK hP 2 rfl rfl 13 (by decide) (hw _ q_352) (fun _ h9 => h9) e_men dX1_readMan_99 ?_
        refine lv_iload_n hx hb dX1_readMan_102 rfl (lv_at hl 0 rfl) ?_
        refine lv_if_eq (tgt := 110) hx hb dX1_readMan_103 (by decide) (fun _ => ?_) (fun g => absurd (by decide) g)
        refine lv_iconst (v := 0) hx hb dX1_readMan_110 (by decide) ?_
        refine lv_iadd hx hb dX1_readMan_111 ?_
        refine lv_topi (fun v106 ev106 => ?_)
        have bv106 : v106.toInt = x_men.toInt + 0 := by rw [ev106]; exact add_k rfl rfl k2 ⟨Int.le_refl _, Int.le_refl _⟩ (by decide)
        have k107 : 0 ≤ v106.toInt ∧ v106.toInt ≤ 11 := add_r bv106 k2 ⟨Int.le_refl _, Int.le_refl _⟩ (by decide)
        refine put_f (D := D) (ci := 1) (v := .int v106) (ty := .int) (C := RX1) (T := TX1) (N := 18) hx hb hw inAX1 tyX1 tyX1_ok nmX1 hown hK hP hD hS 2 rfl rfl 13 (by decide) (hw _ q_352) (fun _ h9 => h9) rfl (by decide +kernel) rfl rfl dX1_readMan_112 (fun H locs F108 eF108 hP hD hS => ?_)
        have hP : va_P D vwCl [(h_feet, .inl (cI, 12, .inl f_feet)), (h_weight, .inl (cI, 12, .inl f_weight)), (h0, .inr (1, vL 18 F108)), (h_manName, .inl (cJ, 12, .inr (.inl g44))), (h_runnerName, .inl (cJ, 6, .inr (.inl f_runnerName))), (p0, .inr (6, vL 12 F69)), (h_p0_bytes, .inl (cB, 940, .inl f_p0_bytes)), (h_p0_wordNames, .inl (cJ, 23, .inr (.inl f_p0_wordNames))), (h_push, .inl (cI, 12, .inl f_push))] H := hP
        have hD : va_D A [(h_feet, .inl (cI, 12, .inl f_feet)), (h_weight, .inl (cI, 12, .inl f_weight)), (h0, .inr (1, vL 18 F108)), (h_manName, .inl (cJ, 12, .inr (.inl g44))), (h_runnerName, .inl (cJ, 6, .inr (.inl f_runnerName))), (p0, .inr (6, vL 12 F69)), (h_p0_bytes, .inl (cB, 940, .inl f_p0_bytes)), (h_p0_wordNames, .inl (cJ, 23, .inr (.inl f_p0_wordNames))), (h_push, .inl (cI, 12, .inl f_push))] := hD
        refine lv_iload_n hx hb dX1_readMan_115 rfl (lv_at hl 0 rfl) ?_
        exact ret_i (v := 0) hx hb hr hlocks hS (hP.sub (ws' := [(h0, .inr (1, vL 18 F108)), (h_manName, .inl (cJ, 12, .inr (.inl g44))), (h_push, .inl (cI, 12, .inl f_push)), (h_feet, .inl (cI, 12, .inl f_feet)), (h_weight, .inl (cI, 12, .inl f_weight)), (h_runnerName, .inl (cJ, 6, .inr (.inl f_runnerName))), (p0, .inr (6, vL 12 F69)), (h_p0_bytes, .inl (cB, 940, .inl f_p0_bytes)), (h_p0_wordNames, .inl (cJ, 23, .inr (.inl f_p0_wordNames)))]) [2, 3, 8, 0, 1, 4, 5, 6, 7] rfl) (hD.sub (ws' := [(h0, .inr (1, vL 18 F108)), (h_manName, .inl (cJ, 12, .inr (.inl g44))), (h_push, .inl (cI, 12, .inl f_push)), (h_feet, .inl (cI, 12, .inl f_feet)), (h_weight, .inl (cI, 12, .inl f_weight)), (h_runnerName, .inl (cJ, 6, .inr (.inl f_runnerName))), (p0, .inr (6, vL 12 F69)), (h_p0_bytes, .inl (cB, 940, .inl f_p0_bytes)), (h_p0_wordNames, .inl (cJ, 23, .inr (.inl f_p0_wordNames)))]) [2, 3, 8, 0, 1, 4, 5, 6, 7] (by decide) rfl) dX1_readMan_116 rfl (Nat.le_of_ble_eq_true rfl) (Nat.le_of_ble_eq_true rfl) (Or.inl ⟨F108, v106, F69, y39, y40, y41, y42, y70, y71, y43, g44, f_push, f_feet, (SAME.up eF108 SAME.rf (by decide)), (get_eq eF108), (ir_wk k107 (by decide) (by decide)), (SAME.tr (SAME.tr (SAME.tr SAME.rf t10 (by decide)) t45 (by decide)) t72 (by decide)), (SAME.at t72 (by decide) t46), (SAME.at t72 (by decide) t48), (SAME.at t72 (by decide) t50), (SAME.at t72 (by decide) t51), t73, (ir_wk t74 (by decide) (by decide)), t75, (SAME.at t72 (by decide) t52), t53, (fun tl yd b => cMan_1 (show ¬ 12 ≤ (nmL f_manName x_men.toInt).length by rw [nmL_len]; omega) (at_tk t19 (by omega)) t54 t78), rfl, rfl⟩)
      · refine hp.elim (fun F79 h9z0 => h9z0.elim (fun y80 h9z1 => h9z1.elim (fun y81 h9z2 => h9z2.elim (fun y82 h9z3 => h9z3.elim (fun y83 h9z4 => h9z4.elim (fun y84 h9z5 => h9z5.elim (fun g85 h9z6 => h9z6.elim (fun t86 h9z7 => h9z7.elim (fun t87 h9z8 => h9z8.elim (fun t88 h9z9 => h9z9.elim (fun t89 h9z10 => h9z10.elim (fun t90 h9z11 => h9z11.elim (fun t91 h9z12 => h9z12.elim (fun t92 h9z13 => h9z13.elim (fun t93 h9z14 => h9z14.elim (fun t94 h9z15 => h9z15.elim (fun t95 h9z16 => h9z16.elim (fun t96 h9z17 => h9z17.elim (fun t97 h9z18 => h9z18.elim (fun t98 h9z19 => h9z19.elim (fun t99 h9z20 => h9z20.elim (fun t100 h9z21 => h9z21.elim (fun t101 h9z22 => h9z22.elim (fun t102 h9z23 => h9z23.elim (fun t103 h9z24 => h9z24.elim (fun t104 h9z25 => h9z25.elim (fun heq926 h9z26 => ?_)))))))))))))))))))))))))))
        clear h9z0 h9z1 h9z2 h9z3 h9z4 h9z5 h9z6 h9z7 h9z8 h9z9 h9z10 h9z11 h9z12 h9z13 h9z14 h9z15 h9z16 h9z17 h9z18 h9z19 h9z20 h9z21 h9z22 h9z23 h9z24 h9z25
        subst heq926
        subst h9z26
        have hP : va_P D vwCl [(h_feet, .inl (cI, 12, .inl f_feet)), (h_weight, .inl (cI, 12, .inl f_weight)), (h0, .inr (1, vL 18 Fh)), (h_manName, .inl (cJ, 12, .inr (.inl g44))), (h_runnerName, .inl (cJ, 6, .inr (.inl f_runnerName))), (p0, .inr (6, vL 12 F79)), (h_p0_bytes, .inl (cB, 940, .inl f_p0_bytes)), (h_p0_wordNames, .inl (cJ, 23, .inr (.inl f_p0_wordNames))), (h_push, .inl (cI, 12, .inl g85))] H := hP
        have hD : va_D A [(h_feet, .inl (cI, 12, .inl f_feet)), (h_weight, .inl (cI, 12, .inl f_weight)), (h0, .inr (1, vL 18 Fh)), (h_manName, .inl (cJ, 12, .inr (.inl g44))), (h_runnerName, .inl (cJ, 6, .inr (.inl f_runnerName))), (p0, .inr (6, vL 12 F79)), (h_p0_bytes, .inl (cB, 940, .inl f_p0_bytes)), (h_p0_wordNames, .inl (cJ, 23, .inr (.inl f_p0_wordNames))), (h_push, .inl (cI, 12, .inl g85))] := hD
        refine W.widen (k := 0) (n := 0) (Nat.le_of_ble_eq_true rfl) (Nat.le_of_ble_eq_true rfl) ?_
        have k109 : 3 ≤ y39.toInt ∧ y39.toInt ≤ 3 := ⟨Int.le_trans (Int.le_refl _) (Int.le_of_eq t97.symm), Int.le_trans (Int.le_of_eq t97) (Int.le_refl _)⟩
        have k110 : 1 ≤ y41.toInt ∧ y41.toInt ≤ 2147483647 := ⟨Int.le_trans (Int.le_refl _) t98, (ir_any _).2⟩
        have k111 : 1 ≤ y41.toInt ∧ y41.toInt ≤ 9 := ⟨k110.1, Int.le_trans t99 (Int.le_refl _)⟩
        refine lv_if_eq (tgt := 95) hx hb dX1_readMan_50 (by decide) (fun g => absurd g (by decide)) (fun _ => ?_)
        refine lv_aload_n hx hb dX1_readMan_53 rfl (lv_at hl 1 rfl) ?_
        refine lv_aload_n hx hb dX1_readMan_54 rfl (lv_at hl 0 rfl) ?_
        refine get_f (D := D) (ci := 1) (v := .ref h_feet) (C := RX1) (T := TX1) (N := 18) hx hb hw inAX1 hown hK hP 2 rfl rfl 4 (by decide) (hw _ q_326) (fun _ h9 => h9) e_feet dX1_readMan_55 ?_
        refine lv_aload_n hx hb dX1_readMan_58 rfl (lv_at hl 0 rfl) ?_
        refine get_f (D := D) (ci := 1) (v := .int x_men) (C := RX1) (T := TX1) (N := 18) hx hb hw inAX1 hown hK hP 2 rfl rfl 13 (by decide) (hw _ q_352) (fun _ h9 => h9) e_men dX1_readMan_59 ?_
        refine lv_iconst (v := 1) hx hb dX1_readMan_62 (by decide) ?_
        refine lv_bipush (v := 9) hx hb dX1_readMan_63 (by decide) ?_
        have n112 : F79 0 = .ref h_p0_bytes := (SAME.at t86 (by decide) n62)
        have n113 : F79 1 = .int x_p0_length := (SAME.at t86 (by decide) n63)
        have n114 : F79 7 = .int x_p0_faultKind := (SAME.at t86 (by decide) n64)
        have n115 : F79 8 = .int x_p0_faultPlace := (SAME.at t86 (by decide) n65)
        have n116 : F79 9 = .ref h_p0_wordNames := (SAME.at t86 (by decide) n66)
        have n117 : F79 11 = .int x_p0_mostBytes := (SAME.at t86 (by decide) n67)
        refine call_Vi (wr := [(h_weight, .inl (cI, 12, .inl f_weight)), (h0, .inr (1, vL 18 Fh)), (h_manName, .inl (cJ, 12, .inr (.inl g44))), (h_runnerName, .inl (cJ, 6, .inr (.inl f_runnerName))), (h_push, .inl (cI, 12, .inl g85))]) (As := [.ref h_feet, .int x_men, .int 1, .int 9]) (rest := []) hx hb hml hown hw (m_X6_takeInto_12 l D cI cJ cB cP cM cZ p0 h_p0_bytes h_p0_wordNames h_feet F79 x_p0_length y80 y81 y82 y83 x_p0_faultKind x_p0_faultPlace y84 x_p0_mostBytes f_p0_bytes f_p0_wordNames f_feet x_men 1 9 _ n112 n113 i_x_p0_length t87 t89 t91 t92 n114 n115 n116 t93 t94 n117 s_p0_bytes_0 s_p0_wordNames_KN k2) wV_X1_140_X6_takeInto dX1_readMan_65 hK hP hD hS hA [5, 6, 7, 0] [1, 2, 3, 4, 8] rfl rfl (by decide) (by decide) (by decide) 0 6 rfl rfl GG.fb hG.at hl.1 rfl (Nat.le_of_ble_eq_true rfl) ⟨(Nat.le_of_ble_eq_true rfl), (Nat.le_of_ble_eq_true rfl)⟩ ⟨(Nat.le_of_ble_eq_true rfl), (Nat.le_of_ble_eq_true rfl)⟩ (fun r118 u H locs hp hP hD hS => ?_)
        rcases hp with hp | hp
        · obtain ⟨F119, y120, y121, t122, t123, t124, t125, t126, t127, t128, rfl, rfl⟩ := hp
          have hP : va_P D vwCl [(h_weight, .inl (cI, 12, .inl f_weight)), (h0, .inr (1, vL 18 Fh)), (h_manName, .inl (cJ, 12, .inr (.inl g44))), (h_runnerName, .inl (cJ, 6, .inr (.inl f_runnerName))), (h_push, .inl (cI, 12, .inl g85)), (p0, .inr (6, vL 12 F119)), (h_p0_bytes, .inl (cB, 940, .inl f_p0_bytes)), (h_p0_wordNames, .inl (cJ, 23, .inr (.inl f_p0_wordNames))), (h_feet, .inl (cI, 12, .inl f_feet))] H := hP
          have hD : va_D A [(h_weight, .inl (cI, 12, .inl f_weight)), (h0, .inr (1, vL 18 Fh)), (h_manName, .inl (cJ, 12, .inr (.inl g44))), (h_runnerName, .inl (cJ, 6, .inr (.inl f_runnerName))), (h_push, .inl (cI, 12, .inl g85)), (p0, .inr (6, vL 12 F119)), (h_p0_bytes, .inl (cB, 940, .inl f_p0_bytes)), (h_p0_wordNames, .inl (cJ, 23, .inr (.inl f_p0_wordNames))), (h_feet, .inl (cI, 12, .inl f_feet))] := hD
          refine W.widen (k := 0) (n := 0) (Nat.le_of_ble_eq_true rfl) (Nat.le_of_ble_eq_true rfl) ?_
          refine lv_if_eq (tgt := 95) hx hb dX1_readMan_68 (by decide) (fun _ => ?_) (fun g => absurd (by decide) g)
          refine lv_iconst (v := 0) hx hb dX1_readMan_95 (by decide) ?_
          refine lv_istore_n (lv' := [(2, .int 0), (0, .ref h0), (1, .ref p0)]) hx hb dX1_readMan_96 rfl hl (by decide) rfl (fun ls hl => ?_)
          refine lv_aload_n hx hb dX1_readMan_97 rfl (lv_at hl 1 rfl) ?_
          refine lv_dup hx hb dX1_readMan_98 rfl ?_
          refine get_f (D := D) (ci := 1) (v := .int x_men) (C := RX1) (T := TX1) (N := 18) hx hb hw inAX1 hown hK hP 1 rfl rfl 13 (by decide) (hw _ q_352) (fun _ h9 => h9) e_men dX1_readMan_99 ?_
          refine lv_iload_n hx hb dX1_readMan_102 rfl (lv_at hl 0 rfl) ?_
          refine lv_if_eq (tgt := 110) hx hb dX1_readMan_103 (by decide) (fun _ => ?_) (fun g => absurd (by decide) g)
          refine lv_iconst (v := 0) hx hb dX1_readMan_110 (by decide) ?_
          refine lv_iadd hx hb dX1_readMan_111 ?_
          refine lv_topi (fun v156 ev156 => ?_)
          have bv156 : v156.toInt = x_men.toInt + 0 := by rw [ev156]; exact add_k rfl rfl k2 ⟨Int.le_refl _, Int.le_refl _⟩ (by decide)
          have k157 : 0 ≤ v156.toInt ∧ v156.toInt ≤ 11 := add_r bv156 k2 ⟨Int.le_refl _, Int.le_refl _⟩ (by decide)
          refine put_f (D := D) (ci := 1) (v := .int v156) (ty := .int) (C := RX1) (T := TX1) (N := 18) hx hb hw inAX1 tyX1 tyX1_ok nmX1 hown hK hP hD hS 1 rfl rfl 13 (by decide) (hw _ q_352) (fun _ h9 => h9) rfl (by decide +kernel) rfl rfl dX1_readMan_112 (fun H locs F158 eF158 hP hD hS => ?_)
          have hP : va_P D vwCl [(h_weight, .inl (cI, 12, .inl f_weight)), (h0, .inr (1, vL 18 F158)), (h_manName, .inl (cJ, 12, .inr (.inl g44))), (h_runnerName, .inl (cJ, 6, .inr (.inl f_runnerName))), (h_push, .inl (cI, 12, .inl g85)), (p0, .inr (6, vL 12 F119)), (h_p0_bytes, .inl (cB, 940, .inl f_p0_bytes)), (h_p0_wordNames, .inl (cJ, 23, .inr (.inl f_p0_wordNames))), (h_feet, .inl (cI, 12, .inl f_feet))] H := hP
          have hD : va_D A [(h_weight, .inl (cI, 12, .inl f_weight)), (h0, .inr (1, vL 18 F158)), (h_manName, .inl (cJ, 12, .inr (.inl g44))), (h_runnerName, .inl (cJ, 6, .inr (.inl f_runnerName))), (h_push, .inl (cI, 12, .inl g85)), (p0, .inr (6, vL 12 F119)), (h_p0_bytes, .inl (cB, 940, .inl f_p0_bytes)), (h_p0_wordNames, .inl (cJ, 23, .inr (.inl f_p0_wordNames))), (h_feet, .inl (cI, 12, .inl f_feet))] := hD
          refine lv_iload_n hx hb dX1_readMan_115 rfl (lv_at hl 0 rfl) ?_
          exact ret_i (v := 0) hx hb hr hlocks hS (hP.sub (ws' := [(h0, .inr (1, vL 18 F158)), (h_manName, .inl (cJ, 12, .inr (.inl g44))), (h_push, .inl (cI, 12, .inl g85)), (h_feet, .inl (cI, 12, .inl f_feet)), (h_weight, .inl (cI, 12, .inl f_weight)), (h_runnerName, .inl (cJ, 6, .inr (.inl f_runnerName))), (p0, .inr (6, vL 12 F119)), (h_p0_bytes, .inl (cB, 940, .inl f_p0_bytes)), (h_p0_wordNames, .inl (cJ, 23, .inr (.inl f_p0_wordNames)))]) [1, 2, 4, 8, 0, 3, 5, 6, 7] rfl) (hD.sub (ws' := [(h0, .inr (1, vL 18 F158)), (h_manName, .inl (cJ, 12, .inr (.inl g44))), (h_push, .inl (cI, 12, .inl g85)), (h_feet, .inl (cI, 12, .inl f_feet)), (h_weight, .inl (cI, 12, .inl f_weight)), (h_runnerName, .inl (cJ, 6, .inr (.inl f_runnerName))), (p0, .inr (6, vL 12 F119)), (h_p0_bytes, .inl (cB, 940, .inl f_p0_bytes)), (h_p0_wordNames, .inl (cJ, 23, .inr (.inl f_p0_wordNames)))]) [1, 2, 4, 8, 0, 3, 5, 6, 7] (by decide) rfl) dX1_readMan_116 rfl (Nat.le_of_ble_eq_true rfl) (Nat.le_of_ble_eq_true rfl) (Or.inl ⟨F158, v156, F119, y80, y81, y82, y83, y120, y121, y84, g44, g85, f_feet, (SAME.up eF158 SAME.rf (by decide)), (get_eq eF158), (ir_wk k157 (by decide) (by decide)), (SAME.tr (SAME.tr (SAME.tr (SAME.tr SAME.rf t10 (by decide)) t45 (by decide)) t86 (by decide)) t122 (by decide)), (SAME.at t122 (by decide) t87), (SAME.at t122 (by decide) t89), (SAME.at t122 (by decide) t91), (SAME.at t122 (by decide) t92), t123, (ir_wk t124 (by decide) (by decide)), t125, (SAME.at t122 (by decide) t93), t94, (fun tl yd b => cMan_2 (show ¬ 12 ≤ (nmL f_manName x_men.toInt).length by rw [nmL_len]; omega) (at_tk t19 (by omega)) t54 t101 t128), rfl, rfl⟩)
        · refine hp.elim (fun F129 h9z0 => h9z0.elim (fun y130 h9z1 => h9z1.elim (fun y131 h9z2 => h9z2.elim (fun y132 h9z3 => h9z3.elim (fun y133 h9z4 => h9z4.elim (fun y134 h9z5 => h9z5.elim (fun g135 h9z6 => h9z6.elim (fun t136 h9z7 => h9z7.elim (fun t137 h9z8 => h9z8.elim (fun t138 h9z9 => h9z9.elim (fun t139 h9z10 => h9z10.elim (fun t140 h9z11 => h9z11.elim (fun t141 h9z12 => h9z12.elim (fun t142 h9z13 => h9z13.elim (fun t143 h9z14 => h9z14.elim (fun t144 h9z15 => h9z15.elim (fun t145 h9z16 => h9z16.elim (fun t146 h9z17 => h9z17.elim (fun t147 h9z18 => h9z18.elim (fun t148 h9z19 => h9z19.elim (fun t149 h9z20 => h9z20.elim (fun t150 h9z21 => h9z21.elim (fun t151 h9z22 => h9z22.elim (fun t152 h9z23 => h9z23.elim (fun t153 h9z24 => h9z24.elim (fun t154 h9z25 => h9z25.elim (fun heq926 h9z26 => ?_)))))))))))))))))))))))))))
          clear h9z0 h9z1 h9z2 h9z3 h9z4 h9z5 h9z6 h9z7 h9z8 h9z9 h9z10 h9z11 h9z12 h9z13 h9z14 h9z15 h9z16 h9z17 h9z18 h9z19 h9z20 h9z21 h9z22 h9z23 h9z24 h9z25
          subst heq926
          subst h9z26
          have hP : va_P D vwCl [(h_weight, .inl (cI, 12, .inl f_weight)), (h0, .inr (1, vL 18 Fh)), (h_manName, .inl (cJ, 12, .inr (.inl g44))), (h_runnerName, .inl (cJ, 6, .inr (.inl f_runnerName))), (h_push, .inl (cI, 12, .inl g85)), (p0, .inr (6, vL 12 F129)), (h_p0_bytes, .inl (cB, 940, .inl f_p0_bytes)), (h_p0_wordNames, .inl (cJ, 23, .inr (.inl f_p0_wordNames))), (h_feet, .inl (cI, 12, .inl g135))] H := hP
          have hD : va_D A [(h_weight, .inl (cI, 12, .inl f_weight)), (h0, .inr (1, vL 18 Fh)), (h_manName, .inl (cJ, 12, .inr (.inl g44))), (h_runnerName, .inl (cJ, 6, .inr (.inl f_runnerName))), (h_push, .inl (cI, 12, .inl g85)), (p0, .inr (6, vL 12 F129)), (h_p0_bytes, .inl (cB, 940, .inl f_p0_bytes)), (h_p0_wordNames, .inl (cJ, 23, .inr (.inl f_p0_wordNames))), (h_feet, .inl (cI, 12, .inl g135))] := hD
          refine W.widen (k := 0) (n := 0) (Nat.le_of_ble_eq_true rfl) (Nat.le_of_ble_eq_true rfl) ?_
          have k159 : 3 ≤ y80.toInt ∧ y80.toInt ≤ 3 := ⟨Int.le_trans (Int.le_refl _) (Int.le_of_eq t147.symm), Int.le_trans (Int.le_of_eq t147) (Int.le_refl _)⟩
          have k160 : 1 ≤ y82.toInt ∧ y82.toInt ≤ 2147483647 := ⟨Int.le_trans (Int.le_refl _) t148, (ir_any _).2⟩
          have k161 : 1 ≤ y82.toInt ∧ y82.toInt ≤ 9 := ⟨k160.1, Int.le_trans t149 (Int.le_refl _)⟩
          refine lv_if_eq (tgt := 95) hx hb dX1_readMan_68 (by decide) (fun g => absurd g (by decide)) (fun _ => ?_)
          refine lv_aload_n hx hb dX1_readMan_71 rfl (lv_at hl 1 rfl) ?_
          refine lv_aload_n hx hb dX1_readMan_72 rfl (lv_at hl 0 rfl) ?_
          refine get_f (D := D) (ci := 1) (v := .ref h_weight) (C := RX1) (T := TX1) (N := 18) hx hb hw inAX1 hown hK hP 1 rfl rfl 5 (by decide) (hw _ q_331) (fun _ h9 => h9) e_weight dX1_readMan_73 ?_
          refine lv_aload_n hx hb dX1_readMan_76 rfl (lv_at hl 0 rfl) ?_
          refine get_f (D := D) (ci := 1) (v := .int x_men) (C := RX1) (T := TX1) (N := 18) hx hb hw inAX1 hown hK hP 1 rfl rfl 13 (by decide) (hw _ q_352) (fun _ h9 => h9) e_men dX1_readMan_77 ?_
          refine lv_bipush (v := 50) hx hb dX1_readMan_80 (by decide) ?_
          refine lv_sipush (v := 150) hx hb dX1_readMan_82 (by decide) ?_
          have n162 : F129 0 = .ref h_p0_bytes := (SAME.at t136 (by decide) n112)
          have n163 : F129 1 = .int x_p0_length := (SAME.at t136 (by decide) n113)
          have n164 : F129 7 = .int x_p0_faultKind := (SAME.at t136 (by decide) n114)
          have n165 : F129 8 = .int x_p0_faultPlace := (SAME.at t136 (by decide) n115)
          have n166 : F129 9 = .ref h_p0_wordNames := (SAME.at t136 (by decide) n116)
          have n167 : F129 11 = .int x_p0_mostBytes := (SAME.at t136 (by decide) n117)
          refine call_Vi (wr := [(h0, .inr (1, vL 18 Fh)), (h_manName, .inl (cJ, 12, .inr (.inl g44))), (h_runnerName, .inl (cJ, 6, .inr (.inl f_runnerName))), (h_push, .inl (cI, 12, .inl g85)), (h_feet, .inl (cI, 12, .inl g135))]) (As := [.ref h_weight, .int x_men, .int 50, .int 150]) (rest := []) hx hb hml hown hw (m_X6_takeInto_12 l D cI cJ cB cP cM cZ p0 h_p0_bytes h_p0_wordNames h_weight F129 x_p0_length y130 y131 y132 y133 x_p0_faultKind x_p0_faultPlace y134 x_p0_mostBytes f_p0_bytes f_p0_wordNames f_weight x_men 50 150 _ n162 n163 i_x_p0_length t137 t139 t141 t142 n164 n165 n166 t143 t144 n167 s_p0_bytes_0 s_p0_wordNames_KN k2) wV_X1_140_X6_takeInto dX1_readMan_85 hK hP hD hS hA [5, 6, 7, 0] [1, 2, 3, 4, 8] rfl rfl (by decide) (by decide) (by decide) 0 6 rfl rfl GG.fb hG.at hl.1 rfl (Nat.le_of_ble_eq_true rfl) ⟨(Nat.le_of_ble_eq_true rfl), (Nat.le_of_ble_eq_true rfl)⟩ ⟨(Nat.le_of_ble_eq_true rfl), (Nat.le_of_ble_eq_true rfl)⟩ (fun r168 u H locs hp hP hD hS => ?_)
          have zl50 : (50 : Int32).toInt = 50 := by decide
          have zl150 : (150 : Int32).toInt = 150 := by decide
          rcases hp with hp | hp
          · obtain ⟨F169, y170, y171, t172, t173, t174, t175, t176, t177, t178, rfl, rfl⟩ := hp
            have hP : va_P D vwCl [(h0, .inr (1, vL 18 Fh)), (h_manName, .inl (cJ, 12, .inr (.inl g44))), (h_runnerName, .inl (cJ, 6, .inr (.inl f_runnerName))), (h_push, .inl (cI, 12, .inl g85)), (h_feet, .inl (cI, 12, .inl g135)), (p0, .inr (6, vL 12 F169)), (h_p0_bytes, .inl (cB, 940, .inl f_p0_bytes)), (h_p0_wordNames, .inl (cJ, 23, .inr (.inl f_p0_wordNames))), (h_weight, .inl (cI, 12, .inl f_weight))] H := hP
            have hD : va_D A [(h0, .inr (1, vL 18 Fh)), (h_manName, .inl (cJ, 12, .inr (.inl g44))), (h_runnerName, .inl (cJ, 6, .inr (.inl f_runnerName))), (h_push, .inl (cI, 12, .inl g85)), (h_feet, .inl (cI, 12, .inl g135)), (p0, .inr (6, vL 12 F169)), (h_p0_bytes, .inl (cB, 940, .inl f_p0_bytes)), (h_p0_wordNames, .inl (cJ, 23, .inr (.inl f_p0_wordNames))), (h_weight, .inl (cI, 12, .inl f_weight))] := hD
            refine W.widen (k := 0) (n := 0) (Nat.le_of_ble_eq_true rfl) (Nat.le_of_ble_eq_true rfl) ?_
            refine lv_if_eq (tgt := 95) hx hb dX1_readMan_88 (by decide) (fun _ => ?_) (fun g => absurd (by decide) g)
            refine lv_iconst (v := 0) hx hb dX1_readMan_95 (by decide) ?_
            refine lv_istore_n (lv' := [(2, .int 0), (0, .ref h0), (1, .ref p0)]) hx hb dX1_readMan_96 rfl hl (by decide) rfl (fun ls hl => ?_)
            refine lv_aload_n hx hb dX1_readMan_97 rfl (lv_at hl 1 rfl) ?_
            refine lv_dup hx hb dX1_readMan_98 rfl ?_
            refine get_f (D := D) (ci := 1) (v := .int x_men) (C := RX1) (T := TX1) (N := 18) hx hb hw inAX1 hown hK hP 0 rfl rfl 13 (by decide) (hw _ q_352) (fun _ h9 => h9) e_men dX1_readMan_99 ?_
            refine lv_iload_n hx hb dX1_readMan_102 rfl (lv_at hl 0 rfl) ?_
            refine lv_if_eq (tgt := 110) hx hb dX1_readMan_103 (by decide) (fun _ => ?_) (fun g => absurd (by decide) g)
            refine lv_iconst (v := 0) hx hb dX1_readMan_110 (by decide) ?_
            refine lv_iadd hx hb dX1_readMan_111 ?_
            refine lv_topi (fun v206 ev206 => ?_)
            have bv206 : v206.toInt = x_men.toInt + 0 := by rw [ev206]; exact add_k rfl rfl k2 ⟨Int.le_refl _, Int.le_refl _⟩ (by decide)
            have k207 : 0 ≤ v206.toInt ∧ v206.toInt ≤ 11 := add_r bv206 k2 ⟨Int.le_refl _, Int.le_refl _⟩ (by decide)
            refine put_f (D := D) (ci := 1) (v := .int v206) (ty := .int) (C := RX1) (T := TX1) (N := 18) hx hb hw inAX1 tyX1 tyX1_ok nmX1 hown hK hP hD hS 0 rfl rfl 13 (by decide) (hw _ q_352) (fun _ h9 => h9) rfl (by decide +kernel) rfl rfl dX1_readMan_112 (fun H locs F208 eF208 hP hD hS => ?_)
            have hP : va_P D vwCl [(h0, .inr (1, vL 18 F208)), (h_manName, .inl (cJ, 12, .inr (.inl g44))), (h_runnerName, .inl (cJ, 6, .inr (.inl f_runnerName))), (h_push, .inl (cI, 12, .inl g85)), (h_feet, .inl (cI, 12, .inl g135)), (p0, .inr (6, vL 12 F169)), (h_p0_bytes, .inl (cB, 940, .inl f_p0_bytes)), (h_p0_wordNames, .inl (cJ, 23, .inr (.inl f_p0_wordNames))), (h_weight, .inl (cI, 12, .inl f_weight))] H := hP
            have hD : va_D A [(h0, .inr (1, vL 18 F208)), (h_manName, .inl (cJ, 12, .inr (.inl g44))), (h_runnerName, .inl (cJ, 6, .inr (.inl f_runnerName))), (h_push, .inl (cI, 12, .inl g85)), (h_feet, .inl (cI, 12, .inl g135)), (p0, .inr (6, vL 12 F169)), (h_p0_bytes, .inl (cB, 940, .inl f_p0_bytes)), (h_p0_wordNames, .inl (cJ, 23, .inr (.inl f_p0_wordNames))), (h_weight, .inl (cI, 12, .inl f_weight))] := hD
            refine lv_iload_n hx hb dX1_readMan_115 rfl (lv_at hl 0 rfl) ?_
            exact ret_i (v := 0) hx hb hr hlocks hS (hP.sub (ws' := [(h0, .inr (1, vL 18 F208)), (h_manName, .inl (cJ, 12, .inr (.inl g44))), (h_push, .inl (cI, 12, .inl g85)), (h_feet, .inl (cI, 12, .inl g135)), (h_weight, .inl (cI, 12, .inl f_weight)), (h_runnerName, .inl (cJ, 6, .inr (.inl f_runnerName))), (p0, .inr (6, vL 12 F169)), (h_p0_bytes, .inl (cB, 940, .inl f_p0_bytes)), (h_p0_wordNames, .inl (cJ, 23, .inr (.inl f_p0_wordNames)))]) [0, 1, 3, 4, 8, 2, 5, 6, 7] rfl) (hD.sub (ws' := [(h0, .inr (1, vL 18 F208)), (h_manName, .inl (cJ, 12, .inr (.inl g44))), (h_push, .inl (cI, 12, .inl g85)), (h_feet, .inl (cI, 12, .inl g135)), (h_weight, .inl (cI, 12, .inl f_weight)), (h_runnerName, .inl (cJ, 6, .inr (.inl f_runnerName))), (p0, .inr (6, vL 12 F169)), (h_p0_bytes, .inl (cB, 940, .inl f_p0_bytes)), (h_p0_wordNames, .inl (cJ, 23, .inr (.inl f_p0_wordNames)))]) [0, 1, 3, 4, 8, 2, 5, 6, 7] (by decide) rfl) dX1_readMan_116 rfl (Nat.le_of_ble_eq_true rfl) (Nat.le_of_ble_eq_true rfl) (Or.inl ⟨F208, v206, F169, y130, y131, y132, y133, y170, y171, y134, g44, g85, g135, (SAME.up eF208 SAME.rf (by decide)), (get_eq eF208), (ir_wk k207 (by decide) (by decide)), (SAME.tr (SAME.tr (SAME.tr (SAME.tr (SAME.tr SAME.rf t10 (by decide)) t45 (by decide)) t86 (by decide)) t136 (by decide)) t172 (by decide)), (SAME.at t172 (by decide) t137), (SAME.at t172 (by decide) t139), (SAME.at t172 (by decide) t141), (SAME.at t172 (by decide) t142), t173, (ir_wk t174 (by decide) (by decide)), t175, (SAME.at t172 (by decide) t143), t144, (fun tl yd b => cMan_3 (show ¬ 12 ≤ (nmL f_manName x_men.toInt).length by rw [nmL_len]; omega) (at_tk t19 (by omega)) t54 t101 t151 t178), rfl, rfl⟩)
          · refine hp.elim (fun F179 h9z0 => h9z0.elim (fun y180 h9z1 => h9z1.elim (fun y181 h9z2 => h9z2.elim (fun y182 h9z3 => h9z3.elim (fun y183 h9z4 => h9z4.elim (fun y184 h9z5 => h9z5.elim (fun g185 h9z6 => h9z6.elim (fun t186 h9z7 => h9z7.elim (fun t187 h9z8 => h9z8.elim (fun t188 h9z9 => h9z9.elim (fun t189 h9z10 => h9z10.elim (fun t190 h9z11 => h9z11.elim (fun t191 h9z12 => h9z12.elim (fun t192 h9z13 => h9z13.elim (fun t193 h9z14 => h9z14.elim (fun t194 h9z15 => h9z15.elim (fun t195 h9z16 => h9z16.elim (fun t196 h9z17 => h9z17.elim (fun t197 h9z18 => h9z18.elim (fun t198 h9z19 => h9z19.elim (fun t199 h9z20 => h9z20.elim (fun t200 h9z21 => h9z21.elim (fun t201 h9z22 => h9z22.elim (fun t202 h9z23 => h9z23.elim (fun t203 h9z24 => h9z24.elim (fun t204 h9z25 => h9z25.elim (fun heq926 h9z26 => ?_)))))))))))))))))))))))))))
            clear h9z0 h9z1 h9z2 h9z3 h9z4 h9z5 h9z6 h9z7 h9z8 h9z9 h9z10 h9z11 h9z12 h9z13 h9z14 h9z15 h9z16 h9z17 h9z18 h9z19 h9z20 h9z21 h9z22 h9z23 h9z24 h9z25
            subst heq926
            subst h9z26
            have hP : va_P D vwCl [(h0, .inr (1, vL 18 Fh)), (h_manName, .inl (cJ, 12, .inr (.inl g44))), (h_runnerName, .inl (cJ, 6, .inr (.inl f_runnerName))), (h_push, .inl (cI, 12, .inl g85)), (h_feet, .inl (cI, 12, .inl g135)), (p0, .inr (6, vL 12 F179)), (h_p0_bytes, .inl (cB, 940, .inl f_p0_bytes)), (h_p0_wordNames, .inl (cJ, 23, .inr (.inl f_p0_wordNames))), (h_weight, .inl (cI, 12, .inl g185))] H := hP
            have hD : va_D A [(h0, .inr (1, vL 18 Fh)), (h_manName, .inl (cJ, 12, .inr (.inl g44))), (h_runnerName, .inl (cJ, 6, .inr (.inl f_runnerName))), (h_push, .inl (cI, 12, .inl g85)), (h_feet, .inl (cI, 12, .inl g135)), (p0, .inr (6, vL 12 F179)), (h_p0_bytes, .inl (cB, 940, .inl f_p0_bytes)), (h_p0_wordNames, .inl (cJ, 23, .inr (.inl f_p0_wordNames))), (h_weight, .inl (cI, 12, .inl g185))] := hD
            refine W.widen (k := 0) (n := 0) (Nat.le_of_ble_eq_true rfl) (Nat.le_of_ble_eq_true rfl) ?_
            have k209 : 3 ≤ y130.toInt ∧ y130.toInt ≤ 3 := ⟨Int.le_trans (Int.le_refl _) (Int.le_of_eq t197.symm), Int.le_trans (Int.le_of_eq t197) (Int.le_refl _)⟩
            have k210 : 50 ≤ y132.toInt ∧ y132.toInt ≤ 2147483647 := ⟨Int.le_trans (Int.le_refl _) t198, (ir_any _).2⟩
            have k211 : 50 ≤ y132.toInt ∧ y132.toInt ≤ 150 := ⟨k210.1, Int.le_trans t199 (Int.le_refl _)⟩
            refine lv_if_eq (tgt := 95) hx hb dX1_readMan_88 (by decide) (fun g => absurd g (by decide)) (fun _ => ?_)
            refine lv_iconst (v := 1) hx hb dX1_readMan_91 (by decide) ?_
            refine lv_goto (tgt := 96) hx hb dX1_readMan_92 (by decide) ?_
            refine lv_istore_n (lv' := [(2, .int 1), (0, .ref h0), (1, .ref p0)]) hx hb dX1_readMan_96 rfl hl (by decide) rfl (fun ls hl => ?_)
            refine lv_aload_n hx hb dX1_readMan_97 rfl (lv_at hl 1 rfl) ?_
            refine lv_dup hx hb dX1_readMan_98 rfl ?_
            refine get_f (D := D) (ci := 1) (v := .int x_men) (C := RX1) (T := TX1) (N := 18) hx hb hw inAX1 hown hK hP 0 rfl rfl 13 (by decide) (hw _ q_352) (fun _ h9 => h9) e_men dX1_readMan_99 ?_
            refine lv_iload_n hx hb dX1_readMan_102 rfl (lv_at hl 0 rfl) ?_
            refine lv_if_eq (tgt := 110) hx hb dX1_readMan_103 (by decide) (fun g => absurd g (by decide)) (fun _ => ?_)
            refine lv_iconst (v := 1) hx hb dX1_readMan_106 (by decide) ?_
            refine lv_goto (tgt := 111) hx hb dX1_readMan_107 (by decide) ?_
            refine lv_iadd hx hb dX1_readMan_111 ?_
            refine lv_topi (fun v212 ev212 => ?_)
            have bv212 : v212.toInt = x_men.toInt + 1 := by rw [ev212]; exact add_k rfl rfl k2 ⟨Int.le_refl _, Int.le_refl _⟩ (by decide)
            have k213 : 1 ≤ v212.toInt ∧ v212.toInt ≤ 12 := add_r bv212 k2 ⟨Int.le_refl _, Int.le_refl _⟩ (by decide)
            refine put_f (D := D) (ci := 1) (v := .int v212) (ty := .int) (C := RX1) (T := TX1) (N := 18) hx hb hw inAX1 tyX1 tyX1_ok nmX1 hown hK hP hD hS 0 rfl rfl 13 (by decide) (hw _ q_352) (fun _ h9 => h9) rfl (by decide +kernel) rfl rfl dX1_readMan_112 (fun H locs F214 eF214 hP hD hS => ?_)
            have hP : va_P D vwCl [(h0, .inr (1, vL 18 F214)), (h_manName, .inl (cJ, 12, .inr (.inl g44))), (h_runnerName, .inl (cJ, 6, .inr (.inl f_runnerName))), (h_push, .inl (cI, 12, .inl g85)), (h_feet, .inl (cI, 12, .inl g135)), (p0, .inr (6, vL 12 F179)), (h_p0_bytes, .inl (cB, 940, .inl f_p0_bytes)), (h_p0_wordNames, .inl (cJ, 23, .inr (.inl f_p0_wordNames))), (h_weight, .inl (cI, 12, .inl g185))] H := hP
            have hD : va_D A [(h0, .inr (1, vL 18 F214)), (h_manName, .inl (cJ, 12, .inr (.inl g44))), (h_runnerName, .inl (cJ, 6, .inr (.inl f_runnerName))), (h_push, .inl (cI, 12, .inl g85)), (h_feet, .inl (cI, 12, .inl g135)), (p0, .inr (6, vL 12 F179)), (h_p0_bytes, .inl (cB, 940, .inl f_p0_bytes)), (h_p0_wordNames, .inl (cJ, 23, .inr (.inl f_p0_wordNames))), (h_weight, .inl (cI, 12, .inl g185))] := hD
            refine lv_iload_n hx hb dX1_readMan_115 rfl (lv_at hl 0 rfl) ?_
            exact ret_i (v := 1) hx hb hr hlocks hS (hP.sub (ws' := [(h0, .inr (1, vL 18 F214)), (h_manName, .inl (cJ, 12, .inr (.inl g44))), (h_push, .inl (cI, 12, .inl g85)), (h_feet, .inl (cI, 12, .inl g135)), (h_weight, .inl (cI, 12, .inl g185)), (h_runnerName, .inl (cJ, 6, .inr (.inl f_runnerName))), (p0, .inr (6, vL 12 F179)), (h_p0_bytes, .inl (cB, 940, .inl f_p0_bytes)), (h_p0_wordNames, .inl (cJ, 23, .inr (.inl f_p0_wordNames)))]) [0, 1, 3, 4, 8, 2, 5, 6, 7] rfl) (hD.sub (ws' := [(h0, .inr (1, vL 18 F214)), (h_manName, .inl (cJ, 12, .inr (.inl g44))), (h_push, .inl (cI, 12, .inl g85)), (h_feet, .inl (cI, 12, .inl g135)), (h_weight, .inl (cI, 12, .inl g185)), (h_runnerName, .inl (cJ, 6, .inr (.inl f_runnerName))), (p0, .inr (6, vL 12 F179)), (h_p0_bytes, .inl (cB, 940, .inl f_p0_bytes)), (h_p0_wordNames, .inl (cJ, 23, .inr (.inl f_p0_wordNames)))]) [0, 1, 3, 4, 8, 2, 5, 6, 7] (by decide) rfl) dX1_readMan_116 rfl (Nat.le_of_ble_eq_true rfl) (Nat.le_of_ble_eq_true rfl) (Or.inr ⟨F214, v212, F179, y180, y181, y182, y183, y184, g44, g85, g135, g185, (SAME.up eF214 SAME.rf (by decide)), (get_eq eF214), k213, (SAME.tr (SAME.tr (SAME.tr (SAME.tr (SAME.tr SAME.rf t10 (by decide)) t45 (by decide)) t86 (by decide)) t136 (by decide)) t186 (by decide)), t187, t188, t189, t190, t191, t192, t193, t194, dc1, t95, (fun tl yd b => cMan_o (show ¬ 12 ≤ (nmL f_manName x_men.toInt).length by rw [nmL_len]; omega) (at_tk t19 (by omega)) t54 t101 t151 t201 (man_l t55 rfl (by omega) (by omega) (tkC_nm t56))), t203, rfl, rfl⟩)
  · have dc1 : 12 ≤ x_men.toInt := nlt_i (a := x_men.toInt) (b := 12) rfl rfl c1
    have k215 : 12 ≤ x_men.toInt ∧ x_men.toInt ≤ 12 := ⟨Int.le_trans (Int.le_refl _) dc1, i_x_men.2⟩
    refine lv_aload_n hx hb dX1_readMan_9 rfl (lv_at hl 1 rfl) ?_
    refine lv_iconst (v := 4) hx hb dX1_readMan_10 (by decide) ?_
    refine call_Vi (wr := [(h0, .inr (1, vL 18 Fh)), (h_manName, .inl (cJ, 12, .inr (.inl f_manName))), (h_push, .inl (cI, 12, .inl f_push)), (h_feet, .inl (cI, 12, .inl f_feet)), (h_weight, .inl (cI, 12, .inl f_weight)), (h_runnerName, .inl (cJ, 6, .inr (.inl f_runnerName))), (h_p0_bytes, .inl (cB, 940, .inl f_p0_bytes)), (h_p0_wordNames, .inl (cJ, 23, .inr (.inl f_p0_wordNames)))]) (As := [.int 4]) (rest := []) hx hb hml hown hw (m_X6_fail l D cI cJ cB cP cM cZ p0 F_p0_ x_p0_place 4 _ e_p0_place) wV_X1_128_X6_fail dX1_readMan_11 hK hP hD hS hA [6] [0, 1, 2, 3, 4, 5, 7, 8] rfl rfl (by decide) (by decide) (by decide) 0 6 rfl rfl GG.fb hG.at hl.1 rfl (Nat.le_of_ble_eq_true rfl) ⟨(Nat.le_of_ble_eq_true rfl), (Nat.le_of_ble_eq_true rfl)⟩ ⟨(Nat.le_of_ble_eq_true rfl), (Nat.le_of_ble_eq_true rfl)⟩ (fun r216 u H locs hp hP hD hS => ?_)
    have zl4 : (4 : Int32).toInt = 4 := by decide
    obtain ⟨F217, t218, t219, t220, rfl, rfl⟩ := hp
    have hP : va_P D vwCl [(h0, .inr (1, vL 18 Fh)), (h_manName, .inl (cJ, 12, .inr (.inl f_manName))), (h_push, .inl (cI, 12, .inl f_push)), (h_feet, .inl (cI, 12, .inl f_feet)), (h_weight, .inl (cI, 12, .inl f_weight)), (h_runnerName, .inl (cJ, 6, .inr (.inl f_runnerName))), (h_p0_bytes, .inl (cB, 940, .inl f_p0_bytes)), (h_p0_wordNames, .inl (cJ, 23, .inr (.inl f_p0_wordNames))), (p0, .inr (6, vL 12 F217))] H := hP
    have hD : va_D A [(h0, .inr (1, vL 18 Fh)), (h_manName, .inl (cJ, 12, .inr (.inl f_manName))), (h_push, .inl (cI, 12, .inl f_push)), (h_feet, .inl (cI, 12, .inl f_feet)), (h_weight, .inl (cI, 12, .inl f_weight)), (h_runnerName, .inl (cJ, 6, .inr (.inl f_runnerName))), (h_p0_bytes, .inl (cB, 940, .inl f_p0_bytes)), (h_p0_wordNames, .inl (cJ, 23, .inr (.inl f_p0_wordNames))), (p0, .inr (6, vL 12 F217))] := hD
    refine W.widen (k := 0) (n := 0) (Nat.le_of_ble_eq_true rfl) (Nat.le_of_ble_eq_true rfl) ?_
    exact ret_i (v := 0) hx hb hr hlocks hS (hP.sub (ws' := [(h0, .inr (1, vL 18 Fh)), (h_manName, .inl (cJ, 12, .inr (.inl f_manName))), (h_push, .inl (cI, 12, .inl f_push)), (h_feet, .inl (cI, 12, .inl f_feet)), (h_weight, .inl (cI, 12, .inl f_weight)), (h_runnerName, .inl (cJ, 6, .inr (.inl f_runnerName))), (p0, .inr (6, vL 12 F217)), (h_p0_bytes, .inl (cB, 940, .inl f_p0_bytes)), (h_p0_wordNames, .inl (cJ, 23, .inr (.inl f_p0_wordNames)))]) [0, 1, 2, 3, 4, 5, 8, 6, 7] rfl) (hD.sub (ws' := [(h0, .inr (1, vL 18 Fh)), (h_manName, .inl (cJ, 12, .inr (.inl f_manName))), (h_push, .inl (cI, 12, .inl f_push)), (h_feet, .inl (cI, 12, .inl f_feet)), (h_weight, .inl (cI, 12, .inl f_weight)), (h_runnerName, .inl (cJ, 6, .inr (.inl f_runnerName))), (p0, .inr (6, vL 12 F217)), (h_p0_bytes, .inl (cB, 940, .inl f_p0_bytes)), (h_p0_wordNames, .inl (cJ, 23, .inr (.inl f_p0_wordNames)))]) [0, 1, 2, 3, 4, 5, 8, 6, 7] (by decide) rfl) dX1_readMan_14 rfl (Nat.le_of_ble_eq_true rfl) (Nat.le_of_ble_eq_true rfl) (Or.inl ⟨Fh, x_men, F217, x_p0_kind, x_p0_place, x_p0_value, x_p0_name, 4, x_p0_place, x_p0_at, f_manName, f_push, f_feet, SAME.rf, e_men, (ir_wk k215 (by decide) (by decide)), (SAME.tr SAME.rf t218 (by decide)), (SAME.at t218 (by decide) e_p0_kind), (SAME.at t218 (by decide) e_p0_place), (SAME.at t218 (by decide) e_p0_value), (SAME.at t218 (by decide) e_p0_name), t219, (show 1 ≤ (4 : Int32).toInt ∧ (4 : Int32).toInt ≤ 4 by decide), t220, (SAME.at t218 (by decide) e_p0_at), i_x_p0_at, (fun tl yd b => inl_eq (cMan_m (show 12 ≤ (nmL f_manName x_men.toInt).length by rw [nmL_len]; omega)) (by decide) tkC_pl.symm), rfl, rfl⟩)
set_option maxHeartbeats 4000000 in
set_option maxRecDepth 100000 in
theorem m_X1_readBend (l : Launch) (D : va_G) (cI cJ cB cP cM cZ : ClassId) (h0 : Nat) (h_length : Nat) (h_drop : Nat) (h_ideal : Nat) (h_over : Nat) (p0 : Nat) (h_p0_bytes : Nat) (h_p0_wordNames : Nat) (Fh : Nat → Value) (x_bends : Int32) (f_length : Nat → Int32) (f_drop : Nat → Int32) (f_ideal : Nat → Int32) (f_over : Nat → Int32) (F_p0_ : Nat → Value) (x_p0_length : Int32) (x_p0_kind : Int32) (x_p0_place : Int32) (x_p0_value : Int32) (x_p0_name : Int64) (x_p0_faultKind : Int32) (x_p0_faultPlace : Int32) (x_p0_at : Int32) (x_p0_mostBytes : Int32) (f_p0_bytes : Nat → Int32) (f_p0_wordNames : Nat → Int64) (sz : Nat) (e_length : Fh 6 = .ref h_length) (e_drop : Fh 7 = .ref h_drop) (e_ideal : Fh 8 = .ref h_ideal) (e_over : Fh 9 = .ref h_over) (e_bends : Fh 14 = .int x_bends) (i_x_bends : IR 0 12 x_bends) (e_p0_bytes : F_p0_ 0 = .ref h_p0_bytes) (e_p0_length : F_p0_ 1 = .int x_p0_length) (i_x_p0_length : IR 0 940 x_p0_length) (e_p0_kind : F_p0_ 2 = .int x_p0_kind) (e_p0_place : F_p0_ 3 = .int x_p0_place) (e_p0_value : F_p0_ 4 = .int x_p0_value) (e_p0_name : F_p0_ 5 = .long x_p0_name) (e_p0_faultKind : F_p0_ 7 = .int x_p0_faultKind) (e_p0_faultPlace : F_p0_ 8 = .int x_p0_faultPlace) (e_p0_wordNames : F_p0_ 9 = .ref h_p0_wordNames) (e_p0_at : F_p0_ 10 = .int x_p0_at) (i_x_p0_at : IR 0 940 x_p0_at) (e_p0_mostBytes : F_p0_ 11 = .int x_p0_mostBytes) (s_p0_bytes_0 : SG 0 939 (-128) 127 f_p0_bytes) (s_p0_wordNames_KN : KWN f_p0_wordNames) (z_0 : (x_p0_kind.toInt = 2 → x_p0_value.toInt = wix x_p0_name.toInt)) (z_1 : x_p0_kind.toInt = 2) : CI l yX1_readBend cX1_readBend 3 (some .boolean) { frames := 3, cells := 0, slots := 0, locals := 67 } (GG D cI cJ cB cP cM cZ) D [(h0, .inr (1, vL 18 Fh)), (h_length, .inl (cI, 12, .inl f_length)), (h_drop, .inl (cI, 12, .inl f_drop)), (h_ideal, .inl (cI, 12, .inl f_ideal)), (h_over, .inl (cI, 12, .inl f_over)), (p0, .inr (6, vL 12 F_p0_)), (h_p0_bytes, .inl (cB, 940, .inl f_p0_bytes)), (h_p0_wordNames, .inl (cJ, 23, .inr (.inl f_p0_wordNames)))] sz [.ref h0, .ref p0] (fun (r : Int32) (u : va_W) => (∃ (Gh : Nat → Value) (y_bends : Int32) (G_p0_ : Nat → Value) (y_p0_kind : Int32) (y_p0_place : Int32) (y_p0_value : Int32) (y_p0_name : Int64) (y_p0_faultKind : Int32) (y_p0_faultPlace : Int32) (y_p0_at : Int32) (g_length : Nat → Int32) (g_drop : Nat → Int32) (g_ideal : Nat → Int32), SAME [14] Fh Gh ∧ Gh 14 = .int y_bends ∧ IR 0 12 y_bends ∧ SAME [2, 3, 4, 5, 7, 8, 10] F_p0_ G_p0_ ∧ G_p0_ 2 = .int y_p0_kind ∧ G_p0_ 3 = .int y_p0_place ∧ G_p0_ 4 = .int y_p0_value ∧ G_p0_ 5 = .long y_p0_name ∧ G_p0_ 7 = .int y_p0_faultKind ∧ IR 1 4 y_p0_faultKind ∧ G_p0_ 8 = .int y_p0_faultPlace ∧ G_p0_ 10 = .int y_p0_at ∧ IR 0 940 y_p0_at ∧ (∀ (tl : Int32) (yd : Int) (ms rs : List Int), cBend (tkA f_p0_bytes x_p0_length.toInt x_p0_mostBytes.toInt) (tkC x_p0_kind x_p0_place x_p0_value x_p0_name x_p0_at) (tl, yd, ms, x_bends.toInt, rs) = .inl (y_p0_faultKind.toInt, y_p0_faultPlace.toInt)) ∧ r = 0 ∧ u = [(h0, .inr (1, vL 18 Gh)), (h_length, .inl (cI, 12, .inl g_length)), (h_drop, .inl (cI, 12, .inl g_drop)), (h_ideal, .inl (cI, 12, .inl g_ideal)), (h_over, .inl (cI, 12, .inl f_over)), (p0, .inr (6, vL 12 G_p0_)), (h_p0_bytes, .inl (cB, 940, .inl f_p0_bytes)), (h_p0_wordNames, .inl (cJ, 23, .inr (.inl f_p0_wordNames)))]) ∨ (∃ (Gh : Nat → Value) (y_bends : Int32) (G_p0_ : Nat → Value) (y_p0_kind : Int32) (y_p0_place : Int32) (y_p0_value : Int32) (y_p0_name : Int64) (y_p0_at : Int32) (g_length : Nat → Int32) (g_drop : Nat → Int32) (g_ideal : Nat → Int32) (g_over : Nat → Int32), SAME [14] Fh Gh ∧ Gh 14 = .int y_bends ∧ IR 1 12 y_bends ∧ SAME [2, 3, 4, 5, 10] F_p0_ G_p0_ ∧ G_p0_ 2 = .int y_p0_kind ∧ IR (-128) 127 y_p0_kind ∧ G_p0_ 3 = .int y_p0_place ∧ IR (-2147483648) 940 y_p0_place ∧ G_p0_ 4 = .int y_p0_value ∧ G_p0_ 5 = .long y_p0_name ∧ G_p0_ 10 = .int y_p0_at ∧ IR 0 940 y_p0_at ∧ x_bends.toInt < 12 ∧ 0 ≤ x_bends.toInt ∧ (∀ (tl : Int32) (yd : Int) (ms rs : List Int), cBend (tkA f_p0_bytes x_p0_length.toInt x_p0_mostBytes.toInt) (tkC x_p0_kind x_p0_place x_p0_value x_p0_name x_p0_at) (tl, yd, ms, x_bends.toInt, rs) = .inr ((tkC y_p0_kind y_p0_place y_p0_value y_p0_name y_p0_at), (tl, yd, ms, y_bends.toInt, rs))) ∧ ((y_p0_kind.toInt = 2 → y_p0_value.toInt = wix y_p0_name.toInt)) ∧ r = 1 ∧ u = [(h0, .inr (1, vL 18 Gh)), (h_length, .inl (cI, 12, .inl g_length)), (h_drop, .inl (cI, 12, .inl g_drop)), (h_ideal, .inl (cI, 12, .inl g_ideal)), (h_over, .inl (cI, 12, .inl g_over)), (p0, .inr (6, vL 12 G_p0_)), (h_p0_bytes, .inl (cB, 940, .inl f_p0_bytes)), (h_p0_wordNames, .inl (cJ, 23, .inr (.inl f_p0_wordNames)))])) := by
  refine CI_mk (by decide) (Nat.le_of_ble_eq_true rfl) ?_
  intro p e s m below meth c A ls E hAe hG hsz hP hD hA hS hl
  obtain ⟨hx, hb, hr, hw, hown, hlocks, hml, hnm⟩ := E
  have hK := hG.1
  have i_x_bends : 0 ≤ x_bends.toInt ∧ x_bends.toInt ≤ 12 := i_x_bends
  have i_x_p0_length : 0 ≤ x_p0_length.toInt ∧ x_p0_length.toInt ≤ 940 := i_x_p0_length
  have i_x_p0_at : 0 ≤ x_p0_at.toInt ∧ x_p0_at.toInt ≤ 940 := i_x_p0_at
  have hl : lv_has ls 3 [(0, .ref h0), (1, .ref p0)] := hl
  refine lv_aload_n hx hb dX1_readBend_0 rfl (lv_at hl 0 rfl) ?_
  refine get_f (D := D) (ci := 1) (v := .int x_bends) (C := RX1) (T := TX1) (N := 18) hx hb hw inAX1 hown hK hP 0 rfl rfl 14 (by decide) (hw _ q_354) (fun _ h9 => h9) e_bends dX1_readBend_1 ?_
  refine lv_bipush (v := 12) hx hb dX1_readBend_4 (by decide) ?_
  refine lv_icmp_lt (tgt := 15) hx hb dX1_readBend_6 (by decide) (fun c1 => ?_) (fun c1 => ?_)
  · have dc1 : x_bends.toInt < 12 := lt_i (a := x_bends.toInt) (b := 12) rfl rfl c1
    have k2 : 0 ≤ x_bends.toInt ∧ x_bends.toInt ≤ 11 := ⟨i_x_bends.1, up_lt dc1 (Int.le_refl _) (by decide)⟩
    refine lv_aload_n hx hb dX1_readBend_15 rfl (lv_at hl 1 rfl) ?_
    refine call_Vv (wr := [(h0, .inr (1, vL 18 Fh)), (h_length, .inl (cI, 12, .inl f_length)), (h_drop, .inl (cI, 12, .inl f_drop)), (h_ideal, .inl (cI, 12, .inl f_ideal)), (h_over, .inl (cI, 12, .inl f_over))]) (As := []) (rest := []) hx hb hml hown hw (m_X6_advance l D cI cJ cB cP cM cZ p0 h_p0_bytes h_p0_wordNames F_p0_ x_p0_length x_p0_kind x_p0_place x_p0_value x_p0_name x_p0_at x_p0_mostBytes f_p0_bytes f_p0_wordNames _ e_p0_bytes e_p0_length i_x_p0_length e_p0_kind e_p0_place e_p0_value e_p0_name e_p0_wordNames e_p0_at i_x_p0_at e_p0_mostBytes s_p0_bytes_0 s_p0_wordNames_KN) wV_X1_131_X6_advance dX1_readBend_16 hK hP hD hS hA [5, 6, 7] [0, 1, 2, 3, 4] rfl rfl (by decide) (by decide) (by decide) 0 6 rfl rfl GG.fb hG.at hl.1 rfl (Nat.le_of_ble_eq_true rfl) ⟨(Nat.le_of_ble_eq_true rfl), (Nat.le_of_ble_eq_true rfl)⟩ ⟨(Nat.le_of_ble_eq_true rfl), (Nat.le_of_ble_eq_true rfl)⟩ (fun u H locs hp hP hD hS => ?_)
    obtain ⟨F4, y5, y6, y7, y8, y9, t10, t11, t12, t13, t14, t15, t16, t17, t18, t19, t20, t21, rfl⟩ := hp
    have hP : va_P D vwCl [(h0, .inr (1, vL 18 Fh)), (h_length, .inl (cI, 12, .inl f_length)), (h_drop, .inl (cI, 12, .inl f_drop)), (h_ideal, .inl (cI, 12, .inl f_ideal)), (h_over, .inl (cI, 12, .inl f_over)), (p0, .inr (6, vL 12 F4)), (h_p0_bytes, .inl (cB, 940, .inl f_p0_bytes)), (h_p0_wordNames, .inl (cJ, 23, .inr (.inl f_p0_wordNames)))] H := hP
    have hD : va_D A [(h0, .inr (1, vL 18 Fh)), (h_length, .inl (cI, 12, .inl f_length)), (h_drop, .inl (cI, 12, .inl f_drop)), (h_ideal, .inl (cI, 12, .inl f_ideal)), (h_over, .inl (cI, 12, .inl f_over)), (p0, .inr (6, vL 12 F4)), (h_p0_bytes, .inl (cB, 940, .inl f_p0_bytes)), (h_p0_wordNames, .inl (cJ, 23, .inr (.inl f_p0_wordNames)))] := hD
    refine W.widen (k := 0) (n := 0) (Nat.le_of_ble_eq_true rfl) (Nat.le_of_ble_eq_true rfl) ?_
    refine lv_aload_n hx hb dX1_readBend_19 rfl (lv_at hl 1 rfl) ?_
    refine lv_aload_n hx hb dX1_readBend_20 rfl (lv_at hl 0 rfl) ?_
    refine get_f (D := D) (ci := 1) (v := .ref h_length) (C := RX1) (T := TX1) (N := 18) hx hb hw inAX1 hown hK hP 0 rfl rfl 6 (by decide) (hw _ q_336) (fun _ h9 => h9) e_length dX1_readBend_21 ?_
    refine lv_aload_n hx hb dX1_readBend_24 rfl (lv_at hl 0 rfl) ?_
    refine get_f (D := D) (ci := 1) (v := .int x_bends) (C := RX1) (T := TX1) (N := 18) hx hb hw inAX1 hown hK hP 0 rfl rfl 14 (by decide) (hw _ q_354) (fun _ h9 => h9) e_bends dX1_readBend_25 ?_
    refine lv_iconst (v := 1) hx hb dX1_readBend_28 (by decide) ?_
    refine lv_bipush (v := 9) hx hb dX1_readBend_29 (by decide) ?_
    have n23 : F4 0 = .ref h_p0_bytes := (SAME.at t10 (by decide) e_p0_bytes)
    have n24 : F4 1 = .int x_p0_length := (SAME.at t10 (by decide) e_p0_length)
    have n25 : F4 7 = .int x_p0_faultKind := (SAME.at t10 (by decide) e_p0_faultKind)
    have n26 : F4 8 = .int x_p0_faultPlace := (SAME.at t10 (by decide) e_p0_faultPlace)
    have n27 : F4 9 = .ref h_p0_wordNames := (SAME.at t10 (by decide) e_p0_wordNames)
    have n28 : F4 11 = .int x_p0_mostBytes := (SAME.at t10 (by decide) e_p0_mostBytes)
    refine call_Vi (wr := [(h0, .inr (1, vL 18 Fh)), (h_drop, .inl (cI, 12, .inl f_drop)), (h_ideal, .inl (cI, 12, .inl f_ideal)), (h_over, .inl (cI, 12, .inl f_over))]) (As := [.ref h_length, .int x_bends, .int 1, .int 9]) (rest := []) hx hb hml hown hw (m_X6_takeInto_12 l D cI cJ cB cP cM cZ p0 h_p0_bytes h_p0_wordNames h_length F4 x_p0_length y5 y6 y7 y8 x_p0_faultKind x_p0_faultPlace y9 x_p0_mostBytes f_p0_bytes f_p0_wordNames f_length x_bends 1 9 _ n23 n24 i_x_p0_length t11 t13 t15 t16 n25 n26 n27 t17 t18 n28 s_p0_bytes_0 s_p0_wordNames_KN k2) wV_X1_140_X6_takeInto dX1_readBend_31 hK hP hD hS hA [5, 6, 7, 1] [0, 2, 3, 4] rfl rfl (by decide) (by decide) (by decide) 0 6 rfl rfl GG.fb hG.at hl.1 rfl (Nat.le_of_ble_eq_true rfl) ⟨(Nat.le_of_ble_eq_true rfl), (Nat.le_of_ble_eq_true rfl)⟩ ⟨(Nat.le_of_ble_eq_true rfl), (Nat.le_of_ble_eq_true rfl)⟩ (fun r29 u H locs hp hP hD hS => ?_)
    have zl1 : (1 : Int32).toInt = 1 := by decide
    have zl9 : (9 : Int32).toInt = 9 := by decide
    rcases hp with hp | hp
    · obtain ⟨F30, y31, y32, t33, t34, t35, t36, t37, t38, t39, rfl, rfl⟩ := hp
      have hP : va_P D vwCl [(h0, .inr (1, vL 18 Fh)), (h_drop, .inl (cI, 12, .inl f_drop)), (h_ideal, .inl (cI, 12, .inl f_ideal)), (h_over, .inl (cI, 12, .inl f_over)), (p0, .inr (6, vL 12 F30)), (h_p0_bytes, .inl (cB, 940, .inl f_p0_bytes)), (h_p0_wordNames, .inl (cJ, 23, .inr (.inl f_p0_wordNames))), (h_length, .inl (cI, 12, .inl f_length))] H := hP
      have hD : va_D A [(h0, .inr (1, vL 18 Fh)), (h_drop, .inl (cI, 12, .inl f_drop)), (h_ideal, .inl (cI, 12, .inl f_ideal)), (h_over, .inl (cI, 12, .inl f_over)), (p0, .inr (6, vL 12 F30)), (h_p0_bytes, .inl (cB, 940, .inl f_p0_bytes)), (h_p0_wordNames, .inl (cJ, 23, .inr (.inl f_p0_wordNames))), (h_length, .inl (cI, 12, .inl f_length))] := hD
      refine W.widen (k := 0) (n := 0) (Nat.le_of_ble_eq_true rfl) (Nat.le_of_ble_eq_true rfl) ?_
      refine lv_if_eq (tgt := 95) hx hb dX1_readBend_34 (by decide) (fun _ => ?_) (fun g => absurd (by decide) g)
      refine lv_iconst (v := 0) hx hb dX1_readBend_95 (by decide) ?_
      refine lv_istore_n (lv' := [(2, .int 0), (0, .ref h0), (1, .ref p0)]) hx hb dX1_readBend_96 rfl hl (by decide) rfl (fun ls hl => ?_)
      refine lv_aload_n hx hb dX1_readBend_97 rfl (lv_at hl 1 rfl) ?_
      refine lv_dup hx hb dX1_readBend_98 rfl ?_
      refine get_f (D := D) (ci := 1) (v := .int x_bends) (C := RX1) (T := TX1) (N := 18) hx hb hw inAX1 hown hK hP 0 rfl rfl 14 (by decide) (hw _ q_354) (fun _ h9 => h9) e_bends dX1_readBend_99 ?_
      refine lv_iload_n hx hb dX1_readBend_102 rfl (lv_at hl 0 rfl) ?_
      refine lv_if_eq (tgt := 110) hx hb dX1_readBend_103 (by decide) (fun _ => ?_) (fun g => absurd (by decide) g)
      refine lv_iconst (v := 0) hx hb dX1_readBend_110 (by decide) ?_
      refine lv_iadd hx hb dX1_readBend_111 ?_
      refine lv_topi (fun v67 ev67 => ?_)
      have bv67 : v67.toInt = x_bends.toInt + 0 := by rw [ev67]; exact add_k rfl rfl k2 ⟨Int.le_refl _, Int.le_refl _⟩ (by decide)
      have k68 : 0 ≤ v67.toInt ∧ v67.toInt ≤ 11 := add_r bv67 k2 ⟨Int.le_refl _, Int.le_refl _⟩ (by decide)
      refine put_f (D := D) (ci := 1) (v := .int v67) (ty := .int) (C := RX1) (T := TX1) (N := 18) hx hb hw inAX1 tyX1 tyX1_ok nmX1 hown hK hP hD hS 0 rfl rfl 14 (by decide) (hw _ q_354) (fun _ h9 => h9) rfl (by decide +kernel) rfl rfl dX1_readBend_112 (fun H locs F69 eF69 hP hD hS => ?_)
      have hP : va_P D vwCl [(h0, .inr (1, vL 18 F69)), (h_drop, .inl (cI, 12, .inl f_drop)), (h_ideal, .inl (cI, 12, .inl f_ideal)), (h_over, .inl (cI, 12, .inl f_over)), (p0, .inr (6, vL 12 F30)), (h_p0_bytes, .inl (cB, 940, .inl f_p0_bytes)), (h_p0_wordNames, .inl (cJ, 23, .inr (.inl f_p0_wordNames))), (h_length, .inl (cI, 12, .inl f_length))] H := hP
      have hD : va_D A [(h0, .inr (1, vL 18 F69)), (h_drop, .inl (cI, 12, .inl f_drop)), (h_ideal, .inl (cI, 12, .inl f_ideal)), (h_over, .inl (cI, 12, .inl f_over)), (p0, .inr (6, vL 12 F30)), (h_p0_bytes, .inl (cB, 940, .inl f_p0_bytes)), (h_p0_wordNames, .inl (cJ, 23, .inr (.inl f_p0_wordNames))), (h_length, .inl (cI, 12, .inl f_length))] := hD
      refine lv_iload_n hx hb dX1_readBend_115 rfl (lv_at hl 0 rfl) ?_
      exact ret_i (v := 0) hx hb hr hlocks hS (hP.sub (ws' := [(h0, .inr (1, vL 18 F69)), (h_length, .inl (cI, 12, .inl f_length)), (h_drop, .inl (cI, 12, .inl f_drop)), (h_ideal, .inl (cI, 12, .inl f_ideal)), (h_over, .inl (cI, 12, .inl f_over)), (p0, .inr (6, vL 12 F30)), (h_p0_bytes, .inl (cB, 940, .inl f_p0_bytes)), (h_p0_wordNames, .inl (cJ, 23, .inr (.inl f_p0_wordNames)))]) [0, 7, 1, 2, 3, 4, 5, 6] rfl) (hD.sub (ws' := [(h0, .inr (1, vL 18 F69)), (h_length, .inl (cI, 12, .inl f_length)), (h_drop, .inl (cI, 12, .inl f_drop)), (h_ideal, .inl (cI, 12, .inl f_ideal)), (h_over, .inl (cI, 12, .inl f_over)), (p0, .inr (6, vL 12 F30)), (h_p0_bytes, .inl (cB, 940, .inl f_p0_bytes)), (h_p0_wordNames, .inl (cJ, 23, .inr (.inl f_p0_wordNames)))]) [0, 7, 1, 2, 3, 4, 5, 6] (by decide) rfl) dX1_readBend_116 rfl (Nat.le_of_ble_eq_true rfl) (Nat.le_of_ble_eq_true rfl) (Or.inl ⟨F69, v67, F30, y5, y6, y7, y8, y31, y32, y9, f_length, f_drop, f_ideal, (SAME.up eF69 SAME.rf (by decide)), (get_eq eF69), (ir_wk k68 (by decide) (by decide)), (SAME.tr (SAME.tr SAME.rf t10 (by decide)) t33 (by decide)), (SAME.at t33 (by decide) t11), (SAME.at t33 (by decide) t13), (SAME.at t33 (by decide) t15), (SAME.at t33 (by decide) t16), t34, (ir_wk t35 (by decide) (by decide)), t36, (SAME.at t33 (by decide) t17), t18, (fun tl yd ms rs => cBend_0 (show ¬ 12 ≤ x_bends.toInt by omega) (at_tk t19 (by omega)) t39), rfl, rfl⟩)
    · refine hp.elim (fun F40 h9z0 => h9z0.elim (fun y41 h9z1 => h9z1.elim (fun y42 h9z2 => h9z2.elim (fun y43 h9z3 => h9z3.elim (fun y44 h9z4 => h9z4.elim (fun y45 h9z5 => h9z5.elim (fun g46 h9z6 => h9z6.elim (fun t47 h9z7 => h9z7.elim (fun t48 h9z8 => h9z8.elim (fun t49 h9z9 => h9z9.elim (fun t50 h9z10 => h9z10.elim (fun t51 h9z11 => h9z11.elim (fun t52 h9z12 => h9z12.elim (fun t53 h9z13 => h9z13.elim (fun t54 h9z14 => h9z14.elim (fun t55 h9z15 => h9z15.elim (fun t56 h9z16 => h9z16.elim (fun t57 h9z17 => h9z17.elim (fun t58 h9z18 => h9z18.elim (fun t59 h9z19 => h9z19.elim (fun t60 h9z20 => h9z20.elim (fun t61 h9z21 => h9z21.elim (fun t62 h9z22 => h9z22.elim (fun t63 h9z23 => h9z23.elim (fun t64 h9z24 => h9z24.elim (fun t65 h9z25 => h9z25.elim (fun heq926 h9z26 => ?_)))))))))))))))))))))))))))
      clear h9z0 h9z1 h9z2 h9z3 h9z4 h9z5 h9z6 h9z7 h9z8 h9z9 h9z10 h9z11 h9z12 h9z13 h9z14 h9z15 h9z16 h9z17 h9z18 h9z19 h9z20 h9z21 h9z22 h9z23 h9z24 h9z25
      subst heq926
      subst h9z26
      have hP : va_P D vwCl [(h0, .inr (1, vL 18 Fh)), (h_drop, .inl (cI, 12, .inl f_drop)), (h_ideal, .inl (cI, 12, .inl f_ideal)), (h_over, .inl (cI, 12, .inl f_over)), (p0, .inr (6, vL 12 F40)), (h_p0_bytes, .inl (cB, 940, .inl f_p0_bytes)), (h_p0_wordNames, .inl (cJ, 23, .inr (.inl f_p0_wordNames))), (h_length, .inl (cI, 12, .inl g46))] H := hP
      have hD : va_D A [(h0, .inr (1, vL 18 Fh)), (h_drop, .inl (cI, 12, .inl f_drop)), (h_ideal, .inl (cI, 12, .inl f_ideal)), (h_over, .inl (cI, 12, .inl f_over)), (p0, .inr (6, vL 12 F40)), (h_p0_bytes, .inl (cB, 940, .inl f_p0_bytes)), (h_p0_wordNames, .inl (cJ, 23, .inr (.inl f_p0_wordNames))), (h_length, .inl (cI, 12, .inl g46))] := hD
      refine W.widen (k := 0) (n := 0) (Nat.le_of_ble_eq_true rfl) (Nat.le_of_ble_eq_true rfl) ?_
      have k70 : 3 ≤ y5.toInt ∧ y5.toInt ≤ 3 := ⟨Int.le_trans (Int.le_refl _) (Int.le_of_eq t58.symm), Int.le_trans (Int.le_of_eq t58) (Int.le_refl _)⟩
      have k71 : 1 ≤ y7.toInt ∧ y7.toInt ≤ 2147483647 := ⟨Int.le_trans (Int.le_refl _) t59, (ir_any _).2⟩
      have k72 : 1 ≤ y7.toInt ∧ y7.toInt ≤ 9 := ⟨k71.1, Int.le_trans t60 (Int.le_refl _)⟩
      refine lv_if_eq (tgt := 95) hx hb dX1_readBend_34 (by decide) (fun g => absurd g (by decide)) (fun _ => ?_)
      refine lv_aload_n hx hb dX1_readBend_37 rfl (lv_at hl 1 rfl) ?_
      refine lv_aload_n hx hb dX1_readBend_38 rfl (lv_at hl 0 rfl) ?_
      refine get_f (D := D) (ci := 1) (v := .ref h_drop) (C := RX1) (T := TX1) (N := 18) hx hb hw inAX1 hown hK hP 0 rfl rfl 7 (by decide) (hw _ q_340) (fun _ h9 => h9) e_drop dX1_readBend_39 ?_
      refine lv_aload_n hx hb dX1_readBend_42 rfl (lv_at hl 0 rfl) ?_
      refine get_f (D := D) (ci := 1) (v := .int x_bends) (C := RX1) (T := TX1) (N := 18) hx hb hw inAX1 hown hK hP 0 rfl rfl 14 (by decide) (hw _ q_354) (fun _ h9 => h9) e_bends dX1_readBend_43 ?_
      refine lv_iconst (v := 0) hx hb dX1_readBend_46 (by decide) ?_
      refine lv_bipush (v := 9) hx hb dX1_readBend_47 (by decide) ?_
      have n73 : F40 0 = .ref h_p0_bytes := (SAME.at t47 (by decide) n23)
      have n74 : F40 1 = .int x_p0_length := (SAME.at t47 (by decide) n24)
      have n75 : F40 7 = .int x_p0_faultKind := (SAME.at t47 (by decide) n25)
      have n76 : F40 8 = .int x_p0_faultPlace := (SAME.at t47 (by decide) n26)
      have n77 : F40 9 = .ref h_p0_wordNames := (SAME.at t47 (by decide) n27)
      have n78 : F40 11 = .int x_p0_mostBytes := (SAME.at t47 (by decide) n28)
      refine call_Vi (wr := [(h0, .inr (1, vL 18 Fh)), (h_ideal, .inl (cI, 12, .inl f_ideal)), (h_over, .inl (cI, 12, .inl f_over)), (h_length, .inl (cI, 12, .inl g46))]) (As := [.ref h_drop, .int x_bends, .int 0, .int 9]) (rest := []) hx hb hml hown hw (m_X6_takeInto_12 l D cI cJ cB cP cM cZ p0 h_p0_bytes h_p0_wordNames h_drop F40 x_p0_length y41 y42 y43 y44 x_p0_faultKind x_p0_faultPlace y45 x_p0_mostBytes f_p0_bytes f_p0_wordNames f_drop x_bends 0 9 _ n73 n74 i_x_p0_length t48 t50 t52 t53 n75 n76 n77 t54 t55 n78 s_p0_bytes_0 s_p0_wordNames_KN k2) wV_X1_140_X6_takeInto dX1_readBend_49 hK hP hD hS hA [4, 5, 6, 1] [0, 2, 3, 7] rfl rfl (by decide) (by decide) (by decide) 0 6 rfl rfl GG.fb hG.at hl.1 rfl (Nat.le_of_ble_eq_true rfl) ⟨(Nat.le_of_ble_eq_true rfl), (Nat.le_of_ble_eq_true rfl)⟩ ⟨(Nat.le_of_ble_eq_true rfl), (Nat.le_of_ble_eq_true rfl)⟩ (fun r79 u H locs hp hP hD hS => ?_)
      have zl0 : (0 : Int32).toInt = 0 := by decide
      rcases hp with hp | hp
      · obtain ⟨F80, y81, y82, t83, t84, t85, t86, t87, t88, t89, rfl, rfl⟩ := hp
        have hP : va_P D vwCl [(h0, .inr (1, vL 18 Fh)), (h_ideal, .inl (cI, 12, .inl f_ideal)), (h_over, .inl (cI, 12, .inl f_over)), (h_length, .inl (cI, 12, .inl g46)), (p0, .inr (6, vL 12 F80)), (h_p0_bytes, .inl (cB, 940, .inl f_p0_bytes)), (h_p0_wordNames, .inl (cJ, 23, .inr (.inl f_p0_wordNames))), (h_drop, .inl (cI, 12, .inl f_drop))] H := hP
        have hD : va_D A [(h0, .inr (1, vL 18 Fh)), (h_ideal, .inl (cI, 12, .inl f_ideal)), (h_over, .inl (cI, 12, .inl f_over)), (h_length, .inl (cI, 12, .inl g46)), (p0, .inr (6, vL 12 F80)), (h_p0_bytes, .inl (cB, 940, .inl f_p0_bytes)), (h_p0_wordNames, .inl (cJ, 23, .inr (.inl f_p0_wordNames))), (h_drop, .inl (cI, 12, .inl f_drop))] := hD
        refine W.widen (k := 0) (n := 0) (Nat.le_of_ble_eq_true rfl) (Nat.le_of_ble_eq_true rfl) ?_
        refine lv_if_eq (tgt := 95) hx hb dX1_readBend_52 (by decide) (fun _ => ?_) (fun g => absurd (by decide) g)
        refine lv_iconst (v := 0) hx hb dX1_readBend_95 (by decide) ?_
        refine lv_istore_n (lv' := [(2, .int 0), (0, .ref h0), (1, .ref p0)]) hx hb dX1_readBend_96 rfl hl (by decide) rfl (fun ls hl => ?_)
        refine lv_aload_n hx hb dX1_readBend_97 rfl (lv_at hl 1 rfl) ?_
        refine lv_dup hx hb dX1_readBend_98 rfl ?_
        refine get_f (D := D) (ci := 1) (v := .int x_bends) (C := RX1) (T := TX1) (N := 18) hx hb hw inAX1 hown hK hP 0 rfl rfl 14 (by decide) (hw _ q_354) (fun _ h9 => h9) e_bends dX1_readBend_99 ?_
        refine lv_iload_n hx hb dX1_readBend_102 rfl (lv_at hl 0 rfl) ?_
        refine lv_if_eq (tgt := 110) hx hb dX1_readBend_103 (by decide) (fun _ => ?_) (fun g => absurd (by decide) g)
        refine lv_iconst (v := 0) hx hb dX1_readBend_110 (by decide) ?_
        refine lv_iadd hx hb dX1_readBend_111 ?_
        refine lv_topi (fun v117 ev117 => ?_)
        have bv117 : v117.toInt = x_bends.toInt + 0 := by rw [ev117]; exact add_k rfl rfl k2 ⟨Int.le_refl _, Int.le_refl _⟩ (by decide)
        have k118 : 0 ≤ v117.toInt ∧ v117.toInt ≤ 11 := add_r bv117 k2 ⟨Int.le_refl _, Int.le_refl _⟩ (by decide)
        refine put_f (D := D) (ci := 1) (v := .int v117) (ty := .int) (C := RX1) (T := TX1) (N := 18) hx hb hw inAX1 tyX1 tyX1_ok nmX1 hown hK hP hD hS 0 rfl rfl 14 (by decide) (hw _ q_354) (fun _ h9 => h9) rfl (by decide +kernel) rfl rfl dX1_readBend_112 (fun H locs F119 eF119 hP hD hS => ?_)
        have hP : va_P D vwCl [(h0, .inr (1, vL 18 F119)), (h_ideal, .inl (cI, 12, .inl f_ideal)), (h_over, .inl (cI, 12, .inl f_over)), (h_length, .inl (cI, 12, .inl g46)), (p0, .inr (6, vL 12 F80)), (h_p0_bytes, .inl (cB, 940, .inl f_p0_bytes)), (h_p0_wordNames, .inl (cJ, 23, .inr (.inl f_p0_wordNames))), (h_drop, .inl (cI, 12, .inl f_drop))] H := hP
        have hD : va_D A [(h0, .inr (1, vL 18 F119)), (h_ideal, .inl (cI, 12, .inl f_ideal)), (h_over, .inl (cI, 12, .inl f_over)), (h_length, .inl (cI, 12, .inl g46)), (p0, .inr (6, vL 12 F80)), (h_p0_bytes, .inl (cB, 940, .inl f_p0_bytes)), (h_p0_wordNames, .inl (cJ, 23, .inr (.inl f_p0_wordNames))), (h_drop, .inl (cI, 12, .inl f_drop))] := hD
        refine lv_iload_n hx hb dX1_readBend_115 rfl (lv_at hl 0 rfl) ?_
        exact ret_i (v := 0) hx hb hr hlocks hS (hP.sub (ws' := [(h0, .inr (1, vL 18 F119)), (h_length, .inl (cI, 12, .inl g46)), (h_drop, .inl (cI, 12, .inl f_drop)), (h_ideal, .inl (cI, 12, .inl f_ideal)), (h_over, .inl (cI, 12, .inl f_over)), (p0, .inr (6, vL 12 F80)), (h_p0_bytes, .inl (cB, 940, .inl f_p0_bytes)), (h_p0_wordNames, .inl (cJ, 23, .inr (.inl f_p0_wordNames)))]) [0, 3, 7, 1, 2, 4, 5, 6] rfl) (hD.sub (ws' := [(h0, .inr (1, vL 18 F119)), (h_length, .inl (cI, 12, .inl g46)), (h_drop, .inl (cI, 12, .inl f_drop)), (h_ideal, .inl (cI, 12, .inl f_ideal)), (h_over, .inl (cI, 12, .inl f_over)), (p0, .inr (6, vL 12 F80)), (h_p0_bytes, .inl (cB, 940, .inl f_p0_bytes)), (h_p0_wordNames, .inl (cJ, 23, .inr (.inl f_p0_wordNames)))]) [0, 3, 7, 1, 2, 4, 5, 6] (by decide) rfl) dX1_readBend_116 rfl (Nat.le_of_ble_eq_true rfl) (Nat.le_of_ble_eq_true rfl) (Or.inl ⟨F119, v117, F80, y41, y42, y43, y44, y81, y82, y45, g46, f_drop, f_ideal, (SAME.up eF119 SAME.rf (by decide)), (get_eq eF119), (ir_wk k118 (by decide) (by decide)), (SAME.tr (SAME.tr (SAME.tr SAME.rf t10 (by decide)) t47 (by decide)) t83 (by decide)), (SAME.at t83 (by decide) t48), (SAME.at t83 (by decide) t50), (SAME.at t83 (by decide) t52), (SAME.at t83 (by decide) t53), t84, (ir_wk t85 (by decide) (by decide)), t86, (SAME.at t83 (by decide) t54), t55, (fun tl yd ms rs => cBend_1 (show ¬ 12 ≤ x_bends.toInt by omega) (at_tk t19 (by omega)) t62 t89), rfl, rfl⟩)
      · refine hp.elim (fun F90 h9z0 => h9z0.elim (fun y91 h9z1 => h9z1.elim (fun y92 h9z2 => h9z2.elim (fun y93 h9z3 => h9z3.elim (fun y94 h9z4 => h9z4.elim (fun y95 h9z5 => h9z5.elim (fun g96 h9z6 => h9z6.elim (fun t97 h9z7 => h9z7.elim (fun t98 h9z8 => h9z8.elim (fun t99 h9z9 => h9z9.elim (fun t100 h9z10 => h9z10.elim (fun t101 h9z11 => h9z11.elim (fun t102 h9z12 => h9z12.elim (fun t103 h9z13 => h9z13.elim (fun t104 h9z14 => h9z14.elim (fun t105 h9z15 => h9z15.elim (fun t106 h9z16 => h9z16.elim (fun t107 h9z17 => h9z17.elim (fun t108 h9z18 => h9z18.elim (fun t109 h9z19 => h9z19.elim (fun t110 h9z20 => h9z20.elim (fun t111 h9z21 => h9z21.elim (fun t112 h9z22 => h9z22.elim (fun t113 h9z23 => h9z23.elim (fun t114 h9z24 => h9z24.elim (fun t115 h9z25 => h9z25.elim (fun heq926 h9z26 => ?_)))))))))))))))))))))))))))
        clear h9z0 h9z1 h9z2 h9z3 h9z4 h9z5 h9z6 h9z7 h9z8 h9z9 h9z10 h9z11 h9z12 h9z13 h9z14 h9z15 h9z16 h9z17 h9z18 h9z19 h9z20 h9z21 h9z22 h9z23 h9z24 h9z25
        subst heq926
        subst h9z26
        have hP : va_P D vwCl [(h0, .inr (1, vL 18 Fh)), (h_ideal, .inl (cI, 12, .inl f_ideal)), (h_over, .inl (cI, 12, .inl f_over)), (h_length, .inl (cI, 12, .inl g46)), (p0, .inr (6, vL 12 F90)), (h_p0_bytes, .inl (cB, 940, .inl f_p0_bytes)), (h_p0_wordNames, .inl (cJ, 23, .inr (.inl f_p0_wordNames))), (h_drop, .inl (cI, 12, .inl g96))] H := hP
        have hD : va_D A [(h0, .inr (1, vL 18 Fh)), (h_ideal, .inl (cI, 12, .inl f_ideal)), (h_over, .inl (cI, 12, .inl f_over)), (h_length, .inl (cI, 12, .inl g46)), (p0, .inr (6, vL 12 F90)), (h_p0_bytes, .inl (cB, 940, .inl f_p0_bytes)), (h_p0_wordNames, .inl (cJ, 23, .inr (.inl f_p0_wordNames))), (h_drop, .inl (cI, 12, .inl g96))] := hD
        refine W.widen (k := 0) (n := 0) (Nat.le_of_ble_eq_true rfl) (Nat.le_of_ble_eq_true rfl) ?_
        have k120 : 3 ≤ y41.toInt ∧ y41.toInt ≤ 3 := ⟨Int.le_trans (Int.le_refl _) (Int.le_of_eq t108.symm), Int.le_trans (Int.le_of_eq t108) (Int.le_refl _)⟩
        have k121 : 0 ≤ y43.toInt ∧ y43.toInt ≤ 2147483647 := ⟨Int.le_trans (Int.le_refl _) t109, (ir_any _).2⟩
        have k122 : 0 ≤ y43.toInt ∧ y43.toInt ≤ 9 := ⟨k121.1, Int.le_trans t110 (Int.le_refl _)⟩
        refine lv_if_eq (tgt := 95) hx hb dX1_readBend_52 (by decide) (fun g => absurd g (by decide)) (fun _ => ?_)
        refine lv_aload_n hx hb dX1_readBend_55 rfl (lv_at hl 1 rfl) ?_
        refine lv_aload_n hx hb dX1_readBend_56 rfl (lv_at hl 0 rfl) ?_
        refine get_f (D := D) (ci := 1) (v := .ref h_ideal) (C := RX1) (T := TX1) (N := 18) hx hb hw inAX1 hown hK hP 0 rfl rfl 8 (by decide) (hw _ q_342) (fun _ h9 => h9) e_ideal dX1_readBend_57 ?_
        refine lv_aload_n hx hb dX1_readBend_60 rfl (lv_at hl 0 rfl) ?_
        refine get_f (D := D) (ci := 1) (v := .int x_bends) (C := RX1) (T := TX1) (N := 18) hx hb hw inAX1 hown hK hP 0 rfl rfl 14 (by decide) (hw _ q_354) (fun _ h9 => h9) e_bends dX1_readBend_61 ?_
        refine lv_iconst (v := 0) hx hb dX1_readBend_64 (by decide) ?_
        refine lv_bipush (v := 9) hx hb dX1_readBend_65 (by decide) ?_
        have n123 : F90 0 = .ref h_p0_bytes := (SAME.at t97 (by decide) n73)
        have n124 : F90 1 = .int x_p0_length := (SAME.at t97 (by decide) n74)
        have n125 : F90 7 = .int x_p0_faultKind := (SAME.at t97 (by decide) n75)
        have n126 : F90 8 = .int x_p0_faultPlace := (SAME.at t97 (by decide) n76)
        have n127 : F90 9 = .ref h_p0_wordNames := (SAME.at t97 (by decide) n77)
        have n128 : F90 11 = .int x_p0_mostBytes := (SAME.at t97 (by decide) n78)
        refine call_Vi (wr := [(h0, .inr (1, vL 18 Fh)), (h_over, .inl (cI, 12, .inl f_over)), (h_length, .inl (cI, 12, .inl g46)), (h_drop, .inl (cI, 12, .inl g96))]) (As := [.ref h_ideal, .int x_bends, .int 0, .int 9]) (rest := []) hx hb hml hown hw (m_X6_takeInto_12 l D cI cJ cB cP cM cZ p0 h_p0_bytes h_p0_wordNames h_ideal F90 x_p0_length y91 y92 y93 y94 x_p0_faultKind x_p0_faultPlace y95 x_p0_mostBytes f_p0_bytes f_p0_wordNames f_ideal x_bends 0 9 _ n123 n124 i_x_p0_length t98 t100 t102 t103 n125 n126 n127 t104 t105 n128 s_p0_bytes_0 s_p0_wordNames_KN k2) wV_X1_140_X6_takeInto dX1_readBend_67 hK hP hD hS hA [4, 5, 6, 1] [0, 2, 3, 7] rfl rfl (by decide) (by decide) (by decide) 0 6 rfl rfl GG.fb hG.at hl.1 rfl (Nat.le_of_ble_eq_true rfl) ⟨(Nat.le_of_ble_eq_true rfl), (Nat.le_of_ble_eq_true rfl)⟩ ⟨(Nat.le_of_ble_eq_true rfl), (Nat.le_of_ble_eq_true rfl)⟩ (fun r129 u H locs hp hP hD hS => ?_)
        rcases hp with hp | hp
        · obtain ⟨F130, y131, y132, t133, t134, t135, t136, t137, t138, t139, rfl, rfl⟩ := hp
          have hP : va_P D vwCl [(h0, .inr (1, vL 18 Fh)), (h_over, .inl (cI, 12, .inl f_over)), (h_length, .inl (cI, 12, .inl g46)), (h_drop, .inl (cI, 12, .inl g96)), (p0, .inr (6, vL 12 F130)), (h_p0_bytes, .inl (cB, 940, .inl f_p0_bytes)), (h_p0_wordNames, .inl (cJ, 23, .inr (.inl f_p0_wordNames))), (h_ideal, .inl (cI, 12, .inl f_ideal))] H := hP
          have hD : va_D A [(h0, .inr (1, vL 18 Fh)), (h_over, .inl (cI, 12, .inl f_over)), (h_length, .inl (cI, 12, .inl g46)), (h_drop, .inl (cI, 12, .inl g96)), (p0, .inr (6, vL 12 F130)), (h_p0_bytes, .inl (cB, 940, .inl f_p0_bytes)), (h_p0_wordNames, .inl (cJ, 23, .inr (.inl f_p0_wordNames))), (h_ideal, .inl (cI, 12, .inl f_ideal))] := hD
          refine W.widen (k := 0) (n := 0) (Nat.le_of_ble_eq_true rfl) (Nat.le_of_ble_eq_true rfl) ?_
          refine lv_if_eq (tgt := 95) hx hb dX1_readBend_70 (by decide) (fun _ => ?_) (fun g => absurd (by decide) g)
          refine lv_iconst (v := 0) hx hb dX1_readBend_95 (by decide) ?_
          refine lv_istore_n (lv' := [(2, .int 0), (0, .ref h0), (1, .ref p0)]) hx hb dX1_readBend_96 rfl hl (by decide) rfl (fun ls hl => ?_)
          refine lv_aload_n hx hb dX1_readBend_97 rfl (lv_at hl 1 rfl) ?_
          refine lv_dup hx hb dX1_readBend_98 rfl ?_
          refine get_f (D := D) (ci := 1) (v := .int x_bends) (C := RX1) (T := TX1) (N := 18) hx hb hw inAX1 hown hK hP 0 rfl rfl 14 (by decide) (hw _ q_354) (fun _ h9 => h9) e_bends dX1_readBend_99 ?_
          refine lv_iload_n hx hb dX1_readBend_102 rfl (lv_at hl 0 rfl) ?_
          refine lv_if_eq (tgt := 110) hx hb dX1_readBend_103 (by decide) (fun _ => ?_) (fun g => absurd (by decide) g)
          refine lv_iconst (v := 0) hx hb dX1_readBend_110 (by decide) ?_
          refine lv_iadd hx hb dX1_readBend_111 ?_
          refine lv_topi (fun v167 ev167 => ?_)
          have bv167 : v167.toInt = x_bends.toInt + 0 := by rw [ev167]; exact add_k rfl rfl k2 ⟨Int.le_refl _, Int.le_refl _⟩ (by decide)
          have k168 : 0 ≤ v167.toInt ∧ v167.toInt ≤ 11 := add_r bv167 k2 ⟨Int.le_refl _, Int.le_refl _⟩ (by decide)
          refine put_f (D := D) (ci := 1) (v := .int v167) (ty := .int) (C := RX1) (T := TX1) (N := 18) hx hb hw inAX1 tyX1 tyX1_ok nmX1 hown hK hP hD hS 0 rfl rfl 14 (by decide) (hw _ q_354) (fun _ h9 => h9) rfl (by decide +kernel) rfl rfl dX1_readBend_112 (fun H locs F169 eF169 hP hD hS => ?_)
          have hP : va_P D vwCl [(h0, .inr (1, vL 18 F169)), (h_over, .inl (cI, 12, .inl f_over)), (h_length, .inl (cI, 12, .inl g46)), (h_drop, .inl (cI, 12, .inl g96)), (p0, .inr (6, vL 12 F130)), (h_p0_bytes, .inl (cB, 940, .inl f_p0_bytes)), (h_p0_wordNames, .inl (cJ, 23, .inr (.inl f_p0_wordNames))), (h_ideal, .inl (cI, 12, .inl f_ideal))] H := hP
          have hD : va_D A [(h0, .inr (1, vL 18 F169)), (h_over, .inl (cI, 12, .inl f_over)), (h_length, .inl (cI, 12, .inl g46)), (h_drop, .inl (cI, 12, .inl g96)), (p0, .inr (6, vL 12 F130)), (h_p0_bytes, .inl (cB, 940, .inl f_p0_bytes)), (h_p0_wordNames, .inl (cJ, 23, .inr (.inl f_p0_wordNames))), (h_ideal, .inl (cI, 12, .inl f_ideal))] := hD
          refine lv_iload_n hx hb dX1_readBend_115 rfl (lv_at hl 0 rfl) ?_
          exact ret_i (v := 0) hx hb hr hlocks hS (hP.sub (ws' := [(h0, .inr (1, vL 18 F169)), (h_length, .inl (cI, 12, .inl g46)), (h_drop, .inl (cI, 12, .inl g96)), (h_ideal, .inl (cI, 12, .inl f_ideal)), (h_over, .inl (cI, 12, .inl f_over)), (p0, .inr (6, vL 12 F130)), (h_p0_bytes, .inl (cB, 940, .inl f_p0_bytes)), (h_p0_wordNames, .inl (cJ, 23, .inr (.inl f_p0_wordNames)))]) [0, 2, 3, 7, 1, 4, 5, 6] rfl) (hD.sub (ws' := [(h0, .inr (1, vL 18 F169)), (h_length, .inl (cI, 12, .inl g46)), (h_drop, .inl (cI, 12, .inl g96)), (h_ideal, .inl (cI, 12, .inl f_ideal)), (h_over, .inl (cI, 12, .inl f_over)), (p0, .inr (6, vL 12 F130)), (h_p0_bytes, .inl (cB, 940, .inl f_p0_bytes)), (h_p0_wordNames, .inl (cJ, 23, .inr (.inl f_p0_wordNames)))]) [0, 2, 3, 7, 1, 4, 5, 6] (by decide) rfl) dX1_readBend_116 rfl (Nat.le_of_ble_eq_true rfl) (Nat.le_of_ble_eq_true rfl) (Or.inl ⟨F169, v167, F130, y91, y92, y93, y94, y131, y132, y95, g46, g96, f_ideal, (SAME.up eF169 SAME.rf (by decide)), (get_eq eF169), (ir_wk k168 (by decide) (by decide)), (SAME.tr (SAME.tr (SAME.tr (SAME.tr SAME.rf t10 (by decide)) t47 (by decide)) t97 (by decide)) t133 (by decide)), (SAME.at t133 (by decide) t98), (SAME.at t133 (by decide) t100), (SAME.at t133 (by decide) t102), (SAME.at t133 (by decide) t103), t134, (ir_wk t135 (by decide) (by decide)), t136, (SAME.at t133 (by decide) t104), t105, (fun tl yd ms rs => cBend_2 (show ¬ 12 ≤ x_bends.toInt by omega) (at_tk t19 (by omega)) t62 t112 t139), rfl, rfl⟩)
        · refine hp.elim (fun F140 h9z0 => h9z0.elim (fun y141 h9z1 => h9z1.elim (fun y142 h9z2 => h9z2.elim (fun y143 h9z3 => h9z3.elim (fun y144 h9z4 => h9z4.elim (fun y145 h9z5 => h9z5.elim (fun g146 h9z6 => h9z6.elim (fun t147 h9z7 => h9z7.elim (fun t148 h9z8 => h9z8.elim (fun t149 h9z9 => h9z9.elim (fun t150 h9z10 => h9z10.elim (fun t151 h9z11 => h9z11.elim (fun t152 h9z12 => h9z12.elim (fun t153 h9z13 => h9z13.elim (fun t154 h9z14 => h9z14.elim (fun t155 h9z15 => h9z15.elim (fun t156 h9z16 => h9z16.elim (fun t157 h9z17 => h9z17.elim (fun t158 h9z18 => h9z18.elim (fun t159 h9z19 => h9z19.elim (fun t160 h9z20 => h9z20.elim (fun t161 h9z21 => h9z21.elim (fun t162 h9z22 => h9z22.elim (fun t163 h9z23 => h9z23.elim (fun t164 h9z24 => h9z24.elim (fun t165 h9z25 => h9z25.elim (fun heq926 h9z26 => ?_)))))))))))))))))))))))))))
          clear h9z0 h9z1 h9z2 h9z3 h9z4 h9z5 h9z6 h9z7 h9z8 h9z9 h9z10 h9z11 h9z12 h9z13 h9z14 h9z15 h9z16 h9z17 h9z18 h9z19 h9z20 h9z21 h9z22 h9z23 h9z24 h9z25
          subst heq926
          subst h9z26
          have hP : va_P D vwCl [(h0, .inr (1, vL 18 Fh)), (h_over, .inl (cI, 12, .inl f_over)), (h_length, .inl (cI, 12, .inl g46)), (h_drop, .inl (cI, 12, .inl g96)), (p0, .inr (6, vL 12 F140)), (h_p0_bytes, .inl (cB, 940, .inl f_p0_bytes)), (h_p0_wordNames, .inl (cJ, 23, .inr (.inl f_p0_wordNames))), (h_ideal, .inl (cI, 12, .inl g146))] H := hP
          have hD : va_D A [(h0, .inr (1, vL 18 Fh)), (h_over, .inl (cI, 12, .inl f_over)), (h_length, .inl (cI, 12, .inl g46)), (h_drop, .inl (cI, 12, .inl g96)), (p0, .inr (6, vL 12 F140)), (h_p0_bytes, .inl (cB, 940, .inl f_p0_bytes)), (h_p0_wordNames, .inl (cJ, 23, .inr (.inl f_p0_wordNames))), (h_ideal, .inl (cI, 12, .inl g146))] := hD
          refine W.widen (k := 0) (n := 0) (Nat.le_of_ble_eq_true rfl) (Nat.le_of_ble_eq_true rfl) ?_
          have k170 : 3 ≤ y91.toInt ∧ y91.toInt ≤ 3 := ⟨Int.le_trans (Int.le_refl _) (Int.le_of_eq t158.symm), Int.le_trans (Int.le_of_eq t158) (Int.le_refl _)⟩
          have k171 : 0 ≤ y93.toInt ∧ y93.toInt ≤ 2147483647 := ⟨Int.le_trans (Int.le_refl _) t159, (ir_any _).2⟩
          have k172 : 0 ≤ y93.toInt ∧ y93.toInt ≤ 9 := ⟨k171.1, Int.le_trans t160 (Int.le_refl _)⟩
          refine lv_if_eq (tgt := 95) hx hb dX1_readBend_70 (by decide) (fun g => absurd g (by decide)) (fun _ => ?_)
          refine lv_aload_n hx hb dX1_readBend_73 rfl (lv_at hl 1 rfl) ?_
          refine lv_aload_n hx hb dX1_readBend_74 rfl (lv_at hl 0 rfl) ?_
          refine get_f (D := D) (ci := 1) (v := .ref h_over) (C := RX1) (T := TX1) (N := 18) hx hb hw inAX1 hown hK hP 0 rfl rfl 9 (by decide) (hw _ q_345) (fun _ h9 => h9) e_over dX1_readBend_75 ?_
          refine lv_aload_n hx hb dX1_readBend_78 rfl (lv_at hl 0 rfl) ?_
          refine get_f (D := D) (ci := 1) (v := .int x_bends) (C := RX1) (T := TX1) (N := 18) hx hb hw inAX1 hown hK hP 0 rfl rfl 14 (by decide) (hw _ q_354) (fun _ h9 => h9) e_bends dX1_readBend_79 ?_
          refine lv_iconst (v := 1) hx hb dX1_readBend_82 (by decide) ?_
          refine lv_bipush (v := 99) hx hb dX1_readBend_83 (by decide) ?_
          have n173 : F140 0 = .ref h_p0_bytes := (SAME.at t147 (by decide) n123)
          have n174 : F140 1 = .int x_p0_length := (SAME.at t147 (by decide) n124)
          have n175 : F140 7 = .int x_p0_faultKind := (SAME.at t147 (by decide) n125)
          have n176 : F140 8 = .int x_p0_faultPlace := (SAME.at t147 (by decide) n126)
          have n177 : F140 9 = .ref h_p0_wordNames := (SAME.at t147 (by decide) n127)
          have n178 : F140 11 = .int x_p0_mostBytes := (SAME.at t147 (by decide) n128)
          refine call_Vi (wr := [(h0, .inr (1, vL 18 Fh)), (h_length, .inl (cI, 12, .inl g46)), (h_drop, .inl (cI, 12, .inl g96)), (h_ideal, .inl (cI, 12, .inl g146))]) (As := [.ref h_over, .int x_bends, .int 1, .int 99]) (rest := []) hx hb hml hown hw (m_X6_takeInto_12 l D cI cJ cB cP cM cZ p0 h_p0_bytes h_p0_wordNames h_over F140 x_p0_length y141 y142 y143 y144 x_p0_faultKind x_p0_faultPlace y145 x_p0_mostBytes f_p0_bytes f_p0_wordNames f_over x_bends 1 99 _ n173 n174 i_x_p0_length t148 t150 t152 t153 n175 n176 n177 t154 t155 n178 s_p0_bytes_0 s_p0_wordNames_KN k2) wV_X1_140_X6_takeInto dX1_readBend_85 hK hP hD hS hA [4, 5, 6, 1] [0, 2, 3, 7] rfl rfl (by decide) (by decide) (by decide) 0 6 rfl rfl GG.fb hG.at hl.1 rfl (Nat.le_of_ble_eq_true rfl) ⟨(Nat.le_of_ble_eq_true rfl), (Nat.le_of_ble_eq_true rfl)⟩ ⟨(Nat.le_of_ble_eq_true rfl), (Nat.le_of_ble_eq_true rfl)⟩ (fun r179 u H locs hp hP hD hS => ?_)
          have zl99 : (99 : Int32).toInt = 99 := by decide
          rcases hp with hp | hp
          · obtain ⟨F180, y181, y182, t183, t184, t185, t186, t187, t188, t189, rfl, rfl⟩ := hp
            have hP : va_P D vwCl [(h0, .inr (1, vL 18 Fh)), (h_length, .inl (cI, 12, .inl g46)), (h_drop, .inl (cI, 12, .inl g96)), (h_ideal, .inl (cI, 12, .inl g146)), (p0, .inr (6, vL 12 F180)), (h_p0_bytes, .inl (cB, 940, .inl f_p0_bytes)), (h_p0_wordNames, .inl (cJ, 23, .inr (.inl f_p0_wordNames))), (h_over, .inl (cI, 12, .inl f_over))] H := hP
            have hD : va_D A [(h0, .inr (1, vL 18 Fh)), (h_length, .inl (cI, 12, .inl g46)), (h_drop, .inl (cI, 12, .inl g96)), (h_ideal, .inl (cI, 12, .inl g146)), (p0, .inr (6, vL 12 F180)), (h_p0_bytes, .inl (cB, 940, .inl f_p0_bytes)), (h_p0_wordNames, .inl (cJ, 23, .inr (.inl f_p0_wordNames))), (h_over, .inl (cI, 12, .inl f_over))] := hD
            refine W.widen (k := 0) (n := 0) (Nat.le_of_ble_eq_true rfl) (Nat.le_of_ble_eq_true rfl) ?_
            refine lv_if_eq (tgt := 95) hx hb dX1_readBend_88 (by decide) (fun _ => ?_) (fun g => absurd (by decide) g)
            refine lv_iconst (v := 0) hx hb dX1_readBend_95 (by decide) ?_
            refine lv_istore_n (lv' := [(2, .int 0), (0, .ref h0), (1, .ref p0)]) hx hb dX1_readBend_96 rfl hl (by decide) rfl (fun ls hl => ?_)
            refine lv_aload_n hx hb dX1_readBend_97 rfl (lv_at hl 1 rfl) ?_
            refine lv_dup hx hb dX1_readBend_98 rfl ?_
            refine get_f (D := D) (ci := 1) (v := .int x_bends) (C := RX1) (T := TX1) (N := 18) hx hb hw inAX1 hown hK hP 0 rfl rfl 14 (by decide) (hw _ q_354) (fun _ h9 => h9) e_bends dX1_readBend_99 ?_
            refine lv_iload_n hx hb dX1_readBend_102 rfl (lv_at hl 0 rfl) ?_
            refine lv_if_eq (tgt := 110) hx hb dX1_readBend_103 (by decide) (fun _ => ?_) (fun g => absurd (by decide) g)
            refine lv_iconst (v := 0) hx hb dX1_readBend_110 (by decide) ?_
            refine lv_iadd hx hb dX1_readBend_111 ?_
            refine lv_topi (fun v217 ev217 => ?_)
            have bv217 : v217.toInt = x_bends.toInt + 0 := by rw [ev217]; exact add_k rfl rfl k2 ⟨Int.le_refl _, Int.le_refl _⟩ (by decide)
            have k218 : 0 ≤ v217.toInt ∧ v217.toInt ≤ 11 := add_r bv217 k2 ⟨Int.le_refl _, Int.le_refl _⟩ (by decide)
            refine put_f (D := D) (ci := 1) (v := .int v217) (ty := .int) (C := RX1) (T := TX1) (N := 18) hx hb hw inAX1 tyX1 tyX1_ok nmX1 hown hK hP hD hS 0 rfl rfl 14 (by decide) (hw _ q_354) (fun _ h9 => h9) rfl (by decide +kernel) rfl rfl dX1_readBend_112 (fun H locs F219 eF219 hP hD hS => ?_)
            have hP : va_P D vwCl [(h0, .inr (1, vL 18 F219)), (h_length, .inl (cI, 12, .inl g46)), (h_drop, .inl (cI, 12, .inl g96)), (h_ideal, .inl (cI, 12, .inl g146)), (p0, .inr (6, vL 12 F180)), (h_p0_bytes, .inl (cB, 940, .inl f_p0_bytes)), (h_p0_wordNames, .inl (cJ, 23, .inr (.inl f_p0_wordNames))), (h_over, .inl (cI, 12, .inl f_over))] H := hP
            have hD : va_D A [(h0, .inr (1, vL 18 F219)), (h_length, .inl (cI, 12, .inl g46)), (h_drop, .inl (cI, 12, .inl g96)), (h_ideal, .inl (cI, 12, .inl g146)), (p0, .inr (6, vL 12 F180)), (h_p0_bytes, .inl (cB, 940, .inl f_p0_bytes)), (h_p0_wordNames, .inl (cJ, 23, .inr (.inl f_p0_wordNames))), (h_over, .inl (cI, 12, .inl f_over))] := hD
            refine lv_iload_n hx hb dX1_readBend_115 rfl (lv_at hl 0 rfl) ?_
            exact ret_i (v := 0) hx hb hr hlocks hS (hP.sub (ws' := [(h0, .inr (1, vL 18 F219)), (h_length, .inl (cI, 12, .inl g46)), (h_drop, .inl (cI, 12, .inl g96)), (h_ideal, .inl (cI, 12, .inl g146)), (h_over, .inl (cI, 12, .inl f_over)), (p0, .inr (6, vL 12 F180)), (h_p0_bytes, .inl (cB, 940, .inl f_p0_bytes)), (h_p0_wordNames, .inl (cJ, 23, .inr (.inl f_p0_wordNames)))]) [0, 1, 2, 3, 7, 4, 5, 6] rfl) (hD.sub (ws' := [(h0, .inr (1, vL 18 F219)), (h_length, .inl (cI, 12, .inl g46)), (h_drop, .inl (cI, 12, .inl g96)), (h_ideal, .inl (cI, 12, .inl g146)), (h_over, .inl (cI, 12, .inl f_over)), (p0, .inr (6, vL 12 F180)), (h_p0_bytes, .inl (cB, 940, .inl f_p0_bytes)), (h_p0_wordNames, .inl (cJ, 23, .inr (.inl f_p0_wordNames)))]) [0, 1, 2, 3, 7, 4, 5, 6] (by decide) rfl) dX1_readBend_116 rfl (Nat.le_of_ble_eq_true rfl) (Nat.le_of_ble_eq_true rfl) (Or.inl ⟨F219, v217, F180, y141, y142, y143, y144, y181, y182, y145, g46, g96, g146, (SAME.up eF219 SAME.rf (by decide)), (get_eq eF219), (ir_wk k218 (by decide) (by decide)), (SAME.tr (SAME.tr (SAME.tr (SAME.tr (SAME.tr SAME.rf t10 (by decide)) t47 (by decide)) t97 (by decide)) t147 (by decide)) t183 (by decide)), (SAME.at t183 (by decide) t148), (SAME.at t183 (by decide) t150), (SAME.at t183 (by decide) t152), (SAME.at t183 (by decide) t153), t184, (ir_wk t185 (by decide) (by decide)), t186, (SAME.at t183 (by decide) t154), t155, (fun tl yd ms rs => cBend_3 (show ¬ 12 ≤ x_bends.toInt by omega) (at_tk t19 (by omega)) t62 t112 t162 t189), rfl, rfl⟩)
          · refine hp.elim (fun F190 h9z0 => h9z0.elim (fun y191 h9z1 => h9z1.elim (fun y192 h9z2 => h9z2.elim (fun y193 h9z3 => h9z3.elim (fun y194 h9z4 => h9z4.elim (fun y195 h9z5 => h9z5.elim (fun g196 h9z6 => h9z6.elim (fun t197 h9z7 => h9z7.elim (fun t198 h9z8 => h9z8.elim (fun t199 h9z9 => h9z9.elim (fun t200 h9z10 => h9z10.elim (fun t201 h9z11 => h9z11.elim (fun t202 h9z12 => h9z12.elim (fun t203 h9z13 => h9z13.elim (fun t204 h9z14 => h9z14.elim (fun t205 h9z15 => h9z15.elim (fun t206 h9z16 => h9z16.elim (fun t207 h9z17 => h9z17.elim (fun t208 h9z18 => h9z18.elim (fun t209 h9z19 => h9z19.elim (fun t210 h9z20 => h9z20.elim (fun t211 h9z21 => h9z21.elim (fun t212 h9z22 => h9z22.elim (fun t213 h9z23 => h9z23.elim (fun t214 h9z24 => h9z24.elim (fun t215 h9z25 => h9z25.elim (fun heq926 h9z26 => ?_)))))))))))))))))))))))))))
            clear h9z0 h9z1 h9z2 h9z3 h9z4 h9z5 h9z6 h9z7 h9z8 h9z9 h9z10 h9z11 h9z12 h9z13 h9z14 h9z15 h9z16 h9z17 h9z18 h9z19 h9z20 h9z21 h9z22 h9z23 h9z24 h9z25
            subst heq926
            subst h9z26
            have hP : va_P D vwCl [(h0, .inr (1, vL 18 Fh)), (h_length, .inl (cI, 12, .inl g46)), (h_drop, .inl (cI, 12, .inl g96)), (h_ideal, .inl (cI, 12, .inl g146)), (p0, .inr (6, vL 12 F190)), (h_p0_bytes, .inl (cB, 940, .inl f_p0_bytes)), (h_p0_wordNames, .inl (cJ, 23, .inr (.inl f_p0_wordNames))), (h_over, .inl (cI, 12, .inl g196))] H := hP
            have hD : va_D A [(h0, .inr (1, vL 18 Fh)), (h_length, .inl (cI, 12, .inl g46)), (h_drop, .inl (cI, 12, .inl g96)), (h_ideal, .inl (cI, 12, .inl g146)), (p0, .inr (6, vL 12 F190)), (h_p0_bytes, .inl (cB, 940, .inl f_p0_bytes)), (h_p0_wordNames, .inl (cJ, 23, .inr (.inl f_p0_wordNames))), (h_over, .inl (cI, 12, .inl g196))] := hD
            refine W.widen (k := 0) (n := 0) (Nat.le_of_ble_eq_true rfl) (Nat.le_of_ble_eq_true rfl) ?_
            have k220 : 3 ≤ y141.toInt ∧ y141.toInt ≤ 3 := ⟨Int.le_trans (Int.le_refl _) (Int.le_of_eq t208.symm), Int.le_trans (Int.le_of_eq t208) (Int.le_refl _)⟩
            have k221 : 1 ≤ y143.toInt ∧ y143.toInt ≤ 2147483647 := ⟨Int.le_trans (Int.le_refl _) t209, (ir_any _).2⟩
            have k222 : 1 ≤ y143.toInt ∧ y143.toInt ≤ 99 := ⟨k221.1, Int.le_trans t210 (Int.le_refl _)⟩
            refine lv_if_eq (tgt := 95) hx hb dX1_readBend_88 (by decide) (fun g => absurd g (by decide)) (fun _ => ?_)
            refine lv_iconst (v := 1) hx hb dX1_readBend_91 (by decide) ?_
            refine lv_goto (tgt := 96) hx hb dX1_readBend_92 (by decide) ?_
            refine lv_istore_n (lv' := [(2, .int 1), (0, .ref h0), (1, .ref p0)]) hx hb dX1_readBend_96 rfl hl (by decide) rfl (fun ls hl => ?_)
            refine lv_aload_n hx hb dX1_readBend_97 rfl (lv_at hl 1 rfl) ?_
            refine lv_dup hx hb dX1_readBend_98 rfl ?_
            refine get_f (D := D) (ci := 1) (v := .int x_bends) (C := RX1) (T := TX1) (N := 18) hx hb hw inAX1 hown hK hP 0 rfl rfl 14 (by decide) (hw _ q_354) (fun _ h9 => h9) e_bends dX1_readBend_99 ?_
            refine lv_iload_n hx hb dX1_readBend_102 rfl (lv_at hl 0 rfl) ?_
            refine lv_if_eq (tgt := 110) hx hb dX1_readBend_103 (by decide) (fun g => absurd g (by decide)) (fun _ => ?_)
            refine lv_iconst (v := 1) hx hb dX1_readBend_106 (by decide) ?_
            refine lv_goto (tgt := 111) hx hb dX1_readBend_107 (by decide) ?_
            refine lv_iadd hx hb dX1_readBend_111 ?_
            refine lv_topi (fun v223 ev223 => ?_)
            have bv223 : v223.toInt = x_bends.toInt + 1 := by rw [ev223]; exact add_k rfl rfl k2 ⟨Int.le_refl _, Int.le_refl _⟩ (by decide)
            have k224 : 1 ≤ v223.toInt ∧ v223.toInt ≤ 12 := add_r bv223 k2 ⟨Int.le_refl _, Int.le_refl _⟩ (by decide)
            refine put_f (D := D) (ci := 1) (v := .int v223) (ty := .int) (C := RX1) (T := TX1) (N := 18) hx hb hw inAX1 tyX1 tyX1_ok nmX1 hown hK hP hD hS 0 rfl rfl 14 (by decide) (hw _ q_354) (fun _ h9 => h9) rfl (by decide +kernel) rfl rfl dX1_readBend_112 (fun H locs F225 eF225 hP hD hS => ?_)
            have hP : va_P D vwCl [(h0, .inr (1, vL 18 F225)), (h_length, .inl (cI, 12, .inl g46)), (h_drop, .inl (cI, 12, .inl g96)), (h_ideal, .inl (cI, 12, .inl g146)), (p0, .inr (6, vL 12 F190)), (h_p0_bytes, .inl (cB, 940, .inl f_p0_bytes)), (h_p0_wordNames, .inl (cJ, 23, .inr (.inl f_p0_wordNames))), (h_over, .inl (cI, 12, .inl g196))] H := hP
            have hD : va_D A [(h0, .inr (1, vL 18 F225)), (h_length, .inl (cI, 12, .inl g46)), (h_drop, .inl (cI, 12, .inl g96)), (h_ideal, .inl (cI, 12, .inl g146)), (p0, .inr (6, vL 12 F190)), (h_p0_bytes, .inl (cB, 940, .inl f_p0_bytes)), (h_p0_wordNames, .inl (cJ, 23, .inr (.inl f_p0_wordNames))), (h_over, .inl (cI, 12, .inl g196))] := hD
            refine lv_iload_n hx hb dX1_readBend_115 rfl (lv_at hl 0 rfl) ?_
            exact ret_i (v := 1) hx hb hr hlocks hS (hP.sub (ws' := [(h0, .inr (1, vL 18 F225)), (h_length, .inl (cI, 12, .inl g46)), (h_drop, .inl (cI, 12, .inl g96)), (h_ideal, .inl (cI, 12, .inl g146)), (h_over, .inl (cI, 12, .inl g196)), (p0, .inr (6, vL 12 F190)), (h_p0_bytes, .inl (cB, 940, .inl f_p0_bytes)), (h_p0_wordNames, .inl (cJ, 23, .inr (.inl f_p0_wordNames)))]) [0, 1, 2, 3, 7, 4, 5, 6] rfl) (hD.sub (ws' := [(h0, .inr (1, vL 18 F225)), (h_length, .inl (cI, 12, .inl g46)), (h_drop, .inl (cI, 12, .inl g96)), (h_ideal, .inl (cI, 12, .inl g146)), (h_over, .inl (cI, 12, .inl g196)), (p0, .inr (6, vL 12 F190)), (h_p0_bytes, .inl (cB, 940, .inl f_p0_bytes)), (h_p0_wordNames, .inl (cJ, 23, .inr (.inl f_p0_wordNames)))]) [0, 1, 2, 3, 7, 4, 5, 6] (by decide) rfl) dX1_readBend_116 rfl (Nat.le_of_ble_eq_true rfl) (Nat.le_of_ble_eq_true rfl) (Or.inr ⟨F225, v223, F190, y191, y192, y193, y194, y195, g46, g96, g146, g196, (SAME.up eF225 SAME.rf (by decide)), (get_eq eF225), k224, (SAME.tr (SAME.tr (SAME.tr (SAME.tr (SAME.tr SAME.rf t10 (by decide)) t47 (by decide)) t97 (by decide)) t147 (by decide)) t197 (by decide)), t198, t199, t200, t201, t202, t203, t204, t205, dc1, t56, (fun tl yd ms rs => cBend_o (show ¬ 12 ≤ x_bends.toInt by omega) (at_tk t19 (by omega)) t62 t112 t162 t212 (show _ = x_bends.toInt + 1 by omega)), t214, rfl, rfl⟩)
  · have dc1 : 12 ≤ x_bends.toInt := nlt_i (a := x_bends.toInt) (b := 12) rfl rfl c1
    have k226 : 12 ≤ x_bends.toInt ∧ x_bends.toInt ≤ 12 := ⟨Int.le_trans (Int.le_refl _) dc1, i_x_bends.2⟩
    refine lv_aload_n hx hb dX1_readBend_9 rfl (lv_at hl 1 rfl) ?_
    refine lv_iconst (v := 4) hx hb dX1_readBend_10 (by decide) ?_
    refine call_Vi (wr := [(h0, .inr (1, vL 18 Fh)), (h_length, .inl (cI, 12, .inl f_length)), (h_drop, .inl (cI, 12, .inl f_drop)), (h_ideal, .inl (cI, 12, .inl f_ideal)), (h_over, .inl (cI, 12, .inl f_over)), (h_p0_bytes, .inl (cB, 940, .inl f_p0_bytes)), (h_p0_wordNames, .inl (cJ, 23, .inr (.inl f_p0_wordNames)))]) (As := [.int 4]) (rest := []) hx hb hml hown hw (m_X6_fail l D cI cJ cB cP cM cZ p0 F_p0_ x_p0_place 4 _ e_p0_place) wV_X1_128_X6_fail dX1_readBend_11 hK hP hD hS hA [5] [0, 1, 2, 3, 4, 6, 7] rfl rfl (by decide) (by decide) (by decide) 0 6 rfl rfl GG.fb hG.at hl.1 rfl (Nat.le_of_ble_eq_true rfl) ⟨(Nat.le_of_ble_eq_true rfl), (Nat.le_of_ble_eq_true rfl)⟩ ⟨(Nat.le_of_ble_eq_true rfl), (Nat.le_of_ble_eq_true rfl)⟩ (fun r227 u H locs hp hP hD hS => ?_)
    have zl4 : (4 : Int32).toInt = 4 := by decide
    obtain ⟨F228, t229, t230, t231, rfl, rfl⟩ := hp
    have hP : va_P D vwCl [(h0, .inr (1, vL 18 Fh)), (h_length, .inl (cI, 12, .inl f_length)), (h_drop, .inl (cI, 12, .inl f_drop)), (h_ideal, .inl (cI, 12, .inl f_ideal)), (h_over, .inl (cI, 12, .inl f_over)), (h_p0_bytes, .inl (cB, 940, .inl f_p0_bytes)), (h_p0_wordNames, .inl (cJ, 23, .inr (.inl f_p0_wordNames))), (p0, .inr (6, vL 12 F228))] H := hP
    have hD : va_D A [(h0, .inr (1, vL 18 Fh)), (h_length, .inl (cI, 12, .inl f_length)), (h_drop, .inl (cI, 12, .inl f_drop)), (h_ideal, .inl (cI, 12, .inl f_ideal)), (h_over, .inl (cI, 12, .inl f_over)), (h_p0_bytes, .inl (cB, 940, .inl f_p0_bytes)), (h_p0_wordNames, .inl (cJ, 23, .inr (.inl f_p0_wordNames))), (p0, .inr (6, vL 12 F228))] := hD
    refine W.widen (k := 0) (n := 0) (Nat.le_of_ble_eq_true rfl) (Nat.le_of_ble_eq_true rfl) ?_
    exact ret_i (v := 0) hx hb hr hlocks hS (hP.sub (ws' := [(h0, .inr (1, vL 18 Fh)), (h_length, .inl (cI, 12, .inl f_length)), (h_drop, .inl (cI, 12, .inl f_drop)), (h_ideal, .inl (cI, 12, .inl f_ideal)), (h_over, .inl (cI, 12, .inl f_over)), (p0, .inr (6, vL 12 F228)), (h_p0_bytes, .inl (cB, 940, .inl f_p0_bytes)), (h_p0_wordNames, .inl (cJ, 23, .inr (.inl f_p0_wordNames)))]) [0, 1, 2, 3, 4, 7, 5, 6] rfl) (hD.sub (ws' := [(h0, .inr (1, vL 18 Fh)), (h_length, .inl (cI, 12, .inl f_length)), (h_drop, .inl (cI, 12, .inl f_drop)), (h_ideal, .inl (cI, 12, .inl f_ideal)), (h_over, .inl (cI, 12, .inl f_over)), (p0, .inr (6, vL 12 F228)), (h_p0_bytes, .inl (cB, 940, .inl f_p0_bytes)), (h_p0_wordNames, .inl (cJ, 23, .inr (.inl f_p0_wordNames)))]) [0, 1, 2, 3, 4, 7, 5, 6] (by decide) rfl) dX1_readBend_14 rfl (Nat.le_of_ble_eq_true rfl) (Nat.le_of_ble_eq_true rfl) (Or.inl ⟨Fh, x_bends, F228, x_p0_kind, x_p0_place, x_p0_value, x_p0_name, 4, x_p0_place, x_p0_at, f_length, f_drop, f_ideal, SAME.rf, e_bends, (ir_wk k226 (by decide) (by decide)), (SAME.tr SAME.rf t229 (by decide)), (SAME.at t229 (by decide) e_p0_kind), (SAME.at t229 (by decide) e_p0_place), (SAME.at t229 (by decide) e_p0_value), (SAME.at t229 (by decide) e_p0_name), t230, (show 1 ≤ (4 : Int32).toInt ∧ (4 : Int32).toInt ≤ 4 by decide), t231, (SAME.at t229 (by decide) e_p0_at), i_x_p0_at, (fun tl yd ms rs => inl_eq (cBend_m (show 12 ≤ x_bends.toInt by omega)) (by decide) tkC_pl.symm), rfl, rfl⟩)
