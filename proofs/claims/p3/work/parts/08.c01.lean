set_option maxHeartbeats 4000000 in
set_option maxRecDepth 100000 in
theorem m_X6_hasRoom (l : Launch) (D : va_G) (cI cJ cB cP cM cZ : ClassId) (h0 : Nat) (Fh : Nat → Value) (x_length : Int32) (sz : Nat) (e_length : Fh 1 = .int x_length) (i_x_length : IR 0 940 x_length) : CI l yX6_hasRoom cX6_hasRoom 1 (some .boolean) { frames := 0, cells := 0, slots := 0, locals := 0 } (GG D cI cJ cB cP cM cZ) D [(h0, .inr (6, vL 12 Fh))] sz [.ref h0] (fun (r : Int32) (u : va_W) => IR 0 1 r ∧ ((r.toInt = 1 ∧ x_length.toInt ≤ 920) ∨ (r.toInt = 0 ∧ 920 < x_length.toInt)) ∧ u = [(h0, .inr (6, vL 12 Fh))]) := by
  refine CI_mk (by decide) (Nat.le_of_ble_eq_true rfl) ?_
  intro p e s m below meth c A ls E hAe hG hsz hP hD hA hS hl
  obtain ⟨hx, hb, hr, hw, hown, hlocks, hml, hnm⟩ := E
  have hK := hG.1
  have i_x_length : 0 ≤ x_length.toInt ∧ x_length.toInt ≤ 940 := i_x_length
  have hl : lv_has ls 1 [(0, .ref h0)] := hl
  refine lv_aload_n hx hb dX6_hasRoom_0 rfl (lv_at hl 0 rfl) ?_
  refine get_f (D := D) (ci := 6) (v := .int x_length) (C := RX6) (T := TX6) (N := 12) hx hb hw inAX6 hown hK hP 0 rfl rfl 1 (by decide) (hw _ q_90) (fun _ h9 => h9) e_length dX6_hasRoom_1 ?_
  refine lv_bipush (v := 20) hx hb dX6_hasRoom_4 (by decide) ?_
  refine lv_iadd hx hb dX6_hasRoom_6 ?_
  refine lv_topi (fun v1 ev1 => ?_)
  have bv1 : v1.toInt = x_length.toInt + 20 := by rw [ev1]; exact add_k rfl rfl i_x_length ⟨Int.le_refl _, Int.le_refl _⟩ (by decide)
  have k2 : 20 ≤ v1.toInt ∧ v1.toInt ≤ 960 := add_r bv1 i_x_length ⟨Int.le_refl _, Int.le_refl _⟩ (by decide)
  refine lv_sipush (v := 940) hx hb dX6_hasRoom_7 (by decide) ?_
  refine lv_icmp_gt (tgt := 17) hx hb dX6_hasRoom_10 (by decide) (fun c3 => ?_) (fun c3 => ?_)
  · have dc3 : 940 < v1.toInt := lt_i (a := 940) (b := v1.toInt) rfl rfl c3
    have k4 : 941 ≤ v1.toInt ∧ v1.toInt ≤ 960 := ⟨lo_lt dc3 (Int.le_refl _) (by decide), k2.2⟩
    have k5 : 921 ≤ x_length.toInt ∧ x_length.toInt ≤ 940 := ⟨lin_lo bv1 k4.1 (by decide), i_x_length.2⟩
    refine lv_iconst (v := 0) hx hb dX6_hasRoom_17 (by decide) ?_
    exact ret_i (v := 0) hx hb hr hlocks hS hP hD dX6_hasRoom_18 rfl (Nat.le_of_ble_eq_true rfl) (Nat.le_of_ble_eq_true rfl) ⟨(show 0 ≤ (0 : Int32).toInt ∧ (0 : Int32).toInt ≤ 1 by decide), (by have zl0 : (0 : Int32).toInt = 0 := (by decide); omega), rfl⟩
  · have dc3 : v1.toInt ≤ 940 := nlt_i (a := 940) (b := v1.toInt) rfl rfl c3
    have k6 : 20 ≤ v1.toInt ∧ v1.toInt ≤ 940 := ⟨k2.1, Int.le_trans dc3 (Int.le_refl _)⟩
    have k7 : 0 ≤ x_length.toInt ∧ x_length.toInt ≤ 920 := ⟨i_x_length.1, lin_hi bv1 k6.2 (by decide)⟩
    refine lv_iconst (v := 1) hx hb dX6_hasRoom_13 (by decide) ?_
    refine lv_goto (tgt := 18) hx hb dX6_hasRoom_14 (by decide) ?_
    exact ret_i (v := 1) hx hb hr hlocks hS hP hD dX6_hasRoom_18 rfl (Nat.le_of_ble_eq_true rfl) (Nat.le_of_ble_eq_true rfl) ⟨(show 0 ≤ (1 : Int32).toInt ∧ (1 : Int32).toInt ≤ 1 by decide), (by have zl1 : (1 : Int32).toInt = 1 := (by decide); omega), rfl⟩
set_option maxHeartbeats 4000000 in
set_option maxRecDepth 100000 in
theorem m_X6_append (l : Launch) (D : va_G) (cI cJ cB cP cM cZ : ClassId) (h0 : Nat) (h_bytes : Nat) (Fh : Nat → Value) (x_length : Int32) (f_bytes : Nat → Int32) (p0 : Int32) (sz : Nat) (e_bytes : Fh 0 = .ref h_bytes) (e_length : Fh 1 = .int x_length) (i_x_length : IR 0 940 x_length) : CV l yX6_append cX6_append 3 none { frames := 0, cells := 0, slots := 0, locals := 0 } (GG D cI cJ cB cP cM cZ) D [(h0, .inr (6, vL 12 Fh)), (h_bytes, .inl (cB, 940, .inl f_bytes))] sz [.ref h0, .int p0] (fun (u : va_W) => ∃ (Gh : Nat → Value) (y_length : Int32) (g_bytes : Nat → Int32), SAME [1] Fh Gh ∧ Gh 1 = .int y_length ∧ IR 0 940 y_length ∧ ((x_length.toInt ≤ 936 → y_length.toInt = x_length.toInt + 4)) ∧ u = [(h0, .inr (6, vL 12 Gh)), (h_bytes, .inl (cB, 940, .inl g_bytes))]) := by
  refine CV_mk (by decide) (Nat.le_of_ble_eq_true rfl) ?_
  intro p e s m below meth c A ls E hAe hG hsz hP hD hA hS hl
  obtain ⟨hx, hb, hr, hw, hown, hlocks, hml, hnm⟩ := E
  have hK := hG.1
  have i_x_length : 0 ≤ x_length.toInt ∧ x_length.toInt ≤ 940 := i_x_length
  have hl : lv_has ls 3 [(0, .ref h0), (1, .int p0)] := hl
  refine lv_bipush (v := 24) hx hb dX6_append_0 (by decide) ?_
  refine lv_istore_n (lv' := [(2, .int 24), (0, .ref h0), (1, .int p0)]) hx hb dX6_append_2 rfl hl (by decide) rfl (fun ls hl => ?_)
  refine mloop (α := (Int32) × (Nat → Value) × (Int32) × (Nat → Int32)) (nL := 3) (D := D) (A := A) (H0 := s.heap) (fun a => (a.1.toInt + 8).toNat) (fun a => IR (-8) 24 a.1 ∧ SAME [1] Fh a.2.1 ∧ a.2.1 1 = .int a.2.2.1 ∧ IR 0 940 a.2.2.1 ∧ ((x_length.toInt ≤ 936 → 8 * a.2.2.1.toInt = 8 * x_length.toInt + 24 - a.1.toInt))) (fun a => [(h0, .inr (6, vL 12 a.2.1)), (h_bytes, .inl (cB, 940, .inl a.2.2.2))]) (fun a => [(2, .int a.1), (0, .ref h0), (1, .int p0)]) (fun H locs ls => W p l e ({ frames := 0, cells := 0, slots := 0, locals := 0 } : Room) s m [.ref h0, .int p0].toArray below meth c H locs 0 0 (MQ below (va_Qv (fun (u : va_W) => ∃ (Gh : Nat → Value) (y_length : Int32) (g_bytes : Nat → Int32), SAME [1] Fh Gh ∧ Gh 1 = .int y_length ∧ IR 0 940 y_length ∧ ((x_length.toInt ≤ 936 → y_length.toInt = x_length.toInt + 4)) ∧ u = [(h0, .inr (6, vL 12 Gh)), (h_bytes, .inl (cB, 940, .inl g_bytes))]) (PO D A) A) [.ref h0, .int p0].toArray s 0 0 A) (F0 m 3 ls [])) ?_ (24, Fh, x_length, f_bytes) ⟨(show (-8) ≤ (24 : Int32).toInt ∧ (24 : Int32).toInt ≤ 24 by decide), SAME.rf, e_length, i_x_length, (by show (x_length.toInt ≤ 936 → 8 * x_length.toInt = 8 * x_length.toInt + 24 - 24); omega)⟩ _ _ _ hP hD hS hl
  rintro ⟨u1, G2, u3, w4⟩ ⟨i5, i6, i7, i8, i9⟩ ih H locs ls hP hD hS hl
  have i5 : (-8) ≤ u1.toInt ∧ u1.toInt ≤ 24 := i5
  have i8 : 0 ≤ u3.toInt ∧ u3.toInt ≤ 940 := i8
  have i9 : (x_length.toInt ≤ 936 → 8 * u3.toInt = 8 * x_length.toInt + 24 - u1.toInt) := i9
  have hP : va_P D vwCl [(h0, .inr (6, vL 12 G2)), (h_bytes, .inl (cB, 940, .inl w4))] H := hP
  have hD : va_D A [(h0, .inr (6, vL 12 G2)), (h_bytes, .inl (cB, 940, .inl w4))] := hD
  have hl : lv_has ls 3 [(2, .int u1), (0, .ref h0), (1, .int p0)] := hl
  refine lv_iload_n hx hb dX6_append_3 rfl (lv_at hl 0 rfl) ?_
  refine lv_if_lt (tgt := 46) hx hb dX6_append_4 (by decide) (fun c10 => ?_) (fun c10 => ?_)
  · have dc10 : u1.toInt < 0 := lt_i (a := u1.toInt) (b := 0) rfl rfl c10
    have k11 : (-8) ≤ u1.toInt ∧ u1.toInt ≤ (-1) := ⟨i5.1, up_lt dc10 (Int.le_refl _) (by decide)⟩
    exact ret_v hx hb hr hlocks hS hP hD dX6_append_46 (Nat.le_of_ble_eq_true rfl) (Nat.le_of_ble_eq_true rfl) ⟨G2, u3, w4, (SAME.tr SAME.rf i6 (by decide)), i7, i8, (by omega), rfl⟩
  · have dc10 : 0 ≤ u1.toInt := nlt_i (a := u1.toInt) (b := 0) rfl rfl c10
    have k12 : 0 ≤ u1.toInt ∧ u1.toInt ≤ 24 := ⟨Int.le_trans (Int.le_refl _) dc10, i5.2⟩
    refine lv_aload_n hx hb dX6_append_7 rfl (lv_at hl 1 rfl) ?_
    refine get_f (D := D) (ci := 6) (v := .int u3) (C := RX6) (T := TX6) (N := 12) hx hb hw inAX6 hown hK hP 0 rfl rfl 1 (by decide) (hw _ q_90) (fun _ h9 => h9) i7 dX6_append_8 ?_
    refine lv_sipush (v := 940) hx hb dX6_append_11 (by decide) ?_
    refine lv_icmp_ge (tgt := 46) hx hb dX6_append_14 (by decide) (fun c13 => ?_) (fun c13 => ?_)
    · have dc13 : 940 ≤ u3.toInt := le_i (a := 940) (b := u3.toInt) rfl rfl c13
      have k14 : 940 ≤ u3.toInt ∧ u3.toInt ≤ 940 := ⟨Int.le_trans (Int.le_refl _) dc13, i8.2⟩
      exact ret_v hx hb hr hlocks hS hP hD dX6_append_46 (Nat.le_of_ble_eq_true rfl) (Nat.le_of_ble_eq_true rfl) ⟨G2, u3, w4, (SAME.tr SAME.rf i6 (by decide)), i7, (ir_wk k14 (by decide) (by decide)), (by omega), rfl⟩
    · have dc13 : u3.toInt < 940 := nle_i (a := 940) (b := u3.toInt) rfl rfl c13
      have k15 : 0 ≤ u3.toInt ∧ u3.toInt ≤ 939 := ⟨i8.1, up_lt dc13 (Int.le_refl _) (by decide)⟩
      refine lv_aload_n hx hb dX6_append_17 rfl (lv_at hl 1 rfl) ?_
      have n16 : G2 0 = .ref h_bytes := (SAME.at i6 (by decide) e_bytes)
      refine get_f (D := D) (ci := 6) (v := .ref h_bytes) (C := RX6) (T := TX6) (N := 12) hx hb hw inAX6 hown hK hP 0 rfl rfl 0 (by decide) (hw _ q_89) (fun _ h9 => h9) n16 dX6_append_18 ?_
      refine lv_aload_n hx hb dX6_append_21 rfl (lv_at hl 1 rfl) ?_
      refine get_f (D := D) (ci := 6) (v := .int u3) (C := RX6) (T := TX6) (N := 12) hx hb hw inAX6 hown hK hP 0 rfl rfl 1 (by decide) (hw _ q_90) (fun _ h9 => h9) i7 dX6_append_22 ?_
      refine lv_iload_n hx hb dX6_append_25 rfl (lv_at hl 2 rfl) ?_
      refine lv_iload_n hx hb dX6_append_26 rfl (lv_at hl 0 rfl) ?_
      obtain ⟨v17, ev17⟩ : ∃ z : Int32, ((p0 : Int32).toUInt32 >>> ((u1 : Int32).toUInt32 &&& Int32.toUInt32 31)).toInt32 = z := ⟨_, rfl⟩
      refine lv_iushr (v := v17) hx hb dX6_append_27 ev17 ?_
      obtain ⟨v18, ev18⟩ : ∃ z : Int32, (v17 : Int32).toInt8.toInt32 = z := ⟨_, rfl⟩
      refine lv_i2b (v := v18) hx hb dX6_append_28 ev18 ?_
      obtain ⟨g19, eg19⟩ : ∃ z : Nat → Int32, upd w4 u3.toNatClampNeg (vp_nar .byte v18) = z := ⟨_, rfl⟩
      refine bast_g hx hb hK hP hD hS 1 2 rfl rfl (ix_k k15 (by decide) (by decide)) eg19 dX6_append_29 (fun H locs hP hD hS => ?_)
      have hP : va_P D vwCl [(h0, .inr (6, vL 12 G2)), (h_bytes, .inl (cB, 940, .inl g19))] H := hP
      have hD : va_D A [(h0, .inr (6, vL 12 G2)), (h_bytes, .inl (cB, 940, .inl g19))] := hD
      refine lv_aload_n hx hb dX6_append_30 rfl (lv_at hl 1 rfl) ?_
      refine lv_dup hx hb dX6_append_31 rfl ?_
      refine get_f (D := D) (ci := 6) (v := .int u3) (C := RX6) (T := TX6) (N := 12) hx hb hw inAX6 hown hK hP 0 rfl rfl 1 (by decide) (hw _ q_90) (fun _ h9 => h9) i7 dX6_append_32 ?_
      refine lv_iconst (v := 1) hx hb dX6_append_35 (by decide) ?_
      refine lv_iadd hx hb dX6_append_36 ?_
      refine lv_topi (fun v20 ev20 => ?_)
      have bv20 : v20.toInt = u3.toInt + 1 := by rw [ev20]; exact add_k rfl rfl k15 ⟨Int.le_refl _, Int.le_refl _⟩ (by decide)
      have k21 : 1 ≤ v20.toInt ∧ v20.toInt ≤ 940 := add_r bv20 k15 ⟨Int.le_refl _, Int.le_refl _⟩ (by decide)
      refine put_f (D := D) (ci := 6) (v := .int v20) (ty := .int) (C := RX6) (T := TX6) (N := 12) hx hb hw inAX6 tyX6 tyX6_ok nmX6 hown hK hP hD hS 0 rfl rfl 1 (by decide) (hw _ q_90) (fun _ h9 => h9) rfl (by decide +kernel) rfl rfl dX6_append_37 (fun H locs F22 eF22 hP hD hS => ?_)
      have hP : va_P D vwCl [(h0, .inr (6, vL 12 F22)), (h_bytes, .inl (cB, 940, .inl g19))] H := hP
      have hD : va_D A [(h0, .inr (6, vL 12 F22)), (h_bytes, .inl (cB, 940, .inl g19))] := hD
      obtain ⟨v23, ev23⟩ : ∃ z : Int32, z = u1 + (-8) := ⟨_, rfl⟩
      have bv23 : v23.toInt = u1.toInt + (-8) := by rw [ev23]; exact add_k rfl rfl k12 ⟨Int.le_refl _, Int.le_refl _⟩ (by decide)
      have k24 : (-8) ≤ v23.toInt ∧ v23.toInt ≤ 16 := add_r bv23 k12 ⟨Int.le_refl _, Int.le_refl _⟩ (by decide)
      refine lv_iinc (v := v23) (lv' := [(2, .int v23), (0, .ref h0), (1, .int p0)]) hx hb dX6_append_40 hl (k := 0) rfl (by rw [ev23]; rfl) (by decide) rfl (fun ls hl => ?_)
      refine lv_goto (tgt := 3) hx hb dX6_append_43 (by decide) ?_
      exact ih (v23, F22, v20, g19) ⟨(ir_wk k24 (by decide) (by decide)), (SAME.up eF22 (SAME.tr SAME.rf i6 (by decide)) (by decide)), (get_eq eF22), (ir_wk k21 (by decide) (by decide)), (by show (x_length.toInt ≤ 936 → 8 * v20.toInt = 8 * x_length.toInt + 24 - v23.toInt); omega)⟩ (by show (v23.toInt + 8).toNat < (u1.toInt + 8).toNat; omega) _ _ _ hP hD hS (lv_sub hl [0, 1, 2] rfl)
set_option maxHeartbeats 4000000 in
set_option maxRecDepth 100000 in
theorem m_X9_feed (l : Launch) (D : va_G) (cI cJ cB cP cM cZ : ClassId) (h0 : Nat) (h_tape : Nat) (h_tape_bytes : Nat) (h_tape_wordNames : Nat) (Fh : Nat → Value) (F_tape_ : Nat → Value) (x_tape_length : Int32) (f_tape_bytes : Nat → Int32) (f_tape_wordNames : Nat → Int64) (p0 : Int32) (p1 : Int32) (p2 : Int32) (p3 : Int32) (p4 : Int32) (sz : Nat) (e_tape : Fh 0 = .ref h_tape) (e_tape_bytes : F_tape_ 0 = .ref h_tape_bytes) (e_tape_length : F_tape_ 1 = .int x_tape_length) (i_x_tape_length : IR 0 940 x_tape_length) (e_tape_wordNames : F_tape_ 9 = .ref h_tape_wordNames) : CI l yX9_feed cX9_feed 6 (some .int) { frames := 1, cells := 0, slots := 0, locals := 22 } (GG D cI cJ cB cP cM cZ) D [(h0, .inr (9, vL 19 Fh)), (h_tape, .inr (6, vL 12 F_tape_)), (h_tape_bytes, .inl (cB, 940, .inl f_tape_bytes)), (h_tape_wordNames, .inl (cJ, 23, .inr (.inl f_tape_wordNames)))] sz [.ref h0, .int p0, .int p1, .int p2, .int p3, .int p4] (fun (r : Int32) (u : va_W) => ∃ (G_tape_ : Nat → Value) (y_tape_length : Int32) (g_tape_bytes : Nat → Int32), SAME [1] F_tape_ G_tape_ ∧ G_tape_ 1 = .int y_tape_length ∧ IR 0 940 y_tape_length ∧ IR (-1) 940 r ∧ ((x_tape_length.toInt ≤ 920 → r.toInt = x_tape_length.toInt + 20 ∧ y_tape_length.toInt = x_tape_length.toInt + 20) ∧ (920 < x_tape_length.toInt → r.toInt = -1 ∧ y_tape_length.toInt = x_tape_length.toInt)) ∧ u = [(h0, .inr (9, vL 19 Fh)), (h_tape, .inr (6, vL 12 G_tape_)), (h_tape_bytes, .inl (cB, 940, .inl g_tape_bytes)), (h_tape_wordNames, .inl (cJ, 23, .inr (.inl f_tape_wordNames)))]) := by
  refine CI_mk (by decide) (Nat.le_of_ble_eq_true rfl) ?_
  intro p e s m below meth c A ls E hAe hG hsz hP hD hA hS hl
  obtain ⟨hx, hb, hr, hw, hown, hlocks, hml, hnm⟩ := E
  have hK := hG.1
  have i_x_tape_length : 0 ≤ x_tape_length.toInt ∧ x_tape_length.toInt ≤ 940 := i_x_tape_length
  have hl : lv_has ls 6 [(0, .ref h0), (1, .int p0), (2, .int p1), (3, .int p2), (4, .int p3), (5, .int p4)] := hl
  refine lv_aload_n hx hb dX9_feed_0 rfl (lv_at hl 0 rfl) ?_
  refine get_f (D := D) (ci := 9) (v := .ref h_tape) (C := RX9) (T := TX9) (N := 19) hx hb hw inAX9 hown hK hP 0 rfl rfl 0 (by decide) (hw _ q_440) (fun _ h9 => h9) e_tape dX9_feed_1 ?_
  refine call_Vi (wr := [(h0, .inr (9, vL 19 Fh)), (h_tape_bytes, .inl (cB, 940, .inl f_tape_bytes)), (h_tape_wordNames, .inl (cJ, 23, .inr (.inl f_tape_wordNames)))]) (As := []) (rest := []) hx hb hml hown hw (m_X6_hasRoom l D cI cJ cB cP cM cZ h_tape F_tape_ x_tape_length _ e_tape_length i_x_tape_length) wV_X9_102_X6_hasRoom dX9_feed_4 hK hP hD hS hA [1] [0, 2, 3] rfl rfl (by decide) (by decide) (by decide) 0 6 rfl rfl GG.fb hG.at hl.1 rfl (Nat.le_of_ble_eq_true rfl) ⟨(Nat.le_of_ble_eq_true rfl), (Nat.le_of_ble_eq_true rfl)⟩ ⟨(Nat.le_of_ble_eq_true rfl), (Nat.le_of_ble_eq_true rfl)⟩ (fun r1 u H locs hp hP hD hS => ?_)
  obtain ⟨t2, t3, rfl⟩ := hp
  have hP : va_P D vwCl [(h0, .inr (9, vL 19 Fh)), (h_tape_bytes, .inl (cB, 940, .inl f_tape_bytes)), (h_tape_wordNames, .inl (cJ, 23, .inr (.inl f_tape_wordNames))), (h_tape, .inr (6, vL 12 F_tape_))] H := hP
  have hD : va_D A [(h0, .inr (9, vL 19 Fh)), (h_tape_bytes, .inl (cB, 940, .inl f_tape_bytes)), (h_tape_wordNames, .inl (cJ, 23, .inr (.inl f_tape_wordNames))), (h_tape, .inr (6, vL 12 F_tape_))] := hD
  refine W.widen (k := 0) (n := 0) (Nat.le_of_ble_eq_true rfl) (Nat.le_of_ble_eq_true rfl) ?_
  refine lv_if_ne (tgt := 12) hx hb dX9_feed_7 (by decide) (fun c5 => ?_) (fun c5 => ?_)
  · have dc5 : r1.toInt ≠ 0 := ne_i (a := r1.toInt) (b := 0) rfl rfl c5
    have k6 : 1 ≤ r1.toInt ∧ r1.toInt ≤ 1 := ⟨ne_lo dc5 t2.1 ⟨Int.le_refl _, Int.le_refl _⟩ (by decide), t2.2⟩
    refine lv_aload_n hx hb dX9_feed_12 rfl (lv_at hl 0 rfl) ?_
    refine get_f (D := D) (ci := 9) (v := .ref h_tape) (C := RX9) (T := TX9) (N := 19) hx hb hw inAX9 hown hK hP 0 rfl rfl 0 (by decide) (hw _ q_440) (fun _ h9 => h9) e_tape dX9_feed_13 ?_
    refine lv_iload_n hx hb dX9_feed_16 rfl (lv_at hl 1 rfl) ?_
    refine call_Vv (wr := [(h0, .inr (9, vL 19 Fh)), (h_tape_wordNames, .inl (cJ, 23, .inr (.inl f_tape_wordNames)))]) (As := [.int p0]) (rest := []) hx hb hml hown hw (m_X6_append l D cI cJ cB cP cM cZ h_tape h_tape_bytes F_tape_ x_tape_length f_tape_bytes p0 _ e_tape_bytes e_tape_length i_x_tape_length) wV_X9_106_X6_append dX9_feed_17 hK hP hD hS hA [3, 1] [0, 2] rfl rfl (by decide) (by decide) (by decide) 0 6 rfl rfl GG.fb hG.at hl.1 rfl (Nat.le_of_ble_eq_true rfl) ⟨(Nat.le_of_ble_eq_true rfl), (Nat.le_of_ble_eq_true rfl)⟩ ⟨(Nat.le_of_ble_eq_true rfl), (Nat.le_of_ble_eq_true rfl)⟩ (fun u H locs hp hP hD hS => ?_)
    obtain ⟨F8, y9, g10, t11, t12, t13, t14, rfl⟩ := hp
    have hP : va_P D vwCl [(h0, .inr (9, vL 19 Fh)), (h_tape_wordNames, .inl (cJ, 23, .inr (.inl f_tape_wordNames))), (h_tape, .inr (6, vL 12 F8)), (h_tape_bytes, .inl (cB, 940, .inl g10))] H := hP
    have hD : va_D A [(h0, .inr (9, vL 19 Fh)), (h_tape_wordNames, .inl (cJ, 23, .inr (.inl f_tape_wordNames))), (h_tape, .inr (6, vL 12 F8)), (h_tape_bytes, .inl (cB, 940, .inl g10))] := hD
    refine W.widen (k := 0) (n := 0) (Nat.le_of_ble_eq_true rfl) (Nat.le_of_ble_eq_true rfl) ?_
    refine lv_aload_n hx hb dX9_feed_20 rfl (lv_at hl 0 rfl) ?_
    refine get_f (D := D) (ci := 9) (v := .ref h_tape) (C := RX9) (T := TX9) (N := 19) hx hb hw inAX9 hown hK hP 0 rfl rfl 0 (by decide) (hw _ q_440) (fun _ h9 => h9) e_tape dX9_feed_21 ?_
    refine lv_iload_n hx hb dX9_feed_24 rfl (lv_at hl 2 rfl) ?_
    have n16 : F8 0 = .ref h_tape_bytes := (SAME.at t11 (by decide) e_tape_bytes)
    refine call_Vv (wr := [(h0, .inr (9, vL 19 Fh)), (h_tape_wordNames, .inl (cJ, 23, .inr (.inl f_tape_wordNames)))]) (As := [.int p1]) (rest := []) hx hb hml hown hw (m_X6_append l D cI cJ cB cP cM cZ h_tape h_tape_bytes F8 y9 g10 p1 _ n16 t12 t13) wV_X9_106_X6_append dX9_feed_25 hK hP hD hS hA [2, 3] [0, 1] rfl rfl (by decide) (by decide) (by decide) 0 6 rfl rfl GG.fb hG.at hl.1 rfl (Nat.le_of_ble_eq_true rfl) ⟨(Nat.le_of_ble_eq_true rfl), (Nat.le_of_ble_eq_true rfl)⟩ ⟨(Nat.le_of_ble_eq_true rfl), (Nat.le_of_ble_eq_true rfl)⟩ (fun u H locs hp hP hD hS => ?_)
    obtain ⟨F18, y19, g20, t21, t22, t23, t24, rfl⟩ := hp
    have hP : va_P D vwCl [(h0, .inr (9, vL 19 Fh)), (h_tape_wordNames, .inl (cJ, 23, .inr (.inl f_tape_wordNames))), (h_tape, .inr (6, vL 12 F18)), (h_tape_bytes, .inl (cB, 940, .inl g20))] H := hP
    have hD : va_D A [(h0, .inr (9, vL 19 Fh)), (h_tape_wordNames, .inl (cJ, 23, .inr (.inl f_tape_wordNames))), (h_tape, .inr (6, vL 12 F18)), (h_tape_bytes, .inl (cB, 940, .inl g20))] := hD
    refine W.widen (k := 0) (n := 0) (Nat.le_of_ble_eq_true rfl) (Nat.le_of_ble_eq_true rfl) ?_
    refine lv_aload_n hx hb dX9_feed_28 rfl (lv_at hl 0 rfl) ?_
    refine get_f (D := D) (ci := 9) (v := .ref h_tape) (C := RX9) (T := TX9) (N := 19) hx hb hw inAX9 hown hK hP 0 rfl rfl 0 (by decide) (hw _ q_440) (fun _ h9 => h9) e_tape dX9_feed_29 ?_
    refine lv_iload_n hx hb dX9_feed_32 rfl (lv_at hl 3 rfl) ?_
    have n26 : F18 0 = .ref h_tape_bytes := (SAME.at t21 (by decide) n16)
    refine call_Vv (wr := [(h0, .inr (9, vL 19 Fh)), (h_tape_wordNames, .inl (cJ, 23, .inr (.inl f_tape_wordNames)))]) (As := [.int p2]) (rest := []) hx hb hml hown hw (m_X6_append l D cI cJ cB cP cM cZ h_tape h_tape_bytes F18 y19 g20 p2 _ n26 t22 t23) wV_X9_106_X6_append dX9_feed_33 hK hP hD hS hA [2, 3] [0, 1] rfl rfl (by decide) (by decide) (by decide) 0 6 rfl rfl GG.fb hG.at hl.1 rfl (Nat.le_of_ble_eq_true rfl) ⟨(Nat.le_of_ble_eq_true rfl), (Nat.le_of_ble_eq_true rfl)⟩ ⟨(Nat.le_of_ble_eq_true rfl), (Nat.le_of_ble_eq_true rfl)⟩ (fun u H locs hp hP hD hS => ?_)
    obtain ⟨F28, y29, g30, t31, t32, t33, t34, rfl⟩ := hp
    have hP : va_P D vwCl [(h0, .inr (9, vL 19 Fh)), (h_tape_wordNames, .inl (cJ, 23, .inr (.inl f_tape_wordNames))), (h_tape, .inr (6, vL 12 F28)), (h_tape_bytes, .inl (cB, 940, .inl g30))] H := hP
    have hD : va_D A [(h0, .inr (9, vL 19 Fh)), (h_tape_wordNames, .inl (cJ, 23, .inr (.inl f_tape_wordNames))), (h_tape, .inr (6, vL 12 F28)), (h_tape_bytes, .inl (cB, 940, .inl g30))] := hD
    refine W.widen (k := 0) (n := 0) (Nat.le_of_ble_eq_true rfl) (Nat.le_of_ble_eq_true rfl) ?_
    refine lv_aload_n hx hb dX9_feed_36 rfl (lv_at hl 0 rfl) ?_
    refine get_f (D := D) (ci := 9) (v := .ref h_tape) (C := RX9) (T := TX9) (N := 19) hx hb hw inAX9 hown hK hP 0 rfl rfl 0 (by decide) (hw _ q_440) (fun _ h9 => h9) e_tape dX9_feed_37 ?_
    refine lv_iload hx hb dX9_feed_40 (lv_at hl 4 rfl) ?_
    have n36 : F28 0 = .ref h_tape_bytes := (SAME.at t31 (by decide) n26)
    refine call_Vv (wr := [(h0, .inr (9, vL 19 Fh)), (h_tape_wordNames, .inl (cJ, 23, .inr (.inl f_tape_wordNames)))]) (As := [.int p3]) (rest := []) hx hb hml hown hw (m_X6_append l D cI cJ cB cP cM cZ h_tape h_tape_bytes F28 y29 g30 p3 _ n36 t32 t33) wV_X9_106_X6_append dX9_feed_42 hK hP hD hS hA [2, 3] [0, 1] rfl rfl (by decide) (by decide) (by decide) 0 6 rfl rfl GG.fb hG.at hl.1 rfl (Nat.le_of_ble_eq_true rfl) ⟨(Nat.le_of_ble_eq_true rfl), (Nat.le_of_ble_eq_true rfl)⟩ ⟨(Nat.le_of_ble_eq_true rfl), (Nat.le_of_ble_eq_true rfl)⟩ (fun u H locs hp hP hD hS => ?_)
    obtain ⟨F38, y39, g40, t41, t42, t43, t44, rfl⟩ := hp
    have hP : va_P D vwCl [(h0, .inr (9, vL 19 Fh)), (h_tape_wordNames, .inl (cJ, 23, .inr (.inl f_tape_wordNames))), (h_tape, .inr (6, vL 12 F38)), (h_tape_bytes, .inl (cB, 940, .inl g40))] H := hP
    have hD : va_D A [(h0, .inr (9, vL 19 Fh)), (h_tape_wordNames, .inl (cJ, 23, .inr (.inl f_tape_wordNames))), (h_tape, .inr (6, vL 12 F38)), (h_tape_bytes, .inl (cB, 940, .inl g40))] := hD
    refine W.widen (k := 0) (n := 0) (Nat.le_of_ble_eq_true rfl) (Nat.le_of_ble_eq_true rfl) ?_
    refine lv_aload_n hx hb dX9_feed_45 rfl (lv_at hl 0 rfl) ?_
    refine get_f (D := D) (ci := 9) (v := .ref h_tape) (C := RX9) (T := TX9) (N := 19) hx hb hw inAX9 hown hK hP 0 rfl rfl 0 (by decide) (hw _ q_440) (fun _ h9 => h9) e_tape dX9_feed_46 ?_
    refine lv_iload hx hb dX9_feed_49 (lv_at hl 5 rfl) ?_
    have n46 : F38 0 = .ref h_tape_bytes := (SAME.at t41 (by decide) n36)
    refine call_Vv (wr := [(h0, .inr (9, vL 19 Fh)), (h_tape_wordNames, .inl (cJ, 23, .inr (.inl f_tape_wordNames)))]) (As := [.int p4]) (rest := []) hx hb hml hown hw (m_X6_append l D cI cJ cB cP cM cZ h_tape h_tape_bytes F38 y39 g40 p4 _ n46 t42 t43) wV_X9_106_X6_append dX9_feed_51 hK hP hD hS hA [2, 3] [0, 1] rfl rfl (by decide) (by decide) (by decide) 0 6 rfl rfl GG.fb hG.at hl.1 rfl (Nat.le_of_ble_eq_true rfl) ⟨(Nat.le_of_ble_eq_true rfl), (Nat.le_of_ble_eq_true rfl)⟩ ⟨(Nat.le_of_ble_eq_true rfl), (Nat.le_of_ble_eq_true rfl)⟩ (fun u H locs hp hP hD hS => ?_)
    obtain ⟨F48, y49, g50, t51, t52, t53, t54, rfl⟩ := hp
    have hP : va_P D vwCl [(h0, .inr (9, vL 19 Fh)), (h_tape_wordNames, .inl (cJ, 23, .inr (.inl f_tape_wordNames))), (h_tape, .inr (6, vL 12 F48)), (h_tape_bytes, .inl (cB, 940, .inl g50))] H := hP
    have hD : va_D A [(h0, .inr (9, vL 19 Fh)), (h_tape_wordNames, .inl (cJ, 23, .inr (.inl f_tape_wordNames))), (h_tape, .inr (6, vL 12 F48)), (h_tape_bytes, .inl (cB, 940, .inl g50))] := hD
    refine W.widen (k := 0) (n := 0) (Nat.le_of_ble_eq_true rfl) (Nat.le_of_ble_eq_true rfl) ?_
    refine lv_aload_n hx hb dX9_feed_54 rfl (lv_at hl 0 rfl) ?_
    refine get_f (D := D) (ci := 9) (v := .ref h_tape) (C := RX9) (T := TX9) (N := 19) hx hb hw inAX9 hown hK hP 0 rfl rfl 0 (by decide) (hw _ q_440) (fun _ h9 => h9) e_tape dX9_feed_55 ?_
    refine get_f (D := D) (ci := 6) (v := .int y49) (C := RX6) (T := TX6) (N := 12) hx hb hw inAX6 hown hK hP 2 rfl rfl 1 (by decide) (hw _ q_91) (fun _ h9 => h9) t52 dX9_feed_58 ?_
    exact ret_i (v := y49) hx hb hr hlocks hS (hP.sub (ws' := [(h0, .inr (9, vL 19 Fh)), (h_tape, .inr (6, vL 12 F48)), (h_tape_bytes, .inl (cB, 940, .inl g50)), (h_tape_wordNames, .inl (cJ, 23, .inr (.inl f_tape_wordNames)))]) [0, 2, 3, 1] rfl) (hD.sub (ws' := [(h0, .inr (9, vL 19 Fh)), (h_tape, .inr (6, vL 12 F48)), (h_tape_bytes, .inl (cB, 940, .inl g50)), (h_tape_wordNames, .inl (cJ, 23, .inr (.inl f_tape_wordNames)))]) [0, 2, 3, 1] (by decide) rfl) dX9_feed_61 rfl (Nat.le_of_ble_eq_true rfl) (Nat.le_of_ble_eq_true rfl) ⟨F48, y49, g50, (SAME.tr (SAME.tr (SAME.tr (SAME.tr (SAME.tr SAME.rf t11 (by decide)) t21 (by decide)) t31 (by decide)) t41 (by decide)) t51 (by decide)), t52, t53, (ir_wk t53 (by decide) (by decide)), (by omega), rfl⟩
  · have dc5 : r1.toInt = 0 := eq_i (a := r1.toInt) (b := 0) rfl rfl c5
    have k56 : 0 ≤ r1.toInt ∧ r1.toInt ≤ 0 := ⟨t2.1, Int.le_trans (Int.le_of_eq dc5) (Int.le_refl _)⟩
    refine lv_iconst (v := (-1)) hx hb dX9_feed_10 (by decide) ?_
    exact ret_i (v := (-1)) hx hb hr hlocks hS (hP.sub (ws' := [(h0, .inr (9, vL 19 Fh)), (h_tape, .inr (6, vL 12 F_tape_)), (h_tape_bytes, .inl (cB, 940, .inl f_tape_bytes)), (h_tape_wordNames, .inl (cJ, 23, .inr (.inl f_tape_wordNames)))]) [0, 3, 1, 2] rfl) (hD.sub (ws' := [(h0, .inr (9, vL 19 Fh)), (h_tape, .inr (6, vL 12 F_tape_)), (h_tape_bytes, .inl (cB, 940, .inl f_tape_bytes)), (h_tape_wordNames, .inl (cJ, 23, .inr (.inl f_tape_wordNames)))]) [0, 3, 1, 2] (by decide) rfl) dX9_feed_11 rfl (Nat.le_of_ble_eq_true rfl) (Nat.le_of_ble_eq_true rfl) ⟨F_tape_, x_tape_length, f_tape_bytes, SAME.rf, e_tape_length, i_x_tape_length, (show (-1) ≤ ((-1) : Int32).toInt ∧ ((-1) : Int32).toInt ≤ 940 by decide), (by have zlm1 : ((-1) : Int32).toInt = (-1) := (by decide); omega), rfl⟩
set_option maxHeartbeats 4000000 in
set_option maxRecDepth 100000 in
theorem m_X9_end (l : Launch) (D : va_G) (cI cJ cB cP cM cZ : ClassId) (h0 : Nat) (h_tape : Nat) (h_tape_bytes : Nat) (h_tape_wordNames : Nat) (Fh : Nat → Value) (F_tape_ : Nat → Value) (x_tape_length : Int32) (f_tape_bytes : Nat → Int32) (f_tape_wordNames : Nat → Int64) (p0 : Int32) (sz : Nat) (e_tape : Fh 0 = .ref h_tape) (e_tape_bytes : F_tape_ 0 = .ref h_tape_bytes) (e_tape_length : F_tape_ 1 = .int x_tape_length) (i_x_tape_length : IR 0 940 x_tape_length) (e_tape_wordNames : F_tape_ 9 = .ref h_tape_wordNames) : CI l yX9_end cX9_end 2 (some .boolean) { frames := 0, cells := 0, slots := 0, locals := 0 } (GG D cI cJ cB cP cM cZ) D [(h0, .inr (9, vL 19 Fh)), (h_tape, .inr (6, vL 12 F_tape_)), (h_tape_bytes, .inl (cB, 940, .inl f_tape_bytes)), (h_tape_wordNames, .inl (cJ, 23, .inr (.inl f_tape_wordNames)))] sz [.ref h0, .int p0] (fun (r : Int32) (u : va_W) => ∃ (G_tape_ : Nat → Value) (y_tape_length : Int32), SAME [1] F_tape_ G_tape_ ∧ G_tape_ 1 = .int y_tape_length ∧ IR 0 940 y_tape_length ∧ IR 0 1 r ∧ ((0 ≤ p0.toInt → p0.toInt ≤ x_tape_length.toInt → r.toInt = 1 ∧ y_tape_length.toInt = p0.toInt) ∧ ((p0.toInt < 0 ∨ x_tape_length.toInt < p0.toInt) → r.toInt = 0 ∧ y_tape_length.toInt = x_tape_length.toInt)) ∧ u = [(h0, .inr (9, vL 19 Fh)), (h_tape, .inr (6, vL 12 G_tape_)), (h_tape_bytes, .inl (cB, 940, .inl f_tape_bytes)), (h_tape_wordNames, .inl (cJ, 23, .inr (.inl f_tape_wordNames)))]) := by
  refine CI_mk (by decide) (Nat.le_of_ble_eq_true rfl) ?_
  intro p e s m below meth c A ls E hAe hG hsz hP hD hA hS hl
  obtain ⟨hx, hb, hr, hw, hown, hlocks, hml, hnm⟩ := E
  have hK := hG.1
  have i_x_tape_length : 0 ≤ x_tape_length.toInt ∧ x_tape_length.toInt ≤ 940 := i_x_tape_length
  have hl : lv_has ls 2 [(0, .ref h0), (1, .int p0)] := hl
  refine lv_iload_n hx hb dX9_end_0 rfl (lv_at hl 1 rfl) ?_
  refine lv_if_lt (tgt := 15) hx hb dX9_end_1 (by decide) (fun c1 => ?_) (fun c1 => ?_)
  · have dc1 : p0.toInt < 0 := lt_i (a := p0.toInt) (b := 0) rfl rfl c1
    have k2 : (-2147483648) ≤ p0.toInt ∧ p0.toInt ≤ (-1) := ⟨(ir_any _).1, up_lt dc1 (Int.le_refl _) (by decide)⟩
    refine lv_iconst (v := 0) hx hb dX9_end_15 (by decide) ?_
    exact ret_i (v := 0) hx hb hr hlocks hS hP hD dX9_end_16 rfl (Nat.le_of_ble_eq_true rfl) (Nat.le_of_ble_eq_true rfl) ⟨F_tape_, x_tape_length, SAME.rf, e_tape_length, i_x_tape_length, (show 0 ≤ (0 : Int32).toInt ∧ (0 : Int32).toInt ≤ 1 by decide), (by have zl0 : (0 : Int32).toInt = 0 := (by decide); omega), rfl⟩
  · have dc1 : 0 ≤ p0.toInt := nlt_i (a := p0.toInt) (b := 0) rfl rfl c1
    have k3 : 0 ≤ p0.toInt ∧ p0.toInt ≤ 2147483647 := ⟨Int.le_trans (Int.le_refl _) dc1, (ir_any _).2⟩
    refine lv_iload_n hx hb dX9_end_4 rfl (lv_at hl 1 rfl) ?_
    refine lv_aload_n hx hb dX9_end_5 rfl (lv_at hl 0 rfl) ?_
    refine get_f (D := D) (ci := 9) (v := .ref h_tape) (C := RX9) (T := TX9) (N := 19) hx hb hw inAX9 hown hK hP 0 rfl rfl 0 (by decide) (hw _ q_440) (fun _ h9 => h9) e_tape dX9_end_6 ?_
    refine get_f (D := D) (ci := 6) (v := .int x_tape_length) (C := RX6) (T := TX6) (N := 12) hx hb hw inAX6 hown hK hP 1 rfl rfl 1 (by decide) (hw _ q_91) (fun _ h9 => h9) e_tape_length dX9_end_9 ?_
    refine lv_icmp_le (tgt := 17) hx hb dX9_end_12 (by decide) (fun c4 => ?_) (fun c4 => ?_)
    · have dc4 : p0.toInt ≤ x_tape_length.toInt := le_i (a := p0.toInt) (b := x_tape_length.toInt) rfl rfl c4
      have k5 : 0 ≤ p0.toInt ∧ p0.toInt ≤ 940 := ⟨k3.1, Int.le_trans dc4 i_x_tape_length.2⟩
      refine lv_aload_n hx hb dX9_end_17 rfl (lv_at hl 0 rfl) ?_
      refine get_f (D := D) (ci := 9) (v := .ref h_tape) (C := RX9) (T := TX9) (N := 19) hx hb hw inAX9 hown hK hP 0 rfl rfl 0 (by decide) (hw _ q_440) (fun _ h9 => h9) e_tape dX9_end_18 ?_
      refine lv_iload_n hx hb dX9_end_21 rfl (lv_at hl 1 rfl) ?_
      refine put_f (D := D) (ci := 6) (v := .int p0) (ty := .int) (C := RX6) (T := TX6) (N := 12) hx hb hw inAX6 tyX6 tyX6_ok nmX6 hown hK hP hD hS 1 rfl rfl 1 (by decide) (hw _ q_91) (fun _ h9 => h9) rfl (by decide +kernel) rfl rfl dX9_end_22 (fun H locs F6 eF6 hP hD hS => ?_)
      have hP : va_P D vwCl [(h0, .inr (9, vL 19 Fh)), (h_tape, .inr (6, vL 12 F6)), (h_tape_bytes, .inl (cB, 940, .inl f_tape_bytes)), (h_tape_wordNames, .inl (cJ, 23, .inr (.inl f_tape_wordNames)))] H := hP
      have hD : va_D A [(h0, .inr (9, vL 19 Fh)), (h_tape, .inr (6, vL 12 F6)), (h_tape_bytes, .inl (cB, 940, .inl f_tape_bytes)), (h_tape_wordNames, .inl (cJ, 23, .inr (.inl f_tape_wordNames)))] := hD
      refine lv_iconst (v := 1) hx hb dX9_end_25 (by decide) ?_
      exact ret_i (v := 1) hx hb hr hlocks hS hP hD dX9_end_26 rfl (Nat.le_of_ble_eq_true rfl) (Nat.le_of_ble_eq_true rfl) ⟨F6, p0, (SAME.up eF6 SAME.rf (by decide)), (get_eq eF6), k5, (show 0 ≤ (1 : Int32).toInt ∧ (1 : Int32).toInt ≤ 1 by decide), (by have zl1 : (1 : Int32).toInt = 1 := (by decide); omega), rfl⟩
    · have dc4 : x_tape_length.toInt < p0.toInt := nle_i (a := p0.toInt) (b := x_tape_length.toInt) rfl rfl c4
      have k7 : 1 ≤ p0.toInt ∧ p0.toInt ≤ 2147483647 := ⟨lo_lt dc4 i_x_tape_length.1 (by decide), k3.2⟩
      refine lv_iconst (v := 0) hx hb dX9_end_15 (by decide) ?_
      exact ret_i (v := 0) hx hb hr hlocks hS hP hD dX9_end_16 rfl (Nat.le_of_ble_eq_true rfl) (Nat.le_of_ble_eq_true rfl) ⟨F_tape_, x_tape_length, SAME.rf, e_tape_length, i_x_tape_length, (show 0 ≤ (0 : Int32).toInt ∧ (0 : Int32).toInt ≤ 1 by decide), (by have zl0 : (0 : Int32).toInt = 0 := (by decide); omega), rfl⟩
set_option maxHeartbeats 4000000 in
set_option maxRecDepth 100000 in
theorem m_X1_init (l : Launch) (D : va_G) (cI cJ cB cP cM cZ : ClassId) (z0 tU tL tM : Nat) (h0 : Nat) (Fh : Nat → Value) (p0 : Int32) (sz : Nat)  : CV l yX1_init cX1_init 2 none { frames := 1, cells := 12, slots := 119, locals := 40 } (GY D cI cJ cB cP cM cZ z0 tU tL tM [(h0, .inr (1, vL 18 Fh))]) D [(h0, .inr (1, vL 18 Fh))] sz [.ref h0, .int p0] (fun (u : va_W) => ∃ (Gh : Nat → Value) (n_settings : Nat) (n_manName : Nat) (n_push : Nat) (n_feet : Nat) (n_weight : Nat) (n_length : Nat) (n_drop : Nat) (n_ideal : Nat) (n_over : Nat) (n_runnerName : Nat) (n_bestAt : Nat) (n_bad : Nat) (g_settings : Nat → Int32) (g_manName : Nat → Int64) (g_push : Nat → Int32) (g_feet : Nat → Int32) (g_weight : Nat → Int32) (g_length : Nat → Int32) (g_drop : Nat → Int32) (g_ideal : Nat → Int32) (g_over : Nat → Int32) (g_runnerName : Nat → Int64) (g_bestAt : Nat → Int32) (g_bad : Nat → Int32), SAME [0, 1, 2, 3, 4, 5, 6, 7, 8, 9, 10, 11, 12, 13, 14, 15, 16, 17] Fh Gh ∧ Gh 0 = .int p0 ∧ Gh 1 = .ref n_settings ∧ Gh 2 = .ref n_manName ∧ Gh 3 = .ref n_push ∧ Gh 4 = .ref n_feet ∧ Gh 5 = .ref n_weight ∧ Gh 6 = .ref n_length ∧ Gh 7 = .ref n_drop ∧ Gh 8 = .ref n_ideal ∧ Gh 9 = .ref n_over ∧ Gh 10 = .ref n_runnerName ∧ Gh 11 = .ref n_bestAt ∧ Gh 12 = .ref n_bad ∧ Gh 13 = .int 0 ∧ Gh 14 = .int 0 ∧ Gh 15 = .int 0 ∧ Gh 16 = .int 0 ∧ Gh 17 = .int 0 ∧ SG 0 0 5 40 g_settings ∧ u = [(h0, .inr (1, vL 18 Gh)), (n_settings, .inl (cI, 5, .inl g_settings)), (n_manName, .inl (cJ, 12, .inr (.inl g_manName))), (n_push, .inl (cI, 12, .inl g_push)), (n_feet, .inl (cI, 12, .inl g_feet)), (n_weight, .inl (cI, 12, .inl g_weight)), (n_length, .inl (cI, 12, .inl g_length)), (n_drop, .inl (cI, 12, .inl g_drop)), (n_ideal, .inl (cI, 12, .inl g_ideal)), (n_over, .inl (cI, 12, .inl g_over)), (n_runnerName, .inl (cJ, 6, .inr (.inl g_runnerName))), (n_bestAt, .inl (cI, 6, .inl g_bestAt)), (n_bad, .inl (cI, 6, .inl g_bad))]) := by
  refine CV_mk (by decide) (Nat.le_of_ble_eq_true rfl) ?_
  intro p e s m below meth c A ls E hAe hG hsz hP hD hA hS hl
  obtain ⟨hx, hb, hr, hw, hown, hlocks, hml, hnm⟩ := E
  have hK := hG.1.1
  have hAz := hG.hAz hAe hsz
  have hST := hG.st hAz
  have hl : lv_has ls 2 [(0, .ref h0), (1, .int p0)] := hl
  refine lv_aload_n hx hb dX1_init_0 rfl (lv_at hl 0 rfl) ?_
  refine W.objInit hx hb hown (hw _ q_303) (hw _ q_30) (hw _ q_31) rfl (by rw [hml]; exact hl.1) rfl dX1_init_1 (Nat.le_of_ble_eq_true rfl) (Nat.le_of_ble_eq_true rfl) ?_
  refine W.eq (g2 := F0 m 4 ls []) rfl ?_
  refine lv_aload_n hx hb dX1_init_4 rfl (lv_at hl 0 rfl) ?_
  refine va_getsN hx hb hST.1 hS hown (va_Nw.use rfl (hG.1.2.1 (.fieldLinkNest "FourSledge$Course" 9 "FourSledge" "SETTING_USUAL" "[I" "FourSledge") (by decide +kernel))) (fun _ h9 => h9) dX1_init_5 ?_
  refine cloneT hx hb (hml.trans hl.1.symm) hown (hw _ q_306) (hw _ q_307) (hw _ q_308) (hw _ q_309) (hw _ q_310) (hG.1.2.1 _ (by decide +kernel)) hST.2.1 hS hK 0 rfl hP hD hA (Nat.le_of_ble_eq_true rfl) (Nat.le_of_ble_eq_true rfl) (Nat.le_of_ble_eq_true rfl) (Nat.le_of_ble_eq_true rfl) dX1_init_8 (fun q1 H hP hD hS => ?_)
  have hP : va_P D vwCl [(h0, .inr (1, vL 18 Fh)), (q1, .inl (cI, 5, .inl uF))] H := hP
  have hD : va_D A [(h0, .inr (1, vL 18 Fh)), (q1, .inl (cI, 5, .inl uF))] := hD
  refine W.widen (k := 1) (n := 5) (Nat.le_of_ble_eq_true rfl) (Nat.le_of_ble_eq_true rfl) ?_
  refine va_castA hx hb hown (hw _ q_312) hP 1 rfl (va_nm_int (hK.2 0 _ rfl).2) dX1_init_11 ?_
  refine put_fF (D := D) (ci := 1) (v := .ref q1) (ty := (.array .int)) (C := RX1) (T := TX1) (N := 18) hx hb hw inAX1 tyX1 tyX1_ok nmX1 hown hK hP hD hS 0 rfl rfl 1 (by decide) (hw _ q_315) (fun _ h9 => h9) rfl hnm rfl (by decide +kernel) rfl rfl dX1_init_14 (fun H locs F2 eF2 hP hD hS => ?_)
  have hP : va_P D vwCl [(h0, .inr (1, vL 18 F2)), (q1, .inl (cI, 5, .inl uF))] H := hP
  have hD : va_D A [(h0, .inr (1, vL 18 F2)), (q1, .inl (cI, 5, .inl uF))] := hD
  refine lv_aload_n hx hb dX1_init_17 rfl (lv_at hl 0 rfl) ?_
  refine lv_bipush (v := 12) hx hb dX1_init_18 (by decide) ?_
  refine newA (atype := .long) (ty := .long) (N' := 12) (a0 := (12, .inr <| .inl (fun _ => 0))) hx hb (hw _ q_138) rfl hK 1 rfl (by intro C; exact nofun) hP hD hS hA (fun cA => rfl) (by decide) (by decide +kernel) (Nat.le_of_ble_eq_true rfl) (Nat.le_of_ble_eq_true rfl) (Nat.le_of_ble_eq_true rfl) dX1_init_20 (fun q3 H hP hD hS => ?_)
  obtain ⟨g4, eg4⟩ : ∃ z : Nat → Int64, (fun _ => 0) = z := ⟨_, rfl⟩
  rw [eg4] at hP hD
  have hP : va_P D vwCl [(h0, .inr (1, vL 18 F2)), (q1, .inl (cI, 5, .inl uF)), (q3, .inl (cJ, 12, .inr (.inl g4)))] H := hP
  have hD : va_D A [(h0, .inr (1, vL 18 F2)), (q1, .inl (cI, 5, .inl uF)), (q3, .inl (cJ, 12, .inr (.inl g4)))] := hD
  refine W.widen (k := 2) (n := 17) (Nat.le_of_ble_eq_true rfl) (Nat.le_of_ble_eq_true rfl) ?_
  refine put_fF (D := D) (ci := 1) (v := .ref q3) (ty := (.array .long)) (C := RX1) (T := TX1) (N := 18) hx hb hw inAX1 tyX1 tyX1_ok nmX1 hown hK hP hD hS 0 rfl rfl 2 (by decide) (hw _ q_320) (fun _ h9 => h9) rfl hnm rfl (by decide +kernel) rfl rfl dX1_init_22 (fun H locs F5 eF5 hP hD hS => ?_)
  have hP : va_P D vwCl [(h0, .inr (1, vL 18 F5)), (q1, .inl (cI, 5, .inl uF)), (q3, .inl (cJ, 12, .inr (.inl g4)))] H := hP
  have hD : va_D A [(h0, .inr (1, vL 18 F5)), (q1, .inl (cI, 5, .inl uF)), (q3, .inl (cJ, 12, .inr (.inl g4)))] := hD
  refine lv_aload_n hx hb dX1_init_25 rfl (lv_at hl 0 rfl) ?_
  refine lv_bipush (v := 12) hx hb dX1_init_26 (by decide) ?_
  refine newA (atype := .int) (ty := .int) (N' := 12) (a0 := (12, .inl (fun _ => 0))) hx hb (hw _ q_198) rfl hK 0 rfl (by intro C; exact nofun) hP hD hS hA (fun cA => rfl) (by decide) (by decide +kernel) (Nat.le_of_ble_eq_true rfl) (Nat.le_of_ble_eq_true rfl) (Nat.le_of_ble_eq_true rfl) dX1_init_28 (fun q6 H hP hD hS => ?_)
  obtain ⟨g7, eg7⟩ : ∃ z : Nat → Int32, (fun _ => 0) = z := ⟨_, rfl⟩
  rw [eg7] at hP hD
  have hP : va_P D vwCl [(h0, .inr (1, vL 18 F5)), (q1, .inl (cI, 5, .inl uF)), (q3, .inl (cJ, 12, .inr (.inl g4))), (q6, .inl (cI, 12, .inl g7))] H := hP
  have hD : va_D A [(h0, .inr (1, vL 18 F5)), (q1, .inl (cI, 5, .inl uF)), (q3, .inl (cJ, 12, .inr (.inl g4))), (q6, .inl (cI, 12, .inl g7))] := hD
  refine W.widen (k := 3) (n := 29) (Nat.le_of_ble_eq_true rfl) (Nat.le_of_ble_eq_true rfl) ?_
  refine put_fF (D := D) (ci := 1) (v := .ref q6) (ty := (.array .int)) (C := RX1) (T := TX1) (N := 18) hx hb hw inAX1 tyX1 tyX1_ok nmX1 hown hK hP hD hS 0 rfl rfl 3 (by decide) (hw _ q_321) (fun _ h9 => h9) rfl hnm rfl (by decide +kernel) rfl rfl dX1_init_30 (fun H locs F8 eF8 hP hD hS => ?_)
  have hP : va_P D vwCl [(h0, .inr (1, vL 18 F8)), (q1, .inl (cI, 5, .inl uF)), (q3, .inl (cJ, 12, .inr (.inl g4))), (q6, .inl (cI, 12, .inl g7))] H := hP
  have hD : va_D A [(h0, .inr (1, vL 18 F8)), (q1, .inl (cI, 5, .inl uF)), (q3, .inl (cJ, 12, .inr (.inl g4))), (q6, .inl (cI, 12, .inl g7))] := hD
  refine lv_aload_n hx hb dX1_init_33 rfl (lv_at hl 0 rfl) ?_
  refine lv_bipush (v := 12) hx hb dX1_init_34 (by decide) ?_
  refine newA (atype := .int) (ty := .int) (N' := 12) (a0 := (12, .inl (fun _ => 0))) hx hb (hw _ q_198) rfl hK 0 rfl (by intro C; exact nofun) hP hD hS hA (fun cA => rfl) (by decide) (by decide +kernel) (Nat.le_of_ble_eq_true rfl) (Nat.le_of_ble_eq_true rfl) (Nat.le_of_ble_eq_true rfl) dX1_init_36 (fun q9 H hP hD hS => ?_)
  obtain ⟨g10, eg10⟩ : ∃ z : Nat → Int32, (fun _ => 0) = z := ⟨_, rfl⟩
  rw [eg10] at hP hD
  have hP : va_P D vwCl [(h0, .inr (1, vL 18 F8)), (q1, .inl (cI, 5, .inl uF)), (q3, .inl (cJ, 12, .inr (.inl g4))), (q6, .inl (cI, 12, .inl g7)), (q9, .inl (cI, 12, .inl g10))] H := hP
  have hD : va_D A [(h0, .inr (1, vL 18 F8)), (q1, .inl (cI, 5, .inl uF)), (q3, .inl (cJ, 12, .inr (.inl g4))), (q6, .inl (cI, 12, .inl g7)), (q9, .inl (cI, 12, .inl g10))] := hD
  refine W.widen (k := 4) (n := 41) (Nat.le_of_ble_eq_true rfl) (Nat.le_of_ble_eq_true rfl) ?_
  refine put_fF (D := D) (ci := 1) (v := .ref q9) (ty := (.array .int)) (C := RX1) (T := TX1) (N := 18) hx hb hw inAX1 tyX1 tyX1_ok nmX1 hown hK hP hD hS 0 rfl rfl 4 (by decide) (hw _ q_326) (fun _ h9 => h9) rfl hnm rfl (by decide +kernel) rfl rfl dX1_init_38 (fun H locs F11 eF11 hP hD hS => ?_)
  have hP : va_P D vwCl [(h0, .inr (1, vL 18 F11)), (q1, .inl (cI, 5, .inl uF)), (q3, .inl (cJ, 12, .inr (.inl g4))), (q6, .inl (cI, 12, .inl g7)), (q9, .inl (cI, 12, .inl g10))] H := hP
  have hD : va_D A [(h0, .inr (1, vL 18 F11)), (q1, .inl (cI, 5, .inl uF)), (q3, .inl (cJ, 12, .inr (.inl g4))), (q6, .inl (cI, 12, .inl g7)), (q9, .inl (cI, 12, .inl g10))] := hD
  refine lv_aload_n hx hb dX1_init_41 rfl (lv_at hl 0 rfl) ?_
  refine lv_bipush (v := 12) hx hb dX1_init_42 (by decide) ?_
  refine newA (atype := .int) (ty := .int) (N' := 12) (a0 := (12, .inl (fun _ => 0))) hx hb (hw _ q_198) rfl hK 0 rfl (by intro C; exact nofun) hP hD hS hA (fun cA => rfl) (by decide) (by decide +kernel) (Nat.le_of_ble_eq_true rfl) (Nat.le_of_ble_eq_true rfl) (Nat.le_of_ble_eq_true rfl) dX1_init_44 (fun q12 H hP hD hS => ?_)
  obtain ⟨g13, eg13⟩ : ∃ z : Nat → Int32, (fun _ => 0) = z := ⟨_, rfl⟩
  rw [eg13] at hP hD
  have hP : va_P D vwCl [(h0, .inr (1, vL 18 F11)), (q1, .inl (cI, 5, .inl uF)), (q3, .inl (cJ, 12, .inr (.inl g4))), (q6, .inl (cI, 12, .inl g7)), (q9, .inl (cI, 12, .inl g10)), (q12, .inl (cI, 12, .inl g13))] H := hP
  have hD : va_D A [(h0, .inr (1, vL 18 F11)), (q1, .inl (cI, 5, .inl uF)), (q3, .inl (cJ, 12, .inr (.inl g4))), (q6, .inl (cI, 12, .inl g7)), (q9, .inl (cI, 12, .inl g10)), (q12, .inl (cI, 12, .inl g13))] := hD
  refine W.widen (k := 5) (n := 53) (Nat.le_of_ble_eq_true rfl) (Nat.le_of_ble_eq_true rfl) ?_
  refine put_fF (D := D) (ci := 1) (v := .ref q12) (ty := (.array .int)) (C := RX1) (T := TX1) (N := 18) hx hb hw inAX1 tyX1 tyX1_ok nmX1 hown hK hP hD hS 0 rfl rfl 5 (by decide) (hw _ q_331) (fun _ h9 => h9) rfl hnm rfl (by decide +kernel) rfl rfl dX1_init_46 (fun H locs F14 eF14 hP hD hS => ?_)
  have hP : va_P D vwCl [(h0, .inr (1, vL 18 F14)), (q1, .inl (cI, 5, .inl uF)), (q3, .inl (cJ, 12, .inr (.inl g4))), (q6, .inl (cI, 12, .inl g7)), (q9, .inl (cI, 12, .inl g10)), (q12, .inl (cI, 12, .inl g13))] H := hP
  have hD : va_D A [(h0, .inr (1, vL 18 F14)), (q1, .inl (cI, 5, .inl uF)), (q3, .inl (cJ, 12, .inr (.inl g4))), (q6, .inl (cI, 12, .inl g7)), (q9, .inl (cI, 12, .inl g10)), (q12, .inl (cI, 12, .inl g13))] := hD
  refine lv_aload_n hx hb dX1_init_49 rfl (lv_at hl 0 rfl) ?_
  refine lv_bipush (v := 12) hx hb dX1_init_50 (by decide) ?_
  refine newA (atype := .int) (ty := .int) (N' := 12) (a0 := (12, .inl (fun _ => 0))) hx hb (hw _ q_198) rfl hK 0 rfl (by intro C; exact nofun) hP hD hS hA (fun cA => rfl) (by decide) (by decide +kernel) (Nat.le_of_ble_eq_true rfl) (Nat.le_of_ble_eq_true rfl) (Nat.le_of_ble_eq_true rfl) dX1_init_52 (fun q15 H hP hD hS => ?_)
  obtain ⟨g16, eg16⟩ : ∃ z : Nat → Int32, (fun _ => 0) = z := ⟨_, rfl⟩
  rw [eg16] at hP hD
  have hP : va_P D vwCl [(h0, .inr (1, vL 18 F14)), (q1, .inl (cI, 5, .inl uF)), (q3, .inl (cJ, 12, .inr (.inl g4))), (q6, .inl (cI, 12, .inl g7)), (q9, .inl (cI, 12, .inl g10)), (q12, .inl (cI, 12, .inl g13)), (q15, .inl (cI, 12, .inl g16))] H := hP
  have hD : va_D A [(h0, .inr (1, vL 18 F14)), (q1, .inl (cI, 5, .inl uF)), (q3, .inl (cJ, 12, .inr (.inl g4))), (q6, .inl (cI, 12, .inl g7)), (q9, .inl (cI, 12, .inl g10)), (q12, .inl (cI, 12, .inl g13)), (q15, .inl (cI, 12, .inl g16))] := hD
  refine W.widen (k := 6) (n := 65) (Nat.le_of_ble_eq_true rfl) (Nat.le_of_ble_eq_true rfl) ?_
  refine put_fF (D := D) (ci := 1) (v := .ref q15) (ty := (.array .int)) (C := RX1) (T := TX1) (N := 18) hx hb hw inAX1 tyX1 tyX1_ok nmX1 hown hK hP hD hS 0 rfl rfl 6 (by decide) (hw _ q_336) (fun _ h9 => h9) rfl hnm rfl (by decide +kernel) rfl rfl dX1_init_54 (fun H locs F17 eF17 hP hD hS => ?_)
  have hP : va_P D vwCl [(h0, .inr (1, vL 18 F17)), (q1, .inl (cI, 5, .inl uF)), (q3, .inl (cJ, 12, .inr (.inl g4))), (q6, .inl (cI, 12, .inl g7)), (q9, .inl (cI, 12, .inl g10)), (q12, .inl (cI, 12, .inl g13)), (q15, .inl (cI, 12, .inl g16))] H := hP
  have hD : va_D A [(h0, .inr (1, vL 18 F17)), (q1, .inl (cI, 5, .inl uF)), (q3, .inl (cJ, 12, .inr (.inl g4))), (q6, .inl (cI, 12, .inl g7)), (q9, .inl (cI, 12, .inl g10)), (q12, .inl (cI, 12, .inl g13)), (q15, .inl (cI, 12, .inl g16))] := hD
  refine lv_aload_n hx hb dX1_init_57 rfl (lv_at hl 0 rfl) ?_
  refine lv_bipush (v := 12) hx hb dX1_init_58 (by decide) ?_
  refine newA (atype := .int) (ty := .int) (N' := 12) (a0 := (12, .inl (fun _ => 0))) hx hb (hw _ q_198) rfl hK 0 rfl (by intro C; exact nofun) hP hD hS hA (fun cA => rfl) (by decide) (by decide +kernel) (Nat.le_of_ble_eq_true rfl) (Nat.le_of_ble_eq_true rfl) (Nat.le_of_ble_eq_true rfl) dX1_init_60 (fun q18 H hP hD hS => ?_)
  obtain ⟨g19, eg19⟩ : ∃ z : Nat → Int32, (fun _ => 0) = z := ⟨_, rfl⟩
  rw [eg19] at hP hD
  have hP : va_P D vwCl [(h0, .inr (1, vL 18 F17)), (q1, .inl (cI, 5, .inl uF)), (q3, .inl (cJ, 12, .inr (.inl g4))), (q6, .inl (cI, 12, .inl g7)), (q9, .inl (cI, 12, .inl g10)), (q12, .inl (cI, 12, .inl g13)), (q15, .inl (cI, 12, .inl g16)), (q18, .inl (cI, 12, .inl g19))] H := hP
  have hD : va_D A [(h0, .inr (1, vL 18 F17)), (q1, .inl (cI, 5, .inl uF)), (q3, .inl (cJ, 12, .inr (.inl g4))), (q6, .inl (cI, 12, .inl g7)), (q9, .inl (cI, 12, .inl g10)), (q12, .inl (cI, 12, .inl g13)), (q15, .inl (cI, 12, .inl g16)), (q18, .inl (cI, 12, .inl g19))] := hD
  refine W.widen (k := 7) (n := 77) (Nat.le_of_ble_eq_true rfl) (Nat.le_of_ble_eq_true rfl) ?_
  refine put_fF (D := D) (ci := 1) (v := .ref q18) (ty := (.array .int)) (C := RX1) (T := TX1) (N := 18) hx hb hw inAX1 tyX1 tyX1_ok nmX1 hown hK hP hD hS 0 rfl rfl 7 (by decide) (hw _ q_340) (fun _ h9 => h9) rfl hnm rfl (by decide +kernel) rfl rfl dX1_init_62 (fun H locs F20 eF20 hP hD hS => ?_)
  have hP : va_P D vwCl [(h0, .inr (1, vL 18 F20)), (q1, .inl (cI, 5, .inl uF)), (q3, .inl (cJ, 12, .inr (.inl g4))), (q6, .inl (cI, 12, .inl g7)), (q9, .inl (cI, 12, .inl g10)), (q12, .inl (cI, 12, .inl g13)), (q15, .inl (cI, 12, .inl g16)), (q18, .inl (cI, 12, .inl g19))] H := hP
  have hD : va_D A [(h0, .inr (1, vL 18 F20)), (q1, .inl (cI, 5, .inl uF)), (q3, .inl (cJ, 12, .inr (.inl g4))), (q6, .inl (cI, 12, .inl g7)), (q9, .inl (cI, 12, .inl g10)), (q12, .inl (cI, 12, .inl g13)), (q15, .inl (cI, 12, .inl g16)), (q18, .inl (cI, 12, .inl g19))] := hD
  refine lv_aload_n hx hb dX1_init_65 rfl (lv_at hl 0 rfl) ?_
  refine lv_bipush (v := 12) hx hb dX1_init_66 (by decide) ?_
  refine newA (atype := .int) (ty := .int) (N' := 12) (a0 := (12, .inl (fun _ => 0))) hx hb (hw _ q_198) rfl hK 0 rfl (by intro C; exact nofun) hP hD hS hA (fun cA => rfl) (by decide) (by decide +kernel) (Nat.le_of_ble_eq_true rfl) (Nat.le_of_ble_eq_true rfl) (Nat.le_of_ble_eq_true rfl) dX1_init_68 (fun q21 H hP hD hS => ?_)
  obtain ⟨g22, eg22⟩ : ∃ z : Nat → Int32, (fun _ => 0) = z := ⟨_, rfl⟩
  rw [eg22] at hP hD
  have hP : va_P D vwCl [(h0, .inr (1, vL 18 F20)), (q1, .inl (cI, 5, .inl uF)), (q3, .inl (cJ, 12, .inr (.inl g4))), (q6, .inl (cI, 12, .inl g7)), (q9, .inl (cI, 12, .inl g10)), (q12, .inl (cI, 12, .inl g13)), (q15, .inl (cI, 12, .inl g16)), (q18, .inl (cI, 12, .inl g19)), (q21, .inl (cI, 12, .inl g22))] H := hP
  have hD : va_D A [(h0, .inr (1, vL 18 F20)), (q1, .inl (cI, 5, .inl uF)), (q3, .inl (cJ, 12, .inr (.inl g4))), (q6, .inl (cI, 12, .inl g7)), (q9, .inl (cI, 12, .inl g10)), (q12, .inl (cI, 12, .inl g13)), (q15, .inl (cI, 12, .inl g16)), (q18, .inl (cI, 12, .inl g19)), (q21, .inl (cI, 12, .inl g22))] := hD
  refine W.widen (k := 8) (n := 89) (Nat.le_of_ble_eq_true rfl) (Nat.le_of_ble_eq_true rfl) ?_
  refine put_fF (D := D) (ci := 1) (v := .ref q21) (ty := (.array .int)) (C := RX1) (T := TX1) (N := 18) hx hb hw inAX1 tyX1 tyX1_ok nmX1 hown hK hP hD hS 0 rfl rfl 8 (by decide) (hw _ q_342) (fun _ h9 => h9) rfl hnm rfl (by decide +kernel) rfl rfl dX1_init_70 (fun H locs F23 eF23 hP hD hS => ?_)
  have hP : va_P D vwCl [(h0, .inr (1, vL 18 F23)), (q1, .inl (cI, 5, .inl uF)), (q3, .inl (cJ, 12, .inr (.inl g4))), (q6, .inl (cI, 12, .inl g7)), (q9, .inl (cI, 12, .inl g10)), (q12, .inl (cI, 12, .inl g13)), (q15, .inl (cI, 12, .inl g16)), (q18, .inl (cI, 12, .inl g19)), (q21, .inl (cI, 12, .inl g22))] H := hP
  have hD : va_D A [(h0, .inr (1, vL 18 F23)), (q1, .inl (cI, 5, .inl uF)), (q3, .inl (cJ, 12, .inr (.inl g4))), (q6, .inl (cI, 12, .inl g7)), (q9, .inl (cI, 12, .inl g10)), (q12, .inl (cI, 12, .inl g13)), (q15, .inl (cI, 12, .inl g16)), (q18, .inl (cI, 12, .inl g19)), (q21, .inl (cI, 12, .inl g22))] := hD
  refine lv_aload_n hx hb dX1_init_73 rfl (lv_at hl 0 rfl) ?_
  refine lv_bipush (v := 12) hx hb dX1_init_74 (by decide) ?_
  refine newA (atype := .int) (ty := .int) (N' := 12) (a0 := (12, .inl (fun _ => 0))) hx hb (hw _ q_198) rfl hK 0 rfl (by intro C; exact nofun) hP hD hS hA (fun cA => rfl) (by decide) (by decide +kernel) (Nat.le_of_ble_eq_true rfl) (Nat.le_of_ble_eq_true rfl) (Nat.le_of_ble_eq_true rfl) dX1_init_76 (fun q24 H hP hD hS => ?_)
  obtain ⟨g25, eg25⟩ : ∃ z : Nat → Int32, (fun _ => 0) = z := ⟨_, rfl⟩
  rw [eg25] at hP hD
  have hP : va_P D vwCl [(h0, .inr (1, vL 18 F23)), (q1, .inl (cI, 5, .inl uF)), (q3, .inl (cJ, 12, .inr (.inl g4))), (q6, .inl (cI, 12, .inl g7)), (q9, .inl (cI, 12, .inl g10)), (q12, .inl (cI, 12, .inl g13)), (q15, .inl (cI, 12, .inl g16)), (q18, .inl (cI, 12, .inl g19)), (q21, .inl (cI, 12, .inl g22)), (q24, .inl (cI, 12, .inl g25))] H := hP
  have hD : va_D A [(h0, .inr (1, vL 18 F23)), (q1, .inl (cI, 5, .inl uF)), (q3, .inl (cJ, 12, .inr (.inl g4))), (q6, .inl (cI, 12, .inl g7)), (q9, .inl (cI, 12, .inl g10)), (q12, .inl (cI, 12, .inl g13)), (q15, .inl (cI, 12, .inl g16)), (q18, .inl (cI, 12, .inl g19)), (q21, .inl (cI, 12, .inl g22)), (q24, .inl (cI, 12, .inl g25))] := hD
  refine W.widen (k := 9) (n := 101) (Nat.le_of_ble_eq_true rfl) (Nat.le_of_ble_eq_true rfl) ?_
  refine put_fF (D := D) (ci := 1) (v := .ref q24) (ty := (.array .int)) (C := RX1) (T := TX1) (N := 18) hx hb hw inAX1 tyX1 tyX1_ok nmX1 hown hK hP hD hS 0 rfl rfl 9 (by decide) (hw _ q_345) (fun _ h9 => h9) rfl hnm rfl (by decide +kernel) rfl rfl dX1_init_78 (fun H locs F26 eF26 hP hD hS => ?_)
  have hP : va_P D vwCl [(h0, .inr (1, vL 18 F26)), (q1, .inl (cI, 5, .inl uF)), (q3, .inl (cJ, 12, .inr (.inl g4))), (q6, .inl (cI, 12, .inl g7)), (q9, .inl (cI, 12, .inl g10)), (q12, .inl (cI, 12, .inl g13)), (q15, .inl (cI, 12, .inl g16)), (q18, .inl (cI, 12, .inl g19)), (q21, .inl (cI, 12, .inl g22)), (q24, .inl (cI, 12, .inl g25))] H := hP
  have hD : va_D A [(h0, .inr (1, vL 18 F26)), (q1, .inl (cI, 5, .inl uF)), (q3, .inl (cJ, 12, .inr (.inl g4))), (q6, .inl (cI, 12, .inl g7)), (q9, .inl (cI, 12, .inl g10)), (q12, .inl (cI, 12, .inl g13)), (q15, .inl (cI, 12, .inl g16)), (q18, .inl (cI, 12, .inl g19)), (q21, .inl (cI, 12, .inl g22)), (q24, .inl (cI, 12, .inl g25))] := hD
  refine lv_aload_n hx hb dX1_init_81 rfl (lv_at hl 0 rfl) ?_
  refine lv_bipush (v := 6) hx hb dX1_init_82 (by decide) ?_
  refine newA (atype := .long) (ty := .long) (N' := 6) (a0 := (6, .inr <| .inl (fun _ => 0))) hx hb (hw _ q_138) rfl hK 1 rfl (by intro C; exact nofun) hP hD hS hA (fun cA => rfl) (by decide) (by decide +kernel) (Nat.le_of_ble_eq_true rfl) (Nat.le_of_ble_eq_true rfl) (Nat.le_of_ble_eq_true rfl) dX1_init_84 (fun q27 H hP hD hS => ?_)
  obtain ⟨g28, eg28⟩ : ∃ z : Nat → Int64, (fun _ => 0) = z := ⟨_, rfl⟩
  rw [eg28] at hP hD
  have hP : va_P D vwCl [(h0, .inr (1, vL 18 F26)), (q1, .inl (cI, 5, .inl uF)), (q3, .inl (cJ, 12, .inr (.inl g4))), (q6, .inl (cI, 12, .inl g7)), (q9, .inl (cI, 12, .inl g10)), (q12, .inl (cI, 12, .inl g13)), (q15, .inl (cI, 12, .inl g16)), (q18, .inl (cI, 12, .inl g19)), (q21, .inl (cI, 12, .inl g22)), (q24, .inl (cI, 12, .inl g25)), (q27, .inl (cJ, 6, .inr (.inl g28)))] H := hP
  have hD : va_D A [(h0, .inr (1, vL 18 F26)), (q1, .inl (cI, 5, .inl uF)), (q3, .inl (cJ, 12, .inr (.inl g4))), (q6, .inl (cI, 12, .inl g7)), (q9, .inl (cI, 12, .inl g10)), (q12, .inl (cI, 12, .inl g13)), (q15, .inl (cI, 12, .inl g16)), (q18, .inl (cI, 12, .inl g19)), (q21, .inl (cI, 12, .inl g22)), (q24, .inl (cI, 12, .inl g25)), (q27, .inl (cJ, 6, .inr (.inl g28)))] := hD
  refine W.widen (k := 10) (n := 107) (Nat.le_of_ble_eq_true rfl) (Nat.le_of_ble_eq_true rfl) ?_
  refine put_fF (D := D) (ci := 1) (v := .ref q27) (ty := (.array .long)) (C := RX1) (T := TX1) (N := 18) hx hb hw inAX1 tyX1 tyX1_ok nmX1 hown hK hP hD hS 0 rfl rfl 10 (by decide) (hw _ q_347) (fun _ h9 => h9) rfl hnm rfl (by decide +kernel) rfl rfl dX1_init_86 (fun H locs F29 eF29 hP hD hS => ?_)
  have hP : va_P D vwCl [(h0, .inr (1, vL 18 F29)), (q1, .inl (cI, 5, .inl uF)), (q3, .inl (cJ, 12, .inr (.inl g4))), (q6, .inl (cI, 12, .inl g7)), (q9, .inl (cI, 12, .inl g10)), (q12, .inl (cI, 12, .inl g13)), (q15, .inl (cI, 12, .inl g16)), (q18, .inl (cI, 12, .inl g19)), (q21, .inl (cI, 12, .inl g22)), (q24, .inl (cI, 12, .inl g25)), (q27, .inl (cJ, 6, .inr (.inl g28)))] H := hP
  have hD : va_D A [(h0, .inr (1, vL 18 F29)), (q1, .inl (cI, 5, .inl uF)), (q3, .inl (cJ, 12, .inr (.inl g4))), (q6, .inl (cI, 12, .inl g7)), (q9, .inl (cI, 12, .inl g10)), (q12, .inl (cI, 12, .inl g13)), (q15, .inl (cI, 12, .inl g16)), (q18, .inl (cI, 12, .inl g19)), (q21, .inl (cI, 12, .inl g22)), (q24, .inl (cI, 12, .inl g25)), (q27, .inl (cJ, 6, .inr (.inl g28)))] := hD
  refine lv_aload_n hx hb dX1_init_89 rfl (lv_at hl 0 rfl) ?_
  refine lv_bipush (v := 6) hx hb dX1_init_90 (by decide) ?_
  refine newA (atype := .int) (ty := .int) (N' := 6) (a0 := (6, .inl (fun _ => 0))) hx hb (hw _ q_198) rfl hK 0 rfl (by intro C; exact nofun) hP hD hS hA (fun cA => rfl) (by decide) (by decide +kernel) (Nat.le_of_ble_eq_true rfl) (Nat.le_of_ble_eq_true rfl) (Nat.le_of_ble_eq_true rfl) dX1_init_92 (fun q30 H hP hD hS => ?_)
  obtain ⟨g31, eg31⟩ : ∃ z : Nat → Int32, (fun _ => 0) = z := ⟨_, rfl⟩
  rw [eg31] at hP hD
  have hP : va_P D vwCl [(h0, .inr (1, vL 18 F29)), (q1, .inl (cI, 5, .inl uF)), (q3, .inl (cJ, 12, .inr (.inl g4))), (q6, .inl (cI, 12, .inl g7)), (q9, .inl (cI, 12, .inl g10)), (q12, .inl (cI, 12, .inl g13)), (q15, .inl (cI, 12, .inl g16)), (q18, .inl (cI, 12, .inl g19)), (q21, .inl (cI, 12, .inl g22)), (q24, .inl (cI, 12, .inl g25)), (q27, .inl (cJ, 6, .inr (.inl g28))), (q30, .inl (cI, 6, .inl g31))] H := hP
  have hD : va_D A [(h0, .inr (1, vL 18 F29)), (q1, .inl (cI, 5, .inl uF)), (q3, .inl (cJ, 12, .inr (.inl g4))), (q6, .inl (cI, 12, .inl g7)), (q9, .inl (cI, 12, .inl g10)), (q12, .inl (cI, 12, .inl g13)), (q15, .inl (cI, 12, .inl g16)), (q18, .inl (cI, 12, .inl g19)), (q21, .inl (cI, 12, .inl g22)), (q24, .inl (cI, 12, .inl g25)), (q27, .inl (cJ, 6, .inr (.inl g28))), (q30, .inl (cI, 6, .inl g31))] := hD
  refine W.widen (k := 11) (n := 113) (Nat.le_of_ble_eq_true rfl) (Nat.le_of_ble_eq_true rfl) ?_
  refine put_fF (D := D) (ci := 1) (v := .ref q30) (ty := (.array .int)) (C := RX1) (T := TX1) (N := 18) hx hb hw inAX1 tyX1 tyX1_ok nmX1 hown hK hP hD hS 0 rfl rfl 11 (by decide) (hw _ q_348) (fun _ h9 => h9) rfl hnm rfl (by decide +kernel) rfl rfl dX1_init_94 (fun H locs F32 eF32 hP hD hS => ?_)
  have hP : va_P D vwCl [(h0, .inr (1, vL 18 F32)), (q1, .inl (cI, 5, .inl uF)), (q3, .inl (cJ, 12, .inr (.inl g4))), (q6, .inl (cI, 12, .inl g7)), (q9, .inl (cI, 12, .inl g10)), (q12, .inl (cI, 12, .inl g13)), (q15, .inl (cI, 12, .inl g16)), (q18, .inl (cI, 12, .inl g19)), (q21, .inl (cI, 12, .inl g22)), (q24, .inl (cI, 12, .inl g25)), (q27, .inl (cJ, 6, .inr (.inl g28))), (q30, .inl (cI, 6, .inl g31))] H := hP
  have hD : va_D A [(h0, .inr (1, vL 18 F32)), (q1, .inl (cI, 5, .inl uF)), (q3, .inl (cJ, 12, .inr (.inl g4))), (q6, .inl (cI, 12, .inl g7)), (q9, .inl (cI, 12, .inl g10)), (q12, .inl (cI, 12, .inl g13)), (q15, .inl (cI, 12, .inl g16)), (q18, .inl (cI, 12, .inl g19)), (q21, .inl (cI, 12, .inl g22)), (q24, .inl (cI, 12, .inl g25)), (q27, .inl (cJ, 6, .inr (.inl g28))), (q30, .inl (cI, 6, .inl g31))] := hD
  refine lv_aload_n hx hb dX1_init_97 rfl (lv_at hl 0 rfl) ?_
  refine lv_bipush (v := 6) hx hb dX1_init_98 (by decide) ?_
  refine newA (atype := .int) (ty := .int) (N' := 6) (a0 := (6, .inl (fun _ => 0))) hx hb (hw _ q_198) rfl hK 0 rfl (by intro C; exact nofun) hP hD hS hA (fun cA => rfl) (by decide) (by decide +kernel) (Nat.le_of_ble_eq_true rfl) (Nat.le_of_ble_eq_true rfl) (Nat.le_of_ble_eq_true rfl) dX1_init_100 (fun q33 H hP hD hS => ?_)
  obtain ⟨g34, eg34⟩ : ∃ z : Nat → Int32, (fun _ => 0) = z := ⟨_, rfl⟩
  rw [eg34] at hP hD
  have hP : va_P D vwCl [(h0, .inr (1, vL 18 F32)), (q1, .inl (cI, 5, .inl uF)), (q3, .inl (cJ, 12, .inr (.inl g4))), (q6, .inl (cI, 12, .inl g7)), (q9, .inl (cI, 12, .inl g10)), (q12, .inl (cI, 12, .inl g13)), (q15, .inl (cI, 12, .inl g16)), (q18, .inl (cI, 12, .inl g19)), (q21, .inl (cI, 12, .inl g22)), (q24, .inl (cI, 12, .inl g25)), (q27, .inl (cJ, 6, .inr (.inl g28))), (q30, .inl (cI, 6, .inl g31)), (q33, .inl (cI, 6, .inl g34))] H := hP
  have hD : va_D A [(h0, .inr (1, vL 18 F32)), (q1, .inl (cI, 5, .inl uF)), (q3, .inl (cJ, 12, .inr (.inl g4))), (q6, .inl (cI, 12, .inl g7)), (q9, .inl (cI, 12, .inl g10)), (q12, .inl (cI, 12, .inl g13)), (q15, .inl (cI, 12, .inl g16)), (q18, .inl (cI, 12, .inl g19)), (q21, .inl (cI, 12, .inl g22)), (q24, .inl (cI, 12, .inl g25)), (q27, .inl (cJ, 6, .inr (.inl g28))), (q30, .inl (cI, 6, .inl g31)), (q33, .inl (cI, 6, .inl g34))] := hD
  refine W.widen (k := 12) (n := 119) (Nat.le_of_ble_eq_true rfl) (Nat.le_of_ble_eq_true rfl) ?_
  refine put_fF (D := D) (ci := 1) (v := .ref q33) (ty := (.array .int)) (C := RX1) (T := TX1) (N := 18) hx hb hw inAX1 tyX1 tyX1_ok nmX1 hown hK hP hD hS 0 rfl rfl 12 (by decide) (hw _ q_350) (fun _ h9 => h9) rfl hnm rfl (by decide +kernel) rfl rfl dX1_init_102 (fun H locs F35 eF35 hP hD hS => ?_)
  have hP : va_P D vwCl [(h0, .inr (1, vL 18 F35)), (q1, .inl (cI, 5, .inl uF)), (q3, .inl (cJ, 12, .inr (.inl g4))), (q6, .inl (cI, 12, .inl g7)), (q9, .inl (cI, 12, .inl g10)), (q12, .inl (cI, 12, .inl g13)), (q15, .inl (cI, 12, .inl g16)), (q18, .inl (cI, 12, .inl g19)), (q21, .inl (cI, 12, .inl g22)), (q24, .inl (cI, 12, .inl g25)), (q27, .inl (cJ, 6, .inr (.inl g28))), (q30, .inl (cI, 6, .inl g31)), (q33, .inl (cI, 6, .inl g34))] H := hP
  have hD : va_D A [(h0, .inr (1, vL 18 F35)), (q1, .inl (cI, 5, .inl uF)), (q3, .inl (cJ, 12, .inr (.inl g4))), (q6, .inl (cI, 12, .inl g7)), (q9, .inl (cI, 12, .inl g10)), (q12, .inl (cI, 12, .inl g13)), (q15, .inl (cI, 12, .inl g16)), (q18, .inl (cI, 12, .inl g19)), (q21, .inl (cI, 12, .inl g22)), (q24, .inl (cI, 12, .inl g25)), (q27, .inl (cJ, 6, .inr (.inl g28))), (q30, .inl (cI, 6, .inl g31)), (q33, .inl (cI, 6, .inl g34))] := hD
  refine lv_aload_n hx hb dX1_init_105 rfl (lv_at hl 0 rfl) ?_
  refine lv_iconst (v := 0) hx hb dX1_init_106 (by decide) ?_
  refine put_f (D := D) (ci := 1) (v := .int 0) (ty := .int) (C := RX1) (T := TX1) (N := 18) hx hb hw inAX1 tyX1 tyX1_ok nmX1 hown hK hP hD hS 0 rfl rfl 13 (by decide) (hw _ q_352) (fun _ h9 => h9) rfl (by decide +kernel) rfl rfl dX1_init_107 (fun H locs F36 eF36 hP hD hS => ?_)
  have hP : va_P D vwCl [(h0, .inr (1, vL 18 F36)), (q1, .inl (cI, 5, .inl uF)), (q3, .inl (cJ, 12, .inr (.inl g4))), (q6, .inl (cI, 12, .inl g7)), (q9, .inl (cI, 12, .inl g10)), (q12, .inl (cI, 12, .inl g13)), (q15, .inl (cI, 12, .inl g16)), (q18, .inl (cI, 12, .inl g19)), (q21, .inl (cI, 12, .inl g22)), (q24, .inl (cI, 12, .inl g25)), (q27, .inl (cJ, 6, .inr (.inl g28))), (q30, .inl (cI, 6, .inl g31)), (q33, .inl (cI, 6, .inl g34))] H := hP
  have hD : va_D A [(h0, .inr (1, vL 18 F36)), (q1, .inl (cI, 5, .inl uF)), (q3, .inl (cJ, 12, .inr (.inl g4))), (q6, .inl (cI, 12, .inl g7)), (q9, .inl (cI, 12, .inl g10)), (q12, .inl (cI, 12, .inl g13)), (q15, .inl (cI, 12, .inl g16)), (q18, .inl (cI, 12, .inl g19)), (q21, .inl (cI, 12, .inl g22)), (q24, .inl (cI, 12, .inl g25)), (q27, .inl (cJ, 6, .inr (.inl g28))), (q30, .inl (cI, 6, .inl g31)), (q33, .inl (cI, 6, .inl g34))] := hD
  refine lv_aload_n hx hb dX1_init_110 rfl (lv_at hl 0 rfl) ?_
  refine lv_iconst (v := 0) hx hb dX1_init_111 (by decide) ?_
  refine put_f (D := D) (ci := 1) (v := .int 0) (ty := .int) (C := RX1) (T := TX1) (N := 18) hx hb hw inAX1 tyX1 tyX1_ok nmX1 hown hK hP hD hS 0 rfl rfl 14 (by decide) (hw _ q_354) (fun _ h9 => h9) rfl (by decide +kernel) rfl rfl dX1_init_112 (fun H locs F37 eF37 hP hD hS => ?_)
  have hP : va_P D vwCl [(h0, .inr (1, vL 18 F37)), (q1, .inl (cI, 5, .inl uF)), (q3, .inl (cJ, 12, .inr (.inl g4))), (q6, .inl (cI, 12, .inl g7)), (q9, .inl (cI, 12, .inl g10)), (q12, .inl (cI, 12, .inl g13)), (q15, .inl (cI, 12, .inl g16)), (q18, .inl (cI, 12, .inl g19)), (q21, .inl (cI, 12, .inl g22)), (q24, .inl (cI, 12, .inl g25)), (q27, .inl (cJ, 6, .inr (.inl g28))), (q30, .inl (cI, 6, .inl g31)), (q33, .inl (cI, 6, .inl g34))] H := hP
  have hD : va_D A [(h0, .inr (1, vL 18 F37)), (q1, .inl (cI, 5, .inl uF)), (q3, .inl (cJ, 12, .inr (.inl g4))), (q6, .inl (cI, 12, .inl g7)), (q9, .inl (cI, 12, .inl g10)), (q12, .inl (cI, 12, .inl g13)), (q15, .inl (cI, 12, .inl g16)), (q18, .inl (cI, 12, .inl g19)), (q21, .inl (cI, 12, .inl g22)), (q24, .inl (cI, 12, .inl g25)), (q27, .inl (cJ, 6, .inr (.inl g28))), (q30, .inl (cI, 6, .inl g31)), (q33, .inl (cI, 6, .inl g34))] := hD
  refine lv_aload_n hx hb dX1_init_115 rfl (lv_at hl 0 rfl) ?_
  refine lv_iconst (v := 0) hx hb dX1_init_116 (by decide) ?_
  refine put_f (D := D) (ci := 1) (v := .int 0) (ty := .int) (C := RX1) (T := TX1) (N := 18) hx hb hw inAX1 tyX1 tyX1_ok nmX1 hown hK hP hD hS 0 rfl rfl 15 (by decide) (hw _ q_359) (fun _ h9 => h9) rfl (by decide +kernel) rfl rfl dX1_init_117 (fun H locs F38 eF38 hP hD hS => ?_)
  have hP : va_P D vwCl [(h0, .inr (1, vL 18 F38)), (q1, .inl (cI, 5, .inl uF)), (q3, .inl (cJ, 12, .inr (.inl g4))), (q6, .inl (cI, 12, .inl g7)), (q9, .inl (cI, 12, .inl g10)), (q12, .inl (cI, 12, .inl g13)), (q15, .inl (cI, 12, .inl g16)), (q18, .inl (cI, 12, .inl g19)), (q21, .inl (cI, 12, .inl g22)), (q24, .inl (cI, 12, .inl g25)), (q27, .inl (cJ, 6, .inr (.inl g28))), (q30, .inl (cI, 6, .inl g31)), (q33, .inl (cI, 6, .inl g34))] H := hP
  have hD : va_D A [(h0, .inr (1, vL 18 F38)), (q1, .inl (cI, 5, .inl uF)), (q3, .inl (cJ, 12, .inr (.inl g4))), (q6, .inl (cI, 12, .inl g7)), (q9, .inl (cI, 12, .inl g10)), (q12, .inl (cI, 12, .inl g13)), (q15, .inl (cI, 12, .inl g16)), (q18, .inl (cI, 12, .inl g19)), (q21, .inl (cI, 12, .inl g22)), (q24, .inl (cI, 12, .inl g25)), (q27, .inl (cJ, 6, .inr (.inl g28))), (q30, .inl (cI, 6, .inl g31)), (q33, .inl (cI, 6, .inl g34))] := hD
  refine lv_aload_n hx hb dX1_init_120 rfl (lv_at hl 0 rfl) ?_
  refine lv_iconst (v := 0) hx hb dX1_init_121 (by decide) ?_
  refine put_f (D := D) (ci := 1) (v := .int 0) (ty := .int) (C := RX1) (T := TX1) (N := 18) hx hb hw inAX1 tyX1 tyX1_ok nmX1 hown hK hP hD hS 0 rfl rfl 16 (by decide) (hw _ q_362) (fun _ h9 => h9) rfl (by decide +kernel) rfl rfl dX1_init_122 (fun H locs F39 eF39 hP hD hS => ?_)
  have hP : va_P D vwCl [(h0, .inr (1, vL 18 F39)), (q1, .inl (cI, 5, .inl uF)), (q3, .inl (cJ, 12, .inr (.inl g4))), (q6, .inl (cI, 12, .inl g7)), (q9, .inl (cI, 12, .inl g10)), (q12, .inl (cI, 12, .inl g13)), (q15, .inl (cI, 12, .inl g16)), (q18, .inl (cI, 12, .inl g19)), (q21, .inl (cI, 12, .inl g22)), (q24, .inl (cI, 12, .inl g25)), (q27, .inl (cJ, 6, .inr (.inl g28))), (q30, .inl (cI, 6, .inl g31)), (q33, .inl (cI, 6, .inl g34))] H := hP
  have hD : va_D A [(h0, .inr (1, vL 18 F39)), (q1, .inl (cI, 5, .inl uF)), (q3, .inl (cJ, 12, .inr (.inl g4))), (q6, .inl (cI, 12, .inl g7)), (q9, .inl (cI, 12, .inl g10)), (q12, .inl (cI, 12, .inl g13)), (q15, .inl (cI, 12, .inl g16)), (q18, .inl (cI, 12, .inl g19)), (q21, .inl (cI, 12, .inl g22)), (q24, .inl (cI, 12, .inl g25)), (q27, .inl (cJ, 6, .inr (.inl g28))), (q30, .inl (cI, 6, .inl g31)), (q33, .inl (cI, 6, .inl g34))] := hD
  refine lv_aload_n hx hb dX1_init_125 rfl (lv_at hl 0 rfl) ?_
  refine lv_iconst (v := 0) hx hb dX1_init_126 (by decide) ?_
  refine put_f (D := D) (ci := 1) (v := .int 0) (ty := .int) (C := RX1) (T := TX1) (N := 18) hx hb hw inAX1 tyX1 tyX1_ok nmX1 hown hK hP hD hS 0 rfl rfl 17 (by decide) (hw _ q_364) (fun _ h9 => h9) rfl (by decide +kernel) rfl rfl dX1_init_127 (fun H locs F40 eF40 hP hD hS => ?_)
  have hP : va_P D vwCl [(h0, .inr (1, vL 18 F40)), (q1, .inl (cI, 5, .inl uF)), (q3, .inl (cJ, 12, .inr (.inl g4))), (q6, .inl (cI, 12, .inl g7)), (q9, .inl (cI, 12, .inl g10)), (q12, .inl (cI, 12, .inl g13)), (q15, .inl (cI, 12, .inl g16)), (q18, .inl (cI, 12, .inl g19)), (q21, .inl (cI, 12, .inl g22)), (q24, .inl (cI, 12, .inl g25)), (q27, .inl (cJ, 6, .inr (.inl g28))), (q30, .inl (cI, 6, .inl g31)), (q33, .inl (cI, 6, .inl g34))] H := hP
  have hD : va_D A [(h0, .inr (1, vL 18 F40)), (q1, .inl (cI, 5, .inl uF)), (q3, .inl (cJ, 12, .inr (.inl g4))), (q6, .inl (cI, 12, .inl g7)), (q9, .inl (cI, 12, .inl g10)), (q12, .inl (cI, 12, .inl g13)), (q15, .inl (cI, 12, .inl g16)), (q18, .inl (cI, 12, .inl g19)), (q21, .inl (cI, 12, .inl g22)), (q24, .inl (cI, 12, .inl g25)), (q27, .inl (cJ, 6, .inr (.inl g28))), (q30, .inl (cI, 6, .inl g31)), (q33, .inl (cI, 6, .inl g34))] := hD
  refine lv_aload_n hx hb dX1_init_130 rfl (lv_at hl 0 rfl) ?_
  refine lv_iload_n hx hb dX1_init_131 rfl (lv_at hl 1 rfl) ?_
  refine put_fF (D := D) (ci := 1) (v := .int p0) (ty := .int) (C := RX1) (T := TX1) (N := 18) hx hb hw inAX1 tyX1 tyX1_ok nmX1 hown hK hP hD hS 0 rfl rfl 0 (by decide) (hw _ q_313) (fun _ h9 => h9) rfl hnm rfl (by decide +kernel) rfl rfl dX1_init_132 (fun H locs F41 eF41 hP hD hS => ?_)
  have hP : va_P D vwCl [(h0, .inr (1, vL 18 F41)), (q1, .inl (cI, 5, .inl uF)), (q3, .inl (cJ, 12, .inr (.inl g4))), (q6, .inl (cI, 12, .inl g7)), (q9, .inl (cI, 12, .inl g10)), (q12, .inl (cI, 12, .inl g13)), (q15, .inl (cI, 12, .inl g16)), (q18, .inl (cI, 12, .inl g19)), (q21, .inl (cI, 12, .inl g22)), (q24, .inl (cI, 12, .inl g25)), (q27, .inl (cJ, 6, .inr (.inl g28))), (q30, .inl (cI, 6, .inl g31)), (q33, .inl (cI, 6, .inl g34))] H := hP
  have hD : va_D A [(h0, .inr (1, vL 18 F41)), (q1, .inl (cI, 5, .inl uF)), (q3, .inl (cJ, 12, .inr (.inl g4))), (q6, .inl (cI, 12, .inl g7)), (q9, .inl (cI, 12, .inl g10)), (q12, .inl (cI, 12, .inl g13)), (q15, .inl (cI, 12, .inl g16)), (q18, .inl (cI, 12, .inl g19)), (q21, .inl (cI, 12, .inl g22)), (q24, .inl (cI, 12, .inl g25)), (q27, .inl (cJ, 6, .inr (.inl g28))), (q30, .inl (cI, 6, .inl g31)), (q33, .inl (cI, 6, .inl g34))] := hD
  exact ret_v hx hb hr hlocks hS hP hD dX1_init_135 (Nat.le_of_ble_eq_true rfl) (Nat.le_of_ble_eq_true rfl) ⟨F41, q1, q3, q6, q9, q12, q15, q18, q21, q24, q27, q30, q33, uF, g4, g7, g10, g13, g16, g19, g22, g25, g28, g31, g34, (SAME.up eF41 (SAME.up eF40 (SAME.up eF39 (SAME.up eF38 (SAME.up eF37 (SAME.up eF36 (SAME.up eF35 (SAME.up eF32 (SAME.up eF29 (SAME.up eF26 (SAME.up eF23 (SAME.up eF20 (SAME.up eF17 (SAME.up eF14 (SAME.up eF11 (SAME.up eF8 (SAME.up eF5 (SAME.up eF2 SAME.rf (by decide)) (by decide)) (by decide)) (by decide)) (by decide)) (by decide)) (by decide)) (by decide)) (by decide)) (by decide)) (by decide)) (by decide)) (by decide)) (by decide)) (by decide)) (by decide)) (by decide)) (by decide)), (get_eq eF41), (get_ne eF41 (by decide) (get_ne eF40 (by decide) (get_ne eF39 (by decide) (get_ne eF38 (by decide) (get_ne eF37 (by decide) (get_ne eF36 (by decide) (get_ne eF35 (by decide) (get_ne eF32 (by decide) (get_ne eF29 (by decide) (get_ne eF26 (by decide) (get_ne eF23 (by decide) (get_ne eF20 (by decide) (get_ne eF17 (by decide) (get_ne eF14 (by decide) (get_ne eF11 (by decide) (get_ne eF8 (by decide) (get_ne eF5 (by decide) (get_eq eF2)))))))))))))))))), (get_ne eF41 (by decide) (get_ne eF40 (by decide) (get_ne eF39 (by decide) (get_ne eF38 (by decide) (get_ne eF37 (by decide) (get_ne eF36 (by decide) (get_ne eF35 (by decide) (get_ne eF32 (by decide) (get_ne eF29 (by decide) (get_ne eF26 (by decide) (get_ne eF23 (by decide) (get_ne eF20 (by decide) (get_ne eF17 (by decide) (get_ne eF14 (by decide) (get_ne eF11 (by decide) (get_ne eF8 (by decide) (get_eq eF5))))))))))))))))), (get_ne eF41 (by decide) (get_ne eF40 (by decide) (get_ne eF39 (by decide) (get_ne eF38 (by decide) (get_ne eF37 (by decide) (get_ne eF36 (by decide) (get_ne eF35 (by decide) (get_ne eF32 (by decide) (get_ne eF29 (by decide) (get_ne eF26 (by decide) (get_ne eF23 (by decide) (get_ne eF20 (by decide) (get_ne eF17 (by decide) (get_ne eF14 (by decide) (get_ne eF11 (by decide) (get_eq eF8)))))))))))))))), (get_ne eF41 (by decide) (get_ne eF40 (by decide) (get_ne eF39 (by decide) (get_ne eF38 (by decide) (get_ne eF37 (by decide) (get_ne eF36 (by decide) (get_ne eF35 (by decide) (get_ne eF32 (by decide) (get_ne eF29 (by decide) (get_ne eF26 (by decide) (get_ne eF23 (by decide) (get_ne eF20 (by decide) (get_ne eF17 (by decide) (get_ne eF14 (by decide) (get_eq eF11))))))))))))))), (get_ne eF41 (by decide) (get_ne eF40 (by decide) (get_ne eF39 (by decide) (get_ne eF38 (by decide) (get_ne eF37 (by decide) (get_ne eF36 (by decide) (get_ne eF35 (by decide) (get_ne eF32 (by decide) (get_ne eF29 (by decide) (get_ne eF26 (by decide) (get_ne eF23 (by decide) (get_ne eF20 (by decide) (get_ne eF17 (by decide) (get_eq eF14)))))))))))))), (get_ne eF41 (by decide) (get_ne eF40 (by decide) (get_ne eF39 (by decide) (get_ne eF38 (by decide) (get_ne eF37 (by decide) (get_ne eF36 (by decide) (get_ne eF35 (by decide) (get_ne eF32 (by decide) (get_ne eF29 (by decide) (get_ne eF26 (by decide) (get_ne eF23 (by decide) (get_ne eF20 (by decide) (get_eq eF17))))))))))))), (get_ne eF41 (by decide) (get_ne eF40 (by decide) (get_ne eF39 (by decide) (get_ne eF38 (by decide) (get_ne eF37 (by decide) (get_ne eF36 (by decide) (get_ne eF35 (by decide) (get_ne eF32 (by decide) (get_ne eF29 (by decide) (get_ne eF26 (by decide) (get_ne eF23 (by decide) (get_eq eF20)))))))))))), (get_ne eF41 (by decide) (get_ne eF40 (by decide) (get_ne eF39 (by decide) (get_ne eF38 (by decide) (get_ne eF37 (by decide) (get_ne eF36 (by decide) (get_ne eF35 (by decide) (get_ne eF32 (by decide) (get_ne eF29 (by decide) (get_ne eF26 (by decide) (get_eq eF23))))))))))), (get_ne eF41 (by decide) (get_ne eF40 (by decide) (get_ne eF39 (by decide) (get_ne eF38 (by decide) (get_ne eF37 (by decide) (get_ne eF36 (by decide) (get_ne eF35 (by decide) (get_ne eF32 (by decide) (get_ne eF29 (by decide) (get_eq eF26)))))))))), (get_ne eF41 (by decide) (get_ne eF40 (by decide) (get_ne eF39 (by decide) (get_ne eF38 (by decide) (get_ne eF37 (by decide) (get_ne eF36 (by decide) (get_ne eF35 (by decide) (get_ne eF32 (by decide) (get_eq eF29))))))))), (get_ne eF41 (by decide) (get_ne eF40 (by decide) (get_ne eF39 (by decide) (get_ne eF38 (by decide) (get_ne eF37 (by decide) (get_ne eF36 (by decide) (get_ne eF35 (by decide) (get_eq eF32)))))))), (get_ne eF41 (by decide) (get_ne eF40 (by decide) (get_ne eF39 (by decide) (get_ne eF38 (by decide) (get_ne eF37 (by decide) (get_ne eF36 (by decide) (get_eq eF35))))))), (get_ne eF41 (by decide) (get_ne eF40 (by decide) (get_ne eF39 (by decide) (get_ne eF38 (by decide) (get_ne eF37 (by decide) (get_eq eF36)))))), (get_ne eF41 (by decide) (get_ne eF40 (by decide) (get_ne eF39 (by decide) (get_ne eF38 (by decide) (get_eq eF37))))), (get_ne eF41 (by decide) (get_ne eF40 (by decide) (get_ne eF39 (by decide) (get_eq eF38)))), (get_ne eF41 (by decide) (get_ne eF40 (by decide) (get_eq eF39))), (get_ne eF41 (by decide) (get_eq eF40)), uF_0, rfl⟩
set_option maxHeartbeats 4000000 in
set_option maxRecDepth 100000 in
theorem m_X6_isSign (l : Launch) (D : va_G) (cI cJ cB cP cM cZ : ClassId) (p0 : Int32) (sz : Nat)  : CI l yX6_isSign cX6_isSign 1 (some .boolean) { frames := 0, cells := 0, slots := 0, locals := 0 } (GG D cI cJ cB cP cM cZ) D [] sz [.int p0] (fun (r : Int32) (u : va_W) => IR 0 1 r ∧ u = []) := by
  refine CI_mk (by decide) (Nat.le_of_ble_eq_true rfl) ?_
  intro p e s m below meth c A ls E hAe hG hsz hP hD hA hS hl
  obtain ⟨hx, hb, hr, hw, hown, hlocks, hml, hnm⟩ := E
  have hK := hG.1
  have hl : lv_has ls 1 [(0, .int p0)] := hl
  refine lv_iload_n hx hb dX6_isSign_0 rfl (lv_at hl 0 rfl) ?_
  refine lv_bipush (v := 59) hx hb dX6_isSign_1 (by decide) ?_
  refine lv_icmp_eq (tgt := 36) hx hb dX6_isSign_3 (by decide) (fun c1 => ?_) (fun c1 => ?_)
  · have dc1 : p0.toInt = 59 := eq_i (a := p0.toInt) (b := 59) rfl rfl c1
    have k2 : 59 ≤ p0.toInt ∧ p0.toInt ≤ 59 := ⟨Int.le_trans (Int.le_refl _) (Int.le_of_eq dc1.symm), Int.le_trans (Int.le_of_eq dc1) (Int.le_refl _)⟩
    refine lv_iconst (v := 1) hx hb dX6_isSign_36 (by decide) ?_
    refine lv_goto (tgt := 41) hx hb dX6_isSign_37 (by decide) ?_
    exact ret_i (v := 1) hx hb hr hlocks hS hP hD dX6_isSign_41 rfl (Nat.le_of_ble_eq_true rfl) (Nat.le_of_ble_eq_true rfl) ⟨(show 0 ≤ (1 : Int32).toInt ∧ (1 : Int32).toInt ≤ 1 by decide), rfl⟩
  · have dc1 : p0.toInt ≠ 59 := ne_i (a := p0.toInt) (b := 59) rfl rfl c1
    refine lv_iload_n hx hb dX6_isSign_6 rfl (lv_at hl 0 rfl) ?_
    refine lv_bipush (v := 60) hx hb dX6_isSign_7 (by decide) ?_
    refine lv_icmp_eq (tgt := 36) hx hb dX6_isSign_9 (by decide) (fun c3 => ?_) (fun c3 => ?_)
    · have dc3 : p0.toInt = 60 := eq_i (a := p0.toInt) (b := 60) rfl rfl c3
      have k4 : 60 ≤ p0.toInt ∧ p0.toInt ≤ 60 := ⟨Int.le_trans (Int.le_refl _) (Int.le_of_eq dc3.symm), Int.le_trans (Int.le_of_eq dc3) (Int.le_refl _)⟩
      refine lv_iconst (v := 1) hx hb dX6_isSign_36 (by decide) ?_
      refine lv_goto (tgt := 41) hx hb dX6_isSign_37 (by decide) ?_
      exact ret_i (v := 1) hx hb hr hlocks hS hP hD dX6_isSign_41 rfl (Nat.le_of_ble_eq_true rfl) (Nat.le_of_ble_eq_true rfl) ⟨(show 0 ≤ (1 : Int32).toInt ∧ (1 : Int32).toInt ≤ 1 by decide), rfl⟩
    · have dc3 : p0.toInt ≠ 60 := ne_i (a := p0.toInt) (b := 60) rfl rfl c3
      refine lv_iload_n hx hb dX6_isSign_12 rfl (lv_at hl 0 rfl) ?_
      refine lv_bipush (v := 61) hx hb dX6_isSign_13 (by decide) ?_
      refine lv_icmp_eq (tgt := 36) hx hb dX6_isSign_15 (by decide) (fun c5 => ?_) (fun c5 => ?_)
      · have dc5 : p0.toInt = 61 := eq_i (a := p0.toInt) (b := 61) rfl rfl c5
        have k6 : 61 ≤ p0.toInt ∧ p0.toInt ≤ 61 := ⟨Int.le_trans (Int.le_refl _) (Int.le_of_eq dc5.symm), Int.le_trans (Int.le_of_eq dc5) (Int.le_refl _)⟩
        refine lv_iconst (v := 1) hx hb dX6_isSign_36 (by decide) ?_
        refine lv_goto (tgt := 41) hx hb dX6_isSign_37 (by decide) ?_
        exact ret_i (v := 1) hx hb hr hlocks hS hP hD dX6_isSign_41 rfl (Nat.le_of_ble_eq_true rfl) (Nat.le_of_ble_eq_true rfl) ⟨(show 0 ≤ (1 : Int32).toInt ∧ (1 : Int32).toInt ≤ 1 by decide), rfl⟩
      · have dc5 : p0.toInt ≠ 61 := ne_i (a := p0.toInt) (b := 61) rfl rfl c5
        refine lv_iload_n hx hb dX6_isSign_18 rfl (lv_at hl 0 rfl) ?_
        refine lv_bipush (v := 62) hx hb dX6_isSign_19 (by decide) ?_
        refine lv_icmp_eq (tgt := 36) hx hb dX6_isSign_21 (by decide) (fun c7 => ?_) (fun c7 => ?_)
        · have dc7 : p0.toInt = 62 := eq_i (a := p0.toInt) (b := 62) rfl rfl c7
          have k8 : 62 ≤ p0.toInt ∧ p0.toInt ≤ 62 := ⟨Int.le_trans (Int.le_refl _) (Int.le_of_eq dc7.symm), Int.le_trans (Int.le_of_eq dc7) (Int.le_refl _)⟩
          refine lv_iconst (v := 1) hx hb dX6_isSign_36 (by decide) ?_
          refine lv_goto (tgt := 41) hx hb dX6_isSign_37 (by decide) ?_
          exact ret_i (v := 1) hx hb hr hlocks hS hP hD dX6_isSign_41 rfl (Nat.le_of_ble_eq_true rfl) (Nat.le_of_ble_eq_true rfl) ⟨(show 0 ≤ (1 : Int32).toInt ∧ (1 : Int32).toInt ≤ 1 by decide), rfl⟩
        · have dc7 : p0.toInt ≠ 62 := ne_i (a := p0.toInt) (b := 62) rfl rfl c7
          refine lv_iload_n hx hb dX6_isSign_24 rfl (lv_at hl 0 rfl) ?_
          refine lv_bipush (v := 40) hx hb dX6_isSign_25 (by decide) ?_
          refine lv_icmp_eq (tgt := 36) hx hb dX6_isSign_27 (by decide) (fun c9 => ?_) (fun c9 => ?_)
          · have dc9 : p0.toInt = 40 := eq_i (a := p0.toInt) (b := 40) rfl rfl c9
            have k10 : 40 ≤ p0.toInt ∧ p0.toInt ≤ 40 := ⟨Int.le_trans (Int.le_refl _) (Int.le_of_eq dc9.symm), Int.le_trans (Int.le_of_eq dc9) (Int.le_refl _)⟩
            refine lv_iconst (v := 1) hx hb dX6_isSign_36 (by decide) ?_
            refine lv_goto (tgt := 41) hx hb dX6_isSign_37 (by decide) ?_
            exact ret_i (v := 1) hx hb hr hlocks hS hP hD dX6_isSign_41 rfl (Nat.le_of_ble_eq_true rfl) (Nat.le_of_ble_eq_true rfl) ⟨(show 0 ≤ (1 : Int32).toInt ∧ (1 : Int32).toInt ≤ 1 by decide), rfl⟩
          · have dc9 : p0.toInt ≠ 40 := ne_i (a := p0.toInt) (b := 40) rfl rfl c9
            refine lv_iload_n hx hb dX6_isSign_30 rfl (lv_at hl 0 rfl) ?_
            refine lv_bipush (v := 41) hx hb dX6_isSign_31 (by decide) ?_
            refine lv_icmp_ne (tgt := 40) hx hb dX6_isSign_33 (by decide) (fun c11 => ?_) (fun c11 => ?_)
            · have dc11 : p0.toInt ≠ 41 := ne_i (a := p0.toInt) (b := 41) rfl rfl c11
              refine lv_iconst (v := 0) hx hb dX6_isSign_40 (by decide) ?_
              exact ret_i (v := 0) hx hb hr hlocks hS hP hD dX6_isSign_41 rfl (Nat.le_of_ble_eq_true rfl) (Nat.le_of_ble_eq_true rfl) ⟨(show 0 ≤ (0 : Int32).toInt ∧ (0 : Int32).toInt ≤ 1 by decide), rfl⟩
            · have dc11 : p0.toInt = 41 := eq_i (a := p0.toInt) (b := 41) rfl rfl c11
              have k12 : 41 ≤ p0.toInt ∧ p0.toInt ≤ 41 := ⟨Int.le_trans (Int.le_refl _) (Int.le_of_eq dc11.symm), Int.le_trans (Int.le_of_eq dc11) (Int.le_refl _)⟩
              refine lv_iconst (v := 1) hx hb dX6_isSign_36 (by decide) ?_
              refine lv_goto (tgt := 41) hx hb dX6_isSign_37 (by decide) ?_
              exact ret_i (v := 1) hx hb hr hlocks hS hP hD dX6_isSign_41 rfl (Nat.le_of_ble_eq_true rfl) (Nat.le_of_ble_eq_true rfl) ⟨(show 0 ≤ (1 : Int32).toInt ∧ (1 : Int32).toInt ≤ 1 by decide), rfl⟩
set_option maxHeartbeats 4000000 in
set_option maxRecDepth 100000 in
theorem m_X6_readRow (l : Launch) (D : va_G) (cI cJ cB cP cM cZ : ClassId) (h0 : Nat) (h_bytes : Nat) (Fh : Nat → Value) (x_length : Int32) (x_at : Int32) (f_bytes : Nat → Int32) (sz : Nat) (e_bytes : Fh 0 = .ref h_bytes) (e_length : Fh 1 = .int x_length) (i_x_length : IR 0 940 x_length) (e_at : Fh 10 = .int x_at) (i_x_at : IR 0 940 x_at) : CV l yX6_readRow cX6_readRow 4 none { frames := 0, cells := 0, slots := 0, locals := 0 } (GG D cI cJ cB cP cM cZ) D [(h0, .inr (6, vL 12 Fh)), (h_bytes, .inl (cB, 940, .inl f_bytes))] sz [.ref h0] (fun (u : va_W) => ∃ (Gh : Nat → Value) (y_kind : Int32) (y_value : Int32) (y_name : Int64) (y_at : Int32), SAME [2, 4, 5, 10] Fh Gh ∧ Gh 2 = .int y_kind ∧ IR 1 3 y_kind ∧ Gh 4 = .int y_value ∧ Gh 5 = .long y_name ∧ Gh 10 = .int y_at ∧ IR 0 940 y_at ∧ u = [(h0, .inr (6, vL 12 Gh)), (h_bytes, .inl (cB, 940, .inl f_bytes))]) := by
  refine CV_mk (by decide) (Nat.le_of_ble_eq_true rfl) ?_
  intro p e s m below meth c A ls E hAe hG hsz hP hD hA hS hl
  obtain ⟨hx, hb, hr, hw, hown, hlocks, hml, hnm⟩ := E
  have hK := hG.1
  have i_x_length : 0 ≤ x_length.toInt ∧ x_length.toInt ≤ 940 := i_x_length
  have i_x_at : 0 ≤ x_at.toInt ∧ x_at.toInt ≤ 940 := i_x_at
  have hl : lv_has ls 4 [(0, .ref h0)] := hl
  refine lv_iconst (v := 0) hx hb dX6_readRow_0 (by decide) ?_
  refine lv_istore_n (lv' := [(1, .int 0), (0, .ref h0)]) hx hb dX6_readRow_1 rfl hl (by decide) rfl (fun ls hl => ?_)
  refine lv_iconst (v := 0) hx hb dX6_readRow_2 (by decide) ?_
  refine lv_istore_n (lv' := [(2, .int 0), (1, .int 0), (0, .ref h0)]) hx hb dX6_readRow_3 rfl hl (by decide) rfl (fun ls hl => ?_)
  refine lv_aload_n hx hb dX6_readRow_4 rfl (lv_at hl 2 rfl) ?_
  refine lv_iconst (v := 0) hx hb dX6_readRow_5 (by decide) ?_
  refine put_f (D := D) (ci := 6) (v := .int 0) (ty := .int) (C := RX6) (T := TX6) (N := 12) hx hb hw inAX6 tyX6 tyX6_ok nmX6 hown hK hP hD hS 0 rfl rfl 4 (by decide) (hw _ q_97) (fun _ h9 => h9) rfl (by decide +kernel) rfl rfl dX6_readRow_6 (fun H locs F1 eF1 hP hD hS => ?_)
  have hP : va_P D vwCl [(h0, .inr (6, vL 12 F1)), (h_bytes, .inl (cB, 940, .inl f_bytes))] H := hP
  have hD : va_D A [(h0, .inr (6, vL 12 F1)), (h_bytes, .inl (cB, 940, .inl f_bytes))] := hD
  refine lv_aload_n hx hb dX6_readRow_9 rfl (lv_at hl 2 rfl) ?_
  refine lv_lconst (v := 0) hx hb dX6_readRow_10 (by decide) ?_
  refine put_f (D := D) (ci := 6) (v := .long 0) (ty := .long) (C := RX6) (T := TX6) (N := 12) hx hb hw inAX6 tyX6 tyX6_ok nmX6 hown hK hP hD hS 0 rfl rfl 5 (by decide) (hw _ q_98) (fun _ h9 => h9) rfl (by decide +kernel) rfl rfl dX6_readRow_11 (fun H locs F2 eF2 hP hD hS => ?_)
  have hP : va_P D vwCl [(h0, .inr (6, vL 12 F2)), (h_bytes, .inl (cB, 940, .inl f_bytes))] H := hP
  have hD : va_D A [(h0, .inr (6, vL 12 F2)), (h_bytes, .inl (cB, 940, .inl f_bytes))] := hD
  have cut9 : ∀ (u3 : Int32) (u4 : Int32) (G5 : Nat → Value) (u6 : Int32) (u7 : Int64) (u8 : Int32) (_ : SAME [4, 5, 10] F2 G5) (_ : G5 4 = .int u6) (_ : G5 5 = .long u7) (_ : G5 10 = .int u8) (_ : IR 0 940 u8) (H : Heap) (locs : List Loc) (ls : Array Slot), va_P D vwCl [(h0, .inr (6, vL 12 G5)), (h_bytes, .inl (cB, 940, .inl f_bytes))] H → va_D A [(h0, .inr (6, vL 12 G5)), (h_bytes, .inl (cB, 940, .inl f_bytes))] → va_S A s.heap H locs → lv_has ls 4 [(2, .int u3), (1, .int u4), (0, .ref h0)] → W p l e ({ frames := 0, cells := 0, slots := 0, locals := 0 } : Room) s m [.ref h0].toArray below meth c H locs 0 0 (MQ below (va_Qv (fun (u : va_W) => ∃ (Gh : Nat → Value) (y_kind : Int32) (y_value : Int32) (y_name : Int64) (y_at : Int32), SAME [2, 4, 5, 10] Fh Gh ∧ Gh 2 = .int y_kind ∧ IR 1 3 y_kind ∧ Gh 4 = .int y_value ∧ Gh 5 = .long y_name ∧ Gh 10 = .int y_at ∧ IR 0 940 y_at ∧ u = [(h0, .inr (6, vL 12 Gh)), (h_bytes, .inl (cB, 940, .inl f_bytes))]) (PO D A) A) [.ref h0].toArray s 0 0 A) (F0 m 118 ls []) := by
    intro u3 u4 G5 u6 u7 u8 i10 i11 i12 i13 i14 H locs ls hP hD hS hl
    have i14 : 0 ≤ u8.toInt ∧ u8.toInt ≤ 940 := i14
    refine lv_aload_n hx hb dX6_readRow_118 rfl (lv_at hl 2 rfl) ?_
    refine lv_iconst (v := 1) hx hb dX6_readRow_119 (by decide) ?_
    refine put_f (D := D) (ci := 6) (v := .int 1) (ty := .int) (C := RX6) (T := TX6) (N := 12) hx hb hw inAX6 tyX6 tyX6_ok nmX6 hown hK hP hD hS 0 rfl rfl 2 (by decide) (hw _ q_92) (fun _ h9 => h9) rfl (by decide +kernel) rfl rfl dX6_readRow_120 (fun H locs F15 eF15 hP hD hS => ?_)
    have hP : va_P D vwCl [(h0, .inr (6, vL 12 F15)), (h_bytes, .inl (cB, 940, .inl f_bytes))] H := hP
    have hD : va_D A [(h0, .inr (6, vL 12 F15)), (h_bytes, .inl (cB, 940, .inl f_bytes))] := hD
    refine lv_iload_n hx hb dX6_readRow_123 rfl (lv_at hl 0 rfl) ?_
    refine lv_if_ne (tgt := 145) hx hb dX6_readRow_124 (by decide) (fun c16 => ?_) (fun c16 => ?_)
    · have dc16 : u3.toInt ≠ 0 := ne_i (a := u3.toInt) (b := 0) rfl rfl c16
      refine lv_iload_n hx hb dX6_readRow_145 rfl (lv_at hl 1 rfl) ?_
      refine lv_if_ne (tgt := 163) hx hb dX6_readRow_146 (by decide) (fun c17 => ?_) (fun c17 => ?_)
      · have dc17 : u4.toInt ≠ 0 := ne_i (a := u4.toInt) (b := 0) rfl rfl c17
        exact ret_v hx hb hr hlocks hS hP hD dX6_readRow_163 (Nat.le_of_ble_eq_true rfl) (Nat.le_of_ble_eq_true rfl) ⟨F15, 1, u6, u7, u8, (SAME.up eF15 (SAME.tr (SAME.up eF2 (SAME.up eF1 SAME.rf (by decide)) (by decide)) i10 (by decide)) (by decide)), (get_eq eF15), (show 1 ≤ (1 : Int32).toInt ∧ (1 : Int32).toInt ≤ 3 by decide), (get_ne eF15 (by decide) i11), (get_ne eF15 (by decide) i12), (get_ne eF15 (by decide) i13), i14, rfl⟩
      · have dc17 : u4.toInt = 0 := eq_i (a := u4.toInt) (b := 0) rfl rfl c17
        have k18 : 0 ≤ u4.toInt ∧ u4.toInt ≤ 0 := ⟨Int.le_trans (Int.le_refl _) (Int.le_of_eq dc17.symm), Int.le_trans (Int.le_of_eq dc17) (Int.le_refl _)⟩
        refine lv_iload_n hx hb dX6_readRow_149 rfl (lv_at hl 0 rfl) ?_
        refine lv_if_le (tgt := 163) hx hb dX6_readRow_150 (by decide) (fun c19 => ?_) (fun c19 => ?_)
        · have dc19 : u3.toInt ≤ 0 := le_i (a := u3.toInt) (b := 0) rfl rfl c19
          have k20 : (-2147483648) ≤ u3.toInt ∧ u3.toInt ≤ 0 := ⟨(ir_any _).1, Int.le_trans dc19 (Int.le_refl _)⟩
          exact ret_v hx hb hr hlocks hS hP hD dX6_readRow_163 (Nat.le_of_ble_eq_true rfl) (Nat.le_of_ble_eq_true rfl) ⟨F15, 1, u6, u7, u8, (SAME.up eF15 (SAME.tr (SAME.up eF2 (SAME.up eF1 SAME.rf (by decide)) (by decide)) i10 (by decide)) (by decide)), (get_eq eF15), (show 1 ≤ (1 : Int32).toInt ∧ (1 : Int32).toInt ≤ 3 by decide), (get_ne eF15 (by decide) i11), (get_ne eF15 (by decide) i12), (get_ne eF15 (by decide) i13), i14, rfl⟩
        · have dc19 : 0 < u3.toInt := nle_i (a := u3.toInt) (b := 0) rfl rfl c19
          have k21 : 1 ≤ u3.toInt ∧ u3.toInt ≤ 2147483647 := ⟨lo_lt dc19 (Int.le_refl _) (by decide), (ir_any _).2⟩
          refine lv_iload_n hx hb dX6_readRow_153 rfl (lv_at hl 0 rfl) ?_
          refine lv_iconst (v := 3) hx hb dX6_readRow_154 (by decide) ?_
          refine lv_icmp_gt (tgt := 163) hx hb dX6_readRow_155 (by decide) (fun c22 => ?_) (fun c22 => ?_)
          · have dc22 : 3 < u3.toInt := lt_i (a := 3) (b := u3.toInt) rfl rfl c22
            have k23 : 4 ≤ u3.toInt ∧ u3.toInt ≤ 2147483647 := ⟨lo_lt dc22 (Int.le_refl _) (by decide), k21.2⟩
            exact ret_v hx hb hr hlocks hS hP hD dX6_readRow_163 (Nat.le_of_ble_eq_true rfl) (Nat.le_of_ble_eq_true rfl) ⟨F15, 1, u6, u7, u8, (SAME.up eF15 (SAME.tr (SAME.up eF2 (SAME.up eF1 SAME.rf (by decide)) (by decide)) i10 (by decide)) (by decide)), (get_eq eF15), (show 1 ≤ (1 : Int32).toInt ∧ (1 : Int32).toInt ≤ 3 by decide), (get_ne eF15 (by decide) i11), (get_ne eF15 (by decide) i12), (get_ne eF15 (by decide) i13), i14, rfl⟩
          · have dc22 : u3.toInt ≤ 3 := nlt_i (a := 3) (b := u3.toInt) rfl rfl c22
            have k24 : 1 ≤ u3.toInt ∧ u3.toInt ≤ 3 := ⟨k21.1, Int.le_trans dc22 (Int.le_refl _)⟩
            refine lv_aload_n hx hb dX6_readRow_158 rfl (lv_at hl 2 rfl) ?_
            refine lv_iconst (v := 3) hx hb dX6_readRow_159 (by decide) ?_
            refine put_f (D := D) (ci := 6) (v := .int 3) (ty := .int) (C := RX6) (T := TX6) (N := 12) hx hb hw inAX6 tyX6 tyX6_ok nmX6 hown hK hP hD hS 0 rfl rfl 2 (by decide) (hw _ q_92) (fun _ h9 => h9) rfl (by decide +kernel) rfl rfl dX6_readRow_160 (fun H locs F25 eF25 hP hD hS => ?_)
            have hP : va_P D vwCl [(h0, .inr (6, vL 12 F25)), (h_bytes, .inl (cB, 940, .inl f_bytes))] H := hP
            have hD : va_D A [(h0, .inr (6, vL 12 F25)), (h_bytes, .inl (cB, 940, .inl f_bytes))] := hD
            exact ret_v hx hb hr hlocks hS hP hD dX6_readRow_163 (Nat.le_of_ble_eq_true rfl) (Nat.le_of_ble_eq_true rfl) ⟨F25, 3, u6, u7, u8, (SAME.up eF25 (SAME.up eF15 (SAME.tr (SAME.up eF2 (SAME.up eF1 SAME.rf (by decide)) (by decide)) i10 (by decide)) (by decide)) (by decide)), (get_eq eF25), (show 1 ≤ (3 : Int32).toInt ∧ (3 : Int32).toInt ≤ 3 by decide), (get_ne eF25 (by decide) (get_ne eF15 (by decide) i11)), (get_ne eF25 (by decide) (get_ne eF15 (by decide) i12)), (get_ne eF25 (by decide) (get_ne eF15 (by decide) i13)), i14, rfl⟩
    · have dc16 : u3.toInt = 0 := eq_i (a := u3.toInt) (b := 0) rfl rfl c16
      have k26 : 0 ≤ u3.toInt ∧ u3.toInt ≤ 0 := ⟨Int.le_trans (Int.le_refl _) (Int.le_of_eq dc16.symm), Int.le_trans (Int.le_of_eq dc16) (Int.le_refl _)⟩
      refine lv_iload_n hx hb dX6_readRow_127 rfl (lv_at hl 1 rfl) ?_
      refine lv_if_le (tgt := 145) hx hb dX6_readRow_128 (by decide) (fun c27 => ?_) (fun c27 => ?_)
      · have dc27 : u4.toInt ≤ 0 := le_i (a := u4.toInt) (b := 0) rfl rfl c27
        have k28 : (-2147483648) ≤ u4.toInt ∧ u4.toInt ≤ 0 := ⟨(ir_any _).1, Int.le_trans dc27 (Int.le_refl _)⟩
        refine lv_iload_n hx hb dX6_readRow_145 rfl (lv_at hl 1 rfl) ?_
        refine lv_if_ne (tgt := 163) hx hb dX6_readRow_146 (by decide) (fun c29 => ?_) (fun c29 => ?_)
        · have dc29 : u4.toInt ≠ 0 := ne_i (a := u4.toInt) (b := 0) rfl rfl c29
          have k30 : (-2147483648) ≤ u4.toInt ∧ u4.toInt ≤ (-1) := ⟨k28.1, ne_hi dc29 k28.2 ⟨Int.le_refl _, Int.le_refl _⟩ (by decide)⟩
          exact ret_v hx hb hr hlocks hS hP hD dX6_readRow_163 (Nat.le_of_ble_eq_true rfl) (Nat.le_of_ble_eq_true rfl) ⟨F15, 1, u6, u7, u8, (SAME.up eF15 (SAME.tr (SAME.up eF2 (SAME.up eF1 SAME.rf (by decide)) (by decide)) i10 (by decide)) (by decide)), (get_eq eF15), (show 1 ≤ (1 : Int32).toInt ∧ (1 : Int32).toInt ≤ 3 by decide), (get_ne eF15 (by decide) i11), (get_ne eF15 (by decide) i12), (get_ne eF15 (by decide) i13), i14, rfl⟩
        · have dc29 : u4.toInt = 0 := eq_i (a := u4.toInt) (b := 0) rfl rfl c29
          have k31 : 0 ≤ u4.toInt ∧ u4.toInt ≤ 0 := ⟨Int.le_trans (Int.le_refl _) (Int.le_of_eq dc29.symm), k28.2⟩
          refine lv_iload_n hx hb dX6_readRow_149 rfl (lv_at hl 0 rfl) ?_
          refine lv_if_le (tgt := 163) hx hb dX6_readRow_150 (by decide) (fun c32 => ?_) (fun c32 => False.elim (bad_lt (nle_i (a := u3.toInt) (b := 0) rfl rfl c32) (Int.le_refl _) k26.2 (by decide)))
          have dc32 : u3.toInt ≤ 0 := le_i (a := u3.toInt) (b := 0) rfl rfl c32
          exact ret_v hx hb hr hlocks hS hP hD dX6_readRow_163 (Nat.le_of_ble_eq_true rfl) (Nat.le_of_ble_eq_true rfl) ⟨F15, 1, u6, u7, u8, (SAME.up eF15 (SAME.tr (SAME.up eF2 (SAME.up eF1 SAME.rf (by decide)) (by decide)) i10 (by decide)) (by decide)), (get_eq eF15), (show 1 ≤ (1 : Int32).toInt ∧ (1 : Int32).toInt ≤ 3 by decide), (get_ne eF15 (by decide) i11), (get_ne eF15 (by decide) i12), (get_ne eF15 (by decide) i13), i14, rfl⟩
      · have dc27 : 0 < u4.toInt := nle_i (a := u4.toInt) (b := 0) rfl rfl c27
        have k33 : 1 ≤ u4.toInt ∧ u4.toInt ≤ 2147483647 := ⟨lo_lt dc27 (Int.le_refl _) (by decide), (ir_any _).2⟩
        refine lv_iload_n hx hb dX6_readRow_131 rfl (lv_at hl 1 rfl) ?_
        refine lv_bipush (v := 7) hx hb dX6_readRow_132 (by decide) ?_
        refine lv_icmp_gt (tgt := 145) hx hb dX6_readRow_134 (by decide) (fun c34 => ?_) (fun c34 => ?_)
        · have dc34 : 7 < u4.toInt := lt_i (a := 7) (b := u4.toInt) rfl rfl c34
          have k35 : 8 ≤ u4.toInt ∧ u4.toInt ≤ 2147483647 := ⟨lo_lt dc34 (Int.le_refl _) (by decide), k33.2⟩
          refine lv_iload_n hx hb dX6_readRow_145 rfl (lv_at hl 1 rfl) ?_
          refine lv_if_ne (tgt := 163) hx hb dX6_readRow_146 (by decide) (fun c36 => ?_) (fun c36 => False.elim (bad_le (Int.le_of_eq (eq_i (a := u4.toInt) (b := 0) rfl rfl c36)) k35.1 (Int.le_refl _) (by decide)))
          have dc36 : u4.toInt ≠ 0 := ne_i (a := u4.toInt) (b := 0) rfl rfl c36
          exact ret_v hx hb hr hlocks hS hP hD dX6_readRow_163 (Nat.le_of_ble_eq_true rfl) (Nat.le_of_ble_eq_true rfl) ⟨F15, 1, u6, u7, u8, (SAME.up eF15 (SAME.tr (SAME.up eF2 (SAME.up eF1 SAME.rf (by decide)) (by decide)) i10 (by decide)) (by decide)), (get_eq eF15), (show 1 ≤ (1 : Int32).toInt ∧ (1 : Int32).toInt ≤ 3 by decide), (get_ne eF15 (by decide) i11), (get_ne eF15 (by decide) i12), (get_ne eF15 (by decide) i13), i14, rfl⟩
        · have dc34 : u4.toInt ≤ 7 := nlt_i (a := 7) (b := u4.toInt) rfl rfl c34
          have k37 : 1 ≤ u4.toInt ∧ u4.toInt ≤ 7 := ⟨k33.1, Int.le_trans dc34 (Int.le_refl _)⟩
          refine lv_aload_n hx hb dX6_readRow_137 rfl (lv_at hl 2 rfl) ?_
          refine lv_iconst (v := 2) hx hb dX6_readRow_138 (by decide) ?_
          refine put_f (D := D) (ci := 6) (v := .int 2) (ty := .int) (C := RX6) (T := TX6) (N := 12) hx hb hw inAX6 tyX6 tyX6_ok nmX6 hown hK hP hD hS 0 rfl rfl 2 (by decide) (hw _ q_92) (fun _ h9 => h9) rfl (by decide +kernel) rfl rfl dX6_readRow_139 (fun H locs F38 eF38 hP hD hS => ?_)
          have hP : va_P D vwCl [(h0, .inr (6, vL 12 F38)), (h_bytes, .inl (cB, 940, .inl f_bytes))] H := hP
          have hD : va_D A [(h0, .inr (6, vL 12 F38)), (h_bytes, .inl (cB, 940, .inl f_bytes))] := hD
          refine lv_goto (tgt := 163) hx hb dX6_readRow_142 (by decide) ?_
          exact ret_v hx hb hr hlocks hS hP hD dX6_readRow_163 (Nat.le_of_ble_eq_true rfl) (Nat.le_of_ble_eq_true rfl) ⟨F38, 2, u6, u7, u8, (SAME.up eF38 (SAME.up eF15 (SAME.tr (SAME.up eF2 (SAME.up eF1 SAME.rf (by decide)) (by decide)) i10 (by decide)) (by decide)) (by decide)), (get_eq eF38), (show 1 ≤ (2 : Int32).toInt ∧ (2 : Int32).toInt ≤ 3 by decide), (get_ne eF38 (by decide) (get_ne eF15 (by decide) i11)), (get_ne eF38 (by decide) (get_ne eF15 (by decide) i12)), (get_ne eF38 (by decide) (get_ne eF15 (by decide) i13)), i14, rfl⟩
  have n39 : F2 4 = .int 0 := (get_ne eF2 (by decide) (get_eq eF1))
  have n40 : F1 10 = .int x_at := (get_ne eF1 (by decide) e_at)
  have n41 : F2 10 = .int x_at := (get_ne eF2 (by decide) n40)
  refine mloop (α := (Int32) × (Int32) × (Nat → Value) × (Int32) × (Int64) × (Int32)) (nL := 4) (D := D) (A := A) (H0 := s.heap) (fun a => (x_length.toInt - a.2.2.2.2.2.toInt).toNat) (fun a => SAME [4, 5, 10] F2 a.2.2.1 ∧ a.2.2.1 4 = .int a.2.2.2.1 ∧ a.2.2.1 5 = .long a.2.2.2.2.1 ∧ a.2.2.1 10 = .int a.2.2.2.2.2 ∧ IR 0 940 a.2.2.2.2.2) (fun a => [(h0, .inr (6, vL 12 a.2.2.1)), (h_bytes, .inl (cB, 940, .inl f_bytes))]) (fun a => [(2, .int a.1), (1, .int a.2.1), (0, .ref h0)]) (fun H locs ls => W p l e ({ frames := 0, cells := 0, slots := 0, locals := 0 } : Room) s m [.ref h0].toArray below meth c H locs 0 0 (MQ below (va_Qv (fun (u : va_W) => ∃ (Gh : Nat → Value) (y_kind : Int32) (y_value : Int32) (y_name : Int64) (y_at : Int32), SAME [2, 4, 5, 10] Fh Gh ∧ Gh 2 = .int y_kind ∧ IR 1 3 y_kind ∧ Gh 4 = .int y_value ∧ Gh 5 = .long y_name ∧ Gh 10 = .int y_at ∧ IR 0 940 y_at ∧ u = [(h0, .inr (6, vL 12 Gh)), (h_bytes, .inl (cB, 940, .inl f_bytes))]) (PO D A) A) [.ref h0].toArray s 0 0 A) (F0 m 14 ls [])) ?_ (0, 0, F2, 0, 0, x_at) ⟨SAME.rf, n39, (get_eq eF2), n41, i_x_at⟩ _ _ _ hP hD hS hl
  rintro ⟨u3, u4, G5, u6, u7, u8⟩ ⟨i42, i43, i44, i45, i46⟩ ih H locs ls hP hD hS hl
  have i46 : 0 ≤ u8.toInt ∧ u8.toInt ≤ 940 := i46
  have hP : va_P D vwCl [(h0, .inr (6, vL 12 G5)), (h_bytes, .inl (cB, 940, .inl f_bytes))] H := hP
  have hD : va_D A [(h0, .inr (6, vL 12 G5)), (h_bytes, .inl (cB, 940, .inl f_bytes))] := hD
  have hl : lv_has ls 4 [(2, .int u3), (1, .int u4), (0, .ref h0)] := hl
  refine lv_aload_n hx hb dX6_readRow_14 rfl (lv_at hl 2 rfl) ?_
  refine get_f (D := D) (ci := 6) (v := .int u8) (C := RX6) (T := TX6) (N := 12) hx hb hw inAX6 hown hK hP 0 rfl rfl 10 (by decide) (hw _ q_110) (fun _ h9 => h9) i45 dX6_readRow_15 ?_
  refine lv_aload_n hx hb dX6_readRow_18 rfl (lv_at hl 2 rfl) ?_
  have n47 : F1 1 = .int x_length := (get_ne eF1 (by decide) e_length)
  have n48 : F2 1 = .int x_length := (get_ne eF2 (by decide) n47)
  have n49 : G5 1 = .int x_length := (SAME.at i42 (by decide) n48)
  refine get_f (D := D) (ci := 6) (v := .int x_length) (C := RX6) (T := TX6) (N := 12) hx hb hw inAX6 hown hK hP 0 rfl rfl 1 (by decide) (hw _ q_90) (fun _ h9 => h9) n49 dX6_readRow_19 ?_
  refine lv_icmp_ge (tgt := 118) hx hb dX6_readRow_22 (by decide) (fun c50 => ?_) (fun c50 => ?_)
  · have dc50 : x_length.toInt ≤ u8.toInt := le_i (a := x_length.toInt) (b := u8.toInt) rfl rfl c50
    exact cut9 u3 u4 G5 u6 u7 u8 (SAME.tr SAME.rf i42 (by decide)) i43 i44 i45 i46 _ _ _ hP hD hS (lv_sub hl [0, 1, 2] rfl)
  · have dc50 : u8.toInt < x_length.toInt := nle_i (a := x_length.toInt) (b := u8.toInt) rfl rfl c50
    have k51 : 0 ≤ u8.toInt ∧ u8.toInt ≤ 939 := ⟨i46.1, up_lt dc50 i_x_length.2 (by decide)⟩
    have k52 : 1 ≤ x_length.toInt ∧ x_length.toInt ≤ 940 := ⟨lo_lt dc50 i46.1 (by decide), i_x_length.2⟩
    refine lv_aload_n hx hb dX6_readRow_25 rfl (lv_at hl 2 rfl) ?_
    have n53 : F1 0 = .ref h_bytes := (get_ne eF1 (by decide) e_bytes)
    have n54 : F2 0 = .ref h_bytes := (get_ne eF2 (by decide) n53)
    have n55 : G5 0 = .ref h_bytes := (SAME.at i42 (by decide) n54)
    refine get_f (D := D) (ci := 6) (v := .ref h_bytes) (C := RX6) (T := TX6) (N := 12) hx hb hw inAX6 hown hK hP 0 rfl rfl 0 (by decide) (hw _ q_89) (fun _ h9 => h9) n55 dX6_readRow_26 ?_
    refine lv_aload_n hx hb dX6_readRow_29 rfl (lv_at hl 2 rfl) ?_
    refine get_f (D := D) (ci := 6) (v := .int u8) (C := RX6) (T := TX6) (N := 12) hx hb hw inAX6 hown hK hP 0 rfl rfl 10 (by decide) (hw _ q_110) (fun _ h9 => h9) i45 dX6_readRow_30 ?_
    refine va_bald hx hb hK hP 1 2 rfl rfl (ix_k k51 (by decide) (by decide)) dX6_readRow_33 ?_
    refine lv_topi (fun v56 ev56 => ?_)
    refine lv_istore_n (lv' := [(3, .int v56), (2, .int u3), (1, .int u4), (0, .ref h0)]) hx hb dX6_readRow_34 rfl hl (by decide) rfl (fun ls hl => ?_)
    refine lv_iload_n hx hb dX6_readRow_35 rfl (lv_at hl 0 rfl) ?_
    refine lv_bipush (v := 97) hx hb dX6_readRow_36 (by decide) ?_
    refine lv_icmp_lt (tgt := 74) hx hb dX6_readRow_38 (by decide) (fun c57 => ?_) (fun c57 => ?_)
    · have dc57 : v56.toInt < 97 := lt_i (a := v56.toInt) (b := 97) rfl rfl c57
      have k58 : (-2147483648) ≤ v56.toInt ∧ v56.toInt ≤ 96 := ⟨(ir_any _).1, up_lt dc57 (Int.le_refl _) (by decide)⟩
      refine lv_iload_n hx hb dX6_readRow_74 rfl (lv_at hl 0 rfl) ?_
      refine lv_bipush (v := 48) hx hb dX6_readRow_75 (by decide) ?_
      refine lv_icmp_lt (tgt := 118) hx hb dX6_readRow_77 (by decide) (fun c59 => ?_) (fun c59 => ?_)
      · have dc59 : v56.toInt < 48 := lt_i (a := v56.toInt) (b := 48) rfl rfl c59
        have k60 : (-2147483648) ≤ v56.toInt ∧ v56.toInt ≤ 47 := ⟨k58.1, up_lt dc59 (Int.le_refl _) (by decide)⟩
        exact cut9 u3 u4 G5 u6 u7 u8 (SAME.tr SAME.rf i42 (by decide)) i43 i44 i45 (ir_wk k51 (by decide) (by decide)) _ _ _ hP hD hS (lv_sub hl [1, 2, 3] rfl)
      · have dc59 : 48 ≤ v56.toInt := nlt_i (a := v56.toInt) (b := 48) rfl rfl c59
        have k61 : 48 ≤ v56.toInt ∧ v56.toInt ≤ 96 := ⟨Int.le_trans (Int.le_refl _) dc59, k58.2⟩
        refine lv_iload_n hx hb dX6_readRow_80 rfl (lv_at hl 0 rfl) ?_
        refine lv_bipush (v := 57) hx hb dX6_readRow_81 (by decide) ?_
        refine lv_icmp_gt (tgt := 118) hx hb dX6_readRow_83 (by decide) (fun c62 => ?_) (fun c62 => ?_)
        · have dc62 : 57 < v56.toInt := lt_i (a := 57) (b := v56.toInt) rfl rfl c62
          have k63 : 58 ≤ v56.toInt ∧ v56.toInt ≤ 96 := ⟨lo_lt dc62 (Int.le_refl _) (by decide), k61.2⟩
          exact cut9 u3 u4 G5 u6 u7 u8 (SAME.tr SAME.rf i42 (by decide)) i43 i44 i45 (ir_wk k51 (by decide) (by decide)) _ _ _ hP hD hS (lv_sub hl [1, 2, 3] rfl)
        · have dc62 : v56.toInt ≤ 57 := nlt_i (a := 57) (b := v56.toInt) rfl rfl c62
          have k64 : 48 ≤ v56.toInt ∧ v56.toInt ≤ 57 := ⟨k61.1, Int.le_trans dc62 (Int.le_refl _)⟩
          obtain ⟨v65, ev65⟩ : ∃ z : Int32, z = u3 + 1 := ⟨_, rfl⟩
          refine lv_iinc (v := v65) (lv' := [(2, .int v65), (3, .int v56), (1, .int u4), (0, .ref h0)]) hx hb dX6_readRow_86 hl (k := 1) rfl (by rw [ev65]; rfl) (by decide) rfl (fun ls hl => ?_)
          refine lv_aload_n hx hb dX6_readRow_89 rfl (lv_at hl 3 rfl) ?_
          refine lv_aload_n hx hb dX6_readRow_90 rfl (lv_at hl 3 rfl) ?_
          refine get_f (D := D) (ci := 6) (v := .int u6) (C := RX6) (T := TX6) (N := 12) hx hb hw inAX6 hown hK hP 0 rfl rfl 4 (by decide) (hw _ q_97) (fun _ h9 => h9) i43 dX6_readRow_91 ?_
          refine lv_bipush (v := 10) hx hb dX6_readRow_94 (by decide) ?_
          refine lv_imul hx hb dX6_readRow_96 ?_
          refine lv_topi (fun v66 ev66 => ?_)
          refine lv_iload_n hx hb dX6_readRow_97 rfl (lv_at hl 1 rfl) ?_
          refine lv_iadd hx hb dX6_readRow_98 ?_
          refine lv_topi (fun v67 ev67 => ?_)
          refine lv_bipush (v := 48) hx hb dX6_readRow_99 (by decide) ?_
          refine lv_isub hx hb dX6_readRow_101 ?_
          refine lv_topi (fun v68 ev68 => ?_)
          refine put_f (D := D) (ci := 6) (v := .int v68) (ty := .int) (C := RX6) (T := TX6) (N := 12) hx hb hw inAX6 tyX6 tyX6_ok nmX6 hown hK hP hD hS 0 rfl rfl 4 (by decide) (hw _ q_97) (fun _ h9 => h9) rfl (by decide +kernel) rfl rfl dX6_readRow_102 (fun H locs F69 eF69 hP hD hS => ?_)
          have hP : va_P D vwCl [(h0, .inr (6, vL 12 F69)), (h_bytes, .inl (cB, 940, .inl f_bytes))] H := hP
          have hD : va_D A [(h0, .inr (6, vL 12 F69)), (h_bytes, .inl (cB, 940, .inl f_bytes))] := hD
          refine lv_aload_n hx hb dX6_readRow_105 rfl (lv_at hl 3 rfl) ?_
          refine lv_dup hx hb dX6_readRow_106 rfl ?_
          have n70 : F69 10 = .int u8 := (get_ne eF69 (by decide) i45)
          refine get_f (D := D) (ci := 6) (v := .int u8) (C := RX6) (T := TX6) (N := 12) hx hb hw inAX6 hown hK hP 0 rfl rfl 10 (by decide) (hw _ q_110) (fun _ h9 => h9) n70 dX6_readRow_107 ?_
          refine lv_iconst (v := 1) hx hb dX6_readRow_110 (by decide) ?_
          refine lv_iadd hx hb dX6_readRow_111 ?_
          refine lv_topi (fun v71 ev71 => ?_)
          have bv71 : v71.toInt = u8.toInt + 1 := by rw [ev71]; exact add_k rfl rfl k51 ⟨Int.le_refl _, Int.le_refl _⟩ (by decide)
          have k72 : 1 ≤ v71.toInt ∧ v71.toInt ≤ 940 := add_r bv71 k51 ⟨Int.le_refl _, Int.le_refl _⟩ (by decide)
          refine put_f (D := D) (ci := 6) (v := .int v71) (ty := .int) (C := RX6) (T := TX6) (N := 12) hx hb hw inAX6 tyX6 tyX6_ok nmX6 hown hK hP hD hS 0 rfl rfl 10 (by decide) (hw _ q_110) (fun _ h9 => h9) rfl (by decide +kernel) rfl rfl dX6_readRow_112 (fun H locs F73 eF73 hP hD hS => ?_)
          have hP : va_P D vwCl [(h0, .inr (6, vL 12 F73)), (h_bytes, .inl (cB, 940, .inl f_bytes))] H := hP
          have hD : va_D A [(h0, .inr (6, vL 12 F73)), (h_bytes, .inl (cB, 940, .inl f_bytes))] := hD
          refine lv_goto (tgt := 14) hx hb dX6_readRow_115 (by decide) ?_
          have n74 : F73 4 = .int v68 := (get_ne eF73 (by decide) (get_eq eF69))
          have n75 : F69 5 = .long u7 := (get_ne eF69 (by decide) i44)
          have n76 : F73 5 = .long u7 := (get_ne eF73 (by decide) n75)
          exact ih (v65, u4, F73, v68, u7, v71) ⟨(SAME.up eF73 (SAME.up eF69 (SAME.tr SAME.rf i42 (by decide)) (by decide)) (by decide)), n74, n76, (get_eq eF73), (ir_wk k72 (by decide) (by decide))⟩ (by show (x_length.toInt - v71.toInt).toNat < (x_length.toInt - u8.toInt).toNat; omega) _ _ _ hP hD hS (lv_sub hl [0, 2, 3] rfl)
    · have dc57 : 97 ≤ v56.toInt := nlt_i (a := v56.toInt) (b := 97) rfl rfl c57
      have k77 : 97 ≤ v56.toInt ∧ v56.toInt ≤ 2147483647 := ⟨Int.le_trans (Int.le_refl _) dc57, (ir_any _).2⟩
      refine lv_iload_n hx hb dX6_readRow_41 rfl (lv_at hl 0 rfl) ?_
      refine lv_bipush (v := 122) hx hb dX6_readRow_42 (by decide) ?_
      refine lv_icmp_gt (tgt := 74) hx hb dX6_readRow_44 (by decide) (fun c78 => ?_) (fun c78 => ?_)
      · have dc78 : 122 < v56.toInt := lt_i (a := 122) (b := v56.toInt) rfl rfl c78
        have k79 : 123 ≤ v56.toInt ∧ v56.toInt ≤ 2147483647 := ⟨lo_lt dc78 (Int.le_refl _) (by decide), k77.2⟩
        refine lv_iload_n hx hb dX6_readRow_74 rfl (lv_at hl 0 rfl) ?_
        refine lv_bipush (v := 48) hx hb dX6_readRow_75 (by decide) ?_
        refine lv_icmp_lt (tgt := 118) hx hb dX6_readRow_77 (by decide) (fun c80 => False.elim (bad_lt (lt_i (a := v56.toInt) (b := 48) rfl rfl c80) k79.1 (Int.le_refl _) (by decide))) (fun c80 => ?_)
        have dc80 : 48 ≤ v56.toInt := nlt_i (a := v56.toInt) (b := 48) rfl rfl c80
        refine lv_iload_n hx hb dX6_readRow_80 rfl (lv_at hl 0 rfl) ?_
        refine lv_bipush (v := 57) hx hb dX6_readRow_81 (by decide) ?_
        refine lv_icmp_gt (tgt := 118) hx hb dX6_readRow_83 (by decide) (fun c81 => ?_) (fun c81 => False.elim (bad_le (nlt_i (a := 57) (b := v56.toInt) rfl rfl c81) k79.1 (Int.le_refl _) (by decide)))
        have dc81 : 57 < v56.toInt := lt_i (a := 57) (b := v56.toInt) rfl rfl c81
        exact cut9 u3 u4 G5 u6 u7 u8 (SAME.tr SAME.rf i42 (by decide)) i43 i44 i45 (ir_wk k51 (by decide) (by decide)) _ _ _ hP hD hS (lv_sub hl [1, 2, 3] rfl)
      · have dc78 : v56.toInt ≤ 122 := nlt_i (a := 122) (b := v56.toInt) rfl rfl c78
        have k82 : 97 ≤ v56.toInt ∧ v56.toInt ≤ 122 := ⟨k77.1, Int.le_trans dc78 (Int.le_refl _)⟩
        obtain ⟨v83, ev83⟩ : ∃ z : Int32, z = u4 + 1 := ⟨_, rfl⟩
        refine lv_iinc (v := v83) (lv' := [(1, .int v83), (3, .int v56), (2, .int u3), (0, .ref h0)]) hx hb dX6_readRow_47 hl (k := 2) rfl (by rw [ev83]; rfl) (by decide) rfl (fun ls hl => ?_)
        refine lv_aload_n hx hb dX6_readRow_50 rfl (lv_at hl 3 rfl) ?_
        refine lv_aload_n hx hb dX6_readRow_51 rfl (lv_at hl 3 rfl) ?_
        refine get_f (D := D) (ci := 6) (v := .long u7) (C := RX6) (T := TX6) (N := 12) hx hb hw inAX6 hown hK hP 0 rfl rfl 5 (by decide) (hw _ q_98) (fun _ h9 => h9) i44 dX6_readRow_52 ?_
        refine lv_ldc2 hx hb hown (hw _ q_87) dX6_readRow_55 ?_
        refine lv_lmul hx hb dX6_readRow_58 ?_
        refine lv_topl (fun v84 ev84 => ?_)
        refine lv_iload_n hx hb dX6_readRow_59 rfl (lv_at hl 1 rfl) ?_
        obtain ⟨v85, ev85⟩ : ∃ z : Int64, (v56 : Int32).toInt64 = z := ⟨_, rfl⟩
        refine lv_i2l (v := v85) hx hb dX6_readRow_60 ev85 ?_
        refine lv_ladd hx hb dX6_readRow_61 ?_
        refine lv_topl (fun v86 ev86 => ?_)
        refine lv_ldc2 hx hb hown (hw _ q_88) dX6_readRow_62 ?_
        refine lv_lsub hx hb dX6_readRow_65 ?_
        refine lv_topl (fun v87 ev87 => ?_)
        refine lv_lconst (v := 1) hx hb dX6_readRow_66 (by decide) ?_
        refine lv_ladd hx hb dX6_readRow_67 ?_
        refine lv_topl (fun v88 ev88 => ?_)
        refine put_f (D := D) (ci := 6) (v := .long v88) (ty := .long) (C := RX6) (T := TX6) (N := 12) hx hb hw inAX6 tyX6 tyX6_ok nmX6 hown hK hP hD hS 0 rfl rfl 5 (by decide) (hw _ q_98) (fun _ h9 => h9) rfl (by decide +kernel) rfl rfl dX6_readRow_68 (fun H locs F89 eF89 hP hD hS => ?_)
        have hP : va_P D vwCl [(h0, .inr (6, vL 12 F89)), (h_bytes, .inl (cB, 940, .inl f_bytes))] H := hP
        have hD : va_D A [(h0, .inr (6, vL 12 F89)), (h_bytes, .inl (cB, 940, .inl f_bytes))] := hD
        refine lv_goto (tgt := 105) hx hb dX6_readRow_71 (by decide) ?_
        refine lv_aload_n hx hb dX6_readRow_105 rfl (lv_at hl 3 rfl) ?_
        refine lv_dup hx hb dX6_readRow_106 rfl ?_
        have n90 : F89 10 = .int u8 := (get_ne eF89 (by decide) i45)
        refine get_f (D := D) (ci := 6) (v := .int u8) (C := RX6) (T := TX6) (N := 12) hx hb hw inAX6 hown hK hP 0 rfl rfl 10 (by decide) (hw _ q_110) (fun _ h9 => h9) n90 dX6_readRow_107 ?_
        refine lv_iconst (v := 1) hx hb dX6_readRow_110 (by decide) ?_
        refine lv_iadd hx hb dX6_readRow_111 ?_
        refine lv_topi (fun v91 ev91 => ?_)
        have bv91 : v91.toInt = u8.toInt + 1 := by rw [ev91]; exact add_k rfl rfl k51 ⟨Int.le_refl _, Int.le_refl _⟩ (by decide)
        have k92 : 1 ≤ v91.toInt ∧ v91.toInt ≤ 940 := add_r bv91 k51 ⟨Int.le_refl _, Int.le_refl _⟩ (by decide)
        refine put_f (D := D) (ci := 6) (v := .int v91) (ty := .int) (C := RX6) (T := TX6) (N := 12) hx hb hw inAX6 tyX6 tyX6_ok nmX6 hown hK hP hD hS 0 rfl rfl 10 (by decide) (hw _ q_110) (fun _ h9 => h9) rfl (by decide +kernel) rfl rfl dX6_readRow_112 (fun H locs F93 eF93 hP hD hS => ?_)
        have hP : va_P D vwCl [(h0, .inr (6, vL 12 F93)), (h_bytes, .inl (cB, 940, .inl f_bytes))] H := hP
        have hD : va_D A [(h0, .inr (6, vL 12 F93)), (h_bytes, .inl (cB, 940, .inl f_bytes))] := hD
        refine lv_goto (tgt := 14) hx hb dX6_readRow_115 (by decide) ?_
        have n94 : F89 4 = .int u6 := (get_ne eF89 (by decide) i43)
        have n95 : F93 4 = .int u6 := (get_ne eF93 (by decide) n94)
        have n96 : F93 5 = .long v88 := (get_ne eF93 (by decide) (get_eq eF89))
        exact ih (u3, v83, F93, u6, v88, v91) ⟨(SAME.up eF93 (SAME.up eF89 (SAME.tr SAME.rf i42 (by decide)) (by decide)) (by decide)), n95, n96, (get_eq eF93), (ir_wk k92 (by decide) (by decide))⟩ (by show (x_length.toInt - v91.toInt).toNat < (x_length.toInt - u8.toInt).toNat; omega) _ _ _ hP hD hS (lv_sub hl [2, 0, 3] rfl)
set_option maxHeartbeats 4000000 in
set_option maxRecDepth 100000 in
theorem m_X6_wordNamed (l : Launch) (D : va_G) (cI cJ cB cP cM cZ : ClassId) (h0 : Nat) (h_wordNames : Nat) (Fh : Nat → Value) (f_wordNames : Nat → Int64) (p0 : Int64) (sz : Nat) (e_wordNames : Fh 9 = .ref h_wordNames) : CI l yX6_wordNamed cX6_wordNamed 4 (some .int) { frames := 0, cells := 0, slots := 0, locals := 0 } (GG D cI cJ cB cP cM cZ) D [(h0, .inr (6, vL 12 Fh)), (h_wordNames, .inl (cJ, 23, .inr (.inl f_wordNames)))] sz [.ref h0, .long p0] (fun (r : Int32) (u : va_W) => IR (-1) 22 r ∧ u = [(h0, .inr (6, vL 12 Fh)), (h_wordNames, .inl (cJ, 23, .inr (.inl f_wordNames)))]) := by
  refine CI_mk (by decide) (Nat.le_of_ble_eq_true rfl) ?_
  intro p e s m below meth c A ls E hAe hG hsz hP hD hA hS hl
  obtain ⟨hx, hb, hr, hw, hown, hlocks, hml, hnm⟩ := E
  have hK := hG.1
  have hl : lv_has ls 4 [(0, .ref h0), (1, .long p0)] := hl
  refine lv_iconst (v := 0) hx hb dX6_wordNamed_0 (by decide) ?_
  refine lv_istore_n (lv' := [(3, .int 0), (0, .ref h0), (1, .long p0)]) hx hb dX6_wordNamed_1 rfl hl (by decide) rfl (fun ls hl => ?_)
  refine mloop (α := (Int32)) (nL := 4) (D := D) (A := A) (H0 := s.heap) (fun a => (23 - a.toInt).toNat) (fun a => IR 0 23 a) (fun a => [(h0, .inr (6, vL 12 Fh)), (h_wordNames, .inl (cJ, 23, .inr (.inl f_wordNames)))]) (fun a => [(3, .int a), (0, .ref h0), (1, .long p0)]) (fun H locs ls => W p l e ({ frames := 0, cells := 0, slots := 0, locals := 0 } : Room) s m [.ref h0, .long p0].toArray below meth c H locs 0 0 (MQ below (va_Qi (fun (r : Int32) (u : va_W) => IR (-1) 22 r ∧ u = [(h0, .inr (6, vL 12 Fh)), (h_wordNames, .inl (cJ, 23, .inr (.inl f_wordNames)))]) (PO D A) A) [.ref h0, .long p0].toArray s 0 0 A) (F0 m 2 ls [])) ?_ (0) (show 0 ≤ (0 : Int32).toInt ∧ (0 : Int32).toInt ≤ 23 by decide) _ _ _ hP hD hS hl
  rintro u1 i2 ih H locs ls hP hD hS hl
  have i2 : 0 ≤ u1.toInt ∧ u1.toInt ≤ 23 := i2
  have hP : va_P D vwCl [(h0, .inr (6, vL 12 Fh)), (h_wordNames, .inl (cJ, 23, .inr (.inl f_wordNames)))] H := hP
  have hD : va_D A [(h0, .inr (6, vL 12 Fh)), (h_wordNames, .inl (cJ, 23, .inr (.inl f_wordNames)))] := hD
  have hl : lv_has ls 4 [(3, .int u1), (0, .ref h0), (1, .long p0)] := hl
  refine lv_iload_n hx hb dX6_wordNamed_2 rfl (lv_at hl 0 rfl) ?_
  refine lv_bipush (v := 23) hx hb dX6_wordNamed_3 (by decide) ?_
  refine lv_icmp_ge (tgt := 27) hx hb dX6_wordNamed_5 (by decide) (fun c3 => ?_) (fun c3 => ?_)
  · have dc3 : 23 ≤ u1.toInt := le_i (a := 23) (b := u1.toInt) rfl rfl c3
    have k4 : 23 ≤ u1.toInt ∧ u1.toInt ≤ 23 := ⟨Int.le_trans (Int.le_refl _) dc3, i2.2⟩
    refine lv_iconst (v := (-1)) hx hb dX6_wordNamed_27 (by decide) ?_
    exact ret_i (v := (-1)) hx hb hr hlocks hS hP hD dX6_wordNamed_28 rfl (Nat.le_of_ble_eq_true rfl) (Nat.le_of_ble_eq_true rfl) ⟨(show (-1) ≤ ((-1) : Int32).toInt ∧ ((-1) : Int32).toInt ≤ 22 by decide), rfl⟩
  · have dc3 : u1.toInt < 23 := nle_i (a := 23) (b := u1.toInt) rfl rfl c3
    have k5 : 0 ≤ u1.toInt ∧ u1.toInt ≤ 22 := ⟨i2.1, up_lt dc3 (Int.le_refl _) (by decide)⟩
    refine lv_aload_n hx hb dX6_wordNamed_8 rfl (lv_at hl 1 rfl) ?_
    refine get_f (D := D) (ci := 6) (v := .ref h_wordNames) (C := RX6) (T := TX6) (N := 12) hx hb hw inAX6 hown hK hP 0 rfl rfl 9 (by decide) (hw _ q_109) (fun _ h9 => h9) e_wordNames dX6_wordNamed_9 ?_
    refine lv_iload_n hx hb dX6_wordNamed_12 rfl (lv_at hl 0 rfl) ?_
    refine va_lald hx hb hK hP 1 1 rfl rfl (ix_k k5 (by decide) (by decide)) dX6_wordNamed_13 ?_
    refine lv_topl (fun v6 ev6 => ?_)
    refine lv_lload_n hx hb dX6_wordNamed_14 rfl (lv_at hl 2 rfl) ?_
    refine W.lcmp hx hb dX6_wordNamed_15 ?_
    refine lv_topi (fun v7 ev7 => ?_)
    refine lv_if_ne (tgt := 21) hx hb dX6_wordNamed_16 (by decide) (fun c8 => ?_) (fun c8 => ?_)
    · have dc8 : v7.toInt ≠ 0 := ne_i (a := v7.toInt) (b := 0) rfl rfl c8
      obtain ⟨v9, ev9⟩ : ∃ z : Int32, z = u1 + 1 := ⟨_, rfl⟩
      have bv9 : v9.toInt = u1.toInt + 1 := by rw [ev9]; exact add_k rfl rfl k5 ⟨Int.le_refl _, Int.le_refl _⟩ (by decide)
      have k10 : 1 ≤ v9.toInt ∧ v9.toInt ≤ 23 := add_r bv9 k5 ⟨Int.le_refl _, Int.le_refl _⟩ (by decide)
      refine lv_iinc (v := v9) (lv' := [(3, .int v9), (0, .ref h0), (1, .long p0)]) hx hb dX6_wordNamed_21 hl (k := 0) rfl (by rw [ev9]; rfl) (by decide) rfl (fun ls hl => ?_)
      refine lv_goto (tgt := 2) hx hb dX6_wordNamed_24 (by decide) ?_
      exact ih (v9) (ir_wk k10 (by decide) (by decide)) (by show (23 - v9.toInt).toNat < (23 - u1.toInt).toNat; omega) _ _ _ hP hD hS (lv_sub hl [0, 1, 2] rfl)
    · have dc8 : v7.toInt = 0 := eq_i (a := v7.toInt) (b := 0) rfl rfl c8
      have k11 : 0 ≤ v7.toInt ∧ v7.toInt ≤ 0 := ⟨Int.le_trans (Int.le_refl _) (Int.le_of_eq dc8.symm), Int.le_trans (Int.le_of_eq dc8) (Int.le_refl _)⟩
      refine lv_iload_n hx hb dX6_wordNamed_19 rfl (lv_at hl 0 rfl) ?_
      exact ret_i (v := u1) hx hb hr hlocks hS hP hD dX6_wordNamed_20 rfl (Nat.le_of_ble_eq_true rfl) (Nat.le_of_ble_eq_true rfl) ⟨(ir_wk k5 (by decide) (by decide)), rfl⟩
set_option maxHeartbeats 4000000 in
set_option maxRecDepth 100000 in
theorem m_X6_advance (l : Launch) (D : va_G) (cI cJ cB cP cM cZ : ClassId) (h0 : Nat) (h_bytes : Nat) (h_wordNames : Nat) (Fh : Nat → Value) (x_length : Int32) (x_value : Int32) (x_name : Int64) (x_at : Int32) (x_mostBytes : Int32) (f_bytes : Nat → Int32) (f_wordNames : Nat → Int64) (sz : Nat) (e_bytes : Fh 0 = .ref h_bytes) (e_length : Fh 1 = .int x_length) (i_x_length : IR 0 940 x_length) (e_value : Fh 4 = .int x_value) (e_name : Fh 5 = .long x_name) (e_wordNames : Fh 9 = .ref h_wordNames) (e_at : Fh 10 = .int x_at) (i_x_at : IR 0 940 x_at) (e_mostBytes : Fh 11 = .int x_mostBytes) : CV l yX6_advance cX6_advance 1 none { frames := 1, cells := 0, slots := 0, locals := 23 } (GG D cI cJ cB cP cM cZ) D [(h0, .inr (6, vL 12 Fh)), (h_bytes, .inl (cB, 940, .inl f_bytes)), (h_wordNames, .inl (cJ, 23, .inr (.inl f_wordNames)))] sz [.ref h0] (fun (u : va_W) => ∃ (Gh : Nat → Value) (y_kind : Int32) (y_place : Int32) (y_value : Int32) (y_name : Int64) (y_at : Int32), SAME [2, 3, 4, 5, 10] Fh Gh ∧ Gh 2 = .int y_kind ∧ Gh 3 = .int y_place ∧ IR (-2147483648) 940 y_place ∧ Gh 4 = .int y_value ∧ Gh 5 = .long y_name ∧ Gh 10 = .int y_at ∧ IR 0 940 y_at ∧ u = [(h0, .inr (6, vL 12 Gh)), (h_bytes, .inl (cB, 940, .inl f_bytes)), (h_wordNames, .inl (cJ, 23, .inr (.inl f_wordNames)))]) := by
  refine CV_mk (by decide) (Nat.le_of_ble_eq_true rfl) ?_
  intro p e s m below meth c A ls E hAe hG hsz hP hD hA hS hl
  obtain ⟨hx, hb, hr, hw, hown, hlocks, hml, hnm⟩ := E
  have hK := hG.1
  have i_x_length : 0 ≤ x_length.toInt ∧ x_length.toInt ≤ 940 := i_x_length
  have i_x_at : 0 ≤ x_at.toInt ∧ x_at.toInt ≤ 940 := i_x_at
  have hl : lv_has ls 1 [(0, .ref h0)] := hl
  have cut3 : ∀ (G1 : Nat → Value) (u2 : Int32) (_ : SAME [10] Fh G1) (_ : G1 10 = .int u2) (_ : IR 0 940 u2) (H : Heap) (locs : List Loc) (ls : Array Slot), va_P D vwCl [(h0, .inr (6, vL 12 G1)), (h_bytes, .inl (cB, 940, .inl f_bytes)), (h_wordNames, .inl (cJ, 23, .inr (.inl f_wordNames)))] H → va_D A [(h0, .inr (6, vL 12 G1)), (h_bytes, .inl (cB, 940, .inl f_bytes)), (h_wordNames, .inl (cJ, 23, .inr (.inl f_wordNames)))] → va_S A s.heap H locs → lv_has ls 1 [(0, .ref h0)] → W p l e ({ frames := 1, cells := 0, slots := 0, locals := 23 } : Room) s m [.ref h0].toArray below meth c H locs 0 0 (MQ below (va_Qv (fun (u : va_W) => ∃ (Gh : Nat → Value) (y_kind : Int32) (y_place : Int32) (y_value : Int32) (y_name : Int64) (y_at : Int32), SAME [2, 3, 4, 5, 10] Fh Gh ∧ Gh 2 = .int y_kind ∧ Gh 3 = .int y_place ∧ IR (-2147483648) 940 y_place ∧ Gh 4 = .int y_value ∧ Gh 5 = .long y_name ∧ Gh 10 = .int y_at ∧ IR 0 940 y_at ∧ u = [(h0, .inr (6, vL 12 Gh)), (h_bytes, .inl (cB, 940, .inl f_bytes)), (h_wordNames, .inl (cJ, 23, .inr (.inl f_wordNames)))]) (PO D A) A) [.ref h0].toArray s 0 0 A) (F0 m 52 ls []) := by
    intro G1 u2 i4 i5 i6 H locs ls hP hD hS hl
    have i6 : 0 ≤ u2.toInt ∧ u2.toInt ≤ 940 := i6
    refine lv_aload_n hx hb dX6_advance_52 rfl (lv_at hl 0 rfl) ?_
    refine lv_aload_n hx hb dX6_advance_53 rfl (lv_at hl 0 rfl) ?_
    refine get_f (D := D) (ci := 6) (v := .int u2) (C := RX6) (T := TX6) (N := 12) hx hb hw inAX6 hown hK hP 0 rfl rfl 10 (by decide) (hw _ q_110) (fun _ h9 => h9) i5 dX6_advance_54 ?_
    refine put_f (D := D) (ci := 6) (v := .int u2) (ty := .int) (C := RX6) (T := TX6) (N := 12) hx hb hw inAX6 tyX6 tyX6_ok nmX6 hown hK hP hD hS 0 rfl rfl 3 (by decide) (hw _ q_96) (fun _ h9 => h9) rfl (by decide +kernel) rfl rfl dX6_advance_57 (fun H locs F7 eF7 hP hD hS => ?_)
    have hP : va_P D vwCl [(h0, .inr (6, vL 12 F7)), (h_bytes, .inl (cB, 940, .inl f_bytes)), (h_wordNames, .inl (cJ, 23, .inr (.inl f_wordNames)))] H := hP
    have hD : va_D A [(h0, .inr (6, vL 12 F7)), (h_bytes, .inl (cB, 940, .inl f_bytes)), (h_wordNames, .inl (cJ, 23, .inr (.inl f_wordNames)))] := hD
    refine lv_aload_n hx hb dX6_advance_60 rfl (lv_at hl 0 rfl) ?_
    have n8 : G1 1 = .int x_length := (SAME.at i4 (by decide) e_length)
    have n9 : F7 1 = .int x_length := (get_ne eF7 (by decide) n8)
    refine get_f (D := D) (ci := 6) (v := .int x_length) (C := RX6) (T := TX6) (N := 12) hx hb hw inAX6 hown hK hP 0 rfl rfl 1 (by decide) (hw _ q_90) (fun _ h9 => h9) n9 dX6_advance_61 ?_
    refine lv_aload_n hx hb dX6_advance_64 rfl (lv_at hl 0 rfl) ?_
    have n10 : G1 11 = .int x_mostBytes := (SAME.at i4 (by decide) e_mostBytes)
    have n11 : F7 11 = .int x_mostBytes := (get_ne eF7 (by decide) n10)
    refine get_f (D := D) (ci := 6) (v := .int x_mostBytes) (C := RX6) (T := TX6) (N := 12) hx hb hw inAX6 hown hK hP 0 rfl rfl 11 (by decide) (hw _ q_111) (fun _ h9 => h9) n11 dX6_advance_65 ?_
    refine lv_icmp_le (tgt := 98) hx hb dX6_advance_68 (by decide) (fun c12 => ?_) (fun c12 => ?_)
    · have dc12 : x_length.toInt ≤ x_mostBytes.toInt := le_i (a := x_length.toInt) (b := x_mostBytes.toInt) rfl rfl c12
      have k13 : 0 ≤ x_mostBytes.toInt ∧ x_mostBytes.toInt ≤ 2147483647 := ⟨Int.le_trans i_x_length.1 dc12, (ir_any _).2⟩
      refine lv_aload_n hx hb dX6_advance_98 rfl (lv_at hl 0 rfl) ?_
      have n14 : F7 10 = .int u2 := (get_ne eF7 (by decide) i5)
      refine get_f (D := D) (ci := 6) (v := .int u2) (C := RX6) (T := TX6) (N := 12) hx hb hw inAX6 hown hK hP 0 rfl rfl 10 (by decide) (hw _ q_110) (fun _ h9 => h9) n14 dX6_advance_99 ?_
      refine lv_aload_n hx hb dX6_advance_102 rfl (lv_at hl 0 rfl) ?_
      refine get_f (D := D) (ci := 6) (v := .int x_length) (C := RX6) (T := TX6) (N := 12) hx hb hw inAX6 hown hK hP 0 rfl rfl 1 (by decide) (hw _ q_90) (fun _ h9 => h9) n9 dX6_advance_103 ?_
      refine lv_icmp_lt (tgt := 117) hx hb dX6_advance_106 (by decide) (fun c15 => ?_) (fun c15 => ?_)
      · have dc15 : u2.toInt < x_length.toInt := lt_i (a := u2.toInt) (b := x_length.toInt) rfl rfl c15
        have k16 : 0 ≤ u2.toInt ∧ u2.toInt ≤ 939 := ⟨i6.1, up_lt dc15 i_x_length.2 (by decide)⟩
        have k17 : 1 ≤ x_length.toInt ∧ x_length.toInt ≤ 940 := ⟨lo_lt dc15 i6.1 (by decide), i_x_length.2⟩
        refine lv_aload_n hx hb dX6_advance_117 rfl (lv_at hl 0 rfl) ?_
        have n18 : G1 0 = .ref h_bytes := (SAME.at i4 (by decide) e_bytes)
        have n19 : F7 0 = .ref h_bytes := (get_ne eF7 (by decide) n18)
        refine get_f (D := D) (ci := 6) (v := .ref h_bytes) (C := RX6) (T := TX6) (N := 12) hx hb hw inAX6 hown hK hP 0 rfl rfl 0 (by decide) (hw _ q_89) (fun _ h9 => h9) n19 dX6_advance_118 ?_
        refine lv_aload_n hx hb dX6_advance_121 rfl (lv_at hl 0 rfl) ?_
        refine get_f (D := D) (ci := 6) (v := .int u2) (C := RX6) (T := TX6) (N := 12) hx hb hw inAX6 hown hK hP 0 rfl rfl 10 (by decide) (hw _ q_110) (fun _ h9 => h9) n14 dX6_advance_122 ?_
        refine va_bald hx hb hK hP 1 2 rfl rfl (ix_k k16 (by decide) (by decide)) dX6_advance_125 ?_
        refine lv_topi (fun v20 ev20 => ?_)
        refine call_Si (wr := [(h0, .inr (6, vL 12 F7)), (h_bytes, .inl (cB, 940, .inl f_bytes)), (h_wordNames, .inl (cJ, 23, .inr (.inl f_wordNames)))]) (As := [.int v20]) (rest := []) hx hb hml hown hw (m_X6_isSign l D cI cJ cB cP cM cZ v20 _ ) wS_X6_69_X6_isSign dX6_advance_126 hP hD hS hA [] [0, 1, 2] rfl rfl (by decide) (by decide) (by decide) GG.fb hG.at hl.1 rfl (Nat.le_of_ble_eq_true rfl) ⟨(Nat.le_of_ble_eq_true rfl), (Nat.le_of_ble_eq_true rfl)⟩ ⟨(Nat.le_of_ble_eq_true rfl), (Nat.le_of_ble_eq_true rfl)⟩ (fun r21 u H locs hp hP hD hS => ?_)
        obtain ⟨t22, rfl⟩ := hp
        have hP : va_P D vwCl [(h0, .inr (6, vL 12 F7)), (h_bytes, .inl (cB, 940, .inl f_bytes)), (h_wordNames, .inl (cJ, 23, .inr (.inl f_wordNames)))] H := hP
        have hD : va_D A [(h0, .inr (6, vL 12 F7)), (h_bytes, .inl (cB, 940, .inl f_bytes)), (h_wordNames, .inl (cJ, 23, .inr (.inl f_wordNames)))] := hD
        refine W.widen (k := 0) (n := 0) (Nat.le_of_ble_eq_true rfl) (Nat.le_of_ble_eq_true rfl) ?_
        refine lv_if_eq (tgt := 158) hx hb dX6_advance_129 (by decide) (fun c24 => ?_) (fun c24 => ?_)
        · have dc24 : r21.toInt = 0 := eq_i (a := r21.toInt) (b := 0) rfl rfl c24
          have k25 : 0 ≤ r21.toInt ∧ r21.toInt ≤ 0 := ⟨t22.1, Int.le_trans (Int.le_of_eq dc24) (Int.le_refl _)⟩
          refine lv_aload_n hx hb dX6_advance_158 rfl (lv_at hl 0 rfl) ?_
          refine call_Vv (wr := [(h_wordNames, .inl (cJ, 23, .inr (.inl f_wordNames)))]) (As := []) (rest := []) hx hb hml hown hw (m_X6_readRow l D cI cJ cB cP cM cZ h0 h_bytes F7 x_length u2 f_bytes _ n19 n9 (ir_wk k17 (by decide) (by decide)) n14 (ir_wk k16 (by decide) (by decide))) wV_X6_73_X6_readRow dX6_advance_159 hK hP hD hS hA [0, 1] [2] rfl rfl (by decide) (by decide) (by decide) 0 6 rfl rfl GG.fb hG.at hl.1 rfl (Nat.le_of_ble_eq_true rfl) ⟨(Nat.le_of_ble_eq_true rfl), (Nat.le_of_ble_eq_true rfl)⟩ ⟨(Nat.le_of_ble_eq_true rfl), (Nat.le_of_ble_eq_true rfl)⟩ (fun u H locs hp hP hD hS => ?_)
          obtain ⟨F27, y28, y29, y30, y31, t32, t33, t34, t35, t36, t37, t38, rfl⟩ := hp
          have hP : va_P D vwCl [(h_wordNames, .inl (cJ, 23, .inr (.inl f_wordNames))), (h0, .inr (6, vL 12 F27)), (h_bytes, .inl (cB, 940, .inl f_bytes))] H := hP
          have hD : va_D A [(h_wordNames, .inl (cJ, 23, .inr (.inl f_wordNames))), (h0, .inr (6, vL 12 F27)), (h_bytes, .inl (cB, 940, .inl f_bytes))] := hD
          refine W.widen (k := 0) (n := 0) (Nat.le_of_ble_eq_true rfl) (Nat.le_of_ble_eq_true rfl) ?_
          refine lv_aload_n hx hb dX6_advance_162 rfl (lv_at hl 0 rfl) ?_
          refine lv_aload_n hx hb dX6_advance_163 rfl (lv_at hl 0 rfl) ?_
          refine get_f (D := D) (ci := 6) (v := .int y28) (C := RX6) (T := TX6) (N := 12) hx hb hw inAX6 hown hK hP 1 rfl rfl 2 (by decide) (hw _ q_92) (fun _ h9 => h9) t33 dX6_advance_164 ?_
          refine lv_iconst (v := 2) hx hb dX6_advance_167 (by decide) ?_
          refine lv_icmp_ne (tgt := 182) hx hb dX6_advance_168 (by decide) (fun c40 => ?_) (fun c40 => ?_)
          · have dc40 : y28.toInt ≠ 2 := ne_i (a := y28.toInt) (b := 2) rfl rfl c40
            refine lv_aload_n hx hb dX6_advance_182 rfl (lv_at hl 0 rfl) ?_
            refine get_f (D := D) (ci := 6) (v := .int y29) (C := RX6) (T := TX6) (N := 12) hx hb hw inAX6 hown hK hP 1 rfl rfl 4 (by decide) (hw _ q_97) (fun _ h9 => h9) t35 dX6_advance_183 ?_
            refine put_f (D := D) (ci := 6) (v := .int y29) (ty := .int) (C := RX6) (T := TX6) (N := 12) hx hb hw inAX6 tyX6 tyX6_ok nmX6 hown hK hP hD hS 1 rfl rfl 4 (by decide) (hw _ q_97) (fun _ h9 => h9) rfl (by decide +kernel) rfl rfl dX6_advance_186 (fun H locs F41 eF41 hP hD hS => ?_)
            have hP : va_P D vwCl [(h_wordNames, .inl (cJ, 23, .inr (.inl f_wordNames))), (h0, .inr (6, vL 12 F41)), (h_bytes, .inl (cB, 940, .inl f_bytes))] H := hP
            have hD : va_D A [(h_wordNames, .inl (cJ, 23, .inr (.inl f_wordNames))), (h0, .inr (6, vL 12 F41)), (h_bytes, .inl (cB, 940, .inl f_bytes))] := hD
            exact ret_v hx hb hr hlocks hS (hP.sub (ws' := [(h0, .inr (6, vL 12 F41)), (h_bytes, .inl (cB, 940, .inl f_bytes)), (h_wordNames, .inl (cJ, 23, .inr (.inl f_wordNames)))]) [1, 2, 0] rfl) (hD.sub (ws' := [(h0, .inr (6, vL 12 F41)), (h_bytes, .inl (cB, 940, .inl f_bytes)), (h_wordNames, .inl (cJ, 23, .inr (.inl f_wordNames)))]) [1, 2, 0] (by decide) rfl) dX6_advance_189 (Nat.le_of_ble_eq_true rfl) (Nat.le_of_ble_eq_true rfl) ⟨F41, y28, u2, y29, y30, y31, (SAME.up eF41 (SAME.tr (SAME.up eF7 (SAME.tr SAME.rf i4 (by decide)) (by decide)) t32 (by decide)) (by decide)), (get_ne eF41 (by decide) t33), (get_ne eF41 (by decide) (SAME.at t32 (by decide) (get_eq eF7))), (ir_wk k16 (by decide) (by decide)), (get_eq eF41), (get_ne eF41 (by decide) t36), (get_ne eF41 (by decide) t37), t38, rfl⟩
          · have dc40 : y28.toInt = 2 := eq_i (a := y28.toInt) (b := 2) rfl rfl c40
            have k42 : 2 ≤ y28.toInt ∧ y28.toInt ≤ 2 := ⟨Int.le_trans (Int.le_refl _) (Int.le_of_eq dc40.symm), Int.le_trans (Int.le_of_eq dc40) (Int.le_refl _)⟩
            refine lv_aload_n hx hb dX6_advance_171 rfl (lv_at hl 0 rfl) ?_
            refine lv_aload_n hx hb dX6_advance_172 rfl (lv_at hl 0 rfl) ?_
            refine get_f (D := D) (ci := 6) (v := .long y30) (C := RX6) (T := TX6) (N := 12) hx hb hw inAX6 hown hK hP 1 rfl rfl 5 (by decide) (hw _ q_98) (fun _ h9 => h9) t36 dX6_advance_173 ?_
            have n43 : G1 9 = .ref h_wordNames := (SAME.at i4 (by decide) e_wordNames)
            have n44 : F7 9 = .ref h_wordNames := (get_ne eF7 (by decide) n43)
            have n45 : F27 9 = .ref h_wordNames := (SAME.at t32 (by decide) n44)
            refine call_Vi (wr := [(h_bytes, .inl (cB, 940, .inl f_bytes))]) (As := [.long y30]) (rest := [.ref h0]) hx hb hml hown hw (m_X6_wordNamed l D cI cJ cB cP cM cZ h0 h_wordNames F27 f_wordNames y30 _ n45) wV_X6_76_X6_wordNamed dX6_advance_176 hK hP hD hS hA [1, 0] [2] rfl rfl (by decide) (by decide) (by decide) 0 6 rfl rfl GG.fb hG.at hl.1 rfl (Nat.le_of_ble_eq_true rfl) ⟨(Nat.le_of_ble_eq_true rfl), (Nat.le_of_ble_eq_true rfl)⟩ ⟨(Nat.le_of_ble_eq_true rfl), (Nat.le_of_ble_eq_true rfl)⟩ (fun r46 u H locs hp hP hD hS => ?_)
            obtain ⟨t47, rfl⟩ := hp
            have hP : va_P D vwCl [(h_bytes, .inl (cB, 940, .inl f_bytes)), (h0, .inr (6, vL 12 F27)), (h_wordNames, .inl (cJ, 23, .inr (.inl f_wordNames)))] H := hP
            have hD : va_D A [(h_bytes, .inl (cB, 940, .inl f_bytes)), (h0, .inr (6, vL 12 F27)), (h_wordNames, .inl (cJ, 23, .inr (.inl f_wordNames)))] := hD
            refine W.widen (k := 0) (n := 0) (Nat.le_of_ble_eq_true rfl) (Nat.le_of_ble_eq_true rfl) ?_
            refine lv_goto (tgt := 186) hx hb dX6_advance_179 (by decide) ?_
            refine put_f (D := D) (ci := 6) (v := .int r46) (ty := .int) (C := RX6) (T := TX6) (N := 12) hx hb hw inAX6 tyX6 tyX6_ok nmX6 hown hK hP hD hS 1 rfl rfl 4 (by decide) (hw _ q_97) (fun _ h9 => h9) rfl (by decide +kernel) rfl rfl dX6_advance_186 (fun H locs F49 eF49 hP hD hS => ?_)
            have hP : va_P D vwCl [(h_bytes, .inl (cB, 940, .inl f_bytes)), (h0, .inr (6, vL 12 F49)), (h_wordNames, .inl (cJ, 23, .inr (.inl f_wordNames)))] H := hP
            have hD : va_D A [(h_bytes, .inl (cB, 940, .inl f_bytes)), (h0, .inr (6, vL 12 F49)), (h_wordNames, .inl (cJ, 23, .inr (.inl f_wordNames)))] := hD
            exact ret_v hx hb hr hlocks hS (hP.sub (ws' := [(h0, .inr (6, vL 12 F49)), (h_bytes, .inl (cB, 940, .inl f_bytes)), (h_wordNames, .inl (cJ, 23, .inr (.inl f_wordNames)))]) [1, 0, 2] rfl) (hD.sub (ws' := [(h0, .inr (6, vL 12 F49)), (h_bytes, .inl (cB, 940, .inl f_bytes)), (h_wordNames, .inl (cJ, 23, .inr (.inl f_wordNames)))]) [1, 0, 2] (by decide) rfl) dX6_advance_189 (Nat.le_of_ble_eq_true rfl) (Nat.le_of_ble_eq_true rfl) ⟨F49, y28, u2, r46, y30, y31, (SAME.up eF49 (SAME.tr (SAME.up eF7 (SAME.tr SAME.rf i4 (by decide)) (by decide)) t32 (by decide)) (by decide)), (get_ne eF49 (by decide) t33), (get_ne eF49 (by decide) (SAME.at t32 (by decide) (get_eq eF7))), (ir_wk k16 (by decide) (by decide)), (get_eq eF49), (get_ne eF49 (by decide) t36), (get_ne eF49 (by decide) t37), t38, rfl⟩
        · have dc24 : r21.toInt ≠ 0 := ne_i (a := r21.toInt) (b := 0) rfl rfl c24
          have k50 : 1 ≤ r21.toInt ∧ r21.toInt ≤ 1 := ⟨ne_lo dc24 t22.1 ⟨Int.le_refl _, Int.le_refl _⟩ (by decide), t22.2⟩
          refine lv_aload_n hx hb dX6_advance_132 rfl (lv_at hl 0 rfl) ?_
          refine lv_aload_n hx hb dX6_advance_133 rfl (lv_at hl 0 rfl) ?_
          refine get_f (D := D) (ci := 6) (v := .ref h_bytes) (C := RX6) (T := TX6) (N := 12) hx hb hw inAX6 hown hK hP 0 rfl rfl 0 (by decide) (hw _ q_89) (fun _ h9 => h9) n19 dX6_advance_134 ?_
          refine lv_aload_n hx hb dX6_advance_137 rfl (lv_at hl 0 rfl) ?_
          refine get_f (D := D) (ci := 6) (v := .int u2) (C := RX6) (T := TX6) (N := 12) hx hb hw inAX6 hown hK hP 0 rfl rfl 10 (by decide) (hw _ q_110) (fun _ h9 => h9) n14 dX6_advance_138 ?_
          refine va_bald hx hb hK hP 1 2 rfl rfl (ix_k k16 (by decide) (by decide)) dX6_advance_141 ?_
          refine lv_ci (y := v20) ev20.symm ?_
          refine put_f (D := D) (ci := 6) (v := .int v20) (ty := .int) (C := RX6) (T := TX6) (N := 12) hx hb hw inAX6 tyX6 tyX6_ok nmX6 hown hK hP hD hS 0 rfl rfl 2 (by decide) (hw _ q_92) (fun _ h9 => h9) rfl (by decide +kernel) rfl rfl dX6_advance_142 (fun H locs F51 eF51 hP hD hS => ?_)
          have hP : va_P D vwCl [(h0, .inr (6, vL 12 F51)), (h_bytes, .inl (cB, 940, .inl f_bytes)), (h_wordNames, .inl (cJ, 23, .inr (.inl f_wordNames)))] H := hP
          have hD : va_D A [(h0, .inr (6, vL 12 F51)), (h_bytes, .inl (cB, 940, .inl f_bytes)), (h_wordNames, .inl (cJ, 23, .inr (.inl f_wordNames)))] := hD
          refine lv_aload_n hx hb dX6_advance_145 rfl (lv_at hl 0 rfl) ?_
          refine lv_dup hx hb dX6_advance_146 rfl ?_
          have n52 : F51 10 = .int u2 := (get_ne eF51 (by decide) n14)
          refine get_f (D := D) (ci := 6) (v := .int u2) (C := RX6) (T := TX6) (N := 12) hx hb hw inAX6 hown hK hP 0 rfl rfl 10 (by decide) (hw _ q_110) (fun _ h9 => h9) n52 dX6_advance_147 ?_
          refine lv_iconst (v := 1) hx hb dX6_advance_150 (by decide) ?_
          refine lv_iadd hx hb dX6_advance_151 ?_
          refine lv_topi (fun v53 ev53 => ?_)
          have bv53 : v53.toInt = u2.toInt + 1 := by rw [ev53]; exact add_k rfl rfl k16 ⟨Int.le_refl _, Int.le_refl _⟩ (by decide)
          have k54 : 1 ≤ v53.toInt ∧ v53.toInt ≤ 940 := add_r bv53 k16 ⟨Int.le_refl _, Int.le_refl _⟩ (by decide)
          refine put_f (D := D) (ci := 6) (v := .int v53) (ty := .int) (C := RX6) (T := TX6) (N := 12) hx hb hw inAX6 tyX6 tyX6_ok nmX6 hown hK hP hD hS 0 rfl rfl 10 (by decide) (hw _ q_110) (fun _ h9 => h9) rfl (by decide +kernel) rfl rfl dX6_advance_152 (fun H locs F55 eF55 hP hD hS => ?_)
          have hP : va_P D vwCl [(h0, .inr (6, vL 12 F55)), (h_bytes, .inl (cB, 940, .inl f_bytes)), (h_wordNames, .inl (cJ, 23, .inr (.inl f_wordNames)))] H := hP
          have hD : va_D A [(h0, .inr (6, vL 12 F55)), (h_bytes, .inl (cB, 940, .inl f_bytes)), (h_wordNames, .inl (cJ, 23, .inr (.inl f_wordNames)))] := hD
          refine lv_goto (tgt := 189) hx hb dX6_advance_155 (by decide) ?_
          exact ret_v hx hb hr hlocks hS hP hD dX6_advance_189 (Nat.le_of_ble_eq_true rfl) (Nat.le_of_ble_eq_true rfl) ⟨F55, v20, u2, x_value, x_name, v53, (SAME.up eF55 (SAME.up eF51 (SAME.up eF7 (SAME.tr SAME.rf i4 (by decide)) (by decide)) (by decide)) (by decide)), (get_ne eF55 (by decide) (get_eq eF51)), (get_ne eF55 (by decide) (get_ne eF51 (by decide) (get_eq eF7))), (ir_wk k16 (by decide) (by decide)), (get_ne eF55 (by decide) (get_ne eF51 (by decide) (get_ne eF7 (by decide) (SAME.at i4 (by decide) e_value)))), (get_ne eF55 (by decide) (get_ne eF51 (by decide) (get_ne eF7 (by decide) (SAME.at i4 (by decide) e_name)))), (get_eq eF55), (ir_wk k54 (by decide) (by decide)), rfl⟩
      · have dc15 : x_length.toInt ≤ u2.toInt := nlt_i (a := u2.toInt) (b := x_length.toInt) rfl rfl c15
        refine lv_aload_n hx hb dX6_advance_109 rfl (lv_at hl 0 rfl) ?_
        refine lv_iconst (v := 0) hx hb dX6_advance_110 (by decide) ?_
        refine put_f (D := D) (ci := 6) (v := .int 0) (ty := .int) (C := RX6) (T := TX6) (N := 12) hx hb hw inAX6 tyX6 tyX6_ok nmX6 hown hK hP hD hS 0 rfl rfl 2 (by decide) (hw _ q_92) (fun _ h9 => h9) rfl (by decide +kernel) rfl rfl dX6_advance_111 (fun H locs F56 eF56 hP hD hS => ?_)
        have hP : va_P D vwCl [(h0, .inr (6, vL 12 F56)), (h_bytes, .inl (cB, 940, .inl f_bytes)), (h_wordNames, .inl (cJ, 23, .inr (.inl f_wordNames)))] H := hP
        have hD : va_D A [(h0, .inr (6, vL 12 F56)), (h_bytes, .inl (cB, 940, .inl f_bytes)), (h_wordNames, .inl (cJ, 23, .inr (.inl f_wordNames)))] := hD
        refine lv_goto (tgt := 189) hx hb dX6_advance_114 (by decide) ?_
        exact ret_v hx hb hr hlocks hS hP hD dX6_advance_189 (Nat.le_of_ble_eq_true rfl) (Nat.le_of_ble_eq_true rfl) ⟨F56, 0, u2, x_value, x_name, u2, (SAME.up eF56 (SAME.up eF7 (SAME.tr SAME.rf i4 (by decide)) (by decide)) (by decide)), (get_eq eF56), (get_ne eF56 (by decide) (get_eq eF7)), (ir_wk i6 (by decide) (by decide)), (get_ne eF56 (by decide) (get_ne eF7 (by decide) (SAME.at i4 (by decide) e_value))), (get_ne eF56 (by decide) (get_ne eF7 (by decide) (SAME.at i4 (by decide) e_name))), (get_ne eF56 (by decide) n14), i6, rfl⟩
    · have dc12 : x_mostBytes.toInt < x_length.toInt := nle_i (a := x_length.toInt) (b := x_mostBytes.toInt) rfl rfl c12
      have k57 : (-2147483648) ≤ x_mostBytes.toInt ∧ x_mostBytes.toInt ≤ 939 := ⟨(ir_any _).1, up_lt dc12 i_x_length.2 (by decide)⟩
      refine lv_aload_n hx hb dX6_advance_71 rfl (lv_at hl 0 rfl) ?_
      have n58 : F7 10 = .int u2 := (get_ne eF7 (by decide) i5)
      refine get_f (D := D) (ci := 6) (v := .int u2) (C := RX6) (T := TX6) (N := 12) hx hb hw inAX6 hown hK hP 0 rfl rfl 10 (by decide) (hw _ q_110) (fun _ h9 => h9) n58 dX6_advance_72 ?_
      refine lv_aload_n hx hb dX6_advance_75 rfl (lv_at hl 0 rfl) ?_
      refine get_f (D := D) (ci := 6) (v := .int x_mostBytes) (C := RX6) (T := TX6) (N := 12) hx hb hw inAX6 hown hK hP 0 rfl rfl 11 (by decide) (hw _ q_111) (fun _ h9 => h9) n11 dX6_advance_76 ?_
      refine lv_icmp_lt (tgt := 98) hx hb dX6_advance_79 (by decide) (fun c59 => ?_) (fun c59 => ?_)
      · have dc59 : u2.toInt < x_mostBytes.toInt := lt_i (a := u2.toInt) (b := x_mostBytes.toInt) rfl rfl c59
        have k60 : 0 ≤ u2.toInt ∧ u2.toInt ≤ 938 := ⟨i6.1, up_lt dc59 k57.2 (by decide)⟩
        have k61 : 1 ≤ x_mostBytes.toInt ∧ x_mostBytes.toInt ≤ 939 := ⟨lo_lt dc59 i6.1 (by decide), k57.2⟩
        refine lv_aload_n hx hb dX6_advance_98 rfl (lv_at hl 0 rfl) ?_
        refine get_f (D := D) (ci := 6) (v := .int u2) (C := RX6) (T := TX6) (N := 12) hx hb hw inAX6 hown hK hP 0 rfl rfl 10 (by decide) (hw _ q_110) (fun _ h9 => h9) n58 dX6_advance_99 ?_
        refine lv_aload_n hx hb dX6_advance_102 rfl (lv_at hl 0 rfl) ?_
        refine get_f (D := D) (ci := 6) (v := .int x_length) (C := RX6) (T := TX6) (N := 12) hx hb hw inAX6 hown hK hP 0 rfl rfl 1 (by decide) (hw _ q_90) (fun _ h9 => h9) n9 dX6_advance_103 ?_
        refine lv_icmp_lt (tgt := 117) hx hb dX6_advance_106 (by decide) (fun c62 => ?_) (fun c62 => ?_)
        · have dc62 : u2.toInt < x_length.toInt := lt_i (a := u2.toInt) (b := x_length.toInt) rfl rfl c62
          have k63 : 1 ≤ x_length.toInt ∧ x_length.toInt ≤ 940 := ⟨lo_lt dc62 k60.1 (by decide), i_x_length.2⟩
          refine lv_aload_n hx hb dX6_advance_117 rfl (lv_at hl 0 rfl) ?_
          have n64 : G1 0 = .ref h_bytes := (SAME.at i4 (by decide) e_bytes)
          have n65 : F7 0 = .ref h_bytes := (get_ne eF7 (by decide) n64)
          refine get_f (D := D) (ci := 6) (v := .ref h_bytes) (C := RX6) (T := TX6) (N := 12) hx hb hw inAX6 hown hK hP 0 rfl rfl 0 (by decide) (hw _ q_89) (fun _ h9 => h9) n65 dX6_advance_118 ?_
          refine lv_aload_n hx hb dX6_advance_121 rfl (lv_at hl 0 rfl) ?_
          refine get_f (D := D) (ci := 6) (v := .int u2) (C := RX6) (T := TX6) (N := 12) hx hb hw inAX6 hown hK hP 0 rfl rfl 10 (by decide) (hw _ q_110) (fun _ h9 => h9) n58 dX6_advance_122 ?_
          refine va_bald hx hb hK hP 1 2 rfl rfl (ix_k k60 (by decide) (by decide)) dX6_advance_125 ?_
          refine lv_topi (fun v66 ev66 => ?_)
          refine call_Si (wr := [(h0, .inr (6, vL 12 F7)), (h_bytes, .inl (cB, 940, .inl f_bytes)), (h_wordNames, .inl (cJ, 23, .inr (.inl f_wordNames)))]) (As := [.int v66]) (rest := []) hx hb hml hown hw (m_X6_isSign l D cI cJ cB cP cM cZ v66 _ ) wS_X6_69_X6_isSign dX6_advance_126 hP hD hS hA [] [0, 1, 2] rfl rfl (by decide) (by decide) (by decide) GG.fb hG.at hl.1 rfl (Nat.le_of_ble_eq_true rfl) ⟨(Nat.le_of_ble_eq_true rfl), (Nat.le_of_ble_eq_true rfl)⟩ ⟨(Nat.le_of_ble_eq_true rfl), (Nat.le_of_ble_eq_true rfl)⟩ (fun r67 u H locs hp hP hD hS => ?_)
          obtain ⟨t68, rfl⟩ := hp
          have hP : va_P D vwCl [(h0, .inr (6, vL 12 F7)), (h_bytes, .inl (cB, 940, .inl f_bytes)), (h_wordNames, .inl (cJ, 23, .inr (.inl f_wordNames)))] H := hP
          have hD : va_D A [(h0, .inr (6, vL 12 F7)), (h_bytes, .inl (cB, 940, .inl f_bytes)), (h_wordNames, .inl (cJ, 23, .inr (.inl f_wordNames)))] := hD
          refine W.widen (k := 0) (n := 0) (Nat.le_of_ble_eq_true rfl) (Nat.le_of_ble_eq_true rfl) ?_
          refine lv_if_eq (tgt := 158) hx hb dX6_advance_129 (by decide) (fun c70 => ?_) (fun c70 => ?_)
          · have dc70 : r67.toInt = 0 := eq_i (a := r67.toInt) (b := 0) rfl rfl c70
            have k71 : 0 ≤ r67.toInt ∧ r67.toInt ≤ 0 := ⟨t68.1, Int.le_trans (Int.le_of_eq dc70) (Int.le_refl _)⟩
            refine lv_aload_n hx hb dX6_advance_158 rfl (lv_at hl 0 rfl) ?_
            refine call_Vv (wr := [(h_wordNames, .inl (cJ, 23, .inr (.inl f_wordNames)))]) (As := []) (rest := []) hx hb hml hown hw (m_X6_readRow l D cI cJ cB cP cM cZ h0 h_bytes F7 x_length u2 f_bytes _ n65 n9 (ir_wk k63 (by decide) (by decide)) n58 (ir_wk k60 (by decide) (by decide))) wV_X6_73_X6_readRow dX6_advance_159 hK hP hD hS hA [0, 1] [2] rfl rfl (by decide) (by decide) (by decide) 0 6 rfl rfl GG.fb hG.at hl.1 rfl (Nat.le_of_ble_eq_true rfl) ⟨(Nat.le_of_ble_eq_true rfl), (Nat.le_of_ble_eq_true rfl)⟩ ⟨(Nat.le_of_ble_eq_true rfl), (Nat.le_of_ble_eq_true rfl)⟩ (fun u H locs hp hP hD hS => ?_)
            obtain ⟨F73, y74, y75, y76, y77, t78, t79, t80, t81, t82, t83, t84, rfl⟩ := hp
            have hP : va_P D vwCl [(h_wordNames, .inl (cJ, 23, .inr (.inl f_wordNames))), (h0, .inr (6, vL 12 F73)), (h_bytes, .inl (cB, 940, .inl f_bytes))] H := hP
            have hD : va_D A [(h_wordNames, .inl (cJ, 23, .inr (.inl f_wordNames))), (h0, .inr (6, vL 12 F73)), (h_bytes, .inl (cB, 940, .inl f_bytes))] := hD
            refine W.widen (k := 0) (n := 0) (Nat.le_of_ble_eq_true rfl) (Nat.le_of_ble_eq_true rfl) ?_
            refine lv_aload_n hx hb dX6_advance_162 rfl (lv_at hl 0 rfl) ?_
            refine lv_aload_n hx hb dX6_advance_163 rfl (lv_at hl 0 rfl) ?_
            refine get_f (D := D) (ci := 6) (v := .int y74) (C := RX6) (T := TX6) (N := 12) hx hb hw inAX6 hown hK hP 1 rfl rfl 2 (by decide) (hw _ q_92) (fun _ h9 => h9) t79 dX6_advance_164 ?_
            refine lv_iconst (v := 2) hx hb dX6_advance_167 (by decide) ?_
            refine lv_icmp_ne (tgt := 182) hx hb dX6_advance_168 (by decide) (fun c86 => ?_) (fun c86 => ?_)
            · have dc86 : y74.toInt ≠ 2 := ne_i (a := y74.toInt) (b := 2) rfl rfl c86
              refine lv_aload_n hx hb dX6_advance_182 rfl (lv_at hl 0 rfl) ?_
              refine get_f (D := D) (ci := 6) (v := .int y75) (C := RX6) (T := TX6) (N := 12) hx hb hw inAX6 hown hK hP 1 rfl rfl 4 (by decide) (hw _ q_97) (fun _ h9 => h9) t81 dX6_advance_183 ?_
              refine put_f (D := D) (ci := 6) (v := .int y75) (ty := .int) (C := RX6) (T := TX6) (N := 12) hx hb hw inAX6 tyX6 tyX6_ok nmX6 hown hK hP hD hS 1 rfl rfl 4 (by decide) (hw _ q_97) (fun _ h9 => h9) rfl (by decide +kernel) rfl rfl dX6_advance_186 (fun H locs F87 eF87 hP hD hS => ?_)
              have hP : va_P D vwCl [(h_wordNames, .inl (cJ, 23, .inr (.inl f_wordNames))), (h0, .inr (6, vL 12 F87)), (h_bytes, .inl (cB, 940, .inl f_bytes))] H := hP
              have hD : va_D A [(h_wordNames, .inl (cJ, 23, .inr (.inl f_wordNames))), (h0, .inr (6, vL 12 F87)), (h_bytes, .inl (cB, 940, .inl f_bytes))] := hD
              exact ret_v hx hb hr hlocks hS (hP.sub (ws' := [(h0, .inr (6, vL 12 F87)), (h_bytes, .inl (cB, 940, .inl f_bytes)), (h_wordNames, .inl (cJ, 23, .inr (.inl f_wordNames)))]) [1, 2, 0] rfl) (hD.sub (ws' := [(h0, .inr (6, vL 12 F87)), (h_bytes, .inl (cB, 940, .inl f_bytes)), (h_wordNames, .inl (cJ, 23, .inr (.inl f_wordNames)))]) [1, 2, 0] (by decide) rfl) dX6_advance_189 (Nat.le_of_ble_eq_true rfl) (Nat.le_of_ble_eq_true rfl) ⟨F87, y74, u2, y75, y76, y77, (SAME.up eF87 (SAME.tr (SAME.up eF7 (SAME.tr SAME.rf i4 (by decide)) (by decide)) t78 (by decide)) (by decide)), (get_ne eF87 (by decide) t79), (get_ne eF87 (by decide) (SAME.at t78 (by decide) (get_eq eF7))), (ir_wk k60 (by decide) (by decide)), (get_eq eF87), (get_ne eF87 (by decide) t82), (get_ne eF87 (by decide) t83), t84, rfl⟩
            · have dc86 : y74.toInt = 2 := eq_i (a := y74.toInt) (b := 2) rfl rfl c86
              have k88 : 2 ≤ y74.toInt ∧ y74.toInt ≤ 2 := ⟨Int.le_trans (Int.le_refl _) (Int.le_of_eq dc86.symm), Int.le_trans (Int.le_of_eq dc86) (Int.le_refl _)⟩
              refine lv_aload_n hx hb dX6_advance_171 rfl (lv_at hl 0 rfl) ?_
              refine lv_aload_n hx hb dX6_advance_172 rfl (lv_at hl 0 rfl) ?_
              refine get_f (D := D) (ci := 6) (v := .long y76) (C := RX6) (T := TX6) (N := 12) hx hb hw inAX6 hown hK hP 1 rfl rfl 5 (by decide) (hw _ q_98) (fun _ h9 => h9) t82 dX6_advance_173 ?_
              have n89 : G1 9 = .ref h_wordNames := (SAME.at i4 (by decide) e_wordNames)
              have n90 : F7 9 = .ref h_wordNames := (get_ne eF7 (by decide) n89)
              have n91 : F73 9 = .ref h_wordNames := (SAME.at t78 (by decide) n90)
              refine call_Vi (wr := [(h_bytes, .inl (cB, 940, .inl f_bytes))]) (As := [.long y76]) (rest := [.ref h0]) hx hb hml hown hw (m_X6_wordNamed l D cI cJ cB cP cM cZ h0 h_wordNames F73 f_wordNames y76 _ n91) wV_X6_76_X6_wordNamed dX6_advance_176 hK hP hD hS hA [1, 0] [2] rfl rfl (by decide) (by decide) (by decide) 0 6 rfl rfl GG.fb hG.at hl.1 rfl (Nat.le_of_ble_eq_true rfl) ⟨(Nat.le_of_ble_eq_true rfl), (Nat.le_of_ble_eq_true rfl)⟩ ⟨(Nat.le_of_ble_eq_true rfl), (Nat.le_of_ble_eq_true rfl)⟩ (fun r92 u H locs hp hP hD hS => ?_)
              obtain ⟨t93, rfl⟩ := hp
              have hP : va_P D vwCl [(h_bytes, .inl (cB, 940, .inl f_bytes)), (h0, .inr (6, vL 12 F73)), (h_wordNames, .inl (cJ, 23, .inr (.inl f_wordNames)))] H := hP
              have hD : va_D A [(h_bytes, .inl (cB, 940, .inl f_bytes)), (h0, .inr (6, vL 12 F73)), (h_wordNames, .inl (cJ, 23, .inr (.inl f_wordNames)))] := hD
              refine W.widen (k := 0) (n := 0) (Nat.le_of_ble_eq_true rfl) (Nat.le_of_ble_eq_true rfl) ?_
              refine lv_goto (tgt := 186) hx hb dX6_advance_179 (by decide) ?_
              refine put_f (D := D) (ci := 6) (v := .int r92) (ty := .int) (C := RX6) (T := TX6) (N := 12) hx hb hw inAX6 tyX6 tyX6_ok nmX6 hown hK hP hD hS 1 rfl rfl 4 (by decide) (hw _ q_97) (fun _ h9 => h9) rfl (by decide +kernel) rfl rfl dX6_advance_186 (fun H locs F95 eF95 hP hD hS => ?_)
              have hP : va_P D vwCl [(h_bytes, .inl (cB, 940, .inl f_bytes)), (h0, .inr (6, vL 12 F95)), (h_wordNames, .inl (cJ, 23, .inr (.inl f_wordNames)))] H := hP
              have hD : va_D A [(h_bytes, .inl (cB, 940, .inl f_bytes)), (h0, .inr (6, vL 12 F95)), (h_wordNames, .inl (cJ, 23, .inr (.inl f_wordNames)))] := hD
              exact ret_v hx hb hr hlocks hS (hP.sub (ws' := [(h0, .inr (6, vL 12 F95)), (h_bytes, .inl (cB, 940, .inl f_bytes)), (h_wordNames, .inl (cJ, 23, .inr (.inl f_wordNames)))]) [1, 0, 2] rfl) (hD.sub (ws' := [(h0, .inr (6, vL 12 F95)), (h_bytes, .inl (cB, 940, .inl f_bytes)), (h_wordNames, .inl (cJ, 23, .inr (.inl f_wordNames)))]) [1, 0, 2] (by decide) rfl) dX6_advance_189 (Nat.le_of_ble_eq_true rfl) (Nat.le_of_ble_eq_true rfl) ⟨F95, y74, u2, r92, y76, y77, (SAME.up eF95 (SAME.tr (SAME.up eF7 (SAME.tr SAME.rf i4 (by decide)) (by decide)) t78 (by decide)) (by decide)), (get_ne eF95 (by decide) t79), (get_ne eF95 (by decide) (SAME.at t78 (by decide) (get_eq eF7))), (ir_wk k60 (by decide) (by decide)), (get_eq eF95), (get_ne eF95 (by decide) t82), (get_ne eF95 (by decide) t83), t84, rfl⟩
          · have dc70 : r67.toInt ≠ 0 := ne_i (a := r67.toInt) (b := 0) rfl rfl c70
            have k96 : 1 ≤ r67.toInt ∧ r67.toInt ≤ 1 := ⟨ne_lo dc70 t68.1 ⟨Int.le_refl _, Int.le_refl _⟩ (by decide), t68.2⟩
            refine lv_aload_n hx hb dX6_advance_132 rfl (lv_at hl 0 rfl) ?_
            refine lv_aload_n hx hb dX6_advance_133 rfl (lv_at hl 0 rfl) ?_
            refine get_f (D := D) (ci := 6) (v := .ref h_bytes) (C := RX6) (T := TX6) (N := 12) hx hb hw inAX6 hown hK hP 0 rfl rfl 0 (by decide) (hw _ q_89) (fun _ h9 => h9) n65 dX6_advance_134 ?_
            refine lv_aload_n hx hb dX6_advance_137 rfl (lv_at hl 0 rfl) ?_
            refine get_f (D := D) (ci := 6) (v := .int u2) (C := RX6) (T := TX6) (N := 12) hx hb hw inAX6 hown hK hP 0 rfl rfl 10 (by decide) (hw _ q_110) (fun _ h9 => h9) n58 dX6_advance_138 ?_
            refine va_bald hx hb hK hP 1 2 rfl rfl (ix_k k60 (by decide) (by decide)) dX6_advance_141 ?_
            refine lv_ci (y := v66) ev66.symm ?_
            refine put_f (D := D) (ci := 6) (v := .int v66) (ty := .int) (C := RX6) (T := TX6) (N := 12) hx hb hw inAX6 tyX6 tyX6_ok nmX6 hown hK hP hD hS 0 rfl rfl 2 (by decide) (hw _ q_92) (fun _ h9 => h9) rfl (by decide +kernel) rfl rfl dX6_advance_142 (fun H locs F97 eF97 hP hD hS => ?_)
            have hP : va_P D vwCl [(h0, .inr (6, vL 12 F97)), (h_bytes, .inl (cB, 940, .inl f_bytes)), (h_wordNames, .inl (cJ, 23, .inr (.inl f_wordNames)))] H := hP
            have hD : va_D A [(h0, .inr (6, vL 12 F97)), (h_bytes, .inl (cB, 940, .inl f_bytes)), (h_wordNames, .inl (cJ, 23, .inr (.inl f_wordNames)))] := hD
            refine lv_aload_n hx hb dX6_advance_145 rfl (lv_at hl 0 rfl) ?_
            refine lv_dup hx hb dX6_advance_146 rfl ?_
            have n98 : F97 10 = .int u2 := (get_ne eF97 (by decide) n58)
            refine get_f (D := D) (ci := 6) (v := .int u2) (C := RX6) (T := TX6) (N := 12) hx hb hw inAX6 hown hK hP 0 rfl rfl 10 (by decide) (hw _ q_110) (fun _ h9 => h9) n98 dX6_advance_147 ?_
            refine lv_iconst (v := 1) hx hb dX6_advance_150 (by decide) ?_
            refine lv_iadd hx hb dX6_advance_151 ?_
            refine lv_topi (fun v99 ev99 => ?_)
            have bv99 : v99.toInt = u2.toInt + 1 := by rw [ev99]; exact add_k rfl rfl k60 ⟨Int.le_refl _, Int.le_refl _⟩ (by decide)
            have k100 : 1 ≤ v99.toInt ∧ v99.toInt ≤ 939 := add_r bv99 k60 ⟨Int.le_refl _, Int.le_refl _⟩ (by decide)
            refine put_f (D := D) (ci := 6) (v := .int v99) (ty := .int) (C := RX6) (T := TX6) (N := 12) hx hb hw inAX6 tyX6 tyX6_ok nmX6 hown hK hP hD hS 0 rfl rfl 10 (by decide) (hw _ q_110) (fun _ h9 => h9) rfl (by decide +kernel) rfl rfl dX6_advance_152 (fun H locs F101 eF101 hP hD hS => ?_)
            have hP : va_P D vwCl [(h0, .inr (6, vL 12 F101)), (h_bytes, .inl (cB, 940, .inl f_bytes)), (h_wordNames, .inl (cJ, 23, .inr (.inl f_wordNames)))] H := hP
            have hD : va_D A [(h0, .inr (6, vL 12 F101)), (h_bytes, .inl (cB, 940, .inl f_bytes)), (h_wordNames, .inl (cJ, 23, .inr (.inl f_wordNames)))] := hD
            refine lv_goto (tgt := 189) hx hb dX6_advance_155 (by decide) ?_
            exact ret_v hx hb hr hlocks hS hP hD dX6_advance_189 (Nat.le_of_ble_eq_true rfl) (Nat.le_of_ble_eq_true rfl) ⟨F101, v66, u2, x_value, x_name, v99, (SAME.up eF101 (SAME.up eF97 (SAME.up eF7 (SAME.tr SAME.rf i4 (by decide)) (by decide)) (by decide)) (by decide)), (get_ne eF101 (by decide) (get_eq eF97)), (get_ne eF101 (by decide) (get_ne eF97 (by decide) (get_eq eF7))), (ir_wk k60 (by decide) (by decide)), (get_ne eF101 (by decide) (get_ne eF97 (by decide) (get_ne eF7 (by decide) (SAME.at i4 (by decide) e_value)))), (get_ne eF101 (by decide) (get_ne eF97 (by decide) (get_ne eF7 (by decide) (SAME.at i4 (by decide) e_name)))), (get_eq eF101), (ir_wk k100 (by decide) (by decide)), rfl⟩
        · have dc62 : x_length.toInt ≤ u2.toInt := nlt_i (a := u2.toInt) (b := x_length.toInt) rfl rfl c62
          have k102 : 0 ≤ x_length.toInt ∧ x_length.toInt ≤ 938 := ⟨i_x_length.1, Int.le_trans dc62 k60.2⟩
          refine lv_aload_n hx hb dX6_advance_109 rfl (lv_at hl 0 rfl) ?_
          refine lv_iconst (v := 0) hx hb dX6_advance_110 (by decide) ?_
          refine put_f (D := D) (ci := 6) (v := .int 0) (ty := .int) (C := RX6) (T := TX6) (N := 12) hx hb hw inAX6 tyX6 tyX6_ok nmX6 hown hK hP hD hS 0 rfl rfl 2 (by decide) (hw _ q_92) (fun _ h9 => h9) rfl (by decide +kernel) rfl rfl dX6_advance_111 (fun H locs F103 eF103 hP hD hS => ?_)
          have hP : va_P D vwCl [(h0, .inr (6, vL 12 F103)), (h_bytes, .inl (cB, 940, .inl f_bytes)), (h_wordNames, .inl (cJ, 23, .inr (.inl f_wordNames)))] H := hP
          have hD : va_D A [(h0, .inr (6, vL 12 F103)), (h_bytes, .inl (cB, 940, .inl f_bytes)), (h_wordNames, .inl (cJ, 23, .inr (.inl f_wordNames)))] := hD
          refine lv_goto (tgt := 189) hx hb dX6_advance_114 (by decide) ?_
          exact ret_v hx hb hr hlocks hS hP hD dX6_advance_189 (Nat.le_of_ble_eq_true rfl) (Nat.le_of_ble_eq_true rfl) ⟨F103, 0, u2, x_value, x_name, u2, (SAME.up eF103 (SAME.up eF7 (SAME.tr SAME.rf i4 (by decide)) (by decide)) (by decide)), (get_eq eF103), (get_ne eF103 (by decide) (get_eq eF7)), (ir_wk k60 (by decide) (by decide)), (get_ne eF103 (by decide) (get_ne eF7 (by decide) (SAME.at i4 (by decide) e_value))), (get_ne eF103 (by decide) (get_ne eF7 (by decide) (SAME.at i4 (by decide) e_name))), (get_ne eF103 (by decide) n58), (ir_wk k60 (by decide) (by decide)), rfl⟩
      · have dc59 : x_mostBytes.toInt ≤ u2.toInt := nlt_i (a := u2.toInt) (b := x_mostBytes.toInt) rfl rfl c59
        refine lv_aload_n hx hb dX6_advance_82 rfl (lv_at hl 0 rfl) ?_
        refine lv_aload_n hx hb dX6_advance_83 rfl (lv_at hl 0 rfl) ?_
        refine get_f (D := D) (ci := 6) (v := .int x_mostBytes) (C := RX6) (T := TX6) (N := 12) hx hb hw inAX6 hown hK hP 0 rfl rfl 11 (by decide) (hw _ q_111) (fun _ h9 => h9) n11 dX6_advance_84 ?_
        refine put_f (D := D) (ci := 6) (v := .int x_mostBytes) (ty := .int) (C := RX6) (T := TX6) (N := 12) hx hb hw inAX6 tyX6 tyX6_ok nmX6 hown hK hP hD hS 0 rfl rfl 3 (by decide) (hw _ q_96) (fun _ h9 => h9) rfl (by decide +kernel) rfl rfl dX6_advance_87 (fun H locs F104 eF104 hP hD hS => ?_)
        have hP : va_P D vwCl [(h0, .inr (6, vL 12 F104)), (h_bytes, .inl (cB, 940, .inl f_bytes)), (h_wordNames, .inl (cJ, 23, .inr (.inl f_wordNames)))] H := hP
        have hD : va_D A [(h0, .inr (6, vL 12 F104)), (h_bytes, .inl (cB, 940, .inl f_bytes)), (h_wordNames, .inl (cJ, 23, .inr (.inl f_wordNames)))] := hD
        refine lv_aload_n hx hb dX6_advance_90 rfl (lv_at hl 0 rfl) ?_
        refine lv_iconst (v := 1) hx hb dX6_advance_91 (by decide) ?_
        refine put_f (D := D) (ci := 6) (v := .int 1) (ty := .int) (C := RX6) (T := TX6) (N := 12) hx hb hw inAX6 tyX6 tyX6_ok nmX6 hown hK hP hD hS 0 rfl rfl 2 (by decide) (hw _ q_92) (fun _ h9 => h9) rfl (by decide +kernel) rfl rfl dX6_advance_92 (fun H locs F105 eF105 hP hD hS => ?_)
        have hP : va_P D vwCl [(h0, .inr (6, vL 12 F105)), (h_bytes, .inl (cB, 940, .inl f_bytes)), (h_wordNames, .inl (cJ, 23, .inr (.inl f_wordNames)))] H := hP
        have hD : va_D A [(h0, .inr (6, vL 12 F105)), (h_bytes, .inl (cB, 940, .inl f_bytes)), (h_wordNames, .inl (cJ, 23, .inr (.inl f_wordNames)))] := hD
        refine lv_goto (tgt := 189) hx hb dX6_advance_95 (by decide) ?_
        exact ret_v hx hb hr hlocks hS hP hD dX6_advance_189 (Nat.le_of_ble_eq_true rfl) (Nat.le_of_ble_eq_true rfl) ⟨F105, 1, x_mostBytes, x_value, x_name, u2, (SAME.up eF105 (SAME.up eF104 (SAME.up eF7 (SAME.tr SAME.rf i4 (by decide)) (by decide)) (by decide)) (by decide)), (get_eq eF105), (get_ne eF105 (by decide) (get_eq eF104)), (ir_wk k57 (by decide) (by decide)), (get_ne eF105 (by decide) (get_ne eF104 (by decide) (get_ne eF7 (by decide) (SAME.at i4 (by decide) e_value)))), (get_ne eF105 (by decide) (get_ne eF104 (by decide) (get_ne eF7 (by decide) (SAME.at i4 (by decide) e_name)))), (get_ne eF105 (by decide) (get_ne eF104 (by decide) n58)), i6, rfl⟩
  refine mloop (α := (Nat → Value) × (Int32)) (nL := 1) (D := D) (A := A) (H0 := s.heap) (fun a => (x_length.toInt - a.2.toInt).toNat) (fun a => SAME [10] Fh a.1 ∧ a.1 10 = .int a.2 ∧ IR 0 940 a.2) (fun a => [(h0, .inr (6, vL 12 a.1)), (h_bytes, .inl (cB, 940, .inl f_bytes)), (h_wordNames, .inl (cJ, 23, .inr (.inl f_wordNames)))]) (fun a => [(0, .ref h0)]) (fun H locs ls => W p l e ({ frames := 1, cells := 0, slots := 0, locals := 23 } : Room) s m [.ref h0].toArray below meth c H locs 0 0 (MQ below (va_Qv (fun (u : va_W) => ∃ (Gh : Nat → Value) (y_kind : Int32) (y_place : Int32) (y_value : Int32) (y_name : Int64) (y_at : Int32), SAME [2, 3, 4, 5, 10] Fh Gh ∧ Gh 2 = .int y_kind ∧ Gh 3 = .int y_place ∧ IR (-2147483648) 940 y_place ∧ Gh 4 = .int y_value ∧ Gh 5 = .long y_name ∧ Gh 10 = .int y_at ∧ IR 0 940 y_at ∧ u = [(h0, .inr (6, vL 12 Gh)), (h_bytes, .inl (cB, 940, .inl f_bytes)), (h_wordNames, .inl (cJ, 23, .inr (.inl f_wordNames)))]) (PO D A) A) [.ref h0].toArray s 0 0 A) (F0 m 0 ls [])) ?_ (Fh, x_at) ⟨SAME.rf, e_at, i_x_at⟩ _ _ _ hP hD hS hl
  rintro ⟨G1, u2⟩ ⟨i106, i107, i108⟩ ih H locs ls hP hD hS hl
  have i108 : 0 ≤ u2.toInt ∧ u2.toInt ≤ 940 := i108
  have hP : va_P D vwCl [(h0, .inr (6, vL 12 G1)), (h_bytes, .inl (cB, 940, .inl f_bytes)), (h_wordNames, .inl (cJ, 23, .inr (.inl f_wordNames)))] H := hP
  have hD : va_D A [(h0, .inr (6, vL 12 G1)), (h_bytes, .inl (cB, 940, .inl f_bytes)), (h_wordNames, .inl (cJ, 23, .inr (.inl f_wordNames)))] := hD
  have hl : lv_has ls 1 [(0, .ref h0)] := hl
  refine lv_aload_n hx hb dX6_advance_0 rfl (lv_at hl 0 rfl) ?_
  refine get_f (D := D) (ci := 6) (v := .int u2) (C := RX6) (T := TX6) (N := 12) hx hb hw inAX6 hown hK hP 0 rfl rfl 10 (by decide) (hw _ q_110) (fun _ h9 => h9) i107 dX6_advance_1 ?_
  refine lv_aload_n hx hb dX6_advance_4 rfl (lv_at hl 0 rfl) ?_
  have n109 : G1 1 = .int x_length := (SAME.at i106 (by decide) e_length)
  refine get_f (D := D) (ci := 6) (v := .int x_length) (C := RX6) (T := TX6) (N := 12) hx hb hw inAX6 hown hK hP 0 rfl rfl 1 (by decide) (hw _ q_90) (fun _ h9 => h9) n109 dX6_advance_5 ?_
  refine lv_icmp_ge (tgt := 52) hx hb dX6_advance_8 (by decide) (fun c110 => ?_) (fun c110 => ?_)
  · have dc110 : x_length.toInt ≤ u2.toInt := le_i (a := x_length.toInt) (b := u2.toInt) rfl rfl c110
    exact cut3 G1 u2 (SAME.tr SAME.rf i106 (by decide)) i107 i108 _ _ _ hP hD hS (lv_sub hl [0] rfl)
  · have dc110 : u2.toInt < x_length.toInt := nle_i (a := x_length.toInt) (b := u2.toInt) rfl rfl c110
    have k111 : 0 ≤ u2.toInt ∧ u2.toInt ≤ 939 := ⟨i108.1, up_lt dc110 i_x_length.2 (by decide)⟩
    have k112 : 1 ≤ x_length.toInt ∧ x_length.toInt ≤ 940 := ⟨lo_lt dc110 i108.1 (by decide), i_x_length.2⟩
    refine lv_aload_n hx hb dX6_advance_11 rfl (lv_at hl 0 rfl) ?_
    have n113 : G1 0 = .ref h_bytes := (SAME.at i106 (by decide) e_bytes)
    refine get_f (D := D) (ci := 6) (v := .ref h_bytes) (C := RX6) (T := TX6) (N := 12) hx hb hw inAX6 hown hK hP 0 rfl rfl 0 (by decide) (hw _ q_89) (fun _ h9 => h9) n113 dX6_advance_12 ?_
    refine lv_aload_n hx hb dX6_advance_15 rfl (lv_at hl 0 rfl) ?_
    refine get_f (D := D) (ci := 6) (v := .int u2) (C := RX6) (T := TX6) (N := 12) hx hb hw inAX6 hown hK hP 0 rfl rfl 10 (by decide) (hw _ q_110) (fun _ h9 => h9) i107 dX6_advance_16 ?_
    refine va_bald hx hb hK hP 1 2 rfl rfl (ix_k k111 (by decide) (by decide)) dX6_advance_19 ?_
    refine lv_topi (fun v114 ev114 => ?_)
    refine lv_bipush (v := 32) hx hb dX6_advance_20 (by decide) ?_
    refine lv_icmp_eq (tgt := 39) hx hb dX6_advance_22 (by decide) (fun c115 => ?_) (fun c115 => ?_)
    · have dc115 : v114.toInt = 32 := eq_i (a := v114.toInt) (b := 32) rfl rfl c115
      have k116 : 32 ≤ v114.toInt ∧ v114.toInt ≤ 32 := ⟨Int.le_trans (Int.le_refl _) (Int.le_of_eq dc115.symm), Int.le_trans (Int.le_of_eq dc115) (Int.le_refl _)⟩
      refine lv_aload_n hx hb dX6_advance_39 rfl (lv_at hl 0 rfl) ?_
      refine lv_dup hx hb dX6_advance_40 rfl ?_
      refine get_f (D := D) (ci := 6) (v := .int u2) (C := RX6) (T := TX6) (N := 12) hx hb hw inAX6 hown hK hP 0 rfl rfl 10 (by decide) (hw _ q_110) (fun _ h9 => h9) i107 dX6_advance_41 ?_
      refine lv_iconst (v := 1) hx hb dX6_advance_44 (by decide) ?_
      refine lv_iadd hx hb dX6_advance_45 ?_
      refine lv_topi (fun v117 ev117 => ?_)
      have bv117 : v117.toInt = u2.toInt + 1 := by rw [ev117]; exact add_k rfl rfl k111 ⟨Int.le_refl _, Int.le_refl _⟩ (by decide)
      have k118 : 1 ≤ v117.toInt ∧ v117.toInt ≤ 940 := add_r bv117 k111 ⟨Int.le_refl _, Int.le_refl _⟩ (by decide)
      refine put_f (D := D) (ci := 6) (v := .int v117) (ty := .int) (C := RX6) (T := TX6) (N := 12) hx hb hw inAX6 tyX6 tyX6_ok nmX6 hown hK hP hD hS 0 rfl rfl 10 (by decide) (hw _ q_110) (fun _ h9 => h9) rfl (by decide +kernel) rfl rfl dX6_advance_46 (fun H locs F119 eF119 hP hD hS => ?_)
      have hP : va_P D vwCl [(h0, .inr (6, vL 12 F119)), (h_bytes, .inl (cB, 940, .inl f_bytes)), (h_wordNames, .inl (cJ, 23, .inr (.inl f_wordNames)))] H := hP
      have hD : va_D A [(h0, .inr (6, vL 12 F119)), (h_bytes, .inl (cB, 940, .inl f_bytes)), (h_wordNames, .inl (cJ, 23, .inr (.inl f_wordNames)))] := hD
      refine lv_goto (tgt := 0) hx hb dX6_advance_49 (by decide) ?_
      exact ih (F119, v117) ⟨(SAME.up eF119 (SAME.tr SAME.rf i106 (by decide)) (by decide)), (get_eq eF119), (ir_wk k118 (by decide) (by decide))⟩ (by show (x_length.toInt - v117.toInt).toNat < (x_length.toInt - u2.toInt).toNat; omega) _ _ _ hP hD hS (lv_sub hl [0] rfl)
    · have dc115 : v114.toInt ≠ 32 := ne_i (a := v114.toInt) (b := 32) rfl rfl c115
      refine lv_aload_n hx hb dX6_advance_25 rfl (lv_at hl 0 rfl) ?_
      refine get_f (D := D) (ci := 6) (v := .ref h_bytes) (C := RX6) (T := TX6) (N := 12) hx hb hw inAX6 hown hK hP 0 rfl rfl 0 (by decide) (hw _ q_89) (fun _ h9 => h9) n113 dX6_advance_26 ?_
      refine lv_aload_n hx hb dX6_advance_29 rfl (lv_at hl 0 rfl) ?_
      refine get_f (D := D) (ci := 6) (v := .int u2) (C := RX6) (T := TX6) (N := 12) hx hb hw inAX6 hown hK hP 0 rfl rfl 10 (by decide) (hw _ q_110) (fun _ h9 => h9) i107 dX6_advance_30 ?_
      refine va_bald hx hb hK hP 1 2 rfl rfl (ix_k k111 (by decide) (by decide)) dX6_advance_33 ?_
      refine lv_ci (y := v114) ev114.symm ?_
      refine lv_bipush (v := 10) hx hb dX6_advance_34 (by decide) ?_
      refine lv_icmp_ne (tgt := 52) hx hb dX6_advance_36 (by decide) (fun c120 => ?_) (fun c120 => ?_)
      · have dc120 : v114.toInt ≠ 10 := ne_i (a := v114.toInt) (b := 10) rfl rfl c120
        exact cut3 G1 u2 (SAME.tr SAME.rf i106 (by decide)) i107 (ir_wk k111 (by decide) (by decide)) _ _ _ hP hD hS (lv_sub hl [0] rfl)
      · have dc120 : v114.toInt = 10 := eq_i (a := v114.toInt) (b := 10) rfl rfl c120
        have k121 : 10 ≤ v114.toInt ∧ v114.toInt ≤ 10 := ⟨Int.le_trans (Int.le_refl _) (Int.le_of_eq dc120.symm), Int.le_trans (Int.le_of_eq dc120) (Int.le_refl _)⟩
        refine lv_aload_n hx hb dX6_advance_39 rfl (lv_at hl 0 rfl) ?_
        refine lv_dup hx hb dX6_advance_40 rfl ?_
        refine get_f (D := D) (ci := 6) (v := .int u2) (C := RX6) (T := TX6) (N := 12) hx hb hw inAX6 hown hK hP 0 rfl rfl 10 (by decide) (hw _ q_110) (fun _ h9 => h9) i107 dX6_advance_41 ?_
        refine lv_iconst (v := 1) hx hb dX6_advance_44 (by decide) ?_
        refine lv_iadd hx hb dX6_advance_45 ?_
        refine lv_topi (fun v122 ev122 => ?_)
        have bv122 : v122.toInt = u2.toInt + 1 := by rw [ev122]; exact add_k rfl rfl k111 ⟨Int.le_refl _, Int.le_refl _⟩ (by decide)
        have k123 : 1 ≤ v122.toInt ∧ v122.toInt ≤ 940 := add_r bv122 k111 ⟨Int.le_refl _, Int.le_refl _⟩ (by decide)
        refine put_f (D := D) (ci := 6) (v := .int v122) (ty := .int) (C := RX6) (T := TX6) (N := 12) hx hb hw inAX6 tyX6 tyX6_ok nmX6 hown hK hP hD hS 0 rfl rfl 10 (by decide) (hw _ q_110) (fun _ h9 => h9) rfl (by decide +kernel) rfl rfl dX6_advance_46 (fun H locs F124 eF124 hP hD hS => ?_)
        have hP : va_P D vwCl [(h0, .inr (6, vL 12 F124)), (h_bytes, .inl (cB, 940, .inl f_bytes)), (h_wordNames, .inl (cJ, 23, .inr (.inl f_wordNames)))] H := hP
        have hD : va_D A [(h0, .inr (6, vL 12 F124)), (h_bytes, .inl (cB, 940, .inl f_bytes)), (h_wordNames, .inl (cJ, 23, .inr (.inl f_wordNames)))] := hD
        refine lv_goto (tgt := 0) hx hb dX6_advance_49 (by decide) ?_
        exact ih (F124, v122) ⟨(SAME.up eF124 (SAME.tr SAME.rf i106 (by decide)) (by decide)), (get_eq eF124), (ir_wk k123 (by decide) (by decide))⟩ (by show (x_length.toInt - v122.toInt).toNat < (x_length.toInt - u2.toInt).toNat; omega) _ _ _ hP hD hS (lv_sub hl [0] rfl)
set_option maxHeartbeats 4000000 in
set_option maxRecDepth 100000 in
theorem m_X6_open (l : Launch) (D : va_G) (cI cJ cB cP cM cZ : ClassId) (h0 : Nat) (h_bytes : Nat) (h_wordNames : Nat) (Fh : Nat → Value) (x_length : Int32) (x_value : Int32) (x_name : Int64) (f_bytes : Nat → Int32) (f_wordNames : Nat → Int64) (p0 : Int32) (sz : Nat) (e_bytes : Fh 0 = .ref h_bytes) (e_length : Fh 1 = .int x_length) (i_x_length : IR 0 940 x_length) (e_value : Fh 4 = .int x_value) (e_name : Fh 5 = .long x_name) (e_wordNames : Fh 9 = .ref h_wordNames) : CV l yX6_open cX6_open 2 none { frames := 2, cells := 0, slots := 0, locals := 43 } (GG D cI cJ cB cP cM cZ) D [(h0, .inr (6, vL 12 Fh)), (h_bytes, .inl (cB, 940, .inl f_bytes)), (h_wordNames, .inl (cJ, 23, .inr (.inl f_wordNames)))] sz [.ref h0, .int p0] (fun (u : va_W) => ∃ (Gh : Nat → Value) (y_kind : Int32) (y_place : Int32) (y_value : Int32) (y_name : Int64) (y_at : Int32), SAME [2, 3, 4, 5, 10, 11] Fh Gh ∧ Gh 2 = .int y_kind ∧ Gh 3 = .int y_place ∧ IR (-2147483648) 940 y_place ∧ Gh 4 = .int y_value ∧ Gh 5 = .long y_name ∧ Gh 10 = .int y_at ∧ IR 0 940 y_at ∧ Gh 11 = .int p0 ∧ u = [(h0, .inr (6, vL 12 Gh)), (h_bytes, .inl (cB, 940, .inl f_bytes)), (h_wordNames, .inl (cJ, 23, .inr (.inl f_wordNames)))]) := by
  refine CV_mk (by decide) (Nat.le_of_ble_eq_true rfl) ?_
  intro p e s m below meth c A ls E hAe hG hsz hP hD hA hS hl
  obtain ⟨hx, hb, hr, hw, hown, hlocks, hml, hnm⟩ := E
  have hK := hG.1
  have i_x_length : 0 ≤ x_length.toInt ∧ x_length.toInt ≤ 940 := i_x_length
  have hl : lv_has ls 2 [(0, .ref h0), (1, .int p0)] := hl
  refine lv_aload_n hx hb dX6_open_0 rfl (lv_at hl 0 rfl) ?_
  refine lv_iload_n hx hb dX6_open_1 rfl (lv_at hl 1 rfl) ?_
  refine put_f (D := D) (ci := 6) (v := .int p0) (ty := .int) (C := RX6) (T := TX6) (N := 12) hx hb hw inAX6 tyX6 tyX6_ok nmX6 hown hK hP hD hS 0 rfl rfl 11 (by decide) (hw _ q_111) (fun _ h9 => h9) rfl (by decide +kernel) rfl rfl dX6_open_2 (fun H locs F1 eF1 hP hD hS => ?_)
  have hP : va_P D vwCl [(h0, .inr (6, vL 12 F1)), (h_bytes, .inl (cB, 940, .inl f_bytes)), (h_wordNames, .inl (cJ, 23, .inr (.inl f_wordNames)))] H := hP
  have hD : va_D A [(h0, .inr (6, vL 12 F1)), (h_bytes, .inl (cB, 940, .inl f_bytes)), (h_wordNames, .inl (cJ, 23, .inr (.inl f_wordNames)))] := hD
  refine lv_aload_n hx hb dX6_open_5 rfl (lv_at hl 0 rfl) ?_
  refine lv_iconst (v := 0) hx hb dX6_open_6 (by decide) ?_
  refine put_f (D := D) (ci := 6) (v := .int 0) (ty := .int) (C := RX6) (T := TX6) (N := 12) hx hb hw inAX6 tyX6 tyX6_ok nmX6 hown hK hP hD hS 0 rfl rfl 10 (by decide) (hw _ q_110) (fun _ h9 => h9) rfl (by decide +kernel) rfl rfl dX6_open_7 (fun H locs F2 eF2 hP hD hS => ?_)
  have hP : va_P D vwCl [(h0, .inr (6, vL 12 F2)), (h_bytes, .inl (cB, 940, .inl f_bytes)), (h_wordNames, .inl (cJ, 23, .inr (.inl f_wordNames)))] H := hP
  have hD : va_D A [(h0, .inr (6, vL 12 F2)), (h_bytes, .inl (cB, 940, .inl f_bytes)), (h_wordNames, .inl (cJ, 23, .inr (.inl f_wordNames)))] := hD
  refine lv_aload_n hx hb dX6_open_10 rfl (lv_at hl 0 rfl) ?_
  have n3 : F1 0 = .ref h_bytes := (get_ne eF1 (by decide) e_bytes)
  have n4 : F2 0 = .ref h_bytes := (get_ne eF2 (by decide) n3)
  have n5 : F1 1 = .int x_length := (get_ne eF1 (by decide) e_length)
  have n6 : F2 1 = .int x_length := (get_ne eF2 (by decide) n5)
  have n7 : F1 4 = .int x_value := (get_ne eF1 (by decide) e_value)
  have n8 : F2 4 = .int x_value := (get_ne eF2 (by decide) n7)
  have n9 : F1 5 = .long x_name := (get_ne eF1 (by decide) e_name)
  have n10 : F2 5 = .long x_name := (get_ne eF2 (by decide) n9)
  have n11 : F1 9 = .ref h_wordNames := (get_ne eF1 (by decide) e_wordNames)
  have n12 : F2 9 = .ref h_wordNames := (get_ne eF2 (by decide) n11)
  have n13 : F2 11 = .int p0 := (get_ne eF2 (by decide) (get_eq eF1))
  refine call_Vv (wr := []) (As := []) (rest := []) hx hb hml hown hw (m_X6_advance l D cI cJ cB cP cM cZ h0 h_bytes h_wordNames F2 x_length x_value x_name 0 p0 f_bytes f_wordNames _ n4 n6 i_x_length n8 n10 n12 (get_eq eF2) (show 0 ≤ (0 : Int32).toInt ∧ (0 : Int32).toInt ≤ 940 by decide) n13) wV_X6_66_X6_advance dX6_open_11 hK hP hD hS hA [0, 1, 2] [] rfl rfl (by decide) (by decide) (by decide) 0 6 rfl rfl GG.fb hG.at hl.1 rfl (Nat.le_of_ble_eq_true rfl) ⟨(Nat.le_of_ble_eq_true rfl), (Nat.le_of_ble_eq_true rfl)⟩ ⟨(Nat.le_of_ble_eq_true rfl), (Nat.le_of_ble_eq_true rfl)⟩ (fun u H locs hp hP hD hS => ?_)
  have zl0 : (0 : Int32).toInt = 0 := by decide
  obtain ⟨F15, y16, y17, y18, y19, y20, t21, t22, t23, t24, t25, t26, t27, t28, rfl⟩ := hp
  have hP : va_P D vwCl [(h0, .inr (6, vL 12 F15)), (h_bytes, .inl (cB, 940, .inl f_bytes)), (h_wordNames, .inl (cJ, 23, .inr (.inl f_wordNames)))] H := hP
  have hD : va_D A [(h0, .inr (6, vL 12 F15)), (h_bytes, .inl (cB, 940, .inl f_bytes)), (h_wordNames, .inl (cJ, 23, .inr (.inl f_wordNames)))] := hD
  refine W.widen (k := 0) (n := 0) (Nat.le_of_ble_eq_true rfl) (Nat.le_of_ble_eq_true rfl) ?_
  exact ret_v hx hb hr hlocks hS hP hD dX6_open_14 (Nat.le_of_ble_eq_true rfl) (Nat.le_of_ble_eq_true rfl) ⟨F15, y16, y17, y18, y19, y20, (SAME.tr (SAME.up eF2 (SAME.up eF1 SAME.rf (by decide)) (by decide)) t21 (by decide)), t22, t23, t24, t25, t26, t27, t28, (SAME.at t21 (by decide) n13), rfl⟩
set_option maxHeartbeats 4000000 in
set_option maxRecDepth 100000 in
theorem m_X6_wordHere (l : Launch) (D : va_G) (cI cJ cB cP cM cZ : ClassId) (h0 : Nat) (Fh : Nat → Value) (x_kind : Int32) (x_value : Int32) (sz : Nat) (e_kind : Fh 2 = .int x_kind) (e_value : Fh 4 = .int x_value) : CI l yX6_wordHere cX6_wordHere 1 (some .int) { frames := 0, cells := 0, slots := 0, locals := 0 } (GG D cI cJ cB cP cM cZ) D [(h0, .inr (6, vL 12 Fh))] sz [.ref h0] (fun (r : Int32) (u : va_W) => (x_kind.toInt ≠ 2 ∧ r = (-1) ∧ u = [(h0, .inr (6, vL 12 Fh))]) ∨ (x_kind.toInt = 2 ∧ r = x_value ∧ u = [(h0, .inr (6, vL 12 Fh))])) := by
  refine CI_mk (by decide) (Nat.le_of_ble_eq_true rfl) ?_
  intro p e s m below meth c A ls E hAe hG hsz hP hD hA hS hl
  obtain ⟨hx, hb, hr, hw, hown, hlocks, hml, hnm⟩ := E
  have hK := hG.1
  have hl : lv_has ls 1 [(0, .ref h0)] := hl
  refine lv_aload_n hx hb dX6_wordHere_0 rfl (lv_at hl 0 rfl) ?_
  refine get_f (D := D) (ci := 6) (v := .int x_kind) (C := RX6) (T := TX6) (N := 12) hx hb hw inAX6 hown hK hP 0 rfl rfl 2 (by decide) (hw _ q_92) (fun _ h9 => h9) e_kind dX6_wordHere_1 ?_
  refine lv_iconst (v := 2) hx hb dX6_wordHere_4 (by decide) ?_
  refine lv_icmp_ne (tgt := 15) hx hb dX6_wordHere_5 (by decide) (fun c1 => ?_) (fun c1 => ?_)
  · have dc1 : x_kind.toInt ≠ 2 := ne_i (a := x_kind.toInt) (b := 2) rfl rfl c1
    refine lv_iconst (v := (-1)) hx hb dX6_wordHere_15 (by decide) ?_
    exact ret_i (v := (-1)) hx hb hr hlocks hS hP hD dX6_wordHere_16 rfl (Nat.le_of_ble_eq_true rfl) (Nat.le_of_ble_eq_true rfl) (Or.inl ⟨dc1, rfl, rfl⟩)
  · have dc1 : x_kind.toInt = 2 := eq_i (a := x_kind.toInt) (b := 2) rfl rfl c1
    have k2 : 2 ≤ x_kind.toInt ∧ x_kind.toInt ≤ 2 := ⟨Int.le_trans (Int.le_refl _) (Int.le_of_eq dc1.symm), Int.le_trans (Int.le_of_eq dc1) (Int.le_refl _)⟩
    refine lv_aload_n hx hb dX6_wordHere_8 rfl (lv_at hl 0 rfl) ?_
    refine get_f (D := D) (ci := 6) (v := .int x_value) (C := RX6) (T := TX6) (N := 12) hx hb hw inAX6 hown hK hP 0 rfl rfl 4 (by decide) (hw _ q_97) (fun _ h9 => h9) e_value dX6_wordHere_9 ?_
    refine lv_goto (tgt := 16) hx hb dX6_wordHere_12 (by decide) ?_
    exact ret_i (v := x_value) hx hb hr hlocks hS hP hD dX6_wordHere_16 rfl (Nat.le_of_ble_eq_true rfl) (Nat.le_of_ble_eq_true rfl) (Or.inr ⟨dc1, rfl, rfl⟩)
set_option maxHeartbeats 4000000 in
set_option maxRecDepth 100000 in
theorem m_X6_fail (l : Launch) (D : va_G) (cI cJ cB cP cM cZ : ClassId) (h0 : Nat) (Fh : Nat → Value) (x_place : Int32) (p0 : Int32) (sz : Nat) (e_place : Fh 3 = .int x_place) : CI l yX6_fail cX6_fail 2 (some .boolean) { frames := 0, cells := 0, slots := 0, locals := 0 } (GG D cI cJ cB cP cM cZ) D [(h0, .inr (6, vL 12 Fh))] sz [.ref h0, .int p0] (fun (r : Int32) (u : va_W) => ∃ (Gh : Nat → Value), SAME [7, 8] Fh Gh ∧ Gh 7 = .int p0 ∧ Gh 8 = .int x_place ∧ r = 0 ∧ u = [(h0, .inr (6, vL 12 Gh))]) := by
  refine CI_mk (by decide) (Nat.le_of_ble_eq_true rfl) ?_
  intro p e s m below meth c A ls E hAe hG hsz hP hD hA hS hl
  obtain ⟨hx, hb, hr, hw, hown, hlocks, hml, hnm⟩ := E
  have hK := hG.1
  have hl : lv_has ls 2 [(0, .ref h0), (1, .int p0)] := hl
  refine lv_aload_n hx hb dX6_fail_0 rfl (lv_at hl 0 rfl) ?_
  refine lv_iload_n hx hb dX6_fail_1 rfl (lv_at hl 1 rfl) ?_
  refine put_f (D := D) (ci := 6) (v := .int p0) (ty := .int) (C := RX6) (T := TX6) (N := 12) hx hb hw inAX6 tyX6 tyX6_ok nmX6 hown hK hP hD hS 0 rfl rfl 7 (by decide) (hw _ q_105) (fun _ h9 => h9) rfl (by decide +kernel) rfl rfl dX6_fail_2 (fun H locs F1 eF1 hP hD hS => ?_)
  have hP : va_P D vwCl [(h0, .inr (6, vL 12 F1))] H := hP
  have hD : va_D A [(h0, .inr (6, vL 12 F1))] := hD
  refine lv_aload_n hx hb dX6_fail_5 rfl (lv_at hl 0 rfl) ?_
  refine lv_aload_n hx hb dX6_fail_6 rfl (lv_at hl 0 rfl) ?_
  have n2 : F1 3 = .int x_place := (get_ne eF1 (by decide) e_place)
  refine get_f (D := D) (ci := 6) (v := .int x_place) (C := RX6) (T := TX6) (N := 12) hx hb hw inAX6 hown hK hP 0 rfl rfl 3 (by decide) (hw _ q_96) (fun _ h9 => h9) n2 dX6_fail_7 ?_
  refine put_f (D := D) (ci := 6) (v := .int x_place) (ty := .int) (C := RX6) (T := TX6) (N := 12) hx hb hw inAX6 tyX6 tyX6_ok nmX6 hown hK hP hD hS 0 rfl rfl 8 (by decide) (hw _ q_107) (fun _ h9 => h9) rfl (by decide +kernel) rfl rfl dX6_fail_10 (fun H locs F3 eF3 hP hD hS => ?_)
  have hP : va_P D vwCl [(h0, .inr (6, vL 12 F3))] H := hP
  have hD : va_D A [(h0, .inr (6, vL 12 F3))] := hD
  refine lv_iconst (v := 0) hx hb dX6_fail_13 (by decide) ?_
  exact ret_i (v := 0) hx hb hr hlocks hS hP hD dX6_fail_14 rfl (Nat.le_of_ble_eq_true rfl) (Nat.le_of_ble_eq_true rfl) ⟨F3, (SAME.up eF3 (SAME.up eF1 SAME.rf (by decide)) (by decide)), (get_ne eF3 (by decide) (get_eq eF1)), (get_eq eF3), rfl, rfl⟩
set_option maxHeartbeats 4000000 in
set_option maxRecDepth 100000 in
theorem m_X6_isNumberWithin (l : Launch) (D : va_G) (cI cJ cB cP cM cZ : ClassId) (h0 : Nat) (Fh : Nat → Value) (x_kind : Int32) (x_place : Int32) (x_value : Int32) (p0 : Int32) (p1 : Int32) (sz : Nat) (e_kind : Fh 2 = .int x_kind) (e_place : Fh 3 = .int x_place) (e_value : Fh 4 = .int x_value) : CI l yX6_isNumberWithin cX6_isNumberWithin 3 (some .boolean) { frames := 1, cells := 0, slots := 0, locals := 21 } (GG D cI cJ cB cP cM cZ) D [(h0, .inr (6, vL 12 Fh))] sz [.ref h0, .int p0, .int p1] (fun (r : Int32) (u : va_W) => (∃ (Gh : Nat → Value) (y_faultKind : Int32), SAME [7, 8] Fh Gh ∧ Gh 7 = .int y_faultKind ∧ IR 1 2 y_faultKind ∧ Gh 8 = .int x_place ∧ r = 0 ∧ u = [(h0, .inr (6, vL 12 Gh))]) ∨ (x_kind.toInt = 3 ∧ p0.toInt ≤ x_value.toInt ∧ x_value.toInt ≤ p1.toInt ∧ r = 1 ∧ u = [(h0, .inr (6, vL 12 Fh))])) := by
  refine CI_mk (by decide) (Nat.le_of_ble_eq_true rfl) ?_
  intro p e s m below meth c A ls E hAe hG hsz hP hD hA hS hl
  obtain ⟨hx, hb, hr, hw, hown, hlocks, hml, hnm⟩ := E
  have hK := hG.1
  have hl : lv_has ls 3 [(0, .ref h0), (1, .int p0), (2, .int p1)] := hl
  refine lv_aload_n hx hb dX6_isNumberWithin_0 rfl (lv_at hl 0 rfl) ?_
  refine get_f (D := D) (ci := 6) (v := .int x_kind) (C := RX6) (T := TX6) (N := 12) hx hb hw inAX6 hown hK hP 0 rfl rfl 2 (by decide) (hw _ q_92) (fun _ h9 => h9) e_kind dX6_isNumberWithin_1 ?_
  refine lv_iconst (v := 3) hx hb dX6_isNumberWithin_4 (by decide) ?_
  refine lv_icmp_eq (tgt := 14) hx hb dX6_isNumberWithin_5 (by decide) (fun c1 => ?_) (fun c1 => ?_)
  · have dc1 : x_kind.toInt = 3 := eq_i (a := x_kind.toInt) (b := 3) rfl rfl c1
    have k2 : 3 ≤ x_kind.toInt ∧ x_kind.toInt ≤ 3 := ⟨Int.le_trans (Int.le_refl _) (Int.le_of_eq dc1.symm), Int.le_trans (Int.le_of_eq dc1) (Int.le_refl _)⟩
    refine lv_aload_n hx hb dX6_isNumberWithin_14 rfl (lv_at hl 0 rfl) ?_
    refine get_f (D := D) (ci := 6) (v := .int x_value) (C := RX6) (T := TX6) (N := 12) hx hb hw inAX6 hown hK hP 0 rfl rfl 4 (by decide) (hw _ q_97) (fun _ h9 => h9) e_value dX6_isNumberWithin_15 ?_
    refine lv_iload_n hx hb dX6_isNumberWithin_18 rfl (lv_at hl 1 rfl) ?_
    refine lv_icmp_lt (tgt := 30) hx hb dX6_isNumberWithin_19 (by decide) (fun c3 => ?_) (fun c3 => ?_)
    · have dc3 : x_value.toInt < p0.toInt := lt_i (a := x_value.toInt) (b := p0.toInt) rfl rfl c3
      have k4 : (-2147483648) ≤ x_value.toInt ∧ x_value.toInt ≤ 2147483646 := ⟨(ir_any _).1, up_lt dc3 (ir_any _).2 (by decide)⟩
      have k5 : (-2147483647) ≤ p0.toInt ∧ p0.toInt ≤ 2147483647 := ⟨lo_lt dc3 (ir_any _).1 (by decide), (ir_any _).2⟩
      refine lv_aload_n hx hb dX6_isNumberWithin_30 rfl (lv_at hl 0 rfl) ?_
      refine lv_iconst (v := 2) hx hb dX6_isNumberWithin_31 (by decide) ?_
      refine call_Vi (wr := []) (As := [.int 2]) (rest := []) hx hb hml hown hw (m_X6_fail l D cI cJ cB cP cM cZ h0 Fh x_place 2 _ e_place) wV_X6_80_X6_fail dX6_isNumberWithin_32 hK hP hD hS hA [0] [] rfl rfl (by decide) (by decide) (by decide) 0 6 rfl rfl GG.fb hG.at hl.1 rfl (Nat.le_of_ble_eq_true rfl) ⟨(Nat.le_of_ble_eq_true rfl), (Nat.le_of_ble_eq_true rfl)⟩ ⟨(Nat.le_of_ble_eq_true rfl), (Nat.le_of_ble_eq_true rfl)⟩ (fun r6 u H locs hp hP hD hS => ?_)
      have zl2 : (2 : Int32).toInt = 2 := by decide
      obtain ⟨F7, t8, t9, t10, rfl, rfl⟩ := hp
      have hP : va_P D vwCl [(h0, .inr (6, vL 12 F7))] H := hP
      have hD : va_D A [(h0, .inr (6, vL 12 F7))] := hD
      refine W.widen (k := 0) (n := 0) (Nat.le_of_ble_eq_true rfl) (Nat.le_of_ble_eq_true rfl) ?_
      refine lv_if_eq (tgt := 42) hx hb dX6_isNumberWithin_35 (by decide) (fun _ => ?_) (fun g => absurd (by decide) g)
      refine lv_iconst (v := 0) hx hb dX6_isNumberWithin_42 (by decide) ?_
      exact ret_i (v := 0) hx hb hr hlocks hS hP hD dX6_isNumberWithin_43 rfl (Nat.le_of_ble_eq_true rfl) (Nat.le_of_ble_eq_true rfl) (Or.inl ⟨F7, 2, (SAME.tr SAME.rf t8 (by decide)), t9, (show 1 ≤ (2 : Int32).toInt ∧ (2 : Int32).toInt ≤ 2 by decide), t10, rfl, rfl⟩)
    · have dc3 : p0.toInt ≤ x_value.toInt := nlt_i (a := x_value.toInt) (b := p0.toInt) rfl rfl c3
      refine lv_aload_n hx hb dX6_isNumberWithin_22 rfl (lv_at hl 0 rfl) ?_
      refine get_f (D := D) (ci := 6) (v := .int x_value) (C := RX6) (T := TX6) (N := 12) hx hb hw inAX6 hown hK hP 0 rfl rfl 4 (by decide) (hw _ q_97) (fun _ h9 => h9) e_value dX6_isNumberWithin_23 ?_
      refine lv_iload_n hx hb dX6_isNumberWithin_26 rfl (lv_at hl 2 rfl) ?_
      refine lv_icmp_le (tgt := 38) hx hb dX6_isNumberWithin_27 (by decide) (fun c12 => ?_) (fun c12 => ?_)
      · have dc12 : x_value.toInt ≤ p1.toInt := le_i (a := x_value.toInt) (b := p1.toInt) rfl rfl c12
        refine lv_iconst (v := 1) hx hb dX6_isNumberWithin_38 (by decide) ?_
        refine lv_goto (tgt := 43) hx hb dX6_isNumberWithin_39 (by decide) ?_
        exact ret_i (v := 1) hx hb hr hlocks hS hP hD dX6_isNumberWithin_43 rfl (Nat.le_of_ble_eq_true rfl) (Nat.le_of_ble_eq_true rfl) (Or.inr ⟨dc1, dc3, dc12, rfl, rfl⟩)
      · have dc12 : p1.toInt < x_value.toInt := nle_i (a := x_value.toInt) (b := p1.toInt) rfl rfl c12
        have k13 : (-2147483648) ≤ p1.toInt ∧ p1.toInt ≤ 2147483646 := ⟨(ir_any _).1, up_lt dc12 (ir_any _).2 (by decide)⟩
        have k14 : (-2147483647) ≤ x_value.toInt ∧ x_value.toInt ≤ 2147483647 := ⟨lo_lt dc12 (ir_any _).1 (by decide), (ir_any _).2⟩
        refine lv_aload_n hx hb dX6_isNumberWithin_30 rfl (lv_at hl 0 rfl) ?_
        refine lv_iconst (v := 2) hx hb dX6_isNumberWithin_31 (by decide) ?_
        refine call_Vi (wr := []) (As := [.int 2]) (rest := []) hx hb hml hown hw (m_X6_fail l D cI cJ cB cP cM cZ h0 Fh x_place 2 _ e_place) wV_X6_80_X6_fail dX6_isNumberWithin_32 hK hP hD hS hA [0] [] rfl rfl (by decide) (by decide) (by decide) 0 6 rfl rfl GG.fb hG.at hl.1 rfl (Nat.le_of_ble_eq_true rfl) ⟨(Nat.le_of_ble_eq_true rfl), (Nat.le_of_ble_eq_true rfl)⟩ ⟨(Nat.le_of_ble_eq_true rfl), (Nat.le_of_ble_eq_true rfl)⟩ (fun r15 u H locs hp hP hD hS => ?_)
        have zl2 : (2 : Int32).toInt = 2 := by decide
        obtain ⟨F16, t17, t18, t19, rfl, rfl⟩ := hp
        have hP : va_P D vwCl [(h0, .inr (6, vL 12 F16))] H := hP
        have hD : va_D A [(h0, .inr (6, vL 12 F16))] := hD
        refine W.widen (k := 0) (n := 0) (Nat.le_of_ble_eq_true rfl) (Nat.le_of_ble_eq_true rfl) ?_
        refine lv_if_eq (tgt := 42) hx hb dX6_isNumberWithin_35 (by decide) (fun _ => ?_) (fun g => absurd (by decide) g)
        refine lv_iconst (v := 0) hx hb dX6_isNumberWithin_42 (by decide) ?_
        exact ret_i (v := 0) hx hb hr hlocks hS hP hD dX6_isNumberWithin_43 rfl (Nat.le_of_ble_eq_true rfl) (Nat.le_of_ble_eq_true rfl) (Or.inl ⟨F16, 2, (SAME.tr SAME.rf t17 (by decide)), t18, (show 1 ≤ (2 : Int32).toInt ∧ (2 : Int32).toInt ≤ 2 by decide), t19, rfl, rfl⟩)
  · have dc1 : x_kind.toInt ≠ 3 := ne_i (a := x_kind.toInt) (b := 3) rfl rfl c1
    refine lv_aload_n hx hb dX6_isNumberWithin_8 rfl (lv_at hl 0 rfl) ?_
    refine lv_iconst (v := 1) hx hb dX6_isNumberWithin_9 (by decide) ?_
    refine call_Vi (wr := []) (As := [.int 1]) (rest := []) hx hb hml hown hw (m_X6_fail l D cI cJ cB cP cM cZ h0 Fh x_place 1 _ e_place) wV_X6_80_X6_fail dX6_isNumberWithin_10 hK hP hD hS hA [0] [] rfl rfl (by decide) (by decide) (by decide) 0 6 rfl rfl GG.fb hG.at hl.1 rfl (Nat.le_of_ble_eq_true rfl) ⟨(Nat.le_of_ble_eq_true rfl), (Nat.le_of_ble_eq_true rfl)⟩ ⟨(Nat.le_of_ble_eq_true rfl), (Nat.le_of_ble_eq_true rfl)⟩ (fun r21 u H locs hp hP hD hS => ?_)
    have zl1 : (1 : Int32).toInt = 1 := by decide
    obtain ⟨F22, t23, t24, t25, rfl, rfl⟩ := hp
    have hP : va_P D vwCl [(h0, .inr (6, vL 12 F22))] H := hP
    have hD : va_D A [(h0, .inr (6, vL 12 F22))] := hD
    refine W.widen (k := 0) (n := 0) (Nat.le_of_ble_eq_true rfl) (Nat.le_of_ble_eq_true rfl) ?_
    exact ret_i (v := 0) hx hb hr hlocks hS hP hD dX6_isNumberWithin_13 rfl (Nat.le_of_ble_eq_true rfl) (Nat.le_of_ble_eq_true rfl) (Or.inl ⟨F22, 1, (SAME.tr SAME.rf t23 (by decide)), t24, (show 1 ≤ (1 : Int32).toInt ∧ (1 : Int32).toInt ≤ 2 by decide), t25, rfl, rfl⟩)
set_option maxHeartbeats 4000000 in
set_option maxRecDepth 100000 in
theorem m_X6_takeInto_5 (l : Launch) (D : va_G) (cI cJ cB cP cM cZ : ClassId) (h0 : Nat) (h_bytes : Nat) (h_wordNames : Nat) (p0 : Nat) (Fh : Nat → Value) (x_length : Int32) (x_kind : Int32) (x_place : Int32) (x_value : Int32) (x_name : Int64) (x_at : Int32) (x_mostBytes : Int32) (f_bytes : Nat → Int32) (f_wordNames : Nat → Int64) (f_p0 : Nat → Int32) (p1 : Int32) (p2 : Int32) (p3 : Int32) (sz : Nat) (e_bytes : Fh 0 = .ref h_bytes) (e_length : Fh 1 = .int x_length) (i_x_length : IR 0 940 x_length) (e_kind : Fh 2 = .int x_kind) (e_place : Fh 3 = .int x_place) (e_value : Fh 4 = .int x_value) (e_name : Fh 5 = .long x_name) (e_wordNames : Fh 9 = .ref h_wordNames) (e_at : Fh 10 = .int x_at) (i_x_at : IR 0 940 x_at) (e_mostBytes : Fh 11 = .int x_mostBytes) : CI l yX6_takeInto cX6_takeInto 5 (some .boolean) { frames := 2, cells := 0, slots := 0, locals := 43 } (GG D cI cJ cB cP cM cZ) D [(h0, .inr (6, vL 12 Fh)), (h_bytes, .inl (cB, 940, .inl f_bytes)), (h_wordNames, .inl (cJ, 23, .inr (.inl f_wordNames))), (p0, .inl (cI, 5, .inl f_p0))] sz [.ref h0, .ref p0, .int p1, .int p2, .int p3] (fun (r : Int32) (u : va_W) => (∃ (Gh : Nat → Value) (y_faultKind : Int32), SAME [7, 8] Fh Gh ∧ Gh 7 = .int y_faultKind ∧ IR 1 4 y_faultKind ∧ Gh 8 = .int x_place ∧ r = 0 ∧ u = [(h0, .inr (6, vL 12 Gh)), (h_bytes, .inl (cB, 940, .inl f_bytes)), (h_wordNames, .inl (cJ, 23, .inr (.inl f_wordNames))), (p0, .inl (cI, 5, .inl f_p0))]) ∨ (∃ (Gh : Nat → Value) (y_kind : Int32) (y_place : Int32) (y_value : Int32) (y_name : Int64) (y_at : Int32) (g_p0 : Nat → Int32), SAME [2, 3, 4, 5, 10] Fh Gh ∧ Gh 2 = .int y_kind ∧ Gh 3 = .int y_place ∧ IR (-2147483648) 940 y_place ∧ Gh 4 = .int y_value ∧ Gh 5 = .long y_name ∧ Gh 10 = .int y_at ∧ IR 0 940 y_at ∧ 0 ≤ p1.toInt ∧ p1.toInt < 5 ∧ x_kind.toInt = 3 ∧ p2.toInt ≤ x_value.toInt ∧ x_value.toInt ≤ p3.toInt ∧ (upd f_p0 p1.toNatClampNeg x_value = g_p0) ∧ r = 1 ∧ u = [(h0, .inr (6, vL 12 Gh)), (h_bytes, .inl (cB, 940, .inl f_bytes)), (h_wordNames, .inl (cJ, 23, .inr (.inl f_wordNames))), (p0, .inl (cI, 5, .inl g_p0))])) := by
  refine CI_mk (by decide) (Nat.le_of_ble_eq_true rfl) ?_
  intro p e s m below meth c A ls E hAe hG hsz hP hD hA hS hl
  obtain ⟨hx, hb, hr, hw, hown, hlocks, hml, hnm⟩ := E
  have hK := hG.1
  have i_x_length : 0 ≤ x_length.toInt ∧ x_length.toInt ≤ 940 := i_x_length
  have i_x_at : 0 ≤ x_at.toInt ∧ x_at.toInt ≤ 940 := i_x_at
  have hl : lv_has ls 5 [(0, .ref h0), (1, .ref p0), (2, .int p1), (3, .int p2), (4, .int p3)] := hl
  refine lv_iload_n hx hb dX6_takeInto_0 rfl (lv_at hl 2 rfl) ?_
  refine lv_if_lt (tgt := 10) hx hb dX6_takeInto_1 (by decide) (fun c1 => ?_) (fun c1 => ?_)
  · have dc1 : p1.toInt < 0 := lt_i (a := p1.toInt) (b := 0) rfl rfl c1
    have k2 : (-2147483648) ≤ p1.toInt ∧ p1.toInt ≤ (-1) := ⟨(ir_any _).1, up_lt dc1 (Int.le_refl _) (by decide)⟩
    refine lv_aload_n hx hb dX6_takeInto_10 rfl (lv_at hl 0 rfl) ?_
    refine lv_iconst (v := 4) hx hb dX6_takeInto_11 (by decide) ?_
    refine call_Vi (wr := [(h_bytes, .inl (cB, 940, .inl f_bytes)), (h_wordNames, .inl (cJ, 23, .inr (.inl f_wordNames))), (p0, .inl (cI, 5, .inl f_p0))]) (As := [.int 4]) (rest := []) hx hb hml hown hw (m_X6_fail l D cI cJ cB cP cM cZ h0 Fh x_place 4 _ e_place) wV_X6_80_X6_fail dX6_takeInto_12 hK hP hD hS hA [0] [1, 2, 3] rfl rfl (by decide) (by decide) (by decide) 0 6 rfl rfl GG.fb hG.at hl.1 rfl (Nat.le_of_ble_eq_true rfl) ⟨(Nat.le_of_ble_eq_true rfl), (Nat.le_of_ble_eq_true rfl)⟩ ⟨(Nat.le_of_ble_eq_true rfl), (Nat.le_of_ble_eq_true rfl)⟩ (fun r3 u H locs hp hP hD hS => ?_)
    have zl4 : (4 : Int32).toInt = 4 := by decide
    obtain ⟨F4, t5, t6, t7, rfl, rfl⟩ := hp
    have hP : va_P D vwCl [(h_bytes, .inl (cB, 940, .inl f_bytes)), (h_wordNames, .inl (cJ, 23, .inr (.inl f_wordNames))), (p0, .inl (cI, 5, .inl f_p0)), (h0, .inr (6, vL 12 F4))] H := hP
    have hD : va_D A [(h_bytes, .inl (cB, 940, .inl f_bytes)), (h_wordNames, .inl (cJ, 23, .inr (.inl f_wordNames))), (p0, .inl (cI, 5, .inl f_p0)), (h0, .inr (6, vL 12 F4))] := hD
    refine W.widen (k := 0) (n := 0) (Nat.le_of_ble_eq_true rfl) (Nat.le_of_ble_eq_true rfl) ?_
    exact ret_i (v := 0) hx hb hr hlocks hS (hP.sub (ws' := [(h0, .inr (6, vL 12 F4)), (h_bytes, .inl (cB, 940, .inl f_bytes)), (h_wordNames, .inl (cJ, 23, .inr (.inl f_wordNames))), (p0, .inl (cI, 5, .inl f_p0))]) [3, 0, 1, 2] rfl) (hD.sub (ws' := [(h0, .inr (6, vL 12 F4)), (h_bytes, .inl (cB, 940, .inl f_bytes)), (h_wordNames, .inl (cJ, 23, .inr (.inl f_wordNames))), (p0, .inl (cI, 5, .inl f_p0))]) [3, 0, 1, 2] (by decide) rfl) dX6_takeInto_15 rfl (Nat.le_of_ble_eq_true rfl) (Nat.le_of_ble_eq_true rfl) (Or.inl ⟨F4, 4, (SAME.tr SAME.rf t5 (by decide)), t6, (show 1 ≤ (4 : Int32).toInt ∧ (4 : Int32).toInt ≤ 4 by decide), t7, rfl, rfl⟩)
  · have dc1 : 0 ≤ p1.toInt := nlt_i (a := p1.toInt) (b := 0) rfl rfl c1
    have k9 : 0 ≤ p1.toInt ∧ p1.toInt ≤ 2147483647 := ⟨Int.le_trans (Int.le_refl _) dc1, (ir_any _).2⟩
    refine lv_iload_n hx hb dX6_takeInto_4 rfl (lv_at hl 2 rfl) ?_
    refine lv_aload_n hx hb dX6_takeInto_5 rfl (lv_at hl 1 rfl) ?_
    refine va_alen (v := 5) hx hb hK hP 3 0 rfl rfl rfl dX6_takeInto_6 ?_
    refine lv_icmp_lt (tgt := 16) hx hb dX6_takeInto_7 (by decide) (fun c10 => ?_) (fun c10 => ?_)
    · have dc10 : p1.toInt < 5 := lt_i (a := p1.toInt) (b := 5) rfl rfl c10
      have k11 : 0 ≤ p1.toInt ∧ p1.toInt ≤ 4 := ⟨k9.1, up_lt dc10 (Int.le_refl _) (by decide)⟩
      refine lv_aload_n hx hb dX6_takeInto_16 rfl (lv_at hl 0 rfl) ?_
      refine lv_iload_n hx hb dX6_takeInto_17 rfl (lv_at hl 3 rfl) ?_
      refine lv_iload hx hb dX6_takeInto_18 (lv_at hl 4 rfl) ?_
      refine call_Vi (wr := [(h_bytes, .inl (cB, 940, .inl f_bytes)), (h_wordNames, .inl (cJ, 23, .inr (.inl f_wordNames))), (p0, .inl (cI, 5, .inl f_p0))]) (As := [.int p2, .int p3]) (rest := []) hx hb hml hown hw (m_X6_isNumberWithin l D cI cJ cB cP cM cZ h0 Fh x_kind x_place x_value p2 p3 _ e_kind e_place e_value) wV_X6_83_X6_isNumberWithin dX6_takeInto_20 hK hP hD hS hA [0] [1, 2, 3] rfl rfl (by decide) (by decide) (by decide) 0 6 rfl rfl GG.fb hG.at hl.1 rfl (Nat.le_of_ble_eq_true rfl) ⟨(Nat.le_of_ble_eq_true rfl), (Nat.le_of_ble_eq_true rfl)⟩ ⟨(Nat.le_of_ble_eq_true rfl), (Nat.le_of_ble_eq_true rfl)⟩ (fun r12 u H locs hp hP hD hS => ?_)
      rcases hp with ⟨F13, y14, t15, t16, t17, t18, rfl, rfl⟩ | ⟨t19, t20, t21, rfl, rfl⟩
      · have hP : va_P D vwCl [(h_bytes, .inl (cB, 940, .inl f_bytes)), (h_wordNames, .inl (cJ, 23, .inr (.inl f_wordNames))), (p0, .inl (cI, 5, .inl f_p0)), (h0, .inr (6, vL 12 F13))] H := hP
        have hD : va_D A [(h_bytes, .inl (cB, 940, .inl f_bytes)), (h_wordNames, .inl (cJ, 23, .inr (.inl f_wordNames))), (p0, .inl (cI, 5, .inl f_p0)), (h0, .inr (6, vL 12 F13))] := hD
        refine W.widen (k := 0) (n := 0) (Nat.le_of_ble_eq_true rfl) (Nat.le_of_ble_eq_true rfl) ?_
        refine lv_if_ne (tgt := 28) hx hb dX6_takeInto_23 (by decide) (fun g => absurd (by decide) g) (fun _ => ?_)
        refine lv_iconst (v := 0) hx hb dX6_takeInto_26 (by decide) ?_
        exact ret_i (v := 0) hx hb hr hlocks hS (hP.sub (ws' := [(h0, .inr (6, vL 12 F13)), (h_bytes, .inl (cB, 940, .inl f_bytes)), (h_wordNames, .inl (cJ, 23, .inr (.inl f_wordNames))), (p0, .inl (cI, 5, .inl f_p0))]) [3, 0, 1, 2] rfl) (hD.sub (ws' := [(h0, .inr (6, vL 12 F13)), (h_bytes, .inl (cB, 940, .inl f_bytes)), (h_wordNames, .inl (cJ, 23, .inr (.inl f_wordNames))), (p0, .inl (cI, 5, .inl f_p0))]) [3, 0, 1, 2] (by decide) rfl) dX6_takeInto_27 rfl (Nat.le_of_ble_eq_true rfl) (Nat.le_of_ble_eq_true rfl) (Or.inl ⟨F13, y14, (SAME.tr SAME.rf t15 (by decide)), t16, (ir_wk t17 (by decide) (by decide)), t18, rfl, rfl⟩)
      · have hP : va_P D vwCl [(h_bytes, .inl (cB, 940, .inl f_bytes)), (h_wordNames, .inl (cJ, 23, .inr (.inl f_wordNames))), (p0, .inl (cI, 5, .inl f_p0)), (h0, .inr (6, vL 12 Fh))] H := hP
        have hD : va_D A [(h_bytes, .inl (cB, 940, .inl f_bytes)), (h_wordNames, .inl (cJ, 23, .inr (.inl f_wordNames))), (p0, .inl (cI, 5, .inl f_p0)), (h0, .inr (6, vL 12 Fh))] := hD
        refine W.widen (k := 0) (n := 0) (Nat.le_of_ble_eq_true rfl) (Nat.le_of_ble_eq_true rfl) ?_
        have k23 : 3 ≤ x_kind.toInt ∧ x_kind.toInt ≤ 3 := ⟨Int.le_trans (Int.le_refl _) (Int.le_of_eq t19.symm), Int.le_trans (Int.le_of_eq t19) (Int.le_refl _)⟩
        refine lv_if_ne (tgt := 28) hx hb dX6_takeInto_23 (by decide) (fun _ => ?_) (fun g => absurd g (by decide))
        refine lv_aload_n hx hb dX6_takeInto_28 rfl (lv_at hl 1 rfl) ?_
        refine lv_iload_n hx hb dX6_takeInto_29 rfl (lv_at hl 2 rfl) ?_
        refine lv_aload_n hx hb dX6_takeInto_30 rfl (lv_at hl 0 rfl) ?_
        refine get_f (D := D) (ci := 6) (v := .int x_value) (C := RX6) (T := TX6) (N := 12) hx hb hw inAX6 hown hK hP 3 rfl rfl 4 (by decide) (hw _ q_97) (fun _ h9 => h9) e_value dX6_takeInto_31 ?_
        obtain ⟨g24, eg24⟩ : ∃ z : Nat → Int32, upd f_p0 p1.toNatClampNeg x_value = z := ⟨_, rfl⟩
        refine iast_g hx hb hK hP hD hS 2 0 rfl rfl (ix_k k11 (by decide) (by decide)) eg24 dX6_takeInto_34 (fun H locs hP hD hS => ?_)
        have hP : va_P D vwCl [(h_bytes, .inl (cB, 940, .inl f_bytes)), (h_wordNames, .inl (cJ, 23, .inr (.inl f_wordNames))), (p0, .inl (cI, 5, .inl g24)), (h0, .inr (6, vL 12 Fh))] H := hP
        have hD : va_D A [(h_bytes, .inl (cB, 940, .inl f_bytes)), (h_wordNames, .inl (cJ, 23, .inr (.inl f_wordNames))), (p0, .inl (cI, 5, .inl g24)), (h0, .inr (6, vL 12 Fh))] := hD
        refine lv_aload_n hx hb dX6_takeInto_35 rfl (lv_at hl 0 rfl) ?_
        refine call_Vv (wr := [(p0, .inl (cI, 5, .inl g24))]) (As := []) (rest := []) hx hb hml hown hw (m_X6_advance l D cI cJ cB cP cM cZ h0 h_bytes h_wordNames Fh x_length x_value x_name x_at x_mostBytes f_bytes f_wordNames _ e_bytes e_length i_x_length e_value e_name e_wordNames e_at i_x_at e_mostBytes) wV_X6_66_X6_advance dX6_takeInto_36 hK hP hD hS hA [3, 0, 1] [2] rfl rfl (by decide) (by decide) (by decide) 0 6 rfl rfl GG.fb hG.at hl.1 rfl (Nat.le_of_ble_eq_true rfl) ⟨(Nat.le_of_ble_eq_true rfl), (Nat.le_of_ble_eq_true rfl)⟩ ⟨(Nat.le_of_ble_eq_true rfl), (Nat.le_of_ble_eq_true rfl)⟩ (fun u H locs hp hP hD hS => ?_)
        obtain ⟨F26, y27, y28, y29, y30, y31, t32, t33, t34, t35, t36, t37, t38, t39, rfl⟩ := hp
        have hP : va_P D vwCl [(p0, .inl (cI, 5, .inl g24)), (h0, .inr (6, vL 12 F26)), (h_bytes, .inl (cB, 940, .inl f_bytes)), (h_wordNames, .inl (cJ, 23, .inr (.inl f_wordNames)))] H := hP
        have hD : va_D A [(p0, .inl (cI, 5, .inl g24)), (h0, .inr (6, vL 12 F26)), (h_bytes, .inl (cB, 940, .inl f_bytes)), (h_wordNames, .inl (cJ, 23, .inr (.inl f_wordNames)))] := hD
        refine W.widen (k := 0) (n := 0) (Nat.le_of_ble_eq_true rfl) (Nat.le_of_ble_eq_true rfl) ?_
        refine lv_iconst (v := 1) hx hb dX6_takeInto_39 (by decide) ?_
        exact ret_i (v := 1) hx hb hr hlocks hS (hP.sub (ws' := [(h0, .inr (6, vL 12 F26)), (h_bytes, .inl (cB, 940, .inl f_bytes)), (h_wordNames, .inl (cJ, 23, .inr (.inl f_wordNames))), (p0, .inl (cI, 5, .inl g24))]) [1, 2, 3, 0] rfl) (hD.sub (ws' := [(h0, .inr (6, vL 12 F26)), (h_bytes, .inl (cB, 940, .inl f_bytes)), (h_wordNames, .inl (cJ, 23, .inr (.inl f_wordNames))), (p0, .inl (cI, 5, .inl g24))]) [1, 2, 3, 0] (by decide) rfl) dX6_takeInto_40 rfl (Nat.le_of_ble_eq_true rfl) (Nat.le_of_ble_eq_true rfl) (Or.inr ⟨F26, y27, y28, y29, y30, y31, g24, (SAME.tr SAME.rf t32 (by decide)), t33, t34, t35, t36, t37, t38, t39, dc1, dc10, t19, t20, t21, eg24, rfl, rfl⟩)
    · have dc10 : 5 ≤ p1.toInt := nlt_i (a := p1.toInt) (b := 5) rfl rfl c10
      have k41 : 5 ≤ p1.toInt ∧ p1.toInt ≤ 2147483647 := ⟨Int.le_trans (Int.le_refl _) dc10, k9.2⟩
      refine lv_aload_n hx hb dX6_takeInto_10 rfl (lv_at hl 0 rfl) ?_
      refine lv_iconst (v := 4) hx hb dX6_takeInto_11 (by decide) ?_
      refine call_Vi (wr := [(h_bytes, .inl (cB, 940, .inl f_bytes)), (h_wordNames, .inl (cJ, 23, .inr (.inl f_wordNames))), (p0, .inl (cI, 5, .inl f_p0))]) (As := [.int 4]) (rest := []) hx hb hml hown hw (m_X6_fail l D cI cJ cB cP cM cZ h0 Fh x_place 4 _ e_place) wV_X6_80_X6_fail dX6_takeInto_12 hK hP hD hS hA [0] [1, 2, 3] rfl rfl (by decide) (by decide) (by decide) 0 6 rfl rfl GG.fb hG.at hl.1 rfl (Nat.le_of_ble_eq_true rfl) ⟨(Nat.le_of_ble_eq_true rfl), (Nat.le_of_ble_eq_true rfl)⟩ ⟨(Nat.le_of_ble_eq_true rfl), (Nat.le_of_ble_eq_true rfl)⟩ (fun r42 u H locs hp hP hD hS => ?_)
      have zl4 : (4 : Int32).toInt = 4 := by decide
      obtain ⟨F43, t44, t45, t46, rfl, rfl⟩ := hp
      have hP : va_P D vwCl [(h_bytes, .inl (cB, 940, .inl f_bytes)), (h_wordNames, .inl (cJ, 23, .inr (.inl f_wordNames))), (p0, .inl (cI, 5, .inl f_p0)), (h0, .inr (6, vL 12 F43))] H := hP
      have hD : va_D A [(h_bytes, .inl (cB, 940, .inl f_bytes)), (h_wordNames, .inl (cJ, 23, .inr (.inl f_wordNames))), (p0, .inl (cI, 5, .inl f_p0)), (h0, .inr (6, vL 12 F43))] := hD
      refine W.widen (k := 0) (n := 0) (Nat.le_of_ble_eq_true rfl) (Nat.le_of_ble_eq_true rfl) ?_
      exact ret_i (v := 0) hx hb hr hlocks hS (hP.sub (ws' := [(h0, .inr (6, vL 12 F43)), (h_bytes, .inl (cB, 940, .inl f_bytes)), (h_wordNames, .inl (cJ, 23, .inr (.inl f_wordNames))), (p0, .inl (cI, 5, .inl f_p0))]) [3, 0, 1, 2] rfl) (hD.sub (ws' := [(h0, .inr (6, vL 12 F43)), (h_bytes, .inl (cB, 940, .inl f_bytes)), (h_wordNames, .inl (cJ, 23, .inr (.inl f_wordNames))), (p0, .inl (cI, 5, .inl f_p0))]) [3, 0, 1, 2] (by decide) rfl) dX6_takeInto_15 rfl (Nat.le_of_ble_eq_true rfl) (Nat.le_of_ble_eq_true rfl) (Or.inl ⟨F43, 4, (SAME.tr SAME.rf t44 (by decide)), t45, (show 1 ≤ (4 : Int32).toInt ∧ (4 : Int32).toInt ≤ 4 by decide), t46, rfl, rfl⟩)
set_option maxHeartbeats 4000000 in
set_option maxRecDepth 100000 in
theorem m_X1_readSetting (l : Launch) (D : va_G) (cI cJ cB cP cM cZ : ClassId) (z0 tU tL tM : Nat) (h0 : Nat) (h_settings : Nat) (p0 : Nat) (h_p0_bytes : Nat) (h_p0_wordNames : Nat) (Fh : Nat → Value) (x_settingsTold : Int32) (f_settings : Nat → Int32) (F_p0_ : Nat → Value) (x_p0_length : Int32) (x_p0_kind : Int32) (x_p0_place : Int32) (x_p0_value : Int32) (x_p0_name : Int64) (x_p0_faultKind : Int32) (x_p0_faultPlace : Int32) (x_p0_at : Int32) (x_p0_mostBytes : Int32) (f_p0_bytes : Nat → Int32) (f_p0_wordNames : Nat → Int64) (p1 : Int32) (sz : Nat) (e_settings : Fh 1 = .ref h_settings) (e_settingsTold : Fh 17 = .int x_settingsTold) (s_settings_0 : SG 0 0 5 40 f_settings) (e_p0_bytes : F_p0_ 0 = .ref h_p0_bytes) (e_p0_length : F_p0_ 1 = .int x_p0_length) (i_x_p0_length : IR 0 940 x_p0_length) (e_p0_kind : F_p0_ 2 = .int x_p0_kind) (e_p0_place : F_p0_ 3 = .int x_p0_place) (e_p0_value : F_p0_ 4 = .int x_p0_value) (e_p0_name : F_p0_ 5 = .long x_p0_name) (e_p0_faultKind : F_p0_ 7 = .int x_p0_faultKind) (e_p0_faultPlace : F_p0_ 8 = .int x_p0_faultPlace) (e_p0_wordNames : F_p0_ 9 = .ref h_p0_wordNames) (e_p0_at : F_p0_ 10 = .int x_p0_at) (i_x_p0_at : IR 0 940 x_p0_at) (e_p0_mostBytes : F_p0_ 11 = .int x_p0_mostBytes) (i_p1 : IR 0 4 p1) : CI l yX1_readSetting cX1_readSetting 3 (some .boolean) { frames := 3, cells := 0, slots := 0, locals := 67 } (GY D cI cJ cB cP cM cZ z0 tU tL tM [(h0, .inr (1, vL 18 Fh)), (h_settings, .inl (cI, 5, .inl f_settings)), (p0, .inr (6, vL 12 F_p0_)), (h_p0_bytes, .inl (cB, 940, .inl f_p0_bytes)), (h_p0_wordNames, .inl (cJ, 23, .inr (.inl f_p0_wordNames)))]) D [(h0, .inr (1, vL 18 Fh)), (h_settings, .inl (cI, 5, .inl f_settings)), (p0, .inr (6, vL 12 F_p0_)), (h_p0_bytes, .inl (cB, 940, .inl f_p0_bytes)), (h_p0_wordNames, .inl (cJ, 23, .inr (.inl f_p0_wordNames)))] sz [.ref h0, .ref p0, .int p1] (fun (r : Int32) (u : va_W) => ∃ (Gh : Nat → Value) (y_settingsTold : Int32) (G_p0_ : Nat → Value) (y_p0_kind : Int32) (y_p0_place : Int32) (y_p0_value : Int32) (y_p0_name : Int64) (y_p0_faultKind : Int32) (y_p0_faultPlace : Int32) (y_p0_at : Int32) (g_settings : Nat → Int32), SAME [17] Fh Gh ∧ Gh 17 = .int y_settingsTold ∧ SAME [2, 3, 4, 5, 7, 8, 10] F_p0_ G_p0_ ∧ G_p0_ 2 = .int y_p0_kind ∧ G_p0_ 3 = .int y_p0_place ∧ G_p0_ 4 = .int y_p0_value ∧ G_p0_ 5 = .long y_p0_name ∧ G_p0_ 7 = .int y_p0_faultKind ∧ G_p0_ 8 = .int y_p0_faultPlace ∧ G_p0_ 10 = .int y_p0_at ∧ IR 0 940 y_p0_at ∧ SG 0 0 5 40 g_settings ∧ IR 0 1 r ∧ u = [(h0, .inr (1, vL 18 Gh)), (h_settings, .inl (cI, 5, .inl g_settings)), (p0, .inr (6, vL 12 G_p0_)), (h_p0_bytes, .inl (cB, 940, .inl f_p0_bytes)), (h_p0_wordNames, .inl (cJ, 23, .inr (.inl f_p0_wordNames)))]) := by
  refine CI_mk (by decide) (Nat.le_of_ble_eq_true rfl) ?_
  intro p e s m below meth c A ls E hAe hG hsz hP hD hA hS hl
  obtain ⟨hx, hb, hr, hw, hown, hlocks, hml, hnm⟩ := E
  have hK := hG.1.1
  have hAz := hG.hAz hAe hsz
  have hST := hG.st hAz
  have i_x_p0_length : 0 ≤ x_p0_length.toInt ∧ x_p0_length.toInt ≤ 940 := i_x_p0_length
  have i_x_p0_at : 0 ≤ x_p0_at.toInt ∧ x_p0_at.toInt ≤ 940 := i_x_p0_at
  have i_p1 : 0 ≤ p1.toInt ∧ p1.toInt ≤ 4 := i_p1
  have hl : lv_has ls 3 [(0, .ref h0), (1, .ref p0), (2, .int p1)] := hl
  by_cases k1 : p1 = 0
  · have dk1 : p1.toInt = 0 := eq_i rfl rfl k1
    have k2 : 0 ≤ p1.toInt ∧ p1.toInt ≤ 0 := ⟨i_p1.1, Int.le_trans (Int.le_of_eq dk1) (Int.le_refl _)⟩
    have hl : lv_has ls 3 [(0, .ref h0), (1, .ref p0), (2, .int 0)] := by have q := hl; rw [k1] at q; exact q
    refine lv_aload_n hx hb dX1_readSetting_0 rfl (lv_at hl 0 rfl) ?_
    refine get_f (D := D) (ci := 1) (v := .int x_settingsTold) (C := RX1) (T := TX1) (N := 18) hx hb hw inAX1 hown hK hP 0 rfl rfl 17 (by decide) (hw _ q_364) (fun _ h9 => h9) e_settingsTold dX1_readSetting_1 ?_
    refine lv_iload_n hx hb dX1_readSetting_4 rfl (lv_at hl 2 rfl) ?_
    refine lv_ishr hx hb dX1_readSetting_5 ?_
    refine lv_topi (fun v3 ev3 => ?_)
    refine lv_iconst (v := 1) hx hb dX1_readSetting_6 (by decide) ?_
    refine lv_iand hx hb dX1_readSetting_7 ?_
    refine lv_topi (fun v4 ev4 => ?_)
    have k5 : 0 ≤ v4.toInt ∧ v4.toInt ≤ 1 := by rw [ev4]; exact and_i v3 1 (by decide)
    refine lv_if_eq (tgt := 17) hx hb dX1_readSetting_8 (by decide) (fun c6 => ?_) (fun c6 => ?_)
    · have dc6 : v4.toInt = 0 := eq_i (a := v4.toInt) (b := 0) rfl rfl c6
      have k7 : 0 ≤ v4.toInt ∧ v4.toInt ≤ 0 := ⟨k5.1, Int.le_trans (Int.le_of_eq dc6) (Int.le_refl _)⟩
      refine lv_aload_n hx hb dX1_readSetting_17 rfl (lv_at hl 0 rfl) ?_
      refine lv_dup hx hb dX1_readSetting_18 rfl ?_
      refine get_f (D := D) (ci := 1) (v := .int x_settingsTold) (C := RX1) (T := TX1) (N := 18) hx hb hw inAX1 hown hK hP 0 rfl rfl 17 (by decide) (hw _ q_364) (fun _ h9 => h9) e_settingsTold dX1_readSetting_19 ?_
      refine lv_iconst (v := 1) hx hb dX1_readSetting_22 (by decide) ?_
      refine lv_iload_n hx hb dX1_readSetting_23 rfl (lv_at hl 2 rfl) ?_
      refine lv_ishl hx hb dX1_readSetting_24 ?_
      refine lv_ci (y := 1) (by decide +kernel) ?_
      refine lv_ior hx hb dX1_readSetting_25 ?_
      refine lv_topi (fun v8 ev8 => ?_)
      refine put_f (D := D) (ci := 1) (v := .int v8) (ty := .int) (C := RX1) (T := TX1) (N := 18) hx hb hw inAX1 tyX1 tyX1_ok nmX1 hown hK hP hD hS 0 rfl rfl 17 (by decide) (hw _ q_364) (fun _ h9 => h9) rfl (by decide +kernel) rfl rfl dX1_readSetting_26 (fun H locs F9 eF9 hP hD hS => ?_)
      have hP : va_P D vwCl [(h0, .inr (1, vL 18 F9)), (h_settings, .inl (cI, 5, .inl f_settings)), (p0, .inr (6, vL 12 F_p0_)), (h_p0_bytes, .inl (cB, 940, .inl f_p0_bytes)), (h_p0_wordNames, .inl (cJ, 23, .inr (.inl f_p0_wordNames)))] H := hP
      have hD : va_D A [(h0, .inr (1, vL 18 F9)), (h_settings, .inl (cI, 5, .inl f_settings)), (p0, .inr (6, vL 12 F_p0_)), (h_p0_bytes, .inl (cB, 940, .inl f_p0_bytes)), (h_p0_wordNames, .inl (cJ, 23, .inr (.inl f_p0_wordNames)))] := hD
      refine lv_aload_n hx hb dX1_readSetting_29 rfl (lv_at hl 1 rfl) ?_
      refine call_Vv (wr := [(h0, .inr (1, vL 18 F9)), (h_settings, .inl (cI, 5, .inl f_settings))]) (As := []) (rest := []) hx hb hml hown hw (m_X6_advance l D cI cJ cB cP cM cZ p0 h_p0_bytes h_p0_wordNames F_p0_ x_p0_length x_p0_value x_p0_name x_p0_at x_p0_mostBytes f_p0_bytes f_p0_wordNames _ e_p0_bytes e_p0_length i_x_p0_length e_p0_value e_p0_name e_p0_wordNames e_p0_at i_x_p0_at e_p0_mostBytes) wV_X1_131_X6_advance dX1_readSetting_30 hK hP hD hS hA [2, 3, 4] [0, 1] rfl rfl (by decide) (by decide) (by decide) 0 6 rfl rfl GG.fb hG.1.at hl.1 rfl (Nat.le_of_ble_eq_true rfl) ⟨(Nat.le_of_ble_eq_true rfl), (Nat.le_of_ble_eq_true rfl)⟩ ⟨(Nat.le_of_ble_eq_true rfl), (Nat.le_of_ble_eq_true rfl)⟩ (fun u H locs hp hP hD hS => ?_)
      obtain ⟨F11, y12, y13, y14, y15, y16, t17, t18, t19, t20, t21, t22, t23, t24, rfl⟩ := hp
      have hP : va_P D vwCl [(h0, .inr (1, vL 18 F9)), (h_settings, .inl (cI, 5, .inl f_settings)), (p0, .inr (6, vL 12 F11)), (h_p0_bytes, .inl (cB, 940, .inl f_p0_bytes)), (h_p0_wordNames, .inl (cJ, 23, .inr (.inl f_p0_wordNames)))] H := hP
      have hD : va_D A [(h0, .inr (1, vL 18 F9)), (h_settings, .inl (cI, 5, .inl f_settings)), (p0, .inr (6, vL 12 F11)), (h_p0_bytes, .inl (cB, 940, .inl f_p0_bytes)), (h_p0_wordNames, .inl (cJ, 23, .inr (.inl f_p0_wordNames)))] := hD
      refine W.widen (k := 0) (n := 0) (Nat.le_of_ble_eq_true rfl) (Nat.le_of_ble_eq_true rfl) ?_
      refine lv_aload_n hx hb dX1_readSetting_33 rfl (lv_at hl 1 rfl) ?_
      refine lv_aload_n hx hb dX1_readSetting_34 rfl (lv_at hl 0 rfl) ?_
      have n26 : F9 1 = .ref h_settings := (get_ne eF9 (by decide) e_settings)
      refine get_f (D := D) (ci := 1) (v := .ref h_settings) (C := RX1) (T := TX1) (N := 18) hx hb hw inAX1 hown hK hP 0 rfl rfl 1 (by decide) (hw _ q_315) (fun _ h9 => h9) n26 dX1_readSetting_35 ?_
      refine lv_iload_n hx hb dX1_readSetting_38 rfl (lv_at hl 2 rfl) ?_
      refine va_getsN hx hb hST.2.2.1 hS hown (va_Nw.use rfl (hG.1.2.1 (.fieldLinkNest "FourSledge$Course" 134 "FourSledge" "SETTING_LEAST" "[I" "FourSledge") (by decide +kernel))) (fun _ h9 => h9) dX1_readSetting_39 ?_
      refine lv_iload_n hx hb dX1_readSetting_42 rfl (lv_at hl 2 rfl) ?_
      refine va_ti (v := .int (lF 0)) hx hb hST.2.2.2.1 hS (vp_in_nI (n := 0) (N := 5) (Nat.le_of_ble_eq_true rfl) (Nat.le_of_ble_eq_true rfl)) rfl dX1_readSetting_43 ?_
      refine lv_ci (y := 5) (by decide +kernel) ?_
      refine va_getsN hx hb hST.2.2.2.2.1 hS hown (va_Nw.use rfl (hG.1.2.1 (.fieldLinkNest "FourSledge$Course" 137 "FourSledge" "SETTING_MOST" "[I" "FourSledge") (by decide +kernel))) (fun _ h9 => h9) dX1_readSetting_44 ?_
      refine lv_iload_n hx hb dX1_readSetting_47 rfl (lv_at hl 2 rfl) ?_
      refine va_ti (v := .int (mF 0)) hx hb hST.2.2.2.2.2 hS (vp_in_nI (n := 0) (N := 5) (Nat.le_of_ble_eq_true rfl) (Nat.le_of_ble_eq_true rfl)) rfl dX1_readSetting_48 ?_
      refine lv_ci (y := 40) (by decide +kernel) ?_
      have n27 : F11 0 = .ref h_p0_bytes := (SAME.at t17 (by decide) e_p0_bytes)
      have n28 : F11 1 = .int x_p0_length := (SAME.at t17 (by decide) e_p0_length)
      have n29 : F11 9 = .ref h_p0_wordNames := (SAME.at t17 (by decide) e_p0_wordNames)
      have n30 : F11 11 = .int x_p0_mostBytes := (SAME.at t17 (by decide) e_p0_mostBytes)
      refine call_Vi (wr := [(h0, .inr (1, vL 18 F9))]) (As := [.ref h_settings, .int 0, .int 5, .int 40]) (rest := []) hx hb hml hown hw (m_X6_takeInto_5 l D cI cJ cB cP cM cZ p0 h_p0_bytes h_p0_wordNames h_settings F11 x_p0_length y12 y13 y14 y15 y16 x_p0_mostBytes f_p0_bytes f_p0_wordNames f_settings 0 5 40 _ n27 n28 i_x_p0_length t18 t19 t21 t22 n29 t23 t24 n30) wV_X1_140_X6_takeInto dX1_readSetting_49 hK hP hD hS hA [2, 3, 4, 1] [0] rfl rfl (by decide) (by decide) (by decide) 0 6 rfl rfl GG.fb hG.1.at hl.1 rfl (Nat.le_of_ble_eq_true rfl) ⟨(Nat.le_of_ble_eq_true rfl), (Nat.le_of_ble_eq_true rfl)⟩ ⟨(Nat.le_of_ble_eq_true rfl), (Nat.le_of_ble_eq_true rfl)⟩ (fun r31 u H locs hp hP hD hS => ?_)
      have zl0 : (0 : Int32).toInt = 0 := by decide
      have zl5 : (5 : Int32).toInt = 5 := by decide
      have zl40 : (40 : Int32).toInt = 40 := by decide
      rcases hp with ⟨F32, y33, t34, t35, t36, t37, rfl, rfl⟩ | ⟨F38, y39, y40, y41, y42, y43, g44, t45, t46, t47, t48, t49, t50, t51, t52, t53, t54, t55, t56, t57, t58, rfl, rfl⟩
      · have hP : va_P D vwCl [(h0, .inr (1, vL 18 F9)), (p0, .inr (6, vL 12 F32)), (h_p0_bytes, .inl (cB, 940, .inl f_p0_bytes)), (h_p0_wordNames, .inl (cJ, 23, .inr (.inl f_p0_wordNames))), (h_settings, .inl (cI, 5, .inl f_settings))] H := hP
        have hD : va_D A [(h0, .inr (1, vL 18 F9)), (p0, .inr (6, vL 12 F32)), (h_p0_bytes, .inl (cB, 940, .inl f_p0_bytes)), (h_p0_wordNames, .inl (cJ, 23, .inr (.inl f_p0_wordNames))), (h_settings, .inl (cI, 5, .inl f_settings))] := hD
        refine W.widen (k := 0) (n := 0) (Nat.le_of_ble_eq_true rfl) (Nat.le_of_ble_eq_true rfl) ?_
        exact ret_i (v := 0) hx hb hr hlocks hS (hP.sub (ws' := [(h0, .inr (1, vL 18 F9)), (h_settings, .inl (cI, 5, .inl f_settings)), (p0, .inr (6, vL 12 F32)), (h_p0_bytes, .inl (cB, 940, .inl f_p0_bytes)), (h_p0_wordNames, .inl (cJ, 23, .inr (.inl f_p0_wordNames)))]) [0, 4, 1, 2, 3] rfl) (hD.sub (ws' := [(h0, .inr (1, vL 18 F9)), (h_settings, .inl (cI, 5, .inl f_settings)), (p0, .inr (6, vL 12 F32)), (h_p0_bytes, .inl (cB, 940, .inl f_p0_bytes)), (h_p0_wordNames, .inl (cJ, 23, .inr (.inl f_p0_wordNames)))]) [0, 4, 1, 2, 3] (by decide) rfl) dX1_readSetting_52 rfl (Nat.le_of_ble_eq_true rfl) (Nat.le_of_ble_eq_true rfl) ⟨F9, v8, F32, y12, y13, y14, y15, y33, y13, y16, f_settings, (SAME.up eF9 SAME.rf (by decide)), (get_eq eF9), (SAME.tr (SAME.tr SAME.rf t17 (by decide)) t34 (by decide)), (SAME.at t34 (by decide) t18), (SAME.at t34 (by decide) t19), (SAME.at t34 (by decide) t21), (SAME.at t34 (by decide) t22), t35, t37, (SAME.at t34 (by decide) t23), t24, s_settings_0, (show 0 ≤ (0 : Int32).toInt ∧ (0 : Int32).toInt ≤ 1 by decide), rfl⟩
      · have hP : va_P D vwCl [(h0, .inr (1, vL 18 F9)), (p0, .inr (6, vL 12 F38)), (h_p0_bytes, .inl (cB, 940, .inl f_p0_bytes)), (h_p0_wordNames, .inl (cJ, 23, .inr (.inl f_p0_wordNames))), (h_settings, .inl (cI, 5, .inl g44))] H := hP
        have hD : va_D A [(h0, .inr (1, vL 18 F9)), (p0, .inr (6, vL 12 F38)), (h_p0_bytes, .inl (cB, 940, .inl f_p0_bytes)), (h_p0_wordNames, .inl (cJ, 23, .inr (.inl f_p0_wordNames))), (h_settings, .inl (cI, 5, .inl g44))] := hD
        refine W.widen (k := 0) (n := 0) (Nat.le_of_ble_eq_true rfl) (Nat.le_of_ble_eq_true rfl) ?_
        have k60 : 3 ≤ y12.toInt ∧ y12.toInt ≤ 3 := ⟨Int.le_trans (Int.le_refl _) (Int.le_of_eq t55.symm), Int.le_trans (Int.le_of_eq t55) (Int.le_refl _)⟩
        have k61 : 5 ≤ y14.toInt ∧ y14.toInt ≤ 2147483647 := ⟨Int.le_trans (Int.le_refl _) t56, (ir_any _).2⟩
        have k62 : 5 ≤ y14.toInt ∧ y14.toInt ≤ 40 := ⟨k61.1, Int.le_trans t57 (Int.le_refl _)⟩
        have r63 : SG 0 0 5 40 g44 := by rw [← t58]; exact s_settings_0.up (by decide) (Or.inr (Or.inr k62))
        exact ret_i (v := 1) hx hb hr hlocks hS (hP.sub (ws' := [(h0, .inr (1, vL 18 F9)), (h_settings, .inl (cI, 5, .inl g44)), (p0, .inr (6, vL 12 F38)), (h_p0_bytes, .inl (cB, 940, .inl f_p0_bytes)), (h_p0_wordNames, .inl (cJ, 23, .inr (.inl f_p0_wordNames)))]) [0, 4, 1, 2, 3] rfl) (hD.sub (ws' := [(h0, .inr (1, vL 18 F9)), (h_settings, .inl (cI, 5, .inl g44)), (p0, .inr (6, vL 12 F38)), (h_p0_bytes, .inl (cB, 940, .inl f_p0_bytes)), (h_p0_wordNames, .inl (cJ, 23, .inr (.inl f_p0_wordNames)))]) [0, 4, 1, 2, 3] (by decide) rfl) dX1_readSetting_52 rfl (Nat.le_of_ble_eq_true rfl) (Nat.le_of_ble_eq_true rfl) ⟨F9, v8, F38, y39, y40, y41, y42, x_p0_faultKind, x_p0_faultPlace, y43, g44, (SAME.up eF9 SAME.rf (by decide)), (get_eq eF9), (SAME.tr (SAME.tr SAME.rf t17 (by decide)) t45 (by decide)), t46, t47, t49, t50, (SAME.at t45 (by decide) (SAME.at t17 (by decide) e_p0_faultKind)), (SAME.at t45 (by decide) (SAME.at t17 (by decide) e_p0_faultPlace)), t51, t52, r63, (show 0 ≤ (1 : Int32).toInt ∧ (1 : Int32).toInt ≤ 1 by decide), rfl⟩
    · have dc6 : v4.toInt ≠ 0 := ne_i (a := v4.toInt) (b := 0) rfl rfl c6
      have k64 : 1 ≤ v4.toInt ∧ v4.toInt ≤ 1 := ⟨ne_lo dc6 k5.1 ⟨Int.le_refl _, Int.le_refl _⟩ (by decide), k5.2⟩
      refine lv_aload_n hx hb dX1_readSetting_11 rfl (lv_at hl 1 rfl) ?_
      refine lv_iconst (v := 3) hx hb dX1_readSetting_12 (by decide) ?_
      refine call_Vi (wr := [(h0, .inr (1, vL 18 Fh)), (h_settings, .inl (cI, 5, .inl f_settings)), (h_p0_bytes, .inl (cB, 940, .inl f_p0_bytes)), (h_p0_wordNames, .inl (cJ, 23, .inr (.inl f_p0_wordNames)))]) (As := [.int 3]) (rest := []) hx hb hml hown hw (m_X6_fail l D cI cJ cB cP cM cZ p0 F_p0_ x_p0_place 3 _ e_p0_place) wV_X1_128_X6_fail dX1_readSetting_13 hK hP hD hS hA [2] [0, 1, 3, 4] rfl rfl (by decide) (by decide) (by decide) 0 6 rfl rfl GG.fb hG.1.at hl.1 rfl (Nat.le_of_ble_eq_true rfl) ⟨(Nat.le_of_ble_eq_true rfl), (Nat.le_of_ble_eq_true rfl)⟩ ⟨(Nat.le_of_ble_eq_true rfl), (Nat.le_of_ble_eq_true rfl)⟩ (fun r65 u H locs hp hP hD hS => ?_)
      have zl3 : (3 : Int32).toInt = 3 := by decide
      obtain ⟨F66, t67, t68, t69, rfl, rfl⟩ := hp
      have hP : va_P D vwCl [(h0, .inr (1, vL 18 Fh)), (h_settings, .inl (cI, 5, .inl f_settings)), (h_p0_bytes, .inl (cB, 940, .inl f_p0_bytes)), (h_p0_wordNames, .inl (cJ, 23, .inr (.inl f_p0_wordNames))), (p0, .inr (6, vL 12 F66))] H := hP
      have hD : va_D A [(h0, .inr (1, vL 18 Fh)), (h_settings, .inl (cI, 5, .inl f_settings)), (h_p0_bytes, .inl (cB, 940, .inl f_p0_bytes)), (h_p0_wordNames, .inl (cJ, 23, .inr (.inl f_p0_wordNames))), (p0, .inr (6, vL 12 F66))] := hD
      refine W.widen (k := 0) (n := 0) (Nat.le_of_ble_eq_true rfl) (Nat.le_of_ble_eq_true rfl) ?_
      exact ret_i (v := 0) hx hb hr hlocks hS (hP.sub (ws' := [(h0, .inr (1, vL 18 Fh)), (h_settings, .inl (cI, 5, .inl f_settings)), (p0, .inr (6, vL 12 F66)), (h_p0_bytes, .inl (cB, 940, .inl f_p0_bytes)), (h_p0_wordNames, .inl (cJ, 23, .inr (.inl f_p0_wordNames)))]) [0, 1, 4, 2, 3] rfl) (hD.sub (ws' := [(h0, .inr (1, vL 18 Fh)), (h_settings, .inl (cI, 5, .inl f_settings)), (p0, .inr (6, vL 12 F66)), (h_p0_bytes, .inl (cB, 940, .inl f_p0_bytes)), (h_p0_wordNames, .inl (cJ, 23, .inr (.inl f_p0_wordNames)))]) [0, 1, 4, 2, 3] (by decide) rfl) dX1_readSetting_16 rfl (Nat.le_of_ble_eq_true rfl) (Nat.le_of_ble_eq_true rfl) ⟨Fh, x_settingsTold, F66, x_p0_kind, x_p0_place, x_p0_value, x_p0_name, 3, x_p0_place, x_p0_at, f_settings, SAME.rf, e_settingsTold, (SAME.tr SAME.rf t67 (by decide)), (SAME.at t67 (by decide) e_p0_kind), (SAME.at t67 (by decide) e_p0_place), (SAME.at t67 (by decide) e_p0_value), (SAME.at t67 (by decide) e_p0_name), t68, t69, (SAME.at t67 (by decide) e_p0_at), i_x_p0_at, s_settings_0, (show 0 ≤ (0 : Int32).toInt ∧ (0 : Int32).toInt ≤ 1 by decide), rfl⟩
  have dk1 : p1.toInt ≠ 0 := ne_i rfl rfl k1
  have k71 : 1 ≤ p1.toInt ∧ p1.toInt ≤ 4 := ⟨ne_lo dk1 i_p1.1 ⟨Int.le_refl _, Int.le_refl _⟩ (by decide), i_p1.2⟩
  by_cases k72 : p1 = 1
  · have dk72 : p1.toInt = 1 := eq_i rfl rfl k72
    have k73 : 1 ≤ p1.toInt ∧ p1.toInt ≤ 1 := ⟨k71.1, Int.le_trans (Int.le_of_eq dk72) (Int.le_refl _)⟩
    have hl : lv_has ls 3 [(0, .ref h0), (1, .ref p0), (2, .int 1)] := by have q := hl; rw [k72] at q; exact q
    refine lv_aload_n hx hb dX1_readSetting_0 rfl (lv_at hl 0 rfl) ?_
    refine get_f (D := D) (ci := 1) (v := .int x_settingsTold) (C := RX1) (T := TX1) (N := 18) hx hb hw inAX1 hown hK hP 0 rfl rfl 17 (by decide) (hw _ q_364) (fun _ h9 => h9) e_settingsTold dX1_readSetting_1 ?_
    refine lv_iload_n hx hb dX1_readSetting_4 rfl (lv_at hl 2 rfl) ?_
    refine lv_ishr hx hb dX1_readSetting_5 ?_
    refine lv_topi (fun v74 ev74 => ?_)
    refine lv_iconst (v := 1) hx hb dX1_readSetting_6 (by decide) ?_
    refine lv_iand hx hb dX1_readSetting_7 ?_
    refine lv_topi (fun v75 ev75 => ?_)
    have k76 : 0 ≤ v75.toInt ∧ v75.toInt ≤ 1 := by rw [ev75]; exact and_i v74 1 (by decide)
    refine lv_if_eq (tgt := 17) hx hb dX1_readSetting_8 (by decide) (fun c77 => ?_) (fun c77 => ?_)
    · have dc77 : v75.toInt = 0 := eq_i (a := v75.toInt) (b := 0) rfl rfl c77
      have k78 : 0 ≤ v75.toInt ∧ v75.toInt ≤ 0 := ⟨k76.1, Int.le_trans (Int.le_of_eq dc77) (Int.le_refl _)⟩
      refine lv_aload_n hx hb dX1_readSetting_17 rfl (lv_at hl 0 rfl) ?_
      refine lv_dup hx hb dX1_readSetting_18 rfl ?_
      refine get_f (D := D) (ci := 1) (v := .int x_settingsTold) (C := RX1) (T := TX1) (N := 18) hx hb hw inAX1 hown hK hP 0 rfl rfl 17 (by decide) (hw _ q_364) (fun _ h9 => h9) e_settingsTold dX1_readSetting_19 ?_
      refine lv_iconst (v := 1) hx hb dX1_readSetting_22 (by decide) ?_
      refine lv_iload_n hx hb dX1_readSetting_23 rfl (lv_at hl 2 rfl) ?_
      refine lv_ishl hx hb dX1_readSetting_24 ?_
      refine lv_ci (y := 2) (by decide +kernel) ?_
      refine lv_ior hx hb dX1_readSetting_25 ?_
      refine lv_topi (fun v79 ev79 => ?_)
      refine put_f (D := D) (ci := 1) (v := .int v79) (ty := .int) (C := RX1) (T := TX1) (N := 18) hx hb hw inAX1 tyX1 tyX1_ok nmX1 hown hK hP hD hS 0 rfl rfl 17 (by decide) (hw _ q_364) (fun _ h9 => h9) rfl (by decide +kernel) rfl rfl dX1_readSetting_26 (fun H locs F80 eF80 hP hD hS => ?_)
      have hP : va_P D vwCl [(h0, .inr (1, vL 18 F80)), (h_settings, .inl (cI, 5, .inl f_settings)), (p0, .inr (6, vL 12 F_p0_)), (h_p0_bytes, .inl (cB, 940, .inl f_p0_bytes)), (h_p0_wordNames, .inl (cJ, 23, .inr (.inl f_p0_wordNames)))] H := hP
      have hD : va_D A [(h0, .inr (1, vL 18 F80)), (h_settings, .inl (cI, 5, .inl f_settings)), (p0, .inr (6, vL 12 F_p0_)), (h_p0_bytes, .inl (cB, 940, .inl f_p0_bytes)), (h_p0_wordNames, .inl (cJ, 23, .inr (.inl f_p0_wordNames)))] := hD
      refine lv_aload_n hx hb dX1_readSetting_29 rfl (lv_at hl 1 rfl) ?_
      refine call_Vv (wr := [(h0, .inr (1, vL 18 F80)), (h_settings, .inl (cI, 5, .inl f_settings))]) (As := []) (rest := []) hx hb hml hown hw (m_X6_advance l D cI cJ cB cP cM cZ p0 h_p0_bytes h_p0_wordNames F_p0_ x_p0_length x_p0_value x_p0_name x_p0_at x_p0_mostBytes f_p0_bytes f_p0_wordNames _ e_p0_bytes e_p0_length i_x_p0_length e_p0_value e_p0_name e_p0_wordNames e_p0_at i_x_p0_at e_p0_mostBytes) wV_X1_131_X6_advance dX1_readSetting_30 hK hP hD hS hA [2, 3, 4] [0, 1] rfl rfl (by decide) (by decide) (by decide) 0 6 rfl rfl GG.fb hG.1.at hl.1 rfl (Nat.le_of_ble_eq_true rfl) ⟨(Nat.le_of_ble_eq_true rfl), (Nat.le_of_ble_eq_true rfl)⟩ ⟨(Nat.le_of_ble_eq_true rfl), (Nat.le_of_ble_eq_true rfl)⟩ (fun u H locs hp hP hD hS => ?_)
      obtain ⟨F82, y83, y84, y85, y86, y87, t88, t89, t90, t91, t92, t93, t94, t95, rfl⟩ := hp
      have hP : va_P D vwCl [(h0, .inr (1, vL 18 F80)), (h_settings, .inl (cI, 5, .inl f_settings)), (p0, .inr (6, vL 12 F82)), (h_p0_bytes, .inl (cB, 940, .inl f_p0_bytes)), (h_p0_wordNames, .inl (cJ, 23, .inr (.inl f_p0_wordNames)))] H := hP
      have hD : va_D A [(h0, .inr (1, vL 18 F80)), (h_settings, .inl (cI, 5, .inl f_settings)), (p0, .inr (6, vL 12 F82)), (h_p0_bytes, .inl (cB, 940, .inl f_p0_bytes)), (h_p0_wordNames, .inl (cJ, 23, .inr (.inl f_p0_wordNames)))] := hD
      refine W.widen (k := 0) (n := 0) (Nat.le_of_ble_eq_true rfl) (Nat.le_of_ble_eq_true rfl) ?_
      refine lv_aload_n hx hb dX1_readSetting_33 rfl (lv_at hl 1 rfl) ?_
      refine lv_aload_n hx hb dX1_readSetting_34 rfl (lv_at hl 0 rfl) ?_
      have n97 : F80 1 = .ref h_settings := (get_ne eF80 (by decide) e_settings)
      refine get_f (D := D) (ci := 1) (v := .ref h_settings) (C := RX1) (T := TX1) (N := 18) hx hb hw inAX1 hown hK hP 0 rfl rfl 1 (by decide) (hw _ q_315) (fun _ h9 => h9) n97 dX1_readSetting_35 ?_
      refine lv_iload_n hx hb dX1_readSetting_38 rfl (lv_at hl 2 rfl) ?_
      refine va_getsN hx hb hST.2.2.1 hS hown (va_Nw.use rfl (hG.1.2.1 (.fieldLinkNest "FourSledge$Course" 134 "FourSledge" "SETTING_LEAST" "[I" "FourSledge") (by decide +kernel))) (fun _ h9 => h9) dX1_readSetting_39 ?_
      refine lv_iload_n hx hb dX1_readSetting_42 rfl (lv_at hl 2 rfl) ?_
      refine va_ti (v := .int (lF 1)) hx hb hST.2.2.2.1 hS (vp_in_nI (n := 1) (N := 5) (Nat.le_of_ble_eq_true rfl) (Nat.le_of_ble_eq_true rfl)) rfl dX1_readSetting_43 ?_
      refine lv_ci (y := 100) (by decide +kernel) ?_
      refine va_getsN hx hb hST.2.2.2.2.1 hS hown (va_Nw.use rfl (hG.1.2.1 (.fieldLinkNest "FourSledge$Course" 137 "FourSledge" "SETTING_MOST" "[I" "FourSledge") (by decide +kernel))) (fun _ h9 => h9) dX1_readSetting_44 ?_
      refine lv_iload_n hx hb dX1_readSetting_47 rfl (lv_at hl 2 rfl) ?_
      refine va_ti (v := .int (mF 1)) hx hb hST.2.2.2.2.2 hS (vp_in_nI (n := 1) (N := 5) (Nat.le_of_ble_eq_true rfl) (Nat.le_of_ble_eq_true rfl)) rfl dX1_readSetting_48 ?_
      refine lv_ci (y := 300) (by decide +kernel) ?_
      have n98 : F82 0 = .ref h_p0_bytes := (SAME.at t88 (by decide) e_p0_bytes)
      have n99 : F82 1 = .int x_p0_length := (SAME.at t88 (by decide) e_p0_length)
      have n100 : F82 9 = .ref h_p0_wordNames := (SAME.at t88 (by decide) e_p0_wordNames)
      have n101 : F82 11 = .int x_p0_mostBytes := (SAME.at t88 (by decide) e_p0_mostBytes)
      refine call_Vi (wr := [(h0, .inr (1, vL 18 F80))]) (As := [.ref h_settings, .int 1, .int 100, .int 300]) (rest := []) hx hb hml hown hw (m_X6_takeInto_5 l D cI cJ cB cP cM cZ p0 h_p0_bytes h_p0_wordNames h_settings F82 x_p0_length y83 y84 y85 y86 y87 x_p0_mostBytes f_p0_bytes f_p0_wordNames f_settings 1 100 300 _ n98 n99 i_x_p0_length t89 t90 t92 t93 n100 t94 t95 n101) wV_X1_140_X6_takeInto dX1_readSetting_49 hK hP hD hS hA [2, 3, 4, 1] [0] rfl rfl (by decide) (by decide) (by decide) 0 6 rfl rfl GG.fb hG.1.at hl.1 rfl (Nat.le_of_ble_eq_true rfl) ⟨(Nat.le_of_ble_eq_true rfl), (Nat.le_of_ble_eq_true rfl)⟩ ⟨(Nat.le_of_ble_eq_true rfl), (Nat.le_of_ble_eq_true rfl)⟩ (fun r102 u H locs hp hP hD hS => ?_)
      have zl1 : (1 : Int32).toInt = 1 := by decide
      have zl100 : (100 : Int32).toInt = 100 := by decide
      have zl300 : (300 : Int32).toInt = 300 := by decide
      rcases hp with ⟨F103, y104, t105, t106, t107, t108, rfl, rfl⟩ | ⟨F109, y110, y111, y112, y113, y114, g115, t116, t117, t118, t119, t120, t121, t122, t123, t124, t125, t126, t127, t128, t129, rfl, rfl⟩
      · have hP : va_P D vwCl [(h0, .inr (1, vL 18 F80)), (p0, .inr (6, vL 12 F103)), (h_p0_bytes, .inl (cB, 940, .inl f_p0_bytes)), (h_p0_wordNames, .inl (cJ, 23, .inr (.inl f_p0_wordNames))), (h_settings, .inl (cI, 5, .inl f_settings))] H := hP
        have hD : va_D A [(h0, .inr (1, vL 18 F80)), (p0, .inr (6, vL 12 F103)), (h_p0_bytes, .inl (cB, 940, .inl f_p0_bytes)), (h_p0_wordNames, .inl (cJ, 23, .inr (.inl f_p0_wordNames))), (h_settings, .inl (cI, 5, .inl f_settings))] := hD
        refine W.widen (k := 0) (n := 0) (Nat.le_of_ble_eq_true rfl) (Nat.le_of_ble_eq_true rfl) ?_
        exact ret_i (v := 0) hx hb hr hlocks hS (hP.sub (ws' := [(h0, .inr (1, vL 18 F80)), (h_settings, .inl (cI, 5, .inl f_settings)), (p0, .inr (6, vL 12 F103)), (h_p0_bytes, .inl (cB, 940, .inl f_p0_bytes)), (h_p0_wordNames, .inl (cJ, 23, .inr (.inl f_p0_wordNames)))]) [0, 4, 1, 2, 3] rfl) (hD.sub (ws' := [(h0, .inr (1, vL 18 F80)), (h_settings, .inl (cI, 5, .inl f_settings)), (p0, .inr (6, vL 12 F103)), (h_p0_bytes, .inl (cB, 940, .inl f_p0_bytes)), (h_p0_wordNames, .inl (cJ, 23, .inr (.inl f_p0_wordNames)))]) [0, 4, 1, 2, 3] (by decide) rfl) dX1_readSetting_52 rfl (Nat.le_of_ble_eq_true rfl) (Nat.le_of_ble_eq_true rfl) ⟨F80, v79, F103, y83, y84, y85, y86, y104, y84, y87, f_settings, (SAME.up eF80 SAME.rf (by decide)), (get_eq eF80), (SAME.tr (SAME.tr SAME.rf t88 (by decide)) t105 (by decide)), (SAME.at t105 (by decide) t89), (SAME.at t105 (by decide) t90), (SAME.at t105 (by decide) t92), (SAME.at t105 (by decide) t93), t106, t108, (SAME.at t105 (by decide) t94), t95, s_settings_0, (show 0 ≤ (0 : Int32).toInt ∧ (0 : Int32).toInt ≤ 1 by decide), rfl⟩
      · have hP : va_P D vwCl [(h0, .inr (1, vL 18 F80)), (p0, .inr (6, vL 12 F109)), (h_p0_bytes, .inl (cB, 940, .inl f_p0_bytes)), (h_p0_wordNames, .inl (cJ, 23, .inr (.inl f_p0_wordNames))), (h_settings, .inl (cI, 5, .inl g115))] H := hP
        have hD : va_D A [(h0, .inr (1, vL 18 F80)), (p0, .inr (6, vL 12 F109)), (h_p0_bytes, .inl (cB, 940, .inl f_p0_bytes)), (h_p0_wordNames, .inl (cJ, 23, .inr (.inl f_p0_wordNames))), (h_settings, .inl (cI, 5, .inl g115))] := hD
        refine W.widen (k := 0) (n := 0) (Nat.le_of_ble_eq_true rfl) (Nat.le_of_ble_eq_true rfl) ?_
        have k131 : 3 ≤ y83.toInt ∧ y83.toInt ≤ 3 := ⟨Int.le_trans (Int.le_refl _) (Int.le_of_eq t126.symm), Int.le_trans (Int.le_of_eq t126) (Int.le_refl _)⟩
        have k132 : 100 ≤ y85.toInt ∧ y85.toInt ≤ 2147483647 := ⟨Int.le_trans (Int.le_refl _) t127, (ir_any _).2⟩
        have k133 : 100 ≤ y85.toInt ∧ y85.toInt ≤ 300 := ⟨k132.1, Int.le_trans t128 (Int.le_refl _)⟩
        have r134 : SG 0 0 5 40 g115 := by rw [← t129]; exact s_settings_0.up (by decide) (Or.inr (Or.inl (by decide)))
        exact ret_i (v := 1) hx hb hr hlocks hS (hP.sub (ws' := [(h0, .inr (1, vL 18 F80)), (h_settings, .inl (cI, 5, .inl g115)), (p0, .inr (6, vL 12 F109)), (h_p0_bytes, .inl (cB, 940, .inl f_p0_bytes)), (h_p0_wordNames, .inl (cJ, 23, .inr (.inl f_p0_wordNames)))]) [0, 4, 1, 2, 3] rfl) (hD.sub (ws' := [(h0, .inr (1, vL 18 F80)), (h_settings, .inl (cI, 5, .inl g115)), (p0, .inr (6, vL 12 F109)), (h_p0_bytes, .inl (cB, 940, .inl f_p0_bytes)), (h_p0_wordNames, .inl (cJ, 23, .inr (.inl f_p0_wordNames)))]) [0, 4, 1, 2, 3] (by decide) rfl) dX1_readSetting_52 rfl (Nat.le_of_ble_eq_true rfl) (Nat.le_of_ble_eq_true rfl) ⟨F80, v79, F109, y110, y111, y112, y113, x_p0_faultKind, x_p0_faultPlace, y114, g115, (SAME.up eF80 SAME.rf (by decide)), (get_eq eF80), (SAME.tr (SAME.tr SAME.rf t88 (by decide)) t116 (by decide)), t117, t118, t120, t121, (SAME.at t116 (by decide) (SAME.at t88 (by decide) e_p0_faultKind)), (SAME.at t116 (by decide) (SAME.at t88 (by decide) e_p0_faultPlace)), t122, t123, r134, (show 0 ≤ (1 : Int32).toInt ∧ (1 : Int32).toInt ≤ 1 by decide), rfl⟩
    · have dc77 : v75.toInt ≠ 0 := ne_i (a := v75.toInt) (b := 0) rfl rfl c77
      have k135 : 1 ≤ v75.toInt ∧ v75.toInt ≤ 1 := ⟨ne_lo dc77 k76.1 ⟨Int.le_refl _, Int.le_refl _⟩ (by decide), k76.2⟩
      refine lv_aload_n hx hb dX1_readSetting_11 rfl (lv_at hl 1 rfl) ?_
      refine lv_iconst (v := 3) hx hb dX1_readSetting_12 (by decide) ?_
      refine call_Vi (wr := [(h0, .inr (1, vL 18 Fh)), (h_settings, .inl (cI, 5, .inl f_settings)), (h_p0_bytes, .inl (cB, 940, .inl f_p0_bytes)), (h_p0_wordNames, .inl (cJ, 23, .inr (.inl f_p0_wordNames)))]) (As := [.int 3]) (rest := []) hx hb hml hown hw (m_X6_fail l D cI cJ cB cP cM cZ p0 F_p0_ x_p0_place 3 _ e_p0_place) wV_X1_128_X6_fail dX1_readSetting_13 hK hP hD hS hA [2] [0, 1, 3, 4] rfl rfl (by decide) (by decide) (by decide) 0 6 rfl rfl GG.fb hG.1.at hl.1 rfl (Nat.le_of_ble_eq_true rfl) ⟨(Nat.le_of_ble_eq_true rfl), (Nat.le_of_ble_eq_true rfl)⟩ ⟨(Nat.le_of_ble_eq_true rfl), (Nat.le_of_ble_eq_true rfl)⟩ (fun r136 u H locs hp hP hD hS => ?_)
      have zl3 : (3 : Int32).toInt = 3 := by decide
      obtain ⟨F137, t138, t139, t140, rfl, rfl⟩ := hp
      have hP : va_P D vwCl [(h0, .inr (1, vL 18 Fh)), (h_settings, .inl (cI, 5, .inl f_settings)), (h_p0_bytes, .inl (cB, 940, .inl f_p0_bytes)), (h_p0_wordNames, .inl (cJ, 23, .inr (.inl f_p0_wordNames))), (p0, .inr (6, vL 12 F137))] H := hP
      have hD : va_D A [(h0, .inr (1, vL 18 Fh)), (h_settings, .inl (cI, 5, .inl f_settings)), (h_p0_bytes, .inl (cB, 940, .inl f_p0_bytes)), (h_p0_wordNames, .inl (cJ, 23, .inr (.inl f_p0_wordNames))), (p0, .inr (6, vL 12 F137))] := hD
      refine W.widen (k := 0) (n := 0) (Nat.le_of_ble_eq_true rfl) (Nat.le_of_ble_eq_true rfl) ?_
      exact ret_i (v := 0) hx hb hr hlocks hS (hP.sub (ws' := [(h0, .inr (1, vL 18 Fh)), (h_settings, .inl (cI, 5, .inl f_settings)), (p0, .inr (6, vL 12 F137)), (h_p0_bytes, .inl (cB, 940, .inl f_p0_bytes)), (h_p0_wordNames, .inl (cJ, 23, .inr (.inl f_p0_wordNames)))]) [0, 1, 4, 2, 3] rfl) (hD.sub (ws' := [(h0, .inr (1, vL 18 Fh)), (h_settings, .inl (cI, 5, .inl f_settings)), (p0, .inr (6, vL 12 F137)), (h_p0_bytes, .inl (cB, 940, .inl f_p0_bytes)), (h_p0_wordNames, .inl (cJ, 23, .inr (.inl f_p0_wordNames)))]) [0, 1, 4, 2, 3] (by decide) rfl) dX1_readSetting_16 rfl (Nat.le_of_ble_eq_true rfl) (Nat.le_of_ble_eq_true rfl) ⟨Fh, x_settingsTold, F137, x_p0_kind, x_p0_place, x_p0_value, x_p0_name, 3, x_p0_place, x_p0_at, f_settings, SAME.rf, e_settingsTold, (SAME.tr SAME.rf t138 (by decide)), (SAME.at t138 (by decide) e_p0_kind), (SAME.at t138 (by decide) e_p0_place), (SAME.at t138 (by decide) e_p0_value), (SAME.at t138 (by decide) e_p0_name), t139, t140, (SAME.at t138 (by decide) e_p0_at), i_x_p0_at, s_settings_0, (show 0 ≤ (0 : Int32).toInt ∧ (0 : Int32).toInt ≤ 1 by decide), rfl⟩
  have dk72 : p1.toInt ≠ 1 := ne_i rfl rfl k72
  have k142 : 2 ≤ p1.toInt ∧ p1.toInt ≤ 4 := ⟨ne_lo dk72 k71.1 ⟨Int.le_refl _, Int.le_refl _⟩ (by decide), k71.2⟩
  by_cases k143 : p1 = 2
  · have dk143 : p1.toInt = 2 := eq_i rfl rfl k143
    have k144 : 2 ≤ p1.toInt ∧ p1.toInt ≤ 2 := ⟨k142.1, Int.le_trans (Int.le_of_eq dk143) (Int.le_refl _)⟩
    have hl : lv_has ls 3 [(0, .ref h0), (1, .ref p0), (2, .int 2)] := by have q := hl; rw [k143] at q; exact q
    refine lv_aload_n hx hb dX1_readSetting_0 rfl (lv_at hl 0 rfl) ?_
    refine get_f (D := D) (ci := 1) (v := .int x_settingsTold) (C := RX1) (T := TX1) (N := 18) hx hb hw inAX1 hown hK hP 0 rfl rfl 17 (by decide) (hw _ q_364) (fun _ h9 => h9) e_settingsTold dX1_readSetting_1 ?_
    refine lv_iload_n hx hb dX1_readSetting_4 rfl (lv_at hl 2 rfl) ?_
    refine lv_ishr hx hb dX1_readSetting_5 ?_
    refine lv_topi (fun v145 ev145 => ?_)
    refine lv_iconst (v := 1) hx hb dX1_readSetting_6 (by decide) ?_
    refine lv_iand hx hb dX1_readSetting_7 ?_
    refine lv_topi (fun v146 ev146 => ?_)
    have k147 : 0 ≤ v146.toInt ∧ v146.toInt ≤ 1 := by rw [ev146]; exact and_i v145 1 (by decide)
    refine lv_if_eq (tgt := 17) hx hb dX1_readSetting_8 (by decide) (fun c148 => ?_) (fun c148 => ?_)
    · have dc148 : v146.toInt = 0 := eq_i (a := v146.toInt) (b := 0) rfl rfl c148
      have k149 : 0 ≤ v146.toInt ∧ v146.toInt ≤ 0 := ⟨k147.1, Int.le_trans (Int.le_of_eq dc148) (Int.le_refl _)⟩
      refine lv_aload_n hx hb dX1_readSetting_17 rfl (lv_at hl 0 rfl) ?_
      refine lv_dup hx hb dX1_readSetting_18 rfl ?_
      refine get_f (D := D) (ci := 1) (v := .int x_settingsTold) (C := RX1) (T := TX1) (N := 18) hx hb hw inAX1 hown hK hP 0 rfl rfl 17 (by decide) (hw _ q_364) (fun _ h9 => h9) e_settingsTold dX1_readSetting_19 ?_
      refine lv_iconst (v := 1) hx hb dX1_readSetting_22 (by decide) ?_
      refine lv_iload_n hx hb dX1_readSetting_23 rfl (lv_at hl 2 rfl) ?_
      refine lv_ishl hx hb dX1_readSetting_24 ?_
      refine lv_ci (y := 4) (by decide +kernel) ?_
      refine lv_ior hx hb dX1_readSetting_25 ?_
      refine lv_topi (fun v150 ev150 => ?_)
      refine put_f (D := D) (ci := 1) (v := .int v150) (ty := .int) (C := RX1) (T := TX1) (N := 18) hx hb hw inAX1 tyX1 tyX1_ok nmX1 hown hK hP hD hS 0 rfl rfl 17 (by decide) (hw _ q_364) (fun _ h9 => h9) rfl (by decide +kernel) rfl rfl dX1_readSetting_26 (fun H locs F151 eF151 hP hD hS => ?_)
      have hP : va_P D vwCl [(h0, .inr (1, vL 18 F151)), (h_settings, .inl (cI, 5, .inl f_settings)), (p0, .inr (6, vL 12 F_p0_)), (h_p0_bytes, .inl (cB, 940, .inl f_p0_bytes)), (h_p0_wordNames, .inl (cJ, 23, .inr (.inl f_p0_wordNames)))] H := hP
      have hD : va_D A [(h0, .inr (1, vL 18 F151)), (h_settings, .inl (cI, 5, .inl f_settings)), (p0, .inr (6, vL 12 F_p0_)), (h_p0_bytes, .inl (cB, 940, .inl f_p0_bytes)), (h_p0_wordNames, .inl (cJ, 23, .inr (.inl f_p0_wordNames)))] := hD
      refine lv_aload_n hx hb dX1_readSetting_29 rfl (lv_at hl 1 rfl) ?_
      refine call_Vv (wr := [(h0, .inr (1, vL 18 F151)), (h_settings, .inl (cI, 5, .inl f_settings))]) (As := []) (rest := []) hx hb hml hown hw (m_X6_advance l D cI cJ cB cP cM cZ p0 h_p0_bytes h_p0_wordNames F_p0_ x_p0_length x_p0_value x_p0_name x_p0_at x_p0_mostBytes f_p0_bytes f_p0_wordNames _ e_p0_bytes e_p0_length i_x_p0_length e_p0_value e_p0_name e_p0_wordNames e_p0_at i_x_p0_at e_p0_mostBytes) wV_X1_131_X6_advance dX1_readSetting_30 hK hP hD hS hA [2, 3, 4] [0, 1] rfl rfl (by decide) (by decide) (by decide) 0 6 rfl rfl GG.fb hG.1.at hl.1 rfl (Nat.le_of_ble_eq_true rfl) ⟨(Nat.le_of_ble_eq_true rfl), (Nat.le_of_ble_eq_true rfl)⟩ ⟨(Nat.le_of_ble_eq_true rfl), (Nat.le_of_ble_eq_true rfl)⟩ (fun u H locs hp hP hD hS => ?_)
      obtain ⟨F153, y154, y155, y156, y157, y158, t159, t160, t161, t162, t163, t164, t165, t166, rfl⟩ := hp
      have hP : va_P D vwCl [(h0, .inr (1, vL 18 F151)), (h_settings, .inl (cI, 5, .inl f_settings)), (p0, .inr (6, vL 12 F153)), (h_p0_bytes, .inl (cB, 940, .inl f_p0_bytes)), (h_p0_wordNames, .inl (cJ, 23, .inr (.inl f_p0_wordNames)))] H := hP
      have hD : va_D A [(h0, .inr (1, vL 18 F151)), (h_settings, .inl (cI, 5, .inl f_settings)), (p0, .inr (6, vL 12 F153)), (h_p0_bytes, .inl (cB, 940, .inl f_p0_bytes)), (h_p0_wordNames, .inl (cJ, 23, .inr (.inl f_p0_wordNames)))] := hD
      refine W.widen (k := 0) (n := 0) (Nat.le_of_ble_eq_true rfl) (Nat.le_of_ble_eq_true rfl) ?_
      refine lv_aload_n hx hb dX1_readSetting_33 rfl (lv_at hl 1 rfl) ?_
      refine lv_aload_n hx hb dX1_readSetting_34 rfl (lv_at hl 0 rfl) ?_
      have n168 : F151 1 = .ref h_settings := (get_ne eF151 (by decide) e_settings)
      refine get_f (D := D) (ci := 1) (v := .ref h_settings) (C := RX1) (T := TX1) (N := 18) hx hb hw inAX1 hown hK hP 0 rfl rfl 1 (by decide) (hw _ q_315) (fun _ h9 => h9) n168 dX1_readSetting_35 ?_
      refine lv_iload_n hx hb dX1_readSetting_38 rfl (lv_at hl 2 rfl) ?_
      refine va_getsN hx hb hST.2.2.1 hS hown (va_Nw.use rfl (hG.1.2.1 (.fieldLinkNest "FourSledge$Course" 134 "FourSledge" "SETTING_LEAST" "[I" "FourSledge") (by decide +kernel))) (fun _ h9 => h9) dX1_readSetting_39 ?_
      refine lv_iload_n hx hb dX1_readSetting_42 rfl (lv_at hl 2 rfl) ?_
      refine va_ti (v := .int (lF 2)) hx hb hST.2.2.2.1 hS (vp_in_nI (n := 2) (N := 5) (Nat.le_of_ble_eq_true rfl) (Nat.le_of_ble_eq_true rfl)) rfl dX1_readSetting_43 ?_
      refine lv_ci (y := 300) (by decide +kernel) ?_
      refine va_getsN hx hb hST.2.2.2.2.1 hS hown (va_Nw.use rfl (hG.1.2.1 (.fieldLinkNest "FourSledge$Course" 137 "FourSledge" "SETTING_MOST" "[I" "FourSledge") (by decide +kernel))) (fun _ h9 => h9) dX1_readSetting_44 ?_
      refine lv_iload_n hx hb dX1_readSetting_47 rfl (lv_at hl 2 rfl) ?_
      refine va_ti (v := .int (mF 2)) hx hb hST.2.2.2.2.2 hS (vp_in_nI (n := 2) (N := 5) (Nat.le_of_ble_eq_true rfl) (Nat.le_of_ble_eq_true rfl)) rfl dX1_readSetting_48 ?_
      refine lv_ci (y := 900) (by decide +kernel) ?_
      have n169 : F153 0 = .ref h_p0_bytes := (SAME.at t159 (by decide) e_p0_bytes)
      have n170 : F153 1 = .int x_p0_length := (SAME.at t159 (by decide) e_p0_length)
      have n171 : F153 9 = .ref h_p0_wordNames := (SAME.at t159 (by decide) e_p0_wordNames)
      have n172 : F153 11 = .int x_p0_mostBytes := (SAME.at t159 (by decide) e_p0_mostBytes)
      refine call_Vi (wr := [(h0, .inr (1, vL 18 F151))]) (As := [.ref h_settings, .int 2, .int 300, .int 900]) (rest := []) hx hb hml hown hw (m_X6_takeInto_5 l D cI cJ cB cP cM cZ p0 h_p0_bytes h_p0_wordNames h_settings F153 x_p0_length y154 y155 y156 y157 y158 x_p0_mostBytes f_p0_bytes f_p0_wordNames f_settings 2 300 900 _ n169 n170 i_x_p0_length t160 t161 t163 t164 n171 t165 t166 n172) wV_X1_140_X6_takeInto dX1_readSetting_49 hK hP hD hS hA [2, 3, 4, 1] [0] rfl rfl (by decide) (by decide) (by decide) 0 6 rfl rfl GG.fb hG.1.at hl.1 rfl (Nat.le_of_ble_eq_true rfl) ⟨(Nat.le_of_ble_eq_true rfl), (Nat.le_of_ble_eq_true rfl)⟩ ⟨(Nat.le_of_ble_eq_true rfl), (Nat.le_of_ble_eq_true rfl)⟩ (fun r173 u H locs hp hP hD hS => ?_)
      have zl2 : (2 : Int32).toInt = 2 := by decide
      have zl300 : (300 : Int32).toInt = 300 := by decide
      have zl900 : (900 : Int32).toInt = 900 := by decide
      rcases hp with ⟨F174, y175, t176, t177, t178, t179, rfl, rfl⟩ | ⟨F180, y181, y182, y183, y184, y185, g186, t187, t188, t189, t190, t191, t192, t193, t194, t195, t196, t197, t198, t199, t200, rfl, rfl⟩
      · have hP : va_P D vwCl [(h0, .inr (1, vL 18 F151)), (p0, .inr (6, vL 12 F174)), (h_p0_bytes, .inl (cB, 940, .inl f_p0_bytes)), (h_p0_wordNames, .inl (cJ, 23, .inr (.inl f_p0_wordNames))), (h_settings, .inl (cI, 5, .inl f_settings))] H := hP
        have hD : va_D A [(h0, .inr (1, vL 18 F151)), (p0, .inr (6, vL 12 F174)), (h_p0_bytes, .inl (cB, 940, .inl f_p0_bytes)), (h_p0_wordNames, .inl (cJ, 23, .inr (.inl f_p0_wordNames))), (h_settings, .inl (cI, 5, .inl f_settings))] := hD
        refine W.widen (k := 0) (n := 0) (Nat.le_of_ble_eq_true rfl) (Nat.le_of_ble_eq_true rfl) ?_
        exact ret_i (v := 0) hx hb hr hlocks hS (hP.sub (ws' := [(h0, .inr (1, vL 18 F151)), (h_settings, .inl (cI, 5, .inl f_settings)), (p0, .inr (6, vL 12 F174)), (h_p0_bytes, .inl (cB, 940, .inl f_p0_bytes)), (h_p0_wordNames, .inl (cJ, 23, .inr (.inl f_p0_wordNames)))]) [0, 4, 1, 2, 3] rfl) (hD.sub (ws' := [(h0, .inr (1, vL 18 F151)), (h_settings, .inl (cI, 5, .inl f_settings)), (p0, .inr (6, vL 12 F174)), (h_p0_bytes, .inl (cB, 940, .inl f_p0_bytes)), (h_p0_wordNames, .inl (cJ, 23, .inr (.inl f_p0_wordNames)))]) [0, 4, 1, 2, 3] (by decide) rfl) dX1_readSetting_52 rfl (Nat.le_of_ble_eq_true rfl) (Nat.le_of_ble_eq_true rfl) ⟨F151, v150, F174, y154, y155, y156, y157, y175, y155, y158, f_settings, (SAME.up eF151 SAME.rf (by decide)), (get_eq eF151), (SAME.tr (SAME.tr SAME.rf t159 (by decide)) t176 (by decide)), (SAME.at t176 (by decide) t160), (SAME.at t176 (by decide) t161), (SAME.at t176 (by decide) t163), (SAME.at t176 (by decide) t164), t177, t179, (SAME.at t176 (by decide) t165), t166, s_settings_0, (show 0 ≤ (0 : Int32).toInt ∧ (0 : Int32).toInt ≤ 1 by decide), rfl⟩
      · have hP : va_P D vwCl [(h0, .inr (1, vL 18 F151)), (p0, .inr (6, vL 12 F180)), (h_p0_bytes, .inl (cB, 940, .inl f_p0_bytes)), (h_p0_wordNames, .inl (cJ, 23, .inr (.inl f_p0_wordNames))), (h_settings, .inl (cI, 5, .inl g186))] H := hP
        have hD : va_D A [(h0, .inr (1, vL 18 F151)), (p0, .inr (6, vL 12 F180)), (h_p0_bytes, .inl (cB, 940, .inl f_p0_bytes)), (h_p0_wordNames, .inl (cJ, 23, .inr (.inl f_p0_wordNames))), (h_settings, .inl (cI, 5, .inl g186))] := hD
        refine W.widen (k := 0) (n := 0) (Nat.le_of_ble_eq_true rfl) (Nat.le_of_ble_eq_true rfl) ?_
        have k202 : 3 ≤ y154.toInt ∧ y154.toInt ≤ 3 := ⟨Int.le_trans (Int.le_refl _) (Int.le_of_eq t197.symm), Int.le_trans (Int.le_of_eq t197) (Int.le_refl _)⟩
        have k203 : 300 ≤ y156.toInt ∧ y156.toInt ≤ 2147483647 := ⟨Int.le_trans (Int.le_refl _) t198, (ir_any _).2⟩
        have k204 : 300 ≤ y156.toInt ∧ y156.toInt ≤ 900 := ⟨k203.1, Int.le_trans t199 (Int.le_refl _)⟩
        have r205 : SG 0 0 5 40 g186 := by rw [← t200]; exact s_settings_0.up (by decide) (Or.inr (Or.inl (by decide)))
        exact ret_i (v := 1) hx hb hr hlocks hS (hP.sub (ws' := [(h0, .inr (1, vL 18 F151)), (h_settings, .inl (cI, 5, .inl g186)), (p0, .inr (6, vL 12 F180)), (h_p0_bytes, .inl (cB, 940, .inl f_p0_bytes)), (h_p0_wordNames, .inl (cJ, 23, .inr (.inl f_p0_wordNames)))]) [0, 4, 1, 2, 3] rfl) (hD.sub (ws' := [(h0, .inr (1, vL 18 F151)), (h_settings, .inl (cI, 5, .inl g186)), (p0, .inr (6, vL 12 F180)), (h_p0_bytes, .inl (cB, 940, .inl f_p0_bytes)), (h_p0_wordNames, .inl (cJ, 23, .inr (.inl f_p0_wordNames)))]) [0, 4, 1, 2, 3] (by decide) rfl) dX1_readSetting_52 rfl (Nat.le_of_ble_eq_true rfl) (Nat.le_of_ble_eq_true rfl) ⟨F151, v150, F180, y181, y182, y183, y184, x_p0_faultKind, x_p0_faultPlace, y185, g186, (SAME.up eF151 SAME.rf (by decide)), (get_eq eF151), (SAME.tr (SAME.tr SAME.rf t159 (by decide)) t187 (by decide)), t188, t189, t191, t192, (SAME.at t187 (by decide) (SAME.at t159 (by decide) e_p0_faultKind)), (SAME.at t187 (by decide) (SAME.at t159 (by decide) e_p0_faultPlace)), t193, t194, r205, (show 0 ≤ (1 : Int32).toInt ∧ (1 : Int32).toInt ≤ 1 by decide), rfl⟩
    · have dc148 : v146.toInt ≠ 0 := ne_i (a := v146.toInt) (b := 0) rfl rfl c148
      have k206 : 1 ≤ v146.toInt ∧ v146.toInt ≤ 1 := ⟨ne_lo dc148 k147.1 ⟨Int.le_refl _, Int.le_refl _⟩ (by decide), k147.2⟩
      refine lv_aload_n hx hb dX1_readSetting_11 rfl (lv_at hl 1 rfl) ?_
      refine lv_iconst (v := 3) hx hb dX1_readSetting_12 (by decide) ?_
      refine call_Vi (wr := [(h0, .inr (1, vL 18 Fh)), (h_settings, .inl (cI, 5, .inl f_settings)), (h_p0_bytes, .inl (cB, 940, .inl f_p0_bytes)), (h_p0_wordNames, .inl (cJ, 23, .inr (.inl f_p0_wordNames)))]) (As := [.int 3]) (rest := []) hx hb hml hown hw (m_X6_fail l D cI cJ cB cP cM cZ p0 F_p0_ x_p0_place 3 _ e_p0_place) wV_X1_128_X6_fail dX1_readSetting_13 hK hP hD hS hA [2] [0, 1, 3, 4] rfl rfl (by decide) (by decide) (by decide) 0 6 rfl rfl GG.fb hG.1.at hl.1 rfl (Nat.le_of_ble_eq_true rfl) ⟨(Nat.le_of_ble_eq_true rfl), (Nat.le_of_ble_eq_true rfl)⟩ ⟨(Nat.le_of_ble_eq_true rfl), (Nat.le_of_ble_eq_true rfl)⟩ (fun r207 u H locs hp hP hD hS => ?_)
      have zl3 : (3 : Int32).toInt = 3 := by decide
      obtain ⟨F208, t209, t210, t211, rfl, rfl⟩ := hp
      have hP : va_P D vwCl [(h0, .inr (1, vL 18 Fh)), (h_settings, .inl (cI, 5, .inl f_settings)), (h_p0_bytes, .inl (cB, 940, .inl f_p0_bytes)), (h_p0_wordNames, .inl (cJ, 23, .inr (.inl f_p0_wordNames))), (p0, .inr (6, vL 12 F208))] H := hP
      have hD : va_D A [(h0, .inr (1, vL 18 Fh)), (h_settings, .inl (cI, 5, .inl f_settings)), (h_p0_bytes, .inl (cB, 940, .inl f_p0_bytes)), (h_p0_wordNames, .inl (cJ, 23, .inr (.inl f_p0_wordNames))), (p0, .inr (6, vL 12 F208))] := hD
      refine W.widen (k := 0) (n := 0) (Nat.le_of_ble_eq_true rfl) (Nat.le_of_ble_eq_true rfl) ?_
      exact ret_i (v := 0) hx hb hr hlocks hS (hP.sub (ws' := [(h0, .inr (1, vL 18 Fh)), (h_settings, .inl (cI, 5, .inl f_settings)), (p0, .inr (6, vL 12 F208)), (h_p0_bytes, .inl (cB, 940, .inl f_p0_bytes)), (h_p0_wordNames, .inl (cJ, 23, .inr (.inl f_p0_wordNames)))]) [0, 1, 4, 2, 3] rfl) (hD.sub (ws' := [(h0, .inr (1, vL 18 Fh)), (h_settings, .inl (cI, 5, .inl f_settings)), (p0, .inr (6, vL 12 F208)), (h_p0_bytes, .inl (cB, 940, .inl f_p0_bytes)), (h_p0_wordNames, .inl (cJ, 23, .inr (.inl f_p0_wordNames)))]) [0, 1, 4, 2, 3] (by decide) rfl) dX1_readSetting_16 rfl (Nat.le_of_ble_eq_true rfl) (Nat.le_of_ble_eq_true rfl) ⟨Fh, x_settingsTold, F208, x_p0_kind, x_p0_place, x_p0_value, x_p0_name, 3, x_p0_place, x_p0_at, f_settings, SAME.rf, e_settingsTold, (SAME.tr SAME.rf t209 (by decide)), (SAME.at t209 (by decide) e_p0_kind), (SAME.at t209 (by decide) e_p0_place), (SAME.at t209 (by decide) e_p0_value), (SAME.at t209 (by decide) e_p0_name), t210, t211, (SAME.at t209 (by decide) e_p0_at), i_x_p0_at, s_settings_0, (show 0 ≤ (0 : Int32).toInt ∧ (0 : Int32).toInt ≤ 1 by decide), rfl⟩
  have dk143 : p1.toInt ≠ 2 := ne_i rfl rfl k143
  have k213 : 3 ≤ p1.toInt ∧ p1.toInt ≤ 4 := ⟨ne_lo dk143 k142.1 ⟨Int.le_refl _, Int.le_refl _⟩ (by decide), k142.2⟩
  by_cases k214 : p1 = 3
  · have dk214 : p1.toInt = 3 := eq_i rfl rfl k214
    have k215 : 3 ≤ p1.toInt ∧ p1.toInt ≤ 3 := ⟨k213.1, Int.le_trans (Int.le_of_eq dk214) (Int.le_refl _)⟩
    have hl : lv_has ls 3 [(0, .ref h0), (1, .ref p0), (2, .int 3)] := by have q := hl; rw [k214] at q; exact q
    refine lv_aload_n hx hb dX1_readSetting_0 rfl (lv_at hl 0 rfl) ?_
    refine get_f (D := D) (ci := 1) (v := .int x_settingsTold) (C := RX1) (T := TX1) (N := 18) hx hb hw inAX1 hown hK hP 0 rfl rfl 17 (by decide) (hw _ q_364) (fun _ h9 => h9) e_settingsTold dX1_readSetting_1 ?_
    refine lv_iload_n hx hb dX1_readSetting_4 rfl (lv_at hl 2 rfl) ?_
    refine lv_ishr hx hb dX1_readSetting_5 ?_
    refine lv_topi (fun v216 ev216 => ?_)
    refine lv_iconst (v := 1) hx hb dX1_readSetting_6 (by decide) ?_
    refine lv_iand hx hb dX1_readSetting_7 ?_
    refine lv_topi (fun v217 ev217 => ?_)
    have k218 : 0 ≤ v217.toInt ∧ v217.toInt ≤ 1 := by rw [ev217]; exact and_i v216 1 (by decide)
    refine lv_if_eq (tgt := 17) hx hb dX1_readSetting_8 (by decide) (fun c219 => ?_) (fun c219 => ?_)
    · have dc219 : v217.toInt = 0 := eq_i (a := v217.toInt) (b := 0) rfl rfl c219
      have k220 : 0 ≤ v217.toInt ∧ v217.toInt ≤ 0 := ⟨k218.1, Int.le_trans (Int.le_of_eq dc219) (Int.le_refl _)⟩
      refine lv_aload_n hx hb dX1_readSetting_17 rfl (lv_at hl 0 rfl) ?_
      refine lv_dup hx hb dX1_readSetting_18 rfl ?_
      refine get_f (D := D) (ci := 1) (v := .int x_settingsTold) (C := RX1) (T := TX1) (N := 18) hx hb hw inAX1 hown hK hP 0 rfl rfl 17 (by decide) (hw _ q_364) (fun _ h9 => h9) e_settingsTold dX1_readSetting_19 ?_
      refine lv_iconst (v := 1) hx hb dX1_readSetting_22 (by decide) ?_
      refine lv_iload_n hx hb dX1_readSetting_23 rfl (lv_at hl 2 rfl) ?_
      refine lv_ishl hx hb dX1_readSetting_24 ?_
      refine lv_ci (y := 8) (by decide +kernel) ?_
      refine lv_ior hx hb dX1_readSetting_25 ?_
      refine lv_topi (fun v221 ev221 => ?_)
      refine put_f (D := D) (ci := 1) (v := .int v221) (ty := .int) (C := RX1) (T := TX1) (N := 18) hx hb hw inAX1 tyX1 tyX1_ok nmX1 hown hK hP hD hS 0 rfl rfl 17 (by decide) (hw _ q_364) (fun _ h9 => h9) rfl (by decide +kernel) rfl rfl dX1_readSetting_26 (fun H locs F222 eF222 hP hD hS => ?_)
      have hP : va_P D vwCl [(h0, .inr (1, vL 18 F222)), (h_settings, .inl (cI, 5, .inl f_settings)), (p0, .inr (6, vL 12 F_p0_)), (h_p0_bytes, .inl (cB, 940, .inl f_p0_bytes)), (h_p0_wordNames, .inl (cJ, 23, .inr (.inl f_p0_wordNames)))] H := hP
      have hD : va_D A [(h0, .inr (1, vL 18 F222)), (h_settings, .inl (cI, 5, .inl f_settings)), (p0, .inr (6, vL 12 F_p0_)), (h_p0_bytes, .inl (cB, 940, .inl f_p0_bytes)), (h_p0_wordNames, .inl (cJ, 23, .inr (.inl f_p0_wordNames)))] := hD
      refine lv_aload_n hx hb dX1_readSetting_29 rfl (lv_at hl 1 rfl) ?_
      refine call_Vv (wr := [(h0, .inr (1, vL 18 F222)), (h_settings, .inl (cI, 5, .inl f_settings))]) (As := []) (rest := []) hx hb hml hown hw (m_X6_advance l D cI cJ cB cP cM cZ p0 h_p0_bytes h_p0_wordNames F_p0_ x_p0_length x_p0_value x_p0_name x_p0_at x_p0_mostBytes f_p0_bytes f_p0_wordNames _ e_p0_bytes e_p0_length i_x_p0_length e_p0_value e_p0_name e_p0_wordNames e_p0_at i_x_p0_at e_p0_mostBytes) wV_X1_131_X6_advance dX1_readSetting_30 hK hP hD hS hA [2, 3, 4] [0, 1] rfl rfl (by decide) (by decide) (by decide) 0 6 rfl rfl GG.fb hG.1.at hl.1 rfl (Nat.le_of_ble_eq_true rfl) ⟨(Nat.le_of_ble_eq_true rfl), (Nat.le_of_ble_eq_true rfl)⟩ ⟨(Nat.le_of_ble_eq_true rfl), (Nat.le_of_ble_eq_true rfl)⟩ (fun u H locs hp hP hD hS => ?_)
      obtain ⟨F224, y225, y226, y227, y228, y229, t230, t231, t232, t233, t234, t235, t236, t237, rfl⟩ := hp
      have hP : va_P D vwCl [(h0, .inr (1, vL 18 F222)), (h_settings, .inl (cI, 5, .inl f_settings)), (p0, .inr (6, vL 12 F224)), (h_p0_bytes, .inl (cB, 940, .inl f_p0_bytes)), (h_p0_wordNames, .inl (cJ, 23, .inr (.inl f_p0_wordNames)))] H := hP
      have hD : va_D A [(h0, .inr (1, vL 18 F222)), (h_settings, .inl (cI, 5, .inl f_settings)), (p0, .inr (6, vL 12 F224)), (h_p0_bytes, .inl (cB, 940, .inl f_p0_bytes)), (h_p0_wordNames, .inl (cJ, 23, .inr (.inl f_p0_wordNames)))] := hD
      refine W.widen (k := 0) (n := 0) (Nat.le_of_ble_eq_true rfl) (Nat.le_of_ble_eq_true rfl) ?_
      refine lv_aload_n hx hb dX1_readSetting_33 rfl (lv_at hl 1 rfl) ?_
      refine lv_aload_n hx hb dX1_readSetting_34 rfl (lv_at hl 0 rfl) ?_
      have n239 : F222 1 = .ref h_settings := (get_ne eF222 (by decide) e_settings)
      refine get_f (D := D) (ci := 1) (v := .ref h_settings) (C := RX1) (T := TX1) (N := 18) hx hb hw inAX1 hown hK hP 0 rfl rfl 1 (by decide) (hw _ q_315) (fun _ h9 => h9) n239 dX1_readSetting_35 ?_
      refine lv_iload_n hx hb dX1_readSetting_38 rfl (lv_at hl 2 rfl) ?_
      refine va_getsN hx hb hST.2.2.1 hS hown (va_Nw.use rfl (hG.1.2.1 (.fieldLinkNest "FourSledge$Course" 134 "FourSledge" "SETTING_LEAST" "[I" "FourSledge") (by decide +kernel))) (fun _ h9 => h9) dX1_readSetting_39 ?_
      refine lv_iload_n hx hb dX1_readSetting_42 rfl (lv_at hl 2 rfl) ?_
      refine va_ti (v := .int (lF 3)) hx hb hST.2.2.2.1 hS (vp_in_nI (n := 3) (N := 5) (Nat.le_of_ble_eq_true rfl) (Nat.le_of_ble_eq_true rfl)) rfl dX1_readSetting_43 ?_
      refine lv_ci (y := 0) (by decide +kernel) ?_
      refine va_getsN hx hb hST.2.2.2.2.1 hS hown (va_Nw.use rfl (hG.1.2.1 (.fieldLinkNest "FourSledge$Course" 137 "FourSledge" "SETTING_MOST" "[I" "FourSledge") (by decide +kernel))) (fun _ h9 => h9) dX1_readSetting_44 ?_
      refine lv_iload_n hx hb dX1_readSetting_47 rfl (lv_at hl 2 rfl) ?_
      refine va_ti (v := .int (mF 3)) hx hb hST.2.2.2.2.2 hS (vp_in_nI (n := 3) (N := 5) (Nat.le_of_ble_eq_true rfl) (Nat.le_of_ble_eq_true rfl)) rfl dX1_readSetting_48 ?_
      refine lv_ci (y := 9) (by decide +kernel) ?_
      have n240 : F224 0 = .ref h_p0_bytes := (SAME.at t230 (by decide) e_p0_bytes)
      have n241 : F224 1 = .int x_p0_length := (SAME.at t230 (by decide) e_p0_length)
      have n242 : F224 9 = .ref h_p0_wordNames := (SAME.at t230 (by decide) e_p0_wordNames)
      have n243 : F224 11 = .int x_p0_mostBytes := (SAME.at t230 (by decide) e_p0_mostBytes)
      refine call_Vi (wr := [(h0, .inr (1, vL 18 F222))]) (As := [.ref h_settings, .int 3, .int 0, .int 9]) (rest := []) hx hb hml hown hw (m_X6_takeInto_5 l D cI cJ cB cP cM cZ p0 h_p0_bytes h_p0_wordNames h_settings F224 x_p0_length y225 y226 y227 y228 y229 x_p0_mostBytes f_p0_bytes f_p0_wordNames f_settings 3 0 9 _ n240 n241 i_x_p0_length t231 t232 t234 t235 n242 t236 t237 n243) wV_X1_140_X6_takeInto dX1_readSetting_49 hK hP hD hS hA [2, 3, 4, 1] [0] rfl rfl (by decide) (by decide) (by decide) 0 6 rfl rfl GG.fb hG.1.at hl.1 rfl (Nat.le_of_ble_eq_true rfl) ⟨(Nat.le_of_ble_eq_true rfl), (Nat.le_of_ble_eq_true rfl)⟩ ⟨(Nat.le_of_ble_eq_true rfl), (Nat.le_of_ble_eq_true rfl)⟩ (fun r244 u H locs hp hP hD hS => ?_)
      have zl0 : (0 : Int32).toInt = 0 := by decide
      have zl3 : (3 : Int32).toInt = 3 := by decide
      have zl9 : (9 : Int32).toInt = 9 := by decide
      rcases hp with ⟨F245, y246, t247, t248, t249, t250, rfl, rfl⟩ | ⟨F251, y252, y253, y254, y255, y256, g257, t258, t259, t260, t261, t262, t263, t264, t265, t266, t267, t268, t269, t270, t271, rfl, rfl⟩
      · have hP : va_P D vwCl [(h0, .inr (1, vL 18 F222)), (p0, .inr (6, vL 12 F245)), (h_p0_bytes, .inl (cB, 940, .inl f_p0_bytes)), (h_p0_wordNames, .inl (cJ, 23, .inr (.inl f_p0_wordNames))), (h_settings, .inl (cI, 5, .inl f_settings))] H := hP
        have hD : va_D A [(h0, .inr (1, vL 18 F222)), (p0, .inr (6, vL 12 F245)), (h_p0_bytes, .inl (cB, 940, .inl f_p0_bytes)), (h_p0_wordNames, .inl (cJ, 23, .inr (.inl f_p0_wordNames))), (h_settings, .inl (cI, 5, .inl f_settings))] := hD
        refine W.widen (k := 0) (n := 0) (Nat.le_of_ble_eq_true rfl) (Nat.le_of_ble_eq_true rfl) ?_
        exact ret_i (v := 0) hx hb hr hlocks hS (hP.sub (ws' := [(h0, .inr (1, vL 18 F222)), (h_settings, .inl (cI, 5, .inl f_settings)), (p0, .inr (6, vL 12 F245)), (h_p0_bytes, .inl (cB, 940, .inl f_p0_bytes)), (h_p0_wordNames, .inl (cJ, 23, .inr (.inl f_p0_wordNames)))]) [0, 4, 1, 2, 3] rfl) (hD.sub (ws' := [(h0, .inr (1, vL 18 F222)), (h_settings, .inl (cI, 5, .inl f_settings)), (p0, .inr (6, vL 12 F245)), (h_p0_bytes, .inl (cB, 940, .inl f_p0_bytes)), (h_p0_wordNames, .inl (cJ, 23, .inr (.inl f_p0_wordNames)))]) [0, 4, 1, 2, 3] (by decide) rfl) dX1_readSetting_52 rfl (Nat.le_of_ble_eq_true rfl) (Nat.le_of_ble_eq_true rfl) ⟨F222, v221, F245, y225, y226, y227, y228, y246, y226, y229, f_settings, (SAME.up eF222 SAME.rf (by decide)), (get_eq eF222), (SAME.tr (SAME.tr SAME.rf t230 (by decide)) t247 (by decide)), (SAME.at t247 (by decide) t231), (SAME.at t247 (by decide) t232), (SAME.at t247 (by decide) t234), (SAME.at t247 (by decide) t235), t248, t250, (SAME.at t247 (by decide) t236), t237, s_settings_0, (show 0 ≤ (0 : Int32).toInt ∧ (0 : Int32).toInt ≤ 1 by decide), rfl⟩
      · have hP : va_P D vwCl [(h0, .inr (1, vL 18 F222)), (p0, .inr (6, vL 12 F251)), (h_p0_bytes, .inl (cB, 940, .inl f_p0_bytes)), (h_p0_wordNames, .inl (cJ, 23, .inr (.inl f_p0_wordNames))), (h_settings, .inl (cI, 5, .inl g257))] H := hP
        have hD : va_D A [(h0, .inr (1, vL 18 F222)), (p0, .inr (6, vL 12 F251)), (h_p0_bytes, .inl (cB, 940, .inl f_p0_bytes)), (h_p0_wordNames, .inl (cJ, 23, .inr (.inl f_p0_wordNames))), (h_settings, .inl (cI, 5, .inl g257))] := hD
        refine W.widen (k := 0) (n := 0) (Nat.le_of_ble_eq_true rfl) (Nat.le_of_ble_eq_true rfl) ?_
        have k273 : 3 ≤ y225.toInt ∧ y225.toInt ≤ 3 := ⟨Int.le_trans (Int.le_refl _) (Int.le_of_eq t268.symm), Int.le_trans (Int.le_of_eq t268) (Int.le_refl _)⟩
        have k274 : 0 ≤ y227.toInt ∧ y227.toInt ≤ 2147483647 := ⟨Int.le_trans (Int.le_refl _) t269, (ir_any _).2⟩
        have k275 : 0 ≤ y227.toInt ∧ y227.toInt ≤ 9 := ⟨k274.1, Int.le_trans t270 (Int.le_refl _)⟩
        have r276 : SG 0 0 5 40 g257 := by rw [← t271]; exact s_settings_0.up (by decide) (Or.inr (Or.inl (by decide)))
        exact ret_i (v := 1) hx hb hr hlocks hS (hP.sub (ws' := [(h0, .inr (1, vL 18 F222)), (h_settings, .inl (cI, 5, .inl g257)), (p0, .inr (6, vL 12 F251)), (h_p0_bytes, .inl (cB, 940, .inl f_p0_bytes)), (h_p0_wordNames, .inl (cJ, 23, .inr (.inl f_p0_wordNames)))]) [0, 4, 1, 2, 3] rfl) (hD.sub (ws' := [(h0, .inr (1, vL 18 F222)), (h_settings, .inl (cI, 5, .inl g257)), (p0, .inr (6, vL 12 F251)), (h_p0_bytes, .inl (cB, 940, .inl f_p0_bytes)), (h_p0_wordNames, .inl (cJ, 23, .inr (.inl f_p0_wordNames)))]) [0, 4, 1, 2, 3] (by decide) rfl) dX1_readSetting_52 rfl (Nat.le_of_ble_eq_true rfl) (Nat.le_of_ble_eq_true rfl) ⟨F222, v221, F251, y252, y253, y254, y255, x_p0_faultKind, x_p0_faultPlace, y256, g257, (SAME.up eF222 SAME.rf (by decide)), (get_eq eF222), (SAME.tr (SAME.tr SAME.rf t230 (by decide)) t258 (by decide)), t259, t260, t262, t263, (SAME.at t258 (by decide) (SAME.at t230 (by decide) e_p0_faultKind)), (SAME.at t258 (by decide) (SAME.at t230 (by decide) e_p0_faultPlace)), t264, t265, r276, (show 0 ≤ (1 : Int32).toInt ∧ (1 : Int32).toInt ≤ 1 by decide), rfl⟩
    · have dc219 : v217.toInt ≠ 0 := ne_i (a := v217.toInt) (b := 0) rfl rfl c219
      have k277 : 1 ≤ v217.toInt ∧ v217.toInt ≤ 1 := ⟨ne_lo dc219 k218.1 ⟨Int.le_refl _, Int.le_refl _⟩ (by decide), k218.2⟩
      refine lv_aload_n hx hb dX1_readSetting_11 rfl (lv_at hl 1 rfl) ?_
      refine lv_iconst (v := 3) hx hb dX1_readSetting_12 (by decide) ?_
      refine call_Vi (wr := [(h0, .inr (1, vL 18 Fh)), (h_settings, .inl (cI, 5, .inl f_settings)), (h_p0_bytes, .inl (cB, 940, .inl f_p0_bytes)), (h_p0_wordNames, .inl (cJ, 23, .inr (.inl f_p0_wordNames)))]) (As := [.int 3]) (rest := []) hx hb hml hown hw (m_X6_fail l D cI cJ cB cP cM cZ p0 F_p0_ x_p0_place 3 _ e_p0_place) wV_X1_128_X6_fail dX1_readSetting_13 hK hP hD hS hA [2] [0, 1, 3, 4] rfl rfl (by decide) (by decide) (by decide) 0 6 rfl rfl GG.fb hG.1.at hl.1 rfl (Nat.le_of_ble_eq_true rfl) ⟨(Nat.le_of_ble_eq_true rfl), (Nat.le_of_ble_eq_true rfl)⟩ ⟨(Nat.le_of_ble_eq_true rfl), (Nat.le_of_ble_eq_true rfl)⟩ (fun r278 u H locs hp hP hD hS => ?_)
      have zl3 : (3 : Int32).toInt = 3 := by decide
      obtain ⟨F279, t280, t281, t282, rfl, rfl⟩ := hp
      have hP : va_P D vwCl [(h0, .inr (1, vL 18 Fh)), (h_settings, .inl (cI, 5, .inl f_settings)), (h_p0_bytes, .inl (cB, 940, .inl f_p0_bytes)), (h_p0_wordNames, .inl (cJ, 23, .inr (.inl f_p0_wordNames))), (p0, .inr (6, vL 12 F279))] H := hP
      have hD : va_D A [(h0, .inr (1, vL 18 Fh)), (h_settings, .inl (cI, 5, .inl f_settings)), (h_p0_bytes, .inl (cB, 940, .inl f_p0_bytes)), (h_p0_wordNames, .inl (cJ, 23, .inr (.inl f_p0_wordNames))), (p0, .inr (6, vL 12 F279))] := hD
      refine W.widen (k := 0) (n := 0) (Nat.le_of_ble_eq_true rfl) (Nat.le_of_ble_eq_true rfl) ?_
      exact ret_i (v := 0) hx hb hr hlocks hS (hP.sub (ws' := [(h0, .inr (1, vL 18 Fh)), (h_settings, .inl (cI, 5, .inl f_settings)), (p0, .inr (6, vL 12 F279)), (h_p0_bytes, .inl (cB, 940, .inl f_p0_bytes)), (h_p0_wordNames, .inl (cJ, 23, .inr (.inl f_p0_wordNames)))]) [0, 1, 4, 2, 3] rfl) (hD.sub (ws' := [(h0, .inr (1, vL 18 Fh)), (h_settings, .inl (cI, 5, .inl f_settings)), (p0, .inr (6, vL 12 F279)), (h_p0_bytes, .inl (cB, 940, .inl f_p0_bytes)), (h_p0_wordNames, .inl (cJ, 23, .inr (.inl f_p0_wordNames)))]) [0, 1, 4, 2, 3] (by decide) rfl) dX1_readSetting_16 rfl (Nat.le_of_ble_eq_true rfl) (Nat.le_of_ble_eq_true rfl) ⟨Fh, x_settingsTold, F279, x_p0_kind, x_p0_place, x_p0_value, x_p0_name, 3, x_p0_place, x_p0_at, f_settings, SAME.rf, e_settingsTold, (SAME.tr SAME.rf t280 (by decide)), (SAME.at t280 (by decide) e_p0_kind), (SAME.at t280 (by decide) e_p0_place), (SAME.at t280 (by decide) e_p0_value), (SAME.at t280 (by decide) e_p0_name), t281, t282, (SAME.at t280 (by decide) e_p0_at), i_x_p0_at, s_settings_0, (show 0 ≤ (0 : Int32).toInt ∧ (0 : Int32).toInt ≤ 1 by decide), rfl⟩
  have dk214 : p1.toInt ≠ 3 := ne_i rfl rfl k214
  have k284 : 4 ≤ p1.toInt ∧ p1.toInt ≤ 4 := ⟨ne_lo dk214 k213.1 ⟨Int.le_refl _, Int.le_refl _⟩ (by decide), k213.2⟩
  have k285 : p1 = 4 := Int32.toInt_inj.mp (show p1.toInt = 4 by omega)
  have dk285 : p1.toInt = 4 := eq_i rfl rfl k285
  have hl : lv_has ls 3 [(0, .ref h0), (1, .ref p0), (2, .int 4)] := by have q := hl; rw [k285] at q; exact q
  refine lv_aload_n hx hb dX1_readSetting_0 rfl (lv_at hl 0 rfl) ?_
  refine get_f (D := D) (ci := 1) (v := .int x_settingsTold) (C := RX1) (T := TX1) (N := 18) hx hb hw inAX1 hown hK hP 0 rfl rfl 17 (by decide) (hw _ q_364) (fun _ h9 => h9) e_settingsTold dX1_readSetting_1 ?_
  refine lv_iload_n hx hb dX1_readSetting_4 rfl (lv_at hl 2 rfl) ?_
  refine lv_ishr hx hb dX1_readSetting_5 ?_
  refine lv_topi (fun v286 ev286 => ?_)
  refine lv_iconst (v := 1) hx hb dX1_readSetting_6 (by decide) ?_
  refine lv_iand hx hb dX1_readSetting_7 ?_
  refine lv_topi (fun v287 ev287 => ?_)
  have k288 : 0 ≤ v287.toInt ∧ v287.toInt ≤ 1 := by rw [ev287]; exact and_i v286 1 (by decide)
  refine lv_if_eq (tgt := 17) hx hb dX1_readSetting_8 (by decide) (fun c289 => ?_) (fun c289 => ?_)
  · have dc289 : v287.toInt = 0 := eq_i (a := v287.toInt) (b := 0) rfl rfl c289
    have k290 : 0 ≤ v287.toInt ∧ v287.toInt ≤ 0 := ⟨k288.1, Int.le_trans (Int.le_of_eq dc289) (Int.le_refl _)⟩
    refine lv_aload_n hx hb dX1_readSetting_17 rfl (lv_at hl 0 rfl) ?_
    refine lv_dup hx hb dX1_readSetting_18 rfl ?_
    refine get_f (D := D) (ci := 1) (v := .int x_settingsTold) (C := RX1) (T := TX1) (N := 18) hx hb hw inAX1 hown hK hP 0 rfl rfl 17 (by decide) (hw _ q_364) (fun _ h9 => h9) e_settingsTold dX1_readSetting_19 ?_
    refine lv_iconst (v := 1) hx hb dX1_readSetting_22 (by decide) ?_
    refine lv_iload_n hx hb dX1_readSetting_23 rfl (lv_at hl 2 rfl) ?_
    refine lv_ishl hx hb dX1_readSetting_24 ?_
    refine lv_ci (y := 16) (by decide +kernel) ?_
    refine lv_ior hx hb dX1_readSetting_25 ?_
    refine lv_topi (fun v291 ev291 => ?_)
    refine put_f (D := D) (ci := 1) (v := .int v291) (ty := .int) (C := RX1) (T := TX1) (N := 18) hx hb hw inAX1 tyX1 tyX1_ok nmX1 hown hK hP hD hS 0 rfl rfl 17 (by decide) (hw _ q_364) (fun _ h9 => h9) rfl (by decide +kernel) rfl rfl dX1_readSetting_26 (fun H locs F292 eF292 hP hD hS => ?_)
    have hP : va_P D vwCl [(h0, .inr (1, vL 18 F292)), (h_settings, .inl (cI, 5, .inl f_settings)), (p0, .inr (6, vL 12 F_p0_)), (h_p0_bytes, .inl (cB, 940, .inl f_p0_bytes)), (h_p0_wordNames, .inl (cJ, 23, .inr (.inl f_p0_wordNames)))] H := hP
    have hD : va_D A [(h0, .inr (1, vL 18 F292)), (h_settings, .inl (cI, 5, .inl f_settings)), (p0, .inr (6, vL 12 F_p0_)), (h_p0_bytes, .inl (cB, 940, .inl f_p0_bytes)), (h_p0_wordNames, .inl (cJ, 23, .inr (.inl f_p0_wordNames)))] := hD
    refine lv_aload_n hx hb dX1_readSetting_29 rfl (lv_at hl 1 rfl) ?_
    refine call_Vv (wr := [(h0, .inr (1, vL 18 F292)), (h_settings, .inl (cI, 5, .inl f_settings))]) (As := []) (rest := []) hx hb hml hown hw (m_X6_advance l D cI cJ cB cP cM cZ p0 h_p0_bytes h_p0_wordNames F_p0_ x_p0_length x_p0_value x_p0_name x_p0_at x_p0_mostBytes f_p0_bytes f_p0_wordNames _ e_p0_bytes e_p0_length i_x_p0_length e_p0_value e_p0_name e_p0_wordNames e_p0_at i_x_p0_at e_p0_mostBytes) wV_X1_131_X6_advance dX1_readSetting_30 hK hP hD hS hA [2, 3, 4] [0, 1] rfl rfl (by decide) (by decide) (by decide) 0 6 rfl rfl GG.fb hG.1.at hl.1 rfl (Nat.le_of_ble_eq_true rfl) ⟨(Nat.le_of_ble_eq_true rfl), (Nat.le_of_ble_eq_true rfl)⟩ ⟨(Nat.le_of_ble_eq_true rfl), (Nat.le_of_ble_eq_true rfl)⟩ (fun u H locs hp hP hD hS => ?_)
    obtain ⟨F294, y295, y296, y297, y298, y299, t300, t301, t302, t303, t304, t305, t306, t307, rfl⟩ := hp
    have hP : va_P D vwCl [(h0, .inr (1, vL 18 F292)), (h_settings, .inl (cI, 5, .inl f_settings)), (p0, .inr (6, vL 12 F294)), (h_p0_bytes, .inl (cB, 940, .inl f_p0_bytes)), (h_p0_wordNames, .inl (cJ, 23, .inr (.inl f_p0_wordNames)))] H := hP
    have hD : va_D A [(h0, .inr (1, vL 18 F292)), (h_settings, .inl (cI, 5, .inl f_settings)), (p0, .inr (6, vL 12 F294)), (h_p0_bytes, .inl (cB, 940, .inl f_p0_bytes)), (h_p0_wordNames, .inl (cJ, 23, .inr (.inl f_p0_wordNames)))] := hD
    refine W.widen (k := 0) (n := 0) (Nat.le_of_ble_eq_true rfl) (Nat.le_of_ble_eq_true rfl) ?_
    refine lv_aload_n hx hb dX1_readSetting_33 rfl (lv_at hl 1 rfl) ?_
    refine lv_aload_n hx hb dX1_readSetting_34 rfl (lv_at hl 0 rfl) ?_
    have n309 : F292 1 = .ref h_settings := (get_ne eF292 (by decide) e_settings)
    refine get_f (D := D) (ci := 1) (v := .ref h_settings) (C := RX1) (T := TX1) (N := 18) hx hb hw inAX1 hown hK hP 0 rfl rfl 1 (by decide) (hw _ q_315) (fun _ h9 => h9) n309 dX1_readSetting_35 ?_
    refine lv_iload_n hx hb dX1_readSetting_38 rfl (lv_at hl 2 rfl) ?_
    refine va_getsN hx hb hST.2.2.1 hS hown (va_Nw.use rfl (hG.1.2.1 (.fieldLinkNest "FourSledge$Course" 134 "FourSledge" "SETTING_LEAST" "[I" "FourSledge") (by decide +kernel))) (fun _ h9 => h9) dX1_readSetting_39 ?_
    refine lv_iload_n hx hb dX1_readSetting_42 rfl (lv_at hl 2 rfl) ?_
    refine va_ti (v := .int (lF 4)) hx hb hST.2.2.2.1 hS (vp_in_nI (n := 4) (N := 5) (Nat.le_of_ble_eq_true rfl) (Nat.le_of_ble_eq_true rfl)) rfl dX1_readSetting_43 ?_
    refine lv_ci (y := 0) (by decide +kernel) ?_
    refine va_getsN hx hb hST.2.2.2.2.1 hS hown (va_Nw.use rfl (hG.1.2.1 (.fieldLinkNest "FourSledge$Course" 137 "FourSledge" "SETTING_MOST" "[I" "FourSledge") (by decide +kernel))) (fun _ h9 => h9) dX1_readSetting_44 ?_
    refine lv_iload_n hx hb dX1_readSetting_47 rfl (lv_at hl 2 rfl) ?_
    refine va_ti (v := .int (mF 4)) hx hb hST.2.2.2.2.2 hS (vp_in_nI (n := 4) (N := 5) (Nat.le_of_ble_eq_true rfl) (Nat.le_of_ble_eq_true rfl)) rfl dX1_readSetting_48 ?_
    refine lv_ci (y := 20) (by decide +kernel) ?_
    have n310 : F294 0 = .ref h_p0_bytes := (SAME.at t300 (by decide) e_p0_bytes)
    have n311 : F294 1 = .int x_p0_length := (SAME.at t300 (by decide) e_p0_length)
    have n312 : F294 9 = .ref h_p0_wordNames := (SAME.at t300 (by decide) e_p0_wordNames)
    have n313 : F294 11 = .int x_p0_mostBytes := (SAME.at t300 (by decide) e_p0_mostBytes)
    refine call_Vi (wr := [(h0, .inr (1, vL 18 F292))]) (As := [.ref h_settings, .int 4, .int 0, .int 20]) (rest := []) hx hb hml hown hw (m_X6_takeInto_5 l D cI cJ cB cP cM cZ p0 h_p0_bytes h_p0_wordNames h_settings F294 x_p0_length y295 y296 y297 y298 y299 x_p0_mostBytes f_p0_bytes f_p0_wordNames f_settings 4 0 20 _ n310 n311 i_x_p0_length t301 t302 t304 t305 n312 t306 t307 n313) wV_X1_140_X6_takeInto dX1_readSetting_49 hK hP hD hS hA [2, 3, 4, 1] [0] rfl rfl (by decide) (by decide) (by decide) 0 6 rfl rfl GG.fb hG.1.at hl.1 rfl (Nat.le_of_ble_eq_true rfl) ⟨(Nat.le_of_ble_eq_true rfl), (Nat.le_of_ble_eq_true rfl)⟩ ⟨(Nat.le_of_ble_eq_true rfl), (Nat.le_of_ble_eq_true rfl)⟩ (fun r314 u H locs hp hP hD hS => ?_)
    have zl0 : (0 : Int32).toInt = 0 := by decide
    have zl4 : (4 : Int32).toInt = 4 := by decide
    have zl20 : (20 : Int32).toInt = 20 := by decide
    rcases hp with ⟨F315, y316, t317, t318, t319, t320, rfl, rfl⟩ | ⟨F321, y322, y323, y324, y325, y326, g327, t328, t329, t330, t331, t332, t333, t334, t335, t336, t337, t338, t339, t340, t341, rfl, rfl⟩
    · have hP : va_P D vwCl [(h0, .inr (1, vL 18 F292)), (p0, .inr (6, vL 12 F315)), (h_p0_bytes, .inl (cB, 940, .inl f_p0_bytes)), (h_p0_wordNames, .inl (cJ, 23, .inr (.inl f_p0_wordNames))), (h_settings, .inl (cI, 5, .inl f_settings))] H := hP
      have hD : va_D A [(h0, .inr (1, vL 18 F292)), (p0, .inr (6, vL 12 F315)), (h_p0_bytes, .inl (cB, 940, .inl f_p0_bytes)), (h_p0_wordNames, .inl (cJ, 23, .inr (.inl f_p0_wordNames))), (h_settings, .inl (cI, 5, .inl f_settings))] := hD
      refine W.widen (k := 0) (n := 0) (Nat.le_of_ble_eq_true rfl) (Nat.le_of_ble_eq_true rfl) ?_
      exact ret_i (v := 0) hx hb hr hlocks hS (hP.sub (ws' := [(h0, .inr (1, vL 18 F292)), (h_settings, .inl (cI, 5, .inl f_settings)), (p0, .inr (6, vL 12 F315)), (h_p0_bytes, .inl (cB, 940, .inl f_p0_bytes)), (h_p0_wordNames, .inl (cJ, 23, .inr (.inl f_p0_wordNames)))]) [0, 4, 1, 2, 3] rfl) (hD.sub (ws' := [(h0, .inr (1, vL 18 F292)), (h_settings, .inl (cI, 5, .inl f_settings)), (p0, .inr (6, vL 12 F315)), (h_p0_bytes, .inl (cB, 940, .inl f_p0_bytes)), (h_p0_wordNames, .inl (cJ, 23, .inr (.inl f_p0_wordNames)))]) [0, 4, 1, 2, 3] (by decide) rfl) dX1_readSetting_52 rfl (Nat.le_of_ble_eq_true rfl) (Nat.le_of_ble_eq_true rfl) ⟨F292, v291, F315, y295, y296, y297, y298, y316, y296, y299, f_settings, (SAME.up eF292 SAME.rf (by decide)), (get_eq eF292), (SAME.tr (SAME.tr SAME.rf t300 (by decide)) t317 (by decide)), (SAME.at t317 (by decide) t301), (SAME.at t317 (by decide) t302), (SAME.at t317 (by decide) t304), (SAME.at t317 (by decide) t305), t318, t320, (SAME.at t317 (by decide) t306), t307, s_settings_0, (show 0 ≤ (0 : Int32).toInt ∧ (0 : Int32).toInt ≤ 1 by decide), rfl⟩
    · have hP : va_P D vwCl [(h0, .inr (1, vL 18 F292)), (p0, .inr (6, vL 12 F321)), (h_p0_bytes, .inl (cB, 940, .inl f_p0_bytes)), (h_p0_wordNames, .inl (cJ, 23, .inr (.inl f_p0_wordNames))), (h_settings, .inl (cI, 5, .inl g327))] H := hP
      have hD : va_D A [(h0, .inr (1, vL 18 F292)), (p0, .inr (6, vL 12 F321)), (h_p0_bytes, .inl (cB, 940, .inl f_p0_bytes)), (h_p0_wordNames, .inl (cJ, 23, .inr (.inl f_p0_wordNames))), (h_settings, .inl (cI, 5, .inl g327))] := hD
      refine W.widen (k := 0) (n := 0) (Nat.le_of_ble_eq_true rfl) (Nat.le_of_ble_eq_true rfl) ?_
      have k343 : 3 ≤ y295.toInt ∧ y295.toInt ≤ 3 := ⟨Int.le_trans (Int.le_refl _) (Int.le_of_eq t338.symm), Int.le_trans (Int.le_of_eq t338) (Int.le_refl _)⟩
      have k344 : 0 ≤ y297.toInt ∧ y297.toInt ≤ 2147483647 := ⟨Int.le_trans (Int.le_refl _) t339, (ir_any _).2⟩
      have k345 : 0 ≤ y297.toInt ∧ y297.toInt ≤ 20 := ⟨k344.1, Int.le_trans t340 (Int.le_refl _)⟩
      have r346 : SG 0 0 5 40 g327 := by rw [← t341]; exact s_settings_0.up (by decide) (Or.inr (Or.inl (by decide)))
      exact ret_i (v := 1) hx hb hr hlocks hS (hP.sub (ws' := [(h0, .inr (1, vL 18 F292)), (h_settings, .inl (cI, 5, .inl g327)), (p0, .inr (6, vL 12 F321)), (h_p0_bytes, .inl (cB, 940, .inl f_p0_bytes)), (h_p0_wordNames, .inl (cJ, 23, .inr (.inl f_p0_wordNames)))]) [0, 4, 1, 2, 3] rfl) (hD.sub (ws' := [(h0, .inr (1, vL 18 F292)), (h_settings, .inl (cI, 5, .inl g327)), (p0, .inr (6, vL 12 F321)), (h_p0_bytes, .inl (cB, 940, .inl f_p0_bytes)), (h_p0_wordNames, .inl (cJ, 23, .inr (.inl f_p0_wordNames)))]) [0, 4, 1, 2, 3] (by decide) rfl) dX1_readSetting_52 rfl (Nat.le_of_ble_eq_true rfl) (Nat.le_of_ble_eq_true rfl) ⟨F292, v291, F321, y322, y323, y324, y325, x_p0_faultKind, x_p0_faultPlace, y326, g327, (SAME.up eF292 SAME.rf (by decide)), (get_eq eF292), (SAME.tr (SAME.tr SAME.rf t300 (by decide)) t328 (by decide)), t329, t330, t332, t333, (SAME.at t328 (by decide) (SAME.at t300 (by decide) e_p0_faultKind)), (SAME.at t328 (by decide) (SAME.at t300 (by decide) e_p0_faultPlace)), t334, t335, r346, (show 0 ≤ (1 : Int32).toInt ∧ (1 : Int32).toInt ≤ 1 by decide), rfl⟩
  · have dc289 : v287.toInt ≠ 0 := ne_i (a := v287.toInt) (b := 0) rfl rfl c289
    have k347 : 1 ≤ v287.toInt ∧ v287.toInt ≤ 1 := ⟨ne_lo dc289 k288.1 ⟨Int.le_refl _, Int.le_refl _⟩ (by decide), k288.2⟩
    refine lv_aload_n hx hb dX1_readSetting_11 rfl (lv_at hl 1 rfl) ?_
    refine lv_iconst (v := 3) hx hb dX1_readSetting_12 (by decide) ?_
    refine call_Vi (wr := [(h0, .inr (1, vL 18 Fh)), (h_settings, .inl (cI, 5, .inl f_settings)), (h_p0_bytes, .inl (cB, 940, .inl f_p0_bytes)), (h_p0_wordNames, .inl (cJ, 23, .inr (.inl f_p0_wordNames)))]) (As := [.int 3]) (rest := []) hx hb hml hown hw (m_X6_fail l D cI cJ cB cP cM cZ p0 F_p0_ x_p0_place 3 _ e_p0_place) wV_X1_128_X6_fail dX1_readSetting_13 hK hP hD hS hA [2] [0, 1, 3, 4] rfl rfl (by decide) (by decide) (by decide) 0 6 rfl rfl GG.fb hG.1.at hl.1 rfl (Nat.le_of_ble_eq_true rfl) ⟨(Nat.le_of_ble_eq_true rfl), (Nat.le_of_ble_eq_true rfl)⟩ ⟨(Nat.le_of_ble_eq_true rfl), (Nat.le_of_ble_eq_true rfl)⟩ (fun r348 u H locs hp hP hD hS => ?_)
    have zl3 : (3 : Int32).toInt = 3 := by decide
    obtain ⟨F349, t350, t351, t352, rfl, rfl⟩ := hp
    have hP : va_P D vwCl [(h0, .inr (1, vL 18 Fh)), (h_settings, .inl (cI, 5, .inl f_settings)), (h_p0_bytes, .inl (cB, 940, .inl f_p0_bytes)), (h_p0_wordNames, .inl (cJ, 23, .inr (.inl f_p0_wordNames))), (p0, .inr (6, vL 12 F349))] H := hP
    have hD : va_D A [(h0, .inr (1, vL 18 Fh)), (h_settings, .inl (cI, 5, .inl f_settings)), (h_p0_bytes, .inl (cB, 940, .inl f_p0_bytes)), (h_p0_wordNames, .inl (cJ, 23, .inr (.inl f_p0_wordNames))), (p0, .inr (6, vL 12 F349))] := hD
    refine W.widen (k := 0) (n := 0) (Nat.le_of_ble_eq_true rfl) (Nat.le_of_ble_eq_true rfl) ?_
    exact ret_i (v := 0) hx hb hr hlocks hS (hP.sub (ws' := [(h0, .inr (1, vL 18 Fh)), (h_settings, .inl (cI, 5, .inl f_settings)), (p0, .inr (6, vL 12 F349)), (h_p0_bytes, .inl (cB, 940, .inl f_p0_bytes)), (h_p0_wordNames, .inl (cJ, 23, .inr (.inl f_p0_wordNames)))]) [0, 1, 4, 2, 3] rfl) (hD.sub (ws' := [(h0, .inr (1, vL 18 Fh)), (h_settings, .inl (cI, 5, .inl f_settings)), (p0, .inr (6, vL 12 F349)), (h_p0_bytes, .inl (cB, 940, .inl f_p0_bytes)), (h_p0_wordNames, .inl (cJ, 23, .inr (.inl f_p0_wordNames)))]) [0, 1, 4, 2, 3] (by decide) rfl) dX1_readSetting_16 rfl (Nat.le_of_ble_eq_true rfl) (Nat.le_of_ble_eq_true rfl) ⟨Fh, x_settingsTold, F349, x_p0_kind, x_p0_place, x_p0_value, x_p0_name, 3, x_p0_place, x_p0_at, f_settings, SAME.rf, e_settingsTold, (SAME.tr SAME.rf t350 (by decide)), (SAME.at t350 (by decide) e_p0_kind), (SAME.at t350 (by decide) e_p0_place), (SAME.at t350 (by decide) e_p0_value), (SAME.at t350 (by decide) e_p0_name), t351, t352, (SAME.at t350 (by decide) e_p0_at), i_x_p0_at, s_settings_0, (show 0 ≤ (0 : Int32).toInt ∧ (0 : Int32).toInt ≤ 1 by decide), rfl⟩
set_option maxHeartbeats 4000000 in
set_option maxRecDepth 100000 in
theorem m_X6_isName (l : Launch) (D : va_G) (cI cJ cB cP cM cZ : ClassId) (h0 : Nat) (Fh : Nat → Value) (x_kind : Int32) (x_value : Int32) (sz : Nat) (e_kind : Fh 2 = .int x_kind) (e_value : Fh 4 = .int x_value) : CI l yX6_isName cX6_isName 1 (some .boolean) { frames := 0, cells := 0, slots := 0, locals := 0 } (GG D cI cJ cB cP cM cZ) D [(h0, .inr (6, vL 12 Fh))] sz [.ref h0] (fun (r : Int32) (u : va_W) => IR 0 1 r ∧ u = [(h0, .inr (6, vL 12 Fh))]) := by
  refine CI_mk (by decide) (Nat.le_of_ble_eq_true rfl) ?_
  intro p e s m below meth c A ls E hAe hG hsz hP hD hA hS hl
  obtain ⟨hx, hb, hr, hw, hown, hlocks, hml, hnm⟩ := E
  have hK := hG.1
  have hl : lv_has ls 1 [(0, .ref h0)] := hl
  refine lv_aload_n hx hb dX6_isName_0 rfl (lv_at hl 0 rfl) ?_
  refine get_f (D := D) (ci := 6) (v := .int x_kind) (C := RX6) (T := TX6) (N := 12) hx hb hw inAX6 hown hK hP 0 rfl rfl 2 (by decide) (hw _ q_92) (fun _ h9 => h9) e_kind dX6_isName_1 ?_
  refine lv_iconst (v := 2) hx hb dX6_isName_4 (by decide) ?_
  refine lv_icmp_ne (tgt := 20) hx hb dX6_isName_5 (by decide) (fun c1 => ?_) (fun c1 => ?_)
  · have dc1 : x_kind.toInt ≠ 2 := ne_i (a := x_kind.toInt) (b := 2) rfl rfl c1
    refine lv_iconst (v := 0) hx hb dX6_isName_20 (by decide) ?_
    exact ret_i (v := 0) hx hb hr hlocks hS hP hD dX6_isName_21 rfl (Nat.le_of_ble_eq_true rfl) (Nat.le_of_ble_eq_true rfl) ⟨(show 0 ≤ (0 : Int32).toInt ∧ (0 : Int32).toInt ≤ 1 by decide), rfl⟩
  · have dc1 : x_kind.toInt = 2 := eq_i (a := x_kind.toInt) (b := 2) rfl rfl c1
    have k2 : 2 ≤ x_kind.toInt ∧ x_kind.toInt ≤ 2 := ⟨Int.le_trans (Int.le_refl _) (Int.le_of_eq dc1.symm), Int.le_trans (Int.le_of_eq dc1) (Int.le_refl _)⟩
    refine lv_aload_n hx hb dX6_isName_8 rfl (lv_at hl 0 rfl) ?_
    refine get_f (D := D) (ci := 6) (v := .int x_value) (C := RX6) (T := TX6) (N := 12) hx hb hw inAX6 hown hK hP 0 rfl rfl 4 (by decide) (hw _ q_97) (fun _ h9 => h9) e_value dX6_isName_9 ?_
    refine lv_iconst (v := (-1)) hx hb dX6_isName_12 (by decide) ?_
    refine lv_icmp_ne (tgt := 20) hx hb dX6_isName_13 (by decide) (fun c3 => ?_) (fun c3 => ?_)
    · have dc3 : x_value.toInt ≠ (-1) := ne_i (a := x_value.toInt) (b := (-1)) rfl rfl c3
      refine lv_iconst (v := 0) hx hb dX6_isName_20 (by decide) ?_
      exact ret_i (v := 0) hx hb hr hlocks hS hP hD dX6_isName_21 rfl (Nat.le_of_ble_eq_true rfl) (Nat.le_of_ble_eq_true rfl) ⟨(show 0 ≤ (0 : Int32).toInt ∧ (0 : Int32).toInt ≤ 1 by decide), rfl⟩
    · have dc3 : x_value.toInt = (-1) := eq_i (a := x_value.toInt) (b := (-1)) rfl rfl c3
      have k4 : (-1) ≤ x_value.toInt ∧ x_value.toInt ≤ (-1) := ⟨Int.le_trans (Int.le_refl _) (Int.le_of_eq dc3.symm), Int.le_trans (Int.le_of_eq dc3) (Int.le_refl _)⟩
      refine lv_iconst (v := 1) hx hb dX6_isName_16 (by decide) ?_
      refine lv_goto (tgt := 21) hx hb dX6_isName_17 (by decide) ?_
      exact ret_i (v := 1) hx hb hr hlocks hS hP hD dX6_isName_21 rfl (Nat.le_of_ble_eq_true rfl) (Nat.le_of_ble_eq_true rfl) ⟨(show 0 ≤ (1 : Int32).toInt ∧ (1 : Int32).toInt ≤ 1 by decide), rfl⟩
set_option maxHeartbeats 4000000 in
set_option maxRecDepth 100000 in
theorem m_X1_indexOf_12 (l : Launch) (D : va_G) (cI cJ cB cP cM cZ : ClassId) (p0 : Nat) (f_p0 : Nat → Int64) (p1 : Int32) (p2 : Int64) (sz : Nat)  : CI l yX1_indexOf cX1_indexOf 5 (some .int) { frames := 0, cells := 0, slots := 0, locals := 0 } (GG D cI cJ cB cP cM cZ) D [(p0, .inl (cJ, 12, .inr (.inl f_p0)))] sz [.ref p0, .int p1, .long p2] (fun (r : Int32) (u : va_W) => IR (-1) 11 r ∧ u = [(p0, .inl (cJ, 12, .inr (.inl f_p0)))]) := by
  refine CI_mk (by decide) (Nat.le_of_ble_eq_true rfl) ?_
  intro p e s m below meth c A ls E hAe hG hsz hP hD hA hS hl
  obtain ⟨hx, hb, hr, hw, hown, hlocks, hml, hnm⟩ := E
  have hK := hG.1
  have hl : lv_has ls 5 [(0, .ref p0), (1, .int p1), (2, .long p2)] := hl
  refine lv_iconst (v := 0) hx hb dX1_indexOf_0 (by decide) ?_
  refine lv_istore (lv' := [(4, .int 0), (0, .ref p0), (1, .int p1), (2, .long p2)]) hx hb dX1_indexOf_1 hl (by decide) rfl (fun ls hl => ?_)
  refine mloop (α := (Int32)) (nL := 5) (D := D) (A := A) (H0 := s.heap) (fun a => (12 - a.toInt).toNat) (fun a => IR 0 12 a) (fun a => [(p0, .inl (cJ, 12, .inr (.inl f_p0)))]) (fun a => [(4, .int a), (0, .ref p0), (1, .int p1), (2, .long p2)]) (fun H locs ls => W p l e ({ frames := 0, cells := 0, slots := 0, locals := 0 } : Room) s m [.ref p0, .int p1, .long p2].toArray below meth c H locs 0 0 (MQ below (va_Qi (fun (r : Int32) (u : va_W) => IR (-1) 11 r ∧ u = [(p0, .inl (cJ, 12, .inr (.inl f_p0)))]) (PO D A) A) [.ref p0, .int p1, .long p2].toArray s 0 0 A) (F0 m 3 ls [])) ?_ (0) (show 0 ≤ (0 : Int32).toInt ∧ (0 : Int32).toInt ≤ 12 by decide) _ _ _ hP hD hS hl
  rintro u1 i2 ih H locs ls hP hD hS hl
  have i2 : 0 ≤ u1.toInt ∧ u1.toInt ≤ 12 := i2
  have hP : va_P D vwCl [(p0, .inl (cJ, 12, .inr (.inl f_p0)))] H := hP
  have hD : va_D A [(p0, .inl (cJ, 12, .inr (.inl f_p0)))] := hD
  have hl : lv_has ls 5 [(4, .int u1), (0, .ref p0), (1, .int p1), (2, .long p2)] := hl
  refine lv_iload hx hb dX1_indexOf_3 (lv_at hl 0 rfl) ?_
  refine lv_iload_n hx hb dX1_indexOf_5 rfl (lv_at hl 2 rfl) ?_
  refine lv_icmp_ge (tgt := 34) hx hb dX1_indexOf_6 (by decide) (fun c3 => ?_) (fun c3 => ?_)
  · have dc3 : p1.toInt ≤ u1.toInt := le_i (a := p1.toInt) (b := u1.toInt) rfl rfl c3
    have k4 : (-2147483648) ≤ p1.toInt ∧ p1.toInt ≤ 12 := ⟨(ir_any _).1, Int.le_trans dc3 i2.2⟩
    refine lv_iconst (v := (-1)) hx hb dX1_indexOf_34 (by decide) ?_
    exact ret_i (v := (-1)) hx hb hr hlocks hS hP hD dX1_indexOf_35 rfl (Nat.le_of_ble_eq_true rfl) (Nat.le_of_ble_eq_true rfl) ⟨(show (-1) ≤ ((-1) : Int32).toInt ∧ ((-1) : Int32).toInt ≤ 11 by decide), rfl⟩
  · have dc3 : u1.toInt < p1.toInt := nle_i (a := p1.toInt) (b := u1.toInt) rfl rfl c3
    have k5 : 1 ≤ p1.toInt ∧ p1.toInt ≤ 2147483647 := ⟨lo_lt dc3 i2.1 (by decide), (ir_any _).2⟩
    refine lv_iload hx hb dX1_indexOf_9 (lv_at hl 0 rfl) ?_
    refine lv_aload_n hx hb dX1_indexOf_11 rfl (lv_at hl 1 rfl) ?_
    refine va_alen (v := 12) hx hb hK hP 0 1 rfl rfl rfl dX1_indexOf_12 ?_
    refine lv_icmp_ge (tgt := 34) hx hb dX1_indexOf_13 (by decide) (fun c6 => ?_) (fun c6 => ?_)
    · have dc6 : 12 ≤ u1.toInt := le_i (a := 12) (b := u1.toInt) rfl rfl c6
      have k7 : 12 ≤ u1.toInt ∧ u1.toInt ≤ 12 := ⟨Int.le_trans (Int.le_refl _) dc6, i2.2⟩
      refine lv_iconst (v := (-1)) hx hb dX1_indexOf_34 (by decide) ?_
      exact ret_i (v := (-1)) hx hb hr hlocks hS hP hD dX1_indexOf_35 rfl (Nat.le_of_ble_eq_true rfl) (Nat.le_of_ble_eq_true rfl) ⟨(show (-1) ≤ ((-1) : Int32).toInt ∧ ((-1) : Int32).toInt ≤ 11 by decide), rfl⟩
    · have dc6 : u1.toInt < 12 := nle_i (a := 12) (b := u1.toInt) rfl rfl c6
      have k8 : 0 ≤ u1.toInt ∧ u1.toInt ≤ 11 := ⟨i2.1, up_lt dc6 (Int.le_refl _) (by decide)⟩
      refine lv_aload_n hx hb dX1_indexOf_16 rfl (lv_at hl 1 rfl) ?_
      refine lv_iload hx hb dX1_indexOf_17 (lv_at hl 0 rfl) ?_
      refine va_lald hx hb hK hP 0 1 rfl rfl (ix_k k8 (by decide) (by decide)) dX1_indexOf_19 ?_
      refine lv_topl (fun v9 ev9 => ?_)
      refine lv_lload_n hx hb dX1_indexOf_20 rfl (lv_at hl 3 rfl) ?_
      refine W.lcmp hx hb dX1_indexOf_21 ?_
      refine lv_topi (fun v10 ev10 => ?_)
      refine lv_if_ne (tgt := 28) hx hb dX1_indexOf_22 (by decide) (fun c11 => ?_) (fun c11 => ?_)
      · have dc11 : v10.toInt ≠ 0 := ne_i (a := v10.toInt) (b := 0) rfl rfl c11
        obtain ⟨v12, ev12⟩ : ∃ z : Int32, z = u1 + 1 := ⟨_, rfl⟩
        have bv12 : v12.toInt = u1.toInt + 1 := by rw [ev12]; exact add_k rfl rfl k8 ⟨Int.le_refl _, Int.le_refl _⟩ (by decide)
        have k13 : 1 ≤ v12.toInt ∧ v12.toInt ≤ 12 := add_r bv12 k8 ⟨Int.le_refl _, Int.le_refl _⟩ (by decide)
        refine lv_iinc (v := v12) (lv' := [(4, .int v12), (0, .ref p0), (1, .int p1), (2, .long p2)]) hx hb dX1_indexOf_28 hl (k := 0) rfl (by rw [ev12]; rfl) (by decide) rfl (fun ls hl => ?_)
        refine lv_goto (tgt := 3) hx hb dX1_indexOf_31 (by decide) ?_
        exact ih (v12) (ir_wk k13 (by decide) (by decide)) (by show (12 - v12.toInt).toNat < (12 - u1.toInt).toNat; omega) _ _ _ hP hD hS (lv_sub hl [0, 1, 2, 3] rfl)
      · have dc11 : v10.toInt = 0 := eq_i (a := v10.toInt) (b := 0) rfl rfl c11
        have k14 : 0 ≤ v10.toInt ∧ v10.toInt ≤ 0 := ⟨Int.le_trans (Int.le_refl _) (Int.le_of_eq dc11.symm), Int.le_trans (Int.le_of_eq dc11) (Int.le_refl _)⟩
        refine lv_iload hx hb dX1_indexOf_25 (lv_at hl 0 rfl) ?_
        exact ret_i (v := u1) hx hb hr hlocks hS hP hD dX1_indexOf_27 rfl (Nat.le_of_ble_eq_true rfl) (Nat.le_of_ble_eq_true rfl) ⟨(ir_wk k8 (by decide) (by decide)), rfl⟩
set_option maxHeartbeats 4000000 in
set_option maxRecDepth 100000 in
theorem m_X1_manNamed (l : Launch) (D : va_G) (cI cJ cB cP cM cZ : ClassId) (h0 : Nat) (h_manName : Nat) (Fh : Nat → Value) (x_men : Int32) (f_manName : Nat → Int64) (p0 : Int64) (sz : Nat) (e_manName : Fh 2 = .ref h_manName) (e_men : Fh 13 = .int x_men) (i_x_men : IR 0 12 x_men) : CI l yX1_manNamed cX1_manNamed 3 (some .int) { frames := 1, cells := 0, slots := 0, locals := 24 } (GG D cI cJ cB cP cM cZ) D [(h0, .inr (1, vL 18 Fh)), (h_manName, .inl (cJ, 12, .inr (.inl f_manName)))] sz [.ref h0, .long p0] (fun (r : Int32) (u : va_W) => IR (-1) 11 r ∧ u = [(h0, .inr (1, vL 18 Fh)), (h_manName, .inl (cJ, 12, .inr (.inl f_manName)))]) := by
  refine CI_mk (by decide) (Nat.le_of_ble_eq_true rfl) ?_
  intro p e s m below meth c A ls E hAe hG hsz hP hD hA hS hl
  obtain ⟨hx, hb, hr, hw, hown, hlocks, hml, hnm⟩ := E
  have hK := hG.1
  have i_x_men : 0 ≤ x_men.toInt ∧ x_men.toInt ≤ 12 := i_x_men
  have hl : lv_has ls 3 [(0, .ref h0), (1, .long p0)] := hl
  refine lv_aload_n hx hb dX1_manNamed_0 rfl (lv_at hl 0 rfl) ?_
  refine get_f (D := D) (ci := 1) (v := .ref h_manName) (C := RX1) (T := TX1) (N := 18) hx hb hw inAX1 hown hK hP 0 rfl rfl 2 (by decide) (hw _ q_320) (fun _ h9 => h9) e_manName dX1_manNamed_1 ?_
  refine lv_aload_n hx hb dX1_manNamed_4 rfl (lv_at hl 0 rfl) ?_
  refine get_f (D := D) (ci := 1) (v := .int x_men) (C := RX1) (T := TX1) (N := 18) hx hb hw inAX1 hown hK hP 0 rfl rfl 13 (by decide) (hw _ q_352) (fun _ h9 => h9) e_men dX1_manNamed_5 ?_
  refine lv_lload_n hx hb dX1_manNamed_8 rfl (lv_at hl 1 rfl) ?_
  refine call_Si (wr := [(h0, .inr (1, vL 18 Fh))]) (As := [.ref h_manName, .int x_men, .long p0]) (rest := []) hx hb hml hown hw (m_X1_indexOf_12 l D cI cJ cB cP cM cZ h_manName f_manName x_men p0 _ ) wS_X1_76_X1_indexOf dX1_manNamed_9 hP hD hS hA [1] [0] rfl rfl (by decide) (by decide) (by decide) GG.fb hG.at hl.1 rfl (Nat.le_of_ble_eq_true rfl) ⟨(Nat.le_of_ble_eq_true rfl), (Nat.le_of_ble_eq_true rfl)⟩ ⟨(Nat.le_of_ble_eq_true rfl), (Nat.le_of_ble_eq_true rfl)⟩ (fun r1 u H locs hp hP hD hS => ?_)
  obtain ⟨t2, rfl⟩ := hp
  have hP : va_P D vwCl [(h0, .inr (1, vL 18 Fh)), (h_manName, .inl (cJ, 12, .inr (.inl f_manName)))] H := hP
  have hD : va_D A [(h0, .inr (1, vL 18 Fh)), (h_manName, .inl (cJ, 12, .inr (.inl f_manName)))] := hD
  refine W.widen (k := 0) (n := 0) (Nat.le_of_ble_eq_true rfl) (Nat.le_of_ble_eq_true rfl) ?_
  exact ret_i (v := r1) hx hb hr hlocks hS hP hD dX1_manNamed_12 rfl (Nat.le_of_ble_eq_true rfl) (Nat.le_of_ble_eq_true rfl) ⟨t2, rfl⟩
set_option maxHeartbeats 4000000 in
set_option maxRecDepth 100000 in
theorem m_X1_indexOf_6 (l : Launch) (D : va_G) (cI cJ cB cP cM cZ : ClassId) (p0 : Nat) (f_p0 : Nat → Int64) (p1 : Int32) (p2 : Int64) (sz : Nat)  : CI l yX1_indexOf cX1_indexOf 5 (some .int) { frames := 0, cells := 0, slots := 0, locals := 0 } (GG D cI cJ cB cP cM cZ) D [(p0, .inl (cJ, 6, .inr (.inl f_p0)))] sz [.ref p0, .int p1, .long p2] (fun (r : Int32) (u : va_W) => IR (-1) 5 r ∧ u = [(p0, .inl (cJ, 6, .inr (.inl f_p0)))]) := by
  refine CI_mk (by decide) (Nat.le_of_ble_eq_true rfl) ?_
  intro p e s m below meth c A ls E hAe hG hsz hP hD hA hS hl
  obtain ⟨hx, hb, hr, hw, hown, hlocks, hml, hnm⟩ := E
  have hK := hG.1
  have hl : lv_has ls 5 [(0, .ref p0), (1, .int p1), (2, .long p2)] := hl
  refine lv_iconst (v := 0) hx hb dX1_indexOf_0 (by decide) ?_
  refine lv_istore (lv' := [(4, .int 0), (0, .ref p0), (1, .int p1), (2, .long p2)]) hx hb dX1_indexOf_1 hl (by decide) rfl (fun ls hl => ?_)
  refine mloop (α := (Int32)) (nL := 5) (D := D) (A := A) (H0 := s.heap) (fun a => (6 - a.toInt).toNat) (fun a => IR 0 6 a) (fun a => [(p0, .inl (cJ, 6, .inr (.inl f_p0)))]) (fun a => [(4, .int a), (0, .ref p0), (1, .int p1), (2, .long p2)]) (fun H locs ls => W p l e ({ frames := 0, cells := 0, slots := 0, locals := 0 } : Room) s m [.ref p0, .int p1, .long p2].toArray below meth c H locs 0 0 (MQ below (va_Qi (fun (r : Int32) (u : va_W) => IR (-1) 5 r ∧ u = [(p0, .inl (cJ, 6, .inr (.inl f_p0)))]) (PO D A) A) [.ref p0, .int p1, .long p2].toArray s 0 0 A) (F0 m 3 ls [])) ?_ (0) (show 0 ≤ (0 : Int32).toInt ∧ (0 : Int32).toInt ≤ 6 by decide) _ _ _ hP hD hS hl
  rintro u1 i2 ih H locs ls hP hD hS hl
  have i2 : 0 ≤ u1.toInt ∧ u1.toInt ≤ 6 := i2
  have hP : va_P D vwCl [(p0, .inl (cJ, 6, .inr (.inl f_p0)))] H := hP
  have hD : va_D A [(p0, .inl (cJ, 6, .inr (.inl f_p0)))] := hD
  have hl : lv_has ls 5 [(4, .int u1), (0, .ref p0), (1, .int p1), (2, .long p2)] := hl
  refine lv_iload hx hb dX1_indexOf_3 (lv_at hl 0 rfl) ?_
  refine lv_iload_n hx hb dX1_indexOf_5 rfl (lv_at hl 2 rfl) ?_
  refine lv_icmp_ge (tgt := 34) hx hb dX1_indexOf_6 (by decide) (fun c3 => ?_) (fun c3 => ?_)
  · have dc3 : p1.toInt ≤ u1.toInt := le_i (a := p1.toInt) (b := u1.toInt) rfl rfl c3
    have k4 : (-2147483648) ≤ p1.toInt ∧ p1.toInt ≤ 6 := ⟨(ir_any _).1, Int.le_trans dc3 i2.2⟩
    refine lv_iconst (v := (-1)) hx hb dX1_indexOf_34 (by decide) ?_
    exact ret_i (v := (-1)) hx hb hr hlocks hS hP hD dX1_indexOf_35 rfl (Nat.le_of_ble_eq_true rfl) (Nat.le_of_ble_eq_true rfl) ⟨(show (-1) ≤ ((-1) : Int32).toInt ∧ ((-1) : Int32).toInt ≤ 5 by decide), rfl⟩
  · have dc3 : u1.toInt < p1.toInt := nle_i (a := p1.toInt) (b := u1.toInt) rfl rfl c3
    have k5 : 1 ≤ p1.toInt ∧ p1.toInt ≤ 2147483647 := ⟨lo_lt dc3 i2.1 (by decide), (ir_any _).2⟩
    refine lv_iload hx hb dX1_indexOf_9 (lv_at hl 0 rfl) ?_
    refine lv_aload_n hx hb dX1_indexOf_11 rfl (lv_at hl 1 rfl) ?_
    refine va_alen (v := 6) hx hb hK hP 0 1 rfl rfl rfl dX1_indexOf_12 ?_
    refine lv_icmp_ge (tgt := 34) hx hb dX1_indexOf_13 (by decide) (fun c6 => ?_) (fun c6 => ?_)
    · have dc6 : 6 ≤ u1.toInt := le_i (a := 6) (b := u1.toInt) rfl rfl c6
      have k7 : 6 ≤ u1.toInt ∧ u1.toInt ≤ 6 := ⟨Int.le_trans (Int.le_refl _) dc6, i2.2⟩
      refine lv_iconst (v := (-1)) hx hb dX1_indexOf_34 (by decide) ?_
      exact ret_i (v := (-1)) hx hb hr hlocks hS hP hD dX1_indexOf_35 rfl (Nat.le_of_ble_eq_true rfl) (Nat.le_of_ble_eq_true rfl) ⟨(show (-1) ≤ ((-1) : Int32).toInt ∧ ((-1) : Int32).toInt ≤ 5 by decide), rfl⟩
    · have dc6 : u1.toInt < 6 := nle_i (a := 6) (b := u1.toInt) rfl rfl c6
      have k8 : 0 ≤ u1.toInt ∧ u1.toInt ≤ 5 := ⟨i2.1, up_lt dc6 (Int.le_refl _) (by decide)⟩
      refine lv_aload_n hx hb dX1_indexOf_16 rfl (lv_at hl 1 rfl) ?_
      refine lv_iload hx hb dX1_indexOf_17 (lv_at hl 0 rfl) ?_
      refine va_lald hx hb hK hP 0 1 rfl rfl (ix_k k8 (by decide) (by decide)) dX1_indexOf_19 ?_
      refine lv_topl (fun v9 ev9 => ?_)
      refine lv_lload_n hx hb dX1_indexOf_20 rfl (lv_at hl 3 rfl) ?_
      refine W.lcmp hx hb dX1_indexOf_21 ?_
      refine lv_topi (fun v10 ev10 => ?_)
      refine lv_if_ne (tgt := 28) hx hb dX1_indexOf_22 (by decide) (fun c11 => ?_) (fun c11 => ?_)
      · have dc11 : v10.toInt ≠ 0 := ne_i (a := v10.toInt) (b := 0) rfl rfl c11
        obtain ⟨v12, ev12⟩ : ∃ z : Int32, z = u1 + 1 := ⟨_, rfl⟩
        have bv12 : v12.toInt = u1.toInt + 1 := by rw [ev12]; exact add_k rfl rfl k8 ⟨Int.le_refl _, Int.le_refl _⟩ (by decide)
        have k13 : 1 ≤ v12.toInt ∧ v12.toInt ≤ 6 := add_r bv12 k8 ⟨Int.le_refl _, Int.le_refl _⟩ (by decide)
        refine lv_iinc (v := v12) (lv' := [(4, .int v12), (0, .ref p0), (1, .int p1), (2, .long p2)]) hx hb dX1_indexOf_28 hl (k := 0) rfl (by rw [ev12]; rfl) (by decide) rfl (fun ls hl => ?_)
        refine lv_goto (tgt := 3) hx hb dX1_indexOf_31 (by decide) ?_
        exact ih (v12) (ir_wk k13 (by decide) (by decide)) (by show (6 - v12.toInt).toNat < (6 - u1.toInt).toNat; omega) _ _ _ hP hD hS (lv_sub hl [0, 1, 2, 3] rfl)
      · have dc11 : v10.toInt = 0 := eq_i (a := v10.toInt) (b := 0) rfl rfl c11
        have k14 : 0 ≤ v10.toInt ∧ v10.toInt ≤ 0 := ⟨Int.le_trans (Int.le_refl _) (Int.le_of_eq dc11.symm), Int.le_trans (Int.le_of_eq dc11) (Int.le_refl _)⟩
        refine lv_iload hx hb dX1_indexOf_25 (lv_at hl 0 rfl) ?_
        exact ret_i (v := u1) hx hb hr hlocks hS hP hD dX1_indexOf_27 rfl (Nat.le_of_ble_eq_true rfl) (Nat.le_of_ble_eq_true rfl) ⟨(ir_wk k8 (by decide) (by decide)), rfl⟩
set_option maxHeartbeats 4000000 in
set_option maxRecDepth 100000 in
theorem m_X1_runnerNamed (l : Launch) (D : va_G) (cI cJ cB cP cM cZ : ClassId) (h0 : Nat) (h_runnerName : Nat) (Fh : Nat → Value) (x_runners : Int32) (f_runnerName : Nat → Int64) (p0 : Int64) (sz : Nat) (e_runnerName : Fh 10 = .ref h_runnerName) (e_runners : Fh 15 = .int x_runners) (i_x_runners : IR 0 6 x_runners) : CI l yX1_runnerNamed cX1_runnerNamed 3 (some .int) { frames := 1, cells := 0, slots := 0, locals := 24 } (GG D cI cJ cB cP cM cZ) D [(h0, .inr (1, vL 18 Fh)), (h_runnerName, .inl (cJ, 6, .inr (.inl f_runnerName)))] sz [.ref h0, .long p0] (fun (r : Int32) (u : va_W) => IR (-1) 5 r ∧ u = [(h0, .inr (1, vL 18 Fh)), (h_runnerName, .inl (cJ, 6, .inr (.inl f_runnerName)))]) := by
  refine CI_mk (by decide) (Nat.le_of_ble_eq_true rfl) ?_
  intro p e s m below meth c A ls E hAe hG hsz hP hD hA hS hl
  obtain ⟨hx, hb, hr, hw, hown, hlocks, hml, hnm⟩ := E
  have hK := hG.1
  have i_x_runners : 0 ≤ x_runners.toInt ∧ x_runners.toInt ≤ 6 := i_x_runners
  have hl : lv_has ls 3 [(0, .ref h0), (1, .long p0)] := hl
  refine lv_aload_n hx hb dX1_runnerNamed_0 rfl (lv_at hl 0 rfl) ?_
  refine get_f (D := D) (ci := 1) (v := .ref h_runnerName) (C := RX1) (T := TX1) (N := 18) hx hb hw inAX1 hown hK hP 0 rfl rfl 10 (by decide) (hw _ q_347) (fun _ h9 => h9) e_runnerName dX1_runnerNamed_1 ?_
  refine lv_aload_n hx hb dX1_runnerNamed_4 rfl (lv_at hl 0 rfl) ?_
  refine get_f (D := D) (ci := 1) (v := .int x_runners) (C := RX1) (T := TX1) (N := 18) hx hb hw inAX1 hown hK hP 0 rfl rfl 15 (by decide) (hw _ q_359) (fun _ h9 => h9) e_runners dX1_runnerNamed_5 ?_
  refine lv_lload_n hx hb dX1_runnerNamed_8 rfl (lv_at hl 1 rfl) ?_
  refine call_Si (wr := [(h0, .inr (1, vL 18 Fh))]) (As := [.ref h_runnerName, .int x_runners, .long p0]) (rest := []) hx hb hml hown hw (m_X1_indexOf_6 l D cI cJ cB cP cM cZ h_runnerName f_runnerName x_runners p0 _ ) wS_X1_76_X1_indexOf dX1_runnerNamed_9 hP hD hS hA [1] [0] rfl rfl (by decide) (by decide) (by decide) GG.fb hG.at hl.1 rfl (Nat.le_of_ble_eq_true rfl) ⟨(Nat.le_of_ble_eq_true rfl), (Nat.le_of_ble_eq_true rfl)⟩ ⟨(Nat.le_of_ble_eq_true rfl), (Nat.le_of_ble_eq_true rfl)⟩ (fun r1 u H locs hp hP hD hS => ?_)
  obtain ⟨t2, rfl⟩ := hp
  have hP : va_P D vwCl [(h0, .inr (1, vL 18 Fh)), (h_runnerName, .inl (cJ, 6, .inr (.inl f_runnerName)))] H := hP
  have hD : va_D A [(h0, .inr (1, vL 18 Fh)), (h_runnerName, .inl (cJ, 6, .inr (.inl f_runnerName)))] := hD
  refine W.widen (k := 0) (n := 0) (Nat.le_of_ble_eq_true rfl) (Nat.le_of_ble_eq_true rfl) ?_
  exact ret_i (v := r1) hx hb hr hlocks hS hP hD dX1_runnerNamed_12 rfl (Nat.le_of_ble_eq_true rfl) (Nat.le_of_ble_eq_true rfl) ⟨t2, rfl⟩
set_option maxHeartbeats 4000000 in
set_option maxRecDepth 100000 in
theorem m_X1_readName_manName (l : Launch) (D : va_G) (cI cJ cB cP cM cZ : ClassId) (h0 : Nat) (h_manName : Nat) (h_runnerName : Nat) (p0 : Nat) (h_p0_bytes : Nat) (h_p0_wordNames : Nat) (Fh : Nat → Value) (x_men : Int32) (x_runners : Int32) (f_manName : Nat → Int64) (f_runnerName : Nat → Int64) (F_p0_ : Nat → Value) (x_p0_length : Int32) (x_p0_kind : Int32) (x_p0_place : Int32) (x_p0_value : Int32) (x_p0_name : Int64) (x_p0_faultKind : Int32) (x_p0_faultPlace : Int32) (x_p0_at : Int32) (x_p0_mostBytes : Int32) (f_p0_bytes : Nat → Int32) (f_p0_wordNames : Nat → Int64) (p2 : Int32) (sz : Nat) (e_manName : Fh 2 = .ref h_manName) (e_runnerName : Fh 10 = .ref h_runnerName) (e_men : Fh 13 = .int x_men) (i_x_men : IR 0 12 x_men) (e_runners : Fh 15 = .int x_runners) (i_x_runners : IR 0 6 x_runners) (e_p0_bytes : F_p0_ 0 = .ref h_p0_bytes) (e_p0_length : F_p0_ 1 = .int x_p0_length) (i_x_p0_length : IR 0 940 x_p0_length) (e_p0_kind : F_p0_ 2 = .int x_p0_kind) (e_p0_place : F_p0_ 3 = .int x_p0_place) (e_p0_value : F_p0_ 4 = .int x_p0_value) (e_p0_name : F_p0_ 5 = .long x_p0_name) (e_p0_faultKind : F_p0_ 7 = .int x_p0_faultKind) (e_p0_faultPlace : F_p0_ 8 = .int x_p0_faultPlace) (e_p0_wordNames : F_p0_ 9 = .ref h_p0_wordNames) (e_p0_at : F_p0_ 10 = .int x_p0_at) (i_x_p0_at : IR 0 940 x_p0_at) (e_p0_mostBytes : F_p0_ 11 = .int x_p0_mostBytes) (i_p2 : IR 0 11 p2) : CI l yX1_readName cX1_readName 4 (some .boolean) { frames := 2, cells := 0, slots := 0, locals := 46 } (GG D cI cJ cB cP cM cZ) D [(h0, .inr (1, vL 18 Fh)), (h_manName, .inl (cJ, 12, .inr (.inl f_manName))), (h_runnerName, .inl (cJ, 6, .inr (.inl f_runnerName))), (p0, .inr (6, vL 12 F_p0_)), (h_p0_bytes, .inl (cB, 940, .inl f_p0_bytes)), (h_p0_wordNames, .inl (cJ, 23, .inr (.inl f_p0_wordNames)))] sz [.ref h0, .ref p0, .ref h_manName, .int p2] (fun (r : Int32) (u : va_W) => ∃ (G_p0_ : Nat → Value) (y_p0_kind : Int32) (y_p0_place : Int32) (y_p0_value : Int32) (y_p0_name : Int64) (y_p0_faultKind : Int32) (y_p0_faultPlace : Int32) (y_p0_at : Int32) (g_manName : Nat → Int64), SAME [2, 3, 4, 5, 7, 8, 10] F_p0_ G_p0_ ∧ G_p0_ 2 = .int y_p0_kind ∧ G_p0_ 3 = .int y_p0_place ∧ G_p0_ 4 = .int y_p0_value ∧ G_p0_ 5 = .long y_p0_name ∧ G_p0_ 7 = .int y_p0_faultKind ∧ G_p0_ 8 = .int y_p0_faultPlace ∧ G_p0_ 10 = .int y_p0_at ∧ IR 0 940 y_p0_at ∧ IR 0 1 r ∧ u = [(h0, .inr (1, vL 18 Fh)), (h_manName, .inl (cJ, 12, .inr (.inl g_manName))), (h_runnerName, .inl (cJ, 6, .inr (.inl f_runnerName))), (p0, .inr (6, vL 12 G_p0_)), (h_p0_bytes, .inl (cB, 940, .inl f_p0_bytes)), (h_p0_wordNames, .inl (cJ, 23, .inr (.inl f_p0_wordNames)))]) := by
  refine CI_mk (by decide) (Nat.le_of_ble_eq_true rfl) ?_
  intro p e s m below meth c A ls E hAe hG hsz hP hD hA hS hl
  obtain ⟨hx, hb, hr, hw, hown, hlocks, hml, hnm⟩ := E
  have hK := hG.1
  have i_x_men : 0 ≤ x_men.toInt ∧ x_men.toInt ≤ 12 := i_x_men
  have i_x_runners : 0 ≤ x_runners.toInt ∧ x_runners.toInt ≤ 6 := i_x_runners
  have i_x_p0_length : 0 ≤ x_p0_length.toInt ∧ x_p0_length.toInt ≤ 940 := i_x_p0_length
  have i_x_p0_at : 0 ≤ x_p0_at.toInt ∧ x_p0_at.toInt ≤ 940 := i_x_p0_at
  have i_p2 : 0 ≤ p2.toInt ∧ p2.toInt ≤ 11 := i_p2
  have hl : lv_has ls 4 [(0, .ref h0), (1, .ref p0), (2, .ref h_manName), (3, .int p2)] := hl
  refine lv_aload_n hx hb dX1_readName_0 rfl (lv_at hl 1 rfl) ?_
  refine call_Vi (wr := [(h0, .inr (1, vL 18 Fh)), (h_manName, .inl (cJ, 12, .inr (.inl f_manName))), (h_runnerName, .inl (cJ, 6, .inr (.inl f_runnerName))), (h_p0_bytes, .inl (cB, 940, .inl f_p0_bytes)), (h_p0_wordNames, .inl (cJ, 23, .inr (.inl f_p0_wordNames)))]) (As := []) (rest := []) hx hb hml hown hw (m_X6_isName l D cI cJ cB cP cM cZ p0 F_p0_ x_p0_kind x_p0_value _ e_p0_kind e_p0_value) wV_X1_148_X6_isName dX1_readName_1 hK hP hD hS hA [3] [0, 1, 2, 4, 5] rfl rfl (by decide) (by decide) (by decide) 0 6 rfl rfl GG.fb hG.at hl.1 rfl (Nat.le_of_ble_eq_true rfl) ⟨(Nat.le_of_ble_eq_true rfl), (Nat.le_of_ble_eq_true rfl)⟩ ⟨(Nat.le_of_ble_eq_true rfl), (Nat.le_of_ble_eq_true rfl)⟩ (fun r1 u H locs hp hP hD hS => ?_)
  obtain ⟨t2, rfl⟩ := hp
  have hP : va_P D vwCl [(h0, .inr (1, vL 18 Fh)), (h_manName, .inl (cJ, 12, .inr (.inl f_manName))), (h_runnerName, .inl (cJ, 6, .inr (.inl f_runnerName))), (h_p0_bytes, .inl (cB, 940, .inl f_p0_bytes)), (h_p0_wordNames, .inl (cJ, 23, .inr (.inl f_p0_wordNames))), (p0, .inr (6, vL 12 F_p0_))] H := hP
  have hD : va_D A [(h0, .inr (1, vL 18 Fh)), (h_manName, .inl (cJ, 12, .inr (.inl f_manName))), (h_runnerName, .inl (cJ, 6, .inr (.inl f_runnerName))), (h_p0_bytes, .inl (cB, 940, .inl f_p0_bytes)), (h_p0_wordNames, .inl (cJ, 23, .inr (.inl f_p0_wordNames))), (p0, .inr (6, vL 12 F_p0_))] := hD
  refine W.widen (k := 0) (n := 0) (Nat.le_of_ble_eq_true rfl) (Nat.le_of_ble_eq_true rfl) ?_
  refine lv_if_ne (tgt := 13) hx hb dX1_readName_4 (by decide) (fun c4 => ?_) (fun c4 => ?_)
  · have dc4 : r1.toInt ≠ 0 := ne_i (a := r1.toInt) (b := 0) rfl rfl c4
    have k5 : 1 ≤ r1.toInt ∧ r1.toInt ≤ 1 := ⟨ne_lo dc4 t2.1 ⟨Int.le_refl _, Int.le_refl _⟩ (by decide), t2.2⟩
    refine lv_aload_n hx hb dX1_readName_13 rfl (lv_at hl 0 rfl) ?_
    refine lv_aload_n hx hb dX1_readName_14 rfl (lv_at hl 1 rfl) ?_
    refine get_f (D := D) (ci := 6) (v := .long x_p0_name) (C := RX6) (T := TX6) (N := 12) hx hb hw inAX6 hown hK hP 5 rfl rfl 5 (by decide) (hw _ q_101) (fun _ h9 => h9) e_p0_name dX1_readName_15 ?_
    refine call_Vi (wr := [(h_runnerName, .inl (cJ, 6, .inr (.inl f_runnerName))), (h_p0_bytes, .inl (cB, 940, .inl f_p0_bytes)), (h_p0_wordNames, .inl (cJ, 23, .inr (.inl f_p0_wordNames))), (p0, .inr (6, vL 12 F_p0_))]) (As := [.long x_p0_name]) (rest := []) hx hb hml hown hw (m_X1_manNamed l D cI cJ cB cP cM cZ h0 h_manName Fh x_men f_manName x_p0_name _ e_manName e_men i_x_men) wV_X1_156_X1_manNamed dX1_readName_18 hK hP hD hS hA [0, 1] [2, 3, 4, 5] rfl rfl (by decide) (by decide) (by decide) 0 1 rfl rfl GG.fb hG.at hl.1 rfl (Nat.le_of_ble_eq_true rfl) ⟨(Nat.le_of_ble_eq_true rfl), (Nat.le_of_ble_eq_true rfl)⟩ ⟨(Nat.le_of_ble_eq_true rfl), (Nat.le_of_ble_eq_true rfl)⟩ (fun r6 u H locs hp hP hD hS => ?_)
    obtain ⟨t7, rfl⟩ := hp
    have hP : va_P D vwCl [(h_runnerName, .inl (cJ, 6, .inr (.inl f_runnerName))), (h_p0_bytes, .inl (cB, 940, .inl f_p0_bytes)), (h_p0_wordNames, .inl (cJ, 23, .inr (.inl f_p0_wordNames))), (p0, .inr (6, vL 12 F_p0_)), (h0, .inr (1, vL 18 Fh)), (h_manName, .inl (cJ, 12, .inr (.inl f_manName)))] H := hP
    have hD : va_D A [(h_runnerName, .inl (cJ, 6, .inr (.inl f_runnerName))), (h_p0_bytes, .inl (cB, 940, .inl f_p0_bytes)), (h_p0_wordNames, .inl (cJ, 23, .inr (.inl f_p0_wordNames))), (p0, .inr (6, vL 12 F_p0_)), (h0, .inr (1, vL 18 Fh)), (h_manName, .inl (cJ, 12, .inr (.inl f_manName)))] := hD
    refine W.widen (k := 0) (n := 0) (Nat.le_of_ble_eq_true rfl) (Nat.le_of_ble_eq_true rfl) ?_
    refine lv_iconst (v := (-1)) hx hb dX1_readName_21 (by decide) ?_
    refine lv_icmp_ne (tgt := 37) hx hb dX1_readName_22 (by decide) (fun c9 => ?_) (fun c9 => ?_)
    · have dc9 : r6.toInt ≠ (-1) := ne_i (a := r6.toInt) (b := (-1)) rfl rfl c9
      have k10 : 0 ≤ r6.toInt ∧ r6.toInt ≤ 11 := ⟨ne_lo dc9 t7.1 ⟨Int.le_refl _, Int.le_refl _⟩ (by decide), t7.2⟩
      refine lv_aload_n hx hb dX1_readName_37 rfl (lv_at hl 1 rfl) ?_
      refine lv_iconst (v := 3) hx hb dX1_readName_38 (by decide) ?_
      refine call_Vi (wr := [(h_runnerName, .inl (cJ, 6, .inr (.inl f_runnerName))), (h_p0_bytes, .inl (cB, 940, .inl f_p0_bytes)), (h_p0_wordNames, .inl (cJ, 23, .inr (.inl f_p0_wordNames))), (h0, .inr (1, vL 18 Fh)), (h_manName, .inl (cJ, 12, .inr (.inl f_manName)))]) (As := [.int 3]) (rest := []) hx hb hml hown hw (m_X6_fail l D cI cJ cB cP cM cZ p0 F_p0_ x_p0_place 3 _ e_p0_place) wV_X1_128_X6_fail dX1_readName_39 hK hP hD hS hA [3] [0, 1, 2, 4, 5] rfl rfl (by decide) (by decide) (by decide) 0 6 rfl rfl GG.fb hG.at hl.1 rfl (Nat.le_of_ble_eq_true rfl) ⟨(Nat.le_of_ble_eq_true rfl), (Nat.le_of_ble_eq_true rfl)⟩ ⟨(Nat.le_of_ble_eq_true rfl), (Nat.le_of_ble_eq_true rfl)⟩ (fun r11 u H locs hp hP hD hS => ?_)
      have zl3 : (3 : Int32).toInt = 3 := by decide
      obtain ⟨F12, t13, t14, t15, rfl, rfl⟩ := hp
      have hP : va_P D vwCl [(h_runnerName, .inl (cJ, 6, .inr (.inl f_runnerName))), (h_p0_bytes, .inl (cB, 940, .inl f_p0_bytes)), (h_p0_wordNames, .inl (cJ, 23, .inr (.inl f_p0_wordNames))), (h0, .inr (1, vL 18 Fh)), (h_manName, .inl (cJ, 12, .inr (.inl f_manName))), (p0, .inr (6, vL 12 F12))] H := hP
      have hD : va_D A [(h_runnerName, .inl (cJ, 6, .inr (.inl f_runnerName))), (h_p0_bytes, .inl (cB, 940, .inl f_p0_bytes)), (h_p0_wordNames, .inl (cJ, 23, .inr (.inl f_p0_wordNames))), (h0, .inr (1, vL 18 Fh)), (h_manName, .inl (cJ, 12, .inr (.inl f_manName))), (p0, .inr (6, vL 12 F12))] := hD
      refine W.widen (k := 0) (n := 0) (Nat.le_of_ble_eq_true rfl) (Nat.le_of_ble_eq_true rfl) ?_
      exact ret_i (v := 0) hx hb hr hlocks hS (hP.sub (ws' := [(h0, .inr (1, vL 18 Fh)), (h_manName, .inl (cJ, 12, .inr (.inl f_manName))), (h_runnerName, .inl (cJ, 6, .inr (.inl f_runnerName))), (p0, .inr (6, vL 12 F12)), (h_p0_bytes, .inl (cB, 940, .inl f_p0_bytes)), (h_p0_wordNames, .inl (cJ, 23, .inr (.inl f_p0_wordNames)))]) [3, 4, 0, 5, 1, 2] rfl) (hD.sub (ws' := [(h0, .inr (1, vL 18 Fh)), (h_manName, .inl (cJ, 12, .inr (.inl f_manName))), (h_runnerName, .inl (cJ, 6, .inr (.inl f_runnerName))), (p0, .inr (6, vL 12 F12)), (h_p0_bytes, .inl (cB, 940, .inl f_p0_bytes)), (h_p0_wordNames, .inl (cJ, 23, .inr (.inl f_p0_wordNames)))]) [3, 4, 0, 5, 1, 2] (by decide) rfl) dX1_readName_42 rfl (Nat.le_of_ble_eq_true rfl) (Nat.le_of_ble_eq_true rfl) ⟨F12, x_p0_kind, x_p0_place, x_p0_value, x_p0_name, 3, x_p0_place, x_p0_at, f_manName, (SAME.tr SAME.rf t13 (by decide)), (SAME.at t13 (by decide) e_p0_kind), (SAME.at t13 (by decide) e_p0_place), (SAME.at t13 (by decide) e_p0_value), (SAME.at t13 (by decide) e_p0_name), t14, t15, (SAME.at t13 (by decide) e_p0_at), i_x_p0_at, (show 0 ≤ (0 : Int32).toInt ∧ (0 : Int32).toInt ≤ 1 by decide), rfl⟩
    · have dc9 : r6.toInt = (-1) := eq_i (a := r6.toInt) (b := (-1)) rfl rfl c9
      have k17 : (-1) ≤ r6.toInt ∧ r6.toInt ≤ (-1) := ⟨t7.1, Int.le_trans (Int.le_of_eq dc9) (Int.le_refl _)⟩
      refine lv_aload_n hx hb dX1_readName_25 rfl (lv_at hl 0 rfl) ?_
      refine lv_aload_n hx hb dX1_readName_26 rfl (lv_at hl 1 rfl) ?_
      refine get_f (D := D) (ci := 6) (v := .long x_p0_name) (C := RX6) (T := TX6) (N := 12) hx hb hw inAX6 hown hK hP 3 rfl rfl 5 (by decide) (hw _ q_101) (fun _ h9 => h9) e_p0_name dX1_readName_27 ?_
      refine call_Vi (wr := [(h_p0_bytes, .inl (cB, 940, .inl f_p0_bytes)), (h_p0_wordNames, .inl (cJ, 23, .inr (.inl f_p0_wordNames))), (p0, .inr (6, vL 12 F_p0_)), (h_manName, .inl (cJ, 12, .inr (.inl f_manName)))]) (As := [.long x_p0_name]) (rest := []) hx hb hml hown hw (m_X1_runnerNamed l D cI cJ cB cP cM cZ h0 h_runnerName Fh x_runners f_runnerName x_p0_name _ e_runnerName e_runners i_x_runners) wV_X1_160_X1_runnerNamed dX1_readName_30 hK hP hD hS hA [4, 0] [1, 2, 3, 5] rfl rfl (by decide) (by decide) (by decide) 0 1 rfl rfl GG.fb hG.at hl.1 rfl (Nat.le_of_ble_eq_true rfl) ⟨(Nat.le_of_ble_eq_true rfl), (Nat.le_of_ble_eq_true rfl)⟩ ⟨(Nat.le_of_ble_eq_true rfl), (Nat.le_of_ble_eq_true rfl)⟩ (fun r18 u H locs hp hP hD hS => ?_)
      obtain ⟨t19, rfl⟩ := hp
      have hP : va_P D vwCl [(h_p0_bytes, .inl (cB, 940, .inl f_p0_bytes)), (h_p0_wordNames, .inl (cJ, 23, .inr (.inl f_p0_wordNames))), (p0, .inr (6, vL 12 F_p0_)), (h_manName, .inl (cJ, 12, .inr (.inl f_manName))), (h0, .inr (1, vL 18 Fh)), (h_runnerName, .inl (cJ, 6, .inr (.inl f_runnerName)))] H := hP
      have hD : va_D A [(h_p0_bytes, .inl (cB, 940, .inl f_p0_bytes)), (h_p0_wordNames, .inl (cJ, 23, .inr (.inl f_p0_wordNames))), (p0, .inr (6, vL 12 F_p0_)), (h_manName, .inl (cJ, 12, .inr (.inl f_manName))), (h0, .inr (1, vL 18 Fh)), (h_runnerName, .inl (cJ, 6, .inr (.inl f_runnerName)))] := hD
      refine W.widen (k := 0) (n := 0) (Nat.le_of_ble_eq_true rfl) (Nat.le_of_ble_eq_true rfl) ?_
      refine lv_iconst (v := (-1)) hx hb dX1_readName_33 (by decide) ?_
      refine lv_icmp_eq (tgt := 43) hx hb dX1_readName_34 (by decide) (fun c21 => ?_) (fun c21 => ?_)
      · have dc21 : r18.toInt = (-1) := eq_i (a := r18.toInt) (b := (-1)) rfl rfl c21
        have k22 : (-1) ≤ r18.toInt ∧ r18.toInt ≤ (-1) := ⟨t19.1, Int.le_trans (Int.le_of_eq dc21) (Int.le_refl _)⟩
        refine lv_aload_n hx hb dX1_readName_43 rfl (lv_at hl 2 rfl) ?_
        refine lv_iload_n hx hb dX1_readName_44 rfl (lv_at hl 3 rfl) ?_
        refine lv_aload_n hx hb dX1_readName_45 rfl (lv_at hl 1 rfl) ?_
        refine get_f (D := D) (ci := 6) (v := .long x_p0_name) (C := RX6) (T := TX6) (N := 12) hx hb hw inAX6 hown hK hP 2 rfl rfl 5 (by decide) (hw _ q_101) (fun _ h9 => h9) e_p0_name dX1_readName_46 ?_
        obtain ⟨g23, eg23⟩ : ∃ z : Nat → Int64, vp_updL f_manName p2.toNatClampNeg x_p0_name = z := ⟨_, rfl⟩
        refine last_g hx hb hK hP hD hS 3 1 rfl rfl (ix_k i_p2 (by decide) (by decide)) eg23 dX1_readName_49 (fun H locs hP hD hS => ?_)
        have hP : va_P D vwCl [(h_p0_bytes, .inl (cB, 940, .inl f_p0_bytes)), (h_p0_wordNames, .inl (cJ, 23, .inr (.inl f_p0_wordNames))), (p0, .inr (6, vL 12 F_p0_)), (h_manName, .inl (cJ, 12, .inr (.inl g23))), (h0, .inr (1, vL 18 Fh)), (h_runnerName, .inl (cJ, 6, .inr (.inl f_runnerName)))] H := hP
        have hD : va_D A [(h_p0_bytes, .inl (cB, 940, .inl f_p0_bytes)), (h_p0_wordNames, .inl (cJ, 23, .inr (.inl f_p0_wordNames))), (p0, .inr (6, vL 12 F_p0_)), (h_manName, .inl (cJ, 12, .inr (.inl g23))), (h0, .inr (1, vL 18 Fh)), (h_runnerName, .inl (cJ, 6, .inr (.inl f_runnerName)))] := hD
        refine lv_aload_n hx hb dX1_readName_50 rfl (lv_at hl 1 rfl) ?_
        refine call_Vv (wr := [(h_manName, .inl (cJ, 12, .inr (.inl g23))), (h0, .inr (1, vL 18 Fh)), (h_runnerName, .inl (cJ, 6, .inr (.inl f_runnerName)))]) (As := []) (rest := []) hx hb hml hown hw (m_X6_advance l D cI cJ cB cP cM cZ p0 h_p0_bytes h_p0_wordNames F_p0_ x_p0_length x_p0_value x_p0_name x_p0_at x_p0_mostBytes f_p0_bytes f_p0_wordNames _ e_p0_bytes e_p0_length i_x_p0_length e_p0_value e_p0_name e_p0_wordNames e_p0_at i_x_p0_at e_p0_mostBytes) wV_X1_131_X6_advance dX1_readName_51 hK hP hD hS hA [2, 0, 1] [3, 4, 5] rfl rfl (by decide) (by decide) (by decide) 0 6 rfl rfl GG.fb hG.at hl.1 rfl (Nat.le_of_ble_eq_true rfl) ⟨(Nat.le_of_ble_eq_true rfl), (Nat.le_of_ble_eq_true rfl)⟩ ⟨(Nat.le_of_ble_eq_true rfl), (Nat.le_of_ble_eq_true rfl)⟩ (fun u H locs hp hP hD hS => ?_)
        obtain ⟨F25, y26, y27, y28, y29, y30, t31, t32, t33, t34, t35, t36, t37, t38, rfl⟩ := hp
        have hP : va_P D vwCl [(h_manName, .inl (cJ, 12, .inr (.inl g23))), (h0, .inr (1, vL 18 Fh)), (h_runnerName, .inl (cJ, 6, .inr (.inl f_runnerName))), (p0, .inr (6, vL 12 F25)), (h_p0_bytes, .inl (cB, 940, .inl f_p0_bytes)), (h_p0_wordNames, .inl (cJ, 23, .inr (.inl f_p0_wordNames)))] H := hP
        have hD : va_D A [(h_manName, .inl (cJ, 12, .inr (.inl g23))), (h0, .inr (1, vL 18 Fh)), (h_runnerName, .inl (cJ, 6, .inr (.inl f_runnerName))), (p0, .inr (6, vL 12 F25)), (h_p0_bytes, .inl (cB, 940, .inl f_p0_bytes)), (h_p0_wordNames, .inl (cJ, 23, .inr (.inl f_p0_wordNames)))] := hD
        refine W.widen (k := 0) (n := 0) (Nat.le_of_ble_eq_true rfl) (Nat.le_of_ble_eq_true rfl) ?_
        refine lv_iconst (v := 1) hx hb dX1_readName_54 (by decide) ?_
        exact ret_i (v := 1) hx hb hr hlocks hS (hP.sub (ws' := [(h0, .inr (1, vL 18 Fh)), (h_manName, .inl (cJ, 12, .inr (.inl g23))), (h_runnerName, .inl (cJ, 6, .inr (.inl f_runnerName))), (p0, .inr (6, vL 12 F25)), (h_p0_bytes, .inl (cB, 940, .inl f_p0_bytes)), (h_p0_wordNames, .inl (cJ, 23, .inr (.inl f_p0_wordNames)))]) [1, 0, 2, 3, 4, 5] rfl) (hD.sub (ws' := [(h0, .inr (1, vL 18 Fh)), (h_manName, .inl (cJ, 12, .inr (.inl g23))), (h_runnerName, .inl (cJ, 6, .inr (.inl f_runnerName))), (p0, .inr (6, vL 12 F25)), (h_p0_bytes, .inl (cB, 940, .inl f_p0_bytes)), (h_p0_wordNames, .inl (cJ, 23, .inr (.inl f_p0_wordNames)))]) [1, 0, 2, 3, 4, 5] (by decide) rfl) dX1_readName_55 rfl (Nat.le_of_ble_eq_true rfl) (Nat.le_of_ble_eq_true rfl) ⟨F25, y26, y27, y28, y29, x_p0_faultKind, x_p0_faultPlace, y30, g23, (SAME.tr SAME.rf t31 (by decide)), t32, t33, t35, t36, (SAME.at t31 (by decide) e_p0_faultKind), (SAME.at t31 (by decide) e_p0_faultPlace), t37, t38, (show 0 ≤ (1 : Int32).toInt ∧ (1 : Int32).toInt ≤ 1 by decide), rfl⟩
      · have dc21 : r18.toInt ≠ (-1) := ne_i (a := r18.toInt) (b := (-1)) rfl rfl c21
        have k40 : 0 ≤ r18.toInt ∧ r18.toInt ≤ 5 := ⟨ne_lo dc21 t19.1 ⟨Int.le_refl _, Int.le_refl _⟩ (by decide), t19.2⟩
        refine lv_aload_n hx hb dX1_readName_37 rfl (lv_at hl 1 rfl) ?_
        refine lv_iconst (v := 3) hx hb dX1_readName_38 (by decide) ?_
        refine call_Vi (wr := [(h_p0_bytes, .inl (cB, 940, .inl f_p0_bytes)), (h_p0_wordNames, .inl (cJ, 23, .inr (.inl f_p0_wordNames))), (h_manName, .inl (cJ, 12, .inr (.inl f_manName))), (h0, .inr (1, vL 18 Fh)), (h_runnerName, .inl (cJ, 6, .inr (.inl f_runnerName)))]) (As := [.int 3]) (rest := []) hx hb hml hown hw (m_X6_fail l D cI cJ cB cP cM cZ p0 F_p0_ x_p0_place 3 _ e_p0_place) wV_X1_128_X6_fail dX1_readName_39 hK hP hD hS hA [2] [0, 1, 3, 4, 5] rfl rfl (by decide) (by decide) (by decide) 0 6 rfl rfl GG.fb hG.at hl.1 rfl (Nat.le_of_ble_eq_true rfl) ⟨(Nat.le_of_ble_eq_true rfl), (Nat.le_of_ble_eq_true rfl)⟩ ⟨(Nat.le_of_ble_eq_true rfl), (Nat.le_of_ble_eq_true rfl)⟩ (fun r41 u H locs hp hP hD hS => ?_)
        have zl3 : (3 : Int32).toInt = 3 := by decide
        obtain ⟨F42, t43, t44, t45, rfl, rfl⟩ := hp
        have hP : va_P D vwCl [(h_p0_bytes, .inl (cB, 940, .inl f_p0_bytes)), (h_p0_wordNames, .inl (cJ, 23, .inr (.inl f_p0_wordNames))), (h_manName, .inl (cJ, 12, .inr (.inl f_manName))), (h0, .inr (1, vL 18 Fh)), (h_runnerName, .inl (cJ, 6, .inr (.inl f_runnerName))), (p0, .inr (6, vL 12 F42))] H := hP
        have hD : va_D A [(h_p0_bytes, .inl (cB, 940, .inl f_p0_bytes)), (h_p0_wordNames, .inl (cJ, 23, .inr (.inl f_p0_wordNames))), (h_manName, .inl (cJ, 12, .inr (.inl f_manName))), (h0, .inr (1, vL 18 Fh)), (h_runnerName, .inl (cJ, 6, .inr (.inl f_runnerName))), (p0, .inr (6, vL 12 F42))] := hD
        refine W.widen (k := 0) (n := 0) (Nat.le_of_ble_eq_true rfl) (Nat.le_of_ble_eq_true rfl) ?_
        exact ret_i (v := 0) hx hb hr hlocks hS (hP.sub (ws' := [(h0, .inr (1, vL 18 Fh)), (h_manName, .inl (cJ, 12, .inr (.inl f_manName))), (h_runnerName, .inl (cJ, 6, .inr (.inl f_runnerName))), (p0, .inr (6, vL 12 F42)), (h_p0_bytes, .inl (cB, 940, .inl f_p0_bytes)), (h_p0_wordNames, .inl (cJ, 23, .inr (.inl f_p0_wordNames)))]) [3, 2, 4, 5, 0, 1] rfl) (hD.sub (ws' := [(h0, .inr (1, vL 18 Fh)), (h_manName, .inl (cJ, 12, .inr (.inl f_manName))), (h_runnerName, .inl (cJ, 6, .inr (.inl f_runnerName))), (p0, .inr (6, vL 12 F42)), (h_p0_bytes, .inl (cB, 940, .inl f_p0_bytes)), (h_p0_wordNames, .inl (cJ, 23, .inr (.inl f_p0_wordNames)))]) [3, 2, 4, 5, 0, 1] (by decide) rfl) dX1_readName_42 rfl (Nat.le_of_ble_eq_true rfl) (Nat.le_of_ble_eq_true rfl) ⟨F42, x_p0_kind, x_p0_place, x_p0_value, x_p0_name, 3, x_p0_place, x_p0_at, f_manName, (SAME.tr SAME.rf t43 (by decide)), (SAME.at t43 (by decide) e_p0_kind), (SAME.at t43 (by decide) e_p0_place), (SAME.at t43 (by decide) e_p0_value), (SAME.at t43 (by decide) e_p0_name), t44, t45, (SAME.at t43 (by decide) e_p0_at), i_x_p0_at, (show 0 ≤ (0 : Int32).toInt ∧ (0 : Int32).toInt ≤ 1 by decide), rfl⟩
  · have dc4 : r1.toInt = 0 := eq_i (a := r1.toInt) (b := 0) rfl rfl c4
    have k47 : 0 ≤ r1.toInt ∧ r1.toInt ≤ 0 := ⟨t2.1, Int.le_trans (Int.le_of_eq dc4) (Int.le_refl _)⟩
    refine lv_aload_n hx hb dX1_readName_7 rfl (lv_at hl 1 rfl) ?_
    refine lv_iconst (v := 1) hx hb dX1_readName_8 (by decide) ?_
    refine call_Vi (wr := [(h0, .inr (1, vL 18 Fh)), (h_manName, .inl (cJ, 12, .inr (.inl f_manName))), (h_runnerName, .inl (cJ, 6, .inr (.inl f_runnerName))), (h_p0_bytes, .inl (cB, 940, .inl f_p0_bytes)), (h_p0_wordNames, .inl (cJ, 23, .inr (.inl f_p0_wordNames)))]) (As := [.int 1]) (rest := []) hx hb hml hown hw (m_X6_fail l D cI cJ cB cP cM cZ p0 F_p0_ x_p0_place 1 _ e_p0_place) wV_X1_128_X6_fail dX1_readName_9 hK hP hD hS hA [5] [0, 1, 2, 3, 4] rfl rfl (by decide) (by decide) (by decide) 0 6 rfl rfl GG.fb hG.at hl.1 rfl (Nat.le_of_ble_eq_true rfl) ⟨(Nat.le_of_ble_eq_true rfl), (Nat.le_of_ble_eq_true rfl)⟩ ⟨(Nat.le_of_ble_eq_true rfl), (Nat.le_of_ble_eq_true rfl)⟩ (fun r48 u H locs hp hP hD hS => ?_)
    have zl1 : (1 : Int32).toInt = 1 := by decide
    obtain ⟨F49, t50, t51, t52, rfl, rfl⟩ := hp
    have hP : va_P D vwCl [(h0, .inr (1, vL 18 Fh)), (h_manName, .inl (cJ, 12, .inr (.inl f_manName))), (h_runnerName, .inl (cJ, 6, .inr (.inl f_runnerName))), (h_p0_bytes, .inl (cB, 940, .inl f_p0_bytes)), (h_p0_wordNames, .inl (cJ, 23, .inr (.inl f_p0_wordNames))), (p0, .inr (6, vL 12 F49))] H := hP
    have hD : va_D A [(h0, .inr (1, vL 18 Fh)), (h_manName, .inl (cJ, 12, .inr (.inl f_manName))), (h_runnerName, .inl (cJ, 6, .inr (.inl f_runnerName))), (h_p0_bytes, .inl (cB, 940, .inl f_p0_bytes)), (h_p0_wordNames, .inl (cJ, 23, .inr (.inl f_p0_wordNames))), (p0, .inr (6, vL 12 F49))] := hD
    refine W.widen (k := 0) (n := 0) (Nat.le_of_ble_eq_true rfl) (Nat.le_of_ble_eq_true rfl) ?_
    exact ret_i (v := 0) hx hb hr hlocks hS (hP.sub (ws' := [(h0, .inr (1, vL 18 Fh)), (h_manName, .inl (cJ, 12, .inr (.inl f_manName))), (h_runnerName, .inl (cJ, 6, .inr (.inl f_runnerName))), (p0, .inr (6, vL 12 F49)), (h_p0_bytes, .inl (cB, 940, .inl f_p0_bytes)), (h_p0_wordNames, .inl (cJ, 23, .inr (.inl f_p0_wordNames)))]) [0, 1, 2, 5, 3, 4] rfl) (hD.sub (ws' := [(h0, .inr (1, vL 18 Fh)), (h_manName, .inl (cJ, 12, .inr (.inl f_manName))), (h_runnerName, .inl (cJ, 6, .inr (.inl f_runnerName))), (p0, .inr (6, vL 12 F49)), (h_p0_bytes, .inl (cB, 940, .inl f_p0_bytes)), (h_p0_wordNames, .inl (cJ, 23, .inr (.inl f_p0_wordNames)))]) [0, 1, 2, 5, 3, 4] (by decide) rfl) dX1_readName_12 rfl (Nat.le_of_ble_eq_true rfl) (Nat.le_of_ble_eq_true rfl) ⟨F49, x_p0_kind, x_p0_place, x_p0_value, x_p0_name, 1, x_p0_place, x_p0_at, f_manName, (SAME.tr SAME.rf t50 (by decide)), (SAME.at t50 (by decide) e_p0_kind), (SAME.at t50 (by decide) e_p0_place), (SAME.at t50 (by decide) e_p0_value), (SAME.at t50 (by decide) e_p0_name), t51, t52, (SAME.at t50 (by decide) e_p0_at), i_x_p0_at, (show 0 ≤ (0 : Int32).toInt ∧ (0 : Int32).toInt ≤ 1 by decide), rfl⟩
set_option maxHeartbeats 4000000 in
set_option maxRecDepth 100000 in
theorem m_X6_takeInto_12 (l : Launch) (D : va_G) (cI cJ cB cP cM cZ : ClassId) (h0 : Nat) (h_bytes : Nat) (h_wordNames : Nat) (p0 : Nat) (Fh : Nat → Value) (x_length : Int32) (x_kind : Int32) (x_place : Int32) (x_value : Int32) (x_name : Int64) (x_at : Int32) (x_mostBytes : Int32) (f_bytes : Nat → Int32) (f_wordNames : Nat → Int64) (f_p0 : Nat → Int32) (p1 : Int32) (p2 : Int32) (p3 : Int32) (sz : Nat) (e_bytes : Fh 0 = .ref h_bytes) (e_length : Fh 1 = .int x_length) (i_x_length : IR 0 940 x_length) (e_kind : Fh 2 = .int x_kind) (e_place : Fh 3 = .int x_place) (e_value : Fh 4 = .int x_value) (e_name : Fh 5 = .long x_name) (e_wordNames : Fh 9 = .ref h_wordNames) (e_at : Fh 10 = .int x_at) (i_x_at : IR 0 940 x_at) (e_mostBytes : Fh 11 = .int x_mostBytes) : CI l yX6_takeInto cX6_takeInto 5 (some .boolean) { frames := 2, cells := 0, slots := 0, locals := 43 } (GG D cI cJ cB cP cM cZ) D [(h0, .inr (6, vL 12 Fh)), (h_bytes, .inl (cB, 940, .inl f_bytes)), (h_wordNames, .inl (cJ, 23, .inr (.inl f_wordNames))), (p0, .inl (cI, 12, .inl f_p0))] sz [.ref h0, .ref p0, .int p1, .int p2, .int p3] (fun (r : Int32) (u : va_W) => (∃ (Gh : Nat → Value) (y_faultKind : Int32), SAME [7, 8] Fh Gh ∧ Gh 7 = .int y_faultKind ∧ IR 1 4 y_faultKind ∧ Gh 8 = .int x_place ∧ r = 0 ∧ u = [(h0, .inr (6, vL 12 Gh)), (h_bytes, .inl (cB, 940, .inl f_bytes)), (h_wordNames, .inl (cJ, 23, .inr (.inl f_wordNames))), (p0, .inl (cI, 12, .inl f_p0))]) ∨ (∃ (Gh : Nat → Value) (y_kind : Int32) (y_place : Int32) (y_value : Int32) (y_name : Int64) (y_at : Int32) (g_p0 : Nat → Int32), SAME [2, 3, 4, 5, 10] Fh Gh ∧ Gh 2 = .int y_kind ∧ Gh 3 = .int y_place ∧ IR (-2147483648) 940 y_place ∧ Gh 4 = .int y_value ∧ Gh 5 = .long y_name ∧ Gh 10 = .int y_at ∧ IR 0 940 y_at ∧ 0 ≤ p1.toInt ∧ p1.toInt < 12 ∧ x_kind.toInt = 3 ∧ p2.toInt ≤ x_value.toInt ∧ x_value.toInt ≤ p3.toInt ∧ (upd f_p0 p1.toNatClampNeg x_value = g_p0) ∧ r = 1 ∧ u = [(h0, .inr (6, vL 12 Gh)), (h_bytes, .inl (cB, 940, .inl f_bytes)), (h_wordNames, .inl (cJ, 23, .inr (.inl f_wordNames))), (p0, .inl (cI, 12, .inl g_p0))])) := by
  refine CI_mk (by decide) (Nat.le_of_ble_eq_true rfl) ?_
  intro p e s m below meth c A ls E hAe hG hsz hP hD hA hS hl
  obtain ⟨hx, hb, hr, hw, hown, hlocks, hml, hnm⟩ := E
  have hK := hG.1
  have i_x_length : 0 ≤ x_length.toInt ∧ x_length.toInt ≤ 940 := i_x_length
  have i_x_at : 0 ≤ x_at.toInt ∧ x_at.toInt ≤ 940 := i_x_at
  have hl : lv_has ls 5 [(0, .ref h0), (1, .ref p0), (2, .int p1), (3, .int p2), (4, .int p3)] := hl
  refine lv_iload_n hx hb dX6_takeInto_0 rfl (lv_at hl 2 rfl) ?_
  refine lv_if_lt (tgt := 10) hx hb dX6_takeInto_1 (by decide) (fun c1 => ?_) (fun c1 => ?_)
  · have dc1 : p1.toInt < 0 := lt_i (a := p1.toInt) (b := 0) rfl rfl c1
    have k2 : (-2147483648) ≤ p1.toInt ∧ p1.toInt ≤ (-1) := ⟨(ir_any _).1, up_lt dc1 (Int.le_refl _) (by decide)⟩
    refine lv_aload_n hx hb dX6_takeInto_10 rfl (lv_at hl 0 rfl) ?_
    refine lv_iconst (v := 4) hx hb dX6_takeInto_11 (by decide) ?_
    refine call_Vi (wr := [(h_bytes, .inl (cB, 940, .inl f_bytes)), (h_wordNames, .inl (cJ, 23, .inr (.inl f_wordNames))), (p0, .inl (cI, 12, .inl f_p0))]) (As := [.int 4]) (rest := []) hx hb hml hown hw (m_X6_fail l D cI cJ cB cP cM cZ h0 Fh x_place 4 _ e_place) wV_X6_80_X6_fail dX6_takeInto_12 hK hP hD hS hA [0] [1, 2, 3] rfl rfl (by decide) (by decide) (by decide) 0 6 rfl rfl GG.fb hG.at hl.1 rfl (Nat.le_of_ble_eq_true rfl) ⟨(Nat.le_of_ble_eq_true rfl), (Nat.le_of_ble_eq_true rfl)⟩ ⟨(Nat.le_of_ble_eq_true rfl), (Nat.le_of_ble_eq_true rfl)⟩ (fun r3 u H locs hp hP hD hS => ?_)
    have zl4 : (4 : Int32).toInt = 4 := by decide
    obtain ⟨F4, t5, t6, t7, rfl, rfl⟩ := hp
    have hP : va_P D vwCl [(h_bytes, .inl (cB, 940, .inl f_bytes)), (h_wordNames, .inl (cJ, 23, .inr (.inl f_wordNames))), (p0, .inl (cI, 12, .inl f_p0)), (h0, .inr (6, vL 12 F4))] H := hP
    have hD : va_D A [(h_bytes, .inl (cB, 940, .inl f_bytes)), (h_wordNames, .inl (cJ, 23, .inr (.inl f_wordNames))), (p0, .inl (cI, 12, .inl f_p0)), (h0, .inr (6, vL 12 F4))] := hD
    refine W.widen (k := 0) (n := 0) (Nat.le_of_ble_eq_true rfl) (Nat.le_of_ble_eq_true rfl) ?_
    exact ret_i (v := 0) hx hb hr hlocks hS (hP.sub (ws' := [(h0, .inr (6, vL 12 F4)), (h_bytes, .inl (cB, 940, .inl f_bytes)), (h_wordNames, .inl (cJ, 23, .inr (.inl f_wordNames))), (p0, .inl (cI, 12, .inl f_p0))]) [3, 0, 1, 2] rfl) (hD.sub (ws' := [(h0, .inr (6, vL 12 F4)), (h_bytes, .inl (cB, 940, .inl f_bytes)), (h_wordNames, .inl (cJ, 23, .inr (.inl f_wordNames))), (p0, .inl (cI, 12, .inl f_p0))]) [3, 0, 1, 2] (by decide) rfl) dX6_takeInto_15 rfl (Nat.le_of_ble_eq_true rfl) (Nat.le_of_ble_eq_true rfl) (Or.inl ⟨F4, 4, (SAME.tr SAME.rf t5 (by decide)), t6, (show 1 ≤ (4 : Int32).toInt ∧ (4 : Int32).toInt ≤ 4 by decide), t7, rfl, rfl⟩)
  · have dc1 : 0 ≤ p1.toInt := nlt_i (a := p1.toInt) (b := 0) rfl rfl c1
    have k9 : 0 ≤ p1.toInt ∧ p1.toInt ≤ 2147483647 := ⟨Int.le_trans (Int.le_refl _) dc1, (ir_any _).2⟩
    refine lv_iload_n hx hb dX6_takeInto_4 rfl (lv_at hl 2 rfl) ?_
    refine lv_aload_n hx hb dX6_takeInto_5 rfl (lv_at hl 1 rfl) ?_
    refine va_alen (v := 12) hx hb hK hP 3 0 rfl rfl rfl dX6_takeInto_6 ?_
    refine lv_icmp_lt (tgt := 16) hx hb dX6_takeInto_7 (by decide) (fun c10 => ?_) (fun c10 => ?_)
    · have dc10 : p1.toInt < 12 := lt_i (a := p1.toInt) (b := 12) rfl rfl c10
      have k11 : 0 ≤ p1.toInt ∧ p1.toInt ≤ 11 := ⟨k9.1, up_lt dc10 (Int.le_refl _) (by decide)⟩
      refine lv_aload_n hx hb dX6_takeInto_16 rfl (lv_at hl 0 rfl) ?_
      refine lv_iload_n hx hb dX6_takeInto_17 rfl (lv_at hl 3 rfl) ?_
      refine lv_iload hx hb dX6_takeInto_18 (lv_at hl 4 rfl) ?_
      refine call_Vi (wr := [(h_bytes, .inl (cB, 940, .inl f_bytes)), (h_wordNames, .inl (cJ, 23, .inr (.inl f_wordNames))), (p0, .inl (cI, 12, .inl f_p0))]) (As := [.int p2, .int p3]) (rest := []) hx hb hml hown hw (m_X6_isNumberWithin l D cI cJ cB cP cM cZ h0 Fh x_kind x_place x_value p2 p3 _ e_kind e_place e_value) wV_X6_83_X6_isNumberWithin dX6_takeInto_20 hK hP hD hS hA [0] [1, 2, 3] rfl rfl (by decide) (by decide) (by decide) 0 6 rfl rfl GG.fb hG.at hl.1 rfl (Nat.le_of_ble_eq_true rfl) ⟨(Nat.le_of_ble_eq_true rfl), (Nat.le_of_ble_eq_true rfl)⟩ ⟨(Nat.le_of_ble_eq_true rfl), (Nat.le_of_ble_eq_true rfl)⟩ (fun r12 u H locs hp hP hD hS => ?_)
      rcases hp with ⟨F13, y14, t15, t16, t17, t18, rfl, rfl⟩ | ⟨t19, t20, t21, rfl, rfl⟩
      · have hP : va_P D vwCl [(h_bytes, .inl (cB, 940, .inl f_bytes)), (h_wordNames, .inl (cJ, 23, .inr (.inl f_wordNames))), (p0, .inl (cI, 12, .inl f_p0)), (h0, .inr (6, vL 12 F13))] H := hP
        have hD : va_D A [(h_bytes, .inl (cB, 940, .inl f_bytes)), (h_wordNames, .inl (cJ, 23, .inr (.inl f_wordNames))), (p0, .inl (cI, 12, .inl f_p0)), (h0, .inr (6, vL 12 F13))] := hD
        refine W.widen (k := 0) (n := 0) (Nat.le_of_ble_eq_true rfl) (Nat.le_of_ble_eq_true rfl) ?_
        refine lv_if_ne (tgt := 28) hx hb dX6_takeInto_23 (by decide) (fun g => absurd (by decide) g) (fun _ => ?_)
        refine lv_iconst (v := 0) hx hb dX6_takeInto_26 (by decide) ?_
        exact ret_i (v := 0) hx hb hr hlocks hS (hP.sub (ws' := [(h0, .inr (6, vL 12 F13)), (h_bytes, .inl (cB, 940, .inl f_bytes)), (h_wordNames, .inl (cJ, 23, .inr (.inl f_wordNames))), (p0, .inl (cI, 12, .inl f_p0))]) [3, 0, 1, 2] rfl) (hD.sub (ws' := [(h0, .inr (6, vL 12 F13)), (h_bytes, .inl (cB, 940, .inl f_bytes)), (h_wordNames, .inl (cJ, 23, .inr (.inl f_wordNames))), (p0, .inl (cI, 12, .inl f_p0))]) [3, 0, 1, 2] (by decide) rfl) dX6_takeInto_27 rfl (Nat.le_of_ble_eq_true rfl) (Nat.le_of_ble_eq_true rfl) (Or.inl ⟨F13, y14, (SAME.tr SAME.rf t15 (by decide)), t16, (ir_wk t17 (by decide) (by decide)), t18, rfl, rfl⟩)
      · have hP : va_P D vwCl [(h_bytes, .inl (cB, 940, .inl f_bytes)), (h_wordNames, .inl (cJ, 23, .inr (.inl f_wordNames))), (p0, .inl (cI, 12, .inl f_p0)), (h0, .inr (6, vL 12 Fh))] H := hP
        have hD : va_D A [(h_bytes, .inl (cB, 940, .inl f_bytes)), (h_wordNames, .inl (cJ, 23, .inr (.inl f_wordNames))), (p0, .inl (cI, 12, .inl f_p0)), (h0, .inr (6, vL 12 Fh))] := hD
        refine W.widen (k := 0) (n := 0) (Nat.le_of_ble_eq_true rfl) (Nat.le_of_ble_eq_true rfl) ?_
        have k23 : 3 ≤ x_kind.toInt ∧ x_kind.toInt ≤ 3 := ⟨Int.le_trans (Int.le_refl _) (Int.le_of_eq t19.symm), Int.le_trans (Int.le_of_eq t19) (Int.le_refl _)⟩
        refine lv_if_ne (tgt := 28) hx hb dX6_takeInto_23 (by decide) (fun _ => ?_) (fun g => absurd g (by decide))
        refine lv_aload_n hx hb dX6_takeInto_28 rfl (lv_at hl 1 rfl) ?_
        refine lv_iload_n hx hb dX6_takeInto_29 rfl (lv_at hl 2 rfl) ?_
        refine lv_aload_n hx hb dX6_takeInto_30 rfl (lv_at hl 0 rfl) ?_
        refine get_f (D := D) (ci := 6) (v := .int x_value) (C := RX6) (T := TX6) (N := 12) hx hb hw inAX6 hown hK hP 3 rfl rfl 4 (by decide) (hw _ q_97) (fun _ h9 => h9) e_value dX6_takeInto_31 ?_
        obtain ⟨g24, eg24⟩ : ∃ z : Nat → Int32, upd f_p0 p1.toNatClampNeg x_value = z := ⟨_, rfl⟩
        refine iast_g hx hb hK hP hD hS 2 0 rfl rfl (ix_k k11 (by decide) (by decide)) eg24 dX6_takeInto_34 (fun H locs hP hD hS => ?_)
        have hP : va_P D vwCl [(h_bytes, .inl (cB, 940, .inl f_bytes)), (h_wordNames, .inl (cJ, 23, .inr (.inl f_wordNames))), (p0, .inl (cI, 12, .inl g24)), (h0, .inr (6, vL 12 Fh))] H := hP
        have hD : va_D A [(h_bytes, .inl (cB, 940, .inl f_bytes)), (h_wordNames, .inl (cJ, 23, .inr (.inl f_wordNames))), (p0, .inl (cI, 12, .inl g24)), (h0, .inr (6, vL 12 Fh))] := hD
        refine lv_aload_n hx hb dX6_takeInto_35 rfl (lv_at hl 0 rfl) ?_
        refine call_Vv (wr := [(p0, .inl (cI, 12, .inl g24))]) (As := []) (rest := []) hx hb hml hown hw (m_X6_advance l D cI cJ cB cP cM cZ h0 h_bytes h_wordNames Fh x_length x_value x_name x_at x_mostBytes f_bytes f_wordNames _ e_bytes e_length i_x_length e_value e_name e_wordNames e_at i_x_at e_mostBytes) wV_X6_66_X6_advance dX6_takeInto_36 hK hP hD hS hA [3, 0, 1] [2] rfl rfl (by decide) (by decide) (by decide) 0 6 rfl rfl GG.fb hG.at hl.1 rfl (Nat.le_of_ble_eq_true rfl) ⟨(Nat.le_of_ble_eq_true rfl), (Nat.le_of_ble_eq_true rfl)⟩ ⟨(Nat.le_of_ble_eq_true rfl), (Nat.le_of_ble_eq_true rfl)⟩ (fun u H locs hp hP hD hS => ?_)
        obtain ⟨F26, y27, y28, y29, y30, y31, t32, t33, t34, t35, t36, t37, t38, t39, rfl⟩ := hp
        have hP : va_P D vwCl [(p0, .inl (cI, 12, .inl g24)), (h0, .inr (6, vL 12 F26)), (h_bytes, .inl (cB, 940, .inl f_bytes)), (h_wordNames, .inl (cJ, 23, .inr (.inl f_wordNames)))] H := hP
        have hD : va_D A [(p0, .inl (cI, 12, .inl g24)), (h0, .inr (6, vL 12 F26)), (h_bytes, .inl (cB, 940, .inl f_bytes)), (h_wordNames, .inl (cJ, 23, .inr (.inl f_wordNames)))] := hD
        refine W.widen (k := 0) (n := 0) (Nat.le_of_ble_eq_true rfl) (Nat.le_of_ble_eq_true rfl) ?_
        refine lv_iconst (v := 1) hx hb dX6_takeInto_39 (by decide) ?_
        exact ret_i (v := 1) hx hb hr hlocks hS (hP.sub (ws' := [(h0, .inr (6, vL 12 F26)), (h_bytes, .inl (cB, 940, .inl f_bytes)), (h_wordNames, .inl (cJ, 23, .inr (.inl f_wordNames))), (p0, .inl (cI, 12, .inl g24))]) [1, 2, 3, 0] rfl) (hD.sub (ws' := [(h0, .inr (6, vL 12 F26)), (h_bytes, .inl (cB, 940, .inl f_bytes)), (h_wordNames, .inl (cJ, 23, .inr (.inl f_wordNames))), (p0, .inl (cI, 12, .inl g24))]) [1, 2, 3, 0] (by decide) rfl) dX6_takeInto_40 rfl (Nat.le_of_ble_eq_true rfl) (Nat.le_of_ble_eq_true rfl) (Or.inr ⟨F26, y27, y28, y29, y30, y31, g24, (SAME.tr SAME.rf t32 (by decide)), t33, t34, t35, t36, t37, t38, t39, dc1, dc10, t19, t20, t21, eg24, rfl, rfl⟩)
    · have dc10 : 12 ≤ p1.toInt := nlt_i (a := p1.toInt) (b := 12) rfl rfl c10
      have k41 : 12 ≤ p1.toInt ∧ p1.toInt ≤ 2147483647 := ⟨Int.le_trans (Int.le_refl _) dc10, k9.2⟩
      refine lv_aload_n hx hb dX6_takeInto_10 rfl (lv_at hl 0 rfl) ?_
      refine lv_iconst (v := 4) hx hb dX6_takeInto_11 (by decide) ?_
      refine call_Vi (wr := [(h_bytes, .inl (cB, 940, .inl f_bytes)), (h_wordNames, .inl (cJ, 23, .inr (.inl f_wordNames))), (p0, .inl (cI, 12, .inl f_p0))]) (As := [.int 4]) (rest := []) hx hb hml hown hw (m_X6_fail l D cI cJ cB cP cM cZ h0 Fh x_place 4 _ e_place) wV_X6_80_X6_fail dX6_takeInto_12 hK hP hD hS hA [0] [1, 2, 3] rfl rfl (by decide) (by decide) (by decide) 0 6 rfl rfl GG.fb hG.at hl.1 rfl (Nat.le_of_ble_eq_true rfl) ⟨(Nat.le_of_ble_eq_true rfl), (Nat.le_of_ble_eq_true rfl)⟩ ⟨(Nat.le_of_ble_eq_true rfl), (Nat.le_of_ble_eq_true rfl)⟩ (fun r42 u H locs hp hP hD hS => ?_)
      have zl4 : (4 : Int32).toInt = 4 := by decide
      obtain ⟨F43, t44, t45, t46, rfl, rfl⟩ := hp
      have hP : va_P D vwCl [(h_bytes, .inl (cB, 940, .inl f_bytes)), (h_wordNames, .inl (cJ, 23, .inr (.inl f_wordNames))), (p0, .inl (cI, 12, .inl f_p0)), (h0, .inr (6, vL 12 F43))] H := hP
      have hD : va_D A [(h_bytes, .inl (cB, 940, .inl f_bytes)), (h_wordNames, .inl (cJ, 23, .inr (.inl f_wordNames))), (p0, .inl (cI, 12, .inl f_p0)), (h0, .inr (6, vL 12 F43))] := hD
      refine W.widen (k := 0) (n := 0) (Nat.le_of_ble_eq_true rfl) (Nat.le_of_ble_eq_true rfl) ?_
      exact ret_i (v := 0) hx hb hr hlocks hS (hP.sub (ws' := [(h0, .inr (6, vL 12 F43)), (h_bytes, .inl (cB, 940, .inl f_bytes)), (h_wordNames, .inl (cJ, 23, .inr (.inl f_wordNames))), (p0, .inl (cI, 12, .inl f_p0))]) [3, 0, 1, 2] rfl) (hD.sub (ws' := [(h0, .inr (6, vL 12 F43)), (h_bytes, .inl (cB, 940, .inl f_bytes)), (h_wordNames, .inl (cJ, 23, .inr (.inl f_wordNames))), (p0, .inl (cI, 12, .inl f_p0))]) [3, 0, 1, 2] (by decide) rfl) dX6_takeInto_15 rfl (Nat.le_of_ble_eq_true rfl) (Nat.le_of_ble_eq_true rfl) (Or.inl ⟨F43, 4, (SAME.tr SAME.rf t44 (by decide)), t45, (show 1 ≤ (4 : Int32).toInt ∧ (4 : Int32).toInt ≤ 4 by decide), t46, rfl, rfl⟩)
set_option maxHeartbeats 4000000 in
set_option maxRecDepth 100000 in
theorem m_X1_readMan (l : Launch) (D : va_G) (cI cJ cB cP cM cZ : ClassId) (h0 : Nat) (h_manName : Nat) (h_push : Nat) (h_feet : Nat) (h_weight : Nat) (h_runnerName : Nat) (p0 : Nat) (h_p0_bytes : Nat) (h_p0_wordNames : Nat) (Fh : Nat → Value) (x_men : Int32) (x_runners : Int32) (f_manName : Nat → Int64) (f_push : Nat → Int32) (f_feet : Nat → Int32) (f_weight : Nat → Int32) (f_runnerName : Nat → Int64) (F_p0_ : Nat → Value) (x_p0_length : Int32) (x_p0_kind : Int32) (x_p0_place : Int32) (x_p0_value : Int32) (x_p0_name : Int64) (x_p0_faultKind : Int32) (x_p0_faultPlace : Int32) (x_p0_at : Int32) (x_p0_mostBytes : Int32) (f_p0_bytes : Nat → Int32) (f_p0_wordNames : Nat → Int64) (sz : Nat) (e_manName : Fh 2 = .ref h_manName) (e_push : Fh 3 = .ref h_push) (e_feet : Fh 4 = .ref h_feet) (e_weight : Fh 5 = .ref h_weight) (e_runnerName : Fh 10 = .ref h_runnerName) (e_men : Fh 13 = .int x_men) (i_x_men : IR 0 12 x_men) (e_runners : Fh 15 = .int x_runners) (i_x_runners : IR 0 6 x_runners) (e_p0_bytes : F_p0_ 0 = .ref h_p0_bytes) (e_p0_length : F_p0_ 1 = .int x_p0_length) (i_x_p0_length : IR 0 940 x_p0_length) (e_p0_kind : F_p0_ 2 = .int x_p0_kind) (e_p0_place : F_p0_ 3 = .int x_p0_place) (e_p0_value : F_p0_ 4 = .int x_p0_value) (e_p0_name : F_p0_ 5 = .long x_p0_name) (e_p0_faultKind : F_p0_ 7 = .int x_p0_faultKind) (e_p0_faultPlace : F_p0_ 8 = .int x_p0_faultPlace) (e_p0_wordNames : F_p0_ 9 = .ref h_p0_wordNames) (e_p0_at : F_p0_ 10 = .int x_p0_at) (i_x_p0_at : IR 0 940 x_p0_at) (e_p0_mostBytes : F_p0_ 11 = .int x_p0_mostBytes) : CI l yX1_readMan cX1_readMan 3 (some .boolean) { frames := 3, cells := 0, slots := 0, locals := 69 } (GG D cI cJ cB cP cM cZ) D [(h0, .inr (1, vL 18 Fh)), (h_manName, .inl (cJ, 12, .inr (.inl f_manName))), (h_push, .inl (cI, 12, .inl f_push)), (h_feet, .inl (cI, 12, .inl f_feet)), (h_weight, .inl (cI, 12, .inl f_weight)), (h_runnerName, .inl (cJ, 6, .inr (.inl f_runnerName))), (p0, .inr (6, vL 12 F_p0_)), (h_p0_bytes, .inl (cB, 940, .inl f_p0_bytes)), (h_p0_wordNames, .inl (cJ, 23, .inr (.inl f_p0_wordNames)))] sz [.ref h0, .ref p0] (fun (r : Int32) (u : va_W) => ∃ (Gh : Nat → Value) (y_men : Int32) (G_p0_ : Nat → Value) (y_p0_kind : Int32) (y_p0_place : Int32) (y_p0_value : Int32) (y_p0_name : Int64) (y_p0_faultKind : Int32) (y_p0_faultPlace : Int32) (y_p0_at : Int32) (g_manName : Nat → Int64) (g_push : Nat → Int32) (g_feet : Nat → Int32) (g_weight : Nat → Int32), SAME [13] Fh Gh ∧ Gh 13 = .int y_men ∧ IR 0 12 y_men ∧ SAME [2, 3, 4, 5, 7, 8, 10] F_p0_ G_p0_ ∧ G_p0_ 2 = .int y_p0_kind ∧ G_p0_ 3 = .int y_p0_place ∧ G_p0_ 4 = .int y_p0_value ∧ G_p0_ 5 = .long y_p0_name ∧ G_p0_ 7 = .int y_p0_faultKind ∧ G_p0_ 8 = .int y_p0_faultPlace ∧ G_p0_ 10 = .int y_p0_at ∧ IR 0 940 y_p0_at ∧ IR 0 1 r ∧ u = [(h0, .inr (1, vL 18 Gh)), (h_manName, .inl (cJ, 12, .inr (.inl g_manName))), (h_push, .inl (cI, 12, .inl g_push)), (h_feet, .inl (cI, 12, .inl g_feet)), (h_weight, .inl (cI, 12, .inl g_weight)), (h_runnerName, .inl (cJ, 6, .inr (.inl f_runnerName))), (p0, .inr (6, vL 12 G_p0_)), (h_p0_bytes, .inl (cB, 940, .inl f_p0_bytes)), (h_p0_wordNames, .inl (cJ, 23, .inr (.inl f_p0_wordNames)))]) := by
  refine CI_mk (by decide) (Nat.le_of_ble_eq_true rfl) ?_
  intro p e s m below meth c A ls E hAe hG hsz hP hD hA hS hl
  obtain ⟨hx, hb, hr, hw, hown, hlocks, hml, hnm⟩ := E
  have hK := hG.1
  have i_x_men : 0 ≤ x_men.toInt ∧ x_men.toInt ≤ 12 := i_x_men
  have i_x_runners : 0 ≤ x_runners.toInt ∧ x_runners.toInt ≤ 6 := i_x_runners
  have i_x_p0_length : 0 ≤ x_p0_length.toInt ∧ x_p0_length.toInt ≤ 940 := i_x_p0_length
  have i_x_p0_at : 0 ≤ x_p0_at.toInt ∧ x_p0_at.toInt ≤ 940 := i_x_p0_at
  have hl : lv_has ls 3 [(0, .ref h0), (1, .ref p0)] := hl
  refine lv_aload_n hx hb dX1_readMan_0 rfl (lv_at hl 0 rfl) ?_
  refine get_f (D := D) (ci := 1) (v := .int x_men) (C := RX1) (T := TX1) (N := 18) hx hb hw inAX1 hown hK hP 0 rfl rfl 13 (by decide) (hw _ q_352) (fun _ h9 => h9) e_men dX1_readMan_1 ?_
  refine lv_bipush (v := 12) hx hb dX1_readMan_4 (by decide) ?_
  refine lv_icmp_lt (tgt := 15) hx hb dX1_readMan_6 (by decide) (fun c1 => ?_) (fun c1 => ?_)
  · have dc1 : x_men.toInt < 12 := lt_i (a := x_men.toInt) (b := 12) rfl rfl c1
    have k2 : 0 ≤ x_men.toInt ∧ x_men.toInt ≤ 11 := ⟨i_x_men.1, up_lt dc1 (Int.le_refl _) (by decide)⟩
    refine lv_aload_n hx hb dX1_readMan_15 rfl (lv_at hl 1 rfl) ?_
    refine call_Vv (wr := [(h0, .inr (1, vL 18 Fh)), (h_manName, .inl (cJ, 12, .inr (.inl f_manName))), (h_push, .inl (cI, 12, .inl f_push)), (h_feet, .inl (cI, 12, .inl f_feet)), (h_weight, .inl (cI, 12, .inl f_weight)), (h_runnerName, .inl (cJ, 6, .inr (.inl f_runnerName)))]) (As := []) (rest := []) hx hb hml hown hw (m_X6_advance l D cI cJ cB cP cM cZ p0 h_p0_bytes h_p0_wordNames F_p0_ x_p0_length x_p0_value x_p0_name x_p0_at x_p0_mostBytes f_p0_bytes f_p0_wordNames _ e_p0_bytes e_p0_length i_x_p0_length e_p0_value e_p0_name e_p0_wordNames e_p0_at i_x_p0_at e_p0_mostBytes) wV_X1_131_X6_advance dX1_readMan_16 hK hP hD hS hA [6, 7, 8] [0, 1, 2, 3, 4, 5] rfl rfl (by decide) (by decide) (by decide) 0 6 rfl rfl GG.fb hG.at hl.1 rfl (Nat.le_of_ble_eq_true rfl) ⟨(Nat.le_of_ble_eq_true rfl), (Nat.le_of_ble_eq_true rfl)⟩ ⟨(Nat.le_of_ble_eq_true rfl), (Nat.le_of_ble_eq_true rfl)⟩ (fun u H locs hp hP hD hS => ?_)
    obtain ⟨F4, y5, y6, y7, y8, y9, t10, t11, t12, t13, t14, t15, t16, t17, rfl⟩ := hp
    have hP : va_P D vwCl [(h0, .inr (1, vL 18 Fh)), (h_manName, .inl (cJ, 12, .inr (.inl f_manName))), (h_push, .inl (cI, 12, .inl f_push)), (h_feet, .inl (cI, 12, .inl f_feet)), (h_weight, .inl (cI, 12, .inl f_weight)), (h_runnerName, .inl (cJ, 6, .inr (.inl f_runnerName))), (p0, .inr (6, vL 12 F4)), (h_p0_bytes, .inl (cB, 940, .inl f_p0_bytes)), (h_p0_wordNames, .inl (cJ, 23, .inr (.inl f_p0_wordNames)))] H := hP
    have hD : va_D A [(h0, .inr (1, vL 18 Fh)), (h_manName, .inl (cJ, 12, .inr (.inl f_manName))), (h_push, .inl (cI, 12, .inl f_push)), (h_feet, .inl (cI, 12, .inl f_feet)), (h_weight, .inl (cI, 12, .inl f_weight)), (h_runnerName, .inl (cJ, 6, .inr (.inl f_runnerName))), (p0, .inr (6, vL 12 F4)), (h_p0_bytes, .inl (cB, 940, .inl f_p0_bytes)), (h_p0_wordNames, .inl (cJ, 23, .inr (.inl f_p0_wordNames)))] := hD
    refine W.widen (k := 0) (n := 0) (Nat.le_of_ble_eq_true rfl) (Nat.le_of_ble_eq_true rfl) ?_
    refine lv_aload_n hx hb dX1_readMan_19 rfl (lv_at hl 0 rfl) ?_
    refine lv_aload_n hx hb dX1_readMan_20 rfl (lv_at hl 1 rfl) ?_
    refine lv_aload_n hx hb dX1_readMan_21 rfl (lv_at hl 0 rfl) ?_
    refine get_f (D := D) (ci := 1) (v := .ref h_manName) (C := RX1) (T := TX1) (N := 18) hx hb hw inAX1 hown hK hP 0 rfl rfl 2 (by decide) (hw _ q_320) (fun _ h9 => h9) e_manName dX1_readMan_22 ?_
    refine lv_aload_n hx hb dX1_readMan_25 rfl (lv_at hl 0 rfl) ?_
    refine get_f (D := D) (ci := 1) (v := .int x_men) (C := RX1) (T := TX1) (N := 18) hx hb hw inAX1 hown hK hP 0 rfl rfl 13 (by decide) (hw _ q_352) (fun _ h9 => h9) e_men dX1_readMan_26 ?_
    have n19 : F4 0 = .ref h_p0_bytes := (SAME.at t10 (by decide) e_p0_bytes)
    have n20 : F4 1 = .int x_p0_length := (SAME.at t10 (by decide) e_p0_length)
    have n21 : F4 7 = .int x_p0_faultKind := (SAME.at t10 (by decide) e_p0_faultKind)
    have n22 : F4 8 = .int x_p0_faultPlace := (SAME.at t10 (by decide) e_p0_faultPlace)
    have n23 : F4 9 = .ref h_p0_wordNames := (SAME.at t10 (by decide) e_p0_wordNames)
    have n24 : F4 11 = .int x_p0_mostBytes := (SAME.at t10 (by decide) e_p0_mostBytes)
    refine call_Vi (wr := [(h_push, .inl (cI, 12, .inl f_push)), (h_feet, .inl (cI, 12, .inl f_feet)), (h_weight, .inl (cI, 12, .inl f_weight))]) (As := [.ref p0, .ref h_manName, .int x_men]) (rest := []) hx hb hml hown hw (m_X1_readName_manName l D cI cJ cB cP cM cZ h0 h_manName h_runnerName p0 h_p0_bytes h_p0_wordNames Fh x_men x_runners f_manName f_runnerName F4 x_p0_length y5 y6 y7 y8 x_p0_faultKind x_p0_faultPlace y9 x_p0_mostBytes f_p0_bytes f_p0_wordNames x_men _ e_manName e_runnerName e_men (ir_wk k2 (by decide) (by decide)) e_runners i_x_runners n19 n20 i_x_p0_length t11 t12 t14 t15 n21 n22 n23 t16 t17 n24 k2) wV_X1_144_X1_readName dX1_readMan_29 hK hP hD hS hA [0, 1, 5, 6, 7, 8] [2, 3, 4] rfl rfl (by decide) (by decide) (by decide) 0 1 rfl rfl GG.fb hG.at hl.1 rfl (Nat.le_of_ble_eq_true rfl) ⟨(Nat.le_of_ble_eq_true rfl), (Nat.le_of_ble_eq_true rfl)⟩ ⟨(Nat.le_of_ble_eq_true rfl), (Nat.le_of_ble_eq_true rfl)⟩ (fun r25 u H locs hp hP hD hS => ?_)
    obtain ⟨F26, y27, y28, y29, y30, y31, y32, y33, g34, t35, t36, t37, t38, t39, t40, t41, t42, t43, t44, rfl⟩ := hp
    have hP : va_P D vwCl [(h_push, .inl (cI, 12, .inl f_push)), (h_feet, .inl (cI, 12, .inl f_feet)), (h_weight, .inl (cI, 12, .inl f_weight)), (h0, .inr (1, vL 18 Fh)), (h_manName, .inl (cJ, 12, .inr (.inl g34))), (h_runnerName, .inl (cJ, 6, .inr (.inl f_runnerName))), (p0, .inr (6, vL 12 F26)), (h_p0_bytes, .inl (cB, 940, .inl f_p0_bytes)), (h_p0_wordNames, .inl (cJ, 23, .inr (.inl f_p0_wordNames)))] H := hP
    have hD : va_D A [(h_push, .inl (cI, 12, .inl f_push)), (h_feet, .inl (cI, 12, .inl f_feet)), (h_weight, .inl (cI, 12, .inl f_weight)), (h0, .inr (1, vL 18 Fh)), (h_manName, .inl (cJ, 12, .inr (.inl g34))), (h_runnerName, .inl (cJ, 6, .inr (.inl f_runnerName))), (p0, .inr (6, vL 12 F26)), (h_p0_bytes, .inl (cB, 940, .inl f_p0_bytes)), (h_p0_wordNames, .inl (cJ, 23, .inr (.inl f_p0_wordNames)))] := hD
    refine W.widen (k := 0) (n := 0) (Nat.le_of_ble_eq_true rfl) (Nat.le_of_ble_eq_true rfl) ?_
    refine lv_if_eq (tgt := 95) hx hb dX1_readMan_32 (by decide) (fun c46 => ?_) (fun c46 => ?_)
    · have dc46 : r25.toInt = 0 := eq_i (a := r25.toInt) (b := 0) rfl rfl c46
      have k47 : 0 ≤ r25.toInt ∧ r25.toInt ≤ 0 := ⟨t44.1, Int.le_trans (Int.le_of_eq dc46) (Int.le_refl _)⟩
      refine lv_iconst (v := 0) hx hb dX1_readMan_95 (by decide) ?_
      refine lv_istore_n (lv' := [(2, .int 0), (0, .ref h0), (1, .ref p0)]) hx hb dX1_readMan_96 rfl hl (by decide) rfl (fun ls hl => ?_)
      refine lv_aload_n hx hb dX1_readMan_97 rfl (lv_at hl 1 rfl) ?_
      refine lv_dup hx hb dX1_readMan_98 rfl ?_
      refine get_f (D := D) (ci := 1) (v := .int x_men) (C := RX1) (T := TX1) (N := 18) hx hb hw inAX1 hown hK hP 3 rfl rfl 13 (by decide) (hw _ q_352) (fun _ h9 => h9) e_men dX1_readMan_99 ?_
      refine lv_iload_n hx hb dX1_readMan_102 rfl (lv_at hl 0 rfl) ?_
      refine lv_if_eq (tgt := 110) hx hb dX1_readMan_103 (by decide) (fun _ => ?_) (fun g => absurd (by decide) g)
      refine lv_iconst (v := 0) hx hb dX1_readMan_110 (by decide) ?_
      refine lv_iadd hx hb dX1_readMan_111 ?_
      refine lv_topi (fun v48 ev48 => ?_)
      have bv48 : v48.toInt = x_men.toInt + 0 := by rw [ev48]; exact add_k rfl rfl k2 ⟨Int.le_refl _, Int.le_refl _⟩ (by decide)
      have k49 : 0 ≤ v48.toInt ∧ v48.toInt ≤ 11 := add_r bv48 k2 ⟨Int.le_refl _, Int.le_refl _⟩ (by decide)
      refine put_f (D := D) (ci := 1) (v := .int v48) (ty := .int) (C := RX1) (T := TX1) (N := 18) hx hb hw inAX1 tyX1 tyX1_ok nmX1 hown hK hP hD hS 3 rfl rfl 13 (by decide) (hw _ q_352) (fun _ h9 => h9) rfl (by decide +kernel) rfl rfl dX1_readMan_112 (fun H locs F50 eF50 hP hD hS => ?_)
      have hP : va_P D vwCl [(h_push, .inl (cI, 12, .inl f_push)), (h_feet, .inl (cI, 12, .inl f_feet)), (h_weight, .inl (cI, 12, .inl f_weight)), (h0, .inr (1, vL 18 F50)), (h_manName, .inl (cJ, 12, .inr (.inl g34))), (h_runnerName, .inl (cJ, 6, .inr (.inl f_runnerName))), (p0, .inr (6, vL 12 F26)), (h_p0_bytes, .inl (cB, 940, .inl f_p0_bytes)), (h_p0_wordNames, .inl (cJ, 23, .inr (.inl f_p0_wordNames)))] H := hP
      have hD : va_D A [(h_push, .inl (cI, 12, .inl f_push)), (h_feet, .inl (cI, 12, .inl f_feet)), (h_weight, .inl (cI, 12, .inl f_weight)), (h0, .inr (1, vL 18 F50)), (h_manName, .inl (cJ, 12, .inr (.inl g34))), (h_runnerName, .inl (cJ, 6, .inr (.inl f_runnerName))), (p0, .inr (6, vL 12 F26)), (h_p0_bytes, .inl (cB, 940, .inl f_p0_bytes)), (h_p0_wordNames, .inl (cJ, 23, .inr (.inl f_p0_wordNames)))] := hD
      refine lv_iload_n hx hb dX1_readMan_115 rfl (lv_at hl 0 rfl) ?_
      exact ret_i (v := 0) hx hb hr hlocks hS (hP.sub (ws' := [(h0, .inr (1, vL 18 F50)), (h_manName, .inl (cJ, 12, .inr (.inl g34))), (h_push, .inl (cI, 12, .inl f_push)), (h_feet, .inl (cI, 12, .inl f_feet)), (h_weight, .inl (cI, 12, .inl f_weight)), (h_runnerName, .inl (cJ, 6, .inr (.inl f_runnerName))), (p0, .inr (6, vL 12 F26)), (h_p0_bytes, .inl (cB, 940, .inl f_p0_bytes)), (h_p0_wordNames, .inl (cJ, 23, .inr (.inl f_p0_wordNames)))]) [3, 4, 0, 1, 2, 5, 6, 7, 8] rfl) (hD.sub (ws' := [(h0, .inr (1, vL 18 F50)), (h_manName, .inl (cJ, 12, .inr (.inl g34))), (h_push, .inl (cI, 12, .inl f_push)), (h_feet, .inl (cI, 12, .inl f_feet)), (h_weight, .inl (cI, 12, .inl f_weight)), (h_runnerName, .inl (cJ, 6, .inr (.inl f_runnerName))), (p0, .inr (6, vL 12 F26)), (h_p0_bytes, .inl (cB, 940, .inl f_p0_bytes)), (h_p0_wordNames, .inl (cJ, 23, .inr (.inl f_p0_wordNames)))]) [3, 4, 0, 1, 2, 5, 6, 7, 8] (by decide) rfl) dX1_readMan_116 rfl (Nat.le_of_ble_eq_true rfl) (Nat.le_of_ble_eq_true rfl) ⟨F50, v48, F26, y27, y28, y29, y30, y31, y32, y33, g34, f_push, f_feet, f_weight, (SAME.up eF50 SAME.rf (by decide)), (get_eq eF50), (ir_wk k49 (by decide) (by decide)), (SAME.tr (SAME.tr SAME.rf t10 (by decide)) t35 (by decide)), t36, t37, t38, t39, t40, t41, t42, t43, (show 0 ≤ (0 : Int32).toInt ∧ (0 : Int32).toInt ≤ 1 by decide), rfl⟩
    · have dc46 : r25.toInt ≠ 0 := ne_i (a := r25.toInt) (b := 0) rfl rfl c46
      have k51 : 1 ≤ r25.toInt ∧ r25.toInt ≤ 1 := ⟨ne_lo dc46 t44.1 ⟨Int.le_refl _, Int.le_refl _⟩ (by decide), t44.2⟩
      refine lv_aload_n hx hb dX1_readMan_35 rfl (lv_at hl 1 rfl) ?_
      refine lv_aload_n hx hb dX1_readMan_36 rfl (lv_at hl 0 rfl) ?_
      refine get_f (D := D) (ci := 1) (v := .ref h_push) (C := RX1) (T := TX1) (N := 18) hx hb hw inAX1 hown hK hP 3 rfl rfl 3 (by decide) (hw _ q_321) (fun _ h9 => h9) e_push dX1_readMan_37 ?_
      refine lv_aload_n hx hb dX1_readMan_40 rfl (lv_at hl 0 rfl) ?_
      refine get_f (D := D) (ci := 1) (v := .int x_men) (C := RX1) (T := TX1) (N := 18) hx hb hw inAX1 hown hK hP 3 rfl rfl 13 (by decide) (hw _ q_352) (fun _ h9 => h9) e_men dX1_readMan_41 ?_
      refine lv_iconst (v := 1) hx hb dX1_readMan_44 (by decide) ?_
      refine lv_bipush (v := 9) hx hb dX1_readMan_45 (by decide) ?_
      have n52 : F26 0 = .ref h_p0_bytes := (SAME.at t35 (by decide) n19)
      have n53 : F26 1 = .int x_p0_length := (SAME.at t35 (by decide) n20)
      have n54 : F26 9 = .ref h_p0_wordNames := (SAME.at t35 (by decide) n23)
      have n55 : F26 11 = .int x_p0_mostBytes := (SAME.at t35 (by decide) n24)
      refine call_Vi (wr := [(h_feet, .inl (cI, 12, .inl f_feet)), (h_weight, .inl (cI, 12, .inl f_weight)), (h0, .inr (1, vL 18 Fh)), (h_manName, .inl (cJ, 12, .inr (.inl g34))), (h_runnerName, .inl (cJ, 6, .inr (.inl f_runnerName)))]) (As := [.ref h_push, .int x_men, .int 1, .int 9]) (rest := []) hx hb hml hown hw (m_X6_takeInto_12 l D cI cJ cB cP cM cZ p0 h_p0_bytes h_p0_wordNames h_push F26 x_p0_length y27 y28 y29 y30 y33 x_p0_mostBytes f_p0_bytes f_p0_wordNames f_push x_men 1 9 _ n52 n53 i_x_p0_length t36 t37 t38 t39 n54 t42 t43 n55) wV_X1_140_X6_takeInto dX1_readMan_47 hK hP hD hS hA [6, 7, 8, 0] [1, 2, 3, 4, 5] rfl rfl (by decide) (by decide) (by decide) 0 6 rfl rfl GG.fb hG.at hl.1 rfl (Nat.le_of_ble_eq_true rfl) ⟨(Nat.le_of_ble_eq_true rfl), (Nat.le_of_ble_eq_true rfl)⟩ ⟨(Nat.le_of_ble_eq_true rfl), (Nat.le_of_ble_eq_true rfl)⟩ (fun r56 u H locs hp hP hD hS => ?_)
      have zl1 : (1 : Int32).toInt = 1 := by decide
      have zl9 : (9 : Int32).toInt = 9 := by decide
      rcases hp with ⟨F57, y58, t59, t60, t61, t62, rfl, rfl⟩ | ⟨F63, y64, y65, y66, y67, y68, g69, t70, t71, t72, t73, t74, t75, t76, t77, t78, t79, t80, t81, t82, t83, rfl, rfl⟩
      · have hP : va_P D vwCl [(h_feet, .inl (cI, 12, .inl f_feet)), (h_weight, .inl (cI, 12, .inl f_weight)), (h0, .inr (1, vL 18 Fh)), (h_manName, .inl (cJ, 12, .inr (.inl g34))), (h_runnerName, .inl (cJ, 6, .inr (.inl f_runnerName))), (p0, .inr (6, vL 12 F57)), (h_p0_bytes, .inl (cB, 940, .inl f_p0_bytes)), (h_p0_wordNames, .inl (cJ, 23, .inr (.inl f_p0_wordNames))), (h_push, .inl (cI, 12, .inl f_push))] H := hP
        have hD : va_D A [(h_feet, .inl (cI, 12, .inl f_feet)), (h_weight, .inl (cI, 12, .inl f_weight)), (h0, .inr (1, vL 18 Fh)), (h_manName, .inl (cJ, 12, .inr (.inl g34))), (h_runnerName, .inl (cJ, 6, .inr (.inl f_runnerName))), (p0, .inr (6, vL 12 F57)), (h_p0_bytes, .inl (cB, 940, .inl f_p0_bytes)), (h_p0_wordNames, .inl (cJ, 23, .inr (.inl f_p0_wordNames))), (h_push, .inl (cI, 12, .inl f_push))] := hD
        refine W.widen (k := 0) (n := 0) (Nat.le_of_ble_eq_true rfl) (Nat.le_of_ble_eq_true rfl) ?_
        refine lv_if_eq (tgt := 95) hx hb dX1_readMan_50 (by decide) (fun _ => ?_) (fun g => absurd (by decide) g)
        refine lv_iconst (v := 0) hx hb dX1_readMan_95 (by decide) ?_
        refine lv_istore_n (lv' := [(2, .int 0), (0, .ref h0), (1, .ref p0)]) hx hb dX1_readMan_96 rfl hl (by decide) rfl (fun ls hl => ?_)
        refine lv_aload_n hx hb dX1_readMan_97 rfl (lv_at hl 1 rfl) ?_
        refine lv_dup hx hb dX1_readMan_98 rfl ?_
        refine get_f (D := D) (ci := 1) (v := .int x_men) (C := RX1) (T := TX1) (N := 18) hx hb hw inAX1 hown hK hP 2 rfl rfl 13 (by decide) (hw _ q_352) (fun _ h9 => h9) e_men dX1_readMan_99 ?_
        refine lv_iload_n hx hb dX1_readMan_102 rfl (lv_at hl 0 rfl) ?_
        refine lv_if_eq (tgt := 110) hx hb dX1_readMan_103 (by decide) (fun _ => ?_) (fun g => absurd (by decide) g)
        refine lv_iconst (v := 0) hx hb dX1_readMan_110 (by decide) ?_
        refine lv_iadd hx hb dX1_readMan_111 ?_
        refine lv_topi (fun v85 ev85 => ?_)
        have bv85 : v85.toInt = x_men.toInt + 0 := by rw [ev85]; exact add_k rfl rfl k2 ⟨Int.le_refl _, Int.le_refl _⟩ (by decide)
        have k86 : 0 ≤ v85.toInt ∧ v85.toInt ≤ 11 := add_r bv85 k2 ⟨Int.le_refl _, Int.le_refl _⟩ (by decide)
        refine put_f (D := D) (ci := 1) (v := .int v85) (ty := .int) (C := RX1) (T := TX1) (N := 18) hx hb hw inAX1 tyX1 tyX1_ok nmX1 hown hK hP hD hS 2 rfl rfl 13 (by decide) (hw _ q_352) (fun _ h9 => h9) rfl (by decide +kernel) rfl rfl dX1_readMan_112 (fun H locs F87 eF87 hP hD hS => ?_)
        have hP : va_P D vwCl [(h_feet, .inl (cI, 12, .inl f_feet)), (h_weight, .inl (cI, 12, .inl f_weight)), (h0, .inr (1, vL 18 F87)), (h_manName, .inl (cJ, 12, .inr (.inl g34))), (h_runnerName, .inl (cJ, 6, .inr (.inl f_runnerName))), (p0, .inr (6, vL 12 F57)), (h_p0_bytes, .inl (cB, 940, .inl f_p0_bytes)), (h_p0_wordNames, .inl (cJ, 23, .inr (.inl f_p0_wordNames))), (h_push, .inl (cI, 12, .inl f_push))] H := hP
        have hD : va_D A [(h_feet, .inl (cI, 12, .inl f_feet)), (h_weight, .inl (cI, 12, .inl f_weight)), (h0, .inr (1, vL 18 F87)), (h_manName, .inl (cJ, 12, .inr (.inl g34))), (h_runnerName, .inl (cJ, 6, .inr (.inl f_runnerName))), (p0, .inr (6, vL 12 F57)), (h_p0_bytes, .inl (cB, 940, .inl f_p0_bytes)), (h_p0_wordNames, .inl (cJ, 23, .inr (.inl f_p0_wordNames))), (h_push, .inl (cI, 12, .inl f_push))] := hD
        refine lv_iload_n hx hb dX1_readMan_115 rfl (lv_at hl 0 rfl) ?_
        exact ret_i (v := 0) hx hb hr hlocks hS (hP.sub (ws' := [(h0, .inr (1, vL 18 F87)), (h_manName, .inl (cJ, 12, .inr (.inl g34))), (h_push, .inl (cI, 12, .inl f_push)), (h_feet, .inl (cI, 12, .inl f_feet)), (h_weight, .inl (cI, 12, .inl f_weight)), (h_runnerName, .inl (cJ, 6, .inr (.inl f_runnerName))), (p0, .inr (6, vL 12 F57)), (h_p0_bytes, .inl (cB, 940, .inl f_p0_bytes)), (h_p0_wordNames, .inl (cJ, 23, .inr (.inl f_p0_wordNames)))]) [2, 3, 8, 0, 1, 4, 5, 6, 7] rfl) (hD.sub (ws' := [(h0, .inr (1, vL 18 F87)), (h_manName, .inl (cJ, 12, .inr (.inl g34))), (h_push, .inl (cI, 12, .inl f_push)), (h_feet, .inl (cI, 12, .inl f_feet)), (h_weight, .inl (cI, 12, .inl f_weight)), (h_runnerName, .inl (cJ, 6, .inr (.inl f_runnerName))), (p0, .inr (6, vL 12 F57)), (h_p0_bytes, .inl (cB, 940, .inl f_p0_bytes)), (h_p0_wordNames, .inl (cJ, 23, .inr (.inl f_p0_wordNames)))]) [2, 3, 8, 0, 1, 4, 5, 6, 7] (by decide) rfl) dX1_readMan_116 rfl (Nat.le_of_ble_eq_true rfl) (Nat.le_of_ble_eq_true rfl) ⟨F87, v85, F57, y27, y28, y29, y30, y58, y28, y33, g34, f_push, f_feet, f_weight, (SAME.up eF87 SAME.rf (by decide)), (get_eq eF87), (ir_wk k86 (by decide) (by decide)), (SAME.tr (SAME.tr (SAME.tr SAME.rf t10 (by decide)) t35 (by decide)) t59 (by decide)), (SAME.at t59 (by decide) t36), (SAME.at t59 (by decide) t37), (SAME.at t59 (by decide) t38), (SAME.at t59 (by decide) t39), t60, t62, (SAME.at t59 (by decide) t42), t43, (show 0 ≤ (0 : Int32).toInt ∧ (0 : Int32).toInt ≤ 1 by decide), rfl⟩
      · have hP : va_P D vwCl [(h_feet, .inl (cI, 12, .inl f_feet)), (h_weight, .inl (cI, 12, .inl f_weight)), (h0, .inr (1, vL 18 Fh)), (h_manName, .inl (cJ, 12, .inr (.inl g34))), (h_runnerName, .inl (cJ, 6, .inr (.inl f_runnerName))), (p0, .inr (6, vL 12 F63)), (h_p0_bytes, .inl (cB, 940, .inl f_p0_bytes)), (h_p0_wordNames, .inl (cJ, 23, .inr (.inl f_p0_wordNames))), (h_push, .inl (cI, 12, .inl g69))] H := hP
        have hD : va_D A [(h_feet, .inl (cI, 12, .inl f_feet)), (h_weight, .inl (cI, 12, .inl f_weight)), (h0, .inr (1, vL 18 Fh)), (h_manName, .inl (cJ, 12, .inr (.inl g34))), (h_runnerName, .inl (cJ, 6, .inr (.inl f_runnerName))), (p0, .inr (6, vL 12 F63)), (h_p0_bytes, .inl (cB, 940, .inl f_p0_bytes)), (h_p0_wordNames, .inl (cJ, 23, .inr (.inl f_p0_wordNames))), (h_push, .inl (cI, 12, .inl g69))] := hD
        refine W.widen (k := 0) (n := 0) (Nat.le_of_ble_eq_true rfl) (Nat.le_of_ble_eq_true rfl) ?_
        have k88 : 3 ≤ y27.toInt ∧ y27.toInt ≤ 3 := ⟨Int.le_trans (Int.le_refl _) (Int.le_of_eq t80.symm), Int.le_trans (Int.le_of_eq t80) (Int.le_refl _)⟩
        have k89 : 1 ≤ y29.toInt ∧ y29.toInt ≤ 2147483647 := ⟨Int.le_trans (Int.le_refl _) t81, (ir_any _).2⟩
        have k90 : 1 ≤ y29.toInt ∧ y29.toInt ≤ 9 := ⟨k89.1, Int.le_trans t82 (Int.le_refl _)⟩
        refine lv_if_eq (tgt := 95) hx hb dX1_readMan_50 (by decide) (fun g => absurd g (by decide)) (fun _ => ?_)
        refine lv_aload_n hx hb dX1_readMan_53 rfl (lv_at hl 1 rfl) ?_
        refine lv_aload_n hx hb dX1_readMan_54 rfl (lv_at hl 0 rfl) ?_
        refine get_f (D := D) (ci := 1) (v := .ref h_feet) (C := RX1) (T := TX1) (N := 18) hx hb hw inAX1 hown hK hP 2 rfl rfl 4 (by decide) (hw _ q_326) (fun _ h9 => h9) e_feet dX1_readMan_55 ?_
        refine lv_aload_n hx hb dX1_readMan_58 rfl (lv_at hl 0 rfl) ?_
        refine get_f (D := D) (ci := 1) (v := .int x_men) (C := RX1) (T := TX1) (N := 18) hx hb hw inAX1 hown hK hP 2 rfl rfl 13 (by decide) (hw _ q_352) (fun _ h9 => h9) e_men dX1_readMan_59 ?_
        refine lv_iconst (v := 1) hx hb dX1_readMan_62 (by decide) ?_
        refine lv_bipush (v := 9) hx hb dX1_readMan_63 (by decide) ?_
        have n91 : F63 0 = .ref h_p0_bytes := (SAME.at t70 (by decide) n52)
        have n92 : F63 1 = .int x_p0_length := (SAME.at t70 (by decide) n53)
        have n93 : F63 9 = .ref h_p0_wordNames := (SAME.at t70 (by decide) n54)
        have n94 : F63 11 = .int x_p0_mostBytes := (SAME.at t70 (by decide) n55)
        refine call_Vi (wr := [(h_weight, .inl (cI, 12, .inl f_weight)), (h0, .inr (1, vL 18 Fh)), (h_manName, .inl (cJ, 12, .inr (.inl g34))), (h_runnerName, .inl (cJ, 6, .inr (.inl f_runnerName))), (h_push, .inl (cI, 12, .inl g69))]) (As := [.ref h_feet, .int x_men, .int 1, .int 9]) (rest := []) hx hb hml hown hw (m_X6_takeInto_12 l D cI cJ cB cP cM cZ p0 h_p0_bytes h_p0_wordNames h_feet F63 x_p0_length y64 y65 y66 y67 y68 x_p0_mostBytes f_p0_bytes f_p0_wordNames f_feet x_men 1 9 _ n91 n92 i_x_p0_length t71 t72 t74 t75 n93 t76 t77 n94) wV_X1_140_X6_takeInto dX1_readMan_65 hK hP hD hS hA [5, 6, 7, 0] [1, 2, 3, 4, 8] rfl rfl (by decide) (by decide) (by decide) 0 6 rfl rfl GG.fb hG.at hl.1 rfl (Nat.le_of_ble_eq_true rfl) ⟨(Nat.le_of_ble_eq_true rfl), (Nat.le_of_ble_eq_true rfl)⟩ ⟨(Nat.le_of_ble_eq_true rfl), (Nat.le_of_ble_eq_true rfl)⟩ (fun r95 u H locs hp hP hD hS => ?_)
        rcases hp with ⟨F96, y97, t98, t99, t100, t101, rfl, rfl⟩ | ⟨F102, y103, y104, y105, y106, y107, g108, t109, t110, t111, t112, t113, t114, t115, t116, t117, t118, t119, t120, t121, t122, rfl, rfl⟩
        · have hP : va_P D vwCl [(h_weight, .inl (cI, 12, .inl f_weight)), (h0, .inr (1, vL 18 Fh)), (h_manName, .inl (cJ, 12, .inr (.inl g34))), (h_runnerName, .inl (cJ, 6, .inr (.inl f_runnerName))), (h_push, .inl (cI, 12, .inl g69)), (p0, .inr (6, vL 12 F96)), (h_p0_bytes, .inl (cB, 940, .inl f_p0_bytes)), (h_p0_wordNames, .inl (cJ, 23, .inr (.inl f_p0_wordNames))), (h_feet, .inl (cI, 12, .inl f_feet))] H := hP
          have hD : va_D A [(h_weight, .inl (cI, 12, .inl f_weight)), (h0, .inr (1, vL 18 Fh)), (h_manName, .inl (cJ, 12, .inr (.inl g34))), (h_runnerName, .inl (cJ, 6, .inr (.inl f_runnerName))), (h_push, .inl (cI, 12, .inl g69)), (p0, .inr (6, vL 12 F96)), (h_p0_bytes, .inl (cB, 940, .inl f_p0_bytes)), (h_p0_wordNames, .inl (cJ, 23, .inr (.inl f_p0_wordNames))), (h_feet, .inl (cI, 12, .inl f_feet))] := hD
          refine W.widen (k := 0) (n := 0) (Nat.le_of_ble_eq_true rfl) (Nat.le_of_ble_eq_true rfl) ?_
          refine lv_if_eq (tgt := 95) hx hb dX1_readMan_68 (by decide) (fun _ => ?_) (fun g => absurd (by decide) g)
          refine lv_iconst (v := 0) hx hb dX1_readMan_95 (by decide) ?_
          refine lv_istore_n (lv' := [(2, .int 0), (0, .ref h0), (1, .ref p0)]) hx hb dX1_readMan_96 rfl hl (by decide) rfl (fun ls hl => ?_)
          refine lv_aload_n hx hb dX1_readMan_97 rfl (lv_at hl 1 rfl) ?_
          refine lv_dup hx hb dX1_readMan_98 rfl ?_
          refine get_f (D := D) (ci := 1) (v := .int x_men) (C := RX1) (T := TX1) (N := 18) hx hb hw inAX1 hown hK hP 1 rfl rfl 13 (by decide) (hw _ q_352) (fun _ h9 => h9) e_men dX1_readMan_99 ?_
          refine lv_iload_n hx hb dX1_readMan_102 rfl (lv_at hl 0 rfl) ?_
          refine lv_if_eq (tgt := 110) hx hb dX1_readMan_103 (by decide) (fun _ => ?_) (fun g => absurd (by decide) g)
          refine lv_iconst (v := 0) hx hb dX1_readMan_110 (by decide) ?_
          refine lv_iadd hx hb dX1_readMan_111 ?_
          refine lv_topi (fun v124 ev124 => ?_)
          have bv124 : v124.toInt = x_men.toInt + 0 := by rw [ev124]; exact add_k rfl rfl k2 ⟨Int.le_refl _, Int.le_refl _⟩ (by decide)
          have k125 : 0 ≤ v124.toInt ∧ v124.toInt ≤ 11 := add_r bv124 k2 ⟨Int.le_refl _, Int.le_refl _⟩ (by decide)
          refine put_f (D := D) (ci := 1) (v := .int v124) (ty := .int) (C := RX1) (T := TX1) (N := 18) hx hb hw inAX1 tyX1 tyX1_ok nmX1 hown hK hP hD hS 1 rfl rfl 13 (by decide) (hw _ q_352) (fun _ h9 => h9) rfl (by decide +kernel) rfl rfl dX1_readMan_112 (fun H locs F126 eF126 hP hD hS => ?_)
          have hP : va_P D vwCl [(h_weight, .inl (cI, 12, .inl f_weight)), (h0, .inr (1, vL 18 F126)), (h_manName, .inl (cJ, 12, .inr (.inl g34))), (h_runnerName, .inl (cJ, 6, .inr (.inl f_runnerName))), (h_push, .inl (cI, 12, .inl g69)), (p0, .inr (6, vL 12 F96)), (h_p0_bytes, .inl (cB, 940, .inl f_p0_bytes)), (h_p0_wordNames, .inl (cJ, 23, .inr (.inl f_p0_wordNames))), (h_feet, .inl (cI, 12, .inl f_feet))] H := hP
          have hD : va_D A [(h_weight, .inl (cI, 12, .inl f_weight)), (h0, .inr (1, vL 18 F126)), (h_manName, .inl (cJ, 12, .inr (.inl g34))), (h_runnerName, .inl (cJ, 6, .inr (.inl f_runnerName))), (h_push, .inl (cI, 12, .inl g69)), (p0, .inr (6, vL 12 F96)), (h_p0_bytes, .inl (cB, 940, .inl f_p0_bytes)), (h_p0_wordNames, .inl (cJ, 23, .inr (.inl f_p0_wordNames))), (h_feet, .inl (cI, 12, .inl f_feet))] := hD
          refine lv_iload_n hx hb dX1_readMan_115 rfl (lv_at hl 0 rfl) ?_
          exact ret_i (v := 0) hx hb hr hlocks hS (hP.sub (ws' := [(h0, .inr (1, vL 18 F126)), (h_manName, .inl (cJ, 12, .inr (.inl g34))), (h_push, .inl (cI, 12, .inl g69)), (h_feet, .inl (cI, 12, .inl f_feet)), (h_weight, .inl (cI, 12, .inl f_weight)), (h_runnerName, .inl (cJ, 6, .inr (.inl f_runnerName))), (p0, .inr (6, vL 12 F96)), (h_p0_bytes, .inl (cB, 940, .inl f_p0_bytes)), (h_p0_wordNames, .inl (cJ, 23, .inr (.inl f_p0_wordNames)))]) [1, 2, 4, 8, 0, 3, 5, 6, 7] rfl) (hD.sub (ws' := [(h0, .inr (1, vL 18 F126)), (h_manName, .inl (cJ, 12, .inr (.inl g34))), (h_push, .inl (cI, 12, .inl g69)), (h_feet, .inl (cI, 12, .inl f_feet)), (h_weight, .inl (cI, 12, .inl f_weight)), (h_runnerName, .inl (cJ, 6, .inr (.inl f_runnerName))), (p0, .inr (6, vL 12 F96)), (h_p0_bytes, .inl (cB, 940, .inl f_p0_bytes)), (h_p0_wordNames, .inl (cJ, 23, .inr (.inl f_p0_wordNames)))]) [1, 2, 4, 8, 0, 3, 5, 6, 7] (by decide) rfl) dX1_readMan_116 rfl (Nat.le_of_ble_eq_true rfl) (Nat.le_of_ble_eq_true rfl) ⟨F126, v124, F96, y64, y65, y66, y67, y97, y65, y68, g34, g69, f_feet, f_weight, (SAME.up eF126 SAME.rf (by decide)), (get_eq eF126), (ir_wk k125 (by decide) (by decide)), (SAME.tr (SAME.tr (SAME.tr (SAME.tr SAME.rf t10 (by decide)) t35 (by decide)) t70 (by decide)) t98 (by decide)), (SAME.at t98 (by decide) t71), (SAME.at t98 (by decide) t72), (SAME.at t98 (by decide) t74), (SAME.at t98 (by decide) t75), t99, t101, (SAME.at t98 (by decide) t76), t77, (show 0 ≤ (0 : Int32).toInt ∧ (0 : Int32).toInt ≤ 1 by decide), rfl⟩
        · have hP : va_P D vwCl [(h_weight, .inl (cI, 12, .inl f_weight)), (h0, .inr (1, vL 18 Fh)), (h_manName, .inl (cJ, 12, .inr (.inl g34))), (h_runnerName, .inl (cJ, 6, .inr (.inl f_runnerName))), (h_push, .inl (cI, 12, .inl g69)), (p0, .inr (6, vL 12 F102)), (h_p0_bytes, .inl (cB, 940, .inl f_p0_bytes)), (h_p0_wordNames, .inl (cJ, 23, .inr (.inl f_p0_wordNames))), (h_feet, .inl (cI, 12, .inl g108))] H := hP
          have hD : va_D A [(h_weight, .inl (cI, 12, .inl f_weight)), (h0, .inr (1, vL 18 Fh)), (h_manName, .inl (cJ, 12, .inr (.inl g34))), (h_runnerName, .inl (cJ, 6, .inr (.inl f_runnerName))), (h_push, .inl (cI, 12, .inl g69)), (p0, .inr (6, vL 12 F102)), (h_p0_bytes, .inl (cB, 940, .inl f_p0_bytes)), (h_p0_wordNames, .inl (cJ, 23, .inr (.inl f_p0_wordNames))), (h_feet, .inl (cI, 12, .inl g108))] := hD
          refine W.widen (k := 0) (n := 0) (Nat.le_of_ble_eq_true rfl) (Nat.le_of_ble_eq_true rfl) ?_
          have k127 : 3 ≤ y64.toInt ∧ y64.toInt ≤ 3 := ⟨Int.le_trans (Int.le_refl _) (Int.le_of_eq t119.symm), Int.le_trans (Int.le_of_eq t119) (Int.le_refl _)⟩
          have k128 : 1 ≤ y66.toInt ∧ y66.toInt ≤ 2147483647 := ⟨Int.le_trans (Int.le_refl _) t120, (ir_any _).2⟩
          have k129 : 1 ≤ y66.toInt ∧ y66.toInt ≤ 9 := ⟨k128.1, Int.le_trans t121 (Int.le_refl _)⟩
          refine lv_if_eq (tgt := 95) hx hb dX1_readMan_68 (by decide) (fun g => absurd g (by decide)) (fun _ => ?_)
          refine lv_aload_n hx hb dX1_readMan_71 rfl (lv_at hl 1 rfl) ?_
          refine lv_aload_n hx hb dX1_readMan_72 rfl (lv_at hl 0 rfl) ?_
          refine get_f (D := D) (ci := 1) (v := .ref h_weight) (C := RX1) (T := TX1) (N := 18) hx hb hw inAX1 hown hK hP 1 rfl rfl 5 (by decide) (hw _ q_331) (fun _ h9 => h9) e_weight dX1_readMan_73 ?_
          refine lv_aload_n hx hb dX1_readMan_76 rfl (lv_at hl 0 rfl) ?_
          refine get_f (D := D) (ci := 1) (v := .int x_men) (C := RX1) (T := TX1) (N := 18) hx hb hw inAX1 hown hK hP 1 rfl rfl 13 (by decide) (hw _ q_352) (fun _ h9 => h9) e_men dX1_readMan_77 ?_
          refine lv_bipush (v := 50) hx hb dX1_readMan_80 (by decide) ?_
          refine lv_sipush (v := 150) hx hb dX1_readMan_82 (by decide) ?_
          have n130 : F102 0 = .ref h_p0_bytes := (SAME.at t109 (by decide) n91)
          have n131 : F102 1 = .int x_p0_length := (SAME.at t109 (by decide) n92)
          have n132 : F102 9 = .ref h_p0_wordNames := (SAME.at t109 (by decide) n93)
          have n133 : F102 11 = .int x_p0_mostBytes := (SAME.at t109 (by decide) n94)
          refine call_Vi (wr := [(h0, .inr (1, vL 18 Fh)), (h_manName, .inl (cJ, 12, .inr (.inl g34))), (h_runnerName, .inl (cJ, 6, .inr (.inl f_runnerName))), (h_push, .inl (cI, 12, .inl g69)), (h_feet, .inl (cI, 12, .inl g108))]) (As := [.ref h_weight, .int x_men, .int 50, .int 150]) (rest := []) hx hb hml hown hw (m_X6_takeInto_12 l D cI cJ cB cP cM cZ p0 h_p0_bytes h_p0_wordNames h_weight F102 x_p0_length y103 y104 y105 y106 y107 x_p0_mostBytes f_p0_bytes f_p0_wordNames f_weight x_men 50 150 _ n130 n131 i_x_p0_length t110 t111 t113 t114 n132 t115 t116 n133) wV_X1_140_X6_takeInto dX1_readMan_85 hK hP hD hS hA [5, 6, 7, 0] [1, 2, 3, 4, 8] rfl rfl (by decide) (by decide) (by decide) 0 6 rfl rfl GG.fb hG.at hl.1 rfl (Nat.le_of_ble_eq_true rfl) ⟨(Nat.le_of_ble_eq_true rfl), (Nat.le_of_ble_eq_true rfl)⟩ ⟨(Nat.le_of_ble_eq_true rfl), (Nat.le_of_ble_eq_true rfl)⟩ (fun r134 u H locs hp hP hD hS => ?_)
          have zl50 : (50 : Int32).toInt = 50 := by decide
          have zl150 : (150 : Int32).toInt = 150 := by decide
          rcases hp with ⟨F135, y136, t137, t138, t139, t140, rfl, rfl⟩ | ⟨F141, y142, y143, y144, y145, y146, g147, t148, t149, t150, t151, t152, t153, t154, t155, t156, t157, t158, t159, t160, t161, rfl, rfl⟩
          · have hP : va_P D vwCl [(h0, .inr (1, vL 18 Fh)), (h_manName, .inl (cJ, 12, .inr (.inl g34))), (h_runnerName, .inl (cJ, 6, .inr (.inl f_runnerName))), (h_push, .inl (cI, 12, .inl g69)), (h_feet, .inl (cI, 12, .inl g108)), (p0, .inr (6, vL 12 F135)), (h_p0_bytes, .inl (cB, 940, .inl f_p0_bytes)), (h_p0_wordNames, .inl (cJ, 23, .inr (.inl f_p0_wordNames))), (h_weight, .inl (cI, 12, .inl f_weight))] H := hP
            have hD : va_D A [(h0, .inr (1, vL 18 Fh)), (h_manName, .inl (cJ, 12, .inr (.inl g34))), (h_runnerName, .inl (cJ, 6, .inr (.inl f_runnerName))), (h_push, .inl (cI, 12, .inl g69)), (h_feet, .inl (cI, 12, .inl g108)), (p0, .inr (6, vL 12 F135)), (h_p0_bytes, .inl (cB, 940, .inl f_p0_bytes)), (h_p0_wordNames, .inl (cJ, 23, .inr (.inl f_p0_wordNames))), (h_weight, .inl (cI, 12, .inl f_weight))] := hD
            refine W.widen (k := 0) (n := 0) (Nat.le_of_ble_eq_true rfl) (Nat.le_of_ble_eq_true rfl) ?_
            refine lv_if_eq (tgt := 95) hx hb dX1_readMan_88 (by decide) (fun _ => ?_) (fun g => absurd (by decide) g)
            refine lv_iconst (v := 0) hx hb dX1_readMan_95 (by decide) ?_
            refine lv_istore_n (lv' := [(2, .int 0), (0, .ref h0), (1, .ref p0)]) hx hb dX1_readMan_96 rfl hl (by decide) rfl (fun ls hl => ?_)
            refine lv_aload_n hx hb dX1_readMan_97 rfl (lv_at hl 1 rfl) ?_
            refine lv_dup hx hb dX1_readMan_98 rfl ?_
            refine get_f (D := D) (ci := 1) (v := .int x_men) (C := RX1) (T := TX1) (N := 18) hx hb hw inAX1 hown hK hP 0 rfl rfl 13 (by decide) (hw _ q_352) (fun _ h9 => h9) e_men dX1_readMan_99 ?_
            refine lv_iload_n hx hb dX1_readMan_102 rfl (lv_at hl 0 rfl) ?_
            refine lv_if_eq (tgt := 110) hx hb dX1_readMan_103 (by decide) (fun _ => ?_) (fun g => absurd (by decide) g)
            refine lv_iconst (v := 0) hx hb dX1_readMan_110 (by decide) ?_
            refine lv_iadd hx hb dX1_readMan_111 ?_
            refine lv_topi (fun v163 ev163 => ?_)
            have bv163 : v163.toInt = x_men.toInt + 0 := by rw [ev163]; exact add_k rfl rfl k2 ⟨Int.le_refl _, Int.le_refl _⟩ (by decide)
            have k164 : 0 ≤ v163.toInt ∧ v163.toInt ≤ 11 := add_r bv163 k2 ⟨Int.le_refl _, Int.le_refl _⟩ (by decide)
            refine put_f (D := D) (ci := 1) (v := .int v163) (ty := .int) (C := RX1) (T := TX1) (N := 18) hx hb hw inAX1 tyX1 tyX1_ok nmX1 hown hK hP hD hS 0 rfl rfl 13 (by decide) (hw _ q_352) (fun _ h9 => h9) rfl (by decide +kernel) rfl rfl dX1_readMan_112 (fun H locs F165 eF165 hP hD hS => ?_)
            have hP : va_P D vwCl [(h0, .inr (1, vL 18 F165)), (h_manName, .inl (cJ, 12, .inr (.inl g34))), (h_runnerName, .inl (cJ, 6, .inr (.inl f_runnerName))), (h_push, .inl (cI, 12, .inl g69)), (h_feet, .inl (cI, 12, .inl g108)), (p0, .inr (6, vL 12 F135)), (h_p0_bytes, .inl (cB, 940, .inl f_p0_bytes)), (h_p0_wordNames, .inl (cJ, 23, .inr (.inl f_p0_wordNames))), (h_weight, .inl (cI, 12, .inl f_weight))] H := hP
            have hD : va_D A [(h0, .inr (1, vL 18 F165)), (h_manName, .inl (cJ, 12, .inr (.inl g34))), (h_runnerName, .inl (cJ, 6, .inr (.inl f_runnerName))), (h_push, .inl (cI, 12, .inl g69)), (h_feet, .inl (cI, 12, .inl g108)), (p0, .inr (6, vL 12 F135)), (h_p0_bytes, .inl (cB, 940, .inl f_p0_bytes)), (h_p0_wordNames, .inl (cJ, 23, .inr (.inl f_p0_wordNames))), (h_weight, .inl (cI, 12, .inl f_weight))] := hD
            refine lv_iload_n hx hb dX1_readMan_115 rfl (lv_at hl 0 rfl) ?_
            exact ret_i (v := 0) hx hb hr hlocks hS (hP.sub (ws' := [(h0, .inr (1, vL 18 F165)), (h_manName, .inl (cJ, 12, .inr (.inl g34))), (h_push, .inl (cI, 12, .inl g69)), (h_feet, .inl (cI, 12, .inl g108)), (h_weight, .inl (cI, 12, .inl f_weight)), (h_runnerName, .inl (cJ, 6, .inr (.inl f_runnerName))), (p0, .inr (6, vL 12 F135)), (h_p0_bytes, .inl (cB, 940, .inl f_p0_bytes)), (h_p0_wordNames, .inl (cJ, 23, .inr (.inl f_p0_wordNames)))]) [0, 1, 3, 4, 8, 2, 5, 6, 7] rfl) (hD.sub (ws' := [(h0, .inr (1, vL 18 F165)), (h_manName, .inl (cJ, 12, .inr (.inl g34))), (h_push, .inl (cI, 12, .inl g69)), (h_feet, .inl (cI, 12, .inl g108)), (h_weight, .inl (cI, 12, .inl f_weight)), (h_runnerName, .inl (cJ, 6, .inr (.inl f_runnerName))), (p0, .inr (6, vL 12 F135)), (h_p0_bytes, .inl (cB, 940, .inl f_p0_bytes)), (h_p0_wordNames, .inl (cJ, 23, .inr (.inl f_p0_wordNames)))]) [0, 1, 3, 4, 8, 2, 5, 6, 7] (by decide) rfl) dX1_readMan_116 rfl (Nat.le_of_ble_eq_true rfl) (Nat.le_of_ble_eq_true rfl) ⟨F165, v163, F135, y103, y104, y105, y106, y136, y104, y107, g34, g69, g108, f_weight, (SAME.up eF165 SAME.rf (by decide)), (get_eq eF165), (ir_wk k164 (by decide) (by decide)), (SAME.tr (SAME.tr (SAME.tr (SAME.tr (SAME.tr SAME.rf t10 (by decide)) t35 (by decide)) t70 (by decide)) t109 (by decide)) t137 (by decide)), (SAME.at t137 (by decide) t110), (SAME.at t137 (by decide) t111), (SAME.at t137 (by decide) t113), (SAME.at t137 (by decide) t114), t138, t140, (SAME.at t137 (by decide) t115), t116, (show 0 ≤ (0 : Int32).toInt ∧ (0 : Int32).toInt ≤ 1 by decide), rfl⟩
          · have hP : va_P D vwCl [(h0, .inr (1, vL 18 Fh)), (h_manName, .inl (cJ, 12, .inr (.inl g34))), (h_runnerName, .inl (cJ, 6, .inr (.inl f_runnerName))), (h_push, .inl (cI, 12, .inl g69)), (h_feet, .inl (cI, 12, .inl g108)), (p0, .inr (6, vL 12 F141)), (h_p0_bytes, .inl (cB, 940, .inl f_p0_bytes)), (h_p0_wordNames, .inl (cJ, 23, .inr (.inl f_p0_wordNames))), (h_weight, .inl (cI, 12, .inl g147))] H := hP
            have hD : va_D A [(h0, .inr (1, vL 18 Fh)), (h_manName, .inl (cJ, 12, .inr (.inl g34))), (h_runnerName, .inl (cJ, 6, .inr (.inl f_runnerName))), (h_push, .inl (cI, 12, .inl g69)), (h_feet, .inl (cI, 12, .inl g108)), (p0, .inr (6, vL 12 F141)), (h_p0_bytes, .inl (cB, 940, .inl f_p0_bytes)), (h_p0_wordNames, .inl (cJ, 23, .inr (.inl f_p0_wordNames))), (h_weight, .inl (cI, 12, .inl g147))] := hD
            refine W.widen (k := 0) (n := 0) (Nat.le_of_ble_eq_true rfl) (Nat.le_of_ble_eq_true rfl) ?_
            have k166 : 3 ≤ y103.toInt ∧ y103.toInt ≤ 3 := ⟨Int.le_trans (Int.le_refl _) (Int.le_of_eq t158.symm), Int.le_trans (Int.le_of_eq t158) (Int.le_refl _)⟩
            have k167 : 50 ≤ y105.toInt ∧ y105.toInt ≤ 2147483647 := ⟨Int.le_trans (Int.le_refl _) t159, (ir_any _).2⟩
            have k168 : 50 ≤ y105.toInt ∧ y105.toInt ≤ 150 := ⟨k167.1, Int.le_trans t160 (Int.le_refl _)⟩
            refine lv_if_eq (tgt := 95) hx hb dX1_readMan_88 (by decide) (fun g => absurd g (by decide)) (fun _ => ?_)
            refine lv_iconst (v := 1) hx hb dX1_readMan_91 (by decide) ?_
            refine lv_goto (tgt := 96) hx hb dX1_readMan_92 (by decide) ?_
            refine lv_istore_n (lv' := [(2, .int 1), (0, .ref h0), (1, .ref p0)]) hx hb dX1_readMan_96 rfl hl (by decide) rfl (fun ls hl => ?_)
            refine lv_aload_n hx hb dX1_readMan_97 rfl (lv_at hl 1 rfl) ?_
            refine lv_dup hx hb dX1_readMan_98 rfl ?_
            refine get_f (D := D) (ci := 1) (v := .int x_men) (C := RX1) (T := TX1) (N := 18) hx hb hw inAX1 hown hK hP 0 rfl rfl 13 (by decide) (hw _ q_352) (fun _ h9 => h9) e_men dX1_readMan_99 ?_
            refine lv_iload_n hx hb dX1_readMan_102 rfl (lv_at hl 0 rfl) ?_
            refine lv_if_eq (tgt := 110) hx hb dX1_readMan_103 (by decide) (fun g => absurd g (by decide)) (fun _ => ?_)
            refine lv_iconst (v := 1) hx hb dX1_readMan_106 (by decide) ?_
            refine lv_goto (tgt := 111) hx hb dX1_readMan_107 (by decide) ?_
            refine lv_iadd hx hb dX1_readMan_111 ?_
            refine lv_topi (fun v169 ev169 => ?_)
            have bv169 : v169.toInt = x_men.toInt + 1 := by rw [ev169]; exact add_k rfl rfl k2 ⟨Int.le_refl _, Int.le_refl _⟩ (by decide)
            have k170 : 1 ≤ v169.toInt ∧ v169.toInt ≤ 12 := add_r bv169 k2 ⟨Int.le_refl _, Int.le_refl _⟩ (by decide)
            refine put_f (D := D) (ci := 1) (v := .int v169) (ty := .int) (C := RX1) (T := TX1) (N := 18) hx hb hw inAX1 tyX1 tyX1_ok nmX1 hown hK hP hD hS 0 rfl rfl 13 (by decide) (hw _ q_352) (fun _ h9 => h9) rfl (by decide +kernel) rfl rfl dX1_readMan_112 (fun H locs F171 eF171 hP hD hS => ?_)
            have hP : va_P D vwCl [(h0, .inr (1, vL 18 F171)), (h_manName, .inl (cJ, 12, .inr (.inl g34))), (h_runnerName, .inl (cJ, 6, .inr (.inl f_runnerName))), (h_push, .inl (cI, 12, .inl g69)), (h_feet, .inl (cI, 12, .inl g108)), (p0, .inr (6, vL 12 F141)), (h_p0_bytes, .inl (cB, 940, .inl f_p0_bytes)), (h_p0_wordNames, .inl (cJ, 23, .inr (.inl f_p0_wordNames))), (h_weight, .inl (cI, 12, .inl g147))] H := hP
            have hD : va_D A [(h0, .inr (1, vL 18 F171)), (h_manName, .inl (cJ, 12, .inr (.inl g34))), (h_runnerName, .inl (cJ, 6, .inr (.inl f_runnerName))), (h_push, .inl (cI, 12, .inl g69)), (h_feet, .inl (cI, 12, .inl g108)), (p0, .inr (6, vL 12 F141)), (h_p0_bytes, .inl (cB, 940, .inl f_p0_bytes)), (h_p0_wordNames, .inl (cJ, 23, .inr (.inl f_p0_wordNames))), (h_weight, .inl (cI, 12, .inl g147))] := hD
            refine lv_iload_n hx hb dX1_readMan_115 rfl (lv_at hl 0 rfl) ?_
            exact ret_i (v := 1) hx hb hr hlocks hS (hP.sub (ws' := [(h0, .inr (1, vL 18 F171)), (h_manName, .inl (cJ, 12, .inr (.inl g34))), (h_push, .inl (cI, 12, .inl g69)), (h_feet, .inl (cI, 12, .inl g108)), (h_weight, .inl (cI, 12, .inl g147)), (h_runnerName, .inl (cJ, 6, .inr (.inl f_runnerName))), (p0, .inr (6, vL 12 F141)), (h_p0_bytes, .inl (cB, 940, .inl f_p0_bytes)), (h_p0_wordNames, .inl (cJ, 23, .inr (.inl f_p0_wordNames)))]) [0, 1, 3, 4, 8, 2, 5, 6, 7] rfl) (hD.sub (ws' := [(h0, .inr (1, vL 18 F171)), (h_manName, .inl (cJ, 12, .inr (.inl g34))), (h_push, .inl (cI, 12, .inl g69)), (h_feet, .inl (cI, 12, .inl g108)), (h_weight, .inl (cI, 12, .inl g147)), (h_runnerName, .inl (cJ, 6, .inr (.inl f_runnerName))), (p0, .inr (6, vL 12 F141)), (h_p0_bytes, .inl (cB, 940, .inl f_p0_bytes)), (h_p0_wordNames, .inl (cJ, 23, .inr (.inl f_p0_wordNames)))]) [0, 1, 3, 4, 8, 2, 5, 6, 7] (by decide) rfl) dX1_readMan_116 rfl (Nat.le_of_ble_eq_true rfl) (Nat.le_of_ble_eq_true rfl) ⟨F171, v169, F141, y142, y143, y144, y145, y31, y32, y146, g34, g69, g108, g147, (SAME.up eF171 SAME.rf (by decide)), (get_eq eF171), (ir_wk k170 (by decide) (by decide)), (SAME.tr (SAME.tr (SAME.tr (SAME.tr (SAME.tr SAME.rf t10 (by decide)) t35 (by decide)) t70 (by decide)) t109 (by decide)) t148 (by decide)), t149, t150, t152, t153, (SAME.at t148 (by decide) (SAME.at t109 (by decide) (SAME.at t70 (by decide) t40))), (SAME.at t148 (by decide) (SAME.at t109 (by decide) (SAME.at t70 (by decide) t41))), t154, t155, (show 0 ≤ (1 : Int32).toInt ∧ (1 : Int32).toInt ≤ 1 by decide), rfl⟩
  · have dc1 : 12 ≤ x_men.toInt := nlt_i (a := x_men.toInt) (b := 12) rfl rfl c1
    have k172 : 12 ≤ x_men.toInt ∧ x_men.toInt ≤ 12 := ⟨Int.le_trans (Int.le_refl _) dc1, i_x_men.2⟩
    refine lv_aload_n hx hb dX1_readMan_9 rfl (lv_at hl 1 rfl) ?_
    refine lv_iconst (v := 4) hx hb dX1_readMan_10 (by decide) ?_
    refine call_Vi (wr := [(h0, .inr (1, vL 18 Fh)), (h_manName, .inl (cJ, 12, .inr (.inl f_manName))), (h_push, .inl (cI, 12, .inl f_push)), (h_feet, .inl (cI, 12, .inl f_feet)), (h_weight, .inl (cI, 12, .inl f_weight)), (h_runnerName, .inl (cJ, 6, .inr (.inl f_runnerName))), (h_p0_bytes, .inl (cB, 940, .inl f_p0_bytes)), (h_p0_wordNames, .inl (cJ, 23, .inr (.inl f_p0_wordNames)))]) (As := [.int 4]) (rest := []) hx hb hml hown hw (m_X6_fail l D cI cJ cB cP cM cZ p0 F_p0_ x_p0_place 4 _ e_p0_place) wV_X1_128_X6_fail dX1_readMan_11 hK hP hD hS hA [6] [0, 1, 2, 3, 4, 5, 7, 8] rfl rfl (by decide) (by decide) (by decide) 0 6 rfl rfl GG.fb hG.at hl.1 rfl (Nat.le_of_ble_eq_true rfl) ⟨(Nat.le_of_ble_eq_true rfl), (Nat.le_of_ble_eq_true rfl)⟩ ⟨(Nat.le_of_ble_eq_true rfl), (Nat.le_of_ble_eq_true rfl)⟩ (fun r173 u H locs hp hP hD hS => ?_)
    have zl4 : (4 : Int32).toInt = 4 := by decide
    obtain ⟨F174, t175, t176, t177, rfl, rfl⟩ := hp
    have hP : va_P D vwCl [(h0, .inr (1, vL 18 Fh)), (h_manName, .inl (cJ, 12, .inr (.inl f_manName))), (h_push, .inl (cI, 12, .inl f_push)), (h_feet, .inl (cI, 12, .inl f_feet)), (h_weight, .inl (cI, 12, .inl f_weight)), (h_runnerName, .inl (cJ, 6, .inr (.inl f_runnerName))), (h_p0_bytes, .inl (cB, 940, .inl f_p0_bytes)), (h_p0_wordNames, .inl (cJ, 23, .inr (.inl f_p0_wordNames))), (p0, .inr (6, vL 12 F174))] H := hP
    have hD : va_D A [(h0, .inr (1, vL 18 Fh)), (h_manName, .inl (cJ, 12, .inr (.inl f_manName))), (h_push, .inl (cI, 12, .inl f_push)), (h_feet, .inl (cI, 12, .inl f_feet)), (h_weight, .inl (cI, 12, .inl f_weight)), (h_runnerName, .inl (cJ, 6, .inr (.inl f_runnerName))), (h_p0_bytes, .inl (cB, 940, .inl f_p0_bytes)), (h_p0_wordNames, .inl (cJ, 23, .inr (.inl f_p0_wordNames))), (p0, .inr (6, vL 12 F174))] := hD
    refine W.widen (k := 0) (n := 0) (Nat.le_of_ble_eq_true rfl) (Nat.le_of_ble_eq_true rfl) ?_
    exact ret_i (v := 0) hx hb hr hlocks hS (hP.sub (ws' := [(h0, .inr (1, vL 18 Fh)), (h_manName, .inl (cJ, 12, .inr (.inl f_manName))), (h_push, .inl (cI, 12, .inl f_push)), (h_feet, .inl (cI, 12, .inl f_feet)), (h_weight, .inl (cI, 12, .inl f_weight)), (h_runnerName, .inl (cJ, 6, .inr (.inl f_runnerName))), (p0, .inr (6, vL 12 F174)), (h_p0_bytes, .inl (cB, 940, .inl f_p0_bytes)), (h_p0_wordNames, .inl (cJ, 23, .inr (.inl f_p0_wordNames)))]) [0, 1, 2, 3, 4, 5, 8, 6, 7] rfl) (hD.sub (ws' := [(h0, .inr (1, vL 18 Fh)), (h_manName, .inl (cJ, 12, .inr (.inl f_manName))), (h_push, .inl (cI, 12, .inl f_push)), (h_feet, .inl (cI, 12, .inl f_feet)), (h_weight, .inl (cI, 12, .inl f_weight)), (h_runnerName, .inl (cJ, 6, .inr (.inl f_runnerName))), (p0, .inr (6, vL 12 F174)), (h_p0_bytes, .inl (cB, 940, .inl f_p0_bytes)), (h_p0_wordNames, .inl (cJ, 23, .inr (.inl f_p0_wordNames)))]) [0, 1, 2, 3, 4, 5, 8, 6, 7] (by decide) rfl) dX1_readMan_14 rfl (Nat.le_of_ble_eq_true rfl) (Nat.le_of_ble_eq_true rfl) ⟨Fh, x_men, F174, x_p0_kind, x_p0_place, x_p0_value, x_p0_name, 4, x_p0_place, x_p0_at, f_manName, f_push, f_feet, f_weight, SAME.rf, e_men, (ir_wk k172 (by decide) (by decide)), (SAME.tr SAME.rf t175 (by decide)), (SAME.at t175 (by decide) e_p0_kind), (SAME.at t175 (by decide) e_p0_place), (SAME.at t175 (by decide) e_p0_value), (SAME.at t175 (by decide) e_p0_name), t176, t177, (SAME.at t175 (by decide) e_p0_at), i_x_p0_at, (show 0 ≤ (0 : Int32).toInt ∧ (0 : Int32).toInt ≤ 1 by decide), rfl⟩
set_option maxHeartbeats 4000000 in
set_option maxRecDepth 100000 in
theorem m_X1_readBend (l : Launch) (D : va_G) (cI cJ cB cP cM cZ : ClassId) (h0 : Nat) (h_length : Nat) (h_drop : Nat) (h_ideal : Nat) (h_over : Nat) (p0 : Nat) (h_p0_bytes : Nat) (h_p0_wordNames : Nat) (Fh : Nat → Value) (x_bends : Int32) (f_length : Nat → Int32) (f_drop : Nat → Int32) (f_ideal : Nat → Int32) (f_over : Nat → Int32) (F_p0_ : Nat → Value) (x_p0_length : Int32) (x_p0_kind : Int32) (x_p0_place : Int32) (x_p0_value : Int32) (x_p0_name : Int64) (x_p0_faultKind : Int32) (x_p0_faultPlace : Int32) (x_p0_at : Int32) (x_p0_mostBytes : Int32) (f_p0_bytes : Nat → Int32) (f_p0_wordNames : Nat → Int64) (sz : Nat) (e_length : Fh 6 = .ref h_length) (e_drop : Fh 7 = .ref h_drop) (e_ideal : Fh 8 = .ref h_ideal) (e_over : Fh 9 = .ref h_over) (e_bends : Fh 14 = .int x_bends) (i_x_bends : IR 0 12 x_bends) (e_p0_bytes : F_p0_ 0 = .ref h_p0_bytes) (e_p0_length : F_p0_ 1 = .int x_p0_length) (i_x_p0_length : IR 0 940 x_p0_length) (e_p0_kind : F_p0_ 2 = .int x_p0_kind) (e_p0_place : F_p0_ 3 = .int x_p0_place) (e_p0_value : F_p0_ 4 = .int x_p0_value) (e_p0_name : F_p0_ 5 = .long x_p0_name) (e_p0_faultKind : F_p0_ 7 = .int x_p0_faultKind) (e_p0_faultPlace : F_p0_ 8 = .int x_p0_faultPlace) (e_p0_wordNames : F_p0_ 9 = .ref h_p0_wordNames) (e_p0_at : F_p0_ 10 = .int x_p0_at) (i_x_p0_at : IR 0 940 x_p0_at) (e_p0_mostBytes : F_p0_ 11 = .int x_p0_mostBytes) : CI l yX1_readBend cX1_readBend 3 (some .boolean) { frames := 3, cells := 0, slots := 0, locals := 67 } (GG D cI cJ cB cP cM cZ) D [(h0, .inr (1, vL 18 Fh)), (h_length, .inl (cI, 12, .inl f_length)), (h_drop, .inl (cI, 12, .inl f_drop)), (h_ideal, .inl (cI, 12, .inl f_ideal)), (h_over, .inl (cI, 12, .inl f_over)), (p0, .inr (6, vL 12 F_p0_)), (h_p0_bytes, .inl (cB, 940, .inl f_p0_bytes)), (h_p0_wordNames, .inl (cJ, 23, .inr (.inl f_p0_wordNames)))] sz [.ref h0, .ref p0] (fun (r : Int32) (u : va_W) => ∃ (Gh : Nat → Value) (y_bends : Int32) (G_p0_ : Nat → Value) (y_p0_kind : Int32) (y_p0_place : Int32) (y_p0_value : Int32) (y_p0_name : Int64) (y_p0_faultKind : Int32) (y_p0_faultPlace : Int32) (y_p0_at : Int32) (g_length : Nat → Int32) (g_drop : Nat → Int32) (g_ideal : Nat → Int32) (g_over : Nat → Int32), SAME [14] Fh Gh ∧ Gh 14 = .int y_bends ∧ IR 0 12 y_bends ∧ SAME [2, 3, 4, 5, 7, 8, 10] F_p0_ G_p0_ ∧ G_p0_ 2 = .int y_p0_kind ∧ G_p0_ 3 = .int y_p0_place ∧ G_p0_ 4 = .int y_p0_value ∧ G_p0_ 5 = .long y_p0_name ∧ G_p0_ 7 = .int y_p0_faultKind ∧ G_p0_ 8 = .int y_p0_faultPlace ∧ G_p0_ 10 = .int y_p0_at ∧ IR 0 940 y_p0_at ∧ IR 0 1 r ∧ u = [(h0, .inr (1, vL 18 Gh)), (h_length, .inl (cI, 12, .inl g_length)), (h_drop, .inl (cI, 12, .inl g_drop)), (h_ideal, .inl (cI, 12, .inl g_ideal)), (h_over, .inl (cI, 12, .inl g_over)), (p0, .inr (6, vL 12 G_p0_)), (h_p0_bytes, .inl (cB, 940, .inl f_p0_bytes)), (h_p0_wordNames, .inl (cJ, 23, .inr (.inl f_p0_wordNames)))]) := by
  refine CI_mk (by decide) (Nat.le_of_ble_eq_true rfl) ?_
  intro p e s m below meth c A ls E hAe hG hsz hP hD hA hS hl
  obtain ⟨hx, hb, hr, hw, hown, hlocks, hml, hnm⟩ := E
  have hK := hG.1
  have i_x_bends : 0 ≤ x_bends.toInt ∧ x_bends.toInt ≤ 12 := i_x_bends
  have i_x_p0_length : 0 ≤ x_p0_length.toInt ∧ x_p0_length.toInt ≤ 940 := i_x_p0_length
  have i_x_p0_at : 0 ≤ x_p0_at.toInt ∧ x_p0_at.toInt ≤ 940 := i_x_p0_at
  have hl : lv_has ls 3 [(0, .ref h0), (1, .ref p0)] := hl
  refine lv_aload_n hx hb dX1_readBend_0 rfl (lv_at hl 0 rfl) ?_
  refine get_f (D := D) (ci := 1) (v := .int x_bends) (C := RX1) (T := TX1) (N := 18) hx hb hw inAX1 hown hK hP 0 rfl rfl 14 (by decide) (hw _ q_354) (fun _ h9 => h9) e_bends dX1_readBend_1 ?_
  refine lv_bipush (v := 12) hx hb dX1_readBend_4 (by decide) ?_
  refine lv_icmp_lt (tgt := 15) hx hb dX1_readBend_6 (by decide) (fun c1 => ?_) (fun c1 => ?_)
  · have dc1 : x_bends.toInt < 12 := lt_i (a := x_bends.toInt) (b := 12) rfl rfl c1
    have k2 : 0 ≤ x_bends.toInt ∧ x_bends.toInt ≤ 11 := ⟨i_x_bends.1, up_lt dc1 (Int.le_refl _) (by decide)⟩
    refine lv_aload_n hx hb dX1_readBend_15 rfl (lv_at hl 1 rfl) ?_
    refine call_Vv (wr := [(h0, .inr (1, vL 18 Fh)), (h_length, .inl (cI, 12, .inl f_length)), (h_drop, .inl (cI, 12, .inl f_drop)), (h_ideal, .inl (cI, 12, .inl f_ideal)), (h_over, .inl (cI, 12, .inl f_over))]) (As := []) (rest := []) hx hb hml hown hw (m_X6_advance l D cI cJ cB cP cM cZ p0 h_p0_bytes h_p0_wordNames F_p0_ x_p0_length x_p0_value x_p0_name x_p0_at x_p0_mostBytes f_p0_bytes f_p0_wordNames _ e_p0_bytes e_p0_length i_x_p0_length e_p0_value e_p0_name e_p0_wordNames e_p0_at i_x_p0_at e_p0_mostBytes) wV_X1_131_X6_advance dX1_readBend_16 hK hP hD hS hA [5, 6, 7] [0, 1, 2, 3, 4] rfl rfl (by decide) (by decide) (by decide) 0 6 rfl rfl GG.fb hG.at hl.1 rfl (Nat.le_of_ble_eq_true rfl) ⟨(Nat.le_of_ble_eq_true rfl), (Nat.le_of_ble_eq_true rfl)⟩ ⟨(Nat.le_of_ble_eq_true rfl), (Nat.le_of_ble_eq_true rfl)⟩ (fun u H locs hp hP hD hS => ?_)
    obtain ⟨F4, y5, y6, y7, y8, y9, t10, t11, t12, t13, t14, t15, t16, t17, rfl⟩ := hp
    have hP : va_P D vwCl [(h0, .inr (1, vL 18 Fh)), (h_length, .inl (cI, 12, .inl f_length)), (h_drop, .inl (cI, 12, .inl f_drop)), (h_ideal, .inl (cI, 12, .inl f_ideal)), (h_over, .inl (cI, 12, .inl f_over)), (p0, .inr (6, vL 12 F4)), (h_p0_bytes, .inl (cB, 940, .inl f_p0_bytes)), (h_p0_wordNames, .inl (cJ, 23, .inr (.inl f_p0_wordNames)))] H := hP
    have hD : va_D A [(h0, .inr (1, vL 18 Fh)), (h_length, .inl (cI, 12, .inl f_length)), (h_drop, .inl (cI, 12, .inl f_drop)), (h_ideal, .inl (cI, 12, .inl f_ideal)), (h_over, .inl (cI, 12, .inl f_over)), (p0, .inr (6, vL 12 F4)), (h_p0_bytes, .inl (cB, 940, .inl f_p0_bytes)), (h_p0_wordNames, .inl (cJ, 23, .inr (.inl f_p0_wordNames)))] := hD
    refine W.widen (k := 0) (n := 0) (Nat.le_of_ble_eq_true rfl) (Nat.le_of_ble_eq_true rfl) ?_
    refine lv_aload_n hx hb dX1_readBend_19 rfl (lv_at hl 1 rfl) ?_
    refine lv_aload_n hx hb dX1_readBend_20 rfl (lv_at hl 0 rfl) ?_
    refine get_f (D := D) (ci := 1) (v := .ref h_length) (C := RX1) (T := TX1) (N := 18) hx hb hw inAX1 hown hK hP 0 rfl rfl 6 (by decide) (hw _ q_336) (fun _ h9 => h9) e_length dX1_readBend_21 ?_
    refine lv_aload_n hx hb dX1_readBend_24 rfl (lv_at hl 0 rfl) ?_
    refine get_f (D := D) (ci := 1) (v := .int x_bends) (C := RX1) (T := TX1) (N := 18) hx hb hw inAX1 hown hK hP 0 rfl rfl 14 (by decide) (hw _ q_354) (fun _ h9 => h9) e_bends dX1_readBend_25 ?_
    refine lv_iconst (v := 1) hx hb dX1_readBend_28 (by decide) ?_
    refine lv_bipush (v := 9) hx hb dX1_readBend_29 (by decide) ?_
    have n19 : F4 0 = .ref h_p0_bytes := (SAME.at t10 (by decide) e_p0_bytes)
    have n20 : F4 1 = .int x_p0_length := (SAME.at t10 (by decide) e_p0_length)
    have n21 : F4 9 = .ref h_p0_wordNames := (SAME.at t10 (by decide) e_p0_wordNames)
    have n22 : F4 11 = .int x_p0_mostBytes := (SAME.at t10 (by decide) e_p0_mostBytes)
    refine call_Vi (wr := [(h0, .inr (1, vL 18 Fh)), (h_drop, .inl (cI, 12, .inl f_drop)), (h_ideal, .inl (cI, 12, .inl f_ideal)), (h_over, .inl (cI, 12, .inl f_over))]) (As := [.ref h_length, .int x_bends, .int 1, .int 9]) (rest := []) hx hb hml hown hw (m_X6_takeInto_12 l D cI cJ cB cP cM cZ p0 h_p0_bytes h_p0_wordNames h_length F4 x_p0_length y5 y6 y7 y8 y9 x_p0_mostBytes f_p0_bytes f_p0_wordNames f_length x_bends 1 9 _ n19 n20 i_x_p0_length t11 t12 t14 t15 n21 t16 t17 n22) wV_X1_140_X6_takeInto dX1_readBend_31 hK hP hD hS hA [5, 6, 7, 1] [0, 2, 3, 4] rfl rfl (by decide) (by decide) (by decide) 0 6 rfl rfl GG.fb hG.at hl.1 rfl (Nat.le_of_ble_eq_true rfl) ⟨(Nat.le_of_ble_eq_true rfl), (Nat.le_of_ble_eq_true rfl)⟩ ⟨(Nat.le_of_ble_eq_true rfl), (Nat.le_of_ble_eq_true rfl)⟩ (fun r23 u H locs hp hP hD hS => ?_)
    have zl1 : (1 : Int32).toInt = 1 := by decide
    have zl9 : (9 : Int32).toInt = 9 := by decide
    rcases hp with ⟨F24, y25, t26, t27, t28, t29, rfl, rfl⟩ | ⟨F30, y31, y32, y33, y34, y35, g36, t37, t38, t39, t40, t41, t42, t43, t44, t45, t46, t47, t48, t49, t50, rfl, rfl⟩
    · have hP : va_P D vwCl [(h0, .inr (1, vL 18 Fh)), (h_drop, .inl (cI, 12, .inl f_drop)), (h_ideal, .inl (cI, 12, .inl f_ideal)), (h_over, .inl (cI, 12, .inl f_over)), (p0, .inr (6, vL 12 F24)), (h_p0_bytes, .inl (cB, 940, .inl f_p0_bytes)), (h_p0_wordNames, .inl (cJ, 23, .inr (.inl f_p0_wordNames))), (h_length, .inl (cI, 12, .inl f_length))] H := hP
      have hD : va_D A [(h0, .inr (1, vL 18 Fh)), (h_drop, .inl (cI, 12, .inl f_drop)), (h_ideal, .inl (cI, 12, .inl f_ideal)), (h_over, .inl (cI, 12, .inl f_over)), (p0, .inr (6, vL 12 F24)), (h_p0_bytes, .inl (cB, 940, .inl f_p0_bytes)), (h_p0_wordNames, .inl (cJ, 23, .inr (.inl f_p0_wordNames))), (h_length, .inl (cI, 12, .inl f_length))] := hD
      refine W.widen (k := 0) (n := 0) (Nat.le_of_ble_eq_true rfl) (Nat.le_of_ble_eq_true rfl) ?_
      refine lv_if_eq (tgt := 95) hx hb dX1_readBend_34 (by decide) (fun _ => ?_) (fun g => absurd (by decide) g)
      refine lv_iconst (v := 0) hx hb dX1_readBend_95 (by decide) ?_
      refine lv_istore_n (lv' := [(2, .int 0), (0, .ref h0), (1, .ref p0)]) hx hb dX1_readBend_96 rfl hl (by decide) rfl (fun ls hl => ?_)
      refine lv_aload_n hx hb dX1_readBend_97 rfl (lv_at hl 1 rfl) ?_
      refine lv_dup hx hb dX1_readBend_98 rfl ?_
      refine get_f (D := D) (ci := 1) (v := .int x_bends) (C := RX1) (T := TX1) (N := 18) hx hb hw inAX1 hown hK hP 0 rfl rfl 14 (by decide) (hw _ q_354) (fun _ h9 => h9) e_bends dX1_readBend_99 ?_
      refine lv_iload_n hx hb dX1_readBend_102 rfl (lv_at hl 0 rfl) ?_
      refine lv_if_eq (tgt := 110) hx hb dX1_readBend_103 (by decide) (fun _ => ?_) (fun g => absurd (by decide) g)
      refine lv_iconst (v := 0) hx hb dX1_readBend_110 (by decide) ?_
      refine lv_iadd hx hb dX1_readBend_111 ?_
      refine lv_topi (fun v52 ev52 => ?_)
      have bv52 : v52.toInt = x_bends.toInt + 0 := by rw [ev52]; exact add_k rfl rfl k2 ⟨Int.le_refl _, Int.le_refl _⟩ (by decide)
      have k53 : 0 ≤ v52.toInt ∧ v52.toInt ≤ 11 := add_r bv52 k2 ⟨Int.le_refl _, Int.le_refl _⟩ (by decide)
      refine put_f (D := D) (ci := 1) (v := .int v52) (ty := .int) (C := RX1) (T := TX1) (N := 18) hx hb hw inAX1 tyX1 tyX1_ok nmX1 hown hK hP hD hS 0 rfl rfl 14 (by decide) (hw _ q_354) (fun _ h9 => h9) rfl (by decide +kernel) rfl rfl dX1_readBend_112 (fun H locs F54 eF54 hP hD hS => ?_)
      have hP : va_P D vwCl [(h0, .inr (1, vL 18 F54)), (h_drop, .inl (cI, 12, .inl f_drop)), (h_ideal, .inl (cI, 12, .inl f_ideal)), (h_over, .inl (cI, 12, .inl f_over)), (p0, .inr (6, vL 12 F24)), (h_p0_bytes, .inl (cB, 940, .inl f_p0_bytes)), (h_p0_wordNames, .inl (cJ, 23, .inr (.inl f_p0_wordNames))), (h_length, .inl (cI, 12, .inl f_length))] H := hP
      have hD : va_D A [(h0, .inr (1, vL 18 F54)), (h_drop, .inl (cI, 12, .inl f_drop)), (h_ideal, .inl (cI, 12, .inl f_ideal)), (h_over, .inl (cI, 12, .inl f_over)), (p0, .inr (6, vL 12 F24)), (h_p0_bytes, .inl (cB, 940, .inl f_p0_bytes)), (h_p0_wordNames, .inl (cJ, 23, .inr (.inl f_p0_wordNames))), (h_length, .inl (cI, 12, .inl f_length))] := hD
      refine lv_iload_n hx hb dX1_readBend_115 rfl (lv_at hl 0 rfl) ?_
      exact ret_i (v := 0) hx hb hr hlocks hS (hP.sub (ws' := [(h0, .inr (1, vL 18 F54)), (h_length, .inl (cI, 12, .inl f_length)), (h_drop, .inl (cI, 12, .inl f_drop)), (h_ideal, .inl (cI, 12, .inl f_ideal)), (h_over, .inl (cI, 12, .inl f_over)), (p0, .inr (6, vL 12 F24)), (h_p0_bytes, .inl (cB, 940, .inl f_p0_bytes)), (h_p0_wordNames, .inl (cJ, 23, .inr (.inl f_p0_wordNames)))]) [0, 7, 1, 2, 3, 4, 5, 6] rfl) (hD.sub (ws' := [(h0, .inr (1, vL 18 F54)), (h_length, .inl (cI, 12, .inl f_length)), (h_drop, .inl (cI, 12, .inl f_drop)), (h_ideal, .inl (cI, 12, .inl f_ideal)), (h_over, .inl (cI, 12, .inl f_over)), (p0, .inr (6, vL 12 F24)), (h_p0_bytes, .inl (cB, 940, .inl f_p0_bytes)), (h_p0_wordNames, .inl (cJ, 23, .inr (.inl f_p0_wordNames)))]) [0, 7, 1, 2, 3, 4, 5, 6] (by decide) rfl) dX1_readBend_116 rfl (Nat.le_of_ble_eq_true rfl) (Nat.le_of_ble_eq_true rfl) ⟨F54, v52, F24, y5, y6, y7, y8, y25, y6, y9, f_length, f_drop, f_ideal, f_over, (SAME.up eF54 SAME.rf (by decide)), (get_eq eF54), (ir_wk k53 (by decide) (by decide)), (SAME.tr (SAME.tr SAME.rf t10 (by decide)) t26 (by decide)), (SAME.at t26 (by decide) t11), (SAME.at t26 (by decide) t12), (SAME.at t26 (by decide) t14), (SAME.at t26 (by decide) t15), t27, t29, (SAME.at t26 (by decide) t16), t17, (show 0 ≤ (0 : Int32).toInt ∧ (0 : Int32).toInt ≤ 1 by decide), rfl⟩
    · have hP : va_P D vwCl [(h0, .inr (1, vL 18 Fh)), (h_drop, .inl (cI, 12, .inl f_drop)), (h_ideal, .inl (cI, 12, .inl f_ideal)), (h_over, .inl (cI, 12, .inl f_over)), (p0, .inr (6, vL 12 F30)), (h_p0_bytes, .inl (cB, 940, .inl f_p0_bytes)), (h_p0_wordNames, .inl (cJ, 23, .inr (.inl f_p0_wordNames))), (h_length, .inl (cI, 12, .inl g36))] H := hP
      have hD : va_D A [(h0, .inr (1, vL 18 Fh)), (h_drop, .inl (cI, 12, .inl f_drop)), (h_ideal, .inl (cI, 12, .inl f_ideal)), (h_over, .inl (cI, 12, .inl f_over)), (p0, .inr (6, vL 12 F30)), (h_p0_bytes, .inl (cB, 940, .inl f_p0_bytes)), (h_p0_wordNames, .inl (cJ, 23, .inr (.inl f_p0_wordNames))), (h_length, .inl (cI, 12, .inl g36))] := hD
      refine W.widen (k := 0) (n := 0) (Nat.le_of_ble_eq_true rfl) (Nat.le_of_ble_eq_true rfl) ?_
      have k55 : 3 ≤ y5.toInt ∧ y5.toInt ≤ 3 := ⟨Int.le_trans (Int.le_refl _) (Int.le_of_eq t47.symm), Int.le_trans (Int.le_of_eq t47) (Int.le_refl _)⟩
      have k56 : 1 ≤ y7.toInt ∧ y7.toInt ≤ 2147483647 := ⟨Int.le_trans (Int.le_refl _) t48, (ir_any _).2⟩
      have k57 : 1 ≤ y7.toInt ∧ y7.toInt ≤ 9 := ⟨k56.1, Int.le_trans t49 (Int.le_refl _)⟩
      refine lv_if_eq (tgt := 95) hx hb dX1_readBend_34 (by decide) (fun g => absurd g (by decide)) (fun _ => ?_)
      refine lv_aload_n hx hb dX1_readBend_37 rfl (lv_at hl 1 rfl) ?_
      refine lv_aload_n hx hb dX1_readBend_38 rfl (lv_at hl 0 rfl) ?_
      refine get_f (D := D) (ci := 1) (v := .ref h_drop) (C := RX1) (T := TX1) (N := 18) hx hb hw inAX1 hown hK hP 0 rfl rfl 7 (by decide) (hw _ q_340) (fun _ h9 => h9) e_drop dX1_readBend_39 ?_
      refine lv_aload_n hx hb dX1_readBend_42 rfl (lv_at hl 0 rfl) ?_
      refine get_f (D := D) (ci := 1) (v := .int x_bends) (C := RX1) (T := TX1) (N := 18) hx hb hw inAX1 hown hK hP 0 rfl rfl 14 (by decide) (hw _ q_354) (fun _ h9 => h9) e_bends dX1_readBend_43 ?_
      refine lv_iconst (v := 0) hx hb dX1_readBend_46 (by decide) ?_
      refine lv_bipush (v := 9) hx hb dX1_readBend_47 (by decide) ?_
      have n58 : F30 0 = .ref h_p0_bytes := (SAME.at t37 (by decide) n19)
      have n59 : F30 1 = .int x_p0_length := (SAME.at t37 (by decide) n20)
      have n60 : F30 9 = .ref h_p0_wordNames := (SAME.at t37 (by decide) n21)
      have n61 : F30 11 = .int x_p0_mostBytes := (SAME.at t37 (by decide) n22)
      refine call_Vi (wr := [(h0, .inr (1, vL 18 Fh)), (h_ideal, .inl (cI, 12, .inl f_ideal)), (h_over, .inl (cI, 12, .inl f_over)), (h_length, .inl (cI, 12, .inl g36))]) (As := [.ref h_drop, .int x_bends, .int 0, .int 9]) (rest := []) hx hb hml hown hw (m_X6_takeInto_12 l D cI cJ cB cP cM cZ p0 h_p0_bytes h_p0_wordNames h_drop F30 x_p0_length y31 y32 y33 y34 y35 x_p0_mostBytes f_p0_bytes f_p0_wordNames f_drop x_bends 0 9 _ n58 n59 i_x_p0_length t38 t39 t41 t42 n60 t43 t44 n61) wV_X1_140_X6_takeInto dX1_readBend_49 hK hP hD hS hA [4, 5, 6, 1] [0, 2, 3, 7] rfl rfl (by decide) (by decide) (by decide) 0 6 rfl rfl GG.fb hG.at hl.1 rfl (Nat.le_of_ble_eq_true rfl) ⟨(Nat.le_of_ble_eq_true rfl), (Nat.le_of_ble_eq_true rfl)⟩ ⟨(Nat.le_of_ble_eq_true rfl), (Nat.le_of_ble_eq_true rfl)⟩ (fun r62 u H locs hp hP hD hS => ?_)
      have zl0 : (0 : Int32).toInt = 0 := by decide
      rcases hp with ⟨F63, y64, t65, t66, t67, t68, rfl, rfl⟩ | ⟨F69, y70, y71, y72, y73, y74, g75, t76, t77, t78, t79, t80, t81, t82, t83, t84, t85, t86, t87, t88, t89, rfl, rfl⟩
      · have hP : va_P D vwCl [(h0, .inr (1, vL 18 Fh)), (h_ideal, .inl (cI, 12, .inl f_ideal)), (h_over, .inl (cI, 12, .inl f_over)), (h_length, .inl (cI, 12, .inl g36)), (p0, .inr (6, vL 12 F63)), (h_p0_bytes, .inl (cB, 940, .inl f_p0_bytes)), (h_p0_wordNames, .inl (cJ, 23, .inr (.inl f_p0_wordNames))), (h_drop, .inl (cI, 12, .inl f_drop))] H := hP
        have hD : va_D A [(h0, .inr (1, vL 18 Fh)), (h_ideal, .inl (cI, 12, .inl f_ideal)), (h_over, .inl (cI, 12, .inl f_over)), (h_length, .inl (cI, 12, .inl g36)), (p0, .inr (6, vL 12 F63)), (h_p0_bytes, .inl (cB, 940, .inl f_p0_bytes)), (h_p0_wordNames, .inl (cJ, 23, .inr (.inl f_p0_wordNames))), (h_drop, .inl (cI, 12, .inl f_drop))] := hD
        refine W.widen (k := 0) (n := 0) (Nat.le_of_ble_eq_true rfl) (Nat.le_of_ble_eq_true rfl) ?_
        refine lv_if_eq (tgt := 95) hx hb dX1_readBend_52 (by decide) (fun _ => ?_) (fun g => absurd (by decide) g)
        refine lv_iconst (v := 0) hx hb dX1_readBend_95 (by decide) ?_
        refine lv_istore_n (lv' := [(2, .int 0), (0, .ref h0), (1, .ref p0)]) hx hb dX1_readBend_96 rfl hl (by decide) rfl (fun ls hl => ?_)
        refine lv_aload_n hx hb dX1_readBend_97 rfl (lv_at hl 1 rfl) ?_
        refine lv_dup hx hb dX1_readBend_98 rfl ?_
        refine get_f (D := D) (ci := 1) (v := .int x_bends) (C := RX1) (T := TX1) (N := 18) hx hb hw inAX1 hown hK hP 0 rfl rfl 14 (by decide) (hw _ q_354) (fun _ h9 => h9) e_bends dX1_readBend_99 ?_
        refine lv_iload_n hx hb dX1_readBend_102 rfl (lv_at hl 0 rfl) ?_
        refine lv_if_eq (tgt := 110) hx hb dX1_readBend_103 (by decide) (fun _ => ?_) (fun g => absurd (by decide) g)
        refine lv_iconst (v := 0) hx hb dX1_readBend_110 (by decide) ?_
        refine lv_iadd hx hb dX1_readBend_111 ?_
        refine lv_topi (fun v91 ev91 => ?_)
        have bv91 : v91.toInt = x_bends.toInt + 0 := by rw [ev91]; exact add_k rfl rfl k2 ⟨Int.le_refl _, Int.le_refl _⟩ (by decide)
        have k92 : 0 ≤ v91.toInt ∧ v91.toInt ≤ 11 := add_r bv91 k2 ⟨Int.le_refl _, Int.le_refl _⟩ (by decide)
        refine put_f (D := D) (ci := 1) (v := .int v91) (ty := .int) (C := RX1) (T := TX1) (N := 18) hx hb hw inAX1 tyX1 tyX1_ok nmX1 hown hK hP hD hS 0 rfl rfl 14 (by decide) (hw _ q_354) (fun _ h9 => h9) rfl (by decide +kernel) rfl rfl dX1_readBend_112 (fun H locs F93 eF93 hP hD hS => ?_)
        have hP : va_P D vwCl [(h0, .inr (1, vL 18 F93)), (h_ideal, .inl (cI, 12, .inl f_ideal)), (h_over, .inl (cI, 12, .inl f_over)), (h_length, .inl (cI, 12, .inl g36)), (p0, .inr (6, vL 12 F63)), (h_p0_bytes, .inl (cB, 940, .inl f_p0_bytes)), (h_p0_wordNames, .inl (cJ, 23, .inr (.inl f_p0_wordNames))), (h_drop, .inl (cI, 12, .inl f_drop))] H := hP
        have hD : va_D A [(h0, .inr (1, vL 18 F93)), (h_ideal, .inl (cI, 12, .inl f_ideal)), (h_over, .inl (cI, 12, .inl f_over)), (h_length, .inl (cI, 12, .inl g36)), (p0, .inr (6, vL 12 F63)), (h_p0_bytes, .inl (cB, 940, .inl f_p0_bytes)), (h_p0_wordNames, .inl (cJ, 23, .inr (.inl f_p0_wordNames))), (h_drop, .inl (cI, 12, .inl f_drop))] := hD
        refine lv_iload_n hx hb dX1_readBend_115 rfl (lv_at hl 0 rfl) ?_
        exact ret_i (v := 0) hx hb hr hlocks hS (hP.sub (ws' := [(h0, .inr (1, vL 18 F93)), (h_length, .inl (cI, 12, .inl g36)), (h_drop, .inl (cI, 12, .inl f_drop)), (h_ideal, .inl (cI, 12, .inl f_ideal)), (h_over, .inl (cI, 12, .inl f_over)), (p0, .inr (6, vL 12 F63)), (h_p0_bytes, .inl (cB, 940, .inl f_p0_bytes)), (h_p0_wordNames, .inl (cJ, 23, .inr (.inl f_p0_wordNames)))]) [0, 3, 7, 1, 2, 4, 5, 6] rfl) (hD.sub (ws' := [(h0, .inr (1, vL 18 F93)), (h_length, .inl (cI, 12, .inl g36)), (h_drop, .inl (cI, 12, .inl f_drop)), (h_ideal, .inl (cI, 12, .inl f_ideal)), (h_over, .inl (cI, 12, .inl f_over)), (p0, .inr (6, vL 12 F63)), (h_p0_bytes, .inl (cB, 940, .inl f_p0_bytes)), (h_p0_wordNames, .inl (cJ, 23, .inr (.inl f_p0_wordNames)))]) [0, 3, 7, 1, 2, 4, 5, 6] (by decide) rfl) dX1_readBend_116 rfl (Nat.le_of_ble_eq_true rfl) (Nat.le_of_ble_eq_true rfl) ⟨F93, v91, F63, y31, y32, y33, y34, y64, y32, y35, g36, f_drop, f_ideal, f_over, (SAME.up eF93 SAME.rf (by decide)), (get_eq eF93), (ir_wk k92 (by decide) (by decide)), (SAME.tr (SAME.tr (SAME.tr SAME.rf t10 (by decide)) t37 (by decide)) t65 (by decide)), (SAME.at t65 (by decide) t38), (SAME.at t65 (by decide) t39), (SAME.at t65 (by decide) t41), (SAME.at t65 (by decide) t42), t66, t68, (SAME.at t65 (by decide) t43), t44, (show 0 ≤ (0 : Int32).toInt ∧ (0 : Int32).toInt ≤ 1 by decide), rfl⟩
      · have hP : va_P D vwCl [(h0, .inr (1, vL 18 Fh)), (h_ideal, .inl (cI, 12, .inl f_ideal)), (h_over, .inl (cI, 12, .inl f_over)), (h_length, .inl (cI, 12, .inl g36)), (p0, .inr (6, vL 12 F69)), (h_p0_bytes, .inl (cB, 940, .inl f_p0_bytes)), (h_p0_wordNames, .inl (cJ, 23, .inr (.inl f_p0_wordNames))), (h_drop, .inl (cI, 12, .inl g75))] H := hP
        have hD : va_D A [(h0, .inr (1, vL 18 Fh)), (h_ideal, .inl (cI, 12, .inl f_ideal)), (h_over, .inl (cI, 12, .inl f_over)), (h_length, .inl (cI, 12, .inl g36)), (p0, .inr (6, vL 12 F69)), (h_p0_bytes, .inl (cB, 940, .inl f_p0_bytes)), (h_p0_wordNames, .inl (cJ, 23, .inr (.inl f_p0_wordNames))), (h_drop, .inl (cI, 12, .inl g75))] := hD
        refine W.widen (k := 0) (n := 0) (Nat.le_of_ble_eq_true rfl) (Nat.le_of_ble_eq_true rfl) ?_
        have k94 : 3 ≤ y31.toInt ∧ y31.toInt ≤ 3 := ⟨Int.le_trans (Int.le_refl _) (Int.le_of_eq t86.symm), Int.le_trans (Int.le_of_eq t86) (Int.le_refl _)⟩
        have k95 : 0 ≤ y33.toInt ∧ y33.toInt ≤ 2147483647 := ⟨Int.le_trans (Int.le_refl _) t87, (ir_any _).2⟩
        have k96 : 0 ≤ y33.toInt ∧ y33.toInt ≤ 9 := ⟨k95.1, Int.le_trans t88 (Int.le_refl _)⟩
        refine lv_if_eq (tgt := 95) hx hb dX1_readBend_52 (by decide) (fun g => absurd g (by decide)) (fun _ => ?_)
        refine lv_aload_n hx hb dX1_readBend_55 rfl (lv_at hl 1 rfl) ?_
        refine lv_aload_n hx hb dX1_readBend_56 rfl (lv_at hl 0 rfl) ?_
        refine get_f (D := D) (ci := 1) (v := .ref h_ideal) (C := RX1) (T := TX1) (N := 18) hx hb hw inAX1 hown hK hP 0 rfl rfl 8 (by decide) (hw _ q_342) (fun _ h9 => h9) e_ideal dX1_readBend_57 ?_
        refine lv_aload_n hx hb dX1_readBend_60 rfl (lv_at hl 0 rfl) ?_
        refine get_f (D := D) (ci := 1) (v := .int x_bends) (C := RX1) (T := TX1) (N := 18) hx hb hw inAX1 hown hK hP 0 rfl rfl 14 (by decide) (hw _ q_354) (fun _ h9 => h9) e_bends dX1_readBend_61 ?_
        refine lv_iconst (v := 0) hx hb dX1_readBend_64 (by decide) ?_
        refine lv_bipush (v := 9) hx hb dX1_readBend_65 (by decide) ?_
        have n97 : F69 0 = .ref h_p0_bytes := (SAME.at t76 (by decide) n58)
        have n98 : F69 1 = .int x_p0_length := (SAME.at t76 (by decide) n59)
        have n99 : F69 9 = .ref h_p0_wordNames := (SAME.at t76 (by decide) n60)
        have n100 : F69 11 = .int x_p0_mostBytes := (SAME.at t76 (by decide) n61)
        refine call_Vi (wr := [(h0, .inr (1, vL 18 Fh)), (h_over, .inl (cI, 12, .inl f_over)), (h_length, .inl (cI, 12, .inl g36)), (h_drop, .inl (cI, 12, .inl g75))]) (As := [.ref h_ideal, .int x_bends, .int 0, .int 9]) (rest := []) hx hb hml hown hw (m_X6_takeInto_12 l D cI cJ cB cP cM cZ p0 h_p0_bytes h_p0_wordNames h_ideal F69 x_p0_length y70 y71 y72 y73 y74 x_p0_mostBytes f_p0_bytes f_p0_wordNames f_ideal x_bends 0 9 _ n97 n98 i_x_p0_length t77 t78 t80 t81 n99 t82 t83 n100) wV_X1_140_X6_takeInto dX1_readBend_67 hK hP hD hS hA [4, 5, 6, 1] [0, 2, 3, 7] rfl rfl (by decide) (by decide) (by decide) 0 6 rfl rfl GG.fb hG.at hl.1 rfl (Nat.le_of_ble_eq_true rfl) ⟨(Nat.le_of_ble_eq_true rfl), (Nat.le_of_ble_eq_true rfl)⟩ ⟨(Nat.le_of_ble_eq_true rfl), (Nat.le_of_ble_eq_true rfl)⟩ (fun r101 u H locs hp hP hD hS => ?_)
        rcases hp with ⟨F102, y103, t104, t105, t106, t107, rfl, rfl⟩ | ⟨F108, y109, y110, y111, y112, y113, g114, t115, t116, t117, t118, t119, t120, t121, t122, t123, t124, t125, t126, t127, t128, rfl, rfl⟩
        · have hP : va_P D vwCl [(h0, .inr (1, vL 18 Fh)), (h_over, .inl (cI, 12, .inl f_over)), (h_length, .inl (cI, 12, .inl g36)), (h_drop, .inl (cI, 12, .inl g75)), (p0, .inr (6, vL 12 F102)), (h_p0_bytes, .inl (cB, 940, .inl f_p0_bytes)), (h_p0_wordNames, .inl (cJ, 23, .inr (.inl f_p0_wordNames))), (h_ideal, .inl (cI, 12, .inl f_ideal))] H := hP
          have hD : va_D A [(h0, .inr (1, vL 18 Fh)), (h_over, .inl (cI, 12, .inl f_over)), (h_length, .inl (cI, 12, .inl g36)), (h_drop, .inl (cI, 12, .inl g75)), (p0, .inr (6, vL 12 F102)), (h_p0_bytes, .inl (cB, 940, .inl f_p0_bytes)), (h_p0_wordNames, .inl (cJ, 23, .inr (.inl f_p0_wordNames))), (h_ideal, .inl (cI, 12, .inl f_ideal))] := hD
          refine W.widen (k := 0) (n := 0) (Nat.le_of_ble_eq_true rfl) (Nat.le_of_ble_eq_true rfl) ?_
          refine lv_if_eq (tgt := 95) hx hb dX1_readBend_70 (by decide) (fun _ => ?_) (fun g => absurd (by decide) g)
          refine lv_iconst (v := 0) hx hb dX1_readBend_95 (by decide) ?_
          refine lv_istore_n (lv' := [(2, .int 0), (0, .ref h0), (1, .ref p0)]) hx hb dX1_readBend_96 rfl hl (by decide) rfl (fun ls hl => ?_)
          refine lv_aload_n hx hb dX1_readBend_97 rfl (lv_at hl 1 rfl) ?_
          refine lv_dup hx hb dX1_readBend_98 rfl ?_
          refine get_f (D := D) (ci := 1) (v := .int x_bends) (C := RX1) (T := TX1) (N := 18) hx hb hw inAX1 hown hK hP 0 rfl rfl 14 (by decide) (hw _ q_354) (fun _ h9 => h9) e_bends dX1_readBend_99 ?_
          refine lv_iload_n hx hb dX1_readBend_102 rfl (lv_at hl 0 rfl) ?_
          refine lv_if_eq (tgt := 110) hx hb dX1_readBend_103 (by decide) (fun _ => ?_) (fun g => absurd (by decide) g)
          refine lv_iconst (v := 0) hx hb dX1_readBend_110 (by decide) ?_
          refine lv_iadd hx hb dX1_readBend_111 ?_
          refine lv_topi (fun v130 ev130 => ?_)
          have bv130 : v130.toInt = x_bends.toInt + 0 := by rw [ev130]; exact add_k rfl rfl k2 ⟨Int.le_refl _, Int.le_refl _⟩ (by decide)
          have k131 : 0 ≤ v130.toInt ∧ v130.toInt ≤ 11 := add_r bv130 k2 ⟨Int.le_refl _, Int.le_refl _⟩ (by decide)
          refine put_f (D := D) (ci := 1) (v := .int v130) (ty := .int) (C := RX1) (T := TX1) (N := 18) hx hb hw inAX1 tyX1 tyX1_ok nmX1 hown hK hP hD hS 0 rfl rfl 14 (by decide) (hw _ q_354) (fun _ h9 => h9) rfl (by decide +kernel) rfl rfl dX1_readBend_112 (fun H locs F132 eF132 hP hD hS => ?_)
          have hP : va_P D vwCl [(h0, .inr (1, vL 18 F132)), (h_over, .inl (cI, 12, .inl f_over)), (h_length, .inl (cI, 12, .inl g36)), (h_drop, .inl (cI, 12, .inl g75)), (p0, .inr (6, vL 12 F102)), (h_p0_bytes, .inl (cB, 940, .inl f_p0_bytes)), (h_p0_wordNames, .inl (cJ, 23, .inr (.inl f_p0_wordNames))), (h_ideal, .inl (cI, 12, .inl f_ideal))] H := hP
          have hD : va_D A [(h0, .inr (1, vL 18 F132)), (h_over, .inl (cI, 12, .inl f_over)), (h_length, .inl (cI, 12, .inl g36)), (h_drop, .inl (cI, 12, .inl g75)), (p0, .inr (6, vL 12 F102)), (h_p0_bytes, .inl (cB, 940, .inl f_p0_bytes)), (h_p0_wordNames, .inl (cJ, 23, .inr (.inl f_p0_wordNames))), (h_ideal, .inl (cI, 12, .inl f_ideal))] := hD
          refine lv_iload_n hx hb dX1_readBend_115 rfl (lv_at hl 0 rfl) ?_
          exact ret_i (v := 0) hx hb hr hlocks hS (hP.sub (ws' := [(h0, .inr (1, vL 18 F132)), (h_length, .inl (cI, 12, .inl g36)), (h_drop, .inl (cI, 12, .inl g75)), (h_ideal, .inl (cI, 12, .inl f_ideal)), (h_over, .inl (cI, 12, .inl f_over)), (p0, .inr (6, vL 12 F102)), (h_p0_bytes, .inl (cB, 940, .inl f_p0_bytes)), (h_p0_wordNames, .inl (cJ, 23, .inr (.inl f_p0_wordNames)))]) [0, 2, 3, 7, 1, 4, 5, 6] rfl) (hD.sub (ws' := [(h0, .inr (1, vL 18 F132)), (h_length, .inl (cI, 12, .inl g36)), (h_drop, .inl (cI, 12, .inl g75)), (h_ideal, .inl (cI, 12, .inl f_ideal)), (h_over, .inl (cI, 12, .inl f_over)), (p0, .inr (6, vL 12 F102)), (h_p0_bytes, .inl (cB, 940, .inl f_p0_bytes)), (h_p0_wordNames, .inl (cJ, 23, .inr (.inl f_p0_wordNames)))]) [0, 2, 3, 7, 1, 4, 5, 6] (by decide) rfl) dX1_readBend_116 rfl (Nat.le_of_ble_eq_true rfl) (Nat.le_of_ble_eq_true rfl) ⟨F132, v130, F102, y70, y71, y72, y73, y103, y71, y74, g36, g75, f_ideal, f_over, (SAME.up eF132 SAME.rf (by decide)), (get_eq eF132), (ir_wk k131 (by decide) (by decide)), (SAME.tr (SAME.tr (SAME.tr (SAME.tr SAME.rf t10 (by decide)) t37 (by decide)) t76 (by decide)) t104 (by decide)), (SAME.at t104 (by decide) t77), (SAME.at t104 (by decide) t78), (SAME.at t104 (by decide) t80), (SAME.at t104 (by decide) t81), t105, t107, (SAME.at t104 (by decide) t82), t83, (show 0 ≤ (0 : Int32).toInt ∧ (0 : Int32).toInt ≤ 1 by decide), rfl⟩
        · have hP : va_P D vwCl [(h0, .inr (1, vL 18 Fh)), (h_over, .inl (cI, 12, .inl f_over)), (h_length, .inl (cI, 12, .inl g36)), (h_drop, .inl (cI, 12, .inl g75)), (p0, .inr (6, vL 12 F108)), (h_p0_bytes, .inl (cB, 940, .inl f_p0_bytes)), (h_p0_wordNames, .inl (cJ, 23, .inr (.inl f_p0_wordNames))), (h_ideal, .inl (cI, 12, .inl g114))] H := hP
          have hD : va_D A [(h0, .inr (1, vL 18 Fh)), (h_over, .inl (cI, 12, .inl f_over)), (h_length, .inl (cI, 12, .inl g36)), (h_drop, .inl (cI, 12, .inl g75)), (p0, .inr (6, vL 12 F108)), (h_p0_bytes, .inl (cB, 940, .inl f_p0_bytes)), (h_p0_wordNames, .inl (cJ, 23, .inr (.inl f_p0_wordNames))), (h_ideal, .inl (cI, 12, .inl g114))] := hD
          refine W.widen (k := 0) (n := 0) (Nat.le_of_ble_eq_true rfl) (Nat.le_of_ble_eq_true rfl) ?_
          have k133 : 3 ≤ y70.toInt ∧ y70.toInt ≤ 3 := ⟨Int.le_trans (Int.le_refl _) (Int.le_of_eq t125.symm), Int.le_trans (Int.le_of_eq t125) (Int.le_refl _)⟩
          have k134 : 0 ≤ y72.toInt ∧ y72.toInt ≤ 2147483647 := ⟨Int.le_trans (Int.le_refl _) t126, (ir_any _).2⟩
          have k135 : 0 ≤ y72.toInt ∧ y72.toInt ≤ 9 := ⟨k134.1, Int.le_trans t127 (Int.le_refl _)⟩
          refine lv_if_eq (tgt := 95) hx hb dX1_readBend_70 (by decide) (fun g => absurd g (by decide)) (fun _ => ?_)
          refine lv_aload_n hx hb dX1_readBend_73 rfl (lv_at hl 1 rfl) ?_
          refine lv_aload_n hx hb dX1_readBend_74 rfl (lv_at hl 0 rfl) ?_
          refine get_f (D := D) (ci := 1) (v := .ref h_over) (C := RX1) (T := TX1) (N := 18) hx hb hw inAX1 hown hK hP 0 rfl rfl 9 (by decide) (hw _ q_345) (fun _ h9 => h9) e_over dX1_readBend_75 ?_
          refine lv_aload_n hx hb dX1_readBend_78 rfl (lv_at hl 0 rfl) ?_
          refine get_f (D := D) (ci := 1) (v := .int x_bends) (C := RX1) (T := TX1) (N := 18) hx hb hw inAX1 hown hK hP 0 rfl rfl 14 (by decide) (hw _ q_354) (fun _ h9 => h9) e_bends dX1_readBend_79 ?_
          refine lv_iconst (v := 1) hx hb dX1_readBend_82 (by decide) ?_
          refine lv_bipush (v := 99) hx hb dX1_readBend_83 (by decide) ?_
          have n136 : F108 0 = .ref h_p0_bytes := (SAME.at t115 (by decide) n97)
          have n137 : F108 1 = .int x_p0_length := (SAME.at t115 (by decide) n98)
          have n138 : F108 9 = .ref h_p0_wordNames := (SAME.at t115 (by decide) n99)
          have n139 : F108 11 = .int x_p0_mostBytes := (SAME.at t115 (by decide) n100)
          refine call_Vi (wr := [(h0, .inr (1, vL 18 Fh)), (h_length, .inl (cI, 12, .inl g36)), (h_drop, .inl (cI, 12, .inl g75)), (h_ideal, .inl (cI, 12, .inl g114))]) (As := [.ref h_over, .int x_bends, .int 1, .int 99]) (rest := []) hx hb hml hown hw (m_X6_takeInto_12 l D cI cJ cB cP cM cZ p0 h_p0_bytes h_p0_wordNames h_over F108 x_p0_length y109 y110 y111 y112 y113 x_p0_mostBytes f_p0_bytes f_p0_wordNames f_over x_bends 1 99 _ n136 n137 i_x_p0_length t116 t117 t119 t120 n138 t121 t122 n139) wV_X1_140_X6_takeInto dX1_readBend_85 hK hP hD hS hA [4, 5, 6, 1] [0, 2, 3, 7] rfl rfl (by decide) (by decide) (by decide) 0 6 rfl rfl GG.fb hG.at hl.1 rfl (Nat.le_of_ble_eq_true rfl) ⟨(Nat.le_of_ble_eq_true rfl), (Nat.le_of_ble_eq_true rfl)⟩ ⟨(Nat.le_of_ble_eq_true rfl), (Nat.le_of_ble_eq_true rfl)⟩ (fun r140 u H locs hp hP hD hS => ?_)
          have zl99 : (99 : Int32).toInt = 99 := by decide
          rcases hp with ⟨F141, y142, t143, t144, t145, t146, rfl, rfl⟩ | ⟨F147, y148, y149, y150, y151, y152, g153, t154, t155, t156, t157, t158, t159, t160, t161, t162, t163, t164, t165, t166, t167, rfl, rfl⟩
          · have hP : va_P D vwCl [(h0, .inr (1, vL 18 Fh)), (h_length, .inl (cI, 12, .inl g36)), (h_drop, .inl (cI, 12, .inl g75)), (h_ideal, .inl (cI, 12, .inl g114)), (p0, .inr (6, vL 12 F141)), (h_p0_bytes, .inl (cB, 940, .inl f_p0_bytes)), (h_p0_wordNames, .inl (cJ, 23, .inr (.inl f_p0_wordNames))), (h_over, .inl (cI, 12, .inl f_over))] H := hP
            have hD : va_D A [(h0, .inr (1, vL 18 Fh)), (h_length, .inl (cI, 12, .inl g36)), (h_drop, .inl (cI, 12, .inl g75)), (h_ideal, .inl (cI, 12, .inl g114)), (p0, .inr (6, vL 12 F141)), (h_p0_bytes, .inl (cB, 940, .inl f_p0_bytes)), (h_p0_wordNames, .inl (cJ, 23, .inr (.inl f_p0_wordNames))), (h_over, .inl (cI, 12, .inl f_over))] := hD
            refine W.widen (k := 0) (n := 0) (Nat.le_of_ble_eq_true rfl) (Nat.le_of_ble_eq_true rfl) ?_
            refine lv_if_eq (tgt := 95) hx hb dX1_readBend_88 (by decide) (fun _ => ?_) (fun g => absurd (by decide) g)
            refine lv_iconst (v := 0) hx hb dX1_readBend_95 (by decide) ?_
            refine lv_istore_n (lv' := [(2, .int 0), (0, .ref h0), (1, .ref p0)]) hx hb dX1_readBend_96 rfl hl (by decide) rfl (fun ls hl => ?_)
            refine lv_aload_n hx hb dX1_readBend_97 rfl (lv_at hl 1 rfl) ?_
            refine lv_dup hx hb dX1_readBend_98 rfl ?_
            refine get_f (D := D) (ci := 1) (v := .int x_bends) (C := RX1) (T := TX1) (N := 18) hx hb hw inAX1 hown hK hP 0 rfl rfl 14 (by decide) (hw _ q_354) (fun _ h9 => h9) e_bends dX1_readBend_99 ?_
            refine lv_iload_n hx hb dX1_readBend_102 rfl (lv_at hl 0 rfl) ?_
            refine lv_if_eq (tgt := 110) hx hb dX1_readBend_103 (by decide) (fun _ => ?_) (fun g => absurd (by decide) g)
            refine lv_iconst (v := 0) hx hb dX1_readBend_110 (by decide) ?_
            refine lv_iadd hx hb dX1_readBend_111 ?_
            refine lv_topi (fun v169 ev169 => ?_)
            have bv169 : v169.toInt = x_bends.toInt + 0 := by rw [ev169]; exact add_k rfl rfl k2 ⟨Int.le_refl _, Int.le_refl _⟩ (by decide)
            have k170 : 0 ≤ v169.toInt ∧ v169.toInt ≤ 11 := add_r bv169 k2 ⟨Int.le_refl _, Int.le_refl _⟩ (by decide)
            refine put_f (D := D) (ci := 1) (v := .int v169) (ty := .int) (C := RX1) (T := TX1) (N := 18) hx hb hw inAX1 tyX1 tyX1_ok nmX1 hown hK hP hD hS 0 rfl rfl 14 (by decide) (hw _ q_354) (fun _ h9 => h9) rfl (by decide +kernel) rfl rfl dX1_readBend_112 (fun H locs F171 eF171 hP hD hS => ?_)
            have hP : va_P D vwCl [(h0, .inr (1, vL 18 F171)), (h_length, .inl (cI, 12, .inl g36)), (h_drop, .inl (cI, 12, .inl g75)), (h_ideal, .inl (cI, 12, .inl g114)), (p0, .inr (6, vL 12 F141)), (h_p0_bytes, .inl (cB, 940, .inl f_p0_bytes)), (h_p0_wordNames, .inl (cJ, 23, .inr (.inl f_p0_wordNames))), (h_over, .inl (cI, 12, .inl f_over))] H := hP
            have hD : va_D A [(h0, .inr (1, vL 18 F171)), (h_length, .inl (cI, 12, .inl g36)), (h_drop, .inl (cI, 12, .inl g75)), (h_ideal, .inl (cI, 12, .inl g114)), (p0, .inr (6, vL 12 F141)), (h_p0_bytes, .inl (cB, 940, .inl f_p0_bytes)), (h_p0_wordNames, .inl (cJ, 23, .inr (.inl f_p0_wordNames))), (h_over, .inl (cI, 12, .inl f_over))] := hD
            refine lv_iload_n hx hb dX1_readBend_115 rfl (lv_at hl 0 rfl) ?_
            exact ret_i (v := 0) hx hb hr hlocks hS (hP.sub (ws' := [(h0, .inr (1, vL 18 F171)), (h_length, .inl (cI, 12, .inl g36)), (h_drop, .inl (cI, 12, .inl g75)), (h_ideal, .inl (cI, 12, .inl g114)), (h_over, .inl (cI, 12, .inl f_over)), (p0, .inr (6, vL 12 F141)), (h_p0_bytes, .inl (cB, 940, .inl f_p0_bytes)), (h_p0_wordNames, .inl (cJ, 23, .inr (.inl f_p0_wordNames)))]) [0, 1, 2, 3, 7, 4, 5, 6] rfl) (hD.sub (ws' := [(h0, .inr (1, vL 18 F171)), (h_length, .inl (cI, 12, .inl g36)), (h_drop, .inl (cI, 12, .inl g75)), (h_ideal, .inl (cI, 12, .inl g114)), (h_over, .inl (cI, 12, .inl f_over)), (p0, .inr (6, vL 12 F141)), (h_p0_bytes, .inl (cB, 940, .inl f_p0_bytes)), (h_p0_wordNames, .inl (cJ, 23, .inr (.inl f_p0_wordNames)))]) [0, 1, 2, 3, 7, 4, 5, 6] (by decide) rfl) dX1_readBend_116 rfl (Nat.le_of_ble_eq_true rfl) (Nat.le_of_ble_eq_true rfl) ⟨F171, v169, F141, y109, y110, y111, y112, y142, y110, y113, g36, g75, g114, f_over, (SAME.up eF171 SAME.rf (by decide)), (get_eq eF171), (ir_wk k170 (by decide) (by decide)), (SAME.tr (SAME.tr (SAME.tr (SAME.tr (SAME.tr SAME.rf t10 (by decide)) t37 (by decide)) t76 (by decide)) t115 (by decide)) t143 (by decide)), (SAME.at t143 (by decide) t116), (SAME.at t143 (by decide) t117), (SAME.at t143 (by decide) t119), (SAME.at t143 (by decide) t120), t144, t146, (SAME.at t143 (by decide) t121), t122, (show 0 ≤ (0 : Int32).toInt ∧ (0 : Int32).toInt ≤ 1 by decide), rfl⟩
          · have hP : va_P D vwCl [(h0, .inr (1, vL 18 Fh)), (h_length, .inl (cI, 12, .inl g36)), (h_drop, .inl (cI, 12, .inl g75)), (h_ideal, .inl (cI, 12, .inl g114)), (p0, .inr (6, vL 12 F147)), (h_p0_bytes, .inl (cB, 940, .inl f_p0_bytes)), (h_p0_wordNames, .inl (cJ, 23, .inr (.inl f_p0_wordNames))), (h_over, .inl (cI, 12, .inl g153))] H := hP
            have hD : va_D A [(h0, .inr (1, vL 18 Fh)), (h_length, .inl (cI, 12, .inl g36)), (h_drop, .inl (cI, 12, .inl g75)), (h_ideal, .inl (cI, 12, .inl g114)), (p0, .inr (6, vL 12 F147)), (h_p0_bytes, .inl (cB, 940, .inl f_p0_bytes)), (h_p0_wordNames, .inl (cJ, 23, .inr (.inl f_p0_wordNames))), (h_over, .inl (cI, 12, .inl g153))] := hD
            refine W.widen (k := 0) (n := 0) (Nat.le_of_ble_eq_true rfl) (Nat.le_of_ble_eq_true rfl) ?_
            have k172 : 3 ≤ y109.toInt ∧ y109.toInt ≤ 3 := ⟨Int.le_trans (Int.le_refl _) (Int.le_of_eq t164.symm), Int.le_trans (Int.le_of_eq t164) (Int.le_refl _)⟩
            have k173 : 1 ≤ y111.toInt ∧ y111.toInt ≤ 2147483647 := ⟨Int.le_trans (Int.le_refl _) t165, (ir_any _).2⟩
            have k174 : 1 ≤ y111.toInt ∧ y111.toInt ≤ 99 := ⟨k173.1, Int.le_trans t166 (Int.le_refl _)⟩
            refine lv_if_eq (tgt := 95) hx hb dX1_readBend_88 (by decide) (fun g => absurd g (by decide)) (fun _ => ?_)
            refine lv_iconst (v := 1) hx hb dX1_readBend_91 (by decide) ?_
            refine lv_goto (tgt := 96) hx hb dX1_readBend_92 (by decide) ?_
            refine lv_istore_n (lv' := [(2, .int 1), (0, .ref h0), (1, .ref p0)]) hx hb dX1_readBend_96 rfl hl (by decide) rfl (fun ls hl => ?_)
            refine lv_aload_n hx hb dX1_readBend_97 rfl (lv_at hl 1 rfl) ?_
            refine lv_dup hx hb dX1_readBend_98 rfl ?_
            refine get_f (D := D) (ci := 1) (v := .int x_bends) (C := RX1) (T := TX1) (N := 18) hx hb hw inAX1 hown hK hP 0 rfl rfl 14 (by decide) (hw _ q_354) (fun _ h9 => h9) e_bends dX1_readBend_99 ?_
            refine lv_iload_n hx hb dX1_readBend_102 rfl (lv_at hl 0 rfl) ?_
            refine lv_if_eq (tgt := 110) hx hb dX1_readBend_103 (by decide) (fun g => absurd g (by decide)) (fun _ => ?_)
            refine lv_iconst (v := 1) hx hb dX1_readBend_106 (by decide) ?_
            refine lv_goto (tgt := 111) hx hb dX1_readBend_107 (by decide) ?_
            refine lv_iadd hx hb dX1_readBend_111 ?_
            refine lv_topi (fun v175 ev175 => ?_)
            have bv175 : v175.toInt = x_bends.toInt + 1 := by rw [ev175]; exact add_k rfl rfl k2 ⟨Int.le_refl _, Int.le_refl _⟩ (by decide)
            have k176 : 1 ≤ v175.toInt ∧ v175.toInt ≤ 12 := add_r bv175 k2 ⟨Int.le_refl _, Int.le_refl _⟩ (by decide)
            refine put_f (D := D) (ci := 1) (v := .int v175) (ty := .int) (C := RX1) (T := TX1) (N := 18) hx hb hw inAX1 tyX1 tyX1_ok nmX1 hown hK hP hD hS 0 rfl rfl 14 (by decide) (hw _ q_354) (fun _ h9 => h9) rfl (by decide +kernel) rfl rfl dX1_readBend_112 (fun H locs F177 eF177 hP hD hS => ?_)
            have hP : va_P D vwCl [(h0, .inr (1, vL 18 F177)), (h_length, .inl (cI, 12, .inl g36)), (h_drop, .inl (cI, 12, .inl g75)), (h_ideal, .inl (cI, 12, .inl g114)), (p0, .inr (6, vL 12 F147)), (h_p0_bytes, .inl (cB, 940, .inl f_p0_bytes)), (h_p0_wordNames, .inl (cJ, 23, .inr (.inl f_p0_wordNames))), (h_over, .inl (cI, 12, .inl g153))] H := hP
            have hD : va_D A [(h0, .inr (1, vL 18 F177)), (h_length, .inl (cI, 12, .inl g36)), (h_drop, .inl (cI, 12, .inl g75)), (h_ideal, .inl (cI, 12, .inl g114)), (p0, .inr (6, vL 12 F147)), (h_p0_bytes, .inl (cB, 940, .inl f_p0_bytes)), (h_p0_wordNames, .inl (cJ, 23, .inr (.inl f_p0_wordNames))), (h_over, .inl (cI, 12, .inl g153))] := hD
            refine lv_iload_n hx hb dX1_readBend_115 rfl (lv_at hl 0 rfl) ?_
            exact ret_i (v := 1) hx hb hr hlocks hS (hP.sub (ws' := [(h0, .inr (1, vL 18 F177)), (h_length, .inl (cI, 12, .inl g36)), (h_drop, .inl (cI, 12, .inl g75)), (h_ideal, .inl (cI, 12, .inl g114)), (h_over, .inl (cI, 12, .inl g153)), (p0, .inr (6, vL 12 F147)), (h_p0_bytes, .inl (cB, 940, .inl f_p0_bytes)), (h_p0_wordNames, .inl (cJ, 23, .inr (.inl f_p0_wordNames)))]) [0, 1, 2, 3, 7, 4, 5, 6] rfl) (hD.sub (ws' := [(h0, .inr (1, vL 18 F177)), (h_length, .inl (cI, 12, .inl g36)), (h_drop, .inl (cI, 12, .inl g75)), (h_ideal, .inl (cI, 12, .inl g114)), (h_over, .inl (cI, 12, .inl g153)), (p0, .inr (6, vL 12 F147)), (h_p0_bytes, .inl (cB, 940, .inl f_p0_bytes)), (h_p0_wordNames, .inl (cJ, 23, .inr (.inl f_p0_wordNames)))]) [0, 1, 2, 3, 7, 4, 5, 6] (by decide) rfl) dX1_readBend_116 rfl (Nat.le_of_ble_eq_true rfl) (Nat.le_of_ble_eq_true rfl) ⟨F177, v175, F147, y148, y149, y150, y151, x_p0_faultKind, x_p0_faultPlace, y152, g36, g75, g114, g153, (SAME.up eF177 SAME.rf (by decide)), (get_eq eF177), (ir_wk k176 (by decide) (by decide)), (SAME.tr (SAME.tr (SAME.tr (SAME.tr (SAME.tr SAME.rf t10 (by decide)) t37 (by decide)) t76 (by decide)) t115 (by decide)) t154 (by decide)), t155, t156, t158, t159, (SAME.at t154 (by decide) (SAME.at t115 (by decide) (SAME.at t76 (by decide) (SAME.at t37 (by decide) (SAME.at t10 (by decide) e_p0_faultKind))))), (SAME.at t154 (by decide) (SAME.at t115 (by decide) (SAME.at t76 (by decide) (SAME.at t37 (by decide) (SAME.at t10 (by decide) e_p0_faultPlace))))), t160, t161, (show 0 ≤ (1 : Int32).toInt ∧ (1 : Int32).toInt ≤ 1 by decide), rfl⟩
  · have dc1 : 12 ≤ x_bends.toInt := nlt_i (a := x_bends.toInt) (b := 12) rfl rfl c1
    have k178 : 12 ≤ x_bends.toInt ∧ x_bends.toInt ≤ 12 := ⟨Int.le_trans (Int.le_refl _) dc1, i_x_bends.2⟩
    refine lv_aload_n hx hb dX1_readBend_9 rfl (lv_at hl 1 rfl) ?_
    refine lv_iconst (v := 4) hx hb dX1_readBend_10 (by decide) ?_
    refine call_Vi (wr := [(h0, .inr (1, vL 18 Fh)), (h_length, .inl (cI, 12, .inl f_length)), (h_drop, .inl (cI, 12, .inl f_drop)), (h_ideal, .inl (cI, 12, .inl f_ideal)), (h_over, .inl (cI, 12, .inl f_over)), (h_p0_bytes, .inl (cB, 940, .inl f_p0_bytes)), (h_p0_wordNames, .inl (cJ, 23, .inr (.inl f_p0_wordNames)))]) (As := [.int 4]) (rest := []) hx hb hml hown hw (m_X6_fail l D cI cJ cB cP cM cZ p0 F_p0_ x_p0_place 4 _ e_p0_place) wV_X1_128_X6_fail dX1_readBend_11 hK hP hD hS hA [5] [0, 1, 2, 3, 4, 6, 7] rfl rfl (by decide) (by decide) (by decide) 0 6 rfl rfl GG.fb hG.at hl.1 rfl (Nat.le_of_ble_eq_true rfl) ⟨(Nat.le_of_ble_eq_true rfl), (Nat.le_of_ble_eq_true rfl)⟩ ⟨(Nat.le_of_ble_eq_true rfl), (Nat.le_of_ble_eq_true rfl)⟩ (fun r179 u H locs hp hP hD hS => ?_)
    have zl4 : (4 : Int32).toInt = 4 := by decide
    obtain ⟨F180, t181, t182, t183, rfl, rfl⟩ := hp
    have hP : va_P D vwCl [(h0, .inr (1, vL 18 Fh)), (h_length, .inl (cI, 12, .inl f_length)), (h_drop, .inl (cI, 12, .inl f_drop)), (h_ideal, .inl (cI, 12, .inl f_ideal)), (h_over, .inl (cI, 12, .inl f_over)), (h_p0_bytes, .inl (cB, 940, .inl f_p0_bytes)), (h_p0_wordNames, .inl (cJ, 23, .inr (.inl f_p0_wordNames))), (p0, .inr (6, vL 12 F180))] H := hP
    have hD : va_D A [(h0, .inr (1, vL 18 Fh)), (h_length, .inl (cI, 12, .inl f_length)), (h_drop, .inl (cI, 12, .inl f_drop)), (h_ideal, .inl (cI, 12, .inl f_ideal)), (h_over, .inl (cI, 12, .inl f_over)), (h_p0_bytes, .inl (cB, 940, .inl f_p0_bytes)), (h_p0_wordNames, .inl (cJ, 23, .inr (.inl f_p0_wordNames))), (p0, .inr (6, vL 12 F180))] := hD
    refine W.widen (k := 0) (n := 0) (Nat.le_of_ble_eq_true rfl) (Nat.le_of_ble_eq_true rfl) ?_
    exact ret_i (v := 0) hx hb hr hlocks hS (hP.sub (ws' := [(h0, .inr (1, vL 18 Fh)), (h_length, .inl (cI, 12, .inl f_length)), (h_drop, .inl (cI, 12, .inl f_drop)), (h_ideal, .inl (cI, 12, .inl f_ideal)), (h_over, .inl (cI, 12, .inl f_over)), (p0, .inr (6, vL 12 F180)), (h_p0_bytes, .inl (cB, 940, .inl f_p0_bytes)), (h_p0_wordNames, .inl (cJ, 23, .inr (.inl f_p0_wordNames)))]) [0, 1, 2, 3, 4, 7, 5, 6] rfl) (hD.sub (ws' := [(h0, .inr (1, vL 18 Fh)), (h_length, .inl (cI, 12, .inl f_length)), (h_drop, .inl (cI, 12, .inl f_drop)), (h_ideal, .inl (cI, 12, .inl f_ideal)), (h_over, .inl (cI, 12, .inl f_over)), (p0, .inr (6, vL 12 F180)), (h_p0_bytes, .inl (cB, 940, .inl f_p0_bytes)), (h_p0_wordNames, .inl (cJ, 23, .inr (.inl f_p0_wordNames)))]) [0, 1, 2, 3, 4, 7, 5, 6] (by decide) rfl) dX1_readBend_14 rfl (Nat.le_of_ble_eq_true rfl) (Nat.le_of_ble_eq_true rfl) ⟨Fh, x_bends, F180, x_p0_kind, x_p0_place, x_p0_value, x_p0_name, 4, x_p0_place, x_p0_at, f_length, f_drop, f_ideal, f_over, SAME.rf, e_bends, (ir_wk k178 (by decide) (by decide)), (SAME.tr SAME.rf t181 (by decide)), (SAME.at t181 (by decide) e_p0_kind), (SAME.at t181 (by decide) e_p0_place), (SAME.at t181 (by decide) e_p0_value), (SAME.at t181 (by decide) e_p0_name), t182, t183, (SAME.at t181 (by decide) e_p0_at), i_x_p0_at, (show 0 ≤ (0 : Int32).toInt ∧ (0 : Int32).toInt ≤ 1 by decide), rfl⟩
set_option maxHeartbeats 4000000 in
set_option maxRecDepth 100000 in
theorem m_X1_readName_runnerName (l : Launch) (D : va_G) (cI cJ cB cP cM cZ : ClassId) (h0 : Nat) (h_manName : Nat) (h_runnerName : Nat) (p0 : Nat) (h_p0_bytes : Nat) (h_p0_wordNames : Nat) (Fh : Nat → Value) (x_men : Int32) (x_runners : Int32) (f_manName : Nat → Int64) (f_runnerName : Nat → Int64) (F_p0_ : Nat → Value) (x_p0_length : Int32) (x_p0_kind : Int32) (x_p0_place : Int32) (x_p0_value : Int32) (x_p0_name : Int64) (x_p0_faultKind : Int32) (x_p0_faultPlace : Int32) (x_p0_at : Int32) (x_p0_mostBytes : Int32) (f_p0_bytes : Nat → Int32) (f_p0_wordNames : Nat → Int64) (p2 : Int32) (sz : Nat) (e_manName : Fh 2 = .ref h_manName) (e_runnerName : Fh 10 = .ref h_runnerName) (e_men : Fh 13 = .int x_men) (i_x_men : IR 0 12 x_men) (e_runners : Fh 15 = .int x_runners) (i_x_runners : IR 0 6 x_runners) (e_p0_bytes : F_p0_ 0 = .ref h_p0_bytes) (e_p0_length : F_p0_ 1 = .int x_p0_length) (i_x_p0_length : IR 0 940 x_p0_length) (e_p0_kind : F_p0_ 2 = .int x_p0_kind) (e_p0_place : F_p0_ 3 = .int x_p0_place) (e_p0_value : F_p0_ 4 = .int x_p0_value) (e_p0_name : F_p0_ 5 = .long x_p0_name) (e_p0_faultKind : F_p0_ 7 = .int x_p0_faultKind) (e_p0_faultPlace : F_p0_ 8 = .int x_p0_faultPlace) (e_p0_wordNames : F_p0_ 9 = .ref h_p0_wordNames) (e_p0_at : F_p0_ 10 = .int x_p0_at) (i_x_p0_at : IR 0 940 x_p0_at) (e_p0_mostBytes : F_p0_ 11 = .int x_p0_mostBytes) (i_p2 : IR 0 5 p2) : CI l yX1_readName cX1_readName 4 (some .boolean) { frames := 2, cells := 0, slots := 0, locals := 46 } (GG D cI cJ cB cP cM cZ) D [(h0, .inr (1, vL 18 Fh)), (h_manName, .inl (cJ, 12, .inr (.inl f_manName))), (h_runnerName, .inl (cJ, 6, .inr (.inl f_runnerName))), (p0, .inr (6, vL 12 F_p0_)), (h_p0_bytes, .inl (cB, 940, .inl f_p0_bytes)), (h_p0_wordNames, .inl (cJ, 23, .inr (.inl f_p0_wordNames)))] sz [.ref h0, .ref p0, .ref h_runnerName, .int p2] (fun (r : Int32) (u : va_W) => ∃ (G_p0_ : Nat → Value) (y_p0_kind : Int32) (y_p0_place : Int32) (y_p0_value : Int32) (y_p0_name : Int64) (y_p0_faultKind : Int32) (y_p0_faultPlace : Int32) (y_p0_at : Int32) (g_runnerName : Nat → Int64), SAME [2, 3, 4, 5, 7, 8, 10] F_p0_ G_p0_ ∧ G_p0_ 2 = .int y_p0_kind ∧ G_p0_ 3 = .int y_p0_place ∧ G_p0_ 4 = .int y_p0_value ∧ G_p0_ 5 = .long y_p0_name ∧ G_p0_ 7 = .int y_p0_faultKind ∧ G_p0_ 8 = .int y_p0_faultPlace ∧ G_p0_ 10 = .int y_p0_at ∧ IR 0 940 y_p0_at ∧ IR 0 1 r ∧ u = [(h0, .inr (1, vL 18 Fh)), (h_manName, .inl (cJ, 12, .inr (.inl f_manName))), (h_runnerName, .inl (cJ, 6, .inr (.inl g_runnerName))), (p0, .inr (6, vL 12 G_p0_)), (h_p0_bytes, .inl (cB, 940, .inl f_p0_bytes)), (h_p0_wordNames, .inl (cJ, 23, .inr (.inl f_p0_wordNames)))]) := by
  refine CI_mk (by decide) (Nat.le_of_ble_eq_true rfl) ?_
  intro p e s m below meth c A ls E hAe hG hsz hP hD hA hS hl
  obtain ⟨hx, hb, hr, hw, hown, hlocks, hml, hnm⟩ := E
  have hK := hG.1
  have i_x_men : 0 ≤ x_men.toInt ∧ x_men.toInt ≤ 12 := i_x_men
  have i_x_runners : 0 ≤ x_runners.toInt ∧ x_runners.toInt ≤ 6 := i_x_runners
  have i_x_p0_length : 0 ≤ x_p0_length.toInt ∧ x_p0_length.toInt ≤ 940 := i_x_p0_length
  have i_x_p0_at : 0 ≤ x_p0_at.toInt ∧ x_p0_at.toInt ≤ 940 := i_x_p0_at
  have i_p2 : 0 ≤ p2.toInt ∧ p2.toInt ≤ 5 := i_p2
  have hl : lv_has ls 4 [(0, .ref h0), (1, .ref p0), (2, .ref h_runnerName), (3, .int p2)] := hl
  refine lv_aload_n hx hb dX1_readName_0 rfl (lv_at hl 1 rfl) ?_
  refine call_Vi (wr := [(h0, .inr (1, vL 18 Fh)), (h_manName, .inl (cJ, 12, .inr (.inl f_manName))), (h_runnerName, .inl (cJ, 6, .inr (.inl f_runnerName))), (h_p0_bytes, .inl (cB, 940, .inl f_p0_bytes)), (h_p0_wordNames, .inl (cJ, 23, .inr (.inl f_p0_wordNames)))]) (As := []) (rest := []) hx hb hml hown hw (m_X6_isName l D cI cJ cB cP cM cZ p0 F_p0_ x_p0_kind x_p0_value _ e_p0_kind e_p0_value) wV_X1_148_X6_isName dX1_readName_1 hK hP hD hS hA [3] [0, 1, 2, 4, 5] rfl rfl (by decide) (by decide) (by decide) 0 6 rfl rfl GG.fb hG.at hl.1 rfl (Nat.le_of_ble_eq_true rfl) ⟨(Nat.le_of_ble_eq_true rfl), (Nat.le_of_ble_eq_true rfl)⟩ ⟨(Nat.le_of_ble_eq_true rfl), (Nat.le_of_ble_eq_true rfl)⟩ (fun r1 u H locs hp hP hD hS => ?_)
  obtain ⟨t2, rfl⟩ := hp
  have hP : va_P D vwCl [(h0, .inr (1, vL 18 Fh)), (h_manName, .inl (cJ, 12, .inr (.inl f_manName))), (h_runnerName, .inl (cJ, 6, .inr (.inl f_runnerName))), (h_p0_bytes, .inl (cB, 940, .inl f_p0_bytes)), (h_p0_wordNames, .inl (cJ, 23, .inr (.inl f_p0_wordNames))), (p0, .inr (6, vL 12 F_p0_))] H := hP
  have hD : va_D A [(h0, .inr (1, vL 18 Fh)), (h_manName, .inl (cJ, 12, .inr (.inl f_manName))), (h_runnerName, .inl (cJ, 6, .inr (.inl f_runnerName))), (h_p0_bytes, .inl (cB, 940, .inl f_p0_bytes)), (h_p0_wordNames, .inl (cJ, 23, .inr (.inl f_p0_wordNames))), (p0, .inr (6, vL 12 F_p0_))] := hD
  refine W.widen (k := 0) (n := 0) (Nat.le_of_ble_eq_true rfl) (Nat.le_of_ble_eq_true rfl) ?_
  refine lv_if_ne (tgt := 13) hx hb dX1_readName_4 (by decide) (fun c4 => ?_) (fun c4 => ?_)
  · have dc4 : r1.toInt ≠ 0 := ne_i (a := r1.toInt) (b := 0) rfl rfl c4
    have k5 : 1 ≤ r1.toInt ∧ r1.toInt ≤ 1 := ⟨ne_lo dc4 t2.1 ⟨Int.le_refl _, Int.le_refl _⟩ (by decide), t2.2⟩
    refine lv_aload_n hx hb dX1_readName_13 rfl (lv_at hl 0 rfl) ?_
    refine lv_aload_n hx hb dX1_readName_14 rfl (lv_at hl 1 rfl) ?_
    refine get_f (D := D) (ci := 6) (v := .long x_p0_name) (C := RX6) (T := TX6) (N := 12) hx hb hw inAX6 hown hK hP 5 rfl rfl 5 (by decide) (hw _ q_101) (fun _ h9 => h9) e_p0_name dX1_readName_15 ?_
    refine call_Vi (wr := [(h_runnerName, .inl (cJ, 6, .inr (.inl f_runnerName))), (h_p0_bytes, .inl (cB, 940, .inl f_p0_bytes)), (h_p0_wordNames, .inl (cJ, 23, .inr (.inl f_p0_wordNames))), (p0, .inr (6, vL 12 F_p0_))]) (As := [.long x_p0_name]) (rest := []) hx hb hml hown hw (m_X1_manNamed l D cI cJ cB cP cM cZ h0 h_manName Fh x_men f_manName x_p0_name _ e_manName e_men i_x_men) wV_X1_156_X1_manNamed dX1_readName_18 hK hP hD hS hA [0, 1] [2, 3, 4, 5] rfl rfl (by decide) (by decide) (by decide) 0 1 rfl rfl GG.fb hG.at hl.1 rfl (Nat.le_of_ble_eq_true rfl) ⟨(Nat.le_of_ble_eq_true rfl), (Nat.le_of_ble_eq_true rfl)⟩ ⟨(Nat.le_of_ble_eq_true rfl), (Nat.le_of_ble_eq_true rfl)⟩ (fun r6 u H locs hp hP hD hS => ?_)
    obtain ⟨t7, rfl⟩ := hp
    have hP : va_P D vwCl [(h_runnerName, .inl (cJ, 6, .inr (.inl f_runnerName))), (h_p0_bytes, .inl (cB, 940, .inl f_p0_bytes)), (h_p0_wordNames, .inl (cJ, 23, .inr (.inl f_p0_wordNames))), (p0, .inr (6, vL 12 F_p0_)), (h0, .inr (1, vL 18 Fh)), (h_manName, .inl (cJ, 12, .inr (.inl f_manName)))] H := hP
    have hD : va_D A [(h_runnerName, .inl (cJ, 6, .inr (.inl f_runnerName))), (h_p0_bytes, .inl (cB, 940, .inl f_p0_bytes)), (h_p0_wordNames, .inl (cJ, 23, .inr (.inl f_p0_wordNames))), (p0, .inr (6, vL 12 F_p0_)), (h0, .inr (1, vL 18 Fh)), (h_manName, .inl (cJ, 12, .inr (.inl f_manName)))] := hD
    refine W.widen (k := 0) (n := 0) (Nat.le_of_ble_eq_true rfl) (Nat.le_of_ble_eq_true rfl) ?_
    refine lv_iconst (v := (-1)) hx hb dX1_readName_21 (by decide) ?_
    refine lv_icmp_ne (tgt := 37) hx hb dX1_readName_22 (by decide) (fun c9 => ?_) (fun c9 => ?_)
    · have dc9 : r6.toInt ≠ (-1) := ne_i (a := r6.toInt) (b := (-1)) rfl rfl c9
      have k10 : 0 ≤ r6.toInt ∧ r6.toInt ≤ 11 := ⟨ne_lo dc9 t7.1 ⟨Int.le_refl _, Int.le_refl _⟩ (by decide), t7.2⟩
      refine lv_aload_n hx hb dX1_readName_37 rfl (lv_at hl 1 rfl) ?_
      refine lv_iconst (v := 3) hx hb dX1_readName_38 (by decide) ?_
      refine call_Vi (wr := [(h_runnerName, .inl (cJ, 6, .inr (.inl f_runnerName))), (h_p0_bytes, .inl (cB, 940, .inl f_p0_bytes)), (h_p0_wordNames, .inl (cJ, 23, .inr (.inl f_p0_wordNames))), (h0, .inr (1, vL 18 Fh)), (h_manName, .inl (cJ, 12, .inr (.inl f_manName)))]) (As := [.int 3]) (rest := []) hx hb hml hown hw (m_X6_fail l D cI cJ cB cP cM cZ p0 F_p0_ x_p0_place 3 _ e_p0_place) wV_X1_128_X6_fail dX1_readName_39 hK hP hD hS hA [3] [0, 1, 2, 4, 5] rfl rfl (by decide) (by decide) (by decide) 0 6 rfl rfl GG.fb hG.at hl.1 rfl (Nat.le_of_ble_eq_true rfl) ⟨(Nat.le_of_ble_eq_true rfl), (Nat.le_of_ble_eq_true rfl)⟩ ⟨(Nat.le_of_ble_eq_true rfl), (Nat.le_of_ble_eq_true rfl)⟩ (fun r11 u H locs hp hP hD hS => ?_)
      have zl3 : (3 : Int32).toInt = 3 := by decide
      obtain ⟨F12, t13, t14, t15, rfl, rfl⟩ := hp
      have hP : va_P D vwCl [(h_runnerName, .inl (cJ, 6, .inr (.inl f_runnerName))), (h_p0_bytes, .inl (cB, 940, .inl f_p0_bytes)), (h_p0_wordNames, .inl (cJ, 23, .inr (.inl f_p0_wordNames))), (h0, .inr (1, vL 18 Fh)), (h_manName, .inl (cJ, 12, .inr (.inl f_manName))), (p0, .inr (6, vL 12 F12))] H := hP
      have hD : va_D A [(h_runnerName, .inl (cJ, 6, .inr (.inl f_runnerName))), (h_p0_bytes, .inl (cB, 940, .inl f_p0_bytes)), (h_p0_wordNames, .inl (cJ, 23, .inr (.inl f_p0_wordNames))), (h0, .inr (1, vL 18 Fh)), (h_manName, .inl (cJ, 12, .inr (.inl f_manName))), (p0, .inr (6, vL 12 F12))] := hD
      refine W.widen (k := 0) (n := 0) (Nat.le_of_ble_eq_true rfl) (Nat.le_of_ble_eq_true rfl) ?_
      exact ret_i (v := 0) hx hb hr hlocks hS (hP.sub (ws' := [(h0, .inr (1, vL 18 Fh)), (h_manName, .inl (cJ, 12, .inr (.inl f_manName))), (h_runnerName, .inl (cJ, 6, .inr (.inl f_runnerName))), (p0, .inr (6, vL 12 F12)), (h_p0_bytes, .inl (cB, 940, .inl f_p0_bytes)), (h_p0_wordNames, .inl (cJ, 23, .inr (.inl f_p0_wordNames)))]) [3, 4, 0, 5, 1, 2] rfl) (hD.sub (ws' := [(h0, .inr (1, vL 18 Fh)), (h_manName, .inl (cJ, 12, .inr (.inl f_manName))), (h_runnerName, .inl (cJ, 6, .inr (.inl f_runnerName))), (p0, .inr (6, vL 12 F12)), (h_p0_bytes, .inl (cB, 940, .inl f_p0_bytes)), (h_p0_wordNames, .inl (cJ, 23, .inr (.inl f_p0_wordNames)))]) [3, 4, 0, 5, 1, 2] (by decide) rfl) dX1_readName_42 rfl (Nat.le_of_ble_eq_true rfl) (Nat.le_of_ble_eq_true rfl) ⟨F12, x_p0_kind, x_p0_place, x_p0_value, x_p0_name, 3, x_p0_place, x_p0_at, f_runnerName, (SAME.tr SAME.rf t13 (by decide)), (SAME.at t13 (by decide) e_p0_kind), (SAME.at t13 (by decide) e_p0_place), (SAME.at t13 (by decide) e_p0_value), (SAME.at t13 (by decide) e_p0_name), t14, t15, (SAME.at t13 (by decide) e_p0_at), i_x_p0_at, (show 0 ≤ (0 : Int32).toInt ∧ (0 : Int32).toInt ≤ 1 by decide), rfl⟩
    · have dc9 : r6.toInt = (-1) := eq_i (a := r6.toInt) (b := (-1)) rfl rfl c9
      have k17 : (-1) ≤ r6.toInt ∧ r6.toInt ≤ (-1) := ⟨t7.1, Int.le_trans (Int.le_of_eq dc9) (Int.le_refl _)⟩
      refine lv_aload_n hx hb dX1_readName_25 rfl (lv_at hl 0 rfl) ?_
      refine lv_aload_n hx hb dX1_readName_26 rfl (lv_at hl 1 rfl) ?_
      refine get_f (D := D) (ci := 6) (v := .long x_p0_name) (C := RX6) (T := TX6) (N := 12) hx hb hw inAX6 hown hK hP 3 rfl rfl 5 (by decide) (hw _ q_101) (fun _ h9 => h9) e_p0_name dX1_readName_27 ?_
      refine call_Vi (wr := [(h_p0_bytes, .inl (cB, 940, .inl f_p0_bytes)), (h_p0_wordNames, .inl (cJ, 23, .inr (.inl f_p0_wordNames))), (p0, .inr (6, vL 12 F_p0_)), (h_manName, .inl (cJ, 12, .inr (.inl f_manName)))]) (As := [.long x_p0_name]) (rest := []) hx hb hml hown hw (m_X1_runnerNamed l D cI cJ cB cP cM cZ h0 h_runnerName Fh x_runners f_runnerName x_p0_name _ e_runnerName e_runners i_x_runners) wV_X1_160_X1_runnerNamed dX1_readName_30 hK hP hD hS hA [4, 0] [1, 2, 3, 5] rfl rfl (by decide) (by decide) (by decide) 0 1 rfl rfl GG.fb hG.at hl.1 rfl (Nat.le_of_ble_eq_true rfl) ⟨(Nat.le_of_ble_eq_true rfl), (Nat.le_of_ble_eq_true rfl)⟩ ⟨(Nat.le_of_ble_eq_true rfl), (Nat.le_of_ble_eq_true rfl)⟩ (fun r18 u H locs hp hP hD hS => ?_)
      obtain ⟨t19, rfl⟩ := hp
      have hP : va_P D vwCl [(h_p0_bytes, .inl (cB, 940, .inl f_p0_bytes)), (h_p0_wordNames, .inl (cJ, 23, .inr (.inl f_p0_wordNames))), (p0, .inr (6, vL 12 F_p0_)), (h_manName, .inl (cJ, 12, .inr (.inl f_manName))), (h0, .inr (1, vL 18 Fh)), (h_runnerName, .inl (cJ, 6, .inr (.inl f_runnerName)))] H := hP
      have hD : va_D A [(h_p0_bytes, .inl (cB, 940, .inl f_p0_bytes)), (h_p0_wordNames, .inl (cJ, 23, .inr (.inl f_p0_wordNames))), (p0, .inr (6, vL 12 F_p0_)), (h_manName, .inl (cJ, 12, .inr (.inl f_manName))), (h0, .inr (1, vL 18 Fh)), (h_runnerName, .inl (cJ, 6, .inr (.inl f_runnerName)))] := hD
      refine W.widen (k := 0) (n := 0) (Nat.le_of_ble_eq_true rfl) (Nat.le_of_ble_eq_true rfl) ?_
      refine lv_iconst (v := (-1)) hx hb dX1_readName_33 (by decide) ?_
      refine lv_icmp_eq (tgt := 43) hx hb dX1_readName_34 (by decide) (fun c21 => ?_) (fun c21 => ?_)
      · have dc21 : r18.toInt = (-1) := eq_i (a := r18.toInt) (b := (-1)) rfl rfl c21
        have k22 : (-1) ≤ r18.toInt ∧ r18.toInt ≤ (-1) := ⟨t19.1, Int.le_trans (Int.le_of_eq dc21) (Int.le_refl _)⟩
        refine lv_aload_n hx hb dX1_readName_43 rfl (lv_at hl 2 rfl) ?_
        refine lv_iload_n hx hb dX1_readName_44 rfl (lv_at hl 3 rfl) ?_
        refine lv_aload_n hx hb dX1_readName_45 rfl (lv_at hl 1 rfl) ?_
        refine get_f (D := D) (ci := 6) (v := .long x_p0_name) (C := RX6) (T := TX6) (N := 12) hx hb hw inAX6 hown hK hP 2 rfl rfl 5 (by decide) (hw _ q_101) (fun _ h9 => h9) e_p0_name dX1_readName_46 ?_
        obtain ⟨g23, eg23⟩ : ∃ z : Nat → Int64, vp_updL f_runnerName p2.toNatClampNeg x_p0_name = z := ⟨_, rfl⟩
        refine last_g hx hb hK hP hD hS 5 1 rfl rfl (ix_k i_p2 (by decide) (by decide)) eg23 dX1_readName_49 (fun H locs hP hD hS => ?_)
        have hP : va_P D vwCl [(h_p0_bytes, .inl (cB, 940, .inl f_p0_bytes)), (h_p0_wordNames, .inl (cJ, 23, .inr (.inl f_p0_wordNames))), (p0, .inr (6, vL 12 F_p0_)), (h_manName, .inl (cJ, 12, .inr (.inl f_manName))), (h0, .inr (1, vL 18 Fh)), (h_runnerName, .inl (cJ, 6, .inr (.inl g23)))] H := hP
        have hD : va_D A [(h_p0_bytes, .inl (cB, 940, .inl f_p0_bytes)), (h_p0_wordNames, .inl (cJ, 23, .inr (.inl f_p0_wordNames))), (p0, .inr (6, vL 12 F_p0_)), (h_manName, .inl (cJ, 12, .inr (.inl f_manName))), (h0, .inr (1, vL 18 Fh)), (h_runnerName, .inl (cJ, 6, .inr (.inl g23)))] := hD
        refine lv_aload_n hx hb dX1_readName_50 rfl (lv_at hl 1 rfl) ?_
        refine call_Vv (wr := [(h_manName, .inl (cJ, 12, .inr (.inl f_manName))), (h0, .inr (1, vL 18 Fh)), (h_runnerName, .inl (cJ, 6, .inr (.inl g23)))]) (As := []) (rest := []) hx hb hml hown hw (m_X6_advance l D cI cJ cB cP cM cZ p0 h_p0_bytes h_p0_wordNames F_p0_ x_p0_length x_p0_value x_p0_name x_p0_at x_p0_mostBytes f_p0_bytes f_p0_wordNames _ e_p0_bytes e_p0_length i_x_p0_length e_p0_value e_p0_name e_p0_wordNames e_p0_at i_x_p0_at e_p0_mostBytes) wV_X1_131_X6_advance dX1_readName_51 hK hP hD hS hA [2, 0, 1] [3, 4, 5] rfl rfl (by decide) (by decide) (by decide) 0 6 rfl rfl GG.fb hG.at hl.1 rfl (Nat.le_of_ble_eq_true rfl) ⟨(Nat.le_of_ble_eq_true rfl), (Nat.le_of_ble_eq_true rfl)⟩ ⟨(Nat.le_of_ble_eq_true rfl), (Nat.le_of_ble_eq_true rfl)⟩ (fun u H locs hp hP hD hS => ?_)
        obtain ⟨F25, y26, y27, y28, y29, y30, t31, t32, t33, t34, t35, t36, t37, t38, rfl⟩ := hp
        have hP : va_P D vwCl [(h_manName, .inl (cJ, 12, .inr (.inl f_manName))), (h0, .inr (1, vL 18 Fh)), (h_runnerName, .inl (cJ, 6, .inr (.inl g23))), (p0, .inr (6, vL 12 F25)), (h_p0_bytes, .inl (cB, 940, .inl f_p0_bytes)), (h_p0_wordNames, .inl (cJ, 23, .inr (.inl f_p0_wordNames)))] H := hP
        have hD : va_D A [(h_manName, .inl (cJ, 12, .inr (.inl f_manName))), (h0, .inr (1, vL 18 Fh)), (h_runnerName, .inl (cJ, 6, .inr (.inl g23))), (p0, .inr (6, vL 12 F25)), (h_p0_bytes, .inl (cB, 940, .inl f_p0_bytes)), (h_p0_wordNames, .inl (cJ, 23, .inr (.inl f_p0_wordNames)))] := hD
        refine W.widen (k := 0) (n := 0) (Nat.le_of_ble_eq_true rfl) (Nat.le_of_ble_eq_true rfl) ?_
        refine lv_iconst (v := 1) hx hb dX1_readName_54 (by decide) ?_
        exact ret_i (v := 1) hx hb hr hlocks hS (hP.sub (ws' := [(h0, .inr (1, vL 18 Fh)), (h_manName, .inl (cJ, 12, .inr (.inl f_manName))), (h_runnerName, .inl (cJ, 6, .inr (.inl g23))), (p0, .inr (6, vL 12 F25)), (h_p0_bytes, .inl (cB, 940, .inl f_p0_bytes)), (h_p0_wordNames, .inl (cJ, 23, .inr (.inl f_p0_wordNames)))]) [1, 0, 2, 3, 4, 5] rfl) (hD.sub (ws' := [(h0, .inr (1, vL 18 Fh)), (h_manName, .inl (cJ, 12, .inr (.inl f_manName))), (h_runnerName, .inl (cJ, 6, .inr (.inl g23))), (p0, .inr (6, vL 12 F25)), (h_p0_bytes, .inl (cB, 940, .inl f_p0_bytes)), (h_p0_wordNames, .inl (cJ, 23, .inr (.inl f_p0_wordNames)))]) [1, 0, 2, 3, 4, 5] (by decide) rfl) dX1_readName_55 rfl (Nat.le_of_ble_eq_true rfl) (Nat.le_of_ble_eq_true rfl) ⟨F25, y26, y27, y28, y29, x_p0_faultKind, x_p0_faultPlace, y30, g23, (SAME.tr SAME.rf t31 (by decide)), t32, t33, t35, t36, (SAME.at t31 (by decide) e_p0_faultKind), (SAME.at t31 (by decide) e_p0_faultPlace), t37, t38, (show 0 ≤ (1 : Int32).toInt ∧ (1 : Int32).toInt ≤ 1 by decide), rfl⟩
      · have dc21 : r18.toInt ≠ (-1) := ne_i (a := r18.toInt) (b := (-1)) rfl rfl c21
        have k40 : 0 ≤ r18.toInt ∧ r18.toInt ≤ 5 := ⟨ne_lo dc21 t19.1 ⟨Int.le_refl _, Int.le_refl _⟩ (by decide), t19.2⟩
        refine lv_aload_n hx hb dX1_readName_37 rfl (lv_at hl 1 rfl) ?_
        refine lv_iconst (v := 3) hx hb dX1_readName_38 (by decide) ?_
        refine call_Vi (wr := [(h_p0_bytes, .inl (cB, 940, .inl f_p0_bytes)), (h_p0_wordNames, .inl (cJ, 23, .inr (.inl f_p0_wordNames))), (h_manName, .inl (cJ, 12, .inr (.inl f_manName))), (h0, .inr (1, vL 18 Fh)), (h_runnerName, .inl (cJ, 6, .inr (.inl f_runnerName)))]) (As := [.int 3]) (rest := []) hx hb hml hown hw (m_X6_fail l D cI cJ cB cP cM cZ p0 F_p0_ x_p0_place 3 _ e_p0_place) wV_X1_128_X6_fail dX1_readName_39 hK hP hD hS hA [2] [0, 1, 3, 4, 5] rfl rfl (by decide) (by decide) (by decide) 0 6 rfl rfl GG.fb hG.at hl.1 rfl (Nat.le_of_ble_eq_true rfl) ⟨(Nat.le_of_ble_eq_true rfl), (Nat.le_of_ble_eq_true rfl)⟩ ⟨(Nat.le_of_ble_eq_true rfl), (Nat.le_of_ble_eq_true rfl)⟩ (fun r41 u H locs hp hP hD hS => ?_)
        have zl3 : (3 : Int32).toInt = 3 := by decide
        obtain ⟨F42, t43, t44, t45, rfl, rfl⟩ := hp
        have hP : va_P D vwCl [(h_p0_bytes, .inl (cB, 940, .inl f_p0_bytes)), (h_p0_wordNames, .inl (cJ, 23, .inr (.inl f_p0_wordNames))), (h_manName, .inl (cJ, 12, .inr (.inl f_manName))), (h0, .inr (1, vL 18 Fh)), (h_runnerName, .inl (cJ, 6, .inr (.inl f_runnerName))), (p0, .inr (6, vL 12 F42))] H := hP
        have hD : va_D A [(h_p0_bytes, .inl (cB, 940, .inl f_p0_bytes)), (h_p0_wordNames, .inl (cJ, 23, .inr (.inl f_p0_wordNames))), (h_manName, .inl (cJ, 12, .inr (.inl f_manName))), (h0, .inr (1, vL 18 Fh)), (h_runnerName, .inl (cJ, 6, .inr (.inl f_runnerName))), (p0, .inr (6, vL 12 F42))] := hD
        refine W.widen (k := 0) (n := 0) (Nat.le_of_ble_eq_true rfl) (Nat.le_of_ble_eq_true rfl) ?_
        exact ret_i (v := 0) hx hb hr hlocks hS (hP.sub (ws' := [(h0, .inr (1, vL 18 Fh)), (h_manName, .inl (cJ, 12, .inr (.inl f_manName))), (h_runnerName, .inl (cJ, 6, .inr (.inl f_runnerName))), (p0, .inr (6, vL 12 F42)), (h_p0_bytes, .inl (cB, 940, .inl f_p0_bytes)), (h_p0_wordNames, .inl (cJ, 23, .inr (.inl f_p0_wordNames)))]) [3, 2, 4, 5, 0, 1] rfl) (hD.sub (ws' := [(h0, .inr (1, vL 18 Fh)), (h_manName, .inl (cJ, 12, .inr (.inl f_manName))), (h_runnerName, .inl (cJ, 6, .inr (.inl f_runnerName))), (p0, .inr (6, vL 12 F42)), (h_p0_bytes, .inl (cB, 940, .inl f_p0_bytes)), (h_p0_wordNames, .inl (cJ, 23, .inr (.inl f_p0_wordNames)))]) [3, 2, 4, 5, 0, 1] (by decide) rfl) dX1_readName_42 rfl (Nat.le_of_ble_eq_true rfl) (Nat.le_of_ble_eq_true rfl) ⟨F42, x_p0_kind, x_p0_place, x_p0_value, x_p0_name, 3, x_p0_place, x_p0_at, f_runnerName, (SAME.tr SAME.rf t43 (by decide)), (SAME.at t43 (by decide) e_p0_kind), (SAME.at t43 (by decide) e_p0_place), (SAME.at t43 (by decide) e_p0_value), (SAME.at t43 (by decide) e_p0_name), t44, t45, (SAME.at t43 (by decide) e_p0_at), i_x_p0_at, (show 0 ≤ (0 : Int32).toInt ∧ (0 : Int32).toInt ≤ 1 by decide), rfl⟩
  · have dc4 : r1.toInt = 0 := eq_i (a := r1.toInt) (b := 0) rfl rfl c4
    have k47 : 0 ≤ r1.toInt ∧ r1.toInt ≤ 0 := ⟨t2.1, Int.le_trans (Int.le_of_eq dc4) (Int.le_refl _)⟩
    refine lv_aload_n hx hb dX1_readName_7 rfl (lv_at hl 1 rfl) ?_
    refine lv_iconst (v := 1) hx hb dX1_readName_8 (by decide) ?_
    refine call_Vi (wr := [(h0, .inr (1, vL 18 Fh)), (h_manName, .inl (cJ, 12, .inr (.inl f_manName))), (h_runnerName, .inl (cJ, 6, .inr (.inl f_runnerName))), (h_p0_bytes, .inl (cB, 940, .inl f_p0_bytes)), (h_p0_wordNames, .inl (cJ, 23, .inr (.inl f_p0_wordNames)))]) (As := [.int 1]) (rest := []) hx hb hml hown hw (m_X6_fail l D cI cJ cB cP cM cZ p0 F_p0_ x_p0_place 1 _ e_p0_place) wV_X1_128_X6_fail dX1_readName_9 hK hP hD hS hA [5] [0, 1, 2, 3, 4] rfl rfl (by decide) (by decide) (by decide) 0 6 rfl rfl GG.fb hG.at hl.1 rfl (Nat.le_of_ble_eq_true rfl) ⟨(Nat.le_of_ble_eq_true rfl), (Nat.le_of_ble_eq_true rfl)⟩ ⟨(Nat.le_of_ble_eq_true rfl), (Nat.le_of_ble_eq_true rfl)⟩ (fun r48 u H locs hp hP hD hS => ?_)
    have zl1 : (1 : Int32).toInt = 1 := by decide
    obtain ⟨F49, t50, t51, t52, rfl, rfl⟩ := hp
    have hP : va_P D vwCl [(h0, .inr (1, vL 18 Fh)), (h_manName, .inl (cJ, 12, .inr (.inl f_manName))), (h_runnerName, .inl (cJ, 6, .inr (.inl f_runnerName))), (h_p0_bytes, .inl (cB, 940, .inl f_p0_bytes)), (h_p0_wordNames, .inl (cJ, 23, .inr (.inl f_p0_wordNames))), (p0, .inr (6, vL 12 F49))] H := hP
    have hD : va_D A [(h0, .inr (1, vL 18 Fh)), (h_manName, .inl (cJ, 12, .inr (.inl f_manName))), (h_runnerName, .inl (cJ, 6, .inr (.inl f_runnerName))), (h_p0_bytes, .inl (cB, 940, .inl f_p0_bytes)), (h_p0_wordNames, .inl (cJ, 23, .inr (.inl f_p0_wordNames))), (p0, .inr (6, vL 12 F49))] := hD
    refine W.widen (k := 0) (n := 0) (Nat.le_of_ble_eq_true rfl) (Nat.le_of_ble_eq_true rfl) ?_
    exact ret_i (v := 0) hx hb hr hlocks hS (hP.sub (ws' := [(h0, .inr (1, vL 18 Fh)), (h_manName, .inl (cJ, 12, .inr (.inl f_manName))), (h_runnerName, .inl (cJ, 6, .inr (.inl f_runnerName))), (p0, .inr (6, vL 12 F49)), (h_p0_bytes, .inl (cB, 940, .inl f_p0_bytes)), (h_p0_wordNames, .inl (cJ, 23, .inr (.inl f_p0_wordNames)))]) [0, 1, 2, 5, 3, 4] rfl) (hD.sub (ws' := [(h0, .inr (1, vL 18 Fh)), (h_manName, .inl (cJ, 12, .inr (.inl f_manName))), (h_runnerName, .inl (cJ, 6, .inr (.inl f_runnerName))), (p0, .inr (6, vL 12 F49)), (h_p0_bytes, .inl (cB, 940, .inl f_p0_bytes)), (h_p0_wordNames, .inl (cJ, 23, .inr (.inl f_p0_wordNames)))]) [0, 1, 2, 5, 3, 4] (by decide) rfl) dX1_readName_12 rfl (Nat.le_of_ble_eq_true rfl) (Nat.le_of_ble_eq_true rfl) ⟨F49, x_p0_kind, x_p0_place, x_p0_value, x_p0_name, 1, x_p0_place, x_p0_at, f_runnerName, (SAME.tr SAME.rf t50 (by decide)), (SAME.at t50 (by decide) e_p0_kind), (SAME.at t50 (by decide) e_p0_place), (SAME.at t50 (by decide) e_p0_value), (SAME.at t50 (by decide) e_p0_name), t51, t52, (SAME.at t50 (by decide) e_p0_at), i_x_p0_at, (show 0 ≤ (0 : Int32).toInt ∧ (0 : Int32).toInt ≤ 1 by decide), rfl⟩
