set_option maxHeartbeats 4000000 in
set_option maxRecDepth 100000 in
theorem m_X6_hasRoom (l : Launch) (D : va_G) (cI cJ cB cP cM cZ : ClassId) (h0 : Nat) (Fh : Nat → Value) (x_length : Int32) (sz : Nat) (e_length : Fh 1 = .int x_length) (i_x_length : IR 0 940 x_length) : CI l yX6_hasRoom cX6_hasRoom 1 (some .boolean) { frames := 0, cells := 0, slots := 0, locals := 0 } (GG D cI cJ cB cP cM cZ) D [(h0, .inr (6, vL 12 Fh))] sz [.ref h0] (fun (r : Int32) (u : va_W) => IR 0 1 r ∧ u = [(h0, .inr (6, vL 12 Fh))]) := by
  refine CI_mk (by decide) (Nat.le_of_ble_eq_true rfl) ?_
  intro p e s m below meth c A ls E hAe hG hsz hP hD hA hS hl
  obtain ⟨hx, hb, hr, hw, hown, hlocks, hml, hnm⟩ := E
  have hK := hG.1
  have i_x_length : 0 ≤ x_length.toInt ∧ x_length.toInt ≤ 940 := i_x_length
  have hl : lv_has ls 1 [(0, .ref h0)] := hl
  refine lv_aload_n hx hb dX6_hasRoom_0 rfl (lv_at hl 0 rfl) ?_
  refine get_f (D := D) (ci := 6) (v := .int x_length) (C := RX6) (T := TX6) (N := 12) hx hb hw inAX6 hown hK hP 0 rfl rfl 1 (by decide) (hw _ q_90) (fun _ h9 => h9) e_length dX6_hasRoom_1 ?_
  refine lv_bipush (v := 20) hx hb dX6_hasRoom_4 (by decide) ?_
  refine lv_iadd hx hb dX6_hasRoom_6 ?_
  refine lv_topi (fun v1 ev1 => ?_)
  have bv1 : v1.toInt = x_length.toInt + 20 := by rw [ev1]; exact add_k rfl rfl i_x_length ⟨Int.le_refl _, Int.le_refl _⟩ (by decide)
  have k2 : 20 ≤ v1.toInt ∧ v1.toInt ≤ 960 := add_r bv1 i_x_length ⟨Int.le_refl _, Int.le_refl _⟩ (by decide)
  refine lv_sipush (v := 940) hx hb dX6_hasRoom_7 (by decide) ?_
  refine lv_icmp_gt (tgt := 17) hx hb dX6_hasRoom_10 (by decide) (fun c3 => ?_) (fun c3 => ?_)
  · have dc3 : 940 < v1.toInt := lt_i (a := 940) (b := v1.toInt) rfl rfl c3
    have k4 : 941 ≤ v1.toInt ∧ v1.toInt ≤ 960 := ⟨lo_lt dc3 (Int.le_refl _) (by decide), k2.2⟩
    have k5 : 921 ≤ x_length.toInt ∧ x_length.toInt ≤ 940 := ⟨lin_lo bv1 k4.1 (by decide), i_x_length.2⟩
    refine lv_iconst (v := 0) hx hb dX6_hasRoom_17 (by decide) ?_
    exact ret_i (v := 0) hx hb hr hlocks hS hP hD dX6_hasRoom_18 rfl (Nat.le_of_ble_eq_true rfl) (Nat.le_of_ble_eq_true rfl) ⟨(show 0 ≤ (0 : Int32).toInt ∧ (0 : Int32).toInt ≤ 1 by decide), rfl⟩
  · have dc3 : v1.toInt ≤ 940 := nlt_i (a := 940) (b := v1.toInt) rfl rfl c3
    have k6 : 20 ≤ v1.toInt ∧ v1.toInt ≤ 940 := ⟨k2.1, Int.le_trans dc3 (Int.le_refl _)⟩
    have k7 : 0 ≤ x_length.toInt ∧ x_length.toInt ≤ 920 := ⟨i_x_length.1, lin_hi bv1 k6.2 (by decide)⟩
    refine lv_iconst (v := 1) hx hb dX6_hasRoom_13 (by decide) ?_
    refine lv_goto (tgt := 18) hx hb dX6_hasRoom_14 (by decide) ?_
    exact ret_i (v := 1) hx hb hr hlocks hS hP hD dX6_hasRoom_18 rfl (Nat.le_of_ble_eq_true rfl) (Nat.le_of_ble_eq_true rfl) ⟨(show 0 ≤ (1 : Int32).toInt ∧ (1 : Int32).toInt ≤ 1 by decide), rfl⟩
set_option maxHeartbeats 4000000 in
set_option maxRecDepth 100000 in
theorem m_X6_append (l : Launch) (D : va_G) (cI cJ cB cP cM cZ : ClassId) (h0 : Nat) (h_bytes : Nat) (Fh : Nat → Value) (x_length : Int32) (f_bytes : Nat → Int32) (p0 : Int32) (sz : Nat) (e_bytes : Fh 0 = .ref h_bytes) (e_length : Fh 1 = .int x_length) (i_x_length : IR 0 940 x_length) : CV l yX6_append cX6_append 3 none { frames := 0, cells := 0, slots := 0, locals := 0 } (GG D cI cJ cB cP cM cZ) D [(h0, .inr (6, vL 12 Fh)), (h_bytes, .inl (cB, 940, .inl f_bytes))] sz [.ref h0, .int p0] (fun (u : va_W) => ∃ (Gh : Nat → Value) (y_length : Int32) (g_bytes : Nat → Int32), SAME [1] Fh Gh ∧ Gh 1 = .int y_length ∧ IR 0 940 y_length ∧ u = [(h0, .inr (6, vL 12 Gh)), (h_bytes, .inl (cB, 940, .inl g_bytes))]) := by
  refine CV_mk (by decide) (Nat.le_of_ble_eq_true rfl) ?_
  intro p e s m below meth c A ls E hAe hG hsz hP hD hA hS hl
  obtain ⟨hx, hb, hr, hw, hown, hlocks, hml, hnm⟩ := E
  have hK := hG.1
  have i_x_length : 0 ≤ x_length.toInt ∧ x_length.toInt ≤ 940 := i_x_length
  have hl : lv_has ls 3 [(0, .ref h0), (1, .int p0)] := hl
  refine lv_bipush (v := 24) hx hb dX6_append_0 (by decide) ?_
  refine lv_istore_n (lv' := [(2, .int 24), (0, .ref h0), (1, .int p0)]) hx hb dX6_append_2 rfl hl (by decide) rfl (fun ls hl => ?_)
  refine mloop (α := (Int32) × (Nat → Value) × (Int32) × (Nat → Int32)) (nL := 3) (D := D) (A := A) (H0 := s.heap) (fun a => (a.1.toInt + 8).toNat) (fun a => IR (-8) 24 a.1 ∧ SAME [1] Fh a.2.1 ∧ a.2.1 1 = .int a.2.2.1 ∧ IR 0 940 a.2.2.1) (fun a => [(h0, .inr (6, vL 12 a.2.1)), (h_bytes, .inl (cB, 940, .inl a.2.2.2))]) (fun a => [(2, .int a.1), (0, .ref h0), (1, .int p0)]) (fun H locs ls => W p l e ({ frames := 0, cells := 0, slots := 0, locals := 0 } : Room) s m [.ref h0, .int p0].toArray below meth c H locs 0 0 (MQ below (va_Qv (fun (u : va_W) => ∃ (Gh : Nat → Value) (y_length : Int32) (g_bytes : Nat → Int32), SAME [1] Fh Gh ∧ Gh 1 = .int y_length ∧ IR 0 940 y_length ∧ u = [(h0, .inr (6, vL 12 Gh)), (h_bytes, .inl (cB, 940, .inl g_bytes))]) (PO D A) A) [.ref h0, .int p0].toArray s 0 0 A) (F0 m 3 ls [])) ?_ (24, Fh, x_length, f_bytes) ⟨(show (-8) ≤ (24 : Int32).toInt ∧ (24 : Int32).toInt ≤ 24 by decide), SAME.rf, e_length, i_x_length⟩ _ _ _ hP hD hS hl
  rintro ⟨u1, G2, u3, w4⟩ ⟨i5, i6, i7, i8⟩ ih H locs ls hP hD hS hl
  have i5 : (-8) ≤ u1.toInt ∧ u1.toInt ≤ 24 := i5
  have i8 : 0 ≤ u3.toInt ∧ u3.toInt ≤ 940 := i8
  have hP : va_P D vwCl [(h0, .inr (6, vL 12 G2)), (h_bytes, .inl (cB, 940, .inl w4))] H := hP
  have hD : va_D A [(h0, .inr (6, vL 12 G2)), (h_bytes, .inl (cB, 940, .inl w4))] := hD
  have hl : lv_has ls 3 [(2, .int u1), (0, .ref h0), (1, .int p0)] := hl
  refine lv_iload_n hx hb dX6_append_3 rfl (lv_at hl 0 rfl) ?_
  refine lv_if_lt (tgt := 46) hx hb dX6_append_4 (by decide) (fun c9 => ?_) (fun c9 => ?_)
  · have dc9 : u1.toInt < 0 := lt_i (a := u1.toInt) (b := 0) rfl rfl c9
    have k10 : (-8) ≤ u1.toInt ∧ u1.toInt ≤ (-1) := ⟨i5.1, up_lt dc9 (Int.le_refl _) (by decide)⟩
    exact ret_v hx hb hr hlocks hS hP hD dX6_append_46 (Nat.le_of_ble_eq_true rfl) (Nat.le_of_ble_eq_true rfl) ⟨G2, u3, w4, (SAME.tr SAME.rf i6 (by decide)), i7, i8, rfl⟩
  · have dc9 : 0 ≤ u1.toInt := nlt_i (a := u1.toInt) (b := 0) rfl rfl c9
    have k11 : 0 ≤ u1.toInt ∧ u1.toInt ≤ 24 := ⟨Int.le_trans (Int.le_refl _) dc9, i5.2⟩
    refine lv_aload_n hx hb dX6_append_7 rfl (lv_at hl 1 rfl) ?_
    refine get_f (D := D) (ci := 6) (v := .int u3) (C := RX6) (T := TX6) (N := 12) hx hb hw inAX6 hown hK hP 0 rfl rfl 1 (by decide) (hw _ q_90) (fun _ h9 => h9) i7 dX6_append_8 ?_
    refine lv_sipush (v := 940) hx hb dX6_append_11 (by decide) ?_
    refine lv_icmp_ge (tgt := 46) hx hb dX6_append_14 (by decide) (fun c12 => ?_) (fun c12 => ?_)
    · have dc12 : 940 ≤ u3.toInt := le_i (a := 940) (b := u3.toInt) rfl rfl c12
      have k13 : 940 ≤ u3.toInt ∧ u3.toInt ≤ 940 := ⟨Int.le_trans (Int.le_refl _) dc12, i8.2⟩
      exact ret_v hx hb hr hlocks hS hP hD dX6_append_46 (Nat.le_of_ble_eq_true rfl) (Nat.le_of_ble_eq_true rfl) ⟨G2, u3, w4, (SAME.tr SAME.rf i6 (by decide)), i7, (ir_wk k13 (by decide) (by decide)), rfl⟩
    · have dc12 : u3.toInt < 940 := nle_i (a := 940) (b := u3.toInt) rfl rfl c12
      have k14 : 0 ≤ u3.toInt ∧ u3.toInt ≤ 939 := ⟨i8.1, up_lt dc12 (Int.le_refl _) (by decide)⟩
      refine lv_aload_n hx hb dX6_append_17 rfl (lv_at hl 1 rfl) ?_
      have n15 : G2 0 = .ref h_bytes := (SAME.at i6 (by decide) e_bytes)
      refine get_f (D := D) (ci := 6) (v := .ref h_bytes) (C := RX6) (T := TX6) (N := 12) hx hb hw inAX6 hown hK hP 0 rfl rfl 0 (by decide) (hw _ q_89) (fun _ h9 => h9) n15 dX6_append_18 ?_
      refine lv_aload_n hx hb dX6_append_21 rfl (lv_at hl 1 rfl) ?_
      refine get_f (D := D) (ci := 6) (v := .int u3) (C := RX6) (T := TX6) (N := 12) hx hb hw inAX6 hown hK hP 0 rfl rfl 1 (by decide) (hw _ q_90) (fun _ h9 => h9) i7 dX6_append_22 ?_
      refine lv_iload_n hx hb dX6_append_25 rfl (lv_at hl 2 rfl) ?_
      refine lv_iload_n hx hb dX6_append_26 rfl (lv_at hl 0 rfl) ?_
      obtain ⟨v16, ev16⟩ : ∃ z : Int32, ((p0 : Int32).toUInt32 >>> ((u1 : Int32).toUInt32 &&& Int32.toUInt32 31)).toInt32 = z := ⟨_, rfl⟩
      refine lv_iushr (v := v16) hx hb dX6_append_27 ev16 ?_
      obtain ⟨v17, ev17⟩ : ∃ z : Int32, (v16 : Int32).toInt8.toInt32 = z := ⟨_, rfl⟩
      refine lv_i2b (v := v17) hx hb dX6_append_28 ev17 ?_
      obtain ⟨g18, eg18⟩ : ∃ z : Nat → Int32, upd w4 u3.toNatClampNeg (vp_nar .byte v17) = z := ⟨_, rfl⟩
      refine bast_g hx hb hK hP hD hS 1 2 rfl rfl (ix_k k14 (by decide) (by decide)) eg18 dX6_append_29 (fun H locs hP hD hS => ?_)
      have hP : va_P D vwCl [(h0, .inr (6, vL 12 G2)), (h_bytes, .inl (cB, 940, .inl g18))] H := hP
      have hD : va_D A [(h0, .inr (6, vL 12 G2)), (h_bytes, .inl (cB, 940, .inl g18))] := hD
      refine lv_aload_n hx hb dX6_append_30 rfl (lv_at hl 1 rfl) ?_
      refine lv_dup hx hb dX6_append_31 rfl ?_
      refine get_f (D := D) (ci := 6) (v := .int u3) (C := RX6) (T := TX6) (N := 12) hx hb hw inAX6 hown hK hP 0 rfl rfl 1 (by decide) (hw _ q_90) (fun _ h9 => h9) i7 dX6_append_32 ?_
      refine lv_iconst (v := 1) hx hb dX6_append_35 (by decide) ?_
      refine lv_iadd hx hb dX6_append_36 ?_
      refine lv_topi (fun v19 ev19 => ?_)
      have bv19 : v19.toInt = u3.toInt + 1 := by rw [ev19]; exact add_k rfl rfl k14 ⟨Int.le_refl _, Int.le_refl _⟩ (by decide)
      have k20 : 1 ≤ v19.toInt ∧ v19.toInt ≤ 940 := add_r bv19 k14 ⟨Int.le_refl _, Int.le_refl _⟩ (by decide)
      refine put_f (D := D) (ci := 6) (v := .int v19) (ty := .int) (C := RX6) (T := TX6) (N := 12) hx hb hw inAX6 tyX6 tyX6_ok nmX6 hown hK hP hD hS 0 rfl rfl 1 (by decide) (hw _ q_90) (fun _ h9 => h9) rfl (by decide +kernel) rfl rfl dX6_append_37 (fun H locs F21 eF21 hP hD hS => ?_)
      have hP : va_P D vwCl [(h0, .inr (6, vL 12 F21)), (h_bytes, .inl (cB, 940, .inl g18))] H := hP
      have hD : va_D A [(h0, .inr (6, vL 12 F21)), (h_bytes, .inl (cB, 940, .inl g18))] := hD
      obtain ⟨v22, ev22⟩ : ∃ z : Int32, z = u1 + (-8) := ⟨_, rfl⟩
      have bv22 : v22.toInt = u1.toInt + (-8) := by rw [ev22]; exact add_k rfl rfl k11 ⟨Int.le_refl _, Int.le_refl _⟩ (by decide)
      have k23 : (-8) ≤ v22.toInt ∧ v22.toInt ≤ 16 := add_r bv22 k11 ⟨Int.le_refl _, Int.le_refl _⟩ (by decide)
      refine lv_iinc (v := v22) (lv' := [(2, .int v22), (0, .ref h0), (1, .int p0)]) hx hb dX6_append_40 hl (k := 0) rfl (by rw [ev22]; rfl) (by decide) rfl (fun ls hl => ?_)
      refine lv_goto (tgt := 3) hx hb dX6_append_43 (by decide) ?_
      exact ih (v22, F21, v19, g18) ⟨(ir_wk k23 (by decide) (by decide)), (SAME.up eF21 (SAME.tr SAME.rf i6 (by decide)) (by decide)), (get_eq eF21), (ir_wk k20 (by decide) (by decide))⟩ (by show (v22.toInt + 8).toNat < (u1.toInt + 8).toNat; omega) _ _ _ hP hD hS (lv_sub hl [0, 1, 2] rfl)
set_option maxHeartbeats 4000000 in
set_option maxRecDepth 100000 in
theorem m_X9_feed (l : Launch) (D : va_G) (cI cJ cB cP cM cZ : ClassId) (h0 : Nat) (h_tape : Nat) (h_tape_bytes : Nat) (h_tape_wordNames : Nat) (Fh : Nat → Value) (F_tape_ : Nat → Value) (x_tape_length : Int32) (f_tape_bytes : Nat → Int32) (f_tape_wordNames : Nat → Int64) (p0 : Int32) (p1 : Int32) (p2 : Int32) (p3 : Int32) (p4 : Int32) (sz : Nat) (e_tape : Fh 0 = .ref h_tape) (e_tape_bytes : F_tape_ 0 = .ref h_tape_bytes) (e_tape_length : F_tape_ 1 = .int x_tape_length) (i_x_tape_length : IR 0 940 x_tape_length) (e_tape_wordNames : F_tape_ 9 = .ref h_tape_wordNames) : CI l yX9_feed cX9_feed 6 (some .int) { frames := 1, cells := 0, slots := 0, locals := 22 } (GG D cI cJ cB cP cM cZ) D [(h0, .inr (9, vL 19 Fh)), (h_tape, .inr (6, vL 12 F_tape_)), (h_tape_bytes, .inl (cB, 940, .inl f_tape_bytes)), (h_tape_wordNames, .inl (cJ, 23, .inr (.inl f_tape_wordNames)))] sz [.ref h0, .int p0, .int p1, .int p2, .int p3, .int p4] (fun (r : Int32) (u : va_W) => ∃ (G_tape_ : Nat → Value) (y_tape_length : Int32) (g_tape_bytes : Nat → Int32), SAME [1] F_tape_ G_tape_ ∧ G_tape_ 1 = .int y_tape_length ∧ IR 0 940 y_tape_length ∧ IR (-1) 940 r ∧ u = [(h0, .inr (9, vL 19 Fh)), (h_tape, .inr (6, vL 12 G_tape_)), (h_tape_bytes, .inl (cB, 940, .inl g_tape_bytes)), (h_tape_wordNames, .inl (cJ, 23, .inr (.inl f_tape_wordNames)))]) := by
  refine CI_mk (by decide) (Nat.le_of_ble_eq_true rfl) ?_
  intro p e s m below meth c A ls E hAe hG hsz hP hD hA hS hl
  obtain ⟨hx, hb, hr, hw, hown, hlocks, hml, hnm⟩ := E
  have hK := hG.1
  have i_x_tape_length : 0 ≤ x_tape_length.toInt ∧ x_tape_length.toInt ≤ 940 := i_x_tape_length
  have hl : lv_has ls 6 [(0, .ref h0), (1, .int p0), (2, .int p1), (3, .int p2), (4, .int p3), (5, .int p4)] := hl
  refine lv_aload_n hx hb dX9_feed_0 rfl (lv_at hl 0 rfl) ?_
  refine get_f (D := D) (ci := 9) (v := .ref h_tape) (C := RX9) (T := TX9) (N := 19) hx hb hw inAX9 hown hK hP 0 rfl rfl 0 (by decide) (hw _ q_440) (fun _ h9 => h9) e_tape dX9_feed_1 ?_
  refine call_Vi (wr := [(h0, .inr (9, vL 19 Fh)), (h_tape_bytes, .inl (cB, 940, .inl f_tape_bytes)), (h_tape_wordNames, .inl (cJ, 23, .inr (.inl f_tape_wordNames)))]) (As := []) (rest := []) hx hb hml hown hw (m_X6_hasRoom l D cI cJ cB cP cM cZ h_tape F_tape_ x_tape_length _ e_tape_length i_x_tape_length) wV_X9_102_X6_hasRoom dX9_feed_4 hK hP hD hS hA [1] [0, 2, 3] rfl rfl (by decide) (by decide) (by decide) 0 6 rfl rfl GG.fb hG.at hl.1 rfl (Nat.le_of_ble_eq_true rfl) ⟨(Nat.le_of_ble_eq_true rfl), (Nat.le_of_ble_eq_true rfl)⟩ ⟨(Nat.le_of_ble_eq_true rfl), (Nat.le_of_ble_eq_true rfl)⟩ (fun r1 u H locs hp hP hD hS => ?_)
  obtain ⟨t2, rfl⟩ := hp
  have hP : va_P D vwCl [(h0, .inr (9, vL 19 Fh)), (h_tape_bytes, .inl (cB, 940, .inl f_tape_bytes)), (h_tape_wordNames, .inl (cJ, 23, .inr (.inl f_tape_wordNames))), (h_tape, .inr (6, vL 12 F_tape_))] H := hP
  have hD : va_D A [(h0, .inr (9, vL 19 Fh)), (h_tape_bytes, .inl (cB, 940, .inl f_tape_bytes)), (h_tape_wordNames, .inl (cJ, 23, .inr (.inl f_tape_wordNames))), (h_tape, .inr (6, vL 12 F_tape_))] := hD
  refine W.widen (k := 0) (n := 0) (Nat.le_of_ble_eq_true rfl) (Nat.le_of_ble_eq_true rfl) ?_
  refine lv_if_ne (tgt := 12) hx hb dX9_feed_7 (by decide) (fun c3 => ?_) (fun c3 => ?_)
  · have dc3 : r1.toInt ≠ 0 := ne_i (a := r1.toInt) (b := 0) rfl rfl c3
    have k4 : 1 ≤ r1.toInt ∧ r1.toInt ≤ 1 := ⟨ne_lo dc3 t2.1 ⟨Int.le_refl _, Int.le_refl _⟩ (by decide), t2.2⟩
    refine lv_aload_n hx hb dX9_feed_12 rfl (lv_at hl 0 rfl) ?_
    refine get_f (D := D) (ci := 9) (v := .ref h_tape) (C := RX9) (T := TX9) (N := 19) hx hb hw inAX9 hown hK hP 0 rfl rfl 0 (by decide) (hw _ q_440) (fun _ h9 => h9) e_tape dX9_feed_13 ?_
    refine lv_iload_n hx hb dX9_feed_16 rfl (lv_at hl 1 rfl) ?_
    refine call_Vv (wr := [(h0, .inr (9, vL 19 Fh)), (h_tape_wordNames, .inl (cJ, 23, .inr (.inl f_tape_wordNames)))]) (As := [.int p0]) (rest := []) hx hb hml hown hw (m_X6_append l D cI cJ cB cP cM cZ h_tape h_tape_bytes F_tape_ x_tape_length f_tape_bytes p0 _ e_tape_bytes e_tape_length i_x_tape_length) wV_X9_106_X6_append dX9_feed_17 hK hP hD hS hA [3, 1] [0, 2] rfl rfl (by decide) (by decide) (by decide) 0 6 rfl rfl GG.fb hG.at hl.1 rfl (Nat.le_of_ble_eq_true rfl) ⟨(Nat.le_of_ble_eq_true rfl), (Nat.le_of_ble_eq_true rfl)⟩ ⟨(Nat.le_of_ble_eq_true rfl), (Nat.le_of_ble_eq_true rfl)⟩ (fun u H locs hp hP hD hS => ?_)
    obtain ⟨F6, y7, g8, t9, t10, t11, rfl⟩ := hp
    have hP : va_P D vwCl [(h0, .inr (9, vL 19 Fh)), (h_tape_wordNames, .inl (cJ, 23, .inr (.inl f_tape_wordNames))), (h_tape, .inr (6, vL 12 F6)), (h_tape_bytes, .inl (cB, 940, .inl g8))] H := hP
    have hD : va_D A [(h0, .inr (9, vL 19 Fh)), (h_tape_wordNames, .inl (cJ, 23, .inr (.inl f_tape_wordNames))), (h_tape, .inr (6, vL 12 F6)), (h_tape_bytes, .inl (cB, 940, .inl g8))] := hD
    refine W.widen (k := 0) (n := 0) (Nat.le_of_ble_eq_true rfl) (Nat.le_of_ble_eq_true rfl) ?_
    refine lv_aload_n hx hb dX9_feed_20 rfl (lv_at hl 0 rfl) ?_
    refine get_f (D := D) (ci := 9) (v := .ref h_tape) (C := RX9) (T := TX9) (N := 19) hx hb hw inAX9 hown hK hP 0 rfl rfl 0 (by decide) (hw _ q_440) (fun _ h9 => h9) e_tape dX9_feed_21 ?_
    refine lv_iload_n hx hb dX9_feed_24 rfl (lv_at hl 2 rfl) ?_
    have n12 : F6 0 = .ref h_tape_bytes := (SAME.at t9 (by decide) e_tape_bytes)
    refine call_Vv (wr := [(h0, .inr (9, vL 19 Fh)), (h_tape_wordNames, .inl (cJ, 23, .inr (.inl f_tape_wordNames)))]) (As := [.int p1]) (rest := []) hx hb hml hown hw (m_X6_append l D cI cJ cB cP cM cZ h_tape h_tape_bytes F6 y7 g8 p1 _ n12 t10 t11) wV_X9_106_X6_append dX9_feed_25 hK hP hD hS hA [2, 3] [0, 1] rfl rfl (by decide) (by decide) (by decide) 0 6 rfl rfl GG.fb hG.at hl.1 rfl (Nat.le_of_ble_eq_true rfl) ⟨(Nat.le_of_ble_eq_true rfl), (Nat.le_of_ble_eq_true rfl)⟩ ⟨(Nat.le_of_ble_eq_true rfl), (Nat.le_of_ble_eq_true rfl)⟩ (fun u H locs hp hP hD hS => ?_)
    obtain ⟨F14, y15, g16, t17, t18, t19, rfl⟩ := hp
    have hP : va_P D vwCl [(h0, .inr (9, vL 19 Fh)), (h_tape_wordNames, .inl (cJ, 23, .inr (.inl f_tape_wordNames))), (h_tape, .inr (6, vL 12 F14)), (h_tape_bytes, .inl (cB, 940, .inl g16))] H := hP
    have hD : va_D A [(h0, .inr (9, vL 19 Fh)), (h_tape_wordNames, .inl (cJ, 23, .inr (.inl f_tape_wordNames))), (h_tape, .inr (6, vL 12 F14)), (h_tape_bytes, .inl (cB, 940, .inl g16))] := hD
    refine W.widen (k := 0) (n := 0) (Nat.le_of_ble_eq_true rfl) (Nat.le_of_ble_eq_true rfl) ?_
    refine lv_aload_n hx hb dX9_feed_28 rfl (lv_at hl 0 rfl) ?_
    refine get_f (D := D) (ci := 9) (v := .ref h_tape) (C := RX9) (T := TX9) (N := 19) hx hb hw inAX9 hown hK hP 0 rfl rfl 0 (by decide) (hw _ q_440) (fun _ h9 => h9) e_tape dX9_feed_29 ?_
    refine lv_iload_n hx hb dX9_feed_32 rfl (lv_at hl 3 rfl) ?_
    have n20 : F14 0 = .ref h_tape_bytes := (SAME.at t17 (by decide) n12)
    refine call_Vv (wr := [(h0, .inr (9, vL 19 Fh)), (h_tape_wordNames, .inl (cJ, 23, .inr (.inl f_tape_wordNames)))]) (As := [.int p2]) (rest := []) hx hb hml hown hw (m_X6_append l D cI cJ cB cP cM cZ h_tape h_tape_bytes F14 y15 g16 p2 _ n20 t18 t19) wV_X9_106_X6_append dX9_feed_33 hK hP hD hS hA [2, 3] [0, 1] rfl rfl (by decide) (by decide) (by decide) 0 6 rfl rfl GG.fb hG.at hl.1 rfl (Nat.le_of_ble_eq_true rfl) ⟨(Nat.le_of_ble_eq_true rfl), (Nat.le_of_ble_eq_true rfl)⟩ ⟨(Nat.le_of_ble_eq_true rfl), (Nat.le_of_ble_eq_true rfl)⟩ (fun u H locs hp hP hD hS => ?_)
    obtain ⟨F22, y23, g24, t25, t26, t27, rfl⟩ := hp
    have hP : va_P D vwCl [(h0, .inr (9, vL 19 Fh)), (h_tape_wordNames, .inl (cJ, 23, .inr (.inl f_tape_wordNames))), (h_tape, .inr (6, vL 12 F22)), (h_tape_bytes, .inl (cB, 940, .inl g24))] H := hP
    have hD : va_D A [(h0, .inr (9, vL 19 Fh)), (h_tape_wordNames, .inl (cJ, 23, .inr (.inl f_tape_wordNames))), (h_tape, .inr (6, vL 12 F22)), (h_tape_bytes, .inl (cB, 940, .inl g24))] := hD
    refine W.widen (k := 0) (n := 0) (Nat.le_of_ble_eq_true rfl) (Nat.le_of_ble_eq_true rfl) ?_
    refine lv_aload_n hx hb dX9_feed_36 rfl (lv_at hl 0 rfl) ?_
    refine get_f (D := D) (ci := 9) (v := .ref h_tape) (C := RX9) (T := TX9) (N := 19) hx hb hw inAX9 hown hK hP 0 rfl rfl 0 (by decide) (hw _ q_440) (fun _ h9 => h9) e_tape dX9_feed_37 ?_
    refine lv_iload hx hb dX9_feed_40 (lv_at hl 4 rfl) ?_
    have n28 : F22 0 = .ref h_tape_bytes := (SAME.at t25 (by decide) n20)
    refine call_Vv (wr := [(h0, .inr (9, vL 19 Fh)), (h_tape_wordNames, .inl (cJ, 23, .inr (.inl f_tape_wordNames)))]) (As := [.int p3]) (rest := []) hx hb hml hown hw (m_X6_append l D cI cJ cB cP cM cZ h_tape h_tape_bytes F22 y23 g24 p3 _ n28 t26 t27) wV_X9_106_X6_append dX9_feed_42 hK hP hD hS hA [2, 3] [0, 1] rfl rfl (by decide) (by decide) (by decide) 0 6 rfl rfl GG.fb hG.at hl.1 rfl (Nat.le_of_ble_eq_true rfl) ⟨(Nat.le_of_ble_eq_true rfl), (Nat.le_of_ble_eq_true rfl)⟩ ⟨(Nat.le_of_ble_eq_true rfl), (Nat.le_of_ble_eq_true rfl)⟩ (fun u H locs hp hP hD hS => ?_)
    obtain ⟨F30, y31, g32, t33, t34, t35, rfl⟩ := hp
    have hP : va_P D vwCl [(h0, .inr (9, vL 19 Fh)), (h_tape_wordNames, .inl (cJ, 23, .inr (.inl f_tape_wordNames))), (h_tape, .inr (6, vL 12 F30)), (h_tape_bytes, .inl (cB, 940, .inl g32))] H := hP
    have hD : va_D A [(h0, .inr (9, vL 19 Fh)), (h_tape_wordNames, .inl (cJ, 23, .inr (.inl f_tape_wordNames))), (h_tape, .inr (6, vL 12 F30)), (h_tape_bytes, .inl (cB, 940, .inl g32))] := hD
    refine W.widen (k := 0) (n := 0) (Nat.le_of_ble_eq_true rfl) (Nat.le_of_ble_eq_true rfl) ?_
    refine lv_aload_n hx hb dX9_feed_45 rfl (lv_at hl 0 rfl) ?_
    refine get_f (D := D) (ci := 9) (v := .ref h_tape) (C := RX9) (T := TX9) (N := 19) hx hb hw inAX9 hown hK hP 0 rfl rfl 0 (by decide) (hw _ q_440) (fun _ h9 => h9) e_tape dX9_feed_46 ?_
    refine lv_iload hx hb dX9_feed_49 (lv_at hl 5 rfl) ?_
    have n36 : F30 0 = .ref h_tape_bytes := (SAME.at t33 (by decide) n28)
    refine call_Vv (wr := [(h0, .inr (9, vL 19 Fh)), (h_tape_wordNames, .inl (cJ, 23, .inr (.inl f_tape_wordNames)))]) (As := [.int p4]) (rest := []) hx hb hml hown hw (m_X6_append l D cI cJ cB cP cM cZ h_tape h_tape_bytes F30 y31 g32 p4 _ n36 t34 t35) wV_X9_106_X6_append dX9_feed_51 hK hP hD hS hA [2, 3] [0, 1] rfl rfl (by decide) (by decide) (by decide) 0 6 rfl rfl GG.fb hG.at hl.1 rfl (Nat.le_of_ble_eq_true rfl) ⟨(Nat.le_of_ble_eq_true rfl), (Nat.le_of_ble_eq_true rfl)⟩ ⟨(Nat.le_of_ble_eq_true rfl), (Nat.le_of_ble_eq_true rfl)⟩ (fun u H locs hp hP hD hS => ?_)
    obtain ⟨F38, y39, g40, t41, t42, t43, rfl⟩ := hp
    have hP : va_P D vwCl [(h0, .inr (9, vL 19 Fh)), (h_tape_wordNames, .inl (cJ, 23, .inr (.inl f_tape_wordNames))), (h_tape, .inr (6, vL 12 F38)), (h_tape_bytes, .inl (cB, 940, .inl g40))] H := hP
    have hD : va_D A [(h0, .inr (9, vL 19 Fh)), (h_tape_wordNames, .inl (cJ, 23, .inr (.inl f_tape_wordNames))), (h_tape, .inr (6, vL 12 F38)), (h_tape_bytes, .inl (cB, 940, .inl g40))] := hD
    refine W.widen (k := 0) (n := 0) (Nat.le_of_ble_eq_true rfl) (Nat.le_of_ble_eq_true rfl) ?_
    refine lv_aload_n hx hb dX9_feed_54 rfl (lv_at hl 0 rfl) ?_
    refine get_f (D := D) (ci := 9) (v := .ref h_tape) (C := RX9) (T := TX9) (N := 19) hx hb hw inAX9 hown hK hP 0 rfl rfl 0 (by decide) (hw _ q_440) (fun _ h9 => h9) e_tape dX9_feed_55 ?_
    refine get_f (D := D) (ci := 6) (v := .int y39) (C := RX6) (T := TX6) (N := 12) hx hb hw inAX6 hown hK hP 2 rfl rfl 1 (by decide) (hw _ q_91) (fun _ h9 => h9) t42 dX9_feed_58 ?_
    exact ret_i (v := y39) hx hb hr hlocks hS (hP.sub (ws' := [(h0, .inr (9, vL 19 Fh)), (h_tape, .inr (6, vL 12 F38)), (h_tape_bytes, .inl (cB, 940, .inl g40)), (h_tape_wordNames, .inl (cJ, 23, .inr (.inl f_tape_wordNames)))]) [0, 2, 3, 1] rfl) (hD.sub (ws' := [(h0, .inr (9, vL 19 Fh)), (h_tape, .inr (6, vL 12 F38)), (h_tape_bytes, .inl (cB, 940, .inl g40)), (h_tape_wordNames, .inl (cJ, 23, .inr (.inl f_tape_wordNames)))]) [0, 2, 3, 1] (by decide) rfl) dX9_feed_61 rfl (Nat.le_of_ble_eq_true rfl) (Nat.le_of_ble_eq_true rfl) ⟨F38, y39, g40, (SAME.tr (SAME.tr (SAME.tr (SAME.tr (SAME.tr SAME.rf t9 (by decide)) t17 (by decide)) t25 (by decide)) t33 (by decide)) t41 (by decide)), t42, t43, (ir_wk t43 (by decide) (by decide)), rfl⟩
  · have dc3 : r1.toInt = 0 := eq_i (a := r1.toInt) (b := 0) rfl rfl c3
    have k44 : 0 ≤ r1.toInt ∧ r1.toInt ≤ 0 := ⟨t2.1, Int.le_trans (Int.le_of_eq dc3) (Int.le_refl _)⟩
    refine lv_iconst (v := (-1)) hx hb dX9_feed_10 (by decide) ?_
    exact ret_i (v := (-1)) hx hb hr hlocks hS (hP.sub (ws' := [(h0, .inr (9, vL 19 Fh)), (h_tape, .inr (6, vL 12 F_tape_)), (h_tape_bytes, .inl (cB, 940, .inl f_tape_bytes)), (h_tape_wordNames, .inl (cJ, 23, .inr (.inl f_tape_wordNames)))]) [0, 3, 1, 2] rfl) (hD.sub (ws' := [(h0, .inr (9, vL 19 Fh)), (h_tape, .inr (6, vL 12 F_tape_)), (h_tape_bytes, .inl (cB, 940, .inl f_tape_bytes)), (h_tape_wordNames, .inl (cJ, 23, .inr (.inl f_tape_wordNames)))]) [0, 3, 1, 2] (by decide) rfl) dX9_feed_11 rfl (Nat.le_of_ble_eq_true rfl) (Nat.le_of_ble_eq_true rfl) ⟨F_tape_, x_tape_length, f_tape_bytes, SAME.rf, e_tape_length, i_x_tape_length, (show (-1) ≤ ((-1) : Int32).toInt ∧ ((-1) : Int32).toInt ≤ 940 by decide), rfl⟩
set_option maxHeartbeats 4000000 in
set_option maxRecDepth 100000 in
theorem m_X9_end (l : Launch) (D : va_G) (cI cJ cB cP cM cZ : ClassId) (h0 : Nat) (h_tape : Nat) (h_tape_bytes : Nat) (h_tape_wordNames : Nat) (Fh : Nat → Value) (F_tape_ : Nat → Value) (x_tape_length : Int32) (f_tape_bytes : Nat → Int32) (f_tape_wordNames : Nat → Int64) (p0 : Int32) (sz : Nat) (e_tape : Fh 0 = .ref h_tape) (e_tape_bytes : F_tape_ 0 = .ref h_tape_bytes) (e_tape_length : F_tape_ 1 = .int x_tape_length) (i_x_tape_length : IR 0 940 x_tape_length) (e_tape_wordNames : F_tape_ 9 = .ref h_tape_wordNames) : CI l yX9_end cX9_end 2 (some .boolean) { frames := 0, cells := 0, slots := 0, locals := 0 } (GG D cI cJ cB cP cM cZ) D [(h0, .inr (9, vL 19 Fh)), (h_tape, .inr (6, vL 12 F_tape_)), (h_tape_bytes, .inl (cB, 940, .inl f_tape_bytes)), (h_tape_wordNames, .inl (cJ, 23, .inr (.inl f_tape_wordNames)))] sz [.ref h0, .int p0] (fun (r : Int32) (u : va_W) => ∃ (G_tape_ : Nat → Value) (y_tape_length : Int32), SAME [1] F_tape_ G_tape_ ∧ G_tape_ 1 = .int y_tape_length ∧ IR 0 940 y_tape_length ∧ IR 0 1 r ∧ u = [(h0, .inr (9, vL 19 Fh)), (h_tape, .inr (6, vL 12 G_tape_)), (h_tape_bytes, .inl (cB, 940, .inl f_tape_bytes)), (h_tape_wordNames, .inl (cJ, 23, .inr (.inl f_tape_wordNames)))]) := by
  refine CI_mk (by decide) (Nat.le_of_ble_eq_true rfl) ?_
  intro p e s m below meth c A ls E hAe hG hsz hP hD hA hS hl
  obtain ⟨hx, hb, hr, hw, hown, hlocks, hml, hnm⟩ := E
  have hK := hG.1
  have i_x_tape_length : 0 ≤ x_tape_length.toInt ∧ x_tape_length.toInt ≤ 940 := i_x_tape_length
  have hl : lv_has ls 2 [(0, .ref h0), (1, .int p0)] := hl
  refine lv_iload_n hx hb dX9_end_0 rfl (lv_at hl 1 rfl) ?_
  refine lv_if_lt (tgt := 15) hx hb dX9_end_1 (by decide) (fun c1 => ?_) (fun c1 => ?_)
  · have dc1 : p0.toInt < 0 := lt_i (a := p0.toInt) (b := 0) rfl rfl c1
    have k2 : (-2147483648) ≤ p0.toInt ∧ p0.toInt ≤ (-1) := ⟨(ir_any _).1, up_lt dc1 (Int.le_refl _) (by decide)⟩
    refine lv_iconst (v := 0) hx hb dX9_end_15 (by decide) ?_
    exact ret_i (v := 0) hx hb hr hlocks hS hP hD dX9_end_16 rfl (Nat.le_of_ble_eq_true rfl) (Nat.le_of_ble_eq_true rfl) ⟨F_tape_, x_tape_length, SAME.rf, e_tape_length, i_x_tape_length, (show 0 ≤ (0 : Int32).toInt ∧ (0 : Int32).toInt ≤ 1 by decide), rfl⟩
  · have dc1 : 0 ≤ p0.toInt := nlt_i (a := p0.toInt) (b := 0) rfl rfl c1
    have k3 : 0 ≤ p0.toInt ∧ p0.toInt ≤ 2147483647 := ⟨Int.le_trans (Int.le_refl _) dc1, (ir_any _).2⟩
    refine lv_iload_n hx hb dX9_end_4 rfl (lv_at hl 1 rfl) ?_
    refine lv_aload_n hx hb dX9_end_5 rfl (lv_at hl 0 rfl) ?_
    refine get_f (D := D) (ci := 9) (v := .ref h_tape) (C := RX9) (T := TX9) (N := 19) hx hb hw inAX9 hown hK hP 0 rfl rfl 0 (by decide) (hw _ q_440) (fun _ h9 => h9) e_tape dX9_end_6 ?_
    refine get_f (D := D) (ci := 6) (v := .int x_tape_length) (C := RX6) (T := TX6) (N := 12) hx hb hw inAX6 hown hK hP 1 rfl rfl 1 (by decide) (hw _ q_91) (fun _ h9 => h9) e_tape_length dX9_end_9 ?_
    refine lv_icmp_le (tgt := 17) hx hb dX9_end_12 (by decide) (fun c4 => ?_) (fun c4 => ?_)
    · have dc4 : p0.toInt ≤ x_tape_length.toInt := le_i (a := p0.toInt) (b := x_tape_length.toInt) rfl rfl c4
      have k5 : 0 ≤ p0.toInt ∧ p0.toInt ≤ 940 := ⟨k3.1, Int.le_trans dc4 i_x_tape_length.2⟩
      refine lv_aload_n hx hb dX9_end_17 rfl (lv_at hl 0 rfl) ?_
      refine get_f (D := D) (ci := 9) (v := .ref h_tape) (C := RX9) (T := TX9) (N := 19) hx hb hw inAX9 hown hK hP 0 rfl rfl 0 (by decide) (hw _ q_440) (fun _ h9 => h9) e_tape dX9_end_18 ?_
      refine lv_iload_n hx hb dX9_end_21 rfl (lv_at hl 1 rfl) ?_
      refine put_f (D := D) (ci := 6) (v := .int p0) (ty := .int) (C := RX6) (T := TX6) (N := 12) hx hb hw inAX6 tyX6 tyX6_ok nmX6 hown hK hP hD hS 1 rfl rfl 1 (by decide) (hw _ q_91) (fun _ h9 => h9) rfl (by decide +kernel) rfl rfl dX9_end_22 (fun H locs F6 eF6 hP hD hS => ?_)
      have hP : va_P D vwCl [(h0, .inr (9, vL 19 Fh)), (h_tape, .inr (6, vL 12 F6)), (h_tape_bytes, .inl (cB, 940, .inl f_tape_bytes)), (h_tape_wordNames, .inl (cJ, 23, .inr (.inl f_tape_wordNames)))] H := hP
      have hD : va_D A [(h0, .inr (9, vL 19 Fh)), (h_tape, .inr (6, vL 12 F6)), (h_tape_bytes, .inl (cB, 940, .inl f_tape_bytes)), (h_tape_wordNames, .inl (cJ, 23, .inr (.inl f_tape_wordNames)))] := hD
      refine lv_iconst (v := 1) hx hb dX9_end_25 (by decide) ?_
      exact ret_i (v := 1) hx hb hr hlocks hS hP hD dX9_end_26 rfl (Nat.le_of_ble_eq_true rfl) (Nat.le_of_ble_eq_true rfl) ⟨F6, p0, (SAME.up eF6 SAME.rf (by decide)), (get_eq eF6), k5, (show 0 ≤ (1 : Int32).toInt ∧ (1 : Int32).toInt ≤ 1 by decide), rfl⟩
    · have dc4 : x_tape_length.toInt < p0.toInt := nle_i (a := p0.toInt) (b := x_tape_length.toInt) rfl rfl c4
      have k7 : 1 ≤ p0.toInt ∧ p0.toInt ≤ 2147483647 := ⟨lo_lt dc4 i_x_tape_length.1 (by decide), k3.2⟩
      refine lv_iconst (v := 0) hx hb dX9_end_15 (by decide) ?_
      exact ret_i (v := 0) hx hb hr hlocks hS hP hD dX9_end_16 rfl (Nat.le_of_ble_eq_true rfl) (Nat.le_of_ble_eq_true rfl) ⟨F_tape_, x_tape_length, SAME.rf, e_tape_length, i_x_tape_length, (show 0 ≤ (0 : Int32).toInt ∧ (0 : Int32).toInt ≤ 1 by decide), rfl⟩
set_option maxHeartbeats 4000000 in
set_option maxRecDepth 100000 in
theorem m_X1_init (l : Launch) (D : va_G) (cI cJ cB cP cM cZ : ClassId) (z0 tU tL tM : Nat) (h0 : Nat) (Fh : Nat → Value) (p0 : Int32) (sz : Nat)  : CV l yX1_init cX1_init 2 none { frames := 1, cells := 12, slots := 119, locals := 40 } (GY D cI cJ cB cP cM cZ z0 tU tL tM [(h0, .inr (1, vL 18 Fh))]) D [(h0, .inr (1, vL 18 Fh))] sz [.ref h0, .int p0] (fun (u : va_W) => ∃ (Gh : Nat → Value) (n_settings : Nat) (n_manName : Nat) (n_push : Nat) (n_feet : Nat) (n_weight : Nat) (n_length : Nat) (n_drop : Nat) (n_ideal : Nat) (n_over : Nat) (n_runnerName : Nat) (n_bestAt : Nat) (n_bad : Nat) (g_settings : Nat → Int32) (g_manName : Nat → Int64) (g_push : Nat → Int32) (g_feet : Nat → Int32) (g_weight : Nat → Int32) (g_length : Nat → Int32) (g_drop : Nat → Int32) (g_ideal : Nat → Int32) (g_over : Nat → Int32) (g_runnerName : Nat → Int64) (g_bestAt : Nat → Int32) (g_bad : Nat → Int32), SAME [0, 1, 2, 3, 4, 5, 6, 7, 8, 9, 10, 11, 12, 13, 14, 15, 16, 17] Fh Gh ∧ Gh 0 = .int p0 ∧ Gh 1 = .ref n_settings ∧ Gh 2 = .ref n_manName ∧ Gh 3 = .ref n_push ∧ Gh 4 = .ref n_feet ∧ Gh 5 = .ref n_weight ∧ Gh 6 = .ref n_length ∧ Gh 7 = .ref n_drop ∧ Gh 8 = .ref n_ideal ∧ Gh 9 = .ref n_over ∧ Gh 10 = .ref n_runnerName ∧ Gh 11 = .ref n_bestAt ∧ Gh 12 = .ref n_bad ∧ Gh 13 = .int 0 ∧ Gh 14 = .int 0 ∧ Gh 15 = .int 0 ∧ Gh 16 = .int 0 ∧ Gh 17 = .int 0 ∧ SG 0 0 5 40 g_settings ∧ u = [(h0, .inr (1, vL 18 Gh)), (n_settings, .inl (cI, 5, .inl g_settings)), (n_manName, .inl (cJ, 12, .inr (.inl g_manName))), (n_push, .inl (cI, 12, .inl g_push)), (n_feet, .inl (cI, 12, .inl g_feet)), (n_weight, .inl (cI, 12, .inl g_weight)), (n_length, .inl (cI, 12, .inl g_length)), (n_drop, .inl (cI, 12, .inl g_drop)), (n_ideal, .inl (cI, 12, .inl g_ideal)), (n_over, .inl (cI, 12, .inl g_over)), (n_runnerName, .inl (cJ, 6, .inr (.inl g_runnerName))), (n_bestAt, .inl (cI, 6, .inl g_bestAt)), (n_bad, .inl (cI, 6, .inl g_bad))]) := by
  refine CV_mk (by decide) (Nat.le_of_ble_eq_true rfl) ?_
  intro p e s m below meth c A ls E hAe hG hsz hP hD hA hS hl
  obtain ⟨hx, hb, hr, hw, hown, hlocks, hml, hnm⟩ := E
  have hK := hG.1.1
  have hAz := hG.hAz hAe hsz
  have hST := hG.st hAz
  have hl : lv_has ls 2 [(0, .ref h0), (1, .int p0)] := hl
  refine lv_aload_n hx hb dX1_init_0 rfl (lv_at hl 0 rfl) ?_
  refine W.objInit hx hb hown (hw _ q_303) (hw _ q_30) (hw _ q_31) rfl (by rw [hml]; exact hl.1) rfl dX1_init_1 (Nat.le_of_ble_eq_true rfl) (Nat.le_of_ble_eq_true rfl) ?_
  refine W.eq (g2 := F0 m 4 ls []) rfl ?_
  refine lv_aload_n hx hb dX1_init_4 rfl (lv_at hl 0 rfl) ?_
  refine va_getsN hx hb hST.1 hS hown (va_Nw.use rfl (hG.1.2.1 (.fieldLinkNest "FourSledge$Course" 9 "FourSledge" "SETTING_USUAL" "[I" "FourSledge") (by decide +kernel))) (fun _ h9 => h9) dX1_init_5 ?_
  refine cloneT hx hb (hml.trans hl.1.symm) hown (hw _ q_306) (hw _ q_307) (hw _ q_308) (hw _ q_309) (hw _ q_310) (hG.1.2.1 _ (by decide +kernel)) hST.2.1 hS hK 0 rfl hP hD hA (Nat.le_of_ble_eq_true rfl) (Nat.le_of_ble_eq_true rfl) (Nat.le_of_ble_eq_true rfl) (Nat.le_of_ble_eq_true rfl) dX1_init_8 (fun q1 H hP hD hS => ?_)
  have hP : va_P D vwCl [(h0, .inr (1, vL 18 Fh)), (q1, .inl (cI, 5, .inl uF))] H := hP
  have hD : va_D A [(h0, .inr (1, vL 18 Fh)), (q1, .inl (cI, 5, .inl uF))] := hD
  refine W.widen (k := 1) (n := 5) (Nat.le_of_ble_eq_true rfl) (Nat.le_of_ble_eq_true rfl) ?_
  refine va_castA hx hb hown (hw _ q_312) hP 1 rfl (va_nm_int (hK.2 0 _ rfl).2) dX1_init_11 ?_
  refine put_fF (D := D) (ci := 1) (v := .ref q1) (ty := (.array .int)) (C := RX1) (T := TX1) (N := 18) hx hb hw inAX1 tyX1 tyX1_ok nmX1 hown hK hP hD hS 0 rfl rfl 1 (by decide) (hw _ q_315) (fun _ h9 => h9) rfl hnm rfl (by decide +kernel) rfl rfl dX1_init_14 (fun H locs F2 eF2 hP hD hS => ?_)
  have hP : va_P D vwCl [(h0, .inr (1, vL 18 F2)), (q1, .inl (cI, 5, .inl uF))] H := hP
  have hD : va_D A [(h0, .inr (1, vL 18 F2)), (q1, .inl (cI, 5, .inl uF))] := hD
  refine lv_aload_n hx hb dX1_init_17 rfl (lv_at hl 0 rfl) ?_
  refine lv_bipush (v := 12) hx hb dX1_init_18 (by decide) ?_
  refine newA (atype := .long) (ty := .long) (N' := 12) (a0 := (12, .inr <| .inl (fun _ => 0))) hx hb (hw _ q_138) rfl hK 1 rfl (by intro C; exact nofun) hP hD hS hA (fun cA => rfl) (by decide) (by decide +kernel) (Nat.le_of_ble_eq_true rfl) (Nat.le_of_ble_eq_true rfl) (Nat.le_of_ble_eq_true rfl) dX1_init_20 (fun q3 H hP hD hS => ?_)
  obtain ⟨g4, eg4⟩ : ∃ z : Nat → Int64, (fun _ => 0) = z := ⟨_, rfl⟩
  rw [eg4] at hP hD
  have hP : va_P D vwCl [(h0, .inr (1, vL 18 F2)), (q1, .inl (cI, 5, .inl uF)), (q3, .inl (cJ, 12, .inr (.inl g4)))] H := hP
  have hD : va_D A [(h0, .inr (1, vL 18 F2)), (q1, .inl (cI, 5, .inl uF)), (q3, .inl (cJ, 12, .inr (.inl g4)))] := hD
  refine W.widen (k := 2) (n := 17) (Nat.le_of_ble_eq_true rfl) (Nat.le_of_ble_eq_true rfl) ?_
  refine put_fF (D := D) (ci := 1) (v := .ref q3) (ty := (.array .long)) (C := RX1) (T := TX1) (N := 18) hx hb hw inAX1 tyX1 tyX1_ok nmX1 hown hK hP hD hS 0 rfl rfl 2 (by decide) (hw _ q_320) (fun _ h9 => h9) rfl hnm rfl (by decide +kernel) rfl rfl dX1_init_22 (fun H locs F5 eF5 hP hD hS => ?_)
  have hP : va_P D vwCl [(h0, .inr (1, vL 18 F5)), (q1, .inl (cI, 5, .inl uF)), (q3, .inl (cJ, 12, .inr (.inl g4)))] H := hP
  have hD : va_D A [(h0, .inr (1, vL 18 F5)), (q1, .inl (cI, 5, .inl uF)), (q3, .inl (cJ, 12, .inr (.inl g4)))] := hD
  refine lv_aload_n hx hb dX1_init_25 rfl (lv_at hl 0 rfl) ?_
  refine lv_bipush (v := 12) hx hb dX1_init_26 (by decide) ?_
  refine newA (atype := .int) (ty := .int) (N' := 12) (a0 := (12, .inl (fun _ => 0))) hx hb (hw _ q_198) rfl hK 0 rfl (by intro C; exact nofun) hP hD hS hA (fun cA => rfl) (by decide) (by decide +kernel) (Nat.le_of_ble_eq_true rfl) (Nat.le_of_ble_eq_true rfl) (Nat.le_of_ble_eq_true rfl) dX1_init_28 (fun q6 H hP hD hS => ?_)
  obtain ⟨g7, eg7⟩ : ∃ z : Nat → Int32, (fun _ => 0) = z := ⟨_, rfl⟩
  rw [eg7] at hP hD
  have hP : va_P D vwCl [(h0, .inr (1, vL 18 F5)), (q1, .inl (cI, 5, .inl uF)), (q3, .inl (cJ, 12, .inr (.inl g4))), (q6, .inl (cI, 12, .inl g7))] H := hP
  have hD : va_D A [(h0, .inr (1, vL 18 F5)), (q1, .inl (cI, 5, .inl uF)), (q3, .inl (cJ, 12, .inr (.inl g4))), (q6, .inl (cI, 12, .inl g7))] := hD
  refine W.widen (k := 3) (n := 29) (Nat.le_of_ble_eq_true rfl) (Nat.le_of_ble_eq_true rfl) ?_
  refine put_fF (D := D) (ci := 1) (v := .ref q6) (ty := (.array .int)) (C := RX1) (T := TX1) (N := 18) hx hb hw inAX1 tyX1 tyX1_ok nmX1 hown hK hP hD hS 0 rfl rfl 3 (by decide) (hw _ q_321) (fun _ h9 => h9) rfl hnm rfl (by decide +kernel) rfl rfl dX1_init_30 (fun H locs F8 eF8 hP hD hS => ?_)
  have hP : va_P D vwCl [(h0, .inr (1, vL 18 F8)), (q1, .inl (cI, 5, .inl uF)), (q3, .inl (cJ, 12, .inr (.inl g4))), (q6, .inl (cI, 12, .inl g7))] H := hP
  have hD : va_D A [(h0, .inr (1, vL 18 F8)), (q1, .inl (cI, 5, .inl uF)), (q3, .inl (cJ, 12, .inr (.inl g4))), (q6, .inl (cI, 12, .inl g7))] := hD
  refine lv_aload_n hx hb dX1_init_33 rfl (lv_at hl 0 rfl) ?_
  refine lv_bipush (v := 12) hx hb dX1_init_34 (by decide) ?_
  refine newA (atype := .int) (ty := .int) (N' := 12) (a0 := (12, .inl (fun _ => 0))) hx hb (hw _ q_198) rfl hK 0 rfl (by intro C; exact nofun) hP hD hS hA (fun cA => rfl) (by decide) (by decide +kernel) (Nat.le_of_ble_eq_true rfl) (Nat.le_of_ble_eq_true rfl) (Nat.le_of_ble_eq_true rfl) dX1_init_36 (fun q9 H hP hD hS => ?_)
  obtain ⟨g10, eg10⟩ : ∃ z : Nat → Int32, (fun _ => 0) = z := ⟨_, rfl⟩
  rw [eg10] at hP hD
  have hP : va_P D vwCl [(h0, .inr (1, vL 18 F8)), (q1, .inl (cI, 5, .inl uF)), (q3, .inl (cJ, 12, .inr (.inl g4))), (q6, .inl (cI, 12, .inl g7)), (q9, .inl (cI, 12, .inl g10))] H := hP
  have hD : va_D A [(h0, .inr (1, vL 18 F8)), (q1, .inl (cI, 5, .inl uF)), (q3, .inl (cJ, 12, .inr (.inl g4))), (q6, .inl (cI, 12, .inl g7)), (q9, .inl (cI, 12, .inl g10))] := hD
  refine W.widen (k := 4) (n := 41) (Nat.le_of_ble_eq_true rfl) (Nat.le_of_ble_eq_true rfl) ?_
  refine put_fF (D := D) (ci := 1) (v := .ref q9) (ty := (.array .int)) (C := RX1) (T := TX1) (N := 18) hx hb hw inAX1 tyX1 tyX1_ok nmX1 hown hK hP hD hS 0 rfl rfl 4 (by decide) (hw _ q_326) (fun _ h9 => h9) rfl hnm rfl (by decide +kernel) rfl rfl dX1_init_38 (fun H locs F11 eF11 hP hD hS => ?_)
  have hP : va_P D vwCl [(h0, .inr (1, vL 18 F11)), (q1, .inl (cI, 5, .inl uF)), (q3, .inl (cJ, 12, .inr (.inl g4))), (q6, .inl (cI, 12, .inl g7)), (q9, .inl (cI, 12, .inl g10))] H := hP
  have hD : va_D A [(h0, .inr (1, vL 18 F11)), (q1, .inl (cI, 5, .inl uF)), (q3, .inl (cJ, 12, .inr (.inl g4))), (q6, .inl (cI, 12, .inl g7)), (q9, .inl (cI, 12, .inl g10))] := hD
  refine lv_aload_n hx hb dX1_init_41 rfl (lv_at hl 0 rfl) ?_
  refine lv_bipush (v := 12) hx hb dX1_init_42 (by decide) ?_
  refine newA (atype := .int) (ty := .int) (N' := 12) (a0 := (12, .inl (fun _ => 0))) hx hb (hw _ q_198) rfl hK 0 rfl (by intro C; exact nofun) hP hD hS hA (fun cA => rfl) (by decide) (by decide +kernel) (Nat.le_of_ble_eq_true rfl) (Nat.le_of_ble_eq_true rfl) (Nat.le_of_ble_eq_true rfl) dX1_init_44 (fun q12 H hP hD hS => ?_)
  obtain ⟨g13, eg13⟩ : ∃ z : Nat → Int32, (fun _ => 0) = z := ⟨_, rfl⟩
  rw [eg13] at hP hD
  have hP : va_P D vwCl [(h0, .inr (1, vL 18 F11)), (q1, .inl (cI, 5, .inl uF)), (q3, .inl (cJ, 12, .inr (.inl g4))), (q6, .inl (cI, 12, .inl g7)), (q9, .inl (cI, 12, .inl g10)), (q12, .inl (cI, 12, .inl g13))] H := hP
  have hD : va_D A [(h0, .inr (1, vL 18 F11)), (q1, .inl (cI, 5, .inl uF)), (q3, .inl (cJ, 12, .inr (.inl g4))), (q6, .inl (cI, 12, .inl g7)), (q9, .inl (cI, 12, .inl g10)), (q12, .inl (cI, 12, .inl g13))] := hD
  refine W.widen (k := 5) (n := 53) (Nat.le_of_ble_eq_true rfl) (Nat.le_of_ble_eq_true rfl) ?_
  refine put_fF (D := D) (ci := 1) (v := .ref q12) (ty := (.array .int)) (C := RX1) (T := TX1) (N := 18) hx hb hw inAX1 tyX1 tyX1_ok nmX1 hown hK hP hD hS 0 rfl rfl 5 (by decide) (hw _ q_331) (fun _ h9 => h9) rfl hnm rfl (by decide +kernel) rfl rfl dX1_init_46 (fun H locs F14 eF14 hP hD hS => ?_)
  have hP : va_P D vwCl [(h0, .inr (1, vL 18 F14)), (q1, .inl (cI, 5, .inl uF)), (q3, .inl (cJ, 12, .inr (.inl g4))), (q6, .inl (cI, 12, .inl g7)), (q9, .inl (cI, 12, .inl g10)), (q12, .inl (cI, 12, .inl g13))] H := hP
  have hD : va_D A [(h0, .inr (1, vL 18 F14)), (q1, .inl (cI, 5, .inl uF)), (q3, .inl (cJ, 12, .inr (.inl g4))), (q6, .inl (cI, 12, .inl g7)), (q9, .inl (cI, 12, .inl g10)), (q12, .inl (cI, 12, .inl g13))] := hD
  refine lv_aload_n hx hb dX1_init_49 rfl (lv_at hl 0 rfl) ?_
  refine lv_bipush (v := 12) hx hb dX1_init_50 (by decide) ?_
  refine newA (atype := .int) (ty := .int) (N' := 12) (a0 := (12, .inl (fun _ => 0))) hx hb (hw _ q_198) rfl hK 0 rfl (by intro C; exact nofun) hP hD hS hA (fun cA => rfl) (by decide) (by decide +kernel) (Nat.le_of_ble_eq_true rfl) (Nat.le_of_ble_eq_true rfl) (Nat.le_of_ble_eq_true rfl) dX1_init_52 (fun q15 H hP hD hS => ?_)
  obtain ⟨g16, eg16⟩ : ∃ z : Nat → Int32, (fun _ => 0) = z := ⟨_, rfl⟩
  rw [eg16] at hP hD
  have hP : va_P D vwCl [(h0, .inr (1, vL 18 F14)), (q1, .inl (cI, 5, .inl uF)), (q3, .inl (cJ, 12, .inr (.inl g4))), (q6, .inl (cI, 12, .inl g7)), (q9, .inl (cI, 12, .inl g10)), (q12, .inl (cI, 12, .inl g13)), (q15, .inl (cI, 12, .inl g16))] H := hP
  have hD : va_D A [(h0, .inr (1, vL 18 F14)), (q1, .inl (cI, 5, .inl uF)), (q3, .inl (cJ, 12, .inr (.inl g4))), (q6, .inl (cI, 12, .inl g7)), (q9, .inl (cI, 12, .inl g10)), (q12, .inl (cI, 12, .inl g13)), (q15, .inl (cI, 12, .inl g16))] := hD
  refine W.widen (k := 6) (n := 65) (Nat.le_of_ble_eq_true rfl) (Nat.le_of_ble_eq_true rfl) ?_
  refine put_fF (D := D) (ci := 1) (v := .ref q15) (ty := (.array .int)) (C := RX1) (T := TX1) (N := 18) hx hb hw inAX1 tyX1 tyX1_ok nmX1 hown hK hP hD hS 0 rfl rfl 6 (by decide) (hw _ q_336) (fun _ h9 => h9) rfl hnm rfl (by decide +kernel) rfl rfl dX1_init_54 (fun H locs F17 eF17 hP hD hS => ?_)
  have hP : va_P D vwCl [(h0, .inr (1, vL 18 F17)), (q1, .inl (cI, 5, .inl uF)), (q3, .inl (cJ, 12, .inr (.inl g4))), (q6, .inl (cI, 12, .inl g7)), (q9, .inl (cI, 12, .inl g10)), (q12, .inl (cI, 12, .inl g13)), (q15, .inl (cI, 12, .inl g16))] H := hP
  have hD : va_D A [(h0, .inr (1, vL 18 F17)), (q1, .inl (cI, 5, .inl uF)), (q3, .inl (cJ, 12, .inr (.inl g4))), (q6, .inl (cI, 12, .inl g7)), (q9, .inl (cI, 12, .inl g10)), (q12, .inl (cI, 12, .inl g13)), (q15, .inl (cI, 12, .inl g16))] := hD
  refine lv_aload_n hx hb dX1_init_57 rfl (lv_at hl 0 rfl) ?_
  refine lv_bipush (v := 12) hx hb dX1_init_58 (by decide) ?_
  refine newA (atype := .int) (ty := .int) (N' := 12) (a0 := (12, .inl (fun _ => 0))) hx hb (hw _ q_198) rfl hK 0 rfl (by intro C; exact nofun) hP hD hS hA (fun cA => rfl) (by decide) (by decide +kernel) (Nat.le_of_ble_eq_true rfl) (Nat.le_of_ble_eq_true rfl) (Nat.le_of_ble_eq_true rfl) dX1_init_60 (fun q18 H hP hD hS => ?_)
  obtain ⟨g19, eg19⟩ : ∃ z : Nat → Int32, (fun _ => 0) = z := ⟨_, rfl⟩
  rw [eg19] at hP hD
  have hP : va_P D vwCl [(h0, .inr (1, vL 18 F17)), (q1, .inl (cI, 5, .inl uF)), (q3, .inl (cJ, 12, .inr (.inl g4))), (q6, .inl (cI, 12, .inl g7)), (q9, .inl (cI, 12, .inl g10)), (q12, .inl (cI, 12, .inl g13)), (q15, .inl (cI, 12, .inl g16)), (q18, .inl (cI, 12, .inl g19))] H := hP
  have hD : va_D A [(h0, .inr (1, vL 18 F17)), (q1, .inl (cI, 5, .inl uF)), (q3, .inl (cJ, 12, .inr (.inl g4))), (q6, .inl (cI, 12, .inl g7)), (q9, .inl (cI, 12, .inl g10)), (q12, .inl (cI, 12, .inl g13)), (q15, .inl (cI, 12, .inl g16)), (q18, .inl (cI, 12, .inl g19))] := hD
  refine W.widen (k := 7) (n := 77) (Nat.le_of_ble_eq_true rfl) (Nat.le_of_ble_eq_true rfl) ?_
  refine put_fF (D := D) (ci := 1) (v := .ref q18) (ty := (.array .int)) (C := RX1) (T := TX1) (N := 18) hx hb hw inAX1 tyX1 tyX1_ok nmX1 hown hK hP hD hS 0 rfl rfl 7 (by decide) (hw _ q_340) (fun _ h9 => h9) rfl hnm rfl (by decide +kernel) rfl rfl dX1_init_62 (fun H locs F20 eF20 hP hD hS => ?_)
  have hP : va_P D vwCl [(h0, .inr (1, vL 18 F20)), (q1, .inl (cI, 5, .inl uF)), (q3, .inl (cJ, 12, .inr (.inl g4))), (q6, .inl (cI, 12, .inl g7)), (q9, .inl (cI, 12, .inl g10)), (q12, .inl (cI, 12, .inl g13)), (q15, .inl (cI, 12, .inl g16)), (q18, .inl (cI, 12, .inl g19))] H := hP
  have hD : va_D A [(h0, .inr (1, vL 18 F20)), (q1, .inl (cI, 5, .inl uF)), (q3, .inl (cJ, 12, .inr (.inl g4))), (q6, .inl (cI, 12, .inl g7)), (q9, .inl (cI, 12, .inl g10)), (q12, .inl (cI, 12, .inl g13)), (q15, .inl (cI, 12, .inl g16)), (q18, .inl (cI, 12, .inl g19))] := hD
  refine lv_aload_n hx hb dX1_init_65 rfl (lv_at hl 0 rfl) ?_
  refine lv_bipush (v := 12) hx hb dX1_init_66 (by decide) ?_
  refine newA (atype := .int) (ty := .int) (N' := 12) (a0 := (12, .inl (fun _ => 0))) hx hb (hw _ q_198) rfl hK 0 rfl (by intro C; exact nofun) hP hD hS hA (fun cA => rfl) (by decide) (by decide +kernel) (Nat.le_of_ble_eq_true rfl) (Nat.le_of_ble_eq_true rfl) (Nat.le_of_ble_eq_true rfl) dX1_init_68 (fun q21 H hP hD hS => ?_)
  obtain ⟨g22, eg22⟩ : ∃ z : Nat → Int32, (fun _ => 0) = z := ⟨_, rfl⟩
  rw [eg22] at hP hD
  have hP : va_P D vwCl [(h0, .inr (1, vL 18 F20)), (q1, .inl (cI, 5, .inl uF)), (q3, .inl (cJ, 12, .inr (.inl g4))), (q6, .inl (cI, 12, .inl g7)), (q9, .inl (cI, 12, .inl g10)), (q12, .inl (cI, 12, .inl g13)), (q15, .inl (cI, 12, .inl g16)), (q18, .inl (cI, 12, .inl g19)), (q21, .inl (cI, 12, .inl g22))] H := hP
  have hD : va_D A [(h0, .inr (1, vL 18 F20)), (q1, .inl (cI, 5, .inl uF)), (q3, .inl (cJ, 12, .inr (.inl g4))), (q6, .inl (cI, 12, .inl g7)), (q9, .inl (cI, 12, .inl g10)), (q12, .inl (cI, 12, .inl g13)), (q15, .inl (cI, 12, .inl g16)), (q18, .inl (cI, 12, .inl g19)), (q21, .inl (cI, 12, .inl g22))] := hD
  refine W.widen (k := 8) (n := 89) (Nat.le_of_ble_eq_true rfl) (Nat.le_of_ble_eq_true rfl) ?_
  refine put_fF (D := D) (ci := 1) (v := .ref q21) (ty := (.array .int)) (C := RX1) (T := TX1) (N := 18) hx hb hw inAX1 tyX1 tyX1_ok nmX1 hown hK hP hD hS 0 rfl rfl 8 (by decide) (hw _ q_342) (fun _ h9 => h9) rfl hnm rfl (by decide +kernel) rfl rfl dX1_init_70 (fun H locs F23 eF23 hP hD hS => ?_)
  have hP : va_P D vwCl [(h0, .inr (1, vL 18 F23)), (q1, .inl (cI, 5, .inl uF)), (q3, .inl (cJ, 12, .inr (.inl g4))), (q6, .inl (cI, 12, .inl g7)), (q9, .inl (cI, 12, .inl g10)), (q12, .inl (cI, 12, .inl g13)), (q15, .inl (cI, 12, .inl g16)), (q18, .inl (cI, 12, .inl g19)), (q21, .inl (cI, 12, .inl g22))] H := hP
  have hD : va_D A [(h0, .inr (1, vL 18 F23)), (q1, .inl (cI, 5, .inl uF)), (q3, .inl (cJ, 12, .inr (.inl g4))), (q6, .inl (cI, 12, .inl g7)), (q9, .inl (cI, 12, .inl g10)), (q12, .inl (cI, 12, .inl g13)), (q15, .inl (cI, 12, .inl g16)), (q18, .inl (cI, 12, .inl g19)), (q21, .inl (cI, 12, .inl g22))] := hD
  refine lv_aload_n hx hb dX1_init_73 rfl (lv_at hl 0 rfl) ?_
  refine lv_bipush (v := 12) hx hb dX1_init_74 (by decide) ?_
  refine newA (atype := .int) (ty := .int) (N' := 12) (a0 := (12, .inl (fun _ => 0))) hx hb (hw _ q_198) rfl hK 0 rfl (by intro C; exact nofun) hP hD hS hA (fun cA => rfl) (by decide) (by decide +kernel) (Nat.le_of_ble_eq_true rfl) (Nat.le_of_ble_eq_true rfl) (Nat.le_of_ble_eq_true rfl) dX1_init_76 (fun q24 H hP hD hS => ?_)
  obtain ⟨g25, eg25⟩ : ∃ z : Nat → Int32, (fun _ => 0) = z := ⟨_, rfl⟩
  rw [eg25] at hP hD
  have hP : va_P D vwCl [(h0, .inr (1, vL 18 F23)), (q1, .inl (cI, 5, .inl uF)), (q3, .inl (cJ, 12, .inr (.inl g4))), (q6, .inl (cI, 12, .inl g7)), (q9, .inl (cI, 12, .inl g10)), (q12, .inl (cI, 12, .inl g13)), (q15, .inl (cI, 12, .inl g16)), (q18, .inl (cI, 12, .inl g19)), (q21, .inl (cI, 12, .inl g22)), (q24, .inl (cI, 12, .inl g25))] H := hP
  have hD : va_D A [(h0, .inr (1, vL 18 F23)), (q1, .inl (cI, 5, .inl uF)), (q3, .inl (cJ, 12, .inr (.inl g4))), (q6, .inl (cI, 12, .inl g7)), (q9, .inl (cI, 12, .inl g10)), (q12, .inl (cI, 12, .inl g13)), (q15, .inl (cI, 12, .inl g16)), (q18, .inl (cI, 12, .inl g19)), (q21, .inl (cI, 12, .inl g22)), (q24, .inl (cI, 12, .inl g25))] := hD
  refine W.widen (k := 9) (n := 101) (Nat.le_of_ble_eq_true rfl) (Nat.le_of_ble_eq_true rfl) ?_
  refine put_fF (D := D) (ci := 1) (v := .ref q24) (ty := (.array .int)) (C := RX1) (T := TX1) (N := 18) hx hb hw inAX1 tyX1 tyX1_ok nmX1 hown hK hP hD hS 0 rfl rfl 9 (by decide) (hw _ q_345) (fun _ h9 => h9) rfl hnm rfl (by decide +kernel) rfl rfl dX1_init_78 (fun H locs F26 eF26 hP hD hS => ?_)
  have hP : va_P D vwCl [(h0, .inr (1, vL 18 F26)), (q1, .inl (cI, 5, .inl uF)), (q3, .inl (cJ, 12, .inr (.inl g4))), (q6, .inl (cI, 12, .inl g7)), (q9, .inl (cI, 12, .inl g10)), (q12, .inl (cI, 12, .inl g13)), (q15, .inl (cI, 12, .inl g16)), (q18, .inl (cI, 12, .inl g19)), (q21, .inl (cI, 12, .inl g22)), (q24, .inl (cI, 12, .inl g25))] H := hP
  have hD : va_D A [(h0, .inr (1, vL 18 F26)), (q1, .inl (cI, 5, .inl uF)), (q3, .inl (cJ, 12, .inr (.inl g4))), (q6, .inl (cI, 12, .inl g7)), (q9, .inl (cI, 12, .inl g10)), (q12, .inl (cI, 12, .inl g13)), (q15, .inl (cI, 12, .inl g16)), (q18, .inl (cI, 12, .inl g19)), (q21, .inl (cI, 12, .inl g22)), (q24, .inl (cI, 12, .inl g25))] := hD
  refine lv_aload_n hx hb dX1_init_81 rfl (lv_at hl 0 rfl) ?_
  refine lv_bipush (v := 6) hx hb dX1_init_82 (by decide) ?_
  refine newA (atype := .long) (ty := .long) (N' := 6) (a0 := (6, .inr <| .inl (fun _ => 0))) hx hb (hw _ q_138) rfl hK 1 rfl (by intro C; exact nofun) hP hD hS hA (fun cA => rfl) (by decide) (by decide +kernel) (Nat.le_of_ble_eq_true rfl) (Nat.le_of_ble_eq_true rfl) (Nat.le_of_ble_eq_true rfl) dX1_init_84 (fun q27 H hP hD hS => ?_)
  obtain ⟨g28, eg28⟩ : ∃ z : Nat → Int64, (fun _ => 0) = z := ⟨_, rfl⟩
  rw [eg28] at hP hD
  have hP : va_P D vwCl [(h0, .inr (1, vL 18 F26)), (q1, .inl (cI, 5, .inl uF)), (q3, .inl (cJ, 12, .inr (.inl g4))), (q6, .inl (cI, 12, .inl g7)), (q9, .inl (cI, 12, .inl g10)), (q12, .inl (cI, 12, .inl g13)), (q15, .inl (cI, 12, .inl g16)), (q18, .inl (cI, 12, .inl g19)), (q21, .inl (cI, 12, .inl g22)), (q24, .inl (cI, 12, .inl g25)), (q27, .inl (cJ, 6, .inr (.inl g28)))] H := hP
  have hD : va_D A [(h0, .inr (1, vL 18 F26)), (q1, .inl (cI, 5, .inl uF)), (q3, .inl (cJ, 12, .inr (.inl g4))), (q6, .inl (cI, 12, .inl g7)), (q9, .inl (cI, 12, .inl g10)), (q12, .inl (cI, 12, .inl g13)), (q15, .inl (cI, 12, .inl g16)), (q18, .inl (cI, 12, .inl g19)), (q21, .inl (cI, 12, .inl g22)), (q24, .inl (cI, 12, .inl g25)), (q27, .inl (cJ, 6, .inr (.inl g28)))] := hD
  refine W.widen (k := 10) (n := 107) (Nat.le_of_ble_eq_true rfl) (Nat.le_of_ble_eq_true rfl) ?_
  refine put_fF (D := D) (ci := 1) (v := .ref q27) (ty := (.array .long)) (C := RX1) (T := TX1) (N := 18) hx hb hw inAX1 tyX1 tyX1_ok nmX1 hown hK hP hD hS 0 rfl rfl 10 (by decide) (hw _ q_347) (fun _ h9 => h9) rfl hnm rfl (by decide +kernel) rfl rfl dX1_init_86 (fun H locs F29 eF29 hP hD hS => ?_)
  have hP : va_P D vwCl [(h0, .inr (1, vL 18 F29)), (q1, .inl (cI, 5, .inl uF)), (q3, .inl (cJ, 12, .inr (.inl g4))), (q6, .inl (cI, 12, .inl g7)), (q9, .inl (cI, 12, .inl g10)), (q12, .inl (cI, 12, .inl g13)), (q15, .inl (cI, 12, .inl g16)), (q18, .inl (cI, 12, .inl g19)), (q21, .inl (cI, 12, .inl g22)), (q24, .inl (cI, 12, .inl g25)), (q27, .inl (cJ, 6, .inr (.inl g28)))] H := hP
  have hD : va_D A [(h0, .inr (1, vL 18 F29)), (q1, .inl (cI, 5, .inl uF)), (q3, .inl (cJ, 12, .inr (.inl g4))), (q6, .inl (cI, 12, .inl g7)), (q9, .inl (cI, 12, .inl g10)), (q12, .inl (cI, 12, .inl g13)), (q15, .inl (cI, 12, .inl g16)), (q18, .inl (cI, 12, .inl g19)), (q21, .inl (cI, 12, .inl g22)), (q24, .inl (cI, 12, .inl g25)), (q27, .inl (cJ, 6, .inr (.inl g28)))] := hD
  refine lv_aload_n hx hb dX1_init_89 rfl (lv_at hl 0 rfl) ?_
  refine lv_bipush (v := 6) hx hb dX1_init_90 (by decide) ?_
  refine newA (atype := .int) (ty := .int) (N' := 6) (a0 := (6, .inl (fun _ => 0))) hx hb (hw _ q_198) rfl hK 0 rfl (by intro C; exact nofun) hP hD hS hA (fun cA => rfl) (by decide) (by decide +kernel) (Nat.le_of_ble_eq_true rfl) (Nat.le_of_ble_eq_true rfl) (Nat.le_of_ble_eq_true rfl) dX1_init_92 (fun q30 H hP hD hS => ?_)
  obtain ⟨g31, eg31⟩ : ∃ z : Nat → Int32, (fun _ => 0) = z := ⟨_, rfl⟩
  rw [eg31] at hP hD
  have hP : va_P D vwCl [(h0, .inr (1, vL 18 F29)), (q1, .inl (cI, 5, .inl uF)), (q3, .inl (cJ, 12, .inr (.inl g4))), (q6, .inl (cI, 12, .inl g7)), (q9, .inl (cI, 12, .inl g10)), (q12, .inl (cI, 12, .inl g13)), (q15, .inl (cI, 12, .inl g16)), (q18, .inl (cI, 12, .inl g19)), (q21, .inl (cI, 12, .inl g22)), (q24, .inl (cI, 12, .inl g25)), (q27, .inl (cJ, 6, .inr (.inl g28))), (q30, .inl (cI, 6, .inl g31))] H := hP
  have hD : va_D A [(h0, .inr (1, vL 18 F29)), (q1, .inl (cI, 5, .inl uF)), (q3, .inl (cJ, 12, .inr (.inl g4))), (q6, .inl (cI, 12, .inl g7)), (q9, .inl (cI, 12, .inl g10)), (q12, .inl (cI, 12, .inl g13)), (q15, .inl (cI, 12, .inl g16)), (q18, .inl (cI, 12, .inl g19)), (q21, .inl (cI, 12, .inl g22)), (q24, .inl (cI, 12, .inl g25)), (q27, .inl (cJ, 6, .inr (.inl g28))), (q30, .inl (cI, 6, .inl g31))] := hD
  refine W.widen (k := 11) (n := 113) (Nat.le_of_ble_eq_true rfl) (Nat.le_of_ble_eq_true rfl) ?_
  refine put_fF (D := D) (ci := 1) (v := .ref q30) (ty := (.array .int)) (C := RX1) (T := TX1) (N := 18) hx hb hw inAX1 tyX1 tyX1_ok nmX1 hown hK hP hD hS 0 rfl rfl 11 (by decide) (hw _ q_348) (fun _ h9 => h9) rfl hnm rfl (by decide +kernel) rfl rfl dX1_init_94 (fun H locs F32 eF32 hP hD hS => ?_)
  have hP : va_P D vwCl [(h0, .inr (1, vL 18 F32)), (q1, .inl (cI, 5, .inl uF)), (q3, .inl (cJ, 12, .inr (.inl g4))), (q6, .inl (cI, 12, .inl g7)), (q9, .inl (cI, 12, .inl g10)), (q12, .inl (cI, 12, .inl g13)), (q15, .inl (cI, 12, .inl g16)), (q18, .inl (cI, 12, .inl g19)), (q21, .inl (cI, 12, .inl g22)), (q24, .inl (cI, 12, .inl g25)), (q27, .inl (cJ, 6, .inr (.inl g28))), (q30, .inl (cI, 6, .inl g31))] H := hP
  have hD : va_D A [(h0, .inr (1, vL 18 F32)), (q1, .inl (cI, 5, .inl uF)), (q3, .inl (cJ, 12, .inr (.inl g4))), (q6, .inl (cI, 12, .inl g7)), (q9, .inl (cI, 12, .inl g10)), (q12, .inl (cI, 12, .inl g13)), (q15, .inl (cI, 12, .inl g16)), (q18, .inl (cI, 12, .inl g19)), (q21, .inl (cI, 12, .inl g22)), (q24, .inl (cI, 12, .inl g25)), (q27, .inl (cJ, 6, .inr (.inl g28))), (q30, .inl (cI, 6, .inl g31))] := hD
  refine lv_aload_n hx hb dX1_init_97 rfl (lv_at hl 0 rfl) ?_
  refine lv_bipush (v := 6) hx hb dX1_init_98 (by decide) ?_
  refine newA (atype := .int) (ty := .int) (N' := 6) (a0 := (6, .inl (fun _ => 0))) hx hb (hw _ q_198) rfl hK 0 rfl (by intro C; exact nofun) hP hD hS hA (fun cA => rfl) (by decide) (by decide +kernel) (Nat.le_of_ble_eq_true rfl) (Nat.le_of_ble_eq_true rfl) (Nat.le_of_ble_eq_true rfl) dX1_init_100 (fun q33 H hP hD hS => ?_)
  obtain ⟨g34, eg34⟩ : ∃ z : Nat → Int32, (fun _ => 0) = z := ⟨_, rfl⟩
  rw [eg34] at hP hD
  have hP : va_P D vwCl [(h0, .inr (1, vL 18 F32)), (q1, .inl (cI, 5, .inl uF)), (q3, .inl (cJ, 12, .inr (.inl g4))), (q6, .inl (cI, 12, .inl g7)), (q9, .inl (cI, 12, .inl g10)), (q12, .inl (cI, 12, .inl g13)), (q15, .inl (cI, 12, .inl g16)), (q18, .inl (cI, 12, .inl g19)), (q21, .inl (cI, 12, .inl g22)), (q24, .inl (cI, 12, .inl g25)), (q27, .inl (cJ, 6, .inr (.inl g28))), (q30, .inl (cI, 6, .inl g31)), (q33, .inl (cI, 6, .inl g34))] H := hP
  have hD : va_D A [(h0, .inr (1, vL 18 F32)), (q1, .inl (cI, 5, .inl uF)), (q3, .inl (cJ, 12, .inr (.inl g4))), (q6, .inl (cI, 12, .inl g7)), (q9, .inl (cI, 12, .inl g10)), (q12, .inl (cI, 12, .inl g13)), (q15, .inl (cI, 12, .inl g16)), (q18, .inl (cI, 12, .inl g19)), (q21, .inl (cI, 12, .inl g22)), (q24, .inl (cI, 12, .inl g25)), (q27, .inl (cJ, 6, .inr (.inl g28))), (q30, .inl (cI, 6, .inl g31)), (q33, .inl (cI, 6, .inl g34))] := hD
  refine W.widen (k := 12) (n := 119) (Nat.le_of_ble_eq_true rfl) (Nat.le_of_ble_eq_true rfl) ?_
  refine put_fF (D := D) (ci := 1) (v := .ref q33) (ty := (.array .int)) (C := RX1) (T := TX1) (N := 18) hx hb hw inAX1 tyX1 tyX1_ok nmX1 hown hK hP hD hS 0 rfl rfl 12 (by decide) (hw _ q_350) (fun _ h9 => h9) rfl hnm rfl (by decide +kernel) rfl rfl dX1_init_102 (fun H locs F35 eF35 hP hD hS => ?_)
  have hP : va_P D vwCl [(h0, .inr (1, vL 18 F35)), (q1, .inl (cI, 5, .inl uF)), (q3, .inl (cJ, 12, .inr (.inl g4))), (q6, .inl (cI, 12, .inl g7)), (q9, .inl (cI, 12, .inl g10)), (q12, .inl (cI, 12, .inl g13)), (q15, .inl (cI, 12, .inl g16)), (q18, .inl (cI, 12, .inl g19)), (q21, .inl (cI, 12, .inl g22)), (q24, .inl (cI, 12, .inl g25)), (q27, .inl (cJ, 6, .inr (.inl g28))), (q30, .inl (cI, 6, .inl g31)), (q33, .inl (cI, 6, .inl g34))] H := hP
  have hD : va_D A [(h0, .inr (1, vL 18 F35)), (q1, .inl (cI, 5, .inl uF)), (q3, .inl (cJ, 12, .inr (.inl g4))), (q6, .inl (cI, 12, .inl g7)), (q9, .inl (cI, 12, .inl g10)), (q12, .inl (cI, 12, .inl g13)), (q15, .inl (cI, 12, .inl g16)), (q18, .inl (cI, 12, .inl g19)), (q21, .inl (cI, 12, .inl g22)), (q24, .inl (cI, 12, .inl g25)), (q27, .inl (cJ, 6, .inr (.inl g28))), (q30, .inl (cI, 6, .inl g31)), (q33, .inl (cI, 6, .inl g34))] := hD
  refine lv_aload_n hx hb dX1_init_105 rfl (lv_at hl 0 rfl) ?_
  refine lv_iconst (v := 0) hx hb dX1_init_106 (by decide) ?_
  refine put_f (D := D) (ci := 1) (v := .int 0) (ty := .int) (C := RX1) (T := TX1) (N := 18) hx hb hw inAX1 tyX1 tyX1_ok nmX1 hown hK hP hD hS 0 rfl rfl 13 (by decide) (hw _ q_352) (fun _ h9 => h9) rfl (by decide +kernel) rfl rfl dX1_init_107 (fun H locs F36 eF36 hP hD hS => ?_)
  have hP : va_P D vwCl [(h0, .inr (1, vL 18 F36)), (q1, .inl (cI, 5, .inl uF)), (q3, .inl (cJ, 12, .inr (.inl g4))), (q6, .inl (cI, 12, .inl g7)), (q9, .inl (cI, 12, .inl g10)), (q12, .inl (cI, 12, .inl g13)), (q15, .inl (cI, 12, .inl g16)), (q18, .inl (cI, 12, .inl g19)), (q21, .inl (cI, 12, .inl g22)), (q24, .inl (cI, 12, .inl g25)), (q27, .inl (cJ, 6, .inr (.inl g28))), (q30, .inl (cI, 6, .inl g31)), (q33, .inl (cI, 6, .inl g34))] H := hP
  have hD : va_D A [(h0, .inr (1, vL 18 F36)), (q1, .inl (cI, 5, .inl uF)), (q3, .inl (cJ, 12, .inr (.inl g4))), (q6, .inl (cI, 12, .inl g7)), (q9, .inl (cI, 12, .inl g10)), (q12, .inl (cI, 12, .inl g13)), (q15, .inl (cI, 12, .inl g16)), (q18, .inl (cI, 12, .inl g19)), (q21, .inl (cI, 12, .inl g22)), (q24, .inl (cI, 12, .inl g25)), (q27, .inl (cJ, 6, .inr (.inl g28))), (q30, .inl (cI, 6, .inl g31)), (q33, .inl (cI, 6, .inl g34))] := hD
  refine lv_aload_n hx hb dX1_init_110 rfl (lv_at hl 0 rfl) ?_
  refine lv_iconst (v := 0) hx hb dX1_init_111 (by decide) ?_
  refine put_f (D := D) (ci := 1) (v := .int 0) (ty := .int) (C := RX1) (T := TX1) (N := 18) hx hb hw inAX1 tyX1 tyX1_ok nmX1 hown hK hP hD hS 0 rfl rfl 14 (by decide) (hw _ q_354) (fun _ h9 => h9) rfl (by decide +kernel) rfl rfl dX1_init_112 (fun H locs F37 eF37 hP hD hS => ?_)
  have hP : va_P D vwCl [(h0, .inr (1, vL 18 F37)), (q1, .inl (cI, 5, .inl uF)), (q3, .inl (cJ, 12, .inr (.inl g4))), (q6, .inl (cI, 12, .inl g7)), (q9, .inl (cI, 12, .inl g10)), (q12, .inl (cI, 12, .inl g13)), (q15, .inl (cI, 12, .inl g16)), (q18, .inl (cI, 12, .inl g19)), (q21, .inl (cI, 12, .inl g22)), (q24, .inl (cI, 12, .inl g25)), (q27, .inl (cJ, 6, .inr (.inl g28))), (q30, .inl (cI, 6, .inl g31)), (q33, .inl (cI, 6, .inl g34))] H := hP
  have hD : va_D A [(h0, .inr (1, vL 18 F37)), (q1, .inl (cI, 5, .inl uF)), (q3, .inl (cJ, 12, .inr (.inl g4))), (q6, .inl (cI, 12, .inl g7)), (q9, .inl (cI, 12, .inl g10)), (q12, .inl (cI, 12, .inl g13)), (q15, .inl (cI, 12, .inl g16)), (q18, .inl (cI, 12, .inl g19)), (q21, .inl (cI, 12, .inl g22)), (q24, .inl (cI, 12, .inl g25)), (q27, .inl (cJ, 6, .inr (.inl g28))), (q30, .inl (cI, 6, .inl g31)), (q33, .inl (cI, 6, .inl g34))] := hD
  refine lv_aload_n hx hb dX1_init_115 rfl (lv_at hl 0 rfl) ?_
  refine lv_iconst (v := 0) hx hb dX1_init_116 (by decide) ?_
  refine put_f (D := D) (ci := 1) (v := .int 0) (ty := .int) (C := RX1) (T := TX1) (N := 18) hx hb hw inAX1 tyX1 tyX1_ok nmX1 hown hK hP hD hS 0 rfl rfl 15 (by decide) (hw _ q_359) (fun _ h9 => h9) rfl (by decide +kernel) rfl rfl dX1_init_117 (fun H locs F38 eF38 hP hD hS => ?_)
  have hP : va_P D vwCl [(h0, .inr (1, vL 18 F38)), (q1, .inl (cI, 5, .inl uF)), (q3, .inl (cJ, 12, .inr (.inl g4))), (q6, .inl (cI, 12, .inl g7)), (q9, .inl (cI, 12, .inl g10)), (q12, .inl (cI, 12, .inl g13)), (q15, .inl (cI, 12, .inl g16)), (q18, .inl (cI, 12, .inl g19)), (q21, .inl (cI, 12, .inl g22)), (q24, .inl (cI, 12, .inl g25)), (q27, .inl (cJ, 6, .inr (.inl g28))), (q30, .inl (cI, 6, .inl g31)), (q33, .inl (cI, 6, .inl g34))] H := hP
  have hD : va_D A [(h0, .inr (1, vL 18 F38)), (q1, .inl (cI, 5, .inl uF)), (q3, .inl (cJ, 12, .inr (.inl g4))), (q6, .inl (cI, 12, .inl g7)), (q9, .inl (cI, 12, .inl g10)), (q12, .inl (cI, 12, .inl g13)), (q15, .inl (cI, 12, .inl g16)), (q18, .inl (cI, 12, .inl g19)), (q21, .inl (cI, 12, .inl g22)), (q24, .inl (cI, 12, .inl g25)), (q27, .inl (cJ, 6, .inr (.inl g28))), (q30, .inl (cI, 6, .inl g31)), (q33, .inl (cI, 6, .inl g34))] := hD
  refine lv_aload_n hx hb dX1_init_120 rfl (lv_at hl 0 rfl) ?_
  refine lv_iconst (v := 0) hx hb dX1_init_121 (by decide) ?_
  refine put_f (D := D) (ci := 1) (v := .int 0) (ty := .int) (C := RX1) (T := TX1) (N := 18) hx hb hw inAX1 tyX1 tyX1_ok nmX1 hown hK hP hD hS 0 rfl rfl 16 (by decide) (hw _ q_362) (fun _ h9 => h9) rfl (by decide +kernel) rfl rfl dX1_init_122 (fun H locs F39 eF39 hP hD hS => ?_)
  have hP : va_P D vwCl [(h0, .inr (1, vL 18 F39)), (q1, .inl (cI, 5, .inl uF)), (q3, .inl (cJ, 12, .inr (.inl g4))), (q6, .inl (cI, 12, .inl g7)), (q9, .inl (cI, 12, .inl g10)), (q12, .inl (cI, 12, .inl g13)), (q15, .inl (cI, 12, .inl g16)), (q18, .inl (cI, 12, .inl g19)), (q21, .inl (cI, 12, .inl g22)), (q24, .inl (cI, 12, .inl g25)), (q27, .inl (cJ, 6, .inr (.inl g28))), (q30, .inl (cI, 6, .inl g31)), (q33, .inl (cI, 6, .inl g34))] H := hP
  have hD : va_D A [(h0, .inr (1, vL 18 F39)), (q1, .inl (cI, 5, .inl uF)), (q3, .inl (cJ, 12, .inr (.inl g4))), (q6, .inl (cI, 12, .inl g7)), (q9, .inl (cI, 12, .inl g10)), (q12, .inl (cI, 12, .inl g13)), (q15, .inl (cI, 12, .inl g16)), (q18, .inl (cI, 12, .inl g19)), (q21, .inl (cI, 12, .inl g22)), (q24, .inl (cI, 12, .inl g25)), (q27, .inl (cJ, 6, .inr (.inl g28))), (q30, .inl (cI, 6, .inl g31)), (q33, .inl (cI, 6, .inl g34))] := hD
  refine lv_aload_n hx hb dX1_init_125 rfl (lv_at hl 0 rfl) ?_
  refine lv_iconst (v := 0) hx hb dX1_init_126 (by decide) ?_
  refine put_f (D := D) (ci := 1) (v := .int 0) (ty := .int) (C := RX1) (T := TX1) (N := 18) hx hb hw inAX1 tyX1 tyX1_ok nmX1 hown hK hP hD hS 0 rfl rfl 17 (by decide) (hw _ q_364) (fun _ h9 => h9) rfl (by decide +kernel) rfl rfl dX1_init_127 (fun H locs F40 eF40 hP hD hS => ?_)
  have hP : va_P D vwCl [(h0, .inr (1, vL 18 F40)), (q1, .inl (cI, 5, .inl uF)), (q3, .inl (cJ, 12, .inr (.inl g4))), (q6, .inl (cI, 12, .inl g7)), (q9, .inl (cI, 12, .inl g10)), (q12, .inl (cI, 12, .inl g13)), (q15, .inl (cI, 12, .inl g16)), (q18, .inl (cI, 12, .inl g19)), (q21, .inl (cI, 12, .inl g22)), (q24, .inl (cI, 12, .inl g25)), (q27, .inl (cJ, 6, .inr (.inl g28))), (q30, .inl (cI, 6, .inl g31)), (q33, .inl (cI, 6, .inl g34))] H := hP
  have hD : va_D A [(h0, .inr (1, vL 18 F40)), (q1, .inl (cI, 5, .inl uF)), (q3, .inl (cJ, 12, .inr (.inl g4))), (q6, .inl (cI, 12, .inl g7)), (q9, .inl (cI, 12, .inl g10)), (q12, .inl (cI, 12, .inl g13)), (q15, .inl (cI, 12, .inl g16)), (q18, .inl (cI, 12, .inl g19)), (q21, .inl (cI, 12, .inl g22)), (q24, .inl (cI, 12, .inl g25)), (q27, .inl (cJ, 6, .inr (.inl g28))), (q30, .inl (cI, 6, .inl g31)), (q33, .inl (cI, 6, .inl g34))] := hD
  refine lv_aload_n hx hb dX1_init_130 rfl (lv_at hl 0 rfl) ?_
  refine lv_iload_n hx hb dX1_init_131 rfl (lv_at hl 1 rfl) ?_
  refine put_fF (D := D) (ci := 1) (v := .int p0) (ty := .int) (C := RX1) (T := TX1) (N := 18) hx hb hw inAX1 tyX1 tyX1_ok nmX1 hown hK hP hD hS 0 rfl rfl 0 (by decide) (hw _ q_313) (fun _ h9 => h9) rfl hnm rfl (by decide +kernel) rfl rfl dX1_init_132 (fun H locs F41 eF41 hP hD hS => ?_)
  have hP : va_P D vwCl [(h0, .inr (1, vL 18 F41)), (q1, .inl (cI, 5, .inl uF)), (q3, .inl (cJ, 12, .inr (.inl g4))), (q6, .inl (cI, 12, .inl g7)), (q9, .inl (cI, 12, .inl g10)), (q12, .inl (cI, 12, .inl g13)), (q15, .inl (cI, 12, .inl g16)), (q18, .inl (cI, 12, .inl g19)), (q21, .inl (cI, 12, .inl g22)), (q24, .inl (cI, 12, .inl g25)), (q27, .inl (cJ, 6, .inr (.inl g28))), (q30, .inl (cI, 6, .inl g31)), (q33, .inl (cI, 6, .inl g34))] H := hP
  have hD : va_D A [(h0, .inr (1, vL 18 F41)), (q1, .inl (cI, 5, .inl uF)), (q3, .inl (cJ, 12, .inr (.inl g4))), (q6, .inl (cI, 12, .inl g7)), (q9, .inl (cI, 12, .inl g10)), (q12, .inl (cI, 12, .inl g13)), (q15, .inl (cI, 12, .inl g16)), (q18, .inl (cI, 12, .inl g19)), (q21, .inl (cI, 12, .inl g22)), (q24, .inl (cI, 12, .inl g25)), (q27, .inl (cJ, 6, .inr (.inl g28))), (q30, .inl (cI, 6, .inl g31)), (q33, .inl (cI, 6, .inl g34))] := hD
  exact ret_v hx hb hr hlocks hS hP hD dX1_init_135 (Nat.le_of_ble_eq_true rfl) (Nat.le_of_ble_eq_true rfl) ⟨F41, q1, q3, q6, q9, q12, q15, q18, q21, q24, q27, q30, q33, uF, g4, g7, g10, g13, g16, g19, g22, g25, g28, g31, g34, (SAME.up eF41 (SAME.up eF40 (SAME.up eF39 (SAME.up eF38 (SAME.up eF37 (SAME.up eF36 (SAME.up eF35 (SAME.up eF32 (SAME.up eF29 (SAME.up eF26 (SAME.up eF23 (SAME.up eF20 (SAME.up eF17 (SAME.up eF14 (SAME.up eF11 (SAME.up eF8 (SAME.up eF5 (SAME.up eF2 SAME.rf (by decide)) (by decide)) (by decide)) (by decide)) (by decide)) (by decide)) (by decide)) (by decide)) (by decide)) (by decide)) (by decide)) (by decide)) (by decide)) (by decide)) (by decide)) (by decide)) (by decide)) (by decide)), (get_eq eF41), (get_ne eF41 (by decide) (get_ne eF40 (by decide) (get_ne eF39 (by decide) (get_ne eF38 (by decide) (get_ne eF37 (by decide) (get_ne eF36 (by decide) (get_ne eF35 (by decide) (get_ne eF32 (by decide) (get_ne eF29 (by decide) (get_ne eF26 (by decide) (get_ne eF23 (by decide) (get_ne eF20 (by decide) (get_ne eF17 (by decide) (get_ne eF14 (by decide) (get_ne eF11 (by decide) (get_ne eF8 (by decide) (get_ne eF5 (by decide) (get_eq eF2)))))))))))))))))), (get_ne eF41 (by decide) (get_ne eF40 (by decide) (get_ne eF39 (by decide) (get_ne eF38 (by decide) (get_ne eF37 (by decide) (get_ne eF36 (by decide) (get_ne eF35 (by decide) (get_ne eF32 (by decide) (get_ne eF29 (by decide) (get_ne eF26 (by decide) (get_ne eF23 (by decide) (get_ne eF20 (by decide) (get_ne eF17 (by decide) (get_ne eF14 (by decide) (get_ne eF11 (by decide) (get_ne eF8 (by decide) (get_eq eF5))))))))))))))))), (get_ne eF41 (by decide) (get_ne eF40 (by decide) (get_ne eF39 (by decide) (get_ne eF38 (by decide) (get_ne eF37 (by decide) (get_ne eF36 (by decide) (get_ne eF35 (by decide) (get_ne eF32 (by decide) (get_ne eF29 (by decide) (get_ne eF26 (by decide) (get_ne eF23 (by decide) (get_ne eF20 (by decide) (get_ne eF17 (by decide) (get_ne eF14 (by decide) (get_ne eF11 (by decide) (get_eq eF8)))))))))))))))), (get_ne eF41 (by decide) (get_ne eF40 (by decide) (get_ne eF39 (by decide) (get_ne eF38 (by decide) (get_ne eF37 (by decide) (get_ne eF36 (by decide) (get_ne eF35 (by decide) (get_ne eF32 (by decide) (get_ne eF29 (by decide) (get_ne eF26 (by decide) (get_ne eF23 (by decide) (get_ne eF20 (by decide) (get_ne eF17 (by decide) (get_ne eF14 (by decide) (get_eq eF11))))))))))))))), (get_ne eF41 (by decide) (get_ne eF40 (by decide) (get_ne eF39 (by decide) (get_ne eF38 (by decide) (get_ne eF37 (by decide) (get_ne eF36 (by decide) (get_ne eF35 (by decide) (get_ne eF32 (by decide) (get_ne eF29 (by decide) (get_ne eF26 (by decide) (get_ne eF23 (by decide) (get_ne eF20 (by decide) (get_ne eF17 (by decide) (get_eq eF14)))))))))))))), (get_ne eF41 (by decide) (get_ne eF40 (by decide) (get_ne eF39 (by decide) (get_ne eF38 (by decide) (get_ne eF37 (by decide) (get_ne eF36 (by decide) (get_ne eF35 (by decide) (get_ne eF32 (by decide) (get_ne eF29 (by decide) (get_ne eF26 (by decide) (get_ne eF23 (by decide) (get_ne eF20 (by decide) (get_eq eF17))))))))))))), (get_ne eF41 (by decide) (get_ne eF40 (by decide) (get_ne eF39 (by decide) (get_ne eF38 (by decide) (get_ne eF37 (by decide) (get_ne eF36 (by decide) (get_ne eF35 (by decide) (get_ne eF32 (by decide) (get_ne eF29 (by decide) (get_ne eF26 (by decide) (get_ne eF23 (by decide) (get_eq eF20)))))))))))), (get_ne eF41 (by decide) (get_ne eF40 (by decide) (get_ne eF39 (by decide) (get_ne eF38 (by decide) (get_ne eF37 (by decide) (get_ne eF36 (by decide) (get_ne eF35 (by decide) (get_ne eF32 (by decide) (get_ne eF29 (by decide) (get_ne eF26 (by decide) (get_eq eF23))))))))))), (get_ne eF41 (by decide) (get_ne eF40 (by decide) (get_ne eF39 (by decide) (get_ne eF38 (by decide) (get_ne eF37 (by decide) (get_ne eF36 (by decide) (get_ne eF35 (by decide) (get_ne eF32 (by decide) (get_ne eF29 (by decide) (get_eq eF26)))))))))), (get_ne eF41 (by decide) (get_ne eF40 (by decide) (get_ne eF39 (by decide) (get_ne eF38 (by decide) (get_ne eF37 (by decide) (get_ne eF36 (by decide) (get_ne eF35 (by decide) (get_ne eF32 (by decide) (get_eq eF29))))))))), (get_ne eF41 (by decide) (get_ne eF40 (by decide) (get_ne eF39 (by decide) (get_ne eF38 (by decide) (get_ne eF37 (by decide) (get_ne eF36 (by decide) (get_ne eF35 (by decide) (get_eq eF32)))))))), (get_ne eF41 (by decide) (get_ne eF40 (by decide) (get_ne eF39 (by decide) (get_ne eF38 (by decide) (get_ne eF37 (by decide) (get_ne eF36 (by decide) (get_eq eF35))))))), (get_ne eF41 (by decide) (get_ne eF40 (by decide) (get_ne eF39 (by decide) (get_ne eF38 (by decide) (get_ne eF37 (by decide) (get_eq eF36)))))), (get_ne eF41 (by decide) (get_ne eF40 (by decide) (get_ne eF39 (by decide) (get_ne eF38 (by decide) (get_eq eF37))))), (get_ne eF41 (by decide) (get_ne eF40 (by decide) (get_ne eF39 (by decide) (get_eq eF38)))), (get_ne eF41 (by decide) (get_ne eF40 (by decide) (get_eq eF39))), (get_ne eF41 (by decide) (get_eq eF40)), uF_0, rfl⟩
set_option maxHeartbeats 4000000 in
set_option maxRecDepth 100000 in
theorem m_X6_isSign (l : Launch) (D : va_G) (cI cJ cB cP cM cZ : ClassId) (p0 : Int32) (sz : Nat)  : CI l yX6_isSign cX6_isSign 1 (some .boolean) { frames := 0, cells := 0, slots := 0, locals := 0 } (GG D cI cJ cB cP cM cZ) D [] sz [.int p0] (fun (r : Int32) (u : va_W) => IR 0 1 r ∧ u = []) := by
  refine CI_mk (by decide) (Nat.le_of_ble_eq_true rfl) ?_
  intro p e s m below meth c A ls E hAe hG hsz hP hD hA hS hl
  obtain ⟨hx, hb, hr, hw, hown, hlocks, hml, hnm⟩ := E
  have hK := hG.1
  have hl : lv_has ls 1 [(0, .int p0)] := hl
  refine lv_iload_n hx hb dX6_isSign_0 rfl (lv_at hl 0 rfl) ?_
  refine lv_bipush (v := 59) hx hb dX6_isSign_1 (by decide) ?_
  refine lv_icmp_eq (tgt := 36) hx hb dX6_isSign_3 (by decide) (fun c1 => ?_) (fun c1 => ?_)
  · have dc1 : p0.toInt = 59 := eq_i (a := p0.toInt) (b := 59) rfl rfl c1
    have k2 : 59 ≤ p0.toInt ∧ p0.toInt ≤ 59 := ⟨Int.le_trans (Int.le_refl _) (Int.le_of_eq dc1.symm), Int.le_trans (Int.le_of_eq dc1) (Int.le_refl _)⟩
    refine lv_iconst (v := 1) hx hb dX6_isSign_36 (by decide) ?_
    refine lv_goto (tgt := 41) hx hb dX6_isSign_37 (by decide) ?_
    exact ret_i (v := 1) hx hb hr hlocks hS hP hD dX6_isSign_41 rfl (Nat.le_of_ble_eq_true rfl) (Nat.le_of_ble_eq_true rfl) ⟨(show 0 ≤ (1 : Int32).toInt ∧ (1 : Int32).toInt ≤ 1 by decide), rfl⟩
  · have dc1 : p0.toInt ≠ 59 := ne_i (a := p0.toInt) (b := 59) rfl rfl c1
    refine lv_iload_n hx hb dX6_isSign_6 rfl (lv_at hl 0 rfl) ?_
    refine lv_bipush (v := 60) hx hb dX6_isSign_7 (by decide) ?_
    refine lv_icmp_eq (tgt := 36) hx hb dX6_isSign_9 (by decide) (fun c3 => ?_) (fun c3 => ?_)
    · have dc3 : p0.toInt = 60 := eq_i (a := p0.toInt) (b := 60) rfl rfl c3
      have k4 : 60 ≤ p0.toInt ∧ p0.toInt ≤ 60 := ⟨Int.le_trans (Int.le_refl _) (Int.le_of_eq dc3.symm), Int.le_trans (Int.le_of_eq dc3) (Int.le_refl _)⟩
      refine lv_iconst (v := 1) hx hb dX6_isSign_36 (by decide) ?_
      refine lv_goto (tgt := 41) hx hb dX6_isSign_37 (by decide) ?_
      exact ret_i (v := 1) hx hb hr hlocks hS hP hD dX6_isSign_41 rfl (Nat.le_of_ble_eq_true rfl) (Nat.le_of_ble_eq_true rfl) ⟨(show 0 ≤ (1 : Int32).toInt ∧ (1 : Int32).toInt ≤ 1 by decide), rfl⟩
    · have dc3 : p0.toInt ≠ 60 := ne_i (a := p0.toInt) (b := 60) rfl rfl c3
      refine lv_iload_n hx hb dX6_isSign_12 rfl (lv_at hl 0 rfl) ?_
      refine lv_bipush (v := 61) hx hb dX6_isSign_13 (by decide) ?_
      refine lv_icmp_eq (tgt := 36) hx hb dX6_isSign_15 (by decide) (fun c5 => ?_) (fun c5 => ?_)
      · have dc5 : p0.toInt = 61 := eq_i (a := p0.toInt) (b := 61) rfl rfl c5
        have k6 : 61 ≤ p0.toInt ∧ p0.toInt ≤ 61 := ⟨Int.le_trans (Int.le_refl _) (Int.le_of_eq dc5.symm), Int.le_trans (Int.le_of_eq dc5) (Int.le_refl _)⟩
        refine lv_iconst (v := 1) hx hb dX6_isSign_36 (by decide) ?_
        refine lv_goto (tgt := 41) hx hb dX6_isSign_37 (by decide) ?_
        exact ret_i (v := 1) hx hb hr hlocks hS hP hD dX6_isSign_41 rfl (Nat.le_of_ble_eq_true rfl) (Nat.le_of_ble_eq_true rfl) ⟨(show 0 ≤ (1 : Int32).toInt ∧ (1 : Int32).toInt ≤ 1 by decide), rfl⟩
      · have dc5 : p0.toInt ≠ 61 := ne_i (a := p0.toInt) (b := 61) rfl rfl c5
        refine lv_iload_n hx hb dX6_isSign_18 rfl (lv_at hl 0 rfl) ?_
        refine lv_bipush (v := 62) hx hb dX6_isSign_19 (by decide) ?_
        refine lv_icmp_eq (tgt := 36) hx hb dX6_isSign_21 (by decide) (fun c7 => ?_) (fun c7 => ?_)
        · have dc7 : p0.toInt = 62 := eq_i (a := p0.toInt) (b := 62) rfl rfl c7
          have k8 : 62 ≤ p0.toInt ∧ p0.toInt ≤ 62 := ⟨Int.le_trans (Int.le_refl _) (Int.le_of_eq dc7.symm), Int.le_trans (Int.le_of_eq dc7) (Int.le_refl _)⟩
          refine lv_iconst (v := 1) hx hb dX6_isSign_36 (by decide) ?_
          refine lv_goto (tgt := 41) hx hb dX6_isSign_37 (by decide) ?_
          exact ret_i (v := 1) hx hb hr hlocks hS hP hD dX6_isSign_41 rfl (Nat.le_of_ble_eq_true rfl) (Nat.le_of_ble_eq_true rfl) ⟨(show 0 ≤ (1 : Int32).toInt ∧ (1 : Int32).toInt ≤ 1 by decide), rfl⟩
        · have dc7 : p0.toInt ≠ 62 := ne_i (a := p0.toInt) (b := 62) rfl rfl c7
          refine lv_iload_n hx hb dX6_isSign_24 rfl (lv_at hl 0 rfl) ?_
          refine lv_bipush (v := 40) hx hb dX6_isSign_25 (by decide) ?_
          refine lv_icmp_eq (tgt := 36) hx hb dX6_isSign_27 (by decide) (fun c9 => ?_) (fun c9 => ?_)
          · have dc9 : p0.toInt = 40 := eq_i (a := p0.toInt) (b := 40) rfl rfl c9
            have k10 : 40 ≤ p0.toInt ∧ p0.toInt ≤ 40 := ⟨Int.le_trans (Int.le_refl _) (Int.le_of_eq dc9.symm), Int.le_trans (Int.le_of_eq dc9) (Int.le_refl _)⟩
            refine lv_iconst (v := 1) hx hb dX6_isSign_36 (by decide) ?_
            refine lv_goto (tgt := 41) hx hb dX6_isSign_37 (by decide) ?_
            exact ret_i (v := 1) hx hb hr hlocks hS hP hD dX6_isSign_41 rfl (Nat.le_of_ble_eq_true rfl) (Nat.le_of_ble_eq_true rfl) ⟨(show 0 ≤ (1 : Int32).toInt ∧ (1 : Int32).toInt ≤ 1 by decide), rfl⟩
          · have dc9 : p0.toInt ≠ 40 := ne_i (a := p0.toInt) (b := 40) rfl rfl c9
            refine lv_iload_n hx hb dX6_isSign_30 rfl (lv_at hl 0 rfl) ?_
            refine lv_bipush (v := 41) hx hb dX6_isSign_31 (by decide) ?_
            refine lv_icmp_ne (tgt := 40) hx hb dX6_isSign_33 (by decide) (fun c11 => ?_) (fun c11 => ?_)
            · have dc11 : p0.toInt ≠ 41 := ne_i (a := p0.toInt) (b := 41) rfl rfl c11
              refine lv_iconst (v := 0) hx hb dX6_isSign_40 (by decide) ?_
              exact ret_i (v := 0) hx hb hr hlocks hS hP hD dX6_isSign_41 rfl (Nat.le_of_ble_eq_true rfl) (Nat.le_of_ble_eq_true rfl) ⟨(show 0 ≤ (0 : Int32).toInt ∧ (0 : Int32).toInt ≤ 1 by decide), rfl⟩
            · have dc11 : p0.toInt = 41 := eq_i (a := p0.toInt) (b := 41) rfl rfl c11
              have k12 : 41 ≤ p0.toInt ∧ p0.toInt ≤ 41 := ⟨Int.le_trans (Int.le_refl _) (Int.le_of_eq dc11.symm), Int.le_trans (Int.le_of_eq dc11) (Int.le_refl _)⟩
              refine lv_iconst (v := 1) hx hb dX6_isSign_36 (by decide) ?_
              refine lv_goto (tgt := 41) hx hb dX6_isSign_37 (by decide) ?_
              exact ret_i (v := 1) hx hb hr hlocks hS hP hD dX6_isSign_41 rfl (Nat.le_of_ble_eq_true rfl) (Nat.le_of_ble_eq_true rfl) ⟨(show 0 ≤ (1 : Int32).toInt ∧ (1 : Int32).toInt ≤ 1 by decide), rfl⟩
set_option maxHeartbeats 4000000 in
set_option maxRecDepth 100000 in
theorem m_X6_readRow (l : Launch) (D : va_G) (cI cJ cB cP cM cZ : ClassId) (h0 : Nat) (h_bytes : Nat) (Fh : Nat → Value) (x_length : Int32) (x_at : Int32) (f_bytes : Nat → Int32) (sz : Nat) (e_bytes : Fh 0 = .ref h_bytes) (e_length : Fh 1 = .int x_length) (i_x_length : IR 0 940 x_length) (e_at : Fh 10 = .int x_at) (i_x_at : IR 0 940 x_at) : CV l yX6_readRow cX6_readRow 4 none { frames := 0, cells := 0, slots := 0, locals := 0 } (GG D cI cJ cB cP cM cZ) D [(h0, .inr (6, vL 12 Fh)), (h_bytes, .inl (cB, 940, .inl f_bytes))] sz [.ref h0] (fun (u : va_W) => ∃ (Gh : Nat → Value) (y_kind : Int32) (y_value : Int32) (y_name : Int64) (y_at : Int32), SAME [2, 4, 5, 10] Fh Gh ∧ Gh 2 = .int y_kind ∧ IR 1 3 y_kind ∧ Gh 4 = .int y_value ∧ Gh 5 = .long y_name ∧ Gh 10 = .int y_at ∧ IR 0 940 y_at ∧ u = [(h0, .inr (6, vL 12 Gh)), (h_bytes, .inl (cB, 940, .inl f_bytes))]) := by
  refine CV_mk (by decide) (Nat.le_of_ble_eq_true rfl) ?_
  intro p e s m below meth c A ls E hAe hG hsz hP hD hA hS hl
  obtain ⟨hx, hb, hr, hw, hown, hlocks, hml, hnm⟩ := E
  have hK := hG.1
  have i_x_length : 0 ≤ x_length.toInt ∧ x_length.toInt ≤ 940 := i_x_length
  have i_x_at : 0 ≤ x_at.toInt ∧ x_at.toInt ≤ 940 := i_x_at
  have hl : lv_has ls 4 [(0, .ref h0)] := hl
  refine lv_iconst (v := 0) hx hb dX6_readRow_0 (by decide) ?_
  refine lv_istore_n (lv' := [(1, .int 0), (0, .ref h0)]) hx hb dX6_readRow_1 rfl hl (by decide) rfl (fun ls hl => ?_)
  refine lv_iconst (v := 0) hx hb dX6_readRow_2 (by decide) ?_
  refine lv_istore_n (lv' := [(2, .int 0), (1, .int 0), (0, .ref h0)]) hx hb dX6_readRow_3 rfl hl (by decide) rfl (fun ls hl => ?_)
  refine lv_aload_n hx hb dX6_readRow_4 rfl (lv_at hl 2 rfl) ?_
  refine lv_iconst (v := 0) hx hb dX6_readRow_5 (by decide) ?_
  refine put_f (D := D) (ci := 6) (v := .int 0) (ty := .int) (C := RX6) (T := TX6) (N := 12) hx hb hw inAX6 tyX6 tyX6_ok nmX6 hown hK hP hD hS 0 rfl rfl 4 (by decide) (hw _ q_97) (fun _ h9 => h9) rfl (by decide +kernel) rfl rfl dX6_readRow_6 (fun H locs F1 eF1 hP hD hS => ?_)
  have hP : va_P D vwCl [(h0, .inr (6, vL 12 F1)), (h_bytes, .inl (cB, 940, .inl f_bytes))] H := hP
  have hD : va_D A [(h0, .inr (6, vL 12 F1)), (h_bytes, .inl (cB, 940, .inl f_bytes))] := hD
  refine lv_aload_n hx hb dX6_readRow_9 rfl (lv_at hl 2 rfl) ?_
  refine lv_lconst (v := 0) hx hb dX6_readRow_10 (by decide) ?_
  refine put_f (D := D) (ci := 6) (v := .long 0) (ty := .long) (C := RX6) (T := TX6) (N := 12) hx hb hw inAX6 tyX6 tyX6_ok nmX6 hown hK hP hD hS 0 rfl rfl 5 (by decide) (hw _ q_98) (fun _ h9 => h9) rfl (by decide +kernel) rfl rfl dX6_readRow_11 (fun H locs F2 eF2 hP hD hS => ?_)
  have hP : va_P D vwCl [(h0, .inr (6, vL 12 F2)), (h_bytes, .inl (cB, 940, .inl f_bytes))] H := hP
  have hD : va_D A [(h0, .inr (6, vL 12 F2)), (h_bytes, .inl (cB, 940, .inl f_bytes))] := hD
  have cut9 : ∀ (u3 : Int32) (u4 : Int32) (G5 : Nat → Value) (u6 : Int32) (u7 : Int64) (u8 : Int32) (_ : SAME [4, 5, 10] F2 G5) (_ : G5 4 = .int u6) (_ : G5 5 = .long u7) (_ : G5 10 = .int u8) (_ : IR 0 940 u8) (H : Heap) (locs : List Loc) (ls : Array Slot), va_P D vwCl [(h0, .inr (6, vL 12 G5)), (h_bytes, .inl (cB, 940, .inl f_bytes))] H → va_D A [(h0, .inr (6, vL 12 G5)), (h_bytes, .inl (cB, 940, .inl f_bytes))] → va_S A s.heap H locs → lv_has ls 4 [(2, .int u3), (1, .int u4), (0, .ref h0)] → W p l e ({ frames := 0, cells := 0, slots := 0, locals := 0 } : Room) s m [.ref h0].toArray below meth c H locs 0 0 (MQ below (va_Qv (fun (u : va_W) => ∃ (Gh : Nat → Value) (y_kind : Int32) (y_value : Int32) (y_name : Int64) (y_at : Int32), SAME [2, 4, 5, 10] Fh Gh ∧ Gh 2 = .int y_kind ∧ IR 1 3 y_kind ∧ Gh 4 = .int y_value ∧ Gh 5 = .long y_name ∧ Gh 10 = .int y_at ∧ IR 0 940 y_at ∧ u = [(h0, .inr (6, vL 12 Gh)), (h_bytes, .inl (cB, 940, .inl f_bytes))]) (PO D A) A) [.ref h0].toArray s 0 0 A) (F0 m 118 ls []) := by
    intro u3 u4 G5 u6 u7 u8 i10 i11 i12 i13 i14 H locs ls hP hD hS hl
    have i14 : 0 ≤ u8.toInt ∧ u8.toInt ≤ 940 := i14
    refine lv_aload_n hx hb dX6_readRow_118 rfl (lv_at hl 2 rfl) ?_
    refine lv_iconst (v := 1) hx hb dX6_readRow_119 (by decide) ?_
    refine put_f (D := D) (ci := 6) (v := .int 1) (ty := .int) (C := RX6) (T := TX6) (N := 12) hx hb hw inAX6 tyX6 tyX6_ok nmX6 hown hK hP hD hS 0 rfl rfl 2 (by decide) (hw _ q_92) (fun _ h9 => h9) rfl (by decide +kernel) rfl rfl dX6_readRow_120 (fun H locs F15 eF15 hP hD hS => ?_)
    have hP : va_P D vwCl [(h0, .inr (6, vL 12 F15)), (h_bytes, .inl (cB, 940, .inl f_bytes))] H := hP
    have hD : va_D A [(h0, .inr (6, vL 12 F15)), (h_bytes, .inl (cB, 940, .inl f_bytes))] := hD
    refine lv_iload_n hx hb dX6_readRow_123 rfl (lv_at hl 0 rfl) ?_
    refine lv_if_ne (tgt := 145) hx hb dX6_readRow_124 (by decide) (fun c16 => ?_) (fun c16 => ?_)
    · have dc16 : u3.toInt ≠ 0 := ne_i (a := u3.toInt) (b := 0) rfl rfl c16
      refine lv_iload_n hx hb dX6_readRow_145 rfl (lv_at hl 1 rfl) ?_
      refine lv_if_ne (tgt := 163) hx hb dX6_readRow_146 (by decide) (fun c17 => ?_) (fun c17 => ?_)
      · have dc17 : u4.toInt ≠ 0 := ne_i (a := u4.toInt) (b := 0) rfl rfl c17
        exact ret_v hx hb hr hlocks hS hP hD dX6_readRow_163 (Nat.le_of_ble_eq_true rfl) (Nat.le_of_ble_eq_true rfl) ⟨F15, 1, u6, u7, u8, (SAME.up eF15 (SAME.tr (SAME.up eF2 (SAME.up eF1 SAME.rf (by decide)) (by decide)) i10 (by decide)) (by decide)), (get_eq eF15), (show 1 ≤ (1 : Int32).toInt ∧ (1 : Int32).toInt ≤ 3 by decide), (get_ne eF15 (by decide) i11), (get_ne eF15 (by decide) i12), (get_ne eF15 (by decide) i13), i14, rfl⟩
      · have dc17 : u4.toInt = 0 := eq_i (a := u4.toInt) (b := 0) rfl rfl c17
        have k18 : 0 ≤ u4.toInt ∧ u4.toInt ≤ 0 := ⟨Int.le_trans (Int.le_refl _) (Int.le_of_eq dc17.symm), Int.le_trans (Int.le_of_eq dc17) (Int.le_refl _)⟩
        refine lv_iload_n hx hb dX6_readRow_149 rfl (lv_at hl 0 rfl) ?_
        refine lv_if_le (tgt := 163) hx hb dX6_readRow_150 (by decide) (fun c19 => ?_) (fun c19 => ?_)
        · have dc19 : u3.toInt ≤ 0 := le_i (a := u3.toInt) (b := 0) rfl rfl c19
          have k20 : (-2147483648) ≤ u3.toInt ∧ u3.toInt ≤ 0 := ⟨(ir_any _).1, Int.le_trans dc19 (Int.le_refl _)⟩
          exact ret_v hx hb hr hlocks hS hP hD dX6_readRow_163 (Nat.le_of_ble_eq_true rfl) (Nat.le_of_ble_eq_true rfl) ⟨F15, 1, u6, u7, u8, (SAME.up eF15 (SAME.tr (SAME.up eF2 (SAME.up eF1 SAME.rf (by decide)) (by decide)) i10 (by decide)) (by decide)), (get_eq eF15), (show 1 ≤ (1 : Int32).toInt ∧ (1 : Int32).toInt ≤ 3 by decide), (get_ne eF15 (by decide) i11), (get_ne eF15 (by decide) i12), (get_ne eF15 (by decide) i13), i14, rfl⟩
        · have dc19 : 0 < u3.toInt := nle_i (a := u3.toInt) (b := 0) rfl rfl c19
          have k21 : 1 ≤ u3.toInt ∧ u3.toInt ≤ 2147483647 := ⟨lo_lt dc19 (Int.le_refl _) (by decide), (ir_any _).2⟩
          refine lv_iload_n hx hb dX6_readRow_153 rfl (lv_at hl 0 rfl) ?_
          refine lv_iconst (v := 3) hx hb dX6_readRow_154 (by decide) ?_
          refine lv_icmp_gt (tgt := 163) hx hb dX6_readRow_155 (by decide) (fun c22 => ?_) (fun c22 => ?_)
          · have dc22 : 3 < u3.toInt := lt_i (a := 3) (b := u3.toInt) rfl rfl c22
            have k23 : 4 ≤ u3.toInt ∧ u3.toInt ≤ 2147483647 := ⟨lo_lt dc22 (Int.le_refl _) (by decide), k21.2⟩
            exact ret_v hx hb hr hlocks hS hP hD dX6_readRow_163 (Nat.le_of_ble_eq_true rfl) (Nat.le_of_ble_eq_true rfl) ⟨F15, 1, u6, u7, u8, (SAME.up eF15 (SAME.tr (SAME.up eF2 (SAME.up eF1 SAME.rf (by decide)) (by decide)) i10 (by decide)) (by decide)), (get_eq eF15), (show 1 ≤ (1 : Int32).toInt ∧ (1 : Int32).toInt ≤ 3 by decide), (get_ne eF15 (by decide) i11), (get_ne eF15 (by decide) i12), (get_ne eF15 (by decide) i13), i14, rfl⟩
          · have dc22 : u3.toInt ≤ 3 := nlt_i (a := 3) (b := u3.toInt) rfl rfl c22
            have k24 : 1 ≤ u3.toInt ∧ u3.toInt ≤ 3 := ⟨k21.1, Int.le_trans dc22 (Int.le_refl _)⟩
            refine lv_aload_n hx hb dX6_readRow_158 rfl (lv_at hl 2 rfl) ?_
            refine lv_iconst (v := 3) hx hb dX6_readRow_159 (by decide) ?_
            refine put_f (D := D) (ci := 6) (v := .int 3) (ty := .int) (C := RX6) (T := TX6) (N := 12) hx hb hw inAX6 tyX6 tyX6_ok nmX6 hown hK hP hD hS 0 rfl rfl 2 (by decide) (hw _ q_92) (fun _ h9 => h9) rfl (by decide +kernel) rfl rfl dX6_readRow_160 (fun H locs F25 eF25 hP hD hS => ?_)
            have hP : va_P D vwCl [(h0, .inr (6, vL 12 F25)), (h_bytes, .inl (cB, 940, .inl f_bytes))] H := hP
            have hD : va_D A [(h0, .inr (6, vL 12 F25)), (h_bytes, .inl (cB, 940, .inl f_bytes))] := hD
            exact ret_v hx hb hr hlocks hS hP hD dX6_readRow_163 (Nat.le_of_ble_eq_true rfl) (Nat.le_of_ble_eq_true rfl) ⟨F25, 3, u6, u7, u8, (SAME.up eF25 (SAME.up eF15 (SAME.tr (SAME.up eF2 (SAME.up eF1 SAME.rf (by decide)) (by decide)) i10 (by decide)) (by decide)) (by decide)), (get_eq eF25), (show 1 ≤ (3 : Int32).toInt ∧ (3 : Int32).toInt ≤ 3 by decide), (get_ne eF25 (by decide) (get_ne eF15 (by decide) i11)), (get_ne eF25 (by decide) (get_ne eF15 (by decide) i12)), (get_ne eF25 (by decide) (get_ne eF15 (by decide) i13)), i14, rfl⟩
    · have dc16 : u3.toInt = 0 := eq_i (a := u3.toInt) (b := 0) rfl rfl c16
      have k26 : 0 ≤ u3.toInt ∧ u3.toInt ≤ 0 := ⟨Int.le_trans (Int.le_refl _) (Int.le_of_eq dc16.symm), Int.le_trans (Int.le_of_eq dc16) (Int.le_refl _)⟩
      refine lv_iload_n hx hb dX6_readRow_127 rfl (lv_at hl 1 rfl) ?_
      refine lv_if_le (tgt := 145) hx hb dX6_readRow_128 (by decide) (fun c27 => ?_) (fun c27 => ?_)
      · have dc27 : u4.toInt ≤ 0 := le_i (a := u4.toInt) (b := 0) rfl rfl c27
        have k28 : (-2147483648) ≤ u4.toInt ∧ u4.toInt ≤ 0 := ⟨(ir_any _).1, Int.le_trans dc27 (Int.le_refl _)⟩
        refine lv_iload_n hx hb dX6_readRow_145 rfl (lv_at hl 1 rfl) ?_
        refine lv_if_ne (tgt := 163) hx hb dX6_readRow_146 (by decide) (fun c29 => ?_) (fun c29 => ?_)
        · have dc29 : u4.toInt ≠ 0 := ne_i (a := u4.toInt) (b := 0) rfl rfl c29
          have k30 : (-2147483648) ≤ u4.toInt ∧ u4.toInt ≤ (-1) := ⟨k28.1, ne_hi dc29 k28.2 ⟨Int.le_refl _, Int.le_refl _⟩ (by decide)⟩
          exact ret_v hx hb hr hlocks hS hP hD dX6_readRow_163 (Nat.le_of_ble_eq_true rfl) (Nat.le_of_ble_eq_true rfl) ⟨F15, 1, u6, u7, u8, (SAME.up eF15 (SAME.tr (SAME.up eF2 (SAME.up eF1 SAME.rf (by decide)) (by decide)) i10 (by decide)) (by decide)), (get_eq eF15), (show 1 ≤ (1 : Int32).toInt ∧ (1 : Int32).toInt ≤ 3 by decide), (get_ne eF15 (by decide) i11), (get_ne eF15 (by decide) i12), (get_ne eF15 (by decide) i13), i14, rfl⟩
        · have dc29 : u4.toInt = 0 := eq_i (a := u4.toInt) (b := 0) rfl rfl c29
          have k31 : 0 ≤ u4.toInt ∧ u4.toInt ≤ 0 := ⟨Int.le_trans (Int.le_refl _) (Int.le_of_eq dc29.symm), k28.2⟩
          refine lv_iload_n hx hb dX6_readRow_149 rfl (lv_at hl 0 rfl) ?_
          refine lv_if_le (tgt := 163) hx hb dX6_readRow_150 (by decide) (fun c32 => ?_) (fun c32 => False.elim (bad_lt (nle_i (a := u3.toInt) (b := 0) rfl rfl c32) (Int.le_refl _) k26.2 (by decide)))
          have dc32 : u3.toInt ≤ 0 := le_i (a := u3.toInt) (b := 0) rfl rfl c32
          exact ret_v hx hb hr hlocks hS hP hD dX6_readRow_163 (Nat.le_of_ble_eq_true rfl) (Nat.le_of_ble_eq_true rfl) ⟨F15, 1, u6, u7, u8, (SAME.up eF15 (SAME.tr (SAME.up eF2 (SAME.up eF1 SAME.rf (by decide)) (by decide)) i10 (by decide)) (by decide)), (get_eq eF15), (show 1 ≤ (1 : Int32).toInt ∧ (1 : Int32).toInt ≤ 3 by decide), (get_ne eF15 (by decide) i11), (get_ne eF15 (by decide) i12), (get_ne eF15 (by decide) i13), i14, rfl⟩
      · have dc27 : 0 < u4.toInt := nle_i (a := u4.toInt) (b := 0) rfl rfl c27
        have k33 : 1 ≤ u4.toInt ∧ u4.toInt ≤ 2147483647 := ⟨lo_lt dc27 (Int.le_refl _) (by decide), (ir_any _).2⟩
        refine lv_iload_n hx hb dX6_readRow_131 rfl (lv_at hl 1 rfl) ?_
        refine lv_bipush (v := 7) hx hb dX6_readRow_132 (by decide) ?_
        refine lv_icmp_gt (tgt := 145) hx hb dX6_readRow_134 (by decide) (fun c34 => ?_) (fun c34 => ?_)
        · have dc34 : 7 < u4.toInt := lt_i (a := 7) (b := u4.toInt) rfl rfl c34
          have k35 : 8 ≤ u4.toInt ∧ u4.toInt ≤ 2147483647 := ⟨lo_lt dc34 (Int.le_refl _) (by decide), k33.2⟩
          refine lv_iload_n hx hb dX6_readRow_145 rfl (lv_at hl 1 rfl) ?_
          refine lv_if_ne (tgt := 163) hx hb dX6_readRow_146 (by decide) (fun c36 => ?_) (fun c36 => False.elim (bad_le (Int.le_of_eq (eq_i (a := u4.toInt) (b := 0) rfl rfl c36)) k35.1 (Int.le_refl _) (by decide)))
          have dc36 : u4.toInt ≠ 0 := ne_i (a := u4.toInt) (b := 0) rfl rfl c36
          exact ret_v hx hb hr hlocks hS hP hD dX6_readRow_163 (Nat.le_of_ble_eq_true rfl) (Nat.le_of_ble_eq_true rfl) ⟨F15, 1, u6, u7, u8, (SAME.up eF15 (SAME.tr (SAME.up eF2 (SAME.up eF1 SAME.rf (by decide)) (by decide)) i10 (by decide)) (by decide)), (get_eq eF15), (show 1 ≤ (1 : Int32).toInt ∧ (1 : Int32).toInt ≤ 3 by decide), (get_ne eF15 (by decide) i11), (get_ne eF15 (by decide) i12), (get_ne eF15 (by decide) i13), i14, rfl⟩
        · have dc34 : u4.toInt ≤ 7 := nlt_i (a := 7) (b := u4.toInt) rfl rfl c34
          have k37 : 1 ≤ u4.toInt ∧ u4.toInt ≤ 7 := ⟨k33.1, Int.le_trans dc34 (Int.le_refl _)⟩
          refine lv_aload_n hx hb dX6_readRow_137 rfl (lv_at hl 2 rfl) ?_
          refine lv_iconst (v := 2) hx hb dX6_readRow_138 (by decide) ?_
          refine put_f (D := D) (ci := 6) (v := .int 2) (ty := .int) (C := RX6) (T := TX6) (N := 12) hx hb hw inAX6 tyX6 tyX6_ok nmX6 hown hK hP hD hS 0 rfl rfl 2 (by decide) (hw _ q_92) (fun _ h9 => h9) rfl (by decide +kernel) rfl rfl dX6_readRow_139 (fun H locs F38 eF38 hP hD hS => ?_)
          have hP : va_P D vwCl [(h0, .inr (6, vL 12 F38)), (h_bytes, .inl (cB, 940, .inl f_bytes))] H := hP
          have hD : va_D A [(h0, .inr (6, vL 12 F38)), (h_bytes, .inl (cB, 940, .inl f_bytes))] := hD
          refine lv_goto (tgt := 163) hx hb dX6_readRow_142 (by decide) ?_
          exact ret_v hx hb hr hlocks hS hP hD dX6_readRow_163 (Nat.le_of_ble_eq_true rfl) (Nat.le_of_ble_eq_true rfl) ⟨F38, 2, u6, u7, u8, (SAME.up eF38 (SAME.up eF15 (SAME.tr (SAME.up eF2 (SAME.up eF1 SAME.rf (by decide)) (by decide)) i10 (by decide)) (by decide)) (by decide)), (get_eq eF38), (show 1 ≤ (2 : Int32).toInt ∧ (2 : Int32).toInt ≤ 3 by decide), (get_ne eF38 (by decide) (get_ne eF15 (by decide) i11)), (get_ne eF38 (by decide) (get_ne eF15 (by decide) i12)), (get_ne eF38 (by decide) (get_ne eF15 (by decide) i13)), i14, rfl⟩
  have n39 : F2 4 = .int 0 := (get_ne eF2 (by decide) (get_eq eF1))
  have n40 : F1 10 = .int x_at := (get_ne eF1 (by decide) e_at)
  have n41 : F2 10 = .int x_at := (get_ne eF2 (by decide) n40)
  refine mloop (α := (Int32) × (Int32) × (Nat → Value) × (Int32) × (Int64) × (Int32)) (nL := 4) (D := D) (A := A) (H0 := s.heap) (fun a => (x_length.toInt - a.2.2.2.2.2.toInt).toNat) (fun a => SAME [4, 5, 10] F2 a.2.2.1 ∧ a.2.2.1 4 = .int a.2.2.2.1 ∧ a.2.2.1 5 = .long a.2.2.2.2.1 ∧ a.2.2.1 10 = .int a.2.2.2.2.2 ∧ IR 0 940 a.2.2.2.2.2) (fun a => [(h0, .inr (6, vL 12 a.2.2.1)), (h_bytes, .inl (cB, 940, .inl f_bytes))]) (fun a => [(2, .int a.1), (1, .int a.2.1), (0, .ref h0)]) (fun H locs ls => W p l e ({ frames := 0, cells := 0, slots := 0, locals := 0 } : Room) s m [.ref h0].toArray below meth c H locs 0 0 (MQ below (va_Qv (fun (u : va_W) => ∃ (Gh : Nat → Value) (y_kind : Int32) (y_value : Int32) (y_name : Int64) (y_at : Int32), SAME [2, 4, 5, 10] Fh Gh ∧ Gh 2 = .int y_kind ∧ IR 1 3 y_kind ∧ Gh 4 = .int y_value ∧ Gh 5 = .long y_name ∧ Gh 10 = .int y_at ∧ IR 0 940 y_at ∧ u = [(h0, .inr (6, vL 12 Gh)), (h_bytes, .inl (cB, 940, .inl f_bytes))]) (PO D A) A) [.ref h0].toArray s 0 0 A) (F0 m 14 ls [])) ?_ (0, 0, F2, 0, 0, x_at) ⟨SAME.rf, n39, (get_eq eF2), n41, i_x_at⟩ _ _ _ hP hD hS hl
  rintro ⟨u3, u4, G5, u6, u7, u8⟩ ⟨i42, i43, i44, i45, i46⟩ ih H locs ls hP hD hS hl
  have i46 : 0 ≤ u8.toInt ∧ u8.toInt ≤ 940 := i46
  have hP : va_P D vwCl [(h0, .inr (6, vL 12 G5)), (h_bytes, .inl (cB, 940, .inl f_bytes))] H := hP
  have hD : va_D A [(h0, .inr (6, vL 12 G5)), (h_bytes, .inl (cB, 940, .inl f_bytes))] := hD
  have hl : lv_has ls 4 [(2, .int u3), (1, .int u4), (0, .ref h0)] := hl
  refine lv_aload_n hx hb dX6_readRow_14 rfl (lv_at hl 2 rfl) ?_
  refine get_f (D := D) (ci := 6) (v := .int u8) (C := RX6) (T := TX6) (N := 12) hx hb hw inAX6 hown hK hP 0 rfl rfl 10 (by decide) (hw _ q_110) (fun _ h9 => h9) i45 dX6_readRow_15 ?_
  refine lv_aload_n hx hb dX6_readRow_18 rfl (lv_at hl 2 rfl) ?_
  have n47 : F1 1 = .int x_length := (get_ne eF1 (by decide) e_length)
  have n48 : F2 1 = .int x_length := (get_ne eF2 (by decide) n47)
  have n49 : G5 1 = .int x_length := (SAME.at i42 (by decide) n48)
  refine get_f (D := D) (ci := 6) (v := .int x_length) (C := RX6) (T := TX6) (N := 12) hx hb hw inAX6 hown hK hP 0 rfl rfl 1 (by decide) (hw _ q_90) (fun _ h9 => h9) n49 dX6_readRow_19 ?_
  refine lv_icmp_ge (tgt := 118) hx hb dX6_readRow_22 (by decide) (fun c50 => ?_) (fun c50 => ?_)
  · have dc50 : x_length.toInt ≤ u8.toInt := le_i (a := x_length.toInt) (b := u8.toInt) rfl rfl c50
    exact cut9 u3 u4 G5 u6 u7 u8 (SAME.tr SAME.rf i42 (by decide)) i43 i44 i45 i46 _ _ _ hP hD hS (lv_sub hl [0, 1, 2] rfl)
  · have dc50 : u8.toInt < x_length.toInt := nle_i (a := x_length.toInt) (b := u8.toInt) rfl rfl c50
    have k51 : 0 ≤ u8.toInt ∧ u8.toInt ≤ 939 := ⟨i46.1, up_lt dc50 i_x_length.2 (by decide)⟩
    have k52 : 1 ≤ x_length.toInt ∧ x_length.toInt ≤ 940 := ⟨lo_lt dc50 i46.1 (by decide), i_x_length.2⟩
    refine lv_aload_n hx hb dX6_readRow_25 rfl (lv_at hl 2 rfl) ?_
    have n53 : F1 0 = .ref h_bytes := (get_ne eF1 (by decide) e_bytes)
    have n54 : F2 0 = .ref h_bytes := (get_ne eF2 (by decide) n53)
    have n55 : G5 0 = .ref h_bytes := (SAME.at i42 (by decide) n54)
    refine get_f (D := D) (ci := 6) (v := .ref h_bytes) (C := RX6) (T := TX6) (N := 12) hx hb hw inAX6 hown hK hP 0 rfl rfl 0 (by decide) (hw _ q_89) (fun _ h9 => h9) n55 dX6_readRow_26 ?_
    refine lv_aload_n hx hb dX6_readRow_29 rfl (lv_at hl 2 rfl) ?_
    refine get_f (D := D) (ci := 6) (v := .int u8) (C := RX6) (T := TX6) (N := 12) hx hb hw inAX6 hown hK hP 0 rfl rfl 10 (by decide) (hw _ q_110) (fun _ h9 => h9) i45 dX6_readRow_30 ?_
    refine va_bald hx hb hK hP 1 2 rfl rfl (ix_k k51 (by decide) (by decide)) dX6_readRow_33 ?_
    refine lv_topi (fun v56 ev56 => ?_)
    refine lv_istore_n (lv' := [(3, .int v56), (2, .int u3), (1, .int u4), (0, .ref h0)]) hx hb dX6_readRow_34 rfl hl (by decide) rfl (fun ls hl => ?_)
    refine lv_iload_n hx hb dX6_readRow_35 rfl (lv_at hl 0 rfl) ?_
    refine lv_bipush (v := 97) hx hb dX6_readRow_36 (by decide) ?_
    refine lv_icmp_lt (tgt := 74) hx hb dX6_readRow_38 (by decide) (fun c57 => ?_) (fun c57 => ?_)
    · have dc57 : v56.toInt < 97 := lt_i (a := v56.toInt) (b := 97) rfl rfl c57
      have k58 : (-2147483648) ≤ v56.toInt ∧ v56.toInt ≤ 96 := ⟨(ir_any _).1, up_lt dc57 (Int.le_refl _) (by decide)⟩
      refine lv_iload_n hx hb dX6_readRow_74 rfl (lv_at hl 0 rfl) ?_
      refine lv_bipush (v := 48) hx hb dX6_readRow_75 (by decide) ?_
      refine lv_icmp_lt (tgt := 118) hx hb dX6_readRow_77 (by decide) (fun c59 => ?_) (fun c59 => ?_)
      · have dc59 : v56.toInt < 48 := lt_i (a := v56.toInt) (b := 48) rfl rfl c59
        have k60 : (-2147483648) ≤ v56.toInt ∧ v56.toInt ≤ 47 := ⟨k58.1, up_lt dc59 (Int.le_refl _) (by decide)⟩
        exact cut9 u3 u4 G5 u6 u7 u8 (SAME.tr SAME.rf i42 (by decide)) i43 i44 i45 (ir_wk k51 (by decide) (by decide)) _ _ _ hP hD hS (lv_sub hl [1, 2, 3] rfl)
      · have dc59 : 48 ≤ v56.toInt := nlt_i (a := v56.toInt) (b := 48) rfl rfl c59
        have k61 : 48 ≤ v56.toInt ∧ v56.toInt ≤ 96 := ⟨Int.le_trans (Int.le_refl _) dc59, k58.2⟩
        refine lv_iload_n hx hb dX6_readRow_80 rfl (lv_at hl 0 rfl) ?_
        refine lv_bipush (v := 57) hx hb dX6_readRow_81 (by decide) ?_
        refine lv_icmp_gt (tgt := 118) hx hb dX6_readRow_83 (by decide) (fun c62 => ?_) (fun c62 => ?_)
        · have dc62 : 57 < v56.toInt := lt_i (a := 57) (b := v56.toInt) rfl rfl c62
          have k63 : 58 ≤ v56.toInt ∧ v56.toInt ≤ 96 := ⟨lo_lt dc62 (Int.le_refl _) (by decide), k61.2⟩
          exact cut9 u3 u4 G5 u6 u7 u8 (SAME.tr SAME.rf i42 (by decide)) i43 i44 i45 (ir_wk k51 (by decide) (by decide)) _ _ _ hP hD hS (lv_sub hl [1, 2, 3] rfl)
        · have dc62 : v56.toInt ≤ 57 := nlt_i (a := 57) (b := v56.toInt) rfl rfl c62
          have k64 : 48 ≤ v56.toInt ∧ v56.toInt ≤ 57 := ⟨k61.1, Int.le_trans dc62 (Int.le_refl _)⟩
          obtain ⟨v65, ev65⟩ : ∃ z : Int32, z = u3 + 1 := ⟨_, rfl⟩
          refine lv_iinc (v := v65) (lv' := [(2, .int v65), (3, .int v56), (1, .int u4), (0, .ref h0)]) hx hb dX6_readRow_86 hl (k := 1) rfl (by rw [ev65]; rfl) (by decide) rfl (fun ls hl => ?_)
          refine lv_aload_n hx hb dX6_readRow_89 rfl (lv_at hl 3 rfl) ?_
          refine lv_aload_n hx hb dX6_readRow_90 rfl (lv_at hl 3 rfl) ?_
          refine get_f (D := D) (ci := 6) (v := .int u6) (C := RX6) (T := TX6) (N := 12) hx hb hw inAX6 hown hK hP 0 rfl rfl 4 (by decide) (hw _ q_97) (fun _ h9 => h9) i43 dX6_readRow_91 ?_
          refine lv_bipush (v := 10) hx hb dX6_readRow_94 (by decide) ?_
          refine lv_imul hx hb dX6_readRow_96 ?_
          refine lv_topi (fun v66 ev66 => ?_)
          refine lv_iload_n hx hb dX6_readRow_97 rfl (lv_at hl 1 rfl) ?_
          refine lv_iadd hx hb dX6_readRow_98 ?_
          refine lv_topi (fun v67 ev67 => ?_)
          refine lv_bipush (v := 48) hx hb dX6_readRow_99 (by decide) ?_
          refine lv_isub hx hb dX6_readRow_101 ?_
          refine lv_topi (fun v68 ev68 => ?_)
          refine put_f (D := D) (ci := 6) (v := .int v68) (ty := .int) (C := RX6) (T := TX6) (N := 12) hx hb hw inAX6 tyX6 tyX6_ok nmX6 hown hK hP hD hS 0 rfl rfl 4 (by decide) (hw _ q_97) (fun _ h9 => h9) rfl (by decide +kernel) rfl rfl dX6_readRow_102 (fun H locs F69 eF69 hP hD hS => ?_)
          have hP : va_P D vwCl [(h0, .inr (6, vL 12 F69)), (h_bytes, .inl (cB, 940, .inl f_bytes))] H := hP
          have hD : va_D A [(h0, .inr (6, vL 12 F69)), (h_bytes, .inl (cB, 940, .inl f_bytes))] := hD
          refine lv_aload_n hx hb dX6_readRow_105 rfl (lv_at hl 3 rfl) ?_
          refine lv_dup hx hb dX6_readRow_106 rfl ?_
          have n70 : F69 10 = .int u8 := (get_ne eF69 (by decide) i45)
          refine get_f (D := D) (ci := 6) (v := .int u8) (C := RX6) (T := TX6) (N := 12) hx hb hw inAX6 hown hK hP 0 rfl rfl 10 (by decide) (hw _ q_110) (fun _ h9 => h9) n70 dX6_readRow_107 ?_
          refine lv_iconst (v := 1) hx hb dX6_readRow_110 (by decide) ?_
          refine lv_iadd hx hb dX6_readRow_111 ?_
          refine lv_topi (fun v71 ev71 => ?_)
          have bv71 : v71.toInt = u8.toInt + 1 := by rw [ev71]; exact add_k rfl rfl k51 ⟨Int.le_refl _, Int.le_refl _⟩ (by decide)
          have k72 : 1 ≤ v71.toInt ∧ v71.toInt ≤ 940 := add_r bv71 k51 ⟨Int.le_refl _, Int.le_refl _⟩ (by decide)
          refine put_f (D := D) (ci := 6) (v := .int v71) (ty := .int) (C := RX6) (T := TX6) (N := 12) hx hb hw inAX6 tyX6 tyX6_ok nmX6 hown hK hP hD hS 0 rfl rfl 10 (by decide) (hw _ q_110) (fun _ h9 => h9) rfl (by decide +kernel) rfl rfl dX6_readRow_112 (fun H locs F73 eF73 hP hD hS => ?_)
          have hP : va_P D vwCl [(h0, .inr (6, vL 12 F73)), (h_bytes, .inl (cB, 940, .inl f_bytes))] H := hP
          have hD : va_D A [(h0, .inr (6, vL 12 F73)), (h_bytes, .inl (cB, 940, .inl f_bytes))] := hD
          refine lv_goto (tgt := 14) hx hb dX6_readRow_115 (by decide) ?_
          have n74 : F73 4 = .int v68 := (get_ne eF73 (by decide) (get_eq eF69))
          have n75 : F69 5 = .long u7 := (get_ne eF69 (by decide) i44)
          have n76 : F73 5 = .long u7 := (get_ne eF73 (by decide) n75)
          exact ih (v65, u4, F73, v68, u7, v71) ⟨(SAME.up eF73 (SAME.up eF69 (SAME.tr SAME.rf i42 (by decide)) (by decide)) (by decide)), n74, n76, (get_eq eF73), (ir_wk k72 (by decide) (by decide))⟩ (by show (x_length.toInt - v71.toInt).toNat < (x_length.toInt - u8.toInt).toNat; omega) _ _ _ hP hD hS (lv_sub hl [0, 2, 3] rfl)
    · have dc57 : 97 ≤ v56.toInt := nlt_i (a := v56.toInt) (b := 97) rfl rfl c57
      have k77 : 97 ≤ v56.toInt ∧ v56.toInt ≤ 2147483647 := ⟨Int.le_trans (Int.le_refl _) dc57, (ir_any _).2⟩
      refine lv_iload_n hx hb dX6_readRow_41 rfl (lv_at hl 0 rfl) ?_
      refine lv_bipush (v := 122) hx hb dX6_readRow_42 (by decide) ?_
      refine lv_icmp_gt (tgt := 74) hx hb dX6_readRow_44 (by decide) (fun c78 => ?_) (fun c78 => ?_)
      · have dc78 : 122 < v56.toInt := lt_i (a := 122) (b := v56.toInt) rfl rfl c78
        have k79 : 123 ≤ v56.toInt ∧ v56.toInt ≤ 2147483647 := ⟨lo_lt dc78 (Int.le_refl _) (by decide), k77.2⟩
        refine lv_iload_n hx hb dX6_readRow_74 rfl (lv_at hl 0 rfl) ?_
        refine lv_bipush (v := 48) hx hb dX6_readRow_75 (by decide) ?_
        refine lv_icmp_lt (tgt := 118) hx hb dX6_readRow_77 (by decide) (fun c80 => False.elim (bad_lt (lt_i (a := v56.toInt) (b := 48) rfl rfl c80) k79.1 (Int.le_refl _) (by decide))) (fun c80 => ?_)
        have dc80 : 48 ≤ v56.toInt := nlt_i (a := v56.toInt) (b := 48) rfl rfl c80
        refine lv_iload_n hx hb dX6_readRow_80 rfl (lv_at hl 0 rfl) ?_
        refine lv_bipush (v := 57) hx hb dX6_readRow_81 (by decide) ?_
        refine lv_icmp_gt (tgt := 118) hx hb dX6_readRow_83 (by decide) (fun c81 => ?_) (fun c81 => False.elim (bad_le (nlt_i (a := 57) (b := v56.toInt) rfl rfl c81) k79.1 (Int.le_refl _) (by decide)))
        have dc81 : 57 < v56.toInt := lt_i (a := 57) (b := v56.toInt) rfl rfl c81
        exact cut9 u3 u4 G5 u6 u7 u8 (SAME.tr SAME.rf i42 (by decide)) i43 i44 i45 (ir_wk k51 (by decide) (by decide)) _ _ _ hP hD hS (lv_sub hl [1, 2, 3] rfl)
      · have dc78 : v56.toInt ≤ 122 := nlt_i (a := 122) (b := v56.toInt) rfl rfl c78
        have k82 : 97 ≤ v56.toInt ∧ v56.toInt ≤ 122 := ⟨k77.1, Int.le_trans dc78 (Int.le_refl _)⟩
        obtain ⟨v83, ev83⟩ : ∃ z : Int32, z = u4 + 1 := ⟨_, rfl⟩
        refine lv_iinc (v := v83) (lv' := [(1, .int v83), (3, .int v56), (2, .int u3), (0, .ref h0)]) hx hb dX6_readRow_47 hl (k := 2) rfl (by rw [ev83]; rfl) (by decide) rfl (fun ls hl => ?_)
        refine lv_aload_n hx hb dX6_readRow_50 rfl (lv_at hl 3 rfl) ?_
        refine lv_aload_n hx hb dX6_readRow_51 rfl (lv_at hl 3 rfl) ?_
        refine get_f (D := D) (ci := 6) (v := .long u7) (C := RX6) (T := TX6) (N := 12) hx hb hw inAX6 hown hK hP 0 rfl rfl 5 (by decide) (hw _ q_98) (fun _ h9 => h9) i44 dX6_readRow_52 ?_
        refine lv_ldc2 hx hb hown (hw _ q_87) dX6_readRow_55 ?_
        refine lv_lmul hx hb dX6_readRow_58 ?_
        refine lv_topl (fun v84 ev84 => ?_)
        refine lv_iload_n hx hb dX6_readRow_59 rfl (lv_at hl 1 rfl) ?_
        obtain ⟨v85, ev85⟩ : ∃ z : Int64, (v56 : Int32).toInt64 = z := ⟨_, rfl⟩
        refine lv_i2l (v := v85) hx hb dX6_readRow_60 ev85 ?_
        refine lv_ladd hx hb dX6_readRow_61 ?_
        refine lv_topl (fun v86 ev86 => ?_)
        refine lv_ldc2 hx hb hown (hw _ q_88) dX6_readRow_62 ?_
        refine lv_lsub hx hb dX6_readRow_65 ?_
        refine lv_topl (fun v87 ev87 => ?_)
        refine lv_lconst (v := 1) hx hb dX6_readRow_66 (by decide) ?_
        refine lv_ladd hx hb dX6_readRow_67 ?_
        refine lv_topl (fun v88 ev88 => ?_)
        refine put_f (D := D) (ci := 6) (v := .long v88) (ty := .long) (C := RX6) (T := TX6) (N := 12) hx hb hw inAX6 tyX6 tyX6_ok nmX6 hown hK hP hD hS 0 rfl rfl 5 (by decide) (hw _ q_98) (fun _ h9 => h9) rfl (by decide +kernel) rfl rfl dX6_readRow_68 (fun H locs F89 eF89 hP hD hS => ?_)
        have hP : va_P D vwCl [(h0, .inr (6, vL 12 F89)), (h_bytes, .inl (cB, 940, .inl f_bytes))] H := hP
        have hD : va_D A [(h0, .inr (6, vL 12 F89)), (h_bytes, .inl (cB, 940, .inl f_bytes))] := hD
        refine lv_goto (tgt := 105) hx hb dX6_readRow_71 (by decide) ?_
        refine lv_aload_n hx hb dX6_readRow_105 rfl (lv_at hl 3 rfl) ?_
        refine lv_dup hx hb dX6_readRow_106 rfl ?_
        have n90 : F89 10 = .int u8 := (get_ne eF89 (by decide) i45)
        refine get_f (D := D) (ci := 6) (v := .int u8) (C := RX6) (T := TX6) (N := 12) hx hb hw inAX6 hown hK hP 0 rfl rfl 10 (by decide) (hw _ q_110) (fun _ h9 => h9) n90 dX6_readRow_107 ?_
        refine lv_iconst (v := 1) hx hb dX6_readRow_110 (by decide) ?_
        refine lv_iadd hx hb dX6_readRow_111 ?_
        refine lv_topi (fun v91 ev91 => ?_)
        have bv91 : v91.toInt = u8.toInt + 1 := by rw [ev91]; exact add_k rfl rfl k51 ⟨Int.le_refl _, Int.le_refl _⟩ (by decide)
        have k92 : 1 ≤ v91.toInt ∧ v91.toInt ≤ 940 := add_r bv91 k51 ⟨Int.le_refl _, Int.le_refl _⟩ (by decide)
        refine put_f (D := D) (ci := 6) (v := .int v91) (ty := .int) (C := RX6) (T := TX6) (N := 12) hx hb hw inAX6 tyX6 tyX6_ok nmX6 hown hK hP hD hS 0 rfl rfl 10 (by decide) (hw _ q_110) (fun _ h9 => h9) rfl (by decide +kernel) rfl rfl dX6_readRow_112 (fun H locs F93 eF93 hP hD hS => ?_)
        have hP : va_P D vwCl [(h0, .inr (6, vL 12 F93)), (h_bytes, .inl (cB, 940, .inl f_bytes))] H := hP
        have hD : va_D A [(h0, .inr (6, vL 12 F93)), (h_bytes, .inl (cB, 940, .inl f_bytes))] := hD
        refine lv_goto (tgt := 14) hx hb dX6_readRow_115 (by decide) ?_
        have n94 : F89 4 = .int u6 := (get_ne eF89 (by decide) i43)
        have n95 : F93 4 = .int u6 := (get_ne eF93 (by decide) n94)
        have n96 : F93 5 = .long v88 := (get_ne eF93 (by decide) (get_eq eF89))
        exact ih (u3, v83, F93, u6, v88, v91) ⟨(SAME.up eF93 (SAME.up eF89 (SAME.tr SAME.rf i42 (by decide)) (by decide)) (by decide)), n95, n96, (get_eq eF93), (ir_wk k92 (by decide) (by decide))⟩ (by show (x_length.toInt - v91.toInt).toNat < (x_length.toInt - u8.toInt).toNat; omega) _ _ _ hP hD hS (lv_sub hl [2, 0, 3] rfl)
set_option maxHeartbeats 4000000 in
set_option maxRecDepth 100000 in
theorem m_X6_wordNamed (l : Launch) (D : va_G) (cI cJ cB cP cM cZ : ClassId) (h0 : Nat) (h_wordNames : Nat) (Fh : Nat → Value) (f_wordNames : Nat → Int64) (p0 : Int64) (sz : Nat) (e_wordNames : Fh 9 = .ref h_wordNames) : CI l yX6_wordNamed cX6_wordNamed 4 (some .int) { frames := 0, cells := 0, slots := 0, locals := 0 } (GG D cI cJ cB cP cM cZ) D [(h0, .inr (6, vL 12 Fh)), (h_wordNames, .inl (cJ, 23, .inr (.inl f_wordNames)))] sz [.ref h0, .long p0] (fun (r : Int32) (u : va_W) => IR (-1) 22 r ∧ u = [(h0, .inr (6, vL 12 Fh)), (h_wordNames, .inl (cJ, 23, .inr (.inl f_wordNames)))]) := by
  refine CI_mk (by decide) (Nat.le_of_ble_eq_true rfl) ?_
  intro p e s m below meth c A ls E hAe hG hsz hP hD hA hS hl
  obtain ⟨hx, hb, hr, hw, hown, hlocks, hml, hnm⟩ := E
  have hK := hG.1
  have hl : lv_has ls 4 [(0, .ref h0), (1, .long p0)] := hl
  refine lv_iconst (v := 0) hx hb dX6_wordNamed_0 (by decide) ?_
  refine lv_istore_n (lv' := [(3, .int 0), (0, .ref h0), (1, .long p0)]) hx hb dX6_wordNamed_1 rfl hl (by decide) rfl (fun ls hl => ?_)
  refine mloop (α := (Int32)) (nL := 4) (D := D) (A := A) (H0 := s.heap) (fun a => (23 - a.toInt).toNat) (fun a => IR 0 23 a) (fun a => [(h0, .inr (6, vL 12 Fh)), (h_wordNames, .inl (cJ, 23, .inr (.inl f_wordNames)))]) (fun a => [(3, .int a), (0, .ref h0), (1, .long p0)]) (fun H locs ls => W p l e ({ frames := 0, cells := 0, slots := 0, locals := 0 } : Room) s m [.ref h0, .long p0].toArray below meth c H locs 0 0 (MQ below (va_Qi (fun (r : Int32) (u : va_W) => IR (-1) 22 r ∧ u = [(h0, .inr (6, vL 12 Fh)), (h_wordNames, .inl (cJ, 23, .inr (.inl f_wordNames)))]) (PO D A) A) [.ref h0, .long p0].toArray s 0 0 A) (F0 m 2 ls [])) ?_ (0) (show 0 ≤ (0 : Int32).toInt ∧ (0 : Int32).toInt ≤ 23 by decide) _ _ _ hP hD hS hl
  rintro u1 i2 ih H locs ls hP hD hS hl
  have i2 : 0 ≤ u1.toInt ∧ u1.toInt ≤ 23 := i2
  have hP : va_P D vwCl [(h0, .inr (6, vL 12 Fh)), (h_wordNames, .inl (cJ, 23, .inr (.inl f_wordNames)))] H := hP
  have hD : va_D A [(h0, .inr (6, vL 12 Fh)), (h_wordNames, .inl (cJ, 23, .inr (.inl f_wordNames)))] := hD
  have hl : lv_has ls 4 [(3, .int u1), (0, .ref h0), (1, .long p0)] := hl
  refine lv_iload_n hx hb dX6_wordNamed_2 rfl (lv_at hl 0 rfl) ?_
  refine lv_bipush (v := 23) hx hb dX6_wordNamed_3 (by decide) ?_
  refine lv_icmp_ge (tgt := 27) hx hb dX6_wordNamed_5 (by decide) (fun c3 => ?_) (fun c3 => ?_)
  · have dc3 : 23 ≤ u1.toInt := le_i (a := 23) (b := u1.toInt) rfl rfl c3
    have k4 : 23 ≤ u1.toInt ∧ u1.toInt ≤ 23 := ⟨Int.le_trans (Int.le_refl _) dc3, i2.2⟩
    refine lv_iconst (v := (-1)) hx hb dX6_wordNamed_27 (by decide) ?_
    exact ret_i (v := (-1)) hx hb hr hlocks hS hP hD dX6_wordNamed_28 rfl (Nat.le_of_ble_eq_true rfl) (Nat.le_of_ble_eq_true rfl) ⟨(show (-1) ≤ ((-1) : Int32).toInt ∧ ((-1) : Int32).toInt ≤ 22 by decide), rfl⟩
  · have dc3 : u1.toInt < 23 := nle_i (a := 23) (b := u1.toInt) rfl rfl c3
    have k5 : 0 ≤ u1.toInt ∧ u1.toInt ≤ 22 := ⟨i2.1, up_lt dc3 (Int.le_refl _) (by decide)⟩
    refine lv_aload_n hx hb dX6_wordNamed_8 rfl (lv_at hl 1 rfl) ?_
    refine get_f (D := D) (ci := 6) (v := .ref h_wordNames) (C := RX6) (T := TX6) (N := 12) hx hb hw inAX6 hown hK hP 0 rfl rfl 9 (by decide) (hw _ q_109) (fun _ h9 => h9) e_wordNames dX6_wordNamed_9 ?_
    refine lv_iload_n hx hb dX6_wordNamed_12 rfl (lv_at hl 0 rfl) ?_
    refine va_lald hx hb hK hP 1 1 rfl rfl (ix_k k5 (by decide) (by decide)) dX6_wordNamed_13 ?_
    refine lv_topl (fun v6 ev6 => ?_)
    refine lv_lload_n hx hb dX6_wordNamed_14 rfl (lv_at hl 2 rfl) ?_
    refine W.lcmp hx hb dX6_wordNamed_15 ?_
    refine lv_topi (fun v7 ev7 => ?_)
    refine lv_if_ne (tgt := 21) hx hb dX6_wordNamed_16 (by decide) (fun c8 => ?_) (fun c8 => ?_)
    · have dc8 : v7.toInt ≠ 0 := ne_i (a := v7.toInt) (b := 0) rfl rfl c8
      obtain ⟨v9, ev9⟩ : ∃ z : Int32, z = u1 + 1 := ⟨_, rfl⟩
      have bv9 : v9.toInt = u1.toInt + 1 := by rw [ev9]; exact add_k rfl rfl k5 ⟨Int.le_refl _, Int.le_refl _⟩ (by decide)
      have k10 : 1 ≤ v9.toInt ∧ v9.toInt ≤ 23 := add_r bv9 k5 ⟨Int.le_refl _, Int.le_refl _⟩ (by decide)
      refine lv_iinc (v := v9) (lv' := [(3, .int v9), (0, .ref h0), (1, .long p0)]) hx hb dX6_wordNamed_21 hl (k := 0) rfl (by rw [ev9]; rfl) (by decide) rfl (fun ls hl => ?_)
      refine lv_goto (tgt := 2) hx hb dX6_wordNamed_24 (by decide) ?_
      exact ih (v9) (ir_wk k10 (by decide) (by decide)) (by show (23 - v9.toInt).toNat < (23 - u1.toInt).toNat; omega) _ _ _ hP hD hS (lv_sub hl [0, 1, 2] rfl)
    · have dc8 : v7.toInt = 0 := eq_i (a := v7.toInt) (b := 0) rfl rfl c8
      have k11 : 0 ≤ v7.toInt ∧ v7.toInt ≤ 0 := ⟨Int.le_trans (Int.le_refl _) (Int.le_of_eq dc8.symm), Int.le_trans (Int.le_of_eq dc8) (Int.le_refl _)⟩
      refine lv_iload_n hx hb dX6_wordNamed_19 rfl (lv_at hl 0 rfl) ?_
      exact ret_i (v := u1) hx hb hr hlocks hS hP hD dX6_wordNamed_20 rfl (Nat.le_of_ble_eq_true rfl) (Nat.le_of_ble_eq_true rfl) ⟨(ir_wk k5 (by decide) (by decide)), rfl⟩
set_option maxHeartbeats 4000000 in
set_option maxRecDepth 100000 in
theorem m_X6_advance (l : Launch) (D : va_G) (cI cJ cB cP cM cZ : ClassId) (h0 : Nat) (h_bytes : Nat) (h_wordNames : Nat) (Fh : Nat → Value) (x_length : Int32) (x_value : Int32) (x_name : Int64) (x_at : Int32) (x_mostBytes : Int32) (f_bytes : Nat → Int32) (f_wordNames : Nat → Int64) (sz : Nat) (e_bytes : Fh 0 = .ref h_bytes) (e_length : Fh 1 = .int x_length) (i_x_length : IR 0 940 x_length) (e_value : Fh 4 = .int x_value) (e_name : Fh 5 = .long x_name) (e_wordNames : Fh 9 = .ref h_wordNames) (e_at : Fh 10 = .int x_at) (i_x_at : IR 0 940 x_at) (e_mostBytes : Fh 11 = .int x_mostBytes) : CV l yX6_advance cX6_advance 1 none { frames := 1, cells := 0, slots := 0, locals := 23 } (GG D cI cJ cB cP cM cZ) D [(h0, .inr (6, vL 12 Fh)), (h_bytes, .inl (cB, 940, .inl f_bytes)), (h_wordNames, .inl (cJ, 23, .inr (.inl f_wordNames)))] sz [.ref h0] (fun (u : va_W) => ∃ (Gh : Nat → Value) (y_kind : Int32) (y_place : Int32) (y_value : Int32) (y_name : Int64) (y_at : Int32), SAME [2, 3, 4, 5, 10] Fh Gh ∧ Gh 2 = .int y_kind ∧ Gh 3 = .int y_place ∧ IR (-2147483648) 940 y_place ∧ Gh 4 = .int y_value ∧ Gh 5 = .long y_name ∧ Gh 10 = .int y_at ∧ IR 0 940 y_at ∧ u = [(h0, .inr (6, vL 12 Gh)), (h_bytes, .inl (cB, 940, .inl f_bytes)), (h_wordNames, .inl (cJ, 23, .inr (.inl f_wordNames)))]) := by
  refine CV_mk (by decide) (Nat.le_of_ble_eq_true rfl) ?_
  intro p e s m below meth c A ls E hAe hG hsz hP hD hA hS hl
  obtain ⟨hx, hb, hr, hw, hown, hlocks, hml, hnm⟩ := E
  have hK := hG.1
  have i_x_length : 0 ≤ x_length.toInt ∧ x_length.toInt ≤ 940 := i_x_length
  have i_x_at : 0 ≤ x_at.toInt ∧ x_at.toInt ≤ 940 := i_x_at
  have hl : lv_has ls 1 [(0, .ref h0)] := hl
  have cut3 : ∀ (G1 : Nat → Value) (u2 : Int32) (_ : SAME [10] Fh G1) (_ : G1 10 = .int u2) (_ : IR 0 940 u2) (H : Heap) (locs : List Loc) (ls : Array Slot), va_P D vwCl [(h0, .inr (6, vL 12 G1)), (h_bytes, .inl (cB, 940, .inl f_bytes)), (h_wordNames, .inl (cJ, 23, .inr (.inl f_wordNames)))] H → va_D A [(h0, .inr (6, vL 12 G1)), (h_bytes, .inl (cB, 940, .inl f_bytes)), (h_wordNames, .inl (cJ, 23, .inr (.inl f_wordNames)))] → va_S A s.heap H locs → lv_has ls 1 [(0, .ref h0)] → W p l e ({ frames := 1, cells := 0, slots := 0, locals := 23 } : Room) s m [.ref h0].toArray below meth c H locs 0 0 (MQ below (va_Qv (fun (u : va_W) => ∃ (Gh : Nat → Value) (y_kind : Int32) (y_place : Int32) (y_value : Int32) (y_name : Int64) (y_at : Int32), SAME [2, 3, 4, 5, 10] Fh Gh ∧ Gh 2 = .int y_kind ∧ Gh 3 = .int y_place ∧ IR (-2147483648) 940 y_place ∧ Gh 4 = .int y_value ∧ Gh 5 = .long y_name ∧ Gh 10 = .int y_at ∧ IR 0 940 y_at ∧ u = [(h0, .inr (6, vL 12 Gh)), (h_bytes, .inl (cB, 940, .inl f_bytes)), (h_wordNames, .inl (cJ, 23, .inr (.inl f_wordNames)))]) (PO D A) A) [.ref h0].toArray s 0 0 A) (F0 m 52 ls []) := by
    intro G1 u2 i4 i5 i6 H locs ls hP hD hS hl
    have i6 : 0 ≤ u2.toInt ∧ u2.toInt ≤ 940 := i6
    refine lv_aload_n hx hb dX6_advance_52 rfl (lv_at hl 0 rfl) ?_
    refine lv_aload_n hx hb dX6_advance_53 rfl (lv_at hl 0 rfl) ?_
    refine get_f (D := D) (ci := 6) (v := .int u2) (C := RX6) (T := TX6) (N := 12) hx hb hw inAX6 hown hK hP 0 rfl rfl 10 (by decide) (hw _ q_110) (fun _ h9 => h9) i5 dX6_advance_54 ?_
    refine put_f (D := D) (ci := 6) (v := .int u2) (ty := .int) (C := RX6) (T := TX6) (N := 12) hx hb hw inAX6 tyX6 tyX6_ok nmX6 hown hK hP hD hS 0 rfl rfl 3 (by decide) (hw _ q_96) (fun _ h9 => h9) rfl (by decide +kernel) rfl rfl dX6_advance_57 (fun H locs F7 eF7 hP hD hS => ?_)
    have hP : va_P D vwCl [(h0, .inr (6, vL 12 F7)), (h_bytes, .inl (cB, 940, .inl f_bytes)), (h_wordNames, .inl (cJ, 23, .inr (.inl f_wordNames)))] H := hP
    have hD : va_D A [(h0, .inr (6, vL 12 F7)), (h_bytes, .inl (cB, 940, .inl f_bytes)), (h_wordNames, .inl (cJ, 23, .inr (.inl f_wordNames)))] := hD
    refine lv_aload_n hx hb dX6_advance_60 rfl (lv_at hl 0 rfl) ?_
    have n8 : G1 1 = .int x_length := (SAME.at i4 (by decide) e_length)
    have n9 : F7 1 = .int x_length := (get_ne eF7 (by decide) n8)
    refine get_f (D := D) (ci := 6) (v := .int x_length) (C := RX6) (T := TX6) (N := 12) hx hb hw inAX6 hown hK hP 0 rfl rfl 1 (by decide) (hw _ q_90) (fun _ h9 => h9) n9 dX6_advance_61 ?_
    refine lv_aload_n hx hb dX6_advance_64 rfl (lv_at hl 0 rfl) ?_
    have n10 : G1 11 = .int x_mostBytes := (SAME.at i4 (by decide) e_mostBytes)
    have n11 : F7 11 = .int x_mostBytes := (get_ne eF7 (by decide) n10)
    refine get_f (D := D) (ci := 6) (v := .int x_mostBytes) (C := RX6) (T := TX6) (N := 12) hx hb hw inAX6 hown hK hP 0 rfl rfl 11 (by decide) (hw _ q_111) (fun _ h9 => h9) n11 dX6_advance_65 ?_
    refine lv_icmp_le (tgt := 98) hx hb dX6_advance_68 (by decide) (fun c12 => ?_) (fun c12 => ?_)
    · have dc12 : x_length.toInt ≤ x_mostBytes.toInt := le_i (a := x_length.toInt) (b := x_mostBytes.toInt) rfl rfl c12
      have k13 : 0 ≤ x_mostBytes.toInt ∧ x_mostBytes.toInt ≤ 2147483647 := ⟨Int.le_trans i_x_length.1 dc12, (ir_any _).2⟩
      refine lv_aload_n hx hb dX6_advance_98 rfl (lv_at hl 0 rfl) ?_
      have n14 : F7 10 = .int u2 := (get_ne eF7 (by decide) i5)
      refine get_f (D := D) (ci := 6) (v := .int u2) (C := RX6) (T := TX6) (N := 12) hx hb hw inAX6 hown hK hP 0 rfl rfl 10 (by decide) (hw _ q_110) (fun _ h9 => h9) n14 dX6_advance_99 ?_
      refine lv_aload_n hx hb dX6_advance_102 rfl (lv_at hl 0 rfl) ?_
      refine get_f (D := D) (ci := 6) (v := .int x_length) (C := RX6) (T := TX6) (N := 12) hx hb hw inAX6 hown hK hP 0 rfl rfl 1 (by decide) (hw _ q_90) (fun _ h9 => h9) n9 dX6_advance_103 ?_
      refine lv_icmp_lt (tgt := 117) hx hb dX6_advance_106 (by decide) (fun c15 => ?_) (fun c15 => ?_)
      · have dc15 : u2.toInt < x_length.toInt := lt_i (a := u2.toInt) (b := x_length.toInt) rfl rfl c15
        have k16 : 0 ≤ u2.toInt ∧ u2.toInt ≤ 939 := ⟨i6.1, up_lt dc15 i_x_length.2 (by decide)⟩
        have k17 : 1 ≤ x_length.toInt ∧ x_length.toInt ≤ 940 := ⟨lo_lt dc15 i6.1 (by decide), i_x_length.2⟩
        refine lv_aload_n hx hb dX6_advance_117 rfl (lv_at hl 0 rfl) ?_
        have n18 : G1 0 = .ref h_bytes := (SAME.at i4 (by decide) e_bytes)
        have n19 : F7 0 = .ref h_bytes := (get_ne eF7 (by decide) n18)
        refine get_f (D := D) (ci := 6) (v := .ref h_bytes) (C := RX6) (T := TX6) (N := 12) hx hb hw inAX6 hown hK hP 0 rfl rfl 0 (by decide) (hw _ q_89) (fun _ h9 => h9) n19 dX6_advance_118 ?_
        refine lv_aload_n hx hb dX6_advance_121 rfl (lv_at hl 0 rfl) ?_
        refine get_f (D := D) (ci := 6) (v := .int u2) (C := RX6) (T := TX6) (N := 12) hx hb hw inAX6 hown hK hP 0 rfl rfl 10 (by decide) (hw _ q_110) (fun _ h9 => h9) n14 dX6_advance_122 ?_
        refine va_bald hx hb hK hP 1 2 rfl rfl (ix_k k16 (by decide) (by decide)) dX6_advance_125 ?_
        refine lv_topi (fun v20 ev20 => ?_)
        refine call_Si (wr := [(h0, .inr (6, vL 12 F7)), (h_bytes, .inl (cB, 940, .inl f_bytes)), (h_wordNames, .inl (cJ, 23, .inr (.inl f_wordNames)))]) (As := [.int v20]) (rest := []) hx hb hml hown hw (m_X6_isSign l D cI cJ cB cP cM cZ v20 _ ) wS_X6_69_X6_isSign dX6_advance_126 hP hD hS hA [] [0, 1, 2] rfl rfl (by decide) (by decide) (by decide) GG.fb hG.at hl.1 rfl (Nat.le_of_ble_eq_true rfl) ⟨(Nat.le_of_ble_eq_true rfl), (Nat.le_of_ble_eq_true rfl)⟩ ⟨(Nat.le_of_ble_eq_true rfl), (Nat.le_of_ble_eq_true rfl)⟩ (fun r21 u H locs hp hP hD hS => ?_)
        obtain ⟨t22, rfl⟩ := hp
        have hP : va_P D vwCl [(h0, .inr (6, vL 12 F7)), (h_bytes, .inl (cB, 940, .inl f_bytes)), (h_wordNames, .inl (cJ, 23, .inr (.inl f_wordNames)))] H := hP
        have hD : va_D A [(h0, .inr (6, vL 12 F7)), (h_bytes, .inl (cB, 940, .inl f_bytes)), (h_wordNames, .inl (cJ, 23, .inr (.inl f_wordNames)))] := hD
        refine W.widen (k := 0) (n := 0) (Nat.le_of_ble_eq_true rfl) (Nat.le_of_ble_eq_true rfl) ?_
        refine lv_if_eq (tgt := 158) hx hb dX6_advance_129 (by decide) (fun c23 => ?_) (fun c23 => ?_)
        · have dc23 : r21.toInt = 0 := eq_i (a := r21.toInt) (b := 0) rfl rfl c23
          have k24 : 0 ≤ r21.toInt ∧ r21.toInt ≤ 0 := ⟨t22.1, Int.le_trans (Int.le_of_eq dc23) (Int.le_refl _)⟩
          refine lv_aload_n hx hb dX6_advance_158 rfl (lv_at hl 0 rfl) ?_
          refine call_Vv (wr := [(h_wordNames, .inl (cJ, 23, .inr (.inl f_wordNames)))]) (As := []) (rest := []) hx hb hml hown hw (m_X6_readRow l D cI cJ cB cP cM cZ h0 h_bytes F7 x_length u2 f_bytes _ n19 n9 (ir_wk k17 (by decide) (by decide)) n14 (ir_wk k16 (by decide) (by decide))) wV_X6_73_X6_readRow dX6_advance_159 hK hP hD hS hA [0, 1] [2] rfl rfl (by decide) (by decide) (by decide) 0 6 rfl rfl GG.fb hG.at hl.1 rfl (Nat.le_of_ble_eq_true rfl) ⟨(Nat.le_of_ble_eq_true rfl), (Nat.le_of_ble_eq_true rfl)⟩ ⟨(Nat.le_of_ble_eq_true rfl), (Nat.le_of_ble_eq_true rfl)⟩ (fun u H locs hp hP hD hS => ?_)
          obtain ⟨F26, y27, y28, y29, y30, t31, t32, t33, t34, t35, t36, t37, rfl⟩ := hp
          have hP : va_P D vwCl [(h_wordNames, .inl (cJ, 23, .inr (.inl f_wordNames))), (h0, .inr (6, vL 12 F26)), (h_bytes, .inl (cB, 940, .inl f_bytes))] H := hP
          have hD : va_D A [(h_wordNames, .inl (cJ, 23, .inr (.inl f_wordNames))), (h0, .inr (6, vL 12 F26)), (h_bytes, .inl (cB, 940, .inl f_bytes))] := hD
          refine W.widen (k := 0) (n := 0) (Nat.le_of_ble_eq_true rfl) (Nat.le_of_ble_eq_true rfl) ?_
          refine lv_aload_n hx hb dX6_advance_162 rfl (lv_at hl 0 rfl) ?_
          refine lv_aload_n hx hb dX6_advance_163 rfl (lv_at hl 0 rfl) ?_
          refine get_f (D := D) (ci := 6) (v := .int y27) (C := RX6) (T := TX6) (N := 12) hx hb hw inAX6 hown hK hP 1 rfl rfl 2 (by decide) (hw _ q_92) (fun _ h9 => h9) t32 dX6_advance_164 ?_
          refine lv_iconst (v := 2) hx hb dX6_advance_167 (by decide) ?_
          refine lv_icmp_ne (tgt := 182) hx hb dX6_advance_168 (by decide) (fun c38 => ?_) (fun c38 => ?_)
          · have dc38 : y27.toInt ≠ 2 := ne_i (a := y27.toInt) (b := 2) rfl rfl c38
            refine lv_aload_n hx hb dX6_advance_182 rfl (lv_at hl 0 rfl) ?_
            refine get_f (D := D) (ci := 6) (v := .int y28) (C := RX6) (T := TX6) (N := 12) hx hb hw inAX6 hown hK hP 1 rfl rfl 4 (by decide) (hw _ q_97) (fun _ h9 => h9) t34 dX6_advance_183 ?_
            refine put_f (D := D) (ci := 6) (v := .int y28) (ty := .int) (C := RX6) (T := TX6) (N := 12) hx hb hw inAX6 tyX6 tyX6_ok nmX6 hown hK hP hD hS 1 rfl rfl 4 (by decide) (hw _ q_97) (fun _ h9 => h9) rfl (by decide +kernel) rfl rfl dX6_advance_186 (fun H locs F39 eF39 hP hD hS => ?_)
            have hP : va_P D vwCl [(h_wordNames, .inl (cJ, 23, .inr (.inl f_wordNames))), (h0, .inr (6, vL 12 F39)), (h_bytes, .inl (cB, 940, .inl f_bytes))] H := hP
            have hD : va_D A [(h_wordNames, .inl (cJ, 23, .inr (.inl f_wordNames))), (h0, .inr (6, vL 12 F39)), (h_bytes, .inl (cB, 940, .inl f_bytes))] := hD
            exact ret_v hx hb hr hlocks hS (hP.sub (ws' := [(h0, .inr (6, vL 12 F39)), (h_bytes, .inl (cB, 940, .inl f_bytes)), (h_wordNames, .inl (cJ, 23, .inr (.inl f_wordNames)))]) [1, 2, 0] rfl) (hD.sub (ws' := [(h0, .inr (6, vL 12 F39)), (h_bytes, .inl (cB, 940, .inl f_bytes)), (h_wordNames, .inl (cJ, 23, .inr (.inl f_wordNames)))]) [1, 2, 0] (by decide) rfl) dX6_advance_189 (Nat.le_of_ble_eq_true rfl) (Nat.le_of_ble_eq_true rfl) ⟨F39, y27, u2, y28, y29, y30, (SAME.up eF39 (SAME.tr (SAME.up eF7 (SAME.tr SAME.rf i4 (by decide)) (by decide)) t31 (by decide)) (by decide)), (get_ne eF39 (by decide) t32), (get_ne eF39 (by decide) (SAME.at t31 (by decide) (get_eq eF7))), (ir_wk k16 (by decide) (by decide)), (get_eq eF39), (get_ne eF39 (by decide) t35), (get_ne eF39 (by decide) t36), t37, rfl⟩
          · have dc38 : y27.toInt = 2 := eq_i (a := y27.toInt) (b := 2) rfl rfl c38
            have k40 : 2 ≤ y27.toInt ∧ y27.toInt ≤ 2 := ⟨Int.le_trans (Int.le_refl _) (Int.le_of_eq dc38.symm), Int.le_trans (Int.le_of_eq dc38) (Int.le_refl _)⟩
            refine lv_aload_n hx hb dX6_advance_171 rfl (lv_at hl 0 rfl) ?_
            refine lv_aload_n hx hb dX6_advance_172 rfl (lv_at hl 0 rfl) ?_
            refine get_f (D := D) (ci := 6) (v := .long y29) (C := RX6) (T := TX6) (N := 12) hx hb hw inAX6 hown hK hP 1 rfl rfl 5 (by decide) (hw _ q_98) (fun _ h9 => h9) t35 dX6_advance_173 ?_
            have n41 : G1 9 = .ref h_wordNames := (SAME.at i4 (by decide) e_wordNames)
            have n42 : F7 9 = .ref h_wordNames := (get_ne eF7 (by decide) n41)
            have n43 : F26 9 = .ref h_wordNames := (SAME.at t31 (by decide) n42)
            refine call_Vi (wr := [(h_bytes, .inl (cB, 940, .inl f_bytes))]) (As := [.long y29]) (rest := [.ref h0]) hx hb hml hown hw (m_X6_wordNamed l D cI cJ cB cP cM cZ h0 h_wordNames F26 f_wordNames y29 _ n43) wV_X6_76_X6_wordNamed dX6_advance_176 hK hP hD hS hA [1, 0] [2] rfl rfl (by decide) (by decide) (by decide) 0 6 rfl rfl GG.fb hG.at hl.1 rfl (Nat.le_of_ble_eq_true rfl) ⟨(Nat.le_of_ble_eq_true rfl), (Nat.le_of_ble_eq_true rfl)⟩ ⟨(Nat.le_of_ble_eq_true rfl), (Nat.le_of_ble_eq_true rfl)⟩ (fun r44 u H locs hp hP hD hS => ?_)
            obtain ⟨t45, rfl⟩ := hp
            have hP : va_P D vwCl [(h_bytes, .inl (cB, 940, .inl f_bytes)), (h0, .inr (6, vL 12 F26)), (h_wordNames, .inl (cJ, 23, .inr (.inl f_wordNames)))] H := hP
            have hD : va_D A [(h_bytes, .inl (cB, 940, .inl f_bytes)), (h0, .inr (6, vL 12 F26)), (h_wordNames, .inl (cJ, 23, .inr (.inl f_wordNames)))] := hD
            refine W.widen (k := 0) (n := 0) (Nat.le_of_ble_eq_true rfl) (Nat.le_of_ble_eq_true rfl) ?_
            refine lv_goto (tgt := 186) hx hb dX6_advance_179 (by decide) ?_
            refine put_f (D := D) (ci := 6) (v := .int r44) (ty := .int) (C := RX6) (T := TX6) (N := 12) hx hb hw inAX6 tyX6 tyX6_ok nmX6 hown hK hP hD hS 1 rfl rfl 4 (by decide) (hw _ q_97) (fun _ h9 => h9) rfl (by decide +kernel) rfl rfl dX6_advance_186 (fun H locs F46 eF46 hP hD hS => ?_)
            have hP : va_P D vwCl [(h_bytes, .inl (cB, 940, .inl f_bytes)), (h0, .inr (6, vL 12 F46)), (h_wordNames, .inl (cJ, 23, .inr (.inl f_wordNames)))] H := hP
            have hD : va_D A [(h_bytes, .inl (cB, 940, .inl f_bytes)), (h0, .inr (6, vL 12 F46)), (h_wordNames, .inl (cJ, 23, .inr (.inl f_wordNames)))] := hD
            exact ret_v hx hb hr hlocks hS (hP.sub (ws' := [(h0, .inr (6, vL 12 F46)), (h_bytes, .inl (cB, 940, .inl f_bytes)), (h_wordNames, .inl (cJ, 23, .inr (.inl f_wordNames)))]) [1, 0, 2] rfl) (hD.sub (ws' := [(h0, .inr (6, vL 12 F46)), (h_bytes, .inl (cB, 940, .inl f_bytes)), (h_wordNames, .inl (cJ, 23, .inr (.inl f_wordNames)))]) [1, 0, 2] (by decide) rfl) dX6_advance_189 (Nat.le_of_ble_eq_true rfl) (Nat.le_of_ble_eq_true rfl) ⟨F46, y27, u2, r44, y29, y30, (SAME.up eF46 (SAME.tr (SAME.up eF7 (SAME.tr SAME.rf i4 (by decide)) (by decide)) t31 (by decide)) (by decide)), (get_ne eF46 (by decide) t32), (get_ne eF46 (by decide) (SAME.at t31 (by decide) (get_eq eF7))), (ir_wk k16 (by decide) (by decide)), (get_eq eF46), (get_ne eF46 (by decide) t35), (get_ne eF46 (by decide) t36), t37, rfl⟩
        · have dc23 : r21.toInt ≠ 0 := ne_i (a := r21.toInt) (b := 0) rfl rfl c23
          have k47 : 1 ≤ r21.toInt ∧ r21.toInt ≤ 1 := ⟨ne_lo dc23 t22.1 ⟨Int.le_refl _, Int.le_refl _⟩ (by decide), t22.2⟩
          refine lv_aload_n hx hb dX6_advance_132 rfl (lv_at hl 0 rfl) ?_
          refine lv_aload_n hx hb dX6_advance_133 rfl (lv_at hl 0 rfl) ?_
          refine get_f (D := D) (ci := 6) (v := .ref h_bytes) (C := RX6) (T := TX6) (N := 12) hx hb hw inAX6 hown hK hP 0 rfl rfl 0 (by decide) (hw _ q_89) (fun _ h9 => h9) n19 dX6_advance_134 ?_
          refine lv_aload_n hx hb dX6_advance_137 rfl (lv_at hl 0 rfl) ?_
          refine get_f (D := D) (ci := 6) (v := .int u2) (C := RX6) (T := TX6) (N := 12) hx hb hw inAX6 hown hK hP 0 rfl rfl 10 (by decide) (hw _ q_110) (fun _ h9 => h9) n14 dX6_advance_138 ?_
          refine va_bald hx hb hK hP 1 2 rfl rfl (ix_k k16 (by decide) (by decide)) dX6_advance_141 ?_
          refine lv_ci (y := v20) ev20.symm ?_
          refine put_f (D := D) (ci := 6) (v := .int v20) (ty := .int) (C := RX6) (T := TX6) (N := 12) hx hb hw inAX6 tyX6 tyX6_ok nmX6 hown hK hP hD hS 0 rfl rfl 2 (by decide) (hw _ q_92) (fun _ h9 => h9) rfl (by decide +kernel) rfl rfl dX6_advance_142 (fun H locs F48 eF48 hP hD hS => ?_)
          have hP : va_P D vwCl [(h0, .inr (6, vL 12 F48)), (h_bytes, .inl (cB, 940, .inl f_bytes)), (h_wordNames, .inl (cJ, 23, .inr (.inl f_wordNames)))] H := hP
          have hD : va_D A [(h0, .inr (6, vL 12 F48)), (h_bytes, .inl (cB, 940, .inl f_bytes)), (h_wordNames, .inl (cJ, 23, .inr (.inl f_wordNames)))] := hD
          refine lv_aload_n hx hb dX6_advance_145 rfl (lv_at hl 0 rfl) ?_
          refine lv_dup hx hb dX6_advance_146 rfl ?_
          have n49 : F48 10 = .int u2 := (get_ne eF48 (by decide) n14)
          refine get_f (D := D) (ci := 6) (v := .int u2) (C := RX6) (T := TX6) (N := 12) hx hb hw inAX6 hown hK hP 0 rfl rfl 10 (by decide) (hw _ q_110) (fun _ h9 => h9) n49 dX6_advance_147 ?_
          refine lv_iconst (v := 1) hx hb dX6_advance_150 (by decide) ?_
          refine lv_iadd hx hb dX6_advance_151 ?_
          refine lv_topi (fun v50 ev50 => ?_)
          have bv50 : v50.toInt = u2.toInt + 1 := by rw [ev50]; exact add_k rfl rfl k16 ⟨Int.le_refl _, Int.le_refl _⟩ (by decide)
          have k51 : 1 ≤ v50.toInt ∧ v50.toInt ≤ 940 := add_r bv50 k16 ⟨Int.le_refl _, Int.le_refl _⟩ (by decide)
          refine put_f (D := D) (ci := 6) (v := .int v50) (ty := .int) (C := RX6) (T := TX6) (N := 12) hx hb hw inAX6 tyX6 tyX6_ok nmX6 hown hK hP hD hS 0 rfl rfl 10 (by decide) (hw _ q_110) (fun _ h9 => h9) rfl (by decide +kernel) rfl rfl dX6_advance_152 (fun H locs F52 eF52 hP hD hS => ?_)
          have hP : va_P D vwCl [(h0, .inr (6, vL 12 F52)), (h_bytes, .inl (cB, 940, .inl f_bytes)), (h_wordNames, .inl (cJ, 23, .inr (.inl f_wordNames)))] H := hP
          have hD : va_D A [(h0, .inr (6, vL 12 F52)), (h_bytes, .inl (cB, 940, .inl f_bytes)), (h_wordNames, .inl (cJ, 23, .inr (.inl f_wordNames)))] := hD
          refine lv_goto (tgt := 189) hx hb dX6_advance_155 (by decide) ?_
          exact ret_v hx hb hr hlocks hS hP hD dX6_advance_189 (Nat.le_of_ble_eq_true rfl) (Nat.le_of_ble_eq_true rfl) ⟨F52, v20, u2, x_value, x_name, v50, (SAME.up eF52 (SAME.up eF48 (SAME.up eF7 (SAME.tr SAME.rf i4 (by decide)) (by decide)) (by decide)) (by decide)), (get_ne eF52 (by decide) (get_eq eF48)), (get_ne eF52 (by decide) (get_ne eF48 (by decide) (get_eq eF7))), (ir_wk k16 (by decide) (by decide)), (get_ne eF52 (by decide) (get_ne eF48 (by decide) (get_ne eF7 (by decide) (SAME.at i4 (by decide) e_value)))), (get_ne eF52 (by decide) (get_ne eF48 (by decide) (get_ne eF7 (by decide) (SAME.at i4 (by decide) e_name)))), (get_eq eF52), (ir_wk k51 (by decide) (by decide)), rfl⟩
      · have dc15 : x_length.toInt ≤ u2.toInt := nlt_i (a := u2.toInt) (b := x_length.toInt) rfl rfl c15
        refine lv_aload_n hx hb dX6_advance_109 rfl (lv_at hl 0 rfl) ?_
        refine lv_iconst (v := 0) hx hb dX6_advance_110 (by decide) ?_
        refine put_f (D := D) (ci := 6) (v := .int 0) (ty := .int) (C := RX6) (T := TX6) (N := 12) hx hb hw inAX6 tyX6 tyX6_ok nmX6 hown hK hP hD hS 0 rfl rfl 2 (by decide) (hw _ q_92) (fun _ h9 => h9) rfl (by decide +kernel) rfl rfl dX6_advance_111 (fun H locs F53 eF53 hP hD hS => ?_)
        have hP : va_P D vwCl [(h0, .inr (6, vL 12 F53)), (h_bytes, .inl (cB, 940, .inl f_bytes)), (h_wordNames, .inl (cJ, 23, .inr (.inl f_wordNames)))] H := hP
        have hD : va_D A [(h0, .inr (6, vL 12 F53)), (h_bytes, .inl (cB, 940, .inl f_bytes)), (h_wordNames, .inl (cJ, 23, .inr (.inl f_wordNames)))] := hD
        refine lv_goto (tgt := 189) hx hb dX6_advance_114 (by decide) ?_
        exact ret_v hx hb hr hlocks hS hP hD dX6_advance_189 (Nat.le_of_ble_eq_true rfl) (Nat.le_of_ble_eq_true rfl) ⟨F53, 0, u2, x_value, x_name, u2, (SAME.up eF53 (SAME.up eF7 (SAME.tr SAME.rf i4 (by decide)) (by decide)) (by decide)), (get_eq eF53), (get_ne eF53 (by decide) (get_eq eF7)), (ir_wk i6 (by decide) (by decide)), (get_ne eF53 (by decide) (get_ne eF7 (by decide) (SAME.at i4 (by decide) e_value))), (get_ne eF53 (by decide) (get_ne eF7 (by decide) (SAME.at i4 (by decide) e_name))), (get_ne eF53 (by decide) n14), i6, rfl⟩
    · have dc12 : x_mostBytes.toInt < x_length.toInt := nle_i (a := x_length.toInt) (b := x_mostBytes.toInt) rfl rfl c12
      have k54 : (-2147483648) ≤ x_mostBytes.toInt ∧ x_mostBytes.toInt ≤ 939 := ⟨(ir_any _).1, up_lt dc12 i_x_length.2 (by decide)⟩
      refine lv_aload_n hx hb dX6_advance_71 rfl (lv_at hl 0 rfl) ?_
      have n55 : F7 10 = .int u2 := (get_ne eF7 (by decide) i5)
      refine get_f (D := D) (ci := 6) (v := .int u2) (C := RX6) (T := TX6) (N := 12) hx hb hw inAX6 hown hK hP 0 rfl rfl 10 (by decide) (hw _ q_110) (fun _ h9 => h9) n55 dX6_advance_72 ?_
      refine lv_aload_n hx hb dX6_advance_75 rfl (lv_at hl 0 rfl) ?_
      refine get_f (D := D) (ci := 6) (v := .int x_mostBytes) (C := RX6) (T := TX6) (N := 12) hx hb hw inAX6 hown hK hP 0 rfl rfl 11 (by decide) (hw _ q_111) (fun _ h9 => h9) n11 dX6_advance_76 ?_
      refine lv_icmp_lt (tgt := 98) hx hb dX6_advance_79 (by decide) (fun c56 => ?_) (fun c56 => ?_)
      · have dc56 : u2.toInt < x_mostBytes.toInt := lt_i (a := u2.toInt) (b := x_mostBytes.toInt) rfl rfl c56
        have k57 : 0 ≤ u2.toInt ∧ u2.toInt ≤ 938 := ⟨i6.1, up_lt dc56 k54.2 (by decide)⟩
        have k58 : 1 ≤ x_mostBytes.toInt ∧ x_mostBytes.toInt ≤ 939 := ⟨lo_lt dc56 i6.1 (by decide), k54.2⟩
        refine lv_aload_n hx hb dX6_advance_98 rfl (lv_at hl 0 rfl) ?_
        refine get_f (D := D) (ci := 6) (v := .int u2) (C := RX6) (T := TX6) (N := 12) hx hb hw inAX6 hown hK hP 0 rfl rfl 10 (by decide) (hw _ q_110) (fun _ h9 => h9) n55 dX6_advance_99 ?_
        refine lv_aload_n hx hb dX6_advance_102 rfl (lv_at hl 0 rfl) ?_
        refine get_f (D := D) (ci := 6) (v := .int x_length) (C := RX6) (T := TX6) (N := 12) hx hb hw inAX6 hown hK hP 0 rfl rfl 1 (by decide) (hw _ q_90) (fun _ h9 => h9) n9 dX6_advance_103 ?_
        refine lv_icmp_lt (tgt := 117) hx hb dX6_advance_106 (by decide) (fun c59 => ?_) (fun c59 => ?_)
        · have dc59 : u2.toInt < x_length.toInt := lt_i (a := u2.toInt) (b := x_length.toInt) rfl rfl c59
          have k60 : 1 ≤ x_length.toInt ∧ x_length.toInt ≤ 940 := ⟨lo_lt dc59 k57.1 (by decide), i_x_length.2⟩
          refine lv_aload_n hx hb dX6_advance_117 rfl (lv_at hl 0 rfl) ?_
          have n61 : G1 0 = .ref h_bytes := (SAME.at i4 (by decide) e_bytes)
          have n62 : F7 0 = .ref h_bytes := (get_ne eF7 (by decide) n61)
          refine get_f (D := D) (ci := 6) (v := .ref h_bytes) (C := RX6) (T := TX6) (N := 12) hx hb hw inAX6 hown hK hP 0 rfl rfl 0 (by decide) (hw _ q_89) (fun _ h9 => h9) n62 dX6_advance_118 ?_
          refine lv_aload_n hx hb dX6_advance_121 rfl (lv_at hl 0 rfl) ?_
          refine get_f (D := D) (ci := 6) (v := .int u2) (C := RX6) (T := TX6) (N := 12) hx hb hw inAX6 hown hK hP 0 rfl rfl 10 (by decide) (hw _ q_110) (fun _ h9 => h9) n55 dX6_advance_122 ?_
          refine va_bald hx hb hK hP 1 2 rfl rfl (ix_k k57 (by decide) (by decide)) dX6_advance_125 ?_
          refine lv_topi (fun v63 ev63 => ?_)
          refine call_Si (wr := [(h0, .inr (6, vL 12 F7)), (h_bytes, .inl (cB, 940, .inl f_bytes)), (h_wordNames, .inl (cJ, 23, .inr (.inl f_wordNames)))]) (As := [.int v63]) (rest := []) hx hb hml hown hw (m_X6_isSign l D cI cJ cB cP cM cZ v63 _ ) wS_X6_69_X6_isSign dX6_advance_126 hP hD hS hA [] [0, 1, 2] rfl rfl (by decide) (by decide) (by decide) GG.fb hG.at hl.1 rfl (Nat.le_of_ble_eq_true rfl) ⟨(Nat.le_of_ble_eq_true rfl), (Nat.le_of_ble_eq_true rfl)⟩ ⟨(Nat.le_of_ble_eq_true rfl), (Nat.le_of_ble_eq_true rfl)⟩ (fun r64 u H locs hp hP hD hS => ?_)
          obtain ⟨t65, rfl⟩ := hp
          have hP : va_P D vwCl [(h0, .inr (6, vL 12 F7)), (h_bytes, .inl (cB, 940, .inl f_bytes)), (h_wordNames, .inl (cJ, 23, .inr (.inl f_wordNames)))] H := hP
          have hD : va_D A [(h0, .inr (6, vL 12 F7)), (h_bytes, .inl (cB, 940, .inl f_bytes)), (h_wordNames, .inl (cJ, 23, .inr (.inl f_wordNames)))] := hD
          refine W.widen (k := 0) (n := 0) (Nat.le_of_ble_eq_true rfl) (Nat.le_of_ble_eq_true rfl) ?_
          refine lv_if_eq (tgt := 158) hx hb dX6_advance_129 (by decide) (fun c66 => ?_) (fun c66 => ?_)
          · have dc66 : r64.toInt = 0 := eq_i (a := r64.toInt) (b := 0) rfl rfl c66
            have k67 : 0 ≤ r64.toInt ∧ r64.toInt ≤ 0 := ⟨t65.1, Int.le_trans (Int.le_of_eq dc66) (Int.le_refl _)⟩
            refine lv_aload_n hx hb dX6_advance_158 rfl (lv_at hl 0 rfl) ?_
            refine call_Vv (wr := [(h_wordNames, .inl (cJ, 23, .inr (.inl f_wordNames)))]) (As := []) (rest := []) hx hb hml hown hw (m_X6_readRow l D cI cJ cB cP cM cZ h0 h_bytes F7 x_length u2 f_bytes _ n62 n9 (ir_wk k60 (by decide) (by decide)) n55 (ir_wk k57 (by decide) (by decide))) wV_X6_73_X6_readRow dX6_advance_159 hK hP hD hS hA [0, 1] [2] rfl rfl (by decide) (by decide) (by decide) 0 6 rfl rfl GG.fb hG.at hl.1 rfl (Nat.le_of_ble_eq_true rfl) ⟨(Nat.le_of_ble_eq_true rfl), (Nat.le_of_ble_eq_true rfl)⟩ ⟨(Nat.le_of_ble_eq_true rfl), (Nat.le_of_ble_eq_true rfl)⟩ (fun u H locs hp hP hD hS => ?_)
            obtain ⟨F69, y70, y71, y72, y73, t74, t75, t76, t77, t78, t79, t80, rfl⟩ := hp
            have hP : va_P D vwCl [(h_wordNames, .inl (cJ, 23, .inr (.inl f_wordNames))), (h0, .inr (6, vL 12 F69)), (h_bytes, .inl (cB, 940, .inl f_bytes))] H := hP
            have hD : va_D A [(h_wordNames, .inl (cJ, 23, .inr (.inl f_wordNames))), (h0, .inr (6, vL 12 F69)), (h_bytes, .inl (cB, 940, .inl f_bytes))] := hD
            refine W.widen (k := 0) (n := 0) (Nat.le_of_ble_eq_true rfl) (Nat.le_of_ble_eq_true rfl) ?_
            refine lv_aload_n hx hb dX6_advance_162 rfl (lv_at hl 0 rfl) ?_
            refine lv_aload_n hx hb dX6_advance_163 rfl (lv_at hl 0 rfl) ?_
            refine get_f (D := D) (ci := 6) (v := .int y70) (C := RX6) (T := TX6) (N := 12) hx hb hw inAX6 hown hK hP 1 rfl rfl 2 (by decide) (hw _ q_92) (fun _ h9 => h9) t75 dX6_advance_164 ?_
            refine lv_iconst (v := 2) hx hb dX6_advance_167 (by decide) ?_
            refine lv_icmp_ne (tgt := 182) hx hb dX6_advance_168 (by decide) (fun c81 => ?_) (fun c81 => ?_)
            · have dc81 : y70.toInt ≠ 2 := ne_i (a := y70.toInt) (b := 2) rfl rfl c81
              refine lv_aload_n hx hb dX6_advance_182 rfl (lv_at hl 0 rfl) ?_
              refine get_f (D := D) (ci := 6) (v := .int y71) (C := RX6) (T := TX6) (N := 12) hx hb hw inAX6 hown hK hP 1 rfl rfl 4 (by decide) (hw _ q_97) (fun _ h9 => h9) t77 dX6_advance_183 ?_
              refine put_f (D := D) (ci := 6) (v := .int y71) (ty := .int) (C := RX6) (T := TX6) (N := 12) hx hb hw inAX6 tyX6 tyX6_ok nmX6 hown hK hP hD hS 1 rfl rfl 4 (by decide) (hw _ q_97) (fun _ h9 => h9) rfl (by decide +kernel) rfl rfl dX6_advance_186 (fun H locs F82 eF82 hP hD hS => ?_)
              have hP : va_P D vwCl [(h_wordNames, .inl (cJ, 23, .inr (.inl f_wordNames))), (h0, .inr (6, vL 12 F82)), (h_bytes, .inl (cB, 940, .inl f_bytes))] H := hP
              have hD : va_D A [(h_wordNames, .inl (cJ, 23, .inr (.inl f_wordNames))), (h0, .inr (6, vL 12 F82)), (h_bytes, .inl (cB, 940, .inl f_bytes))] := hD
              exact ret_v hx hb hr hlocks hS (hP.sub (ws' := [(h0, .inr (6, vL 12 F82)), (h_bytes, .inl (cB, 940, .inl f_bytes)), (h_wordNames, .inl (cJ, 23, .inr (.inl f_wordNames)))]) [1, 2, 0] rfl) (hD.sub (ws' := [(h0, .inr (6, vL 12 F82)), (h_bytes, .inl (cB, 940, .inl f_bytes)), (h_wordNames, .inl (cJ, 23, .inr (.inl f_wordNames)))]) [1, 2, 0] (by decide) rfl) dX6_advance_189 (Nat.le_of_ble_eq_true rfl) (Nat.le_of_ble_eq_true rfl) ⟨F82, y70, u2, y71, y72, y73, (SAME.up eF82 (SAME.tr (SAME.up eF7 (SAME.tr SAME.rf i4 (by decide)) (by decide)) t74 (by decide)) (by decide)), (get_ne eF82 (by decide) t75), (get_ne eF82 (by decide) (SAME.at t74 (by decide) (get_eq eF7))), (ir_wk k57 (by decide) (by decide)), (get_eq eF82), (get_ne eF82 (by decide) t78), (get_ne eF82 (by decide) t79), t80, rfl⟩
            · have dc81 : y70.toInt = 2 := eq_i (a := y70.toInt) (b := 2) rfl rfl c81
              have k83 : 2 ≤ y70.toInt ∧ y70.toInt ≤ 2 := ⟨Int.le_trans (Int.le_refl _) (Int.le_of_eq dc81.symm), Int.le_trans (Int.le_of_eq dc81) (Int.le_refl _)⟩
              refine lv_aload_n hx hb dX6_advance_171 rfl (lv_at hl 0 rfl) ?_
              refine lv_aload_n hx hb dX6_advance_172 rfl (lv_at hl 0 rfl) ?_
              refine get_f (D := D) (ci := 6) (v := .long y72) (C := RX6) (T := TX6) (N := 12) hx hb hw inAX6 hown hK hP 1 rfl rfl 5 (by decide) (hw _ q_98) (fun _ h9 => h9) t78 dX6_advance_173 ?_
              have n84 : G1 9 = .ref h_wordNames := (SAME.at i4 (by decide) e_wordNames)
              have n85 : F7 9 = .ref h_wordNames := (get_ne eF7 (by decide) n84)
              have n86 : F69 9 = .ref h_wordNames := (SAME.at t74 (by decide) n85)
              refine call_Vi (wr := [(h_bytes, .inl (cB, 940, .inl f_bytes))]) (As := [.long y72]) (rest := [.ref h0]) hx hb hml hown hw (m_X6_wordNamed l D cI cJ cB cP cM cZ h0 h_wordNames F69 f_wordNames y72 _ n86) wV_X6_76_X6_wordNamed dX6_advance_176 hK hP hD hS hA [1, 0] [2] rfl rfl (by decide) (by decide) (by decide) 0 6 rfl rfl GG.fb hG.at hl.1 rfl (Nat.le_of_ble_eq_true rfl) ⟨(Nat.le_of_ble_eq_true rfl), (Nat.le_of_ble_eq_true rfl)⟩ ⟨(Nat.le_of_ble_eq_true rfl), (Nat.le_of_ble_eq_true rfl)⟩ (fun r87 u H locs hp hP hD hS => ?_)
              obtain ⟨t88, rfl⟩ := hp
              have hP : va_P D vwCl [(h_bytes, .inl (cB, 940, .inl f_bytes)), (h0, .inr (6, vL 12 F69)), (h_wordNames, .inl (cJ, 23, .inr (.inl f_wordNames)))] H := hP
              have hD : va_D A [(h_bytes, .inl (cB, 940, .inl f_bytes)), (h0, .inr (6, vL 12 F69)), (h_wordNames, .inl (cJ, 23, .inr (.inl f_wordNames)))] := hD
              refine W.widen (k := 0) (n := 0) (Nat.le_of_ble_eq_true rfl) (Nat.le_of_ble_eq_true rfl) ?_
              refine lv_goto (tgt := 186) hx hb dX6_advance_179 (by decide) ?_
              refine put_f (D := D) (ci := 6) (v := .int r87) (ty := .int) (C := RX6) (T := TX6) (N := 12) hx hb hw inAX6 tyX6 tyX6_ok nmX6 hown hK hP hD hS 1 rfl rfl 4 (by decide) (hw _ q_97) (fun _ h9 => h9) rfl (by decide +kernel) rfl rfl dX6_advance_186 (fun H locs F89 eF89 hP hD hS => ?_)
              have hP : va_P D vwCl [(h_bytes, .inl (cB, 940, .inl f_bytes)), (h0, .inr (6, vL 12 F89)), (h_wordNames, .inl (cJ, 23, .inr (.inl f_wordNames)))] H := hP
              have hD : va_D A [(h_bytes, .inl (cB, 940, .inl f_bytes)), (h0, .inr (6, vL 12 F89)), (h_wordNames, .inl (cJ, 23, .inr (.inl f_wordNames)))] := hD
              exact ret_v hx hb hr hlocks hS (hP.sub (ws' := [(h0, .inr (6, vL 12 F89)), (h_bytes, .inl (cB, 940, .inl f_bytes)), (h_wordNames, .inl (cJ, 23, .inr (.inl f_wordNames)))]) [1, 0, 2] rfl) (hD.sub (ws' := [(h0, .inr (6, vL 12 F89)), (h_bytes, .inl (cB, 940, .inl f_bytes)), (h_wordNames, .inl (cJ, 23, .inr (.inl f_wordNames)))]) [1, 0, 2] (by decide) rfl) dX6_advance_189 (Nat.le_of_ble_eq_true rfl) (Nat.le_of_ble_eq_true rfl) ⟨F89, y70, u2, r87, y72, y73, (SAME.up eF89 (SAME.tr (SAME.up eF7 (SAME.tr SAME.rf i4 (by decide)) (by decide)) t74 (by decide)) (by decide)), (get_ne eF89 (by decide) t75), (get_ne eF89 (by decide) (SAME.at t74 (by decide) (get_eq eF7))), (ir_wk k57 (by decide) (by decide)), (get_eq eF89), (get_ne eF89 (by decide) t78), (get_ne eF89 (by decide) t79), t80, rfl⟩
          · have dc66 : r64.toInt ≠ 0 := ne_i (a := r64.toInt) (b := 0) rfl rfl c66
            have k90 : 1 ≤ r64.toInt ∧ r64.toInt ≤ 1 := ⟨ne_lo dc66 t65.1 ⟨Int.le_refl _, Int.le_refl _⟩ (by decide), t65.2⟩
            refine lv_aload_n hx hb dX6_advance_132 rfl (lv_at hl 0 rfl) ?_
            refine lv_aload_n hx hb dX6_advance_133 rfl (lv_at hl 0 rfl) ?_
            refine get_f (D := D) (ci := 6) (v := .ref h_bytes) (C := RX6) (T := TX6) (N := 12) hx hb hw inAX6 hown hK hP 0 rfl rfl 0 (by decide) (hw _ q_89) (fun _ h9 => h9) n62 dX6_advance_134 ?_
            refine lv_aload_n hx hb dX6_advance_137 rfl (lv_at hl 0 rfl) ?_
            refine get_f (D := D) (ci := 6) (v := .int u2) (C := RX6) (T := TX6) (N := 12) hx hb hw inAX6 hown hK hP 0 rfl rfl 10 (by decide) (hw _ q_110) (fun _ h9 => h9) n55 dX6_advance_138 ?_
            refine va_bald hx hb hK hP 1 2 rfl rfl (ix_k k57 (by decide) (by decide)) dX6_advance_141 ?_
            refine lv_ci (y := v63) ev63.symm ?_
            refine put_f (D := D) (ci := 6) (v := .int v63) (ty := .int) (C := RX6) (T := TX6) (N := 12) hx hb hw inAX6 tyX6 tyX6_ok nmX6 hown hK hP hD hS 0 rfl rfl 2 (by decide) (hw _ q_92) (fun _ h9 => h9) rfl (by decide +kernel) rfl rfl dX6_advance_142 (fun H locs F91 eF91 hP hD hS => ?_)
            have hP : va_P D vwCl [(h0, .inr (6, vL 12 F91)), (h_bytes, .inl (cB, 940, .inl f_bytes)), (h_wordNames, .inl (cJ, 23, .inr (.inl f_wordNames)))] H := hP
            have hD : va_D A [(h0, .inr (6, vL 12 F91)), (h_bytes, .inl (cB, 940, .inl f_bytes)), (h_wordNames, .inl (cJ, 23, .inr (.inl f_wordNames)))] := hD
            refine lv_aload_n hx hb dX6_advance_145 rfl (lv_at hl 0 rfl) ?_
            refine lv_dup hx hb dX6_advance_146 rfl ?_
            have n92 : F91 10 = .int u2 := (get_ne eF91 (by decide) n55)
            refine get_f (D := D) (ci := 6) (v := .int u2) (C := RX6) (T := TX6) (N := 12) hx hb hw inAX6 hown hK hP 0 rfl rfl 10 (by decide) (hw _ q_110) (fun _ h9 => h9) n92 dX6_advance_147 ?_
            refine lv_iconst (v := 1) hx hb dX6_advance_150 (by decide) ?_
            refine lv_iadd hx hb dX6_advance_151 ?_
            refine lv_topi (fun v93 ev93 => ?_)
            have bv93 : v93.toInt = u2.toInt + 1 := by rw [ev93]; exact add_k rfl rfl k57 ⟨Int.le_refl _, Int.le_refl _⟩ (by decide)
            have k94 : 1 ≤ v93.toInt ∧ v93.toInt ≤ 939 := add_r bv93 k57 ⟨Int.le_refl _, Int.le_refl _⟩ (by decide)
            refine put_f (D := D) (ci := 6) (v := .int v93) (ty := .int) (C := RX6) (T := TX6) (N := 12) hx hb hw inAX6 tyX6 tyX6_ok nmX6 hown hK hP hD hS 0 rfl rfl 10 (by decide) (hw _ q_110) (fun _ h9 => h9) rfl (by decide +kernel) rfl rfl dX6_advance_152 (fun H locs F95 eF95 hP hD hS => ?_)
            have hP : va_P D vwCl [(h0, .inr (6, vL 12 F95)), (h_bytes, .inl (cB, 940, .inl f_bytes)), (h_wordNames, .inl (cJ, 23, .inr (.inl f_wordNames)))] H := hP
            have hD : va_D A [(h0, .inr (6, vL 12 F95)), (h_bytes, .inl (cB, 940, .inl f_bytes)), (h_wordNames, .inl (cJ, 23, .inr (.inl f_wordNames)))] := hD
            refine lv_goto (tgt := 189) hx hb dX6_advance_155 (by decide) ?_
            exact ret_v hx hb hr hlocks hS hP hD dX6_advance_189 (Nat.le_of_ble_eq_true rfl) (Nat.le_of_ble_eq_true rfl) ⟨F95, v63, u2, x_value, x_name, v93, (SAME.up eF95 (SAME.up eF91 (SAME.up eF7 (SAME.tr SAME.rf i4 (by decide)) (by decide)) (by decide)) (by decide)), (get_ne eF95 (by decide) (get_eq eF91)), (get_ne eF95 (by decide) (get_ne eF91 (by decide) (get_eq eF7))), (ir_wk k57 (by decide) (by decide)), (get_ne eF95 (by decide) (get_ne eF91 (by decide) (get_ne eF7 (by decide) (SAME.at i4 (by decide) e_value)))), (get_ne eF95 (by decide) (get_ne eF91 (by decide) (get_ne eF7 (by decide) (SAME.at i4 (by decide) e_name)))), (get_eq eF95), (ir_wk k94 (by decide) (by decide)), rfl⟩
        · have dc59 : x_length.toInt ≤ u2.toInt := nlt_i (a := u2.toInt) (b := x_length.toInt) rfl rfl c59
          have k96 : 0 ≤ x_length.toInt ∧ x_length.toInt ≤ 938 := ⟨i_x_length.1, Int.le_trans dc59 k57.2⟩
          refine lv_aload_n hx hb dX6_advance_109 rfl (lv_at hl 0 rfl) ?_
          refine lv_iconst (v := 0) hx hb dX6_advance_110 (by decide) ?_
          refine put_f (D := D) (ci := 6) (v := .int 0) (ty := .int) (C := RX6) (T := TX6) (N := 12) hx hb hw inAX6 tyX6 tyX6_ok nmX6 hown hK hP hD hS 0 rfl rfl 2 (by decide) (hw _ q_92) (fun _ h9 => h9) rfl (by decide +kernel) rfl rfl dX6_advance_111 (fun H locs F97 eF97 hP hD hS => ?_)
          have hP : va_P D vwCl [(h0, .inr (6, vL 12 F97)), (h_bytes, .inl (cB, 940, .inl f_bytes)), (h_wordNames, .inl (cJ, 23, .inr (.inl f_wordNames)))] H := hP
          have hD : va_D A [(h0, .inr (6, vL 12 F97)), (h_bytes, .inl (cB, 940, .inl f_bytes)), (h_wordNames, .inl (cJ, 23, .inr (.inl f_wordNames)))] := hD
          refine lv_goto (tgt := 189) hx hb dX6_advance_114 (by decide) ?_
          exact ret_v hx hb hr hlocks hS hP hD dX6_advance_189 (Nat.le_of_ble_eq_true rfl) (Nat.le_of_ble_eq_true rfl) ⟨F97, 0, u2, x_value, x_name, u2, (SAME.up eF97 (SAME.up eF7 (SAME.tr SAME.rf i4 (by decide)) (by decide)) (by decide)), (get_eq eF97), (get_ne eF97 (by decide) (get_eq eF7)), (ir_wk k57 (by decide) (by decide)), (get_ne eF97 (by decide) (get_ne eF7 (by decide) (SAME.at i4 (by decide) e_value))), (get_ne eF97 (by decide) (get_ne eF7 (by decide) (SAME.at i4 (by decide) e_name))), (get_ne eF97 (by decide) n55), (ir_wk k57 (by decide) (by decide)), rfl⟩
      · have dc56 : x_mostBytes.toInt ≤ u2.toInt := nlt_i (a := u2.toInt) (b := x_mostBytes.toInt) rfl rfl c56
        refine lv_aload_n hx hb dX6_advance_82 rfl (lv_at hl 0 rfl) ?_
        refine lv_aload_n hx hb dX6_advance_83 rfl (lv_at hl 0 rfl) ?_
        refine get_f (D := D) (ci := 6) (v := .int x_mostBytes) (C := RX6) (T := TX6) (N := 12) hx hb hw inAX6 hown hK hP 0 rfl rfl 11 (by decide) (hw _ q_111) (fun _ h9 => h9) n11 dX6_advance_84 ?_
        refine put_f (D := D) (ci := 6) (v := .int x_mostBytes) (ty := .int) (C := RX6) (T := TX6) (N := 12) hx hb hw inAX6 tyX6 tyX6_ok nmX6 hown hK hP hD hS 0 rfl rfl 3 (by decide) (hw _ q_96) (fun _ h9 => h9) rfl (by decide +kernel) rfl rfl dX6_advance_87 (fun H locs F98 eF98 hP hD hS => ?_)
        have hP : va_P D vwCl [(h0, .inr (6, vL 12 F98)), (h_bytes, .inl (cB, 940, .inl f_bytes)), (h_wordNames, .inl (cJ, 23, .inr (.inl f_wordNames)))] H := hP
        have hD : va_D A [(h0, .inr (6, vL 12 F98)), (h_bytes, .inl (cB, 940, .inl f_bytes)), (h_wordNames, .inl (cJ, 23, .inr (.inl f_wordNames)))] := hD
        refine lv_aload_n hx hb dX6_advance_90 rfl (lv_at hl 0 rfl) ?_
        refine lv_iconst (v := 1) hx hb dX6_advance_91 (by decide) ?_
        refine put_f (D := D) (ci := 6) (v := .int 1) (ty := .int) (C := RX6) (T := TX6) (N := 12) hx hb hw inAX6 tyX6 tyX6_ok nmX6 hown hK hP hD hS 0 rfl rfl 2 (by decide) (hw _ q_92) (fun _ h9 => h9) rfl (by decide +kernel) rfl rfl dX6_advance_92 (fun H locs F99 eF99 hP hD hS => ?_)
        have hP : va_P D vwCl [(h0, .inr (6, vL 12 F99)), (h_bytes, .inl (cB, 940, .inl f_bytes)), (h_wordNames, .inl (cJ, 23, .inr (.inl f_wordNames)))] H := hP
        have hD : va_D A [(h0, .inr (6, vL 12 F99)), (h_bytes, .inl (cB, 940, .inl f_bytes)), (h_wordNames, .inl (cJ, 23, .inr (.inl f_wordNames)))] := hD
        refine lv_goto (tgt := 189) hx hb dX6_advance_95 (by decide) ?_
        exact ret_v hx hb hr hlocks hS hP hD dX6_advance_189 (Nat.le_of_ble_eq_true rfl) (Nat.le_of_ble_eq_true rfl) ⟨F99, 1, x_mostBytes, x_value, x_name, u2, (SAME.up eF99 (SAME.up eF98 (SAME.up eF7 (SAME.tr SAME.rf i4 (by decide)) (by decide)) (by decide)) (by decide)), (get_eq eF99), (get_ne eF99 (by decide) (get_eq eF98)), (ir_wk k54 (by decide) (by decide)), (get_ne eF99 (by decide) (get_ne eF98 (by decide) (get_ne eF7 (by decide) (SAME.at i4 (by decide) e_value)))), (get_ne eF99 (by decide) (get_ne eF98 (by decide) (get_ne eF7 (by decide) (SAME.at i4 (by decide) e_name)))), (get_ne eF99 (by decide) (get_ne eF98 (by decide) n55)), i6, rfl⟩
  refine mloop (α := (Nat → Value) × (Int32)) (nL := 1) (D := D) (A := A) (H0 := s.heap) (fun a => (x_length.toInt - a.2.toInt).toNat) (fun a => SAME [10] Fh a.1 ∧ a.1 10 = .int a.2 ∧ IR 0 940 a.2) (fun a => [(h0, .inr (6, vL 12 a.1)), (h_bytes, .inl (cB, 940, .inl f_bytes)), (h_wordNames, .inl (cJ, 23, .inr (.inl f_wordNames)))]) (fun a => [(0, .ref h0)]) (fun H locs ls => W p l e ({ frames := 1, cells := 0, slots := 0, locals := 23 } : Room) s m [.ref h0].toArray below meth c H locs 0 0 (MQ below (va_Qv (fun (u : va_W) => ∃ (Gh : Nat → Value) (y_kind : Int32) (y_place : Int32) (y_value : Int32) (y_name : Int64) (y_at : Int32), SAME [2, 3, 4, 5, 10] Fh Gh ∧ Gh 2 = .int y_kind ∧ Gh 3 = .int y_place ∧ IR (-2147483648) 940 y_place ∧ Gh 4 = .int y_value ∧ Gh 5 = .long y_name ∧ Gh 10 = .int y_at ∧ IR 0 940 y_at ∧ u = [(h0, .inr (6, vL 12 Gh)), (h_bytes, .inl (cB, 940, .inl f_bytes)), (h_wordNames, .inl (cJ, 23, .inr (.inl f_wordNames)))]) (PO D A) A) [.ref h0].toArray s 0 0 A) (F0 m 0 ls [])) ?_ (Fh, x_at) ⟨SAME.rf, e_at, i_x_at⟩ _ _ _ hP hD hS hl
  rintro ⟨G1, u2⟩ ⟨i100, i101, i102⟩ ih H locs ls hP hD hS hl
  have i102 : 0 ≤ u2.toInt ∧ u2.toInt ≤ 940 := i102
  have hP : va_P D vwCl [(h0, .inr (6, vL 12 G1)), (h_bytes, .inl (cB, 940, .inl f_bytes)), (h_wordNames, .inl (cJ, 23, .inr (.inl f_wordNames)))] H := hP
  have hD : va_D A [(h0, .inr (6, vL 12 G1)), (h_bytes, .inl (cB, 940, .inl f_bytes)), (h_wordNames, .inl (cJ, 23, .inr (.inl f_wordNames)))] := hD
  have hl : lv_has ls 1 [(0, .ref h0)] := hl
  refine lv_aload_n hx hb dX6_advance_0 rfl (lv_at hl 0 rfl) ?_
  refine get_f (D := D) (ci := 6) (v := .int u2) (C := RX6) (T := TX6) (N := 12) hx hb hw inAX6 hown hK hP 0 rfl rfl 10 (by decide) (hw _ q_110) (fun _ h9 => h9) i101 dX6_advance_1 ?_
  refine lv_aload_n hx hb dX6_advance_4 rfl (lv_at hl 0 rfl) ?_
  have n103 : G1 1 = .int x_length := (SAME.at i100 (by decide) e_length)
  refine get_f (D := D) (ci := 6) (v := .int x_length) (C := RX6) (T := TX6) (N := 12) hx hb hw inAX6 hown hK hP 0 rfl rfl 1 (by decide) (hw _ q_90) (fun _ h9 => h9) n103 dX6_advance_5 ?_
  refine lv_icmp_ge (tgt := 52) hx hb dX6_advance_8 (by decide) (fun c104 => ?_) (fun c104 => ?_)
  · have dc104 : x_length.toInt ≤ u2.toInt := le_i (a := x_length.toInt) (b := u2.toInt) rfl rfl c104
    exact cut3 G1 u2 (SAME.tr SAME.rf i100 (by decide)) i101 i102 _ _ _ hP hD hS (lv_sub hl [0] rfl)
  · have dc104 : u2.toInt < x_length.toInt := nle_i (a := x_length.toInt) (b := u2.toInt) rfl rfl c104
    have k105 : 0 ≤ u2.toInt ∧ u2.toInt ≤ 939 := ⟨i102.1, up_lt dc104 i_x_length.2 (by decide)⟩
    have k106 : 1 ≤ x_length.toInt ∧ x_length.toInt ≤ 940 := ⟨lo_lt dc104 i102.1 (by decide), i_x_length.2⟩
    refine lv_aload_n hx hb dX6_advance_11 rfl (lv_at hl 0 rfl) ?_
    have n107 : G1 0 = .ref h_bytes := (SAME.at i100 (by decide) e_bytes)
    refine get_f (D := D) (ci := 6) (v := .ref h_bytes) (C := RX6) (T := TX6) (N := 12) hx hb hw inAX6 hown hK hP 0 rfl rfl 0 (by decide) (hw _ q_89) (fun _ h9 => h9) n107 dX6_advance_12 ?_
    refine lv_aload_n hx hb dX6_advance_15 rfl (lv_at hl 0 rfl) ?_
    refine get_f (D := D) (ci := 6) (v := .int u2) (C := RX6) (T := TX6) (N := 12) hx hb hw inAX6 hown hK hP 0 rfl rfl 10 (by decide) (hw _ q_110) (fun _ h9 => h9) i101 dX6_advance_16 ?_
    refine va_bald hx hb hK hP 1 2 rfl rfl (ix_k k105 (by decide) (by decide)) dX6_advance_19 ?_
    refine lv_topi (fun v108 ev108 => ?_)
    refine lv_bipush (v := 32) hx hb dX6_advance_20 (by decide) ?_
    refine lv_icmp_eq (tgt := 39) hx hb dX6_advance_22 (by decide) (fun c109 => ?_) (fun c109 => ?_)
    · have dc109 : v108.toInt = 32 := eq_i (a := v108.toInt) (b := 32) rfl rfl c109
      have k110 : 32 ≤ v108.toInt ∧ v108.toInt ≤ 32 := ⟨Int.le_trans (Int.le_refl _) (Int.le_of_eq dc109.symm), Int.le_trans (Int.le_of_eq dc109) (Int.le_refl _)⟩
      refine lv_aload_n hx hb dX6_advance_39 rfl (lv_at hl 0 rfl) ?_
      refine lv_dup hx hb dX6_advance_40 rfl ?_
      refine get_f (D := D) (ci := 6) (v := .int u2) (C := RX6) (T := TX6) (N := 12) hx hb hw inAX6 hown hK hP 0 rfl rfl 10 (by decide) (hw _ q_110) (fun _ h9 => h9) i101 dX6_advance_41 ?_
      refine lv_iconst (v := 1) hx hb dX6_advance_44 (by decide) ?_
      refine lv_iadd hx hb dX6_advance_45 ?_
      refine lv_topi (fun v111 ev111 => ?_)
      have bv111 : v111.toInt = u2.toInt + 1 := by rw [ev111]; exact add_k rfl rfl k105 ⟨Int.le_refl _, Int.le_refl _⟩ (by decide)
      have k112 : 1 ≤ v111.toInt ∧ v111.toInt ≤ 940 := add_r bv111 k105 ⟨Int.le_refl _, Int.le_refl _⟩ (by decide)
      refine put_f (D := D) (ci := 6) (v := .int v111) (ty := .int) (C := RX6) (T := TX6) (N := 12) hx hb hw inAX6 tyX6 tyX6_ok nmX6 hown hK hP hD hS 0 rfl rfl 10 (by decide) (hw _ q_110) (fun _ h9 => h9) rfl (by decide +kernel) rfl rfl dX6_advance_46 (fun H locs F113 eF113 hP hD hS => ?_)
      have hP : va_P D vwCl [(h0, .inr (6, vL 12 F113)), (h_bytes, .inl (cB, 940, .inl f_bytes)), (h_wordNames, .inl (cJ, 23, .inr (.inl f_wordNames)))] H := hP
      have hD : va_D A [(h0, .inr (6, vL 12 F113)), (h_bytes, .inl (cB, 940, .inl f_bytes)), (h_wordNames, .inl (cJ, 23, .inr (.inl f_wordNames)))] := hD
      refine lv_goto (tgt := 0) hx hb dX6_advance_49 (by decide) ?_
      exact ih (F113, v111) ⟨(SAME.up eF113 (SAME.tr SAME.rf i100 (by decide)) (by decide)), (get_eq eF113), (ir_wk k112 (by decide) (by decide))⟩ (by show (x_length.toInt - v111.toInt).toNat < (x_length.toInt - u2.toInt).toNat; omega) _ _ _ hP hD hS (lv_sub hl [0] rfl)
    · have dc109 : v108.toInt ≠ 32 := ne_i (a := v108.toInt) (b := 32) rfl rfl c109
      refine lv_aload_n hx hb dX6_advance_25 rfl (lv_at hl 0 rfl) ?_
      refine get_f (D := D) (ci := 6) (v := .ref h_bytes) (C := RX6) (T := TX6) (N := 12) hx hb hw inAX6 hown hK hP 0 rfl rfl 0 (by decide) (hw _ q_89) (fun _ h9 => h9) n107 dX6_advance_26 ?_
      refine lv_aload_n hx hb dX6_advance_29 rfl (lv_at hl 0 rfl) ?_
      refine get_f (D := D) (ci := 6) (v := .int u2) (C := RX6) (T := TX6) (N := 12) hx hb hw inAX6 hown hK hP 0 rfl rfl 10 (by decide) (hw _ q_110) (fun _ h9 => h9) i101 dX6_advance_30 ?_
      refine va_bald hx hb hK hP 1 2 rfl rfl (ix_k k105 (by decide) (by decide)) dX6_advance_33 ?_
      refine lv_ci (y := v108) ev108.symm ?_
      refine lv_bipush (v := 10) hx hb dX6_advance_34 (by decide) ?_
      refine lv_icmp_ne (tgt := 52) hx hb dX6_advance_36 (by decide) (fun c114 => ?_) (fun c114 => ?_)
      · have dc114 : v108.toInt ≠ 10 := ne_i (a := v108.toInt) (b := 10) rfl rfl c114
        exact cut3 G1 u2 (SAME.tr SAME.rf i100 (by decide)) i101 (ir_wk k105 (by decide) (by decide)) _ _ _ hP hD hS (lv_sub hl [0] rfl)
      · have dc114 : v108.toInt = 10 := eq_i (a := v108.toInt) (b := 10) rfl rfl c114
        have k115 : 10 ≤ v108.toInt ∧ v108.toInt ≤ 10 := ⟨Int.le_trans (Int.le_refl _) (Int.le_of_eq dc114.symm), Int.le_trans (Int.le_of_eq dc114) (Int.le_refl _)⟩
        refine lv_aload_n hx hb dX6_advance_39 rfl (lv_at hl 0 rfl) ?_
        refine lv_dup hx hb dX6_advance_40 rfl ?_
        refine get_f (D := D) (ci := 6) (v := .int u2) (C := RX6) (T := TX6) (N := 12) hx hb hw inAX6 hown hK hP 0 rfl rfl 10 (by decide) (hw _ q_110) (fun _ h9 => h9) i101 dX6_advance_41 ?_
        refine lv_iconst (v := 1) hx hb dX6_advance_44 (by decide) ?_
        refine lv_iadd hx hb dX6_advance_45 ?_
        refine lv_topi (fun v116 ev116 => ?_)
        have bv116 : v116.toInt = u2.toInt + 1 := by rw [ev116]; exact add_k rfl rfl k105 ⟨Int.le_refl _, Int.le_refl _⟩ (by decide)
        have k117 : 1 ≤ v116.toInt ∧ v116.toInt ≤ 940 := add_r bv116 k105 ⟨Int.le_refl _, Int.le_refl _⟩ (by decide)
        refine put_f (D := D) (ci := 6) (v := .int v116) (ty := .int) (C := RX6) (T := TX6) (N := 12) hx hb hw inAX6 tyX6 tyX6_ok nmX6 hown hK hP hD hS 0 rfl rfl 10 (by decide) (hw _ q_110) (fun _ h9 => h9) rfl (by decide +kernel) rfl rfl dX6_advance_46 (fun H locs F118 eF118 hP hD hS => ?_)
        have hP : va_P D vwCl [(h0, .inr (6, vL 12 F118)), (h_bytes, .inl (cB, 940, .inl f_bytes)), (h_wordNames, .inl (cJ, 23, .inr (.inl f_wordNames)))] H := hP
        have hD : va_D A [(h0, .inr (6, vL 12 F118)), (h_bytes, .inl (cB, 940, .inl f_bytes)), (h_wordNames, .inl (cJ, 23, .inr (.inl f_wordNames)))] := hD
        refine lv_goto (tgt := 0) hx hb dX6_advance_49 (by decide) ?_
        exact ih (F118, v116) ⟨(SAME.up eF118 (SAME.tr SAME.rf i100 (by decide)) (by decide)), (get_eq eF118), (ir_wk k117 (by decide) (by decide))⟩ (by show (x_length.toInt - v116.toInt).toNat < (x_length.toInt - u2.toInt).toNat; omega) _ _ _ hP hD hS (lv_sub hl [0] rfl)
set_option maxHeartbeats 4000000 in
set_option maxRecDepth 100000 in
theorem m_X6_open (l : Launch) (D : va_G) (cI cJ cB cP cM cZ : ClassId) (h0 : Nat) (h_bytes : Nat) (h_wordNames : Nat) (Fh : Nat → Value) (x_length : Int32) (x_value : Int32) (x_name : Int64) (f_bytes : Nat → Int32) (f_wordNames : Nat → Int64) (p0 : Int32) (sz : Nat) (e_bytes : Fh 0 = .ref h_bytes) (e_length : Fh 1 = .int x_length) (i_x_length : IR 0 940 x_length) (e_value : Fh 4 = .int x_value) (e_name : Fh 5 = .long x_name) (e_wordNames : Fh 9 = .ref h_wordNames) : CV l yX6_open cX6_open 2 none { frames := 2, cells := 0, slots := 0, locals := 43 } (GG D cI cJ cB cP cM cZ) D [(h0, .inr (6, vL 12 Fh)), (h_bytes, .inl (cB, 940, .inl f_bytes)), (h_wordNames, .inl (cJ, 23, .inr (.inl f_wordNames)))] sz [.ref h0, .int p0] (fun (u : va_W) => ∃ (Gh : Nat → Value) (y_kind : Int32) (y_place : Int32) (y_value : Int32) (y_name : Int64) (y_at : Int32), SAME [2, 3, 4, 5, 10, 11] Fh Gh ∧ Gh 2 = .int y_kind ∧ Gh 3 = .int y_place ∧ IR (-2147483648) 940 y_place ∧ Gh 4 = .int y_value ∧ Gh 5 = .long y_name ∧ Gh 10 = .int y_at ∧ IR 0 940 y_at ∧ Gh 11 = .int p0 ∧ u = [(h0, .inr (6, vL 12 Gh)), (h_bytes, .inl (cB, 940, .inl f_bytes)), (h_wordNames, .inl (cJ, 23, .inr (.inl f_wordNames)))]) := by
  refine CV_mk (by decide) (Nat.le_of_ble_eq_true rfl) ?_
  intro p e s m below meth c A ls E hAe hG hsz hP hD hA hS hl
  obtain ⟨hx, hb, hr, hw, hown, hlocks, hml, hnm⟩ := E
  have hK := hG.1
  have i_x_length : 0 ≤ x_length.toInt ∧ x_length.toInt ≤ 940 := i_x_length
  have hl : lv_has ls 2 [(0, .ref h0), (1, .int p0)] := hl
  refine lv_aload_n hx hb dX6_open_0 rfl (lv_at hl 0 rfl) ?_
  refine lv_iload_n hx hb dX6_open_1 rfl (lv_at hl 1 rfl) ?_
  refine put_f (D := D) (ci := 6) (v := .int p0) (ty := .int) (C := RX6) (T := TX6) (N := 12) hx hb hw inAX6 tyX6 tyX6_ok nmX6 hown hK hP hD hS 0 rfl rfl 11 (by decide) (hw _ q_111) (fun _ h9 => h9) rfl (by decide +kernel) rfl rfl dX6_open_2 (fun H locs F1 eF1 hP hD hS => ?_)
  have hP : va_P D vwCl [(h0, .inr (6, vL 12 F1)), (h_bytes, .inl (cB, 940, .inl f_bytes)), (h_wordNames, .inl (cJ, 23, .inr (.inl f_wordNames)))] H := hP
  have hD : va_D A [(h0, .inr (6, vL 12 F1)), (h_bytes, .inl (cB, 940, .inl f_bytes)), (h_wordNames, .inl (cJ, 23, .inr (.inl f_wordNames)))] := hD
  refine lv_aload_n hx hb dX6_open_5 rfl (lv_at hl 0 rfl) ?_
  refine lv_iconst (v := 0) hx hb dX6_open_6 (by decide) ?_
  refine put_f (D := D) (ci := 6) (v := .int 0) (ty := .int) (C := RX6) (T := TX6) (N := 12) hx hb hw inAX6 tyX6 tyX6_ok nmX6 hown hK hP hD hS 0 rfl rfl 10 (by decide) (hw _ q_110) (fun _ h9 => h9) rfl (by decide +kernel) rfl rfl dX6_open_7 (fun H locs F2 eF2 hP hD hS => ?_)
  have hP : va_P D vwCl [(h0, .inr (6, vL 12 F2)), (h_bytes, .inl (cB, 940, .inl f_bytes)), (h_wordNames, .inl (cJ, 23, .inr (.inl f_wordNames)))] H := hP
  have hD : va_D A [(h0, .inr (6, vL 12 F2)), (h_bytes, .inl (cB, 940, .inl f_bytes)), (h_wordNames, .inl (cJ, 23, .inr (.inl f_wordNames)))] := hD
  refine lv_aload_n hx hb dX6_open_10 rfl (lv_at hl 0 rfl) ?_
  have n3 : F1 0 = .ref h_bytes := (get_ne eF1 (by decide) e_bytes)
  have n4 : F2 0 = .ref h_bytes := (get_ne eF2 (by decide) n3)
  have n5 : F1 1 = .int x_length := (get_ne eF1 (by decide) e_length)
  have n6 : F2 1 = .int x_length := (get_ne eF2 (by decide) n5)
  have n7 : F1 4 = .int x_value := (get_ne eF1 (by decide) e_value)
  have n8 : F2 4 = .int x_value := (get_ne eF2 (by decide) n7)
  have n9 : F1 5 = .long x_name := (get_ne eF1 (by decide) e_name)
  have n10 : F2 5 = .long x_name := (get_ne eF2 (by decide) n9)
  have n11 : F1 9 = .ref h_wordNames := (get_ne eF1 (by decide) e_wordNames)
  have n12 : F2 9 = .ref h_wordNames := (get_ne eF2 (by decide) n11)
  have n13 : F2 11 = .int p0 := (get_ne eF2 (by decide) (get_eq eF1))
  refine call_Vv (wr := []) (As := []) (rest := []) hx hb hml hown hw (m_X6_advance l D cI cJ cB cP cM cZ h0 h_bytes h_wordNames F2 x_length x_value x_name 0 p0 f_bytes f_wordNames _ n4 n6 i_x_length n8 n10 n12 (get_eq eF2) (show 0 ≤ (0 : Int32).toInt ∧ (0 : Int32).toInt ≤ 940 by decide) n13) wV_X6_66_X6_advance dX6_open_11 hK hP hD hS hA [0, 1, 2] [] rfl rfl (by decide) (by decide) (by decide) 0 6 rfl rfl GG.fb hG.at hl.1 rfl (Nat.le_of_ble_eq_true rfl) ⟨(Nat.le_of_ble_eq_true rfl), (Nat.le_of_ble_eq_true rfl)⟩ ⟨(Nat.le_of_ble_eq_true rfl), (Nat.le_of_ble_eq_true rfl)⟩ (fun u H locs hp hP hD hS => ?_)
  obtain ⟨F15, y16, y17, y18, y19, y20, t21, t22, t23, t24, t25, t26, t27, t28, rfl⟩ := hp
  have hP : va_P D vwCl [(h0, .inr (6, vL 12 F15)), (h_bytes, .inl (cB, 940, .inl f_bytes)), (h_wordNames, .inl (cJ, 23, .inr (.inl f_wordNames)))] H := hP
  have hD : va_D A [(h0, .inr (6, vL 12 F15)), (h_bytes, .inl (cB, 940, .inl f_bytes)), (h_wordNames, .inl (cJ, 23, .inr (.inl f_wordNames)))] := hD
  refine W.widen (k := 0) (n := 0) (Nat.le_of_ble_eq_true rfl) (Nat.le_of_ble_eq_true rfl) ?_
  exact ret_v hx hb hr hlocks hS hP hD dX6_open_14 (Nat.le_of_ble_eq_true rfl) (Nat.le_of_ble_eq_true rfl) ⟨F15, y16, y17, y18, y19, y20, (SAME.tr (SAME.up eF2 (SAME.up eF1 SAME.rf (by decide)) (by decide)) t21 (by decide)), t22, t23, t24, t25, t26, t27, t28, (SAME.at t21 (by decide) n13), rfl⟩
set_option maxHeartbeats 4000000 in
set_option maxRecDepth 100000 in
theorem m_X6_wordHere (l : Launch) (D : va_G) (cI cJ cB cP cM cZ : ClassId) (h0 : Nat) (Fh : Nat → Value) (x_kind : Int32) (x_value : Int32) (sz : Nat) (e_kind : Fh 2 = .int x_kind) (e_value : Fh 4 = .int x_value) : CI l yX6_wordHere cX6_wordHere 1 (some .int) { frames := 0, cells := 0, slots := 0, locals := 0 } (GG D cI cJ cB cP cM cZ) D [(h0, .inr (6, vL 12 Fh))] sz [.ref h0] (fun (r : Int32) (u : va_W) => (x_kind.toInt ≠ 2 ∧ r = (-1) ∧ u = [(h0, .inr (6, vL 12 Fh))]) ∨ (x_kind.toInt = 2 ∧ r = x_value ∧ u = [(h0, .inr (6, vL 12 Fh))])) := by
  refine CI_mk (by decide) (Nat.le_of_ble_eq_true rfl) ?_
  intro p e s m below meth c A ls E hAe hG hsz hP hD hA hS hl
  obtain ⟨hx, hb, hr, hw, hown, hlocks, hml, hnm⟩ := E
  have hK := hG.1
  have hl : lv_has ls 1 [(0, .ref h0)] := hl
  refine lv_aload_n hx hb dX6_wordHere_0 rfl (lv_at hl 0 rfl) ?_
  refine get_f (D := D) (ci := 6) (v := .int x_kind) (C := RX6) (T := TX6) (N := 12) hx hb hw inAX6 hown hK hP 0 rfl rfl 2 (by decide) (hw _ q_92) (fun _ h9 => h9) e_kind dX6_wordHere_1 ?_
  refine lv_iconst (v := 2) hx hb dX6_wordHere_4 (by decide) ?_
  refine lv_icmp_ne (tgt := 15) hx hb dX6_wordHere_5 (by decide) (fun c1 => ?_) (fun c1 => ?_)
  · have dc1 : x_kind.toInt ≠ 2 := ne_i (a := x_kind.toInt) (b := 2) rfl rfl c1
    refine lv_iconst (v := (-1)) hx hb dX6_wordHere_15 (by decide) ?_
    exact ret_i (v := (-1)) hx hb hr hlocks hS hP hD dX6_wordHere_16 rfl (Nat.le_of_ble_eq_true rfl) (Nat.le_of_ble_eq_true rfl) (Or.inl ⟨dc1, rfl, rfl⟩)
  · have dc1 : x_kind.toInt = 2 := eq_i (a := x_kind.toInt) (b := 2) rfl rfl c1
    have k2 : 2 ≤ x_kind.toInt ∧ x_kind.toInt ≤ 2 := ⟨Int.le_trans (Int.le_refl _) (Int.le_of_eq dc1.symm), Int.le_trans (Int.le_of_eq dc1) (Int.le_refl _)⟩
    refine lv_aload_n hx hb dX6_wordHere_8 rfl (lv_at hl 0 rfl) ?_
    refine get_f (D := D) (ci := 6) (v := .int x_value) (C := RX6) (T := TX6) (N := 12) hx hb hw inAX6 hown hK hP 0 rfl rfl 4 (by decide) (hw _ q_97) (fun _ h9 => h9) e_value dX6_wordHere_9 ?_
    refine lv_goto (tgt := 16) hx hb dX6_wordHere_12 (by decide) ?_
    exact ret_i (v := x_value) hx hb hr hlocks hS hP hD dX6_wordHere_16 rfl (Nat.le_of_ble_eq_true rfl) (Nat.le_of_ble_eq_true rfl) (Or.inr ⟨dc1, rfl, rfl⟩)
set_option maxHeartbeats 4000000 in
set_option maxRecDepth 100000 in
theorem m_X6_fail (l : Launch) (D : va_G) (cI cJ cB cP cM cZ : ClassId) (h0 : Nat) (Fh : Nat → Value) (x_place : Int32) (p0 : Int32) (sz : Nat) (e_place : Fh 3 = .int x_place) : CI l yX6_fail cX6_fail 2 (some .boolean) { frames := 0, cells := 0, slots := 0, locals := 0 } (GG D cI cJ cB cP cM cZ) D [(h0, .inr (6, vL 12 Fh))] sz [.ref h0, .int p0] (fun (r : Int32) (u : va_W) => ∃ (Gh : Nat → Value), SAME [7, 8] Fh Gh ∧ Gh 7 = .int p0 ∧ Gh 8 = .int x_place ∧ r = 0 ∧ u = [(h0, .inr (6, vL 12 Gh))]) := by
  refine CI_mk (by decide) (Nat.le_of_ble_eq_true rfl) ?_
  intro p e s m below meth c A ls E hAe hG hsz hP hD hA hS hl
  obtain ⟨hx, hb, hr, hw, hown, hlocks, hml, hnm⟩ := E
  have hK := hG.1
  have hl : lv_has ls 2 [(0, .ref h0), (1, .int p0)] := hl
  refine lv_aload_n hx hb dX6_fail_0 rfl (lv_at hl 0 rfl) ?_
  refine lv_iload_n hx hb dX6_fail_1 rfl (lv_at hl 1 rfl) ?_
  refine put_f (D := D) (ci := 6) (v := .int p0) (ty := .int) (C := RX6) (T := TX6) (N := 12) hx hb hw inAX6 tyX6 tyX6_ok nmX6 hown hK hP hD hS 0 rfl rfl 7 (by decide) (hw _ q_105) (fun _ h9 => h9) rfl (by decide +kernel) rfl rfl dX6_fail_2 (fun H locs F1 eF1 hP hD hS => ?_)
  have hP : va_P D vwCl [(h0, .inr (6, vL 12 F1))] H := hP
  have hD : va_D A [(h0, .inr (6, vL 12 F1))] := hD
  refine lv_aload_n hx hb dX6_fail_5 rfl (lv_at hl 0 rfl) ?_
  refine lv_aload_n hx hb dX6_fail_6 rfl (lv_at hl 0 rfl) ?_
  have n2 : F1 3 = .int x_place := (get_ne eF1 (by decide) e_place)
  refine get_f (D := D) (ci := 6) (v := .int x_place) (C := RX6) (T := TX6) (N := 12) hx hb hw inAX6 hown hK hP 0 rfl rfl 3 (by decide) (hw _ q_96) (fun _ h9 => h9) n2 dX6_fail_7 ?_
  refine put_f (D := D) (ci := 6) (v := .int x_place) (ty := .int) (C := RX6) (T := TX6) (N := 12) hx hb hw inAX6 tyX6 tyX6_ok nmX6 hown hK hP hD hS 0 rfl rfl 8 (by decide) (hw _ q_107) (fun _ h9 => h9) rfl (by decide +kernel) rfl rfl dX6_fail_10 (fun H locs F3 eF3 hP hD hS => ?_)
  have hP : va_P D vwCl [(h0, .inr (6, vL 12 F3))] H := hP
  have hD : va_D A [(h0, .inr (6, vL 12 F3))] := hD
  refine lv_iconst (v := 0) hx hb dX6_fail_13 (by decide) ?_
  exact ret_i (v := 0) hx hb hr hlocks hS hP hD dX6_fail_14 rfl (Nat.le_of_ble_eq_true rfl) (Nat.le_of_ble_eq_true rfl) ⟨F3, (SAME.up eF3 (SAME.up eF1 SAME.rf (by decide)) (by decide)), (get_ne eF3 (by decide) (get_eq eF1)), (get_eq eF3), rfl, rfl⟩
set_option maxHeartbeats 4000000 in
set_option maxRecDepth 100000 in
theorem m_X6_isNumberWithin (l : Launch) (D : va_G) (cI cJ cB cP cM cZ : ClassId) (h0 : Nat) (Fh : Nat → Value) (x_kind : Int32) (x_place : Int32) (x_value : Int32) (p0 : Int32) (p1 : Int32) (sz : Nat) (e_kind : Fh 2 = .int x_kind) (e_place : Fh 3 = .int x_place) (e_value : Fh 4 = .int x_value) : CI l yX6_isNumberWithin cX6_isNumberWithin 3 (some .boolean) { frames := 1, cells := 0, slots := 0, locals := 21 } (GG D cI cJ cB cP cM cZ) D [(h0, .inr (6, vL 12 Fh))] sz [.ref h0, .int p0, .int p1] (fun (r : Int32) (u : va_W) => (∃ (Gh : Nat → Value) (y_faultKind : Int32), SAME [7, 8] Fh Gh ∧ Gh 7 = .int y_faultKind ∧ IR 1 2 y_faultKind ∧ Gh 8 = .int x_place ∧ r = 0 ∧ u = [(h0, .inr (6, vL 12 Gh))]) ∨ (x_kind.toInt = 3 ∧ p0.toInt ≤ x_value.toInt ∧ x_value.toInt ≤ p1.toInt ∧ r = 1 ∧ u = [(h0, .inr (6, vL 12 Fh))])) := by
  refine CI_mk (by decide) (Nat.le_of_ble_eq_true rfl) ?_
  intro p e s m below meth c A ls E hAe hG hsz hP hD hA hS hl
  obtain ⟨hx, hb, hr, hw, hown, hlocks, hml, hnm⟩ := E
  have hK := hG.1
  have hl : lv_has ls 3 [(0, .ref h0), (1, .int p0), (2, .int p1)] := hl
  refine lv_aload_n hx hb dX6_isNumberWithin_0 rfl (lv_at hl 0 rfl) ?_
  refine get_f (D := D) (ci := 6) (v := .int x_kind) (C := RX6) (T := TX6) (N := 12) hx hb hw inAX6 hown hK hP 0 rfl rfl 2 (by decide) (hw _ q_92) (fun _ h9 => h9) e_kind dX6_isNumberWithin_1 ?_
  refine lv_iconst (v := 3) hx hb dX6_isNumberWithin_4 (by decide) ?_
  refine lv_icmp_eq (tgt := 14) hx hb dX6_isNumberWithin_5 (by decide) (fun c1 => ?_) (fun c1 => ?_)
  · have dc1 : x_kind.toInt = 3 := eq_i (a := x_kind.toInt) (b := 3) rfl rfl c1
    have k2 : 3 ≤ x_kind.toInt ∧ x_kind.toInt ≤ 3 := ⟨Int.le_trans (Int.le_refl _) (Int.le_of_eq dc1.symm), Int.le_trans (Int.le_of_eq dc1) (Int.le_refl _)⟩
    refine lv_aload_n hx hb dX6_isNumberWithin_14 rfl (lv_at hl 0 rfl) ?_
    refine get_f (D := D) (ci := 6) (v := .int x_value) (C := RX6) (T := TX6) (N := 12) hx hb hw inAX6 hown hK hP 0 rfl rfl 4 (by decide) (hw _ q_97) (fun _ h9 => h9) e_value dX6_isNumberWithin_15 ?_
    refine lv_iload_n hx hb dX6_isNumberWithin_18 rfl (lv_at hl 1 rfl) ?_
    refine lv_icmp_lt (tgt := 30) hx hb dX6_isNumberWithin_19 (by decide) (fun c3 => ?_) (fun c3 => ?_)
    · have dc3 : x_value.toInt < p0.toInt := lt_i (a := x_value.toInt) (b := p0.toInt) rfl rfl c3
      have k4 : (-2147483648) ≤ x_value.toInt ∧ x_value.toInt ≤ 2147483646 := ⟨(ir_any _).1, up_lt dc3 (ir_any _).2 (by decide)⟩
      have k5 : (-2147483647) ≤ p0.toInt ∧ p0.toInt ≤ 2147483647 := ⟨lo_lt dc3 (ir_any _).1 (by decide), (ir_any _).2⟩
      refine lv_aload_n hx hb dX6_isNumberWithin_30 rfl (lv_at hl 0 rfl) ?_
      refine lv_iconst (v := 2) hx hb dX6_isNumberWithin_31 (by decide) ?_
      refine call_Vi (wr := []) (As := [.int 2]) (rest := []) hx hb hml hown hw (m_X6_fail l D cI cJ cB cP cM cZ h0 Fh x_place 2 _ e_place) wV_X6_80_X6_fail dX6_isNumberWithin_32 hK hP hD hS hA [0] [] rfl rfl (by decide) (by decide) (by decide) 0 6 rfl rfl GG.fb hG.at hl.1 rfl (Nat.le_of_ble_eq_true rfl) ⟨(Nat.le_of_ble_eq_true rfl), (Nat.le_of_ble_eq_true rfl)⟩ ⟨(Nat.le_of_ble_eq_true rfl), (Nat.le_of_ble_eq_true rfl)⟩ (fun r6 u H locs hp hP hD hS => ?_)
      obtain ⟨F7, t8, t9, t10, rfl, rfl⟩ := hp
      have hP : va_P D vwCl [(h0, .inr (6, vL 12 F7))] H := hP
      have hD : va_D A [(h0, .inr (6, vL 12 F7))] := hD
      refine W.widen (k := 0) (n := 0) (Nat.le_of_ble_eq_true rfl) (Nat.le_of_ble_eq_true rfl) ?_
      refine lv_if_eq (tgt := 42) hx hb dX6_isNumberWithin_35 (by decide) (fun _ => ?_) (fun g => absurd (by decide) g)
      refine lv_iconst (v := 0) hx hb dX6_isNumberWithin_42 (by decide) ?_
      exact ret_i (v := 0) hx hb hr hlocks hS hP hD dX6_isNumberWithin_43 rfl (Nat.le_of_ble_eq_true rfl) (Nat.le_of_ble_eq_true rfl) (Or.inl ⟨F7, 2, (SAME.tr SAME.rf t8 (by decide)), t9, (show 1 ≤ (2 : Int32).toInt ∧ (2 : Int32).toInt ≤ 2 by decide), t10, rfl, rfl⟩)
    · have dc3 : p0.toInt ≤ x_value.toInt := nlt_i (a := x_value.toInt) (b := p0.toInt) rfl rfl c3
      refine lv_aload_n hx hb dX6_isNumberWithin_22 rfl (lv_at hl 0 rfl) ?_
      refine get_f (D := D) (ci := 6) (v := .int x_value) (C := RX6) (T := TX6) (N := 12) hx hb hw inAX6 hown hK hP 0 rfl rfl 4 (by decide) (hw _ q_97) (fun _ h9 => h9) e_value dX6_isNumberWithin_23 ?_
      refine lv_iload_n hx hb dX6_isNumberWithin_26 rfl (lv_at hl 2 rfl) ?_
      refine lv_icmp_le (tgt := 38) hx hb dX6_isNumberWithin_27 (by decide) (fun c11 => ?_) (fun c11 => ?_)
      · have dc11 : x_value.toInt ≤ p1.toInt := le_i (a := x_value.toInt) (b := p1.toInt) rfl rfl c11
        refine lv_iconst (v := 1) hx hb dX6_isNumberWithin_38 (by decide) ?_
        refine lv_goto (tgt := 43) hx hb dX6_isNumberWithin_39 (by decide) ?_
        exact ret_i (v := 1) hx hb hr hlocks hS hP hD dX6_isNumberWithin_43 rfl (Nat.le_of_ble_eq_true rfl) (Nat.le_of_ble_eq_true rfl) (Or.inr ⟨dc1, dc3, dc11, rfl, rfl⟩)
      · have dc11 : p1.toInt < x_value.toInt := nle_i (a := x_value.toInt) (b := p1.toInt) rfl rfl c11
        have k12 : (-2147483648) ≤ p1.toInt ∧ p1.toInt ≤ 2147483646 := ⟨(ir_any _).1, up_lt dc11 (ir_any _).2 (by decide)⟩
        have k13 : (-2147483647) ≤ x_value.toInt ∧ x_value.toInt ≤ 2147483647 := ⟨lo_lt dc11 (ir_any _).1 (by decide), (ir_any _).2⟩
        refine lv_aload_n hx hb dX6_isNumberWithin_30 rfl (lv_at hl 0 rfl) ?_
        refine lv_iconst (v := 2) hx hb dX6_isNumberWithin_31 (by decide) ?_
        refine call_Vi (wr := []) (As := [.int 2]) (rest := []) hx hb hml hown hw (m_X6_fail l D cI cJ cB cP cM cZ h0 Fh x_place 2 _ e_place) wV_X6_80_X6_fail dX6_isNumberWithin_32 hK hP hD hS hA [0] [] rfl rfl (by decide) (by decide) (by decide) 0 6 rfl rfl GG.fb hG.at hl.1 rfl (Nat.le_of_ble_eq_true rfl) ⟨(Nat.le_of_ble_eq_true rfl), (Nat.le_of_ble_eq_true rfl)⟩ ⟨(Nat.le_of_ble_eq_true rfl), (Nat.le_of_ble_eq_true rfl)⟩ (fun r14 u H locs hp hP hD hS => ?_)
        obtain ⟨F15, t16, t17, t18, rfl, rfl⟩ := hp
        have hP : va_P D vwCl [(h0, .inr (6, vL 12 F15))] H := hP
        have hD : va_D A [(h0, .inr (6, vL 12 F15))] := hD
        refine W.widen (k := 0) (n := 0) (Nat.le_of_ble_eq_true rfl) (Nat.le_of_ble_eq_true rfl) ?_
        refine lv_if_eq (tgt := 42) hx hb dX6_isNumberWithin_35 (by decide) (fun _ => ?_) (fun g => absurd (by decide) g)
        refine lv_iconst (v := 0) hx hb dX6_isNumberWithin_42 (by decide) ?_
        exact ret_i (v := 0) hx hb hr hlocks hS hP hD dX6_isNumberWithin_43 rfl (Nat.le_of_ble_eq_true rfl) (Nat.le_of_ble_eq_true rfl) (Or.inl ⟨F15, 2, (SAME.tr SAME.rf t16 (by decide)), t17, (show 1 ≤ (2 : Int32).toInt ∧ (2 : Int32).toInt ≤ 2 by decide), t18, rfl, rfl⟩)
  · have dc1 : x_kind.toInt ≠ 3 := ne_i (a := x_kind.toInt) (b := 3) rfl rfl c1
    refine lv_aload_n hx hb dX6_isNumberWithin_8 rfl (lv_at hl 0 rfl) ?_
    refine lv_iconst (v := 1) hx hb dX6_isNumberWithin_9 (by decide) ?_
    refine call_Vi (wr := []) (As := [.int 1]) (rest := []) hx hb hml hown hw (m_X6_fail l D cI cJ cB cP cM cZ h0 Fh x_place 1 _ e_place) wV_X6_80_X6_fail dX6_isNumberWithin_10 hK hP hD hS hA [0] [] rfl rfl (by decide) (by decide) (by decide) 0 6 rfl rfl GG.fb hG.at hl.1 rfl (Nat.le_of_ble_eq_true rfl) ⟨(Nat.le_of_ble_eq_true rfl), (Nat.le_of_ble_eq_true rfl)⟩ ⟨(Nat.le_of_ble_eq_true rfl), (Nat.le_of_ble_eq_true rfl)⟩ (fun r19 u H locs hp hP hD hS => ?_)
    obtain ⟨F20, t21, t22, t23, rfl, rfl⟩ := hp
    have hP : va_P D vwCl [(h0, .inr (6, vL 12 F20))] H := hP
    have hD : va_D A [(h0, .inr (6, vL 12 F20))] := hD
    refine W.widen (k := 0) (n := 0) (Nat.le_of_ble_eq_true rfl) (Nat.le_of_ble_eq_true rfl) ?_
    exact ret_i (v := 0) hx hb hr hlocks hS hP hD dX6_isNumberWithin_13 rfl (Nat.le_of_ble_eq_true rfl) (Nat.le_of_ble_eq_true rfl) (Or.inl ⟨F20, 1, (SAME.tr SAME.rf t21 (by decide)), t22, (show 1 ≤ (1 : Int32).toInt ∧ (1 : Int32).toInt ≤ 2 by decide), t23, rfl, rfl⟩)
set_option maxHeartbeats 4000000 in
set_option maxRecDepth 100000 in
theorem m_X6_takeInto_5 (l : Launch) (D : va_G) (cI cJ cB cP cM cZ : ClassId) (h0 : Nat) (h_bytes : Nat) (h_wordNames : Nat) (p0 : Nat) (Fh : Nat → Value) (x_length : Int32) (x_kind : Int32) (x_place : Int32) (x_value : Int32) (x_name : Int64) (x_at : Int32) (x_mostBytes : Int32) (f_bytes : Nat → Int32) (f_wordNames : Nat → Int64) (f_p0 : Nat → Int32) (p1 : Int32) (p2 : Int32) (p3 : Int32) (sz : Nat) (e_bytes : Fh 0 = .ref h_bytes) (e_length : Fh 1 = .int x_length) (i_x_length : IR 0 940 x_length) (e_kind : Fh 2 = .int x_kind) (e_place : Fh 3 = .int x_place) (e_value : Fh 4 = .int x_value) (e_name : Fh 5 = .long x_name) (e_wordNames : Fh 9 = .ref h_wordNames) (e_at : Fh 10 = .int x_at) (i_x_at : IR 0 940 x_at) (e_mostBytes : Fh 11 = .int x_mostBytes) : CI l yX6_takeInto cX6_takeInto 5 (some .boolean) { frames := 2, cells := 0, slots := 0, locals := 43 } (GG D cI cJ cB cP cM cZ) D [(h0, .inr (6, vL 12 Fh)), (h_bytes, .inl (cB, 940, .inl f_bytes)), (h_wordNames, .inl (cJ, 23, .inr (.inl f_wordNames))), (p0, .inl (cI, 5, .inl f_p0))] sz [.ref h0, .ref p0, .int p1, .int p2, .int p3] (fun (r : Int32) (u : va_W) => (∃ (Gh : Nat → Value) (y_faultKind : Int32), SAME [7, 8] Fh Gh ∧ Gh 7 = .int y_faultKind ∧ IR 1 4 y_faultKind ∧ Gh 8 = .int x_place ∧ r = 0 ∧ u = [(h0, .inr (6, vL 12 Gh)), (h_bytes, .inl (cB, 940, .inl f_bytes)), (h_wordNames, .inl (cJ, 23, .inr (.inl f_wordNames))), (p0, .inl (cI, 5, .inl f_p0))]) ∨ (∃ (Gh : Nat → Value) (y_kind : Int32) (y_place : Int32) (y_value : Int32) (y_name : Int64) (y_at : Int32) (g_p0 : Nat → Int32), SAME [2, 3, 4, 5, 10] Fh Gh ∧ Gh 2 = .int y_kind ∧ Gh 3 = .int y_place ∧ IR (-2147483648) 940 y_place ∧ Gh 4 = .int y_value ∧ Gh 5 = .long y_name ∧ Gh 10 = .int y_at ∧ IR 0 940 y_at ∧ 0 ≤ p1.toInt ∧ p1.toInt < 5 ∧ x_kind.toInt = 3 ∧ p2.toInt ≤ x_value.toInt ∧ x_value.toInt ≤ p3.toInt ∧ (upd f_p0 p1.toNatClampNeg x_value = g_p0) ∧ r = 1 ∧ u = [(h0, .inr (6, vL 12 Gh)), (h_bytes, .inl (cB, 940, .inl f_bytes)), (h_wordNames, .inl (cJ, 23, .inr (.inl f_wordNames))), (p0, .inl (cI, 5, .inl g_p0))])) := by
  refine CI_mk (by decide) (Nat.le_of_ble_eq_true rfl) ?_
  intro p e s m below meth c A ls E hAe hG hsz hP hD hA hS hl
  obtain ⟨hx, hb, hr, hw, hown, hlocks, hml, hnm⟩ := E
  have hK := hG.1
  have i_x_length : 0 ≤ x_length.toInt ∧ x_length.toInt ≤ 940 := i_x_length
  have i_x_at : 0 ≤ x_at.toInt ∧ x_at.toInt ≤ 940 := i_x_at
  have hl : lv_has ls 5 [(0, .ref h0), (1, .ref p0), (2, .int p1), (3, .int p2), (4, .int p3)] := hl
  refine lv_iload_n hx hb dX6_takeInto_0 rfl (lv_at hl 2 rfl) ?_
  refine lv_if_lt (tgt := 10) hx hb dX6_takeInto_1 (by decide) (fun c1 => ?_) (fun c1 => ?_)
  · have dc1 : p1.toInt < 0 := lt_i (a := p1.toInt) (b := 0) rfl rfl c1
    have k2 : (-2147483648) ≤ p1.toInt ∧ p1.toInt ≤ (-1) := ⟨(ir_any _).1, up_lt dc1 (Int.le_refl _) (by decide)⟩
    refine lv_aload_n hx hb dX6_takeInto_10 rfl (lv_at hl 0 rfl) ?_
    refine lv_iconst (v := 4) hx hb dX6_takeInto_11 (by decide) ?_
    refine call_Vi (wr := [(h_bytes, .inl (cB, 940, .inl f_bytes)), (h_wordNames, .inl (cJ, 23, .inr (.inl f_wordNames))), (p0, .inl (cI, 5, .inl f_p0))]) (As := [.int 4]) (rest := []) hx hb hml hown hw (m_X6_fail l D cI cJ cB cP cM cZ h0 Fh x_place 4 _ e_place) wV_X6_80_X6_fail dX6_takeInto_12 hK hP hD hS hA [0] [1, 2, 3] rfl rfl (by decide) (by decide) (by decide) 0 6 rfl rfl GG.fb hG.at hl.1 rfl (Nat.le_of_ble_eq_true rfl) ⟨(Nat.le_of_ble_eq_true rfl), (Nat.le_of_ble_eq_true rfl)⟩ ⟨(Nat.le_of_ble_eq_true rfl), (Nat.le_of_ble_eq_true rfl)⟩ (fun r3 u H locs hp hP hD hS => ?_)
    obtain ⟨F4, t5, t6, t7, rfl, rfl⟩ := hp
    have hP : va_P D vwCl [(h_bytes, .inl (cB, 940, .inl f_bytes)), (h_wordNames, .inl (cJ, 23, .inr (.inl f_wordNames))), (p0, .inl (cI, 5, .inl f_p0)), (h0, .inr (6, vL 12 F4))] H := hP
    have hD : va_D A [(h_bytes, .inl (cB, 940, .inl f_bytes)), (h_wordNames, .inl (cJ, 23, .inr (.inl f_wordNames))), (p0, .inl (cI, 5, .inl f_p0)), (h0, .inr (6, vL 12 F4))] := hD
    refine W.widen (k := 0) (n := 0) (Nat.le_of_ble_eq_true rfl) (Nat.le_of_ble_eq_true rfl) ?_
    exact ret_i (v := 0) hx hb hr hlocks hS (hP.sub (ws' := [(h0, .inr (6, vL 12 F4)), (h_bytes, .inl (cB, 940, .inl f_bytes)), (h_wordNames, .inl (cJ, 23, .inr (.inl f_wordNames))), (p0, .inl (cI, 5, .inl f_p0))]) [3, 0, 1, 2] rfl) (hD.sub (ws' := [(h0, .inr (6, vL 12 F4)), (h_bytes, .inl (cB, 940, .inl f_bytes)), (h_wordNames, .inl (cJ, 23, .inr (.inl f_wordNames))), (p0, .inl (cI, 5, .inl f_p0))]) [3, 0, 1, 2] (by decide) rfl) dX6_takeInto_15 rfl (Nat.le_of_ble_eq_true rfl) (Nat.le_of_ble_eq_true rfl) (Or.inl ⟨F4, 4, (SAME.tr SAME.rf t5 (by decide)), t6, (show 1 ≤ (4 : Int32).toInt ∧ (4 : Int32).toInt ≤ 4 by decide), t7, rfl, rfl⟩)
  · have dc1 : 0 ≤ p1.toInt := nlt_i (a := p1.toInt) (b := 0) rfl rfl c1
    have k8 : 0 ≤ p1.toInt ∧ p1.toInt ≤ 2147483647 := ⟨Int.le_trans (Int.le_refl _) dc1, (ir_any _).2⟩
    refine lv_iload_n hx hb dX6_takeInto_4 rfl (lv_at hl 2 rfl) ?_
    refine lv_aload_n hx hb dX6_takeInto_5 rfl (lv_at hl 1 rfl) ?_
    refine va_alen (v := 5) hx hb hK hP 3 0 rfl rfl rfl dX6_takeInto_6 ?_
    refine lv_icmp_lt (tgt := 16) hx hb dX6_takeInto_7 (by decide) (fun c9 => ?_) (fun c9 => ?_)
    · have dc9 : p1.toInt < 5 := lt_i (a := p1.toInt) (b := 5) rfl rfl c9
      have k10 : 0 ≤ p1.toInt ∧ p1.toInt ≤ 4 := ⟨k8.1, up_lt dc9 (Int.le_refl _) (by decide)⟩
      refine lv_aload_n hx hb dX6_takeInto_16 rfl (lv_at hl 0 rfl) ?_
      refine lv_iload_n hx hb dX6_takeInto_17 rfl (lv_at hl 3 rfl) ?_
      refine lv_iload hx hb dX6_takeInto_18 (lv_at hl 4 rfl) ?_
      refine call_Vi (wr := [(h_bytes, .inl (cB, 940, .inl f_bytes)), (h_wordNames, .inl (cJ, 23, .inr (.inl f_wordNames))), (p0, .inl (cI, 5, .inl f_p0))]) (As := [.int p2, .int p3]) (rest := []) hx hb hml hown hw (m_X6_isNumberWithin l D cI cJ cB cP cM cZ h0 Fh x_kind x_place x_value p2 p3 _ e_kind e_place e_value) wV_X6_83_X6_isNumberWithin dX6_takeInto_20 hK hP hD hS hA [0] [1, 2, 3] rfl rfl (by decide) (by decide) (by decide) 0 6 rfl rfl GG.fb hG.at hl.1 rfl (Nat.le_of_ble_eq_true rfl) ⟨(Nat.le_of_ble_eq_true rfl), (Nat.le_of_ble_eq_true rfl)⟩ ⟨(Nat.le_of_ble_eq_true rfl), (Nat.le_of_ble_eq_true rfl)⟩ (fun r11 u H locs hp hP hD hS => ?_)
      rcases hp with ⟨F12, y13, t14, t15, t16, t17, rfl, rfl⟩ | ⟨t18, t19, t20, rfl, rfl⟩
      · have hP : va_P D vwCl [(h_bytes, .inl (cB, 940, .inl f_bytes)), (h_wordNames, .inl (cJ, 23, .inr (.inl f_wordNames))), (p0, .inl (cI, 5, .inl f_p0)), (h0, .inr (6, vL 12 F12))] H := hP
        have hD : va_D A [(h_bytes, .inl (cB, 940, .inl f_bytes)), (h_wordNames, .inl (cJ, 23, .inr (.inl f_wordNames))), (p0, .inl (cI, 5, .inl f_p0)), (h0, .inr (6, vL 12 F12))] := hD
        refine W.widen (k := 0) (n := 0) (Nat.le_of_ble_eq_true rfl) (Nat.le_of_ble_eq_true rfl) ?_
        refine lv_if_ne (tgt := 28) hx hb dX6_takeInto_23 (by decide) (fun g => absurd (by decide) g) (fun _ => ?_)
        refine lv_iconst (v := 0) hx hb dX6_takeInto_26 (by decide) ?_
        exact ret_i (v := 0) hx hb hr hlocks hS (hP.sub (ws' := [(h0, .inr (6, vL 12 F12)), (h_bytes, .inl (cB, 940, .inl f_bytes)), (h_wordNames, .inl (cJ, 23, .inr (.inl f_wordNames))), (p0, .inl (cI, 5, .inl f_p0))]) [3, 0, 1, 2] rfl) (hD.sub (ws' := [(h0, .inr (6, vL 12 F12)), (h_bytes, .inl (cB, 940, .inl f_bytes)), (h_wordNames, .inl (cJ, 23, .inr (.inl f_wordNames))), (p0, .inl (cI, 5, .inl f_p0))]) [3, 0, 1, 2] (by decide) rfl) dX6_takeInto_27 rfl (Nat.le_of_ble_eq_true rfl) (Nat.le_of_ble_eq_true rfl) (Or.inl ⟨F12, y13, (SAME.tr SAME.rf t14 (by decide)), t15, (ir_wk t16 (by decide) (by decide)), t17, rfl, rfl⟩)
      · have hP : va_P D vwCl [(h_bytes, .inl (cB, 940, .inl f_bytes)), (h_wordNames, .inl (cJ, 23, .inr (.inl f_wordNames))), (p0, .inl (cI, 5, .inl f_p0)), (h0, .inr (6, vL 12 Fh))] H := hP
        have hD : va_D A [(h_bytes, .inl (cB, 940, .inl f_bytes)), (h_wordNames, .inl (cJ, 23, .inr (.inl f_wordNames))), (p0, .inl (cI, 5, .inl f_p0)), (h0, .inr (6, vL 12 Fh))] := hD
        refine W.widen (k := 0) (n := 0) (Nat.le_of_ble_eq_true rfl) (Nat.le_of_ble_eq_true rfl) ?_
        have k21 : 3 ≤ x_kind.toInt ∧ x_kind.toInt ≤ 3 := ⟨Int.le_trans (Int.le_refl _) (Int.le_of_eq t18.symm), Int.le_trans (Int.le_of_eq t18) (Int.le_refl _)⟩
        refine lv_if_ne (tgt := 28) hx hb dX6_takeInto_23 (by decide) (fun _ => ?_) (fun g => absurd g (by decide))
        refine lv_aload_n hx hb dX6_takeInto_28 rfl (lv_at hl 1 rfl) ?_
        refine lv_iload_n hx hb dX6_takeInto_29 rfl (lv_at hl 2 rfl) ?_
        refine lv_aload_n hx hb dX6_takeInto_30 rfl (lv_at hl 0 rfl) ?_
        refine get_f (D := D) (ci := 6) (v := .int x_value) (C := RX6) (T := TX6) (N := 12) hx hb hw inAX6 hown hK hP 3 rfl rfl 4 (by decide) (hw _ q_97) (fun _ h9 => h9) e_value dX6_takeInto_31 ?_
        obtain ⟨g22, eg22⟩ : ∃ z : Nat → Int32, upd f_p0 p1.toNatClampNeg x_value = z := ⟨_, rfl⟩
        refine iast_g hx hb hK hP hD hS 2 0 rfl rfl (ix_k k10 (by decide) (by decide)) eg22 dX6_takeInto_34 (fun H locs hP hD hS => ?_)
        have hP : va_P D vwCl [(h_bytes, .inl (cB, 940, .inl f_bytes)), (h_wordNames, .inl (cJ, 23, .inr (.inl f_wordNames))), (p0, .inl (cI, 5, .inl g22)), (h0, .inr (6, vL 12 Fh))] H := hP
        have hD : va_D A [(h_bytes, .inl (cB, 940, .inl f_bytes)), (h_wordNames, .inl (cJ, 23, .inr (.inl f_wordNames))), (p0, .inl (cI, 5, .inl g22)), (h0, .inr (6, vL 12 Fh))] := hD
        refine lv_aload_n hx hb dX6_takeInto_35 rfl (lv_at hl 0 rfl) ?_
        refine call_Vv (wr := [(p0, .inl (cI, 5, .inl g22))]) (As := []) (rest := []) hx hb hml hown hw (m_X6_advance l D cI cJ cB cP cM cZ h0 h_bytes h_wordNames Fh x_length x_value x_name x_at x_mostBytes f_bytes f_wordNames _ e_bytes e_length i_x_length e_value e_name e_wordNames e_at i_x_at e_mostBytes) wV_X6_66_X6_advance dX6_takeInto_36 hK hP hD hS hA [3, 0, 1] [2] rfl rfl (by decide) (by decide) (by decide) 0 6 rfl rfl GG.fb hG.at hl.1 rfl (Nat.le_of_ble_eq_true rfl) ⟨(Nat.le_of_ble_eq_true rfl), (Nat.le_of_ble_eq_true rfl)⟩ ⟨(Nat.le_of_ble_eq_true rfl), (Nat.le_of_ble_eq_true rfl)⟩ (fun u H locs hp hP hD hS => ?_)
        obtain ⟨F24, y25, y26, y27, y28, y29, t30, t31, t32, t33, t34, t35, t36, t37, rfl⟩ := hp
        have hP : va_P D vwCl [(p0, .inl (cI, 5, .inl g22)), (h0, .inr (6, vL 12 F24)), (h_bytes, .inl (cB, 940, .inl f_bytes)), (h_wordNames, .inl (cJ, 23, .inr (.inl f_wordNames)))] H := hP
        have hD : va_D A [(p0, .inl (cI, 5, .inl g22)), (h0, .inr (6, vL 12 F24)), (h_bytes, .inl (cB, 940, .inl f_bytes)), (h_wordNames, .inl (cJ, 23, .inr (.inl f_wordNames)))] := hD
        refine W.widen (k := 0) (n := 0) (Nat.le_of_ble_eq_true rfl) (Nat.le_of_ble_eq_true rfl) ?_
        refine lv_iconst (v := 1) hx hb dX6_takeInto_39 (by decide) ?_
        exact ret_i (v := 1) hx hb hr hlocks hS (hP.sub (ws' := [(h0, .inr (6, vL 12 F24)), (h_bytes, .inl (cB, 940, .inl f_bytes)), (h_wordNames, .inl (cJ, 23, .inr (.inl f_wordNames))), (p0, .inl (cI, 5, .inl g22))]) [1, 2, 3, 0] rfl) (hD.sub (ws' := [(h0, .inr (6, vL 12 F24)), (h_bytes, .inl (cB, 940, .inl f_bytes)), (h_wordNames, .inl (cJ, 23, .inr (.inl f_wordNames))), (p0, .inl (cI, 5, .inl g22))]) [1, 2, 3, 0] (by decide) rfl) dX6_takeInto_40 rfl (Nat.le_of_ble_eq_true rfl) (Nat.le_of_ble_eq_true rfl) (Or.inr ⟨F24, y25, y26, y27, y28, y29, g22, (SAME.tr SAME.rf t30 (by decide)), t31, t32, t33, t34, t35, t36, t37, dc1, dc9, t18, t19, t20, eg22, rfl, rfl⟩)
    · have dc9 : 5 ≤ p1.toInt := nlt_i (a := p1.toInt) (b := 5) rfl rfl c9
      have k38 : 5 ≤ p1.toInt ∧ p1.toInt ≤ 2147483647 := ⟨Int.le_trans (Int.le_refl _) dc9, k8.2⟩
      refine lv_aload_n hx hb dX6_takeInto_10 rfl (lv_at hl 0 rfl) ?_
      refine lv_iconst (v := 4) hx hb dX6_takeInto_11 (by decide) ?_
      refine call_Vi (wr := [(h_bytes, .inl (cB, 940, .inl f_bytes)), (h_wordNames, .inl (cJ, 23, .inr (.inl f_wordNames))), (p0, .inl (cI, 5, .inl f_p0))]) (As := [.int 4]) (rest := []) hx hb hml hown hw (m_X6_fail l D cI cJ cB cP cM cZ h0 Fh x_place 4 _ e_place) wV_X6_80_X6_fail dX6_takeInto_12 hK hP hD hS hA [0] [1, 2, 3] rfl rfl (by decide) (by decide) (by decide) 0 6 rfl rfl GG.fb hG.at hl.1 rfl (Nat.le_of_ble_eq_true rfl) ⟨(Nat.le_of_ble_eq_true rfl), (Nat.le_of_ble_eq_true rfl)⟩ ⟨(Nat.le_of_ble_eq_true rfl), (Nat.le_of_ble_eq_true rfl)⟩ (fun r39 u H locs hp hP hD hS => ?_)
      obtain ⟨F40, t41, t42, t43, rfl, rfl⟩ := hp
      have hP : va_P D vwCl [(h_bytes, .inl (cB, 940, .inl f_bytes)), (h_wordNames, .inl (cJ, 23, .inr (.inl f_wordNames))), (p0, .inl (cI, 5, .inl f_p0)), (h0, .inr (6, vL 12 F40))] H := hP
      have hD : va_D A [(h_bytes, .inl (cB, 940, .inl f_bytes)), (h_wordNames, .inl (cJ, 23, .inr (.inl f_wordNames))), (p0, .inl (cI, 5, .inl f_p0)), (h0, .inr (6, vL 12 F40))] := hD
      refine W.widen (k := 0) (n := 0) (Nat.le_of_ble_eq_true rfl) (Nat.le_of_ble_eq_true rfl) ?_
      exact ret_i (v := 0) hx hb hr hlocks hS (hP.sub (ws' := [(h0, .inr (6, vL 12 F40)), (h_bytes, .inl (cB, 940, .inl f_bytes)), (h_wordNames, .inl (cJ, 23, .inr (.inl f_wordNames))), (p0, .inl (cI, 5, .inl f_p0))]) [3, 0, 1, 2] rfl) (hD.sub (ws' := [(h0, .inr (6, vL 12 F40)), (h_bytes, .inl (cB, 940, .inl f_bytes)), (h_wordNames, .inl (cJ, 23, .inr (.inl f_wordNames))), (p0, .inl (cI, 5, .inl f_p0))]) [3, 0, 1, 2] (by decide) rfl) dX6_takeInto_15 rfl (Nat.le_of_ble_eq_true rfl) (Nat.le_of_ble_eq_true rfl) (Or.inl ⟨F40, 4, (SAME.tr SAME.rf t41 (by decide)), t42, (show 1 ≤ (4 : Int32).toInt ∧ (4 : Int32).toInt ≤ 4 by decide), t43, rfl, rfl⟩)
set_option maxHeartbeats 4000000 in
set_option maxRecDepth 100000 in
theorem m_X1_readSetting (l : Launch) (D : va_G) (cI cJ cB cP cM cZ : ClassId) (z0 tU tL tM : Nat) (h0 : Nat) (h_settings : Nat) (p0 : Nat) (h_p0_bytes : Nat) (h_p0_wordNames : Nat) (Fh : Nat → Value) (x_settingsTold : Int32) (f_settings : Nat → Int32) (F_p0_ : Nat → Value) (x_p0_length : Int32) (x_p0_kind : Int32) (x_p0_place : Int32) (x_p0_value : Int32) (x_p0_name : Int64) (x_p0_faultKind : Int32) (x_p0_faultPlace : Int32) (x_p0_at : Int32) (x_p0_mostBytes : Int32) (f_p0_bytes : Nat → Int32) (f_p0_wordNames : Nat → Int64) (p1 : Int32) (sz : Nat) (e_settings : Fh 1 = .ref h_settings) (e_settingsTold : Fh 17 = .int x_settingsTold) (s_settings_0 : SG 0 0 5 40 f_settings) (e_p0_bytes : F_p0_ 0 = .ref h_p0_bytes) (e_p0_length : F_p0_ 1 = .int x_p0_length) (i_x_p0_length : IR 0 940 x_p0_length) (e_p0_kind : F_p0_ 2 = .int x_p0_kind) (e_p0_place : F_p0_ 3 = .int x_p0_place) (e_p0_value : F_p0_ 4 = .int x_p0_value) (e_p0_name : F_p0_ 5 = .long x_p0_name) (e_p0_faultKind : F_p0_ 7 = .int x_p0_faultKind) (e_p0_faultPlace : F_p0_ 8 = .int x_p0_faultPlace) (e_p0_wordNames : F_p0_ 9 = .ref h_p0_wordNames) (e_p0_at : F_p0_ 10 = .int x_p0_at) (i_x_p0_at : IR 0 940 x_p0_at) (e_p0_mostBytes : F_p0_ 11 = .int x_p0_mostBytes) (i_p1 : IR 0 4 p1) : CI l yX1_readSetting cX1_readSetting 3 (some .boolean) { frames := 3, cells := 0, slots := 0, locals := 67 } (GY D cI cJ cB cP cM cZ z0 tU tL tM [(h0, .inr (1, vL 18 Fh)), (h_settings, .inl (cI, 5, .inl f_settings)), (p0, .inr (6, vL 12 F_p0_)), (h_p0_bytes, .inl (cB, 940, .inl f_p0_bytes)), (h_p0_wordNames, .inl (cJ, 23, .inr (.inl f_p0_wordNames)))]) D [(h0, .inr (1, vL 18 Fh)), (h_settings, .inl (cI, 5, .inl f_settings)), (p0, .inr (6, vL 12 F_p0_)), (h_p0_bytes, .inl (cB, 940, .inl f_p0_bytes)), (h_p0_wordNames, .inl (cJ, 23, .inr (.inl f_p0_wordNames)))] sz [.ref h0, .ref p0, .int p1] (fun (r : Int32) (u : va_W) => ∃ (Gh : Nat → Value) (y_settingsTold : Int32) (G_p0_ : Nat → Value) (y_p0_kind : Int32) (y_p0_place : Int32) (y_p0_value : Int32) (y_p0_name : Int64) (y_p0_faultKind : Int32) (y_p0_faultPlace : Int32) (y_p0_at : Int32) (g_settings : Nat → Int32), SAME [17] Fh Gh ∧ Gh 17 = .int y_settingsTold ∧ SAME [2, 3, 4, 5, 7, 8, 10] F_p0_ G_p0_ ∧ G_p0_ 2 = .int y_p0_kind ∧ G_p0_ 3 = .int y_p0_place ∧ G_p0_ 4 = .int y_p0_value ∧ G_p0_ 5 = .long y_p0_name ∧ G_p0_ 7 = .int y_p0_faultKind ∧ G_p0_ 8 = .int y_p0_faultPlace ∧ G_p0_ 10 = .int y_p0_at ∧ IR 0 940 y_p0_at ∧ SG 0 0 5 40 g_settings ∧ IR 0 1 r ∧ u = [(h0, .inr (1, vL 18 Gh)), (h_settings, .inl (cI, 5, .inl g_settings)), (p0, .inr (6, vL 12 G_p0_)), (h_p0_bytes, .inl (cB, 940, .inl f_p0_bytes)), (h_p0_wordNames, .inl (cJ, 23, .inr (.inl f_p0_wordNames)))]) := by
  refine CI_mk (by decide) (Nat.le_of_ble_eq_true rfl) ?_
  intro p e s m below meth c A ls E hAe hG hsz hP hD hA hS hl
  obtain ⟨hx, hb, hr, hw, hown, hlocks, hml, hnm⟩ := E
  have hK := hG.1.1
  have hAz := hG.hAz hAe hsz
  have hST := hG.st hAz
  have i_x_p0_length : 0 ≤ x_p0_length.toInt ∧ x_p0_length.toInt ≤ 940 := i_x_p0_length
  have i_x_p0_at : 0 ≤ x_p0_at.toInt ∧ x_p0_at.toInt ≤ 940 := i_x_p0_at
  have i_p1 : 0 ≤ p1.toInt ∧ p1.toInt ≤ 4 := i_p1
  have hl : lv_has ls 3 [(0, .ref h0), (1, .ref p0), (2, .int p1)] := hl
  by_cases k1 : p1 = 0
  · have dk1 : p1.toInt = 0 := eq_i rfl rfl k1
    have k2 : 0 ≤ p1.toInt ∧ p1.toInt ≤ 0 := ⟨i_p1.1, Int.le_trans (Int.le_of_eq dk1) (Int.le_refl _)⟩
    have hl : lv_has ls 3 [(0, .ref h0), (1, .ref p0), (2, .int 0)] := by have q := hl; rw [k1] at q; exact q
    refine lv_aload_n hx hb dX1_readSetting_0 rfl (lv_at hl 0 rfl) ?_
    refine get_f (D := D) (ci := 1) (v := .int x_settingsTold) (C := RX1) (T := TX1) (N := 18) hx hb hw inAX1 hown hK hP 0 rfl rfl 17 (by decide) (hw _ q_364) (fun _ h9 => h9) e_settingsTold dX1_readSetting_1 ?_
    refine lv_iload_n hx hb dX1_readSetting_4 rfl (lv_at hl 2 rfl) ?_
    refine lv_ishr hx hb dX1_readSetting_5 ?_
    refine lv_topi (fun v3 ev3 => ?_)
    refine lv_iconst (v := 1) hx hb dX1_readSetting_6 (by decide) ?_
    refine lv_iand hx hb dX1_readSetting_7 ?_
    refine lv_topi (fun v4 ev4 => ?_)
    have k5 : 0 ≤ v4.toInt ∧ v4.toInt ≤ 1 := by rw [ev4]; exact and_i v3 1 (by decide)
    refine lv_if_eq (tgt := 17) hx hb dX1_readSetting_8 (by decide) (fun c6 => ?_) (fun c6 => ?_)
    · have dc6 : v4.toInt = 0 := eq_i (a := v4.toInt) (b := 0) rfl rfl c6
      have k7 : 0 ≤ v4.toInt ∧ v4.toInt ≤ 0 := ⟨k5.1, Int.le_trans (Int.le_of_eq dc6) (Int.le_refl _)⟩
      refine lv_aload_n hx hb dX1_readSetting_17 rfl (lv_at hl 0 rfl) ?_
      refine lv_dup hx hb dX1_readSetting_18 rfl ?_
      refine get_f (D := D) (ci := 1) (v := .int x_settingsTold) (C := RX1) (T := TX1) (N := 18) hx hb hw inAX1 hown hK hP 0 rfl rfl 17 (by decide) (hw _ q_364) (fun _ h9 => h9) e_settingsTold dX1_readSetting_19 ?_
      refine lv_iconst (v := 1) hx hb dX1_readSetting_22 (by decide) ?_
      refine lv_iload_n hx hb dX1_readSetting_23 rfl (lv_at hl 2 rfl) ?_
      refine lv_ishl hx hb dX1_readSetting_24 ?_
      refine lv_ci (y := 1) (by decide +kernel) ?_
      refine lv_ior hx hb dX1_readSetting_25 ?_
      refine lv_topi (fun v8 ev8 => ?_)
      refine put_f (D := D) (ci := 1) (v := .int v8) (ty := .int) (C := RX1) (T := TX1) (N := 18) hx hb hw inAX1 tyX1 tyX1_ok nmX1 hown hK hP hD hS 0 rfl rfl 17 (by decide) (hw _ q_364) (fun _ h9 => h9) rfl (by decide +kernel) rfl rfl dX1_readSetting_26 (fun H locs F9 eF9 hP hD hS => ?_)
      have hP : va_P D vwCl [(h0, .inr (1, vL 18 F9)), (h_settings, .inl (cI, 5, .inl f_settings)), (p0, .inr (6, vL 12 F_p0_)), (h_p0_bytes, .inl (cB, 940, .inl f_p0_bytes)), (h_p0_wordNames, .inl (cJ, 23, .inr (.inl f_p0_wordNames)))] H := hP
      have hD : va_D A [(h0, .inr (1, vL 18 F9)), (h_settings, .inl (cI, 5, .inl f_settings)), (p0, .inr (6, vL 12 F_p0_)), (h_p0_bytes, .inl (cB, 940, .inl f_p0_bytes)), (h_p0_wordNames, .inl (cJ, 23, .inr (.inl f_p0_wordNames)))] := hD
      refine lv_aload_n hx hb dX1_readSetting_29 rfl (lv_at hl 1 rfl) ?_
      refine call_Vv (wr := [(h0, .inr (1, vL 18 F9)), (h_settings, .inl (cI, 5, .inl f_settings))]) (As := []) (rest := []) hx hb hml hown hw (m_X6_advance l D cI cJ cB cP cM cZ p0 h_p0_bytes h_p0_wordNames F_p0_ x_p0_length x_p0_value x_p0_name x_p0_at x_p0_mostBytes f_p0_bytes f_p0_wordNames _ e_p0_bytes e_p0_length i_x_p0_length e_p0_value e_p0_name e_p0_wordNames e_p0_at i_x_p0_at e_p0_mostBytes) wV_X1_131_X6_advance dX1_readSetting_30 hK hP hD hS hA [2, 3, 4] [0, 1] rfl rfl (by decide) (by decide) (by decide) 0 6 rfl rfl GG.fb hG.1.at hl.1 rfl (Nat.le_of_ble_eq_true rfl) ⟨(Nat.le_of_ble_eq_true rfl), (Nat.le_of_ble_eq_true rfl)⟩ ⟨(Nat.le_of_ble_eq_true rfl), (Nat.le_of_ble_eq_true rfl)⟩ (fun u H locs hp hP hD hS => ?_)
      obtain ⟨F11, y12, y13, y14, y15, y16, t17, t18, t19, t20, t21, t22, t23, t24, rfl⟩ := hp
      have hP : va_P D vwCl [(h0, .inr (1, vL 18 F9)), (h_settings, .inl (cI, 5, .inl f_settings)), (p0, .inr (6, vL 12 F11)), (h_p0_bytes, .inl (cB, 940, .inl f_p0_bytes)), (h_p0_wordNames, .inl (cJ, 23, .inr (.inl f_p0_wordNames)))] H := hP
      have hD : va_D A [(h0, .inr (1, vL 18 F9)), (h_settings, .inl (cI, 5, .inl f_settings)), (p0, .inr (6, vL 12 F11)), (h_p0_bytes, .inl (cB, 940, .inl f_p0_bytes)), (h_p0_wordNames, .inl (cJ, 23, .inr (.inl f_p0_wordNames)))] := hD
      refine W.widen (k := 0) (n := 0) (Nat.le_of_ble_eq_true rfl) (Nat.le_of_ble_eq_true rfl) ?_
      refine lv_aload_n hx hb dX1_readSetting_33 rfl (lv_at hl 1 rfl) ?_
      refine lv_aload_n hx hb dX1_readSetting_34 rfl (lv_at hl 0 rfl) ?_
      have n25 : F9 1 = .ref h_settings := (get_ne eF9 (by decide) e_settings)
      refine get_f (D := D) (ci := 1) (v := .ref h_settings) (C := RX1) (T := TX1) (N := 18) hx hb hw inAX1 hown hK hP 0 rfl rfl 1 (by decide) (hw _ q_315) (fun _ h9 => h9) n25 dX1_readSetting_35 ?_
      refine lv_iload_n hx hb dX1_readSetting_38 rfl (lv_at hl 2 rfl) ?_
      refine va_getsN hx hb hST.2.2.1 hS hown (va_Nw.use rfl (hG.1.2.1 (.fieldLinkNest "FourSledge$Course" 134 "FourSledge" "SETTING_LEAST" "[I" "FourSledge") (by decide +kernel))) (fun _ h9 => h9) dX1_readSetting_39 ?_
      refine lv_iload_n hx hb dX1_readSetting_42 rfl (lv_at hl 2 rfl) ?_
      refine va_ti (v := .int (lF 0)) hx hb hST.2.2.2.1 hS (vp_in_nI (n := 0) (N := 5) (Nat.le_of_ble_eq_true rfl) (Nat.le_of_ble_eq_true rfl)) rfl dX1_readSetting_43 ?_
      refine lv_ci (y := 5) (by decide +kernel) ?_
      refine va_getsN hx hb hST.2.2.2.2.1 hS hown (va_Nw.use rfl (hG.1.2.1 (.fieldLinkNest "FourSledge$Course" 137 "FourSledge" "SETTING_MOST" "[I" "FourSledge") (by decide +kernel))) (fun _ h9 => h9) dX1_readSetting_44 ?_
      refine lv_iload_n hx hb dX1_readSetting_47 rfl (lv_at hl 2 rfl) ?_
      refine va_ti (v := .int (mF 0)) hx hb hST.2.2.2.2.2 hS (vp_in_nI (n := 0) (N := 5) (Nat.le_of_ble_eq_true rfl) (Nat.le_of_ble_eq_true rfl)) rfl dX1_readSetting_48 ?_
      refine lv_ci (y := 40) (by decide +kernel) ?_
      have n26 : F11 0 = .ref h_p0_bytes := (SAME.at t17 (by decide) e_p0_bytes)
      have n27 : F11 1 = .int x_p0_length := (SAME.at t17 (by decide) e_p0_length)
      have n28 : F11 9 = .ref h_p0_wordNames := (SAME.at t17 (by decide) e_p0_wordNames)
      have n29 : F11 11 = .int x_p0_mostBytes := (SAME.at t17 (by decide) e_p0_mostBytes)
      refine call_Vi (wr := [(h0, .inr (1, vL 18 F9))]) (As := [.ref h_settings, .int 0, .int 5, .int 40]) (rest := []) hx hb hml hown hw (m_X6_takeInto_5 l D cI cJ cB cP cM cZ p0 h_p0_bytes h_p0_wordNames h_settings F11 x_p0_length y12 y13 y14 y15 y16 x_p0_mostBytes f_p0_bytes f_p0_wordNames f_settings 0 5 40 _ n26 n27 i_x_p0_length t18 t19 t21 t22 n28 t23 t24 n29) wV_X1_140_X6_takeInto dX1_readSetting_49 hK hP hD hS hA [2, 3, 4, 1] [0] rfl rfl (by decide) (by decide) (by decide) 0 6 rfl rfl GG.fb hG.1.at hl.1 rfl (Nat.le_of_ble_eq_true rfl) ⟨(Nat.le_of_ble_eq_true rfl), (Nat.le_of_ble_eq_true rfl)⟩ ⟨(Nat.le_of_ble_eq_true rfl), (Nat.le_of_ble_eq_true rfl)⟩ (fun r30 u H locs hp hP hD hS => ?_)
      rcases hp with ⟨F31, y32, t33, t34, t35, t36, rfl, rfl⟩ | ⟨F37, y38, y39, y40, y41, y42, g43, t44, t45, t46, t47, t48, t49, t50, t51, t52, t53, t54, t55, t56, t57, rfl, rfl⟩
      · have hP : va_P D vwCl [(h0, .inr (1, vL 18 F9)), (p0, .inr (6, vL 12 F31)), (h_p0_bytes, .inl (cB, 940, .inl f_p0_bytes)), (h_p0_wordNames, .inl (cJ, 23, .inr (.inl f_p0_wordNames))), (h_settings, .inl (cI, 5, .inl f_settings))] H := hP
        have hD : va_D A [(h0, .inr (1, vL 18 F9)), (p0, .inr (6, vL 12 F31)), (h_p0_bytes, .inl (cB, 940, .inl f_p0_bytes)), (h_p0_wordNames, .inl (cJ, 23, .inr (.inl f_p0_wordNames))), (h_settings, .inl (cI, 5, .inl f_settings))] := hD
        refine W.widen (k := 0) (n := 0) (Nat.le_of_ble_eq_true rfl) (Nat.le_of_ble_eq_true rfl) ?_
        exact ret_i (v := 0) hx hb hr hlocks hS (hP.sub (ws' := [(h0, .inr (1, vL 18 F9)), (h_settings, .inl (cI, 5, .inl f_settings)), (p0, .inr (6, vL 12 F31)), (h_p0_bytes, .inl (cB, 940, .inl f_p0_bytes)), (h_p0_wordNames, .inl (cJ, 23, .inr (.inl f_p0_wordNames)))]) [0, 4, 1, 2, 3] rfl) (hD.sub (ws' := [(h0, .inr (1, vL 18 F9)), (h_settings, .inl (cI, 5, .inl f_settings)), (p0, .inr (6, vL 12 F31)), (h_p0_bytes, .inl (cB, 940, .inl f_p0_bytes)), (h_p0_wordNames, .inl (cJ, 23, .inr (.inl f_p0_wordNames)))]) [0, 4, 1, 2, 3] (by decide) rfl) dX1_readSetting_52 rfl (Nat.le_of_ble_eq_true rfl) (Nat.le_of_ble_eq_true rfl) ⟨F9, v8, F31, y12, y13, y14, y15, y32, y13, y16, f_settings, (SAME.up eF9 SAME.rf (by decide)), (get_eq eF9), (SAME.tr (SAME.tr SAME.rf t17 (by decide)) t33 (by decide)), (SAME.at t33 (by decide) t18), (SAME.at t33 (by decide) t19), (SAME.at t33 (by decide) t21), (SAME.at t33 (by decide) t22), t34, t36, (SAME.at t33 (by decide) t23), t24, s_settings_0, (show 0 ≤ (0 : Int32).toInt ∧ (0 : Int32).toInt ≤ 1 by decide), rfl⟩
      · have hP : va_P D vwCl [(h0, .inr (1, vL 18 F9)), (p0, .inr (6, vL 12 F37)), (h_p0_bytes, .inl (cB, 940, .inl f_p0_bytes)), (h_p0_wordNames, .inl (cJ, 23, .inr (.inl f_p0_wordNames))), (h_settings, .inl (cI, 5, .inl g43))] H := hP
        have hD : va_D A [(h0, .inr (1, vL 18 F9)), (p0, .inr (6, vL 12 F37)), (h_p0_bytes, .inl (cB, 940, .inl f_p0_bytes)), (h_p0_wordNames, .inl (cJ, 23, .inr (.inl f_p0_wordNames))), (h_settings, .inl (cI, 5, .inl g43))] := hD
        refine W.widen (k := 0) (n := 0) (Nat.le_of_ble_eq_true rfl) (Nat.le_of_ble_eq_true rfl) ?_
        have k58 : 3 ≤ y12.toInt ∧ y12.toInt ≤ 3 := ⟨Int.le_trans (Int.le_refl _) (Int.le_of_eq t54.symm), Int.le_trans (Int.le_of_eq t54) (Int.le_refl _)⟩
        have k59 : 5 ≤ y14.toInt ∧ y14.toInt ≤ 2147483647 := ⟨Int.le_trans (Int.le_refl _) t55, (ir_any _).2⟩
        have k60 : 5 ≤ y14.toInt ∧ y14.toInt ≤ 40 := ⟨k59.1, Int.le_trans t56 (Int.le_refl _)⟩
        have r61 : SG 0 0 5 40 g43 := by rw [← t57]; exact s_settings_0.up (by decide) (Or.inr (Or.inr k60))
        exact ret_i (v := 1) hx hb hr hlocks hS (hP.sub (ws' := [(h0, .inr (1, vL 18 F9)), (h_settings, .inl (cI, 5, .inl g43)), (p0, .inr (6, vL 12 F37)), (h_p0_bytes, .inl (cB, 940, .inl f_p0_bytes)), (h_p0_wordNames, .inl (cJ, 23, .inr (.inl f_p0_wordNames)))]) [0, 4, 1, 2, 3] rfl) (hD.sub (ws' := [(h0, .inr (1, vL 18 F9)), (h_settings, .inl (cI, 5, .inl g43)), (p0, .inr (6, vL 12 F37)), (h_p0_bytes, .inl (cB, 940, .inl f_p0_bytes)), (h_p0_wordNames, .inl (cJ, 23, .inr (.inl f_p0_wordNames)))]) [0, 4, 1, 2, 3] (by decide) rfl) dX1_readSetting_52 rfl (Nat.le_of_ble_eq_true rfl) (Nat.le_of_ble_eq_true rfl) ⟨F9, v8, F37, y38, y39, y40, y41, x_p0_faultKind, x_p0_faultPlace, y42, g43, (SAME.up eF9 SAME.rf (by decide)), (get_eq eF9), (SAME.tr (SAME.tr SAME.rf t17 (by decide)) t44 (by decide)), t45, t46, t48, t49, (SAME.at t44 (by decide) (SAME.at t17 (by decide) e_p0_faultKind)), (SAME.at t44 (by decide) (SAME.at t17 (by decide) e_p0_faultPlace)), t50, t51, r61, (show 0 ≤ (1 : Int32).toInt ∧ (1 : Int32).toInt ≤ 1 by decide), rfl⟩
    · have dc6 : v4.toInt ≠ 0 := ne_i (a := v4.toInt) (b := 0) rfl rfl c6
      have k62 : 1 ≤ v4.toInt ∧ v4.toInt ≤ 1 := ⟨ne_lo dc6 k5.1 ⟨Int.le_refl _, Int.le_refl _⟩ (by decide), k5.2⟩
      refine lv_aload_n hx hb dX1_readSetting_11 rfl (lv_at hl 1 rfl) ?_
      refine lv_iconst (v := 3) hx hb dX1_readSetting_12 (by decide) ?_
      refine call_Vi (wr := [(h0, .inr (1, vL 18 Fh)), (h_settings, .inl (cI, 5, .inl f_settings)), (h_p0_bytes, .inl (cB, 940, .inl f_p0_bytes)), (h_p0_wordNames, .inl (cJ, 23, .inr (.inl f_p0_wordNames)))]) (As := [.int 3]) (rest := []) hx hb hml hown hw (m_X6_fail l D cI cJ cB cP cM cZ p0 F_p0_ x_p0_place 3 _ e_p0_place) wV_X1_128_X6_fail dX1_readSetting_13 hK hP hD hS hA [2] [0, 1, 3, 4] rfl rfl (by decide) (by decide) (by decide) 0 6 rfl rfl GG.fb hG.1.at hl.1 rfl (Nat.le_of_ble_eq_true rfl) ⟨(Nat.le_of_ble_eq_true rfl), (Nat.le_of_ble_eq_true rfl)⟩ ⟨(Nat.le_of_ble_eq_true rfl), (Nat.le_of_ble_eq_true rfl)⟩ (fun r63 u H locs hp hP hD hS => ?_)
      obtain ⟨F64, t65, t66, t67, rfl, rfl⟩ := hp
      have hP : va_P D vwCl [(h0, .inr (1, vL 18 Fh)), (h_settings, .inl (cI, 5, .inl f_settings)), (h_p0_bytes, .inl (cB, 940, .inl f_p0_bytes)), (h_p0_wordNames, .inl (cJ, 23, .inr (.inl f_p0_wordNames))), (p0, .inr (6, vL 12 F64))] H := hP
      have hD : va_D A [(h0, .inr (1, vL 18 Fh)), (h_settings, .inl (cI, 5, .inl f_settings)), (h_p0_bytes, .inl (cB, 940, .inl f_p0_bytes)), (h_p0_wordNames, .inl (cJ, 23, .inr (.inl f_p0_wordNames))), (p0, .inr (6, vL 12 F64))] := hD
      refine W.widen (k := 0) (n := 0) (Nat.le_of_ble_eq_true rfl) (Nat.le_of_ble_eq_true rfl) ?_
      exact ret_i (v := 0) hx hb hr hlocks hS (hP.sub (ws' := [(h0, .inr (1, vL 18 Fh)), (h_settings, .inl (cI, 5, .inl f_settings)), (p0, .inr (6, vL 12 F64)), (h_p0_bytes, .inl (cB, 940, .inl f_p0_bytes)), (h_p0_wordNames, .inl (cJ, 23, .inr (.inl f_p0_wordNames)))]) [0, 1, 4, 2, 3] rfl) (hD.sub (ws' := [(h0, .inr (1, vL 18 Fh)), (h_settings, .inl (cI, 5, .inl f_settings)), (p0, .inr (6, vL 12 F64)), (h_p0_bytes, .inl (cB, 940, .inl f_p0_bytes)), (h_p0_wordNames, .inl (cJ, 23, .inr (.inl f_p0_wordNames)))]) [0, 1, 4, 2, 3] (by decide) rfl) dX1_readSetting_16 rfl (Nat.le_of_ble_eq_true rfl) (Nat.le_of_ble_eq_true rfl) ⟨Fh, x_settingsTold, F64, x_p0_kind, x_p0_place, x_p0_value, x_p0_name, 3, x_p0_place, x_p0_at, f_settings, SAME.rf, e_settingsTold, (SAME.tr SAME.rf t65 (by decide)), (SAME.at t65 (by decide) e_p0_kind), (SAME.at t65 (by decide) e_p0_place), (SAME.at t65 (by decide) e_p0_value), (SAME.at t65 (by decide) e_p0_name), t66, t67, (SAME.at t65 (by decide) e_p0_at), i_x_p0_at, s_settings_0, (show 0 ≤ (0 : Int32).toInt ∧ (0 : Int32).toInt ≤ 1 by decide), rfl⟩
  have dk1 : p1.toInt ≠ 0 := ne_i rfl rfl k1
  have k68 : 1 ≤ p1.toInt ∧ p1.toInt ≤ 4 := ⟨ne_lo dk1 i_p1.1 ⟨Int.le_refl _, Int.le_refl _⟩ (by decide), i_p1.2⟩
  by_cases k69 : p1 = 1
  · have dk69 : p1.toInt = 1 := eq_i rfl rfl k69
    have k70 : 1 ≤ p1.toInt ∧ p1.toInt ≤ 1 := ⟨k68.1, Int.le_trans (Int.le_of_eq dk69) (Int.le_refl _)⟩
    have hl : lv_has ls 3 [(0, .ref h0), (1, .ref p0), (2, .int 1)] := by have q := hl; rw [k69] at q; exact q
    refine lv_aload_n hx hb dX1_readSetting_0 rfl (lv_at hl 0 rfl) ?_
    refine get_f (D := D) (ci := 1) (v := .int x_settingsTold) (C := RX1) (T := TX1) (N := 18) hx hb hw inAX1 hown hK hP 0 rfl rfl 17 (by decide) (hw _ q_364) (fun _ h9 => h9) e_settingsTold dX1_readSetting_1 ?_
    refine lv_iload_n hx hb dX1_readSetting_4 rfl (lv_at hl 2 rfl) ?_
    refine lv_ishr hx hb dX1_readSetting_5 ?_
    refine lv_topi (fun v71 ev71 => ?_)
    refine lv_iconst (v := 1) hx hb dX1_readSetting_6 (by decide) ?_
    refine lv_iand hx hb dX1_readSetting_7 ?_
    refine lv_topi (fun v72 ev72 => ?_)
    have k73 : 0 ≤ v72.toInt ∧ v72.toInt ≤ 1 := by rw [ev72]; exact and_i v71 1 (by decide)
    refine lv_if_eq (tgt := 17) hx hb dX1_readSetting_8 (by decide) (fun c74 => ?_) (fun c74 => ?_)
    · have dc74 : v72.toInt = 0 := eq_i (a := v72.toInt) (b := 0) rfl rfl c74
      have k75 : 0 ≤ v72.toInt ∧ v72.toInt ≤ 0 := ⟨k73.1, Int.le_trans (Int.le_of_eq dc74) (Int.le_refl _)⟩
      refine lv_aload_n hx hb dX1_readSetting_17 rfl (lv_at hl 0 rfl) ?_
      refine lv_dup hx hb dX1_readSetting_18 rfl ?_
      refine get_f (D := D) (ci := 1) (v := .int x_settingsTold) (C := RX1) (T := TX1) (N := 18) hx hb hw inAX1 hown hK hP 0 rfl rfl 17 (by decide) (hw _ q_364) (fun _ h9 => h9) e_settingsTold dX1_readSetting_19 ?_
      refine lv_iconst (v := 1) hx hb dX1_readSetting_22 (by decide) ?_
      refine lv_iload_n hx hb dX1_readSetting_23 rfl (lv_at hl 2 rfl) ?_
      refine lv_ishl hx hb dX1_readSetting_24 ?_
      refine lv_ci (y := 2) (by decide +kernel) ?_
      refine lv_ior hx hb dX1_readSetting_25 ?_
      refine lv_topi (fun v76 ev76 => ?_)
      refine put_f (D := D) (ci := 1) (v := .int v76) (ty := .int) (C := RX1) (T := TX1) (N := 18) hx hb hw inAX1 tyX1 tyX1_ok nmX1 hown hK hP hD hS 0 rfl rfl 17 (by decide) (hw _ q_364) (fun _ h9 => h9) rfl (by decide +kernel) rfl rfl dX1_readSetting_26 (fun H locs F77 eF77 hP hD hS => ?_)
      have hP : va_P D vwCl [(h0, .inr (1, vL 18 F77)), (h_settings, .inl (cI, 5, .inl f_settings)), (p0, .inr (6, vL 12 F_p0_)), (h_p0_bytes, .inl (cB, 940, .inl f_p0_bytes)), (h_p0_wordNames, .inl (cJ, 23, .inr (.inl f_p0_wordNames)))] H := hP
      have hD : va_D A [(h0, .inr (1, vL 18 F77)), (h_settings, .inl (cI, 5, .inl f_settings)), (p0, .inr (6, vL 12 F_p0_)), (h_p0_bytes, .inl (cB, 940, .inl f_p0_bytes)), (h_p0_wordNames, .inl (cJ, 23, .inr (.inl f_p0_wordNames)))] := hD
      refine lv_aload_n hx hb dX1_readSetting_29 rfl (lv_at hl 1 rfl) ?_
      refine call_Vv (wr := [(h0, .inr (1, vL 18 F77)), (h_settings, .inl (cI, 5, .inl f_settings))]) (As := []) (rest := []) hx hb hml hown hw (m_X6_advance l D cI cJ cB cP cM cZ p0 h_p0_bytes h_p0_wordNames F_p0_ x_p0_length x_p0_value x_p0_name x_p0_at x_p0_mostBytes f_p0_bytes f_p0_wordNames _ e_p0_bytes e_p0_length i_x_p0_length e_p0_value e_p0_name e_p0_wordNames e_p0_at i_x_p0_at e_p0_mostBytes) wV_X1_131_X6_advance dX1_readSetting_30 hK hP hD hS hA [2, 3, 4] [0, 1] rfl rfl (by decide) (by decide) (by decide) 0 6 rfl rfl GG.fb hG.1.at hl.1 rfl (Nat.le_of_ble_eq_true rfl) ⟨(Nat.le_of_ble_eq_true rfl), (Nat.le_of_ble_eq_true rfl)⟩ ⟨(Nat.le_of_ble_eq_true rfl), (Nat.le_of_ble_eq_true rfl)⟩ (fun u H locs hp hP hD hS => ?_)
      obtain ⟨F79, y80, y81, y82, y83, y84, t85, t86, t87, t88, t89, t90, t91, t92, rfl⟩ := hp
      have hP : va_P D vwCl [(h0, .inr (1, vL 18 F77)), (h_settings, .inl (cI, 5, .inl f_settings)), (p0, .inr (6, vL 12 F79)), (h_p0_bytes, .inl (cB, 940, .inl f_p0_bytes)), (h_p0_wordNames, .inl (cJ, 23, .inr (.inl f_p0_wordNames)))] H := hP
      have hD : va_D A [(h0, .inr (1, vL 18 F77)), (h_settings, .inl (cI, 5, .inl f_settings)), (p0, .inr (6, vL 12 F79)), (h_p0_bytes, .inl (cB, 940, .inl f_p0_bytes)), (h_p0_wordNames, .inl (cJ, 23, .inr (.inl f_p0_wordNames)))] := hD
      refine W.widen (k := 0) (n := 0) (Nat.le_of_ble_eq_true rfl) (Nat.le_of_ble_eq_true rfl) ?_
      refine lv_aload_n hx hb dX1_readSetting_33 rfl (lv_at hl 1 rfl) ?_
      refine lv_aload_n hx hb dX1_readSetting_34 rfl (lv_at hl 0 rfl) ?_
      have n93 : F77 1 = .ref h_settings := (get_ne eF77 (by decide) e_settings)
      refine get_f (D := D) (ci := 1) (v := .ref h_settings) (C := RX1) (T := TX1) (N := 18) hx hb hw inAX1 hown hK hP 0 rfl rfl 1 (by decide) (hw _ q_315) (fun _ h9 => h9) n93 dX1_readSetting_35 ?_
      refine lv_iload_n hx hb dX1_readSetting_38 rfl (lv_at hl 2 rfl) ?_
      refine va_getsN hx hb hST.2.2.1 hS hown (va_Nw.use rfl (hG.1.2.1 (.fieldLinkNest "FourSledge$Course" 134 "FourSledge" "SETTING_LEAST" "[I" "FourSledge") (by decide +kernel))) (fun _ h9 => h9) dX1_readSetting_39 ?_
      refine lv_iload_n hx hb dX1_readSetting_42 rfl (lv_at hl 2 rfl) ?_
      refine va_ti (v := .int (lF 1)) hx hb hST.2.2.2.1 hS (vp_in_nI (n := 1) (N := 5) (Nat.le_of_ble_eq_true rfl) (Nat.le_of_ble_eq_true rfl)) rfl dX1_readSetting_43 ?_
      refine lv_ci (y := 100) (by decide +kernel) ?_
      refine va_getsN hx hb hST.2.2.2.2.1 hS hown (va_Nw.use rfl (hG.1.2.1 (.fieldLinkNest "FourSledge$Course" 137 "FourSledge" "SETTING_MOST" "[I" "FourSledge") (by decide +kernel))) (fun _ h9 => h9) dX1_readSetting_44 ?_
      refine lv_iload_n hx hb dX1_readSetting_47 rfl (lv_at hl 2 rfl) ?_
      refine va_ti (v := .int (mF 1)) hx hb hST.2.2.2.2.2 hS (vp_in_nI (n := 1) (N := 5) (Nat.le_of_ble_eq_true rfl) (Nat.le_of_ble_eq_true rfl)) rfl dX1_readSetting_48 ?_
      refine lv_ci (y := 300) (by decide +kernel) ?_
      have n94 : F79 0 = .ref h_p0_bytes := (SAME.at t85 (by decide) e_p0_bytes)
      have n95 : F79 1 = .int x_p0_length := (SAME.at t85 (by decide) e_p0_length)
      have n96 : F79 9 = .ref h_p0_wordNames := (SAME.at t85 (by decide) e_p0_wordNames)
      have n97 : F79 11 = .int x_p0_mostBytes := (SAME.at t85 (by decide) e_p0_mostBytes)
      refine call_Vi (wr := [(h0, .inr (1, vL 18 F77))]) (As := [.ref h_settings, .int 1, .int 100, .int 300]) (rest := []) hx hb hml hown hw (m_X6_takeInto_5 l D cI cJ cB cP cM cZ p0 h_p0_bytes h_p0_wordNames h_settings F79 x_p0_length y80 y81 y82 y83 y84 x_p0_mostBytes f_p0_bytes f_p0_wordNames f_settings 1 100 300 _ n94 n95 i_x_p0_length t86 t87 t89 t90 n96 t91 t92 n97) wV_X1_140_X6_takeInto dX1_readSetting_49 hK hP hD hS hA [2, 3, 4, 1] [0] rfl rfl (by decide) (by decide) (by decide) 0 6 rfl rfl GG.fb hG.1.at hl.1 rfl (Nat.le_of_ble_eq_true rfl) ⟨(Nat.le_of_ble_eq_true rfl), (Nat.le_of_ble_eq_true rfl)⟩ ⟨(Nat.le_of_ble_eq_true rfl), (Nat.le_of_ble_eq_true rfl)⟩ (fun r98 u H locs hp hP hD hS => ?_)
      rcases hp with ⟨F99, y100, t101, t102, t103, t104, rfl, rfl⟩ | ⟨F105, y106, y107, y108, y109, y110, g111, t112, t113, t114, t115, t116, t117, t118, t119, t120, t121, t122, t123, t124, t125, rfl, rfl⟩
      · have hP : va_P D vwCl [(h0, .inr (1, vL 18 F77)), (p0, .inr (6, vL 12 F99)), (h_p0_bytes, .inl (cB, 940, .inl f_p0_bytes)), (h_p0_wordNames, .inl (cJ, 23, .inr (.inl f_p0_wordNames))), (h_settings, .inl (cI, 5, .inl f_settings))] H := hP
        have hD : va_D A [(h0, .inr (1, vL 18 F77)), (p0, .inr (6, vL 12 F99)), (h_p0_bytes, .inl (cB, 940, .inl f_p0_bytes)), (h_p0_wordNames, .inl (cJ, 23, .inr (.inl f_p0_wordNames))), (h_settings, .inl (cI, 5, .inl f_settings))] := hD
        refine W.widen (k := 0) (n := 0) (Nat.le_of_ble_eq_true rfl) (Nat.le_of_ble_eq_true rfl) ?_
        exact ret_i (v := 0) hx hb hr hlocks hS (hP.sub (ws' := [(h0, .inr (1, vL 18 F77)), (h_settings, .inl (cI, 5, .inl f_settings)), (p0, .inr (6, vL 12 F99)), (h_p0_bytes, .inl (cB, 940, .inl f_p0_bytes)), (h_p0_wordNames, .inl (cJ, 23, .inr (.inl f_p0_wordNames)))]) [0, 4, 1, 2, 3] rfl) (hD.sub (ws' := [(h0, .inr (1, vL 18 F77)), (h_settings, .inl (cI, 5, .inl f_settings)), (p0, .inr (6, vL 12 F99)), (h_p0_bytes, .inl (cB, 940, .inl f_p0_bytes)), (h_p0_wordNames, .inl (cJ, 23, .inr (.inl f_p0_wordNames)))]) [0, 4, 1, 2, 3] (by decide) rfl) dX1_readSetting_52 rfl (Nat.le_of_ble_eq_true rfl) (Nat.le_of_ble_eq_true rfl) ⟨F77, v76, F99, y80, y81, y82, y83, y100, y81, y84, f_settings, (SAME.up eF77 SAME.rf (by decide)), (get_eq eF77), (SAME.tr (SAME.tr SAME.rf t85 (by decide)) t101 (by decide)), (SAME.at t101 (by decide) t86), (SAME.at t101 (by decide) t87), (SAME.at t101 (by decide) t89), (SAME.at t101 (by decide) t90), t102, t104, (SAME.at t101 (by decide) t91), t92, s_settings_0, (show 0 ≤ (0 : Int32).toInt ∧ (0 : Int32).toInt ≤ 1 by decide), rfl⟩
      · have hP : va_P D vwCl [(h0, .inr (1, vL 18 F77)), (p0, .inr (6, vL 12 F105)), (h_p0_bytes, .inl (cB, 940, .inl f_p0_bytes)), (h_p0_wordNames, .inl (cJ, 23, .inr (.inl f_p0_wordNames))), (h_settings, .inl (cI, 5, .inl g111))] H := hP
        have hD : va_D A [(h0, .inr (1, vL 18 F77)), (p0, .inr (6, vL 12 F105)), (h_p0_bytes, .inl (cB, 940, .inl f_p0_bytes)), (h_p0_wordNames, .inl (cJ, 23, .inr (.inl f_p0_wordNames))), (h_settings, .inl (cI, 5, .inl g111))] := hD
        refine W.widen (k := 0) (n := 0) (Nat.le_of_ble_eq_true rfl) (Nat.le_of_ble_eq_true rfl) ?_
        have k126 : 3 ≤ y80.toInt ∧ y80.toInt ≤ 3 := ⟨Int.le_trans (Int.le_refl _) (Int.le_of_eq t122.symm), Int.le_trans (Int.le_of_eq t122) (Int.le_refl _)⟩
        have k127 : 100 ≤ y82.toInt ∧ y82.toInt ≤ 2147483647 := ⟨Int.le_trans (Int.le_refl _) t123, (ir_any _).2⟩
        have k128 : 100 ≤ y82.toInt ∧ y82.toInt ≤ 300 := ⟨k127.1, Int.le_trans t124 (Int.le_refl _)⟩
        have r129 : SG 0 0 5 40 g111 := by rw [← t125]; exact s_settings_0.up (by decide) (Or.inr (Or.inl (by decide)))
        exact ret_i (v := 1) hx hb hr hlocks hS (hP.sub (ws' := [(h0, .inr (1, vL 18 F77)), (h_settings, .inl (cI, 5, .inl g111)), (p0, .inr (6, vL 12 F105)), (h_p0_bytes, .inl (cB, 940, .inl f_p0_bytes)), (h_p0_wordNames, .inl (cJ, 23, .inr (.inl f_p0_wordNames)))]) [0, 4, 1, 2, 3] rfl) (hD.sub (ws' := [(h0, .inr (1, vL 18 F77)), (h_settings, .inl (cI, 5, .inl g111)), (p0, .inr (6, vL 12 F105)), (h_p0_bytes, .inl (cB, 940, .inl f_p0_bytes)), (h_p0_wordNames, .inl (cJ, 23, .inr (.inl f_p0_wordNames)))]) [0, 4, 1, 2, 3] (by decide) rfl) dX1_readSetting_52 rfl (Nat.le_of_ble_eq_true rfl) (Nat.le_of_ble_eq_true rfl) ⟨F77, v76, F105, y106, y107, y108, y109, x_p0_faultKind, x_p0_faultPlace, y110, g111, (SAME.up eF77 SAME.rf (by decide)), (get_eq eF77), (SAME.tr (SAME.tr SAME.rf t85 (by decide)) t112 (by decide)), t113, t114, t116, t117, (SAME.at t112 (by decide) (SAME.at t85 (by decide) e_p0_faultKind)), (SAME.at t112 (by decide) (SAME.at t85 (by decide) e_p0_faultPlace)), t118, t119, r129, (show 0 ≤ (1 : Int32).toInt ∧ (1 : Int32).toInt ≤ 1 by decide), rfl⟩
    · have dc74 : v72.toInt ≠ 0 := ne_i (a := v72.toInt) (b := 0) rfl rfl c74
      have k130 : 1 ≤ v72.toInt ∧ v72.toInt ≤ 1 := ⟨ne_lo dc74 k73.1 ⟨Int.le_refl _, Int.le_refl _⟩ (by decide), k73.2⟩
      refine lv_aload_n hx hb dX1_readSetting_11 rfl (lv_at hl 1 rfl) ?_
      refine lv_iconst (v := 3) hx hb dX1_readSetting_12 (by decide) ?_
      refine call_Vi (wr := [(h0, .inr (1, vL 18 Fh)), (h_settings, .inl (cI, 5, .inl f_settings)), (h_p0_bytes, .inl (cB, 940, .inl f_p0_bytes)), (h_p0_wordNames, .inl (cJ, 23, .inr (.inl f_p0_wordNames)))]) (As := [.int 3]) (rest := []) hx hb hml hown hw (m_X6_fail l D cI cJ cB cP cM cZ p0 F_p0_ x_p0_place 3 _ e_p0_place) wV_X1_128_X6_fail dX1_readSetting_13 hK hP hD hS hA [2] [0, 1, 3, 4] rfl rfl (by decide) (by decide) (by decide) 0 6 rfl rfl GG.fb hG.1.at hl.1 rfl (Nat.le_of_ble_eq_true rfl) ⟨(Nat.le_of_ble_eq_true rfl), (Nat.le_of_ble_eq_true rfl)⟩ ⟨(Nat.le_of_ble_eq_true rfl), (Nat.le_of_ble_eq_true rfl)⟩ (fun r131 u H locs hp hP hD hS => ?_)
      obtain ⟨F132, t133, t134, t135, rfl, rfl⟩ := hp
      have hP : va_P D vwCl [(h0, .inr (1, vL 18 Fh)), (h_settings, .inl (cI, 5, .inl f_settings)), (h_p0_bytes, .inl (cB, 940, .inl f_p0_bytes)), (h_p0_wordNames, .inl (cJ, 23, .inr (.inl f_p0_wordNames))), (p0, .inr (6, vL 12 F132))] H := hP
      have hD : va_D A [(h0, .inr (1, vL 18 Fh)), (h_settings, .inl (cI, 5, .inl f_settings)), (h_p0_bytes, .inl (cB, 940, .inl f_p0_bytes)), (h_p0_wordNames, .inl (cJ, 23, .inr (.inl f_p0_wordNames))), (p0, .inr (6, vL 12 F132))] := hD
      refine W.widen (k := 0) (n := 0) (Nat.le_of_ble_eq_true rfl) (Nat.le_of_ble_eq_true rfl) ?_
      exact ret_i (v := 0) hx hb hr hlocks hS (hP.sub (ws' := [(h0, .inr (1, vL 18 Fh)), (h_settings, .inl (cI, 5, .inl f_settings)), (p0, .inr (6, vL 12 F132)), (h_p0_bytes, .inl (cB, 940, .inl f_p0_bytes)), (h_p0_wordNames, .inl (cJ, 23, .inr (.inl f_p0_wordNames)))]) [0, 1, 4, 2, 3] rfl) (hD.sub (ws' := [(h0, .inr (1, vL 18 Fh)), (h_settings, .inl (cI, 5, .inl f_settings)), (p0, .inr (6, vL 12 F132)), (h_p0_bytes, .inl (cB, 940, .inl f_p0_bytes)), (h_p0_wordNames, .inl (cJ, 23, .inr (.inl f_p0_wordNames)))]) [0, 1, 4, 2, 3] (by decide) rfl) dX1_readSetting_16 rfl (Nat.le_of_ble_eq_true rfl) (Nat.le_of_ble_eq_true rfl) ⟨Fh, x_settingsTold, F132, x_p0_kind, x_p0_place, x_p0_value, x_p0_name, 3, x_p0_place, x_p0_at, f_settings, SAME.rf, e_settingsTold, (SAME.tr SAME.rf t133 (by decide)), (SAME.at t133 (by decide) e_p0_kind), (SAME.at t133 (by decide) e_p0_place), (SAME.at t133 (by decide) e_p0_value), (SAME.at t133 (by decide) e_p0_name), t134, t135, (SAME.at t133 (by decide) e_p0_at), i_x_p0_at, s_settings_0, (show 0 ≤ (0 : Int32).toInt ∧ (0 : Int32).toInt ≤ 1 by decide), rfl⟩
  have dk69 : p1.toInt ≠ 1 := ne_i rfl rfl k69
  have k136 : 2 ≤ p1.toInt ∧ p1.toInt ≤ 4 := ⟨ne_lo dk69 k68.1 ⟨Int.le_refl _, Int.le_refl _⟩ (by decide), k68.2⟩
  by_cases k137 : p1 = 2
  · have dk137 : p1.toInt = 2 := eq_i rfl rfl k137
    have k138 : 2 ≤ p1.toInt ∧ p1.toInt ≤ 2 := ⟨k136.1, Int.le_trans (Int.le_of_eq dk137) (Int.le_refl _)⟩
    have hl : lv_has ls 3 [(0, .ref h0), (1, .ref p0), (2, .int 2)] := by have q := hl; rw [k137] at q; exact q
    refine lv_aload_n hx hb dX1_readSetting_0 rfl (lv_at hl 0 rfl) ?_
    refine get_f (D := D) (ci := 1) (v := .int x_settingsTold) (C := RX1) (T := TX1) (N := 18) hx hb hw inAX1 hown hK hP 0 rfl rfl 17 (by decide) (hw _ q_364) (fun _ h9 => h9) e_settingsTold dX1_readSetting_1 ?_
    refine lv_iload_n hx hb dX1_readSetting_4 rfl (lv_at hl 2 rfl) ?_
    refine lv_ishr hx hb dX1_readSetting_5 ?_
    refine lv_topi (fun v139 ev139 => ?_)
    refine lv_iconst (v := 1) hx hb dX1_readSetting_6 (by decide) ?_
    refine lv_iand hx hb dX1_readSetting_7 ?_
    refine lv_topi (fun v140 ev140 => ?_)
    have k141 : 0 ≤ v140.toInt ∧ v140.toInt ≤ 1 := by rw [ev140]; exact and_i v139 1 (by decide)
    refine lv_if_eq (tgt := 17) hx hb dX1_readSetting_8 (by decide) (fun c142 => ?_) (fun c142 => ?_)
    · have dc142 : v140.toInt = 0 := eq_i (a := v140.toInt) (b := 0) rfl rfl c142
      have k143 : 0 ≤ v140.toInt ∧ v140.toInt ≤ 0 := ⟨k141.1, Int.le_trans (Int.le_of_eq dc142) (Int.le_refl _)⟩
      refine lv_aload_n hx hb dX1_readSetting_17 rfl (lv_at hl 0 rfl) ?_
      refine lv_dup hx hb dX1_readSetting_18 rfl ?_
      refine get_f (D := D) (ci := 1) (v := .int x_settingsTold) (C := RX1) (T := TX1) (N := 18) hx hb hw inAX1 hown hK hP 0 rfl rfl 17 (by decide) (hw _ q_364) (fun _ h9 => h9) e_settingsTold dX1_readSetting_19 ?_
      refine lv_iconst (v := 1) hx hb dX1_readSetting_22 (by decide) ?_
      refine lv_iload_n hx hb dX1_readSetting_23 rfl (lv_at hl 2 rfl) ?_
      refine lv_ishl hx hb dX1_readSetting_24 ?_
      refine lv_ci (y := 4) (by decide +kernel) ?_
      refine lv_ior hx hb dX1_readSetting_25 ?_
      refine lv_topi (fun v144 ev144 => ?_)
      refine put_f (D := D) (ci := 1) (v := .int v144) (ty := .int) (C := RX1) (T := TX1) (N := 18) hx hb hw inAX1 tyX1 tyX1_ok nmX1 hown hK hP hD hS 0 rfl rfl 17 (by decide) (hw _ q_364) (fun _ h9 => h9) rfl (by decide +kernel) rfl rfl dX1_readSetting_26 (fun H locs F145 eF145 hP hD hS => ?_)
      have hP : va_P D vwCl [(h0, .inr (1, vL 18 F145)), (h_settings, .inl (cI, 5, .inl f_settings)), (p0, .inr (6, vL 12 F_p0_)), (h_p0_bytes, .inl (cB, 940, .inl f_p0_bytes)), (h_p0_wordNames, .inl (cJ, 23, .inr (.inl f_p0_wordNames)))] H := hP
      have hD : va_D A [(h0, .inr (1, vL 18 F145)), (h_settings, .inl (cI, 5, .inl f_settings)), (p0, .inr (6, vL 12 F_p0_)), (h_p0_bytes, .inl (cB, 940, .inl f_p0_bytes)), (h_p0_wordNames, .inl (cJ, 23, .inr (.inl f_p0_wordNames)))] := hD
      refine lv_aload_n hx hb dX1_readSetting_29 rfl (lv_at hl 1 rfl) ?_
      refine call_Vv (wr := [(h0, .inr (1, vL 18 F145)), (h_settings, .inl (cI, 5, .inl f_settings))]) (As := []) (rest := []) hx hb hml hown hw (m_X6_advance l D cI cJ cB cP cM cZ p0 h_p0_bytes h_p0_wordNames F_p0_ x_p0_length x_p0_value x_p0_name x_p0_at x_p0_mostBytes f_p0_bytes f_p0_wordNames _ e_p0_bytes e_p0_length i_x_p0_length e_p0_value e_p0_name e_p0_wordNames e_p0_at i_x_p0_at e_p0_mostBytes) wV_X1_131_X6_advance dX1_readSetting_30 hK hP hD hS hA [2, 3, 4] [0, 1] rfl rfl (by decide) (by decide) (by decide) 0 6 rfl rfl GG.fb hG.1.at hl.1 rfl (Nat.le_of_ble_eq_true rfl) ⟨(Nat.le_of_ble_eq_true rfl), (Nat.le_of_ble_eq_true rfl)⟩ ⟨(Nat.le_of_ble_eq_true rfl), (Nat.le_of_ble_eq_true rfl)⟩ (fun u H locs hp hP hD hS => ?_)
      obtain ⟨F147, y148, y149, y150, y151, y152, t153, t154, t155, t156, t157, t158, t159, t160, rfl⟩ := hp
      have hP : va_P D vwCl [(h0, .inr (1, vL 18 F145)), (h_settings, .inl (cI, 5, .inl f_settings)), (p0, .inr (6, vL 12 F147)), (h_p0_bytes, .inl (cB, 940, .inl f_p0_bytes)), (h_p0_wordNames, .inl (cJ, 23, .inr (.inl f_p0_wordNames)))] H := hP
      have hD : va_D A [(h0, .inr (1, vL 18 F145)), (h_settings, .inl (cI, 5, .inl f_settings)), (p0, .inr (6, vL 12 F147)), (h_p0_bytes, .inl (cB, 940, .inl f_p0_bytes)), (h_p0_wordNames, .inl (cJ, 23, .inr (.inl f_p0_wordNames)))] := hD
      refine W.widen (k := 0) (n := 0) (Nat.le_of_ble_eq_true rfl) (Nat.le_of_ble_eq_true rfl) ?_
      refine lv_aload_n hx hb dX1_readSetting_33 rfl (lv_at hl 1 rfl) ?_
      refine lv_aload_n hx hb dX1_readSetting_34 rfl (lv_at hl 0 rfl) ?_
      have n161 : F145 1 = .ref h_settings := (get_ne eF145 (by decide) e_settings)
      refine get_f (D := D) (ci := 1) (v := .ref h_settings) (C := RX1) (T := TX1) (N := 18) hx hb hw inAX1 hown hK hP 0 rfl rfl 1 (by decide) (hw _ q_315) (fun _ h9 => h9) n161 dX1_readSetting_35 ?_
      refine lv_iload_n hx hb dX1_readSetting_38 rfl (lv_at hl 2 rfl) ?_
      refine va_getsN hx hb hST.2.2.1 hS hown (va_Nw.use rfl (hG.1.2.1 (.fieldLinkNest "FourSledge$Course" 134 "FourSledge" "SETTING_LEAST" "[I" "FourSledge") (by decide +kernel))) (fun _ h9 => h9) dX1_readSetting_39 ?_
      refine lv_iload_n hx hb dX1_readSetting_42 rfl (lv_at hl 2 rfl) ?_
      refine va_ti (v := .int (lF 2)) hx hb hST.2.2.2.1 hS (vp_in_nI (n := 2) (N := 5) (Nat.le_of_ble_eq_true rfl) (Nat.le_of_ble_eq_true rfl)) rfl dX1_readSetting_43 ?_
      refine lv_ci (y := 300) (by decide +kernel) ?_
      refine va_getsN hx hb hST.2.2.2.2.1 hS hown (va_Nw.use rfl (hG.1.2.1 (.fieldLinkNest "FourSledge$Course" 137 "FourSledge" "SETTING_MOST" "[I" "FourSledge") (by decide +kernel))) (fun _ h9 => h9) dX1_readSetting_44 ?_
      refine lv_iload_n hx hb dX1_readSetting_47 rfl (lv_at hl 2 rfl) ?_
      refine va_ti (v := .int (mF 2)) hx hb hST.2.2.2.2.2 hS (vp_in_nI (n := 2) (N := 5) (Nat.le_of_ble_eq_true rfl) (Nat.le_of_ble_eq_true rfl)) rfl dX1_readSetting_48 ?_
      refine lv_ci (y := 900) (by decide +kernel) ?_
      have n162 : F147 0 = .ref h_p0_bytes := (SAME.at t153 (by decide) e_p0_bytes)
      have n163 : F147 1 = .int x_p0_length := (SAME.at t153 (by decide) e_p0_length)
      have n164 : F147 9 = .ref h_p0_wordNames := (SAME.at t153 (by decide) e_p0_wordNames)
      have n165 : F147 11 = .int x_p0_mostBytes := (SAME.at t153 (by decide) e_p0_mostBytes)
      refine call_Vi (wr := [(h0, .inr (1, vL 18 F145))]) (As := [.ref h_settings, .int 2, .int 300, .int 900]) (rest := []) hx hb hml hown hw (m_X6_takeInto_5 l D cI cJ cB cP cM cZ p0 h_p0_bytes h_p0_wordNames h_settings F147 x_p0_length y148 y149 y150 y151 y152 x_p0_mostBytes f_p0_bytes f_p0_wordNames f_settings 2 300 900 _ n162 n163 i_x_p0_length t154 t155 t157 t158 n164 t159 t160 n165) wV_X1_140_X6_takeInto dX1_readSetting_49 hK hP hD hS hA [2, 3, 4, 1] [0] rfl rfl (by decide) (by decide) (by decide) 0 6 rfl rfl GG.fb hG.1.at hl.1 rfl (Nat.le_of_ble_eq_true rfl) ⟨(Nat.le_of_ble_eq_true rfl), (Nat.le_of_ble_eq_true rfl)⟩ ⟨(Nat.le_of_ble_eq_true rfl), (Nat.le_of_ble_eq_true rfl)⟩ (fun r166 u H locs hp hP hD hS => ?_)
      rcases hp with ⟨F167, y168, t169, t170, t171, t172, rfl, rfl⟩ | ⟨F173, y174, y175, y176, y177, y178, g179, t180, t181, t182, t183, t184, t185, t186, t187, t188, t189, t190, t191, t192, t193, rfl, rfl⟩
      · have hP : va_P D vwCl [(h0, .inr (1, vL 18 F145)), (p0, .inr (6, vL 12 F167)), (h_p0_bytes, .inl (cB, 940, .inl f_p0_bytes)), (h_p0_wordNames, .inl (cJ, 23, .inr (.inl f_p0_wordNames))), (h_settings, .inl (cI, 5, .inl f_settings))] H := hP
        have hD : va_D A [(h0, .inr (1, vL 18 F145)), (p0, .inr (6, vL 12 F167)), (h_p0_bytes, .inl (cB, 940, .inl f_p0_bytes)), (h_p0_wordNames, .inl (cJ, 23, .inr (.inl f_p0_wordNames))), (h_settings, .inl (cI, 5, .inl f_settings))] := hD
        refine W.widen (k := 0) (n := 0) (Nat.le_of_ble_eq_true rfl) (Nat.le_of_ble_eq_true rfl) ?_
        exact ret_i (v := 0) hx hb hr hlocks hS (hP.sub (ws' := [(h0, .inr (1, vL 18 F145)), (h_settings, .inl (cI, 5, .inl f_settings)), (p0, .inr (6, vL 12 F167)), (h_p0_bytes, .inl (cB, 940, .inl f_p0_bytes)), (h_p0_wordNames, .inl (cJ, 23, .inr (.inl f_p0_wordNames)))]) [0, 4, 1, 2, 3] rfl) (hD.sub (ws' := [(h0, .inr (1, vL 18 F145)), (h_settings, .inl (cI, 5, .inl f_settings)), (p0, .inr (6, vL 12 F167)), (h_p0_bytes, .inl (cB, 940, .inl f_p0_bytes)), (h_p0_wordNames, .inl (cJ, 23, .inr (.inl f_p0_wordNames)))]) [0, 4, 1, 2, 3] (by decide) rfl) dX1_readSetting_52 rfl (Nat.le_of_ble_eq_true rfl) (Nat.le_of_ble_eq_true rfl) ⟨F145, v144, F167, y148, y149, y150, y151, y168, y149, y152, f_settings, (SAME.up eF145 SAME.rf (by decide)), (get_eq eF145), (SAME.tr (SAME.tr SAME.rf t153 (by decide)) t169 (by decide)), (SAME.at t169 (by decide) t154), (SAME.at t169 (by decide) t155), (SAME.at t169 (by decide) t157), (SAME.at t169 (by decide) t158), t170, t172, (SAME.at t169 (by decide) t159), t160, s_settings_0, (show 0 ≤ (0 : Int32).toInt ∧ (0 : Int32).toInt ≤ 1 by decide), rfl⟩
      · have hP : va_P D vwCl [(h0, .inr (1, vL 18 F145)), (p0, .inr (6, vL 12 F173)), (h_p0_bytes, .inl (cB, 940, .inl f_p0_bytes)), (h_p0_wordNames, .inl (cJ, 23, .inr (.inl f_p0_wordNames))), (h_settings, .inl (cI, 5, .inl g179))] H := hP
        have hD : va_D A [(h0, .inr (1, vL 18 F145)), (p0, .inr (6, vL 12 F173)), (h_p0_bytes, .inl (cB, 940, .inl f_p0_bytes)), (h_p0_wordNames, .inl (cJ, 23, .inr (.inl f_p0_wordNames))), (h_settings, .inl (cI, 5, .inl g179))] := hD
        refine W.widen (k := 0) (n := 0) (Nat.le_of_ble_eq_true rfl) (Nat.le_of_ble_eq_true rfl) ?_
        have k194 : 3 ≤ y148.toInt ∧ y148.toInt ≤ 3 := ⟨Int.le_trans (Int.le_refl _) (Int.le_of_eq t190.symm), Int.le_trans (Int.le_of_eq t190) (Int.le_refl _)⟩
        have k195 : 300 ≤ y150.toInt ∧ y150.toInt ≤ 2147483647 := ⟨Int.le_trans (Int.le_refl _) t191, (ir_any _).2⟩
        have k196 : 300 ≤ y150.toInt ∧ y150.toInt ≤ 900 := ⟨k195.1, Int.le_trans t192 (Int.le_refl _)⟩
        have r197 : SG 0 0 5 40 g179 := by rw [← t193]; exact s_settings_0.up (by decide) (Or.inr (Or.inl (by decide)))
        exact ret_i (v := 1) hx hb hr hlocks hS (hP.sub (ws' := [(h0, .inr (1, vL 18 F145)), (h_settings, .inl (cI, 5, .inl g179)), (p0, .inr (6, vL 12 F173)), (h_p0_bytes, .inl (cB, 940, .inl f_p0_bytes)), (h_p0_wordNames, .inl (cJ, 23, .inr (.inl f_p0_wordNames)))]) [0, 4, 1, 2, 3] rfl) (hD.sub (ws' := [(h0, .inr (1, vL 18 F145)), (h_settings, .inl (cI, 5, .inl g179)), (p0, .inr (6, vL 12 F173)), (h_p0_bytes, .inl (cB, 940, .inl f_p0_bytes)), (h_p0_wordNames, .inl (cJ, 23, .inr (.inl f_p0_wordNames)))]) [0, 4, 1, 2, 3] (by decide) rfl) dX1_readSetting_52 rfl (Nat.le_of_ble_eq_true rfl) (Nat.le_of_ble_eq_true rfl) ⟨F145, v144, F173, y174, y175, y176, y177, x_p0_faultKind, x_p0_faultPlace, y178, g179, (SAME.up eF145 SAME.rf (by decide)), (get_eq eF145), (SAME.tr (SAME.tr SAME.rf t153 (by decide)) t180 (by decide)), t181, t182, t184, t185, (SAME.at t180 (by decide) (SAME.at t153 (by decide) e_p0_faultKind)), (SAME.at t180 (by decide) (SAME.at t153 (by decide) e_p0_faultPlace)), t186, t187, r197, (show 0 ≤ (1 : Int32).toInt ∧ (1 : Int32).toInt ≤ 1 by decide), rfl⟩
    · have dc142 : v140.toInt ≠ 0 := ne_i (a := v140.toInt) (b := 0) rfl rfl c142
      have k198 : 1 ≤ v140.toInt ∧ v140.toInt ≤ 1 := ⟨ne_lo dc142 k141.1 ⟨Int.le_refl _, Int.le_refl _⟩ (by decide), k141.2⟩
      refine lv_aload_n hx hb dX1_readSetting_11 rfl (lv_at hl 1 rfl) ?_
      refine lv_iconst (v := 3) hx hb dX1_readSetting_12 (by decide) ?_
      refine call_Vi (wr := [(h0, .inr (1, vL 18 Fh)), (h_settings, .inl (cI, 5, .inl f_settings)), (h_p0_bytes, .inl (cB, 940, .inl f_p0_bytes)), (h_p0_wordNames, .inl (cJ, 23, .inr (.inl f_p0_wordNames)))]) (As := [.int 3]) (rest := []) hx hb hml hown hw (m_X6_fail l D cI cJ cB cP cM cZ p0 F_p0_ x_p0_place 3 _ e_p0_place) wV_X1_128_X6_fail dX1_readSetting_13 hK hP hD hS hA [2] [0, 1, 3, 4] rfl rfl (by decide) (by decide) (by decide) 0 6 rfl rfl GG.fb hG.1.at hl.1 rfl (Nat.le_of_ble_eq_true rfl) ⟨(Nat.le_of_ble_eq_true rfl), (Nat.le_of_ble_eq_true rfl)⟩ ⟨(Nat.le_of_ble_eq_true rfl), (Nat.le_of_ble_eq_true rfl)⟩ (fun r199 u H locs hp hP hD hS => ?_)
      obtain ⟨F200, t201, t202, t203, rfl, rfl⟩ := hp
      have hP : va_P D vwCl [(h0, .inr (1, vL 18 Fh)), (h_settings, .inl (cI, 5, .inl f_settings)), (h_p0_bytes, .inl (cB, 940, .inl f_p0_bytes)), (h_p0_wordNames, .inl (cJ, 23, .inr (.inl f_p0_wordNames))), (p0, .inr (6, vL 12 F200))] H := hP
      have hD : va_D A [(h0, .inr (1, vL 18 Fh)), (h_settings, .inl (cI, 5, .inl f_settings)), (h_p0_bytes, .inl (cB, 940, .inl f_p0_bytes)), (h_p0_wordNames, .inl (cJ, 23, .inr (.inl f_p0_wordNames))), (p0, .inr (6, vL 12 F200))] := hD
      refine W.widen (k := 0) (n := 0) (Nat.le_of_ble_eq_true rfl) (Nat.le_of_ble_eq_true rfl) ?_
      exact ret_i (v := 0) hx hb hr hlocks hS (hP.sub (ws' := [(h0, .inr (1, vL 18 Fh)), (h_settings, .inl (cI, 5, .inl f_settings)), (p0, .inr (6, vL 12 F200)), (h_p0_bytes, .inl (cB, 940, .inl f_p0_bytes)), (h_p0_wordNames, .inl (cJ, 23, .inr (.inl f_p0_wordNames)))]) [0, 1, 4, 2, 3] rfl) (hD.sub (ws' := [(h0, .inr (1, vL 18 Fh)), (h_settings, .inl (cI, 5, .inl f_settings)), (p0, .inr (6, vL 12 F200)), (h_p0_bytes, .inl (cB, 940, .inl f_p0_bytes)), (h_p0_wordNames, .inl (cJ, 23, .inr (.inl f_p0_wordNames)))]) [0, 1, 4, 2, 3] (by decide) rfl) dX1_readSetting_16 rfl (Nat.le_of_ble_eq_true rfl) (Nat.le_of_ble_eq_true rfl) ⟨Fh, x_settingsTold, F200, x_p0_kind, x_p0_place, x_p0_value, x_p0_name, 3, x_p0_place, x_p0_at, f_settings, SAME.rf, e_settingsTold, (SAME.tr SAME.rf t201 (by decide)), (SAME.at t201 (by decide) e_p0_kind), (SAME.at t201 (by decide) e_p0_place), (SAME.at t201 (by decide) e_p0_value), (SAME.at t201 (by decide) e_p0_name), t202, t203, (SAME.at t201 (by decide) e_p0_at), i_x_p0_at, s_settings_0, (show 0 ≤ (0 : Int32).toInt ∧ (0 : Int32).toInt ≤ 1 by decide), rfl⟩
  have dk137 : p1.toInt ≠ 2 := ne_i rfl rfl k137
  have k204 : 3 ≤ p1.toInt ∧ p1.toInt ≤ 4 := ⟨ne_lo dk137 k136.1 ⟨Int.le_refl _, Int.le_refl _⟩ (by decide), k136.2⟩
  by_cases k205 : p1 = 3
  · have dk205 : p1.toInt = 3 := eq_i rfl rfl k205
    have k206 : 3 ≤ p1.toInt ∧ p1.toInt ≤ 3 := ⟨k204.1, Int.le_trans (Int.le_of_eq dk205) (Int.le_refl _)⟩
    have hl : lv_has ls 3 [(0, .ref h0), (1, .ref p0), (2, .int 3)] := by have q := hl; rw [k205] at q; exact q
    refine lv_aload_n hx hb dX1_readSetting_0 rfl (lv_at hl 0 rfl) ?_
    refine get_f (D := D) (ci := 1) (v := .int x_settingsTold) (C := RX1) (T := TX1) (N := 18) hx hb hw inAX1 hown hK hP 0 rfl rfl 17 (by decide) (hw _ q_364) (fun _ h9 => h9) e_settingsTold dX1_readSetting_1 ?_
    refine lv_iload_n hx hb dX1_readSetting_4 rfl (lv_at hl 2 rfl) ?_
    refine lv_ishr hx hb dX1_readSetting_5 ?_
    refine lv_topi (fun v207 ev207 => ?_)
    refine lv_iconst (v := 1) hx hb dX1_readSetting_6 (by decide) ?_
    refine lv_iand hx hb dX1_readSetting_7 ?_
    refine lv_topi (fun v208 ev208 => ?_)
    have k209 : 0 ≤ v208.toInt ∧ v208.toInt ≤ 1 := by rw [ev208]; exact and_i v207 1 (by decide)
    refine lv_if_eq (tgt := 17) hx hb dX1_readSetting_8 (by decide) (fun c210 => ?_) (fun c210 => ?_)
    · have dc210 : v208.toInt = 0 := eq_i (a := v208.toInt) (b := 0) rfl rfl c210
      have k211 : 0 ≤ v208.toInt ∧ v208.toInt ≤ 0 := ⟨k209.1, Int.le_trans (Int.le_of_eq dc210) (Int.le_refl _)⟩
      refine lv_aload_n hx hb dX1_readSetting_17 rfl (lv_at hl 0 rfl) ?_
      refine lv_dup hx hb dX1_readSetting_18 rfl ?_
      refine get_f (D := D) (ci := 1) (v := .int x_settingsTold) (C := RX1) (T := TX1) (N := 18) hx hb hw inAX1 hown hK hP 0 rfl rfl 17 (by decide) (hw _ q_364) (fun _ h9 => h9) e_settingsTold dX1_readSetting_19 ?_
      refine lv_iconst (v := 1) hx hb dX1_readSetting_22 (by decide) ?_
      refine lv_iload_n hx hb dX1_readSetting_23 rfl (lv_at hl 2 rfl) ?_
      refine lv_ishl hx hb dX1_readSetting_24 ?_
      refine lv_ci (y := 8) (by decide +kernel) ?_
      refine lv_ior hx hb dX1_readSetting_25 ?_
      refine lv_topi (fun v212 ev212 => ?_)
      refine put_f (D := D) (ci := 1) (v := .int v212) (ty := .int) (C := RX1) (T := TX1) (N := 18) hx hb hw inAX1 tyX1 tyX1_ok nmX1 hown hK hP hD hS 0 rfl rfl 17 (by decide) (hw _ q_364) (fun _ h9 => h9) rfl (by decide +kernel) rfl rfl dX1_readSetting_26 (fun H locs F213 eF213 hP hD hS => ?_)
      have hP : va_P D vwCl [(h0, .inr (1, vL 18 F213)), (h_settings, .inl (cI, 5, .inl f_settings)), (p0, .inr (6, vL 12 F_p0_)), (h_p0_bytes, .inl (cB, 940, .inl f_p0_bytes)), (h_p0_wordNames, .inl (cJ, 23, .inr (.inl f_p0_wordNames)))] H := hP
      have hD : va_D A [(h0, .inr (1, vL 18 F213)), (h_settings, .inl (cI, 5, .inl f_settings)), (p0, .inr (6, vL 12 F_p0_)), (h_p0_bytes, .inl (cB, 940, .inl f_p0_bytes)), (h_p0_wordNames, .inl (cJ, 23, .inr (.inl f_p0_wordNames)))] := hD
      refine lv_aload_n hx hb dX1_readSetting_29 rfl (lv_at hl 1 rfl) ?_
      refine call_Vv (wr := [(h0, .inr (1, vL 18 F213)), (h_settings, .inl (cI, 5, .inl f_settings))]) (As := []) (rest := []) hx hb hml hown hw (m_X6_advance l D cI cJ cB cP cM cZ p0 h_p0_bytes h_p0_wordNames F_p0_ x_p0_length x_p0_value x_p0_name x_p0_at x_p0_mostBytes f_p0_bytes f_p0_wordNames _ e_p0_bytes e_p0_length i_x_p0_length e_p0_value e_p0_name e_p0_wordNames e_p0_at i_x_p0_at e_p0_mostBytes) wV_X1_131_X6_advance dX1_readSetting_30 hK hP hD hS hA [2, 3, 4] [0, 1] rfl rfl (by decide) (by decide) (by decide) 0 6 rfl rfl GG.fb hG.1.at hl.1 rfl (Nat.le_of_ble_eq_true rfl) ⟨(Nat.le_of_ble_eq_true rfl), (Nat.le_of_ble_eq_true rfl)⟩ ⟨(Nat.le_of_ble_eq_true rfl), (Nat.le_of_ble_eq_true rfl)⟩ (fun u H locs hp hP hD hS => ?_)
      obtain ⟨F215, y216, y217, y218, y219, y220, t221, t222, t223, t224, t225, t226, t227, t228, rfl⟩ := hp
      have hP : va_P D vwCl [(h0, .inr (1, vL 18 F213)), (h_settings, .inl (cI, 5, .inl f_settings)), (p0, .inr (6, vL 12 F215)), (h_p0_bytes, .inl (cB, 940, .inl f_p0_bytes)), (h_p0_wordNames, .inl (cJ, 23, .inr (.inl f_p0_wordNames)))] H := hP
      have hD : va_D A [(h0, .inr (1, vL 18 F213)), (h_settings, .inl (cI, 5, .inl f_settings)), (p0, .inr (6, vL 12 F215)), (h_p0_bytes, .inl (cB, 940, .inl f_p0_bytes)), (h_p0_wordNames, .inl (cJ, 23, .inr (.inl f_p0_wordNames)))] := hD
      refine W.widen (k := 0) (n := 0) (Nat.le_of_ble_eq_true rfl) (Nat.le_of_ble_eq_true rfl) ?_
      refine lv_aload_n hx hb dX1_readSetting_33 rfl (lv_at hl 1 rfl) ?_
      refine lv_aload_n hx hb dX1_readSetting_34 rfl (lv_at hl 0 rfl) ?_
      have n229 : F213 1 = .ref h_settings := (get_ne eF213 (by decide) e_settings)
      refine get_f (D := D) (ci := 1) (v := .ref h_settings) (C := RX1) (T := TX1) (N := 18) hx hb hw inAX1 hown hK hP 0 rfl rfl 1 (by decide) (hw _ q_315) (fun _ h9 => h9) n229 dX1_readSetting_35 ?_
      refine lv_iload_n hx hb dX1_readSetting_38 rfl (lv_at hl 2 rfl) ?_
      refine va_getsN hx hb hST.2.2.1 hS hown (va_Nw.use rfl (hG.1.2.1 (.fieldLinkNest "FourSledge$Course" 134 "FourSledge" "SETTING_LEAST" "[I" "FourSledge") (by decide +kernel))) (fun _ h9 => h9) dX1_readSetting_39 ?_
      refine lv_iload_n hx hb dX1_readSetting_42 rfl (lv_at hl 2 rfl) ?_
      refine va_ti (v := .int (lF 3)) hx hb hST.2.2.2.1 hS (vp_in_nI (n := 3) (N := 5) (Nat.le_of_ble_eq_true rfl) (Nat.le_of_ble_eq_true rfl)) rfl dX1_readSetting_43 ?_
      refine lv_ci (y := 0) (by decide +kernel) ?_
      refine va_getsN hx hb hST.2.2.2.2.1 hS hown (va_Nw.use rfl (hG.1.2.1 (.fieldLinkNest "FourSledge$Course" 137 "FourSledge" "SETTING_MOST" "[I" "FourSledge") (by decide +kernel))) (fun _ h9 => h9) dX1_readSetting_44 ?_
      refine lv_iload_n hx hb dX1_readSetting_47 rfl (lv_at hl 2 rfl) ?_
      refine va_ti (v := .int (mF 3)) hx hb hST.2.2.2.2.2 hS (vp_in_nI (n := 3) (N := 5) (Nat.le_of_ble_eq_true rfl) (Nat.le_of_ble_eq_true rfl)) rfl dX1_readSetting_48 ?_
      refine lv_ci (y := 9) (by decide +kernel) ?_
      have n230 : F215 0 = .ref h_p0_bytes := (SAME.at t221 (by decide) e_p0_bytes)
      have n231 : F215 1 = .int x_p0_length := (SAME.at t221 (by decide) e_p0_length)
      have n232 : F215 9 = .ref h_p0_wordNames := (SAME.at t221 (by decide) e_p0_wordNames)
      have n233 : F215 11 = .int x_p0_mostBytes := (SAME.at t221 (by decide) e_p0_mostBytes)
      refine call_Vi (wr := [(h0, .inr (1, vL 18 F213))]) (As := [.ref h_settings, .int 3, .int 0, .int 9]) (rest := []) hx hb hml hown hw (m_X6_takeInto_5 l D cI cJ cB cP cM cZ p0 h_p0_bytes h_p0_wordNames h_settings F215 x_p0_length y216 y217 y218 y219 y220 x_p0_mostBytes f_p0_bytes f_p0_wordNames f_settings 3 0 9 _ n230 n231 i_x_p0_length t222 t223 t225 t226 n232 t227 t228 n233) wV_X1_140_X6_takeInto dX1_readSetting_49 hK hP hD hS hA [2, 3, 4, 1] [0] rfl rfl (by decide) (by decide) (by decide) 0 6 rfl rfl GG.fb hG.1.at hl.1 rfl (Nat.le_of_ble_eq_true rfl) ⟨(Nat.le_of_ble_eq_true rfl), (Nat.le_of_ble_eq_true rfl)⟩ ⟨(Nat.le_of_ble_eq_true rfl), (Nat.le_of_ble_eq_true rfl)⟩ (fun r234 u H locs hp hP hD hS => ?_)
      rcases hp with ⟨F235, y236, t237, t238, t239, t240, rfl, rfl⟩ | ⟨F241, y242, y243, y244, y245, y246, g247, t248, t249, t250, t251, t252, t253, t254, t255, t256, t257, t258, t259, t260, t261, rfl, rfl⟩
      · have hP : va_P D vwCl [(h0, .inr (1, vL 18 F213)), (p0, .inr (6, vL 12 F235)), (h_p0_bytes, .inl (cB, 940, .inl f_p0_bytes)), (h_p0_wordNames, .inl (cJ, 23, .inr (.inl f_p0_wordNames))), (h_settings, .inl (cI, 5, .inl f_settings))] H := hP
        have hD : va_D A [(h0, .inr (1, vL 18 F213)), (p0, .inr (6, vL 12 F235)), (h_p0_bytes, .inl (cB, 940, .inl f_p0_bytes)), (h_p0_wordNames, .inl (cJ, 23, .inr (.inl f_p0_wordNames))), (h_settings, .inl (cI, 5, .inl f_settings))] := hD
        refine W.widen (k := 0) (n := 0) (Nat.le_of_ble_eq_true rfl) (Nat.le_of_ble_eq_true rfl) ?_
        exact ret_i (v := 0) hx hb hr hlocks hS (hP.sub (ws' := [(h0, .inr (1, vL 18 F213)), (h_settings, .inl (cI, 5, .inl f_settings)), (p0, .inr (6, vL 12 F235)), (h_p0_bytes, .inl (cB, 940, .inl f_p0_bytes)), (h_p0_wordNames, .inl (cJ, 23, .inr (.inl f_p0_wordNames)))]) [0, 4, 1, 2, 3] rfl) (hD.sub (ws' := [(h0, .inr (1, vL 18 F213)), (h_settings, .inl (cI, 5, .inl f_settings)), (p0, .inr (6, vL 12 F235)), (h_p0_bytes, .inl (cB, 940, .inl f_p0_bytes)), (h_p0_wordNames, .inl (cJ, 23, .inr (.inl f_p0_wordNames)))]) [0, 4, 1, 2, 3] (by decide) rfl) dX1_readSetting_52 rfl (Nat.le_of_ble_eq_true rfl) (Nat.le_of_ble_eq_true rfl) ⟨F213, v212, F235, y216, y217, y218, y219, y236, y217, y220, f_settings, (SAME.up eF213 SAME.rf (by decide)), (get_eq eF213), (SAME.tr (SAME.tr SAME.rf t221 (by decide)) t237 (by decide)), (SAME.at t237 (by decide) t222), (SAME.at t237 (by decide) t223), (SAME.at t237 (by decide) t225), (SAME.at t237 (by decide) t226), t238, t240, (SAME.at t237 (by decide) t227), t228, s_settings_0, (show 0 ≤ (0 : Int32).toInt ∧ (0 : Int32).toInt ≤ 1 by decide), rfl⟩
      · have hP : va_P D vwCl [(h0, .inr (1, vL 18 F213)), (p0, .inr (6, vL 12 F241)), (h_p0_bytes, .inl (cB, 940, .inl f_p0_bytes)), (h_p0_wordNames, .inl (cJ, 23, .inr (.inl f_p0_wordNames))), (h_settings, .inl (cI, 5, .inl g247))] H := hP
        have hD : va_D A [(h0, .inr (1, vL 18 F213)), (p0, .inr (6, vL 12 F241)), (h_p0_bytes, .inl (cB, 940, .inl f_p0_bytes)), (h_p0_wordNames, .inl (cJ, 23, .inr (.inl f_p0_wordNames))), (h_settings, .inl (cI, 5, .inl g247))] := hD
        refine W.widen (k := 0) (n := 0) (Nat.le_of_ble_eq_true rfl) (Nat.le_of_ble_eq_true rfl) ?_
        have k262 : 3 ≤ y216.toInt ∧ y216.toInt ≤ 3 := ⟨Int.le_trans (Int.le_refl _) (Int.le_of_eq t258.symm), Int.le_trans (Int.le_of_eq t258) (Int.le_refl _)⟩
        have k263 : 0 ≤ y218.toInt ∧ y218.toInt ≤ 2147483647 := ⟨Int.le_trans (Int.le_refl _) t259, (ir_any _).2⟩
        have k264 : 0 ≤ y218.toInt ∧ y218.toInt ≤ 9 := ⟨k263.1, Int.le_trans t260 (Int.le_refl _)⟩
        have r265 : SG 0 0 5 40 g247 := by rw [← t261]; exact s_settings_0.up (by decide) (Or.inr (Or.inl (by decide)))
        exact ret_i (v := 1) hx hb hr hlocks hS (hP.sub (ws' := [(h0, .inr (1, vL 18 F213)), (h_settings, .inl (cI, 5, .inl g247)), (p0, .inr (6, vL 12 F241)), (h_p0_bytes, .inl (cB, 940, .inl f_p0_bytes)), (h_p0_wordNames, .inl (cJ, 23, .inr (.inl f_p0_wordNames)))]) [0, 4, 1, 2, 3] rfl) (hD.sub (ws' := [(h0, .inr (1, vL 18 F213)), (h_settings, .inl (cI, 5, .inl g247)), (p0, .inr (6, vL 12 F241)), (h_p0_bytes, .inl (cB, 940, .inl f_p0_bytes)), (h_p0_wordNames, .inl (cJ, 23, .inr (.inl f_p0_wordNames)))]) [0, 4, 1, 2, 3] (by decide) rfl) dX1_readSetting_52 rfl (Nat.le_of_ble_eq_true rfl) (Nat.le_of_ble_eq_true rfl) ⟨F213, v212, F241, y242, y243, y244, y245, x_p0_faultKind, x_p0_faultPlace, y246, g247, (SAME.up eF213 SAME.rf (by decide)), (get_eq eF213), (SAME.tr (SAME.tr SAME.rf t221 (by decide)) t248 (by decide)), t249, t250, t252, t253, (SAME.at t248 (by decide) (SAME.at t221 (by decide) e_p0_faultKind)), (SAME.at t248 (by decide) (SAME.at t221 (by decide) e_p0_faultPlace)), t254, t255, r265, (show 0 ≤ (1 : Int32).toInt ∧ (1 : Int32).toInt ≤ 1 by decide), rfl⟩
    · have dc210 : v208.toInt ≠ 0 := ne_i (a := v208.toInt) (b := 0) rfl rfl c210
      have k266 : 1 ≤ v208.toInt ∧ v208.toInt ≤ 1 := ⟨ne_lo dc210 k209.1 ⟨Int.le_refl _, Int.le_refl _⟩ (by decide), k209.2⟩
      refine lv_aload_n hx hb dX1_readSetting_11 rfl (lv_at hl 1 rfl) ?_
      refine lv_iconst (v := 3) hx hb dX1_readSetting_12 (by decide) ?_
      refine call_Vi (wr := [(h0, .inr (1, vL 18 Fh)), (h_settings, .inl (cI, 5, .inl f_settings)), (h_p0_bytes, .inl (cB, 940, .inl f_p0_bytes)), (h_p0_wordNames, .inl (cJ, 23, .inr (.inl f_p0_wordNames)))]) (As := [.int 3]) (rest := []) hx hb hml hown hw (m_X6_fail l D cI cJ cB cP cM cZ p0 F_p0_ x_p0_place 3 _ e_p0_place) wV_X1_128_X6_fail dX1_readSetting_13 hK hP hD hS hA [2] [0, 1, 3, 4] rfl rfl (by decide) (by decide) (by decide) 0 6 rfl rfl GG.fb hG.1.at hl.1 rfl (Nat.le_of_ble_eq_true rfl) ⟨(Nat.le_of_ble_eq_true rfl), (Nat.le_of_ble_eq_true rfl)⟩ ⟨(Nat.le_of_ble_eq_true rfl), (Nat.le_of_ble_eq_true rfl)⟩ (fun r267 u H locs hp hP hD hS => ?_)
      obtain ⟨F268, t269, t270, t271, rfl, rfl⟩ := hp
      have hP : va_P D vwCl [(h0, .inr (1, vL 18 Fh)), (h_settings, .inl (cI, 5, .inl f_settings)), (h_p0_bytes, .inl (cB, 940, .inl f_p0_bytes)), (h_p0_wordNames, .inl (cJ, 23, .inr (.inl f_p0_wordNames))), (p0, .inr (6, vL 12 F268))] H := hP
      have hD : va_D A [(h0, .inr (1, vL 18 Fh)), (h_settings, .inl (cI, 5, .inl f_settings)), (h_p0_bytes, .inl (cB, 940, .inl f_p0_bytes)), (h_p0_wordNames, .inl (cJ, 23, .inr (.inl f_p0_wordNames))), (p0, .inr (6, vL 12 F268))] := hD
      refine W.widen (k := 0) (n := 0) (Nat.le_of_ble_eq_true rfl) (Nat.le_of_ble_eq_true rfl) ?_
      exact ret_i (v := 0) hx hb hr hlocks hS (hP.sub (ws' := [(h0, .inr (1, vL 18 Fh)), (h_settings, .inl (cI, 5, .inl f_settings)), (p0, .inr (6, vL 12 F268)), (h_p0_bytes, .inl (cB, 940, .inl f_p0_bytes)), (h_p0_wordNames, .inl (cJ, 23, .inr (.inl f_p0_wordNames)))]) [0, 1, 4, 2, 3] rfl) (hD.sub (ws' := [(h0, .inr (1, vL 18 Fh)), (h_settings, .inl (cI, 5, .inl f_settings)), (p0, .inr (6, vL 12 F268)), (h_p0_bytes, .inl (cB, 940, .inl f_p0_bytes)), (h_p0_wordNames, .inl (cJ, 23, .inr (.inl f_p0_wordNames)))]) [0, 1, 4, 2, 3] (by decide) rfl) dX1_readSetting_16 rfl (Nat.le_of_ble_eq_true rfl) (Nat.le_of_ble_eq_true rfl) ⟨Fh, x_settingsTold, F268, x_p0_kind, x_p0_place, x_p0_value, x_p0_name, 3, x_p0_place, x_p0_at, f_settings, SAME.rf, e_settingsTold, (SAME.tr SAME.rf t269 (by decide)), (SAME.at t269 (by decide) e_p0_kind), (SAME.at t269 (by decide) e_p0_place), (SAME.at t269 (by decide) e_p0_value), (SAME.at t269 (by decide) e_p0_name), t270, t271, (SAME.at t269 (by decide) e_p0_at), i_x_p0_at, s_settings_0, (show 0 ≤ (0 : Int32).toInt ∧ (0 : Int32).toInt ≤ 1 by decide), rfl⟩
  have dk205 : p1.toInt ≠ 3 := ne_i rfl rfl k205
  have k272 : 4 ≤ p1.toInt ∧ p1.toInt ≤ 4 := ⟨ne_lo dk205 k204.1 ⟨Int.le_refl _, Int.le_refl _⟩ (by decide), k204.2⟩
  have k273 : p1 = 4 := Int32.toInt_inj.mp (show p1.toInt = 4 by omega)
  have dk273 : p1.toInt = 4 := eq_i rfl rfl k273
  have hl : lv_has ls 3 [(0, .ref h0), (1, .ref p0), (2, .int 4)] := by have q := hl; rw [k273] at q; exact q
  refine lv_aload_n hx hb dX1_readSetting_0 rfl (lv_at hl 0 rfl) ?_
  refine get_f (D := D) (ci := 1) (v := .int x_settingsTold) (C := RX1) (T := TX1) (N := 18) hx hb hw inAX1 hown hK hP 0 rfl rfl 17 (by decide) (hw _ q_364) (fun _ h9 => h9) e_settingsTold dX1_readSetting_1 ?_
  refine lv_iload_n hx hb dX1_readSetting_4 rfl (lv_at hl 2 rfl) ?_
  refine lv_ishr hx hb dX1_readSetting_5 ?_
  refine lv_topi (fun v274 ev274 => ?_)
  refine lv_iconst (v := 1) hx hb dX1_readSetting_6 (by decide) ?_
  refine lv_iand hx hb dX1_readSetting_7 ?_
  refine lv_topi (fun v275 ev275 => ?_)
  have k276 : 0 ≤ v275.toInt ∧ v275.toInt ≤ 1 := by rw [ev275]; exact and_i v274 1 (by decide)
  refine lv_if_eq (tgt := 17) hx hb dX1_readSetting_8 (by decide) (fun c277 => ?_) (fun c277 => ?_)
  · have dc277 : v275.toInt = 0 := eq_i (a := v275.toInt) (b := 0) rfl rfl c277
    have k278 : 0 ≤ v275.toInt ∧ v275.toInt ≤ 0 := ⟨k276.1, Int.le_trans (Int.le_of_eq dc277) (Int.le_refl _)⟩
    refine lv_aload_n hx hb dX1_readSetting_17 rfl (lv_at hl 0 rfl) ?_
    refine lv_dup hx hb dX1_readSetting_18 rfl ?_
    refine get_f (D := D) (ci := 1) (v := .int x_settingsTold) (C := RX1) (T := TX1) (N := 18) hx hb hw inAX1 hown hK hP 0 rfl rfl 17 (by decide) (hw _ q_364) (fun _ h9 => h9) e_settingsTold dX1_readSetting_19 ?_
    refine lv_iconst (v := 1) hx hb dX1_readSetting_22 (by decide) ?_
    refine lv_iload_n hx hb dX1_readSetting_23 rfl (lv_at hl 2 rfl) ?_
    refine lv_ishl hx hb dX1_readSetting_24 ?_
    refine lv_ci (y := 16) (by decide +kernel) ?_
    refine lv_ior hx hb dX1_readSetting_25 ?_
    refine lv_topi (fun v279 ev279 => ?_)
    refine put_f (D := D) (ci := 1) (v := .int v279) (ty := .int) (C := RX1) (T := TX1) (N := 18) hx hb hw inAX1 tyX1 tyX1_ok nmX1 hown hK hP hD hS 0 rfl rfl 17 (by decide) (hw _ q_364) (fun _ h9 => h9) rfl (by decide +kernel) rfl rfl dX1_readSetting_26 (fun H locs F280 eF280 hP hD hS => ?_)
    have hP : va_P D vwCl [(h0, .inr (1, vL 18 F280)), (h_settings, .inl (cI, 5, .inl f_settings)), (p0, .inr (6, vL 12 F_p0_)), (h_p0_bytes, .inl (cB, 940, .inl f_p0_bytes)), (h_p0_wordNames, .inl (cJ, 23, .inr (.inl f_p0_wordNames)))] H := hP
    have hD : va_D A [(h0, .inr (1, vL 18 F280)), (h_settings, .inl (cI, 5, .inl f_settings)), (p0, .inr (6, vL 12 F_p0_)), (h_p0_bytes, .inl (cB, 940, .inl f_p0_bytes)), (h_p0_wordNames, .inl (cJ, 23, .inr (.inl f_p0_wordNames)))] := hD
    refine lv_aload_n hx hb dX1_readSetting_29 rfl (lv_at hl 1 rfl) ?_
    refine call_Vv (wr := [(h0, .inr (1, vL 18 F280)), (h_settings, .inl (cI, 5, .inl f_settings))]) (As := []) (rest := []) hx hb hml hown hw (m_X6_advance l D cI cJ cB cP cM cZ p0 h_p0_bytes h_p0_wordNames F_p0_ x_p0_length x_p0_value x_p0_name x_p0_at x_p0_mostBytes f_p0_bytes f_p0_wordNames _ e_p0_bytes e_p0_length i_x_p0_length e_p0_value e_p0_name e_p0_wordNames e_p0_at i_x_p0_at e_p0_mostBytes) wV_X1_131_X6_advance dX1_readSetting_30 hK hP hD hS hA [2, 3, 4] [0, 1] rfl rfl (by decide) (by decide) (by decide) 0 6 rfl rfl GG.fb hG.1.at hl.1 rfl (Nat.le_of_ble_eq_true rfl) ⟨(Nat.le_of_ble_eq_true rfl), (Nat.le_of_ble_eq_true rfl)⟩ ⟨(Nat.le_of_ble_eq_true rfl), (Nat.le_of_ble_eq_true rfl)⟩ (fun u H locs hp hP hD hS => ?_)
    obtain ⟨F282, y283, y284, y285, y286, y287, t288, t289, t290, t291, t292, t293, t294, t295, rfl⟩ := hp
    have hP : va_P D vwCl [(h0, .inr (1, vL 18 F280)), (h_settings, .inl (cI, 5, .inl f_settings)), (p0, .inr (6, vL 12 F282)), (h_p0_bytes, .inl (cB, 940, .inl f_p0_bytes)), (h_p0_wordNames, .inl (cJ, 23, .inr (.inl f_p0_wordNames)))] H := hP
    have hD : va_D A [(h0, .inr (1, vL 18 F280)), (h_settings, .inl (cI, 5, .inl f_settings)), (p0, .inr (6, vL 12 F282)), (h_p0_bytes, .inl (cB, 940, .inl f_p0_bytes)), (h_p0_wordNames, .inl (cJ, 23, .inr (.inl f_p0_wordNames)))] := hD
    refine W.widen (k := 0) (n := 0) (Nat.le_of_ble_eq_true rfl) (Nat.le_of_ble_eq_true rfl) ?_
    refine lv_aload_n hx hb dX1_readSetting_33 rfl (lv_at hl 1 rfl) ?_
    refine lv_aload_n hx hb dX1_readSetting_34 rfl (lv_at hl 0 rfl) ?_
    have n296 : F280 1 = .ref h_settings := (get_ne eF280 (by decide) e_settings)
    refine get_f (D := D) (ci := 1) (v := .ref h_settings) (C := RX1) (T := TX1) (N := 18) hx hb hw inAX1 hown hK hP 0 rfl rfl 1 (by decide) (hw _ q_315) (fun _ h9 => h9) n296 dX1_readSetting_35 ?_
    refine lv_iload_n hx hb dX1_readSetting_38 rfl (lv_at hl 2 rfl) ?_
    refine va_getsN hx hb hST.2.2.1 hS hown (va_Nw.use rfl (hG.1.2.1 (.fieldLinkNest "FourSledge$Course" 134 "FourSledge" "SETTING_LEAST" "[I" "FourSledge") (by decide +kernel))) (fun _ h9 => h9) dX1_readSetting_39 ?_
    refine lv_iload_n hx hb dX1_readSetting_42 rfl (lv_at hl 2 rfl) ?_
    refine va_ti (v := .int (lF 4)) hx hb hST.2.2.2.1 hS (vp_in_nI (n := 4) (N := 5) (Nat.le_of_ble_eq_true rfl) (Nat.le_of_ble_eq_true rfl)) rfl dX1_readSetting_43 ?_
    refine lv_ci (y := 0) (by decide +kernel) ?_
    refine va_getsN hx hb hST.2.2.2.2.1 hS hown (va_Nw.use rfl (hG.1.2.1 (.fieldLinkNest "FourSledge$Course" 137 "FourSledge" "SETTING_MOST" "[I" "FourSledge") (by decide +kernel))) (fun _ h9 => h9) dX1_readSetting_44 ?_
    refine lv_iload_n hx hb dX1_readSetting_47 rfl (lv_at hl 2 rfl) ?_
    refine va_ti (v := .int (mF 4)) hx hb hST.2.2.2.2.2 hS (vp_in_nI (n := 4) (N := 5) (Nat.le_of_ble_eq_true rfl) (Nat.le_of_ble_eq_true rfl)) rfl dX1_readSetting_48 ?_
    refine lv_ci (y := 20) (by decide +kernel) ?_
    have n297 : F282 0 = .ref h_p0_bytes := (SAME.at t288 (by decide) e_p0_bytes)
    have n298 : F282 1 = .int x_p0_length := (SAME.at t288 (by decide) e_p0_length)
    have n299 : F282 9 = .ref h_p0_wordNames := (SAME.at t288 (by decide) e_p0_wordNames)
    have n300 : F282 11 = .int x_p0_mostBytes := (SAME.at t288 (by decide) e_p0_mostBytes)
    refine call_Vi (wr := [(h0, .inr (1, vL 18 F280))]) (As := [.ref h_settings, .int 4, .int 0, .int 20]) (rest := []) hx hb hml hown hw (m_X6_takeInto_5 l D cI cJ cB cP cM cZ p0 h_p0_bytes h_p0_wordNames h_settings F282 x_p0_length y283 y284 y285 y286 y287 x_p0_mostBytes f_p0_bytes f_p0_wordNames f_settings 4 0 20 _ n297 n298 i_x_p0_length t289 t290 t292 t293 n299 t294 t295 n300) wV_X1_140_X6_takeInto dX1_readSetting_49 hK hP hD hS hA [2, 3, 4, 1] [0] rfl rfl (by decide) (by decide) (by decide) 0 6 rfl rfl GG.fb hG.1.at hl.1 rfl (Nat.le_of_ble_eq_true rfl) ⟨(Nat.le_of_ble_eq_true rfl), (Nat.le_of_ble_eq_true rfl)⟩ ⟨(Nat.le_of_ble_eq_true rfl), (Nat.le_of_ble_eq_true rfl)⟩ (fun r301 u H locs hp hP hD hS => ?_)
    rcases hp with ⟨F302, y303, t304, t305, t306, t307, rfl, rfl⟩ | ⟨F308, y309, y310, y311, y312, y313, g314, t315, t316, t317, t318, t319, t320, t321, t322, t323, t324, t325, t326, t327, t328, rfl, rfl⟩
    · have hP : va_P D vwCl [(h0, .inr (1, vL 18 F280)), (p0, .inr (6, vL 12 F302)), (h_p0_bytes, .inl (cB, 940, .inl f_p0_bytes)), (h_p0_wordNames, .inl (cJ, 23, .inr (.inl f_p0_wordNames))), (h_settings, .inl (cI, 5, .inl f_settings))] H := hP
      have hD : va_D A [(h0, .inr (1, vL 18 F280)), (p0, .inr (6, vL 12 F302)), (h_p0_bytes, .inl (cB, 940, .inl f_p0_bytes)), (h_p0_wordNames, .inl (cJ, 23, .inr (.inl f_p0_wordNames))), (h_settings, .inl (cI, 5, .inl f_settings))] := hD
      refine W.widen (k := 0) (n := 0) (Nat.le_of_ble_eq_true rfl) (Nat.le_of_ble_eq_true rfl) ?_
      exact ret_i (v := 0) hx hb hr hlocks hS (hP.sub (ws' := [(h0, .inr (1, vL 18 F280)), (h_settings, .inl (cI, 5, .inl f_settings)), (p0, .inr (6, vL 12 F302)), (h_p0_bytes, .inl (cB, 940, .inl f_p0_bytes)), (h_p0_wordNames, .inl (cJ, 23, .inr (.inl f_p0_wordNames)))]) [0, 4, 1, 2, 3] rfl) (hD.sub (ws' := [(h0, .inr (1, vL 18 F280)), (h_settings, .inl (cI, 5, .inl f_settings)), (p0, .inr (6, vL 12 F302)), (h_p0_bytes, .inl (cB, 940, .inl f_p0_bytes)), (h_p0_wordNames, .inl (cJ, 23, .inr (.inl f_p0_wordNames)))]) [0, 4, 1, 2, 3] (by decide) rfl) dX1_readSetting_52 rfl (Nat.le_of_ble_eq_true rfl) (Nat.le_of_ble_eq_true rfl) ⟨F280, v279, F302, y283, y284, y285, y286, y303, y284, y287, f_settings, (SAME.up eF280 SAME.rf (by decide)), (get_eq eF280), (SAME.tr (SAME.tr SAME.rf t288 (by decide)) t304 (by decide)), (SAME.at t304 (by decide) t289), (SAME.at t304 (by decide) t290), (SAME.at t304 (by decide) t292), (SAME.at t304 (by decide) t293), t305, t307, (SAME.at t304 (by decide) t294), t295, s_settings_0, (show 0 ≤ (0 : Int32).toInt ∧ (0 : Int32).toInt ≤ 1 by decide), rfl⟩
    · have hP : va_P D vwCl [(h0, .inr (1, vL 18 F280)), (p0, .inr (6, vL 12 F308)), (h_p0_bytes, .inl (cB, 940, .inl f_p0_bytes)), (h_p0_wordNames, .inl (cJ, 23, .inr (.inl f_p0_wordNames))), (h_settings, .inl (cI, 5, .inl g314))] H := hP
      have hD : va_D A [(h0, .inr (1, vL 18 F280)), (p0, .inr (6, vL 12 F308)), (h_p0_bytes, .inl (cB, 940, .inl f_p0_bytes)), (h_p0_wordNames, .inl (cJ, 23, .inr (.inl f_p0_wordNames))), (h_settings, .inl (cI, 5, .inl g314))] := hD
      refine W.widen (k := 0) (n := 0) (Nat.le_of_ble_eq_true rfl) (Nat.le_of_ble_eq_true rfl) ?_
      have k329 : 3 ≤ y283.toInt ∧ y283.toInt ≤ 3 := ⟨Int.le_trans (Int.le_refl _) (Int.le_of_eq t325.symm), Int.le_trans (Int.le_of_eq t325) (Int.le_refl _)⟩
      have k330 : 0 ≤ y285.toInt ∧ y285.toInt ≤ 2147483647 := ⟨Int.le_trans (Int.le_refl _) t326, (ir_any _).2⟩
      have k331 : 0 ≤ y285.toInt ∧ y285.toInt ≤ 20 := ⟨k330.1, Int.le_trans t327 (Int.le_refl _)⟩
      have r332 : SG 0 0 5 40 g314 := by rw [← t328]; exact s_settings_0.up (by decide) (Or.inr (Or.inl (by decide)))
      exact ret_i (v := 1) hx hb hr hlocks hS (hP.sub (ws' := [(h0, .inr (1, vL 18 F280)), (h_settings, .inl (cI, 5, .inl g314)), (p0, .inr (6, vL 12 F308)), (h_p0_bytes, .inl (cB, 940, .inl f_p0_bytes)), (h_p0_wordNames, .inl (cJ, 23, .inr (.inl f_p0_wordNames)))]) [0, 4, 1, 2, 3] rfl) (hD.sub (ws' := [(h0, .inr (1, vL 18 F280)), (h_settings, .inl (cI, 5, .inl g314)), (p0, .inr (6, vL 12 F308)), (h_p0_bytes, .inl (cB, 940, .inl f_p0_bytes)), (h_p0_wordNames, .inl (cJ, 23, .inr (.inl f_p0_wordNames)))]) [0, 4, 1, 2, 3] (by decide) rfl) dX1_readSetting_52 rfl (Nat.le_of_ble_eq_true rfl) (Nat.le_of_ble_eq_true rfl) ⟨F280, v279, F308, y309, y310, y311, y312, x_p0_faultKind, x_p0_faultPlace, y313, g314, (SAME.up eF280 SAME.rf (by decide)), (get_eq eF280), (SAME.tr (SAME.tr SAME.rf t288 (by decide)) t315 (by decide)), t316, t317, t319, t320, (SAME.at t315 (by decide) (SAME.at t288 (by decide) e_p0_faultKind)), (SAME.at t315 (by decide) (SAME.at t288 (by decide) e_p0_faultPlace)), t321, t322, r332, (show 0 ≤ (1 : Int32).toInt ∧ (1 : Int32).toInt ≤ 1 by decide), rfl⟩
  · have dc277 : v275.toInt ≠ 0 := ne_i (a := v275.toInt) (b := 0) rfl rfl c277
    have k333 : 1 ≤ v275.toInt ∧ v275.toInt ≤ 1 := ⟨ne_lo dc277 k276.1 ⟨Int.le_refl _, Int.le_refl _⟩ (by decide), k276.2⟩
    refine lv_aload_n hx hb dX1_readSetting_11 rfl (lv_at hl 1 rfl) ?_
    refine lv_iconst (v := 3) hx hb dX1_readSetting_12 (by decide) ?_
    refine call_Vi (wr := [(h0, .inr (1, vL 18 Fh)), (h_settings, .inl (cI, 5, .inl f_settings)), (h_p0_bytes, .inl (cB, 940, .inl f_p0_bytes)), (h_p0_wordNames, .inl (cJ, 23, .inr (.inl f_p0_wordNames)))]) (As := [.int 3]) (rest := []) hx hb hml hown hw (m_X6_fail l D cI cJ cB cP cM cZ p0 F_p0_ x_p0_place 3 _ e_p0_place) wV_X1_128_X6_fail dX1_readSetting_13 hK hP hD hS hA [2] [0, 1, 3, 4] rfl rfl (by decide) (by decide) (by decide) 0 6 rfl rfl GG.fb hG.1.at hl.1 rfl (Nat.le_of_ble_eq_true rfl) ⟨(Nat.le_of_ble_eq_true rfl), (Nat.le_of_ble_eq_true rfl)⟩ ⟨(Nat.le_of_ble_eq_true rfl), (Nat.le_of_ble_eq_true rfl)⟩ (fun r334 u H locs hp hP hD hS => ?_)
    obtain ⟨F335, t336, t337, t338, rfl, rfl⟩ := hp
    have hP : va_P D vwCl [(h0, .inr (1, vL 18 Fh)), (h_settings, .inl (cI, 5, .inl f_settings)), (h_p0_bytes, .inl (cB, 940, .inl f_p0_bytes)), (h_p0_wordNames, .inl (cJ, 23, .inr (.inl f_p0_wordNames))), (p0, .inr (6, vL 12 F335))] H := hP
    have hD : va_D A [(h0, .inr (1, vL 18 Fh)), (h_settings, .inl (cI, 5, .inl f_settings)), (h_p0_bytes, .inl (cB, 940, .inl f_p0_bytes)), (h_p0_wordNames, .inl (cJ, 23, .inr (.inl f_p0_wordNames))), (p0, .inr (6, vL 12 F335))] := hD
    refine W.widen (k := 0) (n := 0) (Nat.le_of_ble_eq_true rfl) (Nat.le_of_ble_eq_true rfl) ?_
    exact ret_i (v := 0) hx hb hr hlocks hS (hP.sub (ws' := [(h0, .inr (1, vL 18 Fh)), (h_settings, .inl (cI, 5, .inl f_settings)), (p0, .inr (6, vL 12 F335)), (h_p0_bytes, .inl (cB, 940, .inl f_p0_bytes)), (h_p0_wordNames, .inl (cJ, 23, .inr (.inl f_p0_wordNames)))]) [0, 1, 4, 2, 3] rfl) (hD.sub (ws' := [(h0, .inr (1, vL 18 Fh)), (h_settings, .inl (cI, 5, .inl f_settings)), (p0, .inr (6, vL 12 F335)), (h_p0_bytes, .inl (cB, 940, .inl f_p0_bytes)), (h_p0_wordNames, .inl (cJ, 23, .inr (.inl f_p0_wordNames)))]) [0, 1, 4, 2, 3] (by decide) rfl) dX1_readSetting_16 rfl (Nat.le_of_ble_eq_true rfl) (Nat.le_of_ble_eq_true rfl) ⟨Fh, x_settingsTold, F335, x_p0_kind, x_p0_place, x_p0_value, x_p0_name, 3, x_p0_place, x_p0_at, f_settings, SAME.rf, e_settingsTold, (SAME.tr SAME.rf t336 (by decide)), (SAME.at t336 (by decide) e_p0_kind), (SAME.at t336 (by decide) e_p0_place), (SAME.at t336 (by decide) e_p0_value), (SAME.at t336 (by decide) e_p0_name), t337, t338, (SAME.at t336 (by decide) e_p0_at), i_x_p0_at, s_settings_0, (show 0 ≤ (0 : Int32).toInt ∧ (0 : Int32).toInt ≤ 1 by decide), rfl⟩
set_option maxHeartbeats 4000000 in
set_option maxRecDepth 100000 in
theorem m_X6_isName (l : Launch) (D : va_G) (cI cJ cB cP cM cZ : ClassId) (h0 : Nat) (Fh : Nat → Value) (x_kind : Int32) (x_value : Int32) (sz : Nat) (e_kind : Fh 2 = .int x_kind) (e_value : Fh 4 = .int x_value) : CI l yX6_isName cX6_isName 1 (some .boolean) { frames := 0, cells := 0, slots := 0, locals := 0 } (GG D cI cJ cB cP cM cZ) D [(h0, .inr (6, vL 12 Fh))] sz [.ref h0] (fun (r : Int32) (u : va_W) => IR 0 1 r ∧ u = [(h0, .inr (6, vL 12 Fh))]) := by
  refine CI_mk (by decide) (Nat.le_of_ble_eq_true rfl) ?_
  intro p e s m below meth c A ls E hAe hG hsz hP hD hA hS hl
  obtain ⟨hx, hb, hr, hw, hown, hlocks, hml, hnm⟩ := E
  have hK := hG.1
  have hl : lv_has ls 1 [(0, .ref h0)] := hl
  refine lv_aload_n hx hb dX6_isName_0 rfl (lv_at hl 0 rfl) ?_
  refine get_f (D := D) (ci := 6) (v := .int x_kind) (C := RX6) (T := TX6) (N := 12) hx hb hw inAX6 hown hK hP 0 rfl rfl 2 (by decide) (hw _ q_92) (fun _ h9 => h9) e_kind dX6_isName_1 ?_
  refine lv_iconst (v := 2) hx hb dX6_isName_4 (by decide) ?_
  refine lv_icmp_ne (tgt := 20) hx hb dX6_isName_5 (by decide) (fun c1 => ?_) (fun c1 => ?_)
  · have dc1 : x_kind.toInt ≠ 2 := ne_i (a := x_kind.toInt) (b := 2) rfl rfl c1
    refine lv_iconst (v := 0) hx hb dX6_isName_20 (by decide) ?_
    exact ret_i (v := 0) hx hb hr hlocks hS hP hD dX6_isName_21 rfl (Nat.le_of_ble_eq_true rfl) (Nat.le_of_ble_eq_true rfl) ⟨(show 0 ≤ (0 : Int32).toInt ∧ (0 : Int32).toInt ≤ 1 by decide), rfl⟩
  · have dc1 : x_kind.toInt = 2 := eq_i (a := x_kind.toInt) (b := 2) rfl rfl c1
    have k2 : 2 ≤ x_kind.toInt ∧ x_kind.toInt ≤ 2 := ⟨Int.le_trans (Int.le_refl _) (Int.le_of_eq dc1.symm), Int.le_trans (Int.le_of_eq dc1) (Int.le_refl _)⟩
    refine lv_aload_n hx hb dX6_isName_8 rfl (lv_at hl 0 rfl) ?_
    refine get_f (D := D) (ci := 6) (v := .int x_value) (C := RX6) (T := TX6) (N := 12) hx hb hw inAX6 hown hK hP 0 rfl rfl 4 (by decide) (hw _ q_97) (fun _ h9 => h9) e_value dX6_isName_9 ?_
    refine lv_iconst (v := (-1)) hx hb dX6_isName_12 (by decide) ?_
    refine lv_icmp_ne (tgt := 20) hx hb dX6_isName_13 (by decide) (fun c3 => ?_) (fun c3 => ?_)
    · have dc3 : x_value.toInt ≠ (-1) := ne_i (a := x_value.toInt) (b := (-1)) rfl rfl c3
      refine lv_iconst (v := 0) hx hb dX6_isName_20 (by decide) ?_
      exact ret_i (v := 0) hx hb hr hlocks hS hP hD dX6_isName_21 rfl (Nat.le_of_ble_eq_true rfl) (Nat.le_of_ble_eq_true rfl) ⟨(show 0 ≤ (0 : Int32).toInt ∧ (0 : Int32).toInt ≤ 1 by decide), rfl⟩
    · have dc3 : x_value.toInt = (-1) := eq_i (a := x_value.toInt) (b := (-1)) rfl rfl c3
      have k4 : (-1) ≤ x_value.toInt ∧ x_value.toInt ≤ (-1) := ⟨Int.le_trans (Int.le_refl _) (Int.le_of_eq dc3.symm), Int.le_trans (Int.le_of_eq dc3) (Int.le_refl _)⟩
      refine lv_iconst (v := 1) hx hb dX6_isName_16 (by decide) ?_
      refine lv_goto (tgt := 21) hx hb dX6_isName_17 (by decide) ?_
      exact ret_i (v := 1) hx hb hr hlocks hS hP hD dX6_isName_21 rfl (Nat.le_of_ble_eq_true rfl) (Nat.le_of_ble_eq_true rfl) ⟨(show 0 ≤ (1 : Int32).toInt ∧ (1 : Int32).toInt ≤ 1 by decide), rfl⟩
set_option maxHeartbeats 4000000 in
set_option maxRecDepth 100000 in
theorem m_X1_indexOf_12 (l : Launch) (D : va_G) (cI cJ cB cP cM cZ : ClassId) (p0 : Nat) (f_p0 : Nat → Int64) (p1 : Int32) (p2 : Int64) (sz : Nat)  : CI l yX1_indexOf cX1_indexOf 5 (some .int) { frames := 0, cells := 0, slots := 0, locals := 0 } (GG D cI cJ cB cP cM cZ) D [(p0, .inl (cJ, 12, .inr (.inl f_p0)))] sz [.ref p0, .int p1, .long p2] (fun (r : Int32) (u : va_W) => IR (-1) 11 r ∧ u = [(p0, .inl (cJ, 12, .inr (.inl f_p0)))]) := by
  refine CI_mk (by decide) (Nat.le_of_ble_eq_true rfl) ?_
  intro p e s m below meth c A ls E hAe hG hsz hP hD hA hS hl
  obtain ⟨hx, hb, hr, hw, hown, hlocks, hml, hnm⟩ := E
  have hK := hG.1
  have hl : lv_has ls 5 [(0, .ref p0), (1, .int p1), (2, .long p2)] := hl
  refine lv_iconst (v := 0) hx hb dX1_indexOf_0 (by decide) ?_
  refine lv_istore (lv' := [(4, .int 0), (0, .ref p0), (1, .int p1), (2, .long p2)]) hx hb dX1_indexOf_1 hl (by decide) rfl (fun ls hl => ?_)
  refine mloop (α := (Int32)) (nL := 5) (D := D) (A := A) (H0 := s.heap) (fun a => (12 - a.toInt).toNat) (fun a => IR 0 12 a) (fun a => [(p0, .inl (cJ, 12, .inr (.inl f_p0)))]) (fun a => [(4, .int a), (0, .ref p0), (1, .int p1), (2, .long p2)]) (fun H locs ls => W p l e ({ frames := 0, cells := 0, slots := 0, locals := 0 } : Room) s m [.ref p0, .int p1, .long p2].toArray below meth c H locs 0 0 (MQ below (va_Qi (fun (r : Int32) (u : va_W) => IR (-1) 11 r ∧ u = [(p0, .inl (cJ, 12, .inr (.inl f_p0)))]) (PO D A) A) [.ref p0, .int p1, .long p2].toArray s 0 0 A) (F0 m 3 ls [])) ?_ (0) (show 0 ≤ (0 : Int32).toInt ∧ (0 : Int32).toInt ≤ 12 by decide) _ _ _ hP hD hS hl
  rintro u1 i2 ih H locs ls hP hD hS hl
  have i2 : 0 ≤ u1.toInt ∧ u1.toInt ≤ 12 := i2
  have hP : va_P D vwCl [(p0, .inl (cJ, 12, .inr (.inl f_p0)))] H := hP
  have hD : va_D A [(p0, .inl (cJ, 12, .inr (.inl f_p0)))] := hD
  have hl : lv_has ls 5 [(4, .int u1), (0, .ref p0), (1, .int p1), (2, .long p2)] := hl
  refine lv_iload hx hb dX1_indexOf_3 (lv_at hl 0 rfl) ?_
  refine lv_iload_n hx hb dX1_indexOf_5 rfl (lv_at hl 2 rfl) ?_
  refine lv_icmp_ge (tgt := 34) hx hb dX1_indexOf_6 (by decide) (fun c3 => ?_) (fun c3 => ?_)
  · have dc3 : p1.toInt ≤ u1.toInt := le_i (a := p1.toInt) (b := u1.toInt) rfl rfl c3
    have k4 : (-2147483648) ≤ p1.toInt ∧ p1.toInt ≤ 12 := ⟨(ir_any _).1, Int.le_trans dc3 i2.2⟩
    refine lv_iconst (v := (-1)) hx hb dX1_indexOf_34 (by decide) ?_
    exact ret_i (v := (-1)) hx hb hr hlocks hS hP hD dX1_indexOf_35 rfl (Nat.le_of_ble_eq_true rfl) (Nat.le_of_ble_eq_true rfl) ⟨(show (-1) ≤ ((-1) : Int32).toInt ∧ ((-1) : Int32).toInt ≤ 11 by decide), rfl⟩
  · have dc3 : u1.toInt < p1.toInt := nle_i (a := p1.toInt) (b := u1.toInt) rfl rfl c3
    have k5 : 1 ≤ p1.toInt ∧ p1.toInt ≤ 2147483647 := ⟨lo_lt dc3 i2.1 (by decide), (ir_any _).2⟩
    refine lv_iload hx hb dX1_indexOf_9 (lv_at hl 0 rfl) ?_
    refine lv_aload_n hx hb dX1_indexOf_11 rfl (lv_at hl 1 rfl) ?_
    refine va_alen (v := 12) hx hb hK hP 0 1 rfl rfl rfl dX1_indexOf_12 ?_
    refine lv_icmp_ge (tgt := 34) hx hb dX1_indexOf_13 (by decide) (fun c6 => ?_) (fun c6 => ?_)
    · have dc6 : 12 ≤ u1.toInt := le_i (a := 12) (b := u1.toInt) rfl rfl c6
      have k7 : 12 ≤ u1.toInt ∧ u1.toInt ≤ 12 := ⟨Int.le_trans (Int.le_refl _) dc6, i2.2⟩
      refine lv_iconst (v := (-1)) hx hb dX1_indexOf_34 (by decide) ?_
      exact ret_i (v := (-1)) hx hb hr hlocks hS hP hD dX1_indexOf_35 rfl (Nat.le_of_ble_eq_true rfl) (Nat.le_of_ble_eq_true rfl) ⟨(show (-1) ≤ ((-1) : Int32).toInt ∧ ((-1) : Int32).toInt ≤ 11 by decide), rfl⟩
    · have dc6 : u1.toInt < 12 := nle_i (a := 12) (b := u1.toInt) rfl rfl c6
      have k8 : 0 ≤ u1.toInt ∧ u1.toInt ≤ 11 := ⟨i2.1, up_lt dc6 (Int.le_refl _) (by decide)⟩
      refine lv_aload_n hx hb dX1_indexOf_16 rfl (lv_at hl 1 rfl) ?_
      refine lv_iload hx hb dX1_indexOf_17 (lv_at hl 0 rfl) ?_
      refine va_lald hx hb hK hP 0 1 rfl rfl (ix_k k8 (by decide) (by decide)) dX1_indexOf_19 ?_
      refine lv_topl (fun v9 ev9 => ?_)
      refine lv_lload_n hx hb dX1_indexOf_20 rfl (lv_at hl 3 rfl) ?_
      refine W.lcmp hx hb dX1_indexOf_21 ?_
      refine lv_topi (fun v10 ev10 => ?_)
      refine lv_if_ne (tgt := 28) hx hb dX1_indexOf_22 (by decide) (fun c11 => ?_) (fun c11 => ?_)
      · have dc11 : v10.toInt ≠ 0 := ne_i (a := v10.toInt) (b := 0) rfl rfl c11
        obtain ⟨v12, ev12⟩ : ∃ z : Int32, z = u1 + 1 := ⟨_, rfl⟩
        have bv12 : v12.toInt = u1.toInt + 1 := by rw [ev12]; exact add_k rfl rfl k8 ⟨Int.le_refl _, Int.le_refl _⟩ (by decide)
        have k13 : 1 ≤ v12.toInt ∧ v12.toInt ≤ 12 := add_r bv12 k8 ⟨Int.le_refl _, Int.le_refl _⟩ (by decide)
        refine lv_iinc (v := v12) (lv' := [(4, .int v12), (0, .ref p0), (1, .int p1), (2, .long p2)]) hx hb dX1_indexOf_28 hl (k := 0) rfl (by rw [ev12]; rfl) (by decide) rfl (fun ls hl => ?_)
        refine lv_goto (tgt := 3) hx hb dX1_indexOf_31 (by decide) ?_
        exact ih (v12) (ir_wk k13 (by decide) (by decide)) (by show (12 - v12.toInt).toNat < (12 - u1.toInt).toNat; omega) _ _ _ hP hD hS (lv_sub hl [0, 1, 2, 3] rfl)
      · have dc11 : v10.toInt = 0 := eq_i (a := v10.toInt) (b := 0) rfl rfl c11
        have k14 : 0 ≤ v10.toInt ∧ v10.toInt ≤ 0 := ⟨Int.le_trans (Int.le_refl _) (Int.le_of_eq dc11.symm), Int.le_trans (Int.le_of_eq dc11) (Int.le_refl _)⟩
        refine lv_iload hx hb dX1_indexOf_25 (lv_at hl 0 rfl) ?_
        exact ret_i (v := u1) hx hb hr hlocks hS hP hD dX1_indexOf_27 rfl (Nat.le_of_ble_eq_true rfl) (Nat.le_of_ble_eq_true rfl) ⟨(ir_wk k8 (by decide) (by decide)), rfl⟩
set_option maxHeartbeats 4000000 in
set_option maxRecDepth 100000 in
theorem m_X1_manNamed (l : Launch) (D : va_G) (cI cJ cB cP cM cZ : ClassId) (h0 : Nat) (h_manName : Nat) (Fh : Nat → Value) (x_men : Int32) (f_manName : Nat → Int64) (p0 : Int64) (sz : Nat) (e_manName : Fh 2 = .ref h_manName) (e_men : Fh 13 = .int x_men) (i_x_men : IR 0 12 x_men) : CI l yX1_manNamed cX1_manNamed 3 (some .int) { frames := 1, cells := 0, slots := 0, locals := 24 } (GG D cI cJ cB cP cM cZ) D [(h0, .inr (1, vL 18 Fh)), (h_manName, .inl (cJ, 12, .inr (.inl f_manName)))] sz [.ref h0, .long p0] (fun (r : Int32) (u : va_W) => IR (-1) 11 r ∧ u = [(h0, .inr (1, vL 18 Fh)), (h_manName, .inl (cJ, 12, .inr (.inl f_manName)))]) := by
  refine CI_mk (by decide) (Nat.le_of_ble_eq_true rfl) ?_
  intro p e s m below meth c A ls E hAe hG hsz hP hD hA hS hl
  obtain ⟨hx, hb, hr, hw, hown, hlocks, hml, hnm⟩ := E
  have hK := hG.1
  have i_x_men : 0 ≤ x_men.toInt ∧ x_men.toInt ≤ 12 := i_x_men
  have hl : lv_has ls 3 [(0, .ref h0), (1, .long p0)] := hl
  refine lv_aload_n hx hb dX1_manNamed_0 rfl (lv_at hl 0 rfl) ?_
  refine get_f (D := D) (ci := 1) (v := .ref h_manName) (C := RX1) (T := TX1) (N := 18) hx hb hw inAX1 hown hK hP 0 rfl rfl 2 (by decide) (hw _ q_320) (fun _ h9 => h9) e_manName dX1_manNamed_1 ?_
  refine lv_aload_n hx hb dX1_manNamed_4 rfl (lv_at hl 0 rfl) ?_
  refine get_f (D := D) (ci := 1) (v := .int x_men) (C := RX1) (T := TX1) (N := 18) hx hb hw inAX1 hown hK hP 0 rfl rfl 13 (by decide) (hw _ q_352) (fun _ h9 => h9) e_men dX1_manNamed_5 ?_
  refine lv_lload_n hx hb dX1_manNamed_8 rfl (lv_at hl 1 rfl) ?_
  refine call_Si (wr := [(h0, .inr (1, vL 18 Fh))]) (As := [.ref h_manName, .int x_men, .long p0]) (rest := []) hx hb hml hown hw (m_X1_indexOf_12 l D cI cJ cB cP cM cZ h_manName f_manName x_men p0 _ ) wS_X1_76_X1_indexOf dX1_manNamed_9 hP hD hS hA [1] [0] rfl rfl (by decide) (by decide) (by decide) GG.fb hG.at hl.1 rfl (Nat.le_of_ble_eq_true rfl) ⟨(Nat.le_of_ble_eq_true rfl), (Nat.le_of_ble_eq_true rfl)⟩ ⟨(Nat.le_of_ble_eq_true rfl), (Nat.le_of_ble_eq_true rfl)⟩ (fun r1 u H locs hp hP hD hS => ?_)
  obtain ⟨t2, rfl⟩ := hp
  have hP : va_P D vwCl [(h0, .inr (1, vL 18 Fh)), (h_manName, .inl (cJ, 12, .inr (.inl f_manName)))] H := hP
  have hD : va_D A [(h0, .inr (1, vL 18 Fh)), (h_manName, .inl (cJ, 12, .inr (.inl f_manName)))] := hD
  refine W.widen (k := 0) (n := 0) (Nat.le_of_ble_eq_true rfl) (Nat.le_of_ble_eq_true rfl) ?_
  exact ret_i (v := r1) hx hb hr hlocks hS hP hD dX1_manNamed_12 rfl (Nat.le_of_ble_eq_true rfl) (Nat.le_of_ble_eq_true rfl) ⟨t2, rfl⟩
set_option maxHeartbeats 4000000 in
set_option maxRecDepth 100000 in
theorem m_X1_indexOf_6 (l : Launch) (D : va_G) (cI cJ cB cP cM cZ : ClassId) (p0 : Nat) (f_p0 : Nat → Int64) (p1 : Int32) (p2 : Int64) (sz : Nat)  : CI l yX1_indexOf cX1_indexOf 5 (some .int) { frames := 0, cells := 0, slots := 0, locals := 0 } (GG D cI cJ cB cP cM cZ) D [(p0, .inl (cJ, 6, .inr (.inl f_p0)))] sz [.ref p0, .int p1, .long p2] (fun (r : Int32) (u : va_W) => IR (-1) 5 r ∧ u = [(p0, .inl (cJ, 6, .inr (.inl f_p0)))]) := by
  refine CI_mk (by decide) (Nat.le_of_ble_eq_true rfl) ?_
  intro p e s m below meth c A ls E hAe hG hsz hP hD hA hS hl
  obtain ⟨hx, hb, hr, hw, hown, hlocks, hml, hnm⟩ := E
  have hK := hG.1
  have hl : lv_has ls 5 [(0, .ref p0), (1, .int p1), (2, .long p2)] := hl
  refine lv_iconst (v := 0) hx hb dX1_indexOf_0 (by decide) ?_
  refine lv_istore (lv' := [(4, .int 0), (0, .ref p0), (1, .int p1), (2, .long p2)]) hx hb dX1_indexOf_1 hl (by decide) rfl (fun ls hl => ?_)
  refine mloop (α := (Int32)) (nL := 5) (D := D) (A := A) (H0 := s.heap) (fun a => (6 - a.toInt).toNat) (fun a => IR 0 6 a) (fun a => [(p0, .inl (cJ, 6, .inr (.inl f_p0)))]) (fun a => [(4, .int a), (0, .ref p0), (1, .int p1), (2, .long p2)]) (fun H locs ls => W p l e ({ frames := 0, cells := 0, slots := 0, locals := 0 } : Room) s m [.ref p0, .int p1, .long p2].toArray below meth c H locs 0 0 (MQ below (va_Qi (fun (r : Int32) (u : va_W) => IR (-1) 5 r ∧ u = [(p0, .inl (cJ, 6, .inr (.inl f_p0)))]) (PO D A) A) [.ref p0, .int p1, .long p2].toArray s 0 0 A) (F0 m 3 ls [])) ?_ (0) (show 0 ≤ (0 : Int32).toInt ∧ (0 : Int32).toInt ≤ 6 by decide) _ _ _ hP hD hS hl
  rintro u1 i2 ih H locs ls hP hD hS hl
  have i2 : 0 ≤ u1.toInt ∧ u1.toInt ≤ 6 := i2
  have hP : va_P D vwCl [(p0, .inl (cJ, 6, .inr (.inl f_p0)))] H := hP
  have hD : va_D A [(p0, .inl (cJ, 6, .inr (.inl f_p0)))] := hD
  have hl : lv_has ls 5 [(4, .int u1), (0, .ref p0), (1, .int p1), (2, .long p2)] := hl
  refine lv_iload hx hb dX1_indexOf_3 (lv_at hl 0 rfl) ?_
  refine lv_iload_n hx hb dX1_indexOf_5 rfl (lv_at hl 2 rfl) ?_
  refine lv_icmp_ge (tgt := 34) hx hb dX1_indexOf_6 (by decide) (fun c3 => ?_) (fun c3 => ?_)
  · have dc3 : p1.toInt ≤ u1.toInt := le_i (a := p1.toInt) (b := u1.toInt) rfl rfl c3
    have k4 : (-2147483648) ≤ p1.toInt ∧ p1.toInt ≤ 6 := ⟨(ir_any _).1, Int.le_trans dc3 i2.2⟩
    refine lv_iconst (v := (-1)) hx hb dX1_indexOf_34 (by decide) ?_
    exact ret_i (v := (-1)) hx hb hr hlocks hS hP hD dX1_indexOf_35 rfl (Nat.le_of_ble_eq_true rfl) (Nat.le_of_ble_eq_true rfl) ⟨(show (-1) ≤ ((-1) : Int32).toInt ∧ ((-1) : Int32).toInt ≤ 5 by decide), rfl⟩
  · have dc3 : u1.toInt < p1.toInt := nle_i (a := p1.toInt) (b := u1.toInt) rfl rfl c3
    have k5 : 1 ≤ p1.toInt ∧ p1.toInt ≤ 2147483647 := ⟨lo_lt dc3 i2.1 (by decide), (ir_any _).2⟩
    refine lv_iload hx hb dX1_indexOf_9 (lv_at hl 0 rfl) ?_
    refine lv_aload_n hx hb dX1_indexOf_11 rfl (lv_at hl 1 rfl) ?_
    refine va_alen (v := 6) hx hb hK hP 0 1 rfl rfl rfl dX1_indexOf_12 ?_
    refine lv_icmp_ge (tgt := 34) hx hb dX1_indexOf_13 (by decide) (fun c6 => ?_) (fun c6 => ?_)
    · have dc6 : 6 ≤ u1.toInt := le_i (a := 6) (b := u1.toInt) rfl rfl c6
      have k7 : 6 ≤ u1.toInt ∧ u1.toInt ≤ 6 := ⟨Int.le_trans (Int.le_refl _) dc6, i2.2⟩
      refine lv_iconst (v := (-1)) hx hb dX1_indexOf_34 (by decide) ?_
      exact ret_i (v := (-1)) hx hb hr hlocks hS hP hD dX1_indexOf_35 rfl (Nat.le_of_ble_eq_true rfl) (Nat.le_of_ble_eq_true rfl) ⟨(show (-1) ≤ ((-1) : Int32).toInt ∧ ((-1) : Int32).toInt ≤ 5 by decide), rfl⟩
    · have dc6 : u1.toInt < 6 := nle_i (a := 6) (b := u1.toInt) rfl rfl c6
      have k8 : 0 ≤ u1.toInt ∧ u1.toInt ≤ 5 := ⟨i2.1, up_lt dc6 (Int.le_refl _) (by decide)⟩
      refine lv_aload_n hx hb dX1_indexOf_16 rfl (lv_at hl 1 rfl) ?_
      refine lv_iload hx hb dX1_indexOf_17 (lv_at hl 0 rfl) ?_
      refine va_lald hx hb hK hP 0 1 rfl rfl (ix_k k8 (by decide) (by decide)) dX1_indexOf_19 ?_
      refine lv_topl (fun v9 ev9 => ?_)
      refine lv_lload_n hx hb dX1_indexOf_20 rfl (lv_at hl 3 rfl) ?_
      refine W.lcmp hx hb dX1_indexOf_21 ?_
      refine lv_topi (fun v10 ev10 => ?_)
      refine lv_if_ne (tgt := 28) hx hb dX1_indexOf_22 (by decide) (fun c11 => ?_) (fun c11 => ?_)
      · have dc11 : v10.toInt ≠ 0 := ne_i (a := v10.toInt) (b := 0) rfl rfl c11
        obtain ⟨v12, ev12⟩ : ∃ z : Int32, z = u1 + 1 := ⟨_, rfl⟩
        have bv12 : v12.toInt = u1.toInt + 1 := by rw [ev12]; exact add_k rfl rfl k8 ⟨Int.le_refl _, Int.le_refl _⟩ (by decide)
        have k13 : 1 ≤ v12.toInt ∧ v12.toInt ≤ 6 := add_r bv12 k8 ⟨Int.le_refl _, Int.le_refl _⟩ (by decide)
        refine lv_iinc (v := v12) (lv' := [(4, .int v12), (0, .ref p0), (1, .int p1), (2, .long p2)]) hx hb dX1_indexOf_28 hl (k := 0) rfl (by rw [ev12]; rfl) (by decide) rfl (fun ls hl => ?_)
        refine lv_goto (tgt := 3) hx hb dX1_indexOf_31 (by decide) ?_
        exact ih (v12) (ir_wk k13 (by decide) (by decide)) (by show (6 - v12.toInt).toNat < (6 - u1.toInt).toNat; omega) _ _ _ hP hD hS (lv_sub hl [0, 1, 2, 3] rfl)
      · have dc11 : v10.toInt = 0 := eq_i (a := v10.toInt) (b := 0) rfl rfl c11
        have k14 : 0 ≤ v10.toInt ∧ v10.toInt ≤ 0 := ⟨Int.le_trans (Int.le_refl _) (Int.le_of_eq dc11.symm), Int.le_trans (Int.le_of_eq dc11) (Int.le_refl _)⟩
        refine lv_iload hx hb dX1_indexOf_25 (lv_at hl 0 rfl) ?_
        exact ret_i (v := u1) hx hb hr hlocks hS hP hD dX1_indexOf_27 rfl (Nat.le_of_ble_eq_true rfl) (Nat.le_of_ble_eq_true rfl) ⟨(ir_wk k8 (by decide) (by decide)), rfl⟩
set_option maxHeartbeats 4000000 in
set_option maxRecDepth 100000 in
theorem m_X1_runnerNamed (l : Launch) (D : va_G) (cI cJ cB cP cM cZ : ClassId) (h0 : Nat) (h_runnerName : Nat) (Fh : Nat → Value) (x_runners : Int32) (f_runnerName : Nat → Int64) (p0 : Int64) (sz : Nat) (e_runnerName : Fh 10 = .ref h_runnerName) (e_runners : Fh 15 = .int x_runners) (i_x_runners : IR 0 6 x_runners) : CI l yX1_runnerNamed cX1_runnerNamed 3 (some .int) { frames := 1, cells := 0, slots := 0, locals := 24 } (GG D cI cJ cB cP cM cZ) D [(h0, .inr (1, vL 18 Fh)), (h_runnerName, .inl (cJ, 6, .inr (.inl f_runnerName)))] sz [.ref h0, .long p0] (fun (r : Int32) (u : va_W) => IR (-1) 5 r ∧ u = [(h0, .inr (1, vL 18 Fh)), (h_runnerName, .inl (cJ, 6, .inr (.inl f_runnerName)))]) := by
  refine CI_mk (by decide) (Nat.le_of_ble_eq_true rfl) ?_
  intro p e s m below meth c A ls E hAe hG hsz hP hD hA hS hl
  obtain ⟨hx, hb, hr, hw, hown, hlocks, hml, hnm⟩ := E
  have hK := hG.1
  have i_x_runners : 0 ≤ x_runners.toInt ∧ x_runners.toInt ≤ 6 := i_x_runners
  have hl : lv_has ls 3 [(0, .ref h0), (1, .long p0)] := hl
  refine lv_aload_n hx hb dX1_runnerNamed_0 rfl (lv_at hl 0 rfl) ?_
  refine get_f (D := D) (ci := 1) (v := .ref h_runnerName) (C := RX1) (T := TX1) (N := 18) hx hb hw inAX1 hown hK hP 0 rfl rfl 10 (by decide) (hw _ q_347) (fun _ h9 => h9) e_runnerName dX1_runnerNamed_1 ?_
  refine lv_aload_n hx hb dX1_runnerNamed_4 rfl (lv_at hl 0 rfl) ?_
  refine get_f (D := D) (ci := 1) (v := .int x_runners) (C := RX1) (T := TX1) (N := 18) hx hb hw inAX1 hown hK hP 0 rfl rfl 15 (by decide) (hw _ q_359) (fun _ h9 => h9) e_runners dX1_runnerNamed_5 ?_
  refine lv_lload_n hx hb dX1_runnerNamed_8 rfl (lv_at hl 1 rfl) ?_
  refine call_Si (wr := [(h0, .inr (1, vL 18 Fh))]) (As := [.ref h_runnerName, .int x_runners, .long p0]) (rest := []) hx hb hml hown hw (m_X1_indexOf_6 l D cI cJ cB cP cM cZ h_runnerName f_runnerName x_runners p0 _ ) wS_X1_76_X1_indexOf dX1_runnerNamed_9 hP hD hS hA [1] [0] rfl rfl (by decide) (by decide) (by decide) GG.fb hG.at hl.1 rfl (Nat.le_of_ble_eq_true rfl) ⟨(Nat.le_of_ble_eq_true rfl), (Nat.le_of_ble_eq_true rfl)⟩ ⟨(Nat.le_of_ble_eq_true rfl), (Nat.le_of_ble_eq_true rfl)⟩ (fun r1 u H locs hp hP hD hS => ?_)
  obtain ⟨t2, rfl⟩ := hp
  have hP : va_P D vwCl [(h0, .inr (1, vL 18 Fh)), (h_runnerName, .inl (cJ, 6, .inr (.inl f_runnerName)))] H := hP
  have hD : va_D A [(h0, .inr (1, vL 18 Fh)), (h_runnerName, .inl (cJ, 6, .inr (.inl f_runnerName)))] := hD
  refine W.widen (k := 0) (n := 0) (Nat.le_of_ble_eq_true rfl) (Nat.le_of_ble_eq_true rfl) ?_
  exact ret_i (v := r1) hx hb hr hlocks hS hP hD dX1_runnerNamed_12 rfl (Nat.le_of_ble_eq_true rfl) (Nat.le_of_ble_eq_true rfl) ⟨t2, rfl⟩
set_option maxHeartbeats 4000000 in
set_option maxRecDepth 100000 in
theorem m_X1_readName_manName (l : Launch) (D : va_G) (cI cJ cB cP cM cZ : ClassId) (h0 : Nat) (h_manName : Nat) (h_runnerName : Nat) (p0 : Nat) (h_p0_bytes : Nat) (h_p0_wordNames : Nat) (Fh : Nat → Value) (x_men : Int32) (x_runners : Int32) (f_manName : Nat → Int64) (f_runnerName : Nat → Int64) (F_p0_ : Nat → Value) (x_p0_length : Int32) (x_p0_kind : Int32) (x_p0_place : Int32) (x_p0_value : Int32) (x_p0_name : Int64) (x_p0_faultKind : Int32) (x_p0_faultPlace : Int32) (x_p0_at : Int32) (x_p0_mostBytes : Int32) (f_p0_bytes : Nat → Int32) (f_p0_wordNames : Nat → Int64) (p2 : Int32) (sz : Nat) (e_manName : Fh 2 = .ref h_manName) (e_runnerName : Fh 10 = .ref h_runnerName) (e_men : Fh 13 = .int x_men) (i_x_men : IR 0 12 x_men) (e_runners : Fh 15 = .int x_runners) (i_x_runners : IR 0 6 x_runners) (e_p0_bytes : F_p0_ 0 = .ref h_p0_bytes) (e_p0_length : F_p0_ 1 = .int x_p0_length) (i_x_p0_length : IR 0 940 x_p0_length) (e_p0_kind : F_p0_ 2 = .int x_p0_kind) (e_p0_place : F_p0_ 3 = .int x_p0_place) (e_p0_value : F_p0_ 4 = .int x_p0_value) (e_p0_name : F_p0_ 5 = .long x_p0_name) (e_p0_faultKind : F_p0_ 7 = .int x_p0_faultKind) (e_p0_faultPlace : F_p0_ 8 = .int x_p0_faultPlace) (e_p0_wordNames : F_p0_ 9 = .ref h_p0_wordNames) (e_p0_at : F_p0_ 10 = .int x_p0_at) (i_x_p0_at : IR 0 940 x_p0_at) (e_p0_mostBytes : F_p0_ 11 = .int x_p0_mostBytes) (i_p2 : IR 0 11 p2) : CI l yX1_readName cX1_readName 4 (some .boolean) { frames := 2, cells := 0, slots := 0, locals := 46 } (GG D cI cJ cB cP cM cZ) D [(h0, .inr (1, vL 18 Fh)), (h_manName, .inl (cJ, 12, .inr (.inl f_manName))), (h_runnerName, .inl (cJ, 6, .inr (.inl f_runnerName))), (p0, .inr (6, vL 12 F_p0_)), (h_p0_bytes, .inl (cB, 940, .inl f_p0_bytes)), (h_p0_wordNames, .inl (cJ, 23, .inr (.inl f_p0_wordNames)))] sz [.ref h0, .ref p0, .ref h_manName, .int p2] (fun (r : Int32) (u : va_W) => ∃ (G_p0_ : Nat → Value) (y_p0_kind : Int32) (y_p0_place : Int32) (y_p0_value : Int32) (y_p0_name : Int64) (y_p0_faultKind : Int32) (y_p0_faultPlace : Int32) (y_p0_at : Int32) (g_manName : Nat → Int64), SAME [2, 3, 4, 5, 7, 8, 10] F_p0_ G_p0_ ∧ G_p0_ 2 = .int y_p0_kind ∧ G_p0_ 3 = .int y_p0_place ∧ G_p0_ 4 = .int y_p0_value ∧ G_p0_ 5 = .long y_p0_name ∧ G_p0_ 7 = .int y_p0_faultKind ∧ G_p0_ 8 = .int y_p0_faultPlace ∧ G_p0_ 10 = .int y_p0_at ∧ IR 0 940 y_p0_at ∧ IR 0 1 r ∧ u = [(h0, .inr (1, vL 18 Fh)), (h_manName, .inl (cJ, 12, .inr (.inl g_manName))), (h_runnerName, .inl (cJ, 6, .inr (.inl f_runnerName))), (p0, .inr (6, vL 12 G_p0_)), (h_p0_bytes, .inl (cB, 940, .inl f_p0_bytes)), (h_p0_wordNames, .inl (cJ, 23, .inr (.inl f_p0_wordNames)))]) := by
  refine CI_mk (by decide) (Nat.le_of_ble_eq_true rfl) ?_
  intro p e s m below meth c A ls E hAe hG hsz hP hD hA hS hl
  obtain ⟨hx, hb, hr, hw, hown, hlocks, hml, hnm⟩ := E
  have hK := hG.1
  have i_x_men : 0 ≤ x_men.toInt ∧ x_men.toInt ≤ 12 := i_x_men
  have i_x_runners : 0 ≤ x_runners.toInt ∧ x_runners.toInt ≤ 6 := i_x_runners
  have i_x_p0_length : 0 ≤ x_p0_length.toInt ∧ x_p0_length.toInt ≤ 940 := i_x_p0_length
  have i_x_p0_at : 0 ≤ x_p0_at.toInt ∧ x_p0_at.toInt ≤ 940 := i_x_p0_at
  have i_p2 : 0 ≤ p2.toInt ∧ p2.toInt ≤ 11 := i_p2
  have hl : lv_has ls 4 [(0, .ref h0), (1, .ref p0), (2, .ref h_manName), (3, .int p2)] := hl
  refine lv_aload_n hx hb dX1_readName_0 rfl (lv_at hl 1 rfl) ?_
  refine call_Vi (wr := [(h0, .inr (1, vL 18 Fh)), (h_manName, .inl (cJ, 12, .inr (.inl f_manName))), (h_runnerName, .inl (cJ, 6, .inr (.inl f_runnerName))), (h_p0_bytes, .inl (cB, 940, .inl f_p0_bytes)), (h_p0_wordNames, .inl (cJ, 23, .inr (.inl f_p0_wordNames)))]) (As := []) (rest := []) hx hb hml hown hw (m_X6_isName l D cI cJ cB cP cM cZ p0 F_p0_ x_p0_kind x_p0_value _ e_p0_kind e_p0_value) wV_X1_148_X6_isName dX1_readName_1 hK hP hD hS hA [3] [0, 1, 2, 4, 5] rfl rfl (by decide) (by decide) (by decide) 0 6 rfl rfl GG.fb hG.at hl.1 rfl (Nat.le_of_ble_eq_true rfl) ⟨(Nat.le_of_ble_eq_true rfl), (Nat.le_of_ble_eq_true rfl)⟩ ⟨(Nat.le_of_ble_eq_true rfl), (Nat.le_of_ble_eq_true rfl)⟩ (fun r1 u H locs hp hP hD hS => ?_)
  obtain ⟨t2, rfl⟩ := hp
  have hP : va_P D vwCl [(h0, .inr (1, vL 18 Fh)), (h_manName, .inl (cJ, 12, .inr (.inl f_manName))), (h_runnerName, .inl (cJ, 6, .inr (.inl f_runnerName))), (h_p0_bytes, .inl (cB, 940, .inl f_p0_bytes)), (h_p0_wordNames, .inl (cJ, 23, .inr (.inl f_p0_wordNames))), (p0, .inr (6, vL 12 F_p0_))] H := hP
  have hD : va_D A [(h0, .inr (1, vL 18 Fh)), (h_manName, .inl (cJ, 12, .inr (.inl f_manName))), (h_runnerName, .inl (cJ, 6, .inr (.inl f_runnerName))), (h_p0_bytes, .inl (cB, 940, .inl f_p0_bytes)), (h_p0_wordNames, .inl (cJ, 23, .inr (.inl f_p0_wordNames))), (p0, .inr (6, vL 12 F_p0_))] := hD
  refine W.widen (k := 0) (n := 0) (Nat.le_of_ble_eq_true rfl) (Nat.le_of_ble_eq_true rfl) ?_
  refine lv_if_ne (tgt := 13) hx hb dX1_readName_4 (by decide) (fun c3 => ?_) (fun c3 => ?_)
  · have dc3 : r1.toInt ≠ 0 := ne_i (a := r1.toInt) (b := 0) rfl rfl c3
    have k4 : 1 ≤ r1.toInt ∧ r1.toInt ≤ 1 := ⟨ne_lo dc3 t2.1 ⟨Int.le_refl _, Int.le_refl _⟩ (by decide), t2.2⟩
    refine lv_aload_n hx hb dX1_readName_13 rfl (lv_at hl 0 rfl) ?_
    refine lv_aload_n hx hb dX1_readName_14 rfl (lv_at hl 1 rfl) ?_
    refine get_f (D := D) (ci := 6) (v := .long x_p0_name) (C := RX6) (T := TX6) (N := 12) hx hb hw inAX6 hown hK hP 5 rfl rfl 5 (by decide) (hw _ q_101) (fun _ h9 => h9) e_p0_name dX1_readName_15 ?_
    refine call_Vi (wr := [(h_runnerName, .inl (cJ, 6, .inr (.inl f_runnerName))), (h_p0_bytes, .inl (cB, 940, .inl f_p0_bytes)), (h_p0_wordNames, .inl (cJ, 23, .inr (.inl f_p0_wordNames))), (p0, .inr (6, vL 12 F_p0_))]) (As := [.long x_p0_name]) (rest := []) hx hb hml hown hw (m_X1_manNamed l D cI cJ cB cP cM cZ h0 h_manName Fh x_men f_manName x_p0_name _ e_manName e_men i_x_men) wV_X1_156_X1_manNamed dX1_readName_18 hK hP hD hS hA [0, 1] [2, 3, 4, 5] rfl rfl (by decide) (by decide) (by decide) 0 1 rfl rfl GG.fb hG.at hl.1 rfl (Nat.le_of_ble_eq_true rfl) ⟨(Nat.le_of_ble_eq_true rfl), (Nat.le_of_ble_eq_true rfl)⟩ ⟨(Nat.le_of_ble_eq_true rfl), (Nat.le_of_ble_eq_true rfl)⟩ (fun r5 u H locs hp hP hD hS => ?_)
    obtain ⟨t6, rfl⟩ := hp
    have hP : va_P D vwCl [(h_runnerName, .inl (cJ, 6, .inr (.inl f_runnerName))), (h_p0_bytes, .inl (cB, 940, .inl f_p0_bytes)), (h_p0_wordNames, .inl (cJ, 23, .inr (.inl f_p0_wordNames))), (p0, .inr (6, vL 12 F_p0_)), (h0, .inr (1, vL 18 Fh)), (h_manName, .inl (cJ, 12, .inr (.inl f_manName)))] H := hP
    have hD : va_D A [(h_runnerName, .inl (cJ, 6, .inr (.inl f_runnerName))), (h_p0_bytes, .inl (cB, 940, .inl f_p0_bytes)), (h_p0_wordNames, .inl (cJ, 23, .inr (.inl f_p0_wordNames))), (p0, .inr (6, vL 12 F_p0_)), (h0, .inr (1, vL 18 Fh)), (h_manName, .inl (cJ, 12, .inr (.inl f_manName)))] := hD
    refine W.widen (k := 0) (n := 0) (Nat.le_of_ble_eq_true rfl) (Nat.le_of_ble_eq_true rfl) ?_
    refine lv_iconst (v := (-1)) hx hb dX1_readName_21 (by decide) ?_
    refine lv_icmp_ne (tgt := 37) hx hb dX1_readName_22 (by decide) (fun c7 => ?_) (fun c7 => ?_)
    · have dc7 : r5.toInt ≠ (-1) := ne_i (a := r5.toInt) (b := (-1)) rfl rfl c7
      have k8 : 0 ≤ r5.toInt ∧ r5.toInt ≤ 11 := ⟨ne_lo dc7 t6.1 ⟨Int.le_refl _, Int.le_refl _⟩ (by decide), t6.2⟩
      refine lv_aload_n hx hb dX1_readName_37 rfl (lv_at hl 1 rfl) ?_
      refine lv_iconst (v := 3) hx hb dX1_readName_38 (by decide) ?_
      refine call_Vi (wr := [(h_runnerName, .inl (cJ, 6, .inr (.inl f_runnerName))), (h_p0_bytes, .inl (cB, 940, .inl f_p0_bytes)), (h_p0_wordNames, .inl (cJ, 23, .inr (.inl f_p0_wordNames))), (h0, .inr (1, vL 18 Fh)), (h_manName, .inl (cJ, 12, .inr (.inl f_manName)))]) (As := [.int 3]) (rest := []) hx hb hml hown hw (m_X6_fail l D cI cJ cB cP cM cZ p0 F_p0_ x_p0_place 3 _ e_p0_place) wV_X1_128_X6_fail dX1_readName_39 hK hP hD hS hA [3] [0, 1, 2, 4, 5] rfl rfl (by decide) (by decide) (by decide) 0 6 rfl rfl GG.fb hG.at hl.1 rfl (Nat.le_of_ble_eq_true rfl) ⟨(Nat.le_of_ble_eq_true rfl), (Nat.le_of_ble_eq_true rfl)⟩ ⟨(Nat.le_of_ble_eq_true rfl), (Nat.le_of_ble_eq_true rfl)⟩ (fun r9 u H locs hp hP hD hS => ?_)
      obtain ⟨F10, t11, t12, t13, rfl, rfl⟩ := hp
      have hP : va_P D vwCl [(h_runnerName, .inl (cJ, 6, .inr (.inl f_runnerName))), (h_p0_bytes, .inl (cB, 940, .inl f_p0_bytes)), (h_p0_wordNames, .inl (cJ, 23, .inr (.inl f_p0_wordNames))), (h0, .inr (1, vL 18 Fh)), (h_manName, .inl (cJ, 12, .inr (.inl f_manName))), (p0, .inr (6, vL 12 F10))] H := hP
      have hD : va_D A [(h_runnerName, .inl (cJ, 6, .inr (.inl f_runnerName))), (h_p0_bytes, .inl (cB, 940, .inl f_p0_bytes)), (h_p0_wordNames, .inl (cJ, 23, .inr (.inl f_p0_wordNames))), (h0, .inr (1, vL 18 Fh)), (h_manName, .inl (cJ, 12, .inr (.inl f_manName))), (p0, .inr (6, vL 12 F10))] := hD
      refine W.widen (k := 0) (n := 0) (Nat.le_of_ble_eq_true rfl) (Nat.le_of_ble_eq_true rfl) ?_
      exact ret_i (v := 0) hx hb hr hlocks hS (hP.sub (ws' := [(h0, .inr (1, vL 18 Fh)), (h_manName, .inl (cJ, 12, .inr (.inl f_manName))), (h_runnerName, .inl (cJ, 6, .inr (.inl f_runnerName))), (p0, .inr (6, vL 12 F10)), (h_p0_bytes, .inl (cB, 940, .inl f_p0_bytes)), (h_p0_wordNames, .inl (cJ, 23, .inr (.inl f_p0_wordNames)))]) [3, 4, 0, 5, 1, 2] rfl) (hD.sub (ws' := [(h0, .inr (1, vL 18 Fh)), (h_manName, .inl (cJ, 12, .inr (.inl f_manName))), (h_runnerName, .inl (cJ, 6, .inr (.inl f_runnerName))), (p0, .inr (6, vL 12 F10)), (h_p0_bytes, .inl (cB, 940, .inl f_p0_bytes)), (h_p0_wordNames, .inl (cJ, 23, .inr (.inl f_p0_wordNames)))]) [3, 4, 0, 5, 1, 2] (by decide) rfl) dX1_readName_42 rfl (Nat.le_of_ble_eq_true rfl) (Nat.le_of_ble_eq_true rfl) ⟨F10, x_p0_kind, x_p0_place, x_p0_value, x_p0_name, 3, x_p0_place, x_p0_at, f_manName, (SAME.tr SAME.rf t11 (by decide)), (SAME.at t11 (by decide) e_p0_kind), (SAME.at t11 (by decide) e_p0_place), (SAME.at t11 (by decide) e_p0_value), (SAME.at t11 (by decide) e_p0_name), t12, t13, (SAME.at t11 (by decide) e_p0_at), i_x_p0_at, (show 0 ≤ (0 : Int32).toInt ∧ (0 : Int32).toInt ≤ 1 by decide), rfl⟩
    · have dc7 : r5.toInt = (-1) := eq_i (a := r5.toInt) (b := (-1)) rfl rfl c7
      have k14 : (-1) ≤ r5.toInt ∧ r5.toInt ≤ (-1) := ⟨t6.1, Int.le_trans (Int.le_of_eq dc7) (Int.le_refl _)⟩
      refine lv_aload_n hx hb dX1_readName_25 rfl (lv_at hl 0 rfl) ?_
      refine lv_aload_n hx hb dX1_readName_26 rfl (lv_at hl 1 rfl) ?_
      refine get_f (D := D) (ci := 6) (v := .long x_p0_name) (C := RX6) (T := TX6) (N := 12) hx hb hw inAX6 hown hK hP 3 rfl rfl 5 (by decide) (hw _ q_101) (fun _ h9 => h9) e_p0_name dX1_readName_27 ?_
      refine call_Vi (wr := [(h_p0_bytes, .inl (cB, 940, .inl f_p0_bytes)), (h_p0_wordNames, .inl (cJ, 23, .inr (.inl f_p0_wordNames))), (p0, .inr (6, vL 12 F_p0_)), (h_manName, .inl (cJ, 12, .inr (.inl f_manName)))]) (As := [.long x_p0_name]) (rest := []) hx hb hml hown hw (m_X1_runnerNamed l D cI cJ cB cP cM cZ h0 h_runnerName Fh x_runners f_runnerName x_p0_name _ e_runnerName e_runners i_x_runners) wV_X1_160_X1_runnerNamed dX1_readName_30 hK hP hD hS hA [4, 0] [1, 2, 3, 5] rfl rfl (by decide) (by decide) (by decide) 0 1 rfl rfl GG.fb hG.at hl.1 rfl (Nat.le_of_ble_eq_true rfl) ⟨(Nat.le_of_ble_eq_true rfl), (Nat.le_of_ble_eq_true rfl)⟩ ⟨(Nat.le_of_ble_eq_true rfl), (Nat.le_of_ble_eq_true rfl)⟩ (fun r15 u H locs hp hP hD hS => ?_)
      obtain ⟨t16, rfl⟩ := hp
      have hP : va_P D vwCl [(h_p0_bytes, .inl (cB, 940, .inl f_p0_bytes)), (h_p0_wordNames, .inl (cJ, 23, .inr (.inl f_p0_wordNames))), (p0, .inr (6, vL 12 F_p0_)), (h_manName, .inl (cJ, 12, .inr (.inl f_manName))), (h0, .inr (1, vL 18 Fh)), (h_runnerName, .inl (cJ, 6, .inr (.inl f_runnerName)))] H := hP
      have hD : va_D A [(h_p0_bytes, .inl (cB, 940, .inl f_p0_bytes)), (h_p0_wordNames, .inl (cJ, 23, .inr (.inl f_p0_wordNames))), (p0, .inr (6, vL 12 F_p0_)), (h_manName, .inl (cJ, 12, .inr (.inl f_manName))), (h0, .inr (1, vL 18 Fh)), (h_runnerName, .inl (cJ, 6, .inr (.inl f_runnerName)))] := hD
      refine W.widen (k := 0) (n := 0) (Nat.le_of_ble_eq_true rfl) (Nat.le_of_ble_eq_true rfl) ?_
      refine lv_iconst (v := (-1)) hx hb dX1_readName_33 (by decide) ?_
      refine lv_icmp_eq (tgt := 43) hx hb dX1_readName_34 (by decide) (fun c17 => ?_) (fun c17 => ?_)
      · have dc17 : r15.toInt = (-1) := eq_i (a := r15.toInt) (b := (-1)) rfl rfl c17
        have k18 : (-1) ≤ r15.toInt ∧ r15.toInt ≤ (-1) := ⟨t16.1, Int.le_trans (Int.le_of_eq dc17) (Int.le_refl _)⟩
        refine lv_aload_n hx hb dX1_readName_43 rfl (lv_at hl 2 rfl) ?_
        refine lv_iload_n hx hb dX1_readName_44 rfl (lv_at hl 3 rfl) ?_
        refine lv_aload_n hx hb dX1_readName_45 rfl (lv_at hl 1 rfl) ?_
        refine get_f (D := D) (ci := 6) (v := .long x_p0_name) (C := RX6) (T := TX6) (N := 12) hx hb hw inAX6 hown hK hP 2 rfl rfl 5 (by decide) (hw _ q_101) (fun _ h9 => h9) e_p0_name dX1_readName_46 ?_
        obtain ⟨g19, eg19⟩ : ∃ z : Nat → Int64, vp_updL f_manName p2.toNatClampNeg x_p0_name = z := ⟨_, rfl⟩
        refine last_g hx hb hK hP hD hS 3 1 rfl rfl (ix_k i_p2 (by decide) (by decide)) eg19 dX1_readName_49 (fun H locs hP hD hS => ?_)
        have hP : va_P D vwCl [(h_p0_bytes, .inl (cB, 940, .inl f_p0_bytes)), (h_p0_wordNames, .inl (cJ, 23, .inr (.inl f_p0_wordNames))), (p0, .inr (6, vL 12 F_p0_)), (h_manName, .inl (cJ, 12, .inr (.inl g19))), (h0, .inr (1, vL 18 Fh)), (h_runnerName, .inl (cJ, 6, .inr (.inl f_runnerName)))] H := hP
        have hD : va_D A [(h_p0_bytes, .inl (cB, 940, .inl f_p0_bytes)), (h_p0_wordNames, .inl (cJ, 23, .inr (.inl f_p0_wordNames))), (p0, .inr (6, vL 12 F_p0_)), (h_manName, .inl (cJ, 12, .inr (.inl g19))), (h0, .inr (1, vL 18 Fh)), (h_runnerName, .inl (cJ, 6, .inr (.inl f_runnerName)))] := hD
        refine lv_aload_n hx hb dX1_readName_50 rfl (lv_at hl 1 rfl) ?_
        refine call_Vv (wr := [(h_manName, .inl (cJ, 12, .inr (.inl g19))), (h0, .inr (1, vL 18 Fh)), (h_runnerName, .inl (cJ, 6, .inr (.inl f_runnerName)))]) (As := []) (rest := []) hx hb hml hown hw (m_X6_advance l D cI cJ cB cP cM cZ p0 h_p0_bytes h_p0_wordNames F_p0_ x_p0_length x_p0_value x_p0_name x_p0_at x_p0_mostBytes f_p0_bytes f_p0_wordNames _ e_p0_bytes e_p0_length i_x_p0_length e_p0_value e_p0_name e_p0_wordNames e_p0_at i_x_p0_at e_p0_mostBytes) wV_X1_131_X6_advance dX1_readName_51 hK hP hD hS hA [2, 0, 1] [3, 4, 5] rfl rfl (by decide) (by decide) (by decide) 0 6 rfl rfl GG.fb hG.at hl.1 rfl (Nat.le_of_ble_eq_true rfl) ⟨(Nat.le_of_ble_eq_true rfl), (Nat.le_of_ble_eq_true rfl)⟩ ⟨(Nat.le_of_ble_eq_true rfl), (Nat.le_of_ble_eq_true rfl)⟩ (fun u H locs hp hP hD hS => ?_)
        obtain ⟨F21, y22, y23, y24, y25, y26, t27, t28, t29, t30, t31, t32, t33, t34, rfl⟩ := hp
        have hP : va_P D vwCl [(h_manName, .inl (cJ, 12, .inr (.inl g19))), (h0, .inr (1, vL 18 Fh)), (h_runnerName, .inl (cJ, 6, .inr (.inl f_runnerName))), (p0, .inr (6, vL 12 F21)), (h_p0_bytes, .inl (cB, 940, .inl f_p0_bytes)), (h_p0_wordNames, .inl (cJ, 23, .inr (.inl f_p0_wordNames)))] H := hP
        have hD : va_D A [(h_manName, .inl (cJ, 12, .inr (.inl g19))), (h0, .inr (1, vL 18 Fh)), (h_runnerName, .inl (cJ, 6, .inr (.inl f_runnerName))), (p0, .inr (6, vL 12 F21)), (h_p0_bytes, .inl (cB, 940, .inl f_p0_bytes)), (h_p0_wordNames, .inl (cJ, 23, .inr (.inl f_p0_wordNames)))] := hD
        refine W.widen (k := 0) (n := 0) (Nat.le_of_ble_eq_true rfl) (Nat.le_of_ble_eq_true rfl) ?_
        refine lv_iconst (v := 1) hx hb dX1_readName_54 (by decide) ?_
        exact ret_i (v := 1) hx hb hr hlocks hS (hP.sub (ws' := [(h0, .inr (1, vL 18 Fh)), (h_manName, .inl (cJ, 12, .inr (.inl g19))), (h_runnerName, .inl (cJ, 6, .inr (.inl f_runnerName))), (p0, .inr (6, vL 12 F21)), (h_p0_bytes, .inl (cB, 940, .inl f_p0_bytes)), (h_p0_wordNames, .inl (cJ, 23, .inr (.inl f_p0_wordNames)))]) [1, 0, 2, 3, 4, 5] rfl) (hD.sub (ws' := [(h0, .inr (1, vL 18 Fh)), (h_manName, .inl (cJ, 12, .inr (.inl g19))), (h_runnerName, .inl (cJ, 6, .inr (.inl f_runnerName))), (p0, .inr (6, vL 12 F21)), (h_p0_bytes, .inl (cB, 940, .inl f_p0_bytes)), (h_p0_wordNames, .inl (cJ, 23, .inr (.inl f_p0_wordNames)))]) [1, 0, 2, 3, 4, 5] (by decide) rfl) dX1_readName_55 rfl (Nat.le_of_ble_eq_true rfl) (Nat.le_of_ble_eq_true rfl) ⟨F21, y22, y23, y24, y25, x_p0_faultKind, x_p0_faultPlace, y26, g19, (SAME.tr SAME.rf t27 (by decide)), t28, t29, t31, t32, (SAME.at t27 (by decide) e_p0_faultKind), (SAME.at t27 (by decide) e_p0_faultPlace), t33, t34, (show 0 ≤ (1 : Int32).toInt ∧ (1 : Int32).toInt ≤ 1 by decide), rfl⟩
      · have dc17 : r15.toInt ≠ (-1) := ne_i (a := r15.toInt) (b := (-1)) rfl rfl c17
        have k35 : 0 ≤ r15.toInt ∧ r15.toInt ≤ 5 := ⟨ne_lo dc17 t16.1 ⟨Int.le_refl _, Int.le_refl _⟩ (by decide), t16.2⟩
        refine lv_aload_n hx hb dX1_readName_37 rfl (lv_at hl 1 rfl) ?_
        refine lv_iconst (v := 3) hx hb dX1_readName_38 (by decide) ?_
        refine call_Vi (wr := [(h_p0_bytes, .inl (cB, 940, .inl f_p0_bytes)), (h_p0_wordNames, .inl (cJ, 23, .inr (.inl f_p0_wordNames))), (h_manName, .inl (cJ, 12, .inr (.inl f_manName))), (h0, .inr (1, vL 18 Fh)), (h_runnerName, .inl (cJ, 6, .inr (.inl f_runnerName)))]) (As := [.int 3]) (rest := []) hx hb hml hown hw (m_X6_fail l D cI cJ cB cP cM cZ p0 F_p0_ x_p0_place 3 _ e_p0_place) wV_X1_128_X6_fail dX1_readName_39 hK hP hD hS hA [2] [0, 1, 3, 4, 5] rfl rfl (by decide) (by decide) (by decide) 0 6 rfl rfl GG.fb hG.at hl.1 rfl (Nat.le_of_ble_eq_true rfl) ⟨(Nat.le_of_ble_eq_true rfl), (Nat.le_of_ble_eq_true rfl)⟩ ⟨(Nat.le_of_ble_eq_true rfl), (Nat.le_of_ble_eq_true rfl)⟩ (fun r36 u H locs hp hP hD hS => ?_)
        obtain ⟨F37, t38, t39, t40, rfl, rfl⟩ := hp
        have hP : va_P D vwCl [(h_p0_bytes, .inl (cB, 940, .inl f_p0_bytes)), (h_p0_wordNames, .inl (cJ, 23, .inr (.inl f_p0_wordNames))), (h_manName, .inl (cJ, 12, .inr (.inl f_manName))), (h0, .inr (1, vL 18 Fh)), (h_runnerName, .inl (cJ, 6, .inr (.inl f_runnerName))), (p0, .inr (6, vL 12 F37))] H := hP
        have hD : va_D A [(h_p0_bytes, .inl (cB, 940, .inl f_p0_bytes)), (h_p0_wordNames, .inl (cJ, 23, .inr (.inl f_p0_wordNames))), (h_manName, .inl (cJ, 12, .inr (.inl f_manName))), (h0, .inr (1, vL 18 Fh)), (h_runnerName, .inl (cJ, 6, .inr (.inl f_runnerName))), (p0, .inr (6, vL 12 F37))] := hD
        refine W.widen (k := 0) (n := 0) (Nat.le_of_ble_eq_true rfl) (Nat.le_of_ble_eq_true rfl) ?_
        exact ret_i (v := 0) hx hb hr hlocks hS (hP.sub (ws' := [(h0, .inr (1, vL 18 Fh)), (h_manName, .inl (cJ, 12, .inr (.inl f_manName))), (h_runnerName, .inl (cJ, 6, .inr (.inl f_runnerName))), (p0, .inr (6, vL 12 F37)), (h_p0_bytes, .inl (cB, 940, .inl f_p0_bytes)), (h_p0_wordNames, .inl (cJ, 23, .inr (.inl f_p0_wordNames)))]) [3, 2, 4, 5, 0, 1] rfl) (hD.sub (ws' := [(h0, .inr (1, vL 18 Fh)), (h_manName, .inl (cJ, 12, .inr (.inl f_manName))), (h_runnerName, .inl (cJ, 6, .inr (.inl f_runnerName))), (p0, .inr (6, vL 12 F37)), (h_p0_bytes, .inl (cB, 940, .inl f_p0_bytes)), (h_p0_wordNames, .inl (cJ, 23, .inr (.inl f_p0_wordNames)))]) [3, 2, 4, 5, 0, 1] (by decide) rfl) dX1_readName_42 rfl (Nat.le_of_ble_eq_true rfl) (Nat.le_of_ble_eq_true rfl) ⟨F37, x_p0_kind, x_p0_place, x_p0_value, x_p0_name, 3, x_p0_place, x_p0_at, f_manName, (SAME.tr SAME.rf t38 (by decide)), (SAME.at t38 (by decide) e_p0_kind), (SAME.at t38 (by decide) e_p0_place), (SAME.at t38 (by decide) e_p0_value), (SAME.at t38 (by decide) e_p0_name), t39, t40, (SAME.at t38 (by decide) e_p0_at), i_x_p0_at, (show 0 ≤ (0 : Int32).toInt ∧ (0 : Int32).toInt ≤ 1 by decide), rfl⟩
  · have dc3 : r1.toInt = 0 := eq_i (a := r1.toInt) (b := 0) rfl rfl c3
    have k41 : 0 ≤ r1.toInt ∧ r1.toInt ≤ 0 := ⟨t2.1, Int.le_trans (Int.le_of_eq dc3) (Int.le_refl _)⟩
    refine lv_aload_n hx hb dX1_readName_7 rfl (lv_at hl 1 rfl) ?_
    refine lv_iconst (v := 1) hx hb dX1_readName_8 (by decide) ?_
    refine call_Vi (wr := [(h0, .inr (1, vL 18 Fh)), (h_manName, .inl (cJ, 12, .inr (.inl f_manName))), (h_runnerName, .inl (cJ, 6, .inr (.inl f_runnerName))), (h_p0_bytes, .inl (cB, 940, .inl f_p0_bytes)), (h_p0_wordNames, .inl (cJ, 23, .inr (.inl f_p0_wordNames)))]) (As := [.int 1]) (rest := []) hx hb hml hown hw (m_X6_fail l D cI cJ cB cP cM cZ p0 F_p0_ x_p0_place 1 _ e_p0_place) wV_X1_128_X6_fail dX1_readName_9 hK hP hD hS hA [5] [0, 1, 2, 3, 4] rfl rfl (by decide) (by decide) (by decide) 0 6 rfl rfl GG.fb hG.at hl.1 rfl (Nat.le_of_ble_eq_true rfl) ⟨(Nat.le_of_ble_eq_true rfl), (Nat.le_of_ble_eq_true rfl)⟩ ⟨(Nat.le_of_ble_eq_true rfl), (Nat.le_of_ble_eq_true rfl)⟩ (fun r42 u H locs hp hP hD hS => ?_)
    obtain ⟨F43, t44, t45, t46, rfl, rfl⟩ := hp
    have hP : va_P D vwCl [(h0, .inr (1, vL 18 Fh)), (h_manName, .inl (cJ, 12, .inr (.inl f_manName))), (h_runnerName, .inl (cJ, 6, .inr (.inl f_runnerName))), (h_p0_bytes, .inl (cB, 940, .inl f_p0_bytes)), (h_p0_wordNames, .inl (cJ, 23, .inr (.inl f_p0_wordNames))), (p0, .inr (6, vL 12 F43))] H := hP
    have hD : va_D A [(h0, .inr (1, vL 18 Fh)), (h_manName, .inl (cJ, 12, .inr (.inl f_manName))), (h_runnerName, .inl (cJ, 6, .inr (.inl f_runnerName))), (h_p0_bytes, .inl (cB, 940, .inl f_p0_bytes)), (h_p0_wordNames, .inl (cJ, 23, .inr (.inl f_p0_wordNames))), (p0, .inr (6, vL 12 F43))] := hD
    refine W.widen (k := 0) (n := 0) (Nat.le_of_ble_eq_true rfl) (Nat.le_of_ble_eq_true rfl) ?_
    exact ret_i (v := 0) hx hb hr hlocks hS (hP.sub (ws' := [(h0, .inr (1, vL 18 Fh)), (h_manName, .inl (cJ, 12, .inr (.inl f_manName))), (h_runnerName, .inl (cJ, 6, .inr (.inl f_runnerName))), (p0, .inr (6, vL 12 F43)), (h_p0_bytes, .inl (cB, 940, .inl f_p0_bytes)), (h_p0_wordNames, .inl (cJ, 23, .inr (.inl f_p0_wordNames)))]) [0, 1, 2, 5, 3, 4] rfl) (hD.sub (ws' := [(h0, .inr (1, vL 18 Fh)), (h_manName, .inl (cJ, 12, .inr (.inl f_manName))), (h_runnerName, .inl (cJ, 6, .inr (.inl f_runnerName))), (p0, .inr (6, vL 12 F43)), (h_p0_bytes, .inl (cB, 940, .inl f_p0_bytes)), (h_p0_wordNames, .inl (cJ, 23, .inr (.inl f_p0_wordNames)))]) [0, 1, 2, 5, 3, 4] (by decide) rfl) dX1_readName_12 rfl (Nat.le_of_ble_eq_true rfl) (Nat.le_of_ble_eq_true rfl) ⟨F43, x_p0_kind, x_p0_place, x_p0_value, x_p0_name, 1, x_p0_place, x_p0_at, f_manName, (SAME.tr SAME.rf t44 (by decide)), (SAME.at t44 (by decide) e_p0_kind), (SAME.at t44 (by decide) e_p0_place), (SAME.at t44 (by decide) e_p0_value), (SAME.at t44 (by decide) e_p0_name), t45, t46, (SAME.at t44 (by decide) e_p0_at), i_x_p0_at, (show 0 ≤ (0 : Int32).toInt ∧ (0 : Int32).toInt ≤ 1 by decide), rfl⟩
set_option maxHeartbeats 4000000 in
set_option maxRecDepth 100000 in
theorem m_X6_takeInto_12 (l : Launch) (D : va_G) (cI cJ cB cP cM cZ : ClassId) (h0 : Nat) (h_bytes : Nat) (h_wordNames : Nat) (p0 : Nat) (Fh : Nat → Value) (x_length : Int32) (x_kind : Int32) (x_place : Int32) (x_value : Int32) (x_name : Int64) (x_at : Int32) (x_mostBytes : Int32) (f_bytes : Nat → Int32) (f_wordNames : Nat → Int64) (f_p0 : Nat → Int32) (p1 : Int32) (p2 : Int32) (p3 : Int32) (sz : Nat) (e_bytes : Fh 0 = .ref h_bytes) (e_length : Fh 1 = .int x_length) (i_x_length : IR 0 940 x_length) (e_kind : Fh 2 = .int x_kind) (e_place : Fh 3 = .int x_place) (e_value : Fh 4 = .int x_value) (e_name : Fh 5 = .long x_name) (e_wordNames : Fh 9 = .ref h_wordNames) (e_at : Fh 10 = .int x_at) (i_x_at : IR 0 940 x_at) (e_mostBytes : Fh 11 = .int x_mostBytes) : CI l yX6_takeInto cX6_takeInto 5 (some .boolean) { frames := 2, cells := 0, slots := 0, locals := 43 } (GG D cI cJ cB cP cM cZ) D [(h0, .inr (6, vL 12 Fh)), (h_bytes, .inl (cB, 940, .inl f_bytes)), (h_wordNames, .inl (cJ, 23, .inr (.inl f_wordNames))), (p0, .inl (cI, 12, .inl f_p0))] sz [.ref h0, .ref p0, .int p1, .int p2, .int p3] (fun (r : Int32) (u : va_W) => (∃ (Gh : Nat → Value) (y_faultKind : Int32), SAME [7, 8] Fh Gh ∧ Gh 7 = .int y_faultKind ∧ IR 1 4 y_faultKind ∧ Gh 8 = .int x_place ∧ r = 0 ∧ u = [(h0, .inr (6, vL 12 Gh)), (h_bytes, .inl (cB, 940, .inl f_bytes)), (h_wordNames, .inl (cJ, 23, .inr (.inl f_wordNames))), (p0, .inl (cI, 12, .inl f_p0))]) ∨ (∃ (Gh : Nat → Value) (y_kind : Int32) (y_place : Int32) (y_value : Int32) (y_name : Int64) (y_at : Int32) (g_p0 : Nat → Int32), SAME [2, 3, 4, 5, 10] Fh Gh ∧ Gh 2 = .int y_kind ∧ Gh 3 = .int y_place ∧ IR (-2147483648) 940 y_place ∧ Gh 4 = .int y_value ∧ Gh 5 = .long y_name ∧ Gh 10 = .int y_at ∧ IR 0 940 y_at ∧ 0 ≤ p1.toInt ∧ p1.toInt < 12 ∧ x_kind.toInt = 3 ∧ p2.toInt ≤ x_value.toInt ∧ x_value.toInt ≤ p3.toInt ∧ (upd f_p0 p1.toNatClampNeg x_value = g_p0) ∧ r = 1 ∧ u = [(h0, .inr (6, vL 12 Gh)), (h_bytes, .inl (cB, 940, .inl f_bytes)), (h_wordNames, .inl (cJ, 23, .inr (.inl f_wordNames))), (p0, .inl (cI, 12, .inl g_p0))])) := by
  refine CI_mk (by decide) (Nat.le_of_ble_eq_true rfl) ?_
  intro p e s m below meth c A ls E hAe hG hsz hP hD hA hS hl
  obtain ⟨hx, hb, hr, hw, hown, hlocks, hml, hnm⟩ := E
  have hK := hG.1
  have i_x_length : 0 ≤ x_length.toInt ∧ x_length.toInt ≤ 940 := i_x_length
  have i_x_at : 0 ≤ x_at.toInt ∧ x_at.toInt ≤ 940 := i_x_at
  have hl : lv_has ls 5 [(0, .ref h0), (1, .ref p0), (2, .int p1), (3, .int p2), (4, .int p3)] := hl
  refine lv_iload_n hx hb dX6_takeInto_0 rfl (lv_at hl 2 rfl) ?_
  refine lv_if_lt (tgt := 10) hx hb dX6_takeInto_1 (by decide) (fun c1 => ?_) (fun c1 => ?_)
  · have dc1 : p1.toInt < 0 := lt_i (a := p1.toInt) (b := 0) rfl rfl c1
    have k2 : (-2147483648) ≤ p1.toInt ∧ p1.toInt ≤ (-1) := ⟨(ir_any _).1, up_lt dc1 (Int.le_refl _) (by decide)⟩
    refine lv_aload_n hx hb dX6_takeInto_10 rfl (lv_at hl 0 rfl) ?_
    refine lv_iconst (v := 4) hx hb dX6_takeInto_11 (by decide) ?_
    refine call_Vi (wr := [(h_bytes, .inl (cB, 940, .inl f_bytes)), (h_wordNames, .inl (cJ, 23, .inr (.inl f_wordNames))), (p0, .inl (cI, 12, .inl f_p0))]) (As := [.int 4]) (rest := []) hx hb hml hown hw (m_X6_fail l D cI cJ cB cP cM cZ h0 Fh x_place 4 _ e_place) wV_X6_80_X6_fail dX6_takeInto_12 hK hP hD hS hA [0] [1, 2, 3] rfl rfl (by decide) (by decide) (by decide) 0 6 rfl rfl GG.fb hG.at hl.1 rfl (Nat.le_of_ble_eq_true rfl) ⟨(Nat.le_of_ble_eq_true rfl), (Nat.le_of_ble_eq_true rfl)⟩ ⟨(Nat.le_of_ble_eq_true rfl), (Nat.le_of_ble_eq_true rfl)⟩ (fun r3 u H locs hp hP hD hS => ?_)
    obtain ⟨F4, t5, t6, t7, rfl, rfl⟩ := hp
    have hP : va_P D vwCl [(h_bytes, .inl (cB, 940, .inl f_bytes)), (h_wordNames, .inl (cJ, 23, .inr (.inl f_wordNames))), (p0, .inl (cI, 12, .inl f_p0)), (h0, .inr (6, vL 12 F4))] H := hP
    have hD : va_D A [(h_bytes, .inl (cB, 940, .inl f_bytes)), (h_wordNames, .inl (cJ, 23, .inr (.inl f_wordNames))), (p0, .inl (cI, 12, .inl f_p0)), (h0, .inr (6, vL 12 F4))] := hD
    refine W.widen (k := 0) (n := 0) (Nat.le_of_ble_eq_true rfl) (Nat.le_of_ble_eq_true rfl) ?_
    exact ret_i (v := 0) hx hb hr hlocks hS (hP.sub (ws' := [(h0, .inr (6, vL 12 F4)), (h_bytes, .inl (cB, 940, .inl f_bytes)), (h_wordNames, .inl (cJ, 23, .inr (.inl f_wordNames))), (p0, .inl (cI, 12, .inl f_p0))]) [3, 0, 1, 2] rfl) (hD.sub (ws' := [(h0, .inr (6, vL 12 F4)), (h_bytes, .inl (cB, 940, .inl f_bytes)), (h_wordNames, .inl (cJ, 23, .inr (.inl f_wordNames))), (p0, .inl (cI, 12, .inl f_p0))]) [3, 0, 1, 2] (by decide) rfl) dX6_takeInto_15 rfl (Nat.le_of_ble_eq_true rfl) (Nat.le_of_ble_eq_true rfl) (Or.inl ⟨F4, 4, (SAME.tr SAME.rf t5 (by decide)), t6, (show 1 ≤ (4 : Int32).toInt ∧ (4 : Int32).toInt ≤ 4 by decide), t7, rfl, rfl⟩)
  · have dc1 : 0 ≤ p1.toInt := nlt_i (a := p1.toInt) (b := 0) rfl rfl c1
    have k8 : 0 ≤ p1.toInt ∧ p1.toInt ≤ 2147483647 := ⟨Int.le_trans (Int.le_refl _) dc1, (ir_any _).2⟩
    refine lv_iload_n hx hb dX6_takeInto_4 rfl (lv_at hl 2 rfl) ?_
    refine lv_aload_n hx hb dX6_takeInto_5 rfl (lv_at hl 1 rfl) ?_
    refine va_alen (v := 12) hx hb hK hP 3 0 rfl rfl rfl dX6_takeInto_6 ?_
    refine lv_icmp_lt (tgt := 16) hx hb dX6_takeInto_7 (by decide) (fun c9 => ?_) (fun c9 => ?_)
    · have dc9 : p1.toInt < 12 := lt_i (a := p1.toInt) (b := 12) rfl rfl c9
      have k10 : 0 ≤ p1.toInt ∧ p1.toInt ≤ 11 := ⟨k8.1, up_lt dc9 (Int.le_refl _) (by decide)⟩
      refine lv_aload_n hx hb dX6_takeInto_16 rfl (lv_at hl 0 rfl) ?_
      refine lv_iload_n hx hb dX6_takeInto_17 rfl (lv_at hl 3 rfl) ?_
      refine lv_iload hx hb dX6_takeInto_18 (lv_at hl 4 rfl) ?_
      refine call_Vi (wr := [(h_bytes, .inl (cB, 940, .inl f_bytes)), (h_wordNames, .inl (cJ, 23, .inr (.inl f_wordNames))), (p0, .inl (cI, 12, .inl f_p0))]) (As := [.int p2, .int p3]) (rest := []) hx hb hml hown hw (m_X6_isNumberWithin l D cI cJ cB cP cM cZ h0 Fh x_kind x_place x_value p2 p3 _ e_kind e_place e_value) wV_X6_83_X6_isNumberWithin dX6_takeInto_20 hK hP hD hS hA [0] [1, 2, 3] rfl rfl (by decide) (by decide) (by decide) 0 6 rfl rfl GG.fb hG.at hl.1 rfl (Nat.le_of_ble_eq_true rfl) ⟨(Nat.le_of_ble_eq_true rfl), (Nat.le_of_ble_eq_true rfl)⟩ ⟨(Nat.le_of_ble_eq_true rfl), (Nat.le_of_ble_eq_true rfl)⟩ (fun r11 u H locs hp hP hD hS => ?_)
      rcases hp with ⟨F12, y13, t14, t15, t16, t17, rfl, rfl⟩ | ⟨t18, t19, t20, rfl, rfl⟩
      · have hP : va_P D vwCl [(h_bytes, .inl (cB, 940, .inl f_bytes)), (h_wordNames, .inl (cJ, 23, .inr (.inl f_wordNames))), (p0, .inl (cI, 12, .inl f_p0)), (h0, .inr (6, vL 12 F12))] H := hP
        have hD : va_D A [(h_bytes, .inl (cB, 940, .inl f_bytes)), (h_wordNames, .inl (cJ, 23, .inr (.inl f_wordNames))), (p0, .inl (cI, 12, .inl f_p0)), (h0, .inr (6, vL 12 F12))] := hD
        refine W.widen (k := 0) (n := 0) (Nat.le_of_ble_eq_true rfl) (Nat.le_of_ble_eq_true rfl) ?_
        refine lv_if_ne (tgt := 28) hx hb dX6_takeInto_23 (by decide) (fun g => absurd (by decide) g) (fun _ => ?_)
        refine lv_iconst (v := 0) hx hb dX6_takeInto_26 (by decide) ?_
        exact ret_i (v := 0) hx hb hr hlocks hS (hP.sub (ws' := [(h0, .inr (6, vL 12 F12)), (h_bytes, .inl (cB, 940, .inl f_bytes)), (h_wordNames, .inl (cJ, 23, .inr (.inl f_wordNames))), (p0, .inl (cI, 12, .inl f_p0))]) [3, 0, 1, 2] rfl) (hD.sub (ws' := [(h0, .inr (6, vL 12 F12)), (h_bytes, .inl (cB, 940, .inl f_bytes)), (h_wordNames, .inl (cJ, 23, .inr (.inl f_wordNames))), (p0, .inl (cI, 12, .inl f_p0))]) [3, 0, 1, 2] (by decide) rfl) dX6_takeInto_27 rfl (Nat.le_of_ble_eq_true rfl) (Nat.le_of_ble_eq_true rfl) (Or.inl ⟨F12, y13, (SAME.tr SAME.rf t14 (by decide)), t15, (ir_wk t16 (by decide) (by decide)), t17, rfl, rfl⟩)
      · have hP : va_P D vwCl [(h_bytes, .inl (cB, 940, .inl f_bytes)), (h_wordNames, .inl (cJ, 23, .inr (.inl f_wordNames))), (p0, .inl (cI, 12, .inl f_p0)), (h0, .inr (6, vL 12 Fh))] H := hP
        have hD : va_D A [(h_bytes, .inl (cB, 940, .inl f_bytes)), (h_wordNames, .inl (cJ, 23, .inr (.inl f_wordNames))), (p0, .inl (cI, 12, .inl f_p0)), (h0, .inr (6, vL 12 Fh))] := hD
        refine W.widen (k := 0) (n := 0) (Nat.le_of_ble_eq_true rfl) (Nat.le_of_ble_eq_true rfl) ?_
        have k21 : 3 ≤ x_kind.toInt ∧ x_kind.toInt ≤ 3 := ⟨Int.le_trans (Int.le_refl _) (Int.le_of_eq t18.symm), Int.le_trans (Int.le_of_eq t18) (Int.le_refl _)⟩
        refine lv_if_ne (tgt := 28) hx hb dX6_takeInto_23 (by decide) (fun _ => ?_) (fun g => absurd g (by decide))
        refine lv_aload_n hx hb dX6_takeInto_28 rfl (lv_at hl 1 rfl) ?_
        refine lv_iload_n hx hb dX6_takeInto_29 rfl (lv_at hl 2 rfl) ?_
        refine lv_aload_n hx hb dX6_takeInto_30 rfl (lv_at hl 0 rfl) ?_
        refine get_f (D := D) (ci := 6) (v := .int x_value) (C := RX6) (T := TX6) (N := 12) hx hb hw inAX6 hown hK hP 3 rfl rfl 4 (by decide) (hw _ q_97) (fun _ h9 => h9) e_value dX6_takeInto_31 ?_
        obtain ⟨g22, eg22⟩ : ∃ z : Nat → Int32, upd f_p0 p1.toNatClampNeg x_value = z := ⟨_, rfl⟩
        refine iast_g hx hb hK hP hD hS 2 0 rfl rfl (ix_k k10 (by decide) (by decide)) eg22 dX6_takeInto_34 (fun H locs hP hD hS => ?_)
        have hP : va_P D vwCl [(h_bytes, .inl (cB, 940, .inl f_bytes)), (h_wordNames, .inl (cJ, 23, .inr (.inl f_wordNames))), (p0, .inl (cI, 12, .inl g22)), (h0, .inr (6, vL 12 Fh))] H := hP
        have hD : va_D A [(h_bytes, .inl (cB, 940, .inl f_bytes)), (h_wordNames, .inl (cJ, 23, .inr (.inl f_wordNames))), (p0, .inl (cI, 12, .inl g22)), (h0, .inr (6, vL 12 Fh))] := hD
        refine lv_aload_n hx hb dX6_takeInto_35 rfl (lv_at hl 0 rfl) ?_
        refine call_Vv (wr := [(p0, .inl (cI, 12, .inl g22))]) (As := []) (rest := []) hx hb hml hown hw (m_X6_advance l D cI cJ cB cP cM cZ h0 h_bytes h_wordNames Fh x_length x_value x_name x_at x_mostBytes f_bytes f_wordNames _ e_bytes e_length i_x_length e_value e_name e_wordNames e_at i_x_at e_mostBytes) wV_X6_66_X6_advance dX6_takeInto_36 hK hP hD hS hA [3, 0, 1] [2] rfl rfl (by decide) (by decide) (by decide) 0 6 rfl rfl GG.fb hG.at hl.1 rfl (Nat.le_of_ble_eq_true rfl) ⟨(Nat.le_of_ble_eq_true rfl), (Nat.le_of_ble_eq_true rfl)⟩ ⟨(Nat.le_of_ble_eq_true rfl), (Nat.le_of_ble_eq_true rfl)⟩ (fun u H locs hp hP hD hS => ?_)
        obtain ⟨F24, y25, y26, y27, y28, y29, t30, t31, t32, t33, t34, t35, t36, t37, rfl⟩ := hp
        have hP : va_P D vwCl [(p0, .inl (cI, 12, .inl g22)), (h0, .inr (6, vL 12 F24)), (h_bytes, .inl (cB, 940, .inl f_bytes)), (h_wordNames, .inl (cJ, 23, .inr (.inl f_wordNames)))] H := hP
        have hD : va_D A [(p0, .inl (cI, 12, .inl g22)), (h0, .inr (6, vL 12 F24)), (h_bytes, .inl (cB, 940, .inl f_bytes)), (h_wordNames, .inl (cJ, 23, .inr (.inl f_wordNames)))] := hD
        refine W.widen (k := 0) (n := 0) (Nat.le_of_ble_eq_true rfl) (Nat.le_of_ble_eq_true rfl) ?_
        refine lv_iconst (v := 1) hx hb dX6_takeInto_39 (by decide) ?_
        exact ret_i (v := 1) hx hb hr hlocks hS (hP.sub (ws' := [(h0, .inr (6, vL 12 F24)), (h_bytes, .inl (cB, 940, .inl f_bytes)), (h_wordNames, .inl (cJ, 23, .inr (.inl f_wordNames))), (p0, .inl (cI, 12, .inl g22))]) [1, 2, 3, 0] rfl) (hD.sub (ws' := [(h0, .inr (6, vL 12 F24)), (h_bytes, .inl (cB, 940, .inl f_bytes)), (h_wordNames, .inl (cJ, 23, .inr (.inl f_wordNames))), (p0, .inl (cI, 12, .inl g22))]) [1, 2, 3, 0] (by decide) rfl) dX6_takeInto_40 rfl (Nat.le_of_ble_eq_true rfl) (Nat.le_of_ble_eq_true rfl) (Or.inr ⟨F24, y25, y26, y27, y28, y29, g22, (SAME.tr SAME.rf t30 (by decide)), t31, t32, t33, t34, t35, t36, t37, dc1, dc9, t18, t19, t20, eg22, rfl, rfl⟩)
    · have dc9 : 12 ≤ p1.toInt := nlt_i (a := p1.toInt) (b := 12) rfl rfl c9
      have k38 : 12 ≤ p1.toInt ∧ p1.toInt ≤ 2147483647 := ⟨Int.le_trans (Int.le_refl _) dc9, k8.2⟩
      refine lv_aload_n hx hb dX6_takeInto_10 rfl (lv_at hl 0 rfl) ?_
      refine lv_iconst (v := 4) hx hb dX6_takeInto_11 (by decide) ?_
      refine call_Vi (wr := [(h_bytes, .inl (cB, 940, .inl f_bytes)), (h_wordNames, .inl (cJ, 23, .inr (.inl f_wordNames))), (p0, .inl (cI, 12, .inl f_p0))]) (As := [.int 4]) (rest := []) hx hb hml hown hw (m_X6_fail l D cI cJ cB cP cM cZ h0 Fh x_place 4 _ e_place) wV_X6_80_X6_fail dX6_takeInto_12 hK hP hD hS hA [0] [1, 2, 3] rfl rfl (by decide) (by decide) (by decide) 0 6 rfl rfl GG.fb hG.at hl.1 rfl (Nat.le_of_ble_eq_true rfl) ⟨(Nat.le_of_ble_eq_true rfl), (Nat.le_of_ble_eq_true rfl)⟩ ⟨(Nat.le_of_ble_eq_true rfl), (Nat.le_of_ble_eq_true rfl)⟩ (fun r39 u H locs hp hP hD hS => ?_)
      obtain ⟨F40, t41, t42, t43, rfl, rfl⟩ := hp
      have hP : va_P D vwCl [(h_bytes, .inl (cB, 940, .inl f_bytes)), (h_wordNames, .inl (cJ, 23, .inr (.inl f_wordNames))), (p0, .inl (cI, 12, .inl f_p0)), (h0, .inr (6, vL 12 F40))] H := hP
      have hD : va_D A [(h_bytes, .inl (cB, 940, .inl f_bytes)), (h_wordNames, .inl (cJ, 23, .inr (.inl f_wordNames))), (p0, .inl (cI, 12, .inl f_p0)), (h0, .inr (6, vL 12 F40))] := hD
      refine W.widen (k := 0) (n := 0) (Nat.le_of_ble_eq_true rfl) (Nat.le_of_ble_eq_true rfl) ?_
      exact ret_i (v := 0) hx hb hr hlocks hS (hP.sub (ws' := [(h0, .inr (6, vL 12 F40)), (h_bytes, .inl (cB, 940, .inl f_bytes)), (h_wordNames, .inl (cJ, 23, .inr (.inl f_wordNames))), (p0, .inl (cI, 12, .inl f_p0))]) [3, 0, 1, 2] rfl) (hD.sub (ws' := [(h0, .inr (6, vL 12 F40)), (h_bytes, .inl (cB, 940, .inl f_bytes)), (h_wordNames, .inl (cJ, 23, .inr (.inl f_wordNames))), (p0, .inl (cI, 12, .inl f_p0))]) [3, 0, 1, 2] (by decide) rfl) dX6_takeInto_15 rfl (Nat.le_of_ble_eq_true rfl) (Nat.le_of_ble_eq_true rfl) (Or.inl ⟨F40, 4, (SAME.tr SAME.rf t41 (by decide)), t42, (show 1 ≤ (4 : Int32).toInt ∧ (4 : Int32).toInt ≤ 4 by decide), t43, rfl, rfl⟩)
set_option maxHeartbeats 4000000 in
set_option maxRecDepth 100000 in
theorem m_X1_readMan (l : Launch) (D : va_G) (cI cJ cB cP cM cZ : ClassId) (h0 : Nat) (h_manName : Nat) (h_push : Nat) (h_feet : Nat) (h_weight : Nat) (h_runnerName : Nat) (p0 : Nat) (h_p0_bytes : Nat) (h_p0_wordNames : Nat) (Fh : Nat → Value) (x_men : Int32) (x_runners : Int32) (f_manName : Nat → Int64) (f_push : Nat → Int32) (f_feet : Nat → Int32) (f_weight : Nat → Int32) (f_runnerName : Nat → Int64) (F_p0_ : Nat → Value) (x_p0_length : Int32) (x_p0_kind : Int32) (x_p0_place : Int32) (x_p0_value : Int32) (x_p0_name : Int64) (x_p0_faultKind : Int32) (x_p0_faultPlace : Int32) (x_p0_at : Int32) (x_p0_mostBytes : Int32) (f_p0_bytes : Nat → Int32) (f_p0_wordNames : Nat → Int64) (sz : Nat) (e_manName : Fh 2 = .ref h_manName) (e_push : Fh 3 = .ref h_push) (e_feet : Fh 4 = .ref h_feet) (e_weight : Fh 5 = .ref h_weight) (e_runnerName : Fh 10 = .ref h_runnerName) (e_men : Fh 13 = .int x_men) (i_x_men : IR 0 12 x_men) (e_runners : Fh 15 = .int x_runners) (i_x_runners : IR 0 6 x_runners) (e_p0_bytes : F_p0_ 0 = .ref h_p0_bytes) (e_p0_length : F_p0_ 1 = .int x_p0_length) (i_x_p0_length : IR 0 940 x_p0_length) (e_p0_kind : F_p0_ 2 = .int x_p0_kind) (e_p0_place : F_p0_ 3 = .int x_p0_place) (e_p0_value : F_p0_ 4 = .int x_p0_value) (e_p0_name : F_p0_ 5 = .long x_p0_name) (e_p0_faultKind : F_p0_ 7 = .int x_p0_faultKind) (e_p0_faultPlace : F_p0_ 8 = .int x_p0_faultPlace) (e_p0_wordNames : F_p0_ 9 = .ref h_p0_wordNames) (e_p0_at : F_p0_ 10 = .int x_p0_at) (i_x_p0_at : IR 0 940 x_p0_at) (e_p0_mostBytes : F_p0_ 11 = .int x_p0_mostBytes) : CI l yX1_readMan cX1_readMan 3 (some .boolean) { frames := 3, cells := 0, slots := 0, locals := 69 } (GG D cI cJ cB cP cM cZ) D [(h0, .inr (1, vL 18 Fh)), (h_manName, .inl (cJ, 12, .inr (.inl f_manName))), (h_push, .inl (cI, 12, .inl f_push)), (h_feet, .inl (cI, 12, .inl f_feet)), (h_weight, .inl (cI, 12, .inl f_weight)), (h_runnerName, .inl (cJ, 6, .inr (.inl f_runnerName))), (p0, .inr (6, vL 12 F_p0_)), (h_p0_bytes, .inl (cB, 940, .inl f_p0_bytes)), (h_p0_wordNames, .inl (cJ, 23, .inr (.inl f_p0_wordNames)))] sz [.ref h0, .ref p0] (fun (r : Int32) (u : va_W) => ∃ (Gh : Nat → Value) (y_men : Int32) (G_p0_ : Nat → Value) (y_p0_kind : Int32) (y_p0_place : Int32) (y_p0_value : Int32) (y_p0_name : Int64) (y_p0_faultKind : Int32) (y_p0_faultPlace : Int32) (y_p0_at : Int32) (g_manName : Nat → Int64) (g_push : Nat → Int32) (g_feet : Nat → Int32) (g_weight : Nat → Int32), SAME [13] Fh Gh ∧ Gh 13 = .int y_men ∧ IR 0 12 y_men ∧ SAME [2, 3, 4, 5, 7, 8, 10] F_p0_ G_p0_ ∧ G_p0_ 2 = .int y_p0_kind ∧ G_p0_ 3 = .int y_p0_place ∧ G_p0_ 4 = .int y_p0_value ∧ G_p0_ 5 = .long y_p0_name ∧ G_p0_ 7 = .int y_p0_faultKind ∧ G_p0_ 8 = .int y_p0_faultPlace ∧ G_p0_ 10 = .int y_p0_at ∧ IR 0 940 y_p0_at ∧ IR 0 1 r ∧ u = [(h0, .inr (1, vL 18 Gh)), (h_manName, .inl (cJ, 12, .inr (.inl g_manName))), (h_push, .inl (cI, 12, .inl g_push)), (h_feet, .inl (cI, 12, .inl g_feet)), (h_weight, .inl (cI, 12, .inl g_weight)), (h_runnerName, .inl (cJ, 6, .inr (.inl f_runnerName))), (p0, .inr (6, vL 12 G_p0_)), (h_p0_bytes, .inl (cB, 940, .inl f_p0_bytes)), (h_p0_wordNames, .inl (cJ, 23, .inr (.inl f_p0_wordNames)))]) := by
  refine CI_mk (by decide) (Nat.le_of_ble_eq_true rfl) ?_
  intro p e s m below meth c A ls E hAe hG hsz hP hD hA hS hl
  obtain ⟨hx, hb, hr, hw, hown, hlocks, hml, hnm⟩ := E
  have hK := hG.1
  have i_x_men : 0 ≤ x_men.toInt ∧ x_men.toInt ≤ 12 := i_x_men
  have i_x_runners : 0 ≤ x_runners.toInt ∧ x_runners.toInt ≤ 6 := i_x_runners
  have i_x_p0_length : 0 ≤ x_p0_length.toInt ∧ x_p0_length.toInt ≤ 940 := i_x_p0_length
  have i_x_p0_at : 0 ≤ x_p0_at.toInt ∧ x_p0_at.toInt ≤ 940 := i_x_p0_at
  have hl : lv_has ls 3 [(0, .ref h0), (1, .ref p0)] := hl
  refine lv_aload_n hx hb dX1_readMan_0 rfl (lv_at hl 0 rfl) ?_
  refine get_f (D := D) (ci := 1) (v := .int x_men) (C := RX1) (T := TX1) (N := 18) hx hb hw inAX1 hown hK hP 0 rfl rfl 13 (by decide) (hw _ q_352) (fun _ h9 => h9) e_men dX1_readMan_1 ?_
  refine lv_bipush (v := 12) hx hb dX1_readMan_4 (by decide) ?_
  refine lv_icmp_lt (tgt := 15) hx hb dX1_readMan_6 (by decide) (fun c1 => ?_) (fun c1 => ?_)
  · have dc1 : x_men.toInt < 12 := lt_i (a := x_men.toInt) (b := 12) rfl rfl c1
    have k2 : 0 ≤ x_men.toInt ∧ x_men.toInt ≤ 11 := ⟨i_x_men.1, up_lt dc1 (Int.le_refl _) (by decide)⟩
    refine lv_aload_n hx hb dX1_readMan_15 rfl (lv_at hl 1 rfl) ?_
    refine call_Vv (wr := [(h0, .inr (1, vL 18 Fh)), (h_manName, .inl (cJ, 12, .inr (.inl f_manName))), (h_push, .inl (cI, 12, .inl f_push)), (h_feet, .inl (cI, 12, .inl f_feet)), (h_weight, .inl (cI, 12, .inl f_weight)), (h_runnerName, .inl (cJ, 6, .inr (.inl f_runnerName)))]) (As := []) (rest := []) hx hb hml hown hw (m_X6_advance l D cI cJ cB cP cM cZ p0 h_p0_bytes h_p0_wordNames F_p0_ x_p0_length x_p0_value x_p0_name x_p0_at x_p0_mostBytes f_p0_bytes f_p0_wordNames _ e_p0_bytes e_p0_length i_x_p0_length e_p0_value e_p0_name e_p0_wordNames e_p0_at i_x_p0_at e_p0_mostBytes) wV_X1_131_X6_advance dX1_readMan_16 hK hP hD hS hA [6, 7, 8] [0, 1, 2, 3, 4, 5] rfl rfl (by decide) (by decide) (by decide) 0 6 rfl rfl GG.fb hG.at hl.1 rfl (Nat.le_of_ble_eq_true rfl) ⟨(Nat.le_of_ble_eq_true rfl), (Nat.le_of_ble_eq_true rfl)⟩ ⟨(Nat.le_of_ble_eq_true rfl), (Nat.le_of_ble_eq_true rfl)⟩ (fun u H locs hp hP hD hS => ?_)
    obtain ⟨F4, y5, y6, y7, y8, y9, t10, t11, t12, t13, t14, t15, t16, t17, rfl⟩ := hp
    have hP : va_P D vwCl [(h0, .inr (1, vL 18 Fh)), (h_manName, .inl (cJ, 12, .inr (.inl f_manName))), (h_push, .inl (cI, 12, .inl f_push)), (h_feet, .inl (cI, 12, .inl f_feet)), (h_weight, .inl (cI, 12, .inl f_weight)), (h_runnerName, .inl (cJ, 6, .inr (.inl f_runnerName))), (p0, .inr (6, vL 12 F4)), (h_p0_bytes, .inl (cB, 940, .inl f_p0_bytes)), (h_p0_wordNames, .inl (cJ, 23, .inr (.inl f_p0_wordNames)))] H := hP
    have hD : va_D A [(h0, .inr (1, vL 18 Fh)), (h_manName, .inl (cJ, 12, .inr (.inl f_manName))), (h_push, .inl (cI, 12, .inl f_push)), (h_feet, .inl (cI, 12, .inl f_feet)), (h_weight, .inl (cI, 12, .inl f_weight)), (h_runnerName, .inl (cJ, 6, .inr (.inl f_runnerName))), (p0, .inr (6, vL 12 F4)), (h_p0_bytes, .inl (cB, 940, .inl f_p0_bytes)), (h_p0_wordNames, .inl (cJ, 23, .inr (.inl f_p0_wordNames)))] := hD
    refine W.widen (k := 0) (n := 0) (Nat.le_of_ble_eq_true rfl) (Nat.le_of_ble_eq_true rfl) ?_
    refine lv_aload_n hx hb dX1_readMan_19 rfl (lv_at hl 0 rfl) ?_
    refine lv_aload_n hx hb dX1_readMan_20 rfl (lv_at hl 1 rfl) ?_
    refine lv_aload_n hx hb dX1_readMan_21 rfl (lv_at hl 0 rfl) ?_
    refine get_f (D := D) (ci := 1) (v := .ref h_manName) (C := RX1) (T := TX1) (N := 18) hx hb hw inAX1 hown hK hP 0 rfl rfl 2 (by decide) (hw _ q_320) (fun _ h9 => h9) e_manName dX1_readMan_22 ?_
    refine lv_aload_n hx hb dX1_readMan_25 rfl (lv_at hl 0 rfl) ?_
    refine get_f (D := D) (ci := 1) (v := .int x_men) (C := RX1) (T := TX1) (N := 18) hx hb hw inAX1 hown hK hP 0 rfl rfl 13 (by decide) (hw _ q_352) (fun _ h9 => h9) e_men dX1_readMan_26 ?_
    have n18 : F4 0 = .ref h_p0_bytes := (SAME.at t10 (by decide) e_p0_bytes)
    have n19 : F4 1 = .int x_p0_length := (SAME.at t10 (by decide) e_p0_length)
    have n20 : F4 7 = .int x_p0_faultKind := (SAME.at t10 (by decide) e_p0_faultKind)
    have n21 : F4 8 = .int x_p0_faultPlace := (SAME.at t10 (by decide) e_p0_faultPlace)
    have n22 : F4 9 = .ref h_p0_wordNames := (SAME.at t10 (by decide) e_p0_wordNames)
    have n23 : F4 11 = .int x_p0_mostBytes := (SAME.at t10 (by decide) e_p0_mostBytes)
    refine call_Vi (wr := [(h_push, .inl (cI, 12, .inl f_push)), (h_feet, .inl (cI, 12, .inl f_feet)), (h_weight, .inl (cI, 12, .inl f_weight))]) (As := [.ref p0, .ref h_manName, .int x_men]) (rest := []) hx hb hml hown hw (m_X1_readName_manName l D cI cJ cB cP cM cZ h0 h_manName h_runnerName p0 h_p0_bytes h_p0_wordNames Fh x_men x_runners f_manName f_runnerName F4 x_p0_length y5 y6 y7 y8 x_p0_faultKind x_p0_faultPlace y9 x_p0_mostBytes f_p0_bytes f_p0_wordNames x_men _ e_manName e_runnerName e_men (ir_wk k2 (by decide) (by decide)) e_runners i_x_runners n18 n19 i_x_p0_length t11 t12 t14 t15 n20 n21 n22 t16 t17 n23 k2) wV_X1_144_X1_readName dX1_readMan_29 hK hP hD hS hA [0, 1, 5, 6, 7, 8] [2, 3, 4] rfl rfl (by decide) (by decide) (by decide) 0 1 rfl rfl GG.fb hG.at hl.1 rfl (Nat.le_of_ble_eq_true rfl) ⟨(Nat.le_of_ble_eq_true rfl), (Nat.le_of_ble_eq_true rfl)⟩ ⟨(Nat.le_of_ble_eq_true rfl), (Nat.le_of_ble_eq_true rfl)⟩ (fun r24 u H locs hp hP hD hS => ?_)
    obtain ⟨F25, y26, y27, y28, y29, y30, y31, y32, g33, t34, t35, t36, t37, t38, t39, t40, t41, t42, t43, rfl⟩ := hp
    have hP : va_P D vwCl [(h_push, .inl (cI, 12, .inl f_push)), (h_feet, .inl (cI, 12, .inl f_feet)), (h_weight, .inl (cI, 12, .inl f_weight)), (h0, .inr (1, vL 18 Fh)), (h_manName, .inl (cJ, 12, .inr (.inl g33))), (h_runnerName, .inl (cJ, 6, .inr (.inl f_runnerName))), (p0, .inr (6, vL 12 F25)), (h_p0_bytes, .inl (cB, 940, .inl f_p0_bytes)), (h_p0_wordNames, .inl (cJ, 23, .inr (.inl f_p0_wordNames)))] H := hP
    have hD : va_D A [(h_push, .inl (cI, 12, .inl f_push)), (h_feet, .inl (cI, 12, .inl f_feet)), (h_weight, .inl (cI, 12, .inl f_weight)), (h0, .inr (1, vL 18 Fh)), (h_manName, .inl (cJ, 12, .inr (.inl g33))), (h_runnerName, .inl (cJ, 6, .inr (.inl f_runnerName))), (p0, .inr (6, vL 12 F25)), (h_p0_bytes, .inl (cB, 940, .inl f_p0_bytes)), (h_p0_wordNames, .inl (cJ, 23, .inr (.inl f_p0_wordNames)))] := hD
    refine W.widen (k := 0) (n := 0) (Nat.le_of_ble_eq_true rfl) (Nat.le_of_ble_eq_true rfl) ?_
    refine lv_if_eq (tgt := 95) hx hb dX1_readMan_32 (by decide) (fun c44 => ?_) (fun c44 => ?_)
    · have dc44 : r24.toInt = 0 := eq_i (a := r24.toInt) (b := 0) rfl rfl c44
      have k45 : 0 ≤ r24.toInt ∧ r24.toInt ≤ 0 := ⟨t43.1, Int.le_trans (Int.le_of_eq dc44) (Int.le_refl _)⟩
      refine lv_iconst (v := 0) hx hb dX1_readMan_95 (by decide) ?_
      refine lv_istore_n (lv' := [(2, .int 0), (0, .ref h0), (1, .ref p0)]) hx hb dX1_readMan_96 rfl hl (by decide) rfl (fun ls hl => ?_)
      refine lv_aload_n hx hb dX1_readMan_97 rfl (lv_at hl 1 rfl) ?_
      refine lv_dup hx hb dX1_readMan_98 rfl ?_
      refine get_f (D := D) (ci := 1) (v := .int x_men) (C := RX1) (T := TX1) (N := 18) hx hb hw inAX1 hown hK hP 3 rfl rfl 13 (by decide) (hw _ q_352) (fun _ h9 => h9) e_men dX1_readMan_99 ?_
      refine lv_iload_n hx hb dX1_readMan_102 rfl (lv_at hl 0 rfl) ?_
      refine lv_if_eq (tgt := 110) hx hb dX1_readMan_103 (by decide) (fun _ => ?_) (fun g => absurd (by decide) g)
      refine lv_iconst (v := 0) hx hb dX1_readMan_110 (by decide) ?_
      refine lv_iadd hx hb dX1_readMan_111 ?_
      refine lv_topi (fun v46 ev46 => ?_)
      have bv46 : v46.toInt = x_men.toInt + 0 := by rw [ev46]; exact add_k rfl rfl k2 ⟨Int.le_refl _, Int.le_refl _⟩ (by decide)
      have k47 : 0 ≤ v46.toInt ∧ v46.toInt ≤ 11 := add_r bv46 k2 ⟨Int.le_refl _, Int.le_refl _⟩ (by decide)
      refine put_f (D := D) (ci := 1) (v := .int v46) (ty := .int) (C := RX1) (T := TX1) (N := 18) hx hb hw inAX1 tyX1 tyX1_ok nmX1 hown hK hP hD hS 3 rfl rfl 13 (by decide) (hw _ q_352) (fun _ h9 => h9) rfl (by decide +kernel) rfl rfl dX1_readMan_112 (fun H locs F48 eF48 hP hD hS => ?_)
      have hP : va_P D vwCl [(h_push, .inl (cI, 12, .inl f_push)), (h_feet, .inl (cI, 12, .inl f_feet)), (h_weight, .inl (cI, 12, .inl f_weight)), (h0, .inr (1, vL 18 F48)), (h_manName, .inl (cJ, 12, .inr (.inl g33))), (h_runnerName, .inl (cJ, 6, .inr (.inl f_runnerName))), (p0, .inr (6, vL 12 F25)), (h_p0_bytes, .inl (cB, 940, .inl f_p0_bytes)), (h_p0_wordNames, .inl (cJ, 23, .inr (.inl f_p0_wordNames)))] H := hP
      have hD : va_D A [(h_push, .inl (cI, 12, .inl f_push)), (h_feet, .inl (cI, 12, .inl f_feet)), (h_weight, .inl (cI, 12, .inl f_weight)), (h0, .inr (1, vL 18 F48)), (h_manName, .inl (cJ, 12, .inr (.inl g33))), (h_runnerName, .inl (cJ, 6, .inr (.inl f_runnerName))), (p0, .inr (6, vL 12 F25)), (h_p0_bytes, .inl (cB, 940, .inl f_p0_bytes)), (h_p0_wordNames, .inl (cJ, 23, .inr (.inl f_p0_wordNames)))] := hD
      refine lv_iload_n hx hb dX1_readMan_115 rfl (lv_at hl 0 rfl) ?_
      exact ret_i (v := 0) hx hb hr hlocks hS (hP.sub (ws' := [(h0, .inr (1, vL 18 F48)), (h_manName, .inl (cJ, 12, .inr (.inl g33))), (h_push, .inl (cI, 12, .inl f_push)), (h_feet, .inl (cI, 12, .inl f_feet)), (h_weight, .inl (cI, 12, .inl f_weight)), (h_runnerName, .inl (cJ, 6, .inr (.inl f_runnerName))), (p0, .inr (6, vL 12 F25)), (h_p0_bytes, .inl (cB, 940, .inl f_p0_bytes)), (h_p0_wordNames, .inl (cJ, 23, .inr (.inl f_p0_wordNames)))]) [3, 4, 0, 1, 2, 5, 6, 7, 8] rfl) (hD.sub (ws' := [(h0, .inr (1, vL 18 F48)), (h_manName, .inl (cJ, 12, .inr (.inl g33))), (h_push, .inl (cI, 12, .inl f_push)), (h_feet, .inl (cI, 12, .inl f_feet)), (h_weight, .inl (cI, 12, .inl f_weight)), (h_runnerName, .inl (cJ, 6, .inr (.inl f_runnerName))), (p0, .inr (6, vL 12 F25)), (h_p0_bytes, .inl (cB, 940, .inl f_p0_bytes)), (h_p0_wordNames, .inl (cJ, 23, .inr (.inl f_p0_wordNames)))]) [3, 4, 0, 1, 2, 5, 6, 7, 8] (by decide) rfl) dX1_readMan_116 rfl (Nat.le_of_ble_eq_true rfl) (Nat.le_of_ble_eq_true rfl) ⟨F48, v46, F25, y26, y27, y28, y29, y30, y31, y32, g33, f_push, f_feet, f_weight, (SAME.up eF48 SAME.rf (by decide)), (get_eq eF48), (ir_wk k47 (by decide) (by decide)), (SAME.tr (SAME.tr SAME.rf t10 (by decide)) t34 (by decide)), t35, t36, t37, t38, t39, t40, t41, t42, (show 0 ≤ (0 : Int32).toInt ∧ (0 : Int32).toInt ≤ 1 by decide), rfl⟩
    · have dc44 : r24.toInt ≠ 0 := ne_i (a := r24.toInt) (b := 0) rfl rfl c44
      have k49 : 1 ≤ r24.toInt ∧ r24.toInt ≤ 1 := ⟨ne_lo dc44 t43.1 ⟨Int.le_refl _, Int.le_refl _⟩ (by decide), t43.2⟩
      refine lv_aload_n hx hb dX1_readMan_35 rfl (lv_at hl 1 rfl) ?_
      refine lv_aload_n hx hb dX1_readMan_36 rfl (lv_at hl 0 rfl) ?_
      refine get_f (D := D) (ci := 1) (v := .ref h_push) (C := RX1) (T := TX1) (N := 18) hx hb hw inAX1 hown hK hP 3 rfl rfl 3 (by decide) (hw _ q_321) (fun _ h9 => h9) e_push dX1_readMan_37 ?_
      refine lv_aload_n hx hb dX1_readMan_40 rfl (lv_at hl 0 rfl) ?_
      refine get_f (D := D) (ci := 1) (v := .int x_men) (C := RX1) (T := TX1) (N := 18) hx hb hw inAX1 hown hK hP 3 rfl rfl 13 (by decide) (hw _ q_352) (fun _ h9 => h9) e_men dX1_readMan_41 ?_
      refine lv_iconst (v := 1) hx hb dX1_readMan_44 (by decide) ?_
      refine lv_bipush (v := 9) hx hb dX1_readMan_45 (by decide) ?_
      have n50 : F25 0 = .ref h_p0_bytes := (SAME.at t34 (by decide) n18)
      have n51 : F25 1 = .int x_p0_length := (SAME.at t34 (by decide) n19)
      have n52 : F25 9 = .ref h_p0_wordNames := (SAME.at t34 (by decide) n22)
      have n53 : F25 11 = .int x_p0_mostBytes := (SAME.at t34 (by decide) n23)
      refine call_Vi (wr := [(h_feet, .inl (cI, 12, .inl f_feet)), (h_weight, .inl (cI, 12, .inl f_weight)), (h0, .inr (1, vL 18 Fh)), (h_manName, .inl (cJ, 12, .inr (.inl g33))), (h_runnerName, .inl (cJ, 6, .inr (.inl f_runnerName)))]) (As := [.ref h_push, .int x_men, .int 1, .int 9]) (rest := []) hx hb hml hown hw (m_X6_takeInto_12 l D cI cJ cB cP cM cZ p0 h_p0_bytes h_p0_wordNames h_push F25 x_p0_length y26 y27 y28 y29 y32 x_p0_mostBytes f_p0_bytes f_p0_wordNames f_push x_men 1 9 _ n50 n51 i_x_p0_length t35 t36 t37 t38 n52 t41 t42 n53) wV_X1_140_X6_takeInto dX1_readMan_47 hK hP hD hS hA [6, 7, 8, 0] [1, 2, 3, 4, 5] rfl rfl (by decide) (by decide) (by decide) 0 6 rfl rfl GG.fb hG.at hl.1 rfl (Nat.le_of_ble_eq_true rfl) ⟨(Nat.le_of_ble_eq_true rfl), (Nat.le_of_ble_eq_true rfl)⟩ ⟨(Nat.le_of_ble_eq_true rfl), (Nat.le_of_ble_eq_true rfl)⟩ (fun r54 u H locs hp hP hD hS => ?_)
      rcases hp with ⟨F55, y56, t57, t58, t59, t60, rfl, rfl⟩ | ⟨F61, y62, y63, y64, y65, y66, g67, t68, t69, t70, t71, t72, t73, t74, t75, t76, t77, t78, t79, t80, t81, rfl, rfl⟩
      · have hP : va_P D vwCl [(h_feet, .inl (cI, 12, .inl f_feet)), (h_weight, .inl (cI, 12, .inl f_weight)), (h0, .inr (1, vL 18 Fh)), (h_manName, .inl (cJ, 12, .inr (.inl g33))), (h_runnerName, .inl (cJ, 6, .inr (.inl f_runnerName))), (p0, .inr (6, vL 12 F55)), (h_p0_bytes, .inl (cB, 940, .inl f_p0_bytes)), (h_p0_wordNames, .inl (cJ, 23, .inr (.inl f_p0_wordNames))), (h_push, .inl (cI, 12, .inl f_push))] H := hP
        have hD : va_D A [(h_feet, .inl (cI, 12, .inl f_feet)), (h_weight, .inl (cI, 12, .inl f_weight)), (h0, .inr (1, vL 18 Fh)), (h_manName, .inl (cJ, 12, .inr (.inl g33))), (h_runnerName, .inl (cJ, 6, .inr (.inl f_runnerName))), (p0, .inr (6, vL 12 F55)), (h_p0_bytes, .inl (cB, 940, .inl f_p0_bytes)), (h_p0_wordNames, .inl (cJ, 23, .inr (.inl f_p0_wordNames))), (h_push, .inl (cI, 12, .inl f_push))] := hD
        refine W.widen (k := 0) (n := 0) (Nat.le_of_ble_eq_true rfl) (Nat.le_of_ble_eq_true rfl) ?_
        refine lv_if_eq (tgt := 95) hx hb dX1_readMan_50 (by decide) (fun _ => ?_) (fun g => absurd (by decide) g)
        refine lv_iconst (v := 0) hx hb dX1_readMan_95 (by decide) ?_
        refine lv_istore_n (lv' := [(2, .int 0), (0, .ref h0), (1, .ref p0)]) hx hb dX1_readMan_96 rfl hl (by decide) rfl (fun ls hl => ?_)
        refine lv_aload_n hx hb dX1_readMan_97 rfl (lv_at hl 1 rfl) ?_
        refine lv_dup hx hb dX1_readMan_98 rfl ?_
        refine get_f (D := D) (ci := 1) (v := .int x_men) (C := RX1) (T := TX1) (N := 18) hx hb hw inAX1 hown hK hP 2 rfl rfl 13 (by decide) (hw _ q_352) (fun _ h9 => h9) e_men dX1_readMan_99 ?_
        refine lv_iload_n hx hb dX1_readMan_102 rfl (lv_at hl 0 rfl) ?_
        refine lv_if_eq (tgt := 110) hx hb dX1_readMan_103 (by decide) (fun _ => ?_) (fun g => absurd (by decide) g)
        refine lv_iconst (v := 0) hx hb dX1_readMan_110 (by decide) ?_
        refine lv_iadd hx hb dX1_readMan_111 ?_
        refine lv_topi (fun v82 ev82 => ?_)
        have bv82 : v82.toInt = x_men.toInt + 0 := by rw [ev82]; exact add_k rfl rfl k2 ⟨Int.le_refl _, Int.le_refl _⟩ (by decide)
        have k83 : 0 ≤ v82.toInt ∧ v82.toInt ≤ 11 := add_r bv82 k2 ⟨Int.le_refl _, Int.le_refl _⟩ (by decide)
        refine put_f (D := D) (ci := 1) (v := .int v82) (ty := .int) (C := RX1) (T := TX1) (N := 18) hx hb hw inAX1 tyX1 tyX1_ok nmX1 hown hK hP hD hS 2 rfl rfl 13 (by decide) (hw _ q_352) (fun _ h9 => h9) rfl (by decide +kernel) rfl rfl dX1_readMan_112 (fun H locs F84 eF84 hP hD hS => ?_)
        have hP : va_P D vwCl [(h_feet, .inl (cI, 12, .inl f_feet)), (h_weight, .inl (cI, 12, .inl f_weight)), (h0, .inr (1, vL 18 F84)), (h_manName, .inl (cJ, 12, .inr (.inl g33))), (h_runnerName, .inl (cJ, 6, .inr (.inl f_runnerName))), (p0, .inr (6, vL 12 F55)), (h_p0_bytes, .inl (cB, 940, .inl f_p0_bytes)), (h_p0_wordNames, .inl (cJ, 23, .inr (.inl f_p0_wordNames))), (h_push, .inl (cI, 12, .inl f_push))] H := hP
        have hD : va_D A [(h_feet, .inl (cI, 12, .inl f_feet)), (h_weight, .inl (cI, 12, .inl f_weight)), (h0, .inr (1, vL 18 F84)), (h_manName, .inl (cJ, 12, .inr (.inl g33))), (h_runnerName, .inl (cJ, 6, .inr (.inl f_runnerName))), (p0, .inr (6, vL 12 F55)), (h_p0_bytes, .inl (cB, 940, .inl f_p0_bytes)), (h_p0_wordNames, .inl (cJ, 23, .inr (.inl f_p0_wordNames))), (h_push, .inl (cI, 12, .inl f_push))] := hD
        refine lv_iload_n hx hb dX1_readMan_115 rfl (lv_at hl 0 rfl) ?_
        exact ret_i (v := 0) hx hb hr hlocks hS (hP.sub (ws' := [(h0, .inr (1, vL 18 F84)), (h_manName, .inl (cJ, 12, .inr (.inl g33))), (h_push, .inl (cI, 12, .inl f_push)), (h_feet, .inl (cI, 12, .inl f_feet)), (h_weight, .inl (cI, 12, .inl f_weight)), (h_runnerName, .inl (cJ, 6, .inr (.inl f_runnerName))), (p0, .inr (6, vL 12 F55)), (h_p0_bytes, .inl (cB, 940, .inl f_p0_bytes)), (h_p0_wordNames, .inl (cJ, 23, .inr (.inl f_p0_wordNames)))]) [2, 3, 8, 0, 1, 4, 5, 6, 7] rfl) (hD.sub (ws' := [(h0, .inr (1, vL 18 F84)), (h_manName, .inl (cJ, 12, .inr (.inl g33))), (h_push, .inl (cI, 12, .inl f_push)), (h_feet, .inl (cI, 12, .inl f_feet)), (h_weight, .inl (cI, 12, .inl f_weight)), (h_runnerName, .inl (cJ, 6, .inr (.inl f_runnerName))), (p0, .inr (6, vL 12 F55)), (h_p0_bytes, .inl (cB, 940, .inl f_p0_bytes)), (h_p0_wordNames, .inl (cJ, 23, .inr (.inl f_p0_wordNames)))]) [2, 3, 8, 0, 1, 4, 5, 6, 7] (by decide) rfl) dX1_readMan_116 rfl (Nat.le_of_ble_eq_true rfl) (Nat.le_of_ble_eq_true rfl) ⟨F84, v82, F55, y26, y27, y28, y29, y56, y27, y32, g33, f_push, f_feet, f_weight, (SAME.up eF84 SAME.rf (by decide)), (get_eq eF84), (ir_wk k83 (by decide) (by decide)), (SAME.tr (SAME.tr (SAME.tr SAME.rf t10 (by decide)) t34 (by decide)) t57 (by decide)), (SAME.at t57 (by decide) t35), (SAME.at t57 (by decide) t36), (SAME.at t57 (by decide) t37), (SAME.at t57 (by decide) t38), t58, t60, (SAME.at t57 (by decide) t41), t42, (show 0 ≤ (0 : Int32).toInt ∧ (0 : Int32).toInt ≤ 1 by decide), rfl⟩
      · have hP : va_P D vwCl [(h_feet, .inl (cI, 12, .inl f_feet)), (h_weight, .inl (cI, 12, .inl f_weight)), (h0, .inr (1, vL 18 Fh)), (h_manName, .inl (cJ, 12, .inr (.inl g33))), (h_runnerName, .inl (cJ, 6, .inr (.inl f_runnerName))), (p0, .inr (6, vL 12 F61)), (h_p0_bytes, .inl (cB, 940, .inl f_p0_bytes)), (h_p0_wordNames, .inl (cJ, 23, .inr (.inl f_p0_wordNames))), (h_push, .inl (cI, 12, .inl g67))] H := hP
        have hD : va_D A [(h_feet, .inl (cI, 12, .inl f_feet)), (h_weight, .inl (cI, 12, .inl f_weight)), (h0, .inr (1, vL 18 Fh)), (h_manName, .inl (cJ, 12, .inr (.inl g33))), (h_runnerName, .inl (cJ, 6, .inr (.inl f_runnerName))), (p0, .inr (6, vL 12 F61)), (h_p0_bytes, .inl (cB, 940, .inl f_p0_bytes)), (h_p0_wordNames, .inl (cJ, 23, .inr (.inl f_p0_wordNames))), (h_push, .inl (cI, 12, .inl g67))] := hD
        refine W.widen (k := 0) (n := 0) (Nat.le_of_ble_eq_true rfl) (Nat.le_of_ble_eq_true rfl) ?_
        have k85 : 3 ≤ y26.toInt ∧ y26.toInt ≤ 3 := ⟨Int.le_trans (Int.le_refl _) (Int.le_of_eq t78.symm), Int.le_trans (Int.le_of_eq t78) (Int.le_refl _)⟩
        have k86 : 1 ≤ y28.toInt ∧ y28.toInt ≤ 2147483647 := ⟨Int.le_trans (Int.le_refl _) t79, (ir_any _).2⟩
        have k87 : 1 ≤ y28.toInt ∧ y28.toInt ≤ 9 := ⟨k86.1, Int.le_trans t80 (Int.le_refl _)⟩
        refine lv_if_eq (tgt := 95) hx hb dX1_readMan_50 (by decide) (fun g => absurd g (by decide)) (fun _ => ?_)
        refine lv_aload_n hx hb dX1_readMan_53 rfl (lv_at hl 1 rfl) ?_
        refine lv_aload_n hx hb dX1_readMan_54 rfl (lv_at hl 0 rfl) ?_
        refine get_f (D := D) (ci := 1) (v := .ref h_feet) (C := RX1) (T := TX1) (N := 18) hx hb hw inAX1 hown hK hP 2 rfl rfl 4 (by decide) (hw _ q_326) (fun _ h9 => h9) e_feet dX1_readMan_55 ?_
        refine lv_aload_n hx hb dX1_readMan_58 rfl (lv_at hl 0 rfl) ?_
        refine get_f (D := D) (ci := 1) (v := .int x_men) (C := RX1) (T := TX1) (N := 18) hx hb hw inAX1 hown hK hP 2 rfl rfl 13 (by decide) (hw _ q_352) (fun _ h9 => h9) e_men dX1_readMan_59 ?_
        refine lv_iconst (v := 1) hx hb dX1_readMan_62 (by decide) ?_
        refine lv_bipush (v := 9) hx hb dX1_readMan_63 (by decide) ?_
        have n88 : F61 0 = .ref h_p0_bytes := (SAME.at t68 (by decide) n50)
        have n89 : F61 1 = .int x_p0_length := (SAME.at t68 (by decide) n51)
        have n90 : F61 9 = .ref h_p0_wordNames := (SAME.at t68 (by decide) n52)
        have n91 : F61 11 = .int x_p0_mostBytes := (SAME.at t68 (by decide) n53)
        refine call_Vi (wr := [(h_weight, .inl (cI, 12, .inl f_weight)), (h0, .inr (1, vL 18 Fh)), (h_manName, .inl (cJ, 12, .inr (.inl g33))), (h_runnerName, .inl (cJ, 6, .inr (.inl f_runnerName))), (h_push, .inl (cI, 12, .inl g67))]) (As := [.ref h_feet, .int x_men, .int 1, .int 9]) (rest := []) hx hb hml hown hw (m_X6_takeInto_12 l D cI cJ cB cP cM cZ p0 h_p0_bytes h_p0_wordNames h_feet F61 x_p0_length y62 y63 y64 y65 y66 x_p0_mostBytes f_p0_bytes f_p0_wordNames f_feet x_men 1 9 _ n88 n89 i_x_p0_length t69 t70 t72 t73 n90 t74 t75 n91) wV_X1_140_X6_takeInto dX1_readMan_65 hK hP hD hS hA [5, 6, 7, 0] [1, 2, 3, 4, 8] rfl rfl (by decide) (by decide) (by decide) 0 6 rfl rfl GG.fb hG.at hl.1 rfl (Nat.le_of_ble_eq_true rfl) ⟨(Nat.le_of_ble_eq_true rfl), (Nat.le_of_ble_eq_true rfl)⟩ ⟨(Nat.le_of_ble_eq_true rfl), (Nat.le_of_ble_eq_true rfl)⟩ (fun r92 u H locs hp hP hD hS => ?_)
        rcases hp with ⟨F93, y94, t95, t96, t97, t98, rfl, rfl⟩ | ⟨F99, y100, y101, y102, y103, y104, g105, t106, t107, t108, t109, t110, t111, t112, t113, t114, t115, t116, t117, t118, t119, rfl, rfl⟩
        · have hP : va_P D vwCl [(h_weight, .inl (cI, 12, .inl f_weight)), (h0, .inr (1, vL 18 Fh)), (h_manName, .inl (cJ, 12, .inr (.inl g33))), (h_runnerName, .inl (cJ, 6, .inr (.inl f_runnerName))), (h_push, .inl (cI, 12, .inl g67)), (p0, .inr (6, vL 12 F93)), (h_p0_bytes, .inl (cB, 940, .inl f_p0_bytes)), (h_p0_wordNames, .inl (cJ, 23, .inr (.inl f_p0_wordNames))), (h_feet, .inl (cI, 12, .inl f_feet))] H := hP
          have hD : va_D A [(h_weight, .inl (cI, 12, .inl f_weight)), (h0, .inr (1, vL 18 Fh)), (h_manName, .inl (cJ, 12, .inr (.inl g33))), (h_runnerName, .inl (cJ, 6, .inr (.inl f_runnerName))), (h_push, .inl (cI, 12, .inl g67)), (p0, .inr (6, vL 12 F93)), (h_p0_bytes, .inl (cB, 940, .inl f_p0_bytes)), (h_p0_wordNames, .inl (cJ, 23, .inr (.inl f_p0_wordNames))), (h_feet, .inl (cI, 12, .inl f_feet))] := hD
          refine W.widen (k := 0) (n := 0) (Nat.le_of_ble_eq_true rfl) (Nat.le_of_ble_eq_true rfl) ?_
          refine lv_if_eq (tgt := 95) hx hb dX1_readMan_68 (by decide) (fun _ => ?_) (fun g => absurd (by decide) g)
          refine lv_iconst (v := 0) hx hb dX1_readMan_95 (by decide) ?_
          refine lv_istore_n (lv' := [(2, .int 0), (0, .ref h0), (1, .ref p0)]) hx hb dX1_readMan_96 rfl hl (by decide) rfl (fun ls hl => ?_)
          refine lv_aload_n hx hb dX1_readMan_97 rfl (lv_at hl 1 rfl) ?_
          refine lv_dup hx hb dX1_readMan_98 rfl ?_
          refine get_f (D := D) (ci := 1) (v := .int x_men) (C := RX1) (T := TX1) (N := 18) hx hb hw inAX1 hown hK hP 1 rfl rfl 13 (by decide) (hw _ q_352) (fun _ h9 => h9) e_men dX1_readMan_99 ?_
          refine lv_iload_n hx hb dX1_readMan_102 rfl (lv_at hl 0 rfl) ?_
          refine lv_if_eq (tgt := 110) hx hb dX1_readMan_103 (by decide) (fun _ => ?_) (fun g => absurd (by decide) g)
          refine lv_iconst (v := 0) hx hb dX1_readMan_110 (by decide) ?_
          refine lv_iadd hx hb dX1_readMan_111 ?_
          refine lv_topi (fun v120 ev120 => ?_)
          have bv120 : v120.toInt = x_men.toInt + 0 := by rw [ev120]; exact add_k rfl rfl k2 ⟨Int.le_refl _, Int.le_refl _⟩ (by decide)
          have k121 : 0 ≤ v120.toInt ∧ v120.toInt ≤ 11 := add_r bv120 k2 ⟨Int.le_refl _, Int.le_refl _⟩ (by decide)
          refine put_f (D := D) (ci := 1) (v := .int v120) (ty := .int) (C := RX1) (T := TX1) (N := 18) hx hb hw inAX1 tyX1 tyX1_ok nmX1 hown hK hP hD hS 1 rfl rfl 13 (by decide) (hw _ q_352) (fun _ h9 => h9) rfl (by decide +kernel) rfl rfl dX1_readMan_112 (fun H locs F122 eF122 hP hD hS => ?_)
          have hP : va_P D vwCl [(h_weight, .inl (cI, 12, .inl f_weight)), (h0, .inr (1, vL 18 F122)), (h_manName, .inl (cJ, 12, .inr (.inl g33))), (h_runnerName, .inl (cJ, 6, .inr (.inl f_runnerName))), (h_push, .inl (cI, 12, .inl g67)), (p0, .inr (6, vL 12 F93)), (h_p0_bytes, .inl (cB, 940, .inl f_p0_bytes)), (h_p0_wordNames, .inl (cJ, 23, .inr (.inl f_p0_wordNames))), (h_feet, .inl (cI, 12, .inl f_feet))] H := hP
          have hD : va_D A [(h_weight, .inl (cI, 12, .inl f_weight)), (h0, .inr (1, vL 18 F122)), (h_manName, .inl (cJ, 12, .inr (.inl g33))), (h_runnerName, .inl (cJ, 6, .inr (.inl f_runnerName))), (h_push, .inl (cI, 12, .inl g67)), (p0, .inr (6, vL 12 F93)), (h_p0_bytes, .inl (cB, 940, .inl f_p0_bytes)), (h_p0_wordNames, .inl (cJ, 23, .inr (.inl f_p0_wordNames))), (h_feet, .inl (cI, 12, .inl f_feet))] := hD
          refine lv_iload_n hx hb dX1_readMan_115 rfl (lv_at hl 0 rfl) ?_
          exact ret_i (v := 0) hx hb hr hlocks hS (hP.sub (ws' := [(h0, .inr (1, vL 18 F122)), (h_manName, .inl (cJ, 12, .inr (.inl g33))), (h_push, .inl (cI, 12, .inl g67)), (h_feet, .inl (cI, 12, .inl f_feet)), (h_weight, .inl (cI, 12, .inl f_weight)), (h_runnerName, .inl (cJ, 6, .inr (.inl f_runnerName))), (p0, .inr (6, vL 12 F93)), (h_p0_bytes, .inl (cB, 940, .inl f_p0_bytes)), (h_p0_wordNames, .inl (cJ, 23, .inr (.inl f_p0_wordNames)))]) [1, 2, 4, 8, 0, 3, 5, 6, 7] rfl) (hD.sub (ws' := [(h0, .inr (1, vL 18 F122)), (h_manName, .inl (cJ, 12, .inr (.inl g33))), (h_push, .inl (cI, 12, .inl g67)), (h_feet, .inl (cI, 12, .inl f_feet)), (h_weight, .inl (cI, 12, .inl f_weight)), (h_runnerName, .inl (cJ, 6, .inr (.inl f_runnerName))), (p0, .inr (6, vL 12 F93)), (h_p0_bytes, .inl (cB, 940, .inl f_p0_bytes)), (h_p0_wordNames, .inl (cJ, 23, .inr (.inl f_p0_wordNames)))]) [1, 2, 4, 8, 0, 3, 5, 6, 7] (by decide) rfl) dX1_readMan_116 rfl (Nat.le_of_ble_eq_true rfl) (Nat.le_of_ble_eq_true rfl) ⟨F122, v120, F93, y62, y63, y64, y65, y94, y63, y66, g33, g67, f_feet, f_weight, (SAME.up eF122 SAME.rf (by decide)), (get_eq eF122), (ir_wk k121 (by decide) (by decide)), (SAME.tr (SAME.tr (SAME.tr (SAME.tr SAME.rf t10 (by decide)) t34 (by decide)) t68 (by decide)) t95 (by decide)), (SAME.at t95 (by decide) t69), (SAME.at t95 (by decide) t70), (SAME.at t95 (by decide) t72), (SAME.at t95 (by decide) t73), t96, t98, (SAME.at t95 (by decide) t74), t75, (show 0 ≤ (0 : Int32).toInt ∧ (0 : Int32).toInt ≤ 1 by decide), rfl⟩
        · have hP : va_P D vwCl [(h_weight, .inl (cI, 12, .inl f_weight)), (h0, .inr (1, vL 18 Fh)), (h_manName, .inl (cJ, 12, .inr (.inl g33))), (h_runnerName, .inl (cJ, 6, .inr (.inl f_runnerName))), (h_push, .inl (cI, 12, .inl g67)), (p0, .inr (6, vL 12 F99)), (h_p0_bytes, .inl (cB, 940, .inl f_p0_bytes)), (h_p0_wordNames, .inl (cJ, 23, .inr (.inl f_p0_wordNames))), (h_feet, .inl (cI, 12, .inl g105))] H := hP
          have hD : va_D A [(h_weight, .inl (cI, 12, .inl f_weight)), (h0, .inr (1, vL 18 Fh)), (h_manName, .inl (cJ, 12, .inr (.inl g33))), (h_runnerName, .inl (cJ, 6, .inr (.inl f_runnerName))), (h_push, .inl (cI, 12, .inl g67)), (p0, .inr (6, vL 12 F99)), (h_p0_bytes, .inl (cB, 940, .inl f_p0_bytes)), (h_p0_wordNames, .inl (cJ, 23, .inr (.inl f_p0_wordNames))), (h_feet, .inl (cI, 12, .inl g105))] := hD
          refine W.widen (k := 0) (n := 0) (Nat.le_of_ble_eq_true rfl) (Nat.le_of_ble_eq_true rfl) ?_
          have k123 : 3 ≤ y62.toInt ∧ y62.toInt ≤ 3 := ⟨Int.le_trans (Int.le_refl _) (Int.le_of_eq t116.symm), Int.le_trans (Int.le_of_eq t116) (Int.le_refl _)⟩
          have k124 : 1 ≤ y64.toInt ∧ y64.toInt ≤ 2147483647 := ⟨Int.le_trans (Int.le_refl _) t117, (ir_any _).2⟩
          have k125 : 1 ≤ y64.toInt ∧ y64.toInt ≤ 9 := ⟨k124.1, Int.le_trans t118 (Int.le_refl _)⟩
          refine lv_if_eq (tgt := 95) hx hb dX1_readMan_68 (by decide) (fun g => absurd g (by decide)) (fun _ => ?_)
          refine lv_aload_n hx hb dX1_readMan_71 rfl (lv_at hl 1 rfl) ?_
          refine lv_aload_n hx hb dX1_readMan_72 rfl (lv_at hl 0 rfl) ?_
          refine get_f (D := D) (ci := 1) (v := .ref h_weight) (C := RX1) (T := TX1) (N := 18) hx hb hw inAX1 hown hK hP 1 rfl rfl 5 (by decide) (hw _ q_331) (fun _ h9 => h9) e_weight dX1_readMan_73 ?_
          refine lv_aload_n hx hb dX1_readMan_76 rfl (lv_at hl 0 rfl) ?_
          refine get_f (D := D) (ci := 1) (v := .int x_men) (C := RX1) (T := TX1) (N := 18) hx hb hw inAX1 hown hK hP 1 rfl rfl 13 (by decide) (hw _ q_352) (fun _ h9 => h9) e_men dX1_readMan_77 ?_
          refine lv_bipush (v := 50) hx hb dX1_readMan_80 (by decide) ?_
          refine lv_sipush (v := 150) hx hb dX1_readMan_82 (by decide) ?_
          have n126 : F99 0 = .ref h_p0_bytes := (SAME.at t106 (by decide) n88)
          have n127 : F99 1 = .int x_p0_length := (SAME.at t106 (by decide) n89)
          have n128 : F99 9 = .ref h_p0_wordNames := (SAME.at t106 (by decide) n90)
          have n129 : F99 11 = .int x_p0_mostBytes := (SAME.at t106 (by decide) n91)
          refine call_Vi (wr := [(h0, .inr (1, vL 18 Fh)), (h_manName, .inl (cJ, 12, .inr (.inl g33))), (h_runnerName, .inl (cJ, 6, .inr (.inl f_runnerName))), (h_push, .inl (cI, 12, .inl g67)), (h_feet, .inl (cI, 12, .inl g105))]) (As := [.ref h_weight, .int x_men, .int 50, .int 150]) (rest := []) hx hb hml hown hw (m_X6_takeInto_12 l D cI cJ cB cP cM cZ p0 h_p0_bytes h_p0_wordNames h_weight F99 x_p0_length y100 y101 y102 y103 y104 x_p0_mostBytes f_p0_bytes f_p0_wordNames f_weight x_men 50 150 _ n126 n127 i_x_p0_length t107 t108 t110 t111 n128 t112 t113 n129) wV_X1_140_X6_takeInto dX1_readMan_85 hK hP hD hS hA [5, 6, 7, 0] [1, 2, 3, 4, 8] rfl rfl (by decide) (by decide) (by decide) 0 6 rfl rfl GG.fb hG.at hl.1 rfl (Nat.le_of_ble_eq_true rfl) ⟨(Nat.le_of_ble_eq_true rfl), (Nat.le_of_ble_eq_true rfl)⟩ ⟨(Nat.le_of_ble_eq_true rfl), (Nat.le_of_ble_eq_true rfl)⟩ (fun r130 u H locs hp hP hD hS => ?_)
          rcases hp with ⟨F131, y132, t133, t134, t135, t136, rfl, rfl⟩ | ⟨F137, y138, y139, y140, y141, y142, g143, t144, t145, t146, t147, t148, t149, t150, t151, t152, t153, t154, t155, t156, t157, rfl, rfl⟩
          · have hP : va_P D vwCl [(h0, .inr (1, vL 18 Fh)), (h_manName, .inl (cJ, 12, .inr (.inl g33))), (h_runnerName, .inl (cJ, 6, .inr (.inl f_runnerName))), (h_push, .inl (cI, 12, .inl g67)), (h_feet, .inl (cI, 12, .inl g105)), (p0, .inr (6, vL 12 F131)), (h_p0_bytes, .inl (cB, 940, .inl f_p0_bytes)), (h_p0_wordNames, .inl (cJ, 23, .inr (.inl f_p0_wordNames))), (h_weight, .inl (cI, 12, .inl f_weight))] H := hP
            have hD : va_D A [(h0, .inr (1, vL 18 Fh)), (h_manName, .inl (cJ, 12, .inr (.inl g33))), (h_runnerName, .inl (cJ, 6, .inr (.inl f_runnerName))), (h_push, .inl (cI, 12, .inl g67)), (h_feet, .inl (cI, 12, .inl g105)), (p0, .inr (6, vL 12 F131)), (h_p0_bytes, .inl (cB, 940, .inl f_p0_bytes)), (h_p0_wordNames, .inl (cJ, 23, .inr (.inl f_p0_wordNames))), (h_weight, .inl (cI, 12, .inl f_weight))] := hD
            refine W.widen (k := 0) (n := 0) (Nat.le_of_ble_eq_true rfl) (Nat.le_of_ble_eq_true rfl) ?_
            refine lv_if_eq (tgt := 95) hx hb dX1_readMan_88 (by decide) (fun _ => ?_) (fun g => absurd (by decide) g)
            refine lv_iconst (v := 0) hx hb dX1_readMan_95 (by decide) ?_
            refine lv_istore_n (lv' := [(2, .int 0), (0, .ref h0), (1, .ref p0)]) hx hb dX1_readMan_96 rfl hl (by decide) rfl (fun ls hl => ?_)
            refine lv_aload_n hx hb dX1_readMan_97 rfl (lv_at hl 1 rfl) ?_
            refine lv_dup hx hb dX1_readMan_98 rfl ?_
            refine get_f (D := D) (ci := 1) (v := .int x_men) (C := RX1) (T := TX1) (N := 18) hx hb hw inAX1 hown hK hP 0 rfl rfl 13 (by decide) (hw _ q_352) (fun _ h9 => h9) e_men dX1_readMan_99 ?_
            refine lv_iload_n hx hb dX1_readMan_102 rfl (lv_at hl 0 rfl) ?_
            refine lv_if_eq (tgt := 110) hx hb dX1_readMan_103 (by decide) (fun _ => ?_) (fun g => absurd (by decide) g)
            refine lv_iconst (v := 0) hx hb dX1_readMan_110 (by decide) ?_
            refine lv_iadd hx hb dX1_readMan_111 ?_
            refine lv_topi (fun v158 ev158 => ?_)
            have bv158 : v158.toInt = x_men.toInt + 0 := by rw [ev158]; exact add_k rfl rfl k2 ⟨Int.le_refl _, Int.le_refl _⟩ (by decide)
            have k159 : 0 ≤ v158.toInt ∧ v158.toInt ≤ 11 := add_r bv158 k2 ⟨Int.le_refl _, Int.le_refl _⟩ (by decide)
            refine put_f (D := D) (ci := 1) (v := .int v158) (ty := .int) (C := RX1) (T := TX1) (N := 18) hx hb hw inAX1 tyX1 tyX1_ok nmX1 hown hK hP hD hS 0 rfl rfl 13 (by decide) (hw _ q_352) (fun _ h9 => h9) rfl (by decide +kernel) rfl rfl dX1_readMan_112 (fun H locs F160 eF160 hP hD hS => ?_)
            have hP : va_P D vwCl [(h0, .inr (1, vL 18 F160)), (h_manName, .inl (cJ, 12, .inr (.inl g33))), (h_runnerName, .inl (cJ, 6, .inr (.inl f_runnerName))), (h_push, .inl (cI, 12, .inl g67)), (h_feet, .inl (cI, 12, .inl g105)), (p0, .inr (6, vL 12 F131)), (h_p0_bytes, .inl (cB, 940, .inl f_p0_bytes)), (h_p0_wordNames, .inl (cJ, 23, .inr (.inl f_p0_wordNames))), (h_weight, .inl (cI, 12, .inl f_weight))] H := hP
            have hD : va_D A [(h0, .inr (1, vL 18 F160)), (h_manName, .inl (cJ, 12, .inr (.inl g33))), (h_runnerName, .inl (cJ, 6, .inr (.inl f_runnerName))), (h_push, .inl (cI, 12, .inl g67)), (h_feet, .inl (cI, 12, .inl g105)), (p0, .inr (6, vL 12 F131)), (h_p0_bytes, .inl (cB, 940, .inl f_p0_bytes)), (h_p0_wordNames, .inl (cJ, 23, .inr (.inl f_p0_wordNames))), (h_weight, .inl (cI, 12, .inl f_weight))] := hD
            refine lv_iload_n hx hb dX1_readMan_115 rfl (lv_at hl 0 rfl) ?_
            exact ret_i (v := 0) hx hb hr hlocks hS (hP.sub (ws' := [(h0, .inr (1, vL 18 F160)), (h_manName, .inl (cJ, 12, .inr (.inl g33))), (h_push, .inl (cI, 12, .inl g67)), (h_feet, .inl (cI, 12, .inl g105)), (h_weight, .inl (cI, 12, .inl f_weight)), (h_runnerName, .inl (cJ, 6, .inr (.inl f_runnerName))), (p0, .inr (6, vL 12 F131)), (h_p0_bytes, .inl (cB, 940, .inl f_p0_bytes)), (h_p0_wordNames, .inl (cJ, 23, .inr (.inl f_p0_wordNames)))]) [0, 1, 3, 4, 8, 2, 5, 6, 7] rfl) (hD.sub (ws' := [(h0, .inr (1, vL 18 F160)), (h_manName, .inl (cJ, 12, .inr (.inl g33))), (h_push, .inl (cI, 12, .inl g67)), (h_feet, .inl (cI, 12, .inl g105)), (h_weight, .inl (cI, 12, .inl f_weight)), (h_runnerName, .inl (cJ, 6, .inr (.inl f_runnerName))), (p0, .inr (6, vL 12 F131)), (h_p0_bytes, .inl (cB, 940, .inl f_p0_bytes)), (h_p0_wordNames, .inl (cJ, 23, .inr (.inl f_p0_wordNames)))]) [0, 1, 3, 4, 8, 2, 5, 6, 7] (by decide) rfl) dX1_readMan_116 rfl (Nat.le_of_ble_eq_true rfl) (Nat.le_of_ble_eq_true rfl) ⟨F160, v158, F131, y100, y101, y102, y103, y132, y101, y104, g33, g67, g105, f_weight, (SAME.up eF160 SAME.rf (by decide)), (get_eq eF160), (ir_wk k159 (by decide) (by decide)), (SAME.tr (SAME.tr (SAME.tr (SAME.tr (SAME.tr SAME.rf t10 (by decide)) t34 (by decide)) t68 (by decide)) t106 (by decide)) t133 (by decide)), (SAME.at t133 (by decide) t107), (SAME.at t133 (by decide) t108), (SAME.at t133 (by decide) t110), (SAME.at t133 (by decide) t111), t134, t136, (SAME.at t133 (by decide) t112), t113, (show 0 ≤ (0 : Int32).toInt ∧ (0 : Int32).toInt ≤ 1 by decide), rfl⟩
          · have hP : va_P D vwCl [(h0, .inr (1, vL 18 Fh)), (h_manName, .inl (cJ, 12, .inr (.inl g33))), (h_runnerName, .inl (cJ, 6, .inr (.inl f_runnerName))), (h_push, .inl (cI, 12, .inl g67)), (h_feet, .inl (cI, 12, .inl g105)), (p0, .inr (6, vL 12 F137)), (h_p0_bytes, .inl (cB, 940, .inl f_p0_bytes)), (h_p0_wordNames, .inl (cJ, 23, .inr (.inl f_p0_wordNames))), (h_weight, .inl (cI, 12, .inl g143))] H := hP
            have hD : va_D A [(h0, .inr (1, vL 18 Fh)), (h_manName, .inl (cJ, 12, .inr (.inl g33))), (h_runnerName, .inl (cJ, 6, .inr (.inl f_runnerName))), (h_push, .inl (cI, 12, .inl g67)), (h_feet, .inl (cI, 12, .inl g105)), (p0, .inr (6, vL 12 F137)), (h_p0_bytes, .inl (cB, 940, .inl f_p0_bytes)), (h_p0_wordNames, .inl (cJ, 23, .inr (.inl f_p0_wordNames))), (h_weight, .inl (cI, 12, .inl g143))] := hD
            refine W.widen (k := 0) (n := 0) (Nat.le_of_ble_eq_true rfl) (Nat.le_of_ble_eq_true rfl) ?_
            have k161 : 3 ≤ y100.toInt ∧ y100.toInt ≤ 3 := ⟨Int.le_trans (Int.le_refl _) (Int.le_of_eq t154.symm), Int.le_trans (Int.le_of_eq t154) (Int.le_refl _)⟩
            have k162 : 50 ≤ y102.toInt ∧ y102.toInt ≤ 2147483647 := ⟨Int.le_trans (Int.le_refl _) t155, (ir_any _).2⟩
            have k163 : 50 ≤ y102.toInt ∧ y102.toInt ≤ 150 := ⟨k162.1, Int.le_trans t156 (Int.le_refl _)⟩
            refine lv_if_eq (tgt := 95) hx hb dX1_readMan_88 (by decide) (fun g => absurd g (by decide)) (fun _ => ?_)
            refine lv_iconst (v := 1) hx hb dX1_readMan_91 (by decide) ?_
            refine lv_goto (tgt := 96) hx hb dX1_readMan_92 (by decide) ?_
            refine lv_istore_n (lv' := [(2, .int 1), (0, .ref h0), (1, .ref p0)]) hx hb dX1_readMan_96 rfl hl (by decide) rfl (fun ls hl => ?_)
            refine lv_aload_n hx hb dX1_readMan_97 rfl (lv_at hl 1 rfl) ?_
            refine lv_dup hx hb dX1_readMan_98 rfl ?_
            refine get_f (D := D) (ci := 1) (v := .int x_men) (C := RX1) (T := TX1) (N := 18) hx hb hw inAX1 hown hK hP 0 rfl rfl 13 (by decide) (hw _ q_352) (fun _ h9 => h9) e_men dX1_readMan_99 ?_
            refine lv_iload_n hx hb dX1_readMan_102 rfl (lv_at hl 0 rfl) ?_
            refine lv_if_eq (tgt := 110) hx hb dX1_readMan_103 (by decide) (fun g => absurd g (by decide)) (fun _ => ?_)
            refine lv_iconst (v := 1) hx hb dX1_readMan_106 (by decide) ?_
            refine lv_goto (tgt := 111) hx hb dX1_readMan_107 (by decide) ?_
            refine lv_iadd hx hb dX1_readMan_111 ?_
            refine lv_topi (fun v164 ev164 => ?_)
            have bv164 : v164.toInt = x_men.toInt + 1 := by rw [ev164]; exact add_k rfl rfl k2 ⟨Int.le_refl _, Int.le_refl _⟩ (by decide)
            have k165 : 1 ≤ v164.toInt ∧ v164.toInt ≤ 12 := add_r bv164 k2 ⟨Int.le_refl _, Int.le_refl _⟩ (by decide)
            refine put_f (D := D) (ci := 1) (v := .int v164) (ty := .int) (C := RX1) (T := TX1) (N := 18) hx hb hw inAX1 tyX1 tyX1_ok nmX1 hown hK hP hD hS 0 rfl rfl 13 (by decide) (hw _ q_352) (fun _ h9 => h9) rfl (by decide +kernel) rfl rfl dX1_readMan_112 (fun H locs F166 eF166 hP hD hS => ?_)
            have hP : va_P D vwCl [(h0, .inr (1, vL 18 F166)), (h_manName, .inl (cJ, 12, .inr (.inl g33))), (h_runnerName, .inl (cJ, 6, .inr (.inl f_runnerName))), (h_push, .inl (cI, 12, .inl g67)), (h_feet, .inl (cI, 12, .inl g105)), (p0, .inr (6, vL 12 F137)), (h_p0_bytes, .inl (cB, 940, .inl f_p0_bytes)), (h_p0_wordNames, .inl (cJ, 23, .inr (.inl f_p0_wordNames))), (h_weight, .inl (cI, 12, .inl g143))] H := hP
            have hD : va_D A [(h0, .inr (1, vL 18 F166)), (h_manName, .inl (cJ, 12, .inr (.inl g33))), (h_runnerName, .inl (cJ, 6, .inr (.inl f_runnerName))), (h_push, .inl (cI, 12, .inl g67)), (h_feet, .inl (cI, 12, .inl g105)), (p0, .inr (6, vL 12 F137)), (h_p0_bytes, .inl (cB, 940, .inl f_p0_bytes)), (h_p0_wordNames, .inl (cJ, 23, .inr (.inl f_p0_wordNames))), (h_weight, .inl (cI, 12, .inl g143))] := hD
            refine lv_iload_n hx hb dX1_readMan_115 rfl (lv_at hl 0 rfl) ?_
            exact ret_i (v := 1) hx hb hr hlocks hS (hP.sub (ws' := [(h0, .inr (1, vL 18 F166)), (h_manName, .inl (cJ, 12, .inr (.inl g33))), (h_push, .inl (cI, 12, .inl g67)), (h_feet, .inl (cI, 12, .inl g105)), (h_weight, .inl (cI, 12, .inl g143)), (h_runnerName, .inl (cJ, 6, .inr (.inl f_runnerName))), (p0, .inr (6, vL 12 F137)), (h_p0_bytes, .inl (cB, 940, .inl f_p0_bytes)), (h_p0_wordNames, .inl (cJ, 23, .inr (.inl f_p0_wordNames)))]) [0, 1, 3, 4, 8, 2, 5, 6, 7] rfl) (hD.sub (ws' := [(h0, .inr (1, vL 18 F166)), (h_manName, .inl (cJ, 12, .inr (.inl g33))), (h_push, .inl (cI, 12, .inl g67)), (h_feet, .inl (cI, 12, .inl g105)), (h_weight, .inl (cI, 12, .inl g143)), (h_runnerName, .inl (cJ, 6, .inr (.inl f_runnerName))), (p0, .inr (6, vL 12 F137)), (h_p0_bytes, .inl (cB, 940, .inl f_p0_bytes)), (h_p0_wordNames, .inl (cJ, 23, .inr (.inl f_p0_wordNames)))]) [0, 1, 3, 4, 8, 2, 5, 6, 7] (by decide) rfl) dX1_readMan_116 rfl (Nat.le_of_ble_eq_true rfl) (Nat.le_of_ble_eq_true rfl) ⟨F166, v164, F137, y138, y139, y140, y141, y30, y31, y142, g33, g67, g105, g143, (SAME.up eF166 SAME.rf (by decide)), (get_eq eF166), (ir_wk k165 (by decide) (by decide)), (SAME.tr (SAME.tr (SAME.tr (SAME.tr (SAME.tr SAME.rf t10 (by decide)) t34 (by decide)) t68 (by decide)) t106 (by decide)) t144 (by decide)), t145, t146, t148, t149, (SAME.at t144 (by decide) (SAME.at t106 (by decide) (SAME.at t68 (by decide) t39))), (SAME.at t144 (by decide) (SAME.at t106 (by decide) (SAME.at t68 (by decide) t40))), t150, t151, (show 0 ≤ (1 : Int32).toInt ∧ (1 : Int32).toInt ≤ 1 by decide), rfl⟩
  · have dc1 : 12 ≤ x_men.toInt := nlt_i (a := x_men.toInt) (b := 12) rfl rfl c1
    have k167 : 12 ≤ x_men.toInt ∧ x_men.toInt ≤ 12 := ⟨Int.le_trans (Int.le_refl _) dc1, i_x_men.2⟩
    refine lv_aload_n hx hb dX1_readMan_9 rfl (lv_at hl 1 rfl) ?_
    refine lv_iconst (v := 4) hx hb dX1_readMan_10 (by decide) ?_
    refine call_Vi (wr := [(h0, .inr (1, vL 18 Fh)), (h_manName, .inl (cJ, 12, .inr (.inl f_manName))), (h_push, .inl (cI, 12, .inl f_push)), (h_feet, .inl (cI, 12, .inl f_feet)), (h_weight, .inl (cI, 12, .inl f_weight)), (h_runnerName, .inl (cJ, 6, .inr (.inl f_runnerName))), (h_p0_bytes, .inl (cB, 940, .inl f_p0_bytes)), (h_p0_wordNames, .inl (cJ, 23, .inr (.inl f_p0_wordNames)))]) (As := [.int 4]) (rest := []) hx hb hml hown hw (m_X6_fail l D cI cJ cB cP cM cZ p0 F_p0_ x_p0_place 4 _ e_p0_place) wV_X1_128_X6_fail dX1_readMan_11 hK hP hD hS hA [6] [0, 1, 2, 3, 4, 5, 7, 8] rfl rfl (by decide) (by decide) (by decide) 0 6 rfl rfl GG.fb hG.at hl.1 rfl (Nat.le_of_ble_eq_true rfl) ⟨(Nat.le_of_ble_eq_true rfl), (Nat.le_of_ble_eq_true rfl)⟩ ⟨(Nat.le_of_ble_eq_true rfl), (Nat.le_of_ble_eq_true rfl)⟩ (fun r168 u H locs hp hP hD hS => ?_)
    obtain ⟨F169, t170, t171, t172, rfl, rfl⟩ := hp
    have hP : va_P D vwCl [(h0, .inr (1, vL 18 Fh)), (h_manName, .inl (cJ, 12, .inr (.inl f_manName))), (h_push, .inl (cI, 12, .inl f_push)), (h_feet, .inl (cI, 12, .inl f_feet)), (h_weight, .inl (cI, 12, .inl f_weight)), (h_runnerName, .inl (cJ, 6, .inr (.inl f_runnerName))), (h_p0_bytes, .inl (cB, 940, .inl f_p0_bytes)), (h_p0_wordNames, .inl (cJ, 23, .inr (.inl f_p0_wordNames))), (p0, .inr (6, vL 12 F169))] H := hP
    have hD : va_D A [(h0, .inr (1, vL 18 Fh)), (h_manName, .inl (cJ, 12, .inr (.inl f_manName))), (h_push, .inl (cI, 12, .inl f_push)), (h_feet, .inl (cI, 12, .inl f_feet)), (h_weight, .inl (cI, 12, .inl f_weight)), (h_runnerName, .inl (cJ, 6, .inr (.inl f_runnerName))), (h_p0_bytes, .inl (cB, 940, .inl f_p0_bytes)), (h_p0_wordNames, .inl (cJ, 23, .inr (.inl f_p0_wordNames))), (p0, .inr (6, vL 12 F169))] := hD
    refine W.widen (k := 0) (n := 0) (Nat.le_of_ble_eq_true rfl) (Nat.le_of_ble_eq_true rfl) ?_
    exact ret_i (v := 0) hx hb hr hlocks hS (hP.sub (ws' := [(h0, .inr (1, vL 18 Fh)), (h_manName, .inl (cJ, 12, .inr (.inl f_manName))), (h_push, .inl (cI, 12, .inl f_push)), (h_feet, .inl (cI, 12, .inl f_feet)), (h_weight, .inl (cI, 12, .inl f_weight)), (h_runnerName, .inl (cJ, 6, .inr (.inl f_runnerName))), (p0, .inr (6, vL 12 F169)), (h_p0_bytes, .inl (cB, 940, .inl f_p0_bytes)), (h_p0_wordNames, .inl (cJ, 23, .inr (.inl f_p0_wordNames)))]) [0, 1, 2, 3, 4, 5, 8, 6, 7] rfl) (hD.sub (ws' := [(h0, .inr (1, vL 18 Fh)), (h_manName, .inl (cJ, 12, .inr (.inl f_manName))), (h_push, .inl (cI, 12, .inl f_push)), (h_feet, .inl (cI, 12, .inl f_feet)), (h_weight, .inl (cI, 12, .inl f_weight)), (h_runnerName, .inl (cJ, 6, .inr (.inl f_runnerName))), (p0, .inr (6, vL 12 F169)), (h_p0_bytes, .inl (cB, 940, .inl f_p0_bytes)), (h_p0_wordNames, .inl (cJ, 23, .inr (.inl f_p0_wordNames)))]) [0, 1, 2, 3, 4, 5, 8, 6, 7] (by decide) rfl) dX1_readMan_14 rfl (Nat.le_of_ble_eq_true rfl) (Nat.le_of_ble_eq_true rfl) ⟨Fh, x_men, F169, x_p0_kind, x_p0_place, x_p0_value, x_p0_name, 4, x_p0_place, x_p0_at, f_manName, f_push, f_feet, f_weight, SAME.rf, e_men, (ir_wk k167 (by decide) (by decide)), (SAME.tr SAME.rf t170 (by decide)), (SAME.at t170 (by decide) e_p0_kind), (SAME.at t170 (by decide) e_p0_place), (SAME.at t170 (by decide) e_p0_value), (SAME.at t170 (by decide) e_p0_name), t171, t172, (SAME.at t170 (by decide) e_p0_at), i_x_p0_at, (show 0 ≤ (0 : Int32).toInt ∧ (0 : Int32).toInt ≤ 1 by decide), rfl⟩
set_option maxHeartbeats 4000000 in
set_option maxRecDepth 100000 in
theorem m_X1_readBend (l : Launch) (D : va_G) (cI cJ cB cP cM cZ : ClassId) (h0 : Nat) (h_length : Nat) (h_drop : Nat) (h_ideal : Nat) (h_over : Nat) (p0 : Nat) (h_p0_bytes : Nat) (h_p0_wordNames : Nat) (Fh : Nat → Value) (x_bends : Int32) (f_length : Nat → Int32) (f_drop : Nat → Int32) (f_ideal : Nat → Int32) (f_over : Nat → Int32) (F_p0_ : Nat → Value) (x_p0_length : Int32) (x_p0_kind : Int32) (x_p0_place : Int32) (x_p0_value : Int32) (x_p0_name : Int64) (x_p0_faultKind : Int32) (x_p0_faultPlace : Int32) (x_p0_at : Int32) (x_p0_mostBytes : Int32) (f_p0_bytes : Nat → Int32) (f_p0_wordNames : Nat → Int64) (sz : Nat) (e_length : Fh 6 = .ref h_length) (e_drop : Fh 7 = .ref h_drop) (e_ideal : Fh 8 = .ref h_ideal) (e_over : Fh 9 = .ref h_over) (e_bends : Fh 14 = .int x_bends) (i_x_bends : IR 0 12 x_bends) (e_p0_bytes : F_p0_ 0 = .ref h_p0_bytes) (e_p0_length : F_p0_ 1 = .int x_p0_length) (i_x_p0_length : IR 0 940 x_p0_length) (e_p0_kind : F_p0_ 2 = .int x_p0_kind) (e_p0_place : F_p0_ 3 = .int x_p0_place) (e_p0_value : F_p0_ 4 = .int x_p0_value) (e_p0_name : F_p0_ 5 = .long x_p0_name) (e_p0_faultKind : F_p0_ 7 = .int x_p0_faultKind) (e_p0_faultPlace : F_p0_ 8 = .int x_p0_faultPlace) (e_p0_wordNames : F_p0_ 9 = .ref h_p0_wordNames) (e_p0_at : F_p0_ 10 = .int x_p0_at) (i_x_p0_at : IR 0 940 x_p0_at) (e_p0_mostBytes : F_p0_ 11 = .int x_p0_mostBytes) : CI l yX1_readBend cX1_readBend 3 (some .boolean) { frames := 3, cells := 0, slots := 0, locals := 67 } (GG D cI cJ cB cP cM cZ) D [(h0, .inr (1, vL 18 Fh)), (h_length, .inl (cI, 12, .inl f_length)), (h_drop, .inl (cI, 12, .inl f_drop)), (h_ideal, .inl (cI, 12, .inl f_ideal)), (h_over, .inl (cI, 12, .inl f_over)), (p0, .inr (6, vL 12 F_p0_)), (h_p0_bytes, .inl (cB, 940, .inl f_p0_bytes)), (h_p0_wordNames, .inl (cJ, 23, .inr (.inl f_p0_wordNames)))] sz [.ref h0, .ref p0] (fun (r : Int32) (u : va_W) => ∃ (Gh : Nat → Value) (y_bends : Int32) (G_p0_ : Nat → Value) (y_p0_kind : Int32) (y_p0_place : Int32) (y_p0_value : Int32) (y_p0_name : Int64) (y_p0_faultKind : Int32) (y_p0_faultPlace : Int32) (y_p0_at : Int32) (g_length : Nat → Int32) (g_drop : Nat → Int32) (g_ideal : Nat → Int32) (g_over : Nat → Int32), SAME [14] Fh Gh ∧ Gh 14 = .int y_bends ∧ IR 0 12 y_bends ∧ SAME [2, 3, 4, 5, 7, 8, 10] F_p0_ G_p0_ ∧ G_p0_ 2 = .int y_p0_kind ∧ G_p0_ 3 = .int y_p0_place ∧ G_p0_ 4 = .int y_p0_value ∧ G_p0_ 5 = .long y_p0_name ∧ G_p0_ 7 = .int y_p0_faultKind ∧ G_p0_ 8 = .int y_p0_faultPlace ∧ G_p0_ 10 = .int y_p0_at ∧ IR 0 940 y_p0_at ∧ IR 0 1 r ∧ u = [(h0, .inr (1, vL 18 Gh)), (h_length, .inl (cI, 12, .inl g_length)), (h_drop, .inl (cI, 12, .inl g_drop)), (h_ideal, .inl (cI, 12, .inl g_ideal)), (h_over, .inl (cI, 12, .inl g_over)), (p0, .inr (6, vL 12 G_p0_)), (h_p0_bytes, .inl (cB, 940, .inl f_p0_bytes)), (h_p0_wordNames, .inl (cJ, 23, .inr (.inl f_p0_wordNames)))]) := by
  refine CI_mk (by decide) (Nat.le_of_ble_eq_true rfl) ?_
  intro p e s m below meth c A ls E hAe hG hsz hP hD hA hS hl
  obtain ⟨hx, hb, hr, hw, hown, hlocks, hml, hnm⟩ := E
  have hK := hG.1
  have i_x_bends : 0 ≤ x_bends.toInt ∧ x_bends.toInt ≤ 12 := i_x_bends
  have i_x_p0_length : 0 ≤ x_p0_length.toInt ∧ x_p0_length.toInt ≤ 940 := i_x_p0_length
  have i_x_p0_at : 0 ≤ x_p0_at.toInt ∧ x_p0_at.toInt ≤ 940 := i_x_p0_at
  have hl : lv_has ls 3 [(0, .ref h0), (1, .ref p0)] := hl
  refine lv_aload_n hx hb dX1_readBend_0 rfl (lv_at hl 0 rfl) ?_
  refine get_f (D := D) (ci := 1) (v := .int x_bends) (C := RX1) (T := TX1) (N := 18) hx hb hw inAX1 hown hK hP 0 rfl rfl 14 (by decide) (hw _ q_354) (fun _ h9 => h9) e_bends dX1_readBend_1 ?_
  refine lv_bipush (v := 12) hx hb dX1_readBend_4 (by decide) ?_
  refine lv_icmp_lt (tgt := 15) hx hb dX1_readBend_6 (by decide) (fun c1 => ?_) (fun c1 => ?_)
  · have dc1 : x_bends.toInt < 12 := lt_i (a := x_bends.toInt) (b := 12) rfl rfl c1
    have k2 : 0 ≤ x_bends.toInt ∧ x_bends.toInt ≤ 11 := ⟨i_x_bends.1, up_lt dc1 (Int.le_refl _) (by decide)⟩
    refine lv_aload_n hx hb dX1_readBend_15 rfl (lv_at hl 1 rfl) ?_
    refine call_Vv (wr := [(h0, .inr (1, vL 18 Fh)), (h_length, .inl (cI, 12, .inl f_length)), (h_drop, .inl (cI, 12, .inl f_drop)), (h_ideal, .inl (cI, 12, .inl f_ideal)), (h_over, .inl (cI, 12, .inl f_over))]) (As := []) (rest := []) hx hb hml hown hw (m_X6_advance l D cI cJ cB cP cM cZ p0 h_p0_bytes h_p0_wordNames F_p0_ x_p0_length x_p0_value x_p0_name x_p0_at x_p0_mostBytes f_p0_bytes f_p0_wordNames _ e_p0_bytes e_p0_length i_x_p0_length e_p0_value e_p0_name e_p0_wordNames e_p0_at i_x_p0_at e_p0_mostBytes) wV_X1_131_X6_advance dX1_readBend_16 hK hP hD hS hA [5, 6, 7] [0, 1, 2, 3, 4] rfl rfl (by decide) (by decide) (by decide) 0 6 rfl rfl GG.fb hG.at hl.1 rfl (Nat.le_of_ble_eq_true rfl) ⟨(Nat.le_of_ble_eq_true rfl), (Nat.le_of_ble_eq_true rfl)⟩ ⟨(Nat.le_of_ble_eq_true rfl), (Nat.le_of_ble_eq_true rfl)⟩ (fun u H locs hp hP hD hS => ?_)
    obtain ⟨F4, y5, y6, y7, y8, y9, t10, t11, t12, t13, t14, t15, t16, t17, rfl⟩ := hp
    have hP : va_P D vwCl [(h0, .inr (1, vL 18 Fh)), (h_length, .inl (cI, 12, .inl f_length)), (h_drop, .inl (cI, 12, .inl f_drop)), (h_ideal, .inl (cI, 12, .inl f_ideal)), (h_over, .inl (cI, 12, .inl f_over)), (p0, .inr (6, vL 12 F4)), (h_p0_bytes, .inl (cB, 940, .inl f_p0_bytes)), (h_p0_wordNames, .inl (cJ, 23, .inr (.inl f_p0_wordNames)))] H := hP
    have hD : va_D A [(h0, .inr (1, vL 18 Fh)), (h_length, .inl (cI, 12, .inl f_length)), (h_drop, .inl (cI, 12, .inl f_drop)), (h_ideal, .inl (cI, 12, .inl f_ideal)), (h_over, .inl (cI, 12, .inl f_over)), (p0, .inr (6, vL 12 F4)), (h_p0_bytes, .inl (cB, 940, .inl f_p0_bytes)), (h_p0_wordNames, .inl (cJ, 23, .inr (.inl f_p0_wordNames)))] := hD
    refine W.widen (k := 0) (n := 0) (Nat.le_of_ble_eq_true rfl) (Nat.le_of_ble_eq_true rfl) ?_
    refine lv_aload_n hx hb dX1_readBend_19 rfl (lv_at hl 1 rfl) ?_
    refine lv_aload_n hx hb dX1_readBend_20 rfl (lv_at hl 0 rfl) ?_
    refine get_f (D := D) (ci := 1) (v := .ref h_length) (C := RX1) (T := TX1) (N := 18) hx hb hw inAX1 hown hK hP 0 rfl rfl 6 (by decide) (hw _ q_336) (fun _ h9 => h9) e_length dX1_readBend_21 ?_
    refine lv_aload_n hx hb dX1_readBend_24 rfl (lv_at hl 0 rfl) ?_
    refine get_f (D := D) (ci := 1) (v := .int x_bends) (C := RX1) (T := TX1) (N := 18) hx hb hw inAX1 hown hK hP 0 rfl rfl 14 (by decide) (hw _ q_354) (fun _ h9 => h9) e_bends dX1_readBend_25 ?_
    refine lv_iconst (v := 1) hx hb dX1_readBend_28 (by decide) ?_
    refine lv_bipush (v := 9) hx hb dX1_readBend_29 (by decide) ?_
    have n18 : F4 0 = .ref h_p0_bytes := (SAME.at t10 (by decide) e_p0_bytes)
    have n19 : F4 1 = .int x_p0_length := (SAME.at t10 (by decide) e_p0_length)
    have n20 : F4 9 = .ref h_p0_wordNames := (SAME.at t10 (by decide) e_p0_wordNames)
    have n21 : F4 11 = .int x_p0_mostBytes := (SAME.at t10 (by decide) e_p0_mostBytes)
    refine call_Vi (wr := [(h0, .inr (1, vL 18 Fh)), (h_drop, .inl (cI, 12, .inl f_drop)), (h_ideal, .inl (cI, 12, .inl f_ideal)), (h_over, .inl (cI, 12, .inl f_over))]) (As := [.ref h_length, .int x_bends, .int 1, .int 9]) (rest := []) hx hb hml hown hw (m_X6_takeInto_12 l D cI cJ cB cP cM cZ p0 h_p0_bytes h_p0_wordNames h_length F4 x_p0_length y5 y6 y7 y8 y9 x_p0_mostBytes f_p0_bytes f_p0_wordNames f_length x_bends 1 9 _ n18 n19 i_x_p0_length t11 t12 t14 t15 n20 t16 t17 n21) wV_X1_140_X6_takeInto dX1_readBend_31 hK hP hD hS hA [5, 6, 7, 1] [0, 2, 3, 4] rfl rfl (by decide) (by decide) (by decide) 0 6 rfl rfl GG.fb hG.at hl.1 rfl (Nat.le_of_ble_eq_true rfl) ⟨(Nat.le_of_ble_eq_true rfl), (Nat.le_of_ble_eq_true rfl)⟩ ⟨(Nat.le_of_ble_eq_true rfl), (Nat.le_of_ble_eq_true rfl)⟩ (fun r22 u H locs hp hP hD hS => ?_)
    rcases hp with ⟨F23, y24, t25, t26, t27, t28, rfl, rfl⟩ | ⟨F29, y30, y31, y32, y33, y34, g35, t36, t37, t38, t39, t40, t41, t42, t43, t44, t45, t46, t47, t48, t49, rfl, rfl⟩
    · have hP : va_P D vwCl [(h0, .inr (1, vL 18 Fh)), (h_drop, .inl (cI, 12, .inl f_drop)), (h_ideal, .inl (cI, 12, .inl f_ideal)), (h_over, .inl (cI, 12, .inl f_over)), (p0, .inr (6, vL 12 F23)), (h_p0_bytes, .inl (cB, 940, .inl f_p0_bytes)), (h_p0_wordNames, .inl (cJ, 23, .inr (.inl f_p0_wordNames))), (h_length, .inl (cI, 12, .inl f_length))] H := hP
      have hD : va_D A [(h0, .inr (1, vL 18 Fh)), (h_drop, .inl (cI, 12, .inl f_drop)), (h_ideal, .inl (cI, 12, .inl f_ideal)), (h_over, .inl (cI, 12, .inl f_over)), (p0, .inr (6, vL 12 F23)), (h_p0_bytes, .inl (cB, 940, .inl f_p0_bytes)), (h_p0_wordNames, .inl (cJ, 23, .inr (.inl f_p0_wordNames))), (h_length, .inl (cI, 12, .inl f_length))] := hD
      refine W.widen (k := 0) (n := 0) (Nat.le_of_ble_eq_true rfl) (Nat.le_of_ble_eq_true rfl) ?_
      refine lv_if_eq (tgt := 95) hx hb dX1_readBend_34 (by decide) (fun _ => ?_) (fun g => absurd (by decide) g)
      refine lv_iconst (v := 0) hx hb dX1_readBend_95 (by decide) ?_
      refine lv_istore_n (lv' := [(2, .int 0), (0, .ref h0), (1, .ref p0)]) hx hb dX1_readBend_96 rfl hl (by decide) rfl (fun ls hl => ?_)
      refine lv_aload_n hx hb dX1_readBend_97 rfl (lv_at hl 1 rfl) ?_
      refine lv_dup hx hb dX1_readBend_98 rfl ?_
      refine get_f (D := D) (ci := 1) (v := .int x_bends) (C := RX1) (T := TX1) (N := 18) hx hb hw inAX1 hown hK hP 0 rfl rfl 14 (by decide) (hw _ q_354) (fun _ h9 => h9) e_bends dX1_readBend_99 ?_
      refine lv_iload_n hx hb dX1_readBend_102 rfl (lv_at hl 0 rfl) ?_
      refine lv_if_eq (tgt := 110) hx hb dX1_readBend_103 (by decide) (fun _ => ?_) (fun g => absurd (by decide) g)
      refine lv_iconst (v := 0) hx hb dX1_readBend_110 (by decide) ?_
      refine lv_iadd hx hb dX1_readBend_111 ?_
      refine lv_topi (fun v50 ev50 => ?_)
      have bv50 : v50.toInt = x_bends.toInt + 0 := by rw [ev50]; exact add_k rfl rfl k2 ⟨Int.le_refl _, Int.le_refl _⟩ (by decide)
      have k51 : 0 ≤ v50.toInt ∧ v50.toInt ≤ 11 := add_r bv50 k2 ⟨Int.le_refl _, Int.le_refl _⟩ (by decide)
      refine put_f (D := D) (ci := 1) (v := .int v50) (ty := .int) (C := RX1) (T := TX1) (N := 18) hx hb hw inAX1 tyX1 tyX1_ok nmX1 hown hK hP hD hS 0 rfl rfl 14 (by decide) (hw _ q_354) (fun _ h9 => h9) rfl (by decide +kernel) rfl rfl dX1_readBend_112 (fun H locs F52 eF52 hP hD hS => ?_)
      have hP : va_P D vwCl [(h0, .inr (1, vL 18 F52)), (h_drop, .inl (cI, 12, .inl f_drop)), (h_ideal, .inl (cI, 12, .inl f_ideal)), (h_over, .inl (cI, 12, .inl f_over)), (p0, .inr (6, vL 12 F23)), (h_p0_bytes, .inl (cB, 940, .inl f_p0_bytes)), (h_p0_wordNames, .inl (cJ, 23, .inr (.inl f_p0_wordNames))), (h_length, .inl (cI, 12, .inl f_length))] H := hP
      have hD : va_D A [(h0, .inr (1, vL 18 F52)), (h_drop, .inl (cI, 12, .inl f_drop)), (h_ideal, .inl (cI, 12, .inl f_ideal)), (h_over, .inl (cI, 12, .inl f_over)), (p0, .inr (6, vL 12 F23)), (h_p0_bytes, .inl (cB, 940, .inl f_p0_bytes)), (h_p0_wordNames, .inl (cJ, 23, .inr (.inl f_p0_wordNames))), (h_length, .inl (cI, 12, .inl f_length))] := hD
      refine lv_iload_n hx hb dX1_readBend_115 rfl (lv_at hl 0 rfl) ?_
      exact ret_i (v := 0) hx hb hr hlocks hS (hP.sub (ws' := [(h0, .inr (1, vL 18 F52)), (h_length, .inl (cI, 12, .inl f_length)), (h_drop, .inl (cI, 12, .inl f_drop)), (h_ideal, .inl (cI, 12, .inl f_ideal)), (h_over, .inl (cI, 12, .inl f_over)), (p0, .inr (6, vL 12 F23)), (h_p0_bytes, .inl (cB, 940, .inl f_p0_bytes)), (h_p0_wordNames, .inl (cJ, 23, .inr (.inl f_p0_wordNames)))]) [0, 7, 1, 2, 3, 4, 5, 6] rfl) (hD.sub (ws' := [(h0, .inr (1, vL 18 F52)), (h_length, .inl (cI, 12, .inl f_length)), (h_drop, .inl (cI, 12, .inl f_drop)), (h_ideal, .inl (cI, 12, .inl f_ideal)), (h_over, .inl (cI, 12, .inl f_over)), (p0, .inr (6, vL 12 F23)), (h_p0_bytes, .inl (cB, 940, .inl f_p0_bytes)), (h_p0_wordNames, .inl (cJ, 23, .inr (.inl f_p0_wordNames)))]) [0, 7, 1, 2, 3, 4, 5, 6] (by decide) rfl) dX1_readBend_116 rfl (Nat.le_of_ble_eq_true rfl) (Nat.le_of_ble_eq_true rfl) ⟨F52, v50, F23, y5, y6, y7, y8, y24, y6, y9, f_length, f_drop, f_ideal, f_over, (SAME.up eF52 SAME.rf (by decide)), (get_eq eF52), (ir_wk k51 (by decide) (by decide)), (SAME.tr (SAME.tr SAME.rf t10 (by decide)) t25 (by decide)), (SAME.at t25 (by decide) t11), (SAME.at t25 (by decide) t12), (SAME.at t25 (by decide) t14), (SAME.at t25 (by decide) t15), t26, t28, (SAME.at t25 (by decide) t16), t17, (show 0 ≤ (0 : Int32).toInt ∧ (0 : Int32).toInt ≤ 1 by decide), rfl⟩
    · have hP : va_P D vwCl [(h0, .inr (1, vL 18 Fh)), (h_drop, .inl (cI, 12, .inl f_drop)), (h_ideal, .inl (cI, 12, .inl f_ideal)), (h_over, .inl (cI, 12, .inl f_over)), (p0, .inr (6, vL 12 F29)), (h_p0_bytes, .inl (cB, 940, .inl f_p0_bytes)), (h_p0_wordNames, .inl (cJ, 23, .inr (.inl f_p0_wordNames))), (h_length, .inl (cI, 12, .inl g35))] H := hP
      have hD : va_D A [(h0, .inr (1, vL 18 Fh)), (h_drop, .inl (cI, 12, .inl f_drop)), (h_ideal, .inl (cI, 12, .inl f_ideal)), (h_over, .inl (cI, 12, .inl f_over)), (p0, .inr (6, vL 12 F29)), (h_p0_bytes, .inl (cB, 940, .inl f_p0_bytes)), (h_p0_wordNames, .inl (cJ, 23, .inr (.inl f_p0_wordNames))), (h_length, .inl (cI, 12, .inl g35))] := hD
      refine W.widen (k := 0) (n := 0) (Nat.le_of_ble_eq_true rfl) (Nat.le_of_ble_eq_true rfl) ?_
      have k53 : 3 ≤ y5.toInt ∧ y5.toInt ≤ 3 := ⟨Int.le_trans (Int.le_refl _) (Int.le_of_eq t46.symm), Int.le_trans (Int.le_of_eq t46) (Int.le_refl _)⟩
      have k54 : 1 ≤ y7.toInt ∧ y7.toInt ≤ 2147483647 := ⟨Int.le_trans (Int.le_refl _) t47, (ir_any _).2⟩
      have k55 : 1 ≤ y7.toInt ∧ y7.toInt ≤ 9 := ⟨k54.1, Int.le_trans t48 (Int.le_refl _)⟩
      refine lv_if_eq (tgt := 95) hx hb dX1_readBend_34 (by decide) (fun g => absurd g (by decide)) (fun _ => ?_)
      refine lv_aload_n hx hb dX1_readBend_37 rfl (lv_at hl 1 rfl) ?_
      refine lv_aload_n hx hb dX1_readBend_38 rfl (lv_at hl 0 rfl) ?_
      refine get_f (D := D) (ci := 1) (v := .ref h_drop) (C := RX1) (T := TX1) (N := 18) hx hb hw inAX1 hown hK hP 0 rfl rfl 7 (by decide) (hw _ q_340) (fun _ h9 => h9) e_drop dX1_readBend_39 ?_
      refine lv_aload_n hx hb dX1_readBend_42 rfl (lv_at hl 0 rfl) ?_
      refine get_f (D := D) (ci := 1) (v := .int x_bends) (C := RX1) (T := TX1) (N := 18) hx hb hw inAX1 hown hK hP 0 rfl rfl 14 (by decide) (hw _ q_354) (fun _ h9 => h9) e_bends dX1_readBend_43 ?_
      refine lv_iconst (v := 0) hx hb dX1_readBend_46 (by decide) ?_
      refine lv_bipush (v := 9) hx hb dX1_readBend_47 (by decide) ?_
      have n56 : F29 0 = .ref h_p0_bytes := (SAME.at t36 (by decide) n18)
      have n57 : F29 1 = .int x_p0_length := (SAME.at t36 (by decide) n19)
      have n58 : F29 9 = .ref h_p0_wordNames := (SAME.at t36 (by decide) n20)
      have n59 : F29 11 = .int x_p0_mostBytes := (SAME.at t36 (by decide) n21)
      refine call_Vi (wr := [(h0, .inr (1, vL 18 Fh)), (h_ideal, .inl (cI, 12, .inl f_ideal)), (h_over, .inl (cI, 12, .inl f_over)), (h_length, .inl (cI, 12, .inl g35))]) (As := [.ref h_drop, .int x_bends, .int 0, .int 9]) (rest := []) hx hb hml hown hw (m_X6_takeInto_12 l D cI cJ cB cP cM cZ p0 h_p0_bytes h_p0_wordNames h_drop F29 x_p0_length y30 y31 y32 y33 y34 x_p0_mostBytes f_p0_bytes f_p0_wordNames f_drop x_bends 0 9 _ n56 n57 i_x_p0_length t37 t38 t40 t41 n58 t42 t43 n59) wV_X1_140_X6_takeInto dX1_readBend_49 hK hP hD hS hA [4, 5, 6, 1] [0, 2, 3, 7] rfl rfl (by decide) (by decide) (by decide) 0 6 rfl rfl GG.fb hG.at hl.1 rfl (Nat.le_of_ble_eq_true rfl) ⟨(Nat.le_of_ble_eq_true rfl), (Nat.le_of_ble_eq_true rfl)⟩ ⟨(Nat.le_of_ble_eq_true rfl), (Nat.le_of_ble_eq_true rfl)⟩ (fun r60 u H locs hp hP hD hS => ?_)
      rcases hp with ⟨F61, y62, t63, t64, t65, t66, rfl, rfl⟩ | ⟨F67, y68, y69, y70, y71, y72, g73, t74, t75, t76, t77, t78, t79, t80, t81, t82, t83, t84, t85, t86, t87, rfl, rfl⟩
      · have hP : va_P D vwCl [(h0, .inr (1, vL 18 Fh)), (h_ideal, .inl (cI, 12, .inl f_ideal)), (h_over, .inl (cI, 12, .inl f_over)), (h_length, .inl (cI, 12, .inl g35)), (p0, .inr (6, vL 12 F61)), (h_p0_bytes, .inl (cB, 940, .inl f_p0_bytes)), (h_p0_wordNames, .inl (cJ, 23, .inr (.inl f_p0_wordNames))), (h_drop, .inl (cI, 12, .inl f_drop))] H := hP
        have hD : va_D A [(h0, .inr (1, vL 18 Fh)), (h_ideal, .inl (cI, 12, .inl f_ideal)), (h_over, .inl (cI, 12, .inl f_over)), (h_length, .inl (cI, 12, .inl g35)), (p0, .inr (6, vL 12 F61)), (h_p0_bytes, .inl (cB, 940, .inl f_p0_bytes)), (h_p0_wordNames, .inl (cJ, 23, .inr (.inl f_p0_wordNames))), (h_drop, .inl (cI, 12, .inl f_drop))] := hD
        refine W.widen (k := 0) (n := 0) (Nat.le_of_ble_eq_true rfl) (Nat.le_of_ble_eq_true rfl) ?_
        refine lv_if_eq (tgt := 95) hx hb dX1_readBend_52 (by decide) (fun _ => ?_) (fun g => absurd (by decide) g)
        refine lv_iconst (v := 0) hx hb dX1_readBend_95 (by decide) ?_
        refine lv_istore_n (lv' := [(2, .int 0), (0, .ref h0), (1, .ref p0)]) hx hb dX1_readBend_96 rfl hl (by decide) rfl (fun ls hl => ?_)
        refine lv_aload_n hx hb dX1_readBend_97 rfl (lv_at hl 1 rfl) ?_
        refine lv_dup hx hb dX1_readBend_98 rfl ?_
        refine get_f (D := D) (ci := 1) (v := .int x_bends) (C := RX1) (T := TX1) (N := 18) hx hb hw inAX1 hown hK hP 0 rfl rfl 14 (by decide) (hw _ q_354) (fun _ h9 => h9) e_bends dX1_readBend_99 ?_
        refine lv_iload_n hx hb dX1_readBend_102 rfl (lv_at hl 0 rfl) ?_
        refine lv_if_eq (tgt := 110) hx hb dX1_readBend_103 (by decide) (fun _ => ?_) (fun g => absurd (by decide) g)
        refine lv_iconst (v := 0) hx hb dX1_readBend_110 (by decide) ?_
        refine lv_iadd hx hb dX1_readBend_111 ?_
        refine lv_topi (fun v88 ev88 => ?_)
        have bv88 : v88.toInt = x_bends.toInt + 0 := by rw [ev88]; exact add_k rfl rfl k2 ⟨Int.le_refl _, Int.le_refl _⟩ (by decide)
        have k89 : 0 ≤ v88.toInt ∧ v88.toInt ≤ 11 := add_r bv88 k2 ⟨Int.le_refl _, Int.le_refl _⟩ (by decide)
        refine put_f (D := D) (ci := 1) (v := .int v88) (ty := .int) (C := RX1) (T := TX1) (N := 18) hx hb hw inAX1 tyX1 tyX1_ok nmX1 hown hK hP hD hS 0 rfl rfl 14 (by decide) (hw _ q_354) (fun _ h9 => h9) rfl (by decide +kernel) rfl rfl dX1_readBend_112 (fun H locs F90 eF90 hP hD hS => ?_)
        have hP : va_P D vwCl [(h0, .inr (1, vL 18 F90)), (h_ideal, .inl (cI, 12, .inl f_ideal)), (h_over, .inl (cI, 12, .inl f_over)), (h_length, .inl (cI, 12, .inl g35)), (p0, .inr (6, vL 12 F61)), (h_p0_bytes, .inl (cB, 940, .inl f_p0_bytes)), (h_p0_wordNames, .inl (cJ, 23, .inr (.inl f_p0_wordNames))), (h_drop, .inl (cI, 12, .inl f_drop))] H := hP
        have hD : va_D A [(h0, .inr (1, vL 18 F90)), (h_ideal, .inl (cI, 12, .inl f_ideal)), (h_over, .inl (cI, 12, .inl f_over)), (h_length, .inl (cI, 12, .inl g35)), (p0, .inr (6, vL 12 F61)), (h_p0_bytes, .inl (cB, 940, .inl f_p0_bytes)), (h_p0_wordNames, .inl (cJ, 23, .inr (.inl f_p0_wordNames))), (h_drop, .inl (cI, 12, .inl f_drop))] := hD
        refine lv_iload_n hx hb dX1_readBend_115 rfl (lv_at hl 0 rfl) ?_
        exact ret_i (v := 0) hx hb hr hlocks hS (hP.sub (ws' := [(h0, .inr (1, vL 18 F90)), (h_length, .inl (cI, 12, .inl g35)), (h_drop, .inl (cI, 12, .inl f_drop)), (h_ideal, .inl (cI, 12, .inl f_ideal)), (h_over, .inl (cI, 12, .inl f_over)), (p0, .inr (6, vL 12 F61)), (h_p0_bytes, .inl (cB, 940, .inl f_p0_bytes)), (h_p0_wordNames, .inl (cJ, 23, .inr (.inl f_p0_wordNames)))]) [0, 3, 7, 1, 2, 4, 5, 6] rfl) (hD.sub (ws' := [(h0, .inr (1, vL 18 F90)), (h_length, .inl (cI, 12, .inl g35)), (h_drop, .inl (cI, 12, .inl f_drop)), (h_ideal, .inl (cI, 12, .inl f_ideal)), (h_over, .inl (cI, 12, .inl f_over)), (p0, .inr (6, vL 12 F61)), (h_p0_bytes, .inl (cB, 940, .inl f_p0_bytes)), (h_p0_wordNames, .inl (cJ, 23, .inr (.inl f_p0_wordNames)))]) [0, 3, 7, 1, 2, 4, 5, 6] (by decide) rfl) dX1_readBend_116 rfl (Nat.le_of_ble_eq_true rfl) (Nat.le_of_ble_eq_true rfl) ⟨F90, v88, F61, y30, y31, y32, y33, y62, y31, y34, g35, f_drop, f_ideal, f_over, (SAME.up eF90 SAME.rf (by decide)), (get_eq eF90), (ir_wk k89 (by decide) (by decide)), (SAME.tr (SAME.tr (SAME.tr SAME.rf t10 (by decide)) t36 (by decide)) t63 (by decide)), (SAME.at t63 (by decide) t37), (SAME.at t63 (by decide) t38), (SAME.at t63 (by decide) t40), (SAME.at t63 (by decide) t41), t64, t66, (SAME.at t63 (by decide) t42), t43, (show 0 ≤ (0 : Int32).toInt ∧ (0 : Int32).toInt ≤ 1 by decide), rfl⟩
      · have hP : va_P D vwCl [(h0, .inr (1, vL 18 Fh)), (h_ideal, .inl (cI, 12, .inl f_ideal)), (h_over, .inl (cI, 12, .inl f_over)), (h_length, .inl (cI, 12, .inl g35)), (p0, .inr (6, vL 12 F67)), (h_p0_bytes, .inl (cB, 940, .inl f_p0_bytes)), (h_p0_wordNames, .inl (cJ, 23, .inr (.inl f_p0_wordNames))), (h_drop, .inl (cI, 12, .inl g73))] H := hP
        have hD : va_D A [(h0, .inr (1, vL 18 Fh)), (h_ideal, .inl (cI, 12, .inl f_ideal)), (h_over, .inl (cI, 12, .inl f_over)), (h_length, .inl (cI, 12, .inl g35)), (p0, .inr (6, vL 12 F67)), (h_p0_bytes, .inl (cB, 940, .inl f_p0_bytes)), (h_p0_wordNames, .inl (cJ, 23, .inr (.inl f_p0_wordNames))), (h_drop, .inl (cI, 12, .inl g73))] := hD
        refine W.widen (k := 0) (n := 0) (Nat.le_of_ble_eq_true rfl) (Nat.le_of_ble_eq_true rfl) ?_
        have k91 : 3 ≤ y30.toInt ∧ y30.toInt ≤ 3 := ⟨Int.le_trans (Int.le_refl _) (Int.le_of_eq t84.symm), Int.le_trans (Int.le_of_eq t84) (Int.le_refl _)⟩
        have k92 : 0 ≤ y32.toInt ∧ y32.toInt ≤ 2147483647 := ⟨Int.le_trans (Int.le_refl _) t85, (ir_any _).2⟩
        have k93 : 0 ≤ y32.toInt ∧ y32.toInt ≤ 9 := ⟨k92.1, Int.le_trans t86 (Int.le_refl _)⟩
        refine lv_if_eq (tgt := 95) hx hb dX1_readBend_52 (by decide) (fun g => absurd g (by decide)) (fun _ => ?_)
        refine lv_aload_n hx hb dX1_readBend_55 rfl (lv_at hl 1 rfl) ?_
        refine lv_aload_n hx hb dX1_readBend_56 rfl (lv_at hl 0 rfl) ?_
        refine get_f (D := D) (ci := 1) (v := .ref h_ideal) (C := RX1) (T := TX1) (N := 18) hx hb hw inAX1 hown hK hP 0 rfl rfl 8 (by decide) (hw _ q_342) (fun _ h9 => h9) e_ideal dX1_readBend_57 ?_
        refine lv_aload_n hx hb dX1_readBend_60 rfl (lv_at hl 0 rfl) ?_
        refine get_f (D := D) (ci := 1) (v := .int x_bends) (C := RX1) (T := TX1) (N := 18) hx hb hw inAX1 hown hK hP 0 rfl rfl 14 (by decide) (hw _ q_354) (fun _ h9 => h9) e_bends dX1_readBend_61 ?_
        refine lv_iconst (v := 0) hx hb dX1_readBend_64 (by decide) ?_
        refine lv_bipush (v := 9) hx hb dX1_readBend_65 (by decide) ?_
        have n94 : F67 0 = .ref h_p0_bytes := (SAME.at t74 (by decide) n56)
        have n95 : F67 1 = .int x_p0_length := (SAME.at t74 (by decide) n57)
        have n96 : F67 9 = .ref h_p0_wordNames := (SAME.at t74 (by decide) n58)
        have n97 : F67 11 = .int x_p0_mostBytes := (SAME.at t74 (by decide) n59)
        refine call_Vi (wr := [(h0, .inr (1, vL 18 Fh)), (h_over, .inl (cI, 12, .inl f_over)), (h_length, .inl (cI, 12, .inl g35)), (h_drop, .inl (cI, 12, .inl g73))]) (As := [.ref h_ideal, .int x_bends, .int 0, .int 9]) (rest := []) hx hb hml hown hw (m_X6_takeInto_12 l D cI cJ cB cP cM cZ p0 h_p0_bytes h_p0_wordNames h_ideal F67 x_p0_length y68 y69 y70 y71 y72 x_p0_mostBytes f_p0_bytes f_p0_wordNames f_ideal x_bends 0 9 _ n94 n95 i_x_p0_length t75 t76 t78 t79 n96 t80 t81 n97) wV_X1_140_X6_takeInto dX1_readBend_67 hK hP hD hS hA [4, 5, 6, 1] [0, 2, 3, 7] rfl rfl (by decide) (by decide) (by decide) 0 6 rfl rfl GG.fb hG.at hl.1 rfl (Nat.le_of_ble_eq_true rfl) ⟨(Nat.le_of_ble_eq_true rfl), (Nat.le_of_ble_eq_true rfl)⟩ ⟨(Nat.le_of_ble_eq_true rfl), (Nat.le_of_ble_eq_true rfl)⟩ (fun r98 u H locs hp hP hD hS => ?_)
        rcases hp with ⟨F99, y100, t101, t102, t103, t104, rfl, rfl⟩ | ⟨F105, y106, y107, y108, y109, y110, g111, t112, t113, t114, t115, t116, t117, t118, t119, t120, t121, t122, t123, t124, t125, rfl, rfl⟩
        · have hP : va_P D vwCl [(h0, .inr (1, vL 18 Fh)), (h_over, .inl (cI, 12, .inl f_over)), (h_length, .inl (cI, 12, .inl g35)), (h_drop, .inl (cI, 12, .inl g73)), (p0, .inr (6, vL 12 F99)), (h_p0_bytes, .inl (cB, 940, .inl f_p0_bytes)), (h_p0_wordNames, .inl (cJ, 23, .inr (.inl f_p0_wordNames))), (h_ideal, .inl (cI, 12, .inl f_ideal))] H := hP
          have hD : va_D A [(h0, .inr (1, vL 18 Fh)), (h_over, .inl (cI, 12, .inl f_over)), (h_length, .inl (cI, 12, .inl g35)), (h_drop, .inl (cI, 12, .inl g73)), (p0, .inr (6, vL 12 F99)), (h_p0_bytes, .inl (cB, 940, .inl f_p0_bytes)), (h_p0_wordNames, .inl (cJ, 23, .inr (.inl f_p0_wordNames))), (h_ideal, .inl (cI, 12, .inl f_ideal))] := hD
          refine W.widen (k := 0) (n := 0) (Nat.le_of_ble_eq_true rfl) (Nat.le_of_ble_eq_true rfl) ?_
          refine lv_if_eq (tgt := 95) hx hb dX1_readBend_70 (by decide) (fun _ => ?_) (fun g => absurd (by decide) g)
          refine lv_iconst (v := 0) hx hb dX1_readBend_95 (by decide) ?_
          refine lv_istore_n (lv' := [(2, .int 0), (0, .ref h0), (1, .ref p0)]) hx hb dX1_readBend_96 rfl hl (by decide) rfl (fun ls hl => ?_)
          refine lv_aload_n hx hb dX1_readBend_97 rfl (lv_at hl 1 rfl) ?_
          refine lv_dup hx hb dX1_readBend_98 rfl ?_
          refine get_f (D := D) (ci := 1) (v := .int x_bends) (C := RX1) (T := TX1) (N := 18) hx hb hw inAX1 hown hK hP 0 rfl rfl 14 (by decide) (hw _ q_354) (fun _ h9 => h9) e_bends dX1_readBend_99 ?_
          refine lv_iload_n hx hb dX1_readBend_102 rfl (lv_at hl 0 rfl) ?_
          refine lv_if_eq (tgt := 110) hx hb dX1_readBend_103 (by decide) (fun _ => ?_) (fun g => absurd (by decide) g)
          refine lv_iconst (v := 0) hx hb dX1_readBend_110 (by decide) ?_
          refine lv_iadd hx hb dX1_readBend_111 ?_
          refine lv_topi (fun v126 ev126 => ?_)
          have bv126 : v126.toInt = x_bends.toInt + 0 := by rw [ev126]; exact add_k rfl rfl k2 ⟨Int.le_refl _, Int.le_refl _⟩ (by decide)
          have k127 : 0 ≤ v126.toInt ∧ v126.toInt ≤ 11 := add_r bv126 k2 ⟨Int.le_refl _, Int.le_refl _⟩ (by decide)
          refine put_f (D := D) (ci := 1) (v := .int v126) (ty := .int) (C := RX1) (T := TX1) (N := 18) hx hb hw inAX1 tyX1 tyX1_ok nmX1 hown hK hP hD hS 0 rfl rfl 14 (by decide) (hw _ q_354) (fun _ h9 => h9) rfl (by decide +kernel) rfl rfl dX1_readBend_112 (fun H locs F128 eF128 hP hD hS => ?_)
          have hP : va_P D vwCl [(h0, .inr (1, vL 18 F128)), (h_over, .inl (cI, 12, .inl f_over)), (h_length, .inl (cI, 12, .inl g35)), (h_drop, .inl (cI, 12, .inl g73)), (p0, .inr (6, vL 12 F99)), (h_p0_bytes, .inl (cB, 940, .inl f_p0_bytes)), (h_p0_wordNames, .inl (cJ, 23, .inr (.inl f_p0_wordNames))), (h_ideal, .inl (cI, 12, .inl f_ideal))] H := hP
          have hD : va_D A [(h0, .inr (1, vL 18 F128)), (h_over, .inl (cI, 12, .inl f_over)), (h_length, .inl (cI, 12, .inl g35)), (h_drop, .inl (cI, 12, .inl g73)), (p0, .inr (6, vL 12 F99)), (h_p0_bytes, .inl (cB, 940, .inl f_p0_bytes)), (h_p0_wordNames, .inl (cJ, 23, .inr (.inl f_p0_wordNames))), (h_ideal, .inl (cI, 12, .inl f_ideal))] := hD
          refine lv_iload_n hx hb dX1_readBend_115 rfl (lv_at hl 0 rfl) ?_
          exact ret_i (v := 0) hx hb hr hlocks hS (hP.sub (ws' := [(h0, .inr (1, vL 18 F128)), (h_length, .inl (cI, 12, .inl g35)), (h_drop, .inl (cI, 12, .inl g73)), (h_ideal, .inl (cI, 12, .inl f_ideal)), (h_over, .inl (cI, 12, .inl f_over)), (p0, .inr (6, vL 12 F99)), (h_p0_bytes, .inl (cB, 940, .inl f_p0_bytes)), (h_p0_wordNames, .inl (cJ, 23, .inr (.inl f_p0_wordNames)))]) [0, 2, 3, 7, 1, 4, 5, 6] rfl) (hD.sub (ws' := [(h0, .inr (1, vL 18 F128)), (h_length, .inl (cI, 12, .inl g35)), (h_drop, .inl (cI, 12, .inl g73)), (h_ideal, .inl (cI, 12, .inl f_ideal)), (h_over, .inl (cI, 12, .inl f_over)), (p0, .inr (6, vL 12 F99)), (h_p0_bytes, .inl (cB, 940, .inl f_p0_bytes)), (h_p0_wordNames, .inl (cJ, 23, .inr (.inl f_p0_wordNames)))]) [0, 2, 3, 7, 1, 4, 5, 6] (by decide) rfl) dX1_readBend_116 rfl (Nat.le_of_ble_eq_true rfl) (Nat.le_of_ble_eq_true rfl) ⟨F128, v126, F99, y68, y69, y70, y71, y100, y69, y72, g35, g73, f_ideal, f_over, (SAME.up eF128 SAME.rf (by decide)), (get_eq eF128), (ir_wk k127 (by decide) (by decide)), (SAME.tr (SAME.tr (SAME.tr (SAME.tr SAME.rf t10 (by decide)) t36 (by decide)) t74 (by decide)) t101 (by decide)), (SAME.at t101 (by decide) t75), (SAME.at t101 (by decide) t76), (SAME.at t101 (by decide) t78), (SAME.at t101 (by decide) t79), t102, t104, (SAME.at t101 (by decide) t80), t81, (show 0 ≤ (0 : Int32).toInt ∧ (0 : Int32).toInt ≤ 1 by decide), rfl⟩
        · have hP : va_P D vwCl [(h0, .inr (1, vL 18 Fh)), (h_over, .inl (cI, 12, .inl f_over)), (h_length, .inl (cI, 12, .inl g35)), (h_drop, .inl (cI, 12, .inl g73)), (p0, .inr (6, vL 12 F105)), (h_p0_bytes, .inl (cB, 940, .inl f_p0_bytes)), (h_p0_wordNames, .inl (cJ, 23, .inr (.inl f_p0_wordNames))), (h_ideal, .inl (cI, 12, .inl g111))] H := hP
          have hD : va_D A [(h0, .inr (1, vL 18 Fh)), (h_over, .inl (cI, 12, .inl f_over)), (h_length, .inl (cI, 12, .inl g35)), (h_drop, .inl (cI, 12, .inl g73)), (p0, .inr (6, vL 12 F105)), (h_p0_bytes, .inl (cB, 940, .inl f_p0_bytes)), (h_p0_wordNames, .inl (cJ, 23, .inr (.inl f_p0_wordNames))), (h_ideal, .inl (cI, 12, .inl g111))] := hD
          refine W.widen (k := 0) (n := 0) (Nat.le_of_ble_eq_true rfl) (Nat.le_of_ble_eq_true rfl) ?_
          have k129 : 3 ≤ y68.toInt ∧ y68.toInt ≤ 3 := ⟨Int.le_trans (Int.le_refl _) (Int.le_of_eq t122.symm), Int.le_trans (Int.le_of_eq t122) (Int.le_refl _)⟩
          have k130 : 0 ≤ y70.toInt ∧ y70.toInt ≤ 2147483647 := ⟨Int.le_trans (Int.le_refl _) t123, (ir_any _).2⟩
          have k131 : 0 ≤ y70.toInt ∧ y70.toInt ≤ 9 := ⟨k130.1, Int.le_trans t124 (Int.le_refl _)⟩
          refine lv_if_eq (tgt := 95) hx hb dX1_readBend_70 (by decide) (fun g => absurd g (by decide)) (fun _ => ?_)
          refine lv_aload_n hx hb dX1_readBend_73 rfl (lv_at hl 1 rfl) ?_
          refine lv_aload_n hx hb dX1_readBend_74 rfl (lv_at hl 0 rfl) ?_
          refine get_f (D := D) (ci := 1) (v := .ref h_over) (C := RX1) (T := TX1) (N := 18) hx hb hw inAX1 hown hK hP 0 rfl rfl 9 (by decide) (hw _ q_345) (fun _ h9 => h9) e_over dX1_readBend_75 ?_
          refine lv_aload_n hx hb dX1_readBend_78 rfl (lv_at hl 0 rfl) ?_
          refine get_f (D := D) (ci := 1) (v := .int x_bends) (C := RX1) (T := TX1) (N := 18) hx hb hw inAX1 hown hK hP 0 rfl rfl 14 (by decide) (hw _ q_354) (fun _ h9 => h9) e_bends dX1_readBend_79 ?_
          refine lv_iconst (v := 1) hx hb dX1_readBend_82 (by decide) ?_
          refine lv_bipush (v := 99) hx hb dX1_readBend_83 (by decide) ?_
          have n132 : F105 0 = .ref h_p0_bytes := (SAME.at t112 (by decide) n94)
          have n133 : F105 1 = .int x_p0_length := (SAME.at t112 (by decide) n95)
          have n134 : F105 9 = .ref h_p0_wordNames := (SAME.at t112 (by decide) n96)
          have n135 : F105 11 = .int x_p0_mostBytes := (SAME.at t112 (by decide) n97)
          refine call_Vi (wr := [(h0, .inr (1, vL 18 Fh)), (h_length, .inl (cI, 12, .inl g35)), (h_drop, .inl (cI, 12, .inl g73)), (h_ideal, .inl (cI, 12, .inl g111))]) (As := [.ref h_over, .int x_bends, .int 1, .int 99]) (rest := []) hx hb hml hown hw (m_X6_takeInto_12 l D cI cJ cB cP cM cZ p0 h_p0_bytes h_p0_wordNames h_over F105 x_p0_length y106 y107 y108 y109 y110 x_p0_mostBytes f_p0_bytes f_p0_wordNames f_over x_bends 1 99 _ n132 n133 i_x_p0_length t113 t114 t116 t117 n134 t118 t119 n135) wV_X1_140_X6_takeInto dX1_readBend_85 hK hP hD hS hA [4, 5, 6, 1] [0, 2, 3, 7] rfl rfl (by decide) (by decide) (by decide) 0 6 rfl rfl GG.fb hG.at hl.1 rfl (Nat.le_of_ble_eq_true rfl) ⟨(Nat.le_of_ble_eq_true rfl), (Nat.le_of_ble_eq_true rfl)⟩ ⟨(Nat.le_of_ble_eq_true rfl), (Nat.le_of_ble_eq_true rfl)⟩ (fun r136 u H locs hp hP hD hS => ?_)
          rcases hp with ⟨F137, y138, t139, t140, t141, t142, rfl, rfl⟩ | ⟨F143, y144, y145, y146, y147, y148, g149, t150, t151, t152, t153, t154, t155, t156, t157, t158, t159, t160, t161, t162, t163, rfl, rfl⟩
          · have hP : va_P D vwCl [(h0, .inr (1, vL 18 Fh)), (h_length, .inl (cI, 12, .inl g35)), (h_drop, .inl (cI, 12, .inl g73)), (h_ideal, .inl (cI, 12, .inl g111)), (p0, .inr (6, vL 12 F137)), (h_p0_bytes, .inl (cB, 940, .inl f_p0_bytes)), (h_p0_wordNames, .inl (cJ, 23, .inr (.inl f_p0_wordNames))), (h_over, .inl (cI, 12, .inl f_over))] H := hP
            have hD : va_D A [(h0, .inr (1, vL 18 Fh)), (h_length, .inl (cI, 12, .inl g35)), (h_drop, .inl (cI, 12, .inl g73)), (h_ideal, .inl (cI, 12, .inl g111)), (p0, .inr (6, vL 12 F137)), (h_p0_bytes, .inl (cB, 940, .inl f_p0_bytes)), (h_p0_wordNames, .inl (cJ, 23, .inr (.inl f_p0_wordNames))), (h_over, .inl (cI, 12, .inl f_over))] := hD
            refine W.widen (k := 0) (n := 0) (Nat.le_of_ble_eq_true rfl) (Nat.le_of_ble_eq_true rfl) ?_
            refine lv_if_eq (tgt := 95) hx hb dX1_readBend_88 (by decide) (fun _ => ?_) (fun g => absurd (by decide) g)
            refine lv_iconst (v := 0) hx hb dX1_readBend_95 (by decide) ?_
            refine lv_istore_n (lv' := [(2, .int 0), (0, .ref h0), (1, .ref p0)]) hx hb dX1_readBend_96 rfl hl (by decide) rfl (fun ls hl => ?_)
            refine lv_aload_n hx hb dX1_readBend_97 rfl (lv_at hl 1 rfl) ?_
            refine lv_dup hx hb dX1_readBend_98 rfl ?_
            refine get_f (D := D) (ci := 1) (v := .int x_bends) (C := RX1) (T := TX1) (N := 18) hx hb hw inAX1 hown hK hP 0 rfl rfl 14 (by decide) (hw _ q_354) (fun _ h9 => h9) e_bends dX1_readBend_99 ?_
            refine lv_iload_n hx hb dX1_readBend_102 rfl (lv_at hl 0 rfl) ?_
            refine lv_if_eq (tgt := 110) hx hb dX1_readBend_103 (by decide) (fun _ => ?_) (fun g => absurd (by decide) g)
            refine lv_iconst (v := 0) hx hb dX1_readBend_110 (by decide) ?_
            refine lv_iadd hx hb dX1_readBend_111 ?_
            refine lv_topi (fun v164 ev164 => ?_)
            have bv164 : v164.toInt = x_bends.toInt + 0 := by rw [ev164]; exact add_k rfl rfl k2 ⟨Int.le_refl _, Int.le_refl _⟩ (by decide)
            have k165 : 0 ≤ v164.toInt ∧ v164.toInt ≤ 11 := add_r bv164 k2 ⟨Int.le_refl _, Int.le_refl _⟩ (by decide)
            refine put_f (D := D) (ci := 1) (v := .int v164) (ty := .int) (C := RX1) (T := TX1) (N := 18) hx hb hw inAX1 tyX1 tyX1_ok nmX1 hown hK hP hD hS 0 rfl rfl 14 (by decide) (hw _ q_354) (fun _ h9 => h9) rfl (by decide +kernel) rfl rfl dX1_readBend_112 (fun H locs F166 eF166 hP hD hS => ?_)
            have hP : va_P D vwCl [(h0, .inr (1, vL 18 F166)), (h_length, .inl (cI, 12, .inl g35)), (h_drop, .inl (cI, 12, .inl g73)), (h_ideal, .inl (cI, 12, .inl g111)), (p0, .inr (6, vL 12 F137)), (h_p0_bytes, .inl (cB, 940, .inl f_p0_bytes)), (h_p0_wordNames, .inl (cJ, 23, .inr (.inl f_p0_wordNames))), (h_over, .inl (cI, 12, .inl f_over))] H := hP
            have hD : va_D A [(h0, .inr (1, vL 18 F166)), (h_length, .inl (cI, 12, .inl g35)), (h_drop, .inl (cI, 12, .inl g73)), (h_ideal, .inl (cI, 12, .inl g111)), (p0, .inr (6, vL 12 F137)), (h_p0_bytes, .inl (cB, 940, .inl f_p0_bytes)), (h_p0_wordNames, .inl (cJ, 23, .inr (.inl f_p0_wordNames))), (h_over, .inl (cI, 12, .inl f_over))] := hD
            refine lv_iload_n hx hb dX1_readBend_115 rfl (lv_at hl 0 rfl) ?_
            exact ret_i (v := 0) hx hb hr hlocks hS (hP.sub (ws' := [(h0, .inr (1, vL 18 F166)), (h_length, .inl (cI, 12, .inl g35)), (h_drop, .inl (cI, 12, .inl g73)), (h_ideal, .inl (cI, 12, .inl g111)), (h_over, .inl (cI, 12, .inl f_over)), (p0, .inr (6, vL 12 F137)), (h_p0_bytes, .inl (cB, 940, .inl f_p0_bytes)), (h_p0_wordNames, .inl (cJ, 23, .inr (.inl f_p0_wordNames)))]) [0, 1, 2, 3, 7, 4, 5, 6] rfl) (hD.sub (ws' := [(h0, .inr (1, vL 18 F166)), (h_length, .inl (cI, 12, .inl g35)), (h_drop, .inl (cI, 12, .inl g73)), (h_ideal, .inl (cI, 12, .inl g111)), (h_over, .inl (cI, 12, .inl f_over)), (p0, .inr (6, vL 12 F137)), (h_p0_bytes, .inl (cB, 940, .inl f_p0_bytes)), (h_p0_wordNames, .inl (cJ, 23, .inr (.inl f_p0_wordNames)))]) [0, 1, 2, 3, 7, 4, 5, 6] (by decide) rfl) dX1_readBend_116 rfl (Nat.le_of_ble_eq_true rfl) (Nat.le_of_ble_eq_true rfl) ⟨F166, v164, F137, y106, y107, y108, y109, y138, y107, y110, g35, g73, g111, f_over, (SAME.up eF166 SAME.rf (by decide)), (get_eq eF166), (ir_wk k165 (by decide) (by decide)), (SAME.tr (SAME.tr (SAME.tr (SAME.tr (SAME.tr SAME.rf t10 (by decide)) t36 (by decide)) t74 (by decide)) t112 (by decide)) t139 (by decide)), (SAME.at t139 (by decide) t113), (SAME.at t139 (by decide) t114), (SAME.at t139 (by decide) t116), (SAME.at t139 (by decide) t117), t140, t142, (SAME.at t139 (by decide) t118), t119, (show 0 ≤ (0 : Int32).toInt ∧ (0 : Int32).toInt ≤ 1 by decide), rfl⟩
          · have hP : va_P D vwCl [(h0, .inr (1, vL 18 Fh)), (h_length, .inl (cI, 12, .inl g35)), (h_drop, .inl (cI, 12, .inl g73)), (h_ideal, .inl (cI, 12, .inl g111)), (p0, .inr (6, vL 12 F143)), (h_p0_bytes, .inl (cB, 940, .inl f_p0_bytes)), (h_p0_wordNames, .inl (cJ, 23, .inr (.inl f_p0_wordNames))), (h_over, .inl (cI, 12, .inl g149))] H := hP
            have hD : va_D A [(h0, .inr (1, vL 18 Fh)), (h_length, .inl (cI, 12, .inl g35)), (h_drop, .inl (cI, 12, .inl g73)), (h_ideal, .inl (cI, 12, .inl g111)), (p0, .inr (6, vL 12 F143)), (h_p0_bytes, .inl (cB, 940, .inl f_p0_bytes)), (h_p0_wordNames, .inl (cJ, 23, .inr (.inl f_p0_wordNames))), (h_over, .inl (cI, 12, .inl g149))] := hD
            refine W.widen (k := 0) (n := 0) (Nat.le_of_ble_eq_true rfl) (Nat.le_of_ble_eq_true rfl) ?_
            have k167 : 3 ≤ y106.toInt ∧ y106.toInt ≤ 3 := ⟨Int.le_trans (Int.le_refl _) (Int.le_of_eq t160.symm), Int.le_trans (Int.le_of_eq t160) (Int.le_refl _)⟩
            have k168 : 1 ≤ y108.toInt ∧ y108.toInt ≤ 2147483647 := ⟨Int.le_trans (Int.le_refl _) t161, (ir_any _).2⟩
            have k169 : 1 ≤ y108.toInt ∧ y108.toInt ≤ 99 := ⟨k168.1, Int.le_trans t162 (Int.le_refl _)⟩
            refine lv_if_eq (tgt := 95) hx hb dX1_readBend_88 (by decide) (fun g => absurd g (by decide)) (fun _ => ?_)
            refine lv_iconst (v := 1) hx hb dX1_readBend_91 (by decide) ?_
            refine lv_goto (tgt := 96) hx hb dX1_readBend_92 (by decide) ?_
            refine lv_istore_n (lv' := [(2, .int 1), (0, .ref h0), (1, .ref p0)]) hx hb dX1_readBend_96 rfl hl (by decide) rfl (fun ls hl => ?_)
            refine lv_aload_n hx hb dX1_readBend_97 rfl (lv_at hl 1 rfl) ?_
            refine lv_dup hx hb dX1_readBend_98 rfl ?_
            refine get_f (D := D) (ci := 1) (v := .int x_bends) (C := RX1) (T := TX1) (N := 18) hx hb hw inAX1 hown hK hP 0 rfl rfl 14 (by decide) (hw _ q_354) (fun _ h9 => h9) e_bends dX1_readBend_99 ?_
            refine lv_iload_n hx hb dX1_readBend_102 rfl (lv_at hl 0 rfl) ?_
            refine lv_if_eq (tgt := 110) hx hb dX1_readBend_103 (by decide) (fun g => absurd g (by decide)) (fun _ => ?_)
            refine lv_iconst (v := 1) hx hb dX1_readBend_106 (by decide) ?_
            refine lv_goto (tgt := 111) hx hb dX1_readBend_107 (by decide) ?_
            refine lv_iadd hx hb dX1_readBend_111 ?_
            refine lv_topi (fun v170 ev170 => ?_)
            have bv170 : v170.toInt = x_bends.toInt + 1 := by rw [ev170]; exact add_k rfl rfl k2 ⟨Int.le_refl _, Int.le_refl _⟩ (by decide)
            have k171 : 1 ≤ v170.toInt ∧ v170.toInt ≤ 12 := add_r bv170 k2 ⟨Int.le_refl _, Int.le_refl _⟩ (by decide)
            refine put_f (D := D) (ci := 1) (v := .int v170) (ty := .int) (C := RX1) (T := TX1) (N := 18) hx hb hw inAX1 tyX1 tyX1_ok nmX1 hown hK hP hD hS 0 rfl rfl 14 (by decide) (hw _ q_354) (fun _ h9 => h9) rfl (by decide +kernel) rfl rfl dX1_readBend_112 (fun H locs F172 eF172 hP hD hS => ?_)
            have hP : va_P D vwCl [(h0, .inr (1, vL 18 F172)), (h_length, .inl (cI, 12, .inl g35)), (h_drop, .inl (cI, 12, .inl g73)), (h_ideal, .inl (cI, 12, .inl g111)), (p0, .inr (6, vL 12 F143)), (h_p0_bytes, .inl (cB, 940, .inl f_p0_bytes)), (h_p0_wordNames, .inl (cJ, 23, .inr (.inl f_p0_wordNames))), (h_over, .inl (cI, 12, .inl g149))] H := hP
            have hD : va_D A [(h0, .inr (1, vL 18 F172)), (h_length, .inl (cI, 12, .inl g35)), (h_drop, .inl (cI, 12, .inl g73)), (h_ideal, .inl (cI, 12, .inl g111)), (p0, .inr (6, vL 12 F143)), (h_p0_bytes, .inl (cB, 940, .inl f_p0_bytes)), (h_p0_wordNames, .inl (cJ, 23, .inr (.inl f_p0_wordNames))), (h_over, .inl (cI, 12, .inl g149))] := hD
            refine lv_iload_n hx hb dX1_readBend_115 rfl (lv_at hl 0 rfl) ?_
            exact ret_i (v := 1) hx hb hr hlocks hS (hP.sub (ws' := [(h0, .inr (1, vL 18 F172)), (h_length, .inl (cI, 12, .inl g35)), (h_drop, .inl (cI, 12, .inl g73)), (h_ideal, .inl (cI, 12, .inl g111)), (h_over, .inl (cI, 12, .inl g149)), (p0, .inr (6, vL 12 F143)), (h_p0_bytes, .inl (cB, 940, .inl f_p0_bytes)), (h_p0_wordNames, .inl (cJ, 23, .inr (.inl f_p0_wordNames)))]) [0, 1, 2, 3, 7, 4, 5, 6] rfl) (hD.sub (ws' := [(h0, .inr (1, vL 18 F172)), (h_length, .inl (cI, 12, .inl g35)), (h_drop, .inl (cI, 12, .inl g73)), (h_ideal, .inl (cI, 12, .inl g111)), (h_over, .inl (cI, 12, .inl g149)), (p0, .inr (6, vL 12 F143)), (h_p0_bytes, .inl (cB, 940, .inl f_p0_bytes)), (h_p0_wordNames, .inl (cJ, 23, .inr (.inl f_p0_wordNames)))]) [0, 1, 2, 3, 7, 4, 5, 6] (by decide) rfl) dX1_readBend_116 rfl (Nat.le_of_ble_eq_true rfl) (Nat.le_of_ble_eq_true rfl) ⟨F172, v170, F143, y144, y145, y146, y147, x_p0_faultKind, x_p0_faultPlace, y148, g35, g73, g111, g149, (SAME.up eF172 SAME.rf (by decide)), (get_eq eF172), (ir_wk k171 (by decide) (by decide)), (SAME.tr (SAME.tr (SAME.tr (SAME.tr (SAME.tr SAME.rf t10 (by decide)) t36 (by decide)) t74 (by decide)) t112 (by decide)) t150 (by decide)), t151, t152, t154, t155, (SAME.at t150 (by decide) (SAME.at t112 (by decide) (SAME.at t74 (by decide) (SAME.at t36 (by decide) (SAME.at t10 (by decide) e_p0_faultKind))))), (SAME.at t150 (by decide) (SAME.at t112 (by decide) (SAME.at t74 (by decide) (SAME.at t36 (by decide) (SAME.at t10 (by decide) e_p0_faultPlace))))), t156, t157, (show 0 ≤ (1 : Int32).toInt ∧ (1 : Int32).toInt ≤ 1 by decide), rfl⟩
  · have dc1 : 12 ≤ x_bends.toInt := nlt_i (a := x_bends.toInt) (b := 12) rfl rfl c1
    have k173 : 12 ≤ x_bends.toInt ∧ x_bends.toInt ≤ 12 := ⟨Int.le_trans (Int.le_refl _) dc1, i_x_bends.2⟩
    refine lv_aload_n hx hb dX1_readBend_9 rfl (lv_at hl 1 rfl) ?_
    refine lv_iconst (v := 4) hx hb dX1_readBend_10 (by decide) ?_
    refine call_Vi (wr := [(h0, .inr (1, vL 18 Fh)), (h_length, .inl (cI, 12, .inl f_length)), (h_drop, .inl (cI, 12, .inl f_drop)), (h_ideal, .inl (cI, 12, .inl f_ideal)), (h_over, .inl (cI, 12, .inl f_over)), (h_p0_bytes, .inl (cB, 940, .inl f_p0_bytes)), (h_p0_wordNames, .inl (cJ, 23, .inr (.inl f_p0_wordNames)))]) (As := [.int 4]) (rest := []) hx hb hml hown hw (m_X6_fail l D cI cJ cB cP cM cZ p0 F_p0_ x_p0_place 4 _ e_p0_place) wV_X1_128_X6_fail dX1_readBend_11 hK hP hD hS hA [5] [0, 1, 2, 3, 4, 6, 7] rfl rfl (by decide) (by decide) (by decide) 0 6 rfl rfl GG.fb hG.at hl.1 rfl (Nat.le_of_ble_eq_true rfl) ⟨(Nat.le_of_ble_eq_true rfl), (Nat.le_of_ble_eq_true rfl)⟩ ⟨(Nat.le_of_ble_eq_true rfl), (Nat.le_of_ble_eq_true rfl)⟩ (fun r174 u H locs hp hP hD hS => ?_)
    obtain ⟨F175, t176, t177, t178, rfl, rfl⟩ := hp
    have hP : va_P D vwCl [(h0, .inr (1, vL 18 Fh)), (h_length, .inl (cI, 12, .inl f_length)), (h_drop, .inl (cI, 12, .inl f_drop)), (h_ideal, .inl (cI, 12, .inl f_ideal)), (h_over, .inl (cI, 12, .inl f_over)), (h_p0_bytes, .inl (cB, 940, .inl f_p0_bytes)), (h_p0_wordNames, .inl (cJ, 23, .inr (.inl f_p0_wordNames))), (p0, .inr (6, vL 12 F175))] H := hP
    have hD : va_D A [(h0, .inr (1, vL 18 Fh)), (h_length, .inl (cI, 12, .inl f_length)), (h_drop, .inl (cI, 12, .inl f_drop)), (h_ideal, .inl (cI, 12, .inl f_ideal)), (h_over, .inl (cI, 12, .inl f_over)), (h_p0_bytes, .inl (cB, 940, .inl f_p0_bytes)), (h_p0_wordNames, .inl (cJ, 23, .inr (.inl f_p0_wordNames))), (p0, .inr (6, vL 12 F175))] := hD
    refine W.widen (k := 0) (n := 0) (Nat.le_of_ble_eq_true rfl) (Nat.le_of_ble_eq_true rfl) ?_
    exact ret_i (v := 0) hx hb hr hlocks hS (hP.sub (ws' := [(h0, .inr (1, vL 18 Fh)), (h_length, .inl (cI, 12, .inl f_length)), (h_drop, .inl (cI, 12, .inl f_drop)), (h_ideal, .inl (cI, 12, .inl f_ideal)), (h_over, .inl (cI, 12, .inl f_over)), (p0, .inr (6, vL 12 F175)), (h_p0_bytes, .inl (cB, 940, .inl f_p0_bytes)), (h_p0_wordNames, .inl (cJ, 23, .inr (.inl f_p0_wordNames)))]) [0, 1, 2, 3, 4, 7, 5, 6] rfl) (hD.sub (ws' := [(h0, .inr (1, vL 18 Fh)), (h_length, .inl (cI, 12, .inl f_length)), (h_drop, .inl (cI, 12, .inl f_drop)), (h_ideal, .inl (cI, 12, .inl f_ideal)), (h_over, .inl (cI, 12, .inl f_over)), (p0, .inr (6, vL 12 F175)), (h_p0_bytes, .inl (cB, 940, .inl f_p0_bytes)), (h_p0_wordNames, .inl (cJ, 23, .inr (.inl f_p0_wordNames)))]) [0, 1, 2, 3, 4, 7, 5, 6] (by decide) rfl) dX1_readBend_14 rfl (Nat.le_of_ble_eq_true rfl) (Nat.le_of_ble_eq_true rfl) ⟨Fh, x_bends, F175, x_p0_kind, x_p0_place, x_p0_value, x_p0_name, 4, x_p0_place, x_p0_at, f_length, f_drop, f_ideal, f_over, SAME.rf, e_bends, (ir_wk k173 (by decide) (by decide)), (SAME.tr SAME.rf t176 (by decide)), (SAME.at t176 (by decide) e_p0_kind), (SAME.at t176 (by decide) e_p0_place), (SAME.at t176 (by decide) e_p0_value), (SAME.at t176 (by decide) e_p0_name), t177, t178, (SAME.at t176 (by decide) e_p0_at), i_x_p0_at, (show 0 ≤ (0 : Int32).toInt ∧ (0 : Int32).toInt ≤ 1 by decide), rfl⟩
set_option maxHeartbeats 4000000 in
set_option maxRecDepth 100000 in
theorem m_X1_readName_runnerName (l : Launch) (D : va_G) (cI cJ cB cP cM cZ : ClassId) (h0 : Nat) (h_manName : Nat) (h_runnerName : Nat) (p0 : Nat) (h_p0_bytes : Nat) (h_p0_wordNames : Nat) (Fh : Nat → Value) (x_men : Int32) (x_runners : Int32) (f_manName : Nat → Int64) (f_runnerName : Nat → Int64) (F_p0_ : Nat → Value) (x_p0_length : Int32) (x_p0_kind : Int32) (x_p0_place : Int32) (x_p0_value : Int32) (x_p0_name : Int64) (x_p0_faultKind : Int32) (x_p0_faultPlace : Int32) (x_p0_at : Int32) (x_p0_mostBytes : Int32) (f_p0_bytes : Nat → Int32) (f_p0_wordNames : Nat → Int64) (p2 : Int32) (sz : Nat) (e_manName : Fh 2 = .ref h_manName) (e_runnerName : Fh 10 = .ref h_runnerName) (e_men : Fh 13 = .int x_men) (i_x_men : IR 0 12 x_men) (e_runners : Fh 15 = .int x_runners) (i_x_runners : IR 0 6 x_runners) (e_p0_bytes : F_p0_ 0 = .ref h_p0_bytes) (e_p0_length : F_p0_ 1 = .int x_p0_length) (i_x_p0_length : IR 0 940 x_p0_length) (e_p0_kind : F_p0_ 2 = .int x_p0_kind) (e_p0_place : F_p0_ 3 = .int x_p0_place) (e_p0_value : F_p0_ 4 = .int x_p0_value) (e_p0_name : F_p0_ 5 = .long x_p0_name) (e_p0_faultKind : F_p0_ 7 = .int x_p0_faultKind) (e_p0_faultPlace : F_p0_ 8 = .int x_p0_faultPlace) (e_p0_wordNames : F_p0_ 9 = .ref h_p0_wordNames) (e_p0_at : F_p0_ 10 = .int x_p0_at) (i_x_p0_at : IR 0 940 x_p0_at) (e_p0_mostBytes : F_p0_ 11 = .int x_p0_mostBytes) (i_p2 : IR 0 5 p2) : CI l yX1_readName cX1_readName 4 (some .boolean) { frames := 2, cells := 0, slots := 0, locals := 46 } (GG D cI cJ cB cP cM cZ) D [(h0, .inr (1, vL 18 Fh)), (h_manName, .inl (cJ, 12, .inr (.inl f_manName))), (h_runnerName, .inl (cJ, 6, .inr (.inl f_runnerName))), (p0, .inr (6, vL 12 F_p0_)), (h_p0_bytes, .inl (cB, 940, .inl f_p0_bytes)), (h_p0_wordNames, .inl (cJ, 23, .inr (.inl f_p0_wordNames)))] sz [.ref h0, .ref p0, .ref h_runnerName, .int p2] (fun (r : Int32) (u : va_W) => ∃ (G_p0_ : Nat → Value) (y_p0_kind : Int32) (y_p0_place : Int32) (y_p0_value : Int32) (y_p0_name : Int64) (y_p0_faultKind : Int32) (y_p0_faultPlace : Int32) (y_p0_at : Int32) (g_runnerName : Nat → Int64), SAME [2, 3, 4, 5, 7, 8, 10] F_p0_ G_p0_ ∧ G_p0_ 2 = .int y_p0_kind ∧ G_p0_ 3 = .int y_p0_place ∧ G_p0_ 4 = .int y_p0_value ∧ G_p0_ 5 = .long y_p0_name ∧ G_p0_ 7 = .int y_p0_faultKind ∧ G_p0_ 8 = .int y_p0_faultPlace ∧ G_p0_ 10 = .int y_p0_at ∧ IR 0 940 y_p0_at ∧ IR 0 1 r ∧ u = [(h0, .inr (1, vL 18 Fh)), (h_manName, .inl (cJ, 12, .inr (.inl f_manName))), (h_runnerName, .inl (cJ, 6, .inr (.inl g_runnerName))), (p0, .inr (6, vL 12 G_p0_)), (h_p0_bytes, .inl (cB, 940, .inl f_p0_bytes)), (h_p0_wordNames, .inl (cJ, 23, .inr (.inl f_p0_wordNames)))]) := by
  refine CI_mk (by decide) (Nat.le_of_ble_eq_true rfl) ?_
  intro p e s m below meth c A ls E hAe hG hsz hP hD hA hS hl
  obtain ⟨hx, hb, hr, hw, hown, hlocks, hml, hnm⟩ := E
  have hK := hG.1
  have i_x_men : 0 ≤ x_men.toInt ∧ x_men.toInt ≤ 12 := i_x_men
  have i_x_runners : 0 ≤ x_runners.toInt ∧ x_runners.toInt ≤ 6 := i_x_runners
  have i_x_p0_length : 0 ≤ x_p0_length.toInt ∧ x_p0_length.toInt ≤ 940 := i_x_p0_length
  have i_x_p0_at : 0 ≤ x_p0_at.toInt ∧ x_p0_at.toInt ≤ 940 := i_x_p0_at
  have i_p2 : 0 ≤ p2.toInt ∧ p2.toInt ≤ 5 := i_p2
  have hl : lv_has ls 4 [(0, .ref h0), (1, .ref p0), (2, .ref h_runnerName), (3, .int p2)] := hl
  refine lv_aload_n hx hb dX1_readName_0 rfl (lv_at hl 1 rfl) ?_
  refine call_Vi (wr := [(h0, .inr (1, vL 18 Fh)), (h_manName, .inl (cJ, 12, .inr (.inl f_manName))), (h_runnerName, .inl (cJ, 6, .inr (.inl f_runnerName))), (h_p0_bytes, .inl (cB, 940, .inl f_p0_bytes)), (h_p0_wordNames, .inl (cJ, 23, .inr (.inl f_p0_wordNames)))]) (As := []) (rest := []) hx hb hml hown hw (m_X6_isName l D cI cJ cB cP cM cZ p0 F_p0_ x_p0_kind x_p0_value _ e_p0_kind e_p0_value) wV_X1_148_X6_isName dX1_readName_1 hK hP hD hS hA [3] [0, 1, 2, 4, 5] rfl rfl (by decide) (by decide) (by decide) 0 6 rfl rfl GG.fb hG.at hl.1 rfl (Nat.le_of_ble_eq_true rfl) ⟨(Nat.le_of_ble_eq_true rfl), (Nat.le_of_ble_eq_true rfl)⟩ ⟨(Nat.le_of_ble_eq_true rfl), (Nat.le_of_ble_eq_true rfl)⟩ (fun r1 u H locs hp hP hD hS => ?_)
  obtain ⟨t2, rfl⟩ := hp
  have hP : va_P D vwCl [(h0, .inr (1, vL 18 Fh)), (h_manName, .inl (cJ, 12, .inr (.inl f_manName))), (h_runnerName, .inl (cJ, 6, .inr (.inl f_runnerName))), (h_p0_bytes, .inl (cB, 940, .inl f_p0_bytes)), (h_p0_wordNames, .inl (cJ, 23, .inr (.inl f_p0_wordNames))), (p0, .inr (6, vL 12 F_p0_))] H := hP
  have hD : va_D A [(h0, .inr (1, vL 18 Fh)), (h_manName, .inl (cJ, 12, .inr (.inl f_manName))), (h_runnerName, .inl (cJ, 6, .inr (.inl f_runnerName))), (h_p0_bytes, .inl (cB, 940, .inl f_p0_bytes)), (h_p0_wordNames, .inl (cJ, 23, .inr (.inl f_p0_wordNames))), (p0, .inr (6, vL 12 F_p0_))] := hD
  refine W.widen (k := 0) (n := 0) (Nat.le_of_ble_eq_true rfl) (Nat.le_of_ble_eq_true rfl) ?_
  refine lv_if_ne (tgt := 13) hx hb dX1_readName_4 (by decide) (fun c3 => ?_) (fun c3 => ?_)
  · have dc3 : r1.toInt ≠ 0 := ne_i (a := r1.toInt) (b := 0) rfl rfl c3
    have k4 : 1 ≤ r1.toInt ∧ r1.toInt ≤ 1 := ⟨ne_lo dc3 t2.1 ⟨Int.le_refl _, Int.le_refl _⟩ (by decide), t2.2⟩
    refine lv_aload_n hx hb dX1_readName_13 rfl (lv_at hl 0 rfl) ?_
    refine lv_aload_n hx hb dX1_readName_14 rfl (lv_at hl 1 rfl) ?_
    refine get_f (D := D) (ci := 6) (v := .long x_p0_name) (C := RX6) (T := TX6) (N := 12) hx hb hw inAX6 hown hK hP 5 rfl rfl 5 (by decide) (hw _ q_101) (fun _ h9 => h9) e_p0_name dX1_readName_15 ?_
    refine call_Vi (wr := [(h_runnerName, .inl (cJ, 6, .inr (.inl f_runnerName))), (h_p0_bytes, .inl (cB, 940, .inl f_p0_bytes)), (h_p0_wordNames, .inl (cJ, 23, .inr (.inl f_p0_wordNames))), (p0, .inr (6, vL 12 F_p0_))]) (As := [.long x_p0_name]) (rest := []) hx hb hml hown hw (m_X1_manNamed l D cI cJ cB cP cM cZ h0 h_manName Fh x_men f_manName x_p0_name _ e_manName e_men i_x_men) wV_X1_156_X1_manNamed dX1_readName_18 hK hP hD hS hA [0, 1] [2, 3, 4, 5] rfl rfl (by decide) (by decide) (by decide) 0 1 rfl rfl GG.fb hG.at hl.1 rfl (Nat.le_of_ble_eq_true rfl) ⟨(Nat.le_of_ble_eq_true rfl), (Nat.le_of_ble_eq_true rfl)⟩ ⟨(Nat.le_of_ble_eq_true rfl), (Nat.le_of_ble_eq_true rfl)⟩ (fun r5 u H locs hp hP hD hS => ?_)
    obtain ⟨t6, rfl⟩ := hp
    have hP : va_P D vwCl [(h_runnerName, .inl (cJ, 6, .inr (.inl f_runnerName))), (h_p0_bytes, .inl (cB, 940, .inl f_p0_bytes)), (h_p0_wordNames, .inl (cJ, 23, .inr (.inl f_p0_wordNames))), (p0, .inr (6, vL 12 F_p0_)), (h0, .inr (1, vL 18 Fh)), (h_manName, .inl (cJ, 12, .inr (.inl f_manName)))] H := hP
    have hD : va_D A [(h_runnerName, .inl (cJ, 6, .inr (.inl f_runnerName))), (h_p0_bytes, .inl (cB, 940, .inl f_p0_bytes)), (h_p0_wordNames, .inl (cJ, 23, .inr (.inl f_p0_wordNames))), (p0, .inr (6, vL 12 F_p0_)), (h0, .inr (1, vL 18 Fh)), (h_manName, .inl (cJ, 12, .inr (.inl f_manName)))] := hD
    refine W.widen (k := 0) (n := 0) (Nat.le_of_ble_eq_true rfl) (Nat.le_of_ble_eq_true rfl) ?_
    refine lv_iconst (v := (-1)) hx hb dX1_readName_21 (by decide) ?_
    refine lv_icmp_ne (tgt := 37) hx hb dX1_readName_22 (by decide) (fun c7 => ?_) (fun c7 => ?_)
    · have dc7 : r5.toInt ≠ (-1) := ne_i (a := r5.toInt) (b := (-1)) rfl rfl c7
      have k8 : 0 ≤ r5.toInt ∧ r5.toInt ≤ 11 := ⟨ne_lo dc7 t6.1 ⟨Int.le_refl _, Int.le_refl _⟩ (by decide), t6.2⟩
      refine lv_aload_n hx hb dX1_readName_37 rfl (lv_at hl 1 rfl) ?_
      refine lv_iconst (v := 3) hx hb dX1_readName_38 (by decide) ?_
      refine call_Vi (wr := [(h_runnerName, .inl (cJ, 6, .inr (.inl f_runnerName))), (h_p0_bytes, .inl (cB, 940, .inl f_p0_bytes)), (h_p0_wordNames, .inl (cJ, 23, .inr (.inl f_p0_wordNames))), (h0, .inr (1, vL 18 Fh)), (h_manName, .inl (cJ, 12, .inr (.inl f_manName)))]) (As := [.int 3]) (rest := []) hx hb hml hown hw (m_X6_fail l D cI cJ cB cP cM cZ p0 F_p0_ x_p0_place 3 _ e_p0_place) wV_X1_128_X6_fail dX1_readName_39 hK hP hD hS hA [3] [0, 1, 2, 4, 5] rfl rfl (by decide) (by decide) (by decide) 0 6 rfl rfl GG.fb hG.at hl.1 rfl (Nat.le_of_ble_eq_true rfl) ⟨(Nat.le_of_ble_eq_true rfl), (Nat.le_of_ble_eq_true rfl)⟩ ⟨(Nat.le_of_ble_eq_true rfl), (Nat.le_of_ble_eq_true rfl)⟩ (fun r9 u H locs hp hP hD hS => ?_)
      obtain ⟨F10, t11, t12, t13, rfl, rfl⟩ := hp
      have hP : va_P D vwCl [(h_runnerName, .inl (cJ, 6, .inr (.inl f_runnerName))), (h_p0_bytes, .inl (cB, 940, .inl f_p0_bytes)), (h_p0_wordNames, .inl (cJ, 23, .inr (.inl f_p0_wordNames))), (h0, .inr (1, vL 18 Fh)), (h_manName, .inl (cJ, 12, .inr (.inl f_manName))), (p0, .inr (6, vL 12 F10))] H := hP
      have hD : va_D A [(h_runnerName, .inl (cJ, 6, .inr (.inl f_runnerName))), (h_p0_bytes, .inl (cB, 940, .inl f_p0_bytes)), (h_p0_wordNames, .inl (cJ, 23, .inr (.inl f_p0_wordNames))), (h0, .inr (1, vL 18 Fh)), (h_manName, .inl (cJ, 12, .inr (.inl f_manName))), (p0, .inr (6, vL 12 F10))] := hD
      refine W.widen (k := 0) (n := 0) (Nat.le_of_ble_eq_true rfl) (Nat.le_of_ble_eq_true rfl) ?_
      exact ret_i (v := 0) hx hb hr hlocks hS (hP.sub (ws' := [(h0, .inr (1, vL 18 Fh)), (h_manName, .inl (cJ, 12, .inr (.inl f_manName))), (h_runnerName, .inl (cJ, 6, .inr (.inl f_runnerName))), (p0, .inr (6, vL 12 F10)), (h_p0_bytes, .inl (cB, 940, .inl f_p0_bytes)), (h_p0_wordNames, .inl (cJ, 23, .inr (.inl f_p0_wordNames)))]) [3, 4, 0, 5, 1, 2] rfl) (hD.sub (ws' := [(h0, .inr (1, vL 18 Fh)), (h_manName, .inl (cJ, 12, .inr (.inl f_manName))), (h_runnerName, .inl (cJ, 6, .inr (.inl f_runnerName))), (p0, .inr (6, vL 12 F10)), (h_p0_bytes, .inl (cB, 940, .inl f_p0_bytes)), (h_p0_wordNames, .inl (cJ, 23, .inr (.inl f_p0_wordNames)))]) [3, 4, 0, 5, 1, 2] (by decide) rfl) dX1_readName_42 rfl (Nat.le_of_ble_eq_true rfl) (Nat.le_of_ble_eq_true rfl) ⟨F10, x_p0_kind, x_p0_place, x_p0_value, x_p0_name, 3, x_p0_place, x_p0_at, f_runnerName, (SAME.tr SAME.rf t11 (by decide)), (SAME.at t11 (by decide) e_p0_kind), (SAME.at t11 (by decide) e_p0_place), (SAME.at t11 (by decide) e_p0_value), (SAME.at t11 (by decide) e_p0_name), t12, t13, (SAME.at t11 (by decide) e_p0_at), i_x_p0_at, (show 0 ≤ (0 : Int32).toInt ∧ (0 : Int32).toInt ≤ 1 by decide), rfl⟩
    · have dc7 : r5.toInt = (-1) := eq_i (a := r5.toInt) (b := (-1)) rfl rfl c7
      have k14 : (-1) ≤ r5.toInt ∧ r5.toInt ≤ (-1) := ⟨t6.1, Int.le_trans (Int.le_of_eq dc7) (Int.le_refl _)⟩
      refine lv_aload_n hx hb dX1_readName_25 rfl (lv_at hl 0 rfl) ?_
      refine lv_aload_n hx hb dX1_readName_26 rfl (lv_at hl 1 rfl) ?_
      refine get_f (D := D) (ci := 6) (v := .long x_p0_name) (C := RX6) (T := TX6) (N := 12) hx hb hw inAX6 hown hK hP 3 rfl rfl 5 (by decide) (hw _ q_101) (fun _ h9 => h9) e_p0_name dX1_readName_27 ?_
      refine call_Vi (wr := [(h_p0_bytes, .inl (cB, 940, .inl f_p0_bytes)), (h_p0_wordNames, .inl (cJ, 23, .inr (.inl f_p0_wordNames))), (p0, .inr (6, vL 12 F_p0_)), (h_manName, .inl (cJ, 12, .inr (.inl f_manName)))]) (As := [.long x_p0_name]) (rest := []) hx hb hml hown hw (m_X1_runnerNamed l D cI cJ cB cP cM cZ h0 h_runnerName Fh x_runners f_runnerName x_p0_name _ e_runnerName e_runners i_x_runners) wV_X1_160_X1_runnerNamed dX1_readName_30 hK hP hD hS hA [4, 0] [1, 2, 3, 5] rfl rfl (by decide) (by decide) (by decide) 0 1 rfl rfl GG.fb hG.at hl.1 rfl (Nat.le_of_ble_eq_true rfl) ⟨(Nat.le_of_ble_eq_true rfl), (Nat.le_of_ble_eq_true rfl)⟩ ⟨(Nat.le_of_ble_eq_true rfl), (Nat.le_of_ble_eq_true rfl)⟩ (fun r15 u H locs hp hP hD hS => ?_)
      obtain ⟨t16, rfl⟩ := hp
      have hP : va_P D vwCl [(h_p0_bytes, .inl (cB, 940, .inl f_p0_bytes)), (h_p0_wordNames, .inl (cJ, 23, .inr (.inl f_p0_wordNames))), (p0, .inr (6, vL 12 F_p0_)), (h_manName, .inl (cJ, 12, .inr (.inl f_manName))), (h0, .inr (1, vL 18 Fh)), (h_runnerName, .inl (cJ, 6, .inr (.inl f_runnerName)))] H := hP
      have hD : va_D A [(h_p0_bytes, .inl (cB, 940, .inl f_p0_bytes)), (h_p0_wordNames, .inl (cJ, 23, .inr (.inl f_p0_wordNames))), (p0, .inr (6, vL 12 F_p0_)), (h_manName, .inl (cJ, 12, .inr (.inl f_manName))), (h0, .inr (1, vL 18 Fh)), (h_runnerName, .inl (cJ, 6, .inr (.inl f_runnerName)))] := hD
      refine W.widen (k := 0) (n := 0) (Nat.le_of_ble_eq_true rfl) (Nat.le_of_ble_eq_true rfl) ?_
      refine lv_iconst (v := (-1)) hx hb dX1_readName_33 (by decide) ?_
      refine lv_icmp_eq (tgt := 43) hx hb dX1_readName_34 (by decide) (fun c17 => ?_) (fun c17 => ?_)
      · have dc17 : r15.toInt = (-1) := eq_i (a := r15.toInt) (b := (-1)) rfl rfl c17
        have k18 : (-1) ≤ r15.toInt ∧ r15.toInt ≤ (-1) := ⟨t16.1, Int.le_trans (Int.le_of_eq dc17) (Int.le_refl _)⟩
        refine lv_aload_n hx hb dX1_readName_43 rfl (lv_at hl 2 rfl) ?_
        refine lv_iload_n hx hb dX1_readName_44 rfl (lv_at hl 3 rfl) ?_
        refine lv_aload_n hx hb dX1_readName_45 rfl (lv_at hl 1 rfl) ?_
        refine get_f (D := D) (ci := 6) (v := .long x_p0_name) (C := RX6) (T := TX6) (N := 12) hx hb hw inAX6 hown hK hP 2 rfl rfl 5 (by decide) (hw _ q_101) (fun _ h9 => h9) e_p0_name dX1_readName_46 ?_
        obtain ⟨g19, eg19⟩ : ∃ z : Nat → Int64, vp_updL f_runnerName p2.toNatClampNeg x_p0_name = z := ⟨_, rfl⟩
        refine last_g hx hb hK hP hD hS 5 1 rfl rfl (ix_k i_p2 (by decide) (by decide)) eg19 dX1_readName_49 (fun H locs hP hD hS => ?_)
        have hP : va_P D vwCl [(h_p0_bytes, .inl (cB, 940, .inl f_p0_bytes)), (h_p0_wordNames, .inl (cJ, 23, .inr (.inl f_p0_wordNames))), (p0, .inr (6, vL 12 F_p0_)), (h_manName, .inl (cJ, 12, .inr (.inl f_manName))), (h0, .inr (1, vL 18 Fh)), (h_runnerName, .inl (cJ, 6, .inr (.inl g19)))] H := hP
        have hD : va_D A [(h_p0_bytes, .inl (cB, 940, .inl f_p0_bytes)), (h_p0_wordNames, .inl (cJ, 23, .inr (.inl f_p0_wordNames))), (p0, .inr (6, vL 12 F_p0_)), (h_manName, .inl (cJ, 12, .inr (.inl f_manName))), (h0, .inr (1, vL 18 Fh)), (h_runnerName, .inl (cJ, 6, .inr (.inl g19)))] := hD
        refine lv_aload_n hx hb dX1_readName_50 rfl (lv_at hl 1 rfl) ?_
        refine call_Vv (wr := [(h_manName, .inl (cJ, 12, .inr (.inl f_manName))), (h0, .inr (1, vL 18 Fh)), (h_runnerName, .inl (cJ, 6, .inr (.inl g19)))]) (As := []) (rest := []) hx hb hml hown hw (m_X6_advance l D cI cJ cB cP cM cZ p0 h_p0_bytes h_p0_wordNames F_p0_ x_p0_length x_p0_value x_p0_name x_p0_at x_p0_mostBytes f_p0_bytes f_p0_wordNames _ e_p0_bytes e_p0_length i_x_p0_length e_p0_value e_p0_name e_p0_wordNames e_p0_at i_x_p0_at e_p0_mostBytes) wV_X1_131_X6_advance dX1_readName_51 hK hP hD hS hA [2, 0, 1] [3, 4, 5] rfl rfl (by decide) (by decide) (by decide) 0 6 rfl rfl GG.fb hG.at hl.1 rfl (Nat.le_of_ble_eq_true rfl) ⟨(Nat.le_of_ble_eq_true rfl), (Nat.le_of_ble_eq_true rfl)⟩ ⟨(Nat.le_of_ble_eq_true rfl), (Nat.le_of_ble_eq_true rfl)⟩ (fun u H locs hp hP hD hS => ?_)
        obtain ⟨F21, y22, y23, y24, y25, y26, t27, t28, t29, t30, t31, t32, t33, t34, rfl⟩ := hp
        have hP : va_P D vwCl [(h_manName, .inl (cJ, 12, .inr (.inl f_manName))), (h0, .inr (1, vL 18 Fh)), (h_runnerName, .inl (cJ, 6, .inr (.inl g19))), (p0, .inr (6, vL 12 F21)), (h_p0_bytes, .inl (cB, 940, .inl f_p0_bytes)), (h_p0_wordNames, .inl (cJ, 23, .inr (.inl f_p0_wordNames)))] H := hP
        have hD : va_D A [(h_manName, .inl (cJ, 12, .inr (.inl f_manName))), (h0, .inr (1, vL 18 Fh)), (h_runnerName, .inl (cJ, 6, .inr (.inl g19))), (p0, .inr (6, vL 12 F21)), (h_p0_bytes, .inl (cB, 940, .inl f_p0_bytes)), (h_p0_wordNames, .inl (cJ, 23, .inr (.inl f_p0_wordNames)))] := hD
        refine W.widen (k := 0) (n := 0) (Nat.le_of_ble_eq_true rfl) (Nat.le_of_ble_eq_true rfl) ?_
        refine lv_iconst (v := 1) hx hb dX1_readName_54 (by decide) ?_
        exact ret_i (v := 1) hx hb hr hlocks hS (hP.sub (ws' := [(h0, .inr (1, vL 18 Fh)), (h_manName, .inl (cJ, 12, .inr (.inl f_manName))), (h_runnerName, .inl (cJ, 6, .inr (.inl g19))), (p0, .inr (6, vL 12 F21)), (h_p0_bytes, .inl (cB, 940, .inl f_p0_bytes)), (h_p0_wordNames, .inl (cJ, 23, .inr (.inl f_p0_wordNames)))]) [1, 0, 2, 3, 4, 5] rfl) (hD.sub (ws' := [(h0, .inr (1, vL 18 Fh)), (h_manName, .inl (cJ, 12, .inr (.inl f_manName))), (h_runnerName, .inl (cJ, 6, .inr (.inl g19))), (p0, .inr (6, vL 12 F21)), (h_p0_bytes, .inl (cB, 940, .inl f_p0_bytes)), (h_p0_wordNames, .inl (cJ, 23, .inr (.inl f_p0_wordNames)))]) [1, 0, 2, 3, 4, 5] (by decide) rfl) dX1_readName_55 rfl (Nat.le_of_ble_eq_true rfl) (Nat.le_of_ble_eq_true rfl) ⟨F21, y22, y23, y24, y25, x_p0_faultKind, x_p0_faultPlace, y26, g19, (SAME.tr SAME.rf t27 (by decide)), t28, t29, t31, t32, (SAME.at t27 (by decide) e_p0_faultKind), (SAME.at t27 (by decide) e_p0_faultPlace), t33, t34, (show 0 ≤ (1 : Int32).toInt ∧ (1 : Int32).toInt ≤ 1 by decide), rfl⟩
      · have dc17 : r15.toInt ≠ (-1) := ne_i (a := r15.toInt) (b := (-1)) rfl rfl c17
        have k35 : 0 ≤ r15.toInt ∧ r15.toInt ≤ 5 := ⟨ne_lo dc17 t16.1 ⟨Int.le_refl _, Int.le_refl _⟩ (by decide), t16.2⟩
        refine lv_aload_n hx hb dX1_readName_37 rfl (lv_at hl 1 rfl) ?_
        refine lv_iconst (v := 3) hx hb dX1_readName_38 (by decide) ?_
        refine call_Vi (wr := [(h_p0_bytes, .inl (cB, 940, .inl f_p0_bytes)), (h_p0_wordNames, .inl (cJ, 23, .inr (.inl f_p0_wordNames))), (h_manName, .inl (cJ, 12, .inr (.inl f_manName))), (h0, .inr (1, vL 18 Fh)), (h_runnerName, .inl (cJ, 6, .inr (.inl f_runnerName)))]) (As := [.int 3]) (rest := []) hx hb hml hown hw (m_X6_fail l D cI cJ cB cP cM cZ p0 F_p0_ x_p0_place 3 _ e_p0_place) wV_X1_128_X6_fail dX1_readName_39 hK hP hD hS hA [2] [0, 1, 3, 4, 5] rfl rfl (by decide) (by decide) (by decide) 0 6 rfl rfl GG.fb hG.at hl.1 rfl (Nat.le_of_ble_eq_true rfl) ⟨(Nat.le_of_ble_eq_true rfl), (Nat.le_of_ble_eq_true rfl)⟩ ⟨(Nat.le_of_ble_eq_true rfl), (Nat.le_of_ble_eq_true rfl)⟩ (fun r36 u H locs hp hP hD hS => ?_)
        obtain ⟨F37, t38, t39, t40, rfl, rfl⟩ := hp
        have hP : va_P D vwCl [(h_p0_bytes, .inl (cB, 940, .inl f_p0_bytes)), (h_p0_wordNames, .inl (cJ, 23, .inr (.inl f_p0_wordNames))), (h_manName, .inl (cJ, 12, .inr (.inl f_manName))), (h0, .inr (1, vL 18 Fh)), (h_runnerName, .inl (cJ, 6, .inr (.inl f_runnerName))), (p0, .inr (6, vL 12 F37))] H := hP
        have hD : va_D A [(h_p0_bytes, .inl (cB, 940, .inl f_p0_bytes)), (h_p0_wordNames, .inl (cJ, 23, .inr (.inl f_p0_wordNames))), (h_manName, .inl (cJ, 12, .inr (.inl f_manName))), (h0, .inr (1, vL 18 Fh)), (h_runnerName, .inl (cJ, 6, .inr (.inl f_runnerName))), (p0, .inr (6, vL 12 F37))] := hD
        refine W.widen (k := 0) (n := 0) (Nat.le_of_ble_eq_true rfl) (Nat.le_of_ble_eq_true rfl) ?_
        exact ret_i (v := 0) hx hb hr hlocks hS (hP.sub (ws' := [(h0, .inr (1, vL 18 Fh)), (h_manName, .inl (cJ, 12, .inr (.inl f_manName))), (h_runnerName, .inl (cJ, 6, .inr (.inl f_runnerName))), (p0, .inr (6, vL 12 F37)), (h_p0_bytes, .inl (cB, 940, .inl f_p0_bytes)), (h_p0_wordNames, .inl (cJ, 23, .inr (.inl f_p0_wordNames)))]) [3, 2, 4, 5, 0, 1] rfl) (hD.sub (ws' := [(h0, .inr (1, vL 18 Fh)), (h_manName, .inl (cJ, 12, .inr (.inl f_manName))), (h_runnerName, .inl (cJ, 6, .inr (.inl f_runnerName))), (p0, .inr (6, vL 12 F37)), (h_p0_bytes, .inl (cB, 940, .inl f_p0_bytes)), (h_p0_wordNames, .inl (cJ, 23, .inr (.inl f_p0_wordNames)))]) [3, 2, 4, 5, 0, 1] (by decide) rfl) dX1_readName_42 rfl (Nat.le_of_ble_eq_true rfl) (Nat.le_of_ble_eq_true rfl) ⟨F37, x_p0_kind, x_p0_place, x_p0_value, x_p0_name, 3, x_p0_place, x_p0_at, f_runnerName, (SAME.tr SAME.rf t38 (by decide)), (SAME.at t38 (by decide) e_p0_kind), (SAME.at t38 (by decide) e_p0_place), (SAME.at t38 (by decide) e_p0_value), (SAME.at t38 (by decide) e_p0_name), t39, t40, (SAME.at t38 (by decide) e_p0_at), i_x_p0_at, (show 0 ≤ (0 : Int32).toInt ∧ (0 : Int32).toInt ≤ 1 by decide), rfl⟩
  · have dc3 : r1.toInt = 0 := eq_i (a := r1.toInt) (b := 0) rfl rfl c3
    have k41 : 0 ≤ r1.toInt ∧ r1.toInt ≤ 0 := ⟨t2.1, Int.le_trans (Int.le_of_eq dc3) (Int.le_refl _)⟩
    refine lv_aload_n hx hb dX1_readName_7 rfl (lv_at hl 1 rfl) ?_
    refine lv_iconst (v := 1) hx hb dX1_readName_8 (by decide) ?_
    refine call_Vi (wr := [(h0, .inr (1, vL 18 Fh)), (h_manName, .inl (cJ, 12, .inr (.inl f_manName))), (h_runnerName, .inl (cJ, 6, .inr (.inl f_runnerName))), (h_p0_bytes, .inl (cB, 940, .inl f_p0_bytes)), (h_p0_wordNames, .inl (cJ, 23, .inr (.inl f_p0_wordNames)))]) (As := [.int 1]) (rest := []) hx hb hml hown hw (m_X6_fail l D cI cJ cB cP cM cZ p0 F_p0_ x_p0_place 1 _ e_p0_place) wV_X1_128_X6_fail dX1_readName_9 hK hP hD hS hA [5] [0, 1, 2, 3, 4] rfl rfl (by decide) (by decide) (by decide) 0 6 rfl rfl GG.fb hG.at hl.1 rfl (Nat.le_of_ble_eq_true rfl) ⟨(Nat.le_of_ble_eq_true rfl), (Nat.le_of_ble_eq_true rfl)⟩ ⟨(Nat.le_of_ble_eq_true rfl), (Nat.le_of_ble_eq_true rfl)⟩ (fun r42 u H locs hp hP hD hS => ?_)
    obtain ⟨F43, t44, t45, t46, rfl, rfl⟩ := hp
    have hP : va_P D vwCl [(h0, .inr (1, vL 18 Fh)), (h_manName, .inl (cJ, 12, .inr (.inl f_manName))), (h_runnerName, .inl (cJ, 6, .inr (.inl f_runnerName))), (h_p0_bytes, .inl (cB, 940, .inl f_p0_bytes)), (h_p0_wordNames, .inl (cJ, 23, .inr (.inl f_p0_wordNames))), (p0, .inr (6, vL 12 F43))] H := hP
    have hD : va_D A [(h0, .inr (1, vL 18 Fh)), (h_manName, .inl (cJ, 12, .inr (.inl f_manName))), (h_runnerName, .inl (cJ, 6, .inr (.inl f_runnerName))), (h_p0_bytes, .inl (cB, 940, .inl f_p0_bytes)), (h_p0_wordNames, .inl (cJ, 23, .inr (.inl f_p0_wordNames))), (p0, .inr (6, vL 12 F43))] := hD
    refine W.widen (k := 0) (n := 0) (Nat.le_of_ble_eq_true rfl) (Nat.le_of_ble_eq_true rfl) ?_
    exact ret_i (v := 0) hx hb hr hlocks hS (hP.sub (ws' := [(h0, .inr (1, vL 18 Fh)), (h_manName, .inl (cJ, 12, .inr (.inl f_manName))), (h_runnerName, .inl (cJ, 6, .inr (.inl f_runnerName))), (p0, .inr (6, vL 12 F43)), (h_p0_bytes, .inl (cB, 940, .inl f_p0_bytes)), (h_p0_wordNames, .inl (cJ, 23, .inr (.inl f_p0_wordNames)))]) [0, 1, 2, 5, 3, 4] rfl) (hD.sub (ws' := [(h0, .inr (1, vL 18 Fh)), (h_manName, .inl (cJ, 12, .inr (.inl f_manName))), (h_runnerName, .inl (cJ, 6, .inr (.inl f_runnerName))), (p0, .inr (6, vL 12 F43)), (h_p0_bytes, .inl (cB, 940, .inl f_p0_bytes)), (h_p0_wordNames, .inl (cJ, 23, .inr (.inl f_p0_wordNames)))]) [0, 1, 2, 5, 3, 4] (by decide) rfl) dX1_readName_12 rfl (Nat.le_of_ble_eq_true rfl) (Nat.le_of_ble_eq_true rfl) ⟨F43, x_p0_kind, x_p0_place, x_p0_value, x_p0_name, 1, x_p0_place, x_p0_at, f_runnerName, (SAME.tr SAME.rf t44 (by decide)), (SAME.at t44 (by decide) e_p0_kind), (SAME.at t44 (by decide) e_p0_place), (SAME.at t44 (by decide) e_p0_value), (SAME.at t44 (by decide) e_p0_name), t45, t46, (SAME.at t44 (by decide) e_p0_at), i_x_p0_at, (show 0 ≤ (0 : Int32).toInt ∧ (0 : Int32).toInt ≤ 1 by decide), rfl⟩
