set_option maxHeartbeats 4000000 in
set_option maxRecDepth 100000 in
theorem m_X10_throwsIf (l : Launch) (D : va_G) (cI cJ cB cP cM cZ : ClassId) (h0 : Nat) (Fh : Nat → Value) (p0 : Int32) (sz : Nat) (i_p0 : IR 0 1 p0) : CI l yX10_throwsIf cX10_throwsIf 2 (some .boolean) { frames := 0, cells := 0, slots := 0, locals := 0 } (GG D cI cJ cB cP cM cZ) D [(h0, .inr (10, vL 67 Fh))] sz [.ref h0, .int p0] (fun (r : Int32) (u : va_W) => (∃ (Gh : Nat → Value), SAME [0] Fh Gh ∧ Gh 0 = .int 0 ∧ IR 0 0 p0 ∧ p0.toInt = 0 ∧ r = p0 ∧ u = [(h0, .inr (10, vL 67 Gh))]) ∨ (∃ (Gh : Nat → Value), SAME [0] Fh Gh ∧ Gh 0 = .int 1 ∧ IR 1 1 p0 ∧ p0.toInt ≠ 0 ∧ r = p0 ∧ u = [(h0, .inr (10, vL 67 Gh))])) := by
  refine CI_mk (by decide) (Nat.le_of_ble_eq_true rfl) ?_
  intro p e s m below meth c A ls E hAe hG hsz hP hD hA hS hl
  obtain ⟨hx, hb, hr, hw, hown, hlocks, hml, hnm⟩ := E
  have hK := hG.1
  have i_p0 : 0 ≤ p0.toInt ∧ p0.toInt ≤ 1 := i_p0
  have hl : lv_has ls 2 [(0, .ref h0), (1, .int p0)] := hl
  refine lv_aload_n hx hb dX10_throwsIf_0 rfl (lv_at hl 0 rfl) ?_
  refine lv_iload_n hx hb dX10_throwsIf_1 rfl (lv_at hl 1 rfl) ?_
  refine lv_if_eq (tgt := 9) hx hb dX10_throwsIf_2 (by decide) (fun c1 => ?_) (fun c1 => ?_)
  · have dc1 : p0.toInt = 0 := eq_i (a := p0.toInt) (b := 0) rfl rfl c1
    have k2 : 0 ≤ p0.toInt ∧ p0.toInt ≤ 0 := ⟨i_p0.1, Int.le_trans (Int.le_of_eq dc1) (Int.le_refl _)⟩
    refine lv_iconst (v := 0) hx hb dX10_throwsIf_9 (by decide) ?_
    refine put_f (D := D) (ci := 10) (v := .int 0) (ty := .int) (C := RX10) (T := TX10) (N := 67) hx hb hw inAX10 tyX10 tyX10_ok nmX10 hown hK hP hD hS 0 rfl rfl 0 (by decide) (hw _ q_1261) (fun _ h9 => h9) rfl (by decide +kernel) rfl rfl dX10_throwsIf_10 (fun H locs F3 eF3 hP hD hS => ?_)
    have hP : va_P D vwCl [(h0, .inr (10, vL 67 F3))] H := hP
    have hD : va_D A [(h0, .inr (10, vL 67 F3))] := hD
    refine lv_iload_n hx hb dX10_throwsIf_13 rfl (lv_at hl 1 rfl) ?_
    exact ret_i (v := p0) hx hb hr hlocks hS hP hD dX10_throwsIf_14 (nz_i (show 0 ≤ p0.toInt ∧ p0.toInt ≤ 1 from (ir_wk k2 (by decide) (by decide))).1 (show 0 ≤ p0.toInt ∧ p0.toInt ≤ 1 from (ir_wk k2 (by decide) (by decide))).2) (Nat.le_of_ble_eq_true rfl) (Nat.le_of_ble_eq_true rfl) (Or.inl ⟨F3, (SAME.up eF3 SAME.rf (by decide)), (get_eq eF3), k2, dc1, rfl, rfl⟩)
  · have dc1 : p0.toInt ≠ 0 := ne_i (a := p0.toInt) (b := 0) rfl rfl c1
    have k4 : 1 ≤ p0.toInt ∧ p0.toInt ≤ 1 := ⟨ne_lo dc1 i_p0.1 ⟨Int.le_refl _, Int.le_refl _⟩ (by decide), i_p0.2⟩
    refine lv_iconst (v := 1) hx hb dX10_throwsIf_5 (by decide) ?_
    refine lv_goto (tgt := 10) hx hb dX10_throwsIf_6 (by decide) ?_
    refine put_f (D := D) (ci := 10) (v := .int 1) (ty := .int) (C := RX10) (T := TX10) (N := 67) hx hb hw inAX10 tyX10 tyX10_ok nmX10 hown hK hP hD hS 0 rfl rfl 0 (by decide) (hw _ q_1261) (fun _ h9 => h9) rfl (by decide +kernel) rfl rfl dX10_throwsIf_10 (fun H locs F5 eF5 hP hD hS => ?_)
    have hP : va_P D vwCl [(h0, .inr (10, vL 67 F5))] H := hP
    have hD : va_D A [(h0, .inr (10, vL 67 F5))] := hD
    refine lv_iload_n hx hb dX10_throwsIf_13 rfl (lv_at hl 1 rfl) ?_
    exact ret_i (v := p0) hx hb hr hlocks hS hP hD dX10_throwsIf_14 (nz_i (show 0 ≤ p0.toInt ∧ p0.toInt ≤ 1 from (ir_wk k4 (by decide) (by decide))).1 (show 0 ≤ p0.toInt ∧ p0.toInt ≤ 1 from (ir_wk k4 (by decide) (by decide))).2) (Nat.le_of_ble_eq_true rfl) (Nat.le_of_ble_eq_true rfl) (Or.inr ⟨F5, (SAME.up eF5 SAME.rf (by decide)), (get_eq eF5), k4, dc1, rfl, rfl⟩)
set_option maxHeartbeats 4000000 in
set_option maxRecDepth 100000 in
theorem m_X10_bytes4 (l : Launch) (D : va_G) (cI cJ cB cP cM cZ : ClassId) (h0 : Nat) (h_tape : Nat) (Fh : Nat → Value) (x_length : Int32) (f_tape : Nat → Int32) (p0 : Int32) (sz : Nat) (e_tape : Fh 1 = .ref h_tape) (e_length : Fh 2 = .int x_length) (i_x_length : IR 0 936 x_length) : CV l yX10_bytes4 cX10_bytes4 3 none { frames := 0, cells := 0, slots := 0, locals := 0 } (GG D cI cJ cB cP cM cZ) D [(h0, .inr (10, vL 67 Fh)), (h_tape, .inl (cB, 940, .inl f_tape))] sz [.ref h0, .int p0] (fun (u : va_W) => ∃ (Gh : Nat → Value) (y_length : Int32) (g_tape : Nat → Int32), SAME [2] Fh Gh ∧ Gh 2 = .int y_length ∧ IR 4 940 y_length ∧ (y_length.toInt = x_length.toInt + 4) ∧ u = [(h0, .inr (10, vL 67 Gh)), (h_tape, .inl (cB, 940, .inl g_tape))]) := by
  refine CV_mk (by decide) (Nat.le_of_ble_eq_true rfl) ?_
  intro p e s m below meth c A ls E hAe hG hsz hP hD hA hS hl
  obtain ⟨hx, hb, hr, hw, hown, hlocks, hml, hnm⟩ := E
  have hK := hG.1
  have i_x_length : 0 ≤ x_length.toInt ∧ x_length.toInt ≤ 936 := i_x_length
  have hl : lv_has ls 3 [(0, .ref h0), (1, .int p0)] := hl
  refine lv_bipush (v := 24) hx hb dX10_bytes4_0 (by decide) ?_
  refine lv_istore_n (lv' := [(2, .int 24), (0, .ref h0), (1, .int p0)]) hx hb dX10_bytes4_2 rfl hl (by decide) rfl (fun ls hl => ?_)
  refine lv_iload_n hx hb dX10_bytes4_3 rfl (lv_at hl 0 rfl) ?_
  refine lv_if_lt (tgt := 36) hx hb dX10_bytes4_4 (by decide) (fun g => absurd g (by decide)) (fun _ => ?_)
  refine lv_aload_n hx hb dX10_bytes4_7 rfl (lv_at hl 1 rfl) ?_
  refine get_f (D := D) (ci := 10) (v := .ref h_tape) (C := RX10) (T := TX10) (N := 67) hx hb hw inAX10 hown hK hP 0 rfl rfl 1 (by decide) (hw _ q_1262) (fun _ h9 => h9) e_tape dX10_bytes4_8 ?_
  refine lv_aload_n hx hb dX10_bytes4_11 rfl (lv_at hl 1 rfl) ?_
  refine get_f (D := D) (ci := 10) (v := .int x_length) (C := RX10) (T := TX10) (N := 67) hx hb hw inAX10 hown hK hP 0 rfl rfl 2 (by decide) (hw _ q_1263) (fun _ h9 => h9) e_length dX10_bytes4_12 ?_
  refine lv_iload_n hx hb dX10_bytes4_15 rfl (lv_at hl 2 rfl) ?_
  refine lv_iload_n hx hb dX10_bytes4_16 rfl (lv_at hl 0 rfl) ?_
  refine lv_ishr hx hb dX10_bytes4_17 ?_
  refine lv_topi (fun v1 ev1 => ?_)
  obtain ⟨v2, ev2⟩ : ∃ z : Int32, (v1 : Int32).toInt8.toInt32 = z := ⟨_, rfl⟩
  refine lv_i2b (v := v2) hx hb dX10_bytes4_18 ev2 ?_
  obtain ⟨g3, eg3⟩ : ∃ z : Nat → Int32, upd f_tape x_length.toNatClampNeg (vp_nar .byte v2) = z := ⟨_, rfl⟩
  refine bast_g hx hb hK hP hD hS 1 2 rfl rfl (ix_k i_x_length (by decide) (by decide)) eg3 dX10_bytes4_19 (fun H locs hP hD hS => ?_)
  have hP : va_P D vwCl [(h0, .inr (10, vL 67 Fh)), (h_tape, .inl (cB, 940, .inl g3))] H := hP
  have hD : va_D A [(h0, .inr (10, vL 67 Fh)), (h_tape, .inl (cB, 940, .inl g3))] := hD
  refine lv_aload_n hx hb dX10_bytes4_20 rfl (lv_at hl 1 rfl) ?_
  refine lv_dup hx hb dX10_bytes4_21 rfl ?_
  refine get_f (D := D) (ci := 10) (v := .int x_length) (C := RX10) (T := TX10) (N := 67) hx hb hw inAX10 hown hK hP 0 rfl rfl 2 (by decide) (hw _ q_1263) (fun _ h9 => h9) e_length dX10_bytes4_22 ?_
  refine lv_iconst (v := 1) hx hb dX10_bytes4_25 (by decide) ?_
  refine lv_iadd hx hb dX10_bytes4_26 ?_
  refine lv_topi (fun v4 ev4 => ?_)
  have bv4 : v4.toInt = x_length.toInt + 1 := by rw [ev4]; exact add_k rfl rfl i_x_length ⟨Int.le_refl _, Int.le_refl _⟩ (by decide)
  have k5 : 1 ≤ v4.toInt ∧ v4.toInt ≤ 937 := add_r bv4 i_x_length ⟨Int.le_refl _, Int.le_refl _⟩ (by decide)
  refine put_f (D := D) (ci := 10) (v := .int v4) (ty := .int) (C := RX10) (T := TX10) (N := 67) hx hb hw inAX10 tyX10 tyX10_ok nmX10 hown hK hP hD hS 0 rfl rfl 2 (by decide) (hw _ q_1263) (fun _ h9 => h9) rfl (by decide +kernel) rfl rfl dX10_bytes4_27 (fun H locs F6 eF6 hP hD hS => ?_)
  have hP : va_P D vwCl [(h0, .inr (10, vL 67 F6)), (h_tape, .inl (cB, 940, .inl g3))] H := hP
  have hD : va_D A [(h0, .inr (10, vL 67 F6)), (h_tape, .inl (cB, 940, .inl g3))] := hD
  refine lv_iinc (v := 16) (lv' := [(2, .int 16), (0, .ref h0), (1, .int p0)]) hx hb dX10_bytes4_30 hl (k := 0) rfl (by decide +kernel) (by decide) rfl (fun ls hl => ?_)
  refine lv_goto (tgt := 3) hx hb dX10_bytes4_33 (by decide) ?_
  refine lv_iload_n hx hb dX10_bytes4_3 rfl (lv_at hl 0 rfl) ?_
  refine lv_if_lt (tgt := 36) hx hb dX10_bytes4_4 (by decide) (fun g => absurd g (by decide)) (fun _ => ?_)
  refine lv_aload_n hx hb dX10_bytes4_7 rfl (lv_at hl 1 rfl) ?_
  have n7 : F6 1 = .ref h_tape := (get_ne eF6 (by decide) e_tape)
  refine get_f (D := D) (ci := 10) (v := .ref h_tape) (C := RX10) (T := TX10) (N := 67) hx hb hw inAX10 hown hK hP 0 rfl rfl 1 (by decide) (hw _ q_1262) (fun _ h9 => h9) n7 dX10_bytes4_8 ?_
  refine lv_aload_n hx hb dX10_bytes4_11 rfl (lv_at hl 1 rfl) ?_
  refine get_f (D := D) (ci := 10) (v := .int v4) (C := RX10) (T := TX10) (N := 67) hx hb hw inAX10 hown hK hP 0 rfl rfl 2 (by decide) (hw _ q_1263) (fun _ h9 => h9) (get_eq eF6) dX10_bytes4_12 ?_
  refine lv_iload_n hx hb dX10_bytes4_15 rfl (lv_at hl 2 rfl) ?_
  refine lv_iload_n hx hb dX10_bytes4_16 rfl (lv_at hl 0 rfl) ?_
  refine lv_ishr hx hb dX10_bytes4_17 ?_
  refine lv_topi (fun v8 ev8 => ?_)
  obtain ⟨v9, ev9⟩ : ∃ z : Int32, (v8 : Int32).toInt8.toInt32 = z := ⟨_, rfl⟩
  refine lv_i2b (v := v9) hx hb dX10_bytes4_18 ev9 ?_
  obtain ⟨g10, eg10⟩ : ∃ z : Nat → Int32, upd g3 v4.toNatClampNeg (vp_nar .byte v9) = z := ⟨_, rfl⟩
  refine bast_g hx hb hK hP hD hS 1 2 rfl rfl (ix_k k5 (by decide) (by decide)) eg10 dX10_bytes4_19 (fun H locs hP hD hS => ?_)
  have hP : va_P D vwCl [(h0, .inr (10, vL 67 F6)), (h_tape, .inl (cB, 940, .inl g10))] H := hP
  have hD : va_D A [(h0, .inr (10, vL 67 F6)), (h_tape, .inl (cB, 940, .inl g10))] := hD
  refine lv_aload_n hx hb dX10_bytes4_20 rfl (lv_at hl 1 rfl) ?_
  refine lv_dup hx hb dX10_bytes4_21 rfl ?_
  refine get_f (D := D) (ci := 10) (v := .int v4) (C := RX10) (T := TX10) (N := 67) hx hb hw inAX10 hown hK hP 0 rfl rfl 2 (by decide) (hw _ q_1263) (fun _ h9 => h9) (get_eq eF6) dX10_bytes4_22 ?_
  refine lv_iconst (v := 1) hx hb dX10_bytes4_25 (by decide) ?_
  refine lv_iadd hx hb dX10_bytes4_26 ?_
  refine lv_topi (fun v11 ev11 => ?_)
  have bv11 : v11.toInt = v4.toInt + 1 := by rw [ev11]; exact add_k rfl rfl k5 ⟨Int.le_refl _, Int.le_refl _⟩ (by decide)
  have k12 : 2 ≤ v11.toInt ∧ v11.toInt ≤ 938 := add_r bv11 k5 ⟨Int.le_refl _, Int.le_refl _⟩ (by decide)
  refine put_f (D := D) (ci := 10) (v := .int v11) (ty := .int) (C := RX10) (T := TX10) (N := 67) hx hb hw inAX10 tyX10 tyX10_ok nmX10 hown hK hP hD hS 0 rfl rfl 2 (by decide) (hw _ q_1263) (fun _ h9 => h9) rfl (by decide +kernel) rfl rfl dX10_bytes4_27 (fun H locs F13 eF13 hP hD hS => ?_)
  have hP : va_P D vwCl [(h0, .inr (10, vL 67 F13)), (h_tape, .inl (cB, 940, .inl g10))] H := hP
  have hD : va_D A [(h0, .inr (10, vL 67 F13)), (h_tape, .inl (cB, 940, .inl g10))] := hD
  refine lv_iinc (v := 8) (lv' := [(2, .int 8), (0, .ref h0), (1, .int p0)]) hx hb dX10_bytes4_30 hl (k := 0) rfl (by decide +kernel) (by decide) rfl (fun ls hl => ?_)
  refine lv_goto (tgt := 3) hx hb dX10_bytes4_33 (by decide) ?_
  refine lv_iload_n hx hb dX10_bytes4_3 rfl (lv_at hl 0 rfl) ?_
  refine lv_if_lt (tgt := 36) hx hb dX10_bytes4_4 (by decide) (fun g => absurd g (by decide)) (fun _ => ?_)
  refine lv_aload_n hx hb dX10_bytes4_7 rfl (lv_at hl 1 rfl) ?_
  have n14 : F13 1 = .ref h_tape := (get_ne eF13 (by decide) n7)
  refine get_f (D := D) (ci := 10) (v := .ref h_tape) (C := RX10) (T := TX10) (N := 67) hx hb hw inAX10 hown hK hP 0 rfl rfl 1 (by decide) (hw _ q_1262) (fun _ h9 => h9) n14 dX10_bytes4_8 ?_
  refine lv_aload_n hx hb dX10_bytes4_11 rfl (lv_at hl 1 rfl) ?_
  refine get_f (D := D) (ci := 10) (v := .int v11) (C := RX10) (T := TX10) (N := 67) hx hb hw inAX10 hown hK hP 0 rfl rfl 2 (by decide) (hw _ q_1263) (fun _ h9 => h9) (get_eq eF13) dX10_bytes4_12 ?_
  refine lv_iload_n hx hb dX10_bytes4_15 rfl (lv_at hl 2 rfl) ?_
  refine lv_iload_n hx hb dX10_bytes4_16 rfl (lv_at hl 0 rfl) ?_
  refine lv_ishr hx hb dX10_bytes4_17 ?_
  refine lv_topi (fun v15 ev15 => ?_)
  obtain ⟨v16, ev16⟩ : ∃ z : Int32, (v15 : Int32).toInt8.toInt32 = z := ⟨_, rfl⟩
  refine lv_i2b (v := v16) hx hb dX10_bytes4_18 ev16 ?_
  obtain ⟨g17, eg17⟩ : ∃ z : Nat → Int32, upd g10 v11.toNatClampNeg (vp_nar .byte v16) = z := ⟨_, rfl⟩
  refine bast_g hx hb hK hP hD hS 1 2 rfl rfl (ix_k k12 (by decide) (by decide)) eg17 dX10_bytes4_19 (fun H locs hP hD hS => ?_)
  have hP : va_P D vwCl [(h0, .inr (10, vL 67 F13)), (h_tape, .inl (cB, 940, .inl g17))] H := hP
  have hD : va_D A [(h0, .inr (10, vL 67 F13)), (h_tape, .inl (cB, 940, .inl g17))] := hD
  refine lv_aload_n hx hb dX10_bytes4_20 rfl (lv_at hl 1 rfl) ?_
  refine lv_dup hx hb dX10_bytes4_21 rfl ?_
  refine get_f (D := D) (ci := 10) (v := .int v11) (C := RX10) (T := TX10) (N := 67) hx hb hw inAX10 hown hK hP 0 rfl rfl 2 (by decide) (hw _ q_1263) (fun _ h9 => h9) (get_eq eF13) dX10_bytes4_22 ?_
  refine lv_iconst (v := 1) hx hb dX10_bytes4_25 (by decide) ?_
  refine lv_iadd hx hb dX10_bytes4_26 ?_
  refine lv_topi (fun v18 ev18 => ?_)
  have bv18 : v18.toInt = v11.toInt + 1 := by rw [ev18]; exact add_k rfl rfl k12 ⟨Int.le_refl _, Int.le_refl _⟩ (by decide)
  have k19 : 3 ≤ v18.toInt ∧ v18.toInt ≤ 939 := add_r bv18 k12 ⟨Int.le_refl _, Int.le_refl _⟩ (by decide)
  refine put_f (D := D) (ci := 10) (v := .int v18) (ty := .int) (C := RX10) (T := TX10) (N := 67) hx hb hw inAX10 tyX10 tyX10_ok nmX10 hown hK hP hD hS 0 rfl rfl 2 (by decide) (hw _ q_1263) (fun _ h9 => h9) rfl (by decide +kernel) rfl rfl dX10_bytes4_27 (fun H locs F20 eF20 hP hD hS => ?_)
  have hP : va_P D vwCl [(h0, .inr (10, vL 67 F20)), (h_tape, .inl (cB, 940, .inl g17))] H := hP
  have hD : va_D A [(h0, .inr (10, vL 67 F20)), (h_tape, .inl (cB, 940, .inl g17))] := hD
  refine lv_iinc (v := 0) (lv' := [(2, .int 0), (0, .ref h0), (1, .int p0)]) hx hb dX10_bytes4_30 hl (k := 0) rfl (by decide +kernel) (by decide) rfl (fun ls hl => ?_)
  refine lv_goto (tgt := 3) hx hb dX10_bytes4_33 (by decide) ?_
  refine lv_iload_n hx hb dX10_bytes4_3 rfl (lv_at hl 0 rfl) ?_
  refine lv_if_lt (tgt := 36) hx hb dX10_bytes4_4 (by decide) (fun g => absurd g (by decide)) (fun _ => ?_)
  refine lv_aload_n hx hb dX10_bytes4_7 rfl (lv_at hl 1 rfl) ?_
  have n21 : F20 1 = .ref h_tape := (get_ne eF20 (by decide) n14)
  refine get_f (D := D) (ci := 10) (v := .ref h_tape) (C := RX10) (T := TX10) (N := 67) hx hb hw inAX10 hown hK hP 0 rfl rfl 1 (by decide) (hw _ q_1262) (fun _ h9 => h9) n21 dX10_bytes4_8 ?_
  refine lv_aload_n hx hb dX10_bytes4_11 rfl (lv_at hl 1 rfl) ?_
  refine get_f (D := D) (ci := 10) (v := .int v18) (C := RX10) (T := TX10) (N := 67) hx hb hw inAX10 hown hK hP 0 rfl rfl 2 (by decide) (hw _ q_1263) (fun _ h9 => h9) (get_eq eF20) dX10_bytes4_12 ?_
  refine lv_iload_n hx hb dX10_bytes4_15 rfl (lv_at hl 2 rfl) ?_
  refine lv_iload_n hx hb dX10_bytes4_16 rfl (lv_at hl 0 rfl) ?_
  refine lv_ishr hx hb dX10_bytes4_17 ?_
  refine lv_topi (fun v22 ev22 => ?_)
  obtain ⟨v23, ev23⟩ : ∃ z : Int32, (v22 : Int32).toInt8.toInt32 = z := ⟨_, rfl⟩
  refine lv_i2b (v := v23) hx hb dX10_bytes4_18 ev23 ?_
  obtain ⟨g24, eg24⟩ : ∃ z : Nat → Int32, upd g17 v18.toNatClampNeg (vp_nar .byte v23) = z := ⟨_, rfl⟩
  refine bast_g hx hb hK hP hD hS 1 2 rfl rfl (ix_k k19 (by decide) (by decide)) eg24 dX10_bytes4_19 (fun H locs hP hD hS => ?_)
  have hP : va_P D vwCl [(h0, .inr (10, vL 67 F20)), (h_tape, .inl (cB, 940, .inl g24))] H := hP
  have hD : va_D A [(h0, .inr (10, vL 67 F20)), (h_tape, .inl (cB, 940, .inl g24))] := hD
  refine lv_aload_n hx hb dX10_bytes4_20 rfl (lv_at hl 1 rfl) ?_
  refine lv_dup hx hb dX10_bytes4_21 rfl ?_
  refine get_f (D := D) (ci := 10) (v := .int v18) (C := RX10) (T := TX10) (N := 67) hx hb hw inAX10 hown hK hP 0 rfl rfl 2 (by decide) (hw _ q_1263) (fun _ h9 => h9) (get_eq eF20) dX10_bytes4_22 ?_
  refine lv_iconst (v := 1) hx hb dX10_bytes4_25 (by decide) ?_
  refine lv_iadd hx hb dX10_bytes4_26 ?_
  refine lv_topi (fun v25 ev25 => ?_)
  have bv25 : v25.toInt = v18.toInt + 1 := by rw [ev25]; exact add_k rfl rfl k19 ⟨Int.le_refl _, Int.le_refl _⟩ (by decide)
  have k26 : 4 ≤ v25.toInt ∧ v25.toInt ≤ 940 := add_r bv25 k19 ⟨Int.le_refl _, Int.le_refl _⟩ (by decide)
  refine put_f (D := D) (ci := 10) (v := .int v25) (ty := .int) (C := RX10) (T := TX10) (N := 67) hx hb hw inAX10 tyX10 tyX10_ok nmX10 hown hK hP hD hS 0 rfl rfl 2 (by decide) (hw _ q_1263) (fun _ h9 => h9) rfl (by decide +kernel) rfl rfl dX10_bytes4_27 (fun H locs F27 eF27 hP hD hS => ?_)
  have hP : va_P D vwCl [(h0, .inr (10, vL 67 F27)), (h_tape, .inl (cB, 940, .inl g24))] H := hP
  have hD : va_D A [(h0, .inr (10, vL 67 F27)), (h_tape, .inl (cB, 940, .inl g24))] := hD
  refine lv_iinc (v := (-8)) (lv' := [(2, .int (-8)), (0, .ref h0), (1, .int p0)]) hx hb dX10_bytes4_30 hl (k := 0) rfl (by decide +kernel) (by decide) rfl (fun ls hl => ?_)
  refine lv_goto (tgt := 3) hx hb dX10_bytes4_33 (by decide) ?_
  refine lv_iload_n hx hb dX10_bytes4_3 rfl (lv_at hl 0 rfl) ?_
  refine lv_if_lt (tgt := 36) hx hb dX10_bytes4_4 (by decide) (fun _ => ?_) (fun g => absurd (by decide) g)
  exact ret_v hx hb hr hlocks hS hP hD dX10_bytes4_36 (Nat.le_of_ble_eq_true rfl) (Nat.le_of_ble_eq_true rfl) ⟨F27, v25, g24, (SAME.up eF27 (SAME.up eF20 (SAME.up eF13 (SAME.up eF6 SAME.rf (by decide)) (by decide)) (by decide)) (by decide)), (get_eq eF27), k26, (by omega), rfl⟩
set_option maxHeartbeats 4000000 in
set_option maxRecDepth 100000 in
theorem m_X10_feed (l : Launch) (D : va_G) (cI cJ cB cP cM cZ : ClassId) (h0 : Nat) (h_tape : Nat) (Fh : Nat → Value) (x_length : Int32) (f_tape : Nat → Int32) (p0 : Int32) (p1 : Int32) (p2 : Int32) (p3 : Int32) (p4 : Int32) (sz : Nat) (e_tape : Fh 1 = .ref h_tape) (e_length : Fh 2 = .int x_length) (i_x_length : IR 0 940 x_length) : CI l yX10_feed cX10_feed 6 (some .int) { frames := 1, cells := 0, slots := 0, locals := 22 } (GG D cI cJ cB cP cM cZ) D [(h0, .inr (10, vL 67 Fh)), (h_tape, .inl (cB, 940, .inl f_tape))] sz [.ref h0, .int p0, .int p1, .int p2, .int p3, .int p4] (fun (r : Int32) (u : va_W) => ∃ (Gh : Nat → Value) (y_length : Int32) (g_tape : Nat → Int32), SAME [0, 2] Fh Gh ∧ Gh 0 = .int 0 ∧ Gh 2 = .int y_length ∧ IR 20 940 y_length ∧ IR (-1) 940 r ∧ u = [(h0, .inr (10, vL 67 Gh)), (h_tape, .inl (cB, 940, .inl g_tape))]) := by
  refine CI_mk (by decide) (Nat.le_of_ble_eq_true rfl) ?_
  intro p e s m below meth c A ls E hAe hG hsz hP hD hA hS hl
  obtain ⟨hx, hb, hr, hw, hown, hlocks, hml, hnm⟩ := E
  have hK := hG.1
  have i_x_length : 0 ≤ x_length.toInt ∧ x_length.toInt ≤ 940 := i_x_length
  have hl : lv_has ls 6 [(0, .ref h0), (1, .int p0), (2, .int p1), (3, .int p2), (4, .int p3), (5, .int p4)] := hl
  refine lv_aload_n hx hb dX10_feed_0 rfl (lv_at hl 0 rfl) ?_
  refine lv_iconst (v := 0) hx hb dX10_feed_1 (by decide) ?_
  refine put_f (D := D) (ci := 10) (v := .int 0) (ty := .int) (C := RX10) (T := TX10) (N := 67) hx hb hw inAX10 tyX10 tyX10_ok nmX10 hown hK hP hD hS 0 rfl rfl 0 (by decide) (hw _ q_1261) (fun _ h9 => h9) rfl (by decide +kernel) rfl rfl dX10_feed_2 (fun H locs F1 eF1 hP hD hS => ?_)
  have hP : va_P D vwCl [(h0, .inr (10, vL 67 F1)), (h_tape, .inl (cB, 940, .inl f_tape))] H := hP
  have hD : va_D A [(h0, .inr (10, vL 67 F1)), (h_tape, .inl (cB, 940, .inl f_tape))] := hD
  refine lv_aload_n hx hb dX10_feed_5 rfl (lv_at hl 0 rfl) ?_
  have n2 : F1 2 = .int x_length := (get_ne eF1 (by decide) e_length)
  refine get_f (D := D) (ci := 10) (v := .int x_length) (C := RX10) (T := TX10) (N := 67) hx hb hw inAX10 hown hK hP 0 rfl rfl 2 (by decide) (hw _ q_1263) (fun _ h9 => h9) n2 dX10_feed_6 ?_
  refine lv_bipush (v := 20) hx hb dX10_feed_9 (by decide) ?_
  refine lv_iadd hx hb dX10_feed_11 ?_
  refine lv_topi (fun v3 ev3 => ?_)
  have bv3 : v3.toInt = x_length.toInt + 20 := by rw [ev3]; exact add_k rfl rfl i_x_length ⟨Int.le_refl _, Int.le_refl _⟩ (by decide)
  have k4 : 20 ≤ v3.toInt ∧ v3.toInt ≤ 960 := add_r bv3 i_x_length ⟨Int.le_refl _, Int.le_refl _⟩ (by decide)
  refine lv_sipush (v := 940) hx hb dX10_feed_12 (by decide) ?_
  refine lv_icmp_le (tgt := 20) hx hb dX10_feed_15 (by decide) (fun c5 => ?_) (fun c5 => ?_)
  · have dc5 : v3.toInt ≤ 940 := le_i (a := v3.toInt) (b := 940) rfl rfl c5
    have k6 : 20 ≤ v3.toInt ∧ v3.toInt ≤ 940 := ⟨k4.1, Int.le_trans dc5 (Int.le_refl _)⟩
    have k7 : 0 ≤ x_length.toInt ∧ x_length.toInt ≤ 920 := ⟨i_x_length.1, lin_hi bv3 k6.2 (by decide)⟩
    refine lv_aload_n hx hb dX10_feed_20 rfl (lv_at hl 0 rfl) ?_
    refine lv_iload_n hx hb dX10_feed_21 rfl (lv_at hl 1 rfl) ?_
    have n8 : F1 1 = .ref h_tape := (get_ne eF1 (by decide) e_tape)
    refine call_Vv (wr := []) (As := [.int p0]) (rest := []) hx hb hml hown hw (m_X10_bytes4 l D cI cJ cB cP cM cZ h0 h_tape F1 x_length f_tape p0 _ n8 n2 (ir_wk k7 (by decide) (by decide))) wV_X10_10_X10_bytes4 dX10_feed_22 hK hP hD hS hA [0, 1] [] rfl rfl (by decide) (by decide) (by decide) 0 10 rfl rfl GG.fb hG.at hl.1 rfl (Nat.le_of_ble_eq_true rfl) ⟨(Nat.le_of_ble_eq_true rfl), (Nat.le_of_ble_eq_true rfl)⟩ ⟨(Nat.le_of_ble_eq_true rfl), (Nat.le_of_ble_eq_true rfl)⟩ (fun u H locs hp hP hD hS => ?_)
    obtain ⟨F10, y11, g12, t13, t14, t15, t16, rfl⟩ := hp
    have hP : va_P D vwCl [(h0, .inr (10, vL 67 F10)), (h_tape, .inl (cB, 940, .inl g12))] H := hP
    have hD : va_D A [(h0, .inr (10, vL 67 F10)), (h_tape, .inl (cB, 940, .inl g12))] := hD
    refine W.widen (k := 0) (n := 0) (Nat.le_of_ble_eq_true rfl) (Nat.le_of_ble_eq_true rfl) ?_
    have k18 : 4 ≤ y11.toInt ∧ y11.toInt ≤ 924 := ⟨by omega, by omega⟩
    refine lv_aload_n hx hb dX10_feed_25 rfl (lv_at hl 0 rfl) ?_
    refine lv_iload_n hx hb dX10_feed_26 rfl (lv_at hl 2 rfl) ?_
    have n19 : F10 1 = .ref h_tape := (SAME.at t13 (by decide) n8)
    refine call_Vv (wr := []) (As := [.int p1]) (rest := []) hx hb hml hown hw (m_X10_bytes4 l D cI cJ cB cP cM cZ h0 h_tape F10 y11 g12 p1 _ n19 t14 (ir_wk k18 (by decide) (by decide))) wV_X10_10_X10_bytes4 dX10_feed_27 hK hP hD hS hA [0, 1] [] rfl rfl (by decide) (by decide) (by decide) 0 10 rfl rfl GG.fb hG.at hl.1 rfl (Nat.le_of_ble_eq_true rfl) ⟨(Nat.le_of_ble_eq_true rfl), (Nat.le_of_ble_eq_true rfl)⟩ ⟨(Nat.le_of_ble_eq_true rfl), (Nat.le_of_ble_eq_true rfl)⟩ (fun u H locs hp hP hD hS => ?_)
    obtain ⟨F21, y22, g23, t24, t25, t26, t27, rfl⟩ := hp
    have hP : va_P D vwCl [(h0, .inr (10, vL 67 F21)), (h_tape, .inl (cB, 940, .inl g23))] H := hP
    have hD : va_D A [(h0, .inr (10, vL 67 F21)), (h_tape, .inl (cB, 940, .inl g23))] := hD
    refine W.widen (k := 0) (n := 0) (Nat.le_of_ble_eq_true rfl) (Nat.le_of_ble_eq_true rfl) ?_
    have k29 : 8 ≤ y22.toInt ∧ y22.toInt ≤ 928 := ⟨by omega, by omega⟩
    refine lv_aload_n hx hb dX10_feed_30 rfl (lv_at hl 0 rfl) ?_
    refine lv_iload_n hx hb dX10_feed_31 rfl (lv_at hl 3 rfl) ?_
    have n30 : F21 1 = .ref h_tape := (SAME.at t24 (by decide) n19)
    refine call_Vv (wr := []) (As := [.int p2]) (rest := []) hx hb hml hown hw (m_X10_bytes4 l D cI cJ cB cP cM cZ h0 h_tape F21 y22 g23 p2 _ n30 t25 (ir_wk k29 (by decide) (by decide))) wV_X10_10_X10_bytes4 dX10_feed_32 hK hP hD hS hA [0, 1] [] rfl rfl (by decide) (by decide) (by decide) 0 10 rfl rfl GG.fb hG.at hl.1 rfl (Nat.le_of_ble_eq_true rfl) ⟨(Nat.le_of_ble_eq_true rfl), (Nat.le_of_ble_eq_true rfl)⟩ ⟨(Nat.le_of_ble_eq_true rfl), (Nat.le_of_ble_eq_true rfl)⟩ (fun u H locs hp hP hD hS => ?_)
    obtain ⟨F32, y33, g34, t35, t36, t37, t38, rfl⟩ := hp
    have hP : va_P D vwCl [(h0, .inr (10, vL 67 F32)), (h_tape, .inl (cB, 940, .inl g34))] H := hP
    have hD : va_D A [(h0, .inr (10, vL 67 F32)), (h_tape, .inl (cB, 940, .inl g34))] := hD
    refine W.widen (k := 0) (n := 0) (Nat.le_of_ble_eq_true rfl) (Nat.le_of_ble_eq_true rfl) ?_
    have k40 : 12 ≤ y33.toInt ∧ y33.toInt ≤ 932 := ⟨by omega, by omega⟩
    refine lv_aload_n hx hb dX10_feed_35 rfl (lv_at hl 0 rfl) ?_
    refine lv_iload hx hb dX10_feed_36 (lv_at hl 4 rfl) ?_
    have n41 : F32 1 = .ref h_tape := (SAME.at t35 (by decide) n30)
    refine call_Vv (wr := []) (As := [.int p3]) (rest := []) hx hb hml hown hw (m_X10_bytes4 l D cI cJ cB cP cM cZ h0 h_tape F32 y33 g34 p3 _ n41 t36 (ir_wk k40 (by decide) (by decide))) wV_X10_10_X10_bytes4 dX10_feed_38 hK hP hD hS hA [0, 1] [] rfl rfl (by decide) (by decide) (by decide) 0 10 rfl rfl GG.fb hG.at hl.1 rfl (Nat.le_of_ble_eq_true rfl) ⟨(Nat.le_of_ble_eq_true rfl), (Nat.le_of_ble_eq_true rfl)⟩ ⟨(Nat.le_of_ble_eq_true rfl), (Nat.le_of_ble_eq_true rfl)⟩ (fun u H locs hp hP hD hS => ?_)
    obtain ⟨F43, y44, g45, t46, t47, t48, t49, rfl⟩ := hp
    have hP : va_P D vwCl [(h0, .inr (10, vL 67 F43)), (h_tape, .inl (cB, 940, .inl g45))] H := hP
    have hD : va_D A [(h0, .inr (10, vL 67 F43)), (h_tape, .inl (cB, 940, .inl g45))] := hD
    refine W.widen (k := 0) (n := 0) (Nat.le_of_ble_eq_true rfl) (Nat.le_of_ble_eq_true rfl) ?_
    have k51 : 16 ≤ y44.toInt ∧ y44.toInt ≤ 936 := ⟨by omega, by omega⟩
    refine lv_aload_n hx hb dX10_feed_41 rfl (lv_at hl 0 rfl) ?_
    refine lv_iload hx hb dX10_feed_42 (lv_at hl 5 rfl) ?_
    have n52 : F43 1 = .ref h_tape := (SAME.at t46 (by decide) n41)
    refine call_Vv (wr := []) (As := [.int p4]) (rest := []) hx hb hml hown hw (m_X10_bytes4 l D cI cJ cB cP cM cZ h0 h_tape F43 y44 g45 p4 _ n52 t47 (ir_wk k51 (by decide) (by decide))) wV_X10_10_X10_bytes4 dX10_feed_44 hK hP hD hS hA [0, 1] [] rfl rfl (by decide) (by decide) (by decide) 0 10 rfl rfl GG.fb hG.at hl.1 rfl (Nat.le_of_ble_eq_true rfl) ⟨(Nat.le_of_ble_eq_true rfl), (Nat.le_of_ble_eq_true rfl)⟩ ⟨(Nat.le_of_ble_eq_true rfl), (Nat.le_of_ble_eq_true rfl)⟩ (fun u H locs hp hP hD hS => ?_)
    obtain ⟨F54, y55, g56, t57, t58, t59, t60, rfl⟩ := hp
    have hP : va_P D vwCl [(h0, .inr (10, vL 67 F54)), (h_tape, .inl (cB, 940, .inl g56))] H := hP
    have hD : va_D A [(h0, .inr (10, vL 67 F54)), (h_tape, .inl (cB, 940, .inl g56))] := hD
    refine W.widen (k := 0) (n := 0) (Nat.le_of_ble_eq_true rfl) (Nat.le_of_ble_eq_true rfl) ?_
    have k62 : 20 ≤ y55.toInt ∧ y55.toInt ≤ 940 := ⟨by omega, by omega⟩
    refine lv_aload_n hx hb dX10_feed_47 rfl (lv_at hl 0 rfl) ?_
    refine get_f (D := D) (ci := 10) (v := .int y55) (C := RX10) (T := TX10) (N := 67) hx hb hw inAX10 hown hK hP 0 rfl rfl 2 (by decide) (hw _ q_1263) (fun _ h9 => h9) t58 dX10_feed_48 ?_
    exact ret_i (v := y55) hx hb hr hlocks hS hP hD dX10_feed_51 rfl (Nat.le_of_ble_eq_true rfl) (Nat.le_of_ble_eq_true rfl) ⟨F54, y55, g56, (SAME.tr (SAME.tr (SAME.tr (SAME.tr (SAME.tr (SAME.up eF1 SAME.rf (by decide)) t13 (by decide)) t24 (by decide)) t35 (by decide)) t46 (by decide)) t57 (by decide)), (SAME.at t57 (by decide) (SAME.at t46 (by decide) (SAME.at t35 (by decide) (SAME.at t24 (by decide) (SAME.at t13 (by decide) (get_eq eF1)))))), t58, k62, (ir_wk k62 (by decide) (by decide)), rfl⟩
  · have dc5 : 940 < v3.toInt := nle_i (a := v3.toInt) (b := 940) rfl rfl c5
    have k63 : 941 ≤ v3.toInt ∧ v3.toInt ≤ 960 := ⟨lo_lt dc5 (Int.le_refl _) (by decide), k4.2⟩
    have k64 : 921 ≤ x_length.toInt ∧ x_length.toInt ≤ 940 := ⟨lin_lo bv3 k63.1 (by decide), i_x_length.2⟩
    refine lv_iconst (v := (-1)) hx hb dX10_feed_18 (by decide) ?_
    exact ret_i (v := (-1)) hx hb hr hlocks hS hP hD dX10_feed_19 rfl (Nat.le_of_ble_eq_true rfl) (Nat.le_of_ble_eq_true rfl) ⟨F1, x_length, f_tape, (SAME.up eF1 SAME.rf (by decide)), (get_eq eF1), n2, (ir_wk k64 (by decide) (by decide)), (show (-1) ≤ ((-1) : Int32).toInt ∧ ((-1) : Int32).toInt ≤ 940 by decide), rfl⟩
set_option maxHeartbeats 4000000 in
set_option maxRecDepth 100000 in
theorem m_X10_end (l : Launch) (D : va_G) (cI cJ cB cP cM cZ : ClassId) (h0 : Nat) (Fh : Nat → Value) (x_length : Int32) (p0 : Int32) (sz : Nat) (e_length : Fh 2 = .int x_length) (i_x_length : IR 0 940 x_length) : CI l yX10_end cX10_end 2 (some .boolean) { frames := 0, cells := 0, slots := 0, locals := 0 } (GG D cI cJ cB cP cM cZ) D [(h0, .inr (10, vL 67 Fh))] sz [.ref h0, .int p0] (fun (r : Int32) (u : va_W) => ∃ (Gh : Nat → Value) (y_length : Int32), SAME [0, 2] Fh Gh ∧ Gh 0 = .int 0 ∧ Gh 2 = .int y_length ∧ IR 0 940 y_length ∧ IR 0 1 r ∧ u = [(h0, .inr (10, vL 67 Gh))]) := by
  refine CI_mk (by decide) (Nat.le_of_ble_eq_true rfl) ?_
  intro p e s m below meth c A ls E hAe hG hsz hP hD hA hS hl
  obtain ⟨hx, hb, hr, hw, hown, hlocks, hml, hnm⟩ := E
  have hK := hG.1
  have i_x_length : 0 ≤ x_length.toInt ∧ x_length.toInt ≤ 940 := i_x_length
  have hl : lv_has ls 2 [(0, .ref h0), (1, .int p0)] := hl
  refine lv_aload_n hx hb dX10_end_0 rfl (lv_at hl 0 rfl) ?_
  refine lv_iconst (v := 0) hx hb dX10_end_1 (by decide) ?_
  refine put_f (D := D) (ci := 10) (v := .int 0) (ty := .int) (C := RX10) (T := TX10) (N := 67) hx hb hw inAX10 tyX10 tyX10_ok nmX10 hown hK hP hD hS 0 rfl rfl 0 (by decide) (hw _ q_1261) (fun _ h9 => h9) rfl (by decide +kernel) rfl rfl dX10_end_2 (fun H locs F1 eF1 hP hD hS => ?_)
  have hP : va_P D vwCl [(h0, .inr (10, vL 67 F1))] H := hP
  have hD : va_D A [(h0, .inr (10, vL 67 F1))] := hD
  refine lv_iload_n hx hb dX10_end_5 rfl (lv_at hl 1 rfl) ?_
  refine lv_if_lt (tgt := 17) hx hb dX10_end_6 (by decide) (fun c2 => ?_) (fun c2 => ?_)
  · have dc2 : p0.toInt < 0 := lt_i (a := p0.toInt) (b := 0) rfl rfl c2
    have k3 : (-2147483648) ≤ p0.toInt ∧ p0.toInt ≤ (-1) := ⟨(ir_any _).1, up_lt dc2 (Int.le_refl _) (by decide)⟩
    refine lv_iconst (v := 0) hx hb dX10_end_17 (by decide) ?_
    exact ret_i (v := 0) hx hb hr hlocks hS hP hD dX10_end_18 rfl (Nat.le_of_ble_eq_true rfl) (Nat.le_of_ble_eq_true rfl) ⟨F1, x_length, (SAME.up eF1 SAME.rf (by decide)), (get_eq eF1), (get_ne eF1 (by decide) e_length), i_x_length, (show 0 ≤ (0 : Int32).toInt ∧ (0 : Int32).toInt ≤ 1 by decide), rfl⟩
  · have dc2 : 0 ≤ p0.toInt := nlt_i (a := p0.toInt) (b := 0) rfl rfl c2
    have k4 : 0 ≤ p0.toInt ∧ p0.toInt ≤ 2147483647 := ⟨Int.le_trans (Int.le_refl _) dc2, (ir_any _).2⟩
    refine lv_iload_n hx hb dX10_end_9 rfl (lv_at hl 1 rfl) ?_
    refine lv_aload_n hx hb dX10_end_10 rfl (lv_at hl 0 rfl) ?_
    have n5 : F1 2 = .int x_length := (get_ne eF1 (by decide) e_length)
    refine get_f (D := D) (ci := 10) (v := .int x_length) (C := RX10) (T := TX10) (N := 67) hx hb hw inAX10 hown hK hP 0 rfl rfl 2 (by decide) (hw _ q_1263) (fun _ h9 => h9) n5 dX10_end_11 ?_
    refine lv_icmp_le (tgt := 19) hx hb dX10_end_14 (by decide) (fun c6 => ?_) (fun c6 => ?_)
    · have dc6 : p0.toInt ≤ x_length.toInt := le_i (a := p0.toInt) (b := x_length.toInt) rfl rfl c6
      have k7 : 0 ≤ p0.toInt ∧ p0.toInt ≤ 940 := ⟨k4.1, Int.le_trans dc6 i_x_length.2⟩
      refine lv_aload_n hx hb dX10_end_19 rfl (lv_at hl 0 rfl) ?_
      refine lv_iload_n hx hb dX10_end_20 rfl (lv_at hl 1 rfl) ?_
      refine put_f (D := D) (ci := 10) (v := .int p0) (ty := .int) (C := RX10) (T := TX10) (N := 67) hx hb hw inAX10 tyX10 tyX10_ok nmX10 hown hK hP hD hS 0 rfl rfl 2 (by decide) (hw _ q_1263) (fun _ h9 => h9) rfl (by decide +kernel) rfl rfl dX10_end_21 (fun H locs F8 eF8 hP hD hS => ?_)
      have hP : va_P D vwCl [(h0, .inr (10, vL 67 F8))] H := hP
      have hD : va_D A [(h0, .inr (10, vL 67 F8))] := hD
      refine lv_iconst (v := 1) hx hb dX10_end_24 (by decide) ?_
      exact ret_i (v := 1) hx hb hr hlocks hS hP hD dX10_end_25 rfl (Nat.le_of_ble_eq_true rfl) (Nat.le_of_ble_eq_true rfl) ⟨F8, p0, (SAME.up eF8 (SAME.up eF1 SAME.rf (by decide)) (by decide)), (get_ne eF8 (by decide) (get_eq eF1)), (get_eq eF8), k7, (show 0 ≤ (1 : Int32).toInt ∧ (1 : Int32).toInt ≤ 1 by decide), rfl⟩
    · have dc6 : x_length.toInt < p0.toInt := nle_i (a := p0.toInt) (b := x_length.toInt) rfl rfl c6
      have k9 : 1 ≤ p0.toInt ∧ p0.toInt ≤ 2147483647 := ⟨lo_lt dc6 i_x_length.1 (by decide), k4.2⟩
      refine lv_iconst (v := 0) hx hb dX10_end_17 (by decide) ?_
      exact ret_i (v := 0) hx hb hr hlocks hS hP hD dX10_end_18 rfl (Nat.le_of_ble_eq_true rfl) (Nat.le_of_ble_eq_true rfl) ⟨F1, x_length, (SAME.up eF1 SAME.rf (by decide)), (get_eq eF1), n5, i_x_length, (show 0 ≤ (0 : Int32).toInt ∧ (0 : Int32).toInt ≤ 1 by decide), rfl⟩
set_option maxHeartbeats 4000000 in
set_option maxRecDepth 100000 in
theorem m_X10_taken (l : Launch) (D : va_G) (cI cJ cB cP cM cZ : ClassId) (h0 : Nat) (Fh : Nat → Value) (x_length : Int32) (p0 : Int32) (sz : Nat) (e_length : Fh 2 = .int x_length) (i_x_length : IR 0 940 x_length) (i_p0 : IR 200 940 p0) : CV l yX10_taken cX10_taken 2 none { frames := 0, cells := 0, slots := 0, locals := 0 } (GG D cI cJ cB cP cM cZ) D [(h0, .inr (10, vL 67 Fh))] sz [.ref h0, .int p0] (fun (u : va_W) => ∃ (Gh : Nat → Value), SAME [2, 3, 4, 5] Fh Gh ∧ Gh 2 = .int 0 ∧ Gh 3 = .int x_length ∧ Gh 4 = .int 0 ∧ Gh 5 = .int p0 ∧ u = [(h0, .inr (10, vL 67 Gh))]) := by
  refine CV_mk (by decide) (Nat.le_of_ble_eq_true rfl) ?_
  intro p e s m below meth c A ls E hAe hG hsz hP hD hA hS hl
  obtain ⟨hx, hb, hr, hw, hown, hlocks, hml, hnm⟩ := E
  have hK := hG.1
  have i_x_length : 0 ≤ x_length.toInt ∧ x_length.toInt ≤ 940 := i_x_length
  have i_p0 : 200 ≤ p0.toInt ∧ p0.toInt ≤ 940 := i_p0
  have hl : lv_has ls 2 [(0, .ref h0), (1, .int p0)] := hl
  refine lv_aload_n hx hb dX10_taken_0 rfl (lv_at hl 0 rfl) ?_
  refine lv_aload_n hx hb dX10_taken_1 rfl (lv_at hl 0 rfl) ?_
  refine get_f (D := D) (ci := 10) (v := .int x_length) (C := RX10) (T := TX10) (N := 67) hx hb hw inAX10 hown hK hP 0 rfl rfl 2 (by decide) (hw _ q_1263) (fun _ h9 => h9) e_length dX10_taken_2 ?_
  refine put_f (D := D) (ci := 10) (v := .int x_length) (ty := .int) (C := RX10) (T := TX10) (N := 67) hx hb hw inAX10 tyX10 tyX10_ok nmX10 hown hK hP hD hS 0 rfl rfl 3 (by decide) (hw _ q_1264) (fun _ h9 => h9) rfl (by decide +kernel) rfl rfl dX10_taken_5 (fun H locs F1 eF1 hP hD hS => ?_)
  have hP : va_P D vwCl [(h0, .inr (10, vL 67 F1))] H := hP
  have hD : va_D A [(h0, .inr (10, vL 67 F1))] := hD
  refine lv_aload_n hx hb dX10_taken_8 rfl (lv_at hl 0 rfl) ?_
  refine lv_iconst (v := 0) hx hb dX10_taken_9 (by decide) ?_
  refine put_f (D := D) (ci := 10) (v := .int 0) (ty := .int) (C := RX10) (T := TX10) (N := 67) hx hb hw inAX10 tyX10 tyX10_ok nmX10 hown hK hP hD hS 0 rfl rfl 2 (by decide) (hw _ q_1263) (fun _ h9 => h9) rfl (by decide +kernel) rfl rfl dX10_taken_10 (fun H locs F2 eF2 hP hD hS => ?_)
  have hP : va_P D vwCl [(h0, .inr (10, vL 67 F2))] H := hP
  have hD : va_D A [(h0, .inr (10, vL 67 F2))] := hD
  refine lv_aload_n hx hb dX10_taken_13 rfl (lv_at hl 0 rfl) ?_
  refine lv_iconst (v := 0) hx hb dX10_taken_14 (by decide) ?_
  refine put_f (D := D) (ci := 10) (v := .int 0) (ty := .int) (C := RX10) (T := TX10) (N := 67) hx hb hw inAX10 tyX10 tyX10_ok nmX10 hown hK hP hD hS 0 rfl rfl 4 (by decide) (hw _ q_1265) (fun _ h9 => h9) rfl (by decide +kernel) rfl rfl dX10_taken_15 (fun H locs F3 eF3 hP hD hS => ?_)
  have hP : va_P D vwCl [(h0, .inr (10, vL 67 F3))] H := hP
  have hD : va_D A [(h0, .inr (10, vL 67 F3))] := hD
  refine lv_aload_n hx hb dX10_taken_18 rfl (lv_at hl 0 rfl) ?_
  refine lv_iload_n hx hb dX10_taken_19 rfl (lv_at hl 1 rfl) ?_
  refine put_f (D := D) (ci := 10) (v := .int p0) (ty := .int) (C := RX10) (T := TX10) (N := 67) hx hb hw inAX10 tyX10 tyX10_ok nmX10 hown hK hP hD hS 0 rfl rfl 5 (by decide) (hw _ q_1266) (fun _ h9 => h9) rfl (by decide +kernel) rfl rfl dX10_taken_20 (fun H locs F4 eF4 hP hD hS => ?_)
  have hP : va_P D vwCl [(h0, .inr (10, vL 67 F4))] H := hP
  have hD : va_D A [(h0, .inr (10, vL 67 F4))] := hD
  exact ret_v hx hb hr hlocks hS hP hD dX10_taken_23 (Nat.le_of_ble_eq_true rfl) (Nat.le_of_ble_eq_true rfl) ⟨F4, (SAME.up eF4 (SAME.up eF3 (SAME.up eF2 (SAME.up eF1 SAME.rf (by decide)) (by decide)) (by decide)) (by decide)), (get_ne eF4 (by decide) (get_ne eF3 (by decide) (get_eq eF2))), (get_ne eF4 (by decide) (get_ne eF3 (by decide) (get_ne eF2 (by decide) (get_eq eF1)))), (get_ne eF4 (by decide) (get_eq eF3)), (get_eq eF4), rfl⟩
set_option maxHeartbeats 4000000 in
set_option maxRecDepth 100000 in
theorem m_X10_isIn (l : Launch) (D : va_G) (cI cJ cB cP cM cZ : ClassId) (p0 : Int32) (p1 : Int32) (p2 : Int32) (sz : Nat)  : CI l yX10_isIn cX10_isIn 3 (some .boolean) { frames := 0, cells := 0, slots := 0, locals := 0 } (GG D cI cJ cB cP cM cZ) D [] sz [.int p0, .int p1, .int p2] (fun (r : Int32) (u : va_W) => (p0.toInt < p1.toInt ∧ r = 0 ∧ u = []) ∨ (p1.toInt ≤ p0.toInt ∧ p2.toInt < p0.toInt ∧ r = 0 ∧ u = []) ∨ (p1.toInt ≤ p0.toInt ∧ p0.toInt ≤ p2.toInt ∧ r = 1 ∧ u = [])) := by
  refine CI_mk (by decide) (Nat.le_of_ble_eq_true rfl) ?_
  intro p e s m below meth c A ls E hAe hG hsz hP hD hA hS hl
  obtain ⟨hx, hb, hr, hw, hown, hlocks, hml, hnm⟩ := E
  have hK := hG.1
  have hl : lv_has ls 3 [(0, .int p0), (1, .int p1), (2, .int p2)] := hl
  refine lv_iload_n hx hb dX10_isIn_0 rfl (lv_at hl 0 rfl) ?_
  refine lv_iload_n hx hb dX10_isIn_1 rfl (lv_at hl 1 rfl) ?_
  refine lv_icmp_lt (tgt := 14) hx hb dX10_isIn_2 (by decide) (fun c1 => ?_) (fun c1 => ?_)
  · have dc1 : p0.toInt < p1.toInt := lt_i (a := p0.toInt) (b := p1.toInt) rfl rfl c1
    have k2 : (-2147483648) ≤ p0.toInt ∧ p0.toInt ≤ 2147483646 := ⟨(ir_any _).1, up_lt dc1 (ir_any _).2 (by decide)⟩
    have k3 : (-2147483647) ≤ p1.toInt ∧ p1.toInt ≤ 2147483647 := ⟨lo_lt dc1 (ir_any _).1 (by decide), (ir_any _).2⟩
    refine lv_iconst (v := 0) hx hb dX10_isIn_14 (by decide) ?_
    exact ret_i (v := 0) hx hb hr hlocks hS hP hD dX10_isIn_15 rfl (Nat.le_of_ble_eq_true rfl) (Nat.le_of_ble_eq_true rfl) (Or.inl ⟨dc1, rfl, rfl⟩)
  · have dc1 : p1.toInt ≤ p0.toInt := nlt_i (a := p0.toInt) (b := p1.toInt) rfl rfl c1
    refine lv_iload_n hx hb dX10_isIn_5 rfl (lv_at hl 0 rfl) ?_
    refine lv_iload_n hx hb dX10_isIn_6 rfl (lv_at hl 2 rfl) ?_
    refine lv_icmp_gt (tgt := 14) hx hb dX10_isIn_7 (by decide) (fun c4 => ?_) (fun c4 => ?_)
    · have dc4 : p2.toInt < p0.toInt := lt_i (a := p2.toInt) (b := p0.toInt) rfl rfl c4
      have k5 : (-2147483648) ≤ p2.toInt ∧ p2.toInt ≤ 2147483646 := ⟨(ir_any _).1, up_lt dc4 (ir_any _).2 (by decide)⟩
      have k6 : (-2147483647) ≤ p0.toInt ∧ p0.toInt ≤ 2147483647 := ⟨lo_lt dc4 (ir_any _).1 (by decide), (ir_any _).2⟩
      refine lv_iconst (v := 0) hx hb dX10_isIn_14 (by decide) ?_
      exact ret_i (v := 0) hx hb hr hlocks hS hP hD dX10_isIn_15 rfl (Nat.le_of_ble_eq_true rfl) (Nat.le_of_ble_eq_true rfl) (Or.inr (Or.inl ⟨dc1, dc4, rfl, rfl⟩))
    · have dc4 : p0.toInt ≤ p2.toInt := nlt_i (a := p2.toInt) (b := p0.toInt) rfl rfl c4
      refine lv_iconst (v := 1) hx hb dX10_isIn_10 (by decide) ?_
      refine lv_goto (tgt := 15) hx hb dX10_isIn_11 (by decide) ?_
      exact ret_i (v := 1) hx hb hr hlocks hS hP hD dX10_isIn_15 rfl (Nat.le_of_ble_eq_true rfl) (Nat.le_of_ble_eq_true rfl) (Or.inr (Or.inr ⟨dc1, dc4, rfl, rfl⟩))
set_option maxHeartbeats 4000000 in
set_option maxRecDepth 100000 in
theorem m_X10_bitOf (l : Launch) (D : va_G) (cI cJ cB cP cM cZ : ClassId) (p0 : Int32) (p1 : Int32) (sz : Nat)  : CI l yX10_bitOf cX10_bitOf 2 (some .boolean) { frames := 0, cells := 0, slots := 0, locals := 0 } (GG D cI cJ cB cP cM cZ) D [] sz [.int p0, .int p1] (fun (r : Int32) (u : va_W) => (r = 0 ∧ u = []) ∨ (r = 1 ∧ u = [])) := by
  refine CI_mk (by decide) (Nat.le_of_ble_eq_true rfl) ?_
  intro p e s m below meth c A ls E hAe hG hsz hP hD hA hS hl
  obtain ⟨hx, hb, hr, hw, hown, hlocks, hml, hnm⟩ := E
  have hK := hG.1
  have hl : lv_has ls 2 [(0, .int p0), (1, .int p1)] := hl
  refine lv_iload_n hx hb dX10_bitOf_0 rfl (lv_at hl 0 rfl) ?_
  refine lv_iload_n hx hb dX10_bitOf_1 rfl (lv_at hl 1 rfl) ?_
  refine lv_ishr hx hb dX10_bitOf_2 ?_
  refine lv_topi (fun v1 ev1 => ?_)
  refine lv_iconst (v := 1) hx hb dX10_bitOf_3 (by decide) ?_
  refine lv_iand hx hb dX10_bitOf_4 ?_
  refine lv_topi (fun v2 ev2 => ?_)
  have k3 : 0 ≤ v2.toInt ∧ v2.toInt ≤ 1 := by rw [ev2]; exact and_i v1 1 (by decide)
  refine lv_iconst (v := 1) hx hb dX10_bitOf_5 (by decide) ?_
  refine lv_icmp_ne (tgt := 13) hx hb dX10_bitOf_6 (by decide) (fun c4 => ?_) (fun c4 => ?_)
  · have dc4 : v2.toInt ≠ 1 := ne_i (a := v2.toInt) (b := 1) rfl rfl c4
    have k5 : 0 ≤ v2.toInt ∧ v2.toInt ≤ 0 := ⟨k3.1, ne_hi dc4 k3.2 ⟨Int.le_refl _, Int.le_refl _⟩ (by decide)⟩
    refine lv_iconst (v := 0) hx hb dX10_bitOf_13 (by decide) ?_
    exact ret_i (v := 0) hx hb hr hlocks hS hP hD dX10_bitOf_14 rfl (Nat.le_of_ble_eq_true rfl) (Nat.le_of_ble_eq_true rfl) (Or.inl ⟨rfl, rfl⟩)
  · have dc4 : v2.toInt = 1 := eq_i (a := v2.toInt) (b := 1) rfl rfl c4
    have k6 : 1 ≤ v2.toInt ∧ v2.toInt ≤ 1 := ⟨Int.le_trans (Int.le_refl _) (Int.le_of_eq dc4.symm), k3.2⟩
    refine lv_iconst (v := 1) hx hb dX10_bitOf_9 (by decide) ?_
    refine lv_goto (tgt := 14) hx hb dX10_bitOf_10 (by decide) ?_
    exact ret_i (v := 1) hx hb hr hlocks hS hP hD dX10_bitOf_14 rfl (Nat.le_of_ble_eq_true rfl) (Nat.le_of_ble_eq_true rfl) (Or.inr ⟨rfl, rfl⟩)
def fn_X10_off (p0 : Int32) (p1 : Int32) : Int32 := (if p1 ≤ p0 then (p0 - p1) else (p1 - p0))
set_option maxHeartbeats 4000000 in
set_option maxRecDepth 100000 in
theorem m_X10_off (l : Launch) (D : va_G) (cI cJ cB cP cM cZ : ClassId) (p0 : Int32) (p1 : Int32) (sz : Nat)  : CI l yX10_off cX10_off 2 (some .int) { frames := 0, cells := 0, slots := 0, locals := 0 } (GG D cI cJ cB cP cM cZ) D [] sz [.int p0, .int p1] (fun (r : Int32) (u : va_W) => r = fn_X10_off p0 p1 ∧ u = []) := by
  refine CI_mk (by decide) (Nat.le_of_ble_eq_true rfl) ?_
  intro p e s m below meth c A ls E hAe hG hsz hP hD hA hS hl
  obtain ⟨hx, hb, hr, hw, hown, hlocks, hml, hnm⟩ := E
  have hK := hG.1
  have hl : lv_has ls 2 [(0, .int p0), (1, .int p1)] := hl
  refine lv_iload_n hx hb dX10_off_0 rfl (lv_at hl 0 rfl) ?_
  refine lv_iload_n hx hb dX10_off_1 rfl (lv_at hl 1 rfl) ?_
  refine lv_icmp_ge (tgt := 11) hx hb dX10_off_2 (by decide) (fun c1 => ?_) (fun c1 => ?_)
  · have dc1 : p1.toInt ≤ p0.toInt := le_i (a := p1.toInt) (b := p0.toInt) rfl rfl c1
    refine lv_iload_n hx hb dX10_off_11 rfl (lv_at hl 0 rfl) ?_
    refine lv_iload_n hx hb dX10_off_12 rfl (lv_at hl 1 rfl) ?_
    refine lv_isub hx hb dX10_off_13 ?_
    refine lv_topi (fun v2 ev2 => ?_)
    exact ret_i (v := v2) hx hb hr hlocks hS hP hD dX10_off_14 rfl (Nat.le_of_ble_eq_true rfl) (Nat.le_of_ble_eq_true rfl) ⟨(by subst_vars; unfold fn_X10_off; rw [if_pos c1]), rfl⟩
  · have dc1 : p0.toInt < p1.toInt := nle_i (a := p1.toInt) (b := p0.toInt) rfl rfl c1
    have k3 : (-2147483648) ≤ p0.toInt ∧ p0.toInt ≤ 2147483646 := ⟨(ir_any _).1, up_lt dc1 (ir_any _).2 (by decide)⟩
    have k4 : (-2147483647) ≤ p1.toInt ∧ p1.toInt ≤ 2147483647 := ⟨lo_lt dc1 (ir_any _).1 (by decide), (ir_any _).2⟩
    refine lv_iload_n hx hb dX10_off_5 rfl (lv_at hl 1 rfl) ?_
    refine lv_iload_n hx hb dX10_off_6 rfl (lv_at hl 0 rfl) ?_
    refine lv_isub hx hb dX10_off_7 ?_
    refine lv_topi (fun v5 ev5 => ?_)
    refine lv_goto (tgt := 14) hx hb dX10_off_8 (by decide) ?_
    exact ret_i (v := v5) hx hb hr hlocks hS hP hD dX10_off_14 rfl (Nat.le_of_ble_eq_true rfl) (Nat.le_of_ble_eq_true rfl) ⟨(by subst_vars; unfold fn_X10_off; rw [if_neg c1]), rfl⟩
def fn_X10_lesser (p0 : Int32) (p1 : Int32) : Int32 := (if p1 ≤ p0 then p1 else p0)
set_option maxHeartbeats 4000000 in
set_option maxRecDepth 100000 in
theorem m_X10_lesser (l : Launch) (D : va_G) (cI cJ cB cP cM cZ : ClassId) (p0 : Int32) (p1 : Int32) (sz : Nat)  : CI l yX10_lesser cX10_lesser 2 (some .int) { frames := 0, cells := 0, slots := 0, locals := 0 } (GG D cI cJ cB cP cM cZ) D [] sz [.int p0, .int p1] (fun (r : Int32) (u : va_W) => r = fn_X10_lesser p0 p1 ∧ (r.toInt ≤ p0.toInt ∧ r.toInt ≤ p1.toInt ∧ (r.toInt = p0.toInt ∨ r.toInt = p1.toInt)) ∧ u = []) := by
  refine CI_mk (by decide) (Nat.le_of_ble_eq_true rfl) ?_
  intro p e s m below meth c A ls E hAe hG hsz hP hD hA hS hl
  obtain ⟨hx, hb, hr, hw, hown, hlocks, hml, hnm⟩ := E
  have hK := hG.1
  have hl : lv_has ls 2 [(0, .int p0), (1, .int p1)] := hl
  refine lv_iload_n hx hb dX10_lesser_0 rfl (lv_at hl 0 rfl) ?_
  refine lv_iload_n hx hb dX10_lesser_1 rfl (lv_at hl 1 rfl) ?_
  refine lv_icmp_ge (tgt := 9) hx hb dX10_lesser_2 (by decide) (fun c1 => ?_) (fun c1 => ?_)
  · have dc1 : p1.toInt ≤ p0.toInt := le_i (a := p1.toInt) (b := p0.toInt) rfl rfl c1
    refine lv_iload_n hx hb dX10_lesser_9 rfl (lv_at hl 1 rfl) ?_
    exact ret_i (v := p1) hx hb hr hlocks hS hP hD dX10_lesser_10 rfl (Nat.le_of_ble_eq_true rfl) (Nat.le_of_ble_eq_true rfl) ⟨(by subst_vars; unfold fn_X10_lesser; rw [if_pos c1]), (by omega), rfl⟩
  · have dc1 : p0.toInt < p1.toInt := nle_i (a := p1.toInt) (b := p0.toInt) rfl rfl c1
    have k2 : (-2147483648) ≤ p0.toInt ∧ p0.toInt ≤ 2147483646 := ⟨(ir_any _).1, up_lt dc1 (ir_any _).2 (by decide)⟩
    have k3 : (-2147483647) ≤ p1.toInt ∧ p1.toInt ≤ 2147483647 := ⟨lo_lt dc1 (ir_any _).1 (by decide), (ir_any _).2⟩
    refine lv_iload_n hx hb dX10_lesser_5 rfl (lv_at hl 0 rfl) ?_
    refine lv_goto (tgt := 10) hx hb dX10_lesser_6 (by decide) ?_
    exact ret_i (v := p0) hx hb hr hlocks hS hP hD dX10_lesser_10 rfl (Nat.le_of_ble_eq_true rfl) (Nat.le_of_ble_eq_true rfl) ⟨(by subst_vars; unfold fn_X10_lesser; rw [if_neg c1]), (by omega), rfl⟩
def fn_X10_bounded (p0 : Int32) : Int32 := (if (10 : Int32) ≤ p0 then (fn_X10_lesser p0 (250 : Int32)) else (10 : Int32))
set_option maxHeartbeats 4000000 in
set_option maxRecDepth 100000 in
theorem m_X10_bounded (l : Launch) (D : va_G) (cI cJ cB cP cM cZ : ClassId) (p0 : Int32) (sz : Nat)  : CI l yX10_bounded cX10_bounded 1 (some .int) { frames := 1, cells := 0, slots := 0, locals := 21 } (GG D cI cJ cB cP cM cZ) D [] sz [.int p0] (fun (r : Int32) (u : va_W) => IR 10 250 r ∧ r = fn_X10_bounded p0 ∧ u = []) := by
  refine CI_mk (by decide) (Nat.le_of_ble_eq_true rfl) ?_
  intro p e s m below meth c A ls E hAe hG hsz hP hD hA hS hl
  obtain ⟨hx, hb, hr, hw, hown, hlocks, hml, hnm⟩ := E
  have hK := hG.1
  have hl : lv_has ls 1 [(0, .int p0)] := hl
  refine lv_iload_n hx hb dX10_bounded_0 rfl (lv_at hl 0 rfl) ?_
  refine lv_bipush (v := 10) hx hb dX10_bounded_1 (by decide) ?_
  refine lv_icmp_ge (tgt := 11) hx hb dX10_bounded_3 (by decide) (fun c1 => ?_) (fun c1 => ?_)
  · have dc1 : 10 ≤ p0.toInt := le_i (a := 10) (b := p0.toInt) rfl rfl c1
    have k2 : 10 ≤ p0.toInt ∧ p0.toInt ≤ 2147483647 := ⟨Int.le_trans (Int.le_refl _) dc1, (ir_any _).2⟩
    refine lv_iload_n hx hb dX10_bounded_11 rfl (lv_at hl 0 rfl) ?_
    refine lv_sipush (v := 250) hx hb dX10_bounded_12 (by decide) ?_
    refine call_Si (wr := []) (As := [.int p0, .int 250]) (rest := []) hx hb hml hown hw (m_X10_lesser l D cI cJ cB cP cM cZ p0 250 _ ) wS_X10_27_X10_lesser dX10_bounded_15 hP hD hS hA [] [] rfl rfl (by decide) (by decide) (by decide) GG.fb hG.at hl.1 rfl (Nat.le_of_ble_eq_true rfl) ⟨(Nat.le_of_ble_eq_true rfl), (Nat.le_of_ble_eq_true rfl)⟩ ⟨(Nat.le_of_ble_eq_true rfl), (Nat.le_of_ble_eq_true rfl)⟩ (fun r3 u H locs hp hP hD hS => ?_)
    have zl250 : (250 : Int32).toInt = 250 := by decide
    obtain ⟨t4, t5, rfl⟩ := hp
    have hP : va_P D vwCl [] H := hP
    have hD : va_D A [] := hD
    refine W.widen (k := 0) (n := 0) (Nat.le_of_ble_eq_true rfl) (Nat.le_of_ble_eq_true rfl) ?_
    have k7 : 10 ≤ r3.toInt ∧ r3.toInt ≤ 250 := ⟨by omega, by omega⟩
    exact ret_i (v := r3) hx hb hr hlocks hS hP hD dX10_bounded_18 rfl (Nat.le_of_ble_eq_true rfl) (Nat.le_of_ble_eq_true rfl) ⟨k7, (by subst_vars; unfold fn_X10_bounded; rw [if_pos c1]), rfl⟩
  · have dc1 : p0.toInt < 10 := nle_i (a := 10) (b := p0.toInt) rfl rfl c1
    have k8 : (-2147483648) ≤ p0.toInt ∧ p0.toInt ≤ 9 := ⟨(ir_any _).1, up_lt dc1 (Int.le_refl _) (by decide)⟩
    refine lv_bipush (v := 10) hx hb dX10_bounded_6 (by decide) ?_
    refine lv_goto (tgt := 18) hx hb dX10_bounded_8 (by decide) ?_
    exact ret_i (v := 10) hx hb hr hlocks hS hP hD dX10_bounded_18 rfl (Nat.le_of_ble_eq_true rfl) (Nat.le_of_ble_eq_true rfl) ⟨(show 10 ≤ (10 : Int32).toInt ∧ (10 : Int32).toInt ≤ 250 by decide), (by subst_vars; unfold fn_X10_bounded; rw [if_neg c1]), rfl⟩
set_option maxHeartbeats 4000000 in
set_option maxRecDepth 100000 in
theorem m_X10_octet (l : Launch) (D : va_G) (cI cJ cB cP cM cZ : ClassId) (h0 : Nat) (h_tape : Nat) (Fh : Nat → Value) (f_tape : Nat → Int32) (p0 : Int32) (sz : Nat) (e_tape : Fh 1 = .ref h_tape) (i_p0 : IR 0 939 p0) : CI l yX10_octet cX10_octet 2 (some .int) { frames := 0, cells := 0, slots := 0, locals := 0 } (GG D cI cJ cB cP cM cZ) D [(h0, .inr (10, vL 67 Fh)), (h_tape, .inl (cB, 940, .inl f_tape))] sz [.ref h0, .int p0] (fun (r : Int32) (u : va_W) => IR 0 255 r ∧ u = [(h0, .inr (10, vL 67 Fh)), (h_tape, .inl (cB, 940, .inl f_tape))]) := by
  refine CI_mk (by decide) (Nat.le_of_ble_eq_true rfl) ?_
  intro p e s m below meth c A ls E hAe hG hsz hP hD hA hS hl
  obtain ⟨hx, hb, hr, hw, hown, hlocks, hml, hnm⟩ := E
  have hK := hG.1
  have i_p0 : 0 ≤ p0.toInt ∧ p0.toInt ≤ 939 := i_p0
  have hl : lv_has ls 2 [(0, .ref h0), (1, .int p0)] := hl
  refine lv_aload_n hx hb dX10_octet_0 rfl (lv_at hl 0 rfl) ?_
  refine get_f (D := D) (ci := 10) (v := .ref h_tape) (C := RX10) (T := TX10) (N := 67) hx hb hw inAX10 hown hK hP 0 rfl rfl 1 (by decide) (hw _ q_1262) (fun _ h9 => h9) e_tape dX10_octet_1 ?_
  refine lv_iload_n hx hb dX10_octet_4 rfl (lv_at hl 1 rfl) ?_
  refine va_bald hx hb hK hP 1 2 rfl rfl (ix_k i_p0 (by decide) (by decide)) dX10_octet_5 ?_
  refine lv_topi (fun v1 ev1 => ?_)
  refine lv_sipush (v := 255) hx hb dX10_octet_6 (by decide) ?_
  refine lv_iand hx hb dX10_octet_9 ?_
  refine lv_topi (fun v2 ev2 => ?_)
  have k3 : 0 ≤ v2.toInt ∧ v2.toInt ≤ 255 := by rw [ev2]; exact and_i v1 8 (by decide)
  exact ret_i (v := v2) hx hb hr hlocks hS hP hD dX10_octet_10 rfl (Nat.le_of_ble_eq_true rfl) (Nat.le_of_ble_eq_true rfl) ⟨k3, rfl⟩
set_option maxHeartbeats 4000000 in
set_option maxRecDepth 100000 in
theorem m_X10_clears (l : Launch) (D : va_G) (cI cJ cB cP cM cZ : ClassId) (h0 : Nat) (h_h : Nat) (Fh : Nat → Value) (f_h : Nat → Int32) (sz : Nat) (e_h : Fh 7 = .ref h_h) (s_h_0 : SG 0 0 0 40 f_h) (s_h_44 : SG 44 55 0 9 f_h) (s_h_5 : SG 5 5 0 12 f_h) (s_h_6 : SG 6 6 0 12 f_h) (s_h_7 : SG 7 7 0 6 f_h) : CV l yX10_clears cX10_clears 2 none { frames := 0, cells := 0, slots := 0, locals := 0 } (GG D cI cJ cB cP cM cZ) D [(h0, .inr (10, vL 67 Fh)), (h_h, .inl (cI, 104, .inl f_h))] sz [.ref h0] (fun (u : va_W) => ∃ (g_h : Nat → Int32), SG 0 0 0 40 g_h ∧ SG 5 5 0 12 g_h ∧ SG 6 6 0 12 g_h ∧ SG 7 7 0 6 g_h ∧ SG 44 55 0 9 g_h ∧ u = [(h0, .inr (10, vL 67 Fh)), (h_h, .inl (cI, 104, .inl g_h))]) := by
  refine CV_mk (by decide) (Nat.le_of_ble_eq_true rfl) ?_
  intro p e s m below meth c A ls E hAe hG hsz hP hD hA hS hl
  obtain ⟨hx, hb, hr, hw, hown, hlocks, hml, hnm⟩ := E
  have hK := hG.1
  have hl : lv_has ls 2 [(0, .ref h0)] := hl
  refine lv_iconst (v := 0) hx hb dX10_clears_0 (by decide) ?_
  refine lv_istore_n (lv' := [(1, .int 0), (0, .ref h0)]) hx hb dX10_clears_1 rfl hl (by decide) rfl (fun ls hl => ?_)
  refine mloop (α := (Int32) × (Nat → Int32)) (nL := 2) (D := D) (A := A) (H0 := s.heap) (fun a => (104 - a.1.toInt).toNat) (fun a => IR 0 104 a.1 ∧ SG 0 0 0 40 a.2 ∧ SG 44 55 0 9 a.2 ∧ SG 5 5 0 12 a.2 ∧ SG 6 6 0 12 a.2 ∧ SG 7 7 0 6 a.2) (fun a => [(h0, .inr (10, vL 67 Fh)), (h_h, .inl (cI, 104, .inl a.2))]) (fun a => [(1, .int a.1), (0, .ref h0)]) (fun H locs ls => W p l e ({ frames := 0, cells := 0, slots := 0, locals := 0 } : Room) s m [.ref h0].toArray below meth c H locs 0 0 (MQ below (va_Qv (fun (u : va_W) => ∃ (g_h : Nat → Int32), SG 0 0 0 40 g_h ∧ SG 5 5 0 12 g_h ∧ SG 6 6 0 12 g_h ∧ SG 7 7 0 6 g_h ∧ SG 44 55 0 9 g_h ∧ u = [(h0, .inr (10, vL 67 Fh)), (h_h, .inl (cI, 104, .inl g_h))]) (PO D A) A) [.ref h0].toArray s 0 0 A) (F0 m 2 ls [])) ?_ (0, f_h) ⟨(show 0 ≤ (0 : Int32).toInt ∧ (0 : Int32).toInt ≤ 104 by decide), s_h_0, s_h_44, s_h_5, s_h_6, s_h_7⟩ _ _ _ hP hD hS hl
  rintro ⟨u1, w2⟩ ⟨i3, i4, i5, i6, i7, i8⟩ ih H locs ls hP hD hS hl
  have i3 : 0 ≤ u1.toInt ∧ u1.toInt ≤ 104 := i3
  have hP : va_P D vwCl [(h0, .inr (10, vL 67 Fh)), (h_h, .inl (cI, 104, .inl w2))] H := hP
  have hD : va_D A [(h0, .inr (10, vL 67 Fh)), (h_h, .inl (cI, 104, .inl w2))] := hD
  have hl : lv_has ls 2 [(1, .int u1), (0, .ref h0)] := hl
  refine lv_iload_n hx hb dX10_clears_2 rfl (lv_at hl 0 rfl) ?_
  refine lv_bipush (v := 104) hx hb dX10_clears_3 (by decide) ?_
  refine lv_icmp_ge (tgt := 21) hx hb dX10_clears_5 (by decide) (fun c9 => ?_) (fun c9 => ?_)
  · have dc9 : 104 ≤ u1.toInt := le_i (a := 104) (b := u1.toInt) rfl rfl c9
    have k10 : 104 ≤ u1.toInt ∧ u1.toInt ≤ 104 := ⟨Int.le_trans (Int.le_refl _) dc9, i3.2⟩
    refine lv_aload_n hx hb dX10_clears_21 rfl (lv_at hl 1 rfl) ?_
    refine get_f (D := D) (ci := 10) (v := .ref h_h) (C := RX10) (T := TX10) (N := 67) hx hb hw inAX10 hown hK hP 0 rfl rfl 7 (by decide) (hw _ q_1268) (fun _ h9 => h9) e_h dX10_clears_22 ?_
    refine lv_iconst (v := 0) hx hb dX10_clears_25 (by decide) ?_
    refine lv_bipush (v := 40) hx hb dX10_clears_26 (by decide) ?_
    obtain ⟨g11, eg11⟩ : ∃ z : Nat → Int32, upd w2 0 40 = z := ⟨_, rfl⟩
    have r12 : SG 0 0 0 40 g11 := by rw [← eg11]; exact i4.upN (Or.inr (Or.inr ⟨by decide, by decide⟩))
    have r13 : SG 44 55 0 9 g11 := by rw [← eg11]; exact i5.upN (by decide)
    have r14 : SG 5 5 0 12 g11 := by rw [← eg11]; exact i6.upN (by decide)
    have r15 : SG 6 6 0 12 g11 := by rw [← eg11]; exact i7.upN (by decide)
    have r16 : SG 7 7 0 6 g11 := by rw [← eg11]; exact i8.upN (by decide)
    refine iast_n hx hb hK hP hD hS 1 0 rfl rfl 0 rfl (Nat.le_of_ble_eq_true rfl) (Nat.le_of_ble_eq_true rfl) eg11 dX10_clears_28 (fun H locs hP hD hS => ?_)
    have hP : va_P D vwCl [(h0, .inr (10, vL 67 Fh)), (h_h, .inl (cI, 104, .inl g11))] H := hP
    have hD : va_D A [(h0, .inr (10, vL 67 Fh)), (h_h, .inl (cI, 104, .inl g11))] := hD
    refine lv_aload_n hx hb dX10_clears_29 rfl (lv_at hl 1 rfl) ?_
    refine get_f (D := D) (ci := 10) (v := .ref h_h) (C := RX10) (T := TX10) (N := 67) hx hb hw inAX10 hown hK hP 0 rfl rfl 7 (by decide) (hw _ q_1268) (fun _ h9 => h9) e_h dX10_clears_30 ?_
    refine lv_iconst (v := 1) hx hb dX10_clears_33 (by decide) ?_
    refine lv_sipush (v := 210) hx hb dX10_clears_34 (by decide) ?_
    obtain ⟨g17, eg17⟩ : ∃ z : Nat → Int32, upd g11 1 210 = z := ⟨_, rfl⟩
    have r18 : SG 0 0 0 40 g17 := by rw [← eg17]; exact r12.upN (by decide)
    have r19 : SG 44 55 0 9 g17 := by rw [← eg17]; exact r13.upN (by decide)
    have r20 : SG 5 5 0 12 g17 := by rw [← eg17]; exact r14.upN (by decide)
    have r21 : SG 6 6 0 12 g17 := by rw [← eg17]; exact r15.upN (by decide)
    have r22 : SG 7 7 0 6 g17 := by rw [← eg17]; exact r16.upN (by decide)
    refine iast_n hx hb hK hP hD hS 1 0 rfl rfl 1 rfl (Nat.le_of_ble_eq_true rfl) (Nat.le_of_ble_eq_true rfl) eg17 dX10_clears_37 (fun H locs hP hD hS => ?_)
    have hP : va_P D vwCl [(h0, .inr (10, vL 67 Fh)), (h_h, .inl (cI, 104, .inl g17))] H := hP
    have hD : va_D A [(h0, .inr (10, vL 67 Fh)), (h_h, .inl (cI, 104, .inl g17))] := hD
    refine lv_aload_n hx hb dX10_clears_38 rfl (lv_at hl 1 rfl) ?_
    refine get_f (D := D) (ci := 10) (v := .ref h_h) (C := RX10) (T := TX10) (N := 67) hx hb hw inAX10 hown hK hP 0 rfl rfl 7 (by decide) (hw _ q_1268) (fun _ h9 => h9) e_h dX10_clears_39 ?_
    refine lv_iconst (v := 2) hx hb dX10_clears_42 (by decide) ?_
    refine lv_sipush (v := 630) hx hb dX10_clears_43 (by decide) ?_
    obtain ⟨g23, eg23⟩ : ∃ z : Nat → Int32, upd g17 2 630 = z := ⟨_, rfl⟩
    have r24 : SG 0 0 0 40 g23 := by rw [← eg23]; exact r18.upN (by decide)
    have r25 : SG 44 55 0 9 g23 := by rw [← eg23]; exact r19.upN (by decide)
    have r26 : SG 5 5 0 12 g23 := by rw [← eg23]; exact r20.upN (by decide)
    have r27 : SG 6 6 0 12 g23 := by rw [← eg23]; exact r21.upN (by decide)
    have r28 : SG 7 7 0 6 g23 := by rw [← eg23]; exact r22.upN (by decide)
    refine iast_n hx hb hK hP hD hS 1 0 rfl rfl 2 rfl (Nat.le_of_ble_eq_true rfl) (Nat.le_of_ble_eq_true rfl) eg23 dX10_clears_46 (fun H locs hP hD hS => ?_)
    have hP : va_P D vwCl [(h0, .inr (10, vL 67 Fh)), (h_h, .inl (cI, 104, .inl g23))] H := hP
    have hD : va_D A [(h0, .inr (10, vL 67 Fh)), (h_h, .inl (cI, 104, .inl g23))] := hD
    refine lv_aload_n hx hb dX10_clears_47 rfl (lv_at hl 1 rfl) ?_
    refine get_f (D := D) (ci := 10) (v := .ref h_h) (C := RX10) (T := TX10) (N := 67) hx hb hw inAX10 hown hK hP 0 rfl rfl 7 (by decide) (hw _ q_1268) (fun _ h9 => h9) e_h dX10_clears_48 ?_
    refine lv_iconst (v := 3) hx hb dX10_clears_51 (by decide) ?_
    refine lv_iconst (v := 2) hx hb dX10_clears_52 (by decide) ?_
    obtain ⟨g29, eg29⟩ : ∃ z : Nat → Int32, upd g23 3 2 = z := ⟨_, rfl⟩
    have r30 : SG 0 0 0 40 g29 := by rw [← eg29]; exact r24.upN (by decide)
    have r31 : SG 44 55 0 9 g29 := by rw [← eg29]; exact r25.upN (by decide)
    have r32 : SG 5 5 0 12 g29 := by rw [← eg29]; exact r26.upN (by decide)
    have r33 : SG 6 6 0 12 g29 := by rw [← eg29]; exact r27.upN (by decide)
    have r34 : SG 7 7 0 6 g29 := by rw [← eg29]; exact r28.upN (by decide)
    refine iast_n hx hb hK hP hD hS 1 0 rfl rfl 3 rfl (Nat.le_of_ble_eq_true rfl) (Nat.le_of_ble_eq_true rfl) eg29 dX10_clears_53 (fun H locs hP hD hS => ?_)
    have hP : va_P D vwCl [(h0, .inr (10, vL 67 Fh)), (h_h, .inl (cI, 104, .inl g29))] H := hP
    have hD : va_D A [(h0, .inr (10, vL 67 Fh)), (h_h, .inl (cI, 104, .inl g29))] := hD
    refine lv_aload_n hx hb dX10_clears_54 rfl (lv_at hl 1 rfl) ?_
    refine get_f (D := D) (ci := 10) (v := .ref h_h) (C := RX10) (T := TX10) (N := 67) hx hb hw inAX10 hown hK hP 0 rfl rfl 7 (by decide) (hw _ q_1268) (fun _ h9 => h9) e_h dX10_clears_55 ?_
    refine lv_iconst (v := 4) hx hb dX10_clears_58 (by decide) ?_
    refine lv_iconst (v := 5) hx hb dX10_clears_59 (by decide) ?_
    obtain ⟨g35, eg35⟩ : ∃ z : Nat → Int32, upd g29 4 5 = z := ⟨_, rfl⟩
    have r36 : SG 0 0 0 40 g35 := by rw [← eg35]; exact r30.upN (by decide)
    have r37 : SG 44 55 0 9 g35 := by rw [← eg35]; exact r31.upN (by decide)
    have r38 : SG 5 5 0 12 g35 := by rw [← eg35]; exact r32.upN (by decide)
    have r39 : SG 6 6 0 12 g35 := by rw [← eg35]; exact r33.upN (by decide)
    have r40 : SG 7 7 0 6 g35 := by rw [← eg35]; exact r34.upN (by decide)
    refine iast_n hx hb hK hP hD hS 1 0 rfl rfl 4 rfl (Nat.le_of_ble_eq_true rfl) (Nat.le_of_ble_eq_true rfl) eg35 dX10_clears_60 (fun H locs hP hD hS => ?_)
    have hP : va_P D vwCl [(h0, .inr (10, vL 67 Fh)), (h_h, .inl (cI, 104, .inl g35))] H := hP
    have hD : va_D A [(h0, .inr (10, vL 67 Fh)), (h_h, .inl (cI, 104, .inl g35))] := hD
    exact ret_v hx hb hr hlocks hS hP hD dX10_clears_61 (Nat.le_of_ble_eq_true rfl) (Nat.le_of_ble_eq_true rfl) ⟨g35, r36, r38, r39, r40, r37, rfl⟩
  · have dc9 : u1.toInt < 104 := nle_i (a := 104) (b := u1.toInt) rfl rfl c9
    have k41 : 0 ≤ u1.toInt ∧ u1.toInt ≤ 103 := ⟨i3.1, up_lt dc9 (Int.le_refl _) (by decide)⟩
    refine lv_aload_n hx hb dX10_clears_8 rfl (lv_at hl 1 rfl) ?_
    refine get_f (D := D) (ci := 10) (v := .ref h_h) (C := RX10) (T := TX10) (N := 67) hx hb hw inAX10 hown hK hP 0 rfl rfl 7 (by decide) (hw _ q_1268) (fun _ h9 => h9) e_h dX10_clears_9 ?_
    refine lv_iload_n hx hb dX10_clears_12 rfl (lv_at hl 0 rfl) ?_
    refine lv_iconst (v := 0) hx hb dX10_clears_13 (by decide) ?_
    obtain ⟨g42, eg42⟩ : ∃ z : Nat → Int32, upd w2 u1.toNatClampNeg 0 = z := ⟨_, rfl⟩
    have r43 : SG 0 0 0 40 g42 := by rw [← eg42]; exact i4.up (Int.le_trans (by decide) k41.1) (Or.inr (Or.inr ⟨by decide, by decide⟩))
    have r44 : SG 44 55 0 9 g42 := by rw [← eg42]; exact i5.up (Int.le_trans (by decide) k41.1) (Or.inr (Or.inr ⟨by decide, by decide⟩))
    have r45 : SG 5 5 0 12 g42 := by rw [← eg42]; exact i6.up (Int.le_trans (by decide) k41.1) (Or.inr (Or.inr ⟨by decide, by decide⟩))
    have r46 : SG 6 6 0 12 g42 := by rw [← eg42]; exact i7.up (Int.le_trans (by decide) k41.1) (Or.inr (Or.inr ⟨by decide, by decide⟩))
    have r47 : SG 7 7 0 6 g42 := by rw [← eg42]; exact i8.up (Int.le_trans (by decide) k41.1) (Or.inr (Or.inr ⟨by decide, by decide⟩))
    refine iast_g hx hb hK hP hD hS 1 0 rfl rfl (ix_k k41 (by decide) (by decide)) eg42 dX10_clears_14 (fun H locs hP hD hS => ?_)
    have hP : va_P D vwCl [(h0, .inr (10, vL 67 Fh)), (h_h, .inl (cI, 104, .inl g42))] H := hP
    have hD : va_D A [(h0, .inr (10, vL 67 Fh)), (h_h, .inl (cI, 104, .inl g42))] := hD
    obtain ⟨v48, ev48⟩ : ∃ z : Int32, z = u1 + 1 := ⟨_, rfl⟩
    have bv48 : v48.toInt = u1.toInt + 1 := by rw [ev48]; exact add_k rfl rfl k41 ⟨Int.le_refl _, Int.le_refl _⟩ (by decide)
    have k49 : 1 ≤ v48.toInt ∧ v48.toInt ≤ 104 := add_r bv48 k41 ⟨Int.le_refl _, Int.le_refl _⟩ (by decide)
    refine lv_iinc (v := v48) (lv' := [(1, .int v48), (0, .ref h0)]) hx hb dX10_clears_15 hl (k := 0) rfl (by rw [ev48]; rfl) (by decide) rfl (fun ls hl => ?_)
    refine lv_goto (tgt := 2) hx hb dX10_clears_18 (by decide) ?_
    exact ih (v48, g42) ⟨(ir_wk k49 (by decide) (by decide)), r43, r44, r45, r46, r47⟩ (by show (104 - v48.toInt).toNat < (104 - u1.toInt).toNat; omega) _ _ _ hP hD hS (lv_sub hl [0, 1] rfl)
set_option maxHeartbeats 4000000 in
set_option maxRecDepth 100000 in
theorem m_X10_peek (l : Launch) (D : va_G) (cI cJ cB cP cM cZ : ClassId) (h0 : Nat) (h_tape : Nat) (Fh : Nat → Value) (x_size : Int32) (x_p : Int32) (f_tape : Nat → Int32) (sz : Nat) (e_tape : Fh 1 = .ref h_tape) (e_size : Fh 3 = .int x_size) (i_x_size : IR 0 940 x_size) (e_p : Fh 4 = .int x_p) (i_x_p : IR 0 940 x_p) : CI l yX10_peek cX10_peek 1 (some .int) { frames := 0, cells := 0, slots := 0, locals := 0 } (GG D cI cJ cB cP cM cZ) D [(h0, .inr (10, vL 67 Fh)), (h_tape, .inl (cB, 940, .inl f_tape))] sz [.ref h0] (fun (r : Int32) (u : va_W) => (x_size.toInt ≤ x_p.toInt ∧ r = (-1) ∧ u = [(h0, .inr (10, vL 67 Fh)), (h_tape, .inl (cB, 940, .inl f_tape))]) ∨ (IR 0 255 r ∧ x_p.toInt < x_size.toInt ∧ r = ((f_tape x_p.toNatClampNeg) &&& 255) ∧ u = [(h0, .inr (10, vL 67 Fh)), (h_tape, .inl (cB, 940, .inl f_tape))])) := by
  refine CI_mk (by decide) (Nat.le_of_ble_eq_true rfl) ?_
  intro p e s m below meth c A ls E hAe hG hsz hP hD hA hS hl
  obtain ⟨hx, hb, hr, hw, hown, hlocks, hml, hnm⟩ := E
  have hK := hG.1
  have i_x_size : 0 ≤ x_size.toInt ∧ x_size.toInt ≤ 940 := i_x_size
  have i_x_p : 0 ≤ x_p.toInt ∧ x_p.toInt ≤ 940 := i_x_p
  have hl : lv_has ls 1 [(0, .ref h0)] := hl
  refine lv_aload_n hx hb dX10_peek_0 rfl (lv_at hl 0 rfl) ?_
  refine get_f (D := D) (ci := 10) (v := .int x_p) (C := RX10) (T := TX10) (N := 67) hx hb hw inAX10 hown hK hP 0 rfl rfl 4 (by decide) (hw _ q_1265) (fun _ h9 => h9) e_p dX10_peek_1 ?_
  refine lv_aload_n hx hb dX10_peek_4 rfl (lv_at hl 0 rfl) ?_
  refine get_f (D := D) (ci := 10) (v := .int x_size) (C := RX10) (T := TX10) (N := 67) hx hb hw inAX10 hown hK hP 0 rfl rfl 3 (by decide) (hw _ q_1264) (fun _ h9 => h9) e_size dX10_peek_5 ?_
  refine lv_icmp_ge (tgt := 27) hx hb dX10_peek_8 (by decide) (fun c1 => ?_) (fun c1 => ?_)
  · have dc1 : x_size.toInt ≤ x_p.toInt := le_i (a := x_size.toInt) (b := x_p.toInt) rfl rfl c1
    refine lv_iconst (v := (-1)) hx hb dX10_peek_27 (by decide) ?_
    exact ret_i (v := (-1)) hx hb hr hlocks hS hP hD dX10_peek_28 rfl (Nat.le_of_ble_eq_true rfl) (Nat.le_of_ble_eq_true rfl) (Or.inl ⟨dc1, rfl, rfl⟩)
  · have dc1 : x_p.toInt < x_size.toInt := nle_i (a := x_size.toInt) (b := x_p.toInt) rfl rfl c1
    have k2 : 0 ≤ x_p.toInt ∧ x_p.toInt ≤ 939 := ⟨i_x_p.1, up_lt dc1 i_x_size.2 (by decide)⟩
    have k3 : 1 ≤ x_size.toInt ∧ x_size.toInt ≤ 940 := ⟨lo_lt dc1 i_x_p.1 (by decide), i_x_size.2⟩
    refine lv_aload_n hx hb dX10_peek_11 rfl (lv_at hl 0 rfl) ?_
    refine get_f (D := D) (ci := 10) (v := .ref h_tape) (C := RX10) (T := TX10) (N := 67) hx hb hw inAX10 hown hK hP 0 rfl rfl 1 (by decide) (hw _ q_1262) (fun _ h9 => h9) e_tape dX10_peek_12 ?_
    refine lv_aload_n hx hb dX10_peek_15 rfl (lv_at hl 0 rfl) ?_
    refine get_f (D := D) (ci := 10) (v := .int x_p) (C := RX10) (T := TX10) (N := 67) hx hb hw inAX10 hown hK hP 0 rfl rfl 4 (by decide) (hw _ q_1265) (fun _ h9 => h9) e_p dX10_peek_16 ?_
    refine va_bald hx hb hK hP 1 2 rfl rfl (ix_k k2 (by decide) (by decide)) dX10_peek_19 ?_
    refine lv_topi (fun v4 ev4 => ?_)
    refine lv_sipush (v := 255) hx hb dX10_peek_20 (by decide) ?_
    refine lv_iand hx hb dX10_peek_23 ?_
    refine lv_topi (fun v5 ev5 => ?_)
    have k6 : 0 ≤ v5.toInt ∧ v5.toInt ≤ 255 := by rw [ev5]; exact and_i v4 8 (by decide)
    refine lv_goto (tgt := 28) hx hb dX10_peek_24 (by decide) ?_
    exact ret_i (v := v5) hx hb hr hlocks hS hP hD dX10_peek_28 rfl (Nat.le_of_ble_eq_true rfl) (Nat.le_of_ble_eq_true rfl) (Or.inr ⟨k6, dc1, (by rw [ev5, ev4]), rfl⟩)
set_option maxHeartbeats 4000000 in
set_option maxRecDepth 100000 in
theorem m_X10_isSmall (l : Launch) (D : va_G) (cI cJ cB cP cM cZ : ClassId) (p0 : Int32) (sz : Nat)  : CI l yX10_isSmall cX10_isSmall 1 (some .boolean) { frames := 0, cells := 0, slots := 0, locals := 0 } (GG D cI cJ cB cP cM cZ) D [] sz [.int p0] (fun (r : Int32) (u : va_W) => (p0.toInt < 97 ∧ r = 0 ∧ u = []) ∨ (97 ≤ p0.toInt ∧ 122 < p0.toInt ∧ r = 0 ∧ u = []) ∨ (97 ≤ p0.toInt ∧ p0.toInt ≤ 122 ∧ r = 1 ∧ u = [])) := by
  refine CI_mk (by decide) (Nat.le_of_ble_eq_true rfl) ?_
  intro p e s m below meth c A ls E hAe hG hsz hP hD hA hS hl
  obtain ⟨hx, hb, hr, hw, hown, hlocks, hml, hnm⟩ := E
  have hK := hG.1
  have hl : lv_has ls 1 [(0, .int p0)] := hl
  refine lv_iload_n hx hb dX10_isSmall_0 rfl (lv_at hl 0 rfl) ?_
  refine lv_bipush (v := 97) hx hb dX10_isSmall_1 (by decide) ?_
  refine lv_icmp_lt (tgt := 16) hx hb dX10_isSmall_3 (by decide) (fun c1 => ?_) (fun c1 => ?_)
  · have dc1 : p0.toInt < 97 := lt_i (a := p0.toInt) (b := 97) rfl rfl c1
    have k2 : (-2147483648) ≤ p0.toInt ∧ p0.toInt ≤ 96 := ⟨(ir_any _).1, up_lt dc1 (Int.le_refl _) (by decide)⟩
    refine lv_iconst (v := 0) hx hb dX10_isSmall_16 (by decide) ?_
    exact ret_i (v := 0) hx hb hr hlocks hS hP hD dX10_isSmall_17 rfl (Nat.le_of_ble_eq_true rfl) (Nat.le_of_ble_eq_true rfl) (Or.inl ⟨dc1, rfl, rfl⟩)
  · have dc1 : 97 ≤ p0.toInt := nlt_i (a := p0.toInt) (b := 97) rfl rfl c1
    have k3 : 97 ≤ p0.toInt ∧ p0.toInt ≤ 2147483647 := ⟨Int.le_trans (Int.le_refl _) dc1, (ir_any _).2⟩
    refine lv_iload_n hx hb dX10_isSmall_6 rfl (lv_at hl 0 rfl) ?_
    refine lv_bipush (v := 122) hx hb dX10_isSmall_7 (by decide) ?_
    refine lv_icmp_gt (tgt := 16) hx hb dX10_isSmall_9 (by decide) (fun c4 => ?_) (fun c4 => ?_)
    · have dc4 : 122 < p0.toInt := lt_i (a := 122) (b := p0.toInt) rfl rfl c4
      have k5 : 123 ≤ p0.toInt ∧ p0.toInt ≤ 2147483647 := ⟨lo_lt dc4 (Int.le_refl _) (by decide), k3.2⟩
      refine lv_iconst (v := 0) hx hb dX10_isSmall_16 (by decide) ?_
      exact ret_i (v := 0) hx hb hr hlocks hS hP hD dX10_isSmall_17 rfl (Nat.le_of_ble_eq_true rfl) (Nat.le_of_ble_eq_true rfl) (Or.inr (Or.inl ⟨dc1, dc4, rfl, rfl⟩))
    · have dc4 : p0.toInt ≤ 122 := nlt_i (a := 122) (b := p0.toInt) rfl rfl c4
      have k6 : 97 ≤ p0.toInt ∧ p0.toInt ≤ 122 := ⟨k3.1, Int.le_trans dc4 (Int.le_refl _)⟩
      refine lv_iconst (v := 1) hx hb dX10_isSmall_12 (by decide) ?_
      refine lv_goto (tgt := 17) hx hb dX10_isSmall_13 (by decide) ?_
      exact ret_i (v := 1) hx hb hr hlocks hS hP hD dX10_isSmall_17 rfl (Nat.le_of_ble_eq_true rfl) (Nat.le_of_ble_eq_true rfl) (Or.inr (Or.inr ⟨dc1, dc4, rfl, rfl⟩))
set_option maxHeartbeats 4000000 in
set_option maxRecDepth 100000 in
theorem m_X10_isDigit (l : Launch) (D : va_G) (cI cJ cB cP cM cZ : ClassId) (p0 : Int32) (sz : Nat)  : CI l yX10_isDigit cX10_isDigit 1 (some .boolean) { frames := 0, cells := 0, slots := 0, locals := 0 } (GG D cI cJ cB cP cM cZ) D [] sz [.int p0] (fun (r : Int32) (u : va_W) => (p0.toInt < 48 ∧ r = 0 ∧ u = []) ∨ (48 ≤ p0.toInt ∧ 57 < p0.toInt ∧ r = 0 ∧ u = []) ∨ (48 ≤ p0.toInt ∧ p0.toInt ≤ 57 ∧ r = 1 ∧ u = [])) := by
  refine CI_mk (by decide) (Nat.le_of_ble_eq_true rfl) ?_
  intro p e s m below meth c A ls E hAe hG hsz hP hD hA hS hl
  obtain ⟨hx, hb, hr, hw, hown, hlocks, hml, hnm⟩ := E
  have hK := hG.1
  have hl : lv_has ls 1 [(0, .int p0)] := hl
  refine lv_iload_n hx hb dX10_isDigit_0 rfl (lv_at hl 0 rfl) ?_
  refine lv_bipush (v := 48) hx hb dX10_isDigit_1 (by decide) ?_
  refine lv_icmp_lt (tgt := 16) hx hb dX10_isDigit_3 (by decide) (fun c1 => ?_) (fun c1 => ?_)
  · have dc1 : p0.toInt < 48 := lt_i (a := p0.toInt) (b := 48) rfl rfl c1
    have k2 : (-2147483648) ≤ p0.toInt ∧ p0.toInt ≤ 47 := ⟨(ir_any _).1, up_lt dc1 (Int.le_refl _) (by decide)⟩
    refine lv_iconst (v := 0) hx hb dX10_isDigit_16 (by decide) ?_
    exact ret_i (v := 0) hx hb hr hlocks hS hP hD dX10_isDigit_17 rfl (Nat.le_of_ble_eq_true rfl) (Nat.le_of_ble_eq_true rfl) (Or.inl ⟨dc1, rfl, rfl⟩)
  · have dc1 : 48 ≤ p0.toInt := nlt_i (a := p0.toInt) (b := 48) rfl rfl c1
    have k3 : 48 ≤ p0.toInt ∧ p0.toInt ≤ 2147483647 := ⟨Int.le_trans (Int.le_refl _) dc1, (ir_any _).2⟩
    refine lv_iload_n hx hb dX10_isDigit_6 rfl (lv_at hl 0 rfl) ?_
    refine lv_bipush (v := 57) hx hb dX10_isDigit_7 (by decide) ?_
    refine lv_icmp_gt (tgt := 16) hx hb dX10_isDigit_9 (by decide) (fun c4 => ?_) (fun c4 => ?_)
    · have dc4 : 57 < p0.toInt := lt_i (a := 57) (b := p0.toInt) rfl rfl c4
      have k5 : 58 ≤ p0.toInt ∧ p0.toInt ≤ 2147483647 := ⟨lo_lt dc4 (Int.le_refl _) (by decide), k3.2⟩
      refine lv_iconst (v := 0) hx hb dX10_isDigit_16 (by decide) ?_
      exact ret_i (v := 0) hx hb hr hlocks hS hP hD dX10_isDigit_17 rfl (Nat.le_of_ble_eq_true rfl) (Nat.le_of_ble_eq_true rfl) (Or.inr (Or.inl ⟨dc1, dc4, rfl, rfl⟩))
    · have dc4 : p0.toInt ≤ 57 := nlt_i (a := 57) (b := p0.toInt) rfl rfl c4
      have k6 : 48 ≤ p0.toInt ∧ p0.toInt ≤ 57 := ⟨k3.1, Int.le_trans dc4 (Int.le_refl _)⟩
      refine lv_iconst (v := 1) hx hb dX10_isDigit_12 (by decide) ?_
      refine lv_goto (tgt := 17) hx hb dX10_isDigit_13 (by decide) ?_
      exact ret_i (v := 1) hx hb hr hlocks hS hP hD dX10_isDigit_17 rfl (Nat.le_of_ble_eq_true rfl) (Nat.le_of_ble_eq_true rfl) (Or.inr (Or.inr ⟨dc1, dc4, rfl, rfl⟩))
set_option maxHeartbeats 4000000 in
set_option maxRecDepth 100000 in
theorem m_X10_next (l : Launch) (D : va_G) (cI cJ cB cP cM cZ : ClassId) (h0 : Nat) (h_tape : Nat) (Fh : Nat → Value) (x_size : Int32) (x_p : Int32) (x_limit : Int32) (x_token : Int32) (x_number : Int32) (x_word : Int64) (f_tape : Nat → Int32) (sz : Nat) (e_tape : Fh 1 = .ref h_tape) (e_size : Fh 3 = .int x_size) (i_x_size : IR 0 940 x_size) (e_p : Fh 4 = .int x_p) (i_x_p : IR 0 940 x_p) (e_limit : Fh 5 = .int x_limit) (i_x_limit : IR 200 940 x_limit) (e_token : Fh 11 = .int x_token) (i_x_token : IR 0 4 x_token) (e_number : Fh 14 = .int x_number) (e_word : Fh 18 = .long x_word) (o_0 : (x_token.toInt = 2 → 0 ≤ x_number.toInt ∧ x_number.toInt ≤ 999)) : CV l yX10_next cX10_next 4 none { frames := 1, cells := 0, slots := 0, locals := 20 } (GG D cI cJ cB cP cM cZ) D [(h0, .inr (10, vL 67 Fh)), (h_tape, .inl (cB, 940, .inl f_tape))] sz [.ref h0] (fun (u : va_W) => ∃ (Gh : Nat → Value) (y_p : Int32) (y_token : Int32) (y_at : Int32) (y_span : Int32) (y_number : Int32) (y_word : Int64), SAME [4, 11, 12, 13, 14, 18] Fh Gh ∧ Gh 4 = .int y_p ∧ IR 0 940 y_p ∧ Gh 11 = .int y_token ∧ IR 0 4 y_token ∧ Gh 12 = .int y_at ∧ IR 0 940 y_at ∧ Gh 13 = .int y_span ∧ IR 0 940 y_span ∧ Gh 14 = .int y_number ∧ Gh 18 = .long y_word ∧ (x_p.toInt ≤ y_p.toInt) ∧ ((1 ≤ y_token.toInt → y_token.toInt ≤ 3 → x_p.toInt < y_p.toInt)) ∧ ((y_token.toInt = 2 → 0 ≤ y_number.toInt ∧ y_number.toInt ≤ 999)) ∧ u = [(h0, .inr (10, vL 67 Gh)), (h_tape, .inl (cB, 940, .inl f_tape))]) := by
  refine CV_mk (by decide) (Nat.le_of_ble_eq_true rfl) ?_
  intro p e s m below meth c A ls E hAe hG hsz hP hD hA hS hl
  obtain ⟨hx, hb, hr, hw, hown, hlocks, hml, hnm⟩ := E
  have hK := hG.1
  have i_x_size : 0 ≤ x_size.toInt ∧ x_size.toInt ≤ 940 := i_x_size
  have i_x_p : 0 ≤ x_p.toInt ∧ x_p.toInt ≤ 940 := i_x_p
  have i_x_limit : 200 ≤ x_limit.toInt ∧ x_limit.toInt ≤ 940 := i_x_limit
  have i_x_token : 0 ≤ x_token.toInt ∧ x_token.toInt ≤ 4 := i_x_token
  have hl : lv_has ls 4 [(0, .ref h0)] := hl
  have cut3 : ∀ (G1 : Nat → Value) (u2 : Int32) (_ : SAME [4] Fh G1) (_ : G1 4 = .int u2) (_ : IR 0 940 u2) (_ : (x_p.toInt ≤ u2.toInt)) (H : Heap) (locs : List Loc) (ls : Array Slot), va_P D vwCl [(h0, .inr (10, vL 67 G1)), (h_tape, .inl (cB, 940, .inl f_tape))] H → va_D A [(h0, .inr (10, vL 67 G1)), (h_tape, .inl (cB, 940, .inl f_tape))] → va_S A s.heap H locs → lv_has ls 4 [(0, .ref h0)] → W p l e ({ frames := 1, cells := 0, slots := 0, locals := 20 } : Room) s m [.ref h0].toArray below meth c H locs 0 0 (MQ below (va_Qv (fun (u : va_W) => ∃ (Gh : Nat → Value) (y_p : Int32) (y_token : Int32) (y_at : Int32) (y_span : Int32) (y_number : Int32) (y_word : Int64), SAME [4, 11, 12, 13, 14, 18] Fh Gh ∧ Gh 4 = .int y_p ∧ IR 0 940 y_p ∧ Gh 11 = .int y_token ∧ IR 0 4 y_token ∧ Gh 12 = .int y_at ∧ IR 0 940 y_at ∧ Gh 13 = .int y_span ∧ IR 0 940 y_span ∧ Gh 14 = .int y_number ∧ Gh 18 = .long y_word ∧ (x_p.toInt ≤ y_p.toInt) ∧ ((1 ≤ y_token.toInt → y_token.toInt ≤ 3 → x_p.toInt < y_p.toInt)) ∧ ((y_token.toInt = 2 → 0 ≤ y_number.toInt ∧ y_number.toInt ≤ 999)) ∧ u = [(h0, .inr (10, vL 67 Gh)), (h_tape, .inl (cB, 940, .inl f_tape))]) (PO D A) A) [.ref h0].toArray s 0 0 A) (F0 m 31 ls []) := by
    intro G1 u2 i4 i5 i6 i7 H locs ls hP hD hS hl
    have i6 : 0 ≤ u2.toInt ∧ u2.toInt ≤ 940 := i6
    have i7 : x_p.toInt ≤ u2.toInt := i7
    refine lv_aload_n hx hb dX10_next_31 rfl (lv_at hl 0 rfl) ?_
    refine lv_aload_n hx hb dX10_next_32 rfl (lv_at hl 0 rfl) ?_
    refine get_f (D := D) (ci := 10) (v := .int u2) (C := RX10) (T := TX10) (N := 67) hx hb hw inAX10 hown hK hP 0 rfl rfl 4 (by decide) (hw _ q_1265) (fun _ h9 => h9) i5 dX10_next_33 ?_
    refine put_f (D := D) (ci := 10) (v := .int u2) (ty := .int) (C := RX10) (T := TX10) (N := 67) hx hb hw inAX10 tyX10 tyX10_ok nmX10 hown hK hP hD hS 0 rfl rfl 12 (by decide) (hw _ q_1273) (fun _ h9 => h9) rfl (by decide +kernel) rfl rfl dX10_next_36 (fun H locs F8 eF8 hP hD hS => ?_)
    have hP : va_P D vwCl [(h0, .inr (10, vL 67 F8)), (h_tape, .inl (cB, 940, .inl f_tape))] H := hP
    have hD : va_D A [(h0, .inr (10, vL 67 F8)), (h_tape, .inl (cB, 940, .inl f_tape))] := hD
    refine lv_aload_n hx hb dX10_next_39 rfl (lv_at hl 0 rfl) ?_
    refine lv_iconst (v := 0) hx hb dX10_next_40 (by decide) ?_
    refine put_f (D := D) (ci := 10) (v := .int 0) (ty := .int) (C := RX10) (T := TX10) (N := 67) hx hb hw inAX10 tyX10 tyX10_ok nmX10 hown hK hP hD hS 0 rfl rfl 13 (by decide) (hw _ q_1274) (fun _ h9 => h9) rfl (by decide +kernel) rfl rfl dX10_next_41 (fun H locs F9 eF9 hP hD hS => ?_)
    have hP : va_P D vwCl [(h0, .inr (10, vL 67 F9)), (h_tape, .inl (cB, 940, .inl f_tape))] H := hP
    have hD : va_D A [(h0, .inr (10, vL 67 F9)), (h_tape, .inl (cB, 940, .inl f_tape))] := hD
    refine lv_aload_n hx hb dX10_next_44 rfl (lv_at hl 0 rfl) ?_
    have n10 : G1 3 = .int x_size := (SAME.at i4 (by decide) e_size)
    have n11 : F8 3 = .int x_size := (get_ne eF8 (by decide) n10)
    have n12 : F9 3 = .int x_size := (get_ne eF9 (by decide) n11)
    refine get_f (D := D) (ci := 10) (v := .int x_size) (C := RX10) (T := TX10) (N := 67) hx hb hw inAX10 hown hK hP 0 rfl rfl 3 (by decide) (hw _ q_1264) (fun _ h9 => h9) n12 dX10_next_45 ?_
    refine lv_aload_n hx hb dX10_next_48 rfl (lv_at hl 0 rfl) ?_
    have n13 : G1 5 = .int x_limit := (SAME.at i4 (by decide) e_limit)
    have n14 : F8 5 = .int x_limit := (get_ne eF8 (by decide) n13)
    have n15 : F9 5 = .int x_limit := (get_ne eF9 (by decide) n14)
    refine get_f (D := D) (ci := 10) (v := .int x_limit) (C := RX10) (T := TX10) (N := 67) hx hb hw inAX10 hown hK hP 0 rfl rfl 5 (by decide) (hw _ q_1266) (fun _ h9 => h9) n15 dX10_next_49 ?_
    refine lv_icmp_le (tgt := 80) hx hb dX10_next_52 (by decide) (fun c16 => ?_) (fun c16 => ?_)
    · have dc16 : x_size.toInt ≤ x_limit.toInt := le_i (a := x_size.toInt) (b := x_limit.toInt) rfl rfl c16
      refine lv_aload_n hx hb dX10_next_80 rfl (lv_at hl 0 rfl) ?_
      have n17 : G1 1 = .ref h_tape := (SAME.at i4 (by decide) e_tape)
      have n18 : F8 1 = .ref h_tape := (get_ne eF8 (by decide) n17)
      have n19 : F9 1 = .ref h_tape := (get_ne eF9 (by decide) n18)
      have n20 : F8 4 = .int u2 := (get_ne eF8 (by decide) i5)
      have n21 : F9 4 = .int u2 := (get_ne eF9 (by decide) n20)
      refine call_Vi (wr := []) (As := []) (rest := []) hx hb hml hown hw (m_X10_peek l D cI cJ cB cP cM cZ h0 h_tape F9 x_size u2 f_tape _ n19 n12 i_x_size n21 i6) wV_X10_169_X10_peek dX10_next_81 hK hP hD hS hA [0, 1] [] rfl rfl (by decide) (by decide) (by decide) 0 10 rfl rfl GG.fb hG.at hl.1 rfl (Nat.le_of_ble_eq_true rfl) ⟨(Nat.le_of_ble_eq_true rfl), (Nat.le_of_ble_eq_true rfl)⟩ ⟨(Nat.le_of_ble_eq_true rfl), (Nat.le_of_ble_eq_true rfl)⟩ (fun r22 u H locs hp hP hD hS => ?_)
      rcases hp with ⟨t23, rfl, rfl⟩ | ⟨t24, t25, rfl, rfl⟩
      · have hP : va_P D vwCl [(h0, .inr (10, vL 67 F9)), (h_tape, .inl (cB, 940, .inl f_tape))] H := hP
        have hD : va_D A [(h0, .inr (10, vL 67 F9)), (h_tape, .inl (cB, 940, .inl f_tape))] := hD
        refine W.widen (k := 0) (n := 0) (Nat.le_of_ble_eq_true rfl) (Nat.le_of_ble_eq_true rfl) ?_
        refine lv_istore_n (lv' := [(1, .int (-1)), (0, .ref h0)]) hx hb dX10_next_84 rfl hl (by decide) rfl (fun ls hl => ?_)
        refine lv_iload_n hx hb dX10_next_85 rfl (lv_at hl 0 rfl) ?_
        refine lv_if_ge (tgt := 95) hx hb dX10_next_86 (by decide) (fun g => absurd g (by decide)) (fun _ => ?_)
        refine lv_aload_n hx hb dX10_next_89 rfl (lv_at hl 1 rfl) ?_
        refine lv_iconst (v := 0) hx hb dX10_next_90 (by decide) ?_
        refine put_f (D := D) (ci := 10) (v := .int 0) (ty := .int) (C := RX10) (T := TX10) (N := 67) hx hb hw inAX10 tyX10 tyX10_ok nmX10 hown hK hP hD hS 0 rfl rfl 11 (by decide) (hw _ q_1272) (fun _ h9 => h9) rfl (by decide +kernel) rfl rfl dX10_next_91 (fun H locs F27 eF27 hP hD hS => ?_)
        have hP : va_P D vwCl [(h0, .inr (10, vL 67 F27)), (h_tape, .inl (cB, 940, .inl f_tape))] H := hP
        have hD : va_D A [(h0, .inr (10, vL 67 F27)), (h_tape, .inl (cB, 940, .inl f_tape))] := hD
        exact ret_v hx hb hr hlocks hS hP hD dX10_next_94 (Nat.le_of_ble_eq_true rfl) (Nat.le_of_ble_eq_true rfl) ⟨F27, u2, 0, u2, 0, x_number, x_word, (SAME.up eF27 (SAME.up eF9 (SAME.up eF8 (SAME.tr SAME.rf i4 (by decide)) (by decide)) (by decide)) (by decide)), (get_ne eF27 (by decide) n21), i6, (get_eq eF27), (show 0 ≤ (0 : Int32).toInt ∧ (0 : Int32).toInt ≤ 4 by decide), (get_ne eF27 (by decide) (get_ne eF9 (by decide) (get_eq eF8))), i6, (get_ne eF27 (by decide) (get_eq eF9)), (show 0 ≤ (0 : Int32).toInt ∧ (0 : Int32).toInt ≤ 940 by decide), (get_ne eF27 (by decide) (get_ne eF9 (by decide) (get_ne eF8 (by decide) (SAME.at i4 (by decide) e_number)))), (get_ne eF27 (by decide) (get_ne eF9 (by decide) (get_ne eF8 (by decide) (SAME.at i4 (by decide) e_word)))), (by have zl0 : (0 : Int32).toInt = 0 := (by decide); have zl4 : (4 : Int32).toInt = 4 := (by decide); omega), (by have zl0 : (0 : Int32).toInt = 0 := (by decide); have zl4 : (4 : Int32).toInt = 4 := (by decide); omega), (by have zl0 : (0 : Int32).toInt = 0 := (by decide); omega), rfl⟩
      · have hP : va_P D vwCl [(h0, .inr (10, vL 67 F9)), (h_tape, .inl (cB, 940, .inl f_tape))] H := hP
        have hD : va_D A [(h0, .inr (10, vL 67 F9)), (h_tape, .inl (cB, 940, .inl f_tape))] := hD
        refine W.widen (k := 0) (n := 0) (Nat.le_of_ble_eq_true rfl) (Nat.le_of_ble_eq_true rfl) ?_
        refine lv_topi (fun v28 ev28 => ?_)
        have k29 : 0 ≤ v28.toInt ∧ v28.toInt ≤ 255 := by rw [ev28]; exact t24
        have k30 : 0 ≤ u2.toInt ∧ u2.toInt ≤ 939 := ⟨i6.1, up_lt t25 i_x_size.2 (by decide)⟩
        have k31 : 1 ≤ x_size.toInt ∧ x_size.toInt ≤ 940 := ⟨lo_lt t25 i6.1 (by decide), i_x_size.2⟩
        refine lv_istore_n (lv' := [(1, .int v28), (0, .ref h0)]) hx hb dX10_next_84 rfl hl (by decide) rfl (fun ls hl => ?_)
        refine lv_iload_n hx hb dX10_next_85 rfl (lv_at hl 0 rfl) ?_
        refine lv_if_ge (tgt := 95) hx hb dX10_next_86 (by decide) (fun c32 => ?_) (fun c32 => False.elim (bad_lt (nle_i (a := 0) (b := v28.toInt) rfl rfl c32) k29.1 (Int.le_refl _) (by decide)))
        have dc32 : 0 ≤ v28.toInt := le_i (a := 0) (b := v28.toInt) rfl rfl c32
        have cut34 : ∀ (u33 : Int32) (_ : IR 0 1 u33) (H : Heap) (locs : List Loc) (ls : Array Slot), va_P D vwCl [(h0, .inr (10, vL 67 F9)), (h_tape, .inl (cB, 940, .inl f_tape))] H → va_D A [(h0, .inr (10, vL 67 F9)), (h_tape, .inl (cB, 940, .inl f_tape))] → va_S A s.heap H locs → lv_has ls 4 [(3, .int 1), (2, .int u33), (1, .int v28), (0, .ref h0)] → W p l e ({ frames := 1, cells := 0, slots := 0, locals := 20 } : Room) s m [.ref h0].toArray below meth c H locs 0 0 (MQ below (va_Qv (fun (u : va_W) => ∃ (Gh : Nat → Value) (y_p : Int32) (y_token : Int32) (y_at : Int32) (y_span : Int32) (y_number : Int32) (y_word : Int64), SAME [4, 11, 12, 13, 14, 18] Fh Gh ∧ Gh 4 = .int y_p ∧ IR 0 940 y_p ∧ Gh 11 = .int y_token ∧ IR 0 4 y_token ∧ Gh 12 = .int y_at ∧ IR 0 940 y_at ∧ Gh 13 = .int y_span ∧ IR 0 940 y_span ∧ Gh 14 = .int y_number ∧ Gh 18 = .long y_word ∧ (x_p.toInt ≤ y_p.toInt) ∧ ((1 ≤ y_token.toInt → y_token.toInt ≤ 3 → x_p.toInt < y_p.toInt)) ∧ ((y_token.toInt = 2 → 0 ≤ y_number.toInt ∧ y_number.toInt ≤ 999)) ∧ u = [(h0, .inr (10, vL 67 Gh)), (h_tape, .inl (cB, 940, .inl f_tape))]) (PO D A) A) [.ref h0].toArray s 0 0 A) (F0 m 171 ls []) := by
          intro u33 i35 H locs ls hP hD hS hl
          have i35 : 0 ≤ u33.toInt ∧ u33.toInt ≤ 1 := i35
          refine lv_aload_n hx hb dX10_next_171 rfl (lv_at hl 3 rfl) ?_
          refine lv_lconst (v := 0) hx hb dX10_next_172 (by decide) ?_
          refine put_f (D := D) (ci := 10) (v := .long 0) (ty := .long) (C := RX10) (T := TX10) (N := 67) hx hb hw inAX10 tyX10 tyX10_ok nmX10 hown hK hP hD hS 0 rfl rfl 18 (by decide) (hw _ q_1279) (fun _ h9 => h9) rfl (by decide +kernel) rfl rfl dX10_next_173 (fun H locs F36 eF36 hP hD hS => ?_)
          have hP : va_P D vwCl [(h0, .inr (10, vL 67 F36)), (h_tape, .inl (cB, 940, .inl f_tape))] H := hP
          have hD : va_D A [(h0, .inr (10, vL 67 F36)), (h_tape, .inl (cB, 940, .inl f_tape))] := hD
          refine lv_aload_n hx hb dX10_next_176 rfl (lv_at hl 3 rfl) ?_
          refine lv_iconst (v := 0) hx hb dX10_next_177 (by decide) ?_
          refine put_f (D := D) (ci := 10) (v := .int 0) (ty := .int) (C := RX10) (T := TX10) (N := 67) hx hb hw inAX10 tyX10 tyX10_ok nmX10 hown hK hP hD hS 0 rfl rfl 14 (by decide) (hw _ q_1275) (fun _ h9 => h9) rfl (by decide +kernel) rfl rfl dX10_next_178 (fun H locs F37 eF37 hP hD hS => ?_)
          have hP : va_P D vwCl [(h0, .inr (10, vL 67 F37)), (h_tape, .inl (cB, 940, .inl f_tape))] H := hP
          have hD : va_D A [(h0, .inr (10, vL 67 F37)), (h_tape, .inl (cB, 940, .inl f_tape))] := hD
          have cut44 : ∀ (u38 : Int32) (G39 : Nat → Value) (u40 : Int32) (u41 : Int32) (u42 : Int32) (u43 : Int64) (_ : IR 0 1 u38) (_ : SAME [4, 13, 14, 18] F37 G39) (_ : G39 4 = .int u40) (_ : G39 13 = .int u41) (_ : G39 14 = .int u42) (_ : G39 18 = .long u43) (_ : IR 0 940 u40) (_ : IR 0 940 u41) (_ : (0 ≤ u41.toInt ∧ u41.toInt ≤ u40.toInt ∧ x_p.toInt + u41.toInt ≤ u40.toInt ∧ (u41.toInt = 0 → u40.toInt = u2.toInt))) (_ : (u38.toInt = 1 → u33.toInt = 0 → (0 ≤ u42.toInt ∧ u42.toInt ≤ 999 ∧ (u41.toInt = 0 → u42.toInt = 0) ∧ (u41.toInt = 1 → u42.toInt ≤ 9) ∧ (u41.toInt = 2 → u42.toInt ≤ 99)))) (_ : ((x_token.toInt = 2 → 0 ≤ u42.toInt ∧ u42.toInt ≤ 999))) (_ : (1 ≤ u41.toInt)) (H : Heap) (locs : List Loc) (ls : Array Slot), va_P D vwCl [(h0, .inr (10, vL 67 G39)), (h_tape, .inl (cB, 940, .inl f_tape))] H → va_D A [(h0, .inr (10, vL 67 G39)), (h_tape, .inl (cB, 940, .inl f_tape))] → va_S A s.heap H locs → lv_has ls 4 [(3, .int u38), (2, .int u33), (1, .int v28), (0, .ref h0)] → W p l e ({ frames := 1, cells := 0, slots := 0, locals := 20 } : Room) s m [.ref h0].toArray below meth c H locs 0 0 (MQ below (va_Qv (fun (u : va_W) => ∃ (Gh : Nat → Value) (y_p : Int32) (y_token : Int32) (y_at : Int32) (y_span : Int32) (y_number : Int32) (y_word : Int64), SAME [4, 11, 12, 13, 14, 18] Fh Gh ∧ Gh 4 = .int y_p ∧ IR 0 940 y_p ∧ Gh 11 = .int y_token ∧ IR 0 4 y_token ∧ Gh 12 = .int y_at ∧ IR 0 940 y_at ∧ Gh 13 = .int y_span ∧ IR 0 940 y_span ∧ Gh 14 = .int y_number ∧ Gh 18 = .long y_word ∧ (x_p.toInt ≤ y_p.toInt) ∧ ((1 ≤ y_token.toInt → y_token.toInt ≤ 3 → x_p.toInt < y_p.toInt)) ∧ ((y_token.toInt = 2 → 0 ≤ y_number.toInt ∧ y_number.toInt ≤ 999)) ∧ u = [(h0, .inr (10, vL 67 Gh)), (h_tape, .inl (cB, 940, .inl f_tape))]) (PO D A) A) [.ref h0].toArray s 0 0 A) (F0 m 298 ls []) := by
            intro u38 G39 u40 u41 u42 u43 i45 i46 i47 i48 i49 i50 i51 i52 i53 i54 i55 i56 H locs ls hP hD hS hl
            have i45 : 0 ≤ u38.toInt ∧ u38.toInt ≤ 1 := i45
            have i51 : 0 ≤ u40.toInt ∧ u40.toInt ≤ 940 := i51
            have i52 : 0 ≤ u41.toInt ∧ u41.toInt ≤ 940 := i52
            have i53 : 0 ≤ u41.toInt ∧ u41.toInt ≤ u40.toInt ∧ x_p.toInt + u41.toInt ≤ u40.toInt ∧ (u41.toInt = 0 → u40.toInt = u2.toInt) := i53
            have i54 : u38.toInt = 1 → u33.toInt = 0 → (0 ≤ u42.toInt ∧ u42.toInt ≤ 999 ∧ (u41.toInt = 0 → u42.toInt = 0) ∧ (u41.toInt = 1 → u42.toInt ≤ 9) ∧ (u41.toInt = 2 → u42.toInt ≤ 99)) := i54
            have i55 : (x_token.toInt = 2 → 0 ≤ u42.toInt ∧ u42.toInt ≤ 999) := i55
            have i56 : 1 ≤ u41.toInt := i56
            refine lv_aload_n hx hb dX10_next_298 rfl (lv_at hl 3 rfl) ?_
            refine lv_iload_n hx hb dX10_next_299 rfl (lv_at hl 0 rfl) ?_
            refine lv_if_eq (tgt := 320) hx hb dX10_next_300 (by decide) (fun c57 => ?_) (fun c57 => ?_)
            · have dc57 : u38.toInt = 0 := eq_i (a := u38.toInt) (b := 0) rfl rfl c57
              have k58 : 0 ≤ u38.toInt ∧ u38.toInt ≤ 0 := ⟨i45.1, Int.le_trans (Int.le_of_eq dc57) (Int.le_refl _)⟩
              refine lv_iconst (v := 4) hx hb dX10_next_320 (by decide) ?_
              refine lv_goto (tgt := 333) hx hb dX10_next_321 (by decide) ?_
              refine put_f (D := D) (ci := 10) (v := .int 4) (ty := .int) (C := RX10) (T := TX10) (N := 67) hx hb hw inAX10 tyX10 tyX10_ok nmX10 hown hK hP hD hS 0 rfl rfl 11 (by decide) (hw _ q_1272) (fun _ h9 => h9) rfl (by decide +kernel) rfl rfl dX10_next_333 (fun H locs F59 eF59 hP hD hS => ?_)
              have hP : va_P D vwCl [(h0, .inr (10, vL 67 F59)), (h_tape, .inl (cB, 940, .inl f_tape))] H := hP
              have hD : va_D A [(h0, .inr (10, vL 67 F59)), (h_tape, .inl (cB, 940, .inl f_tape))] := hD
              exact ret_v hx hb hr hlocks hS hP hD dX10_next_336 (Nat.le_of_ble_eq_true rfl) (Nat.le_of_ble_eq_true rfl) ⟨F59, u40, 4, u2, u41, u42, u43, (SAME.up eF59 (SAME.tr (SAME.up eF37 (SAME.up eF36 (SAME.up eF9 (SAME.up eF8 (SAME.tr SAME.rf i4 (by decide)) (by decide)) (by decide)) (by decide)) (by decide)) i46 (by decide)) (by decide)), (get_ne eF59 (by decide) i47), i51, (get_eq eF59), (show 0 ≤ (4 : Int32).toInt ∧ (4 : Int32).toInt ≤ 4 by decide), (get_ne eF59 (by decide) (SAME.at i46 (by decide) (get_ne eF37 (by decide) (get_ne eF36 (by decide) (get_ne eF9 (by decide) (get_eq eF8)))))), (ir_wk k30 (by decide) (by decide)), (get_ne eF59 (by decide) i48), i52, (get_ne eF59 (by decide) i49), (get_ne eF59 (by decide) i50), (by have zl0 : (0 : Int32).toInt = 0 := (by decide); have zl4 : (4 : Int32).toInt = 4 := (by decide); omega), (by have zl0 : (0 : Int32).toInt = 0 := (by decide); have zl4 : (4 : Int32).toInt = 4 := (by decide); omega), (by have zl4 : (4 : Int32).toInt = 4 := (by decide); omega), rfl⟩
            · have dc57 : u38.toInt ≠ 0 := ne_i (a := u38.toInt) (b := 0) rfl rfl c57
              have k60 : 1 ≤ u38.toInt ∧ u38.toInt ≤ 1 := ⟨ne_lo dc57 i45.1 ⟨Int.le_refl _, Int.le_refl _⟩ (by decide), i45.2⟩
              refine lv_aload_n hx hb dX10_next_303 rfl (lv_at hl 3 rfl) ?_
              refine get_f (D := D) (ci := 10) (v := .int u41) (C := RX10) (T := TX10) (N := 67) hx hb hw inAX10 hown hK hP 0 rfl rfl 13 (by decide) (hw _ q_1274) (fun _ h9 => h9) i48 dX10_next_304 ?_
              refine lv_iload_n hx hb dX10_next_307 rfl (lv_at hl 1 rfl) ?_
              refine lv_if_eq (tgt := 316) hx hb dX10_next_308 (by decide) (fun c61 => ?_) (fun c61 => ?_)
              · have dc61 : u33.toInt = 0 := eq_i (a := u33.toInt) (b := 0) rfl rfl c61
                have k62 : 0 ≤ u33.toInt ∧ u33.toInt ≤ 0 := ⟨i35.1, Int.le_trans (Int.le_of_eq dc61) (Int.le_refl _)⟩
                refine lv_iconst (v := 3) hx hb dX10_next_316 (by decide) ?_
                refine lv_icmp_le (tgt := 324) hx hb dX10_next_317 (by decide) (fun c63 => ?_) (fun c63 => ?_)
                · have dc63 : u41.toInt ≤ 3 := le_i (a := u41.toInt) (b := 3) rfl rfl c63
                  have k64 : 0 ≤ u41.toInt ∧ u41.toInt ≤ 3 := ⟨i52.1, Int.le_trans dc63 (Int.le_refl _)⟩
                  refine lv_iload_n hx hb dX10_next_324 rfl (lv_at hl 1 rfl) ?_
                  refine lv_if_eq (tgt := 332) hx hb dX10_next_325 (by decide) (fun c65 => ?_) (fun c65 => False.elim (bad_ne (ne_i (a := u33.toInt) (b := 0) rfl rfl c65) k62 ⟨Int.le_refl _, Int.le_refl _⟩ (by decide)))
                  have dc65 : u33.toInt = 0 := eq_i (a := u33.toInt) (b := 0) rfl rfl c65
                  refine lv_iconst (v := 2) hx hb dX10_next_332 (by decide) ?_
                  refine put_f (D := D) (ci := 10) (v := .int 2) (ty := .int) (C := RX10) (T := TX10) (N := 67) hx hb hw inAX10 tyX10 tyX10_ok nmX10 hown hK hP hD hS 0 rfl rfl 11 (by decide) (hw _ q_1272) (fun _ h9 => h9) rfl (by decide +kernel) rfl rfl dX10_next_333 (fun H locs F66 eF66 hP hD hS => ?_)
                  have hP : va_P D vwCl [(h0, .inr (10, vL 67 F66)), (h_tape, .inl (cB, 940, .inl f_tape))] H := hP
                  have hD : va_D A [(h0, .inr (10, vL 67 F66)), (h_tape, .inl (cB, 940, .inl f_tape))] := hD
                  exact ret_v hx hb hr hlocks hS hP hD dX10_next_336 (Nat.le_of_ble_eq_true rfl) (Nat.le_of_ble_eq_true rfl) ⟨F66, u40, 2, u2, u41, u42, u43, (SAME.up eF66 (SAME.tr (SAME.up eF37 (SAME.up eF36 (SAME.up eF9 (SAME.up eF8 (SAME.tr SAME.rf i4 (by decide)) (by decide)) (by decide)) (by decide)) (by decide)) i46 (by decide)) (by decide)), (get_ne eF66 (by decide) i47), i51, (get_eq eF66), (show 0 ≤ (2 : Int32).toInt ∧ (2 : Int32).toInt ≤ 4 by decide), (get_ne eF66 (by decide) (SAME.at i46 (by decide) (get_ne eF37 (by decide) (get_ne eF36 (by decide) (get_ne eF9 (by decide) (get_eq eF8)))))), (ir_wk k30 (by decide) (by decide)), (get_ne eF66 (by decide) i48), (ir_wk k64 (by decide) (by decide)), (get_ne eF66 (by decide) i49), (get_ne eF66 (by decide) i50), (by have zl0 : (0 : Int32).toInt = 0 := (by decide); have zl4 : (4 : Int32).toInt = 4 := (by decide); omega), (by have zl0 : (0 : Int32).toInt = 0 := (by decide); have zl4 : (4 : Int32).toInt = 4 := (by decide); omega), (by have zl2 : (2 : Int32).toInt = 2 := (by decide); omega), rfl⟩
                · have dc63 : 3 < u41.toInt := nle_i (a := u41.toInt) (b := 3) rfl rfl c63
                  have k67 : 4 ≤ u41.toInt ∧ u41.toInt ≤ 940 := ⟨lo_lt dc63 (Int.le_refl _) (by decide), i52.2⟩
                  refine lv_iconst (v := 4) hx hb dX10_next_320 (by decide) ?_
                  refine lv_goto (tgt := 333) hx hb dX10_next_321 (by decide) ?_
                  refine put_f (D := D) (ci := 10) (v := .int 4) (ty := .int) (C := RX10) (T := TX10) (N := 67) hx hb hw inAX10 tyX10 tyX10_ok nmX10 hown hK hP hD hS 0 rfl rfl 11 (by decide) (hw _ q_1272) (fun _ h9 => h9) rfl (by decide +kernel) rfl rfl dX10_next_333 (fun H locs F68 eF68 hP hD hS => ?_)
                  have hP : va_P D vwCl [(h0, .inr (10, vL 67 F68)), (h_tape, .inl (cB, 940, .inl f_tape))] H := hP
                  have hD : va_D A [(h0, .inr (10, vL 67 F68)), (h_tape, .inl (cB, 940, .inl f_tape))] := hD
                  exact ret_v hx hb hr hlocks hS hP hD dX10_next_336 (Nat.le_of_ble_eq_true rfl) (Nat.le_of_ble_eq_true rfl) ⟨F68, u40, 4, u2, u41, u42, u43, (SAME.up eF68 (SAME.tr (SAME.up eF37 (SAME.up eF36 (SAME.up eF9 (SAME.up eF8 (SAME.tr SAME.rf i4 (by decide)) (by decide)) (by decide)) (by decide)) (by decide)) i46 (by decide)) (by decide)), (get_ne eF68 (by decide) i47), i51, (get_eq eF68), (show 0 ≤ (4 : Int32).toInt ∧ (4 : Int32).toInt ≤ 4 by decide), (get_ne eF68 (by decide) (SAME.at i46 (by decide) (get_ne eF37 (by decide) (get_ne eF36 (by decide) (get_ne eF9 (by decide) (get_eq eF8)))))), (ir_wk k30 (by decide) (by decide)), (get_ne eF68 (by decide) i48), (ir_wk k67 (by decide) (by decide)), (get_ne eF68 (by decide) i49), (get_ne eF68 (by decide) i50), (by have zl0 : (0 : Int32).toInt = 0 := (by decide); have zl4 : (4 : Int32).toInt = 4 := (by decide); omega), (by have zl0 : (0 : Int32).toInt = 0 := (by decide); have zl4 : (4 : Int32).toInt = 4 := (by decide); omega), (by have zl4 : (4 : Int32).toInt = 4 := (by decide); omega), rfl⟩
              · have dc61 : u33.toInt ≠ 0 := ne_i (a := u33.toInt) (b := 0) rfl rfl c61
                have k69 : 1 ≤ u33.toInt ∧ u33.toInt ≤ 1 := ⟨ne_lo dc61 i35.1 ⟨Int.le_refl _, Int.le_refl _⟩ (by decide), i35.2⟩
                refine lv_bipush (v := 7) hx hb dX10_next_311 (by decide) ?_
                refine lv_goto (tgt := 317) hx hb dX10_next_313 (by decide) ?_
                refine lv_icmp_le (tgt := 324) hx hb dX10_next_317 (by decide) (fun c70 => ?_) (fun c70 => ?_)
                · have dc70 : u41.toInt ≤ 7 := le_i (a := u41.toInt) (b := 7) rfl rfl c70
                  have k71 : 0 ≤ u41.toInt ∧ u41.toInt ≤ 7 := ⟨i52.1, Int.le_trans dc70 (Int.le_refl _)⟩
                  refine lv_iload_n hx hb dX10_next_324 rfl (lv_at hl 1 rfl) ?_
                  refine lv_if_eq (tgt := 332) hx hb dX10_next_325 (by decide) (fun c72 => False.elim (bad_le (Int.le_of_eq (eq_i (a := u33.toInt) (b := 0) rfl rfl c72)) k69.1 (Int.le_refl _) (by decide))) (fun c72 => ?_)
                  have dc72 : u33.toInt ≠ 0 := ne_i (a := u33.toInt) (b := 0) rfl rfl c72
                  refine lv_iconst (v := 1) hx hb dX10_next_328 (by decide) ?_
                  refine lv_goto (tgt := 333) hx hb dX10_next_329 (by decide) ?_
                  refine put_f (D := D) (ci := 10) (v := .int 1) (ty := .int) (C := RX10) (T := TX10) (N := 67) hx hb hw inAX10 tyX10 tyX10_ok nmX10 hown hK hP hD hS 0 rfl rfl 11 (by decide) (hw _ q_1272) (fun _ h9 => h9) rfl (by decide +kernel) rfl rfl dX10_next_333 (fun H locs F73 eF73 hP hD hS => ?_)
                  have hP : va_P D vwCl [(h0, .inr (10, vL 67 F73)), (h_tape, .inl (cB, 940, .inl f_tape))] H := hP
                  have hD : va_D A [(h0, .inr (10, vL 67 F73)), (h_tape, .inl (cB, 940, .inl f_tape))] := hD
                  exact ret_v hx hb hr hlocks hS hP hD dX10_next_336 (Nat.le_of_ble_eq_true rfl) (Nat.le_of_ble_eq_true rfl) ⟨F73, u40, 1, u2, u41, u42, u43, (SAME.up eF73 (SAME.tr (SAME.up eF37 (SAME.up eF36 (SAME.up eF9 (SAME.up eF8 (SAME.tr SAME.rf i4 (by decide)) (by decide)) (by decide)) (by decide)) (by decide)) i46 (by decide)) (by decide)), (get_ne eF73 (by decide) i47), i51, (get_eq eF73), (show 0 ≤ (1 : Int32).toInt ∧ (1 : Int32).toInt ≤ 4 by decide), (get_ne eF73 (by decide) (SAME.at i46 (by decide) (get_ne eF37 (by decide) (get_ne eF36 (by decide) (get_ne eF9 (by decide) (get_eq eF8)))))), (ir_wk k30 (by decide) (by decide)), (get_ne eF73 (by decide) i48), (ir_wk k71 (by decide) (by decide)), (get_ne eF73 (by decide) i49), (get_ne eF73 (by decide) i50), (by have zl0 : (0 : Int32).toInt = 0 := (by decide); have zl4 : (4 : Int32).toInt = 4 := (by decide); omega), (by have zl0 : (0 : Int32).toInt = 0 := (by decide); have zl4 : (4 : Int32).toInt = 4 := (by decide); omega), (by have zl1 : (1 : Int32).toInt = 1 := (by decide); omega), rfl⟩
                · have dc70 : 7 < u41.toInt := nle_i (a := u41.toInt) (b := 7) rfl rfl c70
                  have k74 : 8 ≤ u41.toInt ∧ u41.toInt ≤ 940 := ⟨lo_lt dc70 (Int.le_refl _) (by decide), i52.2⟩
                  refine lv_iconst (v := 4) hx hb dX10_next_320 (by decide) ?_
                  refine lv_goto (tgt := 333) hx hb dX10_next_321 (by decide) ?_
                  refine put_f (D := D) (ci := 10) (v := .int 4) (ty := .int) (C := RX10) (T := TX10) (N := 67) hx hb hw inAX10 tyX10 tyX10_ok nmX10 hown hK hP hD hS 0 rfl rfl 11 (by decide) (hw _ q_1272) (fun _ h9 => h9) rfl (by decide +kernel) rfl rfl dX10_next_333 (fun H locs F75 eF75 hP hD hS => ?_)
                  have hP : va_P D vwCl [(h0, .inr (10, vL 67 F75)), (h_tape, .inl (cB, 940, .inl f_tape))] H := hP
                  have hD : va_D A [(h0, .inr (10, vL 67 F75)), (h_tape, .inl (cB, 940, .inl f_tape))] := hD
                  exact ret_v hx hb hr hlocks hS hP hD dX10_next_336 (Nat.le_of_ble_eq_true rfl) (Nat.le_of_ble_eq_true rfl) ⟨F75, u40, 4, u2, u41, u42, u43, (SAME.up eF75 (SAME.tr (SAME.up eF37 (SAME.up eF36 (SAME.up eF9 (SAME.up eF8 (SAME.tr SAME.rf i4 (by decide)) (by decide)) (by decide)) (by decide)) (by decide)) i46 (by decide)) (by decide)), (get_ne eF75 (by decide) i47), i51, (get_eq eF75), (show 0 ≤ (4 : Int32).toInt ∧ (4 : Int32).toInt ≤ 4 by decide), (get_ne eF75 (by decide) (SAME.at i46 (by decide) (get_ne eF37 (by decide) (get_ne eF36 (by decide) (get_ne eF9 (by decide) (get_eq eF8)))))), (ir_wk k30 (by decide) (by decide)), (get_ne eF75 (by decide) i48), (ir_wk k74 (by decide) (by decide)), (get_ne eF75 (by decide) i49), (get_ne eF75 (by decide) i50), (by have zl0 : (0 : Int32).toInt = 0 := (by decide); have zl4 : (4 : Int32).toInt = 4 := (by decide); omega), (by have zl0 : (0 : Int32).toInt = 0 := (by decide); have zl4 : (4 : Int32).toInt = 4 := (by decide); omega), (by have zl4 : (4 : Int32).toInt = 4 := (by decide); omega), rfl⟩
          have n76 : F36 4 = .int u2 := (get_ne eF36 (by decide) n21)
          have n77 : F37 4 = .int u2 := (get_ne eF37 (by decide) n76)
          have n78 : F36 13 = .int 0 := (get_ne eF36 (by decide) (get_eq eF9))
          have n79 : F37 13 = .int 0 := (get_ne eF37 (by decide) n78)
          have n80 : F37 18 = .long 0 := (get_ne eF37 (by decide) (get_eq eF36))
          refine mloop (α := (Int32) × (Nat → Value) × (Int32) × (Int32) × (Int32) × (Int64)) (nL := 4) (D := D) (A := A) (H0 := s.heap) (fun a => (x_size.toInt - a.2.2.1.toInt).toNat) (fun a => IR 0 1 a.1 ∧ SAME [4, 13, 14, 18] F37 a.2.1 ∧ a.2.1 4 = .int a.2.2.1 ∧ a.2.1 13 = .int a.2.2.2.1 ∧ a.2.1 14 = .int a.2.2.2.2.1 ∧ a.2.1 18 = .long a.2.2.2.2.2 ∧ IR 0 940 a.2.2.1 ∧ IR 0 940 a.2.2.2.1 ∧ (0 ≤ a.2.2.2.1.toInt ∧ a.2.2.2.1.toInt ≤ a.2.2.1.toInt ∧ x_p.toInt + a.2.2.2.1.toInt ≤ a.2.2.1.toInt ∧ (a.2.2.2.1.toInt = 0 → a.2.2.1.toInt = u2.toInt)) ∧ (a.1.toInt = 1 → u33.toInt = 0 → (0 ≤ a.2.2.2.2.1.toInt ∧ a.2.2.2.2.1.toInt ≤ 999 ∧ (a.2.2.2.1.toInt = 0 → a.2.2.2.2.1.toInt = 0) ∧ (a.2.2.2.1.toInt = 1 → a.2.2.2.2.1.toInt ≤ 9) ∧ (a.2.2.2.1.toInt = 2 → a.2.2.2.2.1.toInt ≤ 99))) ∧ ((x_token.toInt = 2 → 0 ≤ a.2.2.2.2.1.toInt ∧ a.2.2.2.2.1.toInt ≤ 999))) (fun a => [(h0, .inr (10, vL 67 a.2.1)), (h_tape, .inl (cB, 940, .inl f_tape))]) (fun a => [(3, .int a.1), (2, .int u33), (1, .int v28), (0, .ref h0)]) (fun H locs ls => W p l e ({ frames := 1, cells := 0, slots := 0, locals := 20 } : Room) s m [.ref h0].toArray below meth c H locs 0 0 (MQ below (va_Qv (fun (u : va_W) => ∃ (Gh : Nat → Value) (y_p : Int32) (y_token : Int32) (y_at : Int32) (y_span : Int32) (y_number : Int32) (y_word : Int64), SAME [4, 11, 12, 13, 14, 18] Fh Gh ∧ Gh 4 = .int y_p ∧ IR 0 940 y_p ∧ Gh 11 = .int y_token ∧ IR 0 4 y_token ∧ Gh 12 = .int y_at ∧ IR 0 940 y_at ∧ Gh 13 = .int y_span ∧ IR 0 940 y_span ∧ Gh 14 = .int y_number ∧ Gh 18 = .long y_word ∧ (x_p.toInt ≤ y_p.toInt) ∧ ((1 ≤ y_token.toInt → y_token.toInt ≤ 3 → x_p.toInt < y_p.toInt)) ∧ ((y_token.toInt = 2 → 0 ≤ y_number.toInt ∧ y_number.toInt ≤ 999)) ∧ u = [(h0, .inr (10, vL 67 Gh)), (h_tape, .inl (cB, 940, .inl f_tape))]) (PO D A) A) [.ref h0].toArray s 0 0 A) (F0 m 181 ls [])) ?_ (1, F37, u2, 0, 0, 0) ⟨(show 0 ≤ (1 : Int32).toInt ∧ (1 : Int32).toInt ≤ 1 by decide), SAME.rf, n77, n79, (get_eq eF37), n80, (ir_wk k30 (by decide) (by decide)), (show 0 ≤ (0 : Int32).toInt ∧ (0 : Int32).toInt ≤ 940 by decide), (by show 0 ≤ 0 ∧ 0 ≤ u2.toInt ∧ x_p.toInt + 0 ≤ u2.toInt ∧ (0 = 0 → u2.toInt = u2.toInt); omega), (by show 1 = 1 → u33.toInt = 0 → (0 ≤ 0 ∧ 0 ≤ 999 ∧ (0 = 0 → 0 = 0) ∧ (0 = 1 → 0 ≤ 9) ∧ (0 = 2 → 0 ≤ 99)); omega), (by show (x_token.toInt = 2 → 0 ≤ 0 ∧ 0 ≤ 999); omega)⟩ _ _ _ hP hD hS hl
          rintro ⟨u38, G39, u40, u41, u42, u43⟩ ⟨i81, i82, i83, i84, i85, i86, i87, i88, i89, i90, i91⟩ ih H locs ls hP hD hS hl
          have i81 : 0 ≤ u38.toInt ∧ u38.toInt ≤ 1 := i81
          have i87 : 0 ≤ u40.toInt ∧ u40.toInt ≤ 940 := i87
          have i88 : 0 ≤ u41.toInt ∧ u41.toInt ≤ 940 := i88
          have i89 : 0 ≤ u41.toInt ∧ u41.toInt ≤ u40.toInt ∧ x_p.toInt + u41.toInt ≤ u40.toInt ∧ (u41.toInt = 0 → u40.toInt = u2.toInt) := i89
          have i90 : u38.toInt = 1 → u33.toInt = 0 → (0 ≤ u42.toInt ∧ u42.toInt ≤ 999 ∧ (u41.toInt = 0 → u42.toInt = 0) ∧ (u41.toInt = 1 → u42.toInt ≤ 9) ∧ (u41.toInt = 2 → u42.toInt ≤ 99)) := i90
          have i91 : (x_token.toInt = 2 → 0 ≤ u42.toInt ∧ u42.toInt ≤ 999) := i91
          have hP : va_P D vwCl [(h0, .inr (10, vL 67 G39)), (h_tape, .inl (cB, 940, .inl f_tape))] H := hP
          have hD : va_D A [(h0, .inr (10, vL 67 G39)), (h_tape, .inl (cB, 940, .inl f_tape))] := hD
          have hl : lv_has ls 4 [(3, .int u38), (2, .int u33), (1, .int v28), (0, .ref h0)] := hl
          refine lv_aload_n hx hb dX10_next_181 rfl (lv_at hl 3 rfl) ?_
          have n92 : F36 1 = .ref h_tape := (get_ne eF36 (by decide) n19)
          have n93 : F37 1 = .ref h_tape := (get_ne eF37 (by decide) n92)
          have n94 : G39 1 = .ref h_tape := (SAME.at i82 (by decide) n93)
          have n95 : F36 3 = .int x_size := (get_ne eF36 (by decide) n12)
          have n96 : F37 3 = .int x_size := (get_ne eF37 (by decide) n95)
          have n97 : G39 3 = .int x_size := (SAME.at i82 (by decide) n96)
          refine call_Vi (wr := []) (As := []) (rest := []) hx hb hml hown hw (m_X10_peek l D cI cJ cB cP cM cZ h0 h_tape G39 x_size u40 f_tape _ n94 n97 (ir_wk k31 (by decide) (by decide)) i83 i87) wV_X10_169_X10_peek dX10_next_182 hK hP hD hS hA [0, 1] [] rfl rfl (by decide) (by decide) (by decide) 0 10 rfl rfl GG.fb hG.at hl.1 rfl (Nat.le_of_ble_eq_true rfl) ⟨(Nat.le_of_ble_eq_true rfl), (Nat.le_of_ble_eq_true rfl)⟩ ⟨(Nat.le_of_ble_eq_true rfl), (Nat.le_of_ble_eq_true rfl)⟩ (fun r98 u H locs hp hP hD hS => ?_)
          rcases hp with ⟨t99, rfl, rfl⟩ | ⟨t100, t101, rfl, rfl⟩
          · have hP : va_P D vwCl [(h0, .inr (10, vL 67 G39)), (h_tape, .inl (cB, 940, .inl f_tape))] H := hP
            have hD : va_D A [(h0, .inr (10, vL 67 G39)), (h_tape, .inl (cB, 940, .inl f_tape))] := hD
            refine W.widen (k := 0) (n := 0) (Nat.le_of_ble_eq_true rfl) (Nat.le_of_ble_eq_true rfl) ?_
            have k103 : 1 ≤ u40.toInt ∧ u40.toInt ≤ 940 := ⟨Int.le_trans k31.1 t99, i87.2⟩
            refine call_Si (wr := [(h0, .inr (10, vL 67 G39)), (h_tape, .inl (cB, 940, .inl f_tape))]) (As := [.int (-1)]) (rest := []) hx hb hml hown hw (m_X10_isSmall l D cI cJ cB cP cM cZ (-1) _ ) wS_X10_182_X10_isSmall dX10_next_185 hP hD hS hA [] [0, 1] rfl rfl (by decide) (by decide) (by decide) GG.fb hG.at hl.1 rfl (Nat.le_of_ble_eq_true rfl) ⟨(Nat.le_of_ble_eq_true rfl), (Nat.le_of_ble_eq_true rfl)⟩ ⟨(Nat.le_of_ble_eq_true rfl), (Nat.le_of_ble_eq_true rfl)⟩ (fun r104 u H locs hp hP hD hS => ?_)
            have zlm1 : ((-1) : Int32).toInt = (-1) := by decide
            rcases hp with ⟨t105, rfl, rfl⟩ | ⟨t106, t107, rfl, rfl⟩ | ⟨t108, t109, rfl, rfl⟩
            · have hP : va_P D vwCl [(h0, .inr (10, vL 67 G39)), (h_tape, .inl (cB, 940, .inl f_tape))] H := hP
              have hD : va_D A [(h0, .inr (10, vL 67 G39)), (h_tape, .inl (cB, 940, .inl f_tape))] := hD
              refine W.widen (k := 0) (n := 0) (Nat.le_of_ble_eq_true rfl) (Nat.le_of_ble_eq_true rfl) ?_
              refine lv_if_ne (tgt := 201) hx hb dX10_next_188 (by decide) (fun g => absurd (by decide) g) (fun _ => ?_)
              refine lv_aload_n hx hb dX10_next_191 rfl (lv_at hl 3 rfl) ?_
              refine call_Vi (wr := []) (As := []) (rest := []) hx hb hml hown hw (m_X10_peek l D cI cJ cB cP cM cZ h0 h_tape G39 x_size u40 f_tape _ n94 n97 (ir_wk k31 (by decide) (by decide)) i83 (ir_wk k103 (by decide) (by decide))) wV_X10_169_X10_peek dX10_next_192 hK hP hD hS hA [0, 1] [] rfl rfl (by decide) (by decide) (by decide) 0 10 rfl rfl GG.fb hG.at hl.1 rfl (Nat.le_of_ble_eq_true rfl) ⟨(Nat.le_of_ble_eq_true rfl), (Nat.le_of_ble_eq_true rfl)⟩ ⟨(Nat.le_of_ble_eq_true rfl), (Nat.le_of_ble_eq_true rfl)⟩ (fun r111 u H locs hp hP hD hS => ?_)
              rcases hp with ⟨t112, rfl, rfl⟩ | ⟨t113, t114, rfl, rfl⟩
              · have hP : va_P D vwCl [(h0, .inr (10, vL 67 G39)), (h_tape, .inl (cB, 940, .inl f_tape))] H := hP
                have hD : va_D A [(h0, .inr (10, vL 67 G39)), (h_tape, .inl (cB, 940, .inl f_tape))] := hD
                refine W.widen (k := 0) (n := 0) (Nat.le_of_ble_eq_true rfl) (Nat.le_of_ble_eq_true rfl) ?_
                refine call_Si (wr := [(h0, .inr (10, vL 67 G39)), (h_tape, .inl (cB, 940, .inl f_tape))]) (As := [.int (-1)]) (rest := []) hx hb hml hown hw (m_X10_isDigit l D cI cJ cB cP cM cZ (-1) _ ) wS_X10_186_X10_isDigit dX10_next_195 hP hD hS hA [] [0, 1] rfl rfl (by decide) (by decide) (by decide) GG.fb hG.at hl.1 rfl (Nat.le_of_ble_eq_true rfl) ⟨(Nat.le_of_ble_eq_true rfl), (Nat.le_of_ble_eq_true rfl)⟩ ⟨(Nat.le_of_ble_eq_true rfl), (Nat.le_of_ble_eq_true rfl)⟩ (fun r116 u H locs hp hP hD hS => ?_)
                rcases hp with ⟨t117, rfl, rfl⟩ | ⟨t118, t119, rfl, rfl⟩ | ⟨t120, t121, rfl, rfl⟩
                · have hP : va_P D vwCl [(h0, .inr (10, vL 67 G39)), (h_tape, .inl (cB, 940, .inl f_tape))] H := hP
                  have hD : va_D A [(h0, .inr (10, vL 67 G39)), (h_tape, .inl (cB, 940, .inl f_tape))] := hD
                  refine W.widen (k := 0) (n := 0) (Nat.le_of_ble_eq_true rfl) (Nat.le_of_ble_eq_true rfl) ?_
                  refine lv_if_eq (tgt := 298) hx hb dX10_next_198 (by decide) (fun _ => ?_) (fun g => absurd (by decide) g)
                  have hgv28 : v28.toInt = (((f_tape u2.toNatClampNeg) &&& 255)).toInt := by rw [ev28]
                  have hfst : u40.toInt = u2.toInt → (f_tape u40.toNatClampNeg &&& 255).toInt = (f_tape u2.toNatClampNeg &&& 255).toInt := fun h9 => by rw [Int32.toInt_inj.mp h9]
                  exact cut44 u38 G39 u40 u41 u42 u43 i81 (SAME.tr SAME.rf i82 (by decide)) i83 i84 i85 i86 (ir_wk k103 (by decide) (by decide)) i88 (by show 0 ≤ u41.toInt ∧ u41.toInt ≤ u40.toInt ∧ x_p.toInt + u41.toInt ≤ u40.toInt ∧ (u41.toInt = 0 → u40.toInt = u2.toInt); omega) (by show u38.toInt = 1 → u33.toInt = 0 → (0 ≤ u42.toInt ∧ u42.toInt ≤ 999 ∧ (u41.toInt = 0 → u42.toInt = 0) ∧ (u41.toInt = 1 → u42.toInt ≤ 9) ∧ (u41.toInt = 2 → u42.toInt ≤ 99)); omega) (by show (x_token.toInt = 2 → 0 ≤ u42.toInt ∧ u42.toInt ≤ 999); omega) (by show 1 ≤ u41.toInt; omega) _ _ _ hP hD hS (lv_sub hl [0, 1, 2, 3] rfl)
                · have hP : va_P D vwCl [(h0, .inr (10, vL 67 G39)), (h_tape, .inl (cB, 940, .inl f_tape))] H := hP
                  have hD : va_D A [(h0, .inr (10, vL 67 G39)), (h_tape, .inl (cB, 940, .inl f_tape))] := hD
                  refine W.widen (k := 0) (n := 0) (Nat.le_of_ble_eq_true rfl) (Nat.le_of_ble_eq_true rfl) ?_
                  exact absurd t118 (by decide)
                · have hP : va_P D vwCl [(h0, .inr (10, vL 67 G39)), (h_tape, .inl (cB, 940, .inl f_tape))] H := hP
                  have hD : va_D A [(h0, .inr (10, vL 67 G39)), (h_tape, .inl (cB, 940, .inl f_tape))] := hD
                  refine W.widen (k := 0) (n := 0) (Nat.le_of_ble_eq_true rfl) (Nat.le_of_ble_eq_true rfl) ?_
                  exact absurd t120 (by decide)
              · have hP : va_P D vwCl [(h0, .inr (10, vL 67 G39)), (h_tape, .inl (cB, 940, .inl f_tape))] H := hP
                have hD : va_D A [(h0, .inr (10, vL 67 G39)), (h_tape, .inl (cB, 940, .inl f_tape))] := hD
                refine W.widen (k := 0) (n := 0) (Nat.le_of_ble_eq_true rfl) (Nat.le_of_ble_eq_true rfl) ?_
                refine lv_topi (fun v123 ev123 => ?_)
                have k124 : 0 ≤ v123.toInt ∧ v123.toInt ≤ 255 := by rw [ev123]; exact t113
                have k125 : 1 ≤ u40.toInt ∧ u40.toInt ≤ 939 := ⟨k103.1, up_lt t114 k31.2 (by decide)⟩
                have k126 : 2 ≤ x_size.toInt ∧ x_size.toInt ≤ 940 := ⟨lo_lt t114 k103.1 (by decide), k31.2⟩
                refine call_Si (wr := [(h0, .inr (10, vL 67 G39)), (h_tape, .inl (cB, 940, .inl f_tape))]) (As := [.int v123]) (rest := []) hx hb hml hown hw (m_X10_isDigit l D cI cJ cB cP cM cZ v123 _ ) wS_X10_186_X10_isDigit dX10_next_195 hP hD hS hA [] [0, 1] rfl rfl (by decide) (by decide) (by decide) GG.fb hG.at hl.1 rfl (Nat.le_of_ble_eq_true rfl) ⟨(Nat.le_of_ble_eq_true rfl), (Nat.le_of_ble_eq_true rfl)⟩ ⟨(Nat.le_of_ble_eq_true rfl), (Nat.le_of_ble_eq_true rfl)⟩ (fun r127 u H locs hp hP hD hS => ?_)
                rcases hp with ⟨t128, rfl, rfl⟩ | ⟨t129, t130, rfl, rfl⟩ | ⟨t131, t132, rfl, rfl⟩
                · have hP : va_P D vwCl [(h0, .inr (10, vL 67 G39)), (h_tape, .inl (cB, 940, .inl f_tape))] H := hP
                  have hD : va_D A [(h0, .inr (10, vL 67 G39)), (h_tape, .inl (cB, 940, .inl f_tape))] := hD
                  refine W.widen (k := 0) (n := 0) (Nat.le_of_ble_eq_true rfl) (Nat.le_of_ble_eq_true rfl) ?_
                  have k134 : 0 ≤ v123.toInt ∧ v123.toInt ≤ 47 := ⟨k124.1, up_lt t128 (Int.le_refl _) (by decide)⟩
                  refine lv_if_eq (tgt := 298) hx hb dX10_next_198 (by decide) (fun _ => ?_) (fun g => absurd (by decide) g)
                  have hgv28 : v28.toInt = (((f_tape u2.toNatClampNeg) &&& 255)).toInt := by rw [ev28]
                  have hgv123 : v123.toInt = (((f_tape u40.toNatClampNeg) &&& 255)).toInt := by rw [ev123]
                  have hfst : u40.toInt = u2.toInt → (f_tape u40.toNatClampNeg &&& 255).toInt = (f_tape u2.toNatClampNeg &&& 255).toInt := fun h9 => by rw [Int32.toInt_inj.mp h9]
                  exact cut44 u38 G39 u40 u41 u42 u43 i81 (SAME.tr SAME.rf i82 (by decide)) i83 i84 i85 i86 (ir_wk k125 (by decide) (by decide)) i88 (by show 0 ≤ u41.toInt ∧ u41.toInt ≤ u40.toInt ∧ x_p.toInt + u41.toInt ≤ u40.toInt ∧ (u41.toInt = 0 → u40.toInt = u2.toInt); omega) (by show u38.toInt = 1 → u33.toInt = 0 → (0 ≤ u42.toInt ∧ u42.toInt ≤ 999 ∧ (u41.toInt = 0 → u42.toInt = 0) ∧ (u41.toInt = 1 → u42.toInt ≤ 9) ∧ (u41.toInt = 2 → u42.toInt ≤ 99)); omega) (by show (x_token.toInt = 2 → 0 ≤ u42.toInt ∧ u42.toInt ≤ 999); omega) (by show 1 ≤ u41.toInt; omega) _ _ _ hP hD hS (lv_sub hl [0, 1, 2, 3] rfl)
                · have hP : va_P D vwCl [(h0, .inr (10, vL 67 G39)), (h_tape, .inl (cB, 940, .inl f_tape))] H := hP
                  have hD : va_D A [(h0, .inr (10, vL 67 G39)), (h_tape, .inl (cB, 940, .inl f_tape))] := hD
                  refine W.widen (k := 0) (n := 0) (Nat.le_of_ble_eq_true rfl) (Nat.le_of_ble_eq_true rfl) ?_
                  have k135 : 48 ≤ v123.toInt ∧ v123.toInt ≤ 255 := ⟨Int.le_trans (Int.le_refl _) t129, k124.2⟩
                  have k136 : 58 ≤ v123.toInt ∧ v123.toInt ≤ 255 := ⟨lo_lt t130 (Int.le_refl _) (by decide), k135.2⟩
                  refine lv_if_eq (tgt := 298) hx hb dX10_next_198 (by decide) (fun _ => ?_) (fun g => absurd (by decide) g)
                  have hgv28 : v28.toInt = (((f_tape u2.toNatClampNeg) &&& 255)).toInt := by rw [ev28]
                  have hgv123 : v123.toInt = (((f_tape u40.toNatClampNeg) &&& 255)).toInt := by rw [ev123]
                  have hfst : u40.toInt = u2.toInt → (f_tape u40.toNatClampNeg &&& 255).toInt = (f_tape u2.toNatClampNeg &&& 255).toInt := fun h9 => by rw [Int32.toInt_inj.mp h9]
                  exact cut44 u38 G39 u40 u41 u42 u43 i81 (SAME.tr SAME.rf i82 (by decide)) i83 i84 i85 i86 (ir_wk k125 (by decide) (by decide)) i88 (by show 0 ≤ u41.toInt ∧ u41.toInt ≤ u40.toInt ∧ x_p.toInt + u41.toInt ≤ u40.toInt ∧ (u41.toInt = 0 → u40.toInt = u2.toInt); omega) (by show u38.toInt = 1 → u33.toInt = 0 → (0 ≤ u42.toInt ∧ u42.toInt ≤ 999 ∧ (u41.toInt = 0 → u42.toInt = 0) ∧ (u41.toInt = 1 → u42.toInt ≤ 9) ∧ (u41.toInt = 2 → u42.toInt ≤ 99)); omega) (by show (x_token.toInt = 2 → 0 ≤ u42.toInt ∧ u42.toInt ≤ 999); omega) (by show 1 ≤ u41.toInt; omega) _ _ _ hP hD hS (lv_sub hl [0, 1, 2, 3] rfl)
                · have hP : va_P D vwCl [(h0, .inr (10, vL 67 G39)), (h_tape, .inl (cB, 940, .inl f_tape))] H := hP
                  have hD : va_D A [(h0, .inr (10, vL 67 G39)), (h_tape, .inl (cB, 940, .inl f_tape))] := hD
                  refine W.widen (k := 0) (n := 0) (Nat.le_of_ble_eq_true rfl) (Nat.le_of_ble_eq_true rfl) ?_
                  have k137 : 48 ≤ v123.toInt ∧ v123.toInt ≤ 255 := ⟨Int.le_trans (Int.le_refl _) t131, k124.2⟩
                  have k138 : 48 ≤ v123.toInt ∧ v123.toInt ≤ 57 := ⟨k137.1, Int.le_trans t132 (Int.le_refl _)⟩
                  refine lv_if_eq (tgt := 298) hx hb dX10_next_198 (by decide) (fun g => absurd g (by decide)) (fun _ => ?_)
                  have cut140 : ∀ (u139 : Int32) (_ : IR 0 1 u139) (_ : ((u139.toInt = 1 → u33.toInt = 0 → (48 ≤ v123.toInt ∧ v123.toInt ≤ 57 ∧ 0 ≤ u42.toInt ∧ u42.toInt ≤ 999 ∧ (u41.toInt = 0 → u42.toInt = 0) ∧ (u41.toInt = 1 → u42.toInt ≤ 9) ∧ (u41.toInt = 2 → u42.toInt ≤ 99))))) (H : Heap) (locs : List Loc) (ls : Array Slot), va_P D vwCl [(h0, .inr (10, vL 67 G39)), (h_tape, .inl (cB, 940, .inl f_tape))] H → va_D A [(h0, .inr (10, vL 67 G39)), (h_tape, .inl (cB, 940, .inl f_tape))] → va_S A s.heap H locs → lv_has ls 4 [(3, .int u139), (2, .int u33), (1, .int v28), (0, .ref h0)] → W p l e ({ frames := 1, cells := 0, slots := 0, locals := 20 } : Room) s m [.ref h0].toArray below meth c H locs 0 0 (MQ below (va_Qv (fun (u : va_W) => ∃ (Gh : Nat → Value) (y_p : Int32) (y_token : Int32) (y_at : Int32) (y_span : Int32) (y_number : Int32) (y_word : Int64), SAME [4, 11, 12, 13, 14, 18] Fh Gh ∧ Gh 4 = .int y_p ∧ IR 0 940 y_p ∧ Gh 11 = .int y_token ∧ IR 0 4 y_token ∧ Gh 12 = .int y_at ∧ IR 0 940 y_at ∧ Gh 13 = .int y_span ∧ IR 0 940 y_span ∧ Gh 14 = .int y_number ∧ Gh 18 = .long y_word ∧ (x_p.toInt ≤ y_p.toInt) ∧ ((1 ≤ y_token.toInt → y_token.toInt ≤ 3 → x_p.toInt < y_p.toInt)) ∧ ((y_token.toInt = 2 → 0 ≤ y_number.toInt ∧ y_number.toInt ≤ 999)) ∧ u = [(h0, .inr (10, vL 67 Gh)), (h_tape, .inl (cB, 940, .inl f_tape))]) (PO D A) A) [.ref h0].toArray s 0 0 A) (F0 m 222 ls []) := by
                    intro u139 i141 i142 H locs ls hP hD hS hl
                    have i141 : 0 ≤ u139.toInt ∧ u139.toInt ≤ 1 := i141
                    have i142 : (u139.toInt = 1 → u33.toInt = 0 → (48 ≤ v123.toInt ∧ v123.toInt ≤ 57 ∧ 0 ≤ u42.toInt ∧ u42.toInt ≤ 999 ∧ (u41.toInt = 0 → u42.toInt = 0) ∧ (u41.toInt = 1 → u42.toInt ≤ 9) ∧ (u41.toInt = 2 → u42.toInt ≤ 99))) := i142
                    have cut145 : ∀ (G143 : Nat → Value) (u144 : Int64) (_ : SAME [18] G39 G143) (_ : G143 18 = .long u144) (H : Heap) (locs : List Loc) (ls : Array Slot), va_P D vwCl [(h0, .inr (10, vL 67 G143)), (h_tape, .inl (cB, 940, .inl f_tape))] H → va_D A [(h0, .inr (10, vL 67 G143)), (h_tape, .inl (cB, 940, .inl f_tape))] → va_S A s.heap H locs → lv_has ls 4 [(3, .int u139), (2, .int u33), (1, .int v28), (0, .ref h0)] → W p l e ({ frames := 1, cells := 0, slots := 0, locals := 20 } : Room) s m [.ref h0].toArray below meth c H locs 0 0 (MQ below (va_Qv (fun (u : va_W) => ∃ (Gh : Nat → Value) (y_p : Int32) (y_token : Int32) (y_at : Int32) (y_span : Int32) (y_number : Int32) (y_word : Int64), SAME [4, 11, 12, 13, 14, 18] Fh Gh ∧ Gh 4 = .int y_p ∧ IR 0 940 y_p ∧ Gh 11 = .int y_token ∧ IR 0 4 y_token ∧ Gh 12 = .int y_at ∧ IR 0 940 y_at ∧ Gh 13 = .int y_span ∧ IR 0 940 y_span ∧ Gh 14 = .int y_number ∧ Gh 18 = .long y_word ∧ (x_p.toInt ≤ y_p.toInt) ∧ ((1 ≤ y_token.toInt → y_token.toInt ≤ 3 → x_p.toInt < y_p.toInt)) ∧ ((y_token.toInt = 2 → 0 ≤ y_number.toInt ∧ y_number.toInt ≤ 999)) ∧ u = [(h0, .inr (10, vL 67 Gh)), (h_tape, .inl (cB, 940, .inl f_tape))]) (PO D A) A) [.ref h0].toArray s 0 0 A) (F0 m 248 ls []) := by
                      intro G143 u144 i146 i147 H locs ls hP hD hS hl
                      refine lv_aload_n hx hb dX10_next_248 rfl (lv_at hl 3 rfl) ?_
                      have n148 : G143 13 = .int u41 := (SAME.at i146 (by decide) i84)
                      refine get_f (D := D) (ci := 10) (v := .int u41) (C := RX10) (T := TX10) (N := 67) hx hb hw inAX10 hown hK hP 0 rfl rfl 13 (by decide) (hw _ q_1274) (fun _ h9 => h9) n148 dX10_next_249 ?_
                      refine lv_iconst (v := 3) hx hb dX10_next_252 (by decide) ?_
                      refine lv_icmp_ge (tgt := 275) hx hb dX10_next_253 (by decide) (fun c149 => ?_) (fun c149 => ?_)
                      · have dc149 : 3 ≤ u41.toInt := le_i (a := 3) (b := u41.toInt) rfl rfl c149
                        have k150 : 3 ≤ u41.toInt ∧ u41.toInt ≤ 940 := ⟨Int.le_trans (Int.le_refl _) dc149, i88.2⟩
                        refine lv_aload_n hx hb dX10_next_275 rfl (lv_at hl 3 rfl) ?_
                        refine lv_dup hx hb dX10_next_276 rfl ?_
                        refine get_f (D := D) (ci := 10) (v := .int u41) (C := RX10) (T := TX10) (N := 67) hx hb hw inAX10 hown hK hP 0 rfl rfl 13 (by decide) (hw _ q_1274) (fun _ h9 => h9) n148 dX10_next_277 ?_
                        refine lv_iconst (v := 1) hx hb dX10_next_280 (by decide) ?_
                        refine lv_iadd hx hb dX10_next_281 ?_
                        refine lv_topi (fun v151 ev151 => ?_)
                        have bv151 : v151.toInt = u41.toInt + 1 := by rw [ev151]; exact add_k rfl rfl k150 ⟨Int.le_refl _, Int.le_refl _⟩ (by decide)
                        have k152 : 4 ≤ v151.toInt ∧ v151.toInt ≤ 941 := add_r bv151 k150 ⟨Int.le_refl _, Int.le_refl _⟩ (by decide)
                        refine put_f (D := D) (ci := 10) (v := .int v151) (ty := .int) (C := RX10) (T := TX10) (N := 67) hx hb hw inAX10 tyX10 tyX10_ok nmX10 hown hK hP hD hS 0 rfl rfl 13 (by decide) (hw _ q_1274) (fun _ h9 => h9) rfl (by decide +kernel) rfl rfl dX10_next_282 (fun H locs F153 eF153 hP hD hS => ?_)
                        have hP : va_P D vwCl [(h0, .inr (10, vL 67 F153)), (h_tape, .inl (cB, 940, .inl f_tape))] H := hP
                        have hD : va_D A [(h0, .inr (10, vL 67 F153)), (h_tape, .inl (cB, 940, .inl f_tape))] := hD
                        refine lv_aload_n hx hb dX10_next_285 rfl (lv_at hl 3 rfl) ?_
                        refine lv_dup hx hb dX10_next_286 rfl ?_
                        have n154 : G143 4 = .int u40 := (SAME.at i146 (by decide) i83)
                        have n155 : F153 4 = .int u40 := (get_ne eF153 (by decide) n154)
                        refine get_f (D := D) (ci := 10) (v := .int u40) (C := RX10) (T := TX10) (N := 67) hx hb hw inAX10 hown hK hP 0 rfl rfl 4 (by decide) (hw _ q_1265) (fun _ h9 => h9) n155 dX10_next_287 ?_
                        refine lv_iconst (v := 1) hx hb dX10_next_290 (by decide) ?_
                        refine lv_iadd hx hb dX10_next_291 ?_
                        refine lv_topi (fun v156 ev156 => ?_)
                        have bv156 : v156.toInt = u40.toInt + 1 := by rw [ev156]; exact add_k rfl rfl k125 ⟨Int.le_refl _, Int.le_refl _⟩ (by decide)
                        have k157 : 2 ≤ v156.toInt ∧ v156.toInt ≤ 940 := add_r bv156 k125 ⟨Int.le_refl _, Int.le_refl _⟩ (by decide)
                        refine put_f (D := D) (ci := 10) (v := .int v156) (ty := .int) (C := RX10) (T := TX10) (N := 67) hx hb hw inAX10 tyX10 tyX10_ok nmX10 hown hK hP hD hS 0 rfl rfl 4 (by decide) (hw _ q_1265) (fun _ h9 => h9) rfl (by decide +kernel) rfl rfl dX10_next_292 (fun H locs F158 eF158 hP hD hS => ?_)
                        have hP : va_P D vwCl [(h0, .inr (10, vL 67 F158)), (h_tape, .inl (cB, 940, .inl f_tape))] H := hP
                        have hD : va_D A [(h0, .inr (10, vL 67 F158)), (h_tape, .inl (cB, 940, .inl f_tape))] := hD
                        refine lv_goto (tgt := 181) hx hb dX10_next_295 (by decide) ?_
                        have n159 : F158 13 = .int v151 := (get_ne eF158 (by decide) (get_eq eF153))
                        have n160 : G143 14 = .int u42 := (SAME.at i146 (by decide) i85)
                        have n161 : F153 14 = .int u42 := (get_ne eF153 (by decide) n160)
                        have n162 : F158 14 = .int u42 := (get_ne eF158 (by decide) n161)
                        have n163 : F153 18 = .long u144 := (get_ne eF153 (by decide) i147)
                        have n164 : F158 18 = .long u144 := (get_ne eF158 (by decide) n163)
                        exact ih (u139, F158, v156, v151, u42, u144) ⟨i141, (SAME.up eF158 (SAME.up eF153 (SAME.tr (SAME.tr SAME.rf i82 (by decide)) i146 (by decide)) (by decide)) (by decide)), (get_eq eF158), n159, n162, n164, (ir_wk k157 (by decide) (by decide)), ⟨by omega, by omega⟩, (by show 0 ≤ v151.toInt ∧ v151.toInt ≤ v156.toInt ∧ x_p.toInt + v151.toInt ≤ v156.toInt ∧ (v151.toInt = 0 → v156.toInt = u2.toInt); omega), (by show u139.toInt = 1 → u33.toInt = 0 → (0 ≤ u42.toInt ∧ u42.toInt ≤ 999 ∧ (v151.toInt = 0 → u42.toInt = 0) ∧ (v151.toInt = 1 → u42.toInt ≤ 9) ∧ (v151.toInt = 2 → u42.toInt ≤ 99)); omega), (by show (x_token.toInt = 2 → 0 ≤ u42.toInt ∧ u42.toInt ≤ 999); omega)⟩ (by show (x_size.toInt - v156.toInt).toNat < (x_size.toInt - u40.toInt).toNat; omega) _ _ _ hP hD hS (lv_sub hl [0, 1, 2, 3] rfl)
                      · have dc149 : u41.toInt < 3 := nle_i (a := 3) (b := u41.toInt) rfl rfl c149
                        have k165 : 0 ≤ u41.toInt ∧ u41.toInt ≤ 2 := ⟨i88.1, up_lt dc149 (Int.le_refl _) (by decide)⟩
                        refine lv_aload_n hx hb dX10_next_256 rfl (lv_at hl 3 rfl) ?_
                        refine lv_bipush (v := 10) hx hb dX10_next_257 (by decide) ?_
                        refine lv_aload_n hx hb dX10_next_259 rfl (lv_at hl 3 rfl) ?_
                        have n166 : G143 14 = .int u42 := (SAME.at i146 (by decide) i85)
                        refine get_f (D := D) (ci := 10) (v := .int u42) (C := RX10) (T := TX10) (N := 67) hx hb hw inAX10 hown hK hP 0 rfl rfl 14 (by decide) (hw _ q_1275) (fun _ h9 => h9) n166 dX10_next_260 ?_
                        refine lv_imul hx hb dX10_next_263 ?_
                        refine lv_topi (fun v167 ev167 => ?_)
                        refine lv_aload_n hx hb dX10_next_264 rfl (lv_at hl 3 rfl) ?_
                        have n168 : G143 1 = .ref h_tape := (SAME.at i146 (by decide) n94)
                        have n169 : G143 3 = .int x_size := (SAME.at i146 (by decide) n97)
                        have n170 : G143 4 = .int u40 := (SAME.at i146 (by decide) i83)
                        refine call_Vi (wr := []) (As := []) (rest := [.int v167, .ref h0]) hx hb hml hown hw (m_X10_peek l D cI cJ cB cP cM cZ h0 h_tape G143 x_size u40 f_tape _ n168 n169 (ir_wk k126 (by decide) (by decide)) n170 (ir_wk k125 (by decide) (by decide))) wV_X10_169_X10_peek dX10_next_265 hK hP hD hS hA [0, 1] [] rfl rfl (by decide) (by decide) (by decide) 0 10 rfl rfl GG.fb hG.at hl.1 rfl (Nat.le_of_ble_eq_true rfl) ⟨(Nat.le_of_ble_eq_true rfl), (Nat.le_of_ble_eq_true rfl)⟩ ⟨(Nat.le_of_ble_eq_true rfl), (Nat.le_of_ble_eq_true rfl)⟩ (fun r171 u H locs hp hP hD hS => ?_)
                        rcases hp with ⟨t172, rfl, rfl⟩ | ⟨t173, t174, rfl, rfl⟩
                        · have hP : va_P D vwCl [(h0, .inr (10, vL 67 G143)), (h_tape, .inl (cB, 940, .inl f_tape))] H := hP
                          have hD : va_D A [(h0, .inr (10, vL 67 G143)), (h_tape, .inl (cB, 940, .inl f_tape))] := hD
                          refine W.widen (k := 0) (n := 0) (Nat.le_of_ble_eq_true rfl) (Nat.le_of_ble_eq_true rfl) ?_
                          have k176 : 2 ≤ x_size.toInt ∧ x_size.toInt ≤ 939 := ⟨k126.1, Int.le_trans t172 k125.2⟩
                          have k177 : 2 ≤ u40.toInt ∧ u40.toInt ≤ 939 := ⟨Int.le_trans k126.1 t172, k125.2⟩
                          refine lv_iadd hx hb dX10_next_268 ?_
                          refine lv_topi (fun v178 ev178 => ?_)
                          refine lv_bipush (v := 48) hx hb dX10_next_269 (by decide) ?_
                          refine lv_isub hx hb dX10_next_271 ?_
                          refine lv_topi (fun v179 ev179 => ?_)
                          refine put_f (D := D) (ci := 10) (v := .int v179) (ty := .int) (C := RX10) (T := TX10) (N := 67) hx hb hw inAX10 tyX10 tyX10_ok nmX10 hown hK hP hD hS 0 rfl rfl 14 (by decide) (hw _ q_1275) (fun _ h9 => h9) rfl (by decide +kernel) rfl rfl dX10_next_272 (fun H locs F180 eF180 hP hD hS => ?_)
                          have hP : va_P D vwCl [(h0, .inr (10, vL 67 F180)), (h_tape, .inl (cB, 940, .inl f_tape))] H := hP
                          have hD : va_D A [(h0, .inr (10, vL 67 F180)), (h_tape, .inl (cB, 940, .inl f_tape))] := hD
                          refine lv_aload_n hx hb dX10_next_275 rfl (lv_at hl 3 rfl) ?_
                          refine lv_dup hx hb dX10_next_276 rfl ?_
                          have n181 : F180 13 = .int u41 := (get_ne eF180 (by decide) n148)
                          refine get_f (D := D) (ci := 10) (v := .int u41) (C := RX10) (T := TX10) (N := 67) hx hb hw inAX10 hown hK hP 0 rfl rfl 13 (by decide) (hw _ q_1274) (fun _ h9 => h9) n181 dX10_next_277 ?_
                          refine lv_iconst (v := 1) hx hb dX10_next_280 (by decide) ?_
                          refine lv_iadd hx hb dX10_next_281 ?_
                          refine lv_topi (fun v182 ev182 => ?_)
                          have bv182 : v182.toInt = u41.toInt + 1 := by rw [ev182]; exact add_k rfl rfl k165 ⟨Int.le_refl _, Int.le_refl _⟩ (by decide)
                          have k183 : 1 ≤ v182.toInt ∧ v182.toInt ≤ 3 := add_r bv182 k165 ⟨Int.le_refl _, Int.le_refl _⟩ (by decide)
                          refine put_f (D := D) (ci := 10) (v := .int v182) (ty := .int) (C := RX10) (T := TX10) (N := 67) hx hb hw inAX10 tyX10 tyX10_ok nmX10 hown hK hP hD hS 0 rfl rfl 13 (by decide) (hw _ q_1274) (fun _ h9 => h9) rfl (by decide +kernel) rfl rfl dX10_next_282 (fun H locs F184 eF184 hP hD hS => ?_)
                          have hP : va_P D vwCl [(h0, .inr (10, vL 67 F184)), (h_tape, .inl (cB, 940, .inl f_tape))] H := hP
                          have hD : va_D A [(h0, .inr (10, vL 67 F184)), (h_tape, .inl (cB, 940, .inl f_tape))] := hD
                          refine lv_aload_n hx hb dX10_next_285 rfl (lv_at hl 3 rfl) ?_
                          refine lv_dup hx hb dX10_next_286 rfl ?_
                          have n185 : F180 4 = .int u40 := (get_ne eF180 (by decide) n170)
                          have n186 : F184 4 = .int u40 := (get_ne eF184 (by decide) n185)
                          refine get_f (D := D) (ci := 10) (v := .int u40) (C := RX10) (T := TX10) (N := 67) hx hb hw inAX10 hown hK hP 0 rfl rfl 4 (by decide) (hw _ q_1265) (fun _ h9 => h9) n186 dX10_next_287 ?_
                          refine lv_iconst (v := 1) hx hb dX10_next_290 (by decide) ?_
                          refine lv_iadd hx hb dX10_next_291 ?_
                          refine lv_topi (fun v187 ev187 => ?_)
                          have bv187 : v187.toInt = u40.toInt + 1 := by rw [ev187]; exact add_k rfl rfl k177 ⟨Int.le_refl _, Int.le_refl _⟩ (by decide)
                          have k188 : 3 ≤ v187.toInt ∧ v187.toInt ≤ 940 := add_r bv187 k177 ⟨Int.le_refl _, Int.le_refl _⟩ (by decide)
                          refine put_f (D := D) (ci := 10) (v := .int v187) (ty := .int) (C := RX10) (T := TX10) (N := 67) hx hb hw inAX10 tyX10 tyX10_ok nmX10 hown hK hP hD hS 0 rfl rfl 4 (by decide) (hw _ q_1265) (fun _ h9 => h9) rfl (by decide +kernel) rfl rfl dX10_next_292 (fun H locs F189 eF189 hP hD hS => ?_)
                          have hP : va_P D vwCl [(h0, .inr (10, vL 67 F189)), (h_tape, .inl (cB, 940, .inl f_tape))] H := hP
                          have hD : va_D A [(h0, .inr (10, vL 67 F189)), (h_tape, .inl (cB, 940, .inl f_tape))] := hD
                          refine lv_goto (tgt := 181) hx hb dX10_next_295 (by decide) ?_
                          have n190 : F189 13 = .int v182 := (get_ne eF189 (by decide) (get_eq eF184))
                          have n191 : F184 14 = .int v179 := (get_ne eF184 (by decide) (get_eq eF180))
                          have n192 : F189 14 = .int v179 := (get_ne eF189 (by decide) n191)
                          have n193 : F180 18 = .long u144 := (get_ne eF180 (by decide) i147)
                          have n194 : F184 18 = .long u144 := (get_ne eF184 (by decide) n193)
                          have n195 : F189 18 = .long u144 := (get_ne eF189 (by decide) n194)
                          exact ih (u139, F189, v187, v182, v179, u144) ⟨i141, (SAME.up eF189 (SAME.up eF184 (SAME.up eF180 (SAME.tr (SAME.tr SAME.rf i82 (by decide)) i146 (by decide)) (by decide)) (by decide)) (by decide)), (get_eq eF189), n190, n192, n195, (ir_wk k188 (by decide) (by decide)), (ir_wk k183 (by decide) (by decide)), (by show 0 ≤ v182.toInt ∧ v182.toInt ≤ v187.toInt ∧ x_p.toInt + v182.toInt ≤ v187.toInt ∧ (v182.toInt = 0 → v187.toInt = u2.toInt); omega), (by show u139.toInt = 1 → u33.toInt = 0 → (0 ≤ v179.toInt ∧ v179.toInt ≤ 999 ∧ (v182.toInt = 0 → v179.toInt = 0) ∧ (v182.toInt = 1 → v179.toInt ≤ 9) ∧ (v182.toInt = 2 → v179.toInt ≤ 99)); omega), (by show (x_token.toInt = 2 → 0 ≤ v179.toInt ∧ v179.toInt ≤ 999); omega)⟩ (by show (x_size.toInt - v187.toInt).toNat < (x_size.toInt - u40.toInt).toNat; omega) _ _ _ hP hD hS (lv_sub hl [0, 1, 2, 3] rfl)
                        · have hP : va_P D vwCl [(h0, .inr (10, vL 67 G143)), (h_tape, .inl (cB, 940, .inl f_tape))] H := hP
                          have hD : va_D A [(h0, .inr (10, vL 67 G143)), (h_tape, .inl (cB, 940, .inl f_tape))] := hD
                          refine W.widen (k := 0) (n := 0) (Nat.le_of_ble_eq_true rfl) (Nat.le_of_ble_eq_true rfl) ?_
                          refine lv_ci (y := v123) ev123.symm ?_
                          refine lv_iadd hx hb dX10_next_268 ?_
                          refine lv_topi (fun v196 ev196 => ?_)
                          refine lv_bipush (v := 48) hx hb dX10_next_269 (by decide) ?_
                          refine lv_isub hx hb dX10_next_271 ?_
                          refine lv_topi (fun v197 ev197 => ?_)
                          refine put_f (D := D) (ci := 10) (v := .int v197) (ty := .int) (C := RX10) (T := TX10) (N := 67) hx hb hw inAX10 tyX10 tyX10_ok nmX10 hown hK hP hD hS 0 rfl rfl 14 (by decide) (hw _ q_1275) (fun _ h9 => h9) rfl (by decide +kernel) rfl rfl dX10_next_272 (fun H locs F198 eF198 hP hD hS => ?_)
                          have hP : va_P D vwCl [(h0, .inr (10, vL 67 F198)), (h_tape, .inl (cB, 940, .inl f_tape))] H := hP
                          have hD : va_D A [(h0, .inr (10, vL 67 F198)), (h_tape, .inl (cB, 940, .inl f_tape))] := hD
                          refine lv_aload_n hx hb dX10_next_275 rfl (lv_at hl 3 rfl) ?_
                          refine lv_dup hx hb dX10_next_276 rfl ?_
                          have n199 : F198 13 = .int u41 := (get_ne eF198 (by decide) n148)
                          refine get_f (D := D) (ci := 10) (v := .int u41) (C := RX10) (T := TX10) (N := 67) hx hb hw inAX10 hown hK hP 0 rfl rfl 13 (by decide) (hw _ q_1274) (fun _ h9 => h9) n199 dX10_next_277 ?_
                          refine lv_iconst (v := 1) hx hb dX10_next_280 (by decide) ?_
                          refine lv_iadd hx hb dX10_next_281 ?_
                          refine lv_topi (fun v200 ev200 => ?_)
                          have bv200 : v200.toInt = u41.toInt + 1 := by rw [ev200]; exact add_k rfl rfl k165 ⟨Int.le_refl _, Int.le_refl _⟩ (by decide)
                          have k201 : 1 ≤ v200.toInt ∧ v200.toInt ≤ 3 := add_r bv200 k165 ⟨Int.le_refl _, Int.le_refl _⟩ (by decide)
                          refine put_f (D := D) (ci := 10) (v := .int v200) (ty := .int) (C := RX10) (T := TX10) (N := 67) hx hb hw inAX10 tyX10 tyX10_ok nmX10 hown hK hP hD hS 0 rfl rfl 13 (by decide) (hw _ q_1274) (fun _ h9 => h9) rfl (by decide +kernel) rfl rfl dX10_next_282 (fun H locs F202 eF202 hP hD hS => ?_)
                          have hP : va_P D vwCl [(h0, .inr (10, vL 67 F202)), (h_tape, .inl (cB, 940, .inl f_tape))] H := hP
                          have hD : va_D A [(h0, .inr (10, vL 67 F202)), (h_tape, .inl (cB, 940, .inl f_tape))] := hD
                          refine lv_aload_n hx hb dX10_next_285 rfl (lv_at hl 3 rfl) ?_
                          refine lv_dup hx hb dX10_next_286 rfl ?_
                          have n203 : F198 4 = .int u40 := (get_ne eF198 (by decide) n170)
                          have n204 : F202 4 = .int u40 := (get_ne eF202 (by decide) n203)
                          refine get_f (D := D) (ci := 10) (v := .int u40) (C := RX10) (T := TX10) (N := 67) hx hb hw inAX10 hown hK hP 0 rfl rfl 4 (by decide) (hw _ q_1265) (fun _ h9 => h9) n204 dX10_next_287 ?_
                          refine lv_iconst (v := 1) hx hb dX10_next_290 (by decide) ?_
                          refine lv_iadd hx hb dX10_next_291 ?_
                          refine lv_topi (fun v205 ev205 => ?_)
                          have bv205 : v205.toInt = u40.toInt + 1 := by rw [ev205]; exact add_k rfl rfl k125 ⟨Int.le_refl _, Int.le_refl _⟩ (by decide)
                          have k206 : 2 ≤ v205.toInt ∧ v205.toInt ≤ 940 := add_r bv205 k125 ⟨Int.le_refl _, Int.le_refl _⟩ (by decide)
                          refine put_f (D := D) (ci := 10) (v := .int v205) (ty := .int) (C := RX10) (T := TX10) (N := 67) hx hb hw inAX10 tyX10 tyX10_ok nmX10 hown hK hP hD hS 0 rfl rfl 4 (by decide) (hw _ q_1265) (fun _ h9 => h9) rfl (by decide +kernel) rfl rfl dX10_next_292 (fun H locs F207 eF207 hP hD hS => ?_)
                          have hP : va_P D vwCl [(h0, .inr (10, vL 67 F207)), (h_tape, .inl (cB, 940, .inl f_tape))] H := hP
                          have hD : va_D A [(h0, .inr (10, vL 67 F207)), (h_tape, .inl (cB, 940, .inl f_tape))] := hD
                          refine lv_goto (tgt := 181) hx hb dX10_next_295 (by decide) ?_
                          have n208 : F207 13 = .int v200 := (get_ne eF207 (by decide) (get_eq eF202))
                          have n209 : F202 14 = .int v197 := (get_ne eF202 (by decide) (get_eq eF198))
                          have n210 : F207 14 = .int v197 := (get_ne eF207 (by decide) n209)
                          have n211 : F198 18 = .long u144 := (get_ne eF198 (by decide) i147)
                          have n212 : F202 18 = .long u144 := (get_ne eF202 (by decide) n211)
                          have n213 : F207 18 = .long u144 := (get_ne eF207 (by decide) n212)
                          exact ih (u139, F207, v205, v200, v197, u144) ⟨i141, (SAME.up eF207 (SAME.up eF202 (SAME.up eF198 (SAME.tr (SAME.tr SAME.rf i82 (by decide)) i146 (by decide)) (by decide)) (by decide)) (by decide)), (get_eq eF207), n208, n210, n213, (ir_wk k206 (by decide) (by decide)), (ir_wk k201 (by decide) (by decide)), (by show 0 ≤ v200.toInt ∧ v200.toInt ≤ v205.toInt ∧ x_p.toInt + v200.toInt ≤ v205.toInt ∧ (v200.toInt = 0 → v205.toInt = u2.toInt); omega), (by show u139.toInt = 1 → u33.toInt = 0 → (0 ≤ v197.toInt ∧ v197.toInt ≤ 999 ∧ (v200.toInt = 0 → v197.toInt = 0) ∧ (v200.toInt = 1 → v197.toInt ≤ 9) ∧ (v200.toInt = 2 → v197.toInt ≤ 99)); omega), (by show (x_token.toInt = 2 → 0 ≤ v197.toInt ∧ v197.toInt ≤ 999); omega)⟩ (by show (x_size.toInt - v205.toInt).toNat < (x_size.toInt - u40.toInt).toNat; omega) _ _ _ hP hD hS (lv_sub hl [0, 1, 2, 3] rfl)
                    refine lv_aload_n hx hb dX10_next_222 rfl (lv_at hl 3 rfl) ?_
                    refine get_f (D := D) (ci := 10) (v := .int u41) (C := RX10) (T := TX10) (N := 67) hx hb hw inAX10 hown hK hP 0 rfl rfl 13 (by decide) (hw _ q_1274) (fun _ h9 => h9) i84 dX10_next_223 ?_
                    refine lv_bipush (v := 7) hx hb dX10_next_226 (by decide) ?_
                    refine lv_icmp_ge (tgt := 248) hx hb dX10_next_228 (by decide) (fun c214 => ?_) (fun c214 => ?_)
                    · have dc214 : 7 ≤ u41.toInt := le_i (a := 7) (b := u41.toInt) rfl rfl c214
                      have k215 : 7 ≤ u41.toInt ∧ u41.toInt ≤ 940 := ⟨Int.le_trans (Int.le_refl _) dc214, i88.2⟩
                      exact cut145 G39 u43 SAME.rf i86 _ _ _ hP hD hS (lv_sub hl [0, 1, 2, 3] rfl)
                    · have dc214 : u41.toInt < 7 := nle_i (a := 7) (b := u41.toInt) rfl rfl c214
                      have k216 : 0 ≤ u41.toInt ∧ u41.toInt ≤ 6 := ⟨i88.1, up_lt dc214 (Int.le_refl _) (by decide)⟩
                      refine lv_aload_n hx hb dX10_next_231 rfl (lv_at hl 3 rfl) ?_
                      refine lv_aload_n hx hb dX10_next_232 rfl (lv_at hl 3 rfl) ?_
                      refine get_f (D := D) (ci := 10) (v := .long u43) (C := RX10) (T := TX10) (N := 67) hx hb hw inAX10 hown hK hP 0 rfl rfl 18 (by decide) (hw _ q_1279) (fun _ h9 => h9) i86 dX10_next_233 ?_
                      refine lv_bipush (v := 8) hx hb dX10_next_236 (by decide) ?_
                      obtain ⟨v217, ev217⟩ : ∃ z : Int64, (u43 : Int64) <<< ((8 : Int32).toInt64 &&& 63) = z := ⟨_, rfl⟩
                      refine lv_lshl (v := v217) hx hb dX10_next_238 ev217 ?_
                      refine lv_aload_n hx hb dX10_next_239 rfl (lv_at hl 3 rfl) ?_
                      refine call_Vi (wr := []) (As := []) (rest := [.long v217, .ref h0]) hx hb hml hown hw (m_X10_peek l D cI cJ cB cP cM cZ h0 h_tape G39 x_size u40 f_tape _ n94 n97 (ir_wk k126 (by decide) (by decide)) i83 (ir_wk k125 (by decide) (by decide))) wV_X10_169_X10_peek dX10_next_240 hK hP hD hS hA [0, 1] [] rfl rfl (by decide) (by decide) (by decide) 0 10 rfl rfl GG.fb hG.at hl.1 rfl (Nat.le_of_ble_eq_true rfl) ⟨(Nat.le_of_ble_eq_true rfl), (Nat.le_of_ble_eq_true rfl)⟩ ⟨(Nat.le_of_ble_eq_true rfl), (Nat.le_of_ble_eq_true rfl)⟩ (fun r218 u H locs hp hP hD hS => ?_)
                      rcases hp with ⟨t219, rfl, rfl⟩ | ⟨t220, t221, rfl, rfl⟩
                      · have hP : va_P D vwCl [(h0, .inr (10, vL 67 G39)), (h_tape, .inl (cB, 940, .inl f_tape))] H := hP
                        have hD : va_D A [(h0, .inr (10, vL 67 G39)), (h_tape, .inl (cB, 940, .inl f_tape))] := hD
                        refine W.widen (k := 0) (n := 0) (Nat.le_of_ble_eq_true rfl) (Nat.le_of_ble_eq_true rfl) ?_
                        have k223 : 2 ≤ x_size.toInt ∧ x_size.toInt ≤ 939 := ⟨k126.1, Int.le_trans t219 k125.2⟩
                        have k224 : 2 ≤ u40.toInt ∧ u40.toInt ≤ 939 := ⟨Int.le_trans k126.1 t219, k125.2⟩
                        obtain ⟨v225, ev225⟩ : ∃ z : Int64, ((-1) : Int32).toInt64 = z := ⟨_, rfl⟩
                        refine lv_i2l (v := v225) hx hb dX10_next_243 ev225 ?_
                        refine lv_lor hx hb dX10_next_244 ?_
                        refine lv_topl (fun v226 ev226 => ?_)
                        refine put_f (D := D) (ci := 10) (v := .long v226) (ty := .long) (C := RX10) (T := TX10) (N := 67) hx hb hw inAX10 tyX10 tyX10_ok nmX10 hown hK hP hD hS 0 rfl rfl 18 (by decide) (hw _ q_1279) (fun _ h9 => h9) rfl (by decide +kernel) rfl rfl dX10_next_245 (fun H locs F227 eF227 hP hD hS => ?_)
                        have hP : va_P D vwCl [(h0, .inr (10, vL 67 F227)), (h_tape, .inl (cB, 940, .inl f_tape))] H := hP
                        have hD : va_D A [(h0, .inr (10, vL 67 F227)), (h_tape, .inl (cB, 940, .inl f_tape))] := hD
                        exact cut145 F227 v226 (SAME.up eF227 SAME.rf (by decide)) (get_eq eF227) _ _ _ hP hD hS (lv_sub hl [0, 1, 2, 3] rfl)
                      · have hP : va_P D vwCl [(h0, .inr (10, vL 67 G39)), (h_tape, .inl (cB, 940, .inl f_tape))] H := hP
                        have hD : va_D A [(h0, .inr (10, vL 67 G39)), (h_tape, .inl (cB, 940, .inl f_tape))] := hD
                        refine W.widen (k := 0) (n := 0) (Nat.le_of_ble_eq_true rfl) (Nat.le_of_ble_eq_true rfl) ?_
                        refine lv_ci (y := v123) ev123.symm ?_
                        obtain ⟨v228, ev228⟩ : ∃ z : Int64, (v123 : Int32).toInt64 = z := ⟨_, rfl⟩
                        refine lv_i2l (v := v228) hx hb dX10_next_243 ev228 ?_
                        refine lv_lor hx hb dX10_next_244 ?_
                        refine lv_topl (fun v229 ev229 => ?_)
                        refine put_f (D := D) (ci := 10) (v := .long v229) (ty := .long) (C := RX10) (T := TX10) (N := 67) hx hb hw inAX10 tyX10 tyX10_ok nmX10 hown hK hP hD hS 0 rfl rfl 18 (by decide) (hw _ q_1279) (fun _ h9 => h9) rfl (by decide +kernel) rfl rfl dX10_next_245 (fun H locs F230 eF230 hP hD hS => ?_)
                        have hP : va_P D vwCl [(h0, .inr (10, vL 67 F230)), (h_tape, .inl (cB, 940, .inl f_tape))] H := hP
                        have hD : va_D A [(h0, .inr (10, vL 67 F230)), (h_tape, .inl (cB, 940, .inl f_tape))] := hD
                        exact cut145 F230 v229 (SAME.up eF230 SAME.rf (by decide)) (get_eq eF230) _ _ _ hP hD hS (lv_sub hl [0, 1, 2, 3] rfl)
                  refine lv_iload_n hx hb dX10_next_201 rfl (lv_at hl 0 rfl) ?_
                  refine lv_if_eq (tgt := 220) hx hb dX10_next_202 (by decide) (fun c231 => ?_) (fun c231 => ?_)
                  · have dc231 : u38.toInt = 0 := eq_i (a := u38.toInt) (b := 0) rfl rfl c231
                    have k232 : 0 ≤ u38.toInt ∧ u38.toInt ≤ 0 := ⟨i81.1, Int.le_trans (Int.le_of_eq dc231) (Int.le_refl _)⟩
                    refine lv_iconst (v := 0) hx hb dX10_next_220 (by decide) ?_
                    refine lv_istore_n (lv' := [(3, .int 0), (2, .int u33), (1, .int v28), (0, .ref h0)]) hx hb dX10_next_221 rfl hl (by decide) rfl (fun ls hl => ?_)
                    exact cut140 0 (show 0 ≤ (0 : Int32).toInt ∧ (0 : Int32).toInt ≤ 1 by decide) (by show (0 = 1 → u33.toInt = 0 → (48 ≤ v123.toInt ∧ v123.toInt ≤ 57 ∧ 0 ≤ u42.toInt ∧ u42.toInt ≤ 999 ∧ (u41.toInt = 0 → u42.toInt = 0) ∧ (u41.toInt = 1 → u42.toInt ≤ 9) ∧ (u41.toInt = 2 → u42.toInt ≤ 99))); omega) _ _ _ hP hD hS (lv_sub hl [0, 1, 2, 3] rfl)
                  · have dc231 : u38.toInt ≠ 0 := ne_i (a := u38.toInt) (b := 0) rfl rfl c231
                    have k233 : 1 ≤ u38.toInt ∧ u38.toInt ≤ 1 := ⟨ne_lo dc231 i81.1 ⟨Int.le_refl _, Int.le_refl _⟩ (by decide), i81.2⟩
                    refine lv_aload_n hx hb dX10_next_205 rfl (lv_at hl 3 rfl) ?_
                    refine call_Vi (wr := []) (As := []) (rest := []) hx hb hml hown hw (m_X10_peek l D cI cJ cB cP cM cZ h0 h_tape G39 x_size u40 f_tape _ n94 n97 (ir_wk k126 (by decide) (by decide)) i83 (ir_wk k125 (by decide) (by decide))) wV_X10_169_X10_peek dX10_next_206 hK hP hD hS hA [0, 1] [] rfl rfl (by decide) (by decide) (by decide) 0 10 rfl rfl GG.fb hG.at hl.1 rfl (Nat.le_of_ble_eq_true rfl) ⟨(Nat.le_of_ble_eq_true rfl), (Nat.le_of_ble_eq_true rfl)⟩ ⟨(Nat.le_of_ble_eq_true rfl), (Nat.le_of_ble_eq_true rfl)⟩ (fun r234 u H locs hp hP hD hS => ?_)
                    rcases hp with ⟨t235, rfl, rfl⟩ | ⟨t236, t237, rfl, rfl⟩
                    · have hP : va_P D vwCl [(h0, .inr (10, vL 67 G39)), (h_tape, .inl (cB, 940, .inl f_tape))] H := hP
                      have hD : va_D A [(h0, .inr (10, vL 67 G39)), (h_tape, .inl (cB, 940, .inl f_tape))] := hD
                      refine W.widen (k := 0) (n := 0) (Nat.le_of_ble_eq_true rfl) (Nat.le_of_ble_eq_true rfl) ?_
                      have k239 : 2 ≤ x_size.toInt ∧ x_size.toInt ≤ 939 := ⟨k126.1, Int.le_trans t235 k125.2⟩
                      have k240 : 2 ≤ u40.toInt ∧ u40.toInt ≤ 939 := ⟨Int.le_trans k126.1 t235, k125.2⟩
                      refine call_Si (wr := [(h0, .inr (10, vL 67 G39)), (h_tape, .inl (cB, 940, .inl f_tape))]) (As := [.int (-1)]) (rest := []) hx hb hml hown hw (m_X10_isSmall l D cI cJ cB cP cM cZ (-1) _ ) wS_X10_182_X10_isSmall dX10_next_209 hP hD hS hA [] [0, 1] rfl rfl (by decide) (by decide) (by decide) GG.fb hG.at hl.1 rfl (Nat.le_of_ble_eq_true rfl) ⟨(Nat.le_of_ble_eq_true rfl), (Nat.le_of_ble_eq_true rfl)⟩ ⟨(Nat.le_of_ble_eq_true rfl), (Nat.le_of_ble_eq_true rfl)⟩ (fun r241 u H locs hp hP hD hS => ?_)
                      rcases hp with ⟨t242, rfl, rfl⟩ | ⟨t243, t244, rfl, rfl⟩ | ⟨t245, t246, rfl, rfl⟩
                      · have hP : va_P D vwCl [(h0, .inr (10, vL 67 G39)), (h_tape, .inl (cB, 940, .inl f_tape))] H := hP
                        have hD : va_D A [(h0, .inr (10, vL 67 G39)), (h_tape, .inl (cB, 940, .inl f_tape))] := hD
                        refine W.widen (k := 0) (n := 0) (Nat.le_of_ble_eq_true rfl) (Nat.le_of_ble_eq_true rfl) ?_
                        refine lv_iload_n hx hb dX10_next_212 rfl (lv_at hl 1 rfl) ?_
                        refine lv_icmp_ne (tgt := 220) hx hb dX10_next_213 (by decide) (fun c248 => ?_) (fun c248 => ?_)
                        · have dc248 : 0 ≠ u33.toInt := ne_i (a := 0) (b := u33.toInt) rfl rfl c248
                          have k249 : 1 ≤ u33.toInt ∧ u33.toInt ≤ 1 := ⟨ne_lo dc248.symm i35.1 ⟨Int.le_refl _, Int.le_refl _⟩ (by decide), i35.2⟩
                          refine lv_iconst (v := 0) hx hb dX10_next_220 (by decide) ?_
                          refine lv_istore_n (lv' := [(3, .int 0), (2, .int u33), (1, .int v28), (0, .ref h0)]) hx hb dX10_next_221 rfl hl (by decide) rfl (fun ls hl => ?_)
                          exact cut140 0 (show 0 ≤ (0 : Int32).toInt ∧ (0 : Int32).toInt ≤ 1 by decide) (by show (0 = 1 → u33.toInt = 0 → (48 ≤ v123.toInt ∧ v123.toInt ≤ 57 ∧ 0 ≤ u42.toInt ∧ u42.toInt ≤ 999 ∧ (u41.toInt = 0 → u42.toInt = 0) ∧ (u41.toInt = 1 → u42.toInt ≤ 9) ∧ (u41.toInt = 2 → u42.toInt ≤ 99))); omega) _ _ _ hP hD hS (lv_sub hl [0, 1, 2, 3] rfl)
                        · have dc248 : 0 = u33.toInt := eq_i (a := 0) (b := u33.toInt) rfl rfl c248
                          have k250 : 0 ≤ u33.toInt ∧ u33.toInt ≤ 0 := ⟨i35.1, Int.le_trans (Int.le_of_eq dc248.symm) (Int.le_refl _)⟩
                          refine lv_iconst (v := 1) hx hb dX10_next_216 (by decide) ?_
                          refine lv_goto (tgt := 221) hx hb dX10_next_217 (by decide) ?_
                          refine lv_istore_n (lv' := [(3, .int 1), (2, .int u33), (1, .int v28), (0, .ref h0)]) hx hb dX10_next_221 rfl hl (by decide) rfl (fun ls hl => ?_)
                          exact cut140 1 (show 0 ≤ (1 : Int32).toInt ∧ (1 : Int32).toInt ≤ 1 by decide) (by show (1 = 1 → u33.toInt = 0 → (48 ≤ v123.toInt ∧ v123.toInt ≤ 57 ∧ 0 ≤ u42.toInt ∧ u42.toInt ≤ 999 ∧ (u41.toInt = 0 → u42.toInt = 0) ∧ (u41.toInt = 1 → u42.toInt ≤ 9) ∧ (u41.toInt = 2 → u42.toInt ≤ 99))); omega) _ _ _ hP hD hS (lv_sub hl [0, 1, 2, 3] rfl)
                      · have hP : va_P D vwCl [(h0, .inr (10, vL 67 G39)), (h_tape, .inl (cB, 940, .inl f_tape))] H := hP
                        have hD : va_D A [(h0, .inr (10, vL 67 G39)), (h_tape, .inl (cB, 940, .inl f_tape))] := hD
                        refine W.widen (k := 0) (n := 0) (Nat.le_of_ble_eq_true rfl) (Nat.le_of_ble_eq_true rfl) ?_
                        exact absurd t243 (by decide)
                      · have hP : va_P D vwCl [(h0, .inr (10, vL 67 G39)), (h_tape, .inl (cB, 940, .inl f_tape))] H := hP
                        have hD : va_D A [(h0, .inr (10, vL 67 G39)), (h_tape, .inl (cB, 940, .inl f_tape))] := hD
                        refine W.widen (k := 0) (n := 0) (Nat.le_of_ble_eq_true rfl) (Nat.le_of_ble_eq_true rfl) ?_
                        exact absurd t245 (by decide)
                    · have hP : va_P D vwCl [(h0, .inr (10, vL 67 G39)), (h_tape, .inl (cB, 940, .inl f_tape))] H := hP
                      have hD : va_D A [(h0, .inr (10, vL 67 G39)), (h_tape, .inl (cB, 940, .inl f_tape))] := hD
                      refine W.widen (k := 0) (n := 0) (Nat.le_of_ble_eq_true rfl) (Nat.le_of_ble_eq_true rfl) ?_
                      refine lv_ci (y := v123) ev123.symm ?_
                      refine call_Si (wr := [(h0, .inr (10, vL 67 G39)), (h_tape, .inl (cB, 940, .inl f_tape))]) (As := [.int v123]) (rest := []) hx hb hml hown hw (m_X10_isSmall l D cI cJ cB cP cM cZ v123 _ ) wS_X10_182_X10_isSmall dX10_next_209 hP hD hS hA [] [0, 1] rfl rfl (by decide) (by decide) (by decide) GG.fb hG.at hl.1 rfl (Nat.le_of_ble_eq_true rfl) ⟨(Nat.le_of_ble_eq_true rfl), (Nat.le_of_ble_eq_true rfl)⟩ ⟨(Nat.le_of_ble_eq_true rfl), (Nat.le_of_ble_eq_true rfl)⟩ (fun r251 u H locs hp hP hD hS => ?_)
                      rcases hp with ⟨t252, rfl, rfl⟩ | ⟨t253, t254, rfl, rfl⟩ | ⟨t255, t256, rfl, rfl⟩
                      · have hP : va_P D vwCl [(h0, .inr (10, vL 67 G39)), (h_tape, .inl (cB, 940, .inl f_tape))] H := hP
                        have hD : va_D A [(h0, .inr (10, vL 67 G39)), (h_tape, .inl (cB, 940, .inl f_tape))] := hD
                        refine W.widen (k := 0) (n := 0) (Nat.le_of_ble_eq_true rfl) (Nat.le_of_ble_eq_true rfl) ?_
                        refine lv_iload_n hx hb dX10_next_212 rfl (lv_at hl 1 rfl) ?_
                        refine lv_icmp_ne (tgt := 220) hx hb dX10_next_213 (by decide) (fun c258 => ?_) (fun c258 => ?_)
                        · have dc258 : 0 ≠ u33.toInt := ne_i (a := 0) (b := u33.toInt) rfl rfl c258
                          have k259 : 1 ≤ u33.toInt ∧ u33.toInt ≤ 1 := ⟨ne_lo dc258.symm i35.1 ⟨Int.le_refl _, Int.le_refl _⟩ (by decide), i35.2⟩
                          refine lv_iconst (v := 0) hx hb dX10_next_220 (by decide) ?_
                          refine lv_istore_n (lv' := [(3, .int 0), (2, .int u33), (1, .int v28), (0, .ref h0)]) hx hb dX10_next_221 rfl hl (by decide) rfl (fun ls hl => ?_)
                          exact cut140 0 (show 0 ≤ (0 : Int32).toInt ∧ (0 : Int32).toInt ≤ 1 by decide) (by show (0 = 1 → u33.toInt = 0 → (48 ≤ v123.toInt ∧ v123.toInt ≤ 57 ∧ 0 ≤ u42.toInt ∧ u42.toInt ≤ 999 ∧ (u41.toInt = 0 → u42.toInt = 0) ∧ (u41.toInt = 1 → u42.toInt ≤ 9) ∧ (u41.toInt = 2 → u42.toInt ≤ 99))); omega) _ _ _ hP hD hS (lv_sub hl [0, 1, 2, 3] rfl)
                        · have dc258 : 0 = u33.toInt := eq_i (a := 0) (b := u33.toInt) rfl rfl c258
                          have k260 : 0 ≤ u33.toInt ∧ u33.toInt ≤ 0 := ⟨i35.1, Int.le_trans (Int.le_of_eq dc258.symm) (Int.le_refl _)⟩
                          refine lv_iconst (v := 1) hx hb dX10_next_216 (by decide) ?_
                          refine lv_goto (tgt := 221) hx hb dX10_next_217 (by decide) ?_
                          refine lv_istore_n (lv' := [(3, .int 1), (2, .int u33), (1, .int v28), (0, .ref h0)]) hx hb dX10_next_221 rfl hl (by decide) rfl (fun ls hl => ?_)
                          exact cut140 1 (show 0 ≤ (1 : Int32).toInt ∧ (1 : Int32).toInt ≤ 1 by decide) (by show (1 = 1 → u33.toInt = 0 → (48 ≤ v123.toInt ∧ v123.toInt ≤ 57 ∧ 0 ≤ u42.toInt ∧ u42.toInt ≤ 999 ∧ (u41.toInt = 0 → u42.toInt = 0) ∧ (u41.toInt = 1 → u42.toInt ≤ 9) ∧ (u41.toInt = 2 → u42.toInt ≤ 99))); omega) _ _ _ hP hD hS (lv_sub hl [0, 1, 2, 3] rfl)
                      · have hP : va_P D vwCl [(h0, .inr (10, vL 67 G39)), (h_tape, .inl (cB, 940, .inl f_tape))] H := hP
                        have hD : va_D A [(h0, .inr (10, vL 67 G39)), (h_tape, .inl (cB, 940, .inl f_tape))] := hD
                        refine W.widen (k := 0) (n := 0) (Nat.le_of_ble_eq_true rfl) (Nat.le_of_ble_eq_true rfl) ?_
                        exact False.elim (bad_le t253 (Int.le_refl _) k138.2 (by decide))
                      · have hP : va_P D vwCl [(h0, .inr (10, vL 67 G39)), (h_tape, .inl (cB, 940, .inl f_tape))] H := hP
                        have hD : va_D A [(h0, .inr (10, vL 67 G39)), (h_tape, .inl (cB, 940, .inl f_tape))] := hD
                        refine W.widen (k := 0) (n := 0) (Nat.le_of_ble_eq_true rfl) (Nat.le_of_ble_eq_true rfl) ?_
                        exact False.elim (bad_le t255 (Int.le_refl _) k138.2 (by decide))
            · have hP : va_P D vwCl [(h0, .inr (10, vL 67 G39)), (h_tape, .inl (cB, 940, .inl f_tape))] H := hP
              have hD : va_D A [(h0, .inr (10, vL 67 G39)), (h_tape, .inl (cB, 940, .inl f_tape))] := hD
              refine W.widen (k := 0) (n := 0) (Nat.le_of_ble_eq_true rfl) (Nat.le_of_ble_eq_true rfl) ?_
              exact absurd t106 (by decide)
            · have hP : va_P D vwCl [(h0, .inr (10, vL 67 G39)), (h_tape, .inl (cB, 940, .inl f_tape))] H := hP
              have hD : va_D A [(h0, .inr (10, vL 67 G39)), (h_tape, .inl (cB, 940, .inl f_tape))] := hD
              refine W.widen (k := 0) (n := 0) (Nat.le_of_ble_eq_true rfl) (Nat.le_of_ble_eq_true rfl) ?_
              exact absurd t108 (by decide)
          · have hP : va_P D vwCl [(h0, .inr (10, vL 67 G39)), (h_tape, .inl (cB, 940, .inl f_tape))] H := hP
            have hD : va_D A [(h0, .inr (10, vL 67 G39)), (h_tape, .inl (cB, 940, .inl f_tape))] := hD
            refine W.widen (k := 0) (n := 0) (Nat.le_of_ble_eq_true rfl) (Nat.le_of_ble_eq_true rfl) ?_
            refine lv_topi (fun v261 ev261 => ?_)
            have k262 : 0 ≤ v261.toInt ∧ v261.toInt ≤ 255 := by rw [ev261]; exact t100
            have k263 : 0 ≤ u40.toInt ∧ u40.toInt ≤ 939 := ⟨i87.1, up_lt t101 k31.2 (by decide)⟩
            refine call_Si (wr := [(h0, .inr (10, vL 67 G39)), (h_tape, .inl (cB, 940, .inl f_tape))]) (As := [.int v261]) (rest := []) hx hb hml hown hw (m_X10_isSmall l D cI cJ cB cP cM cZ v261 _ ) wS_X10_182_X10_isSmall dX10_next_185 hP hD hS hA [] [0, 1] rfl rfl (by decide) (by decide) (by decide) GG.fb hG.at hl.1 rfl (Nat.le_of_ble_eq_true rfl) ⟨(Nat.le_of_ble_eq_true rfl), (Nat.le_of_ble_eq_true rfl)⟩ ⟨(Nat.le_of_ble_eq_true rfl), (Nat.le_of_ble_eq_true rfl)⟩ (fun r264 u H locs hp hP hD hS => ?_)
            rcases hp with ⟨t265, rfl, rfl⟩ | ⟨t266, t267, rfl, rfl⟩ | ⟨t268, t269, rfl, rfl⟩
            · have hP : va_P D vwCl [(h0, .inr (10, vL 67 G39)), (h_tape, .inl (cB, 940, .inl f_tape))] H := hP
              have hD : va_D A [(h0, .inr (10, vL 67 G39)), (h_tape, .inl (cB, 940, .inl f_tape))] := hD
              refine W.widen (k := 0) (n := 0) (Nat.le_of_ble_eq_true rfl) (Nat.le_of_ble_eq_true rfl) ?_
              have k271 : 0 ≤ v261.toInt ∧ v261.toInt ≤ 96 := ⟨k262.1, up_lt t265 (Int.le_refl _) (by decide)⟩
              refine lv_if_ne (tgt := 201) hx hb dX10_next_188 (by decide) (fun g => absurd (by decide) g) (fun _ => ?_)
              refine lv_aload_n hx hb dX10_next_191 rfl (lv_at hl 3 rfl) ?_
              refine call_Vi (wr := []) (As := []) (rest := []) hx hb hml hown hw (m_X10_peek l D cI cJ cB cP cM cZ h0 h_tape G39 x_size u40 f_tape _ n94 n97 (ir_wk k31 (by decide) (by decide)) i83 (ir_wk k263 (by decide) (by decide))) wV_X10_169_X10_peek dX10_next_192 hK hP hD hS hA [0, 1] [] rfl rfl (by decide) (by decide) (by decide) 0 10 rfl rfl GG.fb hG.at hl.1 rfl (Nat.le_of_ble_eq_true rfl) ⟨(Nat.le_of_ble_eq_true rfl), (Nat.le_of_ble_eq_true rfl)⟩ ⟨(Nat.le_of_ble_eq_true rfl), (Nat.le_of_ble_eq_true rfl)⟩ (fun r272 u H locs hp hP hD hS => ?_)
              rcases hp with ⟨t273, rfl, rfl⟩ | ⟨t274, t275, rfl, rfl⟩
              · have hP : va_P D vwCl [(h0, .inr (10, vL 67 G39)), (h_tape, .inl (cB, 940, .inl f_tape))] H := hP
                have hD : va_D A [(h0, .inr (10, vL 67 G39)), (h_tape, .inl (cB, 940, .inl f_tape))] := hD
                refine W.widen (k := 0) (n := 0) (Nat.le_of_ble_eq_true rfl) (Nat.le_of_ble_eq_true rfl) ?_
                have k277 : 1 ≤ x_size.toInt ∧ x_size.toInt ≤ 939 := ⟨k31.1, Int.le_trans t273 k263.2⟩
                have k278 : 1 ≤ u40.toInt ∧ u40.toInt ≤ 939 := ⟨Int.le_trans k31.1 t273, k263.2⟩
                refine call_Si (wr := [(h0, .inr (10, vL 67 G39)), (h_tape, .inl (cB, 940, .inl f_tape))]) (As := [.int (-1)]) (rest := []) hx hb hml hown hw (m_X10_isDigit l D cI cJ cB cP cM cZ (-1) _ ) wS_X10_186_X10_isDigit dX10_next_195 hP hD hS hA [] [0, 1] rfl rfl (by decide) (by decide) (by decide) GG.fb hG.at hl.1 rfl (Nat.le_of_ble_eq_true rfl) ⟨(Nat.le_of_ble_eq_true rfl), (Nat.le_of_ble_eq_true rfl)⟩ ⟨(Nat.le_of_ble_eq_true rfl), (Nat.le_of_ble_eq_true rfl)⟩ (fun r279 u H locs hp hP hD hS => ?_)
                have zlm1 : ((-1) : Int32).toInt = (-1) := by decide
                rcases hp with ⟨t280, rfl, rfl⟩ | ⟨t281, t282, rfl, rfl⟩ | ⟨t283, t284, rfl, rfl⟩
                · have hP : va_P D vwCl [(h0, .inr (10, vL 67 G39)), (h_tape, .inl (cB, 940, .inl f_tape))] H := hP
                  have hD : va_D A [(h0, .inr (10, vL 67 G39)), (h_tape, .inl (cB, 940, .inl f_tape))] := hD
                  refine W.widen (k := 0) (n := 0) (Nat.le_of_ble_eq_true rfl) (Nat.le_of_ble_eq_true rfl) ?_
                  refine lv_if_eq (tgt := 298) hx hb dX10_next_198 (by decide) (fun _ => ?_) (fun g => absurd (by decide) g)
                  have hgv28 : v28.toInt = (((f_tape u2.toNatClampNeg) &&& 255)).toInt := by rw [ev28]
                  have hgv261 : v261.toInt = (((f_tape u40.toNatClampNeg) &&& 255)).toInt := by rw [ev261]
                  have hfst : u40.toInt = u2.toInt → (f_tape u40.toNatClampNeg &&& 255).toInt = (f_tape u2.toNatClampNeg &&& 255).toInt := fun h9 => by rw [Int32.toInt_inj.mp h9]
                  exact cut44 u38 G39 u40 u41 u42 u43 i81 (SAME.tr SAME.rf i82 (by decide)) i83 i84 i85 i86 (ir_wk k278 (by decide) (by decide)) i88 (by show 0 ≤ u41.toInt ∧ u41.toInt ≤ u40.toInt ∧ x_p.toInt + u41.toInt ≤ u40.toInt ∧ (u41.toInt = 0 → u40.toInt = u2.toInt); omega) (by show u38.toInt = 1 → u33.toInt = 0 → (0 ≤ u42.toInt ∧ u42.toInt ≤ 999 ∧ (u41.toInt = 0 → u42.toInt = 0) ∧ (u41.toInt = 1 → u42.toInt ≤ 9) ∧ (u41.toInt = 2 → u42.toInt ≤ 99)); omega) (by show (x_token.toInt = 2 → 0 ≤ u42.toInt ∧ u42.toInt ≤ 999); omega) (by show 1 ≤ u41.toInt; omega) _ _ _ hP hD hS (lv_sub hl [0, 1, 2, 3] rfl)
                · have hP : va_P D vwCl [(h0, .inr (10, vL 67 G39)), (h_tape, .inl (cB, 940, .inl f_tape))] H := hP
                  have hD : va_D A [(h0, .inr (10, vL 67 G39)), (h_tape, .inl (cB, 940, .inl f_tape))] := hD
                  refine W.widen (k := 0) (n := 0) (Nat.le_of_ble_eq_true rfl) (Nat.le_of_ble_eq_true rfl) ?_
                  exact absurd t281 (by decide)
                · have hP : va_P D vwCl [(h0, .inr (10, vL 67 G39)), (h_tape, .inl (cB, 940, .inl f_tape))] H := hP
                  have hD : va_D A [(h0, .inr (10, vL 67 G39)), (h_tape, .inl (cB, 940, .inl f_tape))] := hD
                  refine W.widen (k := 0) (n := 0) (Nat.le_of_ble_eq_true rfl) (Nat.le_of_ble_eq_true rfl) ?_
                  exact absurd t283 (by decide)
              · have hP : va_P D vwCl [(h0, .inr (10, vL 67 G39)), (h_tape, .inl (cB, 940, .inl f_tape))] H := hP
                have hD : va_D A [(h0, .inr (10, vL 67 G39)), (h_tape, .inl (cB, 940, .inl f_tape))] := hD
                refine W.widen (k := 0) (n := 0) (Nat.le_of_ble_eq_true rfl) (Nat.le_of_ble_eq_true rfl) ?_
                refine lv_ci (y := v261) ev261.symm ?_
                refine call_Si (wr := [(h0, .inr (10, vL 67 G39)), (h_tape, .inl (cB, 940, .inl f_tape))]) (As := [.int v261]) (rest := []) hx hb hml hown hw (m_X10_isDigit l D cI cJ cB cP cM cZ v261 _ ) wS_X10_186_X10_isDigit dX10_next_195 hP hD hS hA [] [0, 1] rfl rfl (by decide) (by decide) (by decide) GG.fb hG.at hl.1 rfl (Nat.le_of_ble_eq_true rfl) ⟨(Nat.le_of_ble_eq_true rfl), (Nat.le_of_ble_eq_true rfl)⟩ ⟨(Nat.le_of_ble_eq_true rfl), (Nat.le_of_ble_eq_true rfl)⟩ (fun r286 u H locs hp hP hD hS => ?_)
                rcases hp with ⟨t287, rfl, rfl⟩ | ⟨t288, t289, rfl, rfl⟩ | ⟨t290, t291, rfl, rfl⟩
                · have hP : va_P D vwCl [(h0, .inr (10, vL 67 G39)), (h_tape, .inl (cB, 940, .inl f_tape))] H := hP
                  have hD : va_D A [(h0, .inr (10, vL 67 G39)), (h_tape, .inl (cB, 940, .inl f_tape))] := hD
                  refine W.widen (k := 0) (n := 0) (Nat.le_of_ble_eq_true rfl) (Nat.le_of_ble_eq_true rfl) ?_
                  have k293 : 0 ≤ v261.toInt ∧ v261.toInt ≤ 47 := ⟨k271.1, up_lt t287 (Int.le_refl _) (by decide)⟩
                  refine lv_if_eq (tgt := 298) hx hb dX10_next_198 (by decide) (fun _ => ?_) (fun g => absurd (by decide) g)
                  have hgv28 : v28.toInt = (((f_tape u2.toNatClampNeg) &&& 255)).toInt := by rw [ev28]
                  have hgv261 : v261.toInt = (((f_tape u40.toNatClampNeg) &&& 255)).toInt := by rw [ev261]
                  have hfst : u40.toInt = u2.toInt → (f_tape u40.toNatClampNeg &&& 255).toInt = (f_tape u2.toNatClampNeg &&& 255).toInt := fun h9 => by rw [Int32.toInt_inj.mp h9]
                  exact cut44 u38 G39 u40 u41 u42 u43 i81 (SAME.tr SAME.rf i82 (by decide)) i83 i84 i85 i86 (ir_wk k263 (by decide) (by decide)) i88 (by show 0 ≤ u41.toInt ∧ u41.toInt ≤ u40.toInt ∧ x_p.toInt + u41.toInt ≤ u40.toInt ∧ (u41.toInt = 0 → u40.toInt = u2.toInt); omega) (by show u38.toInt = 1 → u33.toInt = 0 → (0 ≤ u42.toInt ∧ u42.toInt ≤ 999 ∧ (u41.toInt = 0 → u42.toInt = 0) ∧ (u41.toInt = 1 → u42.toInt ≤ 9) ∧ (u41.toInt = 2 → u42.toInt ≤ 99)); omega) (by show (x_token.toInt = 2 → 0 ≤ u42.toInt ∧ u42.toInt ≤ 999); omega) (by show 1 ≤ u41.toInt; omega) _ _ _ hP hD hS (lv_sub hl [0, 1, 2, 3] rfl)
                · have hP : va_P D vwCl [(h0, .inr (10, vL 67 G39)), (h_tape, .inl (cB, 940, .inl f_tape))] H := hP
                  have hD : va_D A [(h0, .inr (10, vL 67 G39)), (h_tape, .inl (cB, 940, .inl f_tape))] := hD
                  refine W.widen (k := 0) (n := 0) (Nat.le_of_ble_eq_true rfl) (Nat.le_of_ble_eq_true rfl) ?_
                  have k294 : 48 ≤ v261.toInt ∧ v261.toInt ≤ 96 := ⟨Int.le_trans (Int.le_refl _) t288, k271.2⟩
                  have k295 : 58 ≤ v261.toInt ∧ v261.toInt ≤ 96 := ⟨lo_lt t289 (Int.le_refl _) (by decide), k294.2⟩
                  refine lv_if_eq (tgt := 298) hx hb dX10_next_198 (by decide) (fun _ => ?_) (fun g => absurd (by decide) g)
                  have hgv28 : v28.toInt = (((f_tape u2.toNatClampNeg) &&& 255)).toInt := by rw [ev28]
                  have hgv261 : v261.toInt = (((f_tape u40.toNatClampNeg) &&& 255)).toInt := by rw [ev261]
                  have hfst : u40.toInt = u2.toInt → (f_tape u40.toNatClampNeg &&& 255).toInt = (f_tape u2.toNatClampNeg &&& 255).toInt := fun h9 => by rw [Int32.toInt_inj.mp h9]
                  exact cut44 u38 G39 u40 u41 u42 u43 i81 (SAME.tr SAME.rf i82 (by decide)) i83 i84 i85 i86 (ir_wk k263 (by decide) (by decide)) i88 (by show 0 ≤ u41.toInt ∧ u41.toInt ≤ u40.toInt ∧ x_p.toInt + u41.toInt ≤ u40.toInt ∧ (u41.toInt = 0 → u40.toInt = u2.toInt); omega) (by show u38.toInt = 1 → u33.toInt = 0 → (0 ≤ u42.toInt ∧ u42.toInt ≤ 999 ∧ (u41.toInt = 0 → u42.toInt = 0) ∧ (u41.toInt = 1 → u42.toInt ≤ 9) ∧ (u41.toInt = 2 → u42.toInt ≤ 99)); omega) (by show (x_token.toInt = 2 → 0 ≤ u42.toInt ∧ u42.toInt ≤ 999); omega) (by show 1 ≤ u41.toInt; omega) _ _ _ hP hD hS (lv_sub hl [0, 1, 2, 3] rfl)
                · have hP : va_P D vwCl [(h0, .inr (10, vL 67 G39)), (h_tape, .inl (cB, 940, .inl f_tape))] H := hP
                  have hD : va_D A [(h0, .inr (10, vL 67 G39)), (h_tape, .inl (cB, 940, .inl f_tape))] := hD
                  refine W.widen (k := 0) (n := 0) (Nat.le_of_ble_eq_true rfl) (Nat.le_of_ble_eq_true rfl) ?_
                  have k296 : 48 ≤ v261.toInt ∧ v261.toInt ≤ 96 := ⟨Int.le_trans (Int.le_refl _) t290, k271.2⟩
                  have k297 : 48 ≤ v261.toInt ∧ v261.toInt ≤ 57 := ⟨k296.1, Int.le_trans t291 (Int.le_refl _)⟩
                  refine lv_if_eq (tgt := 298) hx hb dX10_next_198 (by decide) (fun g => absurd g (by decide)) (fun _ => ?_)
                  have cut299 : ∀ (u298 : Int32) (_ : IR 0 1 u298) (_ : ((u298.toInt = 1 → u33.toInt = 0 → (48 ≤ v261.toInt ∧ v261.toInt ≤ 57 ∧ 0 ≤ u42.toInt ∧ u42.toInt ≤ 999 ∧ (u41.toInt = 0 → u42.toInt = 0) ∧ (u41.toInt = 1 → u42.toInt ≤ 9) ∧ (u41.toInt = 2 → u42.toInt ≤ 99))))) (H : Heap) (locs : List Loc) (ls : Array Slot), va_P D vwCl [(h0, .inr (10, vL 67 G39)), (h_tape, .inl (cB, 940, .inl f_tape))] H → va_D A [(h0, .inr (10, vL 67 G39)), (h_tape, .inl (cB, 940, .inl f_tape))] → va_S A s.heap H locs → lv_has ls 4 [(3, .int u298), (2, .int u33), (1, .int v28), (0, .ref h0)] → W p l e ({ frames := 1, cells := 0, slots := 0, locals := 20 } : Room) s m [.ref h0].toArray below meth c H locs 0 0 (MQ below (va_Qv (fun (u : va_W) => ∃ (Gh : Nat → Value) (y_p : Int32) (y_token : Int32) (y_at : Int32) (y_span : Int32) (y_number : Int32) (y_word : Int64), SAME [4, 11, 12, 13, 14, 18] Fh Gh ∧ Gh 4 = .int y_p ∧ IR 0 940 y_p ∧ Gh 11 = .int y_token ∧ IR 0 4 y_token ∧ Gh 12 = .int y_at ∧ IR 0 940 y_at ∧ Gh 13 = .int y_span ∧ IR 0 940 y_span ∧ Gh 14 = .int y_number ∧ Gh 18 = .long y_word ∧ (x_p.toInt ≤ y_p.toInt) ∧ ((1 ≤ y_token.toInt → y_token.toInt ≤ 3 → x_p.toInt < y_p.toInt)) ∧ ((y_token.toInt = 2 → 0 ≤ y_number.toInt ∧ y_number.toInt ≤ 999)) ∧ u = [(h0, .inr (10, vL 67 Gh)), (h_tape, .inl (cB, 940, .inl f_tape))]) (PO D A) A) [.ref h0].toArray s 0 0 A) (F0 m 222 ls []) := by
                    intro u298 i300 i301 H locs ls hP hD hS hl
                    have i300 : 0 ≤ u298.toInt ∧ u298.toInt ≤ 1 := i300
                    have i301 : (u298.toInt = 1 → u33.toInt = 0 → (48 ≤ v261.toInt ∧ v261.toInt ≤ 57 ∧ 0 ≤ u42.toInt ∧ u42.toInt ≤ 999 ∧ (u41.toInt = 0 → u42.toInt = 0) ∧ (u41.toInt = 1 → u42.toInt ≤ 9) ∧ (u41.toInt = 2 → u42.toInt ≤ 99))) := i301
                    have cut304 : ∀ (G302 : Nat → Value) (u303 : Int64) (_ : SAME [18] G39 G302) (_ : G302 18 = .long u303) (H : Heap) (locs : List Loc) (ls : Array Slot), va_P D vwCl [(h0, .inr (10, vL 67 G302)), (h_tape, .inl (cB, 940, .inl f_tape))] H → va_D A [(h0, .inr (10, vL 67 G302)), (h_tape, .inl (cB, 940, .inl f_tape))] → va_S A s.heap H locs → lv_has ls 4 [(3, .int u298), (2, .int u33), (1, .int v28), (0, .ref h0)] → W p l e ({ frames := 1, cells := 0, slots := 0, locals := 20 } : Room) s m [.ref h0].toArray below meth c H locs 0 0 (MQ below (va_Qv (fun (u : va_W) => ∃ (Gh : Nat → Value) (y_p : Int32) (y_token : Int32) (y_at : Int32) (y_span : Int32) (y_number : Int32) (y_word : Int64), SAME [4, 11, 12, 13, 14, 18] Fh Gh ∧ Gh 4 = .int y_p ∧ IR 0 940 y_p ∧ Gh 11 = .int y_token ∧ IR 0 4 y_token ∧ Gh 12 = .int y_at ∧ IR 0 940 y_at ∧ Gh 13 = .int y_span ∧ IR 0 940 y_span ∧ Gh 14 = .int y_number ∧ Gh 18 = .long y_word ∧ (x_p.toInt ≤ y_p.toInt) ∧ ((1 ≤ y_token.toInt → y_token.toInt ≤ 3 → x_p.toInt < y_p.toInt)) ∧ ((y_token.toInt = 2 → 0 ≤ y_number.toInt ∧ y_number.toInt ≤ 999)) ∧ u = [(h0, .inr (10, vL 67 Gh)), (h_tape, .inl (cB, 940, .inl f_tape))]) (PO D A) A) [.ref h0].toArray s 0 0 A) (F0 m 248 ls []) := by
                      intro G302 u303 i305 i306 H locs ls hP hD hS hl
                      refine lv_aload_n hx hb dX10_next_248 rfl (lv_at hl 3 rfl) ?_
                      have n307 : G302 13 = .int u41 := (SAME.at i305 (by decide) i84)
                      refine get_f (D := D) (ci := 10) (v := .int u41) (C := RX10) (T := TX10) (N := 67) hx hb hw inAX10 hown hK hP 0 rfl rfl 13 (by decide) (hw _ q_1274) (fun _ h9 => h9) n307 dX10_next_249 ?_
                      refine lv_iconst (v := 3) hx hb dX10_next_252 (by decide) ?_
                      refine lv_icmp_ge (tgt := 275) hx hb dX10_next_253 (by decide) (fun c308 => ?_) (fun c308 => ?_)
                      · have dc308 : 3 ≤ u41.toInt := le_i (a := 3) (b := u41.toInt) rfl rfl c308
                        have k309 : 3 ≤ u41.toInt ∧ u41.toInt ≤ 940 := ⟨Int.le_trans (Int.le_refl _) dc308, i88.2⟩
                        refine lv_aload_n hx hb dX10_next_275 rfl (lv_at hl 3 rfl) ?_
                        refine lv_dup hx hb dX10_next_276 rfl ?_
                        refine get_f (D := D) (ci := 10) (v := .int u41) (C := RX10) (T := TX10) (N := 67) hx hb hw inAX10 hown hK hP 0 rfl rfl 13 (by decide) (hw _ q_1274) (fun _ h9 => h9) n307 dX10_next_277 ?_
                        refine lv_iconst (v := 1) hx hb dX10_next_280 (by decide) ?_
                        refine lv_iadd hx hb dX10_next_281 ?_
                        refine lv_topi (fun v310 ev310 => ?_)
                        have bv310 : v310.toInt = u41.toInt + 1 := by rw [ev310]; exact add_k rfl rfl k309 ⟨Int.le_refl _, Int.le_refl _⟩ (by decide)
                        have k311 : 4 ≤ v310.toInt ∧ v310.toInt ≤ 941 := add_r bv310 k309 ⟨Int.le_refl _, Int.le_refl _⟩ (by decide)
                        refine put_f (D := D) (ci := 10) (v := .int v310) (ty := .int) (C := RX10) (T := TX10) (N := 67) hx hb hw inAX10 tyX10 tyX10_ok nmX10 hown hK hP hD hS 0 rfl rfl 13 (by decide) (hw _ q_1274) (fun _ h9 => h9) rfl (by decide +kernel) rfl rfl dX10_next_282 (fun H locs F312 eF312 hP hD hS => ?_)
                        have hP : va_P D vwCl [(h0, .inr (10, vL 67 F312)), (h_tape, .inl (cB, 940, .inl f_tape))] H := hP
                        have hD : va_D A [(h0, .inr (10, vL 67 F312)), (h_tape, .inl (cB, 940, .inl f_tape))] := hD
                        refine lv_aload_n hx hb dX10_next_285 rfl (lv_at hl 3 rfl) ?_
                        refine lv_dup hx hb dX10_next_286 rfl ?_
                        have n313 : G302 4 = .int u40 := (SAME.at i305 (by decide) i83)
                        have n314 : F312 4 = .int u40 := (get_ne eF312 (by decide) n313)
                        refine get_f (D := D) (ci := 10) (v := .int u40) (C := RX10) (T := TX10) (N := 67) hx hb hw inAX10 hown hK hP 0 rfl rfl 4 (by decide) (hw _ q_1265) (fun _ h9 => h9) n314 dX10_next_287 ?_
                        refine lv_iconst (v := 1) hx hb dX10_next_290 (by decide) ?_
                        refine lv_iadd hx hb dX10_next_291 ?_
                        refine lv_topi (fun v315 ev315 => ?_)
                        have bv315 : v315.toInt = u40.toInt + 1 := by rw [ev315]; exact add_k rfl rfl k263 ⟨Int.le_refl _, Int.le_refl _⟩ (by decide)
                        have k316 : 1 ≤ v315.toInt ∧ v315.toInt ≤ 940 := add_r bv315 k263 ⟨Int.le_refl _, Int.le_refl _⟩ (by decide)
                        refine put_f (D := D) (ci := 10) (v := .int v315) (ty := .int) (C := RX10) (T := TX10) (N := 67) hx hb hw inAX10 tyX10 tyX10_ok nmX10 hown hK hP hD hS 0 rfl rfl 4 (by decide) (hw _ q_1265) (fun _ h9 => h9) rfl (by decide +kernel) rfl rfl dX10_next_292 (fun H locs F317 eF317 hP hD hS => ?_)
                        have hP : va_P D vwCl [(h0, .inr (10, vL 67 F317)), (h_tape, .inl (cB, 940, .inl f_tape))] H := hP
                        have hD : va_D A [(h0, .inr (10, vL 67 F317)), (h_tape, .inl (cB, 940, .inl f_tape))] := hD
                        refine lv_goto (tgt := 181) hx hb dX10_next_295 (by decide) ?_
                        have n318 : F317 13 = .int v310 := (get_ne eF317 (by decide) (get_eq eF312))
                        have n319 : G302 14 = .int u42 := (SAME.at i305 (by decide) i85)
                        have n320 : F312 14 = .int u42 := (get_ne eF312 (by decide) n319)
                        have n321 : F317 14 = .int u42 := (get_ne eF317 (by decide) n320)
                        have n322 : F312 18 = .long u303 := (get_ne eF312 (by decide) i306)
                        have n323 : F317 18 = .long u303 := (get_ne eF317 (by decide) n322)
                        exact ih (u298, F317, v315, v310, u42, u303) ⟨i300, (SAME.up eF317 (SAME.up eF312 (SAME.tr (SAME.tr SAME.rf i82 (by decide)) i305 (by decide)) (by decide)) (by decide)), (get_eq eF317), n318, n321, n323, (ir_wk k316 (by decide) (by decide)), ⟨by omega, by omega⟩, (by show 0 ≤ v310.toInt ∧ v310.toInt ≤ v315.toInt ∧ x_p.toInt + v310.toInt ≤ v315.toInt ∧ (v310.toInt = 0 → v315.toInt = u2.toInt); omega), (by show u298.toInt = 1 → u33.toInt = 0 → (0 ≤ u42.toInt ∧ u42.toInt ≤ 999 ∧ (v310.toInt = 0 → u42.toInt = 0) ∧ (v310.toInt = 1 → u42.toInt ≤ 9) ∧ (v310.toInt = 2 → u42.toInt ≤ 99)); omega), (by show (x_token.toInt = 2 → 0 ≤ u42.toInt ∧ u42.toInt ≤ 999); omega)⟩ (by show (x_size.toInt - v315.toInt).toNat < (x_size.toInt - u40.toInt).toNat; omega) _ _ _ hP hD hS (lv_sub hl [0, 1, 2, 3] rfl)
                      · have dc308 : u41.toInt < 3 := nle_i (a := 3) (b := u41.toInt) rfl rfl c308
                        have k324 : 0 ≤ u41.toInt ∧ u41.toInt ≤ 2 := ⟨i88.1, up_lt dc308 (Int.le_refl _) (by decide)⟩
                        refine lv_aload_n hx hb dX10_next_256 rfl (lv_at hl 3 rfl) ?_
                        refine lv_bipush (v := 10) hx hb dX10_next_257 (by decide) ?_
                        refine lv_aload_n hx hb dX10_next_259 rfl (lv_at hl 3 rfl) ?_
                        have n325 : G302 14 = .int u42 := (SAME.at i305 (by decide) i85)
                        refine get_f (D := D) (ci := 10) (v := .int u42) (C := RX10) (T := TX10) (N := 67) hx hb hw inAX10 hown hK hP 0 rfl rfl 14 (by decide) (hw _ q_1275) (fun _ h9 => h9) n325 dX10_next_260 ?_
                        refine lv_imul hx hb dX10_next_263 ?_
                        refine lv_topi (fun v326 ev326 => ?_)
                        refine lv_aload_n hx hb dX10_next_264 rfl (lv_at hl 3 rfl) ?_
                        have n327 : G302 1 = .ref h_tape := (SAME.at i305 (by decide) n94)
                        have n328 : G302 3 = .int x_size := (SAME.at i305 (by decide) n97)
                        have n329 : G302 4 = .int u40 := (SAME.at i305 (by decide) i83)
                        refine call_Vi (wr := []) (As := []) (rest := [.int v326, .ref h0]) hx hb hml hown hw (m_X10_peek l D cI cJ cB cP cM cZ h0 h_tape G302 x_size u40 f_tape _ n327 n328 (ir_wk k31 (by decide) (by decide)) n329 (ir_wk k263 (by decide) (by decide))) wV_X10_169_X10_peek dX10_next_265 hK hP hD hS hA [0, 1] [] rfl rfl (by decide) (by decide) (by decide) 0 10 rfl rfl GG.fb hG.at hl.1 rfl (Nat.le_of_ble_eq_true rfl) ⟨(Nat.le_of_ble_eq_true rfl), (Nat.le_of_ble_eq_true rfl)⟩ ⟨(Nat.le_of_ble_eq_true rfl), (Nat.le_of_ble_eq_true rfl)⟩ (fun r330 u H locs hp hP hD hS => ?_)
                        rcases hp with ⟨t331, rfl, rfl⟩ | ⟨t332, t333, rfl, rfl⟩
                        · have hP : va_P D vwCl [(h0, .inr (10, vL 67 G302)), (h_tape, .inl (cB, 940, .inl f_tape))] H := hP
                          have hD : va_D A [(h0, .inr (10, vL 67 G302)), (h_tape, .inl (cB, 940, .inl f_tape))] := hD
                          refine W.widen (k := 0) (n := 0) (Nat.le_of_ble_eq_true rfl) (Nat.le_of_ble_eq_true rfl) ?_
                          have k335 : 1 ≤ x_size.toInt ∧ x_size.toInt ≤ 939 := ⟨k31.1, Int.le_trans t331 k263.2⟩
                          have k336 : 1 ≤ u40.toInt ∧ u40.toInt ≤ 939 := ⟨Int.le_trans k31.1 t331, k263.2⟩
                          refine lv_iadd hx hb dX10_next_268 ?_
                          refine lv_topi (fun v337 ev337 => ?_)
                          refine lv_bipush (v := 48) hx hb dX10_next_269 (by decide) ?_
                          refine lv_isub hx hb dX10_next_271 ?_
                          refine lv_topi (fun v338 ev338 => ?_)
                          refine put_f (D := D) (ci := 10) (v := .int v338) (ty := .int) (C := RX10) (T := TX10) (N := 67) hx hb hw inAX10 tyX10 tyX10_ok nmX10 hown hK hP hD hS 0 rfl rfl 14 (by decide) (hw _ q_1275) (fun _ h9 => h9) rfl (by decide +kernel) rfl rfl dX10_next_272 (fun H locs F339 eF339 hP hD hS => ?_)
                          have hP : va_P D vwCl [(h0, .inr (10, vL 67 F339)), (h_tape, .inl (cB, 940, .inl f_tape))] H := hP
                          have hD : va_D A [(h0, .inr (10, vL 67 F339)), (h_tape, .inl (cB, 940, .inl f_tape))] := hD
                          refine lv_aload_n hx hb dX10_next_275 rfl (lv_at hl 3 rfl) ?_
                          refine lv_dup hx hb dX10_next_276 rfl ?_
                          have n340 : F339 13 = .int u41 := (get_ne eF339 (by decide) n307)
                          refine get_f (D := D) (ci := 10) (v := .int u41) (C := RX10) (T := TX10) (N := 67) hx hb hw inAX10 hown hK hP 0 rfl rfl 13 (by decide) (hw _ q_1274) (fun _ h9 => h9) n340 dX10_next_277 ?_
                          refine lv_iconst (v := 1) hx hb dX10_next_280 (by decide) ?_
                          refine lv_iadd hx hb dX10_next_281 ?_
                          refine lv_topi (fun v341 ev341 => ?_)
                          have bv341 : v341.toInt = u41.toInt + 1 := by rw [ev341]; exact add_k rfl rfl k324 ⟨Int.le_refl _, Int.le_refl _⟩ (by decide)
                          have k342 : 1 ≤ v341.toInt ∧ v341.toInt ≤ 3 := add_r bv341 k324 ⟨Int.le_refl _, Int.le_refl _⟩ (by decide)
                          refine put_f (D := D) (ci := 10) (v := .int v341) (ty := .int) (C := RX10) (T := TX10) (N := 67) hx hb hw inAX10 tyX10 tyX10_ok nmX10 hown hK hP hD hS 0 rfl rfl 13 (by decide) (hw _ q_1274) (fun _ h9 => h9) rfl (by decide +kernel) rfl rfl dX10_next_282 (fun H locs F343 eF343 hP hD hS => ?_)
                          have hP : va_P D vwCl [(h0, .inr (10, vL 67 F343)), (h_tape, .inl (cB, 940, .inl f_tape))] H := hP
                          have hD : va_D A [(h0, .inr (10, vL 67 F343)), (h_tape, .inl (cB, 940, .inl f_tape))] := hD
                          refine lv_aload_n hx hb dX10_next_285 rfl (lv_at hl 3 rfl) ?_
                          refine lv_dup hx hb dX10_next_286 rfl ?_
                          have n344 : F339 4 = .int u40 := (get_ne eF339 (by decide) n329)
                          have n345 : F343 4 = .int u40 := (get_ne eF343 (by decide) n344)
                          refine get_f (D := D) (ci := 10) (v := .int u40) (C := RX10) (T := TX10) (N := 67) hx hb hw inAX10 hown hK hP 0 rfl rfl 4 (by decide) (hw _ q_1265) (fun _ h9 => h9) n345 dX10_next_287 ?_
                          refine lv_iconst (v := 1) hx hb dX10_next_290 (by decide) ?_
                          refine lv_iadd hx hb dX10_next_291 ?_
                          refine lv_topi (fun v346 ev346 => ?_)
                          have bv346 : v346.toInt = u40.toInt + 1 := by rw [ev346]; exact add_k rfl rfl k336 ⟨Int.le_refl _, Int.le_refl _⟩ (by decide)
                          have k347 : 2 ≤ v346.toInt ∧ v346.toInt ≤ 940 := add_r bv346 k336 ⟨Int.le_refl _, Int.le_refl _⟩ (by decide)
                          refine put_f (D := D) (ci := 10) (v := .int v346) (ty := .int) (C := RX10) (T := TX10) (N := 67) hx hb hw inAX10 tyX10 tyX10_ok nmX10 hown hK hP hD hS 0 rfl rfl 4 (by decide) (hw _ q_1265) (fun _ h9 => h9) rfl (by decide +kernel) rfl rfl dX10_next_292 (fun H locs F348 eF348 hP hD hS => ?_)
                          have hP : va_P D vwCl [(h0, .inr (10, vL 67 F348)), (h_tape, .inl (cB, 940, .inl f_tape))] H := hP
                          have hD : va_D A [(h0, .inr (10, vL 67 F348)), (h_tape, .inl (cB, 940, .inl f_tape))] := hD
                          refine lv_goto (tgt := 181) hx hb dX10_next_295 (by decide) ?_
                          have n349 : F348 13 = .int v341 := (get_ne eF348 (by decide) (get_eq eF343))
                          have n350 : F343 14 = .int v338 := (get_ne eF343 (by decide) (get_eq eF339))
                          have n351 : F348 14 = .int v338 := (get_ne eF348 (by decide) n350)
                          have n352 : F339 18 = .long u303 := (get_ne eF339 (by decide) i306)
                          have n353 : F343 18 = .long u303 := (get_ne eF343 (by decide) n352)
                          have n354 : F348 18 = .long u303 := (get_ne eF348 (by decide) n353)
                          exact ih (u298, F348, v346, v341, v338, u303) ⟨i300, (SAME.up eF348 (SAME.up eF343 (SAME.up eF339 (SAME.tr (SAME.tr SAME.rf i82 (by decide)) i305 (by decide)) (by decide)) (by decide)) (by decide)), (get_eq eF348), n349, n351, n354, (ir_wk k347 (by decide) (by decide)), (ir_wk k342 (by decide) (by decide)), (by show 0 ≤ v341.toInt ∧ v341.toInt ≤ v346.toInt ∧ x_p.toInt + v341.toInt ≤ v346.toInt ∧ (v341.toInt = 0 → v346.toInt = u2.toInt); omega), (by show u298.toInt = 1 → u33.toInt = 0 → (0 ≤ v338.toInt ∧ v338.toInt ≤ 999 ∧ (v341.toInt = 0 → v338.toInt = 0) ∧ (v341.toInt = 1 → v338.toInt ≤ 9) ∧ (v341.toInt = 2 → v338.toInt ≤ 99)); omega), (by show (x_token.toInt = 2 → 0 ≤ v338.toInt ∧ v338.toInt ≤ 999); omega)⟩ (by show (x_size.toInt - v346.toInt).toNat < (x_size.toInt - u40.toInt).toNat; omega) _ _ _ hP hD hS (lv_sub hl [0, 1, 2, 3] rfl)
                        · have hP : va_P D vwCl [(h0, .inr (10, vL 67 G302)), (h_tape, .inl (cB, 940, .inl f_tape))] H := hP
                          have hD : va_D A [(h0, .inr (10, vL 67 G302)), (h_tape, .inl (cB, 940, .inl f_tape))] := hD
                          refine W.widen (k := 0) (n := 0) (Nat.le_of_ble_eq_true rfl) (Nat.le_of_ble_eq_true rfl) ?_
                          refine lv_ci (y := v261) ev261.symm ?_
                          refine lv_iadd hx hb dX10_next_268 ?_
                          refine lv_topi (fun v355 ev355 => ?_)
                          refine lv_bipush (v := 48) hx hb dX10_next_269 (by decide) ?_
                          refine lv_isub hx hb dX10_next_271 ?_
                          refine lv_topi (fun v356 ev356 => ?_)
                          refine put_f (D := D) (ci := 10) (v := .int v356) (ty := .int) (C := RX10) (T := TX10) (N := 67) hx hb hw inAX10 tyX10 tyX10_ok nmX10 hown hK hP hD hS 0 rfl rfl 14 (by decide) (hw _ q_1275) (fun _ h9 => h9) rfl (by decide +kernel) rfl rfl dX10_next_272 (fun H locs F357 eF357 hP hD hS => ?_)
                          have hP : va_P D vwCl [(h0, .inr (10, vL 67 F357)), (h_tape, .inl (cB, 940, .inl f_tape))] H := hP
                          have hD : va_D A [(h0, .inr (10, vL 67 F357)), (h_tape, .inl (cB, 940, .inl f_tape))] := hD
                          refine lv_aload_n hx hb dX10_next_275 rfl (lv_at hl 3 rfl) ?_
                          refine lv_dup hx hb dX10_next_276 rfl ?_
                          have n358 : F357 13 = .int u41 := (get_ne eF357 (by decide) n307)
                          refine get_f (D := D) (ci := 10) (v := .int u41) (C := RX10) (T := TX10) (N := 67) hx hb hw inAX10 hown hK hP 0 rfl rfl 13 (by decide) (hw _ q_1274) (fun _ h9 => h9) n358 dX10_next_277 ?_
                          refine lv_iconst (v := 1) hx hb dX10_next_280 (by decide) ?_
                          refine lv_iadd hx hb dX10_next_281 ?_
                          refine lv_topi (fun v359 ev359 => ?_)
                          have bv359 : v359.toInt = u41.toInt + 1 := by rw [ev359]; exact add_k rfl rfl k324 ⟨Int.le_refl _, Int.le_refl _⟩ (by decide)
                          have k360 : 1 ≤ v359.toInt ∧ v359.toInt ≤ 3 := add_r bv359 k324 ⟨Int.le_refl _, Int.le_refl _⟩ (by decide)
                          refine put_f (D := D) (ci := 10) (v := .int v359) (ty := .int) (C := RX10) (T := TX10) (N := 67) hx hb hw inAX10 tyX10 tyX10_ok nmX10 hown hK hP hD hS 0 rfl rfl 13 (by decide) (hw _ q_1274) (fun _ h9 => h9) rfl (by decide +kernel) rfl rfl dX10_next_282 (fun H locs F361 eF361 hP hD hS => ?_)
                          have hP : va_P D vwCl [(h0, .inr (10, vL 67 F361)), (h_tape, .inl (cB, 940, .inl f_tape))] H := hP
                          have hD : va_D A [(h0, .inr (10, vL 67 F361)), (h_tape, .inl (cB, 940, .inl f_tape))] := hD
                          refine lv_aload_n hx hb dX10_next_285 rfl (lv_at hl 3 rfl) ?_
                          refine lv_dup hx hb dX10_next_286 rfl ?_
                          have n362 : F357 4 = .int u40 := (get_ne eF357 (by decide) n329)
                          have n363 : F361 4 = .int u40 := (get_ne eF361 (by decide) n362)
                          refine get_f (D := D) (ci := 10) (v := .int u40) (C := RX10) (T := TX10) (N := 67) hx hb hw inAX10 hown hK hP 0 rfl rfl 4 (by decide) (hw _ q_1265) (fun _ h9 => h9) n363 dX10_next_287 ?_
                          refine lv_iconst (v := 1) hx hb dX10_next_290 (by decide) ?_
                          refine lv_iadd hx hb dX10_next_291 ?_
                          refine lv_topi (fun v364 ev364 => ?_)
                          have bv364 : v364.toInt = u40.toInt + 1 := by rw [ev364]; exact add_k rfl rfl k263 ⟨Int.le_refl _, Int.le_refl _⟩ (by decide)
                          have k365 : 1 ≤ v364.toInt ∧ v364.toInt ≤ 940 := add_r bv364 k263 ⟨Int.le_refl _, Int.le_refl _⟩ (by decide)
                          refine put_f (D := D) (ci := 10) (v := .int v364) (ty := .int) (C := RX10) (T := TX10) (N := 67) hx hb hw inAX10 tyX10 tyX10_ok nmX10 hown hK hP hD hS 0 rfl rfl 4 (by decide) (hw _ q_1265) (fun _ h9 => h9) rfl (by decide +kernel) rfl rfl dX10_next_292 (fun H locs F366 eF366 hP hD hS => ?_)
                          have hP : va_P D vwCl [(h0, .inr (10, vL 67 F366)), (h_tape, .inl (cB, 940, .inl f_tape))] H := hP
                          have hD : va_D A [(h0, .inr (10, vL 67 F366)), (h_tape, .inl (cB, 940, .inl f_tape))] := hD
                          refine lv_goto (tgt := 181) hx hb dX10_next_295 (by decide) ?_
                          have n367 : F366 13 = .int v359 := (get_ne eF366 (by decide) (get_eq eF361))
                          have n368 : F361 14 = .int v356 := (get_ne eF361 (by decide) (get_eq eF357))
                          have n369 : F366 14 = .int v356 := (get_ne eF366 (by decide) n368)
                          have n370 : F357 18 = .long u303 := (get_ne eF357 (by decide) i306)
                          have n371 : F361 18 = .long u303 := (get_ne eF361 (by decide) n370)
                          have n372 : F366 18 = .long u303 := (get_ne eF366 (by decide) n371)
                          exact ih (u298, F366, v364, v359, v356, u303) ⟨i300, (SAME.up eF366 (SAME.up eF361 (SAME.up eF357 (SAME.tr (SAME.tr SAME.rf i82 (by decide)) i305 (by decide)) (by decide)) (by decide)) (by decide)), (get_eq eF366), n367, n369, n372, (ir_wk k365 (by decide) (by decide)), (ir_wk k360 (by decide) (by decide)), (by show 0 ≤ v359.toInt ∧ v359.toInt ≤ v364.toInt ∧ x_p.toInt + v359.toInt ≤ v364.toInt ∧ (v359.toInt = 0 → v364.toInt = u2.toInt); omega), (by show u298.toInt = 1 → u33.toInt = 0 → (0 ≤ v356.toInt ∧ v356.toInt ≤ 999 ∧ (v359.toInt = 0 → v356.toInt = 0) ∧ (v359.toInt = 1 → v356.toInt ≤ 9) ∧ (v359.toInt = 2 → v356.toInt ≤ 99)); omega), (by show (x_token.toInt = 2 → 0 ≤ v356.toInt ∧ v356.toInt ≤ 999); omega)⟩ (by show (x_size.toInt - v364.toInt).toNat < (x_size.toInt - u40.toInt).toNat; omega) _ _ _ hP hD hS (lv_sub hl [0, 1, 2, 3] rfl)
                    refine lv_aload_n hx hb dX10_next_222 rfl (lv_at hl 3 rfl) ?_
                    refine get_f (D := D) (ci := 10) (v := .int u41) (C := RX10) (T := TX10) (N := 67) hx hb hw inAX10 hown hK hP 0 rfl rfl 13 (by decide) (hw _ q_1274) (fun _ h9 => h9) i84 dX10_next_223 ?_
                    refine lv_bipush (v := 7) hx hb dX10_next_226 (by decide) ?_
                    refine lv_icmp_ge (tgt := 248) hx hb dX10_next_228 (by decide) (fun c373 => ?_) (fun c373 => ?_)
                    · have dc373 : 7 ≤ u41.toInt := le_i (a := 7) (b := u41.toInt) rfl rfl c373
                      have k374 : 7 ≤ u41.toInt ∧ u41.toInt ≤ 940 := ⟨Int.le_trans (Int.le_refl _) dc373, i88.2⟩
                      exact cut304 G39 u43 SAME.rf i86 _ _ _ hP hD hS (lv_sub hl [0, 1, 2, 3] rfl)
                    · have dc373 : u41.toInt < 7 := nle_i (a := 7) (b := u41.toInt) rfl rfl c373
                      have k375 : 0 ≤ u41.toInt ∧ u41.toInt ≤ 6 := ⟨i88.1, up_lt dc373 (Int.le_refl _) (by decide)⟩
                      refine lv_aload_n hx hb dX10_next_231 rfl (lv_at hl 3 rfl) ?_
                      refine lv_aload_n hx hb dX10_next_232 rfl (lv_at hl 3 rfl) ?_
                      refine get_f (D := D) (ci := 10) (v := .long u43) (C := RX10) (T := TX10) (N := 67) hx hb hw inAX10 hown hK hP 0 rfl rfl 18 (by decide) (hw _ q_1279) (fun _ h9 => h9) i86 dX10_next_233 ?_
                      refine lv_bipush (v := 8) hx hb dX10_next_236 (by decide) ?_
                      obtain ⟨v376, ev376⟩ : ∃ z : Int64, (u43 : Int64) <<< ((8 : Int32).toInt64 &&& 63) = z := ⟨_, rfl⟩
                      refine lv_lshl (v := v376) hx hb dX10_next_238 ev376 ?_
                      refine lv_aload_n hx hb dX10_next_239 rfl (lv_at hl 3 rfl) ?_
                      refine call_Vi (wr := []) (As := []) (rest := [.long v376, .ref h0]) hx hb hml hown hw (m_X10_peek l D cI cJ cB cP cM cZ h0 h_tape G39 x_size u40 f_tape _ n94 n97 (ir_wk k31 (by decide) (by decide)) i83 (ir_wk k263 (by decide) (by decide))) wV_X10_169_X10_peek dX10_next_240 hK hP hD hS hA [0, 1] [] rfl rfl (by decide) (by decide) (by decide) 0 10 rfl rfl GG.fb hG.at hl.1 rfl (Nat.le_of_ble_eq_true rfl) ⟨(Nat.le_of_ble_eq_true rfl), (Nat.le_of_ble_eq_true rfl)⟩ ⟨(Nat.le_of_ble_eq_true rfl), (Nat.le_of_ble_eq_true rfl)⟩ (fun r377 u H locs hp hP hD hS => ?_)
                      rcases hp with ⟨t378, rfl, rfl⟩ | ⟨t379, t380, rfl, rfl⟩
                      · have hP : va_P D vwCl [(h0, .inr (10, vL 67 G39)), (h_tape, .inl (cB, 940, .inl f_tape))] H := hP
                        have hD : va_D A [(h0, .inr (10, vL 67 G39)), (h_tape, .inl (cB, 940, .inl f_tape))] := hD
                        refine W.widen (k := 0) (n := 0) (Nat.le_of_ble_eq_true rfl) (Nat.le_of_ble_eq_true rfl) ?_
                        have k382 : 1 ≤ x_size.toInt ∧ x_size.toInt ≤ 939 := ⟨k31.1, Int.le_trans t378 k263.2⟩
                        have k383 : 1 ≤ u40.toInt ∧ u40.toInt ≤ 939 := ⟨Int.le_trans k31.1 t378, k263.2⟩
                        obtain ⟨v384, ev384⟩ : ∃ z : Int64, ((-1) : Int32).toInt64 = z := ⟨_, rfl⟩
                        refine lv_i2l (v := v384) hx hb dX10_next_243 ev384 ?_
                        refine lv_lor hx hb dX10_next_244 ?_
                        refine lv_topl (fun v385 ev385 => ?_)
                        refine put_f (D := D) (ci := 10) (v := .long v385) (ty := .long) (C := RX10) (T := TX10) (N := 67) hx hb hw inAX10 tyX10 tyX10_ok nmX10 hown hK hP hD hS 0 rfl rfl 18 (by decide) (hw _ q_1279) (fun _ h9 => h9) rfl (by decide +kernel) rfl rfl dX10_next_245 (fun H locs F386 eF386 hP hD hS => ?_)
                        have hP : va_P D vwCl [(h0, .inr (10, vL 67 F386)), (h_tape, .inl (cB, 940, .inl f_tape))] H := hP
                        have hD : va_D A [(h0, .inr (10, vL 67 F386)), (h_tape, .inl (cB, 940, .inl f_tape))] := hD
                        exact cut304 F386 v385 (SAME.up eF386 SAME.rf (by decide)) (get_eq eF386) _ _ _ hP hD hS (lv_sub hl [0, 1, 2, 3] rfl)
                      · have hP : va_P D vwCl [(h0, .inr (10, vL 67 G39)), (h_tape, .inl (cB, 940, .inl f_tape))] H := hP
                        have hD : va_D A [(h0, .inr (10, vL 67 G39)), (h_tape, .inl (cB, 940, .inl f_tape))] := hD
                        refine W.widen (k := 0) (n := 0) (Nat.le_of_ble_eq_true rfl) (Nat.le_of_ble_eq_true rfl) ?_
                        refine lv_ci (y := v261) ev261.symm ?_
                        obtain ⟨v387, ev387⟩ : ∃ z : Int64, (v261 : Int32).toInt64 = z := ⟨_, rfl⟩
                        refine lv_i2l (v := v387) hx hb dX10_next_243 ev387 ?_
                        refine lv_lor hx hb dX10_next_244 ?_
                        refine lv_topl (fun v388 ev388 => ?_)
                        refine put_f (D := D) (ci := 10) (v := .long v388) (ty := .long) (C := RX10) (T := TX10) (N := 67) hx hb hw inAX10 tyX10 tyX10_ok nmX10 hown hK hP hD hS 0 rfl rfl 18 (by decide) (hw _ q_1279) (fun _ h9 => h9) rfl (by decide +kernel) rfl rfl dX10_next_245 (fun H locs F389 eF389 hP hD hS => ?_)
                        have hP : va_P D vwCl [(h0, .inr (10, vL 67 F389)), (h_tape, .inl (cB, 940, .inl f_tape))] H := hP
                        have hD : va_D A [(h0, .inr (10, vL 67 F389)), (h_tape, .inl (cB, 940, .inl f_tape))] := hD
                        exact cut304 F389 v388 (SAME.up eF389 SAME.rf (by decide)) (get_eq eF389) _ _ _ hP hD hS (lv_sub hl [0, 1, 2, 3] rfl)
                  refine lv_iload_n hx hb dX10_next_201 rfl (lv_at hl 0 rfl) ?_
                  refine lv_if_eq (tgt := 220) hx hb dX10_next_202 (by decide) (fun c390 => ?_) (fun c390 => ?_)
                  · have dc390 : u38.toInt = 0 := eq_i (a := u38.toInt) (b := 0) rfl rfl c390
                    have k391 : 0 ≤ u38.toInt ∧ u38.toInt ≤ 0 := ⟨i81.1, Int.le_trans (Int.le_of_eq dc390) (Int.le_refl _)⟩
                    refine lv_iconst (v := 0) hx hb dX10_next_220 (by decide) ?_
                    refine lv_istore_n (lv' := [(3, .int 0), (2, .int u33), (1, .int v28), (0, .ref h0)]) hx hb dX10_next_221 rfl hl (by decide) rfl (fun ls hl => ?_)
                    exact cut299 0 (show 0 ≤ (0 : Int32).toInt ∧ (0 : Int32).toInt ≤ 1 by decide) (by show (0 = 1 → u33.toInt = 0 → (48 ≤ v261.toInt ∧ v261.toInt ≤ 57 ∧ 0 ≤ u42.toInt ∧ u42.toInt ≤ 999 ∧ (u41.toInt = 0 → u42.toInt = 0) ∧ (u41.toInt = 1 → u42.toInt ≤ 9) ∧ (u41.toInt = 2 → u42.toInt ≤ 99))); omega) _ _ _ hP hD hS (lv_sub hl [0, 1, 2, 3] rfl)
                  · have dc390 : u38.toInt ≠ 0 := ne_i (a := u38.toInt) (b := 0) rfl rfl c390
                    have k392 : 1 ≤ u38.toInt ∧ u38.toInt ≤ 1 := ⟨ne_lo dc390 i81.1 ⟨Int.le_refl _, Int.le_refl _⟩ (by decide), i81.2⟩
                    refine lv_aload_n hx hb dX10_next_205 rfl (lv_at hl 3 rfl) ?_
                    refine call_Vi (wr := []) (As := []) (rest := []) hx hb hml hown hw (m_X10_peek l D cI cJ cB cP cM cZ h0 h_tape G39 x_size u40 f_tape _ n94 n97 (ir_wk k31 (by decide) (by decide)) i83 (ir_wk k263 (by decide) (by decide))) wV_X10_169_X10_peek dX10_next_206 hK hP hD hS hA [0, 1] [] rfl rfl (by decide) (by decide) (by decide) 0 10 rfl rfl GG.fb hG.at hl.1 rfl (Nat.le_of_ble_eq_true rfl) ⟨(Nat.le_of_ble_eq_true rfl), (Nat.le_of_ble_eq_true rfl)⟩ ⟨(Nat.le_of_ble_eq_true rfl), (Nat.le_of_ble_eq_true rfl)⟩ (fun r393 u H locs hp hP hD hS => ?_)
                    rcases hp with ⟨t394, rfl, rfl⟩ | ⟨t395, t396, rfl, rfl⟩
                    · have hP : va_P D vwCl [(h0, .inr (10, vL 67 G39)), (h_tape, .inl (cB, 940, .inl f_tape))] H := hP
                      have hD : va_D A [(h0, .inr (10, vL 67 G39)), (h_tape, .inl (cB, 940, .inl f_tape))] := hD
                      refine W.widen (k := 0) (n := 0) (Nat.le_of_ble_eq_true rfl) (Nat.le_of_ble_eq_true rfl) ?_
                      have k398 : 1 ≤ x_size.toInt ∧ x_size.toInt ≤ 939 := ⟨k31.1, Int.le_trans t394 k263.2⟩
                      have k399 : 1 ≤ u40.toInt ∧ u40.toInt ≤ 939 := ⟨Int.le_trans k31.1 t394, k263.2⟩
                      refine call_Si (wr := [(h0, .inr (10, vL 67 G39)), (h_tape, .inl (cB, 940, .inl f_tape))]) (As := [.int (-1)]) (rest := []) hx hb hml hown hw (m_X10_isSmall l D cI cJ cB cP cM cZ (-1) _ ) wS_X10_182_X10_isSmall dX10_next_209 hP hD hS hA [] [0, 1] rfl rfl (by decide) (by decide) (by decide) GG.fb hG.at hl.1 rfl (Nat.le_of_ble_eq_true rfl) ⟨(Nat.le_of_ble_eq_true rfl), (Nat.le_of_ble_eq_true rfl)⟩ ⟨(Nat.le_of_ble_eq_true rfl), (Nat.le_of_ble_eq_true rfl)⟩ (fun r400 u H locs hp hP hD hS => ?_)
                      have zlm1 : ((-1) : Int32).toInt = (-1) := by decide
                      rcases hp with ⟨t401, rfl, rfl⟩ | ⟨t402, t403, rfl, rfl⟩ | ⟨t404, t405, rfl, rfl⟩
                      · have hP : va_P D vwCl [(h0, .inr (10, vL 67 G39)), (h_tape, .inl (cB, 940, .inl f_tape))] H := hP
                        have hD : va_D A [(h0, .inr (10, vL 67 G39)), (h_tape, .inl (cB, 940, .inl f_tape))] := hD
                        refine W.widen (k := 0) (n := 0) (Nat.le_of_ble_eq_true rfl) (Nat.le_of_ble_eq_true rfl) ?_
                        refine lv_iload_n hx hb dX10_next_212 rfl (lv_at hl 1 rfl) ?_
                        refine lv_icmp_ne (tgt := 220) hx hb dX10_next_213 (by decide) (fun c407 => ?_) (fun c407 => ?_)
                        · have dc407 : 0 ≠ u33.toInt := ne_i (a := 0) (b := u33.toInt) rfl rfl c407
                          have k408 : 1 ≤ u33.toInt ∧ u33.toInt ≤ 1 := ⟨ne_lo dc407.symm i35.1 ⟨Int.le_refl _, Int.le_refl _⟩ (by decide), i35.2⟩
                          refine lv_iconst (v := 0) hx hb dX10_next_220 (by decide) ?_
                          refine lv_istore_n (lv' := [(3, .int 0), (2, .int u33), (1, .int v28), (0, .ref h0)]) hx hb dX10_next_221 rfl hl (by decide) rfl (fun ls hl => ?_)
                          exact cut299 0 (show 0 ≤ (0 : Int32).toInt ∧ (0 : Int32).toInt ≤ 1 by decide) (by show (0 = 1 → u33.toInt = 0 → (48 ≤ v261.toInt ∧ v261.toInt ≤ 57 ∧ 0 ≤ u42.toInt ∧ u42.toInt ≤ 999 ∧ (u41.toInt = 0 → u42.toInt = 0) ∧ (u41.toInt = 1 → u42.toInt ≤ 9) ∧ (u41.toInt = 2 → u42.toInt ≤ 99))); omega) _ _ _ hP hD hS (lv_sub hl [0, 1, 2, 3] rfl)
                        · have dc407 : 0 = u33.toInt := eq_i (a := 0) (b := u33.toInt) rfl rfl c407
                          have k409 : 0 ≤ u33.toInt ∧ u33.toInt ≤ 0 := ⟨i35.1, Int.le_trans (Int.le_of_eq dc407.symm) (Int.le_refl _)⟩
                          refine lv_iconst (v := 1) hx hb dX10_next_216 (by decide) ?_
                          refine lv_goto (tgt := 221) hx hb dX10_next_217 (by decide) ?_
                          refine lv_istore_n (lv' := [(3, .int 1), (2, .int u33), (1, .int v28), (0, .ref h0)]) hx hb dX10_next_221 rfl hl (by decide) rfl (fun ls hl => ?_)
                          exact cut299 1 (show 0 ≤ (1 : Int32).toInt ∧ (1 : Int32).toInt ≤ 1 by decide) (by show (1 = 1 → u33.toInt = 0 → (48 ≤ v261.toInt ∧ v261.toInt ≤ 57 ∧ 0 ≤ u42.toInt ∧ u42.toInt ≤ 999 ∧ (u41.toInt = 0 → u42.toInt = 0) ∧ (u41.toInt = 1 → u42.toInt ≤ 9) ∧ (u41.toInt = 2 → u42.toInt ≤ 99))); omega) _ _ _ hP hD hS (lv_sub hl [0, 1, 2, 3] rfl)
                      · have hP : va_P D vwCl [(h0, .inr (10, vL 67 G39)), (h_tape, .inl (cB, 940, .inl f_tape))] H := hP
                        have hD : va_D A [(h0, .inr (10, vL 67 G39)), (h_tape, .inl (cB, 940, .inl f_tape))] := hD
                        refine W.widen (k := 0) (n := 0) (Nat.le_of_ble_eq_true rfl) (Nat.le_of_ble_eq_true rfl) ?_
                        exact absurd t402 (by decide)
                      · have hP : va_P D vwCl [(h0, .inr (10, vL 67 G39)), (h_tape, .inl (cB, 940, .inl f_tape))] H := hP
                        have hD : va_D A [(h0, .inr (10, vL 67 G39)), (h_tape, .inl (cB, 940, .inl f_tape))] := hD
                        refine W.widen (k := 0) (n := 0) (Nat.le_of_ble_eq_true rfl) (Nat.le_of_ble_eq_true rfl) ?_
                        exact absurd t404 (by decide)
                    · have hP : va_P D vwCl [(h0, .inr (10, vL 67 G39)), (h_tape, .inl (cB, 940, .inl f_tape))] H := hP
                      have hD : va_D A [(h0, .inr (10, vL 67 G39)), (h_tape, .inl (cB, 940, .inl f_tape))] := hD
                      refine W.widen (k := 0) (n := 0) (Nat.le_of_ble_eq_true rfl) (Nat.le_of_ble_eq_true rfl) ?_
                      refine lv_ci (y := v261) ev261.symm ?_
                      refine call_Si (wr := [(h0, .inr (10, vL 67 G39)), (h_tape, .inl (cB, 940, .inl f_tape))]) (As := [.int v261]) (rest := []) hx hb hml hown hw (m_X10_isSmall l D cI cJ cB cP cM cZ v261 _ ) wS_X10_182_X10_isSmall dX10_next_209 hP hD hS hA [] [0, 1] rfl rfl (by decide) (by decide) (by decide) GG.fb hG.at hl.1 rfl (Nat.le_of_ble_eq_true rfl) ⟨(Nat.le_of_ble_eq_true rfl), (Nat.le_of_ble_eq_true rfl)⟩ ⟨(Nat.le_of_ble_eq_true rfl), (Nat.le_of_ble_eq_true rfl)⟩ (fun r410 u H locs hp hP hD hS => ?_)
                      rcases hp with ⟨t411, rfl, rfl⟩ | ⟨t412, t413, rfl, rfl⟩ | ⟨t414, t415, rfl, rfl⟩
                      · have hP : va_P D vwCl [(h0, .inr (10, vL 67 G39)), (h_tape, .inl (cB, 940, .inl f_tape))] H := hP
                        have hD : va_D A [(h0, .inr (10, vL 67 G39)), (h_tape, .inl (cB, 940, .inl f_tape))] := hD
                        refine W.widen (k := 0) (n := 0) (Nat.le_of_ble_eq_true rfl) (Nat.le_of_ble_eq_true rfl) ?_
                        refine lv_iload_n hx hb dX10_next_212 rfl (lv_at hl 1 rfl) ?_
                        refine lv_icmp_ne (tgt := 220) hx hb dX10_next_213 (by decide) (fun c417 => ?_) (fun c417 => ?_)
                        · have dc417 : 0 ≠ u33.toInt := ne_i (a := 0) (b := u33.toInt) rfl rfl c417
                          have k418 : 1 ≤ u33.toInt ∧ u33.toInt ≤ 1 := ⟨ne_lo dc417.symm i35.1 ⟨Int.le_refl _, Int.le_refl _⟩ (by decide), i35.2⟩
                          refine lv_iconst (v := 0) hx hb dX10_next_220 (by decide) ?_
                          refine lv_istore_n (lv' := [(3, .int 0), (2, .int u33), (1, .int v28), (0, .ref h0)]) hx hb dX10_next_221 rfl hl (by decide) rfl (fun ls hl => ?_)
                          exact cut299 0 (show 0 ≤ (0 : Int32).toInt ∧ (0 : Int32).toInt ≤ 1 by decide) (by show (0 = 1 → u33.toInt = 0 → (48 ≤ v261.toInt ∧ v261.toInt ≤ 57 ∧ 0 ≤ u42.toInt ∧ u42.toInt ≤ 999 ∧ (u41.toInt = 0 → u42.toInt = 0) ∧ (u41.toInt = 1 → u42.toInt ≤ 9) ∧ (u41.toInt = 2 → u42.toInt ≤ 99))); omega) _ _ _ hP hD hS (lv_sub hl [0, 1, 2, 3] rfl)
                        · have dc417 : 0 = u33.toInt := eq_i (a := 0) (b := u33.toInt) rfl rfl c417
                          have k419 : 0 ≤ u33.toInt ∧ u33.toInt ≤ 0 := ⟨i35.1, Int.le_trans (Int.le_of_eq dc417.symm) (Int.le_refl _)⟩
                          refine lv_iconst (v := 1) hx hb dX10_next_216 (by decide) ?_
                          refine lv_goto (tgt := 221) hx hb dX10_next_217 (by decide) ?_
                          refine lv_istore_n (lv' := [(3, .int 1), (2, .int u33), (1, .int v28), (0, .ref h0)]) hx hb dX10_next_221 rfl hl (by decide) rfl (fun ls hl => ?_)
                          exact cut299 1 (show 0 ≤ (1 : Int32).toInt ∧ (1 : Int32).toInt ≤ 1 by decide) (by show (1 = 1 → u33.toInt = 0 → (48 ≤ v261.toInt ∧ v261.toInt ≤ 57 ∧ 0 ≤ u42.toInt ∧ u42.toInt ≤ 999 ∧ (u41.toInt = 0 → u42.toInt = 0) ∧ (u41.toInt = 1 → u42.toInt ≤ 9) ∧ (u41.toInt = 2 → u42.toInt ≤ 99))); omega) _ _ _ hP hD hS (lv_sub hl [0, 1, 2, 3] rfl)
                      · have hP : va_P D vwCl [(h0, .inr (10, vL 67 G39)), (h_tape, .inl (cB, 940, .inl f_tape))] H := hP
                        have hD : va_D A [(h0, .inr (10, vL 67 G39)), (h_tape, .inl (cB, 940, .inl f_tape))] := hD
                        refine W.widen (k := 0) (n := 0) (Nat.le_of_ble_eq_true rfl) (Nat.le_of_ble_eq_true rfl) ?_
                        exact False.elim (bad_le t412 (Int.le_refl _) k297.2 (by decide))
                      · have hP : va_P D vwCl [(h0, .inr (10, vL 67 G39)), (h_tape, .inl (cB, 940, .inl f_tape))] H := hP
                        have hD : va_D A [(h0, .inr (10, vL 67 G39)), (h_tape, .inl (cB, 940, .inl f_tape))] := hD
                        refine W.widen (k := 0) (n := 0) (Nat.le_of_ble_eq_true rfl) (Nat.le_of_ble_eq_true rfl) ?_
                        exact False.elim (bad_le t414 (Int.le_refl _) k297.2 (by decide))
            · have hP : va_P D vwCl [(h0, .inr (10, vL 67 G39)), (h_tape, .inl (cB, 940, .inl f_tape))] H := hP
              have hD : va_D A [(h0, .inr (10, vL 67 G39)), (h_tape, .inl (cB, 940, .inl f_tape))] := hD
              refine W.widen (k := 0) (n := 0) (Nat.le_of_ble_eq_true rfl) (Nat.le_of_ble_eq_true rfl) ?_
              have k420 : 97 ≤ v261.toInt ∧ v261.toInt ≤ 255 := ⟨Int.le_trans (Int.le_refl _) t266, k262.2⟩
              have k421 : 123 ≤ v261.toInt ∧ v261.toInt ≤ 255 := ⟨lo_lt t267 (Int.le_refl _) (by decide), k420.2⟩
              refine lv_if_ne (tgt := 201) hx hb dX10_next_188 (by decide) (fun g => absurd (by decide) g) (fun _ => ?_)
              refine lv_aload_n hx hb dX10_next_191 rfl (lv_at hl 3 rfl) ?_
              refine call_Vi (wr := []) (As := []) (rest := []) hx hb hml hown hw (m_X10_peek l D cI cJ cB cP cM cZ h0 h_tape G39 x_size u40 f_tape _ n94 n97 (ir_wk k31 (by decide) (by decide)) i83 (ir_wk k263 (by decide) (by decide))) wV_X10_169_X10_peek dX10_next_192 hK hP hD hS hA [0, 1] [] rfl rfl (by decide) (by decide) (by decide) 0 10 rfl rfl GG.fb hG.at hl.1 rfl (Nat.le_of_ble_eq_true rfl) ⟨(Nat.le_of_ble_eq_true rfl), (Nat.le_of_ble_eq_true rfl)⟩ ⟨(Nat.le_of_ble_eq_true rfl), (Nat.le_of_ble_eq_true rfl)⟩ (fun r422 u H locs hp hP hD hS => ?_)
              rcases hp with ⟨t423, rfl, rfl⟩ | ⟨t424, t425, rfl, rfl⟩
              · have hP : va_P D vwCl [(h0, .inr (10, vL 67 G39)), (h_tape, .inl (cB, 940, .inl f_tape))] H := hP
                have hD : va_D A [(h0, .inr (10, vL 67 G39)), (h_tape, .inl (cB, 940, .inl f_tape))] := hD
                refine W.widen (k := 0) (n := 0) (Nat.le_of_ble_eq_true rfl) (Nat.le_of_ble_eq_true rfl) ?_
                have k427 : 1 ≤ x_size.toInt ∧ x_size.toInt ≤ 939 := ⟨k31.1, Int.le_trans t423 k263.2⟩
                have k428 : 1 ≤ u40.toInt ∧ u40.toInt ≤ 939 := ⟨Int.le_trans k31.1 t423, k263.2⟩
                refine call_Si (wr := [(h0, .inr (10, vL 67 G39)), (h_tape, .inl (cB, 940, .inl f_tape))]) (As := [.int (-1)]) (rest := []) hx hb hml hown hw (m_X10_isDigit l D cI cJ cB cP cM cZ (-1) _ ) wS_X10_186_X10_isDigit dX10_next_195 hP hD hS hA [] [0, 1] rfl rfl (by decide) (by decide) (by decide) GG.fb hG.at hl.1 rfl (Nat.le_of_ble_eq_true rfl) ⟨(Nat.le_of_ble_eq_true rfl), (Nat.le_of_ble_eq_true rfl)⟩ ⟨(Nat.le_of_ble_eq_true rfl), (Nat.le_of_ble_eq_true rfl)⟩ (fun r429 u H locs hp hP hD hS => ?_)
                have zlm1 : ((-1) : Int32).toInt = (-1) := by decide
                rcases hp with ⟨t430, rfl, rfl⟩ | ⟨t431, t432, rfl, rfl⟩ | ⟨t433, t434, rfl, rfl⟩
                · have hP : va_P D vwCl [(h0, .inr (10, vL 67 G39)), (h_tape, .inl (cB, 940, .inl f_tape))] H := hP
                  have hD : va_D A [(h0, .inr (10, vL 67 G39)), (h_tape, .inl (cB, 940, .inl f_tape))] := hD
                  refine W.widen (k := 0) (n := 0) (Nat.le_of_ble_eq_true rfl) (Nat.le_of_ble_eq_true rfl) ?_
                  refine lv_if_eq (tgt := 298) hx hb dX10_next_198 (by decide) (fun _ => ?_) (fun g => absurd (by decide) g)
                  have hgv28 : v28.toInt = (((f_tape u2.toNatClampNeg) &&& 255)).toInt := by rw [ev28]
                  have hgv261 : v261.toInt = (((f_tape u40.toNatClampNeg) &&& 255)).toInt := by rw [ev261]
                  have hfst : u40.toInt = u2.toInt → (f_tape u40.toNatClampNeg &&& 255).toInt = (f_tape u2.toNatClampNeg &&& 255).toInt := fun h9 => by rw [Int32.toInt_inj.mp h9]
                  exact cut44 u38 G39 u40 u41 u42 u43 i81 (SAME.tr SAME.rf i82 (by decide)) i83 i84 i85 i86 (ir_wk k428 (by decide) (by decide)) i88 (by show 0 ≤ u41.toInt ∧ u41.toInt ≤ u40.toInt ∧ x_p.toInt + u41.toInt ≤ u40.toInt ∧ (u41.toInt = 0 → u40.toInt = u2.toInt); omega) (by show u38.toInt = 1 → u33.toInt = 0 → (0 ≤ u42.toInt ∧ u42.toInt ≤ 999 ∧ (u41.toInt = 0 → u42.toInt = 0) ∧ (u41.toInt = 1 → u42.toInt ≤ 9) ∧ (u41.toInt = 2 → u42.toInt ≤ 99)); omega) (by show (x_token.toInt = 2 → 0 ≤ u42.toInt ∧ u42.toInt ≤ 999); omega) (by show 1 ≤ u41.toInt; omega) _ _ _ hP hD hS (lv_sub hl [0, 1, 2, 3] rfl)
                · have hP : va_P D vwCl [(h0, .inr (10, vL 67 G39)), (h_tape, .inl (cB, 940, .inl f_tape))] H := hP
                  have hD : va_D A [(h0, .inr (10, vL 67 G39)), (h_tape, .inl (cB, 940, .inl f_tape))] := hD
                  refine W.widen (k := 0) (n := 0) (Nat.le_of_ble_eq_true rfl) (Nat.le_of_ble_eq_true rfl) ?_
                  exact absurd t431 (by decide)
                · have hP : va_P D vwCl [(h0, .inr (10, vL 67 G39)), (h_tape, .inl (cB, 940, .inl f_tape))] H := hP
                  have hD : va_D A [(h0, .inr (10, vL 67 G39)), (h_tape, .inl (cB, 940, .inl f_tape))] := hD
                  refine W.widen (k := 0) (n := 0) (Nat.le_of_ble_eq_true rfl) (Nat.le_of_ble_eq_true rfl) ?_
                  exact absurd t433 (by decide)
              · have hP : va_P D vwCl [(h0, .inr (10, vL 67 G39)), (h_tape, .inl (cB, 940, .inl f_tape))] H := hP
                have hD : va_D A [(h0, .inr (10, vL 67 G39)), (h_tape, .inl (cB, 940, .inl f_tape))] := hD
                refine W.widen (k := 0) (n := 0) (Nat.le_of_ble_eq_true rfl) (Nat.le_of_ble_eq_true rfl) ?_
                refine lv_ci (y := v261) ev261.symm ?_
                refine call_Si (wr := [(h0, .inr (10, vL 67 G39)), (h_tape, .inl (cB, 940, .inl f_tape))]) (As := [.int v261]) (rest := []) hx hb hml hown hw (m_X10_isDigit l D cI cJ cB cP cM cZ v261 _ ) wS_X10_186_X10_isDigit dX10_next_195 hP hD hS hA [] [0, 1] rfl rfl (by decide) (by decide) (by decide) GG.fb hG.at hl.1 rfl (Nat.le_of_ble_eq_true rfl) ⟨(Nat.le_of_ble_eq_true rfl), (Nat.le_of_ble_eq_true rfl)⟩ ⟨(Nat.le_of_ble_eq_true rfl), (Nat.le_of_ble_eq_true rfl)⟩ (fun r436 u H locs hp hP hD hS => ?_)
                rcases hp with ⟨t437, rfl, rfl⟩ | ⟨t438, t439, rfl, rfl⟩ | ⟨t440, t441, rfl, rfl⟩
                · have hP : va_P D vwCl [(h0, .inr (10, vL 67 G39)), (h_tape, .inl (cB, 940, .inl f_tape))] H := hP
                  have hD : va_D A [(h0, .inr (10, vL 67 G39)), (h_tape, .inl (cB, 940, .inl f_tape))] := hD
                  refine W.widen (k := 0) (n := 0) (Nat.le_of_ble_eq_true rfl) (Nat.le_of_ble_eq_true rfl) ?_
                  exact False.elim (bad_lt t437 k421.1 (Int.le_refl _) (by decide))
                · have hP : va_P D vwCl [(h0, .inr (10, vL 67 G39)), (h_tape, .inl (cB, 940, .inl f_tape))] H := hP
                  have hD : va_D A [(h0, .inr (10, vL 67 G39)), (h_tape, .inl (cB, 940, .inl f_tape))] := hD
                  refine W.widen (k := 0) (n := 0) (Nat.le_of_ble_eq_true rfl) (Nat.le_of_ble_eq_true rfl) ?_
                  refine lv_if_eq (tgt := 298) hx hb dX10_next_198 (by decide) (fun _ => ?_) (fun g => absurd (by decide) g)
                  have hgv28 : v28.toInt = (((f_tape u2.toNatClampNeg) &&& 255)).toInt := by rw [ev28]
                  have hgv261 : v261.toInt = (((f_tape u40.toNatClampNeg) &&& 255)).toInt := by rw [ev261]
                  have hfst : u40.toInt = u2.toInt → (f_tape u40.toNatClampNeg &&& 255).toInt = (f_tape u2.toNatClampNeg &&& 255).toInt := fun h9 => by rw [Int32.toInt_inj.mp h9]
                  exact cut44 u38 G39 u40 u41 u42 u43 i81 (SAME.tr SAME.rf i82 (by decide)) i83 i84 i85 i86 (ir_wk k263 (by decide) (by decide)) i88 (by show 0 ≤ u41.toInt ∧ u41.toInt ≤ u40.toInt ∧ x_p.toInt + u41.toInt ≤ u40.toInt ∧ (u41.toInt = 0 → u40.toInt = u2.toInt); omega) (by show u38.toInt = 1 → u33.toInt = 0 → (0 ≤ u42.toInt ∧ u42.toInt ≤ 999 ∧ (u41.toInt = 0 → u42.toInt = 0) ∧ (u41.toInt = 1 → u42.toInt ≤ 9) ∧ (u41.toInt = 2 → u42.toInt ≤ 99)); omega) (by show (x_token.toInt = 2 → 0 ≤ u42.toInt ∧ u42.toInt ≤ 999); omega) (by show 1 ≤ u41.toInt; omega) _ _ _ hP hD hS (lv_sub hl [0, 1, 2, 3] rfl)
                · have hP : va_P D vwCl [(h0, .inr (10, vL 67 G39)), (h_tape, .inl (cB, 940, .inl f_tape))] H := hP
                  have hD : va_D A [(h0, .inr (10, vL 67 G39)), (h_tape, .inl (cB, 940, .inl f_tape))] := hD
                  refine W.widen (k := 0) (n := 0) (Nat.le_of_ble_eq_true rfl) (Nat.le_of_ble_eq_true rfl) ?_
                  exact False.elim (bad_le t441 k421.1 (Int.le_refl _) (by decide))
            · have hP : va_P D vwCl [(h0, .inr (10, vL 67 G39)), (h_tape, .inl (cB, 940, .inl f_tape))] H := hP
              have hD : va_D A [(h0, .inr (10, vL 67 G39)), (h_tape, .inl (cB, 940, .inl f_tape))] := hD
              refine W.widen (k := 0) (n := 0) (Nat.le_of_ble_eq_true rfl) (Nat.le_of_ble_eq_true rfl) ?_
              have k443 : 97 ≤ v261.toInt ∧ v261.toInt ≤ 255 := ⟨Int.le_trans (Int.le_refl _) t268, k262.2⟩
              have k444 : 97 ≤ v261.toInt ∧ v261.toInt ≤ 122 := ⟨k443.1, Int.le_trans t269 (Int.le_refl _)⟩
              refine lv_if_ne (tgt := 201) hx hb dX10_next_188 (by decide) (fun _ => ?_) (fun g => absurd g (by decide))
              have cut446 : ∀ (u445 : Int32) (_ : IR 0 1 u445) (_ : ((u445.toInt = 1 → u33.toInt = 0 → (48 ≤ v261.toInt ∧ v261.toInt ≤ 57 ∧ 0 ≤ u42.toInt ∧ u42.toInt ≤ 999 ∧ (u41.toInt = 0 → u42.toInt = 0) ∧ (u41.toInt = 1 → u42.toInt ≤ 9) ∧ (u41.toInt = 2 → u42.toInt ≤ 99))))) (H : Heap) (locs : List Loc) (ls : Array Slot), va_P D vwCl [(h0, .inr (10, vL 67 G39)), (h_tape, .inl (cB, 940, .inl f_tape))] H → va_D A [(h0, .inr (10, vL 67 G39)), (h_tape, .inl (cB, 940, .inl f_tape))] → va_S A s.heap H locs → lv_has ls 4 [(3, .int u445), (2, .int u33), (1, .int v28), (0, .ref h0)] → W p l e ({ frames := 1, cells := 0, slots := 0, locals := 20 } : Room) s m [.ref h0].toArray below meth c H locs 0 0 (MQ below (va_Qv (fun (u : va_W) => ∃ (Gh : Nat → Value) (y_p : Int32) (y_token : Int32) (y_at : Int32) (y_span : Int32) (y_number : Int32) (y_word : Int64), SAME [4, 11, 12, 13, 14, 18] Fh Gh ∧ Gh 4 = .int y_p ∧ IR 0 940 y_p ∧ Gh 11 = .int y_token ∧ IR 0 4 y_token ∧ Gh 12 = .int y_at ∧ IR 0 940 y_at ∧ Gh 13 = .int y_span ∧ IR 0 940 y_span ∧ Gh 14 = .int y_number ∧ Gh 18 = .long y_word ∧ (x_p.toInt ≤ y_p.toInt) ∧ ((1 ≤ y_token.toInt → y_token.toInt ≤ 3 → x_p.toInt < y_p.toInt)) ∧ ((y_token.toInt = 2 → 0 ≤ y_number.toInt ∧ y_number.toInt ≤ 999)) ∧ u = [(h0, .inr (10, vL 67 Gh)), (h_tape, .inl (cB, 940, .inl f_tape))]) (PO D A) A) [.ref h0].toArray s 0 0 A) (F0 m 222 ls []) := by
                intro u445 i447 i448 H locs ls hP hD hS hl
                have i447 : 0 ≤ u445.toInt ∧ u445.toInt ≤ 1 := i447
                have i448 : (u445.toInt = 1 → u33.toInt = 0 → (48 ≤ v261.toInt ∧ v261.toInt ≤ 57 ∧ 0 ≤ u42.toInt ∧ u42.toInt ≤ 999 ∧ (u41.toInt = 0 → u42.toInt = 0) ∧ (u41.toInt = 1 → u42.toInt ≤ 9) ∧ (u41.toInt = 2 → u42.toInt ≤ 99))) := i448
                have cut451 : ∀ (G449 : Nat → Value) (u450 : Int64) (_ : SAME [18] G39 G449) (_ : G449 18 = .long u450) (H : Heap) (locs : List Loc) (ls : Array Slot), va_P D vwCl [(h0, .inr (10, vL 67 G449)), (h_tape, .inl (cB, 940, .inl f_tape))] H → va_D A [(h0, .inr (10, vL 67 G449)), (h_tape, .inl (cB, 940, .inl f_tape))] → va_S A s.heap H locs → lv_has ls 4 [(3, .int u445), (2, .int u33), (1, .int v28), (0, .ref h0)] → W p l e ({ frames := 1, cells := 0, slots := 0, locals := 20 } : Room) s m [.ref h0].toArray below meth c H locs 0 0 (MQ below (va_Qv (fun (u : va_W) => ∃ (Gh : Nat → Value) (y_p : Int32) (y_token : Int32) (y_at : Int32) (y_span : Int32) (y_number : Int32) (y_word : Int64), SAME [4, 11, 12, 13, 14, 18] Fh Gh ∧ Gh 4 = .int y_p ∧ IR 0 940 y_p ∧ Gh 11 = .int y_token ∧ IR 0 4 y_token ∧ Gh 12 = .int y_at ∧ IR 0 940 y_at ∧ Gh 13 = .int y_span ∧ IR 0 940 y_span ∧ Gh 14 = .int y_number ∧ Gh 18 = .long y_word ∧ (x_p.toInt ≤ y_p.toInt) ∧ ((1 ≤ y_token.toInt → y_token.toInt ≤ 3 → x_p.toInt < y_p.toInt)) ∧ ((y_token.toInt = 2 → 0 ≤ y_number.toInt ∧ y_number.toInt ≤ 999)) ∧ u = [(h0, .inr (10, vL 67 Gh)), (h_tape, .inl (cB, 940, .inl f_tape))]) (PO D A) A) [.ref h0].toArray s 0 0 A) (F0 m 248 ls []) := by
                  intro G449 u450 i452 i453 H locs ls hP hD hS hl
                  refine lv_aload_n hx hb dX10_next_248 rfl (lv_at hl 3 rfl) ?_
                  have n454 : G449 13 = .int u41 := (SAME.at i452 (by decide) i84)
                  refine get_f (D := D) (ci := 10) (v := .int u41) (C := RX10) (T := TX10) (N := 67) hx hb hw inAX10 hown hK hP 0 rfl rfl 13 (by decide) (hw _ q_1274) (fun _ h9 => h9) n454 dX10_next_249 ?_
                  refine lv_iconst (v := 3) hx hb dX10_next_252 (by decide) ?_
                  refine lv_icmp_ge (tgt := 275) hx hb dX10_next_253 (by decide) (fun c455 => ?_) (fun c455 => ?_)
                  · have dc455 : 3 ≤ u41.toInt := le_i (a := 3) (b := u41.toInt) rfl rfl c455
                    have k456 : 3 ≤ u41.toInt ∧ u41.toInt ≤ 940 := ⟨Int.le_trans (Int.le_refl _) dc455, i88.2⟩
                    refine lv_aload_n hx hb dX10_next_275 rfl (lv_at hl 3 rfl) ?_
                    refine lv_dup hx hb dX10_next_276 rfl ?_
                    refine get_f (D := D) (ci := 10) (v := .int u41) (C := RX10) (T := TX10) (N := 67) hx hb hw inAX10 hown hK hP 0 rfl rfl 13 (by decide) (hw _ q_1274) (fun _ h9 => h9) n454 dX10_next_277 ?_
                    refine lv_iconst (v := 1) hx hb dX10_next_280 (by decide) ?_
                    refine lv_iadd hx hb dX10_next_281 ?_
                    refine lv_topi (fun v457 ev457 => ?_)
                    have bv457 : v457.toInt = u41.toInt + 1 := by rw [ev457]; exact add_k rfl rfl k456 ⟨Int.le_refl _, Int.le_refl _⟩ (by decide)
                    have k458 : 4 ≤ v457.toInt ∧ v457.toInt ≤ 941 := add_r bv457 k456 ⟨Int.le_refl _, Int.le_refl _⟩ (by decide)
                    refine put_f (D := D) (ci := 10) (v := .int v457) (ty := .int) (C := RX10) (T := TX10) (N := 67) hx hb hw inAX10 tyX10 tyX10_ok nmX10 hown hK hP hD hS 0 rfl rfl 13 (by decide) (hw _ q_1274) (fun _ h9 => h9) rfl (by decide +kernel) rfl rfl dX10_next_282 (fun H locs F459 eF459 hP hD hS => ?_)
                    have hP : va_P D vwCl [(h0, .inr (10, vL 67 F459)), (h_tape, .inl (cB, 940, .inl f_tape))] H := hP
                    have hD : va_D A [(h0, .inr (10, vL 67 F459)), (h_tape, .inl (cB, 940, .inl f_tape))] := hD
                    refine lv_aload_n hx hb dX10_next_285 rfl (lv_at hl 3 rfl) ?_
                    refine lv_dup hx hb dX10_next_286 rfl ?_
                    have n460 : G449 4 = .int u40 := (SAME.at i452 (by decide) i83)
                    have n461 : F459 4 = .int u40 := (get_ne eF459 (by decide) n460)
                    refine get_f (D := D) (ci := 10) (v := .int u40) (C := RX10) (T := TX10) (N := 67) hx hb hw inAX10 hown hK hP 0 rfl rfl 4 (by decide) (hw _ q_1265) (fun _ h9 => h9) n461 dX10_next_287 ?_
                    refine lv_iconst (v := 1) hx hb dX10_next_290 (by decide) ?_
                    refine lv_iadd hx hb dX10_next_291 ?_
                    refine lv_topi (fun v462 ev462 => ?_)
                    have bv462 : v462.toInt = u40.toInt + 1 := by rw [ev462]; exact add_k rfl rfl k263 ⟨Int.le_refl _, Int.le_refl _⟩ (by decide)
                    have k463 : 1 ≤ v462.toInt ∧ v462.toInt ≤ 940 := add_r bv462 k263 ⟨Int.le_refl _, Int.le_refl _⟩ (by decide)
                    refine put_f (D := D) (ci := 10) (v := .int v462) (ty := .int) (C := RX10) (T := TX10) (N := 67) hx hb hw inAX10 tyX10 tyX10_ok nmX10 hown hK hP hD hS 0 rfl rfl 4 (by decide) (hw _ q_1265) (fun _ h9 => h9) rfl (by decide +kernel) rfl rfl dX10_next_292 (fun H locs F464 eF464 hP hD hS => ?_)
                    have hP : va_P D vwCl [(h0, .inr (10, vL 67 F464)), (h_tape, .inl (cB, 940, .inl f_tape))] H := hP
                    have hD : va_D A [(h0, .inr (10, vL 67 F464)), (h_tape, .inl (cB, 940, .inl f_tape))] := hD
                    refine lv_goto (tgt := 181) hx hb dX10_next_295 (by decide) ?_
                    have n465 : F464 13 = .int v457 := (get_ne eF464 (by decide) (get_eq eF459))
                    have n466 : G449 14 = .int u42 := (SAME.at i452 (by decide) i85)
                    have n467 : F459 14 = .int u42 := (get_ne eF459 (by decide) n466)
                    have n468 : F464 14 = .int u42 := (get_ne eF464 (by decide) n467)
                    have n469 : F459 18 = .long u450 := (get_ne eF459 (by decide) i453)
                    have n470 : F464 18 = .long u450 := (get_ne eF464 (by decide) n469)
                    exact ih (u445, F464, v462, v457, u42, u450) ⟨i447, (SAME.up eF464 (SAME.up eF459 (SAME.tr (SAME.tr SAME.rf i82 (by decide)) i452 (by decide)) (by decide)) (by decide)), (get_eq eF464), n465, n468, n470, (ir_wk k463 (by decide) (by decide)), ⟨by omega, by omega⟩, (by show 0 ≤ v457.toInt ∧ v457.toInt ≤ v462.toInt ∧ x_p.toInt + v457.toInt ≤ v462.toInt ∧ (v457.toInt = 0 → v462.toInt = u2.toInt); omega), (by show u445.toInt = 1 → u33.toInt = 0 → (0 ≤ u42.toInt ∧ u42.toInt ≤ 999 ∧ (v457.toInt = 0 → u42.toInt = 0) ∧ (v457.toInt = 1 → u42.toInt ≤ 9) ∧ (v457.toInt = 2 → u42.toInt ≤ 99)); omega), (by show (x_token.toInt = 2 → 0 ≤ u42.toInt ∧ u42.toInt ≤ 999); omega)⟩ (by show (x_size.toInt - v462.toInt).toNat < (x_size.toInt - u40.toInt).toNat; omega) _ _ _ hP hD hS (lv_sub hl [0, 1, 2, 3] rfl)
                  · have dc455 : u41.toInt < 3 := nle_i (a := 3) (b := u41.toInt) rfl rfl c455
                    have k471 : 0 ≤ u41.toInt ∧ u41.toInt ≤ 2 := ⟨i88.1, up_lt dc455 (Int.le_refl _) (by decide)⟩
                    refine lv_aload_n hx hb dX10_next_256 rfl (lv_at hl 3 rfl) ?_
                    refine lv_bipush (v := 10) hx hb dX10_next_257 (by decide) ?_
                    refine lv_aload_n hx hb dX10_next_259 rfl (lv_at hl 3 rfl) ?_
                    have n472 : G449 14 = .int u42 := (SAME.at i452 (by decide) i85)
                    refine get_f (D := D) (ci := 10) (v := .int u42) (C := RX10) (T := TX10) (N := 67) hx hb hw inAX10 hown hK hP 0 rfl rfl 14 (by decide) (hw _ q_1275) (fun _ h9 => h9) n472 dX10_next_260 ?_
                    refine lv_imul hx hb dX10_next_263 ?_
                    refine lv_topi (fun v473 ev473 => ?_)
                    refine lv_aload_n hx hb dX10_next_264 rfl (lv_at hl 3 rfl) ?_
                    have n474 : G449 1 = .ref h_tape := (SAME.at i452 (by decide) n94)
                    have n475 : G449 3 = .int x_size := (SAME.at i452 (by decide) n97)
                    have n476 : G449 4 = .int u40 := (SAME.at i452 (by decide) i83)
                    refine call_Vi (wr := []) (As := []) (rest := [.int v473, .ref h0]) hx hb hml hown hw (m_X10_peek l D cI cJ cB cP cM cZ h0 h_tape G449 x_size u40 f_tape _ n474 n475 (ir_wk k31 (by decide) (by decide)) n476 (ir_wk k263 (by decide) (by decide))) wV_X10_169_X10_peek dX10_next_265 hK hP hD hS hA [0, 1] [] rfl rfl (by decide) (by decide) (by decide) 0 10 rfl rfl GG.fb hG.at hl.1 rfl (Nat.le_of_ble_eq_true rfl) ⟨(Nat.le_of_ble_eq_true rfl), (Nat.le_of_ble_eq_true rfl)⟩ ⟨(Nat.le_of_ble_eq_true rfl), (Nat.le_of_ble_eq_true rfl)⟩ (fun r477 u H locs hp hP hD hS => ?_)
                    rcases hp with ⟨t478, rfl, rfl⟩ | ⟨t479, t480, rfl, rfl⟩
                    · have hP : va_P D vwCl [(h0, .inr (10, vL 67 G449)), (h_tape, .inl (cB, 940, .inl f_tape))] H := hP
                      have hD : va_D A [(h0, .inr (10, vL 67 G449)), (h_tape, .inl (cB, 940, .inl f_tape))] := hD
                      refine W.widen (k := 0) (n := 0) (Nat.le_of_ble_eq_true rfl) (Nat.le_of_ble_eq_true rfl) ?_
                      have k482 : 1 ≤ x_size.toInt ∧ x_size.toInt ≤ 939 := ⟨k31.1, Int.le_trans t478 k263.2⟩
                      have k483 : 1 ≤ u40.toInt ∧ u40.toInt ≤ 939 := ⟨Int.le_trans k31.1 t478, k263.2⟩
                      refine lv_iadd hx hb dX10_next_268 ?_
                      refine lv_topi (fun v484 ev484 => ?_)
                      refine lv_bipush (v := 48) hx hb dX10_next_269 (by decide) ?_
                      refine lv_isub hx hb dX10_next_271 ?_
                      refine lv_topi (fun v485 ev485 => ?_)
                      refine put_f (D := D) (ci := 10) (v := .int v485) (ty := .int) (C := RX10) (T := TX10) (N := 67) hx hb hw inAX10 tyX10 tyX10_ok nmX10 hown hK hP hD hS 0 rfl rfl 14 (by decide) (hw _ q_1275) (fun _ h9 => h9) rfl (by decide +kernel) rfl rfl dX10_next_272 (fun H locs F486 eF486 hP hD hS => ?_)
                      have hP : va_P D vwCl [(h0, .inr (10, vL 67 F486)), (h_tape, .inl (cB, 940, .inl f_tape))] H := hP
                      have hD : va_D A [(h0, .inr (10, vL 67 F486)), (h_tape, .inl (cB, 940, .inl f_tape))] := hD
                      refine lv_aload_n hx hb dX10_next_275 rfl (lv_at hl 3 rfl) ?_
                      refine lv_dup hx hb dX10_next_276 rfl ?_
                      have n487 : F486 13 = .int u41 := (get_ne eF486 (by decide) n454)
                      refine get_f (D := D) (ci := 10) (v := .int u41) (C := RX10) (T := TX10) (N := 67) hx hb hw inAX10 hown hK hP 0 rfl rfl 13 (by decide) (hw _ q_1274) (fun _ h9 => h9) n487 dX10_next_277 ?_
                      refine lv_iconst (v := 1) hx hb dX10_next_280 (by decide) ?_
                      refine lv_iadd hx hb dX10_next_281 ?_
                      refine lv_topi (fun v488 ev488 => ?_)
                      have bv488 : v488.toInt = u41.toInt + 1 := by rw [ev488]; exact add_k rfl rfl k471 ⟨Int.le_refl _, Int.le_refl _⟩ (by decide)
                      have k489 : 1 ≤ v488.toInt ∧ v488.toInt ≤ 3 := add_r bv488 k471 ⟨Int.le_refl _, Int.le_refl _⟩ (by decide)
                      refine put_f (D := D) (ci := 10) (v := .int v488) (ty := .int) (C := RX10) (T := TX10) (N := 67) hx hb hw inAX10 tyX10 tyX10_ok nmX10 hown hK hP hD hS 0 rfl rfl 13 (by decide) (hw _ q_1274) (fun _ h9 => h9) rfl (by decide +kernel) rfl rfl dX10_next_282 (fun H locs F490 eF490 hP hD hS => ?_)
                      have hP : va_P D vwCl [(h0, .inr (10, vL 67 F490)), (h_tape, .inl (cB, 940, .inl f_tape))] H := hP
                      have hD : va_D A [(h0, .inr (10, vL 67 F490)), (h_tape, .inl (cB, 940, .inl f_tape))] := hD
                      refine lv_aload_n hx hb dX10_next_285 rfl (lv_at hl 3 rfl) ?_
                      refine lv_dup hx hb dX10_next_286 rfl ?_
                      have n491 : F486 4 = .int u40 := (get_ne eF486 (by decide) n476)
                      have n492 : F490 4 = .int u40 := (get_ne eF490 (by decide) n491)
                      refine get_f (D := D) (ci := 10) (v := .int u40) (C := RX10) (T := TX10) (N := 67) hx hb hw inAX10 hown hK hP 0 rfl rfl 4 (by decide) (hw _ q_1265) (fun _ h9 => h9) n492 dX10_next_287 ?_
                      refine lv_iconst (v := 1) hx hb dX10_next_290 (by decide) ?_
                      refine lv_iadd hx hb dX10_next_291 ?_
                      refine lv_topi (fun v493 ev493 => ?_)
                      have bv493 : v493.toInt = u40.toInt + 1 := by rw [ev493]; exact add_k rfl rfl k483 ⟨Int.le_refl _, Int.le_refl _⟩ (by decide)
                      have k494 : 2 ≤ v493.toInt ∧ v493.toInt ≤ 940 := add_r bv493 k483 ⟨Int.le_refl _, Int.le_refl _⟩ (by decide)
                      refine put_f (D := D) (ci := 10) (v := .int v493) (ty := .int) (C := RX10) (T := TX10) (N := 67) hx hb hw inAX10 tyX10 tyX10_ok nmX10 hown hK hP hD hS 0 rfl rfl 4 (by decide) (hw _ q_1265) (fun _ h9 => h9) rfl (by decide +kernel) rfl rfl dX10_next_292 (fun H locs F495 eF495 hP hD hS => ?_)
                      have hP : va_P D vwCl [(h0, .inr (10, vL 67 F495)), (h_tape, .inl (cB, 940, .inl f_tape))] H := hP
                      have hD : va_D A [(h0, .inr (10, vL 67 F495)), (h_tape, .inl (cB, 940, .inl f_tape))] := hD
                      refine lv_goto (tgt := 181) hx hb dX10_next_295 (by decide) ?_
                      have n496 : F495 13 = .int v488 := (get_ne eF495 (by decide) (get_eq eF490))
                      have n497 : F490 14 = .int v485 := (get_ne eF490 (by decide) (get_eq eF486))
                      have n498 : F495 14 = .int v485 := (get_ne eF495 (by decide) n497)
                      have n499 : F486 18 = .long u450 := (get_ne eF486 (by decide) i453)
                      have n500 : F490 18 = .long u450 := (get_ne eF490 (by decide) n499)
                      have n501 : F495 18 = .long u450 := (get_ne eF495 (by decide) n500)
                      exact ih (u445, F495, v493, v488, v485, u450) ⟨i447, (SAME.up eF495 (SAME.up eF490 (SAME.up eF486 (SAME.tr (SAME.tr SAME.rf i82 (by decide)) i452 (by decide)) (by decide)) (by decide)) (by decide)), (get_eq eF495), n496, n498, n501, (ir_wk k494 (by decide) (by decide)), (ir_wk k489 (by decide) (by decide)), (by show 0 ≤ v488.toInt ∧ v488.toInt ≤ v493.toInt ∧ x_p.toInt + v488.toInt ≤ v493.toInt ∧ (v488.toInt = 0 → v493.toInt = u2.toInt); omega), (by show u445.toInt = 1 → u33.toInt = 0 → (0 ≤ v485.toInt ∧ v485.toInt ≤ 999 ∧ (v488.toInt = 0 → v485.toInt = 0) ∧ (v488.toInt = 1 → v485.toInt ≤ 9) ∧ (v488.toInt = 2 → v485.toInt ≤ 99)); omega), (by show (x_token.toInt = 2 → 0 ≤ v485.toInt ∧ v485.toInt ≤ 999); omega)⟩ (by show (x_size.toInt - v493.toInt).toNat < (x_size.toInt - u40.toInt).toNat; omega) _ _ _ hP hD hS (lv_sub hl [0, 1, 2, 3] rfl)
                    · have hP : va_P D vwCl [(h0, .inr (10, vL 67 G449)), (h_tape, .inl (cB, 940, .inl f_tape))] H := hP
                      have hD : va_D A [(h0, .inr (10, vL 67 G449)), (h_tape, .inl (cB, 940, .inl f_tape))] := hD
                      refine W.widen (k := 0) (n := 0) (Nat.le_of_ble_eq_true rfl) (Nat.le_of_ble_eq_true rfl) ?_
                      refine lv_ci (y := v261) ev261.symm ?_
                      refine lv_iadd hx hb dX10_next_268 ?_
                      refine lv_topi (fun v502 ev502 => ?_)
                      refine lv_bipush (v := 48) hx hb dX10_next_269 (by decide) ?_
                      refine lv_isub hx hb dX10_next_271 ?_
                      refine lv_topi (fun v503 ev503 => ?_)
                      refine put_f (D := D) (ci := 10) (v := .int v503) (ty := .int) (C := RX10) (T := TX10) (N := 67) hx hb hw inAX10 tyX10 tyX10_ok nmX10 hown hK hP hD hS 0 rfl rfl 14 (by decide) (hw _ q_1275) (fun _ h9 => h9) rfl (by decide +kernel) rfl rfl dX10_next_272 (fun H locs F504 eF504 hP hD hS => ?_)
                      have hP : va_P D vwCl [(h0, .inr (10, vL 67 F504)), (h_tape, .inl (cB, 940, .inl f_tape))] H := hP
                      have hD : va_D A [(h0, .inr (10, vL 67 F504)), (h_tape, .inl (cB, 940, .inl f_tape))] := hD
                      refine lv_aload_n hx hb dX10_next_275 rfl (lv_at hl 3 rfl) ?_
                      refine lv_dup hx hb dX10_next_276 rfl ?_
                      have n505 : F504 13 = .int u41 := (get_ne eF504 (by decide) n454)
                      refine get_f (D := D) (ci := 10) (v := .int u41) (C := RX10) (T := TX10) (N := 67) hx hb hw inAX10 hown hK hP 0 rfl rfl 13 (by decide) (hw _ q_1274) (fun _ h9 => h9) n505 dX10_next_277 ?_
                      refine lv_iconst (v := 1) hx hb dX10_next_280 (by decide) ?_
                      refine lv_iadd hx hb dX10_next_281 ?_
                      refine lv_topi (fun v506 ev506 => ?_)
                      have bv506 : v506.toInt = u41.toInt + 1 := by rw [ev506]; exact add_k rfl rfl k471 ⟨Int.le_refl _, Int.le_refl _⟩ (by decide)
                      have k507 : 1 ≤ v506.toInt ∧ v506.toInt ≤ 3 := add_r bv506 k471 ⟨Int.le_refl _, Int.le_refl _⟩ (by decide)
                      refine put_f (D := D) (ci := 10) (v := .int v506) (ty := .int) (C := RX10) (T := TX10) (N := 67) hx hb hw inAX10 tyX10 tyX10_ok nmX10 hown hK hP hD hS 0 rfl rfl 13 (by decide) (hw _ q_1274) (fun _ h9 => h9) rfl (by decide +kernel) rfl rfl dX10_next_282 (fun H locs F508 eF508 hP hD hS => ?_)
                      have hP : va_P D vwCl [(h0, .inr (10, vL 67 F508)), (h_tape, .inl (cB, 940, .inl f_tape))] H := hP
                      have hD : va_D A [(h0, .inr (10, vL 67 F508)), (h_tape, .inl (cB, 940, .inl f_tape))] := hD
                      refine lv_aload_n hx hb dX10_next_285 rfl (lv_at hl 3 rfl) ?_
                      refine lv_dup hx hb dX10_next_286 rfl ?_
                      have n509 : F504 4 = .int u40 := (get_ne eF504 (by decide) n476)
                      have n510 : F508 4 = .int u40 := (get_ne eF508 (by decide) n509)
                      refine get_f (D := D) (ci := 10) (v := .int u40) (C := RX10) (T := TX10) (N := 67) hx hb hw inAX10 hown hK hP 0 rfl rfl 4 (by decide) (hw _ q_1265) (fun _ h9 => h9) n510 dX10_next_287 ?_
                      refine lv_iconst (v := 1) hx hb dX10_next_290 (by decide) ?_
                      refine lv_iadd hx hb dX10_next_291 ?_
                      refine lv_topi (fun v511 ev511 => ?_)
                      have bv511 : v511.toInt = u40.toInt + 1 := by rw [ev511]; exact add_k rfl rfl k263 ⟨Int.le_refl _, Int.le_refl _⟩ (by decide)
                      have k512 : 1 ≤ v511.toInt ∧ v511.toInt ≤ 940 := add_r bv511 k263 ⟨Int.le_refl _, Int.le_refl _⟩ (by decide)
                      refine put_f (D := D) (ci := 10) (v := .int v511) (ty := .int) (C := RX10) (T := TX10) (N := 67) hx hb hw inAX10 tyX10 tyX10_ok nmX10 hown hK hP hD hS 0 rfl rfl 4 (by decide) (hw _ q_1265) (fun _ h9 => h9) rfl (by decide +kernel) rfl rfl dX10_next_292 (fun H locs F513 eF513 hP hD hS => ?_)
                      have hP : va_P D vwCl [(h0, .inr (10, vL 67 F513)), (h_tape, .inl (cB, 940, .inl f_tape))] H := hP
                      have hD : va_D A [(h0, .inr (10, vL 67 F513)), (h_tape, .inl (cB, 940, .inl f_tape))] := hD
                      refine lv_goto (tgt := 181) hx hb dX10_next_295 (by decide) ?_
                      have n514 : F513 13 = .int v506 := (get_ne eF513 (by decide) (get_eq eF508))
                      have n515 : F508 14 = .int v503 := (get_ne eF508 (by decide) (get_eq eF504))
                      have n516 : F513 14 = .int v503 := (get_ne eF513 (by decide) n515)
                      have n517 : F504 18 = .long u450 := (get_ne eF504 (by decide) i453)
                      have n518 : F508 18 = .long u450 := (get_ne eF508 (by decide) n517)
                      have n519 : F513 18 = .long u450 := (get_ne eF513 (by decide) n518)
                      exact ih (u445, F513, v511, v506, v503, u450) ⟨i447, (SAME.up eF513 (SAME.up eF508 (SAME.up eF504 (SAME.tr (SAME.tr SAME.rf i82 (by decide)) i452 (by decide)) (by decide)) (by decide)) (by decide)), (get_eq eF513), n514, n516, n519, (ir_wk k512 (by decide) (by decide)), (ir_wk k507 (by decide) (by decide)), (by show 0 ≤ v506.toInt ∧ v506.toInt ≤ v511.toInt ∧ x_p.toInt + v506.toInt ≤ v511.toInt ∧ (v506.toInt = 0 → v511.toInt = u2.toInt); omega), (by show u445.toInt = 1 → u33.toInt = 0 → (0 ≤ v503.toInt ∧ v503.toInt ≤ 999 ∧ (v506.toInt = 0 → v503.toInt = 0) ∧ (v506.toInt = 1 → v503.toInt ≤ 9) ∧ (v506.toInt = 2 → v503.toInt ≤ 99)); omega), (by show (x_token.toInt = 2 → 0 ≤ v503.toInt ∧ v503.toInt ≤ 999); omega)⟩ (by show (x_size.toInt - v511.toInt).toNat < (x_size.toInt - u40.toInt).toNat; omega) _ _ _ hP hD hS (lv_sub hl [0, 1, 2, 3] rfl)
                refine lv_aload_n hx hb dX10_next_222 rfl (lv_at hl 3 rfl) ?_
                refine get_f (D := D) (ci := 10) (v := .int u41) (C := RX10) (T := TX10) (N := 67) hx hb hw inAX10 hown hK hP 0 rfl rfl 13 (by decide) (hw _ q_1274) (fun _ h9 => h9) i84 dX10_next_223 ?_
                refine lv_bipush (v := 7) hx hb dX10_next_226 (by decide) ?_
                refine lv_icmp_ge (tgt := 248) hx hb dX10_next_228 (by decide) (fun c520 => ?_) (fun c520 => ?_)
                · have dc520 : 7 ≤ u41.toInt := le_i (a := 7) (b := u41.toInt) rfl rfl c520
                  have k521 : 7 ≤ u41.toInt ∧ u41.toInt ≤ 940 := ⟨Int.le_trans (Int.le_refl _) dc520, i88.2⟩
                  exact cut451 G39 u43 SAME.rf i86 _ _ _ hP hD hS (lv_sub hl [0, 1, 2, 3] rfl)
                · have dc520 : u41.toInt < 7 := nle_i (a := 7) (b := u41.toInt) rfl rfl c520
                  have k522 : 0 ≤ u41.toInt ∧ u41.toInt ≤ 6 := ⟨i88.1, up_lt dc520 (Int.le_refl _) (by decide)⟩
                  refine lv_aload_n hx hb dX10_next_231 rfl (lv_at hl 3 rfl) ?_
                  refine lv_aload_n hx hb dX10_next_232 rfl (lv_at hl 3 rfl) ?_
                  refine get_f (D := D) (ci := 10) (v := .long u43) (C := RX10) (T := TX10) (N := 67) hx hb hw inAX10 hown hK hP 0 rfl rfl 18 (by decide) (hw _ q_1279) (fun _ h9 => h9) i86 dX10_next_233 ?_
                  refine lv_bipush (v := 8) hx hb dX10_next_236 (by decide) ?_
                  obtain ⟨v523, ev523⟩ : ∃ z : Int64, (u43 : Int64) <<< ((8 : Int32).toInt64 &&& 63) = z := ⟨_, rfl⟩
                  refine lv_lshl (v := v523) hx hb dX10_next_238 ev523 ?_
                  refine lv_aload_n hx hb dX10_next_239 rfl (lv_at hl 3 rfl) ?_
                  refine call_Vi (wr := []) (As := []) (rest := [.long v523, .ref h0]) hx hb hml hown hw (m_X10_peek l D cI cJ cB cP cM cZ h0 h_tape G39 x_size u40 f_tape _ n94 n97 (ir_wk k31 (by decide) (by decide)) i83 (ir_wk k263 (by decide) (by decide))) wV_X10_169_X10_peek dX10_next_240 hK hP hD hS hA [0, 1] [] rfl rfl (by decide) (by decide) (by decide) 0 10 rfl rfl GG.fb hG.at hl.1 rfl (Nat.le_of_ble_eq_true rfl) ⟨(Nat.le_of_ble_eq_true rfl), (Nat.le_of_ble_eq_true rfl)⟩ ⟨(Nat.le_of_ble_eq_true rfl), (Nat.le_of_ble_eq_true rfl)⟩ (fun r524 u H locs hp hP hD hS => ?_)
                  rcases hp with ⟨t525, rfl, rfl⟩ | ⟨t526, t527, rfl, rfl⟩
                  · have hP : va_P D vwCl [(h0, .inr (10, vL 67 G39)), (h_tape, .inl (cB, 940, .inl f_tape))] H := hP
                    have hD : va_D A [(h0, .inr (10, vL 67 G39)), (h_tape, .inl (cB, 940, .inl f_tape))] := hD
                    refine W.widen (k := 0) (n := 0) (Nat.le_of_ble_eq_true rfl) (Nat.le_of_ble_eq_true rfl) ?_
                    have k529 : 1 ≤ x_size.toInt ∧ x_size.toInt ≤ 939 := ⟨k31.1, Int.le_trans t525 k263.2⟩
                    have k530 : 1 ≤ u40.toInt ∧ u40.toInt ≤ 939 := ⟨Int.le_trans k31.1 t525, k263.2⟩
                    obtain ⟨v531, ev531⟩ : ∃ z : Int64, ((-1) : Int32).toInt64 = z := ⟨_, rfl⟩
                    refine lv_i2l (v := v531) hx hb dX10_next_243 ev531 ?_
                    refine lv_lor hx hb dX10_next_244 ?_
                    refine lv_topl (fun v532 ev532 => ?_)
                    refine put_f (D := D) (ci := 10) (v := .long v532) (ty := .long) (C := RX10) (T := TX10) (N := 67) hx hb hw inAX10 tyX10 tyX10_ok nmX10 hown hK hP hD hS 0 rfl rfl 18 (by decide) (hw _ q_1279) (fun _ h9 => h9) rfl (by decide +kernel) rfl rfl dX10_next_245 (fun H locs F533 eF533 hP hD hS => ?_)
                    have hP : va_P D vwCl [(h0, .inr (10, vL 67 F533)), (h_tape, .inl (cB, 940, .inl f_tape))] H := hP
                    have hD : va_D A [(h0, .inr (10, vL 67 F533)), (h_tape, .inl (cB, 940, .inl f_tape))] := hD
                    exact cut451 F533 v532 (SAME.up eF533 SAME.rf (by decide)) (get_eq eF533) _ _ _ hP hD hS (lv_sub hl [0, 1, 2, 3] rfl)
                  · have hP : va_P D vwCl [(h0, .inr (10, vL 67 G39)), (h_tape, .inl (cB, 940, .inl f_tape))] H := hP
                    have hD : va_D A [(h0, .inr (10, vL 67 G39)), (h_tape, .inl (cB, 940, .inl f_tape))] := hD
                    refine W.widen (k := 0) (n := 0) (Nat.le_of_ble_eq_true rfl) (Nat.le_of_ble_eq_true rfl) ?_
                    refine lv_ci (y := v261) ev261.symm ?_
                    obtain ⟨v534, ev534⟩ : ∃ z : Int64, (v261 : Int32).toInt64 = z := ⟨_, rfl⟩
                    refine lv_i2l (v := v534) hx hb dX10_next_243 ev534 ?_
                    refine lv_lor hx hb dX10_next_244 ?_
                    refine lv_topl (fun v535 ev535 => ?_)
                    refine put_f (D := D) (ci := 10) (v := .long v535) (ty := .long) (C := RX10) (T := TX10) (N := 67) hx hb hw inAX10 tyX10 tyX10_ok nmX10 hown hK hP hD hS 0 rfl rfl 18 (by decide) (hw _ q_1279) (fun _ h9 => h9) rfl (by decide +kernel) rfl rfl dX10_next_245 (fun H locs F536 eF536 hP hD hS => ?_)
                    have hP : va_P D vwCl [(h0, .inr (10, vL 67 F536)), (h_tape, .inl (cB, 940, .inl f_tape))] H := hP
                    have hD : va_D A [(h0, .inr (10, vL 67 F536)), (h_tape, .inl (cB, 940, .inl f_tape))] := hD
                    exact cut451 F536 v535 (SAME.up eF536 SAME.rf (by decide)) (get_eq eF536) _ _ _ hP hD hS (lv_sub hl [0, 1, 2, 3] rfl)
              refine lv_iload_n hx hb dX10_next_201 rfl (lv_at hl 0 rfl) ?_
              refine lv_if_eq (tgt := 220) hx hb dX10_next_202 (by decide) (fun c537 => ?_) (fun c537 => ?_)
              · have dc537 : u38.toInt = 0 := eq_i (a := u38.toInt) (b := 0) rfl rfl c537
                have k538 : 0 ≤ u38.toInt ∧ u38.toInt ≤ 0 := ⟨i81.1, Int.le_trans (Int.le_of_eq dc537) (Int.le_refl _)⟩
                refine lv_iconst (v := 0) hx hb dX10_next_220 (by decide) ?_
                refine lv_istore_n (lv' := [(3, .int 0), (2, .int u33), (1, .int v28), (0, .ref h0)]) hx hb dX10_next_221 rfl hl (by decide) rfl (fun ls hl => ?_)
                exact cut446 0 (show 0 ≤ (0 : Int32).toInt ∧ (0 : Int32).toInt ≤ 1 by decide) (by show (0 = 1 → u33.toInt = 0 → (48 ≤ v261.toInt ∧ v261.toInt ≤ 57 ∧ 0 ≤ u42.toInt ∧ u42.toInt ≤ 999 ∧ (u41.toInt = 0 → u42.toInt = 0) ∧ (u41.toInt = 1 → u42.toInt ≤ 9) ∧ (u41.toInt = 2 → u42.toInt ≤ 99))); omega) _ _ _ hP hD hS (lv_sub hl [0, 1, 2, 3] rfl)
              · have dc537 : u38.toInt ≠ 0 := ne_i (a := u38.toInt) (b := 0) rfl rfl c537
                have k539 : 1 ≤ u38.toInt ∧ u38.toInt ≤ 1 := ⟨ne_lo dc537 i81.1 ⟨Int.le_refl _, Int.le_refl _⟩ (by decide), i81.2⟩
                refine lv_aload_n hx hb dX10_next_205 rfl (lv_at hl 3 rfl) ?_
                refine call_Vi (wr := []) (As := []) (rest := []) hx hb hml hown hw (m_X10_peek l D cI cJ cB cP cM cZ h0 h_tape G39 x_size u40 f_tape _ n94 n97 (ir_wk k31 (by decide) (by decide)) i83 (ir_wk k263 (by decide) (by decide))) wV_X10_169_X10_peek dX10_next_206 hK hP hD hS hA [0, 1] [] rfl rfl (by decide) (by decide) (by decide) 0 10 rfl rfl GG.fb hG.at hl.1 rfl (Nat.le_of_ble_eq_true rfl) ⟨(Nat.le_of_ble_eq_true rfl), (Nat.le_of_ble_eq_true rfl)⟩ ⟨(Nat.le_of_ble_eq_true rfl), (Nat.le_of_ble_eq_true rfl)⟩ (fun r540 u H locs hp hP hD hS => ?_)
                rcases hp with ⟨t541, rfl, rfl⟩ | ⟨t542, t543, rfl, rfl⟩
                · have hP : va_P D vwCl [(h0, .inr (10, vL 67 G39)), (h_tape, .inl (cB, 940, .inl f_tape))] H := hP
                  have hD : va_D A [(h0, .inr (10, vL 67 G39)), (h_tape, .inl (cB, 940, .inl f_tape))] := hD
                  refine W.widen (k := 0) (n := 0) (Nat.le_of_ble_eq_true rfl) (Nat.le_of_ble_eq_true rfl) ?_
                  have k545 : 1 ≤ x_size.toInt ∧ x_size.toInt ≤ 939 := ⟨k31.1, Int.le_trans t541 k263.2⟩
                  have k546 : 1 ≤ u40.toInt ∧ u40.toInt ≤ 939 := ⟨Int.le_trans k31.1 t541, k263.2⟩
                  refine call_Si (wr := [(h0, .inr (10, vL 67 G39)), (h_tape, .inl (cB, 940, .inl f_tape))]) (As := [.int (-1)]) (rest := []) hx hb hml hown hw (m_X10_isSmall l D cI cJ cB cP cM cZ (-1) _ ) wS_X10_182_X10_isSmall dX10_next_209 hP hD hS hA [] [0, 1] rfl rfl (by decide) (by decide) (by decide) GG.fb hG.at hl.1 rfl (Nat.le_of_ble_eq_true rfl) ⟨(Nat.le_of_ble_eq_true rfl), (Nat.le_of_ble_eq_true rfl)⟩ ⟨(Nat.le_of_ble_eq_true rfl), (Nat.le_of_ble_eq_true rfl)⟩ (fun r547 u H locs hp hP hD hS => ?_)
                  have zlm1 : ((-1) : Int32).toInt = (-1) := by decide
                  rcases hp with ⟨t548, rfl, rfl⟩ | ⟨t549, t550, rfl, rfl⟩ | ⟨t551, t552, rfl, rfl⟩
                  · have hP : va_P D vwCl [(h0, .inr (10, vL 67 G39)), (h_tape, .inl (cB, 940, .inl f_tape))] H := hP
                    have hD : va_D A [(h0, .inr (10, vL 67 G39)), (h_tape, .inl (cB, 940, .inl f_tape))] := hD
                    refine W.widen (k := 0) (n := 0) (Nat.le_of_ble_eq_true rfl) (Nat.le_of_ble_eq_true rfl) ?_
                    refine lv_iload_n hx hb dX10_next_212 rfl (lv_at hl 1 rfl) ?_
                    refine lv_icmp_ne (tgt := 220) hx hb dX10_next_213 (by decide) (fun c554 => ?_) (fun c554 => ?_)
                    · have dc554 : 0 ≠ u33.toInt := ne_i (a := 0) (b := u33.toInt) rfl rfl c554
                      have k555 : 1 ≤ u33.toInt ∧ u33.toInt ≤ 1 := ⟨ne_lo dc554.symm i35.1 ⟨Int.le_refl _, Int.le_refl _⟩ (by decide), i35.2⟩
                      refine lv_iconst (v := 0) hx hb dX10_next_220 (by decide) ?_
                      refine lv_istore_n (lv' := [(3, .int 0), (2, .int u33), (1, .int v28), (0, .ref h0)]) hx hb dX10_next_221 rfl hl (by decide) rfl (fun ls hl => ?_)
                      exact cut446 0 (show 0 ≤ (0 : Int32).toInt ∧ (0 : Int32).toInt ≤ 1 by decide) (by show (0 = 1 → u33.toInt = 0 → (48 ≤ v261.toInt ∧ v261.toInt ≤ 57 ∧ 0 ≤ u42.toInt ∧ u42.toInt ≤ 999 ∧ (u41.toInt = 0 → u42.toInt = 0) ∧ (u41.toInt = 1 → u42.toInt ≤ 9) ∧ (u41.toInt = 2 → u42.toInt ≤ 99))); omega) _ _ _ hP hD hS (lv_sub hl [0, 1, 2, 3] rfl)
                    · have dc554 : 0 = u33.toInt := eq_i (a := 0) (b := u33.toInt) rfl rfl c554
                      have k556 : 0 ≤ u33.toInt ∧ u33.toInt ≤ 0 := ⟨i35.1, Int.le_trans (Int.le_of_eq dc554.symm) (Int.le_refl _)⟩
                      refine lv_iconst (v := 1) hx hb dX10_next_216 (by decide) ?_
                      refine lv_goto (tgt := 221) hx hb dX10_next_217 (by decide) ?_
                      refine lv_istore_n (lv' := [(3, .int 1), (2, .int u33), (1, .int v28), (0, .ref h0)]) hx hb dX10_next_221 rfl hl (by decide) rfl (fun ls hl => ?_)
                      exact cut446 1 (show 0 ≤ (1 : Int32).toInt ∧ (1 : Int32).toInt ≤ 1 by decide) (by show (1 = 1 → u33.toInt = 0 → (48 ≤ v261.toInt ∧ v261.toInt ≤ 57 ∧ 0 ≤ u42.toInt ∧ u42.toInt ≤ 999 ∧ (u41.toInt = 0 → u42.toInt = 0) ∧ (u41.toInt = 1 → u42.toInt ≤ 9) ∧ (u41.toInt = 2 → u42.toInt ≤ 99))); omega) _ _ _ hP hD hS (lv_sub hl [0, 1, 2, 3] rfl)
                  · have hP : va_P D vwCl [(h0, .inr (10, vL 67 G39)), (h_tape, .inl (cB, 940, .inl f_tape))] H := hP
                    have hD : va_D A [(h0, .inr (10, vL 67 G39)), (h_tape, .inl (cB, 940, .inl f_tape))] := hD
                    refine W.widen (k := 0) (n := 0) (Nat.le_of_ble_eq_true rfl) (Nat.le_of_ble_eq_true rfl) ?_
                    exact absurd t549 (by decide)
                  · have hP : va_P D vwCl [(h0, .inr (10, vL 67 G39)), (h_tape, .inl (cB, 940, .inl f_tape))] H := hP
                    have hD : va_D A [(h0, .inr (10, vL 67 G39)), (h_tape, .inl (cB, 940, .inl f_tape))] := hD
                    refine W.widen (k := 0) (n := 0) (Nat.le_of_ble_eq_true rfl) (Nat.le_of_ble_eq_true rfl) ?_
                    exact absurd t551 (by decide)
                · have hP : va_P D vwCl [(h0, .inr (10, vL 67 G39)), (h_tape, .inl (cB, 940, .inl f_tape))] H := hP
                  have hD : va_D A [(h0, .inr (10, vL 67 G39)), (h_tape, .inl (cB, 940, .inl f_tape))] := hD
                  refine W.widen (k := 0) (n := 0) (Nat.le_of_ble_eq_true rfl) (Nat.le_of_ble_eq_true rfl) ?_
                  refine lv_ci (y := v261) ev261.symm ?_
                  refine call_Si (wr := [(h0, .inr (10, vL 67 G39)), (h_tape, .inl (cB, 940, .inl f_tape))]) (As := [.int v261]) (rest := []) hx hb hml hown hw (m_X10_isSmall l D cI cJ cB cP cM cZ v261 _ ) wS_X10_182_X10_isSmall dX10_next_209 hP hD hS hA [] [0, 1] rfl rfl (by decide) (by decide) (by decide) GG.fb hG.at hl.1 rfl (Nat.le_of_ble_eq_true rfl) ⟨(Nat.le_of_ble_eq_true rfl), (Nat.le_of_ble_eq_true rfl)⟩ ⟨(Nat.le_of_ble_eq_true rfl), (Nat.le_of_ble_eq_true rfl)⟩ (fun r557 u H locs hp hP hD hS => ?_)
                  rcases hp with ⟨t558, rfl, rfl⟩ | ⟨t559, t560, rfl, rfl⟩ | ⟨t561, t562, rfl, rfl⟩
                  · have hP : va_P D vwCl [(h0, .inr (10, vL 67 G39)), (h_tape, .inl (cB, 940, .inl f_tape))] H := hP
                    have hD : va_D A [(h0, .inr (10, vL 67 G39)), (h_tape, .inl (cB, 940, .inl f_tape))] := hD
                    refine W.widen (k := 0) (n := 0) (Nat.le_of_ble_eq_true rfl) (Nat.le_of_ble_eq_true rfl) ?_
                    exact False.elim (bad_lt t558 k444.1 (Int.le_refl _) (by decide))
                  · have hP : va_P D vwCl [(h0, .inr (10, vL 67 G39)), (h_tape, .inl (cB, 940, .inl f_tape))] H := hP
                    have hD : va_D A [(h0, .inr (10, vL 67 G39)), (h_tape, .inl (cB, 940, .inl f_tape))] := hD
                    refine W.widen (k := 0) (n := 0) (Nat.le_of_ble_eq_true rfl) (Nat.le_of_ble_eq_true rfl) ?_
                    exact False.elim (bad_lt t560 (Int.le_refl _) k444.2 (by decide))
                  · have hP : va_P D vwCl [(h0, .inr (10, vL 67 G39)), (h_tape, .inl (cB, 940, .inl f_tape))] H := hP
                    have hD : va_D A [(h0, .inr (10, vL 67 G39)), (h_tape, .inl (cB, 940, .inl f_tape))] := hD
                    refine W.widen (k := 0) (n := 0) (Nat.le_of_ble_eq_true rfl) (Nat.le_of_ble_eq_true rfl) ?_
                    refine lv_iload_n hx hb dX10_next_212 rfl (lv_at hl 1 rfl) ?_
                    refine lv_icmp_ne (tgt := 220) hx hb dX10_next_213 (by decide) (fun c564 => ?_) (fun c564 => ?_)
                    · have dc564 : 1 ≠ u33.toInt := ne_i (a := 1) (b := u33.toInt) rfl rfl c564
                      have k565 : 0 ≤ u33.toInt ∧ u33.toInt ≤ 0 := ⟨i35.1, ne_hi dc564.symm i35.2 ⟨Int.le_refl _, Int.le_refl _⟩ (by decide)⟩
                      refine lv_iconst (v := 0) hx hb dX10_next_220 (by decide) ?_
                      refine lv_istore_n (lv' := [(3, .int 0), (2, .int u33), (1, .int v28), (0, .ref h0)]) hx hb dX10_next_221 rfl hl (by decide) rfl (fun ls hl => ?_)
                      exact cut446 0 (show 0 ≤ (0 : Int32).toInt ∧ (0 : Int32).toInt ≤ 1 by decide) (by show (0 = 1 → u33.toInt = 0 → (48 ≤ v261.toInt ∧ v261.toInt ≤ 57 ∧ 0 ≤ u42.toInt ∧ u42.toInt ≤ 999 ∧ (u41.toInt = 0 → u42.toInt = 0) ∧ (u41.toInt = 1 → u42.toInt ≤ 9) ∧ (u41.toInt = 2 → u42.toInt ≤ 99))); omega) _ _ _ hP hD hS (lv_sub hl [0, 1, 2, 3] rfl)
                    · have dc564 : 1 = u33.toInt := eq_i (a := 1) (b := u33.toInt) rfl rfl c564
                      have k566 : 1 ≤ u33.toInt ∧ u33.toInt ≤ 1 := ⟨Int.le_trans (Int.le_refl _) (Int.le_of_eq dc564.symm.symm), i35.2⟩
                      refine lv_iconst (v := 1) hx hb dX10_next_216 (by decide) ?_
                      refine lv_goto (tgt := 221) hx hb dX10_next_217 (by decide) ?_
                      refine lv_istore_n (lv' := [(3, .int 1), (2, .int u33), (1, .int v28), (0, .ref h0)]) hx hb dX10_next_221 rfl hl (by decide) rfl (fun ls hl => ?_)
                      exact cut446 1 (show 0 ≤ (1 : Int32).toInt ∧ (1 : Int32).toInt ≤ 1 by decide) (by show (1 = 1 → u33.toInt = 0 → (48 ≤ v261.toInt ∧ v261.toInt ≤ 57 ∧ 0 ≤ u42.toInt ∧ u42.toInt ≤ 999 ∧ (u41.toInt = 0 → u42.toInt = 0) ∧ (u41.toInt = 1 → u42.toInt ≤ 9) ∧ (u41.toInt = 2 → u42.toInt ≤ 99))); omega) _ _ _ hP hD hS (lv_sub hl [0, 1, 2, 3] rfl)
        refine lv_iload_n hx hb dX10_next_95 rfl (lv_at hl 0 rfl) ?_
        refine call_Si (wr := [(h0, .inr (10, vL 67 F9)), (h_tape, .inl (cB, 940, .inl f_tape))]) (As := [.int v28]) (rest := []) hx hb hml hown hw (m_X10_isSmall l D cI cJ cB cP cM cZ v28 _ ) wS_X10_182_X10_isSmall dX10_next_96 hP hD hS hA [] [0, 1] rfl rfl (by decide) (by decide) (by decide) GG.fb hG.at hl.1 rfl (Nat.le_of_ble_eq_true rfl) ⟨(Nat.le_of_ble_eq_true rfl), (Nat.le_of_ble_eq_true rfl)⟩ ⟨(Nat.le_of_ble_eq_true rfl), (Nat.le_of_ble_eq_true rfl)⟩ (fun r567 u H locs hp hP hD hS => ?_)
        rcases hp with ⟨t568, rfl, rfl⟩ | ⟨t569, t570, rfl, rfl⟩ | ⟨t571, t572, rfl, rfl⟩
        · have hP : va_P D vwCl [(h0, .inr (10, vL 67 F9)), (h_tape, .inl (cB, 940, .inl f_tape))] H := hP
          have hD : va_D A [(h0, .inr (10, vL 67 F9)), (h_tape, .inl (cB, 940, .inl f_tape))] := hD
          refine W.widen (k := 0) (n := 0) (Nat.le_of_ble_eq_true rfl) (Nat.le_of_ble_eq_true rfl) ?_
          have k574 : 0 ≤ v28.toInt ∧ v28.toInt ≤ 96 := ⟨k29.1, up_lt t568 (Int.le_refl _) (by decide)⟩
          refine lv_if_ne (tgt := 164) hx hb dX10_next_99 (by decide) (fun g => absurd (by decide) g) (fun _ => ?_)
          refine lv_iload_n hx hb dX10_next_102 rfl (lv_at hl 0 rfl) ?_
          refine call_Si (wr := [(h0, .inr (10, vL 67 F9)), (h_tape, .inl (cB, 940, .inl f_tape))]) (As := [.int v28]) (rest := []) hx hb hml hown hw (m_X10_isDigit l D cI cJ cB cP cM cZ v28 _ ) wS_X10_186_X10_isDigit dX10_next_103 hP hD hS hA [] [0, 1] rfl rfl (by decide) (by decide) (by decide) GG.fb hG.at hl.1 rfl (Nat.le_of_ble_eq_true rfl) ⟨(Nat.le_of_ble_eq_true rfl), (Nat.le_of_ble_eq_true rfl)⟩ ⟨(Nat.le_of_ble_eq_true rfl), (Nat.le_of_ble_eq_true rfl)⟩ (fun r575 u H locs hp hP hD hS => ?_)
          rcases hp with ⟨t576, rfl, rfl⟩ | ⟨t577, t578, rfl, rfl⟩ | ⟨t579, t580, rfl, rfl⟩
          · have hP : va_P D vwCl [(h0, .inr (10, vL 67 F9)), (h_tape, .inl (cB, 940, .inl f_tape))] H := hP
            have hD : va_D A [(h0, .inr (10, vL 67 F9)), (h_tape, .inl (cB, 940, .inl f_tape))] := hD
            refine W.widen (k := 0) (n := 0) (Nat.le_of_ble_eq_true rfl) (Nat.le_of_ble_eq_true rfl) ?_
            have k582 : 0 ≤ v28.toInt ∧ v28.toInt ≤ 47 := ⟨k574.1, up_lt t576 (Int.le_refl _) (by decide)⟩
            refine lv_if_ne (tgt := 164) hx hb dX10_next_106 (by decide) (fun g => absurd (by decide) g) (fun _ => ?_)
            refine lv_aload_n hx hb dX10_next_109 rfl (lv_at hl 1 rfl) ?_
            refine lv_iload_n hx hb dX10_next_110 rfl (lv_at hl 0 rfl) ?_
            refine lv_bipush (v := 59) hx hb dX10_next_111 (by decide) ?_
            refine lv_icmp_eq (tgt := 140) hx hb dX10_next_113 (by decide) (fun c583 => False.elim (bad_le (Int.le_of_eq (eq_i (a := v28.toInt) (b := 59) rfl rfl c583).symm) (Int.le_refl _) k582.2 (by decide))) (fun c583 => ?_)
            have dc583 : v28.toInt ≠ 59 := ne_i (a := v28.toInt) (b := 59) rfl rfl c583
            refine lv_iload_n hx hb dX10_next_116 rfl (lv_at hl 0 rfl) ?_
            refine lv_bipush (v := 40) hx hb dX10_next_117 (by decide) ?_
            refine lv_icmp_eq (tgt := 140) hx hb dX10_next_119 (by decide) (fun c584 => ?_) (fun c584 => ?_)
            · have dc584 : v28.toInt = 40 := eq_i (a := v28.toInt) (b := 40) rfl rfl c584
              have k585 : 40 ≤ v28.toInt ∧ v28.toInt ≤ 40 := ⟨Int.le_trans (Int.le_refl _) (Int.le_of_eq dc584.symm), Int.le_trans (Int.le_of_eq dc584) (Int.le_refl _)⟩
              refine lv_iconst (v := 3) hx hb dX10_next_140 (by decide) ?_
              refine lv_goto (tgt := 145) hx hb dX10_next_141 (by decide) ?_
              refine put_f (D := D) (ci := 10) (v := .int 3) (ty := .int) (C := RX10) (T := TX10) (N := 67) hx hb hw inAX10 tyX10 tyX10_ok nmX10 hown hK hP hD hS 0 rfl rfl 11 (by decide) (hw _ q_1272) (fun _ h9 => h9) rfl (by decide +kernel) rfl rfl dX10_next_145 (fun H locs F586 eF586 hP hD hS => ?_)
              have hP : va_P D vwCl [(h0, .inr (10, vL 67 F586)), (h_tape, .inl (cB, 940, .inl f_tape))] H := hP
              have hD : va_D A [(h0, .inr (10, vL 67 F586)), (h_tape, .inl (cB, 940, .inl f_tape))] := hD
              refine lv_aload_n hx hb dX10_next_148 rfl (lv_at hl 1 rfl) ?_
              refine lv_iload_n hx hb dX10_next_149 rfl (lv_at hl 0 rfl) ?_
              refine put_f (D := D) (ci := 10) (v := .int v28) (ty := .int) (C := RX10) (T := TX10) (N := 67) hx hb hw inAX10 tyX10 tyX10_ok nmX10 hown hK hP hD hS 0 rfl rfl 14 (by decide) (hw _ q_1275) (fun _ h9 => h9) rfl (by decide +kernel) rfl rfl dX10_next_150 (fun H locs F587 eF587 hP hD hS => ?_)
              have hP : va_P D vwCl [(h0, .inr (10, vL 67 F587)), (h_tape, .inl (cB, 940, .inl f_tape))] H := hP
              have hD : va_D A [(h0, .inr (10, vL 67 F587)), (h_tape, .inl (cB, 940, .inl f_tape))] := hD
              refine lv_aload_n hx hb dX10_next_153 rfl (lv_at hl 1 rfl) ?_
              refine lv_dup hx hb dX10_next_154 rfl ?_
              have n588 : F586 4 = .int u2 := (get_ne eF586 (by decide) n21)
              have n589 : F587 4 = .int u2 := (get_ne eF587 (by decide) n588)
              refine get_f (D := D) (ci := 10) (v := .int u2) (C := RX10) (T := TX10) (N := 67) hx hb hw inAX10 hown hK hP 0 rfl rfl 4 (by decide) (hw _ q_1265) (fun _ h9 => h9) n589 dX10_next_155 ?_
              refine lv_iconst (v := 1) hx hb dX10_next_158 (by decide) ?_
              refine lv_iadd hx hb dX10_next_159 ?_
              refine lv_topi (fun v590 ev590 => ?_)
              have bv590 : v590.toInt = u2.toInt + 1 := by rw [ev590]; exact add_k rfl rfl k30 ⟨Int.le_refl _, Int.le_refl _⟩ (by decide)
              have k591 : 1 ≤ v590.toInt ∧ v590.toInt ≤ 940 := add_r bv590 k30 ⟨Int.le_refl _, Int.le_refl _⟩ (by decide)
              refine put_f (D := D) (ci := 10) (v := .int v590) (ty := .int) (C := RX10) (T := TX10) (N := 67) hx hb hw inAX10 tyX10 tyX10_ok nmX10 hown hK hP hD hS 0 rfl rfl 4 (by decide) (hw _ q_1265) (fun _ h9 => h9) rfl (by decide +kernel) rfl rfl dX10_next_160 (fun H locs F592 eF592 hP hD hS => ?_)
              have hP : va_P D vwCl [(h0, .inr (10, vL 67 F592)), (h_tape, .inl (cB, 940, .inl f_tape))] H := hP
              have hD : va_D A [(h0, .inr (10, vL 67 F592)), (h_tape, .inl (cB, 940, .inl f_tape))] := hD
              exact ret_v hx hb hr hlocks hS hP hD dX10_next_163 (Nat.le_of_ble_eq_true rfl) (Nat.le_of_ble_eq_true rfl) ⟨F592, v590, 3, u2, 0, v28, x_word, (SAME.up eF592 (SAME.up eF587 (SAME.up eF586 (SAME.up eF9 (SAME.up eF8 (SAME.tr SAME.rf i4 (by decide)) (by decide)) (by decide)) (by decide)) (by decide)) (by decide)), (get_eq eF592), (ir_wk k591 (by decide) (by decide)), (get_ne eF592 (by decide) (get_ne eF587 (by decide) (get_eq eF586))), (show 0 ≤ (3 : Int32).toInt ∧ (3 : Int32).toInt ≤ 4 by decide), (get_ne eF592 (by decide) (get_ne eF587 (by decide) (get_ne eF586 (by decide) (get_ne eF9 (by decide) (get_eq eF8))))), (ir_wk k30 (by decide) (by decide)), (get_ne eF592 (by decide) (get_ne eF587 (by decide) (get_ne eF586 (by decide) (get_eq eF9)))), (show 0 ≤ (0 : Int32).toInt ∧ (0 : Int32).toInt ≤ 940 by decide), (get_ne eF592 (by decide) (get_eq eF587)), (get_ne eF592 (by decide) (get_ne eF587 (by decide) (get_ne eF586 (by decide) (get_ne eF9 (by decide) (get_ne eF8 (by decide) (SAME.at i4 (by decide) e_word)))))), (by have zl0 : (0 : Int32).toInt = 0 := (by decide); have zl4 : (4 : Int32).toInt = 4 := (by decide); omega), (by have zl0 : (0 : Int32).toInt = 0 := (by decide); have zl4 : (4 : Int32).toInt = 4 := (by decide); omega), (by have zl0 : (0 : Int32).toInt = 0 := (by decide); have zl3 : (3 : Int32).toInt = 3 := (by decide); omega), rfl⟩
            · have dc584 : v28.toInt ≠ 40 := ne_i (a := v28.toInt) (b := 40) rfl rfl c584
              refine lv_iload_n hx hb dX10_next_122 rfl (lv_at hl 0 rfl) ?_
              refine lv_bipush (v := 41) hx hb dX10_next_123 (by decide) ?_
              refine lv_icmp_eq (tgt := 140) hx hb dX10_next_125 (by decide) (fun c593 => ?_) (fun c593 => ?_)
              · have dc593 : v28.toInt = 41 := eq_i (a := v28.toInt) (b := 41) rfl rfl c593
                have k594 : 41 ≤ v28.toInt ∧ v28.toInt ≤ 41 := ⟨Int.le_trans (Int.le_refl _) (Int.le_of_eq dc593.symm), Int.le_trans (Int.le_of_eq dc593) (Int.le_refl _)⟩
                refine lv_iconst (v := 3) hx hb dX10_next_140 (by decide) ?_
                refine lv_goto (tgt := 145) hx hb dX10_next_141 (by decide) ?_
                refine put_f (D := D) (ci := 10) (v := .int 3) (ty := .int) (C := RX10) (T := TX10) (N := 67) hx hb hw inAX10 tyX10 tyX10_ok nmX10 hown hK hP hD hS 0 rfl rfl 11 (by decide) (hw _ q_1272) (fun _ h9 => h9) rfl (by decide +kernel) rfl rfl dX10_next_145 (fun H locs F595 eF595 hP hD hS => ?_)
                have hP : va_P D vwCl [(h0, .inr (10, vL 67 F595)), (h_tape, .inl (cB, 940, .inl f_tape))] H := hP
                have hD : va_D A [(h0, .inr (10, vL 67 F595)), (h_tape, .inl (cB, 940, .inl f_tape))] := hD
                refine lv_aload_n hx hb dX10_next_148 rfl (lv_at hl 1 rfl) ?_
                refine lv_iload_n hx hb dX10_next_149 rfl (lv_at hl 0 rfl) ?_
                refine put_f (D := D) (ci := 10) (v := .int v28) (ty := .int) (C := RX10) (T := TX10) (N := 67) hx hb hw inAX10 tyX10 tyX10_ok nmX10 hown hK hP hD hS 0 rfl rfl 14 (by decide) (hw _ q_1275) (fun _ h9 => h9) rfl (by decide +kernel) rfl rfl dX10_next_150 (fun H locs F596 eF596 hP hD hS => ?_)
                have hP : va_P D vwCl [(h0, .inr (10, vL 67 F596)), (h_tape, .inl (cB, 940, .inl f_tape))] H := hP
                have hD : va_D A [(h0, .inr (10, vL 67 F596)), (h_tape, .inl (cB, 940, .inl f_tape))] := hD
                refine lv_aload_n hx hb dX10_next_153 rfl (lv_at hl 1 rfl) ?_
                refine lv_dup hx hb dX10_next_154 rfl ?_
                have n597 : F595 4 = .int u2 := (get_ne eF595 (by decide) n21)
                have n598 : F596 4 = .int u2 := (get_ne eF596 (by decide) n597)
                refine get_f (D := D) (ci := 10) (v := .int u2) (C := RX10) (T := TX10) (N := 67) hx hb hw inAX10 hown hK hP 0 rfl rfl 4 (by decide) (hw _ q_1265) (fun _ h9 => h9) n598 dX10_next_155 ?_
                refine lv_iconst (v := 1) hx hb dX10_next_158 (by decide) ?_
                refine lv_iadd hx hb dX10_next_159 ?_
                refine lv_topi (fun v599 ev599 => ?_)
                have bv599 : v599.toInt = u2.toInt + 1 := by rw [ev599]; exact add_k rfl rfl k30 ⟨Int.le_refl _, Int.le_refl _⟩ (by decide)
                have k600 : 1 ≤ v599.toInt ∧ v599.toInt ≤ 940 := add_r bv599 k30 ⟨Int.le_refl _, Int.le_refl _⟩ (by decide)
                refine put_f (D := D) (ci := 10) (v := .int v599) (ty := .int) (C := RX10) (T := TX10) (N := 67) hx hb hw inAX10 tyX10 tyX10_ok nmX10 hown hK hP hD hS 0 rfl rfl 4 (by decide) (hw _ q_1265) (fun _ h9 => h9) rfl (by decide +kernel) rfl rfl dX10_next_160 (fun H locs F601 eF601 hP hD hS => ?_)
                have hP : va_P D vwCl [(h0, .inr (10, vL 67 F601)), (h_tape, .inl (cB, 940, .inl f_tape))] H := hP
                have hD : va_D A [(h0, .inr (10, vL 67 F601)), (h_tape, .inl (cB, 940, .inl f_tape))] := hD
                exact ret_v hx hb hr hlocks hS hP hD dX10_next_163 (Nat.le_of_ble_eq_true rfl) (Nat.le_of_ble_eq_true rfl) ⟨F601, v599, 3, u2, 0, v28, x_word, (SAME.up eF601 (SAME.up eF596 (SAME.up eF595 (SAME.up eF9 (SAME.up eF8 (SAME.tr SAME.rf i4 (by decide)) (by decide)) (by decide)) (by decide)) (by decide)) (by decide)), (get_eq eF601), (ir_wk k600 (by decide) (by decide)), (get_ne eF601 (by decide) (get_ne eF596 (by decide) (get_eq eF595))), (show 0 ≤ (3 : Int32).toInt ∧ (3 : Int32).toInt ≤ 4 by decide), (get_ne eF601 (by decide) (get_ne eF596 (by decide) (get_ne eF595 (by decide) (get_ne eF9 (by decide) (get_eq eF8))))), (ir_wk k30 (by decide) (by decide)), (get_ne eF601 (by decide) (get_ne eF596 (by decide) (get_ne eF595 (by decide) (get_eq eF9)))), (show 0 ≤ (0 : Int32).toInt ∧ (0 : Int32).toInt ≤ 940 by decide), (get_ne eF601 (by decide) (get_eq eF596)), (get_ne eF601 (by decide) (get_ne eF596 (by decide) (get_ne eF595 (by decide) (get_ne eF9 (by decide) (get_ne eF8 (by decide) (SAME.at i4 (by decide) e_word)))))), (by have zl0 : (0 : Int32).toInt = 0 := (by decide); have zl4 : (4 : Int32).toInt = 4 := (by decide); omega), (by have zl0 : (0 : Int32).toInt = 0 := (by decide); have zl4 : (4 : Int32).toInt = 4 := (by decide); omega), (by have zl0 : (0 : Int32).toInt = 0 := (by decide); have zl3 : (3 : Int32).toInt = 3 := (by decide); omega), rfl⟩
              · have dc593 : v28.toInt ≠ 41 := ne_i (a := v28.toInt) (b := 41) rfl rfl c593
                refine lv_iload_n hx hb dX10_next_128 rfl (lv_at hl 0 rfl) ?_
                refine lv_bipush (v := 60) hx hb dX10_next_129 (by decide) ?_
                refine lv_icmp_lt (tgt := 144) hx hb dX10_next_131 (by decide) (fun c602 => ?_) (fun c602 => False.elim (bad_le (nlt_i (a := v28.toInt) (b := 60) rfl rfl c602) (Int.le_refl _) k582.2 (by decide)))
                have dc602 : v28.toInt < 60 := lt_i (a := v28.toInt) (b := 60) rfl rfl c602
                refine lv_iconst (v := 4) hx hb dX10_next_144 (by decide) ?_
                refine put_f (D := D) (ci := 10) (v := .int 4) (ty := .int) (C := RX10) (T := TX10) (N := 67) hx hb hw inAX10 tyX10 tyX10_ok nmX10 hown hK hP hD hS 0 rfl rfl 11 (by decide) (hw _ q_1272) (fun _ h9 => h9) rfl (by decide +kernel) rfl rfl dX10_next_145 (fun H locs F603 eF603 hP hD hS => ?_)
                have hP : va_P D vwCl [(h0, .inr (10, vL 67 F603)), (h_tape, .inl (cB, 940, .inl f_tape))] H := hP
                have hD : va_D A [(h0, .inr (10, vL 67 F603)), (h_tape, .inl (cB, 940, .inl f_tape))] := hD
                refine lv_aload_n hx hb dX10_next_148 rfl (lv_at hl 1 rfl) ?_
                refine lv_iload_n hx hb dX10_next_149 rfl (lv_at hl 0 rfl) ?_
                refine put_f (D := D) (ci := 10) (v := .int v28) (ty := .int) (C := RX10) (T := TX10) (N := 67) hx hb hw inAX10 tyX10 tyX10_ok nmX10 hown hK hP hD hS 0 rfl rfl 14 (by decide) (hw _ q_1275) (fun _ h9 => h9) rfl (by decide +kernel) rfl rfl dX10_next_150 (fun H locs F604 eF604 hP hD hS => ?_)
                have hP : va_P D vwCl [(h0, .inr (10, vL 67 F604)), (h_tape, .inl (cB, 940, .inl f_tape))] H := hP
                have hD : va_D A [(h0, .inr (10, vL 67 F604)), (h_tape, .inl (cB, 940, .inl f_tape))] := hD
                refine lv_aload_n hx hb dX10_next_153 rfl (lv_at hl 1 rfl) ?_
                refine lv_dup hx hb dX10_next_154 rfl ?_
                have n605 : F603 4 = .int u2 := (get_ne eF603 (by decide) n21)
                have n606 : F604 4 = .int u2 := (get_ne eF604 (by decide) n605)
                refine get_f (D := D) (ci := 10) (v := .int u2) (C := RX10) (T := TX10) (N := 67) hx hb hw inAX10 hown hK hP 0 rfl rfl 4 (by decide) (hw _ q_1265) (fun _ h9 => h9) n606 dX10_next_155 ?_
                refine lv_iconst (v := 1) hx hb dX10_next_158 (by decide) ?_
                refine lv_iadd hx hb dX10_next_159 ?_
                refine lv_topi (fun v607 ev607 => ?_)
                have bv607 : v607.toInt = u2.toInt + 1 := by rw [ev607]; exact add_k rfl rfl k30 ⟨Int.le_refl _, Int.le_refl _⟩ (by decide)
                have k608 : 1 ≤ v607.toInt ∧ v607.toInt ≤ 940 := add_r bv607 k30 ⟨Int.le_refl _, Int.le_refl _⟩ (by decide)
                refine put_f (D := D) (ci := 10) (v := .int v607) (ty := .int) (C := RX10) (T := TX10) (N := 67) hx hb hw inAX10 tyX10 tyX10_ok nmX10 hown hK hP hD hS 0 rfl rfl 4 (by decide) (hw _ q_1265) (fun _ h9 => h9) rfl (by decide +kernel) rfl rfl dX10_next_160 (fun H locs F609 eF609 hP hD hS => ?_)
                have hP : va_P D vwCl [(h0, .inr (10, vL 67 F609)), (h_tape, .inl (cB, 940, .inl f_tape))] H := hP
                have hD : va_D A [(h0, .inr (10, vL 67 F609)), (h_tape, .inl (cB, 940, .inl f_tape))] := hD
                exact ret_v hx hb hr hlocks hS hP hD dX10_next_163 (Nat.le_of_ble_eq_true rfl) (Nat.le_of_ble_eq_true rfl) ⟨F609, v607, 4, u2, 0, v28, x_word, (SAME.up eF609 (SAME.up eF604 (SAME.up eF603 (SAME.up eF9 (SAME.up eF8 (SAME.tr SAME.rf i4 (by decide)) (by decide)) (by decide)) (by decide)) (by decide)) (by decide)), (get_eq eF609), (ir_wk k608 (by decide) (by decide)), (get_ne eF609 (by decide) (get_ne eF604 (by decide) (get_eq eF603))), (show 0 ≤ (4 : Int32).toInt ∧ (4 : Int32).toInt ≤ 4 by decide), (get_ne eF609 (by decide) (get_ne eF604 (by decide) (get_ne eF603 (by decide) (get_ne eF9 (by decide) (get_eq eF8))))), (ir_wk k30 (by decide) (by decide)), (get_ne eF609 (by decide) (get_ne eF604 (by decide) (get_ne eF603 (by decide) (get_eq eF9)))), (show 0 ≤ (0 : Int32).toInt ∧ (0 : Int32).toInt ≤ 940 by decide), (get_ne eF609 (by decide) (get_eq eF604)), (get_ne eF609 (by decide) (get_ne eF604 (by decide) (get_ne eF603 (by decide) (get_ne eF9 (by decide) (get_ne eF8 (by decide) (SAME.at i4 (by decide) e_word)))))), (by have zl0 : (0 : Int32).toInt = 0 := (by decide); have zl4 : (4 : Int32).toInt = 4 := (by decide); omega), (by have zl0 : (0 : Int32).toInt = 0 := (by decide); have zl4 : (4 : Int32).toInt = 4 := (by decide); omega), (by have zl0 : (0 : Int32).toInt = 0 := (by decide); have zl4 : (4 : Int32).toInt = 4 := (by decide); omega), rfl⟩
          · have hP : va_P D vwCl [(h0, .inr (10, vL 67 F9)), (h_tape, .inl (cB, 940, .inl f_tape))] H := hP
            have hD : va_D A [(h0, .inr (10, vL 67 F9)), (h_tape, .inl (cB, 940, .inl f_tape))] := hD
            refine W.widen (k := 0) (n := 0) (Nat.le_of_ble_eq_true rfl) (Nat.le_of_ble_eq_true rfl) ?_
            have k610 : 48 ≤ v28.toInt ∧ v28.toInt ≤ 96 := ⟨Int.le_trans (Int.le_refl _) t577, k574.2⟩
            have k611 : 58 ≤ v28.toInt ∧ v28.toInt ≤ 96 := ⟨lo_lt t578 (Int.le_refl _) (by decide), k610.2⟩
            refine lv_if_ne (tgt := 164) hx hb dX10_next_106 (by decide) (fun g => absurd (by decide) g) (fun _ => ?_)
            refine lv_aload_n hx hb dX10_next_109 rfl (lv_at hl 1 rfl) ?_
            refine lv_iload_n hx hb dX10_next_110 rfl (lv_at hl 0 rfl) ?_
            refine lv_bipush (v := 59) hx hb dX10_next_111 (by decide) ?_
            refine lv_icmp_eq (tgt := 140) hx hb dX10_next_113 (by decide) (fun c612 => ?_) (fun c612 => ?_)
            · have dc612 : v28.toInt = 59 := eq_i (a := v28.toInt) (b := 59) rfl rfl c612
              have k613 : 59 ≤ v28.toInt ∧ v28.toInt ≤ 59 := ⟨Int.le_trans (Int.le_refl _) (Int.le_of_eq dc612.symm), Int.le_trans (Int.le_of_eq dc612) (Int.le_refl _)⟩
              refine lv_iconst (v := 3) hx hb dX10_next_140 (by decide) ?_
              refine lv_goto (tgt := 145) hx hb dX10_next_141 (by decide) ?_
              refine put_f (D := D) (ci := 10) (v := .int 3) (ty := .int) (C := RX10) (T := TX10) (N := 67) hx hb hw inAX10 tyX10 tyX10_ok nmX10 hown hK hP hD hS 0 rfl rfl 11 (by decide) (hw _ q_1272) (fun _ h9 => h9) rfl (by decide +kernel) rfl rfl dX10_next_145 (fun H locs F614 eF614 hP hD hS => ?_)
              have hP : va_P D vwCl [(h0, .inr (10, vL 67 F614)), (h_tape, .inl (cB, 940, .inl f_tape))] H := hP
              have hD : va_D A [(h0, .inr (10, vL 67 F614)), (h_tape, .inl (cB, 940, .inl f_tape))] := hD
              refine lv_aload_n hx hb dX10_next_148 rfl (lv_at hl 1 rfl) ?_
              refine lv_iload_n hx hb dX10_next_149 rfl (lv_at hl 0 rfl) ?_
              refine put_f (D := D) (ci := 10) (v := .int v28) (ty := .int) (C := RX10) (T := TX10) (N := 67) hx hb hw inAX10 tyX10 tyX10_ok nmX10 hown hK hP hD hS 0 rfl rfl 14 (by decide) (hw _ q_1275) (fun _ h9 => h9) rfl (by decide +kernel) rfl rfl dX10_next_150 (fun H locs F615 eF615 hP hD hS => ?_)
              have hP : va_P D vwCl [(h0, .inr (10, vL 67 F615)), (h_tape, .inl (cB, 940, .inl f_tape))] H := hP
              have hD : va_D A [(h0, .inr (10, vL 67 F615)), (h_tape, .inl (cB, 940, .inl f_tape))] := hD
              refine lv_aload_n hx hb dX10_next_153 rfl (lv_at hl 1 rfl) ?_
              refine lv_dup hx hb dX10_next_154 rfl ?_
              have n616 : F614 4 = .int u2 := (get_ne eF614 (by decide) n21)
              have n617 : F615 4 = .int u2 := (get_ne eF615 (by decide) n616)
              refine get_f (D := D) (ci := 10) (v := .int u2) (C := RX10) (T := TX10) (N := 67) hx hb hw inAX10 hown hK hP 0 rfl rfl 4 (by decide) (hw _ q_1265) (fun _ h9 => h9) n617 dX10_next_155 ?_
              refine lv_iconst (v := 1) hx hb dX10_next_158 (by decide) ?_
              refine lv_iadd hx hb dX10_next_159 ?_
              refine lv_topi (fun v618 ev618 => ?_)
              have bv618 : v618.toInt = u2.toInt + 1 := by rw [ev618]; exact add_k rfl rfl k30 ⟨Int.le_refl _, Int.le_refl _⟩ (by decide)
              have k619 : 1 ≤ v618.toInt ∧ v618.toInt ≤ 940 := add_r bv618 k30 ⟨Int.le_refl _, Int.le_refl _⟩ (by decide)
              refine put_f (D := D) (ci := 10) (v := .int v618) (ty := .int) (C := RX10) (T := TX10) (N := 67) hx hb hw inAX10 tyX10 tyX10_ok nmX10 hown hK hP hD hS 0 rfl rfl 4 (by decide) (hw _ q_1265) (fun _ h9 => h9) rfl (by decide +kernel) rfl rfl dX10_next_160 (fun H locs F620 eF620 hP hD hS => ?_)
              have hP : va_P D vwCl [(h0, .inr (10, vL 67 F620)), (h_tape, .inl (cB, 940, .inl f_tape))] H := hP
              have hD : va_D A [(h0, .inr (10, vL 67 F620)), (h_tape, .inl (cB, 940, .inl f_tape))] := hD
              exact ret_v hx hb hr hlocks hS hP hD dX10_next_163 (Nat.le_of_ble_eq_true rfl) (Nat.le_of_ble_eq_true rfl) ⟨F620, v618, 3, u2, 0, v28, x_word, (SAME.up eF620 (SAME.up eF615 (SAME.up eF614 (SAME.up eF9 (SAME.up eF8 (SAME.tr SAME.rf i4 (by decide)) (by decide)) (by decide)) (by decide)) (by decide)) (by decide)), (get_eq eF620), (ir_wk k619 (by decide) (by decide)), (get_ne eF620 (by decide) (get_ne eF615 (by decide) (get_eq eF614))), (show 0 ≤ (3 : Int32).toInt ∧ (3 : Int32).toInt ≤ 4 by decide), (get_ne eF620 (by decide) (get_ne eF615 (by decide) (get_ne eF614 (by decide) (get_ne eF9 (by decide) (get_eq eF8))))), (ir_wk k30 (by decide) (by decide)), (get_ne eF620 (by decide) (get_ne eF615 (by decide) (get_ne eF614 (by decide) (get_eq eF9)))), (show 0 ≤ (0 : Int32).toInt ∧ (0 : Int32).toInt ≤ 940 by decide), (get_ne eF620 (by decide) (get_eq eF615)), (get_ne eF620 (by decide) (get_ne eF615 (by decide) (get_ne eF614 (by decide) (get_ne eF9 (by decide) (get_ne eF8 (by decide) (SAME.at i4 (by decide) e_word)))))), (by have zl0 : (0 : Int32).toInt = 0 := (by decide); have zl4 : (4 : Int32).toInt = 4 := (by decide); omega), (by have zl0 : (0 : Int32).toInt = 0 := (by decide); have zl4 : (4 : Int32).toInt = 4 := (by decide); omega), (by have zl0 : (0 : Int32).toInt = 0 := (by decide); have zl3 : (3 : Int32).toInt = 3 := (by decide); omega), rfl⟩
            · have dc612 : v28.toInt ≠ 59 := ne_i (a := v28.toInt) (b := 59) rfl rfl c612
              refine lv_iload_n hx hb dX10_next_116 rfl (lv_at hl 0 rfl) ?_
              refine lv_bipush (v := 40) hx hb dX10_next_117 (by decide) ?_
              refine lv_icmp_eq (tgt := 140) hx hb dX10_next_119 (by decide) (fun c621 => False.elim (bad_le (Int.le_of_eq (eq_i (a := v28.toInt) (b := 40) rfl rfl c621)) k611.1 (Int.le_refl _) (by decide))) (fun c621 => ?_)
              have dc621 : v28.toInt ≠ 40 := ne_i (a := v28.toInt) (b := 40) rfl rfl c621
              refine lv_iload_n hx hb dX10_next_122 rfl (lv_at hl 0 rfl) ?_
              refine lv_bipush (v := 41) hx hb dX10_next_123 (by decide) ?_
              refine lv_icmp_eq (tgt := 140) hx hb dX10_next_125 (by decide) (fun c622 => False.elim (bad_le (Int.le_of_eq (eq_i (a := v28.toInt) (b := 41) rfl rfl c622)) k611.1 (Int.le_refl _) (by decide))) (fun c622 => ?_)
              have dc622 : v28.toInt ≠ 41 := ne_i (a := v28.toInt) (b := 41) rfl rfl c622
              refine lv_iload_n hx hb dX10_next_128 rfl (lv_at hl 0 rfl) ?_
              refine lv_bipush (v := 60) hx hb dX10_next_129 (by decide) ?_
              refine lv_icmp_lt (tgt := 144) hx hb dX10_next_131 (by decide) (fun c623 => ?_) (fun c623 => ?_)
              · have dc623 : v28.toInt < 60 := lt_i (a := v28.toInt) (b := 60) rfl rfl c623
                have k624 : 58 ≤ v28.toInt ∧ v28.toInt ≤ 59 := ⟨k611.1, up_lt dc623 (Int.le_refl _) (by decide)⟩
                refine lv_iconst (v := 4) hx hb dX10_next_144 (by decide) ?_
                refine put_f (D := D) (ci := 10) (v := .int 4) (ty := .int) (C := RX10) (T := TX10) (N := 67) hx hb hw inAX10 tyX10 tyX10_ok nmX10 hown hK hP hD hS 0 rfl rfl 11 (by decide) (hw _ q_1272) (fun _ h9 => h9) rfl (by decide +kernel) rfl rfl dX10_next_145 (fun H locs F625 eF625 hP hD hS => ?_)
                have hP : va_P D vwCl [(h0, .inr (10, vL 67 F625)), (h_tape, .inl (cB, 940, .inl f_tape))] H := hP
                have hD : va_D A [(h0, .inr (10, vL 67 F625)), (h_tape, .inl (cB, 940, .inl f_tape))] := hD
                refine lv_aload_n hx hb dX10_next_148 rfl (lv_at hl 1 rfl) ?_
                refine lv_iload_n hx hb dX10_next_149 rfl (lv_at hl 0 rfl) ?_
                refine put_f (D := D) (ci := 10) (v := .int v28) (ty := .int) (C := RX10) (T := TX10) (N := 67) hx hb hw inAX10 tyX10 tyX10_ok nmX10 hown hK hP hD hS 0 rfl rfl 14 (by decide) (hw _ q_1275) (fun _ h9 => h9) rfl (by decide +kernel) rfl rfl dX10_next_150 (fun H locs F626 eF626 hP hD hS => ?_)
                have hP : va_P D vwCl [(h0, .inr (10, vL 67 F626)), (h_tape, .inl (cB, 940, .inl f_tape))] H := hP
                have hD : va_D A [(h0, .inr (10, vL 67 F626)), (h_tape, .inl (cB, 940, .inl f_tape))] := hD
                refine lv_aload_n hx hb dX10_next_153 rfl (lv_at hl 1 rfl) ?_
                refine lv_dup hx hb dX10_next_154 rfl ?_
                have n627 : F625 4 = .int u2 := (get_ne eF625 (by decide) n21)
                have n628 : F626 4 = .int u2 := (get_ne eF626 (by decide) n627)
                refine get_f (D := D) (ci := 10) (v := .int u2) (C := RX10) (T := TX10) (N := 67) hx hb hw inAX10 hown hK hP 0 rfl rfl 4 (by decide) (hw _ q_1265) (fun _ h9 => h9) n628 dX10_next_155 ?_
                refine lv_iconst (v := 1) hx hb dX10_next_158 (by decide) ?_
                refine lv_iadd hx hb dX10_next_159 ?_
                refine lv_topi (fun v629 ev629 => ?_)
                have bv629 : v629.toInt = u2.toInt + 1 := by rw [ev629]; exact add_k rfl rfl k30 ⟨Int.le_refl _, Int.le_refl _⟩ (by decide)
                have k630 : 1 ≤ v629.toInt ∧ v629.toInt ≤ 940 := add_r bv629 k30 ⟨Int.le_refl _, Int.le_refl _⟩ (by decide)
                refine put_f (D := D) (ci := 10) (v := .int v629) (ty := .int) (C := RX10) (T := TX10) (N := 67) hx hb hw inAX10 tyX10 tyX10_ok nmX10 hown hK hP hD hS 0 rfl rfl 4 (by decide) (hw _ q_1265) (fun _ h9 => h9) rfl (by decide +kernel) rfl rfl dX10_next_160 (fun H locs F631 eF631 hP hD hS => ?_)
                have hP : va_P D vwCl [(h0, .inr (10, vL 67 F631)), (h_tape, .inl (cB, 940, .inl f_tape))] H := hP
                have hD : va_D A [(h0, .inr (10, vL 67 F631)), (h_tape, .inl (cB, 940, .inl f_tape))] := hD
                exact ret_v hx hb hr hlocks hS hP hD dX10_next_163 (Nat.le_of_ble_eq_true rfl) (Nat.le_of_ble_eq_true rfl) ⟨F631, v629, 4, u2, 0, v28, x_word, (SAME.up eF631 (SAME.up eF626 (SAME.up eF625 (SAME.up eF9 (SAME.up eF8 (SAME.tr SAME.rf i4 (by decide)) (by decide)) (by decide)) (by decide)) (by decide)) (by decide)), (get_eq eF631), (ir_wk k630 (by decide) (by decide)), (get_ne eF631 (by decide) (get_ne eF626 (by decide) (get_eq eF625))), (show 0 ≤ (4 : Int32).toInt ∧ (4 : Int32).toInt ≤ 4 by decide), (get_ne eF631 (by decide) (get_ne eF626 (by decide) (get_ne eF625 (by decide) (get_ne eF9 (by decide) (get_eq eF8))))), (ir_wk k30 (by decide) (by decide)), (get_ne eF631 (by decide) (get_ne eF626 (by decide) (get_ne eF625 (by decide) (get_eq eF9)))), (show 0 ≤ (0 : Int32).toInt ∧ (0 : Int32).toInt ≤ 940 by decide), (get_ne eF631 (by decide) (get_eq eF626)), (get_ne eF631 (by decide) (get_ne eF626 (by decide) (get_ne eF625 (by decide) (get_ne eF9 (by decide) (get_ne eF8 (by decide) (SAME.at i4 (by decide) e_word)))))), (by have zl0 : (0 : Int32).toInt = 0 := (by decide); have zl4 : (4 : Int32).toInt = 4 := (by decide); omega), (by have zl0 : (0 : Int32).toInt = 0 := (by decide); have zl4 : (4 : Int32).toInt = 4 := (by decide); omega), (by have zl0 : (0 : Int32).toInt = 0 := (by decide); have zl4 : (4 : Int32).toInt = 4 := (by decide); omega), rfl⟩
              · have dc623 : 60 ≤ v28.toInt := nlt_i (a := v28.toInt) (b := 60) rfl rfl c623
                have k632 : 60 ≤ v28.toInt ∧ v28.toInt ≤ 96 := ⟨Int.le_trans (Int.le_refl _) dc623, k611.2⟩
                refine lv_iload_n hx hb dX10_next_134 rfl (lv_at hl 0 rfl) ?_
                refine lv_bipush (v := 62) hx hb dX10_next_135 (by decide) ?_
                refine lv_icmp_gt (tgt := 144) hx hb dX10_next_137 (by decide) (fun c633 => ?_) (fun c633 => ?_)
                · have dc633 : 62 < v28.toInt := lt_i (a := 62) (b := v28.toInt) rfl rfl c633
                  have k634 : 63 ≤ v28.toInt ∧ v28.toInt ≤ 96 := ⟨lo_lt dc633 (Int.le_refl _) (by decide), k632.2⟩
                  refine lv_iconst (v := 4) hx hb dX10_next_144 (by decide) ?_
                  refine put_f (D := D) (ci := 10) (v := .int 4) (ty := .int) (C := RX10) (T := TX10) (N := 67) hx hb hw inAX10 tyX10 tyX10_ok nmX10 hown hK hP hD hS 0 rfl rfl 11 (by decide) (hw _ q_1272) (fun _ h9 => h9) rfl (by decide +kernel) rfl rfl dX10_next_145 (fun H locs F635 eF635 hP hD hS => ?_)
                  have hP : va_P D vwCl [(h0, .inr (10, vL 67 F635)), (h_tape, .inl (cB, 940, .inl f_tape))] H := hP
                  have hD : va_D A [(h0, .inr (10, vL 67 F635)), (h_tape, .inl (cB, 940, .inl f_tape))] := hD
                  refine lv_aload_n hx hb dX10_next_148 rfl (lv_at hl 1 rfl) ?_
                  refine lv_iload_n hx hb dX10_next_149 rfl (lv_at hl 0 rfl) ?_
                  refine put_f (D := D) (ci := 10) (v := .int v28) (ty := .int) (C := RX10) (T := TX10) (N := 67) hx hb hw inAX10 tyX10 tyX10_ok nmX10 hown hK hP hD hS 0 rfl rfl 14 (by decide) (hw _ q_1275) (fun _ h9 => h9) rfl (by decide +kernel) rfl rfl dX10_next_150 (fun H locs F636 eF636 hP hD hS => ?_)
                  have hP : va_P D vwCl [(h0, .inr (10, vL 67 F636)), (h_tape, .inl (cB, 940, .inl f_tape))] H := hP
                  have hD : va_D A [(h0, .inr (10, vL 67 F636)), (h_tape, .inl (cB, 940, .inl f_tape))] := hD
                  refine lv_aload_n hx hb dX10_next_153 rfl (lv_at hl 1 rfl) ?_
                  refine lv_dup hx hb dX10_next_154 rfl ?_
                  have n637 : F635 4 = .int u2 := (get_ne eF635 (by decide) n21)
                  have n638 : F636 4 = .int u2 := (get_ne eF636 (by decide) n637)
                  refine get_f (D := D) (ci := 10) (v := .int u2) (C := RX10) (T := TX10) (N := 67) hx hb hw inAX10 hown hK hP 0 rfl rfl 4 (by decide) (hw _ q_1265) (fun _ h9 => h9) n638 dX10_next_155 ?_
                  refine lv_iconst (v := 1) hx hb dX10_next_158 (by decide) ?_
                  refine lv_iadd hx hb dX10_next_159 ?_
                  refine lv_topi (fun v639 ev639 => ?_)
                  have bv639 : v639.toInt = u2.toInt + 1 := by rw [ev639]; exact add_k rfl rfl k30 ⟨Int.le_refl _, Int.le_refl _⟩ (by decide)
                  have k640 : 1 ≤ v639.toInt ∧ v639.toInt ≤ 940 := add_r bv639 k30 ⟨Int.le_refl _, Int.le_refl _⟩ (by decide)
                  refine put_f (D := D) (ci := 10) (v := .int v639) (ty := .int) (C := RX10) (T := TX10) (N := 67) hx hb hw inAX10 tyX10 tyX10_ok nmX10 hown hK hP hD hS 0 rfl rfl 4 (by decide) (hw _ q_1265) (fun _ h9 => h9) rfl (by decide +kernel) rfl rfl dX10_next_160 (fun H locs F641 eF641 hP hD hS => ?_)
                  have hP : va_P D vwCl [(h0, .inr (10, vL 67 F641)), (h_tape, .inl (cB, 940, .inl f_tape))] H := hP
                  have hD : va_D A [(h0, .inr (10, vL 67 F641)), (h_tape, .inl (cB, 940, .inl f_tape))] := hD
                  exact ret_v hx hb hr hlocks hS hP hD dX10_next_163 (Nat.le_of_ble_eq_true rfl) (Nat.le_of_ble_eq_true rfl) ⟨F641, v639, 4, u2, 0, v28, x_word, (SAME.up eF641 (SAME.up eF636 (SAME.up eF635 (SAME.up eF9 (SAME.up eF8 (SAME.tr SAME.rf i4 (by decide)) (by decide)) (by decide)) (by decide)) (by decide)) (by decide)), (get_eq eF641), (ir_wk k640 (by decide) (by decide)), (get_ne eF641 (by decide) (get_ne eF636 (by decide) (get_eq eF635))), (show 0 ≤ (4 : Int32).toInt ∧ (4 : Int32).toInt ≤ 4 by decide), (get_ne eF641 (by decide) (get_ne eF636 (by decide) (get_ne eF635 (by decide) (get_ne eF9 (by decide) (get_eq eF8))))), (ir_wk k30 (by decide) (by decide)), (get_ne eF641 (by decide) (get_ne eF636 (by decide) (get_ne eF635 (by decide) (get_eq eF9)))), (show 0 ≤ (0 : Int32).toInt ∧ (0 : Int32).toInt ≤ 940 by decide), (get_ne eF641 (by decide) (get_eq eF636)), (get_ne eF641 (by decide) (get_ne eF636 (by decide) (get_ne eF635 (by decide) (get_ne eF9 (by decide) (get_ne eF8 (by decide) (SAME.at i4 (by decide) e_word)))))), (by have zl0 : (0 : Int32).toInt = 0 := (by decide); have zl4 : (4 : Int32).toInt = 4 := (by decide); omega), (by have zl0 : (0 : Int32).toInt = 0 := (by decide); have zl4 : (4 : Int32).toInt = 4 := (by decide); omega), (by have zl0 : (0 : Int32).toInt = 0 := (by decide); have zl4 : (4 : Int32).toInt = 4 := (by decide); omega), rfl⟩
                · have dc633 : v28.toInt ≤ 62 := nlt_i (a := 62) (b := v28.toInt) rfl rfl c633
                  have k642 : 60 ≤ v28.toInt ∧ v28.toInt ≤ 62 := ⟨k632.1, Int.le_trans dc633 (Int.le_refl _)⟩
                  refine lv_iconst (v := 3) hx hb dX10_next_140 (by decide) ?_
                  refine lv_goto (tgt := 145) hx hb dX10_next_141 (by decide) ?_
                  refine put_f (D := D) (ci := 10) (v := .int 3) (ty := .int) (C := RX10) (T := TX10) (N := 67) hx hb hw inAX10 tyX10 tyX10_ok nmX10 hown hK hP hD hS 0 rfl rfl 11 (by decide) (hw _ q_1272) (fun _ h9 => h9) rfl (by decide +kernel) rfl rfl dX10_next_145 (fun H locs F643 eF643 hP hD hS => ?_)
                  have hP : va_P D vwCl [(h0, .inr (10, vL 67 F643)), (h_tape, .inl (cB, 940, .inl f_tape))] H := hP
                  have hD : va_D A [(h0, .inr (10, vL 67 F643)), (h_tape, .inl (cB, 940, .inl f_tape))] := hD
                  refine lv_aload_n hx hb dX10_next_148 rfl (lv_at hl 1 rfl) ?_
                  refine lv_iload_n hx hb dX10_next_149 rfl (lv_at hl 0 rfl) ?_
                  refine put_f (D := D) (ci := 10) (v := .int v28) (ty := .int) (C := RX10) (T := TX10) (N := 67) hx hb hw inAX10 tyX10 tyX10_ok nmX10 hown hK hP hD hS 0 rfl rfl 14 (by decide) (hw _ q_1275) (fun _ h9 => h9) rfl (by decide +kernel) rfl rfl dX10_next_150 (fun H locs F644 eF644 hP hD hS => ?_)
                  have hP : va_P D vwCl [(h0, .inr (10, vL 67 F644)), (h_tape, .inl (cB, 940, .inl f_tape))] H := hP
                  have hD : va_D A [(h0, .inr (10, vL 67 F644)), (h_tape, .inl (cB, 940, .inl f_tape))] := hD
                  refine lv_aload_n hx hb dX10_next_153 rfl (lv_at hl 1 rfl) ?_
                  refine lv_dup hx hb dX10_next_154 rfl ?_
                  have n645 : F643 4 = .int u2 := (get_ne eF643 (by decide) n21)
                  have n646 : F644 4 = .int u2 := (get_ne eF644 (by decide) n645)
                  refine get_f (D := D) (ci := 10) (v := .int u2) (C := RX10) (T := TX10) (N := 67) hx hb hw inAX10 hown hK hP 0 rfl rfl 4 (by decide) (hw _ q_1265) (fun _ h9 => h9) n646 dX10_next_155 ?_
                  refine lv_iconst (v := 1) hx hb dX10_next_158 (by decide) ?_
                  refine lv_iadd hx hb dX10_next_159 ?_
                  refine lv_topi (fun v647 ev647 => ?_)
                  have bv647 : v647.toInt = u2.toInt + 1 := by rw [ev647]; exact add_k rfl rfl k30 ⟨Int.le_refl _, Int.le_refl _⟩ (by decide)
                  have k648 : 1 ≤ v647.toInt ∧ v647.toInt ≤ 940 := add_r bv647 k30 ⟨Int.le_refl _, Int.le_refl _⟩ (by decide)
                  refine put_f (D := D) (ci := 10) (v := .int v647) (ty := .int) (C := RX10) (T := TX10) (N := 67) hx hb hw inAX10 tyX10 tyX10_ok nmX10 hown hK hP hD hS 0 rfl rfl 4 (by decide) (hw _ q_1265) (fun _ h9 => h9) rfl (by decide +kernel) rfl rfl dX10_next_160 (fun H locs F649 eF649 hP hD hS => ?_)
                  have hP : va_P D vwCl [(h0, .inr (10, vL 67 F649)), (h_tape, .inl (cB, 940, .inl f_tape))] H := hP
                  have hD : va_D A [(h0, .inr (10, vL 67 F649)), (h_tape, .inl (cB, 940, .inl f_tape))] := hD
                  exact ret_v hx hb hr hlocks hS hP hD dX10_next_163 (Nat.le_of_ble_eq_true rfl) (Nat.le_of_ble_eq_true rfl) ⟨F649, v647, 3, u2, 0, v28, x_word, (SAME.up eF649 (SAME.up eF644 (SAME.up eF643 (SAME.up eF9 (SAME.up eF8 (SAME.tr SAME.rf i4 (by decide)) (by decide)) (by decide)) (by decide)) (by decide)) (by decide)), (get_eq eF649), (ir_wk k648 (by decide) (by decide)), (get_ne eF649 (by decide) (get_ne eF644 (by decide) (get_eq eF643))), (show 0 ≤ (3 : Int32).toInt ∧ (3 : Int32).toInt ≤ 4 by decide), (get_ne eF649 (by decide) (get_ne eF644 (by decide) (get_ne eF643 (by decide) (get_ne eF9 (by decide) (get_eq eF8))))), (ir_wk k30 (by decide) (by decide)), (get_ne eF649 (by decide) (get_ne eF644 (by decide) (get_ne eF643 (by decide) (get_eq eF9)))), (show 0 ≤ (0 : Int32).toInt ∧ (0 : Int32).toInt ≤ 940 by decide), (get_ne eF649 (by decide) (get_eq eF644)), (get_ne eF649 (by decide) (get_ne eF644 (by decide) (get_ne eF643 (by decide) (get_ne eF9 (by decide) (get_ne eF8 (by decide) (SAME.at i4 (by decide) e_word)))))), (by have zl0 : (0 : Int32).toInt = 0 := (by decide); have zl4 : (4 : Int32).toInt = 4 := (by decide); omega), (by have zl0 : (0 : Int32).toInt = 0 := (by decide); have zl4 : (4 : Int32).toInt = 4 := (by decide); omega), (by have zl0 : (0 : Int32).toInt = 0 := (by decide); have zl3 : (3 : Int32).toInt = 3 := (by decide); omega), rfl⟩
          · have hP : va_P D vwCl [(h0, .inr (10, vL 67 F9)), (h_tape, .inl (cB, 940, .inl f_tape))] H := hP
            have hD : va_D A [(h0, .inr (10, vL 67 F9)), (h_tape, .inl (cB, 940, .inl f_tape))] := hD
            refine W.widen (k := 0) (n := 0) (Nat.le_of_ble_eq_true rfl) (Nat.le_of_ble_eq_true rfl) ?_
            have k650 : 48 ≤ v28.toInt ∧ v28.toInt ≤ 96 := ⟨Int.le_trans (Int.le_refl _) t579, k574.2⟩
            have k651 : 48 ≤ v28.toInt ∧ v28.toInt ≤ 57 := ⟨k650.1, Int.le_trans t580 (Int.le_refl _)⟩
            refine lv_if_ne (tgt := 164) hx hb dX10_next_106 (by decide) (fun _ => ?_) (fun g => absurd g (by decide))
            refine lv_iload_n hx hb dX10_next_164 rfl (lv_at hl 0 rfl) ?_
            refine call_Si (wr := [(h0, .inr (10, vL 67 F9)), (h_tape, .inl (cB, 940, .inl f_tape))]) (As := [.int v28]) (rest := []) hx hb hml hown hw (m_X10_isSmall l D cI cJ cB cP cM cZ v28 _ ) wS_X10_182_X10_isSmall dX10_next_165 hP hD hS hA [] [0, 1] rfl rfl (by decide) (by decide) (by decide) GG.fb hG.at hl.1 rfl (Nat.le_of_ble_eq_true rfl) ⟨(Nat.le_of_ble_eq_true rfl), (Nat.le_of_ble_eq_true rfl)⟩ ⟨(Nat.le_of_ble_eq_true rfl), (Nat.le_of_ble_eq_true rfl)⟩ (fun r652 u H locs hp hP hD hS => ?_)
            rcases hp with ⟨t653, rfl, rfl⟩ | ⟨t654, t655, rfl, rfl⟩ | ⟨t656, t657, rfl, rfl⟩
            · have hP : va_P D vwCl [(h0, .inr (10, vL 67 F9)), (h_tape, .inl (cB, 940, .inl f_tape))] H := hP
              have hD : va_D A [(h0, .inr (10, vL 67 F9)), (h_tape, .inl (cB, 940, .inl f_tape))] := hD
              refine W.widen (k := 0) (n := 0) (Nat.le_of_ble_eq_true rfl) (Nat.le_of_ble_eq_true rfl) ?_
              refine lv_istore_n (lv' := [(2, .int 0), (1, .int v28), (0, .ref h0)]) hx hb dX10_next_168 rfl hl (by decide) rfl (fun ls hl => ?_)
              refine lv_iconst (v := 1) hx hb dX10_next_169 (by decide) ?_
              refine lv_istore_n (lv' := [(3, .int 1), (2, .int 0), (1, .int v28), (0, .ref h0)]) hx hb dX10_next_170 rfl hl (by decide) rfl (fun ls hl => ?_)
              exact cut34 0 (show 0 ≤ (0 : Int32).toInt ∧ (0 : Int32).toInt ≤ 1 by decide) _ _ _ hP hD hS (lv_sub hl [0, 1, 2, 3] rfl)
            · have hP : va_P D vwCl [(h0, .inr (10, vL 67 F9)), (h_tape, .inl (cB, 940, .inl f_tape))] H := hP
              have hD : va_D A [(h0, .inr (10, vL 67 F9)), (h_tape, .inl (cB, 940, .inl f_tape))] := hD
              refine W.widen (k := 0) (n := 0) (Nat.le_of_ble_eq_true rfl) (Nat.le_of_ble_eq_true rfl) ?_
              exact False.elim (bad_le t654 (Int.le_refl _) k651.2 (by decide))
            · have hP : va_P D vwCl [(h0, .inr (10, vL 67 F9)), (h_tape, .inl (cB, 940, .inl f_tape))] H := hP
              have hD : va_D A [(h0, .inr (10, vL 67 F9)), (h_tape, .inl (cB, 940, .inl f_tape))] := hD
              refine W.widen (k := 0) (n := 0) (Nat.le_of_ble_eq_true rfl) (Nat.le_of_ble_eq_true rfl) ?_
              exact False.elim (bad_le t656 (Int.le_refl _) k651.2 (by decide))
        · have hP : va_P D vwCl [(h0, .inr (10, vL 67 F9)), (h_tape, .inl (cB, 940, .inl f_tape))] H := hP
          have hD : va_D A [(h0, .inr (10, vL 67 F9)), (h_tape, .inl (cB, 940, .inl f_tape))] := hD
          refine W.widen (k := 0) (n := 0) (Nat.le_of_ble_eq_true rfl) (Nat.le_of_ble_eq_true rfl) ?_
          have k659 : 97 ≤ v28.toInt ∧ v28.toInt ≤ 255 := ⟨Int.le_trans (Int.le_refl _) t569, k29.2⟩
          have k660 : 123 ≤ v28.toInt ∧ v28.toInt ≤ 255 := ⟨lo_lt t570 (Int.le_refl _) (by decide), k659.2⟩
          refine lv_if_ne (tgt := 164) hx hb dX10_next_99 (by decide) (fun g => absurd (by decide) g) (fun _ => ?_)
          refine lv_iload_n hx hb dX10_next_102 rfl (lv_at hl 0 rfl) ?_
          refine call_Si (wr := [(h0, .inr (10, vL 67 F9)), (h_tape, .inl (cB, 940, .inl f_tape))]) (As := [.int v28]) (rest := []) hx hb hml hown hw (m_X10_isDigit l D cI cJ cB cP cM cZ v28 _ ) wS_X10_186_X10_isDigit dX10_next_103 hP hD hS hA [] [0, 1] rfl rfl (by decide) (by decide) (by decide) GG.fb hG.at hl.1 rfl (Nat.le_of_ble_eq_true rfl) ⟨(Nat.le_of_ble_eq_true rfl), (Nat.le_of_ble_eq_true rfl)⟩ ⟨(Nat.le_of_ble_eq_true rfl), (Nat.le_of_ble_eq_true rfl)⟩ (fun r661 u H locs hp hP hD hS => ?_)
          rcases hp with ⟨t662, rfl, rfl⟩ | ⟨t663, t664, rfl, rfl⟩ | ⟨t665, t666, rfl, rfl⟩
          · have hP : va_P D vwCl [(h0, .inr (10, vL 67 F9)), (h_tape, .inl (cB, 940, .inl f_tape))] H := hP
            have hD : va_D A [(h0, .inr (10, vL 67 F9)), (h_tape, .inl (cB, 940, .inl f_tape))] := hD
            refine W.widen (k := 0) (n := 0) (Nat.le_of_ble_eq_true rfl) (Nat.le_of_ble_eq_true rfl) ?_
            exact False.elim (bad_lt t662 k660.1 (Int.le_refl _) (by decide))
          · have hP : va_P D vwCl [(h0, .inr (10, vL 67 F9)), (h_tape, .inl (cB, 940, .inl f_tape))] H := hP
            have hD : va_D A [(h0, .inr (10, vL 67 F9)), (h_tape, .inl (cB, 940, .inl f_tape))] := hD
            refine W.widen (k := 0) (n := 0) (Nat.le_of_ble_eq_true rfl) (Nat.le_of_ble_eq_true rfl) ?_
            refine lv_if_ne (tgt := 164) hx hb dX10_next_106 (by decide) (fun g => absurd (by decide) g) (fun _ => ?_)
            refine lv_aload_n hx hb dX10_next_109 rfl (lv_at hl 1 rfl) ?_
            refine lv_iload_n hx hb dX10_next_110 rfl (lv_at hl 0 rfl) ?_
            refine lv_bipush (v := 59) hx hb dX10_next_111 (by decide) ?_
            refine lv_icmp_eq (tgt := 140) hx hb dX10_next_113 (by decide) (fun c668 => False.elim (bad_le (Int.le_of_eq (eq_i (a := v28.toInt) (b := 59) rfl rfl c668)) k660.1 (Int.le_refl _) (by decide))) (fun c668 => ?_)
            have dc668 : v28.toInt ≠ 59 := ne_i (a := v28.toInt) (b := 59) rfl rfl c668
            refine lv_iload_n hx hb dX10_next_116 rfl (lv_at hl 0 rfl) ?_
            refine lv_bipush (v := 40) hx hb dX10_next_117 (by decide) ?_
            refine lv_icmp_eq (tgt := 140) hx hb dX10_next_119 (by decide) (fun c669 => False.elim (bad_le (Int.le_of_eq (eq_i (a := v28.toInt) (b := 40) rfl rfl c669)) k660.1 (Int.le_refl _) (by decide))) (fun c669 => ?_)
            have dc669 : v28.toInt ≠ 40 := ne_i (a := v28.toInt) (b := 40) rfl rfl c669
            refine lv_iload_n hx hb dX10_next_122 rfl (lv_at hl 0 rfl) ?_
            refine lv_bipush (v := 41) hx hb dX10_next_123 (by decide) ?_
            refine lv_icmp_eq (tgt := 140) hx hb dX10_next_125 (by decide) (fun c670 => False.elim (bad_le (Int.le_of_eq (eq_i (a := v28.toInt) (b := 41) rfl rfl c670)) k660.1 (Int.le_refl _) (by decide))) (fun c670 => ?_)
            have dc670 : v28.toInt ≠ 41 := ne_i (a := v28.toInt) (b := 41) rfl rfl c670
            refine lv_iload_n hx hb dX10_next_128 rfl (lv_at hl 0 rfl) ?_
            refine lv_bipush (v := 60) hx hb dX10_next_129 (by decide) ?_
            refine lv_icmp_lt (tgt := 144) hx hb dX10_next_131 (by decide) (fun c671 => False.elim (bad_lt (lt_i (a := v28.toInt) (b := 60) rfl rfl c671) k660.1 (Int.le_refl _) (by decide))) (fun c671 => ?_)
            have dc671 : 60 ≤ v28.toInt := nlt_i (a := v28.toInt) (b := 60) rfl rfl c671
            refine lv_iload_n hx hb dX10_next_134 rfl (lv_at hl 0 rfl) ?_
            refine lv_bipush (v := 62) hx hb dX10_next_135 (by decide) ?_
            refine lv_icmp_gt (tgt := 144) hx hb dX10_next_137 (by decide) (fun c672 => ?_) (fun c672 => False.elim (bad_le (nlt_i (a := 62) (b := v28.toInt) rfl rfl c672) k660.1 (Int.le_refl _) (by decide)))
            have dc672 : 62 < v28.toInt := lt_i (a := 62) (b := v28.toInt) rfl rfl c672
            refine lv_iconst (v := 4) hx hb dX10_next_144 (by decide) ?_
            refine put_f (D := D) (ci := 10) (v := .int 4) (ty := .int) (C := RX10) (T := TX10) (N := 67) hx hb hw inAX10 tyX10 tyX10_ok nmX10 hown hK hP hD hS 0 rfl rfl 11 (by decide) (hw _ q_1272) (fun _ h9 => h9) rfl (by decide +kernel) rfl rfl dX10_next_145 (fun H locs F673 eF673 hP hD hS => ?_)
            have hP : va_P D vwCl [(h0, .inr (10, vL 67 F673)), (h_tape, .inl (cB, 940, .inl f_tape))] H := hP
            have hD : va_D A [(h0, .inr (10, vL 67 F673)), (h_tape, .inl (cB, 940, .inl f_tape))] := hD
            refine lv_aload_n hx hb dX10_next_148 rfl (lv_at hl 1 rfl) ?_
            refine lv_iload_n hx hb dX10_next_149 rfl (lv_at hl 0 rfl) ?_
            refine put_f (D := D) (ci := 10) (v := .int v28) (ty := .int) (C := RX10) (T := TX10) (N := 67) hx hb hw inAX10 tyX10 tyX10_ok nmX10 hown hK hP hD hS 0 rfl rfl 14 (by decide) (hw _ q_1275) (fun _ h9 => h9) rfl (by decide +kernel) rfl rfl dX10_next_150 (fun H locs F674 eF674 hP hD hS => ?_)
            have hP : va_P D vwCl [(h0, .inr (10, vL 67 F674)), (h_tape, .inl (cB, 940, .inl f_tape))] H := hP
            have hD : va_D A [(h0, .inr (10, vL 67 F674)), (h_tape, .inl (cB, 940, .inl f_tape))] := hD
            refine lv_aload_n hx hb dX10_next_153 rfl (lv_at hl 1 rfl) ?_
            refine lv_dup hx hb dX10_next_154 rfl ?_
            have n675 : F673 4 = .int u2 := (get_ne eF673 (by decide) n21)
            have n676 : F674 4 = .int u2 := (get_ne eF674 (by decide) n675)
            refine get_f (D := D) (ci := 10) (v := .int u2) (C := RX10) (T := TX10) (N := 67) hx hb hw inAX10 hown hK hP 0 rfl rfl 4 (by decide) (hw _ q_1265) (fun _ h9 => h9) n676 dX10_next_155 ?_
            refine lv_iconst (v := 1) hx hb dX10_next_158 (by decide) ?_
            refine lv_iadd hx hb dX10_next_159 ?_
            refine lv_topi (fun v677 ev677 => ?_)
            have bv677 : v677.toInt = u2.toInt + 1 := by rw [ev677]; exact add_k rfl rfl k30 ⟨Int.le_refl _, Int.le_refl _⟩ (by decide)
            have k678 : 1 ≤ v677.toInt ∧ v677.toInt ≤ 940 := add_r bv677 k30 ⟨Int.le_refl _, Int.le_refl _⟩ (by decide)
            refine put_f (D := D) (ci := 10) (v := .int v677) (ty := .int) (C := RX10) (T := TX10) (N := 67) hx hb hw inAX10 tyX10 tyX10_ok nmX10 hown hK hP hD hS 0 rfl rfl 4 (by decide) (hw _ q_1265) (fun _ h9 => h9) rfl (by decide +kernel) rfl rfl dX10_next_160 (fun H locs F679 eF679 hP hD hS => ?_)
            have hP : va_P D vwCl [(h0, .inr (10, vL 67 F679)), (h_tape, .inl (cB, 940, .inl f_tape))] H := hP
            have hD : va_D A [(h0, .inr (10, vL 67 F679)), (h_tape, .inl (cB, 940, .inl f_tape))] := hD
            exact ret_v hx hb hr hlocks hS hP hD dX10_next_163 (Nat.le_of_ble_eq_true rfl) (Nat.le_of_ble_eq_true rfl) ⟨F679, v677, 4, u2, 0, v28, x_word, (SAME.up eF679 (SAME.up eF674 (SAME.up eF673 (SAME.up eF9 (SAME.up eF8 (SAME.tr SAME.rf i4 (by decide)) (by decide)) (by decide)) (by decide)) (by decide)) (by decide)), (get_eq eF679), (ir_wk k678 (by decide) (by decide)), (get_ne eF679 (by decide) (get_ne eF674 (by decide) (get_eq eF673))), (show 0 ≤ (4 : Int32).toInt ∧ (4 : Int32).toInt ≤ 4 by decide), (get_ne eF679 (by decide) (get_ne eF674 (by decide) (get_ne eF673 (by decide) (get_ne eF9 (by decide) (get_eq eF8))))), (ir_wk k30 (by decide) (by decide)), (get_ne eF679 (by decide) (get_ne eF674 (by decide) (get_ne eF673 (by decide) (get_eq eF9)))), (show 0 ≤ (0 : Int32).toInt ∧ (0 : Int32).toInt ≤ 940 by decide), (get_ne eF679 (by decide) (get_eq eF674)), (get_ne eF679 (by decide) (get_ne eF674 (by decide) (get_ne eF673 (by decide) (get_ne eF9 (by decide) (get_ne eF8 (by decide) (SAME.at i4 (by decide) e_word)))))), (by have zl0 : (0 : Int32).toInt = 0 := (by decide); have zl4 : (4 : Int32).toInt = 4 := (by decide); omega), (by have zl0 : (0 : Int32).toInt = 0 := (by decide); have zl4 : (4 : Int32).toInt = 4 := (by decide); omega), (by have zl0 : (0 : Int32).toInt = 0 := (by decide); have zl4 : (4 : Int32).toInt = 4 := (by decide); omega), rfl⟩
          · have hP : va_P D vwCl [(h0, .inr (10, vL 67 F9)), (h_tape, .inl (cB, 940, .inl f_tape))] H := hP
            have hD : va_D A [(h0, .inr (10, vL 67 F9)), (h_tape, .inl (cB, 940, .inl f_tape))] := hD
            refine W.widen (k := 0) (n := 0) (Nat.le_of_ble_eq_true rfl) (Nat.le_of_ble_eq_true rfl) ?_
            exact False.elim (bad_le t666 k660.1 (Int.le_refl _) (by decide))
        · have hP : va_P D vwCl [(h0, .inr (10, vL 67 F9)), (h_tape, .inl (cB, 940, .inl f_tape))] H := hP
          have hD : va_D A [(h0, .inr (10, vL 67 F9)), (h_tape, .inl (cB, 940, .inl f_tape))] := hD
          refine W.widen (k := 0) (n := 0) (Nat.le_of_ble_eq_true rfl) (Nat.le_of_ble_eq_true rfl) ?_
          have k680 : 97 ≤ v28.toInt ∧ v28.toInt ≤ 255 := ⟨Int.le_trans (Int.le_refl _) t571, k29.2⟩
          have k681 : 97 ≤ v28.toInt ∧ v28.toInt ≤ 122 := ⟨k680.1, Int.le_trans t572 (Int.le_refl _)⟩
          refine lv_if_ne (tgt := 164) hx hb dX10_next_99 (by decide) (fun _ => ?_) (fun g => absurd g (by decide))
          refine lv_iload_n hx hb dX10_next_164 rfl (lv_at hl 0 rfl) ?_
          refine call_Si (wr := [(h0, .inr (10, vL 67 F9)), (h_tape, .inl (cB, 940, .inl f_tape))]) (As := [.int v28]) (rest := []) hx hb hml hown hw (m_X10_isSmall l D cI cJ cB cP cM cZ v28 _ ) wS_X10_182_X10_isSmall dX10_next_165 hP hD hS hA [] [0, 1] rfl rfl (by decide) (by decide) (by decide) GG.fb hG.at hl.1 rfl (Nat.le_of_ble_eq_true rfl) ⟨(Nat.le_of_ble_eq_true rfl), (Nat.le_of_ble_eq_true rfl)⟩ ⟨(Nat.le_of_ble_eq_true rfl), (Nat.le_of_ble_eq_true rfl)⟩ (fun r682 u H locs hp hP hD hS => ?_)
          rcases hp with ⟨t683, rfl, rfl⟩ | ⟨t684, t685, rfl, rfl⟩ | ⟨t686, t687, rfl, rfl⟩
          · have hP : va_P D vwCl [(h0, .inr (10, vL 67 F9)), (h_tape, .inl (cB, 940, .inl f_tape))] H := hP
            have hD : va_D A [(h0, .inr (10, vL 67 F9)), (h_tape, .inl (cB, 940, .inl f_tape))] := hD
            refine W.widen (k := 0) (n := 0) (Nat.le_of_ble_eq_true rfl) (Nat.le_of_ble_eq_true rfl) ?_
            exact False.elim (bad_lt t683 k681.1 (Int.le_refl _) (by decide))
          · have hP : va_P D vwCl [(h0, .inr (10, vL 67 F9)), (h_tape, .inl (cB, 940, .inl f_tape))] H := hP
            have hD : va_D A [(h0, .inr (10, vL 67 F9)), (h_tape, .inl (cB, 940, .inl f_tape))] := hD
            refine W.widen (k := 0) (n := 0) (Nat.le_of_ble_eq_true rfl) (Nat.le_of_ble_eq_true rfl) ?_
            exact False.elim (bad_lt t685 (Int.le_refl _) k681.2 (by decide))
          · have hP : va_P D vwCl [(h0, .inr (10, vL 67 F9)), (h_tape, .inl (cB, 940, .inl f_tape))] H := hP
            have hD : va_D A [(h0, .inr (10, vL 67 F9)), (h_tape, .inl (cB, 940, .inl f_tape))] := hD
            refine W.widen (k := 0) (n := 0) (Nat.le_of_ble_eq_true rfl) (Nat.le_of_ble_eq_true rfl) ?_
            refine lv_istore_n (lv' := [(2, .int 1), (1, .int v28), (0, .ref h0)]) hx hb dX10_next_168 rfl hl (by decide) rfl (fun ls hl => ?_)
            refine lv_iconst (v := 1) hx hb dX10_next_169 (by decide) ?_
            refine lv_istore_n (lv' := [(3, .int 1), (2, .int 1), (1, .int v28), (0, .ref h0)]) hx hb dX10_next_170 rfl hl (by decide) rfl (fun ls hl => ?_)
            exact cut34 1 (show 0 ≤ (1 : Int32).toInt ∧ (1 : Int32).toInt ≤ 1 by decide) _ _ _ hP hD hS (lv_sub hl [0, 1, 2, 3] rfl)
    · have dc16 : x_limit.toInt < x_size.toInt := nle_i (a := x_size.toInt) (b := x_limit.toInt) rfl rfl c16
      have k689 : 200 ≤ x_limit.toInt ∧ x_limit.toInt ≤ 939 := ⟨i_x_limit.1, up_lt dc16 i_x_size.2 (by decide)⟩
      have k690 : 201 ≤ x_size.toInt ∧ x_size.toInt ≤ 940 := ⟨lo_lt dc16 i_x_limit.1 (by decide), i_x_size.2⟩
      refine lv_aload_n hx hb dX10_next_55 rfl (lv_at hl 0 rfl) ?_
      have n691 : F8 4 = .int u2 := (get_ne eF8 (by decide) i5)
      have n692 : F9 4 = .int u2 := (get_ne eF9 (by decide) n691)
      refine get_f (D := D) (ci := 10) (v := .int u2) (C := RX10) (T := TX10) (N := 67) hx hb hw inAX10 hown hK hP 0 rfl rfl 4 (by decide) (hw _ q_1265) (fun _ h9 => h9) n692 dX10_next_56 ?_
      refine lv_aload_n hx hb dX10_next_59 rfl (lv_at hl 0 rfl) ?_
      refine get_f (D := D) (ci := 10) (v := .int x_limit) (C := RX10) (T := TX10) (N := 67) hx hb hw inAX10 hown hK hP 0 rfl rfl 5 (by decide) (hw _ q_1266) (fun _ h9 => h9) n15 dX10_next_60 ?_
      refine lv_icmp_lt (tgt := 80) hx hb dX10_next_63 (by decide) (fun c693 => ?_) (fun c693 => ?_)
      · have dc693 : u2.toInt < x_limit.toInt := lt_i (a := u2.toInt) (b := x_limit.toInt) rfl rfl c693
        have k694 : 0 ≤ u2.toInt ∧ u2.toInt ≤ 938 := ⟨i6.1, up_lt dc693 k689.2 (by decide)⟩
        refine lv_aload_n hx hb dX10_next_80 rfl (lv_at hl 0 rfl) ?_
        have n695 : G1 1 = .ref h_tape := (SAME.at i4 (by decide) e_tape)
        have n696 : F8 1 = .ref h_tape := (get_ne eF8 (by decide) n695)
        have n697 : F9 1 = .ref h_tape := (get_ne eF9 (by decide) n696)
        refine call_Vi (wr := []) (As := []) (rest := []) hx hb hml hown hw (m_X10_peek l D cI cJ cB cP cM cZ h0 h_tape F9 x_size u2 f_tape _ n697 n12 (ir_wk k690 (by decide) (by decide)) n692 (ir_wk k694 (by decide) (by decide))) wV_X10_169_X10_peek dX10_next_81 hK hP hD hS hA [0, 1] [] rfl rfl (by decide) (by decide) (by decide) 0 10 rfl rfl GG.fb hG.at hl.1 rfl (Nat.le_of_ble_eq_true rfl) ⟨(Nat.le_of_ble_eq_true rfl), (Nat.le_of_ble_eq_true rfl)⟩ ⟨(Nat.le_of_ble_eq_true rfl), (Nat.le_of_ble_eq_true rfl)⟩ (fun r698 u H locs hp hP hD hS => ?_)
        rcases hp with ⟨t699, rfl, rfl⟩ | ⟨t700, t701, rfl, rfl⟩
        · have hP : va_P D vwCl [(h0, .inr (10, vL 67 F9)), (h_tape, .inl (cB, 940, .inl f_tape))] H := hP
          have hD : va_D A [(h0, .inr (10, vL 67 F9)), (h_tape, .inl (cB, 940, .inl f_tape))] := hD
          refine W.widen (k := 0) (n := 0) (Nat.le_of_ble_eq_true rfl) (Nat.le_of_ble_eq_true rfl) ?_
          have k703 : 201 ≤ x_size.toInt ∧ x_size.toInt ≤ 938 := ⟨k690.1, Int.le_trans t699 k694.2⟩
          have k704 : 201 ≤ u2.toInt ∧ u2.toInt ≤ 938 := ⟨Int.le_trans k690.1 t699, k694.2⟩
          refine lv_istore_n (lv' := [(1, .int (-1)), (0, .ref h0)]) hx hb dX10_next_84 rfl hl (by decide) rfl (fun ls hl => ?_)
          refine lv_iload_n hx hb dX10_next_85 rfl (lv_at hl 0 rfl) ?_
          refine lv_if_ge (tgt := 95) hx hb dX10_next_86 (by decide) (fun g => absurd g (by decide)) (fun _ => ?_)
          refine lv_aload_n hx hb dX10_next_89 rfl (lv_at hl 1 rfl) ?_
          refine lv_iconst (v := 0) hx hb dX10_next_90 (by decide) ?_
          refine put_f (D := D) (ci := 10) (v := .int 0) (ty := .int) (C := RX10) (T := TX10) (N := 67) hx hb hw inAX10 tyX10 tyX10_ok nmX10 hown hK hP hD hS 0 rfl rfl 11 (by decide) (hw _ q_1272) (fun _ h9 => h9) rfl (by decide +kernel) rfl rfl dX10_next_91 (fun H locs F705 eF705 hP hD hS => ?_)
          have hP : va_P D vwCl [(h0, .inr (10, vL 67 F705)), (h_tape, .inl (cB, 940, .inl f_tape))] H := hP
          have hD : va_D A [(h0, .inr (10, vL 67 F705)), (h_tape, .inl (cB, 940, .inl f_tape))] := hD
          exact ret_v hx hb hr hlocks hS hP hD dX10_next_94 (Nat.le_of_ble_eq_true rfl) (Nat.le_of_ble_eq_true rfl) ⟨F705, u2, 0, u2, 0, x_number, x_word, (SAME.up eF705 (SAME.up eF9 (SAME.up eF8 (SAME.tr SAME.rf i4 (by decide)) (by decide)) (by decide)) (by decide)), (get_ne eF705 (by decide) n692), (ir_wk k704 (by decide) (by decide)), (get_eq eF705), (show 0 ≤ (0 : Int32).toInt ∧ (0 : Int32).toInt ≤ 4 by decide), (get_ne eF705 (by decide) (get_ne eF9 (by decide) (get_eq eF8))), (ir_wk k704 (by decide) (by decide)), (get_ne eF705 (by decide) (get_eq eF9)), (show 0 ≤ (0 : Int32).toInt ∧ (0 : Int32).toInt ≤ 940 by decide), (get_ne eF705 (by decide) (get_ne eF9 (by decide) (get_ne eF8 (by decide) (SAME.at i4 (by decide) e_number)))), (get_ne eF705 (by decide) (get_ne eF9 (by decide) (get_ne eF8 (by decide) (SAME.at i4 (by decide) e_word)))), (by have zl0 : (0 : Int32).toInt = 0 := (by decide); have zl4 : (4 : Int32).toInt = 4 := (by decide); omega), (by have zl0 : (0 : Int32).toInt = 0 := (by decide); have zl4 : (4 : Int32).toInt = 4 := (by decide); omega), (by have zl0 : (0 : Int32).toInt = 0 := (by decide); omega), rfl⟩
        · have hP : va_P D vwCl [(h0, .inr (10, vL 67 F9)), (h_tape, .inl (cB, 940, .inl f_tape))] H := hP
          have hD : va_D A [(h0, .inr (10, vL 67 F9)), (h_tape, .inl (cB, 940, .inl f_tape))] := hD
          refine W.widen (k := 0) (n := 0) (Nat.le_of_ble_eq_true rfl) (Nat.le_of_ble_eq_true rfl) ?_
          refine lv_topi (fun v706 ev706 => ?_)
          have k707 : 0 ≤ v706.toInt ∧ v706.toInt ≤ 255 := by rw [ev706]; exact t700
          refine lv_istore_n (lv' := [(1, .int v706), (0, .ref h0)]) hx hb dX10_next_84 rfl hl (by decide) rfl (fun ls hl => ?_)
          refine lv_iload_n hx hb dX10_next_85 rfl (lv_at hl 0 rfl) ?_
          refine lv_if_ge (tgt := 95) hx hb dX10_next_86 (by decide) (fun c708 => ?_) (fun c708 => False.elim (bad_lt (nle_i (a := 0) (b := v706.toInt) rfl rfl c708) k707.1 (Int.le_refl _) (by decide)))
          have dc708 : 0 ≤ v706.toInt := le_i (a := 0) (b := v706.toInt) rfl rfl c708
          have cut710 : ∀ (u709 : Int32) (_ : IR 0 1 u709) (H : Heap) (locs : List Loc) (ls : Array Slot), va_P D vwCl [(h0, .inr (10, vL 67 F9)), (h_tape, .inl (cB, 940, .inl f_tape))] H → va_D A [(h0, .inr (10, vL 67 F9)), (h_tape, .inl (cB, 940, .inl f_tape))] → va_S A s.heap H locs → lv_has ls 4 [(3, .int 1), (2, .int u709), (1, .int v706), (0, .ref h0)] → W p l e ({ frames := 1, cells := 0, slots := 0, locals := 20 } : Room) s m [.ref h0].toArray below meth c H locs 0 0 (MQ below (va_Qv (fun (u : va_W) => ∃ (Gh : Nat → Value) (y_p : Int32) (y_token : Int32) (y_at : Int32) (y_span : Int32) (y_number : Int32) (y_word : Int64), SAME [4, 11, 12, 13, 14, 18] Fh Gh ∧ Gh 4 = .int y_p ∧ IR 0 940 y_p ∧ Gh 11 = .int y_token ∧ IR 0 4 y_token ∧ Gh 12 = .int y_at ∧ IR 0 940 y_at ∧ Gh 13 = .int y_span ∧ IR 0 940 y_span ∧ Gh 14 = .int y_number ∧ Gh 18 = .long y_word ∧ (x_p.toInt ≤ y_p.toInt) ∧ ((1 ≤ y_token.toInt → y_token.toInt ≤ 3 → x_p.toInt < y_p.toInt)) ∧ ((y_token.toInt = 2 → 0 ≤ y_number.toInt ∧ y_number.toInt ≤ 999)) ∧ u = [(h0, .inr (10, vL 67 Gh)), (h_tape, .inl (cB, 940, .inl f_tape))]) (PO D A) A) [.ref h0].toArray s 0 0 A) (F0 m 171 ls []) := by
            intro u709 i711 H locs ls hP hD hS hl
            have i711 : 0 ≤ u709.toInt ∧ u709.toInt ≤ 1 := i711
            refine lv_aload_n hx hb dX10_next_171 rfl (lv_at hl 3 rfl) ?_
            refine lv_lconst (v := 0) hx hb dX10_next_172 (by decide) ?_
            refine put_f (D := D) (ci := 10) (v := .long 0) (ty := .long) (C := RX10) (T := TX10) (N := 67) hx hb hw inAX10 tyX10 tyX10_ok nmX10 hown hK hP hD hS 0 rfl rfl 18 (by decide) (hw _ q_1279) (fun _ h9 => h9) rfl (by decide +kernel) rfl rfl dX10_next_173 (fun H locs F712 eF712 hP hD hS => ?_)
            have hP : va_P D vwCl [(h0, .inr (10, vL 67 F712)), (h_tape, .inl (cB, 940, .inl f_tape))] H := hP
            have hD : va_D A [(h0, .inr (10, vL 67 F712)), (h_tape, .inl (cB, 940, .inl f_tape))] := hD
            refine lv_aload_n hx hb dX10_next_176 rfl (lv_at hl 3 rfl) ?_
            refine lv_iconst (v := 0) hx hb dX10_next_177 (by decide) ?_
            refine put_f (D := D) (ci := 10) (v := .int 0) (ty := .int) (C := RX10) (T := TX10) (N := 67) hx hb hw inAX10 tyX10 tyX10_ok nmX10 hown hK hP hD hS 0 rfl rfl 14 (by decide) (hw _ q_1275) (fun _ h9 => h9) rfl (by decide +kernel) rfl rfl dX10_next_178 (fun H locs F713 eF713 hP hD hS => ?_)
            have hP : va_P D vwCl [(h0, .inr (10, vL 67 F713)), (h_tape, .inl (cB, 940, .inl f_tape))] H := hP
            have hD : va_D A [(h0, .inr (10, vL 67 F713)), (h_tape, .inl (cB, 940, .inl f_tape))] := hD
            have cut720 : ∀ (u714 : Int32) (G715 : Nat → Value) (u716 : Int32) (u717 : Int32) (u718 : Int32) (u719 : Int64) (_ : IR 0 1 u714) (_ : SAME [4, 13, 14, 18] F713 G715) (_ : G715 4 = .int u716) (_ : G715 13 = .int u717) (_ : G715 14 = .int u718) (_ : G715 18 = .long u719) (_ : IR 0 940 u716) (_ : IR 0 940 u717) (_ : (0 ≤ u717.toInt ∧ u717.toInt ≤ u716.toInt ∧ x_p.toInt + u717.toInt ≤ u716.toInt ∧ (u717.toInt = 0 → u716.toInt = u2.toInt))) (_ : (u714.toInt = 1 → u709.toInt = 0 → (0 ≤ u718.toInt ∧ u718.toInt ≤ 999 ∧ (u717.toInt = 0 → u718.toInt = 0) ∧ (u717.toInt = 1 → u718.toInt ≤ 9) ∧ (u717.toInt = 2 → u718.toInt ≤ 99)))) (_ : ((x_token.toInt = 2 → 0 ≤ u718.toInt ∧ u718.toInt ≤ 999))) (_ : (1 ≤ u717.toInt)) (H : Heap) (locs : List Loc) (ls : Array Slot), va_P D vwCl [(h0, .inr (10, vL 67 G715)), (h_tape, .inl (cB, 940, .inl f_tape))] H → va_D A [(h0, .inr (10, vL 67 G715)), (h_tape, .inl (cB, 940, .inl f_tape))] → va_S A s.heap H locs → lv_has ls 4 [(3, .int u714), (2, .int u709), (1, .int v706), (0, .ref h0)] → W p l e ({ frames := 1, cells := 0, slots := 0, locals := 20 } : Room) s m [.ref h0].toArray below meth c H locs 0 0 (MQ below (va_Qv (fun (u : va_W) => ∃ (Gh : Nat → Value) (y_p : Int32) (y_token : Int32) (y_at : Int32) (y_span : Int32) (y_number : Int32) (y_word : Int64), SAME [4, 11, 12, 13, 14, 18] Fh Gh ∧ Gh 4 = .int y_p ∧ IR 0 940 y_p ∧ Gh 11 = .int y_token ∧ IR 0 4 y_token ∧ Gh 12 = .int y_at ∧ IR 0 940 y_at ∧ Gh 13 = .int y_span ∧ IR 0 940 y_span ∧ Gh 14 = .int y_number ∧ Gh 18 = .long y_word ∧ (x_p.toInt ≤ y_p.toInt) ∧ ((1 ≤ y_token.toInt → y_token.toInt ≤ 3 → x_p.toInt < y_p.toInt)) ∧ ((y_token.toInt = 2 → 0 ≤ y_number.toInt ∧ y_number.toInt ≤ 999)) ∧ u = [(h0, .inr (10, vL 67 Gh)), (h_tape, .inl (cB, 940, .inl f_tape))]) (PO D A) A) [.ref h0].toArray s 0 0 A) (F0 m 298 ls []) := by
              intro u714 G715 u716 u717 u718 u719 i721 i722 i723 i724 i725 i726 i727 i728 i729 i730 i731 i732 H locs ls hP hD hS hl
              have i721 : 0 ≤ u714.toInt ∧ u714.toInt ≤ 1 := i721
              have i727 : 0 ≤ u716.toInt ∧ u716.toInt ≤ 940 := i727
              have i728 : 0 ≤ u717.toInt ∧ u717.toInt ≤ 940 := i728
              have i729 : 0 ≤ u717.toInt ∧ u717.toInt ≤ u716.toInt ∧ x_p.toInt + u717.toInt ≤ u716.toInt ∧ (u717.toInt = 0 → u716.toInt = u2.toInt) := i729
              have i730 : u714.toInt = 1 → u709.toInt = 0 → (0 ≤ u718.toInt ∧ u718.toInt ≤ 999 ∧ (u717.toInt = 0 → u718.toInt = 0) ∧ (u717.toInt = 1 → u718.toInt ≤ 9) ∧ (u717.toInt = 2 → u718.toInt ≤ 99)) := i730
              have i731 : (x_token.toInt = 2 → 0 ≤ u718.toInt ∧ u718.toInt ≤ 999) := i731
              have i732 : 1 ≤ u717.toInt := i732
              refine lv_aload_n hx hb dX10_next_298 rfl (lv_at hl 3 rfl) ?_
              refine lv_iload_n hx hb dX10_next_299 rfl (lv_at hl 0 rfl) ?_
              refine lv_if_eq (tgt := 320) hx hb dX10_next_300 (by decide) (fun c733 => ?_) (fun c733 => ?_)
              · have dc733 : u714.toInt = 0 := eq_i (a := u714.toInt) (b := 0) rfl rfl c733
                have k734 : 0 ≤ u714.toInt ∧ u714.toInt ≤ 0 := ⟨i721.1, Int.le_trans (Int.le_of_eq dc733) (Int.le_refl _)⟩
                refine lv_iconst (v := 4) hx hb dX10_next_320 (by decide) ?_
                refine lv_goto (tgt := 333) hx hb dX10_next_321 (by decide) ?_
                refine put_f (D := D) (ci := 10) (v := .int 4) (ty := .int) (C := RX10) (T := TX10) (N := 67) hx hb hw inAX10 tyX10 tyX10_ok nmX10 hown hK hP hD hS 0 rfl rfl 11 (by decide) (hw _ q_1272) (fun _ h9 => h9) rfl (by decide +kernel) rfl rfl dX10_next_333 (fun H locs F735 eF735 hP hD hS => ?_)
                have hP : va_P D vwCl [(h0, .inr (10, vL 67 F735)), (h_tape, .inl (cB, 940, .inl f_tape))] H := hP
                have hD : va_D A [(h0, .inr (10, vL 67 F735)), (h_tape, .inl (cB, 940, .inl f_tape))] := hD
                exact ret_v hx hb hr hlocks hS hP hD dX10_next_336 (Nat.le_of_ble_eq_true rfl) (Nat.le_of_ble_eq_true rfl) ⟨F735, u716, 4, u2, u717, u718, u719, (SAME.up eF735 (SAME.tr (SAME.up eF713 (SAME.up eF712 (SAME.up eF9 (SAME.up eF8 (SAME.tr SAME.rf i4 (by decide)) (by decide)) (by decide)) (by decide)) (by decide)) i722 (by decide)) (by decide)), (get_ne eF735 (by decide) i723), i727, (get_eq eF735), (show 0 ≤ (4 : Int32).toInt ∧ (4 : Int32).toInt ≤ 4 by decide), (get_ne eF735 (by decide) (SAME.at i722 (by decide) (get_ne eF713 (by decide) (get_ne eF712 (by decide) (get_ne eF9 (by decide) (get_eq eF8)))))), (ir_wk k694 (by decide) (by decide)), (get_ne eF735 (by decide) i724), i728, (get_ne eF735 (by decide) i725), (get_ne eF735 (by decide) i726), (by have zl0 : (0 : Int32).toInt = 0 := (by decide); have zl4 : (4 : Int32).toInt = 4 := (by decide); omega), (by have zl0 : (0 : Int32).toInt = 0 := (by decide); have zl4 : (4 : Int32).toInt = 4 := (by decide); omega), (by have zl4 : (4 : Int32).toInt = 4 := (by decide); omega), rfl⟩
              · have dc733 : u714.toInt ≠ 0 := ne_i (a := u714.toInt) (b := 0) rfl rfl c733
                have k736 : 1 ≤ u714.toInt ∧ u714.toInt ≤ 1 := ⟨ne_lo dc733 i721.1 ⟨Int.le_refl _, Int.le_refl _⟩ (by decide), i721.2⟩
                refine lv_aload_n hx hb dX10_next_303 rfl (lv_at hl 3 rfl) ?_
                refine get_f (D := D) (ci := 10) (v := .int u717) (C := RX10) (T := TX10) (N := 67) hx hb hw inAX10 hown hK hP 0 rfl rfl 13 (by decide) (hw _ q_1274) (fun _ h9 => h9) i724 dX10_next_304 ?_
                refine lv_iload_n hx hb dX10_next_307 rfl (lv_at hl 1 rfl) ?_
                refine lv_if_eq (tgt := 316) hx hb dX10_next_308 (by decide) (fun c737 => ?_) (fun c737 => ?_)
                · have dc737 : u709.toInt = 0 := eq_i (a := u709.toInt) (b := 0) rfl rfl c737
                  have k738 : 0 ≤ u709.toInt ∧ u709.toInt ≤ 0 := ⟨i711.1, Int.le_trans (Int.le_of_eq dc737) (Int.le_refl _)⟩
                  refine lv_iconst (v := 3) hx hb dX10_next_316 (by decide) ?_
                  refine lv_icmp_le (tgt := 324) hx hb dX10_next_317 (by decide) (fun c739 => ?_) (fun c739 => ?_)
                  · have dc739 : u717.toInt ≤ 3 := le_i (a := u717.toInt) (b := 3) rfl rfl c739
                    have k740 : 0 ≤ u717.toInt ∧ u717.toInt ≤ 3 := ⟨i728.1, Int.le_trans dc739 (Int.le_refl _)⟩
                    refine lv_iload_n hx hb dX10_next_324 rfl (lv_at hl 1 rfl) ?_
                    refine lv_if_eq (tgt := 332) hx hb dX10_next_325 (by decide) (fun c741 => ?_) (fun c741 => False.elim (bad_ne (ne_i (a := u709.toInt) (b := 0) rfl rfl c741) k738 ⟨Int.le_refl _, Int.le_refl _⟩ (by decide)))
                    have dc741 : u709.toInt = 0 := eq_i (a := u709.toInt) (b := 0) rfl rfl c741
                    refine lv_iconst (v := 2) hx hb dX10_next_332 (by decide) ?_
                    refine put_f (D := D) (ci := 10) (v := .int 2) (ty := .int) (C := RX10) (T := TX10) (N := 67) hx hb hw inAX10 tyX10 tyX10_ok nmX10 hown hK hP hD hS 0 rfl rfl 11 (by decide) (hw _ q_1272) (fun _ h9 => h9) rfl (by decide +kernel) rfl rfl dX10_next_333 (fun H locs F742 eF742 hP hD hS => ?_)
                    have hP : va_P D vwCl [(h0, .inr (10, vL 67 F742)), (h_tape, .inl (cB, 940, .inl f_tape))] H := hP
                    have hD : va_D A [(h0, .inr (10, vL 67 F742)), (h_tape, .inl (cB, 940, .inl f_tape))] := hD
                    exact ret_v hx hb hr hlocks hS hP hD dX10_next_336 (Nat.le_of_ble_eq_true rfl) (Nat.le_of_ble_eq_true rfl) ⟨F742, u716, 2, u2, u717, u718, u719, (SAME.up eF742 (SAME.tr (SAME.up eF713 (SAME.up eF712 (SAME.up eF9 (SAME.up eF8 (SAME.tr SAME.rf i4 (by decide)) (by decide)) (by decide)) (by decide)) (by decide)) i722 (by decide)) (by decide)), (get_ne eF742 (by decide) i723), i727, (get_eq eF742), (show 0 ≤ (2 : Int32).toInt ∧ (2 : Int32).toInt ≤ 4 by decide), (get_ne eF742 (by decide) (SAME.at i722 (by decide) (get_ne eF713 (by decide) (get_ne eF712 (by decide) (get_ne eF9 (by decide) (get_eq eF8)))))), (ir_wk k694 (by decide) (by decide)), (get_ne eF742 (by decide) i724), (ir_wk k740 (by decide) (by decide)), (get_ne eF742 (by decide) i725), (get_ne eF742 (by decide) i726), (by have zl0 : (0 : Int32).toInt = 0 := (by decide); have zl4 : (4 : Int32).toInt = 4 := (by decide); omega), (by have zl0 : (0 : Int32).toInt = 0 := (by decide); have zl4 : (4 : Int32).toInt = 4 := (by decide); omega), (by have zl2 : (2 : Int32).toInt = 2 := (by decide); omega), rfl⟩
                  · have dc739 : 3 < u717.toInt := nle_i (a := u717.toInt) (b := 3) rfl rfl c739
                    have k743 : 4 ≤ u717.toInt ∧ u717.toInt ≤ 940 := ⟨lo_lt dc739 (Int.le_refl _) (by decide), i728.2⟩
                    refine lv_iconst (v := 4) hx hb dX10_next_320 (by decide) ?_
                    refine lv_goto (tgt := 333) hx hb dX10_next_321 (by decide) ?_
                    refine put_f (D := D) (ci := 10) (v := .int 4) (ty := .int) (C := RX10) (T := TX10) (N := 67) hx hb hw inAX10 tyX10 tyX10_ok nmX10 hown hK hP hD hS 0 rfl rfl 11 (by decide) (hw _ q_1272) (fun _ h9 => h9) rfl (by decide +kernel) rfl rfl dX10_next_333 (fun H locs F744 eF744 hP hD hS => ?_)
                    have hP : va_P D vwCl [(h0, .inr (10, vL 67 F744)), (h_tape, .inl (cB, 940, .inl f_tape))] H := hP
                    have hD : va_D A [(h0, .inr (10, vL 67 F744)), (h_tape, .inl (cB, 940, .inl f_tape))] := hD
                    exact ret_v hx hb hr hlocks hS hP hD dX10_next_336 (Nat.le_of_ble_eq_true rfl) (Nat.le_of_ble_eq_true rfl) ⟨F744, u716, 4, u2, u717, u718, u719, (SAME.up eF744 (SAME.tr (SAME.up eF713 (SAME.up eF712 (SAME.up eF9 (SAME.up eF8 (SAME.tr SAME.rf i4 (by decide)) (by decide)) (by decide)) (by decide)) (by decide)) i722 (by decide)) (by decide)), (get_ne eF744 (by decide) i723), i727, (get_eq eF744), (show 0 ≤ (4 : Int32).toInt ∧ (4 : Int32).toInt ≤ 4 by decide), (get_ne eF744 (by decide) (SAME.at i722 (by decide) (get_ne eF713 (by decide) (get_ne eF712 (by decide) (get_ne eF9 (by decide) (get_eq eF8)))))), (ir_wk k694 (by decide) (by decide)), (get_ne eF744 (by decide) i724), (ir_wk k743 (by decide) (by decide)), (get_ne eF744 (by decide) i725), (get_ne eF744 (by decide) i726), (by have zl0 : (0 : Int32).toInt = 0 := (by decide); have zl4 : (4 : Int32).toInt = 4 := (by decide); omega), (by have zl0 : (0 : Int32).toInt = 0 := (by decide); have zl4 : (4 : Int32).toInt = 4 := (by decide); omega), (by have zl4 : (4 : Int32).toInt = 4 := (by decide); omega), rfl⟩
                · have dc737 : u709.toInt ≠ 0 := ne_i (a := u709.toInt) (b := 0) rfl rfl c737
                  have k745 : 1 ≤ u709.toInt ∧ u709.toInt ≤ 1 := ⟨ne_lo dc737 i711.1 ⟨Int.le_refl _, Int.le_refl _⟩ (by decide), i711.2⟩
                  refine lv_bipush (v := 7) hx hb dX10_next_311 (by decide) ?_
                  refine lv_goto (tgt := 317) hx hb dX10_next_313 (by decide) ?_
                  refine lv_icmp_le (tgt := 324) hx hb dX10_next_317 (by decide) (fun c746 => ?_) (fun c746 => ?_)
                  · have dc746 : u717.toInt ≤ 7 := le_i (a := u717.toInt) (b := 7) rfl rfl c746
                    have k747 : 0 ≤ u717.toInt ∧ u717.toInt ≤ 7 := ⟨i728.1, Int.le_trans dc746 (Int.le_refl _)⟩
                    refine lv_iload_n hx hb dX10_next_324 rfl (lv_at hl 1 rfl) ?_
                    refine lv_if_eq (tgt := 332) hx hb dX10_next_325 (by decide) (fun c748 => False.elim (bad_le (Int.le_of_eq (eq_i (a := u709.toInt) (b := 0) rfl rfl c748)) k745.1 (Int.le_refl _) (by decide))) (fun c748 => ?_)
                    have dc748 : u709.toInt ≠ 0 := ne_i (a := u709.toInt) (b := 0) rfl rfl c748
                    refine lv_iconst (v := 1) hx hb dX10_next_328 (by decide) ?_
                    refine lv_goto (tgt := 333) hx hb dX10_next_329 (by decide) ?_
                    refine put_f (D := D) (ci := 10) (v := .int 1) (ty := .int) (C := RX10) (T := TX10) (N := 67) hx hb hw inAX10 tyX10 tyX10_ok nmX10 hown hK hP hD hS 0 rfl rfl 11 (by decide) (hw _ q_1272) (fun _ h9 => h9) rfl (by decide +kernel) rfl rfl dX10_next_333 (fun H locs F749 eF749 hP hD hS => ?_)
                    have hP : va_P D vwCl [(h0, .inr (10, vL 67 F749)), (h_tape, .inl (cB, 940, .inl f_tape))] H := hP
                    have hD : va_D A [(h0, .inr (10, vL 67 F749)), (h_tape, .inl (cB, 940, .inl f_tape))] := hD
                    exact ret_v hx hb hr hlocks hS hP hD dX10_next_336 (Nat.le_of_ble_eq_true rfl) (Nat.le_of_ble_eq_true rfl) ⟨F749, u716, 1, u2, u717, u718, u719, (SAME.up eF749 (SAME.tr (SAME.up eF713 (SAME.up eF712 (SAME.up eF9 (SAME.up eF8 (SAME.tr SAME.rf i4 (by decide)) (by decide)) (by decide)) (by decide)) (by decide)) i722 (by decide)) (by decide)), (get_ne eF749 (by decide) i723), i727, (get_eq eF749), (show 0 ≤ (1 : Int32).toInt ∧ (1 : Int32).toInt ≤ 4 by decide), (get_ne eF749 (by decide) (SAME.at i722 (by decide) (get_ne eF713 (by decide) (get_ne eF712 (by decide) (get_ne eF9 (by decide) (get_eq eF8)))))), (ir_wk k694 (by decide) (by decide)), (get_ne eF749 (by decide) i724), (ir_wk k747 (by decide) (by decide)), (get_ne eF749 (by decide) i725), (get_ne eF749 (by decide) i726), (by have zl0 : (0 : Int32).toInt = 0 := (by decide); have zl4 : (4 : Int32).toInt = 4 := (by decide); omega), (by have zl0 : (0 : Int32).toInt = 0 := (by decide); have zl4 : (4 : Int32).toInt = 4 := (by decide); omega), (by have zl1 : (1 : Int32).toInt = 1 := (by decide); omega), rfl⟩
                  · have dc746 : 7 < u717.toInt := nle_i (a := u717.toInt) (b := 7) rfl rfl c746
                    have k750 : 8 ≤ u717.toInt ∧ u717.toInt ≤ 940 := ⟨lo_lt dc746 (Int.le_refl _) (by decide), i728.2⟩
                    refine lv_iconst (v := 4) hx hb dX10_next_320 (by decide) ?_
                    refine lv_goto (tgt := 333) hx hb dX10_next_321 (by decide) ?_
                    refine put_f (D := D) (ci := 10) (v := .int 4) (ty := .int) (C := RX10) (T := TX10) (N := 67) hx hb hw inAX10 tyX10 tyX10_ok nmX10 hown hK hP hD hS 0 rfl rfl 11 (by decide) (hw _ q_1272) (fun _ h9 => h9) rfl (by decide +kernel) rfl rfl dX10_next_333 (fun H locs F751 eF751 hP hD hS => ?_)
                    have hP : va_P D vwCl [(h0, .inr (10, vL 67 F751)), (h_tape, .inl (cB, 940, .inl f_tape))] H := hP
                    have hD : va_D A [(h0, .inr (10, vL 67 F751)), (h_tape, .inl (cB, 940, .inl f_tape))] := hD
                    exact ret_v hx hb hr hlocks hS hP hD dX10_next_336 (Nat.le_of_ble_eq_true rfl) (Nat.le_of_ble_eq_true rfl) ⟨F751, u716, 4, u2, u717, u718, u719, (SAME.up eF751 (SAME.tr (SAME.up eF713 (SAME.up eF712 (SAME.up eF9 (SAME.up eF8 (SAME.tr SAME.rf i4 (by decide)) (by decide)) (by decide)) (by decide)) (by decide)) i722 (by decide)) (by decide)), (get_ne eF751 (by decide) i723), i727, (get_eq eF751), (show 0 ≤ (4 : Int32).toInt ∧ (4 : Int32).toInt ≤ 4 by decide), (get_ne eF751 (by decide) (SAME.at i722 (by decide) (get_ne eF713 (by decide) (get_ne eF712 (by decide) (get_ne eF9 (by decide) (get_eq eF8)))))), (ir_wk k694 (by decide) (by decide)), (get_ne eF751 (by decide) i724), (ir_wk k750 (by decide) (by decide)), (get_ne eF751 (by decide) i725), (get_ne eF751 (by decide) i726), (by have zl0 : (0 : Int32).toInt = 0 := (by decide); have zl4 : (4 : Int32).toInt = 4 := (by decide); omega), (by have zl0 : (0 : Int32).toInt = 0 := (by decide); have zl4 : (4 : Int32).toInt = 4 := (by decide); omega), (by have zl4 : (4 : Int32).toInt = 4 := (by decide); omega), rfl⟩
            have n752 : F712 4 = .int u2 := (get_ne eF712 (by decide) n692)
            have n753 : F713 4 = .int u2 := (get_ne eF713 (by decide) n752)
            have n754 : F712 13 = .int 0 := (get_ne eF712 (by decide) (get_eq eF9))
            have n755 : F713 13 = .int 0 := (get_ne eF713 (by decide) n754)
            have n756 : F713 18 = .long 0 := (get_ne eF713 (by decide) (get_eq eF712))
            refine mloop (α := (Int32) × (Nat → Value) × (Int32) × (Int32) × (Int32) × (Int64)) (nL := 4) (D := D) (A := A) (H0 := s.heap) (fun a => (x_size.toInt - a.2.2.1.toInt).toNat) (fun a => IR 0 1 a.1 ∧ SAME [4, 13, 14, 18] F713 a.2.1 ∧ a.2.1 4 = .int a.2.2.1 ∧ a.2.1 13 = .int a.2.2.2.1 ∧ a.2.1 14 = .int a.2.2.2.2.1 ∧ a.2.1 18 = .long a.2.2.2.2.2 ∧ IR 0 940 a.2.2.1 ∧ IR 0 940 a.2.2.2.1 ∧ (0 ≤ a.2.2.2.1.toInt ∧ a.2.2.2.1.toInt ≤ a.2.2.1.toInt ∧ x_p.toInt + a.2.2.2.1.toInt ≤ a.2.2.1.toInt ∧ (a.2.2.2.1.toInt = 0 → a.2.2.1.toInt = u2.toInt)) ∧ (a.1.toInt = 1 → u709.toInt = 0 → (0 ≤ a.2.2.2.2.1.toInt ∧ a.2.2.2.2.1.toInt ≤ 999 ∧ (a.2.2.2.1.toInt = 0 → a.2.2.2.2.1.toInt = 0) ∧ (a.2.2.2.1.toInt = 1 → a.2.2.2.2.1.toInt ≤ 9) ∧ (a.2.2.2.1.toInt = 2 → a.2.2.2.2.1.toInt ≤ 99))) ∧ ((x_token.toInt = 2 → 0 ≤ a.2.2.2.2.1.toInt ∧ a.2.2.2.2.1.toInt ≤ 999))) (fun a => [(h0, .inr (10, vL 67 a.2.1)), (h_tape, .inl (cB, 940, .inl f_tape))]) (fun a => [(3, .int a.1), (2, .int u709), (1, .int v706), (0, .ref h0)]) (fun H locs ls => W p l e ({ frames := 1, cells := 0, slots := 0, locals := 20 } : Room) s m [.ref h0].toArray below meth c H locs 0 0 (MQ below (va_Qv (fun (u : va_W) => ∃ (Gh : Nat → Value) (y_p : Int32) (y_token : Int32) (y_at : Int32) (y_span : Int32) (y_number : Int32) (y_word : Int64), SAME [4, 11, 12, 13, 14, 18] Fh Gh ∧ Gh 4 = .int y_p ∧ IR 0 940 y_p ∧ Gh 11 = .int y_token ∧ IR 0 4 y_token ∧ Gh 12 = .int y_at ∧ IR 0 940 y_at ∧ Gh 13 = .int y_span ∧ IR 0 940 y_span ∧ Gh 14 = .int y_number ∧ Gh 18 = .long y_word ∧ (x_p.toInt ≤ y_p.toInt) ∧ ((1 ≤ y_token.toInt → y_token.toInt ≤ 3 → x_p.toInt < y_p.toInt)) ∧ ((y_token.toInt = 2 → 0 ≤ y_number.toInt ∧ y_number.toInt ≤ 999)) ∧ u = [(h0, .inr (10, vL 67 Gh)), (h_tape, .inl (cB, 940, .inl f_tape))]) (PO D A) A) [.ref h0].toArray s 0 0 A) (F0 m 181 ls [])) ?_ (1, F713, u2, 0, 0, 0) ⟨(show 0 ≤ (1 : Int32).toInt ∧ (1 : Int32).toInt ≤ 1 by decide), SAME.rf, n753, n755, (get_eq eF713), n756, (ir_wk k694 (by decide) (by decide)), (show 0 ≤ (0 : Int32).toInt ∧ (0 : Int32).toInt ≤ 940 by decide), (by show 0 ≤ 0 ∧ 0 ≤ u2.toInt ∧ x_p.toInt + 0 ≤ u2.toInt ∧ (0 = 0 → u2.toInt = u2.toInt); omega), (by show 1 = 1 → u709.toInt = 0 → (0 ≤ 0 ∧ 0 ≤ 999 ∧ (0 = 0 → 0 = 0) ∧ (0 = 1 → 0 ≤ 9) ∧ (0 = 2 → 0 ≤ 99)); omega), (by show (x_token.toInt = 2 → 0 ≤ 0 ∧ 0 ≤ 999); omega)⟩ _ _ _ hP hD hS hl
            rintro ⟨u714, G715, u716, u717, u718, u719⟩ ⟨i757, i758, i759, i760, i761, i762, i763, i764, i765, i766, i767⟩ ih H locs ls hP hD hS hl
            have i757 : 0 ≤ u714.toInt ∧ u714.toInt ≤ 1 := i757
            have i763 : 0 ≤ u716.toInt ∧ u716.toInt ≤ 940 := i763
            have i764 : 0 ≤ u717.toInt ∧ u717.toInt ≤ 940 := i764
            have i765 : 0 ≤ u717.toInt ∧ u717.toInt ≤ u716.toInt ∧ x_p.toInt + u717.toInt ≤ u716.toInt ∧ (u717.toInt = 0 → u716.toInt = u2.toInt) := i765
            have i766 : u714.toInt = 1 → u709.toInt = 0 → (0 ≤ u718.toInt ∧ u718.toInt ≤ 999 ∧ (u717.toInt = 0 → u718.toInt = 0) ∧ (u717.toInt = 1 → u718.toInt ≤ 9) ∧ (u717.toInt = 2 → u718.toInt ≤ 99)) := i766
            have i767 : (x_token.toInt = 2 → 0 ≤ u718.toInt ∧ u718.toInt ≤ 999) := i767
            have hP : va_P D vwCl [(h0, .inr (10, vL 67 G715)), (h_tape, .inl (cB, 940, .inl f_tape))] H := hP
            have hD : va_D A [(h0, .inr (10, vL 67 G715)), (h_tape, .inl (cB, 940, .inl f_tape))] := hD
            have hl : lv_has ls 4 [(3, .int u714), (2, .int u709), (1, .int v706), (0, .ref h0)] := hl
            refine lv_aload_n hx hb dX10_next_181 rfl (lv_at hl 3 rfl) ?_
            have n768 : F712 1 = .ref h_tape := (get_ne eF712 (by decide) n697)
            have n769 : F713 1 = .ref h_tape := (get_ne eF713 (by decide) n768)
            have n770 : G715 1 = .ref h_tape := (SAME.at i758 (by decide) n769)
            have n771 : F712 3 = .int x_size := (get_ne eF712 (by decide) n12)
            have n772 : F713 3 = .int x_size := (get_ne eF713 (by decide) n771)
            have n773 : G715 3 = .int x_size := (SAME.at i758 (by decide) n772)
            refine call_Vi (wr := []) (As := []) (rest := []) hx hb hml hown hw (m_X10_peek l D cI cJ cB cP cM cZ h0 h_tape G715 x_size u716 f_tape _ n770 n773 (ir_wk k690 (by decide) (by decide)) i759 i763) wV_X10_169_X10_peek dX10_next_182 hK hP hD hS hA [0, 1] [] rfl rfl (by decide) (by decide) (by decide) 0 10 rfl rfl GG.fb hG.at hl.1 rfl (Nat.le_of_ble_eq_true rfl) ⟨(Nat.le_of_ble_eq_true rfl), (Nat.le_of_ble_eq_true rfl)⟩ ⟨(Nat.le_of_ble_eq_true rfl), (Nat.le_of_ble_eq_true rfl)⟩ (fun r774 u H locs hp hP hD hS => ?_)
            rcases hp with ⟨t775, rfl, rfl⟩ | ⟨t776, t777, rfl, rfl⟩
            · have hP : va_P D vwCl [(h0, .inr (10, vL 67 G715)), (h_tape, .inl (cB, 940, .inl f_tape))] H := hP
              have hD : va_D A [(h0, .inr (10, vL 67 G715)), (h_tape, .inl (cB, 940, .inl f_tape))] := hD
              refine W.widen (k := 0) (n := 0) (Nat.le_of_ble_eq_true rfl) (Nat.le_of_ble_eq_true rfl) ?_
              have k779 : 201 ≤ u716.toInt ∧ u716.toInt ≤ 940 := ⟨Int.le_trans k690.1 t775, i763.2⟩
              refine call_Si (wr := [(h0, .inr (10, vL 67 G715)), (h_tape, .inl (cB, 940, .inl f_tape))]) (As := [.int (-1)]) (rest := []) hx hb hml hown hw (m_X10_isSmall l D cI cJ cB cP cM cZ (-1) _ ) wS_X10_182_X10_isSmall dX10_next_185 hP hD hS hA [] [0, 1] rfl rfl (by decide) (by decide) (by decide) GG.fb hG.at hl.1 rfl (Nat.le_of_ble_eq_true rfl) ⟨(Nat.le_of_ble_eq_true rfl), (Nat.le_of_ble_eq_true rfl)⟩ ⟨(Nat.le_of_ble_eq_true rfl), (Nat.le_of_ble_eq_true rfl)⟩ (fun r780 u H locs hp hP hD hS => ?_)
              have zlm1 : ((-1) : Int32).toInt = (-1) := by decide
              rcases hp with ⟨t781, rfl, rfl⟩ | ⟨t782, t783, rfl, rfl⟩ | ⟨t784, t785, rfl, rfl⟩
              · have hP : va_P D vwCl [(h0, .inr (10, vL 67 G715)), (h_tape, .inl (cB, 940, .inl f_tape))] H := hP
                have hD : va_D A [(h0, .inr (10, vL 67 G715)), (h_tape, .inl (cB, 940, .inl f_tape))] := hD
                refine W.widen (k := 0) (n := 0) (Nat.le_of_ble_eq_true rfl) (Nat.le_of_ble_eq_true rfl) ?_
                refine lv_if_ne (tgt := 201) hx hb dX10_next_188 (by decide) (fun g => absurd (by decide) g) (fun _ => ?_)
                refine lv_aload_n hx hb dX10_next_191 rfl (lv_at hl 3 rfl) ?_
                refine call_Vi (wr := []) (As := []) (rest := []) hx hb hml hown hw (m_X10_peek l D cI cJ cB cP cM cZ h0 h_tape G715 x_size u716 f_tape _ n770 n773 (ir_wk k690 (by decide) (by decide)) i759 (ir_wk k779 (by decide) (by decide))) wV_X10_169_X10_peek dX10_next_192 hK hP hD hS hA [0, 1] [] rfl rfl (by decide) (by decide) (by decide) 0 10 rfl rfl GG.fb hG.at hl.1 rfl (Nat.le_of_ble_eq_true rfl) ⟨(Nat.le_of_ble_eq_true rfl), (Nat.le_of_ble_eq_true rfl)⟩ ⟨(Nat.le_of_ble_eq_true rfl), (Nat.le_of_ble_eq_true rfl)⟩ (fun r787 u H locs hp hP hD hS => ?_)
                rcases hp with ⟨t788, rfl, rfl⟩ | ⟨t789, t790, rfl, rfl⟩
                · have hP : va_P D vwCl [(h0, .inr (10, vL 67 G715)), (h_tape, .inl (cB, 940, .inl f_tape))] H := hP
                  have hD : va_D A [(h0, .inr (10, vL 67 G715)), (h_tape, .inl (cB, 940, .inl f_tape))] := hD
                  refine W.widen (k := 0) (n := 0) (Nat.le_of_ble_eq_true rfl) (Nat.le_of_ble_eq_true rfl) ?_
                  refine call_Si (wr := [(h0, .inr (10, vL 67 G715)), (h_tape, .inl (cB, 940, .inl f_tape))]) (As := [.int (-1)]) (rest := []) hx hb hml hown hw (m_X10_isDigit l D cI cJ cB cP cM cZ (-1) _ ) wS_X10_186_X10_isDigit dX10_next_195 hP hD hS hA [] [0, 1] rfl rfl (by decide) (by decide) (by decide) GG.fb hG.at hl.1 rfl (Nat.le_of_ble_eq_true rfl) ⟨(Nat.le_of_ble_eq_true rfl), (Nat.le_of_ble_eq_true rfl)⟩ ⟨(Nat.le_of_ble_eq_true rfl), (Nat.le_of_ble_eq_true rfl)⟩ (fun r792 u H locs hp hP hD hS => ?_)
                  rcases hp with ⟨t793, rfl, rfl⟩ | ⟨t794, t795, rfl, rfl⟩ | ⟨t796, t797, rfl, rfl⟩
                  · have hP : va_P D vwCl [(h0, .inr (10, vL 67 G715)), (h_tape, .inl (cB, 940, .inl f_tape))] H := hP
                    have hD : va_D A [(h0, .inr (10, vL 67 G715)), (h_tape, .inl (cB, 940, .inl f_tape))] := hD
                    refine W.widen (k := 0) (n := 0) (Nat.le_of_ble_eq_true rfl) (Nat.le_of_ble_eq_true rfl) ?_
                    refine lv_if_eq (tgt := 298) hx hb dX10_next_198 (by decide) (fun _ => ?_) (fun g => absurd (by decide) g)
                    have hgv706 : v706.toInt = (((f_tape u2.toNatClampNeg) &&& 255)).toInt := by rw [ev706]
                    have hfst : u716.toInt = u2.toInt → (f_tape u716.toNatClampNeg &&& 255).toInt = (f_tape u2.toNatClampNeg &&& 255).toInt := fun h9 => by rw [Int32.toInt_inj.mp h9]
                    exact cut720 u714 G715 u716 u717 u718 u719 i757 (SAME.tr SAME.rf i758 (by decide)) i759 i760 i761 i762 (ir_wk k779 (by decide) (by decide)) i764 (by show 0 ≤ u717.toInt ∧ u717.toInt ≤ u716.toInt ∧ x_p.toInt + u717.toInt ≤ u716.toInt ∧ (u717.toInt = 0 → u716.toInt = u2.toInt); omega) (by show u714.toInt = 1 → u709.toInt = 0 → (0 ≤ u718.toInt ∧ u718.toInt ≤ 999 ∧ (u717.toInt = 0 → u718.toInt = 0) ∧ (u717.toInt = 1 → u718.toInt ≤ 9) ∧ (u717.toInt = 2 → u718.toInt ≤ 99)); omega) (by show (x_token.toInt = 2 → 0 ≤ u718.toInt ∧ u718.toInt ≤ 999); omega) (by show 1 ≤ u717.toInt; omega) _ _ _ hP hD hS (lv_sub hl [0, 1, 2, 3] rfl)
                  · have hP : va_P D vwCl [(h0, .inr (10, vL 67 G715)), (h_tape, .inl (cB, 940, .inl f_tape))] H := hP
                    have hD : va_D A [(h0, .inr (10, vL 67 G715)), (h_tape, .inl (cB, 940, .inl f_tape))] := hD
                    refine W.widen (k := 0) (n := 0) (Nat.le_of_ble_eq_true rfl) (Nat.le_of_ble_eq_true rfl) ?_
                    exact absurd t794 (by decide)
                  · have hP : va_P D vwCl [(h0, .inr (10, vL 67 G715)), (h_tape, .inl (cB, 940, .inl f_tape))] H := hP
                    have hD : va_D A [(h0, .inr (10, vL 67 G715)), (h_tape, .inl (cB, 940, .inl f_tape))] := hD
                    refine W.widen (k := 0) (n := 0) (Nat.le_of_ble_eq_true rfl) (Nat.le_of_ble_eq_true rfl) ?_
                    exact absurd t796 (by decide)
                · have hP : va_P D vwCl [(h0, .inr (10, vL 67 G715)), (h_tape, .inl (cB, 940, .inl f_tape))] H := hP
                  have hD : va_D A [(h0, .inr (10, vL 67 G715)), (h_tape, .inl (cB, 940, .inl f_tape))] := hD
                  refine W.widen (k := 0) (n := 0) (Nat.le_of_ble_eq_true rfl) (Nat.le_of_ble_eq_true rfl) ?_
                  refine lv_topi (fun v799 ev799 => ?_)
                  have k800 : 0 ≤ v799.toInt ∧ v799.toInt ≤ 255 := by rw [ev799]; exact t789
                  have k801 : 201 ≤ u716.toInt ∧ u716.toInt ≤ 939 := ⟨k779.1, up_lt t790 k690.2 (by decide)⟩
                  have k802 : 202 ≤ x_size.toInt ∧ x_size.toInt ≤ 940 := ⟨lo_lt t790 k779.1 (by decide), k690.2⟩
                  refine call_Si (wr := [(h0, .inr (10, vL 67 G715)), (h_tape, .inl (cB, 940, .inl f_tape))]) (As := [.int v799]) (rest := []) hx hb hml hown hw (m_X10_isDigit l D cI cJ cB cP cM cZ v799 _ ) wS_X10_186_X10_isDigit dX10_next_195 hP hD hS hA [] [0, 1] rfl rfl (by decide) (by decide) (by decide) GG.fb hG.at hl.1 rfl (Nat.le_of_ble_eq_true rfl) ⟨(Nat.le_of_ble_eq_true rfl), (Nat.le_of_ble_eq_true rfl)⟩ ⟨(Nat.le_of_ble_eq_true rfl), (Nat.le_of_ble_eq_true rfl)⟩ (fun r803 u H locs hp hP hD hS => ?_)
                  rcases hp with ⟨t804, rfl, rfl⟩ | ⟨t805, t806, rfl, rfl⟩ | ⟨t807, t808, rfl, rfl⟩
                  · have hP : va_P D vwCl [(h0, .inr (10, vL 67 G715)), (h_tape, .inl (cB, 940, .inl f_tape))] H := hP
                    have hD : va_D A [(h0, .inr (10, vL 67 G715)), (h_tape, .inl (cB, 940, .inl f_tape))] := hD
                    refine W.widen (k := 0) (n := 0) (Nat.le_of_ble_eq_true rfl) (Nat.le_of_ble_eq_true rfl) ?_
                    have k810 : 0 ≤ v799.toInt ∧ v799.toInt ≤ 47 := ⟨k800.1, up_lt t804 (Int.le_refl _) (by decide)⟩
                    refine lv_if_eq (tgt := 298) hx hb dX10_next_198 (by decide) (fun _ => ?_) (fun g => absurd (by decide) g)
                    have hgv706 : v706.toInt = (((f_tape u2.toNatClampNeg) &&& 255)).toInt := by rw [ev706]
                    have hgv799 : v799.toInt = (((f_tape u716.toNatClampNeg) &&& 255)).toInt := by rw [ev799]
                    have hfst : u716.toInt = u2.toInt → (f_tape u716.toNatClampNeg &&& 255).toInt = (f_tape u2.toNatClampNeg &&& 255).toInt := fun h9 => by rw [Int32.toInt_inj.mp h9]
                    exact cut720 u714 G715 u716 u717 u718 u719 i757 (SAME.tr SAME.rf i758 (by decide)) i759 i760 i761 i762 (ir_wk k801 (by decide) (by decide)) i764 (by show 0 ≤ u717.toInt ∧ u717.toInt ≤ u716.toInt ∧ x_p.toInt + u717.toInt ≤ u716.toInt ∧ (u717.toInt = 0 → u716.toInt = u2.toInt); omega) (by show u714.toInt = 1 → u709.toInt = 0 → (0 ≤ u718.toInt ∧ u718.toInt ≤ 999 ∧ (u717.toInt = 0 → u718.toInt = 0) ∧ (u717.toInt = 1 → u718.toInt ≤ 9) ∧ (u717.toInt = 2 → u718.toInt ≤ 99)); omega) (by show (x_token.toInt = 2 → 0 ≤ u718.toInt ∧ u718.toInt ≤ 999); omega) (by show 1 ≤ u717.toInt; omega) _ _ _ hP hD hS (lv_sub hl [0, 1, 2, 3] rfl)
                  · have hP : va_P D vwCl [(h0, .inr (10, vL 67 G715)), (h_tape, .inl (cB, 940, .inl f_tape))] H := hP
                    have hD : va_D A [(h0, .inr (10, vL 67 G715)), (h_tape, .inl (cB, 940, .inl f_tape))] := hD
                    refine W.widen (k := 0) (n := 0) (Nat.le_of_ble_eq_true rfl) (Nat.le_of_ble_eq_true rfl) ?_
                    have k811 : 48 ≤ v799.toInt ∧ v799.toInt ≤ 255 := ⟨Int.le_trans (Int.le_refl _) t805, k800.2⟩
                    have k812 : 58 ≤ v799.toInt ∧ v799.toInt ≤ 255 := ⟨lo_lt t806 (Int.le_refl _) (by decide), k811.2⟩
                    refine lv_if_eq (tgt := 298) hx hb dX10_next_198 (by decide) (fun _ => ?_) (fun g => absurd (by decide) g)
                    have hgv706 : v706.toInt = (((f_tape u2.toNatClampNeg) &&& 255)).toInt := by rw [ev706]
                    have hgv799 : v799.toInt = (((f_tape u716.toNatClampNeg) &&& 255)).toInt := by rw [ev799]
                    have hfst : u716.toInt = u2.toInt → (f_tape u716.toNatClampNeg &&& 255).toInt = (f_tape u2.toNatClampNeg &&& 255).toInt := fun h9 => by rw [Int32.toInt_inj.mp h9]
                    exact cut720 u714 G715 u716 u717 u718 u719 i757 (SAME.tr SAME.rf i758 (by decide)) i759 i760 i761 i762 (ir_wk k801 (by decide) (by decide)) i764 (by show 0 ≤ u717.toInt ∧ u717.toInt ≤ u716.toInt ∧ x_p.toInt + u717.toInt ≤ u716.toInt ∧ (u717.toInt = 0 → u716.toInt = u2.toInt); omega) (by show u714.toInt = 1 → u709.toInt = 0 → (0 ≤ u718.toInt ∧ u718.toInt ≤ 999 ∧ (u717.toInt = 0 → u718.toInt = 0) ∧ (u717.toInt = 1 → u718.toInt ≤ 9) ∧ (u717.toInt = 2 → u718.toInt ≤ 99)); omega) (by show (x_token.toInt = 2 → 0 ≤ u718.toInt ∧ u718.toInt ≤ 999); omega) (by show 1 ≤ u717.toInt; omega) _ _ _ hP hD hS (lv_sub hl [0, 1, 2, 3] rfl)
                  · have hP : va_P D vwCl [(h0, .inr (10, vL 67 G715)), (h_tape, .inl (cB, 940, .inl f_tape))] H := hP
                    have hD : va_D A [(h0, .inr (10, vL 67 G715)), (h_tape, .inl (cB, 940, .inl f_tape))] := hD
                    refine W.widen (k := 0) (n := 0) (Nat.le_of_ble_eq_true rfl) (Nat.le_of_ble_eq_true rfl) ?_
                    have k813 : 48 ≤ v799.toInt ∧ v799.toInt ≤ 255 := ⟨Int.le_trans (Int.le_refl _) t807, k800.2⟩
                    have k814 : 48 ≤ v799.toInt ∧ v799.toInt ≤ 57 := ⟨k813.1, Int.le_trans t808 (Int.le_refl _)⟩
                    refine lv_if_eq (tgt := 298) hx hb dX10_next_198 (by decide) (fun g => absurd g (by decide)) (fun _ => ?_)
                    have cut816 : ∀ (u815 : Int32) (_ : IR 0 1 u815) (_ : ((u815.toInt = 1 → u709.toInt = 0 → (48 ≤ v799.toInt ∧ v799.toInt ≤ 57 ∧ 0 ≤ u718.toInt ∧ u718.toInt ≤ 999 ∧ (u717.toInt = 0 → u718.toInt = 0) ∧ (u717.toInt = 1 → u718.toInt ≤ 9) ∧ (u717.toInt = 2 → u718.toInt ≤ 99))))) (H : Heap) (locs : List Loc) (ls : Array Slot), va_P D vwCl [(h0, .inr (10, vL 67 G715)), (h_tape, .inl (cB, 940, .inl f_tape))] H → va_D A [(h0, .inr (10, vL 67 G715)), (h_tape, .inl (cB, 940, .inl f_tape))] → va_S A s.heap H locs → lv_has ls 4 [(3, .int u815), (2, .int u709), (1, .int v706), (0, .ref h0)] → W p l e ({ frames := 1, cells := 0, slots := 0, locals := 20 } : Room) s m [.ref h0].toArray below meth c H locs 0 0 (MQ below (va_Qv (fun (u : va_W) => ∃ (Gh : Nat → Value) (y_p : Int32) (y_token : Int32) (y_at : Int32) (y_span : Int32) (y_number : Int32) (y_word : Int64), SAME [4, 11, 12, 13, 14, 18] Fh Gh ∧ Gh 4 = .int y_p ∧ IR 0 940 y_p ∧ Gh 11 = .int y_token ∧ IR 0 4 y_token ∧ Gh 12 = .int y_at ∧ IR 0 940 y_at ∧ Gh 13 = .int y_span ∧ IR 0 940 y_span ∧ Gh 14 = .int y_number ∧ Gh 18 = .long y_word ∧ (x_p.toInt ≤ y_p.toInt) ∧ ((1 ≤ y_token.toInt → y_token.toInt ≤ 3 → x_p.toInt < y_p.toInt)) ∧ ((y_token.toInt = 2 → 0 ≤ y_number.toInt ∧ y_number.toInt ≤ 999)) ∧ u = [(h0, .inr (10, vL 67 Gh)), (h_tape, .inl (cB, 940, .inl f_tape))]) (PO D A) A) [.ref h0].toArray s 0 0 A) (F0 m 222 ls []) := by
                      intro u815 i817 i818 H locs ls hP hD hS hl
                      have i817 : 0 ≤ u815.toInt ∧ u815.toInt ≤ 1 := i817
                      have i818 : (u815.toInt = 1 → u709.toInt = 0 → (48 ≤ v799.toInt ∧ v799.toInt ≤ 57 ∧ 0 ≤ u718.toInt ∧ u718.toInt ≤ 999 ∧ (u717.toInt = 0 → u718.toInt = 0) ∧ (u717.toInt = 1 → u718.toInt ≤ 9) ∧ (u717.toInt = 2 → u718.toInt ≤ 99))) := i818
                      have cut821 : ∀ (G819 : Nat → Value) (u820 : Int64) (_ : SAME [18] G715 G819) (_ : G819 18 = .long u820) (H : Heap) (locs : List Loc) (ls : Array Slot), va_P D vwCl [(h0, .inr (10, vL 67 G819)), (h_tape, .inl (cB, 940, .inl f_tape))] H → va_D A [(h0, .inr (10, vL 67 G819)), (h_tape, .inl (cB, 940, .inl f_tape))] → va_S A s.heap H locs → lv_has ls 4 [(3, .int u815), (2, .int u709), (1, .int v706), (0, .ref h0)] → W p l e ({ frames := 1, cells := 0, slots := 0, locals := 20 } : Room) s m [.ref h0].toArray below meth c H locs 0 0 (MQ below (va_Qv (fun (u : va_W) => ∃ (Gh : Nat → Value) (y_p : Int32) (y_token : Int32) (y_at : Int32) (y_span : Int32) (y_number : Int32) (y_word : Int64), SAME [4, 11, 12, 13, 14, 18] Fh Gh ∧ Gh 4 = .int y_p ∧ IR 0 940 y_p ∧ Gh 11 = .int y_token ∧ IR 0 4 y_token ∧ Gh 12 = .int y_at ∧ IR 0 940 y_at ∧ Gh 13 = .int y_span ∧ IR 0 940 y_span ∧ Gh 14 = .int y_number ∧ Gh 18 = .long y_word ∧ (x_p.toInt ≤ y_p.toInt) ∧ ((1 ≤ y_token.toInt → y_token.toInt ≤ 3 → x_p.toInt < y_p.toInt)) ∧ ((y_token.toInt = 2 → 0 ≤ y_number.toInt ∧ y_number.toInt ≤ 999)) ∧ u = [(h0, .inr (10, vL 67 Gh)), (h_tape, .inl (cB, 940, .inl f_tape))]) (PO D A) A) [.ref h0].toArray s 0 0 A) (F0 m 248 ls []) := by
                        intro G819 u820 i822 i823 H locs ls hP hD hS hl
                        refine lv_aload_n hx hb dX10_next_248 rfl (lv_at hl 3 rfl) ?_
                        have n824 : G819 13 = .int u717 := (SAME.at i822 (by decide) i760)
                        refine get_f (D := D) (ci := 10) (v := .int u717) (C := RX10) (T := TX10) (N := 67) hx hb hw inAX10 hown hK hP 0 rfl rfl 13 (by decide) (hw _ q_1274) (fun _ h9 => h9) n824 dX10_next_249 ?_
                        refine lv_iconst (v := 3) hx hb dX10_next_252 (by decide) ?_
                        refine lv_icmp_ge (tgt := 275) hx hb dX10_next_253 (by decide) (fun c825 => ?_) (fun c825 => ?_)
                        · have dc825 : 3 ≤ u717.toInt := le_i (a := 3) (b := u717.toInt) rfl rfl c825
                          have k826 : 3 ≤ u717.toInt ∧ u717.toInt ≤ 940 := ⟨Int.le_trans (Int.le_refl _) dc825, i764.2⟩
                          refine lv_aload_n hx hb dX10_next_275 rfl (lv_at hl 3 rfl) ?_
                          refine lv_dup hx hb dX10_next_276 rfl ?_
                          refine get_f (D := D) (ci := 10) (v := .int u717) (C := RX10) (T := TX10) (N := 67) hx hb hw inAX10 hown hK hP 0 rfl rfl 13 (by decide) (hw _ q_1274) (fun _ h9 => h9) n824 dX10_next_277 ?_
                          refine lv_iconst (v := 1) hx hb dX10_next_280 (by decide) ?_
                          refine lv_iadd hx hb dX10_next_281 ?_
                          refine lv_topi (fun v827 ev827 => ?_)
                          have bv827 : v827.toInt = u717.toInt + 1 := by rw [ev827]; exact add_k rfl rfl k826 ⟨Int.le_refl _, Int.le_refl _⟩ (by decide)
                          have k828 : 4 ≤ v827.toInt ∧ v827.toInt ≤ 941 := add_r bv827 k826 ⟨Int.le_refl _, Int.le_refl _⟩ (by decide)
                          refine put_f (D := D) (ci := 10) (v := .int v827) (ty := .int) (C := RX10) (T := TX10) (N := 67) hx hb hw inAX10 tyX10 tyX10_ok nmX10 hown hK hP hD hS 0 rfl rfl 13 (by decide) (hw _ q_1274) (fun _ h9 => h9) rfl (by decide +kernel) rfl rfl dX10_next_282 (fun H locs F829 eF829 hP hD hS => ?_)
                          have hP : va_P D vwCl [(h0, .inr (10, vL 67 F829)), (h_tape, .inl (cB, 940, .inl f_tape))] H := hP
                          have hD : va_D A [(h0, .inr (10, vL 67 F829)), (h_tape, .inl (cB, 940, .inl f_tape))] := hD
                          refine lv_aload_n hx hb dX10_next_285 rfl (lv_at hl 3 rfl) ?_
                          refine lv_dup hx hb dX10_next_286 rfl ?_
                          have n830 : G819 4 = .int u716 := (SAME.at i822 (by decide) i759)
                          have n831 : F829 4 = .int u716 := (get_ne eF829 (by decide) n830)
                          refine get_f (D := D) (ci := 10) (v := .int u716) (C := RX10) (T := TX10) (N := 67) hx hb hw inAX10 hown hK hP 0 rfl rfl 4 (by decide) (hw _ q_1265) (fun _ h9 => h9) n831 dX10_next_287 ?_
                          refine lv_iconst (v := 1) hx hb dX10_next_290 (by decide) ?_
                          refine lv_iadd hx hb dX10_next_291 ?_
                          refine lv_topi (fun v832 ev832 => ?_)
                          have bv832 : v832.toInt = u716.toInt + 1 := by rw [ev832]; exact add_k rfl rfl k801 ⟨Int.le_refl _, Int.le_refl _⟩ (by decide)
                          have k833 : 202 ≤ v832.toInt ∧ v832.toInt ≤ 940 := add_r bv832 k801 ⟨Int.le_refl _, Int.le_refl _⟩ (by decide)
                          refine put_f (D := D) (ci := 10) (v := .int v832) (ty := .int) (C := RX10) (T := TX10) (N := 67) hx hb hw inAX10 tyX10 tyX10_ok nmX10 hown hK hP hD hS 0 rfl rfl 4 (by decide) (hw _ q_1265) (fun _ h9 => h9) rfl (by decide +kernel) rfl rfl dX10_next_292 (fun H locs F834 eF834 hP hD hS => ?_)
                          have hP : va_P D vwCl [(h0, .inr (10, vL 67 F834)), (h_tape, .inl (cB, 940, .inl f_tape))] H := hP
                          have hD : va_D A [(h0, .inr (10, vL 67 F834)), (h_tape, .inl (cB, 940, .inl f_tape))] := hD
                          refine lv_goto (tgt := 181) hx hb dX10_next_295 (by decide) ?_
                          have n835 : F834 13 = .int v827 := (get_ne eF834 (by decide) (get_eq eF829))
                          have n836 : G819 14 = .int u718 := (SAME.at i822 (by decide) i761)
                          have n837 : F829 14 = .int u718 := (get_ne eF829 (by decide) n836)
                          have n838 : F834 14 = .int u718 := (get_ne eF834 (by decide) n837)
                          have n839 : F829 18 = .long u820 := (get_ne eF829 (by decide) i823)
                          have n840 : F834 18 = .long u820 := (get_ne eF834 (by decide) n839)
                          exact ih (u815, F834, v832, v827, u718, u820) ⟨i817, (SAME.up eF834 (SAME.up eF829 (SAME.tr (SAME.tr SAME.rf i758 (by decide)) i822 (by decide)) (by decide)) (by decide)), (get_eq eF834), n835, n838, n840, (ir_wk k833 (by decide) (by decide)), ⟨by omega, by omega⟩, (by show 0 ≤ v827.toInt ∧ v827.toInt ≤ v832.toInt ∧ x_p.toInt + v827.toInt ≤ v832.toInt ∧ (v827.toInt = 0 → v832.toInt = u2.toInt); omega), (by show u815.toInt = 1 → u709.toInt = 0 → (0 ≤ u718.toInt ∧ u718.toInt ≤ 999 ∧ (v827.toInt = 0 → u718.toInt = 0) ∧ (v827.toInt = 1 → u718.toInt ≤ 9) ∧ (v827.toInt = 2 → u718.toInt ≤ 99)); omega), (by show (x_token.toInt = 2 → 0 ≤ u718.toInt ∧ u718.toInt ≤ 999); omega)⟩ (by show (x_size.toInt - v832.toInt).toNat < (x_size.toInt - u716.toInt).toNat; omega) _ _ _ hP hD hS (lv_sub hl [0, 1, 2, 3] rfl)
                        · have dc825 : u717.toInt < 3 := nle_i (a := 3) (b := u717.toInt) rfl rfl c825
                          have k841 : 0 ≤ u717.toInt ∧ u717.toInt ≤ 2 := ⟨i764.1, up_lt dc825 (Int.le_refl _) (by decide)⟩
                          refine lv_aload_n hx hb dX10_next_256 rfl (lv_at hl 3 rfl) ?_
                          refine lv_bipush (v := 10) hx hb dX10_next_257 (by decide) ?_
                          refine lv_aload_n hx hb dX10_next_259 rfl (lv_at hl 3 rfl) ?_
                          have n842 : G819 14 = .int u718 := (SAME.at i822 (by decide) i761)
                          refine get_f (D := D) (ci := 10) (v := .int u718) (C := RX10) (T := TX10) (N := 67) hx hb hw inAX10 hown hK hP 0 rfl rfl 14 (by decide) (hw _ q_1275) (fun _ h9 => h9) n842 dX10_next_260 ?_
                          refine lv_imul hx hb dX10_next_263 ?_
                          refine lv_topi (fun v843 ev843 => ?_)
                          refine lv_aload_n hx hb dX10_next_264 rfl (lv_at hl 3 rfl) ?_
                          have n844 : G819 1 = .ref h_tape := (SAME.at i822 (by decide) n770)
                          have n845 : G819 3 = .int x_size := (SAME.at i822 (by decide) n773)
                          have n846 : G819 4 = .int u716 := (SAME.at i822 (by decide) i759)
                          refine call_Vi (wr := []) (As := []) (rest := [.int v843, .ref h0]) hx hb hml hown hw (m_X10_peek l D cI cJ cB cP cM cZ h0 h_tape G819 x_size u716 f_tape _ n844 n845 (ir_wk k802 (by decide) (by decide)) n846 (ir_wk k801 (by decide) (by decide))) wV_X10_169_X10_peek dX10_next_265 hK hP hD hS hA [0, 1] [] rfl rfl (by decide) (by decide) (by decide) 0 10 rfl rfl GG.fb hG.at hl.1 rfl (Nat.le_of_ble_eq_true rfl) ⟨(Nat.le_of_ble_eq_true rfl), (Nat.le_of_ble_eq_true rfl)⟩ ⟨(Nat.le_of_ble_eq_true rfl), (Nat.le_of_ble_eq_true rfl)⟩ (fun r847 u H locs hp hP hD hS => ?_)
                          rcases hp with ⟨t848, rfl, rfl⟩ | ⟨t849, t850, rfl, rfl⟩
                          · have hP : va_P D vwCl [(h0, .inr (10, vL 67 G819)), (h_tape, .inl (cB, 940, .inl f_tape))] H := hP
                            have hD : va_D A [(h0, .inr (10, vL 67 G819)), (h_tape, .inl (cB, 940, .inl f_tape))] := hD
                            refine W.widen (k := 0) (n := 0) (Nat.le_of_ble_eq_true rfl) (Nat.le_of_ble_eq_true rfl) ?_
                            have k852 : 202 ≤ x_size.toInt ∧ x_size.toInt ≤ 939 := ⟨k802.1, Int.le_trans t848 k801.2⟩
                            have k853 : 202 ≤ u716.toInt ∧ u716.toInt ≤ 939 := ⟨Int.le_trans k802.1 t848, k801.2⟩
                            refine lv_iadd hx hb dX10_next_268 ?_
                            refine lv_topi (fun v854 ev854 => ?_)
                            refine lv_bipush (v := 48) hx hb dX10_next_269 (by decide) ?_
                            refine lv_isub hx hb dX10_next_271 ?_
                            refine lv_topi (fun v855 ev855 => ?_)
                            refine put_f (D := D) (ci := 10) (v := .int v855) (ty := .int) (C := RX10) (T := TX10) (N := 67) hx hb hw inAX10 tyX10 tyX10_ok nmX10 hown hK hP hD hS 0 rfl rfl 14 (by decide) (hw _ q_1275) (fun _ h9 => h9) rfl (by decide +kernel) rfl rfl dX10_next_272 (fun H locs F856 eF856 hP hD hS => ?_)
                            have hP : va_P D vwCl [(h0, .inr (10, vL 67 F856)), (h_tape, .inl (cB, 940, .inl f_tape))] H := hP
                            have hD : va_D A [(h0, .inr (10, vL 67 F856)), (h_tape, .inl (cB, 940, .inl f_tape))] := hD
                            refine lv_aload_n hx hb dX10_next_275 rfl (lv_at hl 3 rfl) ?_
                            refine lv_dup hx hb dX10_next_276 rfl ?_
                            have n857 : F856 13 = .int u717 := (get_ne eF856 (by decide) n824)
                            refine get_f (D := D) (ci := 10) (v := .int u717) (C := RX10) (T := TX10) (N := 67) hx hb hw inAX10 hown hK hP 0 rfl rfl 13 (by decide) (hw _ q_1274) (fun _ h9 => h9) n857 dX10_next_277 ?_
                            refine lv_iconst (v := 1) hx hb dX10_next_280 (by decide) ?_
                            refine lv_iadd hx hb dX10_next_281 ?_
                            refine lv_topi (fun v858 ev858 => ?_)
                            have bv858 : v858.toInt = u717.toInt + 1 := by rw [ev858]; exact add_k rfl rfl k841 ⟨Int.le_refl _, Int.le_refl _⟩ (by decide)
                            have k859 : 1 ≤ v858.toInt ∧ v858.toInt ≤ 3 := add_r bv858 k841 ⟨Int.le_refl _, Int.le_refl _⟩ (by decide)
                            refine put_f (D := D) (ci := 10) (v := .int v858) (ty := .int) (C := RX10) (T := TX10) (N := 67) hx hb hw inAX10 tyX10 tyX10_ok nmX10 hown hK hP hD hS 0 rfl rfl 13 (by decide) (hw _ q_1274) (fun _ h9 => h9) rfl (by decide +kernel) rfl rfl dX10_next_282 (fun H locs F860 eF860 hP hD hS => ?_)
                            have hP : va_P D vwCl [(h0, .inr (10, vL 67 F860)), (h_tape, .inl (cB, 940, .inl f_tape))] H := hP
                            have hD : va_D A [(h0, .inr (10, vL 67 F860)), (h_tape, .inl (cB, 940, .inl f_tape))] := hD
                            refine lv_aload_n hx hb dX10_next_285 rfl (lv_at hl 3 rfl) ?_
                            refine lv_dup hx hb dX10_next_286 rfl ?_
                            have n861 : F856 4 = .int u716 := (get_ne eF856 (by decide) n846)
                            have n862 : F860 4 = .int u716 := (get_ne eF860 (by decide) n861)
                            refine get_f (D := D) (ci := 10) (v := .int u716) (C := RX10) (T := TX10) (N := 67) hx hb hw inAX10 hown hK hP 0 rfl rfl 4 (by decide) (hw _ q_1265) (fun _ h9 => h9) n862 dX10_next_287 ?_
                            refine lv_iconst (v := 1) hx hb dX10_next_290 (by decide) ?_
                            refine lv_iadd hx hb dX10_next_291 ?_
                            refine lv_topi (fun v863 ev863 => ?_)
                            have bv863 : v863.toInt = u716.toInt + 1 := by rw [ev863]; exact add_k rfl rfl k853 ⟨Int.le_refl _, Int.le_refl _⟩ (by decide)
                            have k864 : 203 ≤ v863.toInt ∧ v863.toInt ≤ 940 := add_r bv863 k853 ⟨Int.le_refl _, Int.le_refl _⟩ (by decide)
                            refine put_f (D := D) (ci := 10) (v := .int v863) (ty := .int) (C := RX10) (T := TX10) (N := 67) hx hb hw inAX10 tyX10 tyX10_ok nmX10 hown hK hP hD hS 0 rfl rfl 4 (by decide) (hw _ q_1265) (fun _ h9 => h9) rfl (by decide +kernel) rfl rfl dX10_next_292 (fun H locs F865 eF865 hP hD hS => ?_)
                            have hP : va_P D vwCl [(h0, .inr (10, vL 67 F865)), (h_tape, .inl (cB, 940, .inl f_tape))] H := hP
                            have hD : va_D A [(h0, .inr (10, vL 67 F865)), (h_tape, .inl (cB, 940, .inl f_tape))] := hD
                            refine lv_goto (tgt := 181) hx hb dX10_next_295 (by decide) ?_
                            have n866 : F865 13 = .int v858 := (get_ne eF865 (by decide) (get_eq eF860))
                            have n867 : F860 14 = .int v855 := (get_ne eF860 (by decide) (get_eq eF856))
                            have n868 : F865 14 = .int v855 := (get_ne eF865 (by decide) n867)
                            have n869 : F856 18 = .long u820 := (get_ne eF856 (by decide) i823)
                            have n870 : F860 18 = .long u820 := (get_ne eF860 (by decide) n869)
                            have n871 : F865 18 = .long u820 := (get_ne eF865 (by decide) n870)
                            exact ih (u815, F865, v863, v858, v855, u820) ⟨i817, (SAME.up eF865 (SAME.up eF860 (SAME.up eF856 (SAME.tr (SAME.tr SAME.rf i758 (by decide)) i822 (by decide)) (by decide)) (by decide)) (by decide)), (get_eq eF865), n866, n868, n871, (ir_wk k864 (by decide) (by decide)), (ir_wk k859 (by decide) (by decide)), (by show 0 ≤ v858.toInt ∧ v858.toInt ≤ v863.toInt ∧ x_p.toInt + v858.toInt ≤ v863.toInt ∧ (v858.toInt = 0 → v863.toInt = u2.toInt); omega), (by show u815.toInt = 1 → u709.toInt = 0 → (0 ≤ v855.toInt ∧ v855.toInt ≤ 999 ∧ (v858.toInt = 0 → v855.toInt = 0) ∧ (v858.toInt = 1 → v855.toInt ≤ 9) ∧ (v858.toInt = 2 → v855.toInt ≤ 99)); omega), (by show (x_token.toInt = 2 → 0 ≤ v855.toInt ∧ v855.toInt ≤ 999); omega)⟩ (by show (x_size.toInt - v863.toInt).toNat < (x_size.toInt - u716.toInt).toNat; omega) _ _ _ hP hD hS (lv_sub hl [0, 1, 2, 3] rfl)
                          · have hP : va_P D vwCl [(h0, .inr (10, vL 67 G819)), (h_tape, .inl (cB, 940, .inl f_tape))] H := hP
                            have hD : va_D A [(h0, .inr (10, vL 67 G819)), (h_tape, .inl (cB, 940, .inl f_tape))] := hD
                            refine W.widen (k := 0) (n := 0) (Nat.le_of_ble_eq_true rfl) (Nat.le_of_ble_eq_true rfl) ?_
                            refine lv_ci (y := v799) ev799.symm ?_
                            refine lv_iadd hx hb dX10_next_268 ?_
                            refine lv_topi (fun v872 ev872 => ?_)
                            refine lv_bipush (v := 48) hx hb dX10_next_269 (by decide) ?_
                            refine lv_isub hx hb dX10_next_271 ?_
                            refine lv_topi (fun v873 ev873 => ?_)
                            refine put_f (D := D) (ci := 10) (v := .int v873) (ty := .int) (C := RX10) (T := TX10) (N := 67) hx hb hw inAX10 tyX10 tyX10_ok nmX10 hown hK hP hD hS 0 rfl rfl 14 (by decide) (hw _ q_1275) (fun _ h9 => h9) rfl (by decide +kernel) rfl rfl dX10_next_272 (fun H locs F874 eF874 hP hD hS => ?_)
                            have hP : va_P D vwCl [(h0, .inr (10, vL 67 F874)), (h_tape, .inl (cB, 940, .inl f_tape))] H := hP
                            have hD : va_D A [(h0, .inr (10, vL 67 F874)), (h_tape, .inl (cB, 940, .inl f_tape))] := hD
                            refine lv_aload_n hx hb dX10_next_275 rfl (lv_at hl 3 rfl) ?_
                            refine lv_dup hx hb dX10_next_276 rfl ?_
                            have n875 : F874 13 = .int u717 := (get_ne eF874 (by decide) n824)
                            refine get_f (D := D) (ci := 10) (v := .int u717) (C := RX10) (T := TX10) (N := 67) hx hb hw inAX10 hown hK hP 0 rfl rfl 13 (by decide) (hw _ q_1274) (fun _ h9 => h9) n875 dX10_next_277 ?_
                            refine lv_iconst (v := 1) hx hb dX10_next_280 (by decide) ?_
                            refine lv_iadd hx hb dX10_next_281 ?_
                            refine lv_topi (fun v876 ev876 => ?_)
                            have bv876 : v876.toInt = u717.toInt + 1 := by rw [ev876]; exact add_k rfl rfl k841 ⟨Int.le_refl _, Int.le_refl _⟩ (by decide)
                            have k877 : 1 ≤ v876.toInt ∧ v876.toInt ≤ 3 := add_r bv876 k841 ⟨Int.le_refl _, Int.le_refl _⟩ (by decide)
                            refine put_f (D := D) (ci := 10) (v := .int v876) (ty := .int) (C := RX10) (T := TX10) (N := 67) hx hb hw inAX10 tyX10 tyX10_ok nmX10 hown hK hP hD hS 0 rfl rfl 13 (by decide) (hw _ q_1274) (fun _ h9 => h9) rfl (by decide +kernel) rfl rfl dX10_next_282 (fun H locs F878 eF878 hP hD hS => ?_)
                            have hP : va_P D vwCl [(h0, .inr (10, vL 67 F878)), (h_tape, .inl (cB, 940, .inl f_tape))] H := hP
                            have hD : va_D A [(h0, .inr (10, vL 67 F878)), (h_tape, .inl (cB, 940, .inl f_tape))] := hD
                            refine lv_aload_n hx hb dX10_next_285 rfl (lv_at hl 3 rfl) ?_
                            refine lv_dup hx hb dX10_next_286 rfl ?_
                            have n879 : F874 4 = .int u716 := (get_ne eF874 (by decide) n846)
                            have n880 : F878 4 = .int u716 := (get_ne eF878 (by decide) n879)
                            refine get_f (D := D) (ci := 10) (v := .int u716) (C := RX10) (T := TX10) (N := 67) hx hb hw inAX10 hown hK hP 0 rfl rfl 4 (by decide) (hw _ q_1265) (fun _ h9 => h9) n880 dX10_next_287 ?_
                            refine lv_iconst (v := 1) hx hb dX10_next_290 (by decide) ?_
                            refine lv_iadd hx hb dX10_next_291 ?_
                            refine lv_topi (fun v881 ev881 => ?_)
                            have bv881 : v881.toInt = u716.toInt + 1 := by rw [ev881]; exact add_k rfl rfl k801 ⟨Int.le_refl _, Int.le_refl _⟩ (by decide)
                            have k882 : 202 ≤ v881.toInt ∧ v881.toInt ≤ 940 := add_r bv881 k801 ⟨Int.le_refl _, Int.le_refl _⟩ (by decide)
                            refine put_f (D := D) (ci := 10) (v := .int v881) (ty := .int) (C := RX10) (T := TX10) (N := 67) hx hb hw inAX10 tyX10 tyX10_ok nmX10 hown hK hP hD hS 0 rfl rfl 4 (by decide) (hw _ q_1265) (fun _ h9 => h9) rfl (by decide +kernel) rfl rfl dX10_next_292 (fun H locs F883 eF883 hP hD hS => ?_)
                            have hP : va_P D vwCl [(h0, .inr (10, vL 67 F883)), (h_tape, .inl (cB, 940, .inl f_tape))] H := hP
                            have hD : va_D A [(h0, .inr (10, vL 67 F883)), (h_tape, .inl (cB, 940, .inl f_tape))] := hD
                            refine lv_goto (tgt := 181) hx hb dX10_next_295 (by decide) ?_
                            have n884 : F883 13 = .int v876 := (get_ne eF883 (by decide) (get_eq eF878))
                            have n885 : F878 14 = .int v873 := (get_ne eF878 (by decide) (get_eq eF874))
                            have n886 : F883 14 = .int v873 := (get_ne eF883 (by decide) n885)
                            have n887 : F874 18 = .long u820 := (get_ne eF874 (by decide) i823)
                            have n888 : F878 18 = .long u820 := (get_ne eF878 (by decide) n887)
                            have n889 : F883 18 = .long u820 := (get_ne eF883 (by decide) n888)
                            exact ih (u815, F883, v881, v876, v873, u820) ⟨i817, (SAME.up eF883 (SAME.up eF878 (SAME.up eF874 (SAME.tr (SAME.tr SAME.rf i758 (by decide)) i822 (by decide)) (by decide)) (by decide)) (by decide)), (get_eq eF883), n884, n886, n889, (ir_wk k882 (by decide) (by decide)), (ir_wk k877 (by decide) (by decide)), (by show 0 ≤ v876.toInt ∧ v876.toInt ≤ v881.toInt ∧ x_p.toInt + v876.toInt ≤ v881.toInt ∧ (v876.toInt = 0 → v881.toInt = u2.toInt); omega), (by show u815.toInt = 1 → u709.toInt = 0 → (0 ≤ v873.toInt ∧ v873.toInt ≤ 999 ∧ (v876.toInt = 0 → v873.toInt = 0) ∧ (v876.toInt = 1 → v873.toInt ≤ 9) ∧ (v876.toInt = 2 → v873.toInt ≤ 99)); omega), (by show (x_token.toInt = 2 → 0 ≤ v873.toInt ∧ v873.toInt ≤ 999); omega)⟩ (by show (x_size.toInt - v881.toInt).toNat < (x_size.toInt - u716.toInt).toNat; omega) _ _ _ hP hD hS (lv_sub hl [0, 1, 2, 3] rfl)
                      refine lv_aload_n hx hb dX10_next_222 rfl (lv_at hl 3 rfl) ?_
                      refine get_f (D := D) (ci := 10) (v := .int u717) (C := RX10) (T := TX10) (N := 67) hx hb hw inAX10 hown hK hP 0 rfl rfl 13 (by decide) (hw _ q_1274) (fun _ h9 => h9) i760 dX10_next_223 ?_
                      refine lv_bipush (v := 7) hx hb dX10_next_226 (by decide) ?_
                      refine lv_icmp_ge (tgt := 248) hx hb dX10_next_228 (by decide) (fun c890 => ?_) (fun c890 => ?_)
                      · have dc890 : 7 ≤ u717.toInt := le_i (a := 7) (b := u717.toInt) rfl rfl c890
                        have k891 : 7 ≤ u717.toInt ∧ u717.toInt ≤ 940 := ⟨Int.le_trans (Int.le_refl _) dc890, i764.2⟩
                        exact cut821 G715 u719 SAME.rf i762 _ _ _ hP hD hS (lv_sub hl [0, 1, 2, 3] rfl)
                      · have dc890 : u717.toInt < 7 := nle_i (a := 7) (b := u717.toInt) rfl rfl c890
                        have k892 : 0 ≤ u717.toInt ∧ u717.toInt ≤ 6 := ⟨i764.1, up_lt dc890 (Int.le_refl _) (by decide)⟩
                        refine lv_aload_n hx hb dX10_next_231 rfl (lv_at hl 3 rfl) ?_
                        refine lv_aload_n hx hb dX10_next_232 rfl (lv_at hl 3 rfl) ?_
                        refine get_f (D := D) (ci := 10) (v := .long u719) (C := RX10) (T := TX10) (N := 67) hx hb hw inAX10 hown hK hP 0 rfl rfl 18 (by decide) (hw _ q_1279) (fun _ h9 => h9) i762 dX10_next_233 ?_
                        refine lv_bipush (v := 8) hx hb dX10_next_236 (by decide) ?_
                        obtain ⟨v893, ev893⟩ : ∃ z : Int64, (u719 : Int64) <<< ((8 : Int32).toInt64 &&& 63) = z := ⟨_, rfl⟩
                        refine lv_lshl (v := v893) hx hb dX10_next_238 ev893 ?_
                        refine lv_aload_n hx hb dX10_next_239 rfl (lv_at hl 3 rfl) ?_
                        refine call_Vi (wr := []) (As := []) (rest := [.long v893, .ref h0]) hx hb hml hown hw (m_X10_peek l D cI cJ cB cP cM cZ h0 h_tape G715 x_size u716 f_tape _ n770 n773 (ir_wk k802 (by decide) (by decide)) i759 (ir_wk k801 (by decide) (by decide))) wV_X10_169_X10_peek dX10_next_240 hK hP hD hS hA [0, 1] [] rfl rfl (by decide) (by decide) (by decide) 0 10 rfl rfl GG.fb hG.at hl.1 rfl (Nat.le_of_ble_eq_true rfl) ⟨(Nat.le_of_ble_eq_true rfl), (Nat.le_of_ble_eq_true rfl)⟩ ⟨(Nat.le_of_ble_eq_true rfl), (Nat.le_of_ble_eq_true rfl)⟩ (fun r894 u H locs hp hP hD hS => ?_)
                        rcases hp with ⟨t895, rfl, rfl⟩ | ⟨t896, t897, rfl, rfl⟩
                        · have hP : va_P D vwCl [(h0, .inr (10, vL 67 G715)), (h_tape, .inl (cB, 940, .inl f_tape))] H := hP
                          have hD : va_D A [(h0, .inr (10, vL 67 G715)), (h_tape, .inl (cB, 940, .inl f_tape))] := hD
                          refine W.widen (k := 0) (n := 0) (Nat.le_of_ble_eq_true rfl) (Nat.le_of_ble_eq_true rfl) ?_
                          have k899 : 202 ≤ x_size.toInt ∧ x_size.toInt ≤ 939 := ⟨k802.1, Int.le_trans t895 k801.2⟩
                          have k900 : 202 ≤ u716.toInt ∧ u716.toInt ≤ 939 := ⟨Int.le_trans k802.1 t895, k801.2⟩
                          obtain ⟨v901, ev901⟩ : ∃ z : Int64, ((-1) : Int32).toInt64 = z := ⟨_, rfl⟩
                          refine lv_i2l (v := v901) hx hb dX10_next_243 ev901 ?_
                          refine lv_lor hx hb dX10_next_244 ?_
                          refine lv_topl (fun v902 ev902 => ?_)
                          refine put_f (D := D) (ci := 10) (v := .long v902) (ty := .long) (C := RX10) (T := TX10) (N := 67) hx hb hw inAX10 tyX10 tyX10_ok nmX10 hown hK hP hD hS 0 rfl rfl 18 (by decide) (hw _ q_1279) (fun _ h9 => h9) rfl (by decide +kernel) rfl rfl dX10_next_245 (fun H locs F903 eF903 hP hD hS => ?_)
                          have hP : va_P D vwCl [(h0, .inr (10, vL 67 F903)), (h_tape, .inl (cB, 940, .inl f_tape))] H := hP
                          have hD : va_D A [(h0, .inr (10, vL 67 F903)), (h_tape, .inl (cB, 940, .inl f_tape))] := hD
                          exact cut821 F903 v902 (SAME.up eF903 SAME.rf (by decide)) (get_eq eF903) _ _ _ hP hD hS (lv_sub hl [0, 1, 2, 3] rfl)
                        · have hP : va_P D vwCl [(h0, .inr (10, vL 67 G715)), (h_tape, .inl (cB, 940, .inl f_tape))] H := hP
                          have hD : va_D A [(h0, .inr (10, vL 67 G715)), (h_tape, .inl (cB, 940, .inl f_tape))] := hD
                          refine W.widen (k := 0) (n := 0) (Nat.le_of_ble_eq_true rfl) (Nat.le_of_ble_eq_true rfl) ?_
                          refine lv_ci (y := v799) ev799.symm ?_
                          obtain ⟨v904, ev904⟩ : ∃ z : Int64, (v799 : Int32).toInt64 = z := ⟨_, rfl⟩
                          refine lv_i2l (v := v904) hx hb dX10_next_243 ev904 ?_
                          refine lv_lor hx hb dX10_next_244 ?_
                          refine lv_topl (fun v905 ev905 => ?_)
                          refine put_f (D := D) (ci := 10) (v := .long v905) (ty := .long) (C := RX10) (T := TX10) (N := 67) hx hb hw inAX10 tyX10 tyX10_ok nmX10 hown hK hP hD hS 0 rfl rfl 18 (by decide) (hw _ q_1279) (fun _ h9 => h9) rfl (by decide +kernel) rfl rfl dX10_next_245 (fun H locs F906 eF906 hP hD hS => ?_)
                          have hP : va_P D vwCl [(h0, .inr (10, vL 67 F906)), (h_tape, .inl (cB, 940, .inl f_tape))] H := hP
                          have hD : va_D A [(h0, .inr (10, vL 67 F906)), (h_tape, .inl (cB, 940, .inl f_tape))] := hD
                          exact cut821 F906 v905 (SAME.up eF906 SAME.rf (by decide)) (get_eq eF906) _ _ _ hP hD hS (lv_sub hl [0, 1, 2, 3] rfl)
                    refine lv_iload_n hx hb dX10_next_201 rfl (lv_at hl 0 rfl) ?_
                    refine lv_if_eq (tgt := 220) hx hb dX10_next_202 (by decide) (fun c907 => ?_) (fun c907 => ?_)
                    · have dc907 : u714.toInt = 0 := eq_i (a := u714.toInt) (b := 0) rfl rfl c907
                      have k908 : 0 ≤ u714.toInt ∧ u714.toInt ≤ 0 := ⟨i757.1, Int.le_trans (Int.le_of_eq dc907) (Int.le_refl _)⟩
                      refine lv_iconst (v := 0) hx hb dX10_next_220 (by decide) ?_
                      refine lv_istore_n (lv' := [(3, .int 0), (2, .int u709), (1, .int v706), (0, .ref h0)]) hx hb dX10_next_221 rfl hl (by decide) rfl (fun ls hl => ?_)
                      exact cut816 0 (show 0 ≤ (0 : Int32).toInt ∧ (0 : Int32).toInt ≤ 1 by decide) (by show (0 = 1 → u709.toInt = 0 → (48 ≤ v799.toInt ∧ v799.toInt ≤ 57 ∧ 0 ≤ u718.toInt ∧ u718.toInt ≤ 999 ∧ (u717.toInt = 0 → u718.toInt = 0) ∧ (u717.toInt = 1 → u718.toInt ≤ 9) ∧ (u717.toInt = 2 → u718.toInt ≤ 99))); omega) _ _ _ hP hD hS (lv_sub hl [0, 1, 2, 3] rfl)
                    · have dc907 : u714.toInt ≠ 0 := ne_i (a := u714.toInt) (b := 0) rfl rfl c907
                      have k909 : 1 ≤ u714.toInt ∧ u714.toInt ≤ 1 := ⟨ne_lo dc907 i757.1 ⟨Int.le_refl _, Int.le_refl _⟩ (by decide), i757.2⟩
                      refine lv_aload_n hx hb dX10_next_205 rfl (lv_at hl 3 rfl) ?_
                      refine call_Vi (wr := []) (As := []) (rest := []) hx hb hml hown hw (m_X10_peek l D cI cJ cB cP cM cZ h0 h_tape G715 x_size u716 f_tape _ n770 n773 (ir_wk k802 (by decide) (by decide)) i759 (ir_wk k801 (by decide) (by decide))) wV_X10_169_X10_peek dX10_next_206 hK hP hD hS hA [0, 1] [] rfl rfl (by decide) (by decide) (by decide) 0 10 rfl rfl GG.fb hG.at hl.1 rfl (Nat.le_of_ble_eq_true rfl) ⟨(Nat.le_of_ble_eq_true rfl), (Nat.le_of_ble_eq_true rfl)⟩ ⟨(Nat.le_of_ble_eq_true rfl), (Nat.le_of_ble_eq_true rfl)⟩ (fun r910 u H locs hp hP hD hS => ?_)
                      rcases hp with ⟨t911, rfl, rfl⟩ | ⟨t912, t913, rfl, rfl⟩
                      · have hP : va_P D vwCl [(h0, .inr (10, vL 67 G715)), (h_tape, .inl (cB, 940, .inl f_tape))] H := hP
                        have hD : va_D A [(h0, .inr (10, vL 67 G715)), (h_tape, .inl (cB, 940, .inl f_tape))] := hD
                        refine W.widen (k := 0) (n := 0) (Nat.le_of_ble_eq_true rfl) (Nat.le_of_ble_eq_true rfl) ?_
                        have k915 : 202 ≤ x_size.toInt ∧ x_size.toInt ≤ 939 := ⟨k802.1, Int.le_trans t911 k801.2⟩
                        have k916 : 202 ≤ u716.toInt ∧ u716.toInt ≤ 939 := ⟨Int.le_trans k802.1 t911, k801.2⟩
                        refine call_Si (wr := [(h0, .inr (10, vL 67 G715)), (h_tape, .inl (cB, 940, .inl f_tape))]) (As := [.int (-1)]) (rest := []) hx hb hml hown hw (m_X10_isSmall l D cI cJ cB cP cM cZ (-1) _ ) wS_X10_182_X10_isSmall dX10_next_209 hP hD hS hA [] [0, 1] rfl rfl (by decide) (by decide) (by decide) GG.fb hG.at hl.1 rfl (Nat.le_of_ble_eq_true rfl) ⟨(Nat.le_of_ble_eq_true rfl), (Nat.le_of_ble_eq_true rfl)⟩ ⟨(Nat.le_of_ble_eq_true rfl), (Nat.le_of_ble_eq_true rfl)⟩ (fun r917 u H locs hp hP hD hS => ?_)
                        rcases hp with ⟨t918, rfl, rfl⟩ | ⟨t919, t920, rfl, rfl⟩ | ⟨t921, t922, rfl, rfl⟩
                        · have hP : va_P D vwCl [(h0, .inr (10, vL 67 G715)), (h_tape, .inl (cB, 940, .inl f_tape))] H := hP
                          have hD : va_D A [(h0, .inr (10, vL 67 G715)), (h_tape, .inl (cB, 940, .inl f_tape))] := hD
                          refine W.widen (k := 0) (n := 0) (Nat.le_of_ble_eq_true rfl) (Nat.le_of_ble_eq_true rfl) ?_
                          refine lv_iload_n hx hb dX10_next_212 rfl (lv_at hl 1 rfl) ?_
                          refine lv_icmp_ne (tgt := 220) hx hb dX10_next_213 (by decide) (fun c924 => ?_) (fun c924 => ?_)
                          · have dc924 : 0 ≠ u709.toInt := ne_i (a := 0) (b := u709.toInt) rfl rfl c924
                            have k925 : 1 ≤ u709.toInt ∧ u709.toInt ≤ 1 := ⟨ne_lo dc924.symm i711.1 ⟨Int.le_refl _, Int.le_refl _⟩ (by decide), i711.2⟩
                            refine lv_iconst (v := 0) hx hb dX10_next_220 (by decide) ?_
                            refine lv_istore_n (lv' := [(3, .int 0), (2, .int u709), (1, .int v706), (0, .ref h0)]) hx hb dX10_next_221 rfl hl (by decide) rfl (fun ls hl => ?_)
                            exact cut816 0 (show 0 ≤ (0 : Int32).toInt ∧ (0 : Int32).toInt ≤ 1 by decide) (by show (0 = 1 → u709.toInt = 0 → (48 ≤ v799.toInt ∧ v799.toInt ≤ 57 ∧ 0 ≤ u718.toInt ∧ u718.toInt ≤ 999 ∧ (u717.toInt = 0 → u718.toInt = 0) ∧ (u717.toInt = 1 → u718.toInt ≤ 9) ∧ (u717.toInt = 2 → u718.toInt ≤ 99))); omega) _ _ _ hP hD hS (lv_sub hl [0, 1, 2, 3] rfl)
                          · have dc924 : 0 = u709.toInt := eq_i (a := 0) (b := u709.toInt) rfl rfl c924
                            have k926 : 0 ≤ u709.toInt ∧ u709.toInt ≤ 0 := ⟨i711.1, Int.le_trans (Int.le_of_eq dc924.symm) (Int.le_refl _)⟩
                            refine lv_iconst (v := 1) hx hb dX10_next_216 (by decide) ?_
                            refine lv_goto (tgt := 221) hx hb dX10_next_217 (by decide) ?_
                            refine lv_istore_n (lv' := [(3, .int 1), (2, .int u709), (1, .int v706), (0, .ref h0)]) hx hb dX10_next_221 rfl hl (by decide) rfl (fun ls hl => ?_)
                            exact cut816 1 (show 0 ≤ (1 : Int32).toInt ∧ (1 : Int32).toInt ≤ 1 by decide) (by show (1 = 1 → u709.toInt = 0 → (48 ≤ v799.toInt ∧ v799.toInt ≤ 57 ∧ 0 ≤ u718.toInt ∧ u718.toInt ≤ 999 ∧ (u717.toInt = 0 → u718.toInt = 0) ∧ (u717.toInt = 1 → u718.toInt ≤ 9) ∧ (u717.toInt = 2 → u718.toInt ≤ 99))); omega) _ _ _ hP hD hS (lv_sub hl [0, 1, 2, 3] rfl)
                        · have hP : va_P D vwCl [(h0, .inr (10, vL 67 G715)), (h_tape, .inl (cB, 940, .inl f_tape))] H := hP
                          have hD : va_D A [(h0, .inr (10, vL 67 G715)), (h_tape, .inl (cB, 940, .inl f_tape))] := hD
                          refine W.widen (k := 0) (n := 0) (Nat.le_of_ble_eq_true rfl) (Nat.le_of_ble_eq_true rfl) ?_
                          exact absurd t919 (by decide)
                        · have hP : va_P D vwCl [(h0, .inr (10, vL 67 G715)), (h_tape, .inl (cB, 940, .inl f_tape))] H := hP
                          have hD : va_D A [(h0, .inr (10, vL 67 G715)), (h_tape, .inl (cB, 940, .inl f_tape))] := hD
                          refine W.widen (k := 0) (n := 0) (Nat.le_of_ble_eq_true rfl) (Nat.le_of_ble_eq_true rfl) ?_
                          exact absurd t921 (by decide)
                      · have hP : va_P D vwCl [(h0, .inr (10, vL 67 G715)), (h_tape, .inl (cB, 940, .inl f_tape))] H := hP
                        have hD : va_D A [(h0, .inr (10, vL 67 G715)), (h_tape, .inl (cB, 940, .inl f_tape))] := hD
                        refine W.widen (k := 0) (n := 0) (Nat.le_of_ble_eq_true rfl) (Nat.le_of_ble_eq_true rfl) ?_
                        refine lv_ci (y := v799) ev799.symm ?_
                        refine call_Si (wr := [(h0, .inr (10, vL 67 G715)), (h_tape, .inl (cB, 940, .inl f_tape))]) (As := [.int v799]) (rest := []) hx hb hml hown hw (m_X10_isSmall l D cI cJ cB cP cM cZ v799 _ ) wS_X10_182_X10_isSmall dX10_next_209 hP hD hS hA [] [0, 1] rfl rfl (by decide) (by decide) (by decide) GG.fb hG.at hl.1 rfl (Nat.le_of_ble_eq_true rfl) ⟨(Nat.le_of_ble_eq_true rfl), (Nat.le_of_ble_eq_true rfl)⟩ ⟨(Nat.le_of_ble_eq_true rfl), (Nat.le_of_ble_eq_true rfl)⟩ (fun r927 u H locs hp hP hD hS => ?_)
                        rcases hp with ⟨t928, rfl, rfl⟩ | ⟨t929, t930, rfl, rfl⟩ | ⟨t931, t932, rfl, rfl⟩
                        · have hP : va_P D vwCl [(h0, .inr (10, vL 67 G715)), (h_tape, .inl (cB, 940, .inl f_tape))] H := hP
                          have hD : va_D A [(h0, .inr (10, vL 67 G715)), (h_tape, .inl (cB, 940, .inl f_tape))] := hD
                          refine W.widen (k := 0) (n := 0) (Nat.le_of_ble_eq_true rfl) (Nat.le_of_ble_eq_true rfl) ?_
                          refine lv_iload_n hx hb dX10_next_212 rfl (lv_at hl 1 rfl) ?_
                          refine lv_icmp_ne (tgt := 220) hx hb dX10_next_213 (by decide) (fun c934 => ?_) (fun c934 => ?_)
                          · have dc934 : 0 ≠ u709.toInt := ne_i (a := 0) (b := u709.toInt) rfl rfl c934
                            have k935 : 1 ≤ u709.toInt ∧ u709.toInt ≤ 1 := ⟨ne_lo dc934.symm i711.1 ⟨Int.le_refl _, Int.le_refl _⟩ (by decide), i711.2⟩
                            refine lv_iconst (v := 0) hx hb dX10_next_220 (by decide) ?_
                            refine lv_istore_n (lv' := [(3, .int 0), (2, .int u709), (1, .int v706), (0, .ref h0)]) hx hb dX10_next_221 rfl hl (by decide) rfl (fun ls hl => ?_)
                            exact cut816 0 (show 0 ≤ (0 : Int32).toInt ∧ (0 : Int32).toInt ≤ 1 by decide) (by show (0 = 1 → u709.toInt = 0 → (48 ≤ v799.toInt ∧ v799.toInt ≤ 57 ∧ 0 ≤ u718.toInt ∧ u718.toInt ≤ 999 ∧ (u717.toInt = 0 → u718.toInt = 0) ∧ (u717.toInt = 1 → u718.toInt ≤ 9) ∧ (u717.toInt = 2 → u718.toInt ≤ 99))); omega) _ _ _ hP hD hS (lv_sub hl [0, 1, 2, 3] rfl)
                          · have dc934 : 0 = u709.toInt := eq_i (a := 0) (b := u709.toInt) rfl rfl c934
                            have k936 : 0 ≤ u709.toInt ∧ u709.toInt ≤ 0 := ⟨i711.1, Int.le_trans (Int.le_of_eq dc934.symm) (Int.le_refl _)⟩
                            refine lv_iconst (v := 1) hx hb dX10_next_216 (by decide) ?_
                            refine lv_goto (tgt := 221) hx hb dX10_next_217 (by decide) ?_
                            refine lv_istore_n (lv' := [(3, .int 1), (2, .int u709), (1, .int v706), (0, .ref h0)]) hx hb dX10_next_221 rfl hl (by decide) rfl (fun ls hl => ?_)
                            exact cut816 1 (show 0 ≤ (1 : Int32).toInt ∧ (1 : Int32).toInt ≤ 1 by decide) (by show (1 = 1 → u709.toInt = 0 → (48 ≤ v799.toInt ∧ v799.toInt ≤ 57 ∧ 0 ≤ u718.toInt ∧ u718.toInt ≤ 999 ∧ (u717.toInt = 0 → u718.toInt = 0) ∧ (u717.toInt = 1 → u718.toInt ≤ 9) ∧ (u717.toInt = 2 → u718.toInt ≤ 99))); omega) _ _ _ hP hD hS (lv_sub hl [0, 1, 2, 3] rfl)
                        · have hP : va_P D vwCl [(h0, .inr (10, vL 67 G715)), (h_tape, .inl (cB, 940, .inl f_tape))] H := hP
                          have hD : va_D A [(h0, .inr (10, vL 67 G715)), (h_tape, .inl (cB, 940, .inl f_tape))] := hD
                          refine W.widen (k := 0) (n := 0) (Nat.le_of_ble_eq_true rfl) (Nat.le_of_ble_eq_true rfl) ?_
                          exact False.elim (bad_le t929 (Int.le_refl _) k814.2 (by decide))
                        · have hP : va_P D vwCl [(h0, .inr (10, vL 67 G715)), (h_tape, .inl (cB, 940, .inl f_tape))] H := hP
                          have hD : va_D A [(h0, .inr (10, vL 67 G715)), (h_tape, .inl (cB, 940, .inl f_tape))] := hD
                          refine W.widen (k := 0) (n := 0) (Nat.le_of_ble_eq_true rfl) (Nat.le_of_ble_eq_true rfl) ?_
                          exact False.elim (bad_le t931 (Int.le_refl _) k814.2 (by decide))
              · have hP : va_P D vwCl [(h0, .inr (10, vL 67 G715)), (h_tape, .inl (cB, 940, .inl f_tape))] H := hP
                have hD : va_D A [(h0, .inr (10, vL 67 G715)), (h_tape, .inl (cB, 940, .inl f_tape))] := hD
                refine W.widen (k := 0) (n := 0) (Nat.le_of_ble_eq_true rfl) (Nat.le_of_ble_eq_true rfl) ?_
                exact absurd t782 (by decide)
              · have hP : va_P D vwCl [(h0, .inr (10, vL 67 G715)), (h_tape, .inl (cB, 940, .inl f_tape))] H := hP
                have hD : va_D A [(h0, .inr (10, vL 67 G715)), (h_tape, .inl (cB, 940, .inl f_tape))] := hD
                refine W.widen (k := 0) (n := 0) (Nat.le_of_ble_eq_true rfl) (Nat.le_of_ble_eq_true rfl) ?_
                exact absurd t784 (by decide)
            · have hP : va_P D vwCl [(h0, .inr (10, vL 67 G715)), (h_tape, .inl (cB, 940, .inl f_tape))] H := hP
              have hD : va_D A [(h0, .inr (10, vL 67 G715)), (h_tape, .inl (cB, 940, .inl f_tape))] := hD
              refine W.widen (k := 0) (n := 0) (Nat.le_of_ble_eq_true rfl) (Nat.le_of_ble_eq_true rfl) ?_
              refine lv_topi (fun v937 ev937 => ?_)
              have k938 : 0 ≤ v937.toInt ∧ v937.toInt ≤ 255 := by rw [ev937]; exact t776
              have k939 : 0 ≤ u716.toInt ∧ u716.toInt ≤ 939 := ⟨i763.1, up_lt t777 k690.2 (by decide)⟩
              refine call_Si (wr := [(h0, .inr (10, vL 67 G715)), (h_tape, .inl (cB, 940, .inl f_tape))]) (As := [.int v937]) (rest := []) hx hb hml hown hw (m_X10_isSmall l D cI cJ cB cP cM cZ v937 _ ) wS_X10_182_X10_isSmall dX10_next_185 hP hD hS hA [] [0, 1] rfl rfl (by decide) (by decide) (by decide) GG.fb hG.at hl.1 rfl (Nat.le_of_ble_eq_true rfl) ⟨(Nat.le_of_ble_eq_true rfl), (Nat.le_of_ble_eq_true rfl)⟩ ⟨(Nat.le_of_ble_eq_true rfl), (Nat.le_of_ble_eq_true rfl)⟩ (fun r940 u H locs hp hP hD hS => ?_)
              rcases hp with ⟨t941, rfl, rfl⟩ | ⟨t942, t943, rfl, rfl⟩ | ⟨t944, t945, rfl, rfl⟩
              · have hP : va_P D vwCl [(h0, .inr (10, vL 67 G715)), (h_tape, .inl (cB, 940, .inl f_tape))] H := hP
                have hD : va_D A [(h0, .inr (10, vL 67 G715)), (h_tape, .inl (cB, 940, .inl f_tape))] := hD
                refine W.widen (k := 0) (n := 0) (Nat.le_of_ble_eq_true rfl) (Nat.le_of_ble_eq_true rfl) ?_
                have k947 : 0 ≤ v937.toInt ∧ v937.toInt ≤ 96 := ⟨k938.1, up_lt t941 (Int.le_refl _) (by decide)⟩
                refine lv_if_ne (tgt := 201) hx hb dX10_next_188 (by decide) (fun g => absurd (by decide) g) (fun _ => ?_)
                refine lv_aload_n hx hb dX10_next_191 rfl (lv_at hl 3 rfl) ?_
                refine call_Vi (wr := []) (As := []) (rest := []) hx hb hml hown hw (m_X10_peek l D cI cJ cB cP cM cZ h0 h_tape G715 x_size u716 f_tape _ n770 n773 (ir_wk k690 (by decide) (by decide)) i759 (ir_wk k939 (by decide) (by decide))) wV_X10_169_X10_peek dX10_next_192 hK hP hD hS hA [0, 1] [] rfl rfl (by decide) (by decide) (by decide) 0 10 rfl rfl GG.fb hG.at hl.1 rfl (Nat.le_of_ble_eq_true rfl) ⟨(Nat.le_of_ble_eq_true rfl), (Nat.le_of_ble_eq_true rfl)⟩ ⟨(Nat.le_of_ble_eq_true rfl), (Nat.le_of_ble_eq_true rfl)⟩ (fun r948 u H locs hp hP hD hS => ?_)
                rcases hp with ⟨t949, rfl, rfl⟩ | ⟨t950, t951, rfl, rfl⟩
                · have hP : va_P D vwCl [(h0, .inr (10, vL 67 G715)), (h_tape, .inl (cB, 940, .inl f_tape))] H := hP
                  have hD : va_D A [(h0, .inr (10, vL 67 G715)), (h_tape, .inl (cB, 940, .inl f_tape))] := hD
                  refine W.widen (k := 0) (n := 0) (Nat.le_of_ble_eq_true rfl) (Nat.le_of_ble_eq_true rfl) ?_
                  have k953 : 201 ≤ x_size.toInt ∧ x_size.toInt ≤ 939 := ⟨k690.1, Int.le_trans t949 k939.2⟩
                  have k954 : 201 ≤ u716.toInt ∧ u716.toInt ≤ 939 := ⟨Int.le_trans k690.1 t949, k939.2⟩
                  refine call_Si (wr := [(h0, .inr (10, vL 67 G715)), (h_tape, .inl (cB, 940, .inl f_tape))]) (As := [.int (-1)]) (rest := []) hx hb hml hown hw (m_X10_isDigit l D cI cJ cB cP cM cZ (-1) _ ) wS_X10_186_X10_isDigit dX10_next_195 hP hD hS hA [] [0, 1] rfl rfl (by decide) (by decide) (by decide) GG.fb hG.at hl.1 rfl (Nat.le_of_ble_eq_true rfl) ⟨(Nat.le_of_ble_eq_true rfl), (Nat.le_of_ble_eq_true rfl)⟩ ⟨(Nat.le_of_ble_eq_true rfl), (Nat.le_of_ble_eq_true rfl)⟩ (fun r955 u H locs hp hP hD hS => ?_)
                  have zlm1 : ((-1) : Int32).toInt = (-1) := by decide
                  rcases hp with ⟨t956, rfl, rfl⟩ | ⟨t957, t958, rfl, rfl⟩ | ⟨t959, t960, rfl, rfl⟩
                  · have hP : va_P D vwCl [(h0, .inr (10, vL 67 G715)), (h_tape, .inl (cB, 940, .inl f_tape))] H := hP
                    have hD : va_D A [(h0, .inr (10, vL 67 G715)), (h_tape, .inl (cB, 940, .inl f_tape))] := hD
                    refine W.widen (k := 0) (n := 0) (Nat.le_of_ble_eq_true rfl) (Nat.le_of_ble_eq_true rfl) ?_
                    refine lv_if_eq (tgt := 298) hx hb dX10_next_198 (by decide) (fun _ => ?_) (fun g => absurd (by decide) g)
                    have hgv706 : v706.toInt = (((f_tape u2.toNatClampNeg) &&& 255)).toInt := by rw [ev706]
                    have hgv937 : v937.toInt = (((f_tape u716.toNatClampNeg) &&& 255)).toInt := by rw [ev937]
                    have hfst : u716.toInt = u2.toInt → (f_tape u716.toNatClampNeg &&& 255).toInt = (f_tape u2.toNatClampNeg &&& 255).toInt := fun h9 => by rw [Int32.toInt_inj.mp h9]
                    exact cut720 u714 G715 u716 u717 u718 u719 i757 (SAME.tr SAME.rf i758 (by decide)) i759 i760 i761 i762 (ir_wk k954 (by decide) (by decide)) i764 (by show 0 ≤ u717.toInt ∧ u717.toInt ≤ u716.toInt ∧ x_p.toInt + u717.toInt ≤ u716.toInt ∧ (u717.toInt = 0 → u716.toInt = u2.toInt); omega) (by show u714.toInt = 1 → u709.toInt = 0 → (0 ≤ u718.toInt ∧ u718.toInt ≤ 999 ∧ (u717.toInt = 0 → u718.toInt = 0) ∧ (u717.toInt = 1 → u718.toInt ≤ 9) ∧ (u717.toInt = 2 → u718.toInt ≤ 99)); omega) (by show (x_token.toInt = 2 → 0 ≤ u718.toInt ∧ u718.toInt ≤ 999); omega) (by show 1 ≤ u717.toInt; omega) _ _ _ hP hD hS (lv_sub hl [0, 1, 2, 3] rfl)
                  · have hP : va_P D vwCl [(h0, .inr (10, vL 67 G715)), (h_tape, .inl (cB, 940, .inl f_tape))] H := hP
                    have hD : va_D A [(h0, .inr (10, vL 67 G715)), (h_tape, .inl (cB, 940, .inl f_tape))] := hD
                    refine W.widen (k := 0) (n := 0) (Nat.le_of_ble_eq_true rfl) (Nat.le_of_ble_eq_true rfl) ?_
                    exact absurd t957 (by decide)
                  · have hP : va_P D vwCl [(h0, .inr (10, vL 67 G715)), (h_tape, .inl (cB, 940, .inl f_tape))] H := hP
                    have hD : va_D A [(h0, .inr (10, vL 67 G715)), (h_tape, .inl (cB, 940, .inl f_tape))] := hD
                    refine W.widen (k := 0) (n := 0) (Nat.le_of_ble_eq_true rfl) (Nat.le_of_ble_eq_true rfl) ?_
                    exact absurd t959 (by decide)
                · have hP : va_P D vwCl [(h0, .inr (10, vL 67 G715)), (h_tape, .inl (cB, 940, .inl f_tape))] H := hP
                  have hD : va_D A [(h0, .inr (10, vL 67 G715)), (h_tape, .inl (cB, 940, .inl f_tape))] := hD
                  refine W.widen (k := 0) (n := 0) (Nat.le_of_ble_eq_true rfl) (Nat.le_of_ble_eq_true rfl) ?_
                  refine lv_ci (y := v937) ev937.symm ?_
                  refine call_Si (wr := [(h0, .inr (10, vL 67 G715)), (h_tape, .inl (cB, 940, .inl f_tape))]) (As := [.int v937]) (rest := []) hx hb hml hown hw (m_X10_isDigit l D cI cJ cB cP cM cZ v937 _ ) wS_X10_186_X10_isDigit dX10_next_195 hP hD hS hA [] [0, 1] rfl rfl (by decide) (by decide) (by decide) GG.fb hG.at hl.1 rfl (Nat.le_of_ble_eq_true rfl) ⟨(Nat.le_of_ble_eq_true rfl), (Nat.le_of_ble_eq_true rfl)⟩ ⟨(Nat.le_of_ble_eq_true rfl), (Nat.le_of_ble_eq_true rfl)⟩ (fun r962 u H locs hp hP hD hS => ?_)
                  rcases hp with ⟨t963, rfl, rfl⟩ | ⟨t964, t965, rfl, rfl⟩ | ⟨t966, t967, rfl, rfl⟩
                  · have hP : va_P D vwCl [(h0, .inr (10, vL 67 G715)), (h_tape, .inl (cB, 940, .inl f_tape))] H := hP
                    have hD : va_D A [(h0, .inr (10, vL 67 G715)), (h_tape, .inl (cB, 940, .inl f_tape))] := hD
                    refine W.widen (k := 0) (n := 0) (Nat.le_of_ble_eq_true rfl) (Nat.le_of_ble_eq_true rfl) ?_
                    have k969 : 0 ≤ v937.toInt ∧ v937.toInt ≤ 47 := ⟨k947.1, up_lt t963 (Int.le_refl _) (by decide)⟩
                    refine lv_if_eq (tgt := 298) hx hb dX10_next_198 (by decide) (fun _ => ?_) (fun g => absurd (by decide) g)
                    have hgv706 : v706.toInt = (((f_tape u2.toNatClampNeg) &&& 255)).toInt := by rw [ev706]
                    have hgv937 : v937.toInt = (((f_tape u716.toNatClampNeg) &&& 255)).toInt := by rw [ev937]
                    have hfst : u716.toInt = u2.toInt → (f_tape u716.toNatClampNeg &&& 255).toInt = (f_tape u2.toNatClampNeg &&& 255).toInt := fun h9 => by rw [Int32.toInt_inj.mp h9]
                    exact cut720 u714 G715 u716 u717 u718 u719 i757 (SAME.tr SAME.rf i758 (by decide)) i759 i760 i761 i762 (ir_wk k939 (by decide) (by decide)) i764 (by show 0 ≤ u717.toInt ∧ u717.toInt ≤ u716.toInt ∧ x_p.toInt + u717.toInt ≤ u716.toInt ∧ (u717.toInt = 0 → u716.toInt = u2.toInt); omega) (by show u714.toInt = 1 → u709.toInt = 0 → (0 ≤ u718.toInt ∧ u718.toInt ≤ 999 ∧ (u717.toInt = 0 → u718.toInt = 0) ∧ (u717.toInt = 1 → u718.toInt ≤ 9) ∧ (u717.toInt = 2 → u718.toInt ≤ 99)); omega) (by show (x_token.toInt = 2 → 0 ≤ u718.toInt ∧ u718.toInt ≤ 999); omega) (by show 1 ≤ u717.toInt; omega) _ _ _ hP hD hS (lv_sub hl [0, 1, 2, 3] rfl)
                  · have hP : va_P D vwCl [(h0, .inr (10, vL 67 G715)), (h_tape, .inl (cB, 940, .inl f_tape))] H := hP
                    have hD : va_D A [(h0, .inr (10, vL 67 G715)), (h_tape, .inl (cB, 940, .inl f_tape))] := hD
                    refine W.widen (k := 0) (n := 0) (Nat.le_of_ble_eq_true rfl) (Nat.le_of_ble_eq_true rfl) ?_
                    have k970 : 48 ≤ v937.toInt ∧ v937.toInt ≤ 96 := ⟨Int.le_trans (Int.le_refl _) t964, k947.2⟩
                    have k971 : 58 ≤ v937.toInt ∧ v937.toInt ≤ 96 := ⟨lo_lt t965 (Int.le_refl _) (by decide), k970.2⟩
                    refine lv_if_eq (tgt := 298) hx hb dX10_next_198 (by decide) (fun _ => ?_) (fun g => absurd (by decide) g)
                    have hgv706 : v706.toInt = (((f_tape u2.toNatClampNeg) &&& 255)).toInt := by rw [ev706]
                    have hgv937 : v937.toInt = (((f_tape u716.toNatClampNeg) &&& 255)).toInt := by rw [ev937]
                    have hfst : u716.toInt = u2.toInt → (f_tape u716.toNatClampNeg &&& 255).toInt = (f_tape u2.toNatClampNeg &&& 255).toInt := fun h9 => by rw [Int32.toInt_inj.mp h9]
                    exact cut720 u714 G715 u716 u717 u718 u719 i757 (SAME.tr SAME.rf i758 (by decide)) i759 i760 i761 i762 (ir_wk k939 (by decide) (by decide)) i764 (by show 0 ≤ u717.toInt ∧ u717.toInt ≤ u716.toInt ∧ x_p.toInt + u717.toInt ≤ u716.toInt ∧ (u717.toInt = 0 → u716.toInt = u2.toInt); omega) (by show u714.toInt = 1 → u709.toInt = 0 → (0 ≤ u718.toInt ∧ u718.toInt ≤ 999 ∧ (u717.toInt = 0 → u718.toInt = 0) ∧ (u717.toInt = 1 → u718.toInt ≤ 9) ∧ (u717.toInt = 2 → u718.toInt ≤ 99)); omega) (by show (x_token.toInt = 2 → 0 ≤ u718.toInt ∧ u718.toInt ≤ 999); omega) (by show 1 ≤ u717.toInt; omega) _ _ _ hP hD hS (lv_sub hl [0, 1, 2, 3] rfl)
                  · have hP : va_P D vwCl [(h0, .inr (10, vL 67 G715)), (h_tape, .inl (cB, 940, .inl f_tape))] H := hP
                    have hD : va_D A [(h0, .inr (10, vL 67 G715)), (h_tape, .inl (cB, 940, .inl f_tape))] := hD
                    refine W.widen (k := 0) (n := 0) (Nat.le_of_ble_eq_true rfl) (Nat.le_of_ble_eq_true rfl) ?_
                    have k972 : 48 ≤ v937.toInt ∧ v937.toInt ≤ 96 := ⟨Int.le_trans (Int.le_refl _) t966, k947.2⟩
                    have k973 : 48 ≤ v937.toInt ∧ v937.toInt ≤ 57 := ⟨k972.1, Int.le_trans t967 (Int.le_refl _)⟩
                    refine lv_if_eq (tgt := 298) hx hb dX10_next_198 (by decide) (fun g => absurd g (by decide)) (fun _ => ?_)
                    have cut975 : ∀ (u974 : Int32) (_ : IR 0 1 u974) (_ : ((u974.toInt = 1 → u709.toInt = 0 → (48 ≤ v937.toInt ∧ v937.toInt ≤ 57 ∧ 0 ≤ u718.toInt ∧ u718.toInt ≤ 999 ∧ (u717.toInt = 0 → u718.toInt = 0) ∧ (u717.toInt = 1 → u718.toInt ≤ 9) ∧ (u717.toInt = 2 → u718.toInt ≤ 99))))) (H : Heap) (locs : List Loc) (ls : Array Slot), va_P D vwCl [(h0, .inr (10, vL 67 G715)), (h_tape, .inl (cB, 940, .inl f_tape))] H → va_D A [(h0, .inr (10, vL 67 G715)), (h_tape, .inl (cB, 940, .inl f_tape))] → va_S A s.heap H locs → lv_has ls 4 [(3, .int u974), (2, .int u709), (1, .int v706), (0, .ref h0)] → W p l e ({ frames := 1, cells := 0, slots := 0, locals := 20 } : Room) s m [.ref h0].toArray below meth c H locs 0 0 (MQ below (va_Qv (fun (u : va_W) => ∃ (Gh : Nat → Value) (y_p : Int32) (y_token : Int32) (y_at : Int32) (y_span : Int32) (y_number : Int32) (y_word : Int64), SAME [4, 11, 12, 13, 14, 18] Fh Gh ∧ Gh 4 = .int y_p ∧ IR 0 940 y_p ∧ Gh 11 = .int y_token ∧ IR 0 4 y_token ∧ Gh 12 = .int y_at ∧ IR 0 940 y_at ∧ Gh 13 = .int y_span ∧ IR 0 940 y_span ∧ Gh 14 = .int y_number ∧ Gh 18 = .long y_word ∧ (x_p.toInt ≤ y_p.toInt) ∧ ((1 ≤ y_token.toInt → y_token.toInt ≤ 3 → x_p.toInt < y_p.toInt)) ∧ ((y_token.toInt = 2 → 0 ≤ y_number.toInt ∧ y_number.toInt ≤ 999)) ∧ u = [(h0, .inr (10, vL 67 Gh)), (h_tape, .inl (cB, 940, .inl f_tape))]) (PO D A) A) [.ref h0].toArray s 0 0 A) (F0 m 222 ls []) := by
                      intro u974 i976 i977 H locs ls hP hD hS hl
                      have i976 : 0 ≤ u974.toInt ∧ u974.toInt ≤ 1 := i976
                      have i977 : (u974.toInt = 1 → u709.toInt = 0 → (48 ≤ v937.toInt ∧ v937.toInt ≤ 57 ∧ 0 ≤ u718.toInt ∧ u718.toInt ≤ 999 ∧ (u717.toInt = 0 → u718.toInt = 0) ∧ (u717.toInt = 1 → u718.toInt ≤ 9) ∧ (u717.toInt = 2 → u718.toInt ≤ 99))) := i977
                      have cut980 : ∀ (G978 : Nat → Value) (u979 : Int64) (_ : SAME [18] G715 G978) (_ : G978 18 = .long u979) (H : Heap) (locs : List Loc) (ls : Array Slot), va_P D vwCl [(h0, .inr (10, vL 67 G978)), (h_tape, .inl (cB, 940, .inl f_tape))] H → va_D A [(h0, .inr (10, vL 67 G978)), (h_tape, .inl (cB, 940, .inl f_tape))] → va_S A s.heap H locs → lv_has ls 4 [(3, .int u974), (2, .int u709), (1, .int v706), (0, .ref h0)] → W p l e ({ frames := 1, cells := 0, slots := 0, locals := 20 } : Room) s m [.ref h0].toArray below meth c H locs 0 0 (MQ below (va_Qv (fun (u : va_W) => ∃ (Gh : Nat → Value) (y_p : Int32) (y_token : Int32) (y_at : Int32) (y_span : Int32) (y_number : Int32) (y_word : Int64), SAME [4, 11, 12, 13, 14, 18] Fh Gh ∧ Gh 4 = .int y_p ∧ IR 0 940 y_p ∧ Gh 11 = .int y_token ∧ IR 0 4 y_token ∧ Gh 12 = .int y_at ∧ IR 0 940 y_at ∧ Gh 13 = .int y_span ∧ IR 0 940 y_span ∧ Gh 14 = .int y_number ∧ Gh 18 = .long y_word ∧ (x_p.toInt ≤ y_p.toInt) ∧ ((1 ≤ y_token.toInt → y_token.toInt ≤ 3 → x_p.toInt < y_p.toInt)) ∧ ((y_token.toInt = 2 → 0 ≤ y_number.toInt ∧ y_number.toInt ≤ 999)) ∧ u = [(h0, .inr (10, vL 67 Gh)), (h_tape, .inl (cB, 940, .inl f_tape))]) (PO D A) A) [.ref h0].toArray s 0 0 A) (F0 m 248 ls []) := by
                        intro G978 u979 i981 i982 H locs ls hP hD hS hl
                        refine lv_aload_n hx hb dX10_next_248 rfl (lv_at hl 3 rfl) ?_
                        have n983 : G978 13 = .int u717 := (SAME.at i981 (by decide) i760)
                        refine get_f (D := D) (ci := 10) (v := .int u717) (C := RX10) (T := TX10) (N := 67) hx hb hw inAX10 hown hK hP 0 rfl rfl 13 (by decide) (hw _ q_1274) (fun _ h9 => h9) n983 dX10_next_249 ?_
                        refine lv_iconst (v := 3) hx hb dX10_next_252 (by decide) ?_
                        refine lv_icmp_ge (tgt := 275) hx hb dX10_next_253 (by decide) (fun c984 => ?_) (fun c984 => ?_)
                        · have dc984 : 3 ≤ u717.toInt := le_i (a := 3) (b := u717.toInt) rfl rfl c984
                          have k985 : 3 ≤ u717.toInt ∧ u717.toInt ≤ 940 := ⟨Int.le_trans (Int.le_refl _) dc984, i764.2⟩
                          refine lv_aload_n hx hb dX10_next_275 rfl (lv_at hl 3 rfl) ?_
                          refine lv_dup hx hb dX10_next_276 rfl ?_
                          refine get_f (D := D) (ci := 10) (v := .int u717) (C := RX10) (T := TX10) (N := 67) hx hb hw inAX10 hown hK hP 0 rfl rfl 13 (by decide) (hw _ q_1274) (fun _ h9 => h9) n983 dX10_next_277 ?_
                          refine lv_iconst (v := 1) hx hb dX10_next_280 (by decide) ?_
                          refine lv_iadd hx hb dX10_next_281 ?_
                          refine lv_topi (fun v986 ev986 => ?_)
                          have bv986 : v986.toInt = u717.toInt + 1 := by rw [ev986]; exact add_k rfl rfl k985 ⟨Int.le_refl _, Int.le_refl _⟩ (by decide)
                          have k987 : 4 ≤ v986.toInt ∧ v986.toInt ≤ 941 := add_r bv986 k985 ⟨Int.le_refl _, Int.le_refl _⟩ (by decide)
                          refine put_f (D := D) (ci := 10) (v := .int v986) (ty := .int) (C := RX10) (T := TX10) (N := 67) hx hb hw inAX10 tyX10 tyX10_ok nmX10 hown hK hP hD hS 0 rfl rfl 13 (by decide) (hw _ q_1274) (fun _ h9 => h9) rfl (by decide +kernel) rfl rfl dX10_next_282 (fun H locs F988 eF988 hP hD hS => ?_)
                          have hP : va_P D vwCl [(h0, .inr (10, vL 67 F988)), (h_tape, .inl (cB, 940, .inl f_tape))] H := hP
                          have hD : va_D A [(h0, .inr (10, vL 67 F988)), (h_tape, .inl (cB, 940, .inl f_tape))] := hD
                          refine lv_aload_n hx hb dX10_next_285 rfl (lv_at hl 3 rfl) ?_
                          refine lv_dup hx hb dX10_next_286 rfl ?_
                          have n989 : G978 4 = .int u716 := (SAME.at i981 (by decide) i759)
                          have n990 : F988 4 = .int u716 := (get_ne eF988 (by decide) n989)
                          refine get_f (D := D) (ci := 10) (v := .int u716) (C := RX10) (T := TX10) (N := 67) hx hb hw inAX10 hown hK hP 0 rfl rfl 4 (by decide) (hw _ q_1265) (fun _ h9 => h9) n990 dX10_next_287 ?_
                          refine lv_iconst (v := 1) hx hb dX10_next_290 (by decide) ?_
                          refine lv_iadd hx hb dX10_next_291 ?_
                          refine lv_topi (fun v991 ev991 => ?_)
                          have bv991 : v991.toInt = u716.toInt + 1 := by rw [ev991]; exact add_k rfl rfl k939 ⟨Int.le_refl _, Int.le_refl _⟩ (by decide)
                          have k992 : 1 ≤ v991.toInt ∧ v991.toInt ≤ 940 := add_r bv991 k939 ⟨Int.le_refl _, Int.le_refl _⟩ (by decide)
                          refine put_f (D := D) (ci := 10) (v := .int v991) (ty := .int) (C := RX10) (T := TX10) (N := 67) hx hb hw inAX10 tyX10 tyX10_ok nmX10 hown hK hP hD hS 0 rfl rfl 4 (by decide) (hw _ q_1265) (fun _ h9 => h9) rfl (by decide +kernel) rfl rfl dX10_next_292 (fun H locs F993 eF993 hP hD hS => ?_)
                          have hP : va_P D vwCl [(h0, .inr (10, vL 67 F993)), (h_tape, .inl (cB, 940, .inl f_tape))] H := hP
                          have hD : va_D A [(h0, .inr (10, vL 67 F993)), (h_tape, .inl (cB, 940, .inl f_tape))] := hD
                          refine lv_goto (tgt := 181) hx hb dX10_next_295 (by decide) ?_
                          have n994 : F993 13 = .int v986 := (get_ne eF993 (by decide) (get_eq eF988))
                          have n995 : G978 14 = .int u718 := (SAME.at i981 (by decide) i761)
                          have n996 : F988 14 = .int u718 := (get_ne eF988 (by decide) n995)
                          have n997 : F993 14 = .int u718 := (get_ne eF993 (by decide) n996)
                          have n998 : F988 18 = .long u979 := (get_ne eF988 (by decide) i982)
                          have n999 : F993 18 = .long u979 := (get_ne eF993 (by decide) n998)
                          exact ih (u974, F993, v991, v986, u718, u979) ⟨i976, (SAME.up eF993 (SAME.up eF988 (SAME.tr (SAME.tr SAME.rf i758 (by decide)) i981 (by decide)) (by decide)) (by decide)), (get_eq eF993), n994, n997, n999, (ir_wk k992 (by decide) (by decide)), ⟨by omega, by omega⟩, (by show 0 ≤ v986.toInt ∧ v986.toInt ≤ v991.toInt ∧ x_p.toInt + v986.toInt ≤ v991.toInt ∧ (v986.toInt = 0 → v991.toInt = u2.toInt); omega), (by show u974.toInt = 1 → u709.toInt = 0 → (0 ≤ u718.toInt ∧ u718.toInt ≤ 999 ∧ (v986.toInt = 0 → u718.toInt = 0) ∧ (v986.toInt = 1 → u718.toInt ≤ 9) ∧ (v986.toInt = 2 → u718.toInt ≤ 99)); omega), (by show (x_token.toInt = 2 → 0 ≤ u718.toInt ∧ u718.toInt ≤ 999); omega)⟩ (by show (x_size.toInt - v991.toInt).toNat < (x_size.toInt - u716.toInt).toNat; omega) _ _ _ hP hD hS (lv_sub hl [0, 1, 2, 3] rfl)
                        · have dc984 : u717.toInt < 3 := nle_i (a := 3) (b := u717.toInt) rfl rfl c984
                          have k1000 : 0 ≤ u717.toInt ∧ u717.toInt ≤ 2 := ⟨i764.1, up_lt dc984 (Int.le_refl _) (by decide)⟩
                          refine lv_aload_n hx hb dX10_next_256 rfl (lv_at hl 3 rfl) ?_
                          refine lv_bipush (v := 10) hx hb dX10_next_257 (by decide) ?_
                          refine lv_aload_n hx hb dX10_next_259 rfl (lv_at hl 3 rfl) ?_
                          have n1001 : G978 14 = .int u718 := (SAME.at i981 (by decide) i761)
                          refine get_f (D := D) (ci := 10) (v := .int u718) (C := RX10) (T := TX10) (N := 67) hx hb hw inAX10 hown hK hP 0 rfl rfl 14 (by decide) (hw _ q_1275) (fun _ h9 => h9) n1001 dX10_next_260 ?_
                          refine lv_imul hx hb dX10_next_263 ?_
                          refine lv_topi (fun v1002 ev1002 => ?_)
                          refine lv_aload_n hx hb dX10_next_264 rfl (lv_at hl 3 rfl) ?_
                          have n1003 : G978 1 = .ref h_tape := (SAME.at i981 (by decide) n770)
                          have n1004 : G978 3 = .int x_size := (SAME.at i981 (by decide) n773)
                          have n1005 : G978 4 = .int u716 := (SAME.at i981 (by decide) i759)
                          refine call_Vi (wr := []) (As := []) (rest := [.int v1002, .ref h0]) hx hb hml hown hw (m_X10_peek l D cI cJ cB cP cM cZ h0 h_tape G978 x_size u716 f_tape _ n1003 n1004 (ir_wk k690 (by decide) (by decide)) n1005 (ir_wk k939 (by decide) (by decide))) wV_X10_169_X10_peek dX10_next_265 hK hP hD hS hA [0, 1] [] rfl rfl (by decide) (by decide) (by decide) 0 10 rfl rfl GG.fb hG.at hl.1 rfl (Nat.le_of_ble_eq_true rfl) ⟨(Nat.le_of_ble_eq_true rfl), (Nat.le_of_ble_eq_true rfl)⟩ ⟨(Nat.le_of_ble_eq_true rfl), (Nat.le_of_ble_eq_true rfl)⟩ (fun r1006 u H locs hp hP hD hS => ?_)
                          rcases hp with ⟨t1007, rfl, rfl⟩ | ⟨t1008, t1009, rfl, rfl⟩
                          · have hP : va_P D vwCl [(h0, .inr (10, vL 67 G978)), (h_tape, .inl (cB, 940, .inl f_tape))] H := hP
                            have hD : va_D A [(h0, .inr (10, vL 67 G978)), (h_tape, .inl (cB, 940, .inl f_tape))] := hD
                            refine W.widen (k := 0) (n := 0) (Nat.le_of_ble_eq_true rfl) (Nat.le_of_ble_eq_true rfl) ?_
                            have k1011 : 201 ≤ x_size.toInt ∧ x_size.toInt ≤ 939 := ⟨k690.1, Int.le_trans t1007 k939.2⟩
                            have k1012 : 201 ≤ u716.toInt ∧ u716.toInt ≤ 939 := ⟨Int.le_trans k690.1 t1007, k939.2⟩
                            refine lv_iadd hx hb dX10_next_268 ?_
                            refine lv_topi (fun v1013 ev1013 => ?_)
                            refine lv_bipush (v := 48) hx hb dX10_next_269 (by decide) ?_
                            refine lv_isub hx hb dX10_next_271 ?_
                            refine lv_topi (fun v1014 ev1014 => ?_)
                            refine put_f (D := D) (ci := 10) (v := .int v1014) (ty := .int) (C := RX10) (T := TX10) (N := 67) hx hb hw inAX10 tyX10 tyX10_ok nmX10 hown hK hP hD hS 0 rfl rfl 14 (by decide) (hw _ q_1275) (fun _ h9 => h9) rfl (by decide +kernel) rfl rfl dX10_next_272 (fun H locs F1015 eF1015 hP hD hS => ?_)
                            have hP : va_P D vwCl [(h0, .inr (10, vL 67 F1015)), (h_tape, .inl (cB, 940, .inl f_tape))] H := hP
                            have hD : va_D A [(h0, .inr (10, vL 67 F1015)), (h_tape, .inl (cB, 940, .inl f_tape))] := hD
                            refine lv_aload_n hx hb dX10_next_275 rfl (lv_at hl 3 rfl) ?_
                            refine lv_dup hx hb dX10_next_276 rfl ?_
                            have n1016 : F1015 13 = .int u717 := (get_ne eF1015 (by decide) n983)
                            refine get_f (D := D) (ci := 10) (v := .int u717) (C := RX10) (T := TX10) (N := 67) hx hb hw inAX10 hown hK hP 0 rfl rfl 13 (by decide) (hw _ q_1274) (fun _ h9 => h9) n1016 dX10_next_277 ?_
                            refine lv_iconst (v := 1) hx hb dX10_next_280 (by decide) ?_
                            refine lv_iadd hx hb dX10_next_281 ?_
                            refine lv_topi (fun v1017 ev1017 => ?_)
                            have bv1017 : v1017.toInt = u717.toInt + 1 := by rw [ev1017]; exact add_k rfl rfl k1000 ⟨Int.le_refl _, Int.le_refl _⟩ (by decide)
                            have k1018 : 1 ≤ v1017.toInt ∧ v1017.toInt ≤ 3 := add_r bv1017 k1000 ⟨Int.le_refl _, Int.le_refl _⟩ (by decide)
                            refine put_f (D := D) (ci := 10) (v := .int v1017) (ty := .int) (C := RX10) (T := TX10) (N := 67) hx hb hw inAX10 tyX10 tyX10_ok nmX10 hown hK hP hD hS 0 rfl rfl 13 (by decide) (hw _ q_1274) (fun _ h9 => h9) rfl (by decide +kernel) rfl rfl dX10_next_282 (fun H locs F1019 eF1019 hP hD hS => ?_)
                            have hP : va_P D vwCl [(h0, .inr (10, vL 67 F1019)), (h_tape, .inl (cB, 940, .inl f_tape))] H := hP
                            have hD : va_D A [(h0, .inr (10, vL 67 F1019)), (h_tape, .inl (cB, 940, .inl f_tape))] := hD
                            refine lv_aload_n hx hb dX10_next_285 rfl (lv_at hl 3 rfl) ?_
                            refine lv_dup hx hb dX10_next_286 rfl ?_
                            have n1020 : F1015 4 = .int u716 := (get_ne eF1015 (by decide) n1005)
                            have n1021 : F1019 4 = .int u716 := (get_ne eF1019 (by decide) n1020)
                            refine get_f (D := D) (ci := 10) (v := .int u716) (C := RX10) (T := TX10) (N := 67) hx hb hw inAX10 hown hK hP 0 rfl rfl 4 (by decide) (hw _ q_1265) (fun _ h9 => h9) n1021 dX10_next_287 ?_
                            refine lv_iconst (v := 1) hx hb dX10_next_290 (by decide) ?_
                            refine lv_iadd hx hb dX10_next_291 ?_
                            refine lv_topi (fun v1022 ev1022 => ?_)
                            have bv1022 : v1022.toInt = u716.toInt + 1 := by rw [ev1022]; exact add_k rfl rfl k1012 ⟨Int.le_refl _, Int.le_refl _⟩ (by decide)
                            have k1023 : 202 ≤ v1022.toInt ∧ v1022.toInt ≤ 940 := add_r bv1022 k1012 ⟨Int.le_refl _, Int.le_refl _⟩ (by decide)
                            refine put_f (D := D) (ci := 10) (v := .int v1022) (ty := .int) (C := RX10) (T := TX10) (N := 67) hx hb hw inAX10 tyX10 tyX10_ok nmX10 hown hK hP hD hS 0 rfl rfl 4 (by decide) (hw _ q_1265) (fun _ h9 => h9) rfl (by decide +kernel) rfl rfl dX10_next_292 (fun H locs F1024 eF1024 hP hD hS => ?_)
                            have hP : va_P D vwCl [(h0, .inr (10, vL 67 F1024)), (h_tape, .inl (cB, 940, .inl f_tape))] H := hP
                            have hD : va_D A [(h0, .inr (10, vL 67 F1024)), (h_tape, .inl (cB, 940, .inl f_tape))] := hD
                            refine lv_goto (tgt := 181) hx hb dX10_next_295 (by decide) ?_
                            have n1025 : F1024 13 = .int v1017 := (get_ne eF1024 (by decide) (get_eq eF1019))
                            have n1026 : F1019 14 = .int v1014 := (get_ne eF1019 (by decide) (get_eq eF1015))
                            have n1027 : F1024 14 = .int v1014 := (get_ne eF1024 (by decide) n1026)
                            have n1028 : F1015 18 = .long u979 := (get_ne eF1015 (by decide) i982)
                            have n1029 : F1019 18 = .long u979 := (get_ne eF1019 (by decide) n1028)
                            have n1030 : F1024 18 = .long u979 := (get_ne eF1024 (by decide) n1029)
                            exact ih (u974, F1024, v1022, v1017, v1014, u979) ⟨i976, (SAME.up eF1024 (SAME.up eF1019 (SAME.up eF1015 (SAME.tr (SAME.tr SAME.rf i758 (by decide)) i981 (by decide)) (by decide)) (by decide)) (by decide)), (get_eq eF1024), n1025, n1027, n1030, (ir_wk k1023 (by decide) (by decide)), (ir_wk k1018 (by decide) (by decide)), (by show 0 ≤ v1017.toInt ∧ v1017.toInt ≤ v1022.toInt ∧ x_p.toInt + v1017.toInt ≤ v1022.toInt ∧ (v1017.toInt = 0 → v1022.toInt = u2.toInt); omega), (by show u974.toInt = 1 → u709.toInt = 0 → (0 ≤ v1014.toInt ∧ v1014.toInt ≤ 999 ∧ (v1017.toInt = 0 → v1014.toInt = 0) ∧ (v1017.toInt = 1 → v1014.toInt ≤ 9) ∧ (v1017.toInt = 2 → v1014.toInt ≤ 99)); omega), (by show (x_token.toInt = 2 → 0 ≤ v1014.toInt ∧ v1014.toInt ≤ 999); omega)⟩ (by show (x_size.toInt - v1022.toInt).toNat < (x_size.toInt - u716.toInt).toNat; omega) _ _ _ hP hD hS (lv_sub hl [0, 1, 2, 3] rfl)
                          · have hP : va_P D vwCl [(h0, .inr (10, vL 67 G978)), (h_tape, .inl (cB, 940, .inl f_tape))] H := hP
                            have hD : va_D A [(h0, .inr (10, vL 67 G978)), (h_tape, .inl (cB, 940, .inl f_tape))] := hD
                            refine W.widen (k := 0) (n := 0) (Nat.le_of_ble_eq_true rfl) (Nat.le_of_ble_eq_true rfl) ?_
                            refine lv_ci (y := v937) ev937.symm ?_
                            refine lv_iadd hx hb dX10_next_268 ?_
                            refine lv_topi (fun v1031 ev1031 => ?_)
                            refine lv_bipush (v := 48) hx hb dX10_next_269 (by decide) ?_
                            refine lv_isub hx hb dX10_next_271 ?_
                            refine lv_topi (fun v1032 ev1032 => ?_)
                            refine put_f (D := D) (ci := 10) (v := .int v1032) (ty := .int) (C := RX10) (T := TX10) (N := 67) hx hb hw inAX10 tyX10 tyX10_ok nmX10 hown hK hP hD hS 0 rfl rfl 14 (by decide) (hw _ q_1275) (fun _ h9 => h9) rfl (by decide +kernel) rfl rfl dX10_next_272 (fun H locs F1033 eF1033 hP hD hS => ?_)
                            have hP : va_P D vwCl [(h0, .inr (10, vL 67 F1033)), (h_tape, .inl (cB, 940, .inl f_tape))] H := hP
                            have hD : va_D A [(h0, .inr (10, vL 67 F1033)), (h_tape, .inl (cB, 940, .inl f_tape))] := hD
                            refine lv_aload_n hx hb dX10_next_275 rfl (lv_at hl 3 rfl) ?_
                            refine lv_dup hx hb dX10_next_276 rfl ?_
                            have n1034 : F1033 13 = .int u717 := (get_ne eF1033 (by decide) n983)
                            refine get_f (D := D) (ci := 10) (v := .int u717) (C := RX10) (T := TX10) (N := 67) hx hb hw inAX10 hown hK hP 0 rfl rfl 13 (by decide) (hw _ q_1274) (fun _ h9 => h9) n1034 dX10_next_277 ?_
                            refine lv_iconst (v := 1) hx hb dX10_next_280 (by decide) ?_
                            refine lv_iadd hx hb dX10_next_281 ?_
                            refine lv_topi (fun v1035 ev1035 => ?_)
                            have bv1035 : v1035.toInt = u717.toInt + 1 := by rw [ev1035]; exact add_k rfl rfl k1000 ⟨Int.le_refl _, Int.le_refl _⟩ (by decide)
                            have k1036 : 1 ≤ v1035.toInt ∧ v1035.toInt ≤ 3 := add_r bv1035 k1000 ⟨Int.le_refl _, Int.le_refl _⟩ (by decide)
                            refine put_f (D := D) (ci := 10) (v := .int v1035) (ty := .int) (C := RX10) (T := TX10) (N := 67) hx hb hw inAX10 tyX10 tyX10_ok nmX10 hown hK hP hD hS 0 rfl rfl 13 (by decide) (hw _ q_1274) (fun _ h9 => h9) rfl (by decide +kernel) rfl rfl dX10_next_282 (fun H locs F1037 eF1037 hP hD hS => ?_)
                            have hP : va_P D vwCl [(h0, .inr (10, vL 67 F1037)), (h_tape, .inl (cB, 940, .inl f_tape))] H := hP
                            have hD : va_D A [(h0, .inr (10, vL 67 F1037)), (h_tape, .inl (cB, 940, .inl f_tape))] := hD
                            refine lv_aload_n hx hb dX10_next_285 rfl (lv_at hl 3 rfl) ?_
                            refine lv_dup hx hb dX10_next_286 rfl ?_
                            have n1038 : F1033 4 = .int u716 := (get_ne eF1033 (by decide) n1005)
                            have n1039 : F1037 4 = .int u716 := (get_ne eF1037 (by decide) n1038)
                            refine get_f (D := D) (ci := 10) (v := .int u716) (C := RX10) (T := TX10) (N := 67) hx hb hw inAX10 hown hK hP 0 rfl rfl 4 (by decide) (hw _ q_1265) (fun _ h9 => h9) n1039 dX10_next_287 ?_
                            refine lv_iconst (v := 1) hx hb dX10_next_290 (by decide) ?_
                            refine lv_iadd hx hb dX10_next_291 ?_
                            refine lv_topi (fun v1040 ev1040 => ?_)
                            have bv1040 : v1040.toInt = u716.toInt + 1 := by rw [ev1040]; exact add_k rfl rfl k939 ⟨Int.le_refl _, Int.le_refl _⟩ (by decide)
                            have k1041 : 1 ≤ v1040.toInt ∧ v1040.toInt ≤ 940 := add_r bv1040 k939 ⟨Int.le_refl _, Int.le_refl _⟩ (by decide)
                            refine put_f (D := D) (ci := 10) (v := .int v1040) (ty := .int) (C := RX10) (T := TX10) (N := 67) hx hb hw inAX10 tyX10 tyX10_ok nmX10 hown hK hP hD hS 0 rfl rfl 4 (by decide) (hw _ q_1265) (fun _ h9 => h9) rfl (by decide +kernel) rfl rfl dX10_next_292 (fun H locs F1042 eF1042 hP hD hS => ?_)
                            have hP : va_P D vwCl [(h0, .inr (10, vL 67 F1042)), (h_tape, .inl (cB, 940, .inl f_tape))] H := hP
                            have hD : va_D A [(h0, .inr (10, vL 67 F1042)), (h_tape, .inl (cB, 940, .inl f_tape))] := hD
                            refine lv_goto (tgt := 181) hx hb dX10_next_295 (by decide) ?_
                            have n1043 : F1042 13 = .int v1035 := (get_ne eF1042 (by decide) (get_eq eF1037))
                            have n1044 : F1037 14 = .int v1032 := (get_ne eF1037 (by decide) (get_eq eF1033))
                            have n1045 : F1042 14 = .int v1032 := (get_ne eF1042 (by decide) n1044)
                            have n1046 : F1033 18 = .long u979 := (get_ne eF1033 (by decide) i982)
                            have n1047 : F1037 18 = .long u979 := (get_ne eF1037 (by decide) n1046)
                            have n1048 : F1042 18 = .long u979 := (get_ne eF1042 (by decide) n1047)
                            exact ih (u974, F1042, v1040, v1035, v1032, u979) ⟨i976, (SAME.up eF1042 (SAME.up eF1037 (SAME.up eF1033 (SAME.tr (SAME.tr SAME.rf i758 (by decide)) i981 (by decide)) (by decide)) (by decide)) (by decide)), (get_eq eF1042), n1043, n1045, n1048, (ir_wk k1041 (by decide) (by decide)), (ir_wk k1036 (by decide) (by decide)), (by show 0 ≤ v1035.toInt ∧ v1035.toInt ≤ v1040.toInt ∧ x_p.toInt + v1035.toInt ≤ v1040.toInt ∧ (v1035.toInt = 0 → v1040.toInt = u2.toInt); omega), (by show u974.toInt = 1 → u709.toInt = 0 → (0 ≤ v1032.toInt ∧ v1032.toInt ≤ 999 ∧ (v1035.toInt = 0 → v1032.toInt = 0) ∧ (v1035.toInt = 1 → v1032.toInt ≤ 9) ∧ (v1035.toInt = 2 → v1032.toInt ≤ 99)); omega), (by show (x_token.toInt = 2 → 0 ≤ v1032.toInt ∧ v1032.toInt ≤ 999); omega)⟩ (by show (x_size.toInt - v1040.toInt).toNat < (x_size.toInt - u716.toInt).toNat; omega) _ _ _ hP hD hS (lv_sub hl [0, 1, 2, 3] rfl)
                      refine lv_aload_n hx hb dX10_next_222 rfl (lv_at hl 3 rfl) ?_
                      refine get_f (D := D) (ci := 10) (v := .int u717) (C := RX10) (T := TX10) (N := 67) hx hb hw inAX10 hown hK hP 0 rfl rfl 13 (by decide) (hw _ q_1274) (fun _ h9 => h9) i760 dX10_next_223 ?_
                      refine lv_bipush (v := 7) hx hb dX10_next_226 (by decide) ?_
                      refine lv_icmp_ge (tgt := 248) hx hb dX10_next_228 (by decide) (fun c1049 => ?_) (fun c1049 => ?_)
                      · have dc1049 : 7 ≤ u717.toInt := le_i (a := 7) (b := u717.toInt) rfl rfl c1049
                        have k1050 : 7 ≤ u717.toInt ∧ u717.toInt ≤ 940 := ⟨Int.le_trans (Int.le_refl _) dc1049, i764.2⟩
                        exact cut980 G715 u719 SAME.rf i762 _ _ _ hP hD hS (lv_sub hl [0, 1, 2, 3] rfl)
                      · have dc1049 : u717.toInt < 7 := nle_i (a := 7) (b := u717.toInt) rfl rfl c1049
                        have k1051 : 0 ≤ u717.toInt ∧ u717.toInt ≤ 6 := ⟨i764.1, up_lt dc1049 (Int.le_refl _) (by decide)⟩
                        refine lv_aload_n hx hb dX10_next_231 rfl (lv_at hl 3 rfl) ?_
                        refine lv_aload_n hx hb dX10_next_232 rfl (lv_at hl 3 rfl) ?_
                        refine get_f (D := D) (ci := 10) (v := .long u719) (C := RX10) (T := TX10) (N := 67) hx hb hw inAX10 hown hK hP 0 rfl rfl 18 (by decide) (hw _ q_1279) (fun _ h9 => h9) i762 dX10_next_233 ?_
                        refine lv_bipush (v := 8) hx hb dX10_next_236 (by decide) ?_
                        obtain ⟨v1052, ev1052⟩ : ∃ z : Int64, (u719 : Int64) <<< ((8 : Int32).toInt64 &&& 63) = z := ⟨_, rfl⟩
                        refine lv_lshl (v := v1052) hx hb dX10_next_238 ev1052 ?_
                        refine lv_aload_n hx hb dX10_next_239 rfl (lv_at hl 3 rfl) ?_
                        refine call_Vi (wr := []) (As := []) (rest := [.long v1052, .ref h0]) hx hb hml hown hw (m_X10_peek l D cI cJ cB cP cM cZ h0 h_tape G715 x_size u716 f_tape _ n770 n773 (ir_wk k690 (by decide) (by decide)) i759 (ir_wk k939 (by decide) (by decide))) wV_X10_169_X10_peek dX10_next_240 hK hP hD hS hA [0, 1] [] rfl rfl (by decide) (by decide) (by decide) 0 10 rfl rfl GG.fb hG.at hl.1 rfl (Nat.le_of_ble_eq_true rfl) ⟨(Nat.le_of_ble_eq_true rfl), (Nat.le_of_ble_eq_true rfl)⟩ ⟨(Nat.le_of_ble_eq_true rfl), (Nat.le_of_ble_eq_true rfl)⟩ (fun r1053 u H locs hp hP hD hS => ?_)
                        rcases hp with ⟨t1054, rfl, rfl⟩ | ⟨t1055, t1056, rfl, rfl⟩
                        · have hP : va_P D vwCl [(h0, .inr (10, vL 67 G715)), (h_tape, .inl (cB, 940, .inl f_tape))] H := hP
                          have hD : va_D A [(h0, .inr (10, vL 67 G715)), (h_tape, .inl (cB, 940, .inl f_tape))] := hD
                          refine W.widen (k := 0) (n := 0) (Nat.le_of_ble_eq_true rfl) (Nat.le_of_ble_eq_true rfl) ?_
                          have k1058 : 201 ≤ x_size.toInt ∧ x_size.toInt ≤ 939 := ⟨k690.1, Int.le_trans t1054 k939.2⟩
                          have k1059 : 201 ≤ u716.toInt ∧ u716.toInt ≤ 939 := ⟨Int.le_trans k690.1 t1054, k939.2⟩
                          obtain ⟨v1060, ev1060⟩ : ∃ z : Int64, ((-1) : Int32).toInt64 = z := ⟨_, rfl⟩
                          refine lv_i2l (v := v1060) hx hb dX10_next_243 ev1060 ?_
                          refine lv_lor hx hb dX10_next_244 ?_
                          refine lv_topl (fun v1061 ev1061 => ?_)
                          refine put_f (D := D) (ci := 10) (v := .long v1061) (ty := .long) (C := RX10) (T := TX10) (N := 67) hx hb hw inAX10 tyX10 tyX10_ok nmX10 hown hK hP hD hS 0 rfl rfl 18 (by decide) (hw _ q_1279) (fun _ h9 => h9) rfl (by decide +kernel) rfl rfl dX10_next_245 (fun H locs F1062 eF1062 hP hD hS => ?_)
                          have hP : va_P D vwCl [(h0, .inr (10, vL 67 F1062)), (h_tape, .inl (cB, 940, .inl f_tape))] H := hP
                          have hD : va_D A [(h0, .inr (10, vL 67 F1062)), (h_tape, .inl (cB, 940, .inl f_tape))] := hD
                          exact cut980 F1062 v1061 (SAME.up eF1062 SAME.rf (by decide)) (get_eq eF1062) _ _ _ hP hD hS (lv_sub hl [0, 1, 2, 3] rfl)
                        · have hP : va_P D vwCl [(h0, .inr (10, vL 67 G715)), (h_tape, .inl (cB, 940, .inl f_tape))] H := hP
                          have hD : va_D A [(h0, .inr (10, vL 67 G715)), (h_tape, .inl (cB, 940, .inl f_tape))] := hD
                          refine W.widen (k := 0) (n := 0) (Nat.le_of_ble_eq_true rfl) (Nat.le_of_ble_eq_true rfl) ?_
                          refine lv_ci (y := v937) ev937.symm ?_
                          obtain ⟨v1063, ev1063⟩ : ∃ z : Int64, (v937 : Int32).toInt64 = z := ⟨_, rfl⟩
                          refine lv_i2l (v := v1063) hx hb dX10_next_243 ev1063 ?_
                          refine lv_lor hx hb dX10_next_244 ?_
                          refine lv_topl (fun v1064 ev1064 => ?_)
                          refine put_f (D := D) (ci := 10) (v := .long v1064) (ty := .long) (C := RX10) (T := TX10) (N := 67) hx hb hw inAX10 tyX10 tyX10_ok nmX10 hown hK hP hD hS 0 rfl rfl 18 (by decide) (hw _ q_1279) (fun _ h9 => h9) rfl (by decide +kernel) rfl rfl dX10_next_245 (fun H locs F1065 eF1065 hP hD hS => ?_)
                          have hP : va_P D vwCl [(h0, .inr (10, vL 67 F1065)), (h_tape, .inl (cB, 940, .inl f_tape))] H := hP
                          have hD : va_D A [(h0, .inr (10, vL 67 F1065)), (h_tape, .inl (cB, 940, .inl f_tape))] := hD
                          exact cut980 F1065 v1064 (SAME.up eF1065 SAME.rf (by decide)) (get_eq eF1065) _ _ _ hP hD hS (lv_sub hl [0, 1, 2, 3] rfl)
                    refine lv_iload_n hx hb dX10_next_201 rfl (lv_at hl 0 rfl) ?_
                    refine lv_if_eq (tgt := 220) hx hb dX10_next_202 (by decide) (fun c1066 => ?_) (fun c1066 => ?_)
                    · have dc1066 : u714.toInt = 0 := eq_i (a := u714.toInt) (b := 0) rfl rfl c1066
                      have k1067 : 0 ≤ u714.toInt ∧ u714.toInt ≤ 0 := ⟨i757.1, Int.le_trans (Int.le_of_eq dc1066) (Int.le_refl _)⟩
                      refine lv_iconst (v := 0) hx hb dX10_next_220 (by decide) ?_
                      refine lv_istore_n (lv' := [(3, .int 0), (2, .int u709), (1, .int v706), (0, .ref h0)]) hx hb dX10_next_221 rfl hl (by decide) rfl (fun ls hl => ?_)
                      exact cut975 0 (show 0 ≤ (0 : Int32).toInt ∧ (0 : Int32).toInt ≤ 1 by decide) (by show (0 = 1 → u709.toInt = 0 → (48 ≤ v937.toInt ∧ v937.toInt ≤ 57 ∧ 0 ≤ u718.toInt ∧ u718.toInt ≤ 999 ∧ (u717.toInt = 0 → u718.toInt = 0) ∧ (u717.toInt = 1 → u718.toInt ≤ 9) ∧ (u717.toInt = 2 → u718.toInt ≤ 99))); omega) _ _ _ hP hD hS (lv_sub hl [0, 1, 2, 3] rfl)
                    · have dc1066 : u714.toInt ≠ 0 := ne_i (a := u714.toInt) (b := 0) rfl rfl c1066
                      have k1068 : 1 ≤ u714.toInt ∧ u714.toInt ≤ 1 := ⟨ne_lo dc1066 i757.1 ⟨Int.le_refl _, Int.le_refl _⟩ (by decide), i757.2⟩
                      refine lv_aload_n hx hb dX10_next_205 rfl (lv_at hl 3 rfl) ?_
                      refine call_Vi (wr := []) (As := []) (rest := []) hx hb hml hown hw (m_X10_peek l D cI cJ cB cP cM cZ h0 h_tape G715 x_size u716 f_tape _ n770 n773 (ir_wk k690 (by decide) (by decide)) i759 (ir_wk k939 (by decide) (by decide))) wV_X10_169_X10_peek dX10_next_206 hK hP hD hS hA [0, 1] [] rfl rfl (by decide) (by decide) (by decide) 0 10 rfl rfl GG.fb hG.at hl.1 rfl (Nat.le_of_ble_eq_true rfl) ⟨(Nat.le_of_ble_eq_true rfl), (Nat.le_of_ble_eq_true rfl)⟩ ⟨(Nat.le_of_ble_eq_true rfl), (Nat.le_of_ble_eq_true rfl)⟩ (fun r1069 u H locs hp hP hD hS => ?_)
                      rcases hp with ⟨t1070, rfl, rfl⟩ | ⟨t1071, t1072, rfl, rfl⟩
                      · have hP : va_P D vwCl [(h0, .inr (10, vL 67 G715)), (h_tape, .inl (cB, 940, .inl f_tape))] H := hP
                        have hD : va_D A [(h0, .inr (10, vL 67 G715)), (h_tape, .inl (cB, 940, .inl f_tape))] := hD
                        refine W.widen (k := 0) (n := 0) (Nat.le_of_ble_eq_true rfl) (Nat.le_of_ble_eq_true rfl) ?_
                        have k1074 : 201 ≤ x_size.toInt ∧ x_size.toInt ≤ 939 := ⟨k690.1, Int.le_trans t1070 k939.2⟩
                        have k1075 : 201 ≤ u716.toInt ∧ u716.toInt ≤ 939 := ⟨Int.le_trans k690.1 t1070, k939.2⟩
                        refine call_Si (wr := [(h0, .inr (10, vL 67 G715)), (h_tape, .inl (cB, 940, .inl f_tape))]) (As := [.int (-1)]) (rest := []) hx hb hml hown hw (m_X10_isSmall l D cI cJ cB cP cM cZ (-1) _ ) wS_X10_182_X10_isSmall dX10_next_209 hP hD hS hA [] [0, 1] rfl rfl (by decide) (by decide) (by decide) GG.fb hG.at hl.1 rfl (Nat.le_of_ble_eq_true rfl) ⟨(Nat.le_of_ble_eq_true rfl), (Nat.le_of_ble_eq_true rfl)⟩ ⟨(Nat.le_of_ble_eq_true rfl), (Nat.le_of_ble_eq_true rfl)⟩ (fun r1076 u H locs hp hP hD hS => ?_)
                        have zlm1 : ((-1) : Int32).toInt = (-1) := by decide
                        rcases hp with ⟨t1077, rfl, rfl⟩ | ⟨t1078, t1079, rfl, rfl⟩ | ⟨t1080, t1081, rfl, rfl⟩
                        · have hP : va_P D vwCl [(h0, .inr (10, vL 67 G715)), (h_tape, .inl (cB, 940, .inl f_tape))] H := hP
                          have hD : va_D A [(h0, .inr (10, vL 67 G715)), (h_tape, .inl (cB, 940, .inl f_tape))] := hD
                          refine W.widen (k := 0) (n := 0) (Nat.le_of_ble_eq_true rfl) (Nat.le_of_ble_eq_true rfl) ?_
                          refine lv_iload_n hx hb dX10_next_212 rfl (lv_at hl 1 rfl) ?_
                          refine lv_icmp_ne (tgt := 220) hx hb dX10_next_213 (by decide) (fun c1083 => ?_) (fun c1083 => ?_)
                          · have dc1083 : 0 ≠ u709.toInt := ne_i (a := 0) (b := u709.toInt) rfl rfl c1083
                            have k1084 : 1 ≤ u709.toInt ∧ u709.toInt ≤ 1 := ⟨ne_lo dc1083.symm i711.1 ⟨Int.le_refl _, Int.le_refl _⟩ (by decide), i711.2⟩
                            refine lv_iconst (v := 0) hx hb dX10_next_220 (by decide) ?_
                            refine lv_istore_n (lv' := [(3, .int 0), (2, .int u709), (1, .int v706), (0, .ref h0)]) hx hb dX10_next_221 rfl hl (by decide) rfl (fun ls hl => ?_)
                            exact cut975 0 (show 0 ≤ (0 : Int32).toInt ∧ (0 : Int32).toInt ≤ 1 by decide) (by show (0 = 1 → u709.toInt = 0 → (48 ≤ v937.toInt ∧ v937.toInt ≤ 57 ∧ 0 ≤ u718.toInt ∧ u718.toInt ≤ 999 ∧ (u717.toInt = 0 → u718.toInt = 0) ∧ (u717.toInt = 1 → u718.toInt ≤ 9) ∧ (u717.toInt = 2 → u718.toInt ≤ 99))); omega) _ _ _ hP hD hS (lv_sub hl [0, 1, 2, 3] rfl)
                          · have dc1083 : 0 = u709.toInt := eq_i (a := 0) (b := u709.toInt) rfl rfl c1083
                            have k1085 : 0 ≤ u709.toInt ∧ u709.toInt ≤ 0 := ⟨i711.1, Int.le_trans (Int.le_of_eq dc1083.symm) (Int.le_refl _)⟩
                            refine lv_iconst (v := 1) hx hb dX10_next_216 (by decide) ?_
                            refine lv_goto (tgt := 221) hx hb dX10_next_217 (by decide) ?_
                            refine lv_istore_n (lv' := [(3, .int 1), (2, .int u709), (1, .int v706), (0, .ref h0)]) hx hb dX10_next_221 rfl hl (by decide) rfl (fun ls hl => ?_)
                            exact cut975 1 (show 0 ≤ (1 : Int32).toInt ∧ (1 : Int32).toInt ≤ 1 by decide) (by show (1 = 1 → u709.toInt = 0 → (48 ≤ v937.toInt ∧ v937.toInt ≤ 57 ∧ 0 ≤ u718.toInt ∧ u718.toInt ≤ 999 ∧ (u717.toInt = 0 → u718.toInt = 0) ∧ (u717.toInt = 1 → u718.toInt ≤ 9) ∧ (u717.toInt = 2 → u718.toInt ≤ 99))); omega) _ _ _ hP hD hS (lv_sub hl [0, 1, 2, 3] rfl)
                        · have hP : va_P D vwCl [(h0, .inr (10, vL 67 G715)), (h_tape, .inl (cB, 940, .inl f_tape))] H := hP
                          have hD : va_D A [(h0, .inr (10, vL 67 G715)), (h_tape, .inl (cB, 940, .inl f_tape))] := hD
                          refine W.widen (k := 0) (n := 0) (Nat.le_of_ble_eq_true rfl) (Nat.le_of_ble_eq_true rfl) ?_
                          exact absurd t1078 (by decide)
                        · have hP : va_P D vwCl [(h0, .inr (10, vL 67 G715)), (h_tape, .inl (cB, 940, .inl f_tape))] H := hP
                          have hD : va_D A [(h0, .inr (10, vL 67 G715)), (h_tape, .inl (cB, 940, .inl f_tape))] := hD
                          refine W.widen (k := 0) (n := 0) (Nat.le_of_ble_eq_true rfl) (Nat.le_of_ble_eq_true rfl) ?_
                          exact absurd t1080 (by decide)
                      · have hP : va_P D vwCl [(h0, .inr (10, vL 67 G715)), (h_tape, .inl (cB, 940, .inl f_tape))] H := hP
                        have hD : va_D A [(h0, .inr (10, vL 67 G715)), (h_tape, .inl (cB, 940, .inl f_tape))] := hD
                        refine W.widen (k := 0) (n := 0) (Nat.le_of_ble_eq_true rfl) (Nat.le_of_ble_eq_true rfl) ?_
                        refine lv_ci (y := v937) ev937.symm ?_
                        refine call_Si (wr := [(h0, .inr (10, vL 67 G715)), (h_tape, .inl (cB, 940, .inl f_tape))]) (As := [.int v937]) (rest := []) hx hb hml hown hw (m_X10_isSmall l D cI cJ cB cP cM cZ v937 _ ) wS_X10_182_X10_isSmall dX10_next_209 hP hD hS hA [] [0, 1] rfl rfl (by decide) (by decide) (by decide) GG.fb hG.at hl.1 rfl (Nat.le_of_ble_eq_true rfl) ⟨(Nat.le_of_ble_eq_true rfl), (Nat.le_of_ble_eq_true rfl)⟩ ⟨(Nat.le_of_ble_eq_true rfl), (Nat.le_of_ble_eq_true rfl)⟩ (fun r1086 u H locs hp hP hD hS => ?_)
                        rcases hp with ⟨t1087, rfl, rfl⟩ | ⟨t1088, t1089, rfl, rfl⟩ | ⟨t1090, t1091, rfl, rfl⟩
                        · have hP : va_P D vwCl [(h0, .inr (10, vL 67 G715)), (h_tape, .inl (cB, 940, .inl f_tape))] H := hP
                          have hD : va_D A [(h0, .inr (10, vL 67 G715)), (h_tape, .inl (cB, 940, .inl f_tape))] := hD
                          refine W.widen (k := 0) (n := 0) (Nat.le_of_ble_eq_true rfl) (Nat.le_of_ble_eq_true rfl) ?_
                          refine lv_iload_n hx hb dX10_next_212 rfl (lv_at hl 1 rfl) ?_
                          refine lv_icmp_ne (tgt := 220) hx hb dX10_next_213 (by decide) (fun c1093 => ?_) (fun c1093 => ?_)
                          · have dc1093 : 0 ≠ u709.toInt := ne_i (a := 0) (b := u709.toInt) rfl rfl c1093
                            have k1094 : 1 ≤ u709.toInt ∧ u709.toInt ≤ 1 := ⟨ne_lo dc1093.symm i711.1 ⟨Int.le_refl _, Int.le_refl _⟩ (by decide), i711.2⟩
                            refine lv_iconst (v := 0) hx hb dX10_next_220 (by decide) ?_
                            refine lv_istore_n (lv' := [(3, .int 0), (2, .int u709), (1, .int v706), (0, .ref h0)]) hx hb dX10_next_221 rfl hl (by decide) rfl (fun ls hl => ?_)
                            exact cut975 0 (show 0 ≤ (0 : Int32).toInt ∧ (0 : Int32).toInt ≤ 1 by decide) (by show (0 = 1 → u709.toInt = 0 → (48 ≤ v937.toInt ∧ v937.toInt ≤ 57 ∧ 0 ≤ u718.toInt ∧ u718.toInt ≤ 999 ∧ (u717.toInt = 0 → u718.toInt = 0) ∧ (u717.toInt = 1 → u718.toInt ≤ 9) ∧ (u717.toInt = 2 → u718.toInt ≤ 99))); omega) _ _ _ hP hD hS (lv_sub hl [0, 1, 2, 3] rfl)
                          · have dc1093 : 0 = u709.toInt := eq_i (a := 0) (b := u709.toInt) rfl rfl c1093
                            have k1095 : 0 ≤ u709.toInt ∧ u709.toInt ≤ 0 := ⟨i711.1, Int.le_trans (Int.le_of_eq dc1093.symm) (Int.le_refl _)⟩
                            refine lv_iconst (v := 1) hx hb dX10_next_216 (by decide) ?_
                            refine lv_goto (tgt := 221) hx hb dX10_next_217 (by decide) ?_
                            refine lv_istore_n (lv' := [(3, .int 1), (2, .int u709), (1, .int v706), (0, .ref h0)]) hx hb dX10_next_221 rfl hl (by decide) rfl (fun ls hl => ?_)
                            exact cut975 1 (show 0 ≤ (1 : Int32).toInt ∧ (1 : Int32).toInt ≤ 1 by decide) (by show (1 = 1 → u709.toInt = 0 → (48 ≤ v937.toInt ∧ v937.toInt ≤ 57 ∧ 0 ≤ u718.toInt ∧ u718.toInt ≤ 999 ∧ (u717.toInt = 0 → u718.toInt = 0) ∧ (u717.toInt = 1 → u718.toInt ≤ 9) ∧ (u717.toInt = 2 → u718.toInt ≤ 99))); omega) _ _ _ hP hD hS (lv_sub hl [0, 1, 2, 3] rfl)
                        · have hP : va_P D vwCl [(h0, .inr (10, vL 67 G715)), (h_tape, .inl (cB, 940, .inl f_tape))] H := hP
                          have hD : va_D A [(h0, .inr (10, vL 67 G715)), (h_tape, .inl (cB, 940, .inl f_tape))] := hD
                          refine W.widen (k := 0) (n := 0) (Nat.le_of_ble_eq_true rfl) (Nat.le_of_ble_eq_true rfl) ?_
                          exact False.elim (bad_le t1088 (Int.le_refl _) k973.2 (by decide))
                        · have hP : va_P D vwCl [(h0, .inr (10, vL 67 G715)), (h_tape, .inl (cB, 940, .inl f_tape))] H := hP
                          have hD : va_D A [(h0, .inr (10, vL 67 G715)), (h_tape, .inl (cB, 940, .inl f_tape))] := hD
                          refine W.widen (k := 0) (n := 0) (Nat.le_of_ble_eq_true rfl) (Nat.le_of_ble_eq_true rfl) ?_
                          exact False.elim (bad_le t1090 (Int.le_refl _) k973.2 (by decide))
              · have hP : va_P D vwCl [(h0, .inr (10, vL 67 G715)), (h_tape, .inl (cB, 940, .inl f_tape))] H := hP
                have hD : va_D A [(h0, .inr (10, vL 67 G715)), (h_tape, .inl (cB, 940, .inl f_tape))] := hD
                refine W.widen (k := 0) (n := 0) (Nat.le_of_ble_eq_true rfl) (Nat.le_of_ble_eq_true rfl) ?_
                have k1096 : 97 ≤ v937.toInt ∧ v937.toInt ≤ 255 := ⟨Int.le_trans (Int.le_refl _) t942, k938.2⟩
                have k1097 : 123 ≤ v937.toInt ∧ v937.toInt ≤ 255 := ⟨lo_lt t943 (Int.le_refl _) (by decide), k1096.2⟩
                refine lv_if_ne (tgt := 201) hx hb dX10_next_188 (by decide) (fun g => absurd (by decide) g) (fun _ => ?_)
                refine lv_aload_n hx hb dX10_next_191 rfl (lv_at hl 3 rfl) ?_
                refine call_Vi (wr := []) (As := []) (rest := []) hx hb hml hown hw (m_X10_peek l D cI cJ cB cP cM cZ h0 h_tape G715 x_size u716 f_tape _ n770 n773 (ir_wk k690 (by decide) (by decide)) i759 (ir_wk k939 (by decide) (by decide))) wV_X10_169_X10_peek dX10_next_192 hK hP hD hS hA [0, 1] [] rfl rfl (by decide) (by decide) (by decide) 0 10 rfl rfl GG.fb hG.at hl.1 rfl (Nat.le_of_ble_eq_true rfl) ⟨(Nat.le_of_ble_eq_true rfl), (Nat.le_of_ble_eq_true rfl)⟩ ⟨(Nat.le_of_ble_eq_true rfl), (Nat.le_of_ble_eq_true rfl)⟩ (fun r1098 u H locs hp hP hD hS => ?_)
                rcases hp with ⟨t1099, rfl, rfl⟩ | ⟨t1100, t1101, rfl, rfl⟩
                · have hP : va_P D vwCl [(h0, .inr (10, vL 67 G715)), (h_tape, .inl (cB, 940, .inl f_tape))] H := hP
                  have hD : va_D A [(h0, .inr (10, vL 67 G715)), (h_tape, .inl (cB, 940, .inl f_tape))] := hD
                  refine W.widen (k := 0) (n := 0) (Nat.le_of_ble_eq_true rfl) (Nat.le_of_ble_eq_true rfl) ?_
                  have k1103 : 201 ≤ x_size.toInt ∧ x_size.toInt ≤ 939 := ⟨k690.1, Int.le_trans t1099 k939.2⟩
                  have k1104 : 201 ≤ u716.toInt ∧ u716.toInt ≤ 939 := ⟨Int.le_trans k690.1 t1099, k939.2⟩
                  refine call_Si (wr := [(h0, .inr (10, vL 67 G715)), (h_tape, .inl (cB, 940, .inl f_tape))]) (As := [.int (-1)]) (rest := []) hx hb hml hown hw (m_X10_isDigit l D cI cJ cB cP cM cZ (-1) _ ) wS_X10_186_X10_isDigit dX10_next_195 hP hD hS hA [] [0, 1] rfl rfl (by decide) (by decide) (by decide) GG.fb hG.at hl.1 rfl (Nat.le_of_ble_eq_true rfl) ⟨(Nat.le_of_ble_eq_true rfl), (Nat.le_of_ble_eq_true rfl)⟩ ⟨(Nat.le_of_ble_eq_true rfl), (Nat.le_of_ble_eq_true rfl)⟩ (fun r1105 u H locs hp hP hD hS => ?_)
                  have zlm1 : ((-1) : Int32).toInt = (-1) := by decide
                  rcases hp with ⟨t1106, rfl, rfl⟩ | ⟨t1107, t1108, rfl, rfl⟩ | ⟨t1109, t1110, rfl, rfl⟩
                  · have hP : va_P D vwCl [(h0, .inr (10, vL 67 G715)), (h_tape, .inl (cB, 940, .inl f_tape))] H := hP
                    have hD : va_D A [(h0, .inr (10, vL 67 G715)), (h_tape, .inl (cB, 940, .inl f_tape))] := hD
                    refine W.widen (k := 0) (n := 0) (Nat.le_of_ble_eq_true rfl) (Nat.le_of_ble_eq_true rfl) ?_
                    refine lv_if_eq (tgt := 298) hx hb dX10_next_198 (by decide) (fun _ => ?_) (fun g => absurd (by decide) g)
                    have hgv706 : v706.toInt = (((f_tape u2.toNatClampNeg) &&& 255)).toInt := by rw [ev706]
                    have hgv937 : v937.toInt = (((f_tape u716.toNatClampNeg) &&& 255)).toInt := by rw [ev937]
                    have hfst : u716.toInt = u2.toInt → (f_tape u716.toNatClampNeg &&& 255).toInt = (f_tape u2.toNatClampNeg &&& 255).toInt := fun h9 => by rw [Int32.toInt_inj.mp h9]
                    exact cut720 u714 G715 u716 u717 u718 u719 i757 (SAME.tr SAME.rf i758 (by decide)) i759 i760 i761 i762 (ir_wk k1104 (by decide) (by decide)) i764 (by show 0 ≤ u717.toInt ∧ u717.toInt ≤ u716.toInt ∧ x_p.toInt + u717.toInt ≤ u716.toInt ∧ (u717.toInt = 0 → u716.toInt = u2.toInt); omega) (by show u714.toInt = 1 → u709.toInt = 0 → (0 ≤ u718.toInt ∧ u718.toInt ≤ 999 ∧ (u717.toInt = 0 → u718.toInt = 0) ∧ (u717.toInt = 1 → u718.toInt ≤ 9) ∧ (u717.toInt = 2 → u718.toInt ≤ 99)); omega) (by show (x_token.toInt = 2 → 0 ≤ u718.toInt ∧ u718.toInt ≤ 999); omega) (by show 1 ≤ u717.toInt; omega) _ _ _ hP hD hS (lv_sub hl [0, 1, 2, 3] rfl)
                  · have hP : va_P D vwCl [(h0, .inr (10, vL 67 G715)), (h_tape, .inl (cB, 940, .inl f_tape))] H := hP
                    have hD : va_D A [(h0, .inr (10, vL 67 G715)), (h_tape, .inl (cB, 940, .inl f_tape))] := hD
                    refine W.widen (k := 0) (n := 0) (Nat.le_of_ble_eq_true rfl) (Nat.le_of_ble_eq_true rfl) ?_
                    exact absurd t1107 (by decide)
                  · have hP : va_P D vwCl [(h0, .inr (10, vL 67 G715)), (h_tape, .inl (cB, 940, .inl f_tape))] H := hP
                    have hD : va_D A [(h0, .inr (10, vL 67 G715)), (h_tape, .inl (cB, 940, .inl f_tape))] := hD
                    refine W.widen (k := 0) (n := 0) (Nat.le_of_ble_eq_true rfl) (Nat.le_of_ble_eq_true rfl) ?_
                    exact absurd t1109 (by decide)
                · have hP : va_P D vwCl [(h0, .inr (10, vL 67 G715)), (h_tape, .inl (cB, 940, .inl f_tape))] H := hP
                  have hD : va_D A [(h0, .inr (10, vL 67 G715)), (h_tape, .inl (cB, 940, .inl f_tape))] := hD
                  refine W.widen (k := 0) (n := 0) (Nat.le_of_ble_eq_true rfl) (Nat.le_of_ble_eq_true rfl) ?_
                  refine lv_ci (y := v937) ev937.symm ?_
                  refine call_Si (wr := [(h0, .inr (10, vL 67 G715)), (h_tape, .inl (cB, 940, .inl f_tape))]) (As := [.int v937]) (rest := []) hx hb hml hown hw (m_X10_isDigit l D cI cJ cB cP cM cZ v937 _ ) wS_X10_186_X10_isDigit dX10_next_195 hP hD hS hA [] [0, 1] rfl rfl (by decide) (by decide) (by decide) GG.fb hG.at hl.1 rfl (Nat.le_of_ble_eq_true rfl) ⟨(Nat.le_of_ble_eq_true rfl), (Nat.le_of_ble_eq_true rfl)⟩ ⟨(Nat.le_of_ble_eq_true rfl), (Nat.le_of_ble_eq_true rfl)⟩ (fun r1112 u H locs hp hP hD hS => ?_)
                  rcases hp with ⟨t1113, rfl, rfl⟩ | ⟨t1114, t1115, rfl, rfl⟩ | ⟨t1116, t1117, rfl, rfl⟩
                  · have hP : va_P D vwCl [(h0, .inr (10, vL 67 G715)), (h_tape, .inl (cB, 940, .inl f_tape))] H := hP
                    have hD : va_D A [(h0, .inr (10, vL 67 G715)), (h_tape, .inl (cB, 940, .inl f_tape))] := hD
                    refine W.widen (k := 0) (n := 0) (Nat.le_of_ble_eq_true rfl) (Nat.le_of_ble_eq_true rfl) ?_
                    exact False.elim (bad_lt t1113 k1097.1 (Int.le_refl _) (by decide))
                  · have hP : va_P D vwCl [(h0, .inr (10, vL 67 G715)), (h_tape, .inl (cB, 940, .inl f_tape))] H := hP
                    have hD : va_D A [(h0, .inr (10, vL 67 G715)), (h_tape, .inl (cB, 940, .inl f_tape))] := hD
                    refine W.widen (k := 0) (n := 0) (Nat.le_of_ble_eq_true rfl) (Nat.le_of_ble_eq_true rfl) ?_
                    refine lv_if_eq (tgt := 298) hx hb dX10_next_198 (by decide) (fun _ => ?_) (fun g => absurd (by decide) g)
                    have hgv706 : v706.toInt = (((f_tape u2.toNatClampNeg) &&& 255)).toInt := by rw [ev706]
                    have hgv937 : v937.toInt = (((f_tape u716.toNatClampNeg) &&& 255)).toInt := by rw [ev937]
                    have hfst : u716.toInt = u2.toInt → (f_tape u716.toNatClampNeg &&& 255).toInt = (f_tape u2.toNatClampNeg &&& 255).toInt := fun h9 => by rw [Int32.toInt_inj.mp h9]
                    exact cut720 u714 G715 u716 u717 u718 u719 i757 (SAME.tr SAME.rf i758 (by decide)) i759 i760 i761 i762 (ir_wk k939 (by decide) (by decide)) i764 (by show 0 ≤ u717.toInt ∧ u717.toInt ≤ u716.toInt ∧ x_p.toInt + u717.toInt ≤ u716.toInt ∧ (u717.toInt = 0 → u716.toInt = u2.toInt); omega) (by show u714.toInt = 1 → u709.toInt = 0 → (0 ≤ u718.toInt ∧ u718.toInt ≤ 999 ∧ (u717.toInt = 0 → u718.toInt = 0) ∧ (u717.toInt = 1 → u718.toInt ≤ 9) ∧ (u717.toInt = 2 → u718.toInt ≤ 99)); omega) (by show (x_token.toInt = 2 → 0 ≤ u718.toInt ∧ u718.toInt ≤ 999); omega) (by show 1 ≤ u717.toInt; omega) _ _ _ hP hD hS (lv_sub hl [0, 1, 2, 3] rfl)
                  · have hP : va_P D vwCl [(h0, .inr (10, vL 67 G715)), (h_tape, .inl (cB, 940, .inl f_tape))] H := hP
                    have hD : va_D A [(h0, .inr (10, vL 67 G715)), (h_tape, .inl (cB, 940, .inl f_tape))] := hD
                    refine W.widen (k := 0) (n := 0) (Nat.le_of_ble_eq_true rfl) (Nat.le_of_ble_eq_true rfl) ?_
                    exact False.elim (bad_le t1117 k1097.1 (Int.le_refl _) (by decide))
              · have hP : va_P D vwCl [(h0, .inr (10, vL 67 G715)), (h_tape, .inl (cB, 940, .inl f_tape))] H := hP
                have hD : va_D A [(h0, .inr (10, vL 67 G715)), (h_tape, .inl (cB, 940, .inl f_tape))] := hD
                refine W.widen (k := 0) (n := 0) (Nat.le_of_ble_eq_true rfl) (Nat.le_of_ble_eq_true rfl) ?_
                have k1119 : 97 ≤ v937.toInt ∧ v937.toInt ≤ 255 := ⟨Int.le_trans (Int.le_refl _) t944, k938.2⟩
                have k1120 : 97 ≤ v937.toInt ∧ v937.toInt ≤ 122 := ⟨k1119.1, Int.le_trans t945 (Int.le_refl _)⟩
                refine lv_if_ne (tgt := 201) hx hb dX10_next_188 (by decide) (fun _ => ?_) (fun g => absurd g (by decide))
                have cut1122 : ∀ (u1121 : Int32) (_ : IR 0 1 u1121) (_ : ((u1121.toInt = 1 → u709.toInt = 0 → (48 ≤ v937.toInt ∧ v937.toInt ≤ 57 ∧ 0 ≤ u718.toInt ∧ u718.toInt ≤ 999 ∧ (u717.toInt = 0 → u718.toInt = 0) ∧ (u717.toInt = 1 → u718.toInt ≤ 9) ∧ (u717.toInt = 2 → u718.toInt ≤ 99))))) (H : Heap) (locs : List Loc) (ls : Array Slot), va_P D vwCl [(h0, .inr (10, vL 67 G715)), (h_tape, .inl (cB, 940, .inl f_tape))] H → va_D A [(h0, .inr (10, vL 67 G715)), (h_tape, .inl (cB, 940, .inl f_tape))] → va_S A s.heap H locs → lv_has ls 4 [(3, .int u1121), (2, .int u709), (1, .int v706), (0, .ref h0)] → W p l e ({ frames := 1, cells := 0, slots := 0, locals := 20 } : Room) s m [.ref h0].toArray below meth c H locs 0 0 (MQ below (va_Qv (fun (u : va_W) => ∃ (Gh : Nat → Value) (y_p : Int32) (y_token : Int32) (y_at : Int32) (y_span : Int32) (y_number : Int32) (y_word : Int64), SAME [4, 11, 12, 13, 14, 18] Fh Gh ∧ Gh 4 = .int y_p ∧ IR 0 940 y_p ∧ Gh 11 = .int y_token ∧ IR 0 4 y_token ∧ Gh 12 = .int y_at ∧ IR 0 940 y_at ∧ Gh 13 = .int y_span ∧ IR 0 940 y_span ∧ Gh 14 = .int y_number ∧ Gh 18 = .long y_word ∧ (x_p.toInt ≤ y_p.toInt) ∧ ((1 ≤ y_token.toInt → y_token.toInt ≤ 3 → x_p.toInt < y_p.toInt)) ∧ ((y_token.toInt = 2 → 0 ≤ y_number.toInt ∧ y_number.toInt ≤ 999)) ∧ u = [(h0, .inr (10, vL 67 Gh)), (h_tape, .inl (cB, 940, .inl f_tape))]) (PO D A) A) [.ref h0].toArray s 0 0 A) (F0 m 222 ls []) := by
                  intro u1121 i1123 i1124 H locs ls hP hD hS hl
                  have i1123 : 0 ≤ u1121.toInt ∧ u1121.toInt ≤ 1 := i1123
                  have i1124 : (u1121.toInt = 1 → u709.toInt = 0 → (48 ≤ v937.toInt ∧ v937.toInt ≤ 57 ∧ 0 ≤ u718.toInt ∧ u718.toInt ≤ 999 ∧ (u717.toInt = 0 → u718.toInt = 0) ∧ (u717.toInt = 1 → u718.toInt ≤ 9) ∧ (u717.toInt = 2 → u718.toInt ≤ 99))) := i1124
                  have cut1127 : ∀ (G1125 : Nat → Value) (u1126 : Int64) (_ : SAME [18] G715 G1125) (_ : G1125 18 = .long u1126) (H : Heap) (locs : List Loc) (ls : Array Slot), va_P D vwCl [(h0, .inr (10, vL 67 G1125)), (h_tape, .inl (cB, 940, .inl f_tape))] H → va_D A [(h0, .inr (10, vL 67 G1125)), (h_tape, .inl (cB, 940, .inl f_tape))] → va_S A s.heap H locs → lv_has ls 4 [(3, .int u1121), (2, .int u709), (1, .int v706), (0, .ref h0)] → W p l e ({ frames := 1, cells := 0, slots := 0, locals := 20 } : Room) s m [.ref h0].toArray below meth c H locs 0 0 (MQ below (va_Qv (fun (u : va_W) => ∃ (Gh : Nat → Value) (y_p : Int32) (y_token : Int32) (y_at : Int32) (y_span : Int32) (y_number : Int32) (y_word : Int64), SAME [4, 11, 12, 13, 14, 18] Fh Gh ∧ Gh 4 = .int y_p ∧ IR 0 940 y_p ∧ Gh 11 = .int y_token ∧ IR 0 4 y_token ∧ Gh 12 = .int y_at ∧ IR 0 940 y_at ∧ Gh 13 = .int y_span ∧ IR 0 940 y_span ∧ Gh 14 = .int y_number ∧ Gh 18 = .long y_word ∧ (x_p.toInt ≤ y_p.toInt) ∧ ((1 ≤ y_token.toInt → y_token.toInt ≤ 3 → x_p.toInt < y_p.toInt)) ∧ ((y_token.toInt = 2 → 0 ≤ y_number.toInt ∧ y_number.toInt ≤ 999)) ∧ u = [(h0, .inr (10, vL 67 Gh)), (h_tape, .inl (cB, 940, .inl f_tape))]) (PO D A) A) [.ref h0].toArray s 0 0 A) (F0 m 248 ls []) := by
                    intro G1125 u1126 i1128 i1129 H locs ls hP hD hS hl
                    refine lv_aload_n hx hb dX10_next_248 rfl (lv_at hl 3 rfl) ?_
                    have n1130 : G1125 13 = .int u717 := (SAME.at i1128 (by decide) i760)
                    refine get_f (D := D) (ci := 10) (v := .int u717) (C := RX10) (T := TX10) (N := 67) hx hb hw inAX10 hown hK hP 0 rfl rfl 13 (by decide) (hw _ q_1274) (fun _ h9 => h9) n1130 dX10_next_249 ?_
                    refine lv_iconst (v := 3) hx hb dX10_next_252 (by decide) ?_
                    refine lv_icmp_ge (tgt := 275) hx hb dX10_next_253 (by decide) (fun c1131 => ?_) (fun c1131 => ?_)
                    · have dc1131 : 3 ≤ u717.toInt := le_i (a := 3) (b := u717.toInt) rfl rfl c1131
                      have k1132 : 3 ≤ u717.toInt ∧ u717.toInt ≤ 940 := ⟨Int.le_trans (Int.le_refl _) dc1131, i764.2⟩
                      refine lv_aload_n hx hb dX10_next_275 rfl (lv_at hl 3 rfl) ?_
                      refine lv_dup hx hb dX10_next_276 rfl ?_
                      refine get_f (D := D) (ci := 10) (v := .int u717) (C := RX10) (T := TX10) (N := 67) hx hb hw inAX10 hown hK hP 0 rfl rfl 13 (by decide) (hw _ q_1274) (fun _ h9 => h9) n1130 dX10_next_277 ?_
                      refine lv_iconst (v := 1) hx hb dX10_next_280 (by decide) ?_
                      refine lv_iadd hx hb dX10_next_281 ?_
                      refine lv_topi (fun v1133 ev1133 => ?_)
                      have bv1133 : v1133.toInt = u717.toInt + 1 := by rw [ev1133]; exact add_k rfl rfl k1132 ⟨Int.le_refl _, Int.le_refl _⟩ (by decide)
                      have k1134 : 4 ≤ v1133.toInt ∧ v1133.toInt ≤ 941 := add_r bv1133 k1132 ⟨Int.le_refl _, Int.le_refl _⟩ (by decide)
                      refine put_f (D := D) (ci := 10) (v := .int v1133) (ty := .int) (C := RX10) (T := TX10) (N := 67) hx hb hw inAX10 tyX10 tyX10_ok nmX10 hown hK hP hD hS 0 rfl rfl 13 (by decide) (hw _ q_1274) (fun _ h9 => h9) rfl (by decide +kernel) rfl rfl dX10_next_282 (fun H locs F1135 eF1135 hP hD hS => ?_)
                      have hP : va_P D vwCl [(h0, .inr (10, vL 67 F1135)), (h_tape, .inl (cB, 940, .inl f_tape))] H := hP
                      have hD : va_D A [(h0, .inr (10, vL 67 F1135)), (h_tape, .inl (cB, 940, .inl f_tape))] := hD
                      refine lv_aload_n hx hb dX10_next_285 rfl (lv_at hl 3 rfl) ?_
                      refine lv_dup hx hb dX10_next_286 rfl ?_
                      have n1136 : G1125 4 = .int u716 := (SAME.at i1128 (by decide) i759)
                      have n1137 : F1135 4 = .int u716 := (get_ne eF1135 (by decide) n1136)
                      refine get_f (D := D) (ci := 10) (v := .int u716) (C := RX10) (T := TX10) (N := 67) hx hb hw inAX10 hown hK hP 0 rfl rfl 4 (by decide) (hw _ q_1265) (fun _ h9 => h9) n1137 dX10_next_287 ?_
                      refine lv_iconst (v := 1) hx hb dX10_next_290 (by decide) ?_
                      refine lv_iadd hx hb dX10_next_291 ?_
                      refine lv_topi (fun v1138 ev1138 => ?_)
                      have bv1138 : v1138.toInt = u716.toInt + 1 := by rw [ev1138]; exact add_k rfl rfl k939 ⟨Int.le_refl _, Int.le_refl _⟩ (by decide)
                      have k1139 : 1 ≤ v1138.toInt ∧ v1138.toInt ≤ 940 := add_r bv1138 k939 ⟨Int.le_refl _, Int.le_refl _⟩ (by decide)
                      refine put_f (D := D) (ci := 10) (v := .int v1138) (ty := .int) (C := RX10) (T := TX10) (N := 67) hx hb hw inAX10 tyX10 tyX10_ok nmX10 hown hK hP hD hS 0 rfl rfl 4 (by decide) (hw _ q_1265) (fun _ h9 => h9) rfl (by decide +kernel) rfl rfl dX10_next_292 (fun H locs F1140 eF1140 hP hD hS => ?_)
                      have hP : va_P D vwCl [(h0, .inr (10, vL 67 F1140)), (h_tape, .inl (cB, 940, .inl f_tape))] H := hP
                      have hD : va_D A [(h0, .inr (10, vL 67 F1140)), (h_tape, .inl (cB, 940, .inl f_tape))] := hD
                      refine lv_goto (tgt := 181) hx hb dX10_next_295 (by decide) ?_
                      have n1141 : F1140 13 = .int v1133 := (get_ne eF1140 (by decide) (get_eq eF1135))
                      have n1142 : G1125 14 = .int u718 := (SAME.at i1128 (by decide) i761)
                      have n1143 : F1135 14 = .int u718 := (get_ne eF1135 (by decide) n1142)
                      have n1144 : F1140 14 = .int u718 := (get_ne eF1140 (by decide) n1143)
                      have n1145 : F1135 18 = .long u1126 := (get_ne eF1135 (by decide) i1129)
                      have n1146 : F1140 18 = .long u1126 := (get_ne eF1140 (by decide) n1145)
                      exact ih (u1121, F1140, v1138, v1133, u718, u1126) ⟨i1123, (SAME.up eF1140 (SAME.up eF1135 (SAME.tr (SAME.tr SAME.rf i758 (by decide)) i1128 (by decide)) (by decide)) (by decide)), (get_eq eF1140), n1141, n1144, n1146, (ir_wk k1139 (by decide) (by decide)), ⟨by omega, by omega⟩, (by show 0 ≤ v1133.toInt ∧ v1133.toInt ≤ v1138.toInt ∧ x_p.toInt + v1133.toInt ≤ v1138.toInt ∧ (v1133.toInt = 0 → v1138.toInt = u2.toInt); omega), (by show u1121.toInt = 1 → u709.toInt = 0 → (0 ≤ u718.toInt ∧ u718.toInt ≤ 999 ∧ (v1133.toInt = 0 → u718.toInt = 0) ∧ (v1133.toInt = 1 → u718.toInt ≤ 9) ∧ (v1133.toInt = 2 → u718.toInt ≤ 99)); omega), (by show (x_token.toInt = 2 → 0 ≤ u718.toInt ∧ u718.toInt ≤ 999); omega)⟩ (by show (x_size.toInt - v1138.toInt).toNat < (x_size.toInt - u716.toInt).toNat; omega) _ _ _ hP hD hS (lv_sub hl [0, 1, 2, 3] rfl)
                    · have dc1131 : u717.toInt < 3 := nle_i (a := 3) (b := u717.toInt) rfl rfl c1131
                      have k1147 : 0 ≤ u717.toInt ∧ u717.toInt ≤ 2 := ⟨i764.1, up_lt dc1131 (Int.le_refl _) (by decide)⟩
                      refine lv_aload_n hx hb dX10_next_256 rfl (lv_at hl 3 rfl) ?_
                      refine lv_bipush (v := 10) hx hb dX10_next_257 (by decide) ?_
                      refine lv_aload_n hx hb dX10_next_259 rfl (lv_at hl 3 rfl) ?_
                      have n1148 : G1125 14 = .int u718 := (SAME.at i1128 (by decide) i761)
                      refine get_f (D := D) (ci := 10) (v := .int u718) (C := RX10) (T := TX10) (N := 67) hx hb hw inAX10 hown hK hP 0 rfl rfl 14 (by decide) (hw _ q_1275) (fun _ h9 => h9) n1148 dX10_next_260 ?_
                      refine lv_imul hx hb dX10_next_263 ?_
                      refine lv_topi (fun v1149 ev1149 => ?_)
                      refine lv_aload_n hx hb dX10_next_264 rfl (lv_at hl 3 rfl) ?_
                      have n1150 : G1125 1 = .ref h_tape := (SAME.at i1128 (by decide) n770)
                      have n1151 : G1125 3 = .int x_size := (SAME.at i1128 (by decide) n773)
                      have n1152 : G1125 4 = .int u716 := (SAME.at i1128 (by decide) i759)
                      refine call_Vi (wr := []) (As := []) (rest := [.int v1149, .ref h0]) hx hb hml hown hw (m_X10_peek l D cI cJ cB cP cM cZ h0 h_tape G1125 x_size u716 f_tape _ n1150 n1151 (ir_wk k690 (by decide) (by decide)) n1152 (ir_wk k939 (by decide) (by decide))) wV_X10_169_X10_peek dX10_next_265 hK hP hD hS hA [0, 1] [] rfl rfl (by decide) (by decide) (by decide) 0 10 rfl rfl GG.fb hG.at hl.1 rfl (Nat.le_of_ble_eq_true rfl) ⟨(Nat.le_of_ble_eq_true rfl), (Nat.le_of_ble_eq_true rfl)⟩ ⟨(Nat.le_of_ble_eq_true rfl), (Nat.le_of_ble_eq_true rfl)⟩ (fun r1153 u H locs hp hP hD hS => ?_)
                      rcases hp with ⟨t1154, rfl, rfl⟩ | ⟨t1155, t1156, rfl, rfl⟩
                      · have hP : va_P D vwCl [(h0, .inr (10, vL 67 G1125)), (h_tape, .inl (cB, 940, .inl f_tape))] H := hP
                        have hD : va_D A [(h0, .inr (10, vL 67 G1125)), (h_tape, .inl (cB, 940, .inl f_tape))] := hD
                        refine W.widen (k := 0) (n := 0) (Nat.le_of_ble_eq_true rfl) (Nat.le_of_ble_eq_true rfl) ?_
                        have k1158 : 201 ≤ x_size.toInt ∧ x_size.toInt ≤ 939 := ⟨k690.1, Int.le_trans t1154 k939.2⟩
                        have k1159 : 201 ≤ u716.toInt ∧ u716.toInt ≤ 939 := ⟨Int.le_trans k690.1 t1154, k939.2⟩
                        refine lv_iadd hx hb dX10_next_268 ?_
                        refine lv_topi (fun v1160 ev1160 => ?_)
                        refine lv_bipush (v := 48) hx hb dX10_next_269 (by decide) ?_
                        refine lv_isub hx hb dX10_next_271 ?_
                        refine lv_topi (fun v1161 ev1161 => ?_)
                        refine put_f (D := D) (ci := 10) (v := .int v1161) (ty := .int) (C := RX10) (T := TX10) (N := 67) hx hb hw inAX10 tyX10 tyX10_ok nmX10 hown hK hP hD hS 0 rfl rfl 14 (by decide) (hw _ q_1275) (fun _ h9 => h9) rfl (by decide +kernel) rfl rfl dX10_next_272 (fun H locs F1162 eF1162 hP hD hS => ?_)
                        have hP : va_P D vwCl [(h0, .inr (10, vL 67 F1162)), (h_tape, .inl (cB, 940, .inl f_tape))] H := hP
                        have hD : va_D A [(h0, .inr (10, vL 67 F1162)), (h_tape, .inl (cB, 940, .inl f_tape))] := hD
                        refine lv_aload_n hx hb dX10_next_275 rfl (lv_at hl 3 rfl) ?_
                        refine lv_dup hx hb dX10_next_276 rfl ?_
                        have n1163 : F1162 13 = .int u717 := (get_ne eF1162 (by decide) n1130)
                        refine get_f (D := D) (ci := 10) (v := .int u717) (C := RX10) (T := TX10) (N := 67) hx hb hw inAX10 hown hK hP 0 rfl rfl 13 (by decide) (hw _ q_1274) (fun _ h9 => h9) n1163 dX10_next_277 ?_
                        refine lv_iconst (v := 1) hx hb dX10_next_280 (by decide) ?_
                        refine lv_iadd hx hb dX10_next_281 ?_
                        refine lv_topi (fun v1164 ev1164 => ?_)
                        have bv1164 : v1164.toInt = u717.toInt + 1 := by rw [ev1164]; exact add_k rfl rfl k1147 ⟨Int.le_refl _, Int.le_refl _⟩ (by decide)
                        have k1165 : 1 ≤ v1164.toInt ∧ v1164.toInt ≤ 3 := add_r bv1164 k1147 ⟨Int.le_refl _, Int.le_refl _⟩ (by decide)
                        refine put_f (D := D) (ci := 10) (v := .int v1164) (ty := .int) (C := RX10) (T := TX10) (N := 67) hx hb hw inAX10 tyX10 tyX10_ok nmX10 hown hK hP hD hS 0 rfl rfl 13 (by decide) (hw _ q_1274) (fun _ h9 => h9) rfl (by decide +kernel) rfl rfl dX10_next_282 (fun H locs F1166 eF1166 hP hD hS => ?_)
                        have hP : va_P D vwCl [(h0, .inr (10, vL 67 F1166)), (h_tape, .inl (cB, 940, .inl f_tape))] H := hP
                        have hD : va_D A [(h0, .inr (10, vL 67 F1166)), (h_tape, .inl (cB, 940, .inl f_tape))] := hD
                        refine lv_aload_n hx hb dX10_next_285 rfl (lv_at hl 3 rfl) ?_
                        refine lv_dup hx hb dX10_next_286 rfl ?_
                        have n1167 : F1162 4 = .int u716 := (get_ne eF1162 (by decide) n1152)
                        have n1168 : F1166 4 = .int u716 := (get_ne eF1166 (by decide) n1167)
                        refine get_f (D := D) (ci := 10) (v := .int u716) (C := RX10) (T := TX10) (N := 67) hx hb hw inAX10 hown hK hP 0 rfl rfl 4 (by decide) (hw _ q_1265) (fun _ h9 => h9) n1168 dX10_next_287 ?_
                        refine lv_iconst (v := 1) hx hb dX10_next_290 (by decide) ?_
                        refine lv_iadd hx hb dX10_next_291 ?_
                        refine lv_topi (fun v1169 ev1169 => ?_)
                        have bv1169 : v1169.toInt = u716.toInt + 1 := by rw [ev1169]; exact add_k rfl rfl k1159 ⟨Int.le_refl _, Int.le_refl _⟩ (by decide)
                        have k1170 : 202 ≤ v1169.toInt ∧ v1169.toInt ≤ 940 := add_r bv1169 k1159 ⟨Int.le_refl _, Int.le_refl _⟩ (by decide)
                        refine put_f (D := D) (ci := 10) (v := .int v1169) (ty := .int) (C := RX10) (T := TX10) (N := 67) hx hb hw inAX10 tyX10 tyX10_ok nmX10 hown hK hP hD hS 0 rfl rfl 4 (by decide) (hw _ q_1265) (fun _ h9 => h9) rfl (by decide +kernel) rfl rfl dX10_next_292 (fun H locs F1171 eF1171 hP hD hS => ?_)
                        have hP : va_P D vwCl [(h0, .inr (10, vL 67 F1171)), (h_tape, .inl (cB, 940, .inl f_tape))] H := hP
                        have hD : va_D A [(h0, .inr (10, vL 67 F1171)), (h_tape, .inl (cB, 940, .inl f_tape))] := hD
                        refine lv_goto (tgt := 181) hx hb dX10_next_295 (by decide) ?_
                        have n1172 : F1171 13 = .int v1164 := (get_ne eF1171 (by decide) (get_eq eF1166))
                        have n1173 : F1166 14 = .int v1161 := (get_ne eF1166 (by decide) (get_eq eF1162))
                        have n1174 : F1171 14 = .int v1161 := (get_ne eF1171 (by decide) n1173)
                        have n1175 : F1162 18 = .long u1126 := (get_ne eF1162 (by decide) i1129)
                        have n1176 : F1166 18 = .long u1126 := (get_ne eF1166 (by decide) n1175)
                        have n1177 : F1171 18 = .long u1126 := (get_ne eF1171 (by decide) n1176)
                        exact ih (u1121, F1171, v1169, v1164, v1161, u1126) ⟨i1123, (SAME.up eF1171 (SAME.up eF1166 (SAME.up eF1162 (SAME.tr (SAME.tr SAME.rf i758 (by decide)) i1128 (by decide)) (by decide)) (by decide)) (by decide)), (get_eq eF1171), n1172, n1174, n1177, (ir_wk k1170 (by decide) (by decide)), (ir_wk k1165 (by decide) (by decide)), (by show 0 ≤ v1164.toInt ∧ v1164.toInt ≤ v1169.toInt ∧ x_p.toInt + v1164.toInt ≤ v1169.toInt ∧ (v1164.toInt = 0 → v1169.toInt = u2.toInt); omega), (by show u1121.toInt = 1 → u709.toInt = 0 → (0 ≤ v1161.toInt ∧ v1161.toInt ≤ 999 ∧ (v1164.toInt = 0 → v1161.toInt = 0) ∧ (v1164.toInt = 1 → v1161.toInt ≤ 9) ∧ (v1164.toInt = 2 → v1161.toInt ≤ 99)); omega), (by show (x_token.toInt = 2 → 0 ≤ v1161.toInt ∧ v1161.toInt ≤ 999); omega)⟩ (by show (x_size.toInt - v1169.toInt).toNat < (x_size.toInt - u716.toInt).toNat; omega) _ _ _ hP hD hS (lv_sub hl [0, 1, 2, 3] rfl)
                      · have hP : va_P D vwCl [(h0, .inr (10, vL 67 G1125)), (h_tape, .inl (cB, 940, .inl f_tape))] H := hP
                        have hD : va_D A [(h0, .inr (10, vL 67 G1125)), (h_tape, .inl (cB, 940, .inl f_tape))] := hD
                        refine W.widen (k := 0) (n := 0) (Nat.le_of_ble_eq_true rfl) (Nat.le_of_ble_eq_true rfl) ?_
                        refine lv_ci (y := v937) ev937.symm ?_
                        refine lv_iadd hx hb dX10_next_268 ?_
                        refine lv_topi (fun v1178 ev1178 => ?_)
                        refine lv_bipush (v := 48) hx hb dX10_next_269 (by decide) ?_
                        refine lv_isub hx hb dX10_next_271 ?_
                        refine lv_topi (fun v1179 ev1179 => ?_)
                        refine put_f (D := D) (ci := 10) (v := .int v1179) (ty := .int) (C := RX10) (T := TX10) (N := 67) hx hb hw inAX10 tyX10 tyX10_ok nmX10 hown hK hP hD hS 0 rfl rfl 14 (by decide) (hw _ q_1275) (fun _ h9 => h9) rfl (by decide +kernel) rfl rfl dX10_next_272 (fun H locs F1180 eF1180 hP hD hS => ?_)
                        have hP : va_P D vwCl [(h0, .inr (10, vL 67 F1180)), (h_tape, .inl (cB, 940, .inl f_tape))] H := hP
                        have hD : va_D A [(h0, .inr (10, vL 67 F1180)), (h_tape, .inl (cB, 940, .inl f_tape))] := hD
                        refine lv_aload_n hx hb dX10_next_275 rfl (lv_at hl 3 rfl) ?_
                        refine lv_dup hx hb dX10_next_276 rfl ?_
                        have n1181 : F1180 13 = .int u717 := (get_ne eF1180 (by decide) n1130)
                        refine get_f (D := D) (ci := 10) (v := .int u717) (C := RX10) (T := TX10) (N := 67) hx hb hw inAX10 hown hK hP 0 rfl rfl 13 (by decide) (hw _ q_1274) (fun _ h9 => h9) n1181 dX10_next_277 ?_
                        refine lv_iconst (v := 1) hx hb dX10_next_280 (by decide) ?_
                        refine lv_iadd hx hb dX10_next_281 ?_
                        refine lv_topi (fun v1182 ev1182 => ?_)
                        have bv1182 : v1182.toInt = u717.toInt + 1 := by rw [ev1182]; exact add_k rfl rfl k1147 ⟨Int.le_refl _, Int.le_refl _⟩ (by decide)
                        have k1183 : 1 ≤ v1182.toInt ∧ v1182.toInt ≤ 3 := add_r bv1182 k1147 ⟨Int.le_refl _, Int.le_refl _⟩ (by decide)
                        refine put_f (D := D) (ci := 10) (v := .int v1182) (ty := .int) (C := RX10) (T := TX10) (N := 67) hx hb hw inAX10 tyX10 tyX10_ok nmX10 hown hK hP hD hS 0 rfl rfl 13 (by decide) (hw _ q_1274) (fun _ h9 => h9) rfl (by decide +kernel) rfl rfl dX10_next_282 (fun H locs F1184 eF1184 hP hD hS => ?_)
                        have hP : va_P D vwCl [(h0, .inr (10, vL 67 F1184)), (h_tape, .inl (cB, 940, .inl f_tape))] H := hP
                        have hD : va_D A [(h0, .inr (10, vL 67 F1184)), (h_tape, .inl (cB, 940, .inl f_tape))] := hD
                        refine lv_aload_n hx hb dX10_next_285 rfl (lv_at hl 3 rfl) ?_
                        refine lv_dup hx hb dX10_next_286 rfl ?_
                        have n1185 : F1180 4 = .int u716 := (get_ne eF1180 (by decide) n1152)
                        have n1186 : F1184 4 = .int u716 := (get_ne eF1184 (by decide) n1185)
                        refine get_f (D := D) (ci := 10) (v := .int u716) (C := RX10) (T := TX10) (N := 67) hx hb hw inAX10 hown hK hP 0 rfl rfl 4 (by decide) (hw _ q_1265) (fun _ h9 => h9) n1186 dX10_next_287 ?_
                        refine lv_iconst (v := 1) hx hb dX10_next_290 (by decide) ?_
                        refine lv_iadd hx hb dX10_next_291 ?_
                        refine lv_topi (fun v1187 ev1187 => ?_)
                        have bv1187 : v1187.toInt = u716.toInt + 1 := by rw [ev1187]; exact add_k rfl rfl k939 ⟨Int.le_refl _, Int.le_refl _⟩ (by decide)
                        have k1188 : 1 ≤ v1187.toInt ∧ v1187.toInt ≤ 940 := add_r bv1187 k939 ⟨Int.le_refl _, Int.le_refl _⟩ (by decide)
                        refine put_f (D := D) (ci := 10) (v := .int v1187) (ty := .int) (C := RX10) (T := TX10) (N := 67) hx hb hw inAX10 tyX10 tyX10_ok nmX10 hown hK hP hD hS 0 rfl rfl 4 (by decide) (hw _ q_1265) (fun _ h9 => h9) rfl (by decide +kernel) rfl rfl dX10_next_292 (fun H locs F1189 eF1189 hP hD hS => ?_)
                        have hP : va_P D vwCl [(h0, .inr (10, vL 67 F1189)), (h_tape, .inl (cB, 940, .inl f_tape))] H := hP
                        have hD : va_D A [(h0, .inr (10, vL 67 F1189)), (h_tape, .inl (cB, 940, .inl f_tape))] := hD
                        refine lv_goto (tgt := 181) hx hb dX10_next_295 (by decide) ?_
                        have n1190 : F1189 13 = .int v1182 := (get_ne eF1189 (by decide) (get_eq eF1184))
                        have n1191 : F1184 14 = .int v1179 := (get_ne eF1184 (by decide) (get_eq eF1180))
                        have n1192 : F1189 14 = .int v1179 := (get_ne eF1189 (by decide) n1191)
                        have n1193 : F1180 18 = .long u1126 := (get_ne eF1180 (by decide) i1129)
                        have n1194 : F1184 18 = .long u1126 := (get_ne eF1184 (by decide) n1193)
                        have n1195 : F1189 18 = .long u1126 := (get_ne eF1189 (by decide) n1194)
                        exact ih (u1121, F1189, v1187, v1182, v1179, u1126) ⟨i1123, (SAME.up eF1189 (SAME.up eF1184 (SAME.up eF1180 (SAME.tr (SAME.tr SAME.rf i758 (by decide)) i1128 (by decide)) (by decide)) (by decide)) (by decide)), (get_eq eF1189), n1190, n1192, n1195, (ir_wk k1188 (by decide) (by decide)), (ir_wk k1183 (by decide) (by decide)), (by show 0 ≤ v1182.toInt ∧ v1182.toInt ≤ v1187.toInt ∧ x_p.toInt + v1182.toInt ≤ v1187.toInt ∧ (v1182.toInt = 0 → v1187.toInt = u2.toInt); omega), (by show u1121.toInt = 1 → u709.toInt = 0 → (0 ≤ v1179.toInt ∧ v1179.toInt ≤ 999 ∧ (v1182.toInt = 0 → v1179.toInt = 0) ∧ (v1182.toInt = 1 → v1179.toInt ≤ 9) ∧ (v1182.toInt = 2 → v1179.toInt ≤ 99)); omega), (by show (x_token.toInt = 2 → 0 ≤ v1179.toInt ∧ v1179.toInt ≤ 999); omega)⟩ (by show (x_size.toInt - v1187.toInt).toNat < (x_size.toInt - u716.toInt).toNat; omega) _ _ _ hP hD hS (lv_sub hl [0, 1, 2, 3] rfl)
                  refine lv_aload_n hx hb dX10_next_222 rfl (lv_at hl 3 rfl) ?_
                  refine get_f (D := D) (ci := 10) (v := .int u717) (C := RX10) (T := TX10) (N := 67) hx hb hw inAX10 hown hK hP 0 rfl rfl 13 (by decide) (hw _ q_1274) (fun _ h9 => h9) i760 dX10_next_223 ?_
                  refine lv_bipush (v := 7) hx hb dX10_next_226 (by decide) ?_
                  refine lv_icmp_ge (tgt := 248) hx hb dX10_next_228 (by decide) (fun c1196 => ?_) (fun c1196 => ?_)
                  · have dc1196 : 7 ≤ u717.toInt := le_i (a := 7) (b := u717.toInt) rfl rfl c1196
                    have k1197 : 7 ≤ u717.toInt ∧ u717.toInt ≤ 940 := ⟨Int.le_trans (Int.le_refl _) dc1196, i764.2⟩
                    exact cut1127 G715 u719 SAME.rf i762 _ _ _ hP hD hS (lv_sub hl [0, 1, 2, 3] rfl)
                  · have dc1196 : u717.toInt < 7 := nle_i (a := 7) (b := u717.toInt) rfl rfl c1196
                    have k1198 : 0 ≤ u717.toInt ∧ u717.toInt ≤ 6 := ⟨i764.1, up_lt dc1196 (Int.le_refl _) (by decide)⟩
                    refine lv_aload_n hx hb dX10_next_231 rfl (lv_at hl 3 rfl) ?_
                    refine lv_aload_n hx hb dX10_next_232 rfl (lv_at hl 3 rfl) ?_
                    refine get_f (D := D) (ci := 10) (v := .long u719) (C := RX10) (T := TX10) (N := 67) hx hb hw inAX10 hown hK hP 0 rfl rfl 18 (by decide) (hw _ q_1279) (fun _ h9 => h9) i762 dX10_next_233 ?_
                    refine lv_bipush (v := 8) hx hb dX10_next_236 (by decide) ?_
                    obtain ⟨v1199, ev1199⟩ : ∃ z : Int64, (u719 : Int64) <<< ((8 : Int32).toInt64 &&& 63) = z := ⟨_, rfl⟩
                    refine lv_lshl (v := v1199) hx hb dX10_next_238 ev1199 ?_
                    refine lv_aload_n hx hb dX10_next_239 rfl (lv_at hl 3 rfl) ?_
                    refine call_Vi (wr := []) (As := []) (rest := [.long v1199, .ref h0]) hx hb hml hown hw (m_X10_peek l D cI cJ cB cP cM cZ h0 h_tape G715 x_size u716 f_tape _ n770 n773 (ir_wk k690 (by decide) (by decide)) i759 (ir_wk k939 (by decide) (by decide))) wV_X10_169_X10_peek dX10_next_240 hK hP hD hS hA [0, 1] [] rfl rfl (by decide) (by decide) (by decide) 0 10 rfl rfl GG.fb hG.at hl.1 rfl (Nat.le_of_ble_eq_true rfl) ⟨(Nat.le_of_ble_eq_true rfl), (Nat.le_of_ble_eq_true rfl)⟩ ⟨(Nat.le_of_ble_eq_true rfl), (Nat.le_of_ble_eq_true rfl)⟩ (fun r1200 u H locs hp hP hD hS => ?_)
                    rcases hp with ⟨t1201, rfl, rfl⟩ | ⟨t1202, t1203, rfl, rfl⟩
                    · have hP : va_P D vwCl [(h0, .inr (10, vL 67 G715)), (h_tape, .inl (cB, 940, .inl f_tape))] H := hP
                      have hD : va_D A [(h0, .inr (10, vL 67 G715)), (h_tape, .inl (cB, 940, .inl f_tape))] := hD
                      refine W.widen (k := 0) (n := 0) (Nat.le_of_ble_eq_true rfl) (Nat.le_of_ble_eq_true rfl) ?_
                      have k1205 : 201 ≤ x_size.toInt ∧ x_size.toInt ≤ 939 := ⟨k690.1, Int.le_trans t1201 k939.2⟩
                      have k1206 : 201 ≤ u716.toInt ∧ u716.toInt ≤ 939 := ⟨Int.le_trans k690.1 t1201, k939.2⟩
                      obtain ⟨v1207, ev1207⟩ : ∃ z : Int64, ((-1) : Int32).toInt64 = z := ⟨_, rfl⟩
                      refine lv_i2l (v := v1207) hx hb dX10_next_243 ev1207 ?_
                      refine lv_lor hx hb dX10_next_244 ?_
                      refine lv_topl (fun v1208 ev1208 => ?_)
                      refine put_f (D := D) (ci := 10) (v := .long v1208) (ty := .long) (C := RX10) (T := TX10) (N := 67) hx hb hw inAX10 tyX10 tyX10_ok nmX10 hown hK hP hD hS 0 rfl rfl 18 (by decide) (hw _ q_1279) (fun _ h9 => h9) rfl (by decide +kernel) rfl rfl dX10_next_245 (fun H locs F1209 eF1209 hP hD hS => ?_)
                      have hP : va_P D vwCl [(h0, .inr (10, vL 67 F1209)), (h_tape, .inl (cB, 940, .inl f_tape))] H := hP
                      have hD : va_D A [(h0, .inr (10, vL 67 F1209)), (h_tape, .inl (cB, 940, .inl f_tape))] := hD
                      exact cut1127 F1209 v1208 (SAME.up eF1209 SAME.rf (by decide)) (get_eq eF1209) _ _ _ hP hD hS (lv_sub hl [0, 1, 2, 3] rfl)
                    · have hP : va_P D vwCl [(h0, .inr (10, vL 67 G715)), (h_tape, .inl (cB, 940, .inl f_tape))] H := hP
                      have hD : va_D A [(h0, .inr (10, vL 67 G715)), (h_tape, .inl (cB, 940, .inl f_tape))] := hD
                      refine W.widen (k := 0) (n := 0) (Nat.le_of_ble_eq_true rfl) (Nat.le_of_ble_eq_true rfl) ?_
                      refine lv_ci (y := v937) ev937.symm ?_
                      obtain ⟨v1210, ev1210⟩ : ∃ z : Int64, (v937 : Int32).toInt64 = z := ⟨_, rfl⟩
                      refine lv_i2l (v := v1210) hx hb dX10_next_243 ev1210 ?_
                      refine lv_lor hx hb dX10_next_244 ?_
                      refine lv_topl (fun v1211 ev1211 => ?_)
                      refine put_f (D := D) (ci := 10) (v := .long v1211) (ty := .long) (C := RX10) (T := TX10) (N := 67) hx hb hw inAX10 tyX10 tyX10_ok nmX10 hown hK hP hD hS 0 rfl rfl 18 (by decide) (hw _ q_1279) (fun _ h9 => h9) rfl (by decide +kernel) rfl rfl dX10_next_245 (fun H locs F1212 eF1212 hP hD hS => ?_)
                      have hP : va_P D vwCl [(h0, .inr (10, vL 67 F1212)), (h_tape, .inl (cB, 940, .inl f_tape))] H := hP
                      have hD : va_D A [(h0, .inr (10, vL 67 F1212)), (h_tape, .inl (cB, 940, .inl f_tape))] := hD
                      exact cut1127 F1212 v1211 (SAME.up eF1212 SAME.rf (by decide)) (get_eq eF1212) _ _ _ hP hD hS (lv_sub hl [0, 1, 2, 3] rfl)
                refine lv_iload_n hx hb dX10_next_201 rfl (lv_at hl 0 rfl) ?_
                refine lv_if_eq (tgt := 220) hx hb dX10_next_202 (by decide) (fun c1213 => ?_) (fun c1213 => ?_)
                · have dc1213 : u714.toInt = 0 := eq_i (a := u714.toInt) (b := 0) rfl rfl c1213
                  have k1214 : 0 ≤ u714.toInt ∧ u714.toInt ≤ 0 := ⟨i757.1, Int.le_trans (Int.le_of_eq dc1213) (Int.le_refl _)⟩
                  refine lv_iconst (v := 0) hx hb dX10_next_220 (by decide) ?_
                  refine lv_istore_n (lv' := [(3, .int 0), (2, .int u709), (1, .int v706), (0, .ref h0)]) hx hb dX10_next_221 rfl hl (by decide) rfl (fun ls hl => ?_)
                  exact cut1122 0 (show 0 ≤ (0 : Int32).toInt ∧ (0 : Int32).toInt ≤ 1 by decide) (by show (0 = 1 → u709.toInt = 0 → (48 ≤ v937.toInt ∧ v937.toInt ≤ 57 ∧ 0 ≤ u718.toInt ∧ u718.toInt ≤ 999 ∧ (u717.toInt = 0 → u718.toInt = 0) ∧ (u717.toInt = 1 → u718.toInt ≤ 9) ∧ (u717.toInt = 2 → u718.toInt ≤ 99))); omega) _ _ _ hP hD hS (lv_sub hl [0, 1, 2, 3] rfl)
                · have dc1213 : u714.toInt ≠ 0 := ne_i (a := u714.toInt) (b := 0) rfl rfl c1213
                  have k1215 : 1 ≤ u714.toInt ∧ u714.toInt ≤ 1 := ⟨ne_lo dc1213 i757.1 ⟨Int.le_refl _, Int.le_refl _⟩ (by decide), i757.2⟩
                  refine lv_aload_n hx hb dX10_next_205 rfl (lv_at hl 3 rfl) ?_
                  refine call_Vi (wr := []) (As := []) (rest := []) hx hb hml hown hw (m_X10_peek l D cI cJ cB cP cM cZ h0 h_tape G715 x_size u716 f_tape _ n770 n773 (ir_wk k690 (by decide) (by decide)) i759 (ir_wk k939 (by decide) (by decide))) wV_X10_169_X10_peek dX10_next_206 hK hP hD hS hA [0, 1] [] rfl rfl (by decide) (by decide) (by decide) 0 10 rfl rfl GG.fb hG.at hl.1 rfl (Nat.le_of_ble_eq_true rfl) ⟨(Nat.le_of_ble_eq_true rfl), (Nat.le_of_ble_eq_true rfl)⟩ ⟨(Nat.le_of_ble_eq_true rfl), (Nat.le_of_ble_eq_true rfl)⟩ (fun r1216 u H locs hp hP hD hS => ?_)
                  rcases hp with ⟨t1217, rfl, rfl⟩ | ⟨t1218, t1219, rfl, rfl⟩
                  · have hP : va_P D vwCl [(h0, .inr (10, vL 67 G715)), (h_tape, .inl (cB, 940, .inl f_tape))] H := hP
                    have hD : va_D A [(h0, .inr (10, vL 67 G715)), (h_tape, .inl (cB, 940, .inl f_tape))] := hD
                    refine W.widen (k := 0) (n := 0) (Nat.le_of_ble_eq_true rfl) (Nat.le_of_ble_eq_true rfl) ?_
                    have k1221 : 201 ≤ x_size.toInt ∧ x_size.toInt ≤ 939 := ⟨k690.1, Int.le_trans t1217 k939.2⟩
                    have k1222 : 201 ≤ u716.toInt ∧ u716.toInt ≤ 939 := ⟨Int.le_trans k690.1 t1217, k939.2⟩
                    refine call_Si (wr := [(h0, .inr (10, vL 67 G715)), (h_tape, .inl (cB, 940, .inl f_tape))]) (As := [.int (-1)]) (rest := []) hx hb hml hown hw (m_X10_isSmall l D cI cJ cB cP cM cZ (-1) _ ) wS_X10_182_X10_isSmall dX10_next_209 hP hD hS hA [] [0, 1] rfl rfl (by decide) (by decide) (by decide) GG.fb hG.at hl.1 rfl (Nat.le_of_ble_eq_true rfl) ⟨(Nat.le_of_ble_eq_true rfl), (Nat.le_of_ble_eq_true rfl)⟩ ⟨(Nat.le_of_ble_eq_true rfl), (Nat.le_of_ble_eq_true rfl)⟩ (fun r1223 u H locs hp hP hD hS => ?_)
                    have zlm1 : ((-1) : Int32).toInt = (-1) := by decide
                    rcases hp with ⟨t1224, rfl, rfl⟩ | ⟨t1225, t1226, rfl, rfl⟩ | ⟨t1227, t1228, rfl, rfl⟩
                    · have hP : va_P D vwCl [(h0, .inr (10, vL 67 G715)), (h_tape, .inl (cB, 940, .inl f_tape))] H := hP
                      have hD : va_D A [(h0, .inr (10, vL 67 G715)), (h_tape, .inl (cB, 940, .inl f_tape))] := hD
                      refine W.widen (k := 0) (n := 0) (Nat.le_of_ble_eq_true rfl) (Nat.le_of_ble_eq_true rfl) ?_
                      refine lv_iload_n hx hb dX10_next_212 rfl (lv_at hl 1 rfl) ?_
                      refine lv_icmp_ne (tgt := 220) hx hb dX10_next_213 (by decide) (fun c1230 => ?_) (fun c1230 => ?_)
                      · have dc1230 : 0 ≠ u709.toInt := ne_i (a := 0) (b := u709.toInt) rfl rfl c1230
                        have k1231 : 1 ≤ u709.toInt ∧ u709.toInt ≤ 1 := ⟨ne_lo dc1230.symm i711.1 ⟨Int.le_refl _, Int.le_refl _⟩ (by decide), i711.2⟩
                        refine lv_iconst (v := 0) hx hb dX10_next_220 (by decide) ?_
                        refine lv_istore_n (lv' := [(3, .int 0), (2, .int u709), (1, .int v706), (0, .ref h0)]) hx hb dX10_next_221 rfl hl (by decide) rfl (fun ls hl => ?_)
                        exact cut1122 0 (show 0 ≤ (0 : Int32).toInt ∧ (0 : Int32).toInt ≤ 1 by decide) (by show (0 = 1 → u709.toInt = 0 → (48 ≤ v937.toInt ∧ v937.toInt ≤ 57 ∧ 0 ≤ u718.toInt ∧ u718.toInt ≤ 999 ∧ (u717.toInt = 0 → u718.toInt = 0) ∧ (u717.toInt = 1 → u718.toInt ≤ 9) ∧ (u717.toInt = 2 → u718.toInt ≤ 99))); omega) _ _ _ hP hD hS (lv_sub hl [0, 1, 2, 3] rfl)
                      · have dc1230 : 0 = u709.toInt := eq_i (a := 0) (b := u709.toInt) rfl rfl c1230
                        have k1232 : 0 ≤ u709.toInt ∧ u709.toInt ≤ 0 := ⟨i711.1, Int.le_trans (Int.le_of_eq dc1230.symm) (Int.le_refl _)⟩
                        refine lv_iconst (v := 1) hx hb dX10_next_216 (by decide) ?_
                        refine lv_goto (tgt := 221) hx hb dX10_next_217 (by decide) ?_
                        refine lv_istore_n (lv' := [(3, .int 1), (2, .int u709), (1, .int v706), (0, .ref h0)]) hx hb dX10_next_221 rfl hl (by decide) rfl (fun ls hl => ?_)
                        exact cut1122 1 (show 0 ≤ (1 : Int32).toInt ∧ (1 : Int32).toInt ≤ 1 by decide) (by show (1 = 1 → u709.toInt = 0 → (48 ≤ v937.toInt ∧ v937.toInt ≤ 57 ∧ 0 ≤ u718.toInt ∧ u718.toInt ≤ 999 ∧ (u717.toInt = 0 → u718.toInt = 0) ∧ (u717.toInt = 1 → u718.toInt ≤ 9) ∧ (u717.toInt = 2 → u718.toInt ≤ 99))); omega) _ _ _ hP hD hS (lv_sub hl [0, 1, 2, 3] rfl)
                    · have hP : va_P D vwCl [(h0, .inr (10, vL 67 G715)), (h_tape, .inl (cB, 940, .inl f_tape))] H := hP
                      have hD : va_D A [(h0, .inr (10, vL 67 G715)), (h_tape, .inl (cB, 940, .inl f_tape))] := hD
                      refine W.widen (k := 0) (n := 0) (Nat.le_of_ble_eq_true rfl) (Nat.le_of_ble_eq_true rfl) ?_
                      exact absurd t1225 (by decide)
                    · have hP : va_P D vwCl [(h0, .inr (10, vL 67 G715)), (h_tape, .inl (cB, 940, .inl f_tape))] H := hP
                      have hD : va_D A [(h0, .inr (10, vL 67 G715)), (h_tape, .inl (cB, 940, .inl f_tape))] := hD
                      refine W.widen (k := 0) (n := 0) (Nat.le_of_ble_eq_true rfl) (Nat.le_of_ble_eq_true rfl) ?_
                      exact absurd t1227 (by decide)
                  · have hP : va_P D vwCl [(h0, .inr (10, vL 67 G715)), (h_tape, .inl (cB, 940, .inl f_tape))] H := hP
                    have hD : va_D A [(h0, .inr (10, vL 67 G715)), (h_tape, .inl (cB, 940, .inl f_tape))] := hD
                    refine W.widen (k := 0) (n := 0) (Nat.le_of_ble_eq_true rfl) (Nat.le_of_ble_eq_true rfl) ?_
                    refine lv_ci (y := v937) ev937.symm ?_
                    refine call_Si (wr := [(h0, .inr (10, vL 67 G715)), (h_tape, .inl (cB, 940, .inl f_tape))]) (As := [.int v937]) (rest := []) hx hb hml hown hw (m_X10_isSmall l D cI cJ cB cP cM cZ v937 _ ) wS_X10_182_X10_isSmall dX10_next_209 hP hD hS hA [] [0, 1] rfl rfl (by decide) (by decide) (by decide) GG.fb hG.at hl.1 rfl (Nat.le_of_ble_eq_true rfl) ⟨(Nat.le_of_ble_eq_true rfl), (Nat.le_of_ble_eq_true rfl)⟩ ⟨(Nat.le_of_ble_eq_true rfl), (Nat.le_of_ble_eq_true rfl)⟩ (fun r1233 u H locs hp hP hD hS => ?_)
                    rcases hp with ⟨t1234, rfl, rfl⟩ | ⟨t1235, t1236, rfl, rfl⟩ | ⟨t1237, t1238, rfl, rfl⟩
                    · have hP : va_P D vwCl [(h0, .inr (10, vL 67 G715)), (h_tape, .inl (cB, 940, .inl f_tape))] H := hP
                      have hD : va_D A [(h0, .inr (10, vL 67 G715)), (h_tape, .inl (cB, 940, .inl f_tape))] := hD
                      refine W.widen (k := 0) (n := 0) (Nat.le_of_ble_eq_true rfl) (Nat.le_of_ble_eq_true rfl) ?_
                      exact False.elim (bad_lt t1234 k1120.1 (Int.le_refl _) (by decide))
                    · have hP : va_P D vwCl [(h0, .inr (10, vL 67 G715)), (h_tape, .inl (cB, 940, .inl f_tape))] H := hP
                      have hD : va_D A [(h0, .inr (10, vL 67 G715)), (h_tape, .inl (cB, 940, .inl f_tape))] := hD
                      refine W.widen (k := 0) (n := 0) (Nat.le_of_ble_eq_true rfl) (Nat.le_of_ble_eq_true rfl) ?_
                      exact False.elim (bad_lt t1236 (Int.le_refl _) k1120.2 (by decide))
                    · have hP : va_P D vwCl [(h0, .inr (10, vL 67 G715)), (h_tape, .inl (cB, 940, .inl f_tape))] H := hP
                      have hD : va_D A [(h0, .inr (10, vL 67 G715)), (h_tape, .inl (cB, 940, .inl f_tape))] := hD
                      refine W.widen (k := 0) (n := 0) (Nat.le_of_ble_eq_true rfl) (Nat.le_of_ble_eq_true rfl) ?_
                      refine lv_iload_n hx hb dX10_next_212 rfl (lv_at hl 1 rfl) ?_
                      refine lv_icmp_ne (tgt := 220) hx hb dX10_next_213 (by decide) (fun c1240 => ?_) (fun c1240 => ?_)
                      · have dc1240 : 1 ≠ u709.toInt := ne_i (a := 1) (b := u709.toInt) rfl rfl c1240
                        have k1241 : 0 ≤ u709.toInt ∧ u709.toInt ≤ 0 := ⟨i711.1, ne_hi dc1240.symm i711.2 ⟨Int.le_refl _, Int.le_refl _⟩ (by decide)⟩
                        refine lv_iconst (v := 0) hx hb dX10_next_220 (by decide) ?_
                        refine lv_istore_n (lv' := [(3, .int 0), (2, .int u709), (1, .int v706), (0, .ref h0)]) hx hb dX10_next_221 rfl hl (by decide) rfl (fun ls hl => ?_)
                        exact cut1122 0 (show 0 ≤ (0 : Int32).toInt ∧ (0 : Int32).toInt ≤ 1 by decide) (by show (0 = 1 → u709.toInt = 0 → (48 ≤ v937.toInt ∧ v937.toInt ≤ 57 ∧ 0 ≤ u718.toInt ∧ u718.toInt ≤ 999 ∧ (u717.toInt = 0 → u718.toInt = 0) ∧ (u717.toInt = 1 → u718.toInt ≤ 9) ∧ (u717.toInt = 2 → u718.toInt ≤ 99))); omega) _ _ _ hP hD hS (lv_sub hl [0, 1, 2, 3] rfl)
                      · have dc1240 : 1 = u709.toInt := eq_i (a := 1) (b := u709.toInt) rfl rfl c1240
                        have k1242 : 1 ≤ u709.toInt ∧ u709.toInt ≤ 1 := ⟨Int.le_trans (Int.le_refl _) (Int.le_of_eq dc1240.symm.symm), i711.2⟩
                        refine lv_iconst (v := 1) hx hb dX10_next_216 (by decide) ?_
                        refine lv_goto (tgt := 221) hx hb dX10_next_217 (by decide) ?_
                        refine lv_istore_n (lv' := [(3, .int 1), (2, .int u709), (1, .int v706), (0, .ref h0)]) hx hb dX10_next_221 rfl hl (by decide) rfl (fun ls hl => ?_)
                        exact cut1122 1 (show 0 ≤ (1 : Int32).toInt ∧ (1 : Int32).toInt ≤ 1 by decide) (by show (1 = 1 → u709.toInt = 0 → (48 ≤ v937.toInt ∧ v937.toInt ≤ 57 ∧ 0 ≤ u718.toInt ∧ u718.toInt ≤ 999 ∧ (u717.toInt = 0 → u718.toInt = 0) ∧ (u717.toInt = 1 → u718.toInt ≤ 9) ∧ (u717.toInt = 2 → u718.toInt ≤ 99))); omega) _ _ _ hP hD hS (lv_sub hl [0, 1, 2, 3] rfl)
          refine lv_iload_n hx hb dX10_next_95 rfl (lv_at hl 0 rfl) ?_
          refine call_Si (wr := [(h0, .inr (10, vL 67 F9)), (h_tape, .inl (cB, 940, .inl f_tape))]) (As := [.int v706]) (rest := []) hx hb hml hown hw (m_X10_isSmall l D cI cJ cB cP cM cZ v706 _ ) wS_X10_182_X10_isSmall dX10_next_96 hP hD hS hA [] [0, 1] rfl rfl (by decide) (by decide) (by decide) GG.fb hG.at hl.1 rfl (Nat.le_of_ble_eq_true rfl) ⟨(Nat.le_of_ble_eq_true rfl), (Nat.le_of_ble_eq_true rfl)⟩ ⟨(Nat.le_of_ble_eq_true rfl), (Nat.le_of_ble_eq_true rfl)⟩ (fun r1243 u H locs hp hP hD hS => ?_)
          rcases hp with ⟨t1244, rfl, rfl⟩ | ⟨t1245, t1246, rfl, rfl⟩ | ⟨t1247, t1248, rfl, rfl⟩
          · have hP : va_P D vwCl [(h0, .inr (10, vL 67 F9)), (h_tape, .inl (cB, 940, .inl f_tape))] H := hP
            have hD : va_D A [(h0, .inr (10, vL 67 F9)), (h_tape, .inl (cB, 940, .inl f_tape))] := hD
            refine W.widen (k := 0) (n := 0) (Nat.le_of_ble_eq_true rfl) (Nat.le_of_ble_eq_true rfl) ?_
            have k1250 : 0 ≤ v706.toInt ∧ v706.toInt ≤ 96 := ⟨k707.1, up_lt t1244 (Int.le_refl _) (by decide)⟩
            refine lv_if_ne (tgt := 164) hx hb dX10_next_99 (by decide) (fun g => absurd (by decide) g) (fun _ => ?_)
            refine lv_iload_n hx hb dX10_next_102 rfl (lv_at hl 0 rfl) ?_
            refine call_Si (wr := [(h0, .inr (10, vL 67 F9)), (h_tape, .inl (cB, 940, .inl f_tape))]) (As := [.int v706]) (rest := []) hx hb hml hown hw (m_X10_isDigit l D cI cJ cB cP cM cZ v706 _ ) wS_X10_186_X10_isDigit dX10_next_103 hP hD hS hA [] [0, 1] rfl rfl (by decide) (by decide) (by decide) GG.fb hG.at hl.1 rfl (Nat.le_of_ble_eq_true rfl) ⟨(Nat.le_of_ble_eq_true rfl), (Nat.le_of_ble_eq_true rfl)⟩ ⟨(Nat.le_of_ble_eq_true rfl), (Nat.le_of_ble_eq_true rfl)⟩ (fun r1251 u H locs hp hP hD hS => ?_)
            rcases hp with ⟨t1252, rfl, rfl⟩ | ⟨t1253, t1254, rfl, rfl⟩ | ⟨t1255, t1256, rfl, rfl⟩
            · have hP : va_P D vwCl [(h0, .inr (10, vL 67 F9)), (h_tape, .inl (cB, 940, .inl f_tape))] H := hP
              have hD : va_D A [(h0, .inr (10, vL 67 F9)), (h_tape, .inl (cB, 940, .inl f_tape))] := hD
              refine W.widen (k := 0) (n := 0) (Nat.le_of_ble_eq_true rfl) (Nat.le_of_ble_eq_true rfl) ?_
              have k1258 : 0 ≤ v706.toInt ∧ v706.toInt ≤ 47 := ⟨k1250.1, up_lt t1252 (Int.le_refl _) (by decide)⟩
              refine lv_if_ne (tgt := 164) hx hb dX10_next_106 (by decide) (fun g => absurd (by decide) g) (fun _ => ?_)
              refine lv_aload_n hx hb dX10_next_109 rfl (lv_at hl 1 rfl) ?_
              refine lv_iload_n hx hb dX10_next_110 rfl (lv_at hl 0 rfl) ?_
              refine lv_bipush (v := 59) hx hb dX10_next_111 (by decide) ?_
              refine lv_icmp_eq (tgt := 140) hx hb dX10_next_113 (by decide) (fun c1259 => False.elim (bad_le (Int.le_of_eq (eq_i (a := v706.toInt) (b := 59) rfl rfl c1259).symm) (Int.le_refl _) k1258.2 (by decide))) (fun c1259 => ?_)
              have dc1259 : v706.toInt ≠ 59 := ne_i (a := v706.toInt) (b := 59) rfl rfl c1259
              refine lv_iload_n hx hb dX10_next_116 rfl (lv_at hl 0 rfl) ?_
              refine lv_bipush (v := 40) hx hb dX10_next_117 (by decide) ?_
              refine lv_icmp_eq (tgt := 140) hx hb dX10_next_119 (by decide) (fun c1260 => ?_) (fun c1260 => ?_)
              · have dc1260 : v706.toInt = 40 := eq_i (a := v706.toInt) (b := 40) rfl rfl c1260
                have k1261 : 40 ≤ v706.toInt ∧ v706.toInt ≤ 40 := ⟨Int.le_trans (Int.le_refl _) (Int.le_of_eq dc1260.symm), Int.le_trans (Int.le_of_eq dc1260) (Int.le_refl _)⟩
                refine lv_iconst (v := 3) hx hb dX10_next_140 (by decide) ?_
                refine lv_goto (tgt := 145) hx hb dX10_next_141 (by decide) ?_
                refine put_f (D := D) (ci := 10) (v := .int 3) (ty := .int) (C := RX10) (T := TX10) (N := 67) hx hb hw inAX10 tyX10 tyX10_ok nmX10 hown hK hP hD hS 0 rfl rfl 11 (by decide) (hw _ q_1272) (fun _ h9 => h9) rfl (by decide +kernel) rfl rfl dX10_next_145 (fun H locs F1262 eF1262 hP hD hS => ?_)
                have hP : va_P D vwCl [(h0, .inr (10, vL 67 F1262)), (h_tape, .inl (cB, 940, .inl f_tape))] H := hP
                have hD : va_D A [(h0, .inr (10, vL 67 F1262)), (h_tape, .inl (cB, 940, .inl f_tape))] := hD
                refine lv_aload_n hx hb dX10_next_148 rfl (lv_at hl 1 rfl) ?_
                refine lv_iload_n hx hb dX10_next_149 rfl (lv_at hl 0 rfl) ?_
                refine put_f (D := D) (ci := 10) (v := .int v706) (ty := .int) (C := RX10) (T := TX10) (N := 67) hx hb hw inAX10 tyX10 tyX10_ok nmX10 hown hK hP hD hS 0 rfl rfl 14 (by decide) (hw _ q_1275) (fun _ h9 => h9) rfl (by decide +kernel) rfl rfl dX10_next_150 (fun H locs F1263 eF1263 hP hD hS => ?_)
                have hP : va_P D vwCl [(h0, .inr (10, vL 67 F1263)), (h_tape, .inl (cB, 940, .inl f_tape))] H := hP
                have hD : va_D A [(h0, .inr (10, vL 67 F1263)), (h_tape, .inl (cB, 940, .inl f_tape))] := hD
                refine lv_aload_n hx hb dX10_next_153 rfl (lv_at hl 1 rfl) ?_
                refine lv_dup hx hb dX10_next_154 rfl ?_
                have n1264 : F1262 4 = .int u2 := (get_ne eF1262 (by decide) n692)
                have n1265 : F1263 4 = .int u2 := (get_ne eF1263 (by decide) n1264)
                refine get_f (D := D) (ci := 10) (v := .int u2) (C := RX10) (T := TX10) (N := 67) hx hb hw inAX10 hown hK hP 0 rfl rfl 4 (by decide) (hw _ q_1265) (fun _ h9 => h9) n1265 dX10_next_155 ?_
                refine lv_iconst (v := 1) hx hb dX10_next_158 (by decide) ?_
                refine lv_iadd hx hb dX10_next_159 ?_
                refine lv_topi (fun v1266 ev1266 => ?_)
                have bv1266 : v1266.toInt = u2.toInt + 1 := by rw [ev1266]; exact add_k rfl rfl k694 ⟨Int.le_refl _, Int.le_refl _⟩ (by decide)
                have k1267 : 1 ≤ v1266.toInt ∧ v1266.toInt ≤ 939 := add_r bv1266 k694 ⟨Int.le_refl _, Int.le_refl _⟩ (by decide)
                refine put_f (D := D) (ci := 10) (v := .int v1266) (ty := .int) (C := RX10) (T := TX10) (N := 67) hx hb hw inAX10 tyX10 tyX10_ok nmX10 hown hK hP hD hS 0 rfl rfl 4 (by decide) (hw _ q_1265) (fun _ h9 => h9) rfl (by decide +kernel) rfl rfl dX10_next_160 (fun H locs F1268 eF1268 hP hD hS => ?_)
                have hP : va_P D vwCl [(h0, .inr (10, vL 67 F1268)), (h_tape, .inl (cB, 940, .inl f_tape))] H := hP
                have hD : va_D A [(h0, .inr (10, vL 67 F1268)), (h_tape, .inl (cB, 940, .inl f_tape))] := hD
                exact ret_v hx hb hr hlocks hS hP hD dX10_next_163 (Nat.le_of_ble_eq_true rfl) (Nat.le_of_ble_eq_true rfl) ⟨F1268, v1266, 3, u2, 0, v706, x_word, (SAME.up eF1268 (SAME.up eF1263 (SAME.up eF1262 (SAME.up eF9 (SAME.up eF8 (SAME.tr SAME.rf i4 (by decide)) (by decide)) (by decide)) (by decide)) (by decide)) (by decide)), (get_eq eF1268), (ir_wk k1267 (by decide) (by decide)), (get_ne eF1268 (by decide) (get_ne eF1263 (by decide) (get_eq eF1262))), (show 0 ≤ (3 : Int32).toInt ∧ (3 : Int32).toInt ≤ 4 by decide), (get_ne eF1268 (by decide) (get_ne eF1263 (by decide) (get_ne eF1262 (by decide) (get_ne eF9 (by decide) (get_eq eF8))))), (ir_wk k694 (by decide) (by decide)), (get_ne eF1268 (by decide) (get_ne eF1263 (by decide) (get_ne eF1262 (by decide) (get_eq eF9)))), (show 0 ≤ (0 : Int32).toInt ∧ (0 : Int32).toInt ≤ 940 by decide), (get_ne eF1268 (by decide) (get_eq eF1263)), (get_ne eF1268 (by decide) (get_ne eF1263 (by decide) (get_ne eF1262 (by decide) (get_ne eF9 (by decide) (get_ne eF8 (by decide) (SAME.at i4 (by decide) e_word)))))), (by have zl0 : (0 : Int32).toInt = 0 := (by decide); have zl4 : (4 : Int32).toInt = 4 := (by decide); omega), (by have zl0 : (0 : Int32).toInt = 0 := (by decide); have zl4 : (4 : Int32).toInt = 4 := (by decide); omega), (by have zl0 : (0 : Int32).toInt = 0 := (by decide); have zl3 : (3 : Int32).toInt = 3 := (by decide); omega), rfl⟩
              · have dc1260 : v706.toInt ≠ 40 := ne_i (a := v706.toInt) (b := 40) rfl rfl c1260
                refine lv_iload_n hx hb dX10_next_122 rfl (lv_at hl 0 rfl) ?_
                refine lv_bipush (v := 41) hx hb dX10_next_123 (by decide) ?_
                refine lv_icmp_eq (tgt := 140) hx hb dX10_next_125 (by decide) (fun c1269 => ?_) (fun c1269 => ?_)
                · have dc1269 : v706.toInt = 41 := eq_i (a := v706.toInt) (b := 41) rfl rfl c1269
                  have k1270 : 41 ≤ v706.toInt ∧ v706.toInt ≤ 41 := ⟨Int.le_trans (Int.le_refl _) (Int.le_of_eq dc1269.symm), Int.le_trans (Int.le_of_eq dc1269) (Int.le_refl _)⟩
                  refine lv_iconst (v := 3) hx hb dX10_next_140 (by decide) ?_
                  refine lv_goto (tgt := 145) hx hb dX10_next_141 (by decide) ?_
                  refine put_f (D := D) (ci := 10) (v := .int 3) (ty := .int) (C := RX10) (T := TX10) (N := 67) hx hb hw inAX10 tyX10 tyX10_ok nmX10 hown hK hP hD hS 0 rfl rfl 11 (by decide) (hw _ q_1272) (fun _ h9 => h9) rfl (by decide +kernel) rfl rfl dX10_next_145 (fun H locs F1271 eF1271 hP hD hS => ?_)
                  have hP : va_P D vwCl [(h0, .inr (10, vL 67 F1271)), (h_tape, .inl (cB, 940, .inl f_tape))] H := hP
                  have hD : va_D A [(h0, .inr (10, vL 67 F1271)), (h_tape, .inl (cB, 940, .inl f_tape))] := hD
                  refine lv_aload_n hx hb dX10_next_148 rfl (lv_at hl 1 rfl) ?_
                  refine lv_iload_n hx hb dX10_next_149 rfl (lv_at hl 0 rfl) ?_
                  refine put_f (D := D) (ci := 10) (v := .int v706) (ty := .int) (C := RX10) (T := TX10) (N := 67) hx hb hw inAX10 tyX10 tyX10_ok nmX10 hown hK hP hD hS 0 rfl rfl 14 (by decide) (hw _ q_1275) (fun _ h9 => h9) rfl (by decide +kernel) rfl rfl dX10_next_150 (fun H locs F1272 eF1272 hP hD hS => ?_)
                  have hP : va_P D vwCl [(h0, .inr (10, vL 67 F1272)), (h_tape, .inl (cB, 940, .inl f_tape))] H := hP
                  have hD : va_D A [(h0, .inr (10, vL 67 F1272)), (h_tape, .inl (cB, 940, .inl f_tape))] := hD
                  refine lv_aload_n hx hb dX10_next_153 rfl (lv_at hl 1 rfl) ?_
                  refine lv_dup hx hb dX10_next_154 rfl ?_
                  have n1273 : F1271 4 = .int u2 := (get_ne eF1271 (by decide) n692)
                  have n1274 : F1272 4 = .int u2 := (get_ne eF1272 (by decide) n1273)
                  refine get_f (D := D) (ci := 10) (v := .int u2) (C := RX10) (T := TX10) (N := 67) hx hb hw inAX10 hown hK hP 0 rfl rfl 4 (by decide) (hw _ q_1265) (fun _ h9 => h9) n1274 dX10_next_155 ?_
                  refine lv_iconst (v := 1) hx hb dX10_next_158 (by decide) ?_
                  refine lv_iadd hx hb dX10_next_159 ?_
                  refine lv_topi (fun v1275 ev1275 => ?_)
                  have bv1275 : v1275.toInt = u2.toInt + 1 := by rw [ev1275]; exact add_k rfl rfl k694 ⟨Int.le_refl _, Int.le_refl _⟩ (by decide)
                  have k1276 : 1 ≤ v1275.toInt ∧ v1275.toInt ≤ 939 := add_r bv1275 k694 ⟨Int.le_refl _, Int.le_refl _⟩ (by decide)
                  refine put_f (D := D) (ci := 10) (v := .int v1275) (ty := .int) (C := RX10) (T := TX10) (N := 67) hx hb hw inAX10 tyX10 tyX10_ok nmX10 hown hK hP hD hS 0 rfl rfl 4 (by decide) (hw _ q_1265) (fun _ h9 => h9) rfl (by decide +kernel) rfl rfl dX10_next_160 (fun H locs F1277 eF1277 hP hD hS => ?_)
                  have hP : va_P D vwCl [(h0, .inr (10, vL 67 F1277)), (h_tape, .inl (cB, 940, .inl f_tape))] H := hP
                  have hD : va_D A [(h0, .inr (10, vL 67 F1277)), (h_tape, .inl (cB, 940, .inl f_tape))] := hD
                  exact ret_v hx hb hr hlocks hS hP hD dX10_next_163 (Nat.le_of_ble_eq_true rfl) (Nat.le_of_ble_eq_true rfl) ⟨F1277, v1275, 3, u2, 0, v706, x_word, (SAME.up eF1277 (SAME.up eF1272 (SAME.up eF1271 (SAME.up eF9 (SAME.up eF8 (SAME.tr SAME.rf i4 (by decide)) (by decide)) (by decide)) (by decide)) (by decide)) (by decide)), (get_eq eF1277), (ir_wk k1276 (by decide) (by decide)), (get_ne eF1277 (by decide) (get_ne eF1272 (by decide) (get_eq eF1271))), (show 0 ≤ (3 : Int32).toInt ∧ (3 : Int32).toInt ≤ 4 by decide), (get_ne eF1277 (by decide) (get_ne eF1272 (by decide) (get_ne eF1271 (by decide) (get_ne eF9 (by decide) (get_eq eF8))))), (ir_wk k694 (by decide) (by decide)), (get_ne eF1277 (by decide) (get_ne eF1272 (by decide) (get_ne eF1271 (by decide) (get_eq eF9)))), (show 0 ≤ (0 : Int32).toInt ∧ (0 : Int32).toInt ≤ 940 by decide), (get_ne eF1277 (by decide) (get_eq eF1272)), (get_ne eF1277 (by decide) (get_ne eF1272 (by decide) (get_ne eF1271 (by decide) (get_ne eF9 (by decide) (get_ne eF8 (by decide) (SAME.at i4 (by decide) e_word)))))), (by have zl0 : (0 : Int32).toInt = 0 := (by decide); have zl4 : (4 : Int32).toInt = 4 := (by decide); omega), (by have zl0 : (0 : Int32).toInt = 0 := (by decide); have zl4 : (4 : Int32).toInt = 4 := (by decide); omega), (by have zl0 : (0 : Int32).toInt = 0 := (by decide); have zl3 : (3 : Int32).toInt = 3 := (by decide); omega), rfl⟩
                · have dc1269 : v706.toInt ≠ 41 := ne_i (a := v706.toInt) (b := 41) rfl rfl c1269
                  refine lv_iload_n hx hb dX10_next_128 rfl (lv_at hl 0 rfl) ?_
                  refine lv_bipush (v := 60) hx hb dX10_next_129 (by decide) ?_
                  refine lv_icmp_lt (tgt := 144) hx hb dX10_next_131 (by decide) (fun c1278 => ?_) (fun c1278 => False.elim (bad_le (nlt_i (a := v706.toInt) (b := 60) rfl rfl c1278) (Int.le_refl _) k1258.2 (by decide)))
                  have dc1278 : v706.toInt < 60 := lt_i (a := v706.toInt) (b := 60) rfl rfl c1278
                  refine lv_iconst (v := 4) hx hb dX10_next_144 (by decide) ?_
                  refine put_f (D := D) (ci := 10) (v := .int 4) (ty := .int) (C := RX10) (T := TX10) (N := 67) hx hb hw inAX10 tyX10 tyX10_ok nmX10 hown hK hP hD hS 0 rfl rfl 11 (by decide) (hw _ q_1272) (fun _ h9 => h9) rfl (by decide +kernel) rfl rfl dX10_next_145 (fun H locs F1279 eF1279 hP hD hS => ?_)
                  have hP : va_P D vwCl [(h0, .inr (10, vL 67 F1279)), (h_tape, .inl (cB, 940, .inl f_tape))] H := hP
                  have hD : va_D A [(h0, .inr (10, vL 67 F1279)), (h_tape, .inl (cB, 940, .inl f_tape))] := hD
                  refine lv_aload_n hx hb dX10_next_148 rfl (lv_at hl 1 rfl) ?_
                  refine lv_iload_n hx hb dX10_next_149 rfl (lv_at hl 0 rfl) ?_
                  refine put_f (D := D) (ci := 10) (v := .int v706) (ty := .int) (C := RX10) (T := TX10) (N := 67) hx hb hw inAX10 tyX10 tyX10_ok nmX10 hown hK hP hD hS 0 rfl rfl 14 (by decide) (hw _ q_1275) (fun _ h9 => h9) rfl (by decide +kernel) rfl rfl dX10_next_150 (fun H locs F1280 eF1280 hP hD hS => ?_)
                  have hP : va_P D vwCl [(h0, .inr (10, vL 67 F1280)), (h_tape, .inl (cB, 940, .inl f_tape))] H := hP
                  have hD : va_D A [(h0, .inr (10, vL 67 F1280)), (h_tape, .inl (cB, 940, .inl f_tape))] := hD
                  refine lv_aload_n hx hb dX10_next_153 rfl (lv_at hl 1 rfl) ?_
                  refine lv_dup hx hb dX10_next_154 rfl ?_
                  have n1281 : F1279 4 = .int u2 := (get_ne eF1279 (by decide) n692)
                  have n1282 : F1280 4 = .int u2 := (get_ne eF1280 (by decide) n1281)
                  refine get_f (D := D) (ci := 10) (v := .int u2) (C := RX10) (T := TX10) (N := 67) hx hb hw inAX10 hown hK hP 0 rfl rfl 4 (by decide) (hw _ q_1265) (fun _ h9 => h9) n1282 dX10_next_155 ?_
                  refine lv_iconst (v := 1) hx hb dX10_next_158 (by decide) ?_
                  refine lv_iadd hx hb dX10_next_159 ?_
                  refine lv_topi (fun v1283 ev1283 => ?_)
                  have bv1283 : v1283.toInt = u2.toInt + 1 := by rw [ev1283]; exact add_k rfl rfl k694 ⟨Int.le_refl _, Int.le_refl _⟩ (by decide)
                  have k1284 : 1 ≤ v1283.toInt ∧ v1283.toInt ≤ 939 := add_r bv1283 k694 ⟨Int.le_refl _, Int.le_refl _⟩ (by decide)
                  refine put_f (D := D) (ci := 10) (v := .int v1283) (ty := .int) (C := RX10) (T := TX10) (N := 67) hx hb hw inAX10 tyX10 tyX10_ok nmX10 hown hK hP hD hS 0 rfl rfl 4 (by decide) (hw _ q_1265) (fun _ h9 => h9) rfl (by decide +kernel) rfl rfl dX10_next_160 (fun H locs F1285 eF1285 hP hD hS => ?_)
                  have hP : va_P D vwCl [(h0, .inr (10, vL 67 F1285)), (h_tape, .inl (cB, 940, .inl f_tape))] H := hP
                  have hD : va_D A [(h0, .inr (10, vL 67 F1285)), (h_tape, .inl (cB, 940, .inl f_tape))] := hD
                  exact ret_v hx hb hr hlocks hS hP hD dX10_next_163 (Nat.le_of_ble_eq_true rfl) (Nat.le_of_ble_eq_true rfl) ⟨F1285, v1283, 4, u2, 0, v706, x_word, (SAME.up eF1285 (SAME.up eF1280 (SAME.up eF1279 (SAME.up eF9 (SAME.up eF8 (SAME.tr SAME.rf i4 (by decide)) (by decide)) (by decide)) (by decide)) (by decide)) (by decide)), (get_eq eF1285), (ir_wk k1284 (by decide) (by decide)), (get_ne eF1285 (by decide) (get_ne eF1280 (by decide) (get_eq eF1279))), (show 0 ≤ (4 : Int32).toInt ∧ (4 : Int32).toInt ≤ 4 by decide), (get_ne eF1285 (by decide) (get_ne eF1280 (by decide) (get_ne eF1279 (by decide) (get_ne eF9 (by decide) (get_eq eF8))))), (ir_wk k694 (by decide) (by decide)), (get_ne eF1285 (by decide) (get_ne eF1280 (by decide) (get_ne eF1279 (by decide) (get_eq eF9)))), (show 0 ≤ (0 : Int32).toInt ∧ (0 : Int32).toInt ≤ 940 by decide), (get_ne eF1285 (by decide) (get_eq eF1280)), (get_ne eF1285 (by decide) (get_ne eF1280 (by decide) (get_ne eF1279 (by decide) (get_ne eF9 (by decide) (get_ne eF8 (by decide) (SAME.at i4 (by decide) e_word)))))), (by have zl0 : (0 : Int32).toInt = 0 := (by decide); have zl4 : (4 : Int32).toInt = 4 := (by decide); omega), (by have zl0 : (0 : Int32).toInt = 0 := (by decide); have zl4 : (4 : Int32).toInt = 4 := (by decide); omega), (by have zl0 : (0 : Int32).toInt = 0 := (by decide); have zl4 : (4 : Int32).toInt = 4 := (by decide); omega), rfl⟩
            · have hP : va_P D vwCl [(h0, .inr (10, vL 67 F9)), (h_tape, .inl (cB, 940, .inl f_tape))] H := hP
              have hD : va_D A [(h0, .inr (10, vL 67 F9)), (h_tape, .inl (cB, 940, .inl f_tape))] := hD
              refine W.widen (k := 0) (n := 0) (Nat.le_of_ble_eq_true rfl) (Nat.le_of_ble_eq_true rfl) ?_
              have k1286 : 48 ≤ v706.toInt ∧ v706.toInt ≤ 96 := ⟨Int.le_trans (Int.le_refl _) t1253, k1250.2⟩
              have k1287 : 58 ≤ v706.toInt ∧ v706.toInt ≤ 96 := ⟨lo_lt t1254 (Int.le_refl _) (by decide), k1286.2⟩
              refine lv_if_ne (tgt := 164) hx hb dX10_next_106 (by decide) (fun g => absurd (by decide) g) (fun _ => ?_)
              refine lv_aload_n hx hb dX10_next_109 rfl (lv_at hl 1 rfl) ?_
              refine lv_iload_n hx hb dX10_next_110 rfl (lv_at hl 0 rfl) ?_
              refine lv_bipush (v := 59) hx hb dX10_next_111 (by decide) ?_
              refine lv_icmp_eq (tgt := 140) hx hb dX10_next_113 (by decide) (fun c1288 => ?_) (fun c1288 => ?_)
              · have dc1288 : v706.toInt = 59 := eq_i (a := v706.toInt) (b := 59) rfl rfl c1288
                have k1289 : 59 ≤ v706.toInt ∧ v706.toInt ≤ 59 := ⟨Int.le_trans (Int.le_refl _) (Int.le_of_eq dc1288.symm), Int.le_trans (Int.le_of_eq dc1288) (Int.le_refl _)⟩
                refine lv_iconst (v := 3) hx hb dX10_next_140 (by decide) ?_
                refine lv_goto (tgt := 145) hx hb dX10_next_141 (by decide) ?_
                refine put_f (D := D) (ci := 10) (v := .int 3) (ty := .int) (C := RX10) (T := TX10) (N := 67) hx hb hw inAX10 tyX10 tyX10_ok nmX10 hown hK hP hD hS 0 rfl rfl 11 (by decide) (hw _ q_1272) (fun _ h9 => h9) rfl (by decide +kernel) rfl rfl dX10_next_145 (fun H locs F1290 eF1290 hP hD hS => ?_)
                have hP : va_P D vwCl [(h0, .inr (10, vL 67 F1290)), (h_tape, .inl (cB, 940, .inl f_tape))] H := hP
                have hD : va_D A [(h0, .inr (10, vL 67 F1290)), (h_tape, .inl (cB, 940, .inl f_tape))] := hD
                refine lv_aload_n hx hb dX10_next_148 rfl (lv_at hl 1 rfl) ?_
                refine lv_iload_n hx hb dX10_next_149 rfl (lv_at hl 0 rfl) ?_
                refine put_f (D := D) (ci := 10) (v := .int v706) (ty := .int) (C := RX10) (T := TX10) (N := 67) hx hb hw inAX10 tyX10 tyX10_ok nmX10 hown hK hP hD hS 0 rfl rfl 14 (by decide) (hw _ q_1275) (fun _ h9 => h9) rfl (by decide +kernel) rfl rfl dX10_next_150 (fun H locs F1291 eF1291 hP hD hS => ?_)
                have hP : va_P D vwCl [(h0, .inr (10, vL 67 F1291)), (h_tape, .inl (cB, 940, .inl f_tape))] H := hP
                have hD : va_D A [(h0, .inr (10, vL 67 F1291)), (h_tape, .inl (cB, 940, .inl f_tape))] := hD
                refine lv_aload_n hx hb dX10_next_153 rfl (lv_at hl 1 rfl) ?_
                refine lv_dup hx hb dX10_next_154 rfl ?_
                have n1292 : F1290 4 = .int u2 := (get_ne eF1290 (by decide) n692)
                have n1293 : F1291 4 = .int u2 := (get_ne eF1291 (by decide) n1292)
                refine get_f (D := D) (ci := 10) (v := .int u2) (C := RX10) (T := TX10) (N := 67) hx hb hw inAX10 hown hK hP 0 rfl rfl 4 (by decide) (hw _ q_1265) (fun _ h9 => h9) n1293 dX10_next_155 ?_
                refine lv_iconst (v := 1) hx hb dX10_next_158 (by decide) ?_
                refine lv_iadd hx hb dX10_next_159 ?_
                refine lv_topi (fun v1294 ev1294 => ?_)
                have bv1294 : v1294.toInt = u2.toInt + 1 := by rw [ev1294]; exact add_k rfl rfl k694 ⟨Int.le_refl _, Int.le_refl _⟩ (by decide)
                have k1295 : 1 ≤ v1294.toInt ∧ v1294.toInt ≤ 939 := add_r bv1294 k694 ⟨Int.le_refl _, Int.le_refl _⟩ (by decide)
                refine put_f (D := D) (ci := 10) (v := .int v1294) (ty := .int) (C := RX10) (T := TX10) (N := 67) hx hb hw inAX10 tyX10 tyX10_ok nmX10 hown hK hP hD hS 0 rfl rfl 4 (by decide) (hw _ q_1265) (fun _ h9 => h9) rfl (by decide +kernel) rfl rfl dX10_next_160 (fun H locs F1296 eF1296 hP hD hS => ?_)
                have hP : va_P D vwCl [(h0, .inr (10, vL 67 F1296)), (h_tape, .inl (cB, 940, .inl f_tape))] H := hP
                have hD : va_D A [(h0, .inr (10, vL 67 F1296)), (h_tape, .inl (cB, 940, .inl f_tape))] := hD
                exact ret_v hx hb hr hlocks hS hP hD dX10_next_163 (Nat.le_of_ble_eq_true rfl) (Nat.le_of_ble_eq_true rfl) ⟨F1296, v1294, 3, u2, 0, v706, x_word, (SAME.up eF1296 (SAME.up eF1291 (SAME.up eF1290 (SAME.up eF9 (SAME.up eF8 (SAME.tr SAME.rf i4 (by decide)) (by decide)) (by decide)) (by decide)) (by decide)) (by decide)), (get_eq eF1296), (ir_wk k1295 (by decide) (by decide)), (get_ne eF1296 (by decide) (get_ne eF1291 (by decide) (get_eq eF1290))), (show 0 ≤ (3 : Int32).toInt ∧ (3 : Int32).toInt ≤ 4 by decide), (get_ne eF1296 (by decide) (get_ne eF1291 (by decide) (get_ne eF1290 (by decide) (get_ne eF9 (by decide) (get_eq eF8))))), (ir_wk k694 (by decide) (by decide)), (get_ne eF1296 (by decide) (get_ne eF1291 (by decide) (get_ne eF1290 (by decide) (get_eq eF9)))), (show 0 ≤ (0 : Int32).toInt ∧ (0 : Int32).toInt ≤ 940 by decide), (get_ne eF1296 (by decide) (get_eq eF1291)), (get_ne eF1296 (by decide) (get_ne eF1291 (by decide) (get_ne eF1290 (by decide) (get_ne eF9 (by decide) (get_ne eF8 (by decide) (SAME.at i4 (by decide) e_word)))))), (by have zl0 : (0 : Int32).toInt = 0 := (by decide); have zl4 : (4 : Int32).toInt = 4 := (by decide); omega), (by have zl0 : (0 : Int32).toInt = 0 := (by decide); have zl4 : (4 : Int32).toInt = 4 := (by decide); omega), (by have zl0 : (0 : Int32).toInt = 0 := (by decide); have zl3 : (3 : Int32).toInt = 3 := (by decide); omega), rfl⟩
              · have dc1288 : v706.toInt ≠ 59 := ne_i (a := v706.toInt) (b := 59) rfl rfl c1288
                refine lv_iload_n hx hb dX10_next_116 rfl (lv_at hl 0 rfl) ?_
                refine lv_bipush (v := 40) hx hb dX10_next_117 (by decide) ?_
                refine lv_icmp_eq (tgt := 140) hx hb dX10_next_119 (by decide) (fun c1297 => False.elim (bad_le (Int.le_of_eq (eq_i (a := v706.toInt) (b := 40) rfl rfl c1297)) k1287.1 (Int.le_refl _) (by decide))) (fun c1297 => ?_)
                have dc1297 : v706.toInt ≠ 40 := ne_i (a := v706.toInt) (b := 40) rfl rfl c1297
                refine lv_iload_n hx hb dX10_next_122 rfl (lv_at hl 0 rfl) ?_
                refine lv_bipush (v := 41) hx hb dX10_next_123 (by decide) ?_
                refine lv_icmp_eq (tgt := 140) hx hb dX10_next_125 (by decide) (fun c1298 => False.elim (bad_le (Int.le_of_eq (eq_i (a := v706.toInt) (b := 41) rfl rfl c1298)) k1287.1 (Int.le_refl _) (by decide))) (fun c1298 => ?_)
                have dc1298 : v706.toInt ≠ 41 := ne_i (a := v706.toInt) (b := 41) rfl rfl c1298
                refine lv_iload_n hx hb dX10_next_128 rfl (lv_at hl 0 rfl) ?_
                refine lv_bipush (v := 60) hx hb dX10_next_129 (by decide) ?_
                refine lv_icmp_lt (tgt := 144) hx hb dX10_next_131 (by decide) (fun c1299 => ?_) (fun c1299 => ?_)
                · have dc1299 : v706.toInt < 60 := lt_i (a := v706.toInt) (b := 60) rfl rfl c1299
                  have k1300 : 58 ≤ v706.toInt ∧ v706.toInt ≤ 59 := ⟨k1287.1, up_lt dc1299 (Int.le_refl _) (by decide)⟩
                  refine lv_iconst (v := 4) hx hb dX10_next_144 (by decide) ?_
                  refine put_f (D := D) (ci := 10) (v := .int 4) (ty := .int) (C := RX10) (T := TX10) (N := 67) hx hb hw inAX10 tyX10 tyX10_ok nmX10 hown hK hP hD hS 0 rfl rfl 11 (by decide) (hw _ q_1272) (fun _ h9 => h9) rfl (by decide +kernel) rfl rfl dX10_next_145 (fun H locs F1301 eF1301 hP hD hS => ?_)
                  have hP : va_P D vwCl [(h0, .inr (10, vL 67 F1301)), (h_tape, .inl (cB, 940, .inl f_tape))] H := hP
                  have hD : va_D A [(h0, .inr (10, vL 67 F1301)), (h_tape, .inl (cB, 940, .inl f_tape))] := hD
                  refine lv_aload_n hx hb dX10_next_148 rfl (lv_at hl 1 rfl) ?_
                  refine lv_iload_n hx hb dX10_next_149 rfl (lv_at hl 0 rfl) ?_
                  refine put_f (D := D) (ci := 10) (v := .int v706) (ty := .int) (C := RX10) (T := TX10) (N := 67) hx hb hw inAX10 tyX10 tyX10_ok nmX10 hown hK hP hD hS 0 rfl rfl 14 (by decide) (hw _ q_1275) (fun _ h9 => h9) rfl (by decide +kernel) rfl rfl dX10_next_150 (fun H locs F1302 eF1302 hP hD hS => ?_)
                  have hP : va_P D vwCl [(h0, .inr (10, vL 67 F1302)), (h_tape, .inl (cB, 940, .inl f_tape))] H := hP
                  have hD : va_D A [(h0, .inr (10, vL 67 F1302)), (h_tape, .inl (cB, 940, .inl f_tape))] := hD
                  refine lv_aload_n hx hb dX10_next_153 rfl (lv_at hl 1 rfl) ?_
                  refine lv_dup hx hb dX10_next_154 rfl ?_
                  have n1303 : F1301 4 = .int u2 := (get_ne eF1301 (by decide) n692)
                  have n1304 : F1302 4 = .int u2 := (get_ne eF1302 (by decide) n1303)
                  refine get_f (D := D) (ci := 10) (v := .int u2) (C := RX10) (T := TX10) (N := 67) hx hb hw inAX10 hown hK hP 0 rfl rfl 4 (by decide) (hw _ q_1265) (fun _ h9 => h9) n1304 dX10_next_155 ?_
                  refine lv_iconst (v := 1) hx hb dX10_next_158 (by decide) ?_
                  refine lv_iadd hx hb dX10_next_159 ?_
                  refine lv_topi (fun v1305 ev1305 => ?_)
                  have bv1305 : v1305.toInt = u2.toInt + 1 := by rw [ev1305]; exact add_k rfl rfl k694 ⟨Int.le_refl _, Int.le_refl _⟩ (by decide)
                  have k1306 : 1 ≤ v1305.toInt ∧ v1305.toInt ≤ 939 := add_r bv1305 k694 ⟨Int.le_refl _, Int.le_refl _⟩ (by decide)
                  refine put_f (D := D) (ci := 10) (v := .int v1305) (ty := .int) (C := RX10) (T := TX10) (N := 67) hx hb hw inAX10 tyX10 tyX10_ok nmX10 hown hK hP hD hS 0 rfl rfl 4 (by decide) (hw _ q_1265) (fun _ h9 => h9) rfl (by decide +kernel) rfl rfl dX10_next_160 (fun H locs F1307 eF1307 hP hD hS => ?_)
                  have hP : va_P D vwCl [(h0, .inr (10, vL 67 F1307)), (h_tape, .inl (cB, 940, .inl f_tape))] H := hP
                  have hD : va_D A [(h0, .inr (10, vL 67 F1307)), (h_tape, .inl (cB, 940, .inl f_tape))] := hD
                  exact ret_v hx hb hr hlocks hS hP hD dX10_next_163 (Nat.le_of_ble_eq_true rfl) (Nat.le_of_ble_eq_true rfl) ⟨F1307, v1305, 4, u2, 0, v706, x_word, (SAME.up eF1307 (SAME.up eF1302 (SAME.up eF1301 (SAME.up eF9 (SAME.up eF8 (SAME.tr SAME.rf i4 (by decide)) (by decide)) (by decide)) (by decide)) (by decide)) (by decide)), (get_eq eF1307), (ir_wk k1306 (by decide) (by decide)), (get_ne eF1307 (by decide) (get_ne eF1302 (by decide) (get_eq eF1301))), (show 0 ≤ (4 : Int32).toInt ∧ (4 : Int32).toInt ≤ 4 by decide), (get_ne eF1307 (by decide) (get_ne eF1302 (by decide) (get_ne eF1301 (by decide) (get_ne eF9 (by decide) (get_eq eF8))))), (ir_wk k694 (by decide) (by decide)), (get_ne eF1307 (by decide) (get_ne eF1302 (by decide) (get_ne eF1301 (by decide) (get_eq eF9)))), (show 0 ≤ (0 : Int32).toInt ∧ (0 : Int32).toInt ≤ 940 by decide), (get_ne eF1307 (by decide) (get_eq eF1302)), (get_ne eF1307 (by decide) (get_ne eF1302 (by decide) (get_ne eF1301 (by decide) (get_ne eF9 (by decide) (get_ne eF8 (by decide) (SAME.at i4 (by decide) e_word)))))), (by have zl0 : (0 : Int32).toInt = 0 := (by decide); have zl4 : (4 : Int32).toInt = 4 := (by decide); omega), (by have zl0 : (0 : Int32).toInt = 0 := (by decide); have zl4 : (4 : Int32).toInt = 4 := (by decide); omega), (by have zl0 : (0 : Int32).toInt = 0 := (by decide); have zl4 : (4 : Int32).toInt = 4 := (by decide); omega), rfl⟩
                · have dc1299 : 60 ≤ v706.toInt := nlt_i (a := v706.toInt) (b := 60) rfl rfl c1299
                  have k1308 : 60 ≤ v706.toInt ∧ v706.toInt ≤ 96 := ⟨Int.le_trans (Int.le_refl _) dc1299, k1287.2⟩
                  refine lv_iload_n hx hb dX10_next_134 rfl (lv_at hl 0 rfl) ?_
                  refine lv_bipush (v := 62) hx hb dX10_next_135 (by decide) ?_
                  refine lv_icmp_gt (tgt := 144) hx hb dX10_next_137 (by decide) (fun c1309 => ?_) (fun c1309 => ?_)
                  · have dc1309 : 62 < v706.toInt := lt_i (a := 62) (b := v706.toInt) rfl rfl c1309
                    have k1310 : 63 ≤ v706.toInt ∧ v706.toInt ≤ 96 := ⟨lo_lt dc1309 (Int.le_refl _) (by decide), k1308.2⟩
                    refine lv_iconst (v := 4) hx hb dX10_next_144 (by decide) ?_
                    refine put_f (D := D) (ci := 10) (v := .int 4) (ty := .int) (C := RX10) (T := TX10) (N := 67) hx hb hw inAX10 tyX10 tyX10_ok nmX10 hown hK hP hD hS 0 rfl rfl 11 (by decide) (hw _ q_1272) (fun _ h9 => h9) rfl (by decide +kernel) rfl rfl dX10_next_145 (fun H locs F1311 eF1311 hP hD hS => ?_)
                    have hP : va_P D vwCl [(h0, .inr (10, vL 67 F1311)), (h_tape, .inl (cB, 940, .inl f_tape))] H := hP
                    have hD : va_D A [(h0, .inr (10, vL 67 F1311)), (h_tape, .inl (cB, 940, .inl f_tape))] := hD
                    refine lv_aload_n hx hb dX10_next_148 rfl (lv_at hl 1 rfl) ?_
                    refine lv_iload_n hx hb dX10_next_149 rfl (lv_at hl 0 rfl) ?_
                    refine put_f (D := D) (ci := 10) (v := .int v706) (ty := .int) (C := RX10) (T := TX10) (N := 67) hx hb hw inAX10 tyX10 tyX10_ok nmX10 hown hK hP hD hS 0 rfl rfl 14 (by decide) (hw _ q_1275) (fun _ h9 => h9) rfl (by decide +kernel) rfl rfl dX10_next_150 (fun H locs F1312 eF1312 hP hD hS => ?_)
                    have hP : va_P D vwCl [(h0, .inr (10, vL 67 F1312)), (h_tape, .inl (cB, 940, .inl f_tape))] H := hP
                    have hD : va_D A [(h0, .inr (10, vL 67 F1312)), (h_tape, .inl (cB, 940, .inl f_tape))] := hD
                    refine lv_aload_n hx hb dX10_next_153 rfl (lv_at hl 1 rfl) ?_
                    refine lv_dup hx hb dX10_next_154 rfl ?_
                    have n1313 : F1311 4 = .int u2 := (get_ne eF1311 (by decide) n692)
                    have n1314 : F1312 4 = .int u2 := (get_ne eF1312 (by decide) n1313)
                    refine get_f (D := D) (ci := 10) (v := .int u2) (C := RX10) (T := TX10) (N := 67) hx hb hw inAX10 hown hK hP 0 rfl rfl 4 (by decide) (hw _ q_1265) (fun _ h9 => h9) n1314 dX10_next_155 ?_
                    refine lv_iconst (v := 1) hx hb dX10_next_158 (by decide) ?_
                    refine lv_iadd hx hb dX10_next_159 ?_
                    refine lv_topi (fun v1315 ev1315 => ?_)
                    have bv1315 : v1315.toInt = u2.toInt + 1 := by rw [ev1315]; exact add_k rfl rfl k694 ⟨Int.le_refl _, Int.le_refl _⟩ (by decide)
                    have k1316 : 1 ≤ v1315.toInt ∧ v1315.toInt ≤ 939 := add_r bv1315 k694 ⟨Int.le_refl _, Int.le_refl _⟩ (by decide)
                    refine put_f (D := D) (ci := 10) (v := .int v1315) (ty := .int) (C := RX10) (T := TX10) (N := 67) hx hb hw inAX10 tyX10 tyX10_ok nmX10 hown hK hP hD hS 0 rfl rfl 4 (by decide) (hw _ q_1265) (fun _ h9 => h9) rfl (by decide +kernel) rfl rfl dX10_next_160 (fun H locs F1317 eF1317 hP hD hS => ?_)
                    have hP : va_P D vwCl [(h0, .inr (10, vL 67 F1317)), (h_tape, .inl (cB, 940, .inl f_tape))] H := hP
                    have hD : va_D A [(h0, .inr (10, vL 67 F1317)), (h_tape, .inl (cB, 940, .inl f_tape))] := hD
                    exact ret_v hx hb hr hlocks hS hP hD dX10_next_163 (Nat.le_of_ble_eq_true rfl) (Nat.le_of_ble_eq_true rfl) ⟨F1317, v1315, 4, u2, 0, v706, x_word, (SAME.up eF1317 (SAME.up eF1312 (SAME.up eF1311 (SAME.up eF9 (SAME.up eF8 (SAME.tr SAME.rf i4 (by decide)) (by decide)) (by decide)) (by decide)) (by decide)) (by decide)), (get_eq eF1317), (ir_wk k1316 (by decide) (by decide)), (get_ne eF1317 (by decide) (get_ne eF1312 (by decide) (get_eq eF1311))), (show 0 ≤ (4 : Int32).toInt ∧ (4 : Int32).toInt ≤ 4 by decide), (get_ne eF1317 (by decide) (get_ne eF1312 (by decide) (get_ne eF1311 (by decide) (get_ne eF9 (by decide) (get_eq eF8))))), (ir_wk k694 (by decide) (by decide)), (get_ne eF1317 (by decide) (get_ne eF1312 (by decide) (get_ne eF1311 (by decide) (get_eq eF9)))), (show 0 ≤ (0 : Int32).toInt ∧ (0 : Int32).toInt ≤ 940 by decide), (get_ne eF1317 (by decide) (get_eq eF1312)), (get_ne eF1317 (by decide) (get_ne eF1312 (by decide) (get_ne eF1311 (by decide) (get_ne eF9 (by decide) (get_ne eF8 (by decide) (SAME.at i4 (by decide) e_word)))))), (by have zl0 : (0 : Int32).toInt = 0 := (by decide); have zl4 : (4 : Int32).toInt = 4 := (by decide); omega), (by have zl0 : (0 : Int32).toInt = 0 := (by decide); have zl4 : (4 : Int32).toInt = 4 := (by decide); omega), (by have zl0 : (0 : Int32).toInt = 0 := (by decide); have zl4 : (4 : Int32).toInt = 4 := (by decide); omega), rfl⟩
                  · have dc1309 : v706.toInt ≤ 62 := nlt_i (a := 62) (b := v706.toInt) rfl rfl c1309
                    have k1318 : 60 ≤ v706.toInt ∧ v706.toInt ≤ 62 := ⟨k1308.1, Int.le_trans dc1309 (Int.le_refl _)⟩
                    refine lv_iconst (v := 3) hx hb dX10_next_140 (by decide) ?_
                    refine lv_goto (tgt := 145) hx hb dX10_next_141 (by decide) ?_
                    refine put_f (D := D) (ci := 10) (v := .int 3) (ty := .int) (C := RX10) (T := TX10) (N := 67) hx hb hw inAX10 tyX10 tyX10_ok nmX10 hown hK hP hD hS 0 rfl rfl 11 (by decide) (hw _ q_1272) (fun _ h9 => h9) rfl (by decide +kernel) rfl rfl dX10_next_145 (fun H locs F1319 eF1319 hP hD hS => ?_)
                    have hP : va_P D vwCl [(h0, .inr (10, vL 67 F1319)), (h_tape, .inl (cB, 940, .inl f_tape))] H := hP
                    have hD : va_D A [(h0, .inr (10, vL 67 F1319)), (h_tape, .inl (cB, 940, .inl f_tape))] := hD
                    refine lv_aload_n hx hb dX10_next_148 rfl (lv_at hl 1 rfl) ?_
                    refine lv_iload_n hx hb dX10_next_149 rfl (lv_at hl 0 rfl) ?_
                    refine put_f (D := D) (ci := 10) (v := .int v706) (ty := .int) (C := RX10) (T := TX10) (N := 67) hx hb hw inAX10 tyX10 tyX10_ok nmX10 hown hK hP hD hS 0 rfl rfl 14 (by decide) (hw _ q_1275) (fun _ h9 => h9) rfl (by decide +kernel) rfl rfl dX10_next_150 (fun H locs F1320 eF1320 hP hD hS => ?_)
                    have hP : va_P D vwCl [(h0, .inr (10, vL 67 F1320)), (h_tape, .inl (cB, 940, .inl f_tape))] H := hP
                    have hD : va_D A [(h0, .inr (10, vL 67 F1320)), (h_tape, .inl (cB, 940, .inl f_tape))] := hD
                    refine lv_aload_n hx hb dX10_next_153 rfl (lv_at hl 1 rfl) ?_
                    refine lv_dup hx hb dX10_next_154 rfl ?_
                    have n1321 : F1319 4 = .int u2 := (get_ne eF1319 (by decide) n692)
                    have n1322 : F1320 4 = .int u2 := (get_ne eF1320 (by decide) n1321)
                    refine get_f (D := D) (ci := 10) (v := .int u2) (C := RX10) (T := TX10) (N := 67) hx hb hw inAX10 hown hK hP 0 rfl rfl 4 (by decide) (hw _ q_1265) (fun _ h9 => h9) n1322 dX10_next_155 ?_
                    refine lv_iconst (v := 1) hx hb dX10_next_158 (by decide) ?_
                    refine lv_iadd hx hb dX10_next_159 ?_
                    refine lv_topi (fun v1323 ev1323 => ?_)
                    have bv1323 : v1323.toInt = u2.toInt + 1 := by rw [ev1323]; exact add_k rfl rfl k694 ⟨Int.le_refl _, Int.le_refl _⟩ (by decide)
                    have k1324 : 1 ≤ v1323.toInt ∧ v1323.toInt ≤ 939 := add_r bv1323 k694 ⟨Int.le_refl _, Int.le_refl _⟩ (by decide)
                    refine put_f (D := D) (ci := 10) (v := .int v1323) (ty := .int) (C := RX10) (T := TX10) (N := 67) hx hb hw inAX10 tyX10 tyX10_ok nmX10 hown hK hP hD hS 0 rfl rfl 4 (by decide) (hw _ q_1265) (fun _ h9 => h9) rfl (by decide +kernel) rfl rfl dX10_next_160 (fun H locs F1325 eF1325 hP hD hS => ?_)
                    have hP : va_P D vwCl [(h0, .inr (10, vL 67 F1325)), (h_tape, .inl (cB, 940, .inl f_tape))] H := hP
                    have hD : va_D A [(h0, .inr (10, vL 67 F1325)), (h_tape, .inl (cB, 940, .inl f_tape))] := hD
                    exact ret_v hx hb hr hlocks hS hP hD dX10_next_163 (Nat.le_of_ble_eq_true rfl) (Nat.le_of_ble_eq_true rfl) ⟨F1325, v1323, 3, u2, 0, v706, x_word, (SAME.up eF1325 (SAME.up eF1320 (SAME.up eF1319 (SAME.up eF9 (SAME.up eF8 (SAME.tr SAME.rf i4 (by decide)) (by decide)) (by decide)) (by decide)) (by decide)) (by decide)), (get_eq eF1325), (ir_wk k1324 (by decide) (by decide)), (get_ne eF1325 (by decide) (get_ne eF1320 (by decide) (get_eq eF1319))), (show 0 ≤ (3 : Int32).toInt ∧ (3 : Int32).toInt ≤ 4 by decide), (get_ne eF1325 (by decide) (get_ne eF1320 (by decide) (get_ne eF1319 (by decide) (get_ne eF9 (by decide) (get_eq eF8))))), (ir_wk k694 (by decide) (by decide)), (get_ne eF1325 (by decide) (get_ne eF1320 (by decide) (get_ne eF1319 (by decide) (get_eq eF9)))), (show 0 ≤ (0 : Int32).toInt ∧ (0 : Int32).toInt ≤ 940 by decide), (get_ne eF1325 (by decide) (get_eq eF1320)), (get_ne eF1325 (by decide) (get_ne eF1320 (by decide) (get_ne eF1319 (by decide) (get_ne eF9 (by decide) (get_ne eF8 (by decide) (SAME.at i4 (by decide) e_word)))))), (by have zl0 : (0 : Int32).toInt = 0 := (by decide); have zl4 : (4 : Int32).toInt = 4 := (by decide); omega), (by have zl0 : (0 : Int32).toInt = 0 := (by decide); have zl4 : (4 : Int32).toInt = 4 := (by decide); omega), (by have zl0 : (0 : Int32).toInt = 0 := (by decide); have zl3 : (3 : Int32).toInt = 3 := (by decide); omega), rfl⟩
            · have hP : va_P D vwCl [(h0, .inr (10, vL 67 F9)), (h_tape, .inl (cB, 940, .inl f_tape))] H := hP
              have hD : va_D A [(h0, .inr (10, vL 67 F9)), (h_tape, .inl (cB, 940, .inl f_tape))] := hD
              refine W.widen (k := 0) (n := 0) (Nat.le_of_ble_eq_true rfl) (Nat.le_of_ble_eq_true rfl) ?_
              have k1326 : 48 ≤ v706.toInt ∧ v706.toInt ≤ 96 := ⟨Int.le_trans (Int.le_refl _) t1255, k1250.2⟩
              have k1327 : 48 ≤ v706.toInt ∧ v706.toInt ≤ 57 := ⟨k1326.1, Int.le_trans t1256 (Int.le_refl _)⟩
              refine lv_if_ne (tgt := 164) hx hb dX10_next_106 (by decide) (fun _ => ?_) (fun g => absurd g (by decide))
              refine lv_iload_n hx hb dX10_next_164 rfl (lv_at hl 0 rfl) ?_
              refine call_Si (wr := [(h0, .inr (10, vL 67 F9)), (h_tape, .inl (cB, 940, .inl f_tape))]) (As := [.int v706]) (rest := []) hx hb hml hown hw (m_X10_isSmall l D cI cJ cB cP cM cZ v706 _ ) wS_X10_182_X10_isSmall dX10_next_165 hP hD hS hA [] [0, 1] rfl rfl (by decide) (by decide) (by decide) GG.fb hG.at hl.1 rfl (Nat.le_of_ble_eq_true rfl) ⟨(Nat.le_of_ble_eq_true rfl), (Nat.le_of_ble_eq_true rfl)⟩ ⟨(Nat.le_of_ble_eq_true rfl), (Nat.le_of_ble_eq_true rfl)⟩ (fun r1328 u H locs hp hP hD hS => ?_)
              rcases hp with ⟨t1329, rfl, rfl⟩ | ⟨t1330, t1331, rfl, rfl⟩ | ⟨t1332, t1333, rfl, rfl⟩
              · have hP : va_P D vwCl [(h0, .inr (10, vL 67 F9)), (h_tape, .inl (cB, 940, .inl f_tape))] H := hP
                have hD : va_D A [(h0, .inr (10, vL 67 F9)), (h_tape, .inl (cB, 940, .inl f_tape))] := hD
                refine W.widen (k := 0) (n := 0) (Nat.le_of_ble_eq_true rfl) (Nat.le_of_ble_eq_true rfl) ?_
                refine lv_istore_n (lv' := [(2, .int 0), (1, .int v706), (0, .ref h0)]) hx hb dX10_next_168 rfl hl (by decide) rfl (fun ls hl => ?_)
                refine lv_iconst (v := 1) hx hb dX10_next_169 (by decide) ?_
                refine lv_istore_n (lv' := [(3, .int 1), (2, .int 0), (1, .int v706), (0, .ref h0)]) hx hb dX10_next_170 rfl hl (by decide) rfl (fun ls hl => ?_)
                exact cut710 0 (show 0 ≤ (0 : Int32).toInt ∧ (0 : Int32).toInt ≤ 1 by decide) _ _ _ hP hD hS (lv_sub hl [0, 1, 2, 3] rfl)
              · have hP : va_P D vwCl [(h0, .inr (10, vL 67 F9)), (h_tape, .inl (cB, 940, .inl f_tape))] H := hP
                have hD : va_D A [(h0, .inr (10, vL 67 F9)), (h_tape, .inl (cB, 940, .inl f_tape))] := hD
                refine W.widen (k := 0) (n := 0) (Nat.le_of_ble_eq_true rfl) (Nat.le_of_ble_eq_true rfl) ?_
                exact False.elim (bad_le t1330 (Int.le_refl _) k1327.2 (by decide))
              · have hP : va_P D vwCl [(h0, .inr (10, vL 67 F9)), (h_tape, .inl (cB, 940, .inl f_tape))] H := hP
                have hD : va_D A [(h0, .inr (10, vL 67 F9)), (h_tape, .inl (cB, 940, .inl f_tape))] := hD
                refine W.widen (k := 0) (n := 0) (Nat.le_of_ble_eq_true rfl) (Nat.le_of_ble_eq_true rfl) ?_
                exact False.elim (bad_le t1332 (Int.le_refl _) k1327.2 (by decide))
          · have hP : va_P D vwCl [(h0, .inr (10, vL 67 F9)), (h_tape, .inl (cB, 940, .inl f_tape))] H := hP
            have hD : va_D A [(h0, .inr (10, vL 67 F9)), (h_tape, .inl (cB, 940, .inl f_tape))] := hD
            refine W.widen (k := 0) (n := 0) (Nat.le_of_ble_eq_true rfl) (Nat.le_of_ble_eq_true rfl) ?_
            have k1335 : 97 ≤ v706.toInt ∧ v706.toInt ≤ 255 := ⟨Int.le_trans (Int.le_refl _) t1245, k707.2⟩
            have k1336 : 123 ≤ v706.toInt ∧ v706.toInt ≤ 255 := ⟨lo_lt t1246 (Int.le_refl _) (by decide), k1335.2⟩
            refine lv_if_ne (tgt := 164) hx hb dX10_next_99 (by decide) (fun g => absurd (by decide) g) (fun _ => ?_)
            refine lv_iload_n hx hb dX10_next_102 rfl (lv_at hl 0 rfl) ?_
            refine call_Si (wr := [(h0, .inr (10, vL 67 F9)), (h_tape, .inl (cB, 940, .inl f_tape))]) (As := [.int v706]) (rest := []) hx hb hml hown hw (m_X10_isDigit l D cI cJ cB cP cM cZ v706 _ ) wS_X10_186_X10_isDigit dX10_next_103 hP hD hS hA [] [0, 1] rfl rfl (by decide) (by decide) (by decide) GG.fb hG.at hl.1 rfl (Nat.le_of_ble_eq_true rfl) ⟨(Nat.le_of_ble_eq_true rfl), (Nat.le_of_ble_eq_true rfl)⟩ ⟨(Nat.le_of_ble_eq_true rfl), (Nat.le_of_ble_eq_true rfl)⟩ (fun r1337 u H locs hp hP hD hS => ?_)
            rcases hp with ⟨t1338, rfl, rfl⟩ | ⟨t1339, t1340, rfl, rfl⟩ | ⟨t1341, t1342, rfl, rfl⟩
            · have hP : va_P D vwCl [(h0, .inr (10, vL 67 F9)), (h_tape, .inl (cB, 940, .inl f_tape))] H := hP
              have hD : va_D A [(h0, .inr (10, vL 67 F9)), (h_tape, .inl (cB, 940, .inl f_tape))] := hD
              refine W.widen (k := 0) (n := 0) (Nat.le_of_ble_eq_true rfl) (Nat.le_of_ble_eq_true rfl) ?_
              exact False.elim (bad_lt t1338 k1336.1 (Int.le_refl _) (by decide))
            · have hP : va_P D vwCl [(h0, .inr (10, vL 67 F9)), (h_tape, .inl (cB, 940, .inl f_tape))] H := hP
              have hD : va_D A [(h0, .inr (10, vL 67 F9)), (h_tape, .inl (cB, 940, .inl f_tape))] := hD
              refine W.widen (k := 0) (n := 0) (Nat.le_of_ble_eq_true rfl) (Nat.le_of_ble_eq_true rfl) ?_
              refine lv_if_ne (tgt := 164) hx hb dX10_next_106 (by decide) (fun g => absurd (by decide) g) (fun _ => ?_)
              refine lv_aload_n hx hb dX10_next_109 rfl (lv_at hl 1 rfl) ?_
              refine lv_iload_n hx hb dX10_next_110 rfl (lv_at hl 0 rfl) ?_
              refine lv_bipush (v := 59) hx hb dX10_next_111 (by decide) ?_
              refine lv_icmp_eq (tgt := 140) hx hb dX10_next_113 (by decide) (fun c1344 => False.elim (bad_le (Int.le_of_eq (eq_i (a := v706.toInt) (b := 59) rfl rfl c1344)) k1336.1 (Int.le_refl _) (by decide))) (fun c1344 => ?_)
              have dc1344 : v706.toInt ≠ 59 := ne_i (a := v706.toInt) (b := 59) rfl rfl c1344
              refine lv_iload_n hx hb dX10_next_116 rfl (lv_at hl 0 rfl) ?_
              refine lv_bipush (v := 40) hx hb dX10_next_117 (by decide) ?_
              refine lv_icmp_eq (tgt := 140) hx hb dX10_next_119 (by decide) (fun c1345 => False.elim (bad_le (Int.le_of_eq (eq_i (a := v706.toInt) (b := 40) rfl rfl c1345)) k1336.1 (Int.le_refl _) (by decide))) (fun c1345 => ?_)
              have dc1345 : v706.toInt ≠ 40 := ne_i (a := v706.toInt) (b := 40) rfl rfl c1345
              refine lv_iload_n hx hb dX10_next_122 rfl (lv_at hl 0 rfl) ?_
              refine lv_bipush (v := 41) hx hb dX10_next_123 (by decide) ?_
              refine lv_icmp_eq (tgt := 140) hx hb dX10_next_125 (by decide) (fun c1346 => False.elim (bad_le (Int.le_of_eq (eq_i (a := v706.toInt) (b := 41) rfl rfl c1346)) k1336.1 (Int.le_refl _) (by decide))) (fun c1346 => ?_)
              have dc1346 : v706.toInt ≠ 41 := ne_i (a := v706.toInt) (b := 41) rfl rfl c1346
              refine lv_iload_n hx hb dX10_next_128 rfl (lv_at hl 0 rfl) ?_
              refine lv_bipush (v := 60) hx hb dX10_next_129 (by decide) ?_
              refine lv_icmp_lt (tgt := 144) hx hb dX10_next_131 (by decide) (fun c1347 => False.elim (bad_lt (lt_i (a := v706.toInt) (b := 60) rfl rfl c1347) k1336.1 (Int.le_refl _) (by decide))) (fun c1347 => ?_)
              have dc1347 : 60 ≤ v706.toInt := nlt_i (a := v706.toInt) (b := 60) rfl rfl c1347
              refine lv_iload_n hx hb dX10_next_134 rfl (lv_at hl 0 rfl) ?_
              refine lv_bipush (v := 62) hx hb dX10_next_135 (by decide) ?_
              refine lv_icmp_gt (tgt := 144) hx hb dX10_next_137 (by decide) (fun c1348 => ?_) (fun c1348 => False.elim (bad_le (nlt_i (a := 62) (b := v706.toInt) rfl rfl c1348) k1336.1 (Int.le_refl _) (by decide)))
              have dc1348 : 62 < v706.toInt := lt_i (a := 62) (b := v706.toInt) rfl rfl c1348
              refine lv_iconst (v := 4) hx hb dX10_next_144 (by decide) ?_
              refine put_f (D := D) (ci := 10) (v := .int 4) (ty := .int) (C := RX10) (T := TX10) (N := 67) hx hb hw inAX10 tyX10 tyX10_ok nmX10 hown hK hP hD hS 0 rfl rfl 11 (by decide) (hw _ q_1272) (fun _ h9 => h9) rfl (by decide +kernel) rfl rfl dX10_next_145 (fun H locs F1349 eF1349 hP hD hS => ?_)
              have hP : va_P D vwCl [(h0, .inr (10, vL 67 F1349)), (h_tape, .inl (cB, 940, .inl f_tape))] H := hP
              have hD : va_D A [(h0, .inr (10, vL 67 F1349)), (h_tape, .inl (cB, 940, .inl f_tape))] := hD
              refine lv_aload_n hx hb dX10_next_148 rfl (lv_at hl 1 rfl) ?_
              refine lv_iload_n hx hb dX10_next_149 rfl (lv_at hl 0 rfl) ?_
              refine put_f (D := D) (ci := 10) (v := .int v706) (ty := .int) (C := RX10) (T := TX10) (N := 67) hx hb hw inAX10 tyX10 tyX10_ok nmX10 hown hK hP hD hS 0 rfl rfl 14 (by decide) (hw _ q_1275) (fun _ h9 => h9) rfl (by decide +kernel) rfl rfl dX10_next_150 (fun H locs F1350 eF1350 hP hD hS => ?_)
              have hP : va_P D vwCl [(h0, .inr (10, vL 67 F1350)), (h_tape, .inl (cB, 940, .inl f_tape))] H := hP
              have hD : va_D A [(h0, .inr (10, vL 67 F1350)), (h_tape, .inl (cB, 940, .inl f_tape))] := hD
              refine lv_aload_n hx hb dX10_next_153 rfl (lv_at hl 1 rfl) ?_
              refine lv_dup hx hb dX10_next_154 rfl ?_
              have n1351 : F1349 4 = .int u2 := (get_ne eF1349 (by decide) n692)
              have n1352 : F1350 4 = .int u2 := (get_ne eF1350 (by decide) n1351)
              refine get_f (D := D) (ci := 10) (v := .int u2) (C := RX10) (T := TX10) (N := 67) hx hb hw inAX10 hown hK hP 0 rfl rfl 4 (by decide) (hw _ q_1265) (fun _ h9 => h9) n1352 dX10_next_155 ?_
              refine lv_iconst (v := 1) hx hb dX10_next_158 (by decide) ?_
              refine lv_iadd hx hb dX10_next_159 ?_
              refine lv_topi (fun v1353 ev1353 => ?_)
              have bv1353 : v1353.toInt = u2.toInt + 1 := by rw [ev1353]; exact add_k rfl rfl k694 ⟨Int.le_refl _, Int.le_refl _⟩ (by decide)
              have k1354 : 1 ≤ v1353.toInt ∧ v1353.toInt ≤ 939 := add_r bv1353 k694 ⟨Int.le_refl _, Int.le_refl _⟩ (by decide)
              refine put_f (D := D) (ci := 10) (v := .int v1353) (ty := .int) (C := RX10) (T := TX10) (N := 67) hx hb hw inAX10 tyX10 tyX10_ok nmX10 hown hK hP hD hS 0 rfl rfl 4 (by decide) (hw _ q_1265) (fun _ h9 => h9) rfl (by decide +kernel) rfl rfl dX10_next_160 (fun H locs F1355 eF1355 hP hD hS => ?_)
              have hP : va_P D vwCl [(h0, .inr (10, vL 67 F1355)), (h_tape, .inl (cB, 940, .inl f_tape))] H := hP
              have hD : va_D A [(h0, .inr (10, vL 67 F1355)), (h_tape, .inl (cB, 940, .inl f_tape))] := hD
              exact ret_v hx hb hr hlocks hS hP hD dX10_next_163 (Nat.le_of_ble_eq_true rfl) (Nat.le_of_ble_eq_true rfl) ⟨F1355, v1353, 4, u2, 0, v706, x_word, (SAME.up eF1355 (SAME.up eF1350 (SAME.up eF1349 (SAME.up eF9 (SAME.up eF8 (SAME.tr SAME.rf i4 (by decide)) (by decide)) (by decide)) (by decide)) (by decide)) (by decide)), (get_eq eF1355), (ir_wk k1354 (by decide) (by decide)), (get_ne eF1355 (by decide) (get_ne eF1350 (by decide) (get_eq eF1349))), (show 0 ≤ (4 : Int32).toInt ∧ (4 : Int32).toInt ≤ 4 by decide), (get_ne eF1355 (by decide) (get_ne eF1350 (by decide) (get_ne eF1349 (by decide) (get_ne eF9 (by decide) (get_eq eF8))))), (ir_wk k694 (by decide) (by decide)), (get_ne eF1355 (by decide) (get_ne eF1350 (by decide) (get_ne eF1349 (by decide) (get_eq eF9)))), (show 0 ≤ (0 : Int32).toInt ∧ (0 : Int32).toInt ≤ 940 by decide), (get_ne eF1355 (by decide) (get_eq eF1350)), (get_ne eF1355 (by decide) (get_ne eF1350 (by decide) (get_ne eF1349 (by decide) (get_ne eF9 (by decide) (get_ne eF8 (by decide) (SAME.at i4 (by decide) e_word)))))), (by have zl0 : (0 : Int32).toInt = 0 := (by decide); have zl4 : (4 : Int32).toInt = 4 := (by decide); omega), (by have zl0 : (0 : Int32).toInt = 0 := (by decide); have zl4 : (4 : Int32).toInt = 4 := (by decide); omega), (by have zl0 : (0 : Int32).toInt = 0 := (by decide); have zl4 : (4 : Int32).toInt = 4 := (by decide); omega), rfl⟩
            · have hP : va_P D vwCl [(h0, .inr (10, vL 67 F9)), (h_tape, .inl (cB, 940, .inl f_tape))] H := hP
              have hD : va_D A [(h0, .inr (10, vL 67 F9)), (h_tape, .inl (cB, 940, .inl f_tape))] := hD
              refine W.widen (k := 0) (n := 0) (Nat.le_of_ble_eq_true rfl) (Nat.le_of_ble_eq_true rfl) ?_
              exact False.elim (bad_le t1342 k1336.1 (Int.le_refl _) (by decide))
          · have hP : va_P D vwCl [(h0, .inr (10, vL 67 F9)), (h_tape, .inl (cB, 940, .inl f_tape))] H := hP
            have hD : va_D A [(h0, .inr (10, vL 67 F9)), (h_tape, .inl (cB, 940, .inl f_tape))] := hD
            refine W.widen (k := 0) (n := 0) (Nat.le_of_ble_eq_true rfl) (Nat.le_of_ble_eq_true rfl) ?_
            have k1356 : 97 ≤ v706.toInt ∧ v706.toInt ≤ 255 := ⟨Int.le_trans (Int.le_refl _) t1247, k707.2⟩
            have k1357 : 97 ≤ v706.toInt ∧ v706.toInt ≤ 122 := ⟨k1356.1, Int.le_trans t1248 (Int.le_refl _)⟩
            refine lv_if_ne (tgt := 164) hx hb dX10_next_99 (by decide) (fun _ => ?_) (fun g => absurd g (by decide))
            refine lv_iload_n hx hb dX10_next_164 rfl (lv_at hl 0 rfl) ?_
            refine call_Si (wr := [(h0, .inr (10, vL 67 F9)), (h_tape, .inl (cB, 940, .inl f_tape))]) (As := [.int v706]) (rest := []) hx hb hml hown hw (m_X10_isSmall l D cI cJ cB cP cM cZ v706 _ ) wS_X10_182_X10_isSmall dX10_next_165 hP hD hS hA [] [0, 1] rfl rfl (by decide) (by decide) (by decide) GG.fb hG.at hl.1 rfl (Nat.le_of_ble_eq_true rfl) ⟨(Nat.le_of_ble_eq_true rfl), (Nat.le_of_ble_eq_true rfl)⟩ ⟨(Nat.le_of_ble_eq_true rfl), (Nat.le_of_ble_eq_true rfl)⟩ (fun r1358 u H locs hp hP hD hS => ?_)
            rcases hp with ⟨t1359, rfl, rfl⟩ | ⟨t1360, t1361, rfl, rfl⟩ | ⟨t1362, t1363, rfl, rfl⟩
            · have hP : va_P D vwCl [(h0, .inr (10, vL 67 F9)), (h_tape, .inl (cB, 940, .inl f_tape))] H := hP
              have hD : va_D A [(h0, .inr (10, vL 67 F9)), (h_tape, .inl (cB, 940, .inl f_tape))] := hD
              refine W.widen (k := 0) (n := 0) (Nat.le_of_ble_eq_true rfl) (Nat.le_of_ble_eq_true rfl) ?_
              exact False.elim (bad_lt t1359 k1357.1 (Int.le_refl _) (by decide))
            · have hP : va_P D vwCl [(h0, .inr (10, vL 67 F9)), (h_tape, .inl (cB, 940, .inl f_tape))] H := hP
              have hD : va_D A [(h0, .inr (10, vL 67 F9)), (h_tape, .inl (cB, 940, .inl f_tape))] := hD
              refine W.widen (k := 0) (n := 0) (Nat.le_of_ble_eq_true rfl) (Nat.le_of_ble_eq_true rfl) ?_
              exact False.elim (bad_lt t1361 (Int.le_refl _) k1357.2 (by decide))
            · have hP : va_P D vwCl [(h0, .inr (10, vL 67 F9)), (h_tape, .inl (cB, 940, .inl f_tape))] H := hP
              have hD : va_D A [(h0, .inr (10, vL 67 F9)), (h_tape, .inl (cB, 940, .inl f_tape))] := hD
              refine W.widen (k := 0) (n := 0) (Nat.le_of_ble_eq_true rfl) (Nat.le_of_ble_eq_true rfl) ?_
              refine lv_istore_n (lv' := [(2, .int 1), (1, .int v706), (0, .ref h0)]) hx hb dX10_next_168 rfl hl (by decide) rfl (fun ls hl => ?_)
              refine lv_iconst (v := 1) hx hb dX10_next_169 (by decide) ?_
              refine lv_istore_n (lv' := [(3, .int 1), (2, .int 1), (1, .int v706), (0, .ref h0)]) hx hb dX10_next_170 rfl hl (by decide) rfl (fun ls hl => ?_)
              exact cut710 1 (show 0 ≤ (1 : Int32).toInt ∧ (1 : Int32).toInt ≤ 1 by decide) _ _ _ hP hD hS (lv_sub hl [0, 1, 2, 3] rfl)
      · have dc693 : x_limit.toInt ≤ u2.toInt := nlt_i (a := u2.toInt) (b := x_limit.toInt) rfl rfl c693
        have k1365 : 200 ≤ u2.toInt ∧ u2.toInt ≤ 940 := ⟨Int.le_trans k689.1 dc693, i6.2⟩
        refine lv_aload_n hx hb dX10_next_66 rfl (lv_at hl 0 rfl) ?_
        refine lv_aload_n hx hb dX10_next_67 rfl (lv_at hl 0 rfl) ?_
        refine get_f (D := D) (ci := 10) (v := .int x_limit) (C := RX10) (T := TX10) (N := 67) hx hb hw inAX10 hown hK hP 0 rfl rfl 5 (by decide) (hw _ q_1266) (fun _ h9 => h9) n15 dX10_next_68 ?_
        refine put_f (D := D) (ci := 10) (v := .int x_limit) (ty := .int) (C := RX10) (T := TX10) (N := 67) hx hb hw inAX10 tyX10 tyX10_ok nmX10 hown hK hP hD hS 0 rfl rfl 12 (by decide) (hw _ q_1273) (fun _ h9 => h9) rfl (by decide +kernel) rfl rfl dX10_next_71 (fun H locs F1366 eF1366 hP hD hS => ?_)
        have hP : va_P D vwCl [(h0, .inr (10, vL 67 F1366)), (h_tape, .inl (cB, 940, .inl f_tape))] H := hP
        have hD : va_D A [(h0, .inr (10, vL 67 F1366)), (h_tape, .inl (cB, 940, .inl f_tape))] := hD
        refine lv_aload_n hx hb dX10_next_74 rfl (lv_at hl 0 rfl) ?_
        refine lv_iconst (v := 4) hx hb dX10_next_75 (by decide) ?_
        refine put_f (D := D) (ci := 10) (v := .int 4) (ty := .int) (C := RX10) (T := TX10) (N := 67) hx hb hw inAX10 tyX10 tyX10_ok nmX10 hown hK hP hD hS 0 rfl rfl 11 (by decide) (hw _ q_1272) (fun _ h9 => h9) rfl (by decide +kernel) rfl rfl dX10_next_76 (fun H locs F1367 eF1367 hP hD hS => ?_)
        have hP : va_P D vwCl [(h0, .inr (10, vL 67 F1367)), (h_tape, .inl (cB, 940, .inl f_tape))] H := hP
        have hD : va_D A [(h0, .inr (10, vL 67 F1367)), (h_tape, .inl (cB, 940, .inl f_tape))] := hD
        exact ret_v hx hb hr hlocks hS hP hD dX10_next_79 (Nat.le_of_ble_eq_true rfl) (Nat.le_of_ble_eq_true rfl) ⟨F1367, u2, 4, x_limit, 0, x_number, x_word, (SAME.up eF1367 (SAME.up eF1366 (SAME.up eF9 (SAME.up eF8 (SAME.tr SAME.rf i4 (by decide)) (by decide)) (by decide)) (by decide)) (by decide)), (get_ne eF1367 (by decide) (get_ne eF1366 (by decide) n692)), (ir_wk k1365 (by decide) (by decide)), (get_eq eF1367), (show 0 ≤ (4 : Int32).toInt ∧ (4 : Int32).toInt ≤ 4 by decide), (get_ne eF1367 (by decide) (get_eq eF1366)), (ir_wk k689 (by decide) (by decide)), (get_ne eF1367 (by decide) (get_ne eF1366 (by decide) (get_eq eF9))), (show 0 ≤ (0 : Int32).toInt ∧ (0 : Int32).toInt ≤ 940 by decide), (get_ne eF1367 (by decide) (get_ne eF1366 (by decide) (get_ne eF9 (by decide) (get_ne eF8 (by decide) (SAME.at i4 (by decide) e_number))))), (get_ne eF1367 (by decide) (get_ne eF1366 (by decide) (get_ne eF9 (by decide) (get_ne eF8 (by decide) (SAME.at i4 (by decide) e_word))))), (by have zl0 : (0 : Int32).toInt = 0 := (by decide); have zl4 : (4 : Int32).toInt = 4 := (by decide); omega), (by have zl0 : (0 : Int32).toInt = 0 := (by decide); have zl4 : (4 : Int32).toInt = 4 := (by decide); omega), (by have zl0 : (0 : Int32).toInt = 0 := (by decide); have zl4 : (4 : Int32).toInt = 4 := (by decide); omega), rfl⟩
  refine mloop (α := (Nat → Value) × (Int32)) (nL := 4) (D := D) (A := A) (H0 := s.heap) (fun a => (x_size.toInt - a.2.toInt).toNat) (fun a => SAME [4] Fh a.1 ∧ a.1 4 = .int a.2 ∧ IR 0 940 a.2 ∧ (x_p.toInt ≤ a.2.toInt)) (fun a => [(h0, .inr (10, vL 67 a.1)), (h_tape, .inl (cB, 940, .inl f_tape))]) (fun a => [(0, .ref h0)]) (fun H locs ls => W p l e ({ frames := 1, cells := 0, slots := 0, locals := 20 } : Room) s m [.ref h0].toArray below meth c H locs 0 0 (MQ below (va_Qv (fun (u : va_W) => ∃ (Gh : Nat → Value) (y_p : Int32) (y_token : Int32) (y_at : Int32) (y_span : Int32) (y_number : Int32) (y_word : Int64), SAME [4, 11, 12, 13, 14, 18] Fh Gh ∧ Gh 4 = .int y_p ∧ IR 0 940 y_p ∧ Gh 11 = .int y_token ∧ IR 0 4 y_token ∧ Gh 12 = .int y_at ∧ IR 0 940 y_at ∧ Gh 13 = .int y_span ∧ IR 0 940 y_span ∧ Gh 14 = .int y_number ∧ Gh 18 = .long y_word ∧ (x_p.toInt ≤ y_p.toInt) ∧ ((1 ≤ y_token.toInt → y_token.toInt ≤ 3 → x_p.toInt < y_p.toInt)) ∧ ((y_token.toInt = 2 → 0 ≤ y_number.toInt ∧ y_number.toInt ≤ 999)) ∧ u = [(h0, .inr (10, vL 67 Gh)), (h_tape, .inl (cB, 940, .inl f_tape))]) (PO D A) A) [.ref h0].toArray s 0 0 A) (F0 m 0 ls [])) ?_ (Fh, x_p) ⟨SAME.rf, e_p, i_x_p, (by show x_p.toInt ≤ x_p.toInt; omega)⟩ _ _ _ hP hD hS hl
  rintro ⟨G1, u2⟩ ⟨i1368, i1369, i1370, i1371⟩ ih H locs ls hP hD hS hl
  have i1370 : 0 ≤ u2.toInt ∧ u2.toInt ≤ 940 := i1370
  have i1371 : x_p.toInt ≤ u2.toInt := i1371
  have hP : va_P D vwCl [(h0, .inr (10, vL 67 G1)), (h_tape, .inl (cB, 940, .inl f_tape))] H := hP
  have hD : va_D A [(h0, .inr (10, vL 67 G1)), (h_tape, .inl (cB, 940, .inl f_tape))] := hD
  have hl : lv_has ls 4 [(0, .ref h0)] := hl
  refine lv_aload_n hx hb dX10_next_0 rfl (lv_at hl 0 rfl) ?_
  have n1372 : G1 1 = .ref h_tape := (SAME.at i1368 (by decide) e_tape)
  have n1373 : G1 3 = .int x_size := (SAME.at i1368 (by decide) e_size)
  refine call_Vi (wr := []) (As := []) (rest := []) hx hb hml hown hw (m_X10_peek l D cI cJ cB cP cM cZ h0 h_tape G1 x_size u2 f_tape _ n1372 n1373 i_x_size i1369 i1370) wV_X10_169_X10_peek dX10_next_1 hK hP hD hS hA [0, 1] [] rfl rfl (by decide) (by decide) (by decide) 0 10 rfl rfl GG.fb hG.at hl.1 rfl (Nat.le_of_ble_eq_true rfl) ⟨(Nat.le_of_ble_eq_true rfl), (Nat.le_of_ble_eq_true rfl)⟩ ⟨(Nat.le_of_ble_eq_true rfl), (Nat.le_of_ble_eq_true rfl)⟩ (fun r1374 u H locs hp hP hD hS => ?_)
  rcases hp with ⟨t1375, rfl, rfl⟩ | ⟨t1376, t1377, rfl, rfl⟩
  · have hP : va_P D vwCl [(h0, .inr (10, vL 67 G1)), (h_tape, .inl (cB, 940, .inl f_tape))] H := hP
    have hD : va_D A [(h0, .inr (10, vL 67 G1)), (h_tape, .inl (cB, 940, .inl f_tape))] := hD
    refine W.widen (k := 0) (n := 0) (Nat.le_of_ble_eq_true rfl) (Nat.le_of_ble_eq_true rfl) ?_
    refine lv_bipush (v := 32) hx hb dX10_next_4 (by decide) ?_
    refine lv_icmp_eq (tgt := 18) hx hb dX10_next_6 (by decide) (fun g => absurd g (by decide)) (fun _ => ?_)
    refine lv_aload_n hx hb dX10_next_9 rfl (lv_at hl 0 rfl) ?_
    refine call_Vi (wr := []) (As := []) (rest := []) hx hb hml hown hw (m_X10_peek l D cI cJ cB cP cM cZ h0 h_tape G1 x_size u2 f_tape _ n1372 n1373 i_x_size i1369 i1370) wV_X10_169_X10_peek dX10_next_10 hK hP hD hS hA [0, 1] [] rfl rfl (by decide) (by decide) (by decide) 0 10 rfl rfl GG.fb hG.at hl.1 rfl (Nat.le_of_ble_eq_true rfl) ⟨(Nat.le_of_ble_eq_true rfl), (Nat.le_of_ble_eq_true rfl)⟩ ⟨(Nat.le_of_ble_eq_true rfl), (Nat.le_of_ble_eq_true rfl)⟩ (fun r1379 u H locs hp hP hD hS => ?_)
    rcases hp with ⟨t1380, rfl, rfl⟩ | ⟨t1381, t1382, rfl, rfl⟩
    · have hP : va_P D vwCl [(h0, .inr (10, vL 67 G1)), (h_tape, .inl (cB, 940, .inl f_tape))] H := hP
      have hD : va_D A [(h0, .inr (10, vL 67 G1)), (h_tape, .inl (cB, 940, .inl f_tape))] := hD
      refine W.widen (k := 0) (n := 0) (Nat.le_of_ble_eq_true rfl) (Nat.le_of_ble_eq_true rfl) ?_
      refine lv_bipush (v := 10) hx hb dX10_next_13 (by decide) ?_
      refine lv_icmp_ne (tgt := 31) hx hb dX10_next_15 (by decide) (fun _ => ?_) (fun g => absurd g (by decide))
      exact cut3 G1 u2 (SAME.tr SAME.rf i1368 (by decide)) i1369 i1370 (by show x_p.toInt ≤ u2.toInt; omega) _ _ _ hP hD hS (lv_sub hl [0] rfl)
    · have hP : va_P D vwCl [(h0, .inr (10, vL 67 G1)), (h_tape, .inl (cB, 940, .inl f_tape))] H := hP
      have hD : va_D A [(h0, .inr (10, vL 67 G1)), (h_tape, .inl (cB, 940, .inl f_tape))] := hD
      refine W.widen (k := 0) (n := 0) (Nat.le_of_ble_eq_true rfl) (Nat.le_of_ble_eq_true rfl) ?_
      refine lv_topi (fun v1384 ev1384 => ?_)
      have k1385 : 0 ≤ v1384.toInt ∧ v1384.toInt ≤ 255 := by rw [ev1384]; exact t1381
      have k1386 : 0 ≤ u2.toInt ∧ u2.toInt ≤ 939 := ⟨i1370.1, up_lt t1382 i_x_size.2 (by decide)⟩
      have k1387 : 1 ≤ x_size.toInt ∧ x_size.toInt ≤ 940 := ⟨lo_lt t1382 i1370.1 (by decide), i_x_size.2⟩
      refine lv_bipush (v := 10) hx hb dX10_next_13 (by decide) ?_
      refine lv_icmp_ne (tgt := 31) hx hb dX10_next_15 (by decide) (fun c1388 => ?_) (fun c1388 => ?_)
      · have dc1388 : v1384.toInt ≠ 10 := ne_i (a := v1384.toInt) (b := 10) rfl rfl c1388
        exact cut3 G1 u2 (SAME.tr SAME.rf i1368 (by decide)) i1369 (ir_wk k1386 (by decide) (by decide)) (by show x_p.toInt ≤ u2.toInt; omega) _ _ _ hP hD hS (lv_sub hl [0] rfl)
      · have dc1388 : v1384.toInt = 10 := eq_i (a := v1384.toInt) (b := 10) rfl rfl c1388
        have k1389 : 10 ≤ v1384.toInt ∧ v1384.toInt ≤ 10 := ⟨Int.le_trans (Int.le_refl _) (Int.le_of_eq dc1388.symm), Int.le_trans (Int.le_of_eq dc1388) (Int.le_refl _)⟩
        refine lv_aload_n hx hb dX10_next_18 rfl (lv_at hl 0 rfl) ?_
        refine lv_dup hx hb dX10_next_19 rfl ?_
        refine get_f (D := D) (ci := 10) (v := .int u2) (C := RX10) (T := TX10) (N := 67) hx hb hw inAX10 hown hK hP 0 rfl rfl 4 (by decide) (hw _ q_1265) (fun _ h9 => h9) i1369 dX10_next_20 ?_
        refine lv_iconst (v := 1) hx hb dX10_next_23 (by decide) ?_
        refine lv_iadd hx hb dX10_next_24 ?_
        refine lv_topi (fun v1390 ev1390 => ?_)
        have bv1390 : v1390.toInt = u2.toInt + 1 := by rw [ev1390]; exact add_k rfl rfl k1386 ⟨Int.le_refl _, Int.le_refl _⟩ (by decide)
        have k1391 : 1 ≤ v1390.toInt ∧ v1390.toInt ≤ 940 := add_r bv1390 k1386 ⟨Int.le_refl _, Int.le_refl _⟩ (by decide)
        refine put_f (D := D) (ci := 10) (v := .int v1390) (ty := .int) (C := RX10) (T := TX10) (N := 67) hx hb hw inAX10 tyX10 tyX10_ok nmX10 hown hK hP hD hS 0 rfl rfl 4 (by decide) (hw _ q_1265) (fun _ h9 => h9) rfl (by decide +kernel) rfl rfl dX10_next_25 (fun H locs F1392 eF1392 hP hD hS => ?_)
        have hP : va_P D vwCl [(h0, .inr (10, vL 67 F1392)), (h_tape, .inl (cB, 940, .inl f_tape))] H := hP
        have hD : va_D A [(h0, .inr (10, vL 67 F1392)), (h_tape, .inl (cB, 940, .inl f_tape))] := hD
        refine lv_goto (tgt := 0) hx hb dX10_next_28 (by decide) ?_
        exact ih (F1392, v1390) ⟨(SAME.up eF1392 (SAME.tr SAME.rf i1368 (by decide)) (by decide)), (get_eq eF1392), (ir_wk k1391 (by decide) (by decide)), (by show x_p.toInt ≤ v1390.toInt; omega)⟩ (by show (x_size.toInt - v1390.toInt).toNat < (x_size.toInt - u2.toInt).toNat; omega) _ _ _ hP hD hS (lv_sub hl [0] rfl)
  · have hP : va_P D vwCl [(h0, .inr (10, vL 67 G1)), (h_tape, .inl (cB, 940, .inl f_tape))] H := hP
    have hD : va_D A [(h0, .inr (10, vL 67 G1)), (h_tape, .inl (cB, 940, .inl f_tape))] := hD
    refine W.widen (k := 0) (n := 0) (Nat.le_of_ble_eq_true rfl) (Nat.le_of_ble_eq_true rfl) ?_
    refine lv_topi (fun v1393 ev1393 => ?_)
    have k1394 : 0 ≤ v1393.toInt ∧ v1393.toInt ≤ 255 := by rw [ev1393]; exact t1376
    have k1395 : 0 ≤ u2.toInt ∧ u2.toInt ≤ 939 := ⟨i1370.1, up_lt t1377 i_x_size.2 (by decide)⟩
    have k1396 : 1 ≤ x_size.toInt ∧ x_size.toInt ≤ 940 := ⟨lo_lt t1377 i1370.1 (by decide), i_x_size.2⟩
    refine lv_bipush (v := 32) hx hb dX10_next_4 (by decide) ?_
    refine lv_icmp_eq (tgt := 18) hx hb dX10_next_6 (by decide) (fun c1397 => ?_) (fun c1397 => ?_)
    · have dc1397 : v1393.toInt = 32 := eq_i (a := v1393.toInt) (b := 32) rfl rfl c1397
      have k1398 : 32 ≤ v1393.toInt ∧ v1393.toInt ≤ 32 := ⟨Int.le_trans (Int.le_refl _) (Int.le_of_eq dc1397.symm), Int.le_trans (Int.le_of_eq dc1397) (Int.le_refl _)⟩
      refine lv_aload_n hx hb dX10_next_18 rfl (lv_at hl 0 rfl) ?_
      refine lv_dup hx hb dX10_next_19 rfl ?_
      refine get_f (D := D) (ci := 10) (v := .int u2) (C := RX10) (T := TX10) (N := 67) hx hb hw inAX10 hown hK hP 0 rfl rfl 4 (by decide) (hw _ q_1265) (fun _ h9 => h9) i1369 dX10_next_20 ?_
      refine lv_iconst (v := 1) hx hb dX10_next_23 (by decide) ?_
      refine lv_iadd hx hb dX10_next_24 ?_
      refine lv_topi (fun v1399 ev1399 => ?_)
      have bv1399 : v1399.toInt = u2.toInt + 1 := by rw [ev1399]; exact add_k rfl rfl k1395 ⟨Int.le_refl _, Int.le_refl _⟩ (by decide)
      have k1400 : 1 ≤ v1399.toInt ∧ v1399.toInt ≤ 940 := add_r bv1399 k1395 ⟨Int.le_refl _, Int.le_refl _⟩ (by decide)
      refine put_f (D := D) (ci := 10) (v := .int v1399) (ty := .int) (C := RX10) (T := TX10) (N := 67) hx hb hw inAX10 tyX10 tyX10_ok nmX10 hown hK hP hD hS 0 rfl rfl 4 (by decide) (hw _ q_1265) (fun _ h9 => h9) rfl (by decide +kernel) rfl rfl dX10_next_25 (fun H locs F1401 eF1401 hP hD hS => ?_)
      have hP : va_P D vwCl [(h0, .inr (10, vL 67 F1401)), (h_tape, .inl (cB, 940, .inl f_tape))] H := hP
      have hD : va_D A [(h0, .inr (10, vL 67 F1401)), (h_tape, .inl (cB, 940, .inl f_tape))] := hD
      refine lv_goto (tgt := 0) hx hb dX10_next_28 (by decide) ?_
      exact ih (F1401, v1399) ⟨(SAME.up eF1401 (SAME.tr SAME.rf i1368 (by decide)) (by decide)), (get_eq eF1401), (ir_wk k1400 (by decide) (by decide)), (by show x_p.toInt ≤ v1399.toInt; omega)⟩ (by show (x_size.toInt - v1399.toInt).toNat < (x_size.toInt - u2.toInt).toNat; omega) _ _ _ hP hD hS (lv_sub hl [0] rfl)
    · have dc1397 : v1393.toInt ≠ 32 := ne_i (a := v1393.toInt) (b := 32) rfl rfl c1397
      refine lv_aload_n hx hb dX10_next_9 rfl (lv_at hl 0 rfl) ?_
      refine call_Vi (wr := []) (As := []) (rest := []) hx hb hml hown hw (m_X10_peek l D cI cJ cB cP cM cZ h0 h_tape G1 x_size u2 f_tape _ n1372 n1373 (ir_wk k1396 (by decide) (by decide)) i1369 (ir_wk k1395 (by decide) (by decide))) wV_X10_169_X10_peek dX10_next_10 hK hP hD hS hA [0, 1] [] rfl rfl (by decide) (by decide) (by decide) 0 10 rfl rfl GG.fb hG.at hl.1 rfl (Nat.le_of_ble_eq_true rfl) ⟨(Nat.le_of_ble_eq_true rfl), (Nat.le_of_ble_eq_true rfl)⟩ ⟨(Nat.le_of_ble_eq_true rfl), (Nat.le_of_ble_eq_true rfl)⟩ (fun r1402 u H locs hp hP hD hS => ?_)
      rcases hp with ⟨t1403, rfl, rfl⟩ | ⟨t1404, t1405, rfl, rfl⟩
      · have hP : va_P D vwCl [(h0, .inr (10, vL 67 G1)), (h_tape, .inl (cB, 940, .inl f_tape))] H := hP
        have hD : va_D A [(h0, .inr (10, vL 67 G1)), (h_tape, .inl (cB, 940, .inl f_tape))] := hD
        refine W.widen (k := 0) (n := 0) (Nat.le_of_ble_eq_true rfl) (Nat.le_of_ble_eq_true rfl) ?_
        have k1407 : 1 ≤ x_size.toInt ∧ x_size.toInt ≤ 939 := ⟨k1396.1, Int.le_trans t1403 k1395.2⟩
        have k1408 : 1 ≤ u2.toInt ∧ u2.toInt ≤ 939 := ⟨Int.le_trans k1396.1 t1403, k1395.2⟩
        refine lv_bipush (v := 10) hx hb dX10_next_13 (by decide) ?_
        refine lv_icmp_ne (tgt := 31) hx hb dX10_next_15 (by decide) (fun _ => ?_) (fun g => absurd g (by decide))
        exact cut3 G1 u2 (SAME.tr SAME.rf i1368 (by decide)) i1369 (ir_wk k1408 (by decide) (by decide)) (by show x_p.toInt ≤ u2.toInt; omega) _ _ _ hP hD hS (lv_sub hl [0] rfl)
      · have hP : va_P D vwCl [(h0, .inr (10, vL 67 G1)), (h_tape, .inl (cB, 940, .inl f_tape))] H := hP
        have hD : va_D A [(h0, .inr (10, vL 67 G1)), (h_tape, .inl (cB, 940, .inl f_tape))] := hD
        refine W.widen (k := 0) (n := 0) (Nat.le_of_ble_eq_true rfl) (Nat.le_of_ble_eq_true rfl) ?_
        refine lv_ci (y := v1393) ev1393.symm ?_
        refine lv_bipush (v := 10) hx hb dX10_next_13 (by decide) ?_
        refine lv_icmp_ne (tgt := 31) hx hb dX10_next_15 (by decide) (fun c1409 => ?_) (fun c1409 => ?_)
        · have dc1409 : v1393.toInt ≠ 10 := ne_i (a := v1393.toInt) (b := 10) rfl rfl c1409
          exact cut3 G1 u2 (SAME.tr SAME.rf i1368 (by decide)) i1369 (ir_wk k1395 (by decide) (by decide)) (by show x_p.toInt ≤ u2.toInt; omega) _ _ _ hP hD hS (lv_sub hl [0] rfl)
        · have dc1409 : v1393.toInt = 10 := eq_i (a := v1393.toInt) (b := 10) rfl rfl c1409
          have k1410 : 10 ≤ v1393.toInt ∧ v1393.toInt ≤ 10 := ⟨Int.le_trans (Int.le_refl _) (Int.le_of_eq dc1409.symm), Int.le_trans (Int.le_of_eq dc1409) (Int.le_refl _)⟩
          refine lv_aload_n hx hb dX10_next_18 rfl (lv_at hl 0 rfl) ?_
          refine lv_dup hx hb dX10_next_19 rfl ?_
          refine get_f (D := D) (ci := 10) (v := .int u2) (C := RX10) (T := TX10) (N := 67) hx hb hw inAX10 hown hK hP 0 rfl rfl 4 (by decide) (hw _ q_1265) (fun _ h9 => h9) i1369 dX10_next_20 ?_
          refine lv_iconst (v := 1) hx hb dX10_next_23 (by decide) ?_
          refine lv_iadd hx hb dX10_next_24 ?_
          refine lv_topi (fun v1411 ev1411 => ?_)
          have bv1411 : v1411.toInt = u2.toInt + 1 := by rw [ev1411]; exact add_k rfl rfl k1395 ⟨Int.le_refl _, Int.le_refl _⟩ (by decide)
          have k1412 : 1 ≤ v1411.toInt ∧ v1411.toInt ≤ 940 := add_r bv1411 k1395 ⟨Int.le_refl _, Int.le_refl _⟩ (by decide)
          refine put_f (D := D) (ci := 10) (v := .int v1411) (ty := .int) (C := RX10) (T := TX10) (N := 67) hx hb hw inAX10 tyX10 tyX10_ok nmX10 hown hK hP hD hS 0 rfl rfl 4 (by decide) (hw _ q_1265) (fun _ h9 => h9) rfl (by decide +kernel) rfl rfl dX10_next_25 (fun H locs F1413 eF1413 hP hD hS => ?_)
          have hP : va_P D vwCl [(h0, .inr (10, vL 67 F1413)), (h_tape, .inl (cB, 940, .inl f_tape))] H := hP
          have hD : va_D A [(h0, .inr (10, vL 67 F1413)), (h_tape, .inl (cB, 940, .inl f_tape))] := hD
          refine lv_goto (tgt := 0) hx hb dX10_next_28 (by decide) ?_
          exact ih (F1413, v1411) ⟨(SAME.up eF1413 (SAME.tr SAME.rf i1368 (by decide)) (by decide)), (get_eq eF1413), (ir_wk k1412 (by decide) (by decide)), (by show x_p.toInt ≤ v1411.toInt; omega)⟩ (by show (x_size.toInt - v1411.toInt).toNat < (x_size.toInt - u2.toInt).toNat; omega) _ _ _ hP hD hS (lv_sub hl [0] rfl)
