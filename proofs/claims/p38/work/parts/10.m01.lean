set_option maxHeartbeats 4000000 in
set_option maxRecDepth 100000 in
theorem m_X10_throwsIf (l : Launch) (D : va_G) (cI cJ cB cP cM cZ : ClassId) (h0 : Nat) (Fh : Nat → Value) (p0 : Int32) (sz : Nat) (i_p0 : IR 0 1 p0) : CI l yX10_throwsIf cX10_throwsIf 2 (some .boolean) { frames := 0, cells := 0, slots := 0, locals := 0 } (GG D cI cJ cB cP cM cZ) D [(h0, .inr (10, vL 67 Fh))] sz [.ref h0, .int p0] (fun (r : Int32) (u : va_W) => (∃ (Gh : Nat → Value), SAME [0] Fh Gh ∧ Gh 0 = .int 0 ∧ IR 0 0 p0 ∧ p0.toInt = 0 ∧ r = p0 ∧ u = [(h0, .inr (10, vL 67 Gh))]) ∨ (∃ (Gh : Nat → Value), SAME [0] Fh Gh ∧ Gh 0 = .int 1 ∧ IR 1 1 p0 ∧ p0.toInt ≠ 0 ∧ r = p0 ∧ u = [(h0, .inr (10, vL 67 Gh))])) := by
  refine CI_mk (by decide) (Nat.le_of_ble_eq_true rfl) ?_
  intro p e s m below meth c A ls E hAe hG hsz hP hD hA hS hl
  obtain ⟨hx, hb, hr, hw, hown, hlocks, hml, hnm⟩ := E
  have hK := hG.1
  have i_p0 : 0 ≤ p0.toInt ∧ p0.toInt ≤ 1 := i_p0
  have hl : lv_has ls 2 [(0, .ref h0), (1, .int p0)] := hl
  refine lv_aload_n hx hb dX10_throwsIf_0 rfl (lv_at hl 0 rfl) ?_
  refine lv_iload_n hx hb dX10_throwsIf_1 rfl (lv_at hl 1 rfl) ?_
  refine lv_if_eq (tgt := 9) hx hb dX10_throwsIf_2 (by decide) (fun c1 => ?_) (fun c1 => ?_)
  · have dc1 : p0.toInt = 0 := eq_i (a := p0.toInt) (b := 0) rfl rfl c1
    have k2 : 0 ≤ p0.toInt ∧ p0.toInt ≤ 0 := ⟨i_p0.1, Int.le_trans (Int.le_of_eq dc1) (Int.le_refl _)⟩
    refine lv_iconst (v := 0) hx hb dX10_throwsIf_9 (by decide) ?_
    refine put_f (D := D) (ci := 10) (v := .int 0) (ty := .int) (C := RX10) (T := TX10) (N := 67) hx hb hw inAX10 tyX10 tyX10_ok nmX10 hown hK hP hD hS 0 rfl rfl 0 (by decide) (hw _ q_1261) (fun _ h9 => h9) rfl (by decide +kernel) rfl rfl dX10_throwsIf_10 (fun H locs F3 eF3 hP hD hS => ?_)
    have hP : va_P D vwCl [(h0, .inr (10, vL 67 F3))] H := hP
    have hD : va_D A [(h0, .inr (10, vL 67 F3))] := hD
    refine lv_iload_n hx hb dX10_throwsIf_13 rfl (lv_at hl 1 rfl) ?_
    exact ret_i (v := p0) hx hb hr hlocks hS hP hD dX10_throwsIf_14 (nz_i (show 0 ≤ p0.toInt ∧ p0.toInt ≤ 1 from (ir_wk k2 (by decide) (by decide))).1 (show 0 ≤ p0.toInt ∧ p0.toInt ≤ 1 from (ir_wk k2 (by decide) (by decide))).2) (Nat.le_of_ble_eq_true rfl) (Nat.le_of_ble_eq_true rfl) (Or.inl ⟨F3, (SAME.up eF3 SAME.rf (by decide)), (get_eq eF3), k2, dc1, rfl, rfl⟩)
  · have dc1 : p0.toInt ≠ 0 := ne_i (a := p0.toInt) (b := 0) rfl rfl c1
    have k4 : 1 ≤ p0.toInt ∧ p0.toInt ≤ 1 := ⟨ne_lo dc1 i_p0.1 ⟨Int.le_refl _, Int.le_refl _⟩ (by decide), i_p0.2⟩
    refine lv_iconst (v := 1) hx hb dX10_throwsIf_5 (by decide) ?_
    refine lv_goto (tgt := 10) hx hb dX10_throwsIf_6 (by decide) ?_
    refine put_f (D := D) (ci := 10) (v := .int 1) (ty := .int) (C := RX10) (T := TX10) (N := 67) hx hb hw inAX10 tyX10 tyX10_ok nmX10 hown hK hP hD hS 0 rfl rfl 0 (by decide) (hw _ q_1261) (fun _ h9 => h9) rfl (by decide +kernel) rfl rfl dX10_throwsIf_10 (fun H locs F5 eF5 hP hD hS => ?_)
    have hP : va_P D vwCl [(h0, .inr (10, vL 67 F5))] H := hP
    have hD : va_D A [(h0, .inr (10, vL 67 F5))] := hD
    refine lv_iload_n hx hb dX10_throwsIf_13 rfl (lv_at hl 1 rfl) ?_
    exact ret_i (v := p0) hx hb hr hlocks hS hP hD dX10_throwsIf_14 (nz_i (show 0 ≤ p0.toInt ∧ p0.toInt ≤ 1 from (ir_wk k4 (by decide) (by decide))).1 (show 0 ≤ p0.toInt ∧ p0.toInt ≤ 1 from (ir_wk k4 (by decide) (by decide))).2) (Nat.le_of_ble_eq_true rfl) (Nat.le_of_ble_eq_true rfl) (Or.inr ⟨F5, (SAME.up eF5 SAME.rf (by decide)), (get_eq eF5), k4, dc1, rfl, rfl⟩)
set_option maxHeartbeats 4000000 in
set_option maxRecDepth 100000 in
theorem m_X10_bytes4 (l : Launch) (D : va_G) (cI cJ cB cP cM cZ : ClassId) (h0 : Nat) (h_tape : Nat) (Fh : Nat → Value) (x_length : Int32) (f_tape : Nat → Int32) (p0 : Int32) (sz : Nat) (e_tape : Fh 1 = .ref h_tape) (e_length : Fh 2 = .int x_length) (i_x_length : IR 0 936 x_length) : CV l yX10_bytes4 cX10_bytes4 3 none { frames := 0, cells := 0, slots := 0, locals := 0 } (GG D cI cJ cB cP cM cZ) D [(h0, .inr (10, vL 67 Fh)), (h_tape, .inl (cB, 940, .inl f_tape))] sz [.ref h0, .int p0] (fun (u : va_W) => ∃ (Gh : Nat → Value) (y_length : Int32) (g_tape : Nat → Int32), SAME [2] Fh Gh ∧ Gh 2 = .int y_length ∧ IR 4 940 y_length ∧ (y_length.toInt = x_length.toInt + 4) ∧ u = [(h0, .inr (10, vL 67 Gh)), (h_tape, .inl (cB, 940, .inl g_tape))]) := by
  refine CV_mk (by decide) (Nat.le_of_ble_eq_true rfl) ?_
  intro p e s m below meth c A ls E hAe hG hsz hP hD hA hS hl
  obtain ⟨hx, hb, hr, hw, hown, hlocks, hml, hnm⟩ := E
  have hK := hG.1
  have i_x_length : 0 ≤ x_length.toInt ∧ x_length.toInt ≤ 936 := i_x_length
  have hl : lv_has ls 3 [(0, .ref h0), (1, .int p0)] := hl
  refine lv_bipush (v := 24) hx hb dX10_bytes4_0 (by decide) ?_
  refine lv_istore_n (lv' := [(2, .int 24), (0, .ref h0), (1, .int p0)]) hx hb dX10_bytes4_2 rfl hl (by decide) rfl (fun ls hl => ?_)
  refine lv_iload_n hx hb dX10_bytes4_3 rfl (lv_at hl 0 rfl) ?_
  refine lv_if_lt (tgt := 36) hx hb dX10_bytes4_4 (by decide) (fun g => absurd g (by decide)) (fun _ => ?_)
  refine lv_aload_n hx hb dX10_bytes4_7 rfl (lv_at hl 1 rfl) ?_
  refine get_f (D := D) (ci := 10) (v := .ref h_tape) (C := RX10) (T := TX10) (N := 67) hx hb hw inAX10 hown hK hP 0 rfl rfl 1 (by decide) (hw _ q_1262) (fun _ h9 => h9) e_tape dX10_bytes4_8 ?_
  refine lv_aload_n hx hb dX10_bytes4_11 rfl (lv_at hl 1 rfl) ?_
  refine get_f (D := D) (ci := 10) (v := .int x_length) (C := RX10) (T := TX10) (N := 67) hx hb hw inAX10 hown hK hP 0 rfl rfl 2 (by decide) (hw _ q_1263) (fun _ h9 => h9) e_length dX10_bytes4_12 ?_
  refine lv_iload_n hx hb dX10_bytes4_15 rfl (lv_at hl 2 rfl) ?_
  refine lv_iload_n hx hb dX10_bytes4_16 rfl (lv_at hl 0 rfl) ?_
  refine lv_ishr hx hb dX10_bytes4_17 ?_
  refine lv_topi (fun v1 ev1 => ?_)
  obtain ⟨v2, ev2⟩ : ∃ z : Int32, (v1 : Int32).toInt8.toInt32 = z := ⟨_, rfl⟩
  refine lv_i2b (v := v2) hx hb dX10_bytes4_18 ev2 ?_
  obtain ⟨g3, eg3⟩ : ∃ z : Nat → Int32, upd f_tape x_length.toNatClampNeg (vp_nar .byte v2) = z := ⟨_, rfl⟩
  refine bast_g hx hb hK hP hD hS 1 2 rfl rfl (ix_k i_x_length (by decide) (by decide)) eg3 dX10_bytes4_19 (fun H locs hP hD hS => ?_)
  have hP : va_P D vwCl [(h0, .inr (10, vL 67 Fh)), (h_tape, .inl (cB, 940, .inl g3))] H := hP
  have hD : va_D A [(h0, .inr (10, vL 67 Fh)), (h_tape, .inl (cB, 940, .inl g3))] := hD
  refine lv_aload_n hx hb dX10_bytes4_20 rfl (lv_at hl 1 rfl) ?_
  refine lv_dup hx hb dX10_bytes4_21 rfl ?_
  refine get_f (D := D) (ci := 10) (v := .int x_length) (C := RX10) (T := TX10) (N := 67) hx hb hw inAX10 hown hK hP 0 rfl rfl 2 (by decide) (hw _ q_1263) (fun _ h9 => h9) e_length dX10_bytes4_22 ?_
  refine lv_iconst (v := 1) hx hb dX10_bytes4_25 (by decide) ?_
  refine lv_iadd hx hb dX10_bytes4_26 ?_
  refine lv_topi (fun v4 ev4 => ?_)
  have bv4 : v4.toInt = x_length.toInt + 1 := by rw [ev4]; exact add_k rfl rfl i_x_length ⟨Int.le_refl _, Int.le_refl _⟩ (by decide)
  have k5 : 1 ≤ v4.toInt ∧ v4.toInt ≤ 937 := add_r bv4 i_x_length ⟨Int.le_refl _, Int.le_refl _⟩ (by decide)
  refine put_f (D := D) (ci := 10) (v := .int v4) (ty := .int) (C := RX10) (T := TX10) (N := 67) hx hb hw inAX10 tyX10 tyX10_ok nmX10 hown hK hP hD hS 0 rfl rfl 2 (by decide) (hw _ q_1263) (fun _ h9 => h9) rfl (by decide +kernel) rfl rfl dX10_bytes4_27 (fun H locs F6 eF6 hP hD hS => ?_)
  have hP : va_P D vwCl [(h0, .inr (10, vL 67 F6)), (h_tape, .inl (cB, 940, .inl g3))] H := hP
  have hD : va_D A [(h0, .inr (10, vL 67 F6)), (h_tape, .inl (cB, 940, .inl g3))] := hD
  refine lv_iinc (v := 16) (lv' := [(2, .int 16), (0, .ref h0), (1, .int p0)]) hx hb dX10_bytes4_30 hl (k := 0) rfl (by decide +kernel) (by decide) rfl (fun ls hl => ?_)
  refine lv_goto (tgt := 3) hx hb dX10_bytes4_33 (by decide) ?_
  refine lv_iload_n hx hb dX10_bytes4_3 rfl (lv_at hl 0 rfl) ?_
  refine lv_if_lt (tgt := 36) hx hb dX10_bytes4_4 (by decide) (fun g => absurd g (by decide)) (fun _ => ?_)
  refine lv_aload_n hx hb dX10_bytes4_7 rfl (lv_at hl 1 rfl) ?_
  have n7 : F6 1 = .ref h_tape := (get_ne eF6 (by decide) e_tape)
  refine get_f (D := D) (ci := 10) (v := .ref h_tape) (C := RX10) (T := TX10) (N := 67) hx hb hw inAX10 hown hK hP 0 rfl rfl 1 (by decide) (hw _ q_1262) (fun _ h9 => h9) n7 dX10_bytes4_8 ?_
  refine lv_aload_n hx hb dX10_bytes4_11 rfl (lv_at hl 1 rfl) ?_
  refine get_f (D := D) (ci := 10) (v := .int v4) (C := RX10) (T := TX10) (N := 67) hx hb hw inAX10 hown hK hP 0 rfl rfl 2 (by decide) (hw _ q_1263) (fun _ h9 => h9) (get_eq eF6) dX10_bytes4_12 ?_
  refine lv_iload_n hx hb dX10_bytes4_15 rfl (lv_at hl 2 rfl) ?_
  refine lv_iload_n hx hb dX10_bytes4_16 rfl (lv_at hl 0 rfl) ?_
  refine lv_ishr hx hb dX10_bytes4_17 ?_
  refine lv_topi (fun v8 ev8 => ?_)
  obtain ⟨v9, ev9⟩ : ∃ z : Int32, (v8 : Int32).toInt8.toInt32 = z := ⟨_, rfl⟩
  refine lv_i2b (v := v9) hx hb dX10_bytes4_18 ev9 ?_
  obtain ⟨g10, eg10⟩ : ∃ z : Nat → Int32, upd g3 v4.toNatClampNeg (vp_nar .byte v9) = z := ⟨_, rfl⟩
  refine bast_g hx hb hK hP hD hS 1 2 rfl rfl (ix_k k5 (by decide) (by decide)) eg10 dX10_bytes4_19 (fun H locs hP hD hS => ?_)
  have hP : va_P D vwCl [(h0, .inr (10, vL 67 F6)), (h_tape, .inl (cB, 940, .inl g10))] H := hP
  have hD : va_D A [(h0, .inr (10, vL 67 F6)), (h_tape, .inl (cB, 940, .inl g10))] := hD
  refine lv_aload_n hx hb dX10_bytes4_20 rfl (lv_at hl 1 rfl) ?_
  refine lv_dup hx hb dX10_bytes4_21 rfl ?_
  refine get_f (D := D) (ci := 10) (v := .int v4) (C := RX10) (T := TX10) (N := 67) hx hb hw inAX10 hown hK hP 0 rfl rfl 2 (by decide) (hw _ q_1263) (fun _ h9 => h9) (get_eq eF6) dX10_bytes4_22 ?_
  refine lv_iconst (v := 1) hx hb dX10_bytes4_25 (by decide) ?_
  refine lv_iadd hx hb dX10_bytes4_26 ?_
  refine lv_topi (fun v11 ev11 => ?_)
  have bv11 : v11.toInt = v4.toInt + 1 := by rw [ev11]; exact add_k rfl rfl k5 ⟨Int.le_refl _, Int.le_refl _⟩ (by decide)
  have k12 : 2 ≤ v11.toInt ∧ v11.toInt ≤ 938 := add_r bv11 k5 ⟨Int.le_refl _, Int.le_refl _⟩ (by decide)
  refine put_f (D := D) (ci := 10) (v := .int v11) (ty := .int) (C := RX10) (T := TX10) (N := 67) hx hb hw inAX10 tyX10 tyX10_ok nmX10 hown hK hP hD hS 0 rfl rfl 2 (by decide) (hw _ q_1263) (fun _ h9 => h9) rfl (by decide +kernel) rfl rfl dX10_bytes4_27 (fun H locs F13 eF13 hP hD hS => ?_)
  have hP : va_P D vwCl [(h0, .inr (10, vL 67 F13)), (h_tape, .inl (cB, 940, .inl g10))] H := hP
  have hD : va_D A [(h0, .inr (10, vL 67 F13)), (h_tape, .inl (cB, 940, .inl g10))] := hD
  refine lv_iinc (v := 8) (lv' := [(2, .int 8), (0, .ref h0), (1, .int p0)]) hx hb dX10_bytes4_30 hl (k := 0) rfl (by decide +kernel) (by decide) rfl (fun ls hl => ?_)
  refine lv_goto (tgt := 3) hx hb dX10_bytes4_33 (by decide) ?_
  refine lv_iload_n hx hb dX10_bytes4_3 rfl (lv_at hl 0 rfl) ?_
  refine lv_if_lt (tgt := 36) hx hb dX10_bytes4_4 (by decide) (fun g => absurd g (by decide)) (fun _ => ?_)
  refine lv_aload_n hx hb dX10_bytes4_7 rfl (lv_at hl 1 rfl) ?_
  have n14 : F13 1 = .ref h_tape := (get_ne eF13 (by decide) n7)
  refine get_f (D := D) (ci := 10) (v := .ref h_tape) (C := RX10) (T := TX10) (N := 67) hx hb hw inAX10 hown hK hP 0 rfl rfl 1 (by decide) (hw _ q_1262) (fun _ h9 => h9) n14 dX10_bytes4_8 ?_
  refine lv_aload_n hx hb dX10_bytes4_11 rfl (lv_at hl 1 rfl) ?_
  refine get_f (D := D) (ci := 10) (v := .int v11) (C := RX10) (T := TX10) (N := 67) hx hb hw inAX10 hown hK hP 0 rfl rfl 2 (by decide) (hw _ q_1263) (fun _ h9 => h9) (get_eq eF13) dX10_bytes4_12 ?_
  refine lv_iload_n hx hb dX10_bytes4_15 rfl (lv_at hl 2 rfl) ?_
  refine lv_iload_n hx hb dX10_bytes4_16 rfl (lv_at hl 0 rfl) ?_
  refine lv_ishr hx hb dX10_bytes4_17 ?_
  refine lv_topi (fun v15 ev15 => ?_)
  obtain ⟨v16, ev16⟩ : ∃ z : Int32, (v15 : Int32).toInt8.toInt32 = z := ⟨_, rfl⟩
  refine lv_i2b (v := v16) hx hb dX10_bytes4_18 ev16 ?_
  obtain ⟨g17, eg17⟩ : ∃ z : Nat → Int32, upd g10 v11.toNatClampNeg (vp_nar .byte v16) = z := ⟨_, rfl⟩
  refine bast_g hx hb hK hP hD hS 1 2 rfl rfl (ix_k k12 (by decide) (by decide)) eg17 dX10_bytes4_19 (fun H locs hP hD hS => ?_)
  have hP : va_P D vwCl [(h0, .inr (10, vL 67 F13)), (h_tape, .inl (cB, 940, .inl g17))] H := hP
  have hD : va_D A [(h0, .inr (10, vL 67 F13)), (h_tape, .inl (cB, 940, .inl g17))] := hD
  refine lv_aload_n hx hb dX10_bytes4_20 rfl (lv_at hl 1 rfl) ?_
  refine lv_dup hx hb dX10_bytes4_21 rfl ?_
  refine get_f (D := D) (ci := 10) (v := .int v11) (C := RX10) (T := TX10) (N := 67) hx hb hw inAX10 hown hK hP 0 rfl rfl 2 (by decide) (hw _ q_1263) (fun _ h9 => h9) (get_eq eF13) dX10_bytes4_22 ?_
  refine lv_iconst (v := 1) hx hb dX10_bytes4_25 (by decide) ?_
  refine lv_iadd hx hb dX10_bytes4_26 ?_
  refine lv_topi (fun v18 ev18 => ?_)
  have bv18 : v18.toInt = v11.toInt + 1 := by rw [ev18]; exact add_k rfl rfl k12 ⟨Int.le_refl _, Int.le_refl _⟩ (by decide)
  have k19 : 3 ≤ v18.toInt ∧ v18.toInt ≤ 939 := add_r bv18 k12 ⟨Int.le_refl _, Int.le_refl _⟩ (by decide)
  refine put_f (D := D) (ci := 10) (v := .int v18) (ty := .int) (C := RX10) (T := TX10) (N := 67) hx hb hw inAX10 tyX10 tyX10_ok nmX10 hown hK hP hD hS 0 rfl rfl 2 (by decide) (hw _ q_1263) (fun _ h9 => h9) rfl (by decide +kernel) rfl rfl dX10_bytes4_27 (fun H locs F20 eF20 hP hD hS => ?_)
  have hP : va_P D vwCl [(h0, .inr (10, vL 67 F20)), (h_tape, .inl (cB, 940, .inl g17))] H := hP
  have hD : va_D A [(h0, .inr (10, vL 67 F20)), (h_tape, .inl (cB, 940, .inl g17))] := hD
  refine lv_iinc (v := 0) (lv' := [(2, .int 0), (0, .ref h0), (1, .int p0)]) hx hb dX10_bytes4_30 hl (k := 0) rfl (by decide +kernel) (by decide) rfl (fun ls hl => ?_)
  refine lv_goto (tgt := 3) hx hb dX10_bytes4_33 (by decide) ?_
  refine lv_iload_n hx hb dX10_bytes4_3 rfl (lv_at hl 0 rfl) ?_
  refine lv_if_lt (tgt := 36) hx hb dX10_bytes4_4 (by decide) (fun g => absurd g (by decide)) (fun _ => ?_)
  refine lv_aload_n hx hb dX10_bytes4_7 rfl (lv_at hl 1 rfl) ?_
  have n21 : F20 1 = .ref h_tape := (get_ne eF20 (by decide) n14)
  refine get_f (D := D) (ci := 10) (v := .ref h_tape) (C := RX10) (T := TX10) (N := 67) hx hb hw inAX10 hown hK hP 0 rfl rfl 1 (by decide) (hw _ q_1262) (fun _ h9 => h9) n21 dX10_bytes4_8 ?_
  refine lv_aload_n hx hb dX10_bytes4_11 rfl (lv_at hl 1 rfl) ?_
  refine get_f (D := D) (ci := 10) (v := .int v18) (C := RX10) (T := TX10) (N := 67) hx hb hw inAX10 hown hK hP 0 rfl rfl 2 (by decide) (hw _ q_1263) (fun _ h9 => h9) (get_eq eF20) dX10_bytes4_12 ?_
  refine lv_iload_n hx hb dX10_bytes4_15 rfl (lv_at hl 2 rfl) ?_
  refine lv_iload_n hx hb dX10_bytes4_16 rfl (lv_at hl 0 rfl) ?_
  refine lv_ishr hx hb dX10_bytes4_17 ?_
  refine lv_topi (fun v22 ev22 => ?_)
  obtain ⟨v23, ev23⟩ : ∃ z : Int32, (v22 : Int32).toInt8.toInt32 = z := ⟨_, rfl⟩
  refine lv_i2b (v := v23) hx hb dX10_bytes4_18 ev23 ?_
  obtain ⟨g24, eg24⟩ : ∃ z : Nat → Int32, upd g17 v18.toNatClampNeg (vp_nar .byte v23) = z := ⟨_, rfl⟩
  refine bast_g hx hb hK hP hD hS 1 2 rfl rfl (ix_k k19 (by decide) (by decide)) eg24 dX10_bytes4_19 (fun H locs hP hD hS => ?_)
  have hP : va_P D vwCl [(h0, .inr (10, vL 67 F20)), (h_tape, .inl (cB, 940, .inl g24))] H := hP
  have hD : va_D A [(h0, .inr (10, vL 67 F20)), (h_tape, .inl (cB, 940, .inl g24))] := hD
  refine lv_aload_n hx hb dX10_bytes4_20 rfl (lv_at hl 1 rfl) ?_
  refine lv_dup hx hb dX10_bytes4_21 rfl ?_
  refine get_f (D := D) (ci := 10) (v := .int v18) (C := RX10) (T := TX10) (N := 67) hx hb hw inAX10 hown hK hP 0 rfl rfl 2 (by decide) (hw _ q_1263) (fun _ h9 => h9) (get_eq eF20) dX10_bytes4_22 ?_
  refine lv_iconst (v := 1) hx hb dX10_bytes4_25 (by decide) ?_
  refine lv_iadd hx hb dX10_bytes4_26 ?_
  refine lv_topi (fun v25 ev25 => ?_)
  have bv25 : v25.toInt = v18.toInt + 1 := by rw [ev25]; exact add_k rfl rfl k19 ⟨Int.le_refl _, Int.le_refl _⟩ (by decide)
  have k26 : 4 ≤ v25.toInt ∧ v25.toInt ≤ 940 := add_r bv25 k19 ⟨Int.le_refl _, Int.le_refl _⟩ (by decide)
  refine put_f (D := D) (ci := 10) (v := .int v25) (ty := .int) (C := RX10) (T := TX10) (N := 67) hx hb hw inAX10 tyX10 tyX10_ok nmX10 hown hK hP hD hS 0 rfl rfl 2 (by decide) (hw _ q_1263) (fun _ h9 => h9) rfl (by decide +kernel) rfl rfl dX10_bytes4_27 (fun H locs F27 eF27 hP hD hS => ?_)
  have hP : va_P D vwCl [(h0, .inr (10, vL 67 F27)), (h_tape, .inl (cB, 940, .inl g24))] H := hP
  have hD : va_D A [(h0, .inr (10, vL 67 F27)), (h_tape, .inl (cB, 940, .inl g24))] := hD
  refine lv_iinc (v := (-8)) (lv' := [(2, .int (-8)), (0, .ref h0), (1, .int p0)]) hx hb dX10_bytes4_30 hl (k := 0) rfl (by decide +kernel) (by decide) rfl (fun ls hl => ?_)
  refine lv_goto (tgt := 3) hx hb dX10_bytes4_33 (by decide) ?_
  refine lv_iload_n hx hb dX10_bytes4_3 rfl (lv_at hl 0 rfl) ?_
  refine lv_if_lt (tgt := 36) hx hb dX10_bytes4_4 (by decide) (fun _ => ?_) (fun g => absurd (by decide) g)
  exact ret_v hx hb hr hlocks hS hP hD dX10_bytes4_36 (Nat.le_of_ble_eq_true rfl) (Nat.le_of_ble_eq_true rfl) ⟨F27, v25, g24, (SAME.up eF27 (SAME.up eF20 (SAME.up eF13 (SAME.up eF6 SAME.rf (by decide)) (by decide)) (by decide)) (by decide)), (get_eq eF27), k26, (by omega), rfl⟩
set_option maxHeartbeats 4000000 in
set_option maxRecDepth 100000 in
theorem m_X10_feed (l : Launch) (D : va_G) (cI cJ cB cP cM cZ : ClassId) (h0 : Nat) (h_tape : Nat) (Fh : Nat → Value) (x_length : Int32) (f_tape : Nat → Int32) (p0 : Int32) (p1 : Int32) (p2 : Int32) (p3 : Int32) (p4 : Int32) (sz : Nat) (e_tape : Fh 1 = .ref h_tape) (e_length : Fh 2 = .int x_length) (i_x_length : IR 0 940 x_length) : CI l yX10_feed cX10_feed 6 (some .int) { frames := 1, cells := 0, slots := 0, locals := 22 } (GG D cI cJ cB cP cM cZ) D [(h0, .inr (10, vL 67 Fh)), (h_tape, .inl (cB, 940, .inl f_tape))] sz [.ref h0, .int p0, .int p1, .int p2, .int p3, .int p4] (fun (r : Int32) (u : va_W) => ∃ (Gh : Nat → Value) (y_length : Int32) (g_tape : Nat → Int32), SAME [0, 2] Fh Gh ∧ Gh 0 = .int 0 ∧ Gh 2 = .int y_length ∧ IR 20 940 y_length ∧ IR (-1) 940 r ∧ u = [(h0, .inr (10, vL 67 Gh)), (h_tape, .inl (cB, 940, .inl g_tape))]) := by
  refine CI_mk (by decide) (Nat.le_of_ble_eq_true rfl) ?_
  intro p e s m below meth c A ls E hAe hG hsz hP hD hA hS hl
  obtain ⟨hx, hb, hr, hw, hown, hlocks, hml, hnm⟩ := E
  have hK := hG.1
  have i_x_length : 0 ≤ x_length.toInt ∧ x_length.toInt ≤ 940 := i_x_length
  have hl : lv_has ls 6 [(0, .ref h0), (1, .int p0), (2, .int p1), (3, .int p2), (4, .int p3), (5, .int p4)] := hl
  refine lv_aload_n hx hb dX10_feed_0 rfl (lv_at hl 0 rfl) ?_
  refine lv_iconst (v := 0) hx hb dX10_feed_1 (by decide) ?_
  refine put_f (D := D) (ci := 10) (v := .int 0) (ty := .int) (C := RX10) (T := TX10) (N := 67) hx hb hw inAX10 tyX10 tyX10_ok nmX10 hown hK hP hD hS 0 rfl rfl 0 (by decide) (hw _ q_1261) (fun _ h9 => h9) rfl (by decide +kernel) rfl rfl dX10_feed_2 (fun H locs F1 eF1 hP hD hS => ?_)
  have hP : va_P D vwCl [(h0, .inr (10, vL 67 F1)), (h_tape, .inl (cB, 940, .inl f_tape))] H := hP
  have hD : va_D A [(h0, .inr (10, vL 67 F1)), (h_tape, .inl (cB, 940, .inl f_tape))] := hD
  refine lv_aload_n hx hb dX10_feed_5 rfl (lv_at hl 0 rfl) ?_
  have n2 : F1 2 = .int x_length := (get_ne eF1 (by decide) e_length)
  refine get_f (D := D) (ci := 10) (v := .int x_length) (C := RX10) (T := TX10) (N := 67) hx hb hw inAX10 hown hK hP 0 rfl rfl 2 (by decide) (hw _ q_1263) (fun _ h9 => h9) n2 dX10_feed_6 ?_
  refine lv_bipush (v := 20) hx hb dX10_feed_9 (by decide) ?_
  refine lv_iadd hx hb dX10_feed_11 ?_
  refine lv_topi (fun v3 ev3 => ?_)
  have bv3 : v3.toInt = x_length.toInt + 20 := by rw [ev3]; exact add_k rfl rfl i_x_length ⟨Int.le_refl _, Int.le_refl _⟩ (by decide)
  have k4 : 20 ≤ v3.toInt ∧ v3.toInt ≤ 960 := add_r bv3 i_x_length ⟨Int.le_refl _, Int.le_refl _⟩ (by decide)
  refine lv_sipush (v := 940) hx hb dX10_feed_12 (by decide) ?_
  refine lv_icmp_le (tgt := 20) hx hb dX10_feed_15 (by decide) (fun c5 => ?_) (fun c5 => ?_)
  · have dc5 : v3.toInt ≤ 940 := le_i (a := v3.toInt) (b := 940) rfl rfl c5
    have k6 : 20 ≤ v3.toInt ∧ v3.toInt ≤ 940 := ⟨k4.1, Int.le_trans dc5 (Int.le_refl _)⟩
    have k7 : 0 ≤ x_length.toInt ∧ x_length.toInt ≤ 920 := ⟨i_x_length.1, lin_hi bv3 k6.2 (by decide)⟩
    refine lv_aload_n hx hb dX10_feed_20 rfl (lv_at hl 0 rfl) ?_
    refine lv_iload_n hx hb dX10_feed_21 rfl (lv_at hl 1 rfl) ?_
    have n8 : F1 1 = .ref h_tape := (get_ne eF1 (by decide) e_tape)
    refine call_Vv (wr := []) (As := [.int p0]) (rest := []) hx hb hml hown hw (m_X10_bytes4 l D cI cJ cB cP cM cZ h0 h_tape F1 x_length f_tape p0 _ n8 n2 (ir_wk k7 (by decide) (by decide))) wV_X10_10_X10_bytes4 dX10_feed_22 hK hP hD hS hA [0, 1] [] rfl rfl (by decide) (by decide) (by decide) 0 10 rfl rfl GG.fb hG.at hl.1 rfl (Nat.le_of_ble_eq_true rfl) ⟨(Nat.le_of_ble_eq_true rfl), (Nat.le_of_ble_eq_true rfl)⟩ ⟨(Nat.le_of_ble_eq_true rfl), (Nat.le_of_ble_eq_true rfl)⟩ (fun u H locs hp hP hD hS => ?_)
    obtain ⟨F10, y11, g12, t13, t14, t15, t16, rfl⟩ := hp
    have hP : va_P D vwCl [(h0, .inr (10, vL 67 F10)), (h_tape, .inl (cB, 940, .inl g12))] H := hP
    have hD : va_D A [(h0, .inr (10, vL 67 F10)), (h_tape, .inl (cB, 940, .inl g12))] := hD
    refine W.widen (k := 0) (n := 0) (Nat.le_of_ble_eq_true rfl) (Nat.le_of_ble_eq_true rfl) ?_
    have k18 : 4 ≤ y11.toInt ∧ y11.toInt ≤ 924 := ⟨by omega, by omega⟩
    refine lv_aload_n hx hb dX10_feed_25 rfl (lv_at hl 0 rfl) ?_
    refine lv_iload_n hx hb dX10_feed_26 rfl (lv_at hl 2 rfl) ?_
    have n19 : F10 1 = .ref h_tape := (SAME.at t13 (by decide) n8)
    refine call_Vv (wr := []) (As := [.int p1]) (rest := []) hx hb hml hown hw (m_X10_bytes4 l D cI cJ cB cP cM cZ h0 h_tape F10 y11 g12 p1 _ n19 t14 (ir_wk k18 (by decide) (by decide))) wV_X10_10_X10_bytes4 dX10_feed_27 hK hP hD hS hA [0, 1] [] rfl rfl (by decide) (by decide) (by decide) 0 10 rfl rfl GG.fb hG.at hl.1 rfl (Nat.le_of_ble_eq_true rfl) ⟨(Nat.le_of_ble_eq_true rfl), (Nat.le_of_ble_eq_true rfl)⟩ ⟨(Nat.le_of_ble_eq_true rfl), (Nat.le_of_ble_eq_true rfl)⟩ (fun u H locs hp hP hD hS => ?_)
    obtain ⟨F21, y22, g23, t24, t25, t26, t27, rfl⟩ := hp
    have hP : va_P D vwCl [(h0, .inr (10, vL 67 F21)), (h_tape, .inl (cB, 940, .inl g23))] H := hP
    have hD : va_D A [(h0, .inr (10, vL 67 F21)), (h_tape, .inl (cB, 940, .inl g23))] := hD
    refine W.widen (k := 0) (n := 0) (Nat.le_of_ble_eq_true rfl) (Nat.le_of_ble_eq_true rfl) ?_
    have k29 : 8 ≤ y22.toInt ∧ y22.toInt ≤ 928 := ⟨by omega, by omega⟩
    refine lv_aload_n hx hb dX10_feed_30 rfl (lv_at hl 0 rfl) ?_
    refine lv_iload_n hx hb dX10_feed_31 rfl (lv_at hl 3 rfl) ?_
    have n30 : F21 1 = .ref h_tape := (SAME.at t24 (by decide) n19)
    refine call_Vv (wr := []) (As := [.int p2]) (rest := []) hx hb hml hown hw (m_X10_bytes4 l D cI cJ cB cP cM cZ h0 h_tape F21 y22 g23 p2 _ n30 t25 (ir_wk k29 (by decide) (by decide))) wV_X10_10_X10_bytes4 dX10_feed_32 hK hP hD hS hA [0, 1] [] rfl rfl (by decide) (by decide) (by decide) 0 10 rfl rfl GG.fb hG.at hl.1 rfl (Nat.le_of_ble_eq_true rfl) ⟨(Nat.le_of_ble_eq_true rfl), (Nat.le_of_ble_eq_true rfl)⟩ ⟨(Nat.le_of_ble_eq_true rfl), (Nat.le_of_ble_eq_true rfl)⟩ (fun u H locs hp hP hD hS => ?_)
    obtain ⟨F32, y33, g34, t35, t36, t37, t38, rfl⟩ := hp
    have hP : va_P D vwCl [(h0, .inr (10, vL 67 F32)), (h_tape, .inl (cB, 940, .inl g34))] H := hP
    have hD : va_D A [(h0, .inr (10, vL 67 F32)), (h_tape, .inl (cB, 940, .inl g34))] := hD
    refine W.widen (k := 0) (n := 0) (Nat.le_of_ble_eq_true rfl) (Nat.le_of_ble_eq_true rfl) ?_
    have k40 : 12 ≤ y33.toInt ∧ y33.toInt ≤ 932 := ⟨by omega, by omega⟩
    refine lv_aload_n hx hb dX10_feed_35 rfl (lv_at hl 0 rfl) ?_
    refine lv_iload hx hb dX10_feed_36 (lv_at hl 4 rfl) ?_
    have n41 : F32 1 = .ref h_tape := (SAME.at t35 (by decide) n30)
    refine call_Vv (wr := []) (As := [.int p3]) (rest := []) hx hb hml hown hw (m_X10_bytes4 l D cI cJ cB cP cM cZ h0 h_tape F32 y33 g34 p3 _ n41 t36 (ir_wk k40 (by decide) (by decide))) wV_X10_10_X10_bytes4 dX10_feed_38 hK hP hD hS hA [0, 1] [] rfl rfl (by decide) (by decide) (by decide) 0 10 rfl rfl GG.fb hG.at hl.1 rfl (Nat.le_of_ble_eq_true rfl) ⟨(Nat.le_of_ble_eq_true rfl), (Nat.le_of_ble_eq_true rfl)⟩ ⟨(Nat.le_of_ble_eq_true rfl), (Nat.le_of_ble_eq_true rfl)⟩ (fun u H locs hp hP hD hS => ?_)
    obtain ⟨F43, y44, g45, t46, t47, t48, t49, rfl⟩ := hp
    have hP : va_P D vwCl [(h0, .inr (10, vL 67 F43)), (h_tape, .inl (cB, 940, .inl g45))] H := hP
    have hD : va_D A [(h0, .inr (10, vL 67 F43)), (h_tape, .inl (cB, 940, .inl g45))] := hD
    refine W.widen (k := 0) (n := 0) (Nat.le_of_ble_eq_true rfl) (Nat.le_of_ble_eq_true rfl) ?_
    have k51 : 16 ≤ y44.toInt ∧ y44.toInt ≤ 936 := ⟨by omega, by omega⟩
    refine lv_aload_n hx hb dX10_feed_41 rfl (lv_at hl 0 rfl) ?_
    refine lv_iload hx hb dX10_feed_42 (lv_at hl 5 rfl) ?_
    have n52 : F43 1 = .ref h_tape := (SAME.at t46 (by decide) n41)
    refine call_Vv (wr := []) (As := [.int p4]) (rest := []) hx hb hml hown hw (m_X10_bytes4 l D cI cJ cB cP cM cZ h0 h_tape F43 y44 g45 p4 _ n52 t47 (ir_wk k51 (by decide) (by decide))) wV_X10_10_X10_bytes4 dX10_feed_44 hK hP hD hS hA [0, 1] [] rfl rfl (by decide) (by decide) (by decide) 0 10 rfl rfl GG.fb hG.at hl.1 rfl (Nat.le_of_ble_eq_true rfl) ⟨(Nat.le_of_ble_eq_true rfl), (Nat.le_of_ble_eq_true rfl)⟩ ⟨(Nat.le_of_ble_eq_true rfl), (Nat.le_of_ble_eq_true rfl)⟩ (fun u H locs hp hP hD hS => ?_)
    obtain ⟨F54, y55, g56, t57, t58, t59, t60, rfl⟩ := hp
    have hP : va_P D vwCl [(h0, .inr (10, vL 67 F54)), (h_tape, .inl (cB, 940, .inl g56))] H := hP
    have hD : va_D A [(h0, .inr (10, vL 67 F54)), (h_tape, .inl (cB, 940, .inl g56))] := hD
    refine W.widen (k := 0) (n := 0) (Nat.le_of_ble_eq_true rfl) (Nat.le_of_ble_eq_true rfl) ?_
    have k62 : 20 ≤ y55.toInt ∧ y55.toInt ≤ 940 := ⟨by omega, by omega⟩
    refine lv_aload_n hx hb dX10_feed_47 rfl (lv_at hl 0 rfl) ?_
    refine get_f (D := D) (ci := 10) (v := .int y55) (C := RX10) (T := TX10) (N := 67) hx hb hw inAX10 hown hK hP 0 rfl rfl 2 (by decide) (hw _ q_1263) (fun _ h9 => h9) t58 dX10_feed_48 ?_
    exact ret_i (v := y55) hx hb hr hlocks hS hP hD dX10_feed_51 rfl (Nat.le_of_ble_eq_true rfl) (Nat.le_of_ble_eq_true rfl) ⟨F54, y55, g56, (SAME.tr (SAME.tr (SAME.tr (SAME.tr (SAME.tr (SAME.up eF1 SAME.rf (by decide)) t13 (by decide)) t24 (by decide)) t35 (by decide)) t46 (by decide)) t57 (by decide)), (SAME.at t57 (by decide) (SAME.at t46 (by decide) (SAME.at t35 (by decide) (SAME.at t24 (by decide) (SAME.at t13 (by decide) (get_eq eF1)))))), t58, k62, (ir_wk k62 (by decide) (by decide)), rfl⟩
  · have dc5 : 940 < v3.toInt := nle_i (a := v3.toInt) (b := 940) rfl rfl c5
    have k63 : 941 ≤ v3.toInt ∧ v3.toInt ≤ 960 := ⟨lo_lt dc5 (Int.le_refl _) (by decide), k4.2⟩
    have k64 : 921 ≤ x_length.toInt ∧ x_length.toInt ≤ 940 := ⟨lin_lo bv3 k63.1 (by decide), i_x_length.2⟩
    refine lv_iconst (v := (-1)) hx hb dX10_feed_18 (by decide) ?_
    exact ret_i (v := (-1)) hx hb hr hlocks hS hP hD dX10_feed_19 rfl (Nat.le_of_ble_eq_true rfl) (Nat.le_of_ble_eq_true rfl) ⟨F1, x_length, f_tape, (SAME.up eF1 SAME.rf (by decide)), (get_eq eF1), n2, (ir_wk k64 (by decide) (by decide)), (show (-1) ≤ ((-1) : Int32).toInt ∧ ((-1) : Int32).toInt ≤ 940 by decide), rfl⟩
set_option maxHeartbeats 4000000 in
set_option maxRecDepth 100000 in
theorem m_X10_end (l : Launch) (D : va_G) (cI cJ cB cP cM cZ : ClassId) (h0 : Nat) (Fh : Nat → Value) (x_length : Int32) (p0 : Int32) (sz : Nat) (e_length : Fh 2 = .int x_length) (i_x_length : IR 0 940 x_length) : CI l yX10_end cX10_end 2 (some .boolean) { frames := 0, cells := 0, slots := 0, locals := 0 } (GG D cI cJ cB cP cM cZ) D [(h0, .inr (10, vL 67 Fh))] sz [.ref h0, .int p0] (fun (r : Int32) (u : va_W) => ∃ (Gh : Nat → Value) (y_length : Int32), SAME [0, 2] Fh Gh ∧ Gh 0 = .int 0 ∧ Gh 2 = .int y_length ∧ IR 0 940 y_length ∧ IR 0 1 r ∧ u = [(h0, .inr (10, vL 67 Gh))]) := by
  refine CI_mk (by decide) (Nat.le_of_ble_eq_true rfl) ?_
  intro p e s m below meth c A ls E hAe hG hsz hP hD hA hS hl
  obtain ⟨hx, hb, hr, hw, hown, hlocks, hml, hnm⟩ := E
  have hK := hG.1
  have i_x_length : 0 ≤ x_length.toInt ∧ x_length.toInt ≤ 940 := i_x_length
  have hl : lv_has ls 2 [(0, .ref h0), (1, .int p0)] := hl
  refine lv_aload_n hx hb dX10_end_0 rfl (lv_at hl 0 rfl) ?_
  refine lv_iconst (v := 0) hx hb dX10_end_1 (by decide) ?_
  refine put_f (D := D) (ci := 10) (v := .int 0) (ty := .int) (C := RX10) (T := TX10) (N := 67) hx hb hw inAX10 tyX10 tyX10_ok nmX10 hown hK hP hD hS 0 rfl rfl 0 (by decide) (hw _ q_1261) (fun _ h9 => h9) rfl (by decide +kernel) rfl rfl dX10_end_2 (fun H locs F1 eF1 hP hD hS => ?_)
  have hP : va_P D vwCl [(h0, .inr (10, vL 67 F1))] H := hP
  have hD : va_D A [(h0, .inr (10, vL 67 F1))] := hD
  refine lv_iload_n hx hb dX10_end_5 rfl (lv_at hl 1 rfl) ?_
  refine lv_if_lt (tgt := 17) hx hb dX10_end_6 (by decide) (fun c2 => ?_) (fun c2 => ?_)
  · have dc2 : p0.toInt < 0 := lt_i (a := p0.toInt) (b := 0) rfl rfl c2
    have k3 : (-2147483648) ≤ p0.toInt ∧ p0.toInt ≤ (-1) := ⟨(ir_any _).1, up_lt dc2 (Int.le_refl _) (by decide)⟩
    refine lv_iconst (v := 0) hx hb dX10_end_17 (by decide) ?_
    exact ret_i (v := 0) hx hb hr hlocks hS hP hD dX10_end_18 rfl (Nat.le_of_ble_eq_true rfl) (Nat.le_of_ble_eq_true rfl) ⟨F1, x_length, (SAME.up eF1 SAME.rf (by decide)), (get_eq eF1), (get_ne eF1 (by decide) e_length), i_x_length, (show 0 ≤ (0 : Int32).toInt ∧ (0 : Int32).toInt ≤ 1 by decide), rfl⟩
  · have dc2 : 0 ≤ p0.toInt := nlt_i (a := p0.toInt) (b := 0) rfl rfl c2
    have k4 : 0 ≤ p0.toInt ∧ p0.toInt ≤ 2147483647 := ⟨Int.le_trans (Int.le_refl _) dc2, (ir_any _).2⟩
    refine lv_iload_n hx hb dX10_end_9 rfl (lv_at hl 1 rfl) ?_
    refine lv_aload_n hx hb dX10_end_10 rfl (lv_at hl 0 rfl) ?_
    have n5 : F1 2 = .int x_length := (get_ne eF1 (by decide) e_length)
    refine get_f (D := D) (ci := 10) (v := .int x_length) (C := RX10) (T := TX10) (N := 67) hx hb hw inAX10 hown hK hP 0 rfl rfl 2 (by decide) (hw _ q_1263) (fun _ h9 => h9) n5 dX10_end_11 ?_
    refine lv_icmp_le (tgt := 19) hx hb dX10_end_14 (by decide) (fun c6 => ?_) (fun c6 => ?_)
    · have dc6 : p0.toInt ≤ x_length.toInt := le_i (a := p0.toInt) (b := x_length.toInt) rfl rfl c6
      have k7 : 0 ≤ p0.toInt ∧ p0.toInt ≤ 940 := ⟨k4.1, Int.le_trans dc6 i_x_length.2⟩
      refine lv_aload_n hx hb dX10_end_19 rfl (lv_at hl 0 rfl) ?_
      refine lv_iload_n hx hb dX10_end_20 rfl (lv_at hl 1 rfl) ?_
      refine put_f (D := D) (ci := 10) (v := .int p0) (ty := .int) (C := RX10) (T := TX10) (N := 67) hx hb hw inAX10 tyX10 tyX10_ok nmX10 hown hK hP hD hS 0 rfl rfl 2 (by decide) (hw _ q_1263) (fun _ h9 => h9) rfl (by decide +kernel) rfl rfl dX10_end_21 (fun H locs F8 eF8 hP hD hS => ?_)
      have hP : va_P D vwCl [(h0, .inr (10, vL 67 F8))] H := hP
      have hD : va_D A [(h0, .inr (10, vL 67 F8))] := hD
      refine lv_iconst (v := 1) hx hb dX10_end_24 (by decide) ?_
      exact ret_i (v := 1) hx hb hr hlocks hS hP hD dX10_end_25 rfl (Nat.le_of_ble_eq_true rfl) (Nat.le_of_ble_eq_true rfl) ⟨F8, p0, (SAME.up eF8 (SAME.up eF1 SAME.rf (by decide)) (by decide)), (get_ne eF8 (by decide) (get_eq eF1)), (get_eq eF8), k7, (show 0 ≤ (1 : Int32).toInt ∧ (1 : Int32).toInt ≤ 1 by decide), rfl⟩
    · have dc6 : x_length.toInt < p0.toInt := nle_i (a := p0.toInt) (b := x_length.toInt) rfl rfl c6
      have k9 : 1 ≤ p0.toInt ∧ p0.toInt ≤ 2147483647 := ⟨lo_lt dc6 i_x_length.1 (by decide), k4.2⟩
      refine lv_iconst (v := 0) hx hb dX10_end_17 (by decide) ?_
      exact ret_i (v := 0) hx hb hr hlocks hS hP hD dX10_end_18 rfl (Nat.le_of_ble_eq_true rfl) (Nat.le_of_ble_eq_true rfl) ⟨F1, x_length, (SAME.up eF1 SAME.rf (by decide)), (get_eq eF1), n5, i_x_length, (show 0 ≤ (0 : Int32).toInt ∧ (0 : Int32).toInt ≤ 1 by decide), rfl⟩
set_option maxHeartbeats 4000000 in
set_option maxRecDepth 100000 in
theorem m_X10_taken (l : Launch) (D : va_G) (cI cJ cB cP cM cZ : ClassId) (h0 : Nat) (Fh : Nat → Value) (x_length : Int32) (p0 : Int32) (sz : Nat) (e_length : Fh 2 = .int x_length) (i_x_length : IR 0 940 x_length) (i_p0 : IR 200 940 p0) : CV l yX10_taken cX10_taken 2 none { frames := 0, cells := 0, slots := 0, locals := 0 } (GG D cI cJ cB cP cM cZ) D [(h0, .inr (10, vL 67 Fh))] sz [.ref h0, .int p0] (fun (u : va_W) => ∃ (Gh : Nat → Value), SAME [2, 3, 4, 5] Fh Gh ∧ Gh 2 = .int 0 ∧ Gh 3 = .int x_length ∧ Gh 4 = .int 0 ∧ Gh 5 = .int p0 ∧ u = [(h0, .inr (10, vL 67 Gh))]) := by
  refine CV_mk (by decide) (Nat.le_of_ble_eq_true rfl) ?_
  intro p e s m below meth c A ls E hAe hG hsz hP hD hA hS hl
  obtain ⟨hx, hb, hr, hw, hown, hlocks, hml, hnm⟩ := E
  have hK := hG.1
  have i_x_length : 0 ≤ x_length.toInt ∧ x_length.toInt ≤ 940 := i_x_length
  have i_p0 : 200 ≤ p0.toInt ∧ p0.toInt ≤ 940 := i_p0
  have hl : lv_has ls 2 [(0, .ref h0), (1, .int p0)] := hl
  refine lv_aload_n hx hb dX10_taken_0 rfl (lv_at hl 0 rfl) ?_
  refine lv_aload_n hx hb dX10_taken_1 rfl (lv_at hl 0 rfl) ?_
  refine get_f (D := D) (ci := 10) (v := .int x_length) (C := RX10) (T := TX10) (N := 67) hx hb hw inAX10 hown hK hP 0 rfl rfl 2 (by decide) (hw _ q_1263) (fun _ h9 => h9) e_length dX10_taken_2 ?_
  refine put_f (D := D) (ci := 10) (v := .int x_length) (ty := .int) (C := RX10) (T := TX10) (N := 67) hx hb hw inAX10 tyX10 tyX10_ok nmX10 hown hK hP hD hS 0 rfl rfl 3 (by decide) (hw _ q_1264) (fun _ h9 => h9) rfl (by decide +kernel) rfl rfl dX10_taken_5 (fun H locs F1 eF1 hP hD hS => ?_)
  have hP : va_P D vwCl [(h0, .inr (10, vL 67 F1))] H := hP
  have hD : va_D A [(h0, .inr (10, vL 67 F1))] := hD
  refine lv_aload_n hx hb dX10_taken_8 rfl (lv_at hl 0 rfl) ?_
  refine lv_iconst (v := 0) hx hb dX10_taken_9 (by decide) ?_
  refine put_f (D := D) (ci := 10) (v := .int 0) (ty := .int) (C := RX10) (T := TX10) (N := 67) hx hb hw inAX10 tyX10 tyX10_ok nmX10 hown hK hP hD hS 0 rfl rfl 2 (by decide) (hw _ q_1263) (fun _ h9 => h9) rfl (by decide +kernel) rfl rfl dX10_taken_10 (fun H locs F2 eF2 hP hD hS => ?_)
  have hP : va_P D vwCl [(h0, .inr (10, vL 67 F2))] H := hP
  have hD : va_D A [(h0, .inr (10, vL 67 F2))] := hD
  refine lv_aload_n hx hb dX10_taken_13 rfl (lv_at hl 0 rfl) ?_
  refine lv_iconst (v := 0) hx hb dX10_taken_14 (by decide) ?_
  refine put_f (D := D) (ci := 10) (v := .int 0) (ty := .int) (C := RX10) (T := TX10) (N := 67) hx hb hw inAX10 tyX10 tyX10_ok nmX10 hown hK hP hD hS 0 rfl rfl 4 (by decide) (hw _ q_1265) (fun _ h9 => h9) rfl (by decide +kernel) rfl rfl dX10_taken_15 (fun H locs F3 eF3 hP hD hS => ?_)
  have hP : va_P D vwCl [(h0, .inr (10, vL 67 F3))] H := hP
  have hD : va_D A [(h0, .inr (10, vL 67 F3))] := hD
  refine lv_aload_n hx hb dX10_taken_18 rfl (lv_at hl 0 rfl) ?_
  refine lv_iload_n hx hb dX10_taken_19 rfl (lv_at hl 1 rfl) ?_
  refine put_f (D := D) (ci := 10) (v := .int p0) (ty := .int) (C := RX10) (T := TX10) (N := 67) hx hb hw inAX10 tyX10 tyX10_ok nmX10 hown hK hP hD hS 0 rfl rfl 5 (by decide) (hw _ q_1266) (fun _ h9 => h9) rfl (by decide +kernel) rfl rfl dX10_taken_20 (fun H locs F4 eF4 hP hD hS => ?_)
  have hP : va_P D vwCl [(h0, .inr (10, vL 67 F4))] H := hP
  have hD : va_D A [(h0, .inr (10, vL 67 F4))] := hD
  exact ret_v hx hb hr hlocks hS hP hD dX10_taken_23 (Nat.le_of_ble_eq_true rfl) (Nat.le_of_ble_eq_true rfl) ⟨F4, (SAME.up eF4 (SAME.up eF3 (SAME.up eF2 (SAME.up eF1 SAME.rf (by decide)) (by decide)) (by decide)) (by decide)), (get_ne eF4 (by decide) (get_ne eF3 (by decide) (get_eq eF2))), (get_ne eF4 (by decide) (get_ne eF3 (by decide) (get_ne eF2 (by decide) (get_eq eF1)))), (get_ne eF4 (by decide) (get_eq eF3)), (get_eq eF4), rfl⟩
set_option maxHeartbeats 4000000 in
set_option maxRecDepth 100000 in
theorem m_X10_isIn (l : Launch) (D : va_G) (cI cJ cB cP cM cZ : ClassId) (p0 : Int32) (p1 : Int32) (p2 : Int32) (sz : Nat)  : CI l yX10_isIn cX10_isIn 3 (some .boolean) { frames := 0, cells := 0, slots := 0, locals := 0 } (GG D cI cJ cB cP cM cZ) D [] sz [.int p0, .int p1, .int p2] (fun (r : Int32) (u : va_W) => (p0.toInt < p1.toInt ∧ r = 0 ∧ u = []) ∨ (p1.toInt ≤ p0.toInt ∧ p2.toInt < p0.toInt ∧ r = 0 ∧ u = []) ∨ (p1.toInt ≤ p0.toInt ∧ p0.toInt ≤ p2.toInt ∧ r = 1 ∧ u = [])) := by
  refine CI_mk (by decide) (Nat.le_of_ble_eq_true rfl) ?_
  intro p e s m below meth c A ls E hAe hG hsz hP hD hA hS hl
  obtain ⟨hx, hb, hr, hw, hown, hlocks, hml, hnm⟩ := E
  have hK := hG.1
  have hl : lv_has ls 3 [(0, .int p0), (1, .int p1), (2, .int p2)] := hl
  refine lv_iload_n hx hb dX10_isIn_0 rfl (lv_at hl 0 rfl) ?_
  refine lv_iload_n hx hb dX10_isIn_1 rfl (lv_at hl 1 rfl) ?_
  refine lv_icmp_lt (tgt := 14) hx hb dX10_isIn_2 (by decide) (fun c1 => ?_) (fun c1 => ?_)
  · have dc1 : p0.toInt < p1.toInt := lt_i (a := p0.toInt) (b := p1.toInt) rfl rfl c1
    have k2 : (-2147483648) ≤ p0.toInt ∧ p0.toInt ≤ 2147483646 := ⟨(ir_any _).1, up_lt dc1 (ir_any _).2 (by decide)⟩
    have k3 : (-2147483647) ≤ p1.toInt ∧ p1.toInt ≤ 2147483647 := ⟨lo_lt dc1 (ir_any _).1 (by decide), (ir_any _).2⟩
    refine lv_iconst (v := 0) hx hb dX10_isIn_14 (by decide) ?_
    exact ret_i (v := 0) hx hb hr hlocks hS hP hD dX10_isIn_15 rfl (Nat.le_of_ble_eq_true rfl) (Nat.le_of_ble_eq_true rfl) (Or.inl ⟨dc1, rfl, rfl⟩)
  · have dc1 : p1.toInt ≤ p0.toInt := nlt_i (a := p0.toInt) (b := p1.toInt) rfl rfl c1
    refine lv_iload_n hx hb dX10_isIn_5 rfl (lv_at hl 0 rfl) ?_
    refine lv_iload_n hx hb dX10_isIn_6 rfl (lv_at hl 2 rfl) ?_
    refine lv_icmp_gt (tgt := 14) hx hb dX10_isIn_7 (by decide) (fun c4 => ?_) (fun c4 => ?_)
    · have dc4 : p2.toInt < p0.toInt := lt_i (a := p2.toInt) (b := p0.toInt) rfl rfl c4
      have k5 : (-2147483648) ≤ p2.toInt ∧ p2.toInt ≤ 2147483646 := ⟨(ir_any _).1, up_lt dc4 (ir_any _).2 (by decide)⟩
      have k6 : (-2147483647) ≤ p0.toInt ∧ p0.toInt ≤ 2147483647 := ⟨lo_lt dc4 (ir_any _).1 (by decide), (ir_any _).2⟩
      refine lv_iconst (v := 0) hx hb dX10_isIn_14 (by decide) ?_
      exact ret_i (v := 0) hx hb hr hlocks hS hP hD dX10_isIn_15 rfl (Nat.le_of_ble_eq_true rfl) (Nat.le_of_ble_eq_true rfl) (Or.inr (Or.inl ⟨dc1, dc4, rfl, rfl⟩))
    · have dc4 : p0.toInt ≤ p2.toInt := nlt_i (a := p2.toInt) (b := p0.toInt) rfl rfl c4
      refine lv_iconst (v := 1) hx hb dX10_isIn_10 (by decide) ?_
      refine lv_goto (tgt := 15) hx hb dX10_isIn_11 (by decide) ?_
      exact ret_i (v := 1) hx hb hr hlocks hS hP hD dX10_isIn_15 rfl (Nat.le_of_ble_eq_true rfl) (Nat.le_of_ble_eq_true rfl) (Or.inr (Or.inr ⟨dc1, dc4, rfl, rfl⟩))
set_option maxHeartbeats 4000000 in
set_option maxRecDepth 100000 in
theorem m_X10_bitOf (l : Launch) (D : va_G) (cI cJ cB cP cM cZ : ClassId) (p0 : Int32) (p1 : Int32) (sz : Nat)  : CI l yX10_bitOf cX10_bitOf 2 (some .boolean) { frames := 0, cells := 0, slots := 0, locals := 0 } (GG D cI cJ cB cP cM cZ) D [] sz [.int p0, .int p1] (fun (r : Int32) (u : va_W) => (r = 0 ∧ u = []) ∨ (r = 1 ∧ u = [])) := by
  refine CI_mk (by decide) (Nat.le_of_ble_eq_true rfl) ?_
  intro p e s m below meth c A ls E hAe hG hsz hP hD hA hS hl
  obtain ⟨hx, hb, hr, hw, hown, hlocks, hml, hnm⟩ := E
  have hK := hG.1
  have hl : lv_has ls 2 [(0, .int p0), (1, .int p1)] := hl
  refine lv_iload_n hx hb dX10_bitOf_0 rfl (lv_at hl 0 rfl) ?_
  refine lv_iload_n hx hb dX10_bitOf_1 rfl (lv_at hl 1 rfl) ?_
  refine lv_ishr hx hb dX10_bitOf_2 ?_
  refine lv_topi (fun v1 ev1 => ?_)
  refine lv_iconst (v := 1) hx hb dX10_bitOf_3 (by decide) ?_
  refine lv_iand hx hb dX10_bitOf_4 ?_
  refine lv_topi (fun v2 ev2 => ?_)
  have k3 : 0 ≤ v2.toInt ∧ v2.toInt ≤ 1 := by rw [ev2]; exact and_i v1 1 (by decide)
  refine lv_iconst (v := 1) hx hb dX10_bitOf_5 (by decide) ?_
  refine lv_icmp_ne (tgt := 13) hx hb dX10_bitOf_6 (by decide) (fun c4 => ?_) (fun c4 => ?_)
  · have dc4 : v2.toInt ≠ 1 := ne_i (a := v2.toInt) (b := 1) rfl rfl c4
    have k5 : 0 ≤ v2.toInt ∧ v2.toInt ≤ 0 := ⟨k3.1, ne_hi dc4 k3.2 ⟨Int.le_refl _, Int.le_refl _⟩ (by decide)⟩
    refine lv_iconst (v := 0) hx hb dX10_bitOf_13 (by decide) ?_
    exact ret_i (v := 0) hx hb hr hlocks hS hP hD dX10_bitOf_14 rfl (Nat.le_of_ble_eq_true rfl) (Nat.le_of_ble_eq_true rfl) (Or.inl ⟨rfl, rfl⟩)
  · have dc4 : v2.toInt = 1 := eq_i (a := v2.toInt) (b := 1) rfl rfl c4
    have k6 : 1 ≤ v2.toInt ∧ v2.toInt ≤ 1 := ⟨Int.le_trans (Int.le_refl _) (Int.le_of_eq dc4.symm), k3.2⟩
    refine lv_iconst (v := 1) hx hb dX10_bitOf_9 (by decide) ?_
    refine lv_goto (tgt := 14) hx hb dX10_bitOf_10 (by decide) ?_
    exact ret_i (v := 1) hx hb hr hlocks hS hP hD dX10_bitOf_14 rfl (Nat.le_of_ble_eq_true rfl) (Nat.le_of_ble_eq_true rfl) (Or.inr ⟨rfl, rfl⟩)
def fn_X10_off (p0 : Int32) (p1 : Int32) : Int32 := (if p1 ≤ p0 then (p0 - p1) else (p1 - p0))
set_option maxHeartbeats 4000000 in
set_option maxRecDepth 100000 in
theorem m_X10_off (l : Launch) (D : va_G) (cI cJ cB cP cM cZ : ClassId) (p0 : Int32) (p1 : Int32) (sz : Nat)  : CI l yX10_off cX10_off 2 (some .int) { frames := 0, cells := 0, slots := 0, locals := 0 } (GG D cI cJ cB cP cM cZ) D [] sz [.int p0, .int p1] (fun (r : Int32) (u : va_W) => r = fn_X10_off p0 p1 ∧ u = []) := by
  refine CI_mk (by decide) (Nat.le_of_ble_eq_true rfl) ?_
  intro p e s m below meth c A ls E hAe hG hsz hP hD hA hS hl
  obtain ⟨hx, hb, hr, hw, hown, hlocks, hml, hnm⟩ := E
  have hK := hG.1
  have hl : lv_has ls 2 [(0, .int p0), (1, .int p1)] := hl
  refine lv_iload_n hx hb dX10_off_0 rfl (lv_at hl 0 rfl) ?_
  refine lv_iload_n hx hb dX10_off_1 rfl (lv_at hl 1 rfl) ?_
  refine lv_icmp_ge (tgt := 11) hx hb dX10_off_2 (by decide) (fun c1 => ?_) (fun c1 => ?_)
  · have dc1 : p1.toInt ≤ p0.toInt := le_i (a := p1.toInt) (b := p0.toInt) rfl rfl c1
    refine lv_iload_n hx hb dX10_off_11 rfl (lv_at hl 0 rfl) ?_
    refine lv_iload_n hx hb dX10_off_12 rfl (lv_at hl 1 rfl) ?_
    refine lv_isub hx hb dX10_off_13 ?_
    refine lv_topi (fun v2 ev2 => ?_)
    exact ret_i (v := v2) hx hb hr hlocks hS hP hD dX10_off_14 rfl (Nat.le_of_ble_eq_true rfl) (Nat.le_of_ble_eq_true rfl) ⟨(by subst_vars; unfold fn_X10_off; rw [if_pos c1]), rfl⟩
  · have dc1 : p0.toInt < p1.toInt := nle_i (a := p1.toInt) (b := p0.toInt) rfl rfl c1
    have k3 : (-2147483648) ≤ p0.toInt ∧ p0.toInt ≤ 2147483646 := ⟨(ir_any _).1, up_lt dc1 (ir_any _).2 (by decide)⟩
    have k4 : (-2147483647) ≤ p1.toInt ∧ p1.toInt ≤ 2147483647 := ⟨lo_lt dc1 (ir_any _).1 (by decide), (ir_any _).2⟩
    refine lv_iload_n hx hb dX10_off_5 rfl (lv_at hl 1 rfl) ?_
    refine lv_iload_n hx hb dX10_off_6 rfl (lv_at hl 0 rfl) ?_
    refine lv_isub hx hb dX10_off_7 ?_
    refine lv_topi (fun v5 ev5 => ?_)
    refine lv_goto (tgt := 14) hx hb dX10_off_8 (by decide) ?_
    exact ret_i (v := v5) hx hb hr hlocks hS hP hD dX10_off_14 rfl (Nat.le_of_ble_eq_true rfl) (Nat.le_of_ble_eq_true rfl) ⟨(by subst_vars; unfold fn_X10_off; rw [if_neg c1]), rfl⟩
def fn_X10_lesser (p0 : Int32) (p1 : Int32) : Int32 := (if p1 ≤ p0 then p1 else p0)
set_option maxHeartbeats 4000000 in
set_option maxRecDepth 100000 in
theorem m_X10_lesser (l : Launch) (D : va_G) (cI cJ cB cP cM cZ : ClassId) (p0 : Int32) (p1 : Int32) (sz : Nat)  : CI l yX10_lesser cX10_lesser 2 (some .int) { frames := 0, cells := 0, slots := 0, locals := 0 } (GG D cI cJ cB cP cM cZ) D [] sz [.int p0, .int p1] (fun (r : Int32) (u : va_W) => r = fn_X10_lesser p0 p1 ∧ (r.toInt ≤ p0.toInt ∧ r.toInt ≤ p1.toInt ∧ (r.toInt = p0.toInt ∨ r.toInt = p1.toInt)) ∧ u = []) := by
  refine CI_mk (by decide) (Nat.le_of_ble_eq_true rfl) ?_
  intro p e s m below meth c A ls E hAe hG hsz hP hD hA hS hl
  obtain ⟨hx, hb, hr, hw, hown, hlocks, hml, hnm⟩ := E
  have hK := hG.1
  have hl : lv_has ls 2 [(0, .int p0), (1, .int p1)] := hl
  refine lv_iload_n hx hb dX10_lesser_0 rfl (lv_at hl 0 rfl) ?_
  refine lv_iload_n hx hb dX10_lesser_1 rfl (lv_at hl 1 rfl) ?_
  refine lv_icmp_ge (tgt := 9) hx hb dX10_lesser_2 (by decide) (fun c1 => ?_) (fun c1 => ?_)
  · have dc1 : p1.toInt ≤ p0.toInt := le_i (a := p1.toInt) (b := p0.toInt) rfl rfl c1
    refine lv_iload_n hx hb dX10_lesser_9 rfl (lv_at hl 1 rfl) ?_
    exact ret_i (v := p1) hx hb hr hlocks hS hP hD dX10_lesser_10 rfl (Nat.le_of_ble_eq_true rfl) (Nat.le_of_ble_eq_true rfl) ⟨(by subst_vars; unfold fn_X10_lesser; rw [if_pos c1]), (by omega), rfl⟩
  · have dc1 : p0.toInt < p1.toInt := nle_i (a := p1.toInt) (b := p0.toInt) rfl rfl c1
    have k2 : (-2147483648) ≤ p0.toInt ∧ p0.toInt ≤ 2147483646 := ⟨(ir_any _).1, up_lt dc1 (ir_any _).2 (by decide)⟩
    have k3 : (-2147483647) ≤ p1.toInt ∧ p1.toInt ≤ 2147483647 := ⟨lo_lt dc1 (ir_any _).1 (by decide), (ir_any _).2⟩
    refine lv_iload_n hx hb dX10_lesser_5 rfl (lv_at hl 0 rfl) ?_
    refine lv_goto (tgt := 10) hx hb dX10_lesser_6 (by decide) ?_
    exact ret_i (v := p0) hx hb hr hlocks hS hP hD dX10_lesser_10 rfl (Nat.le_of_ble_eq_true rfl) (Nat.le_of_ble_eq_true rfl) ⟨(by subst_vars; unfold fn_X10_lesser; rw [if_neg c1]), (by omega), rfl⟩
def fn_X10_bounded (p0 : Int32) : Int32 := (if (10 : Int32) ≤ p0 then (fn_X10_lesser p0 (250 : Int32)) else (10 : Int32))
set_option maxHeartbeats 4000000 in
set_option maxRecDepth 100000 in
theorem m_X10_bounded (l : Launch) (D : va_G) (cI cJ cB cP cM cZ : ClassId) (p0 : Int32) (sz : Nat)  : CI l yX10_bounded cX10_bounded 1 (some .int) { frames := 1, cells := 0, slots := 0, locals := 21 } (GG D cI cJ cB cP cM cZ) D [] sz [.int p0] (fun (r : Int32) (u : va_W) => IR 10 250 r ∧ r = fn_X10_bounded p0 ∧ u = []) := by
  refine CI_mk (by decide) (Nat.le_of_ble_eq_true rfl) ?_
  intro p e s m below meth c A ls E hAe hG hsz hP hD hA hS hl
  obtain ⟨hx, hb, hr, hw, hown, hlocks, hml, hnm⟩ := E
  have hK := hG.1
  have hl : lv_has ls 1 [(0, .int p0)] := hl
  refine lv_iload_n hx hb dX10_bounded_0 rfl (lv_at hl 0 rfl) ?_
  refine lv_bipush (v := 10) hx hb dX10_bounded_1 (by decide) ?_
  refine lv_icmp_ge (tgt := 11) hx hb dX10_bounded_3 (by decide) (fun c1 => ?_) (fun c1 => ?_)
  · have dc1 : 10 ≤ p0.toInt := le_i (a := 10) (b := p0.toInt) rfl rfl c1
    have k2 : 10 ≤ p0.toInt ∧ p0.toInt ≤ 2147483647 := ⟨Int.le_trans (Int.le_refl _) dc1, (ir_any _).2⟩
    refine lv_iload_n hx hb dX10_bounded_11 rfl (lv_at hl 0 rfl) ?_
    refine lv_sipush (v := 250) hx hb dX10_bounded_12 (by decide) ?_
    refine call_Si (wr := []) (As := [.int p0, .int 250]) (rest := []) hx hb hml hown hw (m_X10_lesser l D cI cJ cB cP cM cZ p0 250 _ ) wS_X10_27_X10_lesser dX10_bounded_15 hP hD hS hA [] [] rfl rfl (by decide) (by decide) (by decide) GG.fb hG.at hl.1 rfl (Nat.le_of_ble_eq_true rfl) ⟨(Nat.le_of_ble_eq_true rfl), (Nat.le_of_ble_eq_true rfl)⟩ ⟨(Nat.le_of_ble_eq_true rfl), (Nat.le_of_ble_eq_true rfl)⟩ (fun r3 u H locs hp hP hD hS => ?_)
    obtain ⟨t4, t5, rfl⟩ := hp
    have hP : va_P D vwCl [] H := hP
    have hD : va_D A [] := hD
    refine W.widen (k := 0) (n := 0) (Nat.le_of_ble_eq_true rfl) (Nat.le_of_ble_eq_true rfl) ?_
    have k7 : 10 ≤ r3.toInt ∧ r3.toInt ≤ 250 := ⟨by omega, by omega⟩
    exact ret_i (v := r3) hx hb hr hlocks hS hP hD dX10_bounded_18 rfl (Nat.le_of_ble_eq_true rfl) (Nat.le_of_ble_eq_true rfl) ⟨k7, (by subst_vars; unfold fn_X10_bounded; rw [if_pos c1]), rfl⟩
  · have dc1 : p0.toInt < 10 := nle_i (a := 10) (b := p0.toInt) rfl rfl c1
    have k8 : (-2147483648) ≤ p0.toInt ∧ p0.toInt ≤ 9 := ⟨(ir_any _).1, up_lt dc1 (Int.le_refl _) (by decide)⟩
    refine lv_bipush (v := 10) hx hb dX10_bounded_6 (by decide) ?_
    refine lv_goto (tgt := 18) hx hb dX10_bounded_8 (by decide) ?_
    exact ret_i (v := 10) hx hb hr hlocks hS hP hD dX10_bounded_18 rfl (Nat.le_of_ble_eq_true rfl) (Nat.le_of_ble_eq_true rfl) ⟨(show 10 ≤ (10 : Int32).toInt ∧ (10 : Int32).toInt ≤ 250 by decide), (by subst_vars; unfold fn_X10_bounded; rw [if_neg c1]), rfl⟩
set_option maxHeartbeats 4000000 in
set_option maxRecDepth 100000 in
theorem m_X10_octet (l : Launch) (D : va_G) (cI cJ cB cP cM cZ : ClassId) (h0 : Nat) (h_tape : Nat) (Fh : Nat → Value) (f_tape : Nat → Int32) (p0 : Int32) (sz : Nat) (e_tape : Fh 1 = .ref h_tape) (i_p0 : IR 0 939 p0) : CI l yX10_octet cX10_octet 2 (some .int) { frames := 0, cells := 0, slots := 0, locals := 0 } (GG D cI cJ cB cP cM cZ) D [(h0, .inr (10, vL 67 Fh)), (h_tape, .inl (cB, 940, .inl f_tape))] sz [.ref h0, .int p0] (fun (r : Int32) (u : va_W) => IR 0 255 r ∧ u = [(h0, .inr (10, vL 67 Fh)), (h_tape, .inl (cB, 940, .inl f_tape))]) := by
  refine CI_mk (by decide) (Nat.le_of_ble_eq_true rfl) ?_
  intro p e s m below meth c A ls E hAe hG hsz hP hD hA hS hl
  obtain ⟨hx, hb, hr, hw, hown, hlocks, hml, hnm⟩ := E
  have hK := hG.1
  have i_p0 : 0 ≤ p0.toInt ∧ p0.toInt ≤ 939 := i_p0
  have hl : lv_has ls 2 [(0, .ref h0), (1, .int p0)] := hl
  refine lv_aload_n hx hb dX10_octet_0 rfl (lv_at hl 0 rfl) ?_
  refine get_f (D := D) (ci := 10) (v := .ref h_tape) (C := RX10) (T := TX10) (N := 67) hx hb hw inAX10 hown hK hP 0 rfl rfl 1 (by decide) (hw _ q_1262) (fun _ h9 => h9) e_tape dX10_octet_1 ?_
  refine lv_iload_n hx hb dX10_octet_4 rfl (lv_at hl 1 rfl) ?_
  refine va_bald hx hb hK hP 1 2 rfl rfl (ix_k i_p0 (by decide) (by decide)) dX10_octet_5 ?_
  refine lv_topi (fun v1 ev1 => ?_)
  refine lv_sipush (v := 255) hx hb dX10_octet_6 (by decide) ?_
  refine lv_iand hx hb dX10_octet_9 ?_
  refine lv_topi (fun v2 ev2 => ?_)
  have k3 : 0 ≤ v2.toInt ∧ v2.toInt ≤ 255 := by rw [ev2]; exact and_i v1 8 (by decide)
  exact ret_i (v := v2) hx hb hr hlocks hS hP hD dX10_octet_10 rfl (Nat.le_of_ble_eq_true rfl) (Nat.le_of_ble_eq_true rfl) ⟨k3, rfl⟩
set_option maxHeartbeats 4000000 in
set_option maxRecDepth 100000 in
theorem m_X10_clears (l : Launch) (D : va_G) (cI cJ cB cP cM cZ : ClassId) (h0 : Nat) (h_h : Nat) (Fh : Nat → Value) (f_h : Nat → Int32) (sz : Nat) (e_h : Fh 7 = .ref h_h) (s_h_0 : SG 0 0 0 40 f_h) (s_h_44 : SG 44 55 0 9 f_h) (s_h_5 : SG 5 5 0 12 f_h) (s_h_6 : SG 6 6 0 12 f_h) (s_h_7 : SG 7 7 0 6 f_h) : CV l yX10_clears cX10_clears 2 none { frames := 0, cells := 0, slots := 0, locals := 0 } (GG D cI cJ cB cP cM cZ) D [(h0, .inr (10, vL 67 Fh)), (h_h, .inl (cI, 104, .inl f_h))] sz [.ref h0] (fun (u : va_W) => ∃ (g_h : Nat → Int32), SG 0 0 0 40 g_h ∧ SG 5 5 0 12 g_h ∧ SG 6 6 0 12 g_h ∧ SG 7 7 0 6 g_h ∧ SG 44 55 0 9 g_h ∧ u = [(h0, .inr (10, vL 67 Fh)), (h_h, .inl (cI, 104, .inl g_h))]) := by
  refine CV_mk (by decide) (Nat.le_of_ble_eq_true rfl) ?_
  intro p e s m below meth c A ls E hAe hG hsz hP hD hA hS hl
  obtain ⟨hx, hb, hr, hw, hown, hlocks, hml, hnm⟩ := E
  have hK := hG.1
  have hl : lv_has ls 2 [(0, .ref h0)] := hl
  refine lv_iconst (v := 0) hx hb dX10_clears_0 (by decide) ?_
  refine lv_istore_n (lv' := [(1, .int 0), (0, .ref h0)]) hx hb dX10_clears_1 rfl hl (by decide) rfl (fun ls hl => ?_)
  refine mloop (α := (Int32) × (Nat → Int32)) (nL := 2) (D := D) (A := A) (H0 := s.heap) (fun a => (104 - a.1.toInt).toNat) (fun a => IR 0 104 a.1 ∧ SG 0 0 0 40 a.2 ∧ SG 44 55 0 9 a.2 ∧ SG 5 5 0 12 a.2 ∧ SG 6 6 0 12 a.2 ∧ SG 7 7 0 6 a.2) (fun a => [(h0, .inr (10, vL 67 Fh)), (h_h, .inl (cI, 104, .inl a.2))]) (fun a => [(1, .int a.1), (0, .ref h0)]) (fun H locs ls => W p l e ({ frames := 0, cells := 0, slots := 0, locals := 0 } : Room) s m [.ref h0].toArray below meth c H locs 0 0 (MQ below (va_Qv (fun (u : va_W) => ∃ (g_h : Nat → Int32), SG 0 0 0 40 g_h ∧ SG 5 5 0 12 g_h ∧ SG 6 6 0 12 g_h ∧ SG 7 7 0 6 g_h ∧ SG 44 55 0 9 g_h ∧ u = [(h0, .inr (10, vL 67 Fh)), (h_h, .inl (cI, 104, .inl g_h))]) (PO D A) A) [.ref h0].toArray s 0 0 A) (F0 m 2 ls [])) ?_ (0, f_h) ⟨(show 0 ≤ (0 : Int32).toInt ∧ (0 : Int32).toInt ≤ 104 by decide), s_h_0, s_h_44, s_h_5, s_h_6, s_h_7⟩ _ _ _ hP hD hS hl
  rintro ⟨u1, w2⟩ ⟨i3, i4, i5, i6, i7, i8⟩ ih H locs ls hP hD hS hl
  have i3 : 0 ≤ u1.toInt ∧ u1.toInt ≤ 104 := i3
  have hP : va_P D vwCl [(h0, .inr (10, vL 67 Fh)), (h_h, .inl (cI, 104, .inl w2))] H := hP
  have hD : va_D A [(h0, .inr (10, vL 67 Fh)), (h_h, .inl (cI, 104, .inl w2))] := hD
  have hl : lv_has ls 2 [(1, .int u1), (0, .ref h0)] := hl
  refine lv_iload_n hx hb dX10_clears_2 rfl (lv_at hl 0 rfl) ?_
  refine lv_bipush (v := 104) hx hb dX10_clears_3 (by decide) ?_
  refine lv_icmp_ge (tgt := 21) hx hb dX10_clears_5 (by decide) (fun c9 => ?_) (fun c9 => ?_)
  · have dc9 : 104 ≤ u1.toInt := le_i (a := 104) (b := u1.toInt) rfl rfl c9
    have k10 : 104 ≤ u1.toInt ∧ u1.toInt ≤ 104 := ⟨Int.le_trans (Int.le_refl _) dc9, i3.2⟩
    refine lv_aload_n hx hb dX10_clears_21 rfl (lv_at hl 1 rfl) ?_
    refine get_f (D := D) (ci := 10) (v := .ref h_h) (C := RX10) (T := TX10) (N := 67) hx hb hw inAX10 hown hK hP 0 rfl rfl 7 (by decide) (hw _ q_1268) (fun _ h9 => h9) e_h dX10_clears_22 ?_
    refine lv_iconst (v := 0) hx hb dX10_clears_25 (by decide) ?_
    refine lv_bipush (v := 40) hx hb dX10_clears_26 (by decide) ?_
    obtain ⟨g11, eg11⟩ : ∃ z : Nat → Int32, upd w2 0 40 = z := ⟨_, rfl⟩
    have r12 : SG 0 0 0 40 g11 := by rw [← eg11]; exact i4.upN (Or.inr (Or.inr ⟨by decide, by decide⟩))
    have r13 : SG 44 55 0 9 g11 := by rw [← eg11]; exact i5.upN (by decide)
    have r14 : SG 5 5 0 12 g11 := by rw [← eg11]; exact i6.upN (by decide)
    have r15 : SG 6 6 0 12 g11 := by rw [← eg11]; exact i7.upN (by decide)
    have r16 : SG 7 7 0 6 g11 := by rw [← eg11]; exact i8.upN (by decide)
    refine iast_n hx hb hK hP hD hS 1 0 rfl rfl 0 rfl (Nat.le_of_ble_eq_true rfl) (Nat.le_of_ble_eq_true rfl) eg11 dX10_clears_28 (fun H locs hP hD hS => ?_)
    have hP : va_P D vwCl [(h0, .inr (10, vL 67 Fh)), (h_h, .inl (cI, 104, .inl g11))] H := hP
    have hD : va_D A [(h0, .inr (10, vL 67 Fh)), (h_h, .inl (cI, 104, .inl g11))] := hD
    refine lv_aload_n hx hb dX10_clears_29 rfl (lv_at hl 1 rfl) ?_
    refine get_f (D := D) (ci := 10) (v := .ref h_h) (C := RX10) (T := TX10) (N := 67) hx hb hw inAX10 hown hK hP 0 rfl rfl 7 (by decide) (hw _ q_1268) (fun _ h9 => h9) e_h dX10_clears_30 ?_
    refine lv_iconst (v := 1) hx hb dX10_clears_33 (by decide) ?_
    refine lv_sipush (v := 210) hx hb dX10_clears_34 (by decide) ?_
    obtain ⟨g17, eg17⟩ : ∃ z : Nat → Int32, upd g11 1 210 = z := ⟨_, rfl⟩
    have r18 : SG 0 0 0 40 g17 := by rw [← eg17]; exact r12.upN (by decide)
    have r19 : SG 44 55 0 9 g17 := by rw [← eg17]; exact r13.upN (by decide)
    have r20 : SG 5 5 0 12 g17 := by rw [← eg17]; exact r14.upN (by decide)
    have r21 : SG 6 6 0 12 g17 := by rw [← eg17]; exact r15.upN (by decide)
    have r22 : SG 7 7 0 6 g17 := by rw [← eg17]; exact r16.upN (by decide)
    refine iast_n hx hb hK hP hD hS 1 0 rfl rfl 1 rfl (Nat.le_of_ble_eq_true rfl) (Nat.le_of_ble_eq_true rfl) eg17 dX10_clears_37 (fun H locs hP hD hS => ?_)
    have hP : va_P D vwCl [(h0, .inr (10, vL 67 Fh)), (h_h, .inl (cI, 104, .inl g17))] H := hP
    have hD : va_D A [(h0, .inr (10, vL 67 Fh)), (h_h, .inl (cI, 104, .inl g17))] := hD
    refine lv_aload_n hx hb dX10_clears_38 rfl (lv_at hl 1 rfl) ?_
    refine get_f (D := D) (ci := 10) (v := .ref h_h) (C := RX10) (T := TX10) (N := 67) hx hb hw inAX10 hown hK hP 0 rfl rfl 7 (by decide) (hw _ q_1268) (fun _ h9 => h9) e_h dX10_clears_39 ?_
    refine lv_iconst (v := 2) hx hb dX10_clears_42 (by decide) ?_
    refine lv_sipush (v := 630) hx hb dX10_clears_43 (by decide) ?_
    obtain ⟨g23, eg23⟩ : ∃ z : Nat → Int32, upd g17 2 630 = z := ⟨_, rfl⟩
    have r24 : SG 0 0 0 40 g23 := by rw [← eg23]; exact r18.upN (by decide)
    have r25 : SG 44 55 0 9 g23 := by rw [← eg23]; exact r19.upN (by decide)
    have r26 : SG 5 5 0 12 g23 := by rw [← eg23]; exact r20.upN (by decide)
    have r27 : SG 6 6 0 12 g23 := by rw [← eg23]; exact r21.upN (by decide)
    have r28 : SG 7 7 0 6 g23 := by rw [← eg23]; exact r22.upN (by decide)
    refine iast_n hx hb hK hP hD hS 1 0 rfl rfl 2 rfl (Nat.le_of_ble_eq_true rfl) (Nat.le_of_ble_eq_true rfl) eg23 dX10_clears_46 (fun H locs hP hD hS => ?_)
    have hP : va_P D vwCl [(h0, .inr (10, vL 67 Fh)), (h_h, .inl (cI, 104, .inl g23))] H := hP
    have hD : va_D A [(h0, .inr (10, vL 67 Fh)), (h_h, .inl (cI, 104, .inl g23))] := hD
    refine lv_aload_n hx hb dX10_clears_47 rfl (lv_at hl 1 rfl) ?_
    refine get_f (D := D) (ci := 10) (v := .ref h_h) (C := RX10) (T := TX10) (N := 67) hx hb hw inAX10 hown hK hP 0 rfl rfl 7 (by decide) (hw _ q_1268) (fun _ h9 => h9) e_h dX10_clears_48 ?_
    refine lv_iconst (v := 3) hx hb dX10_clears_51 (by decide) ?_
    refine lv_iconst (v := 2) hx hb dX10_clears_52 (by decide) ?_
    obtain ⟨g29, eg29⟩ : ∃ z : Nat → Int32, upd g23 3 2 = z := ⟨_, rfl⟩
    have r30 : SG 0 0 0 40 g29 := by rw [← eg29]; exact r24.upN (by decide)
    have r31 : SG 44 55 0 9 g29 := by rw [← eg29]; exact r25.upN (by decide)
    have r32 : SG 5 5 0 12 g29 := by rw [← eg29]; exact r26.upN (by decide)
    have r33 : SG 6 6 0 12 g29 := by rw [← eg29]; exact r27.upN (by decide)
    have r34 : SG 7 7 0 6 g29 := by rw [← eg29]; exact r28.upN (by decide)
    refine iast_n hx hb hK hP hD hS 1 0 rfl rfl 3 rfl (Nat.le_of_ble_eq_true rfl) (Nat.le_of_ble_eq_true rfl) eg29 dX10_clears_53 (fun H locs hP hD hS => ?_)
    have hP : va_P D vwCl [(h0, .inr (10, vL 67 Fh)), (h_h, .inl (cI, 104, .inl g29))] H := hP
    have hD : va_D A [(h0, .inr (10, vL 67 Fh)), (h_h, .inl (cI, 104, .inl g29))] := hD
    refine lv_aload_n hx hb dX10_clears_54 rfl (lv_at hl 1 rfl) ?_
    refine get_f (D := D) (ci := 10) (v := .ref h_h) (C := RX10) (T := TX10) (N := 67) hx hb hw inAX10 hown hK hP 0 rfl rfl 7 (by decide) (hw _ q_1268) (fun _ h9 => h9) e_h dX10_clears_55 ?_
    refine lv_iconst (v := 4) hx hb dX10_clears_58 (by decide) ?_
    refine lv_iconst (v := 5) hx hb dX10_clears_59 (by decide) ?_
    obtain ⟨g35, eg35⟩ : ∃ z : Nat → Int32, upd g29 4 5 = z := ⟨_, rfl⟩
    have r36 : SG 0 0 0 40 g35 := by rw [← eg35]; exact r30.upN (by decide)
    have r37 : SG 44 55 0 9 g35 := by rw [← eg35]; exact r31.upN (by decide)
    have r38 : SG 5 5 0 12 g35 := by rw [← eg35]; exact r32.upN (by decide)
    have r39 : SG 6 6 0 12 g35 := by rw [← eg35]; exact r33.upN (by decide)
    have r40 : SG 7 7 0 6 g35 := by rw [← eg35]; exact r34.upN (by decide)
    refine iast_n hx hb hK hP hD hS 1 0 rfl rfl 4 rfl (Nat.le_of_ble_eq_true rfl) (Nat.le_of_ble_eq_true rfl) eg35 dX10_clears_60 (fun H locs hP hD hS => ?_)
    have hP : va_P D vwCl [(h0, .inr (10, vL 67 Fh)), (h_h, .inl (cI, 104, .inl g35))] H := hP
    have hD : va_D A [(h0, .inr (10, vL 67 Fh)), (h_h, .inl (cI, 104, .inl g35))] := hD
    exact ret_v hx hb hr hlocks hS hP hD dX10_clears_61 (Nat.le_of_ble_eq_true rfl) (Nat.le_of_ble_eq_true rfl) ⟨g35, r36, r38, r39, r40, r37, rfl⟩
  · have dc9 : u1.toInt < 104 := nle_i (a := 104) (b := u1.toInt) rfl rfl c9
    have k41 : 0 ≤ u1.toInt ∧ u1.toInt ≤ 103 := ⟨i3.1, up_lt dc9 (Int.le_refl _) (by decide)⟩
    refine lv_aload_n hx hb dX10_clears_8 rfl (lv_at hl 1 rfl) ?_
    refine get_f (D := D) (ci := 10) (v := .ref h_h) (C := RX10) (T := TX10) (N := 67) hx hb hw inAX10 hown hK hP 0 rfl rfl 7 (by decide) (hw _ q_1268) (fun _ h9 => h9) e_h dX10_clears_9 ?_
    refine lv_iload_n hx hb dX10_clears_12 rfl (lv_at hl 0 rfl) ?_
    refine lv_iconst (v := 0) hx hb dX10_clears_13 (by decide) ?_
    obtain ⟨g42, eg42⟩ : ∃ z : Nat → Int32, upd w2 u1.toNatClampNeg 0 = z := ⟨_, rfl⟩
    have r43 : SG 0 0 0 40 g42 := by rw [← eg42]; exact i4.up (Int.le_trans (by decide) k41.1) (Or.inr (Or.inr ⟨by decide, by decide⟩))
    have r44 : SG 44 55 0 9 g42 := by rw [← eg42]; exact i5.up (Int.le_trans (by decide) k41.1) (Or.inr (Or.inr ⟨by decide, by decide⟩))
    have r45 : SG 5 5 0 12 g42 := by rw [← eg42]; exact i6.up (Int.le_trans (by decide) k41.1) (Or.inr (Or.inr ⟨by decide, by decide⟩))
    have r46 : SG 6 6 0 12 g42 := by rw [← eg42]; exact i7.up (Int.le_trans (by decide) k41.1) (Or.inr (Or.inr ⟨by decide, by decide⟩))
    have r47 : SG 7 7 0 6 g42 := by rw [← eg42]; exact i8.up (Int.le_trans (by decide) k41.1) (Or.inr (Or.inr ⟨by decide, by decide⟩))
    refine iast_g hx hb hK hP hD hS 1 0 rfl rfl (ix_k k41 (by decide) (by decide)) eg42 dX10_clears_14 (fun H locs hP hD hS => ?_)
    have hP : va_P D vwCl [(h0, .inr (10, vL 67 Fh)), (h_h, .inl (cI, 104, .inl g42))] H := hP
    have hD : va_D A [(h0, .inr (10, vL 67 Fh)), (h_h, .inl (cI, 104, .inl g42))] := hD
    obtain ⟨v48, ev48⟩ : ∃ z : Int32, z = u1 + 1 := ⟨_, rfl⟩
    have bv48 : v48.toInt = u1.toInt + 1 := by rw [ev48]; exact add_k rfl rfl k41 ⟨Int.le_refl _, Int.le_refl _⟩ (by decide)
    have k49 : 1 ≤ v48.toInt ∧ v48.toInt ≤ 104 := add_r bv48 k41 ⟨Int.le_refl _, Int.le_refl _⟩ (by decide)
    refine lv_iinc (v := v48) (lv' := [(1, .int v48), (0, .ref h0)]) hx hb dX10_clears_15 hl (k := 0) rfl (by rw [ev48]; rfl) (by decide) rfl (fun ls hl => ?_)
    refine lv_goto (tgt := 2) hx hb dX10_clears_18 (by decide) ?_
    exact ih (v48, g42) ⟨(ir_wk k49 (by decide) (by decide)), r43, r44, r45, r46, r47⟩ (by show (104 - v48.toInt).toNat < (104 - u1.toInt).toNat; omega) _ _ _ hP hD hS (lv_sub hl [0, 1] rfl)
set_option maxHeartbeats 4000000 in
set_option maxRecDepth 100000 in
theorem m_X10_peek (l : Launch) (D : va_G) (cI cJ cB cP cM cZ : ClassId) (h0 : Nat) (h_tape : Nat) (Fh : Nat → Value) (x_size : Int32) (x_p : Int32) (f_tape : Nat → Int32) (sz : Nat) (e_tape : Fh 1 = .ref h_tape) (e_size : Fh 3 = .int x_size) (i_x_size : IR 0 940 x_size) (e_p : Fh 4 = .int x_p) (i_x_p : IR 0 940 x_p) : CI l yX10_peek cX10_peek 1 (some .int) { frames := 0, cells := 0, slots := 0, locals := 0 } (GG D cI cJ cB cP cM cZ) D [(h0, .inr (10, vL 67 Fh)), (h_tape, .inl (cB, 940, .inl f_tape))] sz [.ref h0] (fun (r : Int32) (u : va_W) => (x_size.toInt ≤ x_p.toInt ∧ r = (-1) ∧ u = [(h0, .inr (10, vL 67 Fh)), (h_tape, .inl (cB, 940, .inl f_tape))]) ∨ (IR 0 255 r ∧ x_p.toInt < x_size.toInt ∧ r = ((f_tape x_p.toNatClampNeg) &&& 255) ∧ u = [(h0, .inr (10, vL 67 Fh)), (h_tape, .inl (cB, 940, .inl f_tape))])) := by
  refine CI_mk (by decide) (Nat.le_of_ble_eq_true rfl) ?_
  intro p e s m below meth c A ls E hAe hG hsz hP hD hA hS hl
  obtain ⟨hx, hb, hr, hw, hown, hlocks, hml, hnm⟩ := E
  have hK := hG.1
  have i_x_size : 0 ≤ x_size.toInt ∧ x_size.toInt ≤ 940 := i_x_size
  have i_x_p : 0 ≤ x_p.toInt ∧ x_p.toInt ≤ 940 := i_x_p
  have hl : lv_has ls 1 [(0, .ref h0)] := hl
  refine lv_aload_n hx hb dX10_peek_0 rfl (lv_at hl 0 rfl) ?_
  refine get_f (D := D) (ci := 10) (v := .int x_p) (C := RX10) (T := TX10) (N := 67) hx hb hw inAX10 hown hK hP 0 rfl rfl 4 (by decide) (hw _ q_1265) (fun _ h9 => h9) e_p dX10_peek_1 ?_
  refine lv_aload_n hx hb dX10_peek_4 rfl (lv_at hl 0 rfl) ?_
  refine get_f (D := D) (ci := 10) (v := .int x_size) (C := RX10) (T := TX10) (N := 67) hx hb hw inAX10 hown hK hP 0 rfl rfl 3 (by decide) (hw _ q_1264) (fun _ h9 => h9) e_size dX10_peek_5 ?_
  refine lv_icmp_ge (tgt := 27) hx hb dX10_peek_8 (by decide) (fun c1 => ?_) (fun c1 => ?_)
  · have dc1 : x_size.toInt ≤ x_p.toInt := le_i (a := x_size.toInt) (b := x_p.toInt) rfl rfl c1
    refine lv_iconst (v := (-1)) hx hb dX10_peek_27 (by decide) ?_
    exact ret_i (v := (-1)) hx hb hr hlocks hS hP hD dX10_peek_28 rfl (Nat.le_of_ble_eq_true rfl) (Nat.le_of_ble_eq_true rfl) (Or.inl ⟨dc1, rfl, rfl⟩)
  · have dc1 : x_p.toInt < x_size.toInt := nle_i (a := x_size.toInt) (b := x_p.toInt) rfl rfl c1
    have k2 : 0 ≤ x_p.toInt ∧ x_p.toInt ≤ 939 := ⟨i_x_p.1, up_lt dc1 i_x_size.2 (by decide)⟩
    have k3 : 1 ≤ x_size.toInt ∧ x_size.toInt ≤ 940 := ⟨lo_lt dc1 i_x_p.1 (by decide), i_x_size.2⟩
    refine lv_aload_n hx hb dX10_peek_11 rfl (lv_at hl 0 rfl) ?_
    refine get_f (D := D) (ci := 10) (v := .ref h_tape) (C := RX10) (T := TX10) (N := 67) hx hb hw inAX10 hown hK hP 0 rfl rfl 1 (by decide) (hw _ q_1262) (fun _ h9 => h9) e_tape dX10_peek_12 ?_
    refine lv_aload_n hx hb dX10_peek_15 rfl (lv_at hl 0 rfl) ?_
    refine get_f (D := D) (ci := 10) (v := .int x_p) (C := RX10) (T := TX10) (N := 67) hx hb hw inAX10 hown hK hP 0 rfl rfl 4 (by decide) (hw _ q_1265) (fun _ h9 => h9) e_p dX10_peek_16 ?_
    refine va_bald hx hb hK hP 1 2 rfl rfl (ix_k k2 (by decide) (by decide)) dX10_peek_19 ?_
    refine lv_topi (fun v4 ev4 => ?_)
    refine lv_sipush (v := 255) hx hb dX10_peek_20 (by decide) ?_
    refine lv_iand hx hb dX10_peek_23 ?_
    refine lv_topi (fun v5 ev5 => ?_)
    have k6 : 0 ≤ v5.toInt ∧ v5.toInt ≤ 255 := by rw [ev5]; exact and_i v4 8 (by decide)
    refine lv_goto (tgt := 28) hx hb dX10_peek_24 (by decide) ?_
    exact ret_i (v := v5) hx hb hr hlocks hS hP hD dX10_peek_28 rfl (Nat.le_of_ble_eq_true rfl) (Nat.le_of_ble_eq_true rfl) (Or.inr ⟨k6, dc1, (by rw [ev5, ev4]), rfl⟩)
set_option maxHeartbeats 4000000 in
set_option maxRecDepth 100000 in
theorem m_X10_isSmall (l : Launch) (D : va_G) (cI cJ cB cP cM cZ : ClassId) (p0 : Int32) (sz : Nat)  : CI l yX10_isSmall cX10_isSmall 1 (some .boolean) { frames := 0, cells := 0, slots := 0, locals := 0 } (GG D cI cJ cB cP cM cZ) D [] sz [.int p0] (fun (r : Int32) (u : va_W) => (p0.toInt < 97 ∧ r = 0 ∧ u = []) ∨ (97 ≤ p0.toInt ∧ 122 < p0.toInt ∧ r = 0 ∧ u = []) ∨ (97 ≤ p0.toInt ∧ p0.toInt ≤ 122 ∧ r = 1 ∧ u = [])) := by
  refine CI_mk (by decide) (Nat.le_of_ble_eq_true rfl) ?_
  intro p e s m below meth c A ls E hAe hG hsz hP hD hA hS hl
  obtain ⟨hx, hb, hr, hw, hown, hlocks, hml, hnm⟩ := E
  have hK := hG.1
  have hl : lv_has ls 1 [(0, .int p0)] := hl
  refine lv_iload_n hx hb dX10_isSmall_0 rfl (lv_at hl 0 rfl) ?_
  refine lv_bipush (v := 97) hx hb dX10_isSmall_1 (by decide) ?_
  refine lv_icmp_lt (tgt := 16) hx hb dX10_isSmall_3 (by decide) (fun c1 => ?_) (fun c1 => ?_)
  · have dc1 : p0.toInt < 97 := lt_i (a := p0.toInt) (b := 97) rfl rfl c1
    have k2 : (-2147483648) ≤ p0.toInt ∧ p0.toInt ≤ 96 := ⟨(ir_any _).1, up_lt dc1 (Int.le_refl _) (by decide)⟩
    refine lv_iconst (v := 0) hx hb dX10_isSmall_16 (by decide) ?_
    exact ret_i (v := 0) hx hb hr hlocks hS hP hD dX10_isSmall_17 rfl (Nat.le_of_ble_eq_true rfl) (Nat.le_of_ble_eq_true rfl) (Or.inl ⟨dc1, rfl, rfl⟩)
  · have dc1 : 97 ≤ p0.toInt := nlt_i (a := p0.toInt) (b := 97) rfl rfl c1
    have k3 : 97 ≤ p0.toInt ∧ p0.toInt ≤ 2147483647 := ⟨Int.le_trans (Int.le_refl _) dc1, (ir_any _).2⟩
    refine lv_iload_n hx hb dX10_isSmall_6 rfl (lv_at hl 0 rfl) ?_
    refine lv_bipush (v := 122) hx hb dX10_isSmall_7 (by decide) ?_
    refine lv_icmp_gt (tgt := 16) hx hb dX10_isSmall_9 (by decide) (fun c4 => ?_) (fun c4 => ?_)
    · have dc4 : 122 < p0.toInt := lt_i (a := 122) (b := p0.toInt) rfl rfl c4
      have k5 : 123 ≤ p0.toInt ∧ p0.toInt ≤ 2147483647 := ⟨lo_lt dc4 (Int.le_refl _) (by decide), k3.2⟩
      refine lv_iconst (v := 0) hx hb dX10_isSmall_16 (by decide) ?_
      exact ret_i (v := 0) hx hb hr hlocks hS hP hD dX10_isSmall_17 rfl (Nat.le_of_ble_eq_true rfl) (Nat.le_of_ble_eq_true rfl) (Or.inr (Or.inl ⟨dc1, dc4, rfl, rfl⟩))
    · have dc4 : p0.toInt ≤ 122 := nlt_i (a := 122) (b := p0.toInt) rfl rfl c4
      have k6 : 97 ≤ p0.toInt ∧ p0.toInt ≤ 122 := ⟨k3.1, Int.le_trans dc4 (Int.le_refl _)⟩
      refine lv_iconst (v := 1) hx hb dX10_isSmall_12 (by decide) ?_
      refine lv_goto (tgt := 17) hx hb dX10_isSmall_13 (by decide) ?_
      exact ret_i (v := 1) hx hb hr hlocks hS hP hD dX10_isSmall_17 rfl (Nat.le_of_ble_eq_true rfl) (Nat.le_of_ble_eq_true rfl) (Or.inr (Or.inr ⟨dc1, dc4, rfl, rfl⟩))
set_option maxHeartbeats 4000000 in
set_option maxRecDepth 100000 in
theorem m_X10_isDigit (l : Launch) (D : va_G) (cI cJ cB cP cM cZ : ClassId) (p0 : Int32) (sz : Nat)  : CI l yX10_isDigit cX10_isDigit 1 (some .boolean) { frames := 0, cells := 0, slots := 0, locals := 0 } (GG D cI cJ cB cP cM cZ) D [] sz [.int p0] (fun (r : Int32) (u : va_W) => (p0.toInt < 48 ∧ r = 0 ∧ u = []) ∨ (48 ≤ p0.toInt ∧ 57 < p0.toInt ∧ r = 0 ∧ u = []) ∨ (48 ≤ p0.toInt ∧ p0.toInt ≤ 57 ∧ r = 1 ∧ u = [])) := by
  refine CI_mk (by decide) (Nat.le_of_ble_eq_true rfl) ?_
  intro p e s m below meth c A ls E hAe hG hsz hP hD hA hS hl
  obtain ⟨hx, hb, hr, hw, hown, hlocks, hml, hnm⟩ := E
  have hK := hG.1
  have hl : lv_has ls 1 [(0, .int p0)] := hl
  refine lv_iload_n hx hb dX10_isDigit_0 rfl (lv_at hl 0 rfl) ?_
  refine lv_bipush (v := 48) hx hb dX10_isDigit_1 (by decide) ?_
  refine lv_icmp_lt (tgt := 16) hx hb dX10_isDigit_3 (by decide) (fun c1 => ?_) (fun c1 => ?_)
  · have dc1 : p0.toInt < 48 := lt_i (a := p0.toInt) (b := 48) rfl rfl c1
    have k2 : (-2147483648) ≤ p0.toInt ∧ p0.toInt ≤ 47 := ⟨(ir_any _).1, up_lt dc1 (Int.le_refl _) (by decide)⟩
    refine lv_iconst (v := 0) hx hb dX10_isDigit_16 (by decide) ?_
    exact ret_i (v := 0) hx hb hr hlocks hS hP hD dX10_isDigit_17 rfl (Nat.le_of_ble_eq_true rfl) (Nat.le_of_ble_eq_true rfl) (Or.inl ⟨dc1, rfl, rfl⟩)
  · have dc1 : 48 ≤ p0.toInt := nlt_i (a := p0.toInt) (b := 48) rfl rfl c1
    have k3 : 48 ≤ p0.toInt ∧ p0.toInt ≤ 2147483647 := ⟨Int.le_trans (Int.le_refl _) dc1, (ir_any _).2⟩
    refine lv_iload_n hx hb dX10_isDigit_6 rfl (lv_at hl 0 rfl) ?_
    refine lv_bipush (v := 57) hx hb dX10_isDigit_7 (by decide) ?_
    refine lv_icmp_gt (tgt := 16) hx hb dX10_isDigit_9 (by decide) (fun c4 => ?_) (fun c4 => ?_)
    · have dc4 : 57 < p0.toInt := lt_i (a := 57) (b := p0.toInt) rfl rfl c4
      have k5 : 58 ≤ p0.toInt ∧ p0.toInt ≤ 2147483647 := ⟨lo_lt dc4 (Int.le_refl _) (by decide), k3.2⟩
      refine lv_iconst (v := 0) hx hb dX10_isDigit_16 (by decide) ?_
      exact ret_i (v := 0) hx hb hr hlocks hS hP hD dX10_isDigit_17 rfl (Nat.le_of_ble_eq_true rfl) (Nat.le_of_ble_eq_true rfl) (Or.inr (Or.inl ⟨dc1, dc4, rfl, rfl⟩))
    · have dc4 : p0.toInt ≤ 57 := nlt_i (a := 57) (b := p0.toInt) rfl rfl c4
      have k6 : 48 ≤ p0.toInt ∧ p0.toInt ≤ 57 := ⟨k3.1, Int.le_trans dc4 (Int.le_refl _)⟩
      refine lv_iconst (v := 1) hx hb dX10_isDigit_12 (by decide) ?_
      refine lv_goto (tgt := 17) hx hb dX10_isDigit_13 (by decide) ?_
      exact ret_i (v := 1) hx hb hr hlocks hS hP hD dX10_isDigit_17 rfl (Nat.le_of_ble_eq_true rfl) (Nat.le_of_ble_eq_true rfl) (Or.inr (Or.inr ⟨dc1, dc4, rfl, rfl⟩))
set_option maxHeartbeats 4000000 in
set_option maxRecDepth 100000 in
theorem m_X10_next (l : Launch) (D : va_G) (cI cJ cB cP cM cZ : ClassId) (h0 : Nat) (h_tape : Nat) (Fh : Nat → Value) (x_size : Int32) (x_p : Int32) (x_limit : Int32) (x_token : Int32) (x_number : Int32) (x_word : Int64) (f_tape : Nat → Int32) (sz : Nat) (e_tape : Fh 1 = .ref h_tape) (e_size : Fh 3 = .int x_size) (i_x_size : IR 0 940 x_size) (e_p : Fh 4 = .int x_p) (i_x_p : IR 0 940 x_p) (e_limit : Fh 5 = .int x_limit) (i_x_limit : IR 200 940 x_limit) (e_token : Fh 11 = .int x_token) (i_x_token : IR 0 4 x_token) (e_number : Fh 14 = .int x_number) (e_word : Fh 18 = .long x_word) (o_0 : (x_token.toInt = 2 → 0 ≤ x_number.toInt ∧ x_number.toInt ≤ 999)) : CV l yX10_next cX10_next 4 none { frames := 1, cells := 0, slots := 0, locals := 20 } (GG D cI cJ cB cP cM cZ) D [(h0, .inr (10, vL 67 Fh)), (h_tape, .inl (cB, 940, .inl f_tape))] sz [.ref h0] (fun (u : va_W) => ∃ (Gh : Nat → Value) (y_p : Int32) (y_token : Int32) (y_at : Int32) (y_span : Int32) (y_number : Int32) (y_word : Int64), SAME [4, 11, 12, 13, 14, 18] Fh Gh ∧ Gh 4 = .int y_p ∧ IR 0 940 y_p ∧ Gh 11 = .int y_token ∧ IR 0 4 y_token ∧ Gh 12 = .int y_at ∧ IR 0 940 y_at ∧ Gh 13 = .int y_span ∧ IR 0 940 y_span ∧ Gh 14 = .int y_number ∧ Gh 18 = .long y_word ∧ (x_p.toInt ≤ y_p.toInt) ∧ ((1 ≤ y_token.toInt → y_token.toInt ≤ 3 → x_p.toInt < y_p.toInt)) ∧ ((y_token.toInt = 2 → 0 ≤ y_number.toInt ∧ y_number.toInt ≤ 999)) ∧ u = [(h0, .inr (10, vL 67 Gh)), (h_tape, .inl (cB, 940, .inl f_tape))]) := by
  refine CV_mk (by decide) (Nat.le_of_ble_eq_true rfl) ?_
  intro p e s m below meth c A ls E hAe hG hsz hP hD hA hS hl
  obtain ⟨hx, hb, hr, hw, hown, hlocks, hml, hnm⟩ := E
  have hK := hG.1
  have i_x_size : 0 ≤ x_size.toInt ∧ x_size.toInt ≤ 940 := i_x_size
  have i_x_p : 0 ≤ x_p.toInt ∧ x_p.toInt ≤ 940 := i_x_p
  have i_x_limit : 200 ≤ x_limit.toInt ∧ x_limit.toInt ≤ 940 := i_x_limit
  have i_x_token : 0 ≤ x_token.toInt ∧ x_token.toInt ≤ 4 := i_x_token
  have hl : lv_has ls 4 [(0, .ref h0)] := hl
  have cut3 : ∀ (G1 : Nat → Value) (u2 : Int32) (_ : SAME [4] Fh G1) (_ : G1 4 = .int u2) (_ : IR 0 940 u2) (H : Heap) (locs : List Loc) (ls : Array Slot), va_P D vwCl [(h0, .inr (10, vL 67 G1)), (h_tape, .inl (cB, 940, .inl f_tape))] H → va_D A [(h0, .inr (10, vL 67 G1)), (h_tape, .inl (cB, 940, .inl f_tape))] → va_S A s.heap H locs → lv_has ls 4 [(0, .ref h0)] → W p l e ({ frames := 1, cells := 0, slots := 0, locals := 20 } : Room) s m [.ref h0].toArray below meth c H locs 0 0 (MQ below (va_Qv (fun (u : va_W) => ∃ (Gh : Nat → Value) (y_p : Int32) (y_token : Int32) (y_at : Int32) (y_span : Int32) (y_number : Int32) (y_word : Int64), SAME [4, 11, 12, 13, 14, 18] Fh Gh ∧ Gh 4 = .int y_p ∧ IR 0 940 y_p ∧ Gh 11 = .int y_token ∧ IR 0 4 y_token ∧ Gh 12 = .int y_at ∧ IR 0 940 y_at ∧ Gh 13 = .int y_span ∧ IR 0 940 y_span ∧ Gh 14 = .int y_number ∧ Gh 18 = .long y_word ∧ (x_p.toInt ≤ y_p.toInt) ∧ ((1 ≤ y_token.toInt → y_token.toInt ≤ 3 → x_p.toInt < y_p.toInt)) ∧ ((y_token.toInt = 2 → 0 ≤ y_number.toInt ∧ y_number.toInt ≤ 999)) ∧ u = [(h0, .inr (10, vL 67 Gh)), (h_tape, .inl (cB, 940, .inl f_tape))]) (PO D A) A) [.ref h0].toArray s 0 0 A) (F0 m 31 ls []) := by
    intro G1 u2 i4 i5 i6 H locs ls hP hD hS hl
    have i6 : 0 ≤ u2.toInt ∧ u2.toInt ≤ 940 := i6
    refine lv_aload_n hx hb dX10_next_31 rfl (lv_at hl 0 rfl) ?_
    refine lv_aload_n hx hb dX10_next_32 rfl (lv_at hl 0 rfl) ?_
    refine get_f (D := D) (ci := 10) (v := .int u2) (C := RX10) (T := TX10) (N := 67) hx hb hw inAX10 hown hK hP 0 rfl rfl 4 (by decide) (hw _ q_1265) (fun _ h9 => h9) i5 dX10_next_33 ?_
    refine put_f (D := D) (ci := 10) (v := .int u2) (ty := .int) (C := RX10) (T := TX10) (N := 67) hx hb hw inAX10 tyX10 tyX10_ok nmX10 hown hK hP hD hS 0 rfl rfl 12 (by decide) (hw _ q_1273) (fun _ h9 => h9) rfl (by decide +kernel) rfl rfl dX10_next_36 (fun H locs F7 eF7 hP hD hS => ?_)
    have hP : va_P D vwCl [(h0, .inr (10, vL 67 F7)), (h_tape, .inl (cB, 940, .inl f_tape))] H := hP
    have hD : va_D A [(h0, .inr (10, vL 67 F7)), (h_tape, .inl (cB, 940, .inl f_tape))] := hD
    refine lv_aload_n hx hb dX10_next_39 rfl (lv_at hl 0 rfl) ?_
    refine lv_iconst (v := 0) hx hb dX10_next_40 (by decide) ?_
    refine put_f (D := D) (ci := 10) (v := .int 0) (ty := .int) (C := RX10) (T := TX10) (N := 67) hx hb hw inAX10 tyX10 tyX10_ok nmX10 hown hK hP hD hS 0 rfl rfl 13 (by decide) (hw _ q_1274) (fun _ h9 => h9) rfl (by decide +kernel) rfl rfl dX10_next_41 (fun H locs F8 eF8 hP hD hS => ?_)
    have hP : va_P D vwCl [(h0, .inr (10, vL 67 F8)), (h_tape, .inl (cB, 940, .inl f_tape))] H := hP
    have hD : va_D A [(h0, .inr (10, vL 67 F8)), (h_tape, .inl (cB, 940, .inl f_tape))] := hD
    refine lv_aload_n hx hb dX10_next_44 rfl (lv_at hl 0 rfl) ?_
    have n9 : G1 3 = .int x_size := (SAME.at i4 (by decide) e_size)
    have n10 : F7 3 = .int x_size := (get_ne eF7 (by decide) n9)
    have n11 : F8 3 = .int x_size := (get_ne eF8 (by decide) n10)
    refine get_f (D := D) (ci := 10) (v := .int x_size) (C := RX10) (T := TX10) (N := 67) hx hb hw inAX10 hown hK hP 0 rfl rfl 3 (by decide) (hw _ q_1264) (fun _ h9 => h9) n11 dX10_next_45 ?_
    refine lv_aload_n hx hb dX10_next_48 rfl (lv_at hl 0 rfl) ?_
    have n12 : G1 5 = .int x_limit := (SAME.at i4 (by decide) e_limit)
    have n13 : F7 5 = .int x_limit := (get_ne eF7 (by decide) n12)
    have n14 : F8 5 = .int x_limit := (get_ne eF8 (by decide) n13)
    refine get_f (D := D) (ci := 10) (v := .int x_limit) (C := RX10) (T := TX10) (N := 67) hx hb hw inAX10 hown hK hP 0 rfl rfl 5 (by decide) (hw _ q_1266) (fun _ h9 => h9) n14 dX10_next_49 ?_
    refine lv_icmp_le (tgt := 80) hx hb dX10_next_52 (by decide) (fun c15 => ?_) (fun c15 => ?_)
    · have dc15 : x_size.toInt ≤ x_limit.toInt := le_i (a := x_size.toInt) (b := x_limit.toInt) rfl rfl c15
      refine lv_aload_n hx hb dX10_next_80 rfl (lv_at hl 0 rfl) ?_
      have n16 : G1 1 = .ref h_tape := (SAME.at i4 (by decide) e_tape)
      have n17 : F7 1 = .ref h_tape := (get_ne eF7 (by decide) n16)
      have n18 : F8 1 = .ref h_tape := (get_ne eF8 (by decide) n17)
      have n19 : F7 4 = .int u2 := (get_ne eF7 (by decide) i5)
      have n20 : F8 4 = .int u2 := (get_ne eF8 (by decide) n19)
      refine call_Vi (wr := []) (As := []) (rest := []) hx hb hml hown hw (m_X10_peek l D cI cJ cB cP cM cZ h0 h_tape F8 x_size u2 f_tape _ n18 n11 i_x_size n20 i6) wV_X10_169_X10_peek dX10_next_81 hK hP hD hS hA [0, 1] [] rfl rfl (by decide) (by decide) (by decide) 0 10 rfl rfl GG.fb hG.at hl.1 rfl (Nat.le_of_ble_eq_true rfl) ⟨(Nat.le_of_ble_eq_true rfl), (Nat.le_of_ble_eq_true rfl)⟩ ⟨(Nat.le_of_ble_eq_true rfl), (Nat.le_of_ble_eq_true rfl)⟩ (fun r21 u H locs hp hP hD hS => ?_)
      rcases hp with ⟨t22, rfl, rfl⟩ | ⟨t23, t24, rfl, rfl⟩
      · have hP : va_P D vwCl [(h0, .inr (10, vL 67 F8)), (h_tape, .inl (cB, 940, .inl f_tape))] H := hP
        have hD : va_D A [(h0, .inr (10, vL 67 F8)), (h_tape, .inl (cB, 940, .inl f_tape))] := hD
        refine W.widen (k := 0) (n := 0) (Nat.le_of_ble_eq_true rfl) (Nat.le_of_ble_eq_true rfl) ?_
        refine lv_istore_n (lv' := [(1, .int (-1)), (0, .ref h0)]) hx hb dX10_next_84 rfl hl (by decide) rfl (fun ls hl => ?_)
        refine lv_iload_n hx hb dX10_next_85 rfl (lv_at hl 0 rfl) ?_
        refine lv_if_ge (tgt := 95) hx hb dX10_next_86 (by decide) (fun g => absurd g (by decide)) (fun _ => ?_)
        refine lv_aload_n hx hb dX10_next_89 rfl (lv_at hl 1 rfl) ?_
        refine lv_iconst (v := 0) hx hb dX10_next_90 (by decide) ?_
        refine put_f (D := D) (ci := 10) (v := .int 0) (ty := .int) (C := RX10) (T := TX10) (N := 67) hx hb hw inAX10 tyX10 tyX10_ok nmX10 hown hK hP hD hS 0 rfl rfl 11 (by decide) (hw _ q_1272) (fun _ h9 => h9) rfl (by decide +kernel) rfl rfl dX10_next_91 (fun H locs F26 eF26 hP hD hS => ?_)
        have hP : va_P D vwCl [(h0, .inr (10, vL 67 F26)), (h_tape, .inl (cB, 940, .inl f_tape))] H := hP
        have hD : va_D A [(h0, .inr (10, vL 67 F26)), (h_tape, .inl (cB, 940, .inl f_tape))] := hD
        exact ret_v hx hb hr hlocks hS hP hD dX10_next_94 (Nat.le_of_ble_eq_true rfl) (Nat.le_of_ble_eq_true rfl) ⟨F26, u2, 0, u2, 0, x_number, x_word, (SAME.up eF26 (SAME.up eF8 (SAME.up eF7 (SAME.tr SAME.rf i4 (by decide)) (by decide)) (by decide)) (by decide)), (get_ne eF26 (by decide) n20), i6, (get_eq eF26), (show 0 ≤ (0 : Int32).toInt ∧ (0 : Int32).toInt ≤ 4 by decide), (get_ne eF26 (by decide) (get_ne eF8 (by decide) (get_eq eF7))), i6, (get_ne eF26 (by decide) (get_eq eF8)), (show 0 ≤ (0 : Int32).toInt ∧ (0 : Int32).toInt ≤ 940 by decide), (get_ne eF26 (by decide) (get_ne eF8 (by decide) (get_ne eF7 (by decide) (SAME.at i4 (by decide) e_number)))), (get_ne eF26 (by decide) (get_ne eF8 (by decide) (get_ne eF7 (by decide) (SAME.at i4 (by decide) e_word)))), (by omega), (by omega), (by omega), rfl⟩
      · have hP : va_P D vwCl [(h0, .inr (10, vL 67 F8)), (h_tape, .inl (cB, 940, .inl f_tape))] H := hP
        have hD : va_D A [(h0, .inr (10, vL 67 F8)), (h_tape, .inl (cB, 940, .inl f_tape))] := hD
        refine W.widen (k := 0) (n := 0) (Nat.le_of_ble_eq_true rfl) (Nat.le_of_ble_eq_true rfl) ?_
        refine lv_topi (fun v27 ev27 => ?_)
        have k28 : 0 ≤ v27.toInt ∧ v27.toInt ≤ 255 := by rw [ev27]; exact t23
        have k29 : 0 ≤ u2.toInt ∧ u2.toInt ≤ 939 := ⟨i6.1, up_lt t24 i_x_size.2 (by decide)⟩
        have k30 : 1 ≤ x_size.toInt ∧ x_size.toInt ≤ 940 := ⟨lo_lt t24 i6.1 (by decide), i_x_size.2⟩
        refine lv_istore_n (lv' := [(1, .int v27), (0, .ref h0)]) hx hb dX10_next_84 rfl hl (by decide) rfl (fun ls hl => ?_)
        refine lv_iload_n hx hb dX10_next_85 rfl (lv_at hl 0 rfl) ?_
        refine lv_if_ge (tgt := 95) hx hb dX10_next_86 (by decide) (fun c31 => ?_) (fun c31 => False.elim (bad_lt (nle_i (a := 0) (b := v27.toInt) rfl rfl c31) k28.1 (Int.le_refl _) (by decide)))
        have dc31 : 0 ≤ v27.toInt := le_i (a := 0) (b := v27.toInt) rfl rfl c31
        have cut33 : ∀ (u32 : Int32) (_ : IR 0 1 u32) (H : Heap) (locs : List Loc) (ls : Array Slot), va_P D vwCl [(h0, .inr (10, vL 67 F8)), (h_tape, .inl (cB, 940, .inl f_tape))] H → va_D A [(h0, .inr (10, vL 67 F8)), (h_tape, .inl (cB, 940, .inl f_tape))] → va_S A s.heap H locs → lv_has ls 4 [(3, .int 1), (2, .int u32), (1, .int v27), (0, .ref h0)] → W p l e ({ frames := 1, cells := 0, slots := 0, locals := 20 } : Room) s m [.ref h0].toArray below meth c H locs 0 0 (MQ below (va_Qv (fun (u : va_W) => ∃ (Gh : Nat → Value) (y_p : Int32) (y_token : Int32) (y_at : Int32) (y_span : Int32) (y_number : Int32) (y_word : Int64), SAME [4, 11, 12, 13, 14, 18] Fh Gh ∧ Gh 4 = .int y_p ∧ IR 0 940 y_p ∧ Gh 11 = .int y_token ∧ IR 0 4 y_token ∧ Gh 12 = .int y_at ∧ IR 0 940 y_at ∧ Gh 13 = .int y_span ∧ IR 0 940 y_span ∧ Gh 14 = .int y_number ∧ Gh 18 = .long y_word ∧ (x_p.toInt ≤ y_p.toInt) ∧ ((1 ≤ y_token.toInt → y_token.toInt ≤ 3 → x_p.toInt < y_p.toInt)) ∧ ((y_token.toInt = 2 → 0 ≤ y_number.toInt ∧ y_number.toInt ≤ 999)) ∧ u = [(h0, .inr (10, vL 67 Gh)), (h_tape, .inl (cB, 940, .inl f_tape))]) (PO D A) A) [.ref h0].toArray s 0 0 A) (F0 m 171 ls []) := by
          intro u32 i34 H locs ls hP hD hS hl
          have i34 : 0 ≤ u32.toInt ∧ u32.toInt ≤ 1 := i34
          refine lv_aload_n hx hb dX10_next_171 rfl (lv_at hl 3 rfl) ?_
          refine lv_lconst (v := 0) hx hb dX10_next_172 (by decide) ?_
          refine put_f (D := D) (ci := 10) (v := .long 0) (ty := .long) (C := RX10) (T := TX10) (N := 67) hx hb hw inAX10 tyX10 tyX10_ok nmX10 hown hK hP hD hS 0 rfl rfl 18 (by decide) (hw _ q_1279) (fun _ h9 => h9) rfl (by decide +kernel) rfl rfl dX10_next_173 (fun H locs F35 eF35 hP hD hS => ?_)
          have hP : va_P D vwCl [(h0, .inr (10, vL 67 F35)), (h_tape, .inl (cB, 940, .inl f_tape))] H := hP
          have hD : va_D A [(h0, .inr (10, vL 67 F35)), (h_tape, .inl (cB, 940, .inl f_tape))] := hD
          refine lv_aload_n hx hb dX10_next_176 rfl (lv_at hl 3 rfl) ?_
          refine lv_iconst (v := 0) hx hb dX10_next_177 (by decide) ?_
          refine put_f (D := D) (ci := 10) (v := .int 0) (ty := .int) (C := RX10) (T := TX10) (N := 67) hx hb hw inAX10 tyX10 tyX10_ok nmX10 hown hK hP hD hS 0 rfl rfl 14 (by decide) (hw _ q_1275) (fun _ h9 => h9) rfl (by decide +kernel) rfl rfl dX10_next_178 (fun H locs F36 eF36 hP hD hS => ?_)
          have hP : va_P D vwCl [(h0, .inr (10, vL 67 F36)), (h_tape, .inl (cB, 940, .inl f_tape))] H := hP
          have hD : va_D A [(h0, .inr (10, vL 67 F36)), (h_tape, .inl (cB, 940, .inl f_tape))] := hD
          have cut43 : ∀ (u37 : Int32) (G38 : Nat → Value) (u39 : Int32) (u40 : Int32) (u41 : Int32) (u42 : Int64) (_ : IR 0 1 u37) (_ : SAME [4, 13, 14, 18] F36 G38) (_ : G38 4 = .int u39) (_ : G38 13 = .int u40) (_ : G38 14 = .int u41) (_ : G38 18 = .long u42) (_ : IR 0 940 u39) (_ : IR 0 940 u40) (_ : (0 ≤ u40.toInt ∧ u40.toInt ≤ u39.toInt)) (_ : (u37.toInt = 1 → u32.toInt = 0 → (0 ≤ u41.toInt ∧ u41.toInt ≤ 999 ∧ (u40.toInt = 0 → u41.toInt = 0) ∧ (u40.toInt = 1 → u41.toInt ≤ 9) ∧ (u40.toInt = 2 → u41.toInt ≤ 99)))) (_ : ((x_token.toInt = 2 → 0 ≤ u41.toInt ∧ u41.toInt ≤ 999))) (H : Heap) (locs : List Loc) (ls : Array Slot), va_P D vwCl [(h0, .inr (10, vL 67 G38)), (h_tape, .inl (cB, 940, .inl f_tape))] H → va_D A [(h0, .inr (10, vL 67 G38)), (h_tape, .inl (cB, 940, .inl f_tape))] → va_S A s.heap H locs → lv_has ls 4 [(3, .int u37), (2, .int u32), (1, .int v27), (0, .ref h0)] → W p l e ({ frames := 1, cells := 0, slots := 0, locals := 20 } : Room) s m [.ref h0].toArray below meth c H locs 0 0 (MQ below (va_Qv (fun (u : va_W) => ∃ (Gh : Nat → Value) (y_p : Int32) (y_token : Int32) (y_at : Int32) (y_span : Int32) (y_number : Int32) (y_word : Int64), SAME [4, 11, 12, 13, 14, 18] Fh Gh ∧ Gh 4 = .int y_p ∧ IR 0 940 y_p ∧ Gh 11 = .int y_token ∧ IR 0 4 y_token ∧ Gh 12 = .int y_at ∧ IR 0 940 y_at ∧ Gh 13 = .int y_span ∧ IR 0 940 y_span ∧ Gh 14 = .int y_number ∧ Gh 18 = .long y_word ∧ (x_p.toInt ≤ y_p.toInt) ∧ ((1 ≤ y_token.toInt → y_token.toInt ≤ 3 → x_p.toInt < y_p.toInt)) ∧ ((y_token.toInt = 2 → 0 ≤ y_number.toInt ∧ y_number.toInt ≤ 999)) ∧ u = [(h0, .inr (10, vL 67 Gh)), (h_tape, .inl (cB, 940, .inl f_tape))]) (PO D A) A) [.ref h0].toArray s 0 0 A) (F0 m 298 ls []) := by
            intro u37 G38 u39 u40 u41 u42 i44 i45 i46 i47 i48 i49 i50 i51 i52 i53 i54 H locs ls hP hD hS hl
            have i44 : 0 ≤ u37.toInt ∧ u37.toInt ≤ 1 := i44
            have i50 : 0 ≤ u39.toInt ∧ u39.toInt ≤ 940 := i50
            have i51 : 0 ≤ u40.toInt ∧ u40.toInt ≤ 940 := i51
            have i52 : 0 ≤ u40.toInt ∧ u40.toInt ≤ u39.toInt := i52
            have i53 : u37.toInt = 1 → u32.toInt = 0 → (0 ≤ u41.toInt ∧ u41.toInt ≤ 999 ∧ (u40.toInt = 0 → u41.toInt = 0) ∧ (u40.toInt = 1 → u41.toInt ≤ 9) ∧ (u40.toInt = 2 → u41.toInt ≤ 99)) := i53
            have i54 : (x_token.toInt = 2 → 0 ≤ u41.toInt ∧ u41.toInt ≤ 999) := i54
            refine lv_aload_n hx hb dX10_next_298 rfl (lv_at hl 3 rfl) ?_
            refine lv_iload_n hx hb dX10_next_299 rfl (lv_at hl 0 rfl) ?_
            refine lv_if_eq (tgt := 320) hx hb dX10_next_300 (by decide) (fun c55 => ?_) (fun c55 => ?_)
            · have dc55 : u37.toInt = 0 := eq_i (a := u37.toInt) (b := 0) rfl rfl c55
              have k56 : 0 ≤ u37.toInt ∧ u37.toInt ≤ 0 := ⟨i44.1, Int.le_trans (Int.le_of_eq dc55) (Int.le_refl _)⟩
              refine lv_iconst (v := 4) hx hb dX10_next_320 (by decide) ?_
              refine lv_goto (tgt := 333) hx hb dX10_next_321 (by decide) ?_
              refine put_f (D := D) (ci := 10) (v := .int 4) (ty := .int) (C := RX10) (T := TX10) (N := 67) hx hb hw inAX10 tyX10 tyX10_ok nmX10 hown hK hP hD hS 0 rfl rfl 11 (by decide) (hw _ q_1272) (fun _ h9 => h9) rfl (by decide +kernel) rfl rfl dX10_next_333 (fun H locs F57 eF57 hP hD hS => ?_)
              have hP : va_P D vwCl [(h0, .inr (10, vL 67 F57)), (h_tape, .inl (cB, 940, .inl f_tape))] H := hP
              have hD : va_D A [(h0, .inr (10, vL 67 F57)), (h_tape, .inl (cB, 940, .inl f_tape))] := hD
              exact ret_v hx hb hr hlocks hS hP hD dX10_next_336 (Nat.le_of_ble_eq_true rfl) (Nat.le_of_ble_eq_true rfl) ⟨F57, u39, 4, u2, u40, u41, u42, (SAME.up eF57 (SAME.tr (SAME.up eF36 (SAME.up eF35 (SAME.up eF8 (SAME.up eF7 (SAME.tr SAME.rf i4 (by decide)) (by decide)) (by decide)) (by decide)) (by decide)) i45 (by decide)) (by decide)), (get_ne eF57 (by decide) i46), i50, (get_eq eF57), (show 0 ≤ (4 : Int32).toInt ∧ (4 : Int32).toInt ≤ 4 by decide), (get_ne eF57 (by decide) (SAME.at i45 (by decide) (get_ne eF36 (by decide) (get_ne eF35 (by decide) (get_ne eF8 (by decide) (get_eq eF7)))))), (ir_wk k29 (by decide) (by decide)), (get_ne eF57 (by decide) i47), i51, (get_ne eF57 (by decide) i48), (get_ne eF57 (by decide) i49), (by omega), (by omega), (by omega), rfl⟩
            · have dc55 : u37.toInt ≠ 0 := ne_i (a := u37.toInt) (b := 0) rfl rfl c55
              have k58 : 1 ≤ u37.toInt ∧ u37.toInt ≤ 1 := ⟨ne_lo dc55 i44.1 ⟨Int.le_refl _, Int.le_refl _⟩ (by decide), i44.2⟩
              refine lv_aload_n hx hb dX10_next_303 rfl (lv_at hl 3 rfl) ?_
              refine get_f (D := D) (ci := 10) (v := .int u40) (C := RX10) (T := TX10) (N := 67) hx hb hw inAX10 hown hK hP 0 rfl rfl 13 (by decide) (hw _ q_1274) (fun _ h9 => h9) i47 dX10_next_304 ?_
              refine lv_iload_n hx hb dX10_next_307 rfl (lv_at hl 1 rfl) ?_
              refine lv_if_eq (tgt := 316) hx hb dX10_next_308 (by decide) (fun c59 => ?_) (fun c59 => ?_)
              · have dc59 : u32.toInt = 0 := eq_i (a := u32.toInt) (b := 0) rfl rfl c59
                have k60 : 0 ≤ u32.toInt ∧ u32.toInt ≤ 0 := ⟨i34.1, Int.le_trans (Int.le_of_eq dc59) (Int.le_refl _)⟩
                refine lv_iconst (v := 3) hx hb dX10_next_316 (by decide) ?_
                refine lv_icmp_le (tgt := 324) hx hb dX10_next_317 (by decide) (fun c61 => ?_) (fun c61 => ?_)
                · have dc61 : u40.toInt ≤ 3 := le_i (a := u40.toInt) (b := 3) rfl rfl c61
                  have k62 : 0 ≤ u40.toInt ∧ u40.toInt ≤ 3 := ⟨i51.1, Int.le_trans dc61 (Int.le_refl _)⟩
                  refine lv_iload_n hx hb dX10_next_324 rfl (lv_at hl 1 rfl) ?_
                  refine lv_if_eq (tgt := 332) hx hb dX10_next_325 (by decide) (fun c63 => ?_) (fun c63 => False.elim (bad_ne (ne_i (a := u32.toInt) (b := 0) rfl rfl c63) k60 ⟨Int.le_refl _, Int.le_refl _⟩ (by decide)))
                  have dc63 : u32.toInt = 0 := eq_i (a := u32.toInt) (b := 0) rfl rfl c63
                  refine lv_iconst (v := 2) hx hb dX10_next_332 (by decide) ?_
                  refine put_f (D := D) (ci := 10) (v := .int 2) (ty := .int) (C := RX10) (T := TX10) (N := 67) hx hb hw inAX10 tyX10 tyX10_ok nmX10 hown hK hP hD hS 0 rfl rfl 11 (by decide) (hw _ q_1272) (fun _ h9 => h9) rfl (by decide +kernel) rfl rfl dX10_next_333 (fun H locs F64 eF64 hP hD hS => ?_)
                  have hP : va_P D vwCl [(h0, .inr (10, vL 67 F64)), (h_tape, .inl (cB, 940, .inl f_tape))] H := hP
                  have hD : va_D A [(h0, .inr (10, vL 67 F64)), (h_tape, .inl (cB, 940, .inl f_tape))] := hD
                  exact ret_v hx hb hr hlocks hS hP hD dX10_next_336 (Nat.le_of_ble_eq_true rfl) (Nat.le_of_ble_eq_true rfl) ⟨F64, u39, 2, u2, u40, u41, u42, (SAME.up eF64 (SAME.tr (SAME.up eF36 (SAME.up eF35 (SAME.up eF8 (SAME.up eF7 (SAME.tr SAME.rf i4 (by decide)) (by decide)) (by decide)) (by decide)) (by decide)) i45 (by decide)) (by decide)), (get_ne eF64 (by decide) i46), i50, (get_eq eF64), (show 0 ≤ (2 : Int32).toInt ∧ (2 : Int32).toInt ≤ 4 by decide), (get_ne eF64 (by decide) (SAME.at i45 (by decide) (get_ne eF36 (by decide) (get_ne eF35 (by decide) (get_ne eF8 (by decide) (get_eq eF7)))))), (ir_wk k29 (by decide) (by decide)), (get_ne eF64 (by decide) i47), (ir_wk k62 (by decide) (by decide)), (get_ne eF64 (by decide) i48), (get_ne eF64 (by decide) i49), (by omega), (by omega), (by omega), rfl⟩
                · have dc61 : 3 < u40.toInt := nle_i (a := u40.toInt) (b := 3) rfl rfl c61
                  have k65 : 4 ≤ u40.toInt ∧ u40.toInt ≤ 940 := ⟨lo_lt dc61 (Int.le_refl _) (by decide), i51.2⟩
                  refine lv_iconst (v := 4) hx hb dX10_next_320 (by decide) ?_
                  refine lv_goto (tgt := 333) hx hb dX10_next_321 (by decide) ?_
                  refine put_f (D := D) (ci := 10) (v := .int 4) (ty := .int) (C := RX10) (T := TX10) (N := 67) hx hb hw inAX10 tyX10 tyX10_ok nmX10 hown hK hP hD hS 0 rfl rfl 11 (by decide) (hw _ q_1272) (fun _ h9 => h9) rfl (by decide +kernel) rfl rfl dX10_next_333 (fun H locs F66 eF66 hP hD hS => ?_)
                  have hP : va_P D vwCl [(h0, .inr (10, vL 67 F66)), (h_tape, .inl (cB, 940, .inl f_tape))] H := hP
                  have hD : va_D A [(h0, .inr (10, vL 67 F66)), (h_tape, .inl (cB, 940, .inl f_tape))] := hD
                  exact ret_v hx hb hr hlocks hS hP hD dX10_next_336 (Nat.le_of_ble_eq_true rfl) (Nat.le_of_ble_eq_true rfl) ⟨F66, u39, 4, u2, u40, u41, u42, (SAME.up eF66 (SAME.tr (SAME.up eF36 (SAME.up eF35 (SAME.up eF8 (SAME.up eF7 (SAME.tr SAME.rf i4 (by decide)) (by decide)) (by decide)) (by decide)) (by decide)) i45 (by decide)) (by decide)), (get_ne eF66 (by decide) i46), i50, (get_eq eF66), (show 0 ≤ (4 : Int32).toInt ∧ (4 : Int32).toInt ≤ 4 by decide), (get_ne eF66 (by decide) (SAME.at i45 (by decide) (get_ne eF36 (by decide) (get_ne eF35 (by decide) (get_ne eF8 (by decide) (get_eq eF7)))))), (ir_wk k29 (by decide) (by decide)), (get_ne eF66 (by decide) i47), (ir_wk k65 (by decide) (by decide)), (get_ne eF66 (by decide) i48), (get_ne eF66 (by decide) i49), (by omega), (by omega), (by omega), rfl⟩
              · have dc59 : u32.toInt ≠ 0 := ne_i (a := u32.toInt) (b := 0) rfl rfl c59
                have k67 : 1 ≤ u32.toInt ∧ u32.toInt ≤ 1 := ⟨ne_lo dc59 i34.1 ⟨Int.le_refl _, Int.le_refl _⟩ (by decide), i34.2⟩
                refine lv_bipush (v := 7) hx hb dX10_next_311 (by decide) ?_
                refine lv_goto (tgt := 317) hx hb dX10_next_313 (by decide) ?_
                refine lv_icmp_le (tgt := 324) hx hb dX10_next_317 (by decide) (fun c68 => ?_) (fun c68 => ?_)
                · have dc68 : u40.toInt ≤ 7 := le_i (a := u40.toInt) (b := 7) rfl rfl c68
                  have k69 : 0 ≤ u40.toInt ∧ u40.toInt ≤ 7 := ⟨i51.1, Int.le_trans dc68 (Int.le_refl _)⟩
                  refine lv_iload_n hx hb dX10_next_324 rfl (lv_at hl 1 rfl) ?_
                  refine lv_if_eq (tgt := 332) hx hb dX10_next_325 (by decide) (fun c70 => False.elim (bad_le (Int.le_of_eq (eq_i (a := u32.toInt) (b := 0) rfl rfl c70)) k67.1 (Int.le_refl _) (by decide))) (fun c70 => ?_)
                  have dc70 : u32.toInt ≠ 0 := ne_i (a := u32.toInt) (b := 0) rfl rfl c70
                  refine lv_iconst (v := 1) hx hb dX10_next_328 (by decide) ?_
                  refine lv_goto (tgt := 333) hx hb dX10_next_329 (by decide) ?_
                  refine put_f (D := D) (ci := 10) (v := .int 1) (ty := .int) (C := RX10) (T := TX10) (N := 67) hx hb hw inAX10 tyX10 tyX10_ok nmX10 hown hK hP hD hS 0 rfl rfl 11 (by decide) (hw _ q_1272) (fun _ h9 => h9) rfl (by decide +kernel) rfl rfl dX10_next_333 (fun H locs F71 eF71 hP hD hS => ?_)
                  have hP : va_P D vwCl [(h0, .inr (10, vL 67 F71)), (h_tape, .inl (cB, 940, .inl f_tape))] H := hP
                  have hD : va_D A [(h0, .inr (10, vL 67 F71)), (h_tape, .inl (cB, 940, .inl f_tape))] := hD
                  exact ret_v hx hb hr hlocks hS hP hD dX10_next_336 (Nat.le_of_ble_eq_true rfl) (Nat.le_of_ble_eq_true rfl) ⟨F71, u39, 1, u2, u40, u41, u42, (SAME.up eF71 (SAME.tr (SAME.up eF36 (SAME.up eF35 (SAME.up eF8 (SAME.up eF7 (SAME.tr SAME.rf i4 (by decide)) (by decide)) (by decide)) (by decide)) (by decide)) i45 (by decide)) (by decide)), (get_ne eF71 (by decide) i46), i50, (get_eq eF71), (show 0 ≤ (1 : Int32).toInt ∧ (1 : Int32).toInt ≤ 4 by decide), (get_ne eF71 (by decide) (SAME.at i45 (by decide) (get_ne eF36 (by decide) (get_ne eF35 (by decide) (get_ne eF8 (by decide) (get_eq eF7)))))), (ir_wk k29 (by decide) (by decide)), (get_ne eF71 (by decide) i47), (ir_wk k69 (by decide) (by decide)), (get_ne eF71 (by decide) i48), (get_ne eF71 (by decide) i49), (by omega), (by omega), (by omega), rfl⟩
                · have dc68 : 7 < u40.toInt := nle_i (a := u40.toInt) (b := 7) rfl rfl c68
                  have k72 : 8 ≤ u40.toInt ∧ u40.toInt ≤ 940 := ⟨lo_lt dc68 (Int.le_refl _) (by decide), i51.2⟩
                  refine lv_iconst (v := 4) hx hb dX10_next_320 (by decide) ?_
                  refine lv_goto (tgt := 333) hx hb dX10_next_321 (by decide) ?_
                  refine put_f (D := D) (ci := 10) (v := .int 4) (ty := .int) (C := RX10) (T := TX10) (N := 67) hx hb hw inAX10 tyX10 tyX10_ok nmX10 hown hK hP hD hS 0 rfl rfl 11 (by decide) (hw _ q_1272) (fun _ h9 => h9) rfl (by decide +kernel) rfl rfl dX10_next_333 (fun H locs F73 eF73 hP hD hS => ?_)
                  have hP : va_P D vwCl [(h0, .inr (10, vL 67 F73)), (h_tape, .inl (cB, 940, .inl f_tape))] H := hP
                  have hD : va_D A [(h0, .inr (10, vL 67 F73)), (h_tape, .inl (cB, 940, .inl f_tape))] := hD
                  exact ret_v hx hb hr hlocks hS hP hD dX10_next_336 (Nat.le_of_ble_eq_true rfl) (Nat.le_of_ble_eq_true rfl) ⟨F73, u39, 4, u2, u40, u41, u42, (SAME.up eF73 (SAME.tr (SAME.up eF36 (SAME.up eF35 (SAME.up eF8 (SAME.up eF7 (SAME.tr SAME.rf i4 (by decide)) (by decide)) (by decide)) (by decide)) (by decide)) i45 (by decide)) (by decide)), (get_ne eF73 (by decide) i46), i50, (get_eq eF73), (show 0 ≤ (4 : Int32).toInt ∧ (4 : Int32).toInt ≤ 4 by decide), (get_ne eF73 (by decide) (SAME.at i45 (by decide) (get_ne eF36 (by decide) (get_ne eF35 (by decide) (get_ne eF8 (by decide) (get_eq eF7)))))), (ir_wk k29 (by decide) (by decide)), (get_ne eF73 (by decide) i47), (ir_wk k72 (by decide) (by decide)), (get_ne eF73 (by decide) i48), (get_ne eF73 (by decide) i49), (by omega), (by omega), (by omega), rfl⟩
          have n74 : F35 4 = .int u2 := (get_ne eF35 (by decide) n20)
          have n75 : F36 4 = .int u2 := (get_ne eF36 (by decide) n74)
          have n76 : F35 13 = .int 0 := (get_ne eF35 (by decide) (get_eq eF8))
          have n77 : F36 13 = .int 0 := (get_ne eF36 (by decide) n76)
          have n78 : F36 18 = .long 0 := (get_ne eF36 (by decide) (get_eq eF35))
          refine mloop (α := (Int32) × (Nat → Value) × (Int32) × (Int32) × (Int32) × (Int64)) (nL := 4) (D := D) (A := A) (H0 := s.heap) (fun a => (x_size.toInt - a.2.2.1.toInt).toNat) (fun a => IR 0 1 a.1 ∧ SAME [4, 13, 14, 18] F36 a.2.1 ∧ a.2.1 4 = .int a.2.2.1 ∧ a.2.1 13 = .int a.2.2.2.1 ∧ a.2.1 14 = .int a.2.2.2.2.1 ∧ a.2.1 18 = .long a.2.2.2.2.2 ∧ IR 0 940 a.2.2.1 ∧ IR 0 940 a.2.2.2.1 ∧ (0 ≤ a.2.2.2.1.toInt ∧ a.2.2.2.1.toInt ≤ a.2.2.1.toInt) ∧ (a.1.toInt = 1 → u32.toInt = 0 → (0 ≤ a.2.2.2.2.1.toInt ∧ a.2.2.2.2.1.toInt ≤ 999 ∧ (a.2.2.2.1.toInt = 0 → a.2.2.2.2.1.toInt = 0) ∧ (a.2.2.2.1.toInt = 1 → a.2.2.2.2.1.toInt ≤ 9) ∧ (a.2.2.2.1.toInt = 2 → a.2.2.2.2.1.toInt ≤ 99))) ∧ ((x_token.toInt = 2 → 0 ≤ a.2.2.2.2.1.toInt ∧ a.2.2.2.2.1.toInt ≤ 999))) (fun a => [(h0, .inr (10, vL 67 a.2.1)), (h_tape, .inl (cB, 940, .inl f_tape))]) (fun a => [(3, .int a.1), (2, .int u32), (1, .int v27), (0, .ref h0)]) (fun H locs ls => W p l e ({ frames := 1, cells := 0, slots := 0, locals := 20 } : Room) s m [.ref h0].toArray below meth c H locs 0 0 (MQ below (va_Qv (fun (u : va_W) => ∃ (Gh : Nat → Value) (y_p : Int32) (y_token : Int32) (y_at : Int32) (y_span : Int32) (y_number : Int32) (y_word : Int64), SAME [4, 11, 12, 13, 14, 18] Fh Gh ∧ Gh 4 = .int y_p ∧ IR 0 940 y_p ∧ Gh 11 = .int y_token ∧ IR 0 4 y_token ∧ Gh 12 = .int y_at ∧ IR 0 940 y_at ∧ Gh 13 = .int y_span ∧ IR 0 940 y_span ∧ Gh 14 = .int y_number ∧ Gh 18 = .long y_word ∧ (x_p.toInt ≤ y_p.toInt) ∧ ((1 ≤ y_token.toInt → y_token.toInt ≤ 3 → x_p.toInt < y_p.toInt)) ∧ ((y_token.toInt = 2 → 0 ≤ y_number.toInt ∧ y_number.toInt ≤ 999)) ∧ u = [(h0, .inr (10, vL 67 Gh)), (h_tape, .inl (cB, 940, .inl f_tape))]) (PO D A) A) [.ref h0].toArray s 0 0 A) (F0 m 181 ls [])) ?_ (1, F36, u2, 0, 0, 0) ⟨(show 0 ≤ (1 : Int32).toInt ∧ (1 : Int32).toInt ≤ 1 by decide), SAME.rf, n75, n77, (get_eq eF36), n78, (ir_wk k29 (by decide) (by decide)), (show 0 ≤ (0 : Int32).toInt ∧ (0 : Int32).toInt ≤ 940 by decide), (by show 0 ≤ 0 ∧ 0 ≤ u2.toInt; omega), (by show 1 = 1 → u32.toInt = 0 → (0 ≤ 0 ∧ 0 ≤ 999 ∧ (0 = 0 → 0 = 0) ∧ (0 = 1 → 0 ≤ 9) ∧ (0 = 2 → 0 ≤ 99)); omega), (by show (x_token.toInt = 2 → 0 ≤ 0 ∧ 0 ≤ 999); omega)⟩ _ _ _ hP hD hS hl
          rintro ⟨u37, G38, u39, u40, u41, u42⟩ ⟨i79, i80, i81, i82, i83, i84, i85, i86, i87, i88, i89⟩ ih H locs ls hP hD hS hl
          have i79 : 0 ≤ u37.toInt ∧ u37.toInt ≤ 1 := i79
          have i85 : 0 ≤ u39.toInt ∧ u39.toInt ≤ 940 := i85
          have i86 : 0 ≤ u40.toInt ∧ u40.toInt ≤ 940 := i86
          have i87 : 0 ≤ u40.toInt ∧ u40.toInt ≤ u39.toInt := i87
          have i88 : u37.toInt = 1 → u32.toInt = 0 → (0 ≤ u41.toInt ∧ u41.toInt ≤ 999 ∧ (u40.toInt = 0 → u41.toInt = 0) ∧ (u40.toInt = 1 → u41.toInt ≤ 9) ∧ (u40.toInt = 2 → u41.toInt ≤ 99)) := i88
          have i89 : (x_token.toInt = 2 → 0 ≤ u41.toInt ∧ u41.toInt ≤ 999) := i89
          have hP : va_P D vwCl [(h0, .inr (10, vL 67 G38)), (h_tape, .inl (cB, 940, .inl f_tape))] H := hP
          have hD : va_D A [(h0, .inr (10, vL 67 G38)), (h_tape, .inl (cB, 940, .inl f_tape))] := hD
          have hl : lv_has ls 4 [(3, .int u37), (2, .int u32), (1, .int v27), (0, .ref h0)] := hl
          refine lv_aload_n hx hb dX10_next_181 rfl (lv_at hl 3 rfl) ?_
          have n90 : F35 1 = .ref h_tape := (get_ne eF35 (by decide) n18)
          have n91 : F36 1 = .ref h_tape := (get_ne eF36 (by decide) n90)
          have n92 : G38 1 = .ref h_tape := (SAME.at i80 (by decide) n91)
          have n93 : F35 3 = .int x_size := (get_ne eF35 (by decide) n11)
          have n94 : F36 3 = .int x_size := (get_ne eF36 (by decide) n93)
          have n95 : G38 3 = .int x_size := (SAME.at i80 (by decide) n94)
          refine call_Vi (wr := []) (As := []) (rest := []) hx hb hml hown hw (m_X10_peek l D cI cJ cB cP cM cZ h0 h_tape G38 x_size u39 f_tape _ n92 n95 (ir_wk k30 (by decide) (by decide)) i81 i85) wV_X10_169_X10_peek dX10_next_182 hK hP hD hS hA [0, 1] [] rfl rfl (by decide) (by decide) (by decide) 0 10 rfl rfl GG.fb hG.at hl.1 rfl (Nat.le_of_ble_eq_true rfl) ⟨(Nat.le_of_ble_eq_true rfl), (Nat.le_of_ble_eq_true rfl)⟩ ⟨(Nat.le_of_ble_eq_true rfl), (Nat.le_of_ble_eq_true rfl)⟩ (fun r96 u H locs hp hP hD hS => ?_)
          rcases hp with ⟨t97, rfl, rfl⟩ | ⟨t98, t99, rfl, rfl⟩
          · have hP : va_P D vwCl [(h0, .inr (10, vL 67 G38)), (h_tape, .inl (cB, 940, .inl f_tape))] H := hP
            have hD : va_D A [(h0, .inr (10, vL 67 G38)), (h_tape, .inl (cB, 940, .inl f_tape))] := hD
            refine W.widen (k := 0) (n := 0) (Nat.le_of_ble_eq_true rfl) (Nat.le_of_ble_eq_true rfl) ?_
            have k101 : 1 ≤ u39.toInt ∧ u39.toInt ≤ 940 := ⟨Int.le_trans k30.1 t97, i85.2⟩
            refine call_Si (wr := [(h0, .inr (10, vL 67 G38)), (h_tape, .inl (cB, 940, .inl f_tape))]) (As := [.int (-1)]) (rest := []) hx hb hml hown hw (m_X10_isSmall l D cI cJ cB cP cM cZ (-1) _ ) wS_X10_182_X10_isSmall dX10_next_185 hP hD hS hA [] [0, 1] rfl rfl (by decide) (by decide) (by decide) GG.fb hG.at hl.1 rfl (Nat.le_of_ble_eq_true rfl) ⟨(Nat.le_of_ble_eq_true rfl), (Nat.le_of_ble_eq_true rfl)⟩ ⟨(Nat.le_of_ble_eq_true rfl), (Nat.le_of_ble_eq_true rfl)⟩ (fun r102 u H locs hp hP hD hS => ?_)
            rcases hp with ⟨t103, rfl, rfl⟩ | ⟨t104, t105, rfl, rfl⟩ | ⟨t106, t107, rfl, rfl⟩
            · have hP : va_P D vwCl [(h0, .inr (10, vL 67 G38)), (h_tape, .inl (cB, 940, .inl f_tape))] H := hP
              have hD : va_D A [(h0, .inr (10, vL 67 G38)), (h_tape, .inl (cB, 940, .inl f_tape))] := hD
              refine W.widen (k := 0) (n := 0) (Nat.le_of_ble_eq_true rfl) (Nat.le_of_ble_eq_true rfl) ?_
              refine lv_if_ne (tgt := 201) hx hb dX10_next_188 (by decide) (fun g => absurd (by decide) g) (fun _ => ?_)
              refine lv_aload_n hx hb dX10_next_191 rfl (lv_at hl 3 rfl) ?_
              refine call_Vi (wr := []) (As := []) (rest := []) hx hb hml hown hw (m_X10_peek l D cI cJ cB cP cM cZ h0 h_tape G38 x_size u39 f_tape _ n92 n95 (ir_wk k30 (by decide) (by decide)) i81 (ir_wk k101 (by decide) (by decide))) wV_X10_169_X10_peek dX10_next_192 hK hP hD hS hA [0, 1] [] rfl rfl (by decide) (by decide) (by decide) 0 10 rfl rfl GG.fb hG.at hl.1 rfl (Nat.le_of_ble_eq_true rfl) ⟨(Nat.le_of_ble_eq_true rfl), (Nat.le_of_ble_eq_true rfl)⟩ ⟨(Nat.le_of_ble_eq_true rfl), (Nat.le_of_ble_eq_true rfl)⟩ (fun r109 u H locs hp hP hD hS => ?_)
              rcases hp with ⟨t110, rfl, rfl⟩ | ⟨t111, t112, rfl, rfl⟩
              · have hP : va_P D vwCl [(h0, .inr (10, vL 67 G38)), (h_tape, .inl (cB, 940, .inl f_tape))] H := hP
                have hD : va_D A [(h0, .inr (10, vL 67 G38)), (h_tape, .inl (cB, 940, .inl f_tape))] := hD
                refine W.widen (k := 0) (n := 0) (Nat.le_of_ble_eq_true rfl) (Nat.le_of_ble_eq_true rfl) ?_
                refine call_Si (wr := [(h0, .inr (10, vL 67 G38)), (h_tape, .inl (cB, 940, .inl f_tape))]) (As := [.int (-1)]) (rest := []) hx hb hml hown hw (m_X10_isDigit l D cI cJ cB cP cM cZ (-1) _ ) wS_X10_186_X10_isDigit dX10_next_195 hP hD hS hA [] [0, 1] rfl rfl (by decide) (by decide) (by decide) GG.fb hG.at hl.1 rfl (Nat.le_of_ble_eq_true rfl) ⟨(Nat.le_of_ble_eq_true rfl), (Nat.le_of_ble_eq_true rfl)⟩ ⟨(Nat.le_of_ble_eq_true rfl), (Nat.le_of_ble_eq_true rfl)⟩ (fun r114 u H locs hp hP hD hS => ?_)
                rcases hp with ⟨t115, rfl, rfl⟩ | ⟨t116, t117, rfl, rfl⟩ | ⟨t118, t119, rfl, rfl⟩
                · have hP : va_P D vwCl [(h0, .inr (10, vL 67 G38)), (h_tape, .inl (cB, 940, .inl f_tape))] H := hP
                  have hD : va_D A [(h0, .inr (10, vL 67 G38)), (h_tape, .inl (cB, 940, .inl f_tape))] := hD
                  refine W.widen (k := 0) (n := 0) (Nat.le_of_ble_eq_true rfl) (Nat.le_of_ble_eq_true rfl) ?_
                  refine lv_if_eq (tgt := 298) hx hb dX10_next_198 (by decide) (fun _ => ?_) (fun g => absurd (by decide) g)
                  exact cut43 u37 G38 u39 u40 u41 u42 i79 (SAME.tr SAME.rf i80 (by decide)) i81 i82 i83 i84 (ir_wk k101 (by decide) (by decide)) i86 (by show 0 ≤ u40.toInt ∧ u40.toInt ≤ u39.toInt; omega) (by show u37.toInt = 1 → u32.toInt = 0 → (0 ≤ u41.toInt ∧ u41.toInt ≤ 999 ∧ (u40.toInt = 0 → u41.toInt = 0) ∧ (u40.toInt = 1 → u41.toInt ≤ 9) ∧ (u40.toInt = 2 → u41.toInt ≤ 99)); omega) (by show (x_token.toInt = 2 → 0 ≤ u41.toInt ∧ u41.toInt ≤ 999); omega) _ _ _ hP hD hS (lv_sub hl [0, 1, 2, 3] rfl)
                · have hP : va_P D vwCl [(h0, .inr (10, vL 67 G38)), (h_tape, .inl (cB, 940, .inl f_tape))] H := hP
                  have hD : va_D A [(h0, .inr (10, vL 67 G38)), (h_tape, .inl (cB, 940, .inl f_tape))] := hD
                  refine W.widen (k := 0) (n := 0) (Nat.le_of_ble_eq_true rfl) (Nat.le_of_ble_eq_true rfl) ?_
                  exact absurd t116 (by decide)
                · have hP : va_P D vwCl [(h0, .inr (10, vL 67 G38)), (h_tape, .inl (cB, 940, .inl f_tape))] H := hP
                  have hD : va_D A [(h0, .inr (10, vL 67 G38)), (h_tape, .inl (cB, 940, .inl f_tape))] := hD
                  refine W.widen (k := 0) (n := 0) (Nat.le_of_ble_eq_true rfl) (Nat.le_of_ble_eq_true rfl) ?_
                  exact absurd t118 (by decide)
              · have hP : va_P D vwCl [(h0, .inr (10, vL 67 G38)), (h_tape, .inl (cB, 940, .inl f_tape))] H := hP
                have hD : va_D A [(h0, .inr (10, vL 67 G38)), (h_tape, .inl (cB, 940, .inl f_tape))] := hD
                refine W.widen (k := 0) (n := 0) (Nat.le_of_ble_eq_true rfl) (Nat.le_of_ble_eq_true rfl) ?_
                refine lv_topi (fun v121 ev121 => ?_)
                have k122 : 0 ≤ v121.toInt ∧ v121.toInt ≤ 255 := by rw [ev121]; exact t111
                have k123 : 1 ≤ u39.toInt ∧ u39.toInt ≤ 939 := ⟨k101.1, up_lt t112 k30.2 (by decide)⟩
                have k124 : 2 ≤ x_size.toInt ∧ x_size.toInt ≤ 940 := ⟨lo_lt t112 k101.1 (by decide), k30.2⟩
                refine call_Si (wr := [(h0, .inr (10, vL 67 G38)), (h_tape, .inl (cB, 940, .inl f_tape))]) (As := [.int v121]) (rest := []) hx hb hml hown hw (m_X10_isDigit l D cI cJ cB cP cM cZ v121 _ ) wS_X10_186_X10_isDigit dX10_next_195 hP hD hS hA [] [0, 1] rfl rfl (by decide) (by decide) (by decide) GG.fb hG.at hl.1 rfl (Nat.le_of_ble_eq_true rfl) ⟨(Nat.le_of_ble_eq_true rfl), (Nat.le_of_ble_eq_true rfl)⟩ ⟨(Nat.le_of_ble_eq_true rfl), (Nat.le_of_ble_eq_true rfl)⟩ (fun r125 u H locs hp hP hD hS => ?_)
                rcases hp with ⟨t126, rfl, rfl⟩ | ⟨t127, t128, rfl, rfl⟩ | ⟨t129, t130, rfl, rfl⟩
                · have hP : va_P D vwCl [(h0, .inr (10, vL 67 G38)), (h_tape, .inl (cB, 940, .inl f_tape))] H := hP
                  have hD : va_D A [(h0, .inr (10, vL 67 G38)), (h_tape, .inl (cB, 940, .inl f_tape))] := hD
                  refine W.widen (k := 0) (n := 0) (Nat.le_of_ble_eq_true rfl) (Nat.le_of_ble_eq_true rfl) ?_
                  have k132 : 0 ≤ v121.toInt ∧ v121.toInt ≤ 47 := ⟨k122.1, up_lt t126 (Int.le_refl _) (by decide)⟩
                  refine lv_if_eq (tgt := 298) hx hb dX10_next_198 (by decide) (fun _ => ?_) (fun g => absurd (by decide) g)
                  exact cut43 u37 G38 u39 u40 u41 u42 i79 (SAME.tr SAME.rf i80 (by decide)) i81 i82 i83 i84 (ir_wk k123 (by decide) (by decide)) i86 (by show 0 ≤ u40.toInt ∧ u40.toInt ≤ u39.toInt; omega) (by show u37.toInt = 1 → u32.toInt = 0 → (0 ≤ u41.toInt ∧ u41.toInt ≤ 999 ∧ (u40.toInt = 0 → u41.toInt = 0) ∧ (u40.toInt = 1 → u41.toInt ≤ 9) ∧ (u40.toInt = 2 → u41.toInt ≤ 99)); omega) (by show (x_token.toInt = 2 → 0 ≤ u41.toInt ∧ u41.toInt ≤ 999); omega) _ _ _ hP hD hS (lv_sub hl [0, 1, 2, 3] rfl)
                · have hP : va_P D vwCl [(h0, .inr (10, vL 67 G38)), (h_tape, .inl (cB, 940, .inl f_tape))] H := hP
                  have hD : va_D A [(h0, .inr (10, vL 67 G38)), (h_tape, .inl (cB, 940, .inl f_tape))] := hD
                  refine W.widen (k := 0) (n := 0) (Nat.le_of_ble_eq_true rfl) (Nat.le_of_ble_eq_true rfl) ?_
                  have k133 : 48 ≤ v121.toInt ∧ v121.toInt ≤ 255 := ⟨Int.le_trans (Int.le_refl _) t127, k122.2⟩
                  have k134 : 58 ≤ v121.toInt ∧ v121.toInt ≤ 255 := ⟨lo_lt t128 (Int.le_refl _) (by decide), k133.2⟩
                  refine lv_if_eq (tgt := 298) hx hb dX10_next_198 (by decide) (fun _ => ?_) (fun g => absurd (by decide) g)
                  exact cut43 u37 G38 u39 u40 u41 u42 i79 (SAME.tr SAME.rf i80 (by decide)) i81 i82 i83 i84 (ir_wk k123 (by decide) (by decide)) i86 (by show 0 ≤ u40.toInt ∧ u40.toInt ≤ u39.toInt; omega) (by show u37.toInt = 1 → u32.toInt = 0 → (0 ≤ u41.toInt ∧ u41.toInt ≤ 999 ∧ (u40.toInt = 0 → u41.toInt = 0) ∧ (u40.toInt = 1 → u41.toInt ≤ 9) ∧ (u40.toInt = 2 → u41.toInt ≤ 99)); omega) (by show (x_token.toInt = 2 → 0 ≤ u41.toInt ∧ u41.toInt ≤ 999); omega) _ _ _ hP hD hS (lv_sub hl [0, 1, 2, 3] rfl)
                · have hP : va_P D vwCl [(h0, .inr (10, vL 67 G38)), (h_tape, .inl (cB, 940, .inl f_tape))] H := hP
                  have hD : va_D A [(h0, .inr (10, vL 67 G38)), (h_tape, .inl (cB, 940, .inl f_tape))] := hD
                  refine W.widen (k := 0) (n := 0) (Nat.le_of_ble_eq_true rfl) (Nat.le_of_ble_eq_true rfl) ?_
                  have k135 : 48 ≤ v121.toInt ∧ v121.toInt ≤ 255 := ⟨Int.le_trans (Int.le_refl _) t129, k122.2⟩
                  have k136 : 48 ≤ v121.toInt ∧ v121.toInt ≤ 57 := ⟨k135.1, Int.le_trans t130 (Int.le_refl _)⟩
                  refine lv_if_eq (tgt := 298) hx hb dX10_next_198 (by decide) (fun g => absurd g (by decide)) (fun _ => ?_)
                  have cut138 : ∀ (u137 : Int32) (_ : IR 0 1 u137) (_ : ((u137.toInt = 1 → u32.toInt = 0 → (48 ≤ v121.toInt ∧ v121.toInt ≤ 57 ∧ 0 ≤ u41.toInt ∧ u41.toInt ≤ 999 ∧ (u40.toInt = 0 → u41.toInt = 0) ∧ (u40.toInt = 1 → u41.toInt ≤ 9) ∧ (u40.toInt = 2 → u41.toInt ≤ 99))))) (H : Heap) (locs : List Loc) (ls : Array Slot), va_P D vwCl [(h0, .inr (10, vL 67 G38)), (h_tape, .inl (cB, 940, .inl f_tape))] H → va_D A [(h0, .inr (10, vL 67 G38)), (h_tape, .inl (cB, 940, .inl f_tape))] → va_S A s.heap H locs → lv_has ls 4 [(3, .int u137), (2, .int u32), (1, .int v27), (0, .ref h0)] → W p l e ({ frames := 1, cells := 0, slots := 0, locals := 20 } : Room) s m [.ref h0].toArray below meth c H locs 0 0 (MQ below (va_Qv (fun (u : va_W) => ∃ (Gh : Nat → Value) (y_p : Int32) (y_token : Int32) (y_at : Int32) (y_span : Int32) (y_number : Int32) (y_word : Int64), SAME [4, 11, 12, 13, 14, 18] Fh Gh ∧ Gh 4 = .int y_p ∧ IR 0 940 y_p ∧ Gh 11 = .int y_token ∧ IR 0 4 y_token ∧ Gh 12 = .int y_at ∧ IR 0 940 y_at ∧ Gh 13 = .int y_span ∧ IR 0 940 y_span ∧ Gh 14 = .int y_number ∧ Gh 18 = .long y_word ∧ (x_p.toInt ≤ y_p.toInt) ∧ ((1 ≤ y_token.toInt → y_token.toInt ≤ 3 → x_p.toInt < y_p.toInt)) ∧ ((y_token.toInt = 2 → 0 ≤ y_number.toInt ∧ y_number.toInt ≤ 999)) ∧ u = [(h0, .inr (10, vL 67 Gh)), (h_tape, .inl (cB, 940, .inl f_tape))]) (PO D A) A) [.ref h0].toArray s 0 0 A) (F0 m 222 ls []) := by
                    intro u137 i139 i140 H locs ls hP hD hS hl
                    have i139 : 0 ≤ u137.toInt ∧ u137.toInt ≤ 1 := i139
                    have i140 : (u137.toInt = 1 → u32.toInt = 0 → (48 ≤ v121.toInt ∧ v121.toInt ≤ 57 ∧ 0 ≤ u41.toInt ∧ u41.toInt ≤ 999 ∧ (u40.toInt = 0 → u41.toInt = 0) ∧ (u40.toInt = 1 → u41.toInt ≤ 9) ∧ (u40.toInt = 2 → u41.toInt ≤ 99))) := i140
                    have cut143 : ∀ (G141 : Nat → Value) (u142 : Int64) (_ : SAME [18] G38 G141) (_ : G141 18 = .long u142) (H : Heap) (locs : List Loc) (ls : Array Slot), va_P D vwCl [(h0, .inr (10, vL 67 G141)), (h_tape, .inl (cB, 940, .inl f_tape))] H → va_D A [(h0, .inr (10, vL 67 G141)), (h_tape, .inl (cB, 940, .inl f_tape))] → va_S A s.heap H locs → lv_has ls 4 [(3, .int u137), (2, .int u32), (1, .int v27), (0, .ref h0)] → W p l e ({ frames := 1, cells := 0, slots := 0, locals := 20 } : Room) s m [.ref h0].toArray below meth c H locs 0 0 (MQ below (va_Qv (fun (u : va_W) => ∃ (Gh : Nat → Value) (y_p : Int32) (y_token : Int32) (y_at : Int32) (y_span : Int32) (y_number : Int32) (y_word : Int64), SAME [4, 11, 12, 13, 14, 18] Fh Gh ∧ Gh 4 = .int y_p ∧ IR 0 940 y_p ∧ Gh 11 = .int y_token ∧ IR 0 4 y_token ∧ Gh 12 = .int y_at ∧ IR 0 940 y_at ∧ Gh 13 = .int y_span ∧ IR 0 940 y_span ∧ Gh 14 = .int y_number ∧ Gh 18 = .long y_word ∧ (x_p.toInt ≤ y_p.toInt) ∧ ((1 ≤ y_token.toInt → y_token.toInt ≤ 3 → x_p.toInt < y_p.toInt)) ∧ ((y_token.toInt = 2 → 0 ≤ y_number.toInt ∧ y_number.toInt ≤ 999)) ∧ u = [(h0, .inr (10, vL 67 Gh)), (h_tape, .inl (cB, 940, .inl f_tape))]) (PO D A) A) [.ref h0].toArray s 0 0 A) (F0 m 248 ls []) := by
                      intro G141 u142 i144 i145 H locs ls hP hD hS hl
                      refine lv_aload_n hx hb dX10_next_248 rfl (lv_at hl 3 rfl) ?_
                      have n146 : G141 13 = .int u40 := (SAME.at i144 (by decide) i82)
                      refine get_f (D := D) (ci := 10) (v := .int u40) (C := RX10) (T := TX10) (N := 67) hx hb hw inAX10 hown hK hP 0 rfl rfl 13 (by decide) (hw _ q_1274) (fun _ h9 => h9) n146 dX10_next_249 ?_
                      refine lv_iconst (v := 3) hx hb dX10_next_252 (by decide) ?_
                      refine lv_icmp_ge (tgt := 275) hx hb dX10_next_253 (by decide) (fun c147 => ?_) (fun c147 => ?_)
                      · have dc147 : 3 ≤ u40.toInt := le_i (a := 3) (b := u40.toInt) rfl rfl c147
                        have k148 : 3 ≤ u40.toInt ∧ u40.toInt ≤ 940 := ⟨Int.le_trans (Int.le_refl _) dc147, i86.2⟩
                        refine lv_aload_n hx hb dX10_next_275 rfl (lv_at hl 3 rfl) ?_
                        refine lv_dup hx hb dX10_next_276 rfl ?_
                        refine get_f (D := D) (ci := 10) (v := .int u40) (C := RX10) (T := TX10) (N := 67) hx hb hw inAX10 hown hK hP 0 rfl rfl 13 (by decide) (hw _ q_1274) (fun _ h9 => h9) n146 dX10_next_277 ?_
                        refine lv_iconst (v := 1) hx hb dX10_next_280 (by decide) ?_
                        refine lv_iadd hx hb dX10_next_281 ?_
                        refine lv_topi (fun v149 ev149 => ?_)
                        have bv149 : v149.toInt = u40.toInt + 1 := by rw [ev149]; exact add_k rfl rfl k148 ⟨Int.le_refl _, Int.le_refl _⟩ (by decide)
                        have k150 : 4 ≤ v149.toInt ∧ v149.toInt ≤ 941 := add_r bv149 k148 ⟨Int.le_refl _, Int.le_refl _⟩ (by decide)
                        refine put_f (D := D) (ci := 10) (v := .int v149) (ty := .int) (C := RX10) (T := TX10) (N := 67) hx hb hw inAX10 tyX10 tyX10_ok nmX10 hown hK hP hD hS 0 rfl rfl 13 (by decide) (hw _ q_1274) (fun _ h9 => h9) rfl (by decide +kernel) rfl rfl dX10_next_282 (fun H locs F151 eF151 hP hD hS => ?_)
                        have hP : va_P D vwCl [(h0, .inr (10, vL 67 F151)), (h_tape, .inl (cB, 940, .inl f_tape))] H := hP
                        have hD : va_D A [(h0, .inr (10, vL 67 F151)), (h_tape, .inl (cB, 940, .inl f_tape))] := hD
                        refine lv_aload_n hx hb dX10_next_285 rfl (lv_at hl 3 rfl) ?_
                        refine lv_dup hx hb dX10_next_286 rfl ?_
                        have n152 : G141 4 = .int u39 := (SAME.at i144 (by decide) i81)
                        have n153 : F151 4 = .int u39 := (get_ne eF151 (by decide) n152)
                        refine get_f (D := D) (ci := 10) (v := .int u39) (C := RX10) (T := TX10) (N := 67) hx hb hw inAX10 hown hK hP 0 rfl rfl 4 (by decide) (hw _ q_1265) (fun _ h9 => h9) n153 dX10_next_287 ?_
                        refine lv_iconst (v := 1) hx hb dX10_next_290 (by decide) ?_
                        refine lv_iadd hx hb dX10_next_291 ?_
                        refine lv_topi (fun v154 ev154 => ?_)
                        have bv154 : v154.toInt = u39.toInt + 1 := by rw [ev154]; exact add_k rfl rfl k123 ⟨Int.le_refl _, Int.le_refl _⟩ (by decide)
                        have k155 : 2 ≤ v154.toInt ∧ v154.toInt ≤ 940 := add_r bv154 k123 ⟨Int.le_refl _, Int.le_refl _⟩ (by decide)
                        refine put_f (D := D) (ci := 10) (v := .int v154) (ty := .int) (C := RX10) (T := TX10) (N := 67) hx hb hw inAX10 tyX10 tyX10_ok nmX10 hown hK hP hD hS 0 rfl rfl 4 (by decide) (hw _ q_1265) (fun _ h9 => h9) rfl (by decide +kernel) rfl rfl dX10_next_292 (fun H locs F156 eF156 hP hD hS => ?_)
                        have hP : va_P D vwCl [(h0, .inr (10, vL 67 F156)), (h_tape, .inl (cB, 940, .inl f_tape))] H := hP
                        have hD : va_D A [(h0, .inr (10, vL 67 F156)), (h_tape, .inl (cB, 940, .inl f_tape))] := hD
                        refine lv_goto (tgt := 181) hx hb dX10_next_295 (by decide) ?_
                        have n157 : F156 13 = .int v149 := (get_ne eF156 (by decide) (get_eq eF151))
                        have n158 : G141 14 = .int u41 := (SAME.at i144 (by decide) i83)
                        have n159 : F151 14 = .int u41 := (get_ne eF151 (by decide) n158)
                        have n160 : F156 14 = .int u41 := (get_ne eF156 (by decide) n159)
                        have n161 : F151 18 = .long u142 := (get_ne eF151 (by decide) i145)
                        have n162 : F156 18 = .long u142 := (get_ne eF156 (by decide) n161)
                        exact ih (u137, F156, v154, v149, u41, u142) ⟨i139, (SAME.up eF156 (SAME.up eF151 (SAME.tr (SAME.tr SAME.rf i80 (by decide)) i144 (by decide)) (by decide)) (by decide)), (get_eq eF156), n157, n160, n162, (ir_wk k155 (by decide) (by decide)), ⟨by omega, by omega⟩, (by show 0 ≤ v149.toInt ∧ v149.toInt ≤ v154.toInt; omega), (by show u137.toInt = 1 → u32.toInt = 0 → (0 ≤ u41.toInt ∧ u41.toInt ≤ 999 ∧ (v149.toInt = 0 → u41.toInt = 0) ∧ (v149.toInt = 1 → u41.toInt ≤ 9) ∧ (v149.toInt = 2 → u41.toInt ≤ 99)); omega), (by show (x_token.toInt = 2 → 0 ≤ u41.toInt ∧ u41.toInt ≤ 999); omega)⟩ (by show (x_size.toInt - v154.toInt).toNat < (x_size.toInt - u39.toInt).toNat; omega) _ _ _ hP hD hS (lv_sub hl [0, 1, 2, 3] rfl)
                      · have dc147 : u40.toInt < 3 := nle_i (a := 3) (b := u40.toInt) rfl rfl c147
                        have k163 : 0 ≤ u40.toInt ∧ u40.toInt ≤ 2 := ⟨i86.1, up_lt dc147 (Int.le_refl _) (by decide)⟩
                        refine lv_aload_n hx hb dX10_next_256 rfl (lv_at hl 3 rfl) ?_
                        refine lv_bipush (v := 10) hx hb dX10_next_257 (by decide) ?_
                        refine lv_aload_n hx hb dX10_next_259 rfl (lv_at hl 3 rfl) ?_
                        have n164 : G141 14 = .int u41 := (SAME.at i144 (by decide) i83)
                        refine get_f (D := D) (ci := 10) (v := .int u41) (C := RX10) (T := TX10) (N := 67) hx hb hw inAX10 hown hK hP 0 rfl rfl 14 (by decide) (hw _ q_1275) (fun _ h9 => h9) n164 dX10_next_260 ?_
                        refine lv_imul hx hb dX10_next_263 ?_
                        refine lv_topi (fun v165 ev165 => ?_)
                        refine lv_aload_n hx hb dX10_next_264 rfl (lv_at hl 3 rfl) ?_
                        have n166 : G141 1 = .ref h_tape := (SAME.at i144 (by decide) n92)
                        have n167 : G141 3 = .int x_size := (SAME.at i144 (by decide) n95)
                        have n168 : G141 4 = .int u39 := (SAME.at i144 (by decide) i81)
                        refine call_Vi (wr := []) (As := []) (rest := [.int v165, .ref h0]) hx hb hml hown hw (m_X10_peek l D cI cJ cB cP cM cZ h0 h_tape G141 x_size u39 f_tape _ n166 n167 (ir_wk k124 (by decide) (by decide)) n168 (ir_wk k123 (by decide) (by decide))) wV_X10_169_X10_peek dX10_next_265 hK hP hD hS hA [0, 1] [] rfl rfl (by decide) (by decide) (by decide) 0 10 rfl rfl GG.fb hG.at hl.1 rfl (Nat.le_of_ble_eq_true rfl) ⟨(Nat.le_of_ble_eq_true rfl), (Nat.le_of_ble_eq_true rfl)⟩ ⟨(Nat.le_of_ble_eq_true rfl), (Nat.le_of_ble_eq_true rfl)⟩ (fun r169 u H locs hp hP hD hS => ?_)
                        rcases hp with ⟨t170, rfl, rfl⟩ | ⟨t171, t172, rfl, rfl⟩
                        · have hP : va_P D vwCl [(h0, .inr (10, vL 67 G141)), (h_tape, .inl (cB, 940, .inl f_tape))] H := hP
                          have hD : va_D A [(h0, .inr (10, vL 67 G141)), (h_tape, .inl (cB, 940, .inl f_tape))] := hD
                          refine W.widen (k := 0) (n := 0) (Nat.le_of_ble_eq_true rfl) (Nat.le_of_ble_eq_true rfl) ?_
                          have k174 : 2 ≤ x_size.toInt ∧ x_size.toInt ≤ 939 := ⟨k124.1, Int.le_trans t170 k123.2⟩
                          have k175 : 2 ≤ u39.toInt ∧ u39.toInt ≤ 939 := ⟨Int.le_trans k124.1 t170, k123.2⟩
                          refine lv_iadd hx hb dX10_next_268 ?_
                          refine lv_topi (fun v176 ev176 => ?_)
                          refine lv_bipush (v := 48) hx hb dX10_next_269 (by decide) ?_
                          refine lv_isub hx hb dX10_next_271 ?_
                          refine lv_topi (fun v177 ev177 => ?_)
                          refine put_f (D := D) (ci := 10) (v := .int v177) (ty := .int) (C := RX10) (T := TX10) (N := 67) hx hb hw inAX10 tyX10 tyX10_ok nmX10 hown hK hP hD hS 0 rfl rfl 14 (by decide) (hw _ q_1275) (fun _ h9 => h9) rfl (by decide +kernel) rfl rfl dX10_next_272 (fun H locs F178 eF178 hP hD hS => ?_)
                          have hP : va_P D vwCl [(h0, .inr (10, vL 67 F178)), (h_tape, .inl (cB, 940, .inl f_tape))] H := hP
                          have hD : va_D A [(h0, .inr (10, vL 67 F178)), (h_tape, .inl (cB, 940, .inl f_tape))] := hD
                          refine lv_aload_n hx hb dX10_next_275 rfl (lv_at hl 3 rfl) ?_
                          refine lv_dup hx hb dX10_next_276 rfl ?_
                          have n179 : F178 13 = .int u40 := (get_ne eF178 (by decide) n146)
                          refine get_f (D := D) (ci := 10) (v := .int u40) (C := RX10) (T := TX10) (N := 67) hx hb hw inAX10 hown hK hP 0 rfl rfl 13 (by decide) (hw _ q_1274) (fun _ h9 => h9) n179 dX10_next_277 ?_
                          refine lv_iconst (v := 1) hx hb dX10_next_280 (by decide) ?_
                          refine lv_iadd hx hb dX10_next_281 ?_
                          refine lv_topi (fun v180 ev180 => ?_)
                          have bv180 : v180.toInt = u40.toInt + 1 := by rw [ev180]; exact add_k rfl rfl k163 ⟨Int.le_refl _, Int.le_refl _⟩ (by decide)
                          have k181 : 1 ≤ v180.toInt ∧ v180.toInt ≤ 3 := add_r bv180 k163 ⟨Int.le_refl _, Int.le_refl _⟩ (by decide)
                          refine put_f (D := D) (ci := 10) (v := .int v180) (ty := .int) (C := RX10) (T := TX10) (N := 67) hx hb hw inAX10 tyX10 tyX10_ok nmX10 hown hK hP hD hS 0 rfl rfl 13 (by decide) (hw _ q_1274) (fun _ h9 => h9) rfl (by decide +kernel) rfl rfl dX10_next_282 (fun H locs F182 eF182 hP hD hS => ?_)
                          have hP : va_P D vwCl [(h0, .inr (10, vL 67 F182)), (h_tape, .inl (cB, 940, .inl f_tape))] H := hP
                          have hD : va_D A [(h0, .inr (10, vL 67 F182)), (h_tape, .inl (cB, 940, .inl f_tape))] := hD
                          refine lv_aload_n hx hb dX10_next_285 rfl (lv_at hl 3 rfl) ?_
                          refine lv_dup hx hb dX10_next_286 rfl ?_
                          have n183 : F178 4 = .int u39 := (get_ne eF178 (by decide) n168)
                          have n184 : F182 4 = .int u39 := (get_ne eF182 (by decide) n183)
                          refine get_f (D := D) (ci := 10) (v := .int u39) (C := RX10) (T := TX10) (N := 67) hx hb hw inAX10 hown hK hP 0 rfl rfl 4 (by decide) (hw _ q_1265) (fun _ h9 => h9) n184 dX10_next_287 ?_
                          refine lv_iconst (v := 1) hx hb dX10_next_290 (by decide) ?_
                          refine lv_iadd hx hb dX10_next_291 ?_
                          refine lv_topi (fun v185 ev185 => ?_)
                          have bv185 : v185.toInt = u39.toInt + 1 := by rw [ev185]; exact add_k rfl rfl k175 ⟨Int.le_refl _, Int.le_refl _⟩ (by decide)
                          have k186 : 3 ≤ v185.toInt ∧ v185.toInt ≤ 940 := add_r bv185 k175 ⟨Int.le_refl _, Int.le_refl _⟩ (by decide)
                          refine put_f (D := D) (ci := 10) (v := .int v185) (ty := .int) (C := RX10) (T := TX10) (N := 67) hx hb hw inAX10 tyX10 tyX10_ok nmX10 hown hK hP hD hS 0 rfl rfl 4 (by decide) (hw _ q_1265) (fun _ h9 => h9) rfl (by decide +kernel) rfl rfl dX10_next_292 (fun H locs F187 eF187 hP hD hS => ?_)
                          have hP : va_P D vwCl [(h0, .inr (10, vL 67 F187)), (h_tape, .inl (cB, 940, .inl f_tape))] H := hP
                          have hD : va_D A [(h0, .inr (10, vL 67 F187)), (h_tape, .inl (cB, 940, .inl f_tape))] := hD
                          refine lv_goto (tgt := 181) hx hb dX10_next_295 (by decide) ?_
                          have n188 : F187 13 = .int v180 := (get_ne eF187 (by decide) (get_eq eF182))
                          have n189 : F182 14 = .int v177 := (get_ne eF182 (by decide) (get_eq eF178))
                          have n190 : F187 14 = .int v177 := (get_ne eF187 (by decide) n189)
                          have n191 : F178 18 = .long u142 := (get_ne eF178 (by decide) i145)
                          have n192 : F182 18 = .long u142 := (get_ne eF182 (by decide) n191)
                          have n193 : F187 18 = .long u142 := (get_ne eF187 (by decide) n192)
                          exact ih (u137, F187, v185, v180, v177, u142) ⟨i139, (SAME.up eF187 (SAME.up eF182 (SAME.up eF178 (SAME.tr (SAME.tr SAME.rf i80 (by decide)) i144 (by decide)) (by decide)) (by decide)) (by decide)), (get_eq eF187), n188, n190, n193, (ir_wk k186 (by decide) (by decide)), (ir_wk k181 (by decide) (by decide)), (by show 0 ≤ v180.toInt ∧ v180.toInt ≤ v185.toInt; omega), (by show u137.toInt = 1 → u32.toInt = 0 → (0 ≤ v177.toInt ∧ v177.toInt ≤ 999 ∧ (v180.toInt = 0 → v177.toInt = 0) ∧ (v180.toInt = 1 → v177.toInt ≤ 9) ∧ (v180.toInt = 2 → v177.toInt ≤ 99)); omega), (by show (x_token.toInt = 2 → 0 ≤ v177.toInt ∧ v177.toInt ≤ 999); omega)⟩ (by show (x_size.toInt - v185.toInt).toNat < (x_size.toInt - u39.toInt).toNat; omega) _ _ _ hP hD hS (lv_sub hl [0, 1, 2, 3] rfl)
                        · have hP : va_P D vwCl [(h0, .inr (10, vL 67 G141)), (h_tape, .inl (cB, 940, .inl f_tape))] H := hP
                          have hD : va_D A [(h0, .inr (10, vL 67 G141)), (h_tape, .inl (cB, 940, .inl f_tape))] := hD
                          refine W.widen (k := 0) (n := 0) (Nat.le_of_ble_eq_true rfl) (Nat.le_of_ble_eq_true rfl) ?_
                          refine lv_ci (y := v121) ev121.symm ?_
                          refine lv_iadd hx hb dX10_next_268 ?_
                          refine lv_topi (fun v194 ev194 => ?_)
                          refine lv_bipush (v := 48) hx hb dX10_next_269 (by decide) ?_
                          refine lv_isub hx hb dX10_next_271 ?_
                          refine lv_topi (fun v195 ev195 => ?_)
                          refine put_f (D := D) (ci := 10) (v := .int v195) (ty := .int) (C := RX10) (T := TX10) (N := 67) hx hb hw inAX10 tyX10 tyX10_ok nmX10 hown hK hP hD hS 0 rfl rfl 14 (by decide) (hw _ q_1275) (fun _ h9 => h9) rfl (by decide +kernel) rfl rfl dX10_next_272 (fun H locs F196 eF196 hP hD hS => ?_)
                          have hP : va_P D vwCl [(h0, .inr (10, vL 67 F196)), (h_tape, .inl (cB, 940, .inl f_tape))] H := hP
                          have hD : va_D A [(h0, .inr (10, vL 67 F196)), (h_tape, .inl (cB, 940, .inl f_tape))] := hD
                          refine lv_aload_n hx hb dX10_next_275 rfl (lv_at hl 3 rfl) ?_
                          refine lv_dup hx hb dX10_next_276 rfl ?_
                          have n197 : F196 13 = .int u40 := (get_ne eF196 (by decide) n146)
                          refine get_f (D := D) (ci := 10) (v := .int u40) (C := RX10) (T := TX10) (N := 67) hx hb hw inAX10 hown hK hP 0 rfl rfl 13 (by decide) (hw _ q_1274) (fun _ h9 => h9) n197 dX10_next_277 ?_
                          refine lv_iconst (v := 1) hx hb dX10_next_280 (by decide) ?_
                          refine lv_iadd hx hb dX10_next_281 ?_
                          refine lv_topi (fun v198 ev198 => ?_)
                          have bv198 : v198.toInt = u40.toInt + 1 := by rw [ev198]; exact add_k rfl rfl k163 ⟨Int.le_refl _, Int.le_refl _⟩ (by decide)
                          have k199 : 1 ≤ v198.toInt ∧ v198.toInt ≤ 3 := add_r bv198 k163 ⟨Int.le_refl _, Int.le_refl _⟩ (by decide)
                          refine put_f (D := D) (ci := 10) (v := .int v198) (ty := .int) (C := RX10) (T := TX10) (N := 67) hx hb hw inAX10 tyX10 tyX10_ok nmX10 hown hK hP hD hS 0 rfl rfl 13 (by decide) (hw _ q_1274) (fun _ h9 => h9) rfl (by decide +kernel) rfl rfl dX10_next_282 (fun H locs F200 eF200 hP hD hS => ?_)
                          have hP : va_P D vwCl [(h0, .inr (10, vL 67 F200)), (h_tape, .inl (cB, 940, .inl f_tape))] H := hP
                          have hD : va_D A [(h0, .inr (10, vL 67 F200)), (h_tape, .inl (cB, 940, .inl f_tape))] := hD
                          refine lv_aload_n hx hb dX10_next_285 rfl (lv_at hl 3 rfl) ?_
                          refine lv_dup hx hb dX10_next_286 rfl ?_
                          have n201 : F196 4 = .int u39 := (get_ne eF196 (by decide) n168)
                          have n202 : F200 4 = .int u39 := (get_ne eF200 (by decide) n201)
                          refine get_f (D := D) (ci := 10) (v := .int u39) (C := RX10) (T := TX10) (N := 67) hx hb hw inAX10 hown hK hP 0 rfl rfl 4 (by decide) (hw _ q_1265) (fun _ h9 => h9) n202 dX10_next_287 ?_
                          refine lv_iconst (v := 1) hx hb dX10_next_290 (by decide) ?_
                          refine lv_iadd hx hb dX10_next_291 ?_
                          refine lv_topi (fun v203 ev203 => ?_)
                          have bv203 : v203.toInt = u39.toInt + 1 := by rw [ev203]; exact add_k rfl rfl k123 ⟨Int.le_refl _, Int.le_refl _⟩ (by decide)
                          have k204 : 2 ≤ v203.toInt ∧ v203.toInt ≤ 940 := add_r bv203 k123 ⟨Int.le_refl _, Int.le_refl _⟩ (by decide)
                          refine put_f (D := D) (ci := 10) (v := .int v203) (ty := .int) (C := RX10) (T := TX10) (N := 67) hx hb hw inAX10 tyX10 tyX10_ok nmX10 hown hK hP hD hS 0 rfl rfl 4 (by decide) (hw _ q_1265) (fun _ h9 => h9) rfl (by decide +kernel) rfl rfl dX10_next_292 (fun H locs F205 eF205 hP hD hS => ?_)
                          have hP : va_P D vwCl [(h0, .inr (10, vL 67 F205)), (h_tape, .inl (cB, 940, .inl f_tape))] H := hP
                          have hD : va_D A [(h0, .inr (10, vL 67 F205)), (h_tape, .inl (cB, 940, .inl f_tape))] := hD
                          refine lv_goto (tgt := 181) hx hb dX10_next_295 (by decide) ?_
                          have n206 : F205 13 = .int v198 := (get_ne eF205 (by decide) (get_eq eF200))
                          have n207 : F200 14 = .int v195 := (get_ne eF200 (by decide) (get_eq eF196))
                          have n208 : F205 14 = .int v195 := (get_ne eF205 (by decide) n207)
                          have n209 : F196 18 = .long u142 := (get_ne eF196 (by decide) i145)
                          have n210 : F200 18 = .long u142 := (get_ne eF200 (by decide) n209)
                          have n211 : F205 18 = .long u142 := (get_ne eF205 (by decide) n210)
                          exact ih (u137, F205, v203, v198, v195, u142) ⟨i139, (SAME.up eF205 (SAME.up eF200 (SAME.up eF196 (SAME.tr (SAME.tr SAME.rf i80 (by decide)) i144 (by decide)) (by decide)) (by decide)) (by decide)), (get_eq eF205), n206, n208, n211, (ir_wk k204 (by decide) (by decide)), (ir_wk k199 (by decide) (by decide)), (by show 0 ≤ v198.toInt ∧ v198.toInt ≤ v203.toInt; omega), (by show u137.toInt = 1 → u32.toInt = 0 → (0 ≤ v195.toInt ∧ v195.toInt ≤ 999 ∧ (v198.toInt = 0 → v195.toInt = 0) ∧ (v198.toInt = 1 → v195.toInt ≤ 9) ∧ (v198.toInt = 2 → v195.toInt ≤ 99)); omega), (by show (x_token.toInt = 2 → 0 ≤ v195.toInt ∧ v195.toInt ≤ 999); omega)⟩ (by show (x_size.toInt - v203.toInt).toNat < (x_size.toInt - u39.toInt).toNat; omega) _ _ _ hP hD hS (lv_sub hl [0, 1, 2, 3] rfl)
                    refine lv_aload_n hx hb dX10_next_222 rfl (lv_at hl 3 rfl) ?_
                    refine get_f (D := D) (ci := 10) (v := .int u40) (C := RX10) (T := TX10) (N := 67) hx hb hw inAX10 hown hK hP 0 rfl rfl 13 (by decide) (hw _ q_1274) (fun _ h9 => h9) i82 dX10_next_223 ?_
                    refine lv_bipush (v := 7) hx hb dX10_next_226 (by decide) ?_
                    refine lv_icmp_ge (tgt := 248) hx hb dX10_next_228 (by decide) (fun c212 => ?_) (fun c212 => ?_)
                    · have dc212 : 7 ≤ u40.toInt := le_i (a := 7) (b := u40.toInt) rfl rfl c212
                      have k213 : 7 ≤ u40.toInt ∧ u40.toInt ≤ 940 := ⟨Int.le_trans (Int.le_refl _) dc212, i86.2⟩
                      exact cut143 G38 u42 SAME.rf i84 _ _ _ hP hD hS (lv_sub hl [0, 1, 2, 3] rfl)
                    · have dc212 : u40.toInt < 7 := nle_i (a := 7) (b := u40.toInt) rfl rfl c212
                      have k214 : 0 ≤ u40.toInt ∧ u40.toInt ≤ 6 := ⟨i86.1, up_lt dc212 (Int.le_refl _) (by decide)⟩
                      refine lv_aload_n hx hb dX10_next_231 rfl (lv_at hl 3 rfl) ?_
                      refine lv_aload_n hx hb dX10_next_232 rfl (lv_at hl 3 rfl) ?_
                      refine get_f (D := D) (ci := 10) (v := .long u42) (C := RX10) (T := TX10) (N := 67) hx hb hw inAX10 hown hK hP 0 rfl rfl 18 (by decide) (hw _ q_1279) (fun _ h9 => h9) i84 dX10_next_233 ?_
                      refine lv_bipush (v := 8) hx hb dX10_next_236 (by decide) ?_
                      obtain ⟨v215, ev215⟩ : ∃ z : Int64, (u42 : Int64) <<< ((8 : Int32).toInt64 &&& 63) = z := ⟨_, rfl⟩
                      refine lv_lshl (v := v215) hx hb dX10_next_238 ev215 ?_
                      refine lv_aload_n hx hb dX10_next_239 rfl (lv_at hl 3 rfl) ?_
                      refine call_Vi (wr := []) (As := []) (rest := [.long v215, .ref h0]) hx hb hml hown hw (m_X10_peek l D cI cJ cB cP cM cZ h0 h_tape G38 x_size u39 f_tape _ n92 n95 (ir_wk k124 (by decide) (by decide)) i81 (ir_wk k123 (by decide) (by decide))) wV_X10_169_X10_peek dX10_next_240 hK hP hD hS hA [0, 1] [] rfl rfl (by decide) (by decide) (by decide) 0 10 rfl rfl GG.fb hG.at hl.1 rfl (Nat.le_of_ble_eq_true rfl) ⟨(Nat.le_of_ble_eq_true rfl), (Nat.le_of_ble_eq_true rfl)⟩ ⟨(Nat.le_of_ble_eq_true rfl), (Nat.le_of_ble_eq_true rfl)⟩ (fun r216 u H locs hp hP hD hS => ?_)
                      rcases hp with ⟨t217, rfl, rfl⟩ | ⟨t218, t219, rfl, rfl⟩
                      · have hP : va_P D vwCl [(h0, .inr (10, vL 67 G38)), (h_tape, .inl (cB, 940, .inl f_tape))] H := hP
                        have hD : va_D A [(h0, .inr (10, vL 67 G38)), (h_tape, .inl (cB, 940, .inl f_tape))] := hD
                        refine W.widen (k := 0) (n := 0) (Nat.le_of_ble_eq_true rfl) (Nat.le_of_ble_eq_true rfl) ?_
                        have k221 : 2 ≤ x_size.toInt ∧ x_size.toInt ≤ 939 := ⟨k124.1, Int.le_trans t217 k123.2⟩
                        have k222 : 2 ≤ u39.toInt ∧ u39.toInt ≤ 939 := ⟨Int.le_trans k124.1 t217, k123.2⟩
                        obtain ⟨v223, ev223⟩ : ∃ z : Int64, ((-1) : Int32).toInt64 = z := ⟨_, rfl⟩
                        refine lv_i2l (v := v223) hx hb dX10_next_243 ev223 ?_
                        refine lv_lor hx hb dX10_next_244 ?_
                        refine lv_topl (fun v224 ev224 => ?_)
                        refine put_f (D := D) (ci := 10) (v := .long v224) (ty := .long) (C := RX10) (T := TX10) (N := 67) hx hb hw inAX10 tyX10 tyX10_ok nmX10 hown hK hP hD hS 0 rfl rfl 18 (by decide) (hw _ q_1279) (fun _ h9 => h9) rfl (by decide +kernel) rfl rfl dX10_next_245 (fun H locs F225 eF225 hP hD hS => ?_)
                        have hP : va_P D vwCl [(h0, .inr (10, vL 67 F225)), (h_tape, .inl (cB, 940, .inl f_tape))] H := hP
                        have hD : va_D A [(h0, .inr (10, vL 67 F225)), (h_tape, .inl (cB, 940, .inl f_tape))] := hD
                        exact cut143 F225 v224 (SAME.up eF225 SAME.rf (by decide)) (get_eq eF225) _ _ _ hP hD hS (lv_sub hl [0, 1, 2, 3] rfl)
                      · have hP : va_P D vwCl [(h0, .inr (10, vL 67 G38)), (h_tape, .inl (cB, 940, .inl f_tape))] H := hP
                        have hD : va_D A [(h0, .inr (10, vL 67 G38)), (h_tape, .inl (cB, 940, .inl f_tape))] := hD
                        refine W.widen (k := 0) (n := 0) (Nat.le_of_ble_eq_true rfl) (Nat.le_of_ble_eq_true rfl) ?_
                        refine lv_ci (y := v121) ev121.symm ?_
                        obtain ⟨v226, ev226⟩ : ∃ z : Int64, (v121 : Int32).toInt64 = z := ⟨_, rfl⟩
                        refine lv_i2l (v := v226) hx hb dX10_next_243 ev226 ?_
                        refine lv_lor hx hb dX10_next_244 ?_
                        refine lv_topl (fun v227 ev227 => ?_)
                        refine put_f (D := D) (ci := 10) (v := .long v227) (ty := .long) (C := RX10) (T := TX10) (N := 67) hx hb hw inAX10 tyX10 tyX10_ok nmX10 hown hK hP hD hS 0 rfl rfl 18 (by decide) (hw _ q_1279) (fun _ h9 => h9) rfl (by decide +kernel) rfl rfl dX10_next_245 (fun H locs F228 eF228 hP hD hS => ?_)
                        have hP : va_P D vwCl [(h0, .inr (10, vL 67 F228)), (h_tape, .inl (cB, 940, .inl f_tape))] H := hP
                        have hD : va_D A [(h0, .inr (10, vL 67 F228)), (h_tape, .inl (cB, 940, .inl f_tape))] := hD
                        exact cut143 F228 v227 (SAME.up eF228 SAME.rf (by decide)) (get_eq eF228) _ _ _ hP hD hS (lv_sub hl [0, 1, 2, 3] rfl)
                  refine lv_iload_n hx hb dX10_next_201 rfl (lv_at hl 0 rfl) ?_
                  refine lv_if_eq (tgt := 220) hx hb dX10_next_202 (by decide) (fun c229 => ?_) (fun c229 => ?_)
                  · have dc229 : u37.toInt = 0 := eq_i (a := u37.toInt) (b := 0) rfl rfl c229
                    have k230 : 0 ≤ u37.toInt ∧ u37.toInt ≤ 0 := ⟨i79.1, Int.le_trans (Int.le_of_eq dc229) (Int.le_refl _)⟩
                    refine lv_iconst (v := 0) hx hb dX10_next_220 (by decide) ?_
                    refine lv_istore_n (lv' := [(3, .int 0), (2, .int u32), (1, .int v27), (0, .ref h0)]) hx hb dX10_next_221 rfl hl (by decide) rfl (fun ls hl => ?_)
                    exact cut138 0 (show 0 ≤ (0 : Int32).toInt ∧ (0 : Int32).toInt ≤ 1 by decide) (by show (0 = 1 → u32.toInt = 0 → (48 ≤ v121.toInt ∧ v121.toInt ≤ 57 ∧ 0 ≤ u41.toInt ∧ u41.toInt ≤ 999 ∧ (u40.toInt = 0 → u41.toInt = 0) ∧ (u40.toInt = 1 → u41.toInt ≤ 9) ∧ (u40.toInt = 2 → u41.toInt ≤ 99))); omega) _ _ _ hP hD hS (lv_sub hl [0, 1, 2, 3] rfl)
                  · have dc229 : u37.toInt ≠ 0 := ne_i (a := u37.toInt) (b := 0) rfl rfl c229
                    have k231 : 1 ≤ u37.toInt ∧ u37.toInt ≤ 1 := ⟨ne_lo dc229 i79.1 ⟨Int.le_refl _, Int.le_refl _⟩ (by decide), i79.2⟩
                    refine lv_aload_n hx hb dX10_next_205 rfl (lv_at hl 3 rfl) ?_
                    refine call_Vi (wr := []) (As := []) (rest := []) hx hb hml hown hw (m_X10_peek l D cI cJ cB cP cM cZ h0 h_tape G38 x_size u39 f_tape _ n92 n95 (ir_wk k124 (by decide) (by decide)) i81 (ir_wk k123 (by decide) (by decide))) wV_X10_169_X10_peek dX10_next_206 hK hP hD hS hA [0, 1] [] rfl rfl (by decide) (by decide) (by decide) 0 10 rfl rfl GG.fb hG.at hl.1 rfl (Nat.le_of_ble_eq_true rfl) ⟨(Nat.le_of_ble_eq_true rfl), (Nat.le_of_ble_eq_true rfl)⟩ ⟨(Nat.le_of_ble_eq_true rfl), (Nat.le_of_ble_eq_true rfl)⟩ (fun r232 u H locs hp hP hD hS => ?_)
                    rcases hp with ⟨t233, rfl, rfl⟩ | ⟨t234, t235, rfl, rfl⟩
                    · have hP : va_P D vwCl [(h0, .inr (10, vL 67 G38)), (h_tape, .inl (cB, 940, .inl f_tape))] H := hP
                      have hD : va_D A [(h0, .inr (10, vL 67 G38)), (h_tape, .inl (cB, 940, .inl f_tape))] := hD
                      refine W.widen (k := 0) (n := 0) (Nat.le_of_ble_eq_true rfl) (Nat.le_of_ble_eq_true rfl) ?_
                      have k237 : 2 ≤ x_size.toInt ∧ x_size.toInt ≤ 939 := ⟨k124.1, Int.le_trans t233 k123.2⟩
                      have k238 : 2 ≤ u39.toInt ∧ u39.toInt ≤ 939 := ⟨Int.le_trans k124.1 t233, k123.2⟩
                      refine call_Si (wr := [(h0, .inr (10, vL 67 G38)), (h_tape, .inl (cB, 940, .inl f_tape))]) (As := [.int (-1)]) (rest := []) hx hb hml hown hw (m_X10_isSmall l D cI cJ cB cP cM cZ (-1) _ ) wS_X10_182_X10_isSmall dX10_next_209 hP hD hS hA [] [0, 1] rfl rfl (by decide) (by decide) (by decide) GG.fb hG.at hl.1 rfl (Nat.le_of_ble_eq_true rfl) ⟨(Nat.le_of_ble_eq_true rfl), (Nat.le_of_ble_eq_true rfl)⟩ ⟨(Nat.le_of_ble_eq_true rfl), (Nat.le_of_ble_eq_true rfl)⟩ (fun r239 u H locs hp hP hD hS => ?_)
                      rcases hp with ⟨t240, rfl, rfl⟩ | ⟨t241, t242, rfl, rfl⟩ | ⟨t243, t244, rfl, rfl⟩
                      · have hP : va_P D vwCl [(h0, .inr (10, vL 67 G38)), (h_tape, .inl (cB, 940, .inl f_tape))] H := hP
                        have hD : va_D A [(h0, .inr (10, vL 67 G38)), (h_tape, .inl (cB, 940, .inl f_tape))] := hD
                        refine W.widen (k := 0) (n := 0) (Nat.le_of_ble_eq_true rfl) (Nat.le_of_ble_eq_true rfl) ?_
                        refine lv_iload_n hx hb dX10_next_212 rfl (lv_at hl 1 rfl) ?_
                        refine lv_icmp_ne (tgt := 220) hx hb dX10_next_213 (by decide) (fun c246 => ?_) (fun c246 => ?_)
                        · have dc246 : 0 ≠ u32.toInt := ne_i (a := 0) (b := u32.toInt) rfl rfl c246
                          have k247 : 1 ≤ u32.toInt ∧ u32.toInt ≤ 1 := ⟨ne_lo dc246.symm i34.1 ⟨Int.le_refl _, Int.le_refl _⟩ (by decide), i34.2⟩
                          refine lv_iconst (v := 0) hx hb dX10_next_220 (by decide) ?_
                          refine lv_istore_n (lv' := [(3, .int 0), (2, .int u32), (1, .int v27), (0, .ref h0)]) hx hb dX10_next_221 rfl hl (by decide) rfl (fun ls hl => ?_)
                          exact cut138 0 (show 0 ≤ (0 : Int32).toInt ∧ (0 : Int32).toInt ≤ 1 by decide) (by show (0 = 1 → u32.toInt = 0 → (48 ≤ v121.toInt ∧ v121.toInt ≤ 57 ∧ 0 ≤ u41.toInt ∧ u41.toInt ≤ 999 ∧ (u40.toInt = 0 → u41.toInt = 0) ∧ (u40.toInt = 1 → u41.toInt ≤ 9) ∧ (u40.toInt = 2 → u41.toInt ≤ 99))); omega) _ _ _ hP hD hS (lv_sub hl [0, 1, 2, 3] rfl)
                        · have dc246 : 0 = u32.toInt := eq_i (a := 0) (b := u32.toInt) rfl rfl c246
                          have k248 : 0 ≤ u32.toInt ∧ u32.toInt ≤ 0 := ⟨i34.1, Int.le_trans (Int.le_of_eq dc246.symm) (Int.le_refl _)⟩
                          refine lv_iconst (v := 1) hx hb dX10_next_216 (by decide) ?_
                          refine lv_goto (tgt := 221) hx hb dX10_next_217 (by decide) ?_
                          refine lv_istore_n (lv' := [(3, .int 1), (2, .int u32), (1, .int v27), (0, .ref h0)]) hx hb dX10_next_221 rfl hl (by decide) rfl (fun ls hl => ?_)
                          exact cut138 1 (show 0 ≤ (1 : Int32).toInt ∧ (1 : Int32).toInt ≤ 1 by decide) (by show (1 = 1 → u32.toInt = 0 → (48 ≤ v121.toInt ∧ v121.toInt ≤ 57 ∧ 0 ≤ u41.toInt ∧ u41.toInt ≤ 999 ∧ (u40.toInt = 0 → u41.toInt = 0) ∧ (u40.toInt = 1 → u41.toInt ≤ 9) ∧ (u40.toInt = 2 → u41.toInt ≤ 99))); omega) _ _ _ hP hD hS (lv_sub hl [0, 1, 2, 3] rfl)
                      · have hP : va_P D vwCl [(h0, .inr (10, vL 67 G38)), (h_tape, .inl (cB, 940, .inl f_tape))] H := hP
                        have hD : va_D A [(h0, .inr (10, vL 67 G38)), (h_tape, .inl (cB, 940, .inl f_tape))] := hD
                        refine W.widen (k := 0) (n := 0) (Nat.le_of_ble_eq_true rfl) (Nat.le_of_ble_eq_true rfl) ?_
                        exact absurd t241 (by decide)
                      · have hP : va_P D vwCl [(h0, .inr (10, vL 67 G38)), (h_tape, .inl (cB, 940, .inl f_tape))] H := hP
                        have hD : va_D A [(h0, .inr (10, vL 67 G38)), (h_tape, .inl (cB, 940, .inl f_tape))] := hD
                        refine W.widen (k := 0) (n := 0) (Nat.le_of_ble_eq_true rfl) (Nat.le_of_ble_eq_true rfl) ?_
                        exact absurd t243 (by decide)
                    · have hP : va_P D vwCl [(h0, .inr (10, vL 67 G38)), (h_tape, .inl (cB, 940, .inl f_tape))] H := hP
                      have hD : va_D A [(h0, .inr (10, vL 67 G38)), (h_tape, .inl (cB, 940, .inl f_tape))] := hD
                      refine W.widen (k := 0) (n := 0) (Nat.le_of_ble_eq_true rfl) (Nat.le_of_ble_eq_true rfl) ?_
                      refine lv_ci (y := v121) ev121.symm ?_
                      refine call_Si (wr := [(h0, .inr (10, vL 67 G38)), (h_tape, .inl (cB, 940, .inl f_tape))]) (As := [.int v121]) (rest := []) hx hb hml hown hw (m_X10_isSmall l D cI cJ cB cP cM cZ v121 _ ) wS_X10_182_X10_isSmall dX10_next_209 hP hD hS hA [] [0, 1] rfl rfl (by decide) (by decide) (by decide) GG.fb hG.at hl.1 rfl (Nat.le_of_ble_eq_true rfl) ⟨(Nat.le_of_ble_eq_true rfl), (Nat.le_of_ble_eq_true rfl)⟩ ⟨(Nat.le_of_ble_eq_true rfl), (Nat.le_of_ble_eq_true rfl)⟩ (fun r249 u H locs hp hP hD hS => ?_)
                      rcases hp with ⟨t250, rfl, rfl⟩ | ⟨t251, t252, rfl, rfl⟩ | ⟨t253, t254, rfl, rfl⟩
                      · have hP : va_P D vwCl [(h0, .inr (10, vL 67 G38)), (h_tape, .inl (cB, 940, .inl f_tape))] H := hP
                        have hD : va_D A [(h0, .inr (10, vL 67 G38)), (h_tape, .inl (cB, 940, .inl f_tape))] := hD
                        refine W.widen (k := 0) (n := 0) (Nat.le_of_ble_eq_true rfl) (Nat.le_of_ble_eq_true rfl) ?_
                        refine lv_iload_n hx hb dX10_next_212 rfl (lv_at hl 1 rfl) ?_
                        refine lv_icmp_ne (tgt := 220) hx hb dX10_next_213 (by decide) (fun c256 => ?_) (fun c256 => ?_)
                        · have dc256 : 0 ≠ u32.toInt := ne_i (a := 0) (b := u32.toInt) rfl rfl c256
                          have k257 : 1 ≤ u32.toInt ∧ u32.toInt ≤ 1 := ⟨ne_lo dc256.symm i34.1 ⟨Int.le_refl _, Int.le_refl _⟩ (by decide), i34.2⟩
                          refine lv_iconst (v := 0) hx hb dX10_next_220 (by decide) ?_
                          refine lv_istore_n (lv' := [(3, .int 0), (2, .int u32), (1, .int v27), (0, .ref h0)]) hx hb dX10_next_221 rfl hl (by decide) rfl (fun ls hl => ?_)
                          exact cut138 0 (show 0 ≤ (0 : Int32).toInt ∧ (0 : Int32).toInt ≤ 1 by decide) (by show (0 = 1 → u32.toInt = 0 → (48 ≤ v121.toInt ∧ v121.toInt ≤ 57 ∧ 0 ≤ u41.toInt ∧ u41.toInt ≤ 999 ∧ (u40.toInt = 0 → u41.toInt = 0) ∧ (u40.toInt = 1 → u41.toInt ≤ 9) ∧ (u40.toInt = 2 → u41.toInt ≤ 99))); omega) _ _ _ hP hD hS (lv_sub hl [0, 1, 2, 3] rfl)
                        · have dc256 : 0 = u32.toInt := eq_i (a := 0) (b := u32.toInt) rfl rfl c256
                          have k258 : 0 ≤ u32.toInt ∧ u32.toInt ≤ 0 := ⟨i34.1, Int.le_trans (Int.le_of_eq dc256.symm) (Int.le_refl _)⟩
                          refine lv_iconst (v := 1) hx hb dX10_next_216 (by decide) ?_
                          refine lv_goto (tgt := 221) hx hb dX10_next_217 (by decide) ?_
                          refine lv_istore_n (lv' := [(3, .int 1), (2, .int u32), (1, .int v27), (0, .ref h0)]) hx hb dX10_next_221 rfl hl (by decide) rfl (fun ls hl => ?_)
                          exact cut138 1 (show 0 ≤ (1 : Int32).toInt ∧ (1 : Int32).toInt ≤ 1 by decide) (by show (1 = 1 → u32.toInt = 0 → (48 ≤ v121.toInt ∧ v121.toInt ≤ 57 ∧ 0 ≤ u41.toInt ∧ u41.toInt ≤ 999 ∧ (u40.toInt = 0 → u41.toInt = 0) ∧ (u40.toInt = 1 → u41.toInt ≤ 9) ∧ (u40.toInt = 2 → u41.toInt ≤ 99))); omega) _ _ _ hP hD hS (lv_sub hl [0, 1, 2, 3] rfl)
                      · have hP : va_P D vwCl [(h0, .inr (10, vL 67 G38)), (h_tape, .inl (cB, 940, .inl f_tape))] H := hP
                        have hD : va_D A [(h0, .inr (10, vL 67 G38)), (h_tape, .inl (cB, 940, .inl f_tape))] := hD
                        refine W.widen (k := 0) (n := 0) (Nat.le_of_ble_eq_true rfl) (Nat.le_of_ble_eq_true rfl) ?_
                        exact False.elim (bad_le t251 (Int.le_refl _) k136.2 (by decide))
                      · have hP : va_P D vwCl [(h0, .inr (10, vL 67 G38)), (h_tape, .inl (cB, 940, .inl f_tape))] H := hP
                        have hD : va_D A [(h0, .inr (10, vL 67 G38)), (h_tape, .inl (cB, 940, .inl f_tape))] := hD
                        refine W.widen (k := 0) (n := 0) (Nat.le_of_ble_eq_true rfl) (Nat.le_of_ble_eq_true rfl) ?_
                        exact False.elim (bad_le t253 (Int.le_refl _) k136.2 (by decide))
            · have hP : va_P D vwCl [(h0, .inr (10, vL 67 G38)), (h_tape, .inl (cB, 940, .inl f_tape))] H := hP
              have hD : va_D A [(h0, .inr (10, vL 67 G38)), (h_tape, .inl (cB, 940, .inl f_tape))] := hD
              refine W.widen (k := 0) (n := 0) (Nat.le_of_ble_eq_true rfl) (Nat.le_of_ble_eq_true rfl) ?_
              exact absurd t104 (by decide)
            · have hP : va_P D vwCl [(h0, .inr (10, vL 67 G38)), (h_tape, .inl (cB, 940, .inl f_tape))] H := hP
              have hD : va_D A [(h0, .inr (10, vL 67 G38)), (h_tape, .inl (cB, 940, .inl f_tape))] := hD
              refine W.widen (k := 0) (n := 0) (Nat.le_of_ble_eq_true rfl) (Nat.le_of_ble_eq_true rfl) ?_
              exact absurd t106 (by decide)
          · have hP : va_P D vwCl [(h0, .inr (10, vL 67 G38)), (h_tape, .inl (cB, 940, .inl f_tape))] H := hP
            have hD : va_D A [(h0, .inr (10, vL 67 G38)), (h_tape, .inl (cB, 940, .inl f_tape))] := hD
            refine W.widen (k := 0) (n := 0) (Nat.le_of_ble_eq_true rfl) (Nat.le_of_ble_eq_true rfl) ?_
            refine lv_topi (fun v259 ev259 => ?_)
            have k260 : 0 ≤ v259.toInt ∧ v259.toInt ≤ 255 := by rw [ev259]; exact t98
            have k261 : 0 ≤ u39.toInt ∧ u39.toInt ≤ 939 := ⟨i85.1, up_lt t99 k30.2 (by decide)⟩
            refine call_Si (wr := [(h0, .inr (10, vL 67 G38)), (h_tape, .inl (cB, 940, .inl f_tape))]) (As := [.int v259]) (rest := []) hx hb hml hown hw (m_X10_isSmall l D cI cJ cB cP cM cZ v259 _ ) wS_X10_182_X10_isSmall dX10_next_185 hP hD hS hA [] [0, 1] rfl rfl (by decide) (by decide) (by decide) GG.fb hG.at hl.1 rfl (Nat.le_of_ble_eq_true rfl) ⟨(Nat.le_of_ble_eq_true rfl), (Nat.le_of_ble_eq_true rfl)⟩ ⟨(Nat.le_of_ble_eq_true rfl), (Nat.le_of_ble_eq_true rfl)⟩ (fun r262 u H locs hp hP hD hS => ?_)
            rcases hp with ⟨t263, rfl, rfl⟩ | ⟨t264, t265, rfl, rfl⟩ | ⟨t266, t267, rfl, rfl⟩
            · have hP : va_P D vwCl [(h0, .inr (10, vL 67 G38)), (h_tape, .inl (cB, 940, .inl f_tape))] H := hP
              have hD : va_D A [(h0, .inr (10, vL 67 G38)), (h_tape, .inl (cB, 940, .inl f_tape))] := hD
              refine W.widen (k := 0) (n := 0) (Nat.le_of_ble_eq_true rfl) (Nat.le_of_ble_eq_true rfl) ?_
              have k269 : 0 ≤ v259.toInt ∧ v259.toInt ≤ 96 := ⟨k260.1, up_lt t263 (Int.le_refl _) (by decide)⟩
              refine lv_if_ne (tgt := 201) hx hb dX10_next_188 (by decide) (fun g => absurd (by decide) g) (fun _ => ?_)
              refine lv_aload_n hx hb dX10_next_191 rfl (lv_at hl 3 rfl) ?_
              refine call_Vi (wr := []) (As := []) (rest := []) hx hb hml hown hw (m_X10_peek l D cI cJ cB cP cM cZ h0 h_tape G38 x_size u39 f_tape _ n92 n95 (ir_wk k30 (by decide) (by decide)) i81 (ir_wk k261 (by decide) (by decide))) wV_X10_169_X10_peek dX10_next_192 hK hP hD hS hA [0, 1] [] rfl rfl (by decide) (by decide) (by decide) 0 10 rfl rfl GG.fb hG.at hl.1 rfl (Nat.le_of_ble_eq_true rfl) ⟨(Nat.le_of_ble_eq_true rfl), (Nat.le_of_ble_eq_true rfl)⟩ ⟨(Nat.le_of_ble_eq_true rfl), (Nat.le_of_ble_eq_true rfl)⟩ (fun r270 u H locs hp hP hD hS => ?_)
              rcases hp with ⟨t271, rfl, rfl⟩ | ⟨t272, t273, rfl, rfl⟩
              · have hP : va_P D vwCl [(h0, .inr (10, vL 67 G38)), (h_tape, .inl (cB, 940, .inl f_tape))] H := hP
                have hD : va_D A [(h0, .inr (10, vL 67 G38)), (h_tape, .inl (cB, 940, .inl f_tape))] := hD
                refine W.widen (k := 0) (n := 0) (Nat.le_of_ble_eq_true rfl) (Nat.le_of_ble_eq_true rfl) ?_
                have k275 : 1 ≤ x_size.toInt ∧ x_size.toInt ≤ 939 := ⟨k30.1, Int.le_trans t271 k261.2⟩
                have k276 : 1 ≤ u39.toInt ∧ u39.toInt ≤ 939 := ⟨Int.le_trans k30.1 t271, k261.2⟩
                refine call_Si (wr := [(h0, .inr (10, vL 67 G38)), (h_tape, .inl (cB, 940, .inl f_tape))]) (As := [.int (-1)]) (rest := []) hx hb hml hown hw (m_X10_isDigit l D cI cJ cB cP cM cZ (-1) _ ) wS_X10_186_X10_isDigit dX10_next_195 hP hD hS hA [] [0, 1] rfl rfl (by decide) (by decide) (by decide) GG.fb hG.at hl.1 rfl (Nat.le_of_ble_eq_true rfl) ⟨(Nat.le_of_ble_eq_true rfl), (Nat.le_of_ble_eq_true rfl)⟩ ⟨(Nat.le_of_ble_eq_true rfl), (Nat.le_of_ble_eq_true rfl)⟩ (fun r277 u H locs hp hP hD hS => ?_)
                rcases hp with ⟨t278, rfl, rfl⟩ | ⟨t279, t280, rfl, rfl⟩ | ⟨t281, t282, rfl, rfl⟩
                · have hP : va_P D vwCl [(h0, .inr (10, vL 67 G38)), (h_tape, .inl (cB, 940, .inl f_tape))] H := hP
                  have hD : va_D A [(h0, .inr (10, vL 67 G38)), (h_tape, .inl (cB, 940, .inl f_tape))] := hD
                  refine W.widen (k := 0) (n := 0) (Nat.le_of_ble_eq_true rfl) (Nat.le_of_ble_eq_true rfl) ?_
                  refine lv_if_eq (tgt := 298) hx hb dX10_next_198 (by decide) (fun _ => ?_) (fun g => absurd (by decide) g)
                  exact cut43 u37 G38 u39 u40 u41 u42 i79 (SAME.tr SAME.rf i80 (by decide)) i81 i82 i83 i84 (ir_wk k276 (by decide) (by decide)) i86 (by show 0 ≤ u40.toInt ∧ u40.toInt ≤ u39.toInt; omega) (by show u37.toInt = 1 → u32.toInt = 0 → (0 ≤ u41.toInt ∧ u41.toInt ≤ 999 ∧ (u40.toInt = 0 → u41.toInt = 0) ∧ (u40.toInt = 1 → u41.toInt ≤ 9) ∧ (u40.toInt = 2 → u41.toInt ≤ 99)); omega) (by show (x_token.toInt = 2 → 0 ≤ u41.toInt ∧ u41.toInt ≤ 999); omega) _ _ _ hP hD hS (lv_sub hl [0, 1, 2, 3] rfl)
                · have hP : va_P D vwCl [(h0, .inr (10, vL 67 G38)), (h_tape, .inl (cB, 940, .inl f_tape))] H := hP
                  have hD : va_D A [(h0, .inr (10, vL 67 G38)), (h_tape, .inl (cB, 940, .inl f_tape))] := hD
                  refine W.widen (k := 0) (n := 0) (Nat.le_of_ble_eq_true rfl) (Nat.le_of_ble_eq_true rfl) ?_
                  exact absurd t279 (by decide)
                · have hP : va_P D vwCl [(h0, .inr (10, vL 67 G38)), (h_tape, .inl (cB, 940, .inl f_tape))] H := hP
                  have hD : va_D A [(h0, .inr (10, vL 67 G38)), (h_tape, .inl (cB, 940, .inl f_tape))] := hD
                  refine W.widen (k := 0) (n := 0) (Nat.le_of_ble_eq_true rfl) (Nat.le_of_ble_eq_true rfl) ?_
                  exact absurd t281 (by decide)
              · have hP : va_P D vwCl [(h0, .inr (10, vL 67 G38)), (h_tape, .inl (cB, 940, .inl f_tape))] H := hP
                have hD : va_D A [(h0, .inr (10, vL 67 G38)), (h_tape, .inl (cB, 940, .inl f_tape))] := hD
                refine W.widen (k := 0) (n := 0) (Nat.le_of_ble_eq_true rfl) (Nat.le_of_ble_eq_true rfl) ?_
                refine lv_ci (y := v259) ev259.symm ?_
                refine call_Si (wr := [(h0, .inr (10, vL 67 G38)), (h_tape, .inl (cB, 940, .inl f_tape))]) (As := [.int v259]) (rest := []) hx hb hml hown hw (m_X10_isDigit l D cI cJ cB cP cM cZ v259 _ ) wS_X10_186_X10_isDigit dX10_next_195 hP hD hS hA [] [0, 1] rfl rfl (by decide) (by decide) (by decide) GG.fb hG.at hl.1 rfl (Nat.le_of_ble_eq_true rfl) ⟨(Nat.le_of_ble_eq_true rfl), (Nat.le_of_ble_eq_true rfl)⟩ ⟨(Nat.le_of_ble_eq_true rfl), (Nat.le_of_ble_eq_true rfl)⟩ (fun r284 u H locs hp hP hD hS => ?_)
                rcases hp with ⟨t285, rfl, rfl⟩ | ⟨t286, t287, rfl, rfl⟩ | ⟨t288, t289, rfl, rfl⟩
                · have hP : va_P D vwCl [(h0, .inr (10, vL 67 G38)), (h_tape, .inl (cB, 940, .inl f_tape))] H := hP
                  have hD : va_D A [(h0, .inr (10, vL 67 G38)), (h_tape, .inl (cB, 940, .inl f_tape))] := hD
                  refine W.widen (k := 0) (n := 0) (Nat.le_of_ble_eq_true rfl) (Nat.le_of_ble_eq_true rfl) ?_
                  have k291 : 0 ≤ v259.toInt ∧ v259.toInt ≤ 47 := ⟨k269.1, up_lt t285 (Int.le_refl _) (by decide)⟩
                  refine lv_if_eq (tgt := 298) hx hb dX10_next_198 (by decide) (fun _ => ?_) (fun g => absurd (by decide) g)
                  exact cut43 u37 G38 u39 u40 u41 u42 i79 (SAME.tr SAME.rf i80 (by decide)) i81 i82 i83 i84 (ir_wk k261 (by decide) (by decide)) i86 (by show 0 ≤ u40.toInt ∧ u40.toInt ≤ u39.toInt; omega) (by show u37.toInt = 1 → u32.toInt = 0 → (0 ≤ u41.toInt ∧ u41.toInt ≤ 999 ∧ (u40.toInt = 0 → u41.toInt = 0) ∧ (u40.toInt = 1 → u41.toInt ≤ 9) ∧ (u40.toInt = 2 → u41.toInt ≤ 99)); omega) (by show (x_token.toInt = 2 → 0 ≤ u41.toInt ∧ u41.toInt ≤ 999); omega) _ _ _ hP hD hS (lv_sub hl [0, 1, 2, 3] rfl)
                · have hP : va_P D vwCl [(h0, .inr (10, vL 67 G38)), (h_tape, .inl (cB, 940, .inl f_tape))] H := hP
                  have hD : va_D A [(h0, .inr (10, vL 67 G38)), (h_tape, .inl (cB, 940, .inl f_tape))] := hD
                  refine W.widen (k := 0) (n := 0) (Nat.le_of_ble_eq_true rfl) (Nat.le_of_ble_eq_true rfl) ?_
                  have k292 : 48 ≤ v259.toInt ∧ v259.toInt ≤ 96 := ⟨Int.le_trans (Int.le_refl _) t286, k269.2⟩
                  have k293 : 58 ≤ v259.toInt ∧ v259.toInt ≤ 96 := ⟨lo_lt t287 (Int.le_refl _) (by decide), k292.2⟩
                  refine lv_if_eq (tgt := 298) hx hb dX10_next_198 (by decide) (fun _ => ?_) (fun g => absurd (by decide) g)
                  exact cut43 u37 G38 u39 u40 u41 u42 i79 (SAME.tr SAME.rf i80 (by decide)) i81 i82 i83 i84 (ir_wk k261 (by decide) (by decide)) i86 (by show 0 ≤ u40.toInt ∧ u40.toInt ≤ u39.toInt; omega) (by show u37.toInt = 1 → u32.toInt = 0 → (0 ≤ u41.toInt ∧ u41.toInt ≤ 999 ∧ (u40.toInt = 0 → u41.toInt = 0) ∧ (u40.toInt = 1 → u41.toInt ≤ 9) ∧ (u40.toInt = 2 → u41.toInt ≤ 99)); omega) (by show (x_token.toInt = 2 → 0 ≤ u41.toInt ∧ u41.toInt ≤ 999); omega) _ _ _ hP hD hS (lv_sub hl [0, 1, 2, 3] rfl)
                · have hP : va_P D vwCl [(h0, .inr (10, vL 67 G38)), (h_tape, .inl (cB, 940, .inl f_tape))] H := hP
                  have hD : va_D A [(h0, .inr (10, vL 67 G38)), (h_tape, .inl (cB, 940, .inl f_tape))] := hD
                  refine W.widen (k := 0) (n := 0) (Nat.le_of_ble_eq_true rfl) (Nat.le_of_ble_eq_true rfl) ?_
                  have k294 : 48 ≤ v259.toInt ∧ v259.toInt ≤ 96 := ⟨Int.le_trans (Int.le_refl _) t288, k269.2⟩
                  have k295 : 48 ≤ v259.toInt ∧ v259.toInt ≤ 57 := ⟨k294.1, Int.le_trans t289 (Int.le_refl _)⟩
                  refine lv_if_eq (tgt := 298) hx hb dX10_next_198 (by decide) (fun g => absurd g (by decide)) (fun _ => ?_)
                  have cut297 : ∀ (u296 : Int32) (_ : IR 0 1 u296) (_ : ((u296.toInt = 1 → u32.toInt = 0 → (48 ≤ v259.toInt ∧ v259.toInt ≤ 57 ∧ 0 ≤ u41.toInt ∧ u41.toInt ≤ 999 ∧ (u40.toInt = 0 → u41.toInt = 0) ∧ (u40.toInt = 1 → u41.toInt ≤ 9) ∧ (u40.toInt = 2 → u41.toInt ≤ 99))))) (H : Heap) (locs : List Loc) (ls : Array Slot), va_P D vwCl [(h0, .inr (10, vL 67 G38)), (h_tape, .inl (cB, 940, .inl f_tape))] H → va_D A [(h0, .inr (10, vL 67 G38)), (h_tape, .inl (cB, 940, .inl f_tape))] → va_S A s.heap H locs → lv_has ls 4 [(3, .int u296), (2, .int u32), (1, .int v27), (0, .ref h0)] → W p l e ({ frames := 1, cells := 0, slots := 0, locals := 20 } : Room) s m [.ref h0].toArray below meth c H locs 0 0 (MQ below (va_Qv (fun (u : va_W) => ∃ (Gh : Nat → Value) (y_p : Int32) (y_token : Int32) (y_at : Int32) (y_span : Int32) (y_number : Int32) (y_word : Int64), SAME [4, 11, 12, 13, 14, 18] Fh Gh ∧ Gh 4 = .int y_p ∧ IR 0 940 y_p ∧ Gh 11 = .int y_token ∧ IR 0 4 y_token ∧ Gh 12 = .int y_at ∧ IR 0 940 y_at ∧ Gh 13 = .int y_span ∧ IR 0 940 y_span ∧ Gh 14 = .int y_number ∧ Gh 18 = .long y_word ∧ (x_p.toInt ≤ y_p.toInt) ∧ ((1 ≤ y_token.toInt → y_token.toInt ≤ 3 → x_p.toInt < y_p.toInt)) ∧ ((y_token.toInt = 2 → 0 ≤ y_number.toInt ∧ y_number.toInt ≤ 999)) ∧ u = [(h0, .inr (10, vL 67 Gh)), (h_tape, .inl (cB, 940, .inl f_tape))]) (PO D A) A) [.ref h0].toArray s 0 0 A) (F0 m 222 ls []) := by
                    intro u296 i298 i299 H locs ls hP hD hS hl
                    have i298 : 0 ≤ u296.toInt ∧ u296.toInt ≤ 1 := i298
                    have i299 : (u296.toInt = 1 → u32.toInt = 0 → (48 ≤ v259.toInt ∧ v259.toInt ≤ 57 ∧ 0 ≤ u41.toInt ∧ u41.toInt ≤ 999 ∧ (u40.toInt = 0 → u41.toInt = 0) ∧ (u40.toInt = 1 → u41.toInt ≤ 9) ∧ (u40.toInt = 2 → u41.toInt ≤ 99))) := i299
                    have cut302 : ∀ (G300 : Nat → Value) (u301 : Int64) (_ : SAME [18] G38 G300) (_ : G300 18 = .long u301) (H : Heap) (locs : List Loc) (ls : Array Slot), va_P D vwCl [(h0, .inr (10, vL 67 G300)), (h_tape, .inl (cB, 940, .inl f_tape))] H → va_D A [(h0, .inr (10, vL 67 G300)), (h_tape, .inl (cB, 940, .inl f_tape))] → va_S A s.heap H locs → lv_has ls 4 [(3, .int u296), (2, .int u32), (1, .int v27), (0, .ref h0)] → W p l e ({ frames := 1, cells := 0, slots := 0, locals := 20 } : Room) s m [.ref h0].toArray below meth c H locs 0 0 (MQ below (va_Qv (fun (u : va_W) => ∃ (Gh : Nat → Value) (y_p : Int32) (y_token : Int32) (y_at : Int32) (y_span : Int32) (y_number : Int32) (y_word : Int64), SAME [4, 11, 12, 13, 14, 18] Fh Gh ∧ Gh 4 = .int y_p ∧ IR 0 940 y_p ∧ Gh 11 = .int y_token ∧ IR 0 4 y_token ∧ Gh 12 = .int y_at ∧ IR 0 940 y_at ∧ Gh 13 = .int y_span ∧ IR 0 940 y_span ∧ Gh 14 = .int y_number ∧ Gh 18 = .long y_word ∧ (x_p.toInt ≤ y_p.toInt) ∧ ((1 ≤ y_token.toInt → y_token.toInt ≤ 3 → x_p.toInt < y_p.toInt)) ∧ ((y_token.toInt = 2 → 0 ≤ y_number.toInt ∧ y_number.toInt ≤ 999)) ∧ u = [(h0, .inr (10, vL 67 Gh)), (h_tape, .inl (cB, 940, .inl f_tape))]) (PO D A) A) [.ref h0].toArray s 0 0 A) (F0 m 248 ls []) := by
                      intro G300 u301 i303 i304 H locs ls hP hD hS hl
                      refine lv_aload_n hx hb dX10_next_248 rfl (lv_at hl 3 rfl) ?_
                      have n305 : G300 13 = .int u40 := (SAME.at i303 (by decide) i82)
                      refine get_f (D := D) (ci := 10) (v := .int u40) (C := RX10) (T := TX10) (N := 67) hx hb hw inAX10 hown hK hP 0 rfl rfl 13 (by decide) (hw _ q_1274) (fun _ h9 => h9) n305 dX10_next_249 ?_
                      refine lv_iconst (v := 3) hx hb dX10_next_252 (by decide) ?_
                      refine lv_icmp_ge (tgt := 275) hx hb dX10_next_253 (by decide) (fun c306 => ?_) (fun c306 => ?_)
                      · have dc306 : 3 ≤ u40.toInt := le_i (a := 3) (b := u40.toInt) rfl rfl c306
                        have k307 : 3 ≤ u40.toInt ∧ u40.toInt ≤ 940 := ⟨Int.le_trans (Int.le_refl _) dc306, i86.2⟩
                        refine lv_aload_n hx hb dX10_next_275 rfl (lv_at hl 3 rfl) ?_
                        refine lv_dup hx hb dX10_next_276 rfl ?_
                        refine get_f (D := D) (ci := 10) (v := .int u40) (C := RX10) (T := TX10) (N := 67) hx hb hw inAX10 hown hK hP 0 rfl rfl 13 (by decide) (hw _ q_1274) (fun _ h9 => h9) n305 dX10_next_277 ?_
                        refine lv_iconst (v := 1) hx hb dX10_next_280 (by decide) ?_
                        refine lv_iadd hx hb dX10_next_281 ?_
                        refine lv_topi (fun v308 ev308 => ?_)
                        have bv308 : v308.toInt = u40.toInt + 1 := by rw [ev308]; exact add_k rfl rfl k307 ⟨Int.le_refl _, Int.le_refl _⟩ (by decide)
                        have k309 : 4 ≤ v308.toInt ∧ v308.toInt ≤ 941 := add_r bv308 k307 ⟨Int.le_refl _, Int.le_refl _⟩ (by decide)
                        refine put_f (D := D) (ci := 10) (v := .int v308) (ty := .int) (C := RX10) (T := TX10) (N := 67) hx hb hw inAX10 tyX10 tyX10_ok nmX10 hown hK hP hD hS 0 rfl rfl 13 (by decide) (hw _ q_1274) (fun _ h9 => h9) rfl (by decide +kernel) rfl rfl dX10_next_282 (fun H locs F310 eF310 hP hD hS => ?_)
                        have hP : va_P D vwCl [(h0, .inr (10, vL 67 F310)), (h_tape, .inl (cB, 940, .inl f_tape))] H := hP
                        have hD : va_D A [(h0, .inr (10, vL 67 F310)), (h_tape, .inl (cB, 940, .inl f_tape))] := hD
                        refine lv_aload_n hx hb dX10_next_285 rfl (lv_at hl 3 rfl) ?_
                        refine lv_dup hx hb dX10_next_286 rfl ?_
                        have n311 : G300 4 = .int u39 := (SAME.at i303 (by decide) i81)
                        have n312 : F310 4 = .int u39 := (get_ne eF310 (by decide) n311)
                        refine get_f (D := D) (ci := 10) (v := .int u39) (C := RX10) (T := TX10) (N := 67) hx hb hw inAX10 hown hK hP 0 rfl rfl 4 (by decide) (hw _ q_1265) (fun _ h9 => h9) n312 dX10_next_287 ?_
                        refine lv_iconst (v := 1) hx hb dX10_next_290 (by decide) ?_
                        refine lv_iadd hx hb dX10_next_291 ?_
                        refine lv_topi (fun v313 ev313 => ?_)
                        have bv313 : v313.toInt = u39.toInt + 1 := by rw [ev313]; exact add_k rfl rfl k261 ⟨Int.le_refl _, Int.le_refl _⟩ (by decide)
                        have k314 : 1 ≤ v313.toInt ∧ v313.toInt ≤ 940 := add_r bv313 k261 ⟨Int.le_refl _, Int.le_refl _⟩ (by decide)
                        refine put_f (D := D) (ci := 10) (v := .int v313) (ty := .int) (C := RX10) (T := TX10) (N := 67) hx hb hw inAX10 tyX10 tyX10_ok nmX10 hown hK hP hD hS 0 rfl rfl 4 (by decide) (hw _ q_1265) (fun _ h9 => h9) rfl (by decide +kernel) rfl rfl dX10_next_292 (fun H locs F315 eF315 hP hD hS => ?_)
                        have hP : va_P D vwCl [(h0, .inr (10, vL 67 F315)), (h_tape, .inl (cB, 940, .inl f_tape))] H := hP
                        have hD : va_D A [(h0, .inr (10, vL 67 F315)), (h_tape, .inl (cB, 940, .inl f_tape))] := hD
                        refine lv_goto (tgt := 181) hx hb dX10_next_295 (by decide) ?_
                        have n316 : F315 13 = .int v308 := (get_ne eF315 (by decide) (get_eq eF310))
                        have n317 : G300 14 = .int u41 := (SAME.at i303 (by decide) i83)
                        have n318 : F310 14 = .int u41 := (get_ne eF310 (by decide) n317)
                        have n319 : F315 14 = .int u41 := (get_ne eF315 (by decide) n318)
                        have n320 : F310 18 = .long u301 := (get_ne eF310 (by decide) i304)
                        have n321 : F315 18 = .long u301 := (get_ne eF315 (by decide) n320)
                        exact ih (u296, F315, v313, v308, u41, u301) ⟨i298, (SAME.up eF315 (SAME.up eF310 (SAME.tr (SAME.tr SAME.rf i80 (by decide)) i303 (by decide)) (by decide)) (by decide)), (get_eq eF315), n316, n319, n321, (ir_wk k314 (by decide) (by decide)), ⟨by omega, by omega⟩, (by show 0 ≤ v308.toInt ∧ v308.toInt ≤ v313.toInt; omega), (by show u296.toInt = 1 → u32.toInt = 0 → (0 ≤ u41.toInt ∧ u41.toInt ≤ 999 ∧ (v308.toInt = 0 → u41.toInt = 0) ∧ (v308.toInt = 1 → u41.toInt ≤ 9) ∧ (v308.toInt = 2 → u41.toInt ≤ 99)); omega), (by show (x_token.toInt = 2 → 0 ≤ u41.toInt ∧ u41.toInt ≤ 999); omega)⟩ (by show (x_size.toInt - v313.toInt).toNat < (x_size.toInt - u39.toInt).toNat; omega) _ _ _ hP hD hS (lv_sub hl [0, 1, 2, 3] rfl)
                      · have dc306 : u40.toInt < 3 := nle_i (a := 3) (b := u40.toInt) rfl rfl c306
                        have k322 : 0 ≤ u40.toInt ∧ u40.toInt ≤ 2 := ⟨i86.1, up_lt dc306 (Int.le_refl _) (by decide)⟩
                        refine lv_aload_n hx hb dX10_next_256 rfl (lv_at hl 3 rfl) ?_
                        refine lv_bipush (v := 10) hx hb dX10_next_257 (by decide) ?_
                        refine lv_aload_n hx hb dX10_next_259 rfl (lv_at hl 3 rfl) ?_
                        have n323 : G300 14 = .int u41 := (SAME.at i303 (by decide) i83)
                        refine get_f (D := D) (ci := 10) (v := .int u41) (C := RX10) (T := TX10) (N := 67) hx hb hw inAX10 hown hK hP 0 rfl rfl 14 (by decide) (hw _ q_1275) (fun _ h9 => h9) n323 dX10_next_260 ?_
                        refine lv_imul hx hb dX10_next_263 ?_
                        refine lv_topi (fun v324 ev324 => ?_)
                        refine lv_aload_n hx hb dX10_next_264 rfl (lv_at hl 3 rfl) ?_
                        have n325 : G300 1 = .ref h_tape := (SAME.at i303 (by decide) n92)
                        have n326 : G300 3 = .int x_size := (SAME.at i303 (by decide) n95)
                        have n327 : G300 4 = .int u39 := (SAME.at i303 (by decide) i81)
                        refine call_Vi (wr := []) (As := []) (rest := [.int v324, .ref h0]) hx hb hml hown hw (m_X10_peek l D cI cJ cB cP cM cZ h0 h_tape G300 x_size u39 f_tape _ n325 n326 (ir_wk k30 (by decide) (by decide)) n327 (ir_wk k261 (by decide) (by decide))) wV_X10_169_X10_peek dX10_next_265 hK hP hD hS hA [0, 1] [] rfl rfl (by decide) (by decide) (by decide) 0 10 rfl rfl GG.fb hG.at hl.1 rfl (Nat.le_of_ble_eq_true rfl) ⟨(Nat.le_of_ble_eq_true rfl), (Nat.le_of_ble_eq_true rfl)⟩ ⟨(Nat.le_of_ble_eq_true rfl), (Nat.le_of_ble_eq_true rfl)⟩ (fun r328 u H locs hp hP hD hS => ?_)
                        rcases hp with ⟨t329, rfl, rfl⟩ | ⟨t330, t331, rfl, rfl⟩
                        · have hP : va_P D vwCl [(h0, .inr (10, vL 67 G300)), (h_tape, .inl (cB, 940, .inl f_tape))] H := hP
                          have hD : va_D A [(h0, .inr (10, vL 67 G300)), (h_tape, .inl (cB, 940, .inl f_tape))] := hD
                          refine W.widen (k := 0) (n := 0) (Nat.le_of_ble_eq_true rfl) (Nat.le_of_ble_eq_true rfl) ?_
                          have k333 : 1 ≤ x_size.toInt ∧ x_size.toInt ≤ 939 := ⟨k30.1, Int.le_trans t329 k261.2⟩
                          have k334 : 1 ≤ u39.toInt ∧ u39.toInt ≤ 939 := ⟨Int.le_trans k30.1 t329, k261.2⟩
                          refine lv_iadd hx hb dX10_next_268 ?_
                          refine lv_topi (fun v335 ev335 => ?_)
                          refine lv_bipush (v := 48) hx hb dX10_next_269 (by decide) ?_
                          refine lv_isub hx hb dX10_next_271 ?_
                          refine lv_topi (fun v336 ev336 => ?_)
                          refine put_f (D := D) (ci := 10) (v := .int v336) (ty := .int) (C := RX10) (T := TX10) (N := 67) hx hb hw inAX10 tyX10 tyX10_ok nmX10 hown hK hP hD hS 0 rfl rfl 14 (by decide) (hw _ q_1275) (fun _ h9 => h9) rfl (by decide +kernel) rfl rfl dX10_next_272 (fun H locs F337 eF337 hP hD hS => ?_)
                          have hP : va_P D vwCl [(h0, .inr (10, vL 67 F337)), (h_tape, .inl (cB, 940, .inl f_tape))] H := hP
                          have hD : va_D A [(h0, .inr (10, vL 67 F337)), (h_tape, .inl (cB, 940, .inl f_tape))] := hD
                          refine lv_aload_n hx hb dX10_next_275 rfl (lv_at hl 3 rfl) ?_
                          refine lv_dup hx hb dX10_next_276 rfl ?_
                          have n338 : F337 13 = .int u40 := (get_ne eF337 (by decide) n305)
                          refine get_f (D := D) (ci := 10) (v := .int u40) (C := RX10) (T := TX10) (N := 67) hx hb hw inAX10 hown hK hP 0 rfl rfl 13 (by decide) (hw _ q_1274) (fun _ h9 => h9) n338 dX10_next_277 ?_
                          refine lv_iconst (v := 1) hx hb dX10_next_280 (by decide) ?_
                          refine lv_iadd hx hb dX10_next_281 ?_
                          refine lv_topi (fun v339 ev339 => ?_)
                          have bv339 : v339.toInt = u40.toInt + 1 := by rw [ev339]; exact add_k rfl rfl k322 ⟨Int.le_refl _, Int.le_refl _⟩ (by decide)
                          have k340 : 1 ≤ v339.toInt ∧ v339.toInt ≤ 3 := add_r bv339 k322 ⟨Int.le_refl _, Int.le_refl _⟩ (by decide)
                          refine put_f (D := D) (ci := 10) (v := .int v339) (ty := .int) (C := RX10) (T := TX10) (N := 67) hx hb hw inAX10 tyX10 tyX10_ok nmX10 hown hK hP hD hS 0 rfl rfl 13 (by decide) (hw _ q_1274) (fun _ h9 => h9) rfl (by decide +kernel) rfl rfl dX10_next_282 (fun H locs F341 eF341 hP hD hS => ?_)
                          have hP : va_P D vwCl [(h0, .inr (10, vL 67 F341)), (h_tape, .inl (cB, 940, .inl f_tape))] H := hP
                          have hD : va_D A [(h0, .inr (10, vL 67 F341)), (h_tape, .inl (cB, 940, .inl f_tape))] := hD
                          refine lv_aload_n hx hb dX10_next_285 rfl (lv_at hl 3 rfl) ?_
                          refine lv_dup hx hb dX10_next_286 rfl ?_
                          have n342 : F337 4 = .int u39 := (get_ne eF337 (by decide) n327)
                          have n343 : F341 4 = .int u39 := (get_ne eF341 (by decide) n342)
                          refine get_f (D := D) (ci := 10) (v := .int u39) (C := RX10) (T := TX10) (N := 67) hx hb hw inAX10 hown hK hP 0 rfl rfl 4 (by decide) (hw _ q_1265) (fun _ h9 => h9) n343 dX10_next_287 ?_
                          refine lv_iconst (v := 1) hx hb dX10_next_290 (by decide) ?_
                          refine lv_iadd hx hb dX10_next_291 ?_
                          refine lv_topi (fun v344 ev344 => ?_)
                          have bv344 : v344.toInt = u39.toInt + 1 := by rw [ev344]; exact add_k rfl rfl k334 ⟨Int.le_refl _, Int.le_refl _⟩ (by decide)
                          have k345 : 2 ≤ v344.toInt ∧ v344.toInt ≤ 940 := add_r bv344 k334 ⟨Int.le_refl _, Int.le_refl _⟩ (by decide)
                          refine put_f (D := D) (ci := 10) (v := .int v344) (ty := .int) (C := RX10) (T := TX10) (N := 67) hx hb hw inAX10 tyX10 tyX10_ok nmX10 hown hK hP hD hS 0 rfl rfl 4 (by decide) (hw _ q_1265) (fun _ h9 => h9) rfl (by decide +kernel) rfl rfl dX10_next_292 (fun H locs F346 eF346 hP hD hS => ?_)
                          have hP : va_P D vwCl [(h0, .inr (10, vL 67 F346)), (h_tape, .inl (cB, 940, .inl f_tape))] H := hP
                          have hD : va_D A [(h0, .inr (10, vL 67 F346)), (h_tape, .inl (cB, 940, .inl f_tape))] := hD
                          refine lv_goto (tgt := 181) hx hb dX10_next_295 (by decide) ?_
                          have n347 : F346 13 = .int v339 := (get_ne eF346 (by decide) (get_eq eF341))
                          have n348 : F341 14 = .int v336 := (get_ne eF341 (by decide) (get_eq eF337))
                          have n349 : F346 14 = .int v336 := (get_ne eF346 (by decide) n348)
                          have n350 : F337 18 = .long u301 := (get_ne eF337 (by decide) i304)
                          have n351 : F341 18 = .long u301 := (get_ne eF341 (by decide) n350)
                          have n352 : F346 18 = .long u301 := (get_ne eF346 (by decide) n351)
                          exact ih (u296, F346, v344, v339, v336, u301) ⟨i298, (SAME.up eF346 (SAME.up eF341 (SAME.up eF337 (SAME.tr (SAME.tr SAME.rf i80 (by decide)) i303 (by decide)) (by decide)) (by decide)) (by decide)), (get_eq eF346), n347, n349, n352, (ir_wk k345 (by decide) (by decide)), (ir_wk k340 (by decide) (by decide)), (by show 0 ≤ v339.toInt ∧ v339.toInt ≤ v344.toInt; omega), (by show u296.toInt = 1 → u32.toInt = 0 → (0 ≤ v336.toInt ∧ v336.toInt ≤ 999 ∧ (v339.toInt = 0 → v336.toInt = 0) ∧ (v339.toInt = 1 → v336.toInt ≤ 9) ∧ (v339.toInt = 2 → v336.toInt ≤ 99)); omega), (by show (x_token.toInt = 2 → 0 ≤ v336.toInt ∧ v336.toInt ≤ 999); omega)⟩ (by show (x_size.toInt - v344.toInt).toNat < (x_size.toInt - u39.toInt).toNat; omega) _ _ _ hP hD hS (lv_sub hl [0, 1, 2, 3] rfl)
                        · have hP : va_P D vwCl [(h0, .inr (10, vL 67 G300)), (h_tape, .inl (cB, 940, .inl f_tape))] H := hP
                          have hD : va_D A [(h0, .inr (10, vL 67 G300)), (h_tape, .inl (cB, 940, .inl f_tape))] := hD
                          refine W.widen (k := 0) (n := 0) (Nat.le_of_ble_eq_true rfl) (Nat.le_of_ble_eq_true rfl) ?_
                          refine lv_ci (y := v259) ev259.symm ?_
                          refine lv_iadd hx hb dX10_next_268 ?_
                          refine lv_topi (fun v353 ev353 => ?_)
                          refine lv_bipush (v := 48) hx hb dX10_next_269 (by decide) ?_
                          refine lv_isub hx hb dX10_next_271 ?_
                          refine lv_topi (fun v354 ev354 => ?_)
                          refine put_f (D := D) (ci := 10) (v := .int v354) (ty := .int) (C := RX10) (T := TX10) (N := 67) hx hb hw inAX10 tyX10 tyX10_ok nmX10 hown hK hP hD hS 0 rfl rfl 14 (by decide) (hw _ q_1275) (fun _ h9 => h9) rfl (by decide +kernel) rfl rfl dX10_next_272 (fun H locs F355 eF355 hP hD hS => ?_)
                          have hP : va_P D vwCl [(h0, .inr (10, vL 67 F355)), (h_tape, .inl (cB, 940, .inl f_tape))] H := hP
                          have hD : va_D A [(h0, .inr (10, vL 67 F355)), (h_tape, .inl (cB, 940, .inl f_tape))] := hD
                          refine lv_aload_n hx hb dX10_next_275 rfl (lv_at hl 3 rfl) ?_
                          refine lv_dup hx hb dX10_next_276 rfl ?_
                          have n356 : F355 13 = .int u40 := (get_ne eF355 (by decide) n305)
                          refine get_f (D := D) (ci := 10) (v := .int u40) (C := RX10) (T := TX10) (N := 67) hx hb hw inAX10 hown hK hP 0 rfl rfl 13 (by decide) (hw _ q_1274) (fun _ h9 => h9) n356 dX10_next_277 ?_
                          refine lv_iconst (v := 1) hx hb dX10_next_280 (by decide) ?_
                          refine lv_iadd hx hb dX10_next_281 ?_
                          refine lv_topi (fun v357 ev357 => ?_)
                          have bv357 : v357.toInt = u40.toInt + 1 := by rw [ev357]; exact add_k rfl rfl k322 ⟨Int.le_refl _, Int.le_refl _⟩ (by decide)
                          have k358 : 1 ≤ v357.toInt ∧ v357.toInt ≤ 3 := add_r bv357 k322 ⟨Int.le_refl _, Int.le_refl _⟩ (by decide)
                          refine put_f (D := D) (ci := 10) (v := .int v357) (ty := .int) (C := RX10) (T := TX10) (N := 67) hx hb hw inAX10 tyX10 tyX10_ok nmX10 hown hK hP hD hS 0 rfl rfl 13 (by decide) (hw _ q_1274) (fun _ h9 => h9) rfl (by decide +kernel) rfl rfl dX10_next_282 (fun H locs F359 eF359 hP hD hS => ?_)
                          have hP : va_P D vwCl [(h0, .inr (10, vL 67 F359)), (h_tape, .inl (cB, 940, .inl f_tape))] H := hP
                          have hD : va_D A [(h0, .inr (10, vL 67 F359)), (h_tape, .inl (cB, 940, .inl f_tape))] := hD
                          refine lv_aload_n hx hb dX10_next_285 rfl (lv_at hl 3 rfl) ?_
                          refine lv_dup hx hb dX10_next_286 rfl ?_
                          have n360 : F355 4 = .int u39 := (get_ne eF355 (by decide) n327)
                          have n361 : F359 4 = .int u39 := (get_ne eF359 (by decide) n360)
                          refine get_f (D := D) (ci := 10) (v := .int u39) (C := RX10) (T := TX10) (N := 67) hx hb hw inAX10 hown hK hP 0 rfl rfl 4 (by decide) (hw _ q_1265) (fun _ h9 => h9) n361 dX10_next_287 ?_
                          refine lv_iconst (v := 1) hx hb dX10_next_290 (by decide) ?_
                          refine lv_iadd hx hb dX10_next_291 ?_
                          refine lv_topi (fun v362 ev362 => ?_)
                          have bv362 : v362.toInt = u39.toInt + 1 := by rw [ev362]; exact add_k rfl rfl k261 ⟨Int.le_refl _, Int.le_refl _⟩ (by decide)
                          have k363 : 1 ≤ v362.toInt ∧ v362.toInt ≤ 940 := add_r bv362 k261 ⟨Int.le_refl _, Int.le_refl _⟩ (by decide)
                          refine put_f (D := D) (ci := 10) (v := .int v362) (ty := .int) (C := RX10) (T := TX10) (N := 67) hx hb hw inAX10 tyX10 tyX10_ok nmX10 hown hK hP hD hS 0 rfl rfl 4 (by decide) (hw _ q_1265) (fun _ h9 => h9) rfl (by decide +kernel) rfl rfl dX10_next_292 (fun H locs F364 eF364 hP hD hS => ?_)
                          have hP : va_P D vwCl [(h0, .inr (10, vL 67 F364)), (h_tape, .inl (cB, 940, .inl f_tape))] H := hP
                          have hD : va_D A [(h0, .inr (10, vL 67 F364)), (h_tape, .inl (cB, 940, .inl f_tape))] := hD
                          refine lv_goto (tgt := 181) hx hb dX10_next_295 (by decide) ?_
                          have n365 : F364 13 = .int v357 := (get_ne eF364 (by decide) (get_eq eF359))
                          have n366 : F359 14 = .int v354 := (get_ne eF359 (by decide) (get_eq eF355))
                          have n367 : F364 14 = .int v354 := (get_ne eF364 (by decide) n366)
                          have n368 : F355 18 = .long u301 := (get_ne eF355 (by decide) i304)
                          have n369 : F359 18 = .long u301 := (get_ne eF359 (by decide) n368)
                          have n370 : F364 18 = .long u301 := (get_ne eF364 (by decide) n369)
                          exact ih (u296, F364, v362, v357, v354, u301) ⟨i298, (SAME.up eF364 (SAME.up eF359 (SAME.up eF355 (SAME.tr (SAME.tr SAME.rf i80 (by decide)) i303 (by decide)) (by decide)) (by decide)) (by decide)), (get_eq eF364), n365, n367, n370, (ir_wk k363 (by decide) (by decide)), (ir_wk k358 (by decide) (by decide)), (by show 0 ≤ v357.toInt ∧ v357.toInt ≤ v362.toInt; omega), (by show u296.toInt = 1 → u32.toInt = 0 → (0 ≤ v354.toInt ∧ v354.toInt ≤ 999 ∧ (v357.toInt = 0 → v354.toInt = 0) ∧ (v357.toInt = 1 → v354.toInt ≤ 9) ∧ (v357.toInt = 2 → v354.toInt ≤ 99)); omega), (by show (x_token.toInt = 2 → 0 ≤ v354.toInt ∧ v354.toInt ≤ 999); omega)⟩ (by show (x_size.toInt - v362.toInt).toNat < (x_size.toInt - u39.toInt).toNat; omega) _ _ _ hP hD hS (lv_sub hl [0, 1, 2, 3] rfl)
                    refine lv_aload_n hx hb dX10_next_222 rfl (lv_at hl 3 rfl) ?_
                    refine get_f (D := D) (ci := 10) (v := .int u40) (C := RX10) (T := TX10) (N := 67) hx hb hw inAX10 hown hK hP 0 rfl rfl 13 (by decide) (hw _ q_1274) (fun _ h9 => h9) i82 dX10_next_223 ?_
                    refine lv_bipush (v := 7) hx hb dX10_next_226 (by decide) ?_
                    refine lv_icmp_ge (tgt := 248) hx hb dX10_next_228 (by decide) (fun c371 => ?_) (fun c371 => ?_)
                    · have dc371 : 7 ≤ u40.toInt := le_i (a := 7) (b := u40.toInt) rfl rfl c371
                      have k372 : 7 ≤ u40.toInt ∧ u40.toInt ≤ 940 := ⟨Int.le_trans (Int.le_refl _) dc371, i86.2⟩
                      exact cut302 G38 u42 SAME.rf i84 _ _ _ hP hD hS (lv_sub hl [0, 1, 2, 3] rfl)
                    · have dc371 : u40.toInt < 7 := nle_i (a := 7) (b := u40.toInt) rfl rfl c371
                      have k373 : 0 ≤ u40.toInt ∧ u40.toInt ≤ 6 := ⟨i86.1, up_lt dc371 (Int.le_refl _) (by decide)⟩
                      refine lv_aload_n hx hb dX10_next_231 rfl (lv_at hl 3 rfl) ?_
                      refine lv_aload_n hx hb dX10_next_232 rfl (lv_at hl 3 rfl) ?_
                      refine get_f (D := D) (ci := 10) (v := .long u42) (C := RX10) (T := TX10) (N := 67) hx hb hw inAX10 hown hK hP 0 rfl rfl 18 (by decide) (hw _ q_1279) (fun _ h9 => h9) i84 dX10_next_233 ?_
                      refine lv_bipush (v := 8) hx hb dX10_next_236 (by decide) ?_
                      obtain ⟨v374, ev374⟩ : ∃ z : Int64, (u42 : Int64) <<< ((8 : Int32).toInt64 &&& 63) = z := ⟨_, rfl⟩
                      refine lv_lshl (v := v374) hx hb dX10_next_238 ev374 ?_
                      refine lv_aload_n hx hb dX10_next_239 rfl (lv_at hl 3 rfl) ?_
                      refine call_Vi (wr := []) (As := []) (rest := [.long v374, .ref h0]) hx hb hml hown hw (m_X10_peek l D cI cJ cB cP cM cZ h0 h_tape G38 x_size u39 f_tape _ n92 n95 (ir_wk k30 (by decide) (by decide)) i81 (ir_wk k261 (by decide) (by decide))) wV_X10_169_X10_peek dX10_next_240 hK hP hD hS hA [0, 1] [] rfl rfl (by decide) (by decide) (by decide) 0 10 rfl rfl GG.fb hG.at hl.1 rfl (Nat.le_of_ble_eq_true rfl) ⟨(Nat.le_of_ble_eq_true rfl), (Nat.le_of_ble_eq_true rfl)⟩ ⟨(Nat.le_of_ble_eq_true rfl), (Nat.le_of_ble_eq_true rfl)⟩ (fun r375 u H locs hp hP hD hS => ?_)
                      rcases hp with ⟨t376, rfl, rfl⟩ | ⟨t377, t378, rfl, rfl⟩
                      · have hP : va_P D vwCl [(h0, .inr (10, vL 67 G38)), (h_tape, .inl (cB, 940, .inl f_tape))] H := hP
                        have hD : va_D A [(h0, .inr (10, vL 67 G38)), (h_tape, .inl (cB, 940, .inl f_tape))] := hD
                        refine W.widen (k := 0) (n := 0) (Nat.le_of_ble_eq_true rfl) (Nat.le_of_ble_eq_true rfl) ?_
                        have k380 : 1 ≤ x_size.toInt ∧ x_size.toInt ≤ 939 := ⟨k30.1, Int.le_trans t376 k261.2⟩
                        have k381 : 1 ≤ u39.toInt ∧ u39.toInt ≤ 939 := ⟨Int.le_trans k30.1 t376, k261.2⟩
                        obtain ⟨v382, ev382⟩ : ∃ z : Int64, ((-1) : Int32).toInt64 = z := ⟨_, rfl⟩
                        refine lv_i2l (v := v382) hx hb dX10_next_243 ev382 ?_
                        refine lv_lor hx hb dX10_next_244 ?_
                        refine lv_topl (fun v383 ev383 => ?_)
                        refine put_f (D := D) (ci := 10) (v := .long v383) (ty := .long) (C := RX10) (T := TX10) (N := 67) hx hb hw inAX10 tyX10 tyX10_ok nmX10 hown hK hP hD hS 0 rfl rfl 18 (by decide) (hw _ q_1279) (fun _ h9 => h9) rfl (by decide +kernel) rfl rfl dX10_next_245 (fun H locs F384 eF384 hP hD hS => ?_)
                        have hP : va_P D vwCl [(h0, .inr (10, vL 67 F384)), (h_tape, .inl (cB, 940, .inl f_tape))] H := hP
                        have hD : va_D A [(h0, .inr (10, vL 67 F384)), (h_tape, .inl (cB, 940, .inl f_tape))] := hD
                        exact cut302 F384 v383 (SAME.up eF384 SAME.rf (by decide)) (get_eq eF384) _ _ _ hP hD hS (lv_sub hl [0, 1, 2, 3] rfl)
                      · have hP : va_P D vwCl [(h0, .inr (10, vL 67 G38)), (h_tape, .inl (cB, 940, .inl f_tape))] H := hP
                        have hD : va_D A [(h0, .inr (10, vL 67 G38)), (h_tape, .inl (cB, 940, .inl f_tape))] := hD
                        refine W.widen (k := 0) (n := 0) (Nat.le_of_ble_eq_true rfl) (Nat.le_of_ble_eq_true rfl) ?_
                        refine lv_ci (y := v259) ev259.symm ?_
                        obtain ⟨v385, ev385⟩ : ∃ z : Int64, (v259 : Int32).toInt64 = z := ⟨_, rfl⟩
                        refine lv_i2l (v := v385) hx hb dX10_next_243 ev385 ?_
                        refine lv_lor hx hb dX10_next_244 ?_
                        refine lv_topl (fun v386 ev386 => ?_)
                        refine put_f (D := D) (ci := 10) (v := .long v386) (ty := .long) (C := RX10) (T := TX10) (N := 67) hx hb hw inAX10 tyX10 tyX10_ok nmX10 hown hK hP hD hS 0 rfl rfl 18 (by decide) (hw _ q_1279) (fun _ h9 => h9) rfl (by decide +kernel) rfl rfl dX10_next_245 (fun H locs F387 eF387 hP hD hS => ?_)
                        have hP : va_P D vwCl [(h0, .inr (10, vL 67 F387)), (h_tape, .inl (cB, 940, .inl f_tape))] H := hP
                        have hD : va_D A [(h0, .inr (10, vL 67 F387)), (h_tape, .inl (cB, 940, .inl f_tape))] := hD
                        exact cut302 F387 v386 (SAME.up eF387 SAME.rf (by decide)) (get_eq eF387) _ _ _ hP hD hS (lv_sub hl [0, 1, 2, 3] rfl)
                  refine lv_iload_n hx hb dX10_next_201 rfl (lv_at hl 0 rfl) ?_
                  refine lv_if_eq (tgt := 220) hx hb dX10_next_202 (by decide) (fun c388 => ?_) (fun c388 => ?_)
                  · have dc388 : u37.toInt = 0 := eq_i (a := u37.toInt) (b := 0) rfl rfl c388
                    have k389 : 0 ≤ u37.toInt ∧ u37.toInt ≤ 0 := ⟨i79.1, Int.le_trans (Int.le_of_eq dc388) (Int.le_refl _)⟩
                    refine lv_iconst (v := 0) hx hb dX10_next_220 (by decide) ?_
                    refine lv_istore_n (lv' := [(3, .int 0), (2, .int u32), (1, .int v27), (0, .ref h0)]) hx hb dX10_next_221 rfl hl (by decide) rfl (fun ls hl => ?_)
                    exact cut297 0 (show 0 ≤ (0 : Int32).toInt ∧ (0 : Int32).toInt ≤ 1 by decide) (by show (0 = 1 → u32.toInt = 0 → (48 ≤ v259.toInt ∧ v259.toInt ≤ 57 ∧ 0 ≤ u41.toInt ∧ u41.toInt ≤ 999 ∧ (u40.toInt = 0 → u41.toInt = 0) ∧ (u40.toInt = 1 → u41.toInt ≤ 9) ∧ (u40.toInt = 2 → u41.toInt ≤ 99))); omega) _ _ _ hP hD hS (lv_sub hl [0, 1, 2, 3] rfl)
                  · have dc388 : u37.toInt ≠ 0 := ne_i (a := u37.toInt) (b := 0) rfl rfl c388
                    have k390 : 1 ≤ u37.toInt ∧ u37.toInt ≤ 1 := ⟨ne_lo dc388 i79.1 ⟨Int.le_refl _, Int.le_refl _⟩ (by decide), i79.2⟩
                    refine lv_aload_n hx hb dX10_next_205 rfl (lv_at hl 3 rfl) ?_
                    refine call_Vi (wr := []) (As := []) (rest := []) hx hb hml hown hw (m_X10_peek l D cI cJ cB cP cM cZ h0 h_tape G38 x_size u39 f_tape _ n92 n95 (ir_wk k30 (by decide) (by decide)) i81 (ir_wk k261 (by decide) (by decide))) wV_X10_169_X10_peek dX10_next_206 hK hP hD hS hA [0, 1] [] rfl rfl (by decide) (by decide) (by decide) 0 10 rfl rfl GG.fb hG.at hl.1 rfl (Nat.le_of_ble_eq_true rfl) ⟨(Nat.le_of_ble_eq_true rfl), (Nat.le_of_ble_eq_true rfl)⟩ ⟨(Nat.le_of_ble_eq_true rfl), (Nat.le_of_ble_eq_true rfl)⟩ (fun r391 u H locs hp hP hD hS => ?_)
                    rcases hp with ⟨t392, rfl, rfl⟩ | ⟨t393, t394, rfl, rfl⟩
                    · have hP : va_P D vwCl [(h0, .inr (10, vL 67 G38)), (h_tape, .inl (cB, 940, .inl f_tape))] H := hP
                      have hD : va_D A [(h0, .inr (10, vL 67 G38)), (h_tape, .inl (cB, 940, .inl f_tape))] := hD
                      refine W.widen (k := 0) (n := 0) (Nat.le_of_ble_eq_true rfl) (Nat.le_of_ble_eq_true rfl) ?_
                      have k396 : 1 ≤ x_size.toInt ∧ x_size.toInt ≤ 939 := ⟨k30.1, Int.le_trans t392 k261.2⟩
                      have k397 : 1 ≤ u39.toInt ∧ u39.toInt ≤ 939 := ⟨Int.le_trans k30.1 t392, k261.2⟩
                      refine call_Si (wr := [(h0, .inr (10, vL 67 G38)), (h_tape, .inl (cB, 940, .inl f_tape))]) (As := [.int (-1)]) (rest := []) hx hb hml hown hw (m_X10_isSmall l D cI cJ cB cP cM cZ (-1) _ ) wS_X10_182_X10_isSmall dX10_next_209 hP hD hS hA [] [0, 1] rfl rfl (by decide) (by decide) (by decide) GG.fb hG.at hl.1 rfl (Nat.le_of_ble_eq_true rfl) ⟨(Nat.le_of_ble_eq_true rfl), (Nat.le_of_ble_eq_true rfl)⟩ ⟨(Nat.le_of_ble_eq_true rfl), (Nat.le_of_ble_eq_true rfl)⟩ (fun r398 u H locs hp hP hD hS => ?_)
                      rcases hp with ⟨t399, rfl, rfl⟩ | ⟨t400, t401, rfl, rfl⟩ | ⟨t402, t403, rfl, rfl⟩
                      · have hP : va_P D vwCl [(h0, .inr (10, vL 67 G38)), (h_tape, .inl (cB, 940, .inl f_tape))] H := hP
                        have hD : va_D A [(h0, .inr (10, vL 67 G38)), (h_tape, .inl (cB, 940, .inl f_tape))] := hD
                        refine W.widen (k := 0) (n := 0) (Nat.le_of_ble_eq_true rfl) (Nat.le_of_ble_eq_true rfl) ?_
                        refine lv_iload_n hx hb dX10_next_212 rfl (lv_at hl 1 rfl) ?_
                        refine lv_icmp_ne (tgt := 220) hx hb dX10_next_213 (by decide) (fun c405 => ?_) (fun c405 => ?_)
                        · have dc405 : 0 ≠ u32.toInt := ne_i (a := 0) (b := u32.toInt) rfl rfl c405
                          have k406 : 1 ≤ u32.toInt ∧ u32.toInt ≤ 1 := ⟨ne_lo dc405.symm i34.1 ⟨Int.le_refl _, Int.le_refl _⟩ (by decide), i34.2⟩
                          refine lv_iconst (v := 0) hx hb dX10_next_220 (by decide) ?_
                          refine lv_istore_n (lv' := [(3, .int 0), (2, .int u32), (1, .int v27), (0, .ref h0)]) hx hb dX10_next_221 rfl hl (by decide) rfl (fun ls hl => ?_)
                          exact cut297 0 (show 0 ≤ (0 : Int32).toInt ∧ (0 : Int32).toInt ≤ 1 by decide) (by show (0 = 1 → u32.toInt = 0 → (48 ≤ v259.toInt ∧ v259.toInt ≤ 57 ∧ 0 ≤ u41.toInt ∧ u41.toInt ≤ 999 ∧ (u40.toInt = 0 → u41.toInt = 0) ∧ (u40.toInt = 1 → u41.toInt ≤ 9) ∧ (u40.toInt = 2 → u41.toInt ≤ 99))); omega) _ _ _ hP hD hS (lv_sub hl [0, 1, 2, 3] rfl)
                        · have dc405 : 0 = u32.toInt := eq_i (a := 0) (b := u32.toInt) rfl rfl c405
                          have k407 : 0 ≤ u32.toInt ∧ u32.toInt ≤ 0 := ⟨i34.1, Int.le_trans (Int.le_of_eq dc405.symm) (Int.le_refl _)⟩
                          refine lv_iconst (v := 1) hx hb dX10_next_216 (by decide) ?_
                          refine lv_goto (tgt := 221) hx hb dX10_next_217 (by decide) ?_
                          refine lv_istore_n (lv' := [(3, .int 1), (2, .int u32), (1, .int v27), (0, .ref h0)]) hx hb dX10_next_221 rfl hl (by decide) rfl (fun ls hl => ?_)
                          exact cut297 1 (show 0 ≤ (1 : Int32).toInt ∧ (1 : Int32).toInt ≤ 1 by decide) (by show (1 = 1 → u32.toInt = 0 → (48 ≤ v259.toInt ∧ v259.toInt ≤ 57 ∧ 0 ≤ u41.toInt ∧ u41.toInt ≤ 999 ∧ (u40.toInt = 0 → u41.toInt = 0) ∧ (u40.toInt = 1 → u41.toInt ≤ 9) ∧ (u40.toInt = 2 → u41.toInt ≤ 99))); omega) _ _ _ hP hD hS (lv_sub hl [0, 1, 2, 3] rfl)
                      · have hP : va_P D vwCl [(h0, .inr (10, vL 67 G38)), (h_tape, .inl (cB, 940, .inl f_tape))] H := hP
                        have hD : va_D A [(h0, .inr (10, vL 67 G38)), (h_tape, .inl (cB, 940, .inl f_tape))] := hD
                        refine W.widen (k := 0) (n := 0) (Nat.le_of_ble_eq_true rfl) (Nat.le_of_ble_eq_true rfl) ?_
                        exact absurd t400 (by decide)
                      · have hP : va_P D vwCl [(h0, .inr (10, vL 67 G38)), (h_tape, .inl (cB, 940, .inl f_tape))] H := hP
                        have hD : va_D A [(h0, .inr (10, vL 67 G38)), (h_tape, .inl (cB, 940, .inl f_tape))] := hD
                        refine W.widen (k := 0) (n := 0) (Nat.le_of_ble_eq_true rfl) (Nat.le_of_ble_eq_true rfl) ?_
                        exact absurd t402 (by decide)
                    · have hP : va_P D vwCl [(h0, .inr (10, vL 67 G38)), (h_tape, .inl (cB, 940, .inl f_tape))] H := hP
                      have hD : va_D A [(h0, .inr (10, vL 67 G38)), (h_tape, .inl (cB, 940, .inl f_tape))] := hD
                      refine W.widen (k := 0) (n := 0) (Nat.le_of_ble_eq_true rfl) (Nat.le_of_ble_eq_true rfl) ?_
                      refine lv_ci (y := v259) ev259.symm ?_
                      refine call_Si (wr := [(h0, .inr (10, vL 67 G38)), (h_tape, .inl (cB, 940, .inl f_tape))]) (As := [.int v259]) (rest := []) hx hb hml hown hw (m_X10_isSmall l D cI cJ cB cP cM cZ v259 _ ) wS_X10_182_X10_isSmall dX10_next_209 hP hD hS hA [] [0, 1] rfl rfl (by decide) (by decide) (by decide) GG.fb hG.at hl.1 rfl (Nat.le_of_ble_eq_true rfl) ⟨(Nat.le_of_ble_eq_true rfl), (Nat.le_of_ble_eq_true rfl)⟩ ⟨(Nat.le_of_ble_eq_true rfl), (Nat.le_of_ble_eq_true rfl)⟩ (fun r408 u H locs hp hP hD hS => ?_)
                      rcases hp with ⟨t409, rfl, rfl⟩ | ⟨t410, t411, rfl, rfl⟩ | ⟨t412, t413, rfl, rfl⟩
                      · have hP : va_P D vwCl [(h0, .inr (10, vL 67 G38)), (h_tape, .inl (cB, 940, .inl f_tape))] H := hP
                        have hD : va_D A [(h0, .inr (10, vL 67 G38)), (h_tape, .inl (cB, 940, .inl f_tape))] := hD
                        refine W.widen (k := 0) (n := 0) (Nat.le_of_ble_eq_true rfl) (Nat.le_of_ble_eq_true rfl) ?_
                        refine lv_iload_n hx hb dX10_next_212 rfl (lv_at hl 1 rfl) ?_
                        refine lv_icmp_ne (tgt := 220) hx hb dX10_next_213 (by decide) (fun c415 => ?_) (fun c415 => ?_)
                        · have dc415 : 0 ≠ u32.toInt := ne_i (a := 0) (b := u32.toInt) rfl rfl c415
                          have k416 : 1 ≤ u32.toInt ∧ u32.toInt ≤ 1 := ⟨ne_lo dc415.symm i34.1 ⟨Int.le_refl _, Int.le_refl _⟩ (by decide), i34.2⟩
                          refine lv_iconst (v := 0) hx hb dX10_next_220 (by decide) ?_
                          refine lv_istore_n (lv' := [(3, .int 0), (2, .int u32), (1, .int v27), (0, .ref h0)]) hx hb dX10_next_221 rfl hl (by decide) rfl (fun ls hl => ?_)
                          exact cut297 0 (show 0 ≤ (0 : Int32).toInt ∧ (0 : Int32).toInt ≤ 1 by decide) (by show (0 = 1 → u32.toInt = 0 → (48 ≤ v259.toInt ∧ v259.toInt ≤ 57 ∧ 0 ≤ u41.toInt ∧ u41.toInt ≤ 999 ∧ (u40.toInt = 0 → u41.toInt = 0) ∧ (u40.toInt = 1 → u41.toInt ≤ 9) ∧ (u40.toInt = 2 → u41.toInt ≤ 99))); omega) _ _ _ hP hD hS (lv_sub hl [0, 1, 2, 3] rfl)
                        · have dc415 : 0 = u32.toInt := eq_i (a := 0) (b := u32.toInt) rfl rfl c415
                          have k417 : 0 ≤ u32.toInt ∧ u32.toInt ≤ 0 := ⟨i34.1, Int.le_trans (Int.le_of_eq dc415.symm) (Int.le_refl _)⟩
                          refine lv_iconst (v := 1) hx hb dX10_next_216 (by decide) ?_
                          refine lv_goto (tgt := 221) hx hb dX10_next_217 (by decide) ?_
                          refine lv_istore_n (lv' := [(3, .int 1), (2, .int u32), (1, .int v27), (0, .ref h0)]) hx hb dX10_next_221 rfl hl (by decide) rfl (fun ls hl => ?_)
                          exact cut297 1 (show 0 ≤ (1 : Int32).toInt ∧ (1 : Int32).toInt ≤ 1 by decide) (by show (1 = 1 → u32.toInt = 0 → (48 ≤ v259.toInt ∧ v259.toInt ≤ 57 ∧ 0 ≤ u41.toInt ∧ u41.toInt ≤ 999 ∧ (u40.toInt = 0 → u41.toInt = 0) ∧ (u40.toInt = 1 → u41.toInt ≤ 9) ∧ (u40.toInt = 2 → u41.toInt ≤ 99))); omega) _ _ _ hP hD hS (lv_sub hl [0, 1, 2, 3] rfl)
                      · have hP : va_P D vwCl [(h0, .inr (10, vL 67 G38)), (h_tape, .inl (cB, 940, .inl f_tape))] H := hP
                        have hD : va_D A [(h0, .inr (10, vL 67 G38)), (h_tape, .inl (cB, 940, .inl f_tape))] := hD
                        refine W.widen (k := 0) (n := 0) (Nat.le_of_ble_eq_true rfl) (Nat.le_of_ble_eq_true rfl) ?_
                        exact False.elim (bad_le t410 (Int.le_refl _) k295.2 (by decide))
                      · have hP : va_P D vwCl [(h0, .inr (10, vL 67 G38)), (h_tape, .inl (cB, 940, .inl f_tape))] H := hP
                        have hD : va_D A [(h0, .inr (10, vL 67 G38)), (h_tape, .inl (cB, 940, .inl f_tape))] := hD
                        refine W.widen (k := 0) (n := 0) (Nat.le_of_ble_eq_true rfl) (Nat.le_of_ble_eq_true rfl) ?_
                        exact False.elim (bad_le t412 (Int.le_refl _) k295.2 (by decide))
            · have hP : va_P D vwCl [(h0, .inr (10, vL 67 G38)), (h_tape, .inl (cB, 940, .inl f_tape))] H := hP
              have hD : va_D A [(h0, .inr (10, vL 67 G38)), (h_tape, .inl (cB, 940, .inl f_tape))] := hD
              refine W.widen (k := 0) (n := 0) (Nat.le_of_ble_eq_true rfl) (Nat.le_of_ble_eq_true rfl) ?_
              have k418 : 97 ≤ v259.toInt ∧ v259.toInt ≤ 255 := ⟨Int.le_trans (Int.le_refl _) t264, k260.2⟩
              have k419 : 123 ≤ v259.toInt ∧ v259.toInt ≤ 255 := ⟨lo_lt t265 (Int.le_refl _) (by decide), k418.2⟩
              refine lv_if_ne (tgt := 201) hx hb dX10_next_188 (by decide) (fun g => absurd (by decide) g) (fun _ => ?_)
              refine lv_aload_n hx hb dX10_next_191 rfl (lv_at hl 3 rfl) ?_
              refine call_Vi (wr := []) (As := []) (rest := []) hx hb hml hown hw (m_X10_peek l D cI cJ cB cP cM cZ h0 h_tape G38 x_size u39 f_tape _ n92 n95 (ir_wk k30 (by decide) (by decide)) i81 (ir_wk k261 (by decide) (by decide))) wV_X10_169_X10_peek dX10_next_192 hK hP hD hS hA [0, 1] [] rfl rfl (by decide) (by decide) (by decide) 0 10 rfl rfl GG.fb hG.at hl.1 rfl (Nat.le_of_ble_eq_true rfl) ⟨(Nat.le_of_ble_eq_true rfl), (Nat.le_of_ble_eq_true rfl)⟩ ⟨(Nat.le_of_ble_eq_true rfl), (Nat.le_of_ble_eq_true rfl)⟩ (fun r420 u H locs hp hP hD hS => ?_)
              rcases hp with ⟨t421, rfl, rfl⟩ | ⟨t422, t423, rfl, rfl⟩
              · have hP : va_P D vwCl [(h0, .inr (10, vL 67 G38)), (h_tape, .inl (cB, 940, .inl f_tape))] H := hP
                have hD : va_D A [(h0, .inr (10, vL 67 G38)), (h_tape, .inl (cB, 940, .inl f_tape))] := hD
                refine W.widen (k := 0) (n := 0) (Nat.le_of_ble_eq_true rfl) (Nat.le_of_ble_eq_true rfl) ?_
                have k425 : 1 ≤ x_size.toInt ∧ x_size.toInt ≤ 939 := ⟨k30.1, Int.le_trans t421 k261.2⟩
                have k426 : 1 ≤ u39.toInt ∧ u39.toInt ≤ 939 := ⟨Int.le_trans k30.1 t421, k261.2⟩
                refine call_Si (wr := [(h0, .inr (10, vL 67 G38)), (h_tape, .inl (cB, 940, .inl f_tape))]) (As := [.int (-1)]) (rest := []) hx hb hml hown hw (m_X10_isDigit l D cI cJ cB cP cM cZ (-1) _ ) wS_X10_186_X10_isDigit dX10_next_195 hP hD hS hA [] [0, 1] rfl rfl (by decide) (by decide) (by decide) GG.fb hG.at hl.1 rfl (Nat.le_of_ble_eq_true rfl) ⟨(Nat.le_of_ble_eq_true rfl), (Nat.le_of_ble_eq_true rfl)⟩ ⟨(Nat.le_of_ble_eq_true rfl), (Nat.le_of_ble_eq_true rfl)⟩ (fun r427 u H locs hp hP hD hS => ?_)
                rcases hp with ⟨t428, rfl, rfl⟩ | ⟨t429, t430, rfl, rfl⟩ | ⟨t431, t432, rfl, rfl⟩
                · have hP : va_P D vwCl [(h0, .inr (10, vL 67 G38)), (h_tape, .inl (cB, 940, .inl f_tape))] H := hP
                  have hD : va_D A [(h0, .inr (10, vL 67 G38)), (h_tape, .inl (cB, 940, .inl f_tape))] := hD
                  refine W.widen (k := 0) (n := 0) (Nat.le_of_ble_eq_true rfl) (Nat.le_of_ble_eq_true rfl) ?_
                  refine lv_if_eq (tgt := 298) hx hb dX10_next_198 (by decide) (fun _ => ?_) (fun g => absurd (by decide) g)
                  exact cut43 u37 G38 u39 u40 u41 u42 i79 (SAME.tr SAME.rf i80 (by decide)) i81 i82 i83 i84 (ir_wk k426 (by decide) (by decide)) i86 (by show 0 ≤ u40.toInt ∧ u40.toInt ≤ u39.toInt; omega) (by show u37.toInt = 1 → u32.toInt = 0 → (0 ≤ u41.toInt ∧ u41.toInt ≤ 999 ∧ (u40.toInt = 0 → u41.toInt = 0) ∧ (u40.toInt = 1 → u41.toInt ≤ 9) ∧ (u40.toInt = 2 → u41.toInt ≤ 99)); omega) (by show (x_token.toInt = 2 → 0 ≤ u41.toInt ∧ u41.toInt ≤ 999); omega) _ _ _ hP hD hS (lv_sub hl [0, 1, 2, 3] rfl)
                · have hP : va_P D vwCl [(h0, .inr (10, vL 67 G38)), (h_tape, .inl (cB, 940, .inl f_tape))] H := hP
                  have hD : va_D A [(h0, .inr (10, vL 67 G38)), (h_tape, .inl (cB, 940, .inl f_tape))] := hD
                  refine W.widen (k := 0) (n := 0) (Nat.le_of_ble_eq_true rfl) (Nat.le_of_ble_eq_true rfl) ?_
                  exact absurd t429 (by decide)
                · have hP : va_P D vwCl [(h0, .inr (10, vL 67 G38)), (h_tape, .inl (cB, 940, .inl f_tape))] H := hP
                  have hD : va_D A [(h0, .inr (10, vL 67 G38)), (h_tape, .inl (cB, 940, .inl f_tape))] := hD
                  refine W.widen (k := 0) (n := 0) (Nat.le_of_ble_eq_true rfl) (Nat.le_of_ble_eq_true rfl) ?_
                  exact absurd t431 (by decide)
              · have hP : va_P D vwCl [(h0, .inr (10, vL 67 G38)), (h_tape, .inl (cB, 940, .inl f_tape))] H := hP
                have hD : va_D A [(h0, .inr (10, vL 67 G38)), (h_tape, .inl (cB, 940, .inl f_tape))] := hD
                refine W.widen (k := 0) (n := 0) (Nat.le_of_ble_eq_true rfl) (Nat.le_of_ble_eq_true rfl) ?_
                refine lv_ci (y := v259) ev259.symm ?_
                refine call_Si (wr := [(h0, .inr (10, vL 67 G38)), (h_tape, .inl (cB, 940, .inl f_tape))]) (As := [.int v259]) (rest := []) hx hb hml hown hw (m_X10_isDigit l D cI cJ cB cP cM cZ v259 _ ) wS_X10_186_X10_isDigit dX10_next_195 hP hD hS hA [] [0, 1] rfl rfl (by decide) (by decide) (by decide) GG.fb hG.at hl.1 rfl (Nat.le_of_ble_eq_true rfl) ⟨(Nat.le_of_ble_eq_true rfl), (Nat.le_of_ble_eq_true rfl)⟩ ⟨(Nat.le_of_ble_eq_true rfl), (Nat.le_of_ble_eq_true rfl)⟩ (fun r434 u H locs hp hP hD hS => ?_)
                rcases hp with ⟨t435, rfl, rfl⟩ | ⟨t436, t437, rfl, rfl⟩ | ⟨t438, t439, rfl, rfl⟩
                · have hP : va_P D vwCl [(h0, .inr (10, vL 67 G38)), (h_tape, .inl (cB, 940, .inl f_tape))] H := hP
                  have hD : va_D A [(h0, .inr (10, vL 67 G38)), (h_tape, .inl (cB, 940, .inl f_tape))] := hD
                  refine W.widen (k := 0) (n := 0) (Nat.le_of_ble_eq_true rfl) (Nat.le_of_ble_eq_true rfl) ?_
                  exact False.elim (bad_lt t435 k419.1 (Int.le_refl _) (by decide))
                · have hP : va_P D vwCl [(h0, .inr (10, vL 67 G38)), (h_tape, .inl (cB, 940, .inl f_tape))] H := hP
                  have hD : va_D A [(h0, .inr (10, vL 67 G38)), (h_tape, .inl (cB, 940, .inl f_tape))] := hD
                  refine W.widen (k := 0) (n := 0) (Nat.le_of_ble_eq_true rfl) (Nat.le_of_ble_eq_true rfl) ?_
                  refine lv_if_eq (tgt := 298) hx hb dX10_next_198 (by decide) (fun _ => ?_) (fun g => absurd (by decide) g)
                  exact cut43 u37 G38 u39 u40 u41 u42 i79 (SAME.tr SAME.rf i80 (by decide)) i81 i82 i83 i84 (ir_wk k261 (by decide) (by decide)) i86 (by show 0 ≤ u40.toInt ∧ u40.toInt ≤ u39.toInt; omega) (by show u37.toInt = 1 → u32.toInt = 0 → (0 ≤ u41.toInt ∧ u41.toInt ≤ 999 ∧ (u40.toInt = 0 → u41.toInt = 0) ∧ (u40.toInt = 1 → u41.toInt ≤ 9) ∧ (u40.toInt = 2 → u41.toInt ≤ 99)); omega) (by show (x_token.toInt = 2 → 0 ≤ u41.toInt ∧ u41.toInt ≤ 999); omega) _ _ _ hP hD hS (lv_sub hl [0, 1, 2, 3] rfl)
                · have hP : va_P D vwCl [(h0, .inr (10, vL 67 G38)), (h_tape, .inl (cB, 940, .inl f_tape))] H := hP
                  have hD : va_D A [(h0, .inr (10, vL 67 G38)), (h_tape, .inl (cB, 940, .inl f_tape))] := hD
                  refine W.widen (k := 0) (n := 0) (Nat.le_of_ble_eq_true rfl) (Nat.le_of_ble_eq_true rfl) ?_
                  exact False.elim (bad_le t439 k419.1 (Int.le_refl _) (by decide))
            · have hP : va_P D vwCl [(h0, .inr (10, vL 67 G38)), (h_tape, .inl (cB, 940, .inl f_tape))] H := hP
              have hD : va_D A [(h0, .inr (10, vL 67 G38)), (h_tape, .inl (cB, 940, .inl f_tape))] := hD
              refine W.widen (k := 0) (n := 0) (Nat.le_of_ble_eq_true rfl) (Nat.le_of_ble_eq_true rfl) ?_
              have k441 : 97 ≤ v259.toInt ∧ v259.toInt ≤ 255 := ⟨Int.le_trans (Int.le_refl _) t266, k260.2⟩
              have k442 : 97 ≤ v259.toInt ∧ v259.toInt ≤ 122 := ⟨k441.1, Int.le_trans t267 (Int.le_refl _)⟩
              refine lv_if_ne (tgt := 201) hx hb dX10_next_188 (by decide) (fun _ => ?_) (fun g => absurd g (by decide))
              have cut444 : ∀ (u443 : Int32) (_ : IR 0 1 u443) (_ : ((u443.toInt = 1 → u32.toInt = 0 → (48 ≤ v259.toInt ∧ v259.toInt ≤ 57 ∧ 0 ≤ u41.toInt ∧ u41.toInt ≤ 999 ∧ (u40.toInt = 0 → u41.toInt = 0) ∧ (u40.toInt = 1 → u41.toInt ≤ 9) ∧ (u40.toInt = 2 → u41.toInt ≤ 99))))) (H : Heap) (locs : List Loc) (ls : Array Slot), va_P D vwCl [(h0, .inr (10, vL 67 G38)), (h_tape, .inl (cB, 940, .inl f_tape))] H → va_D A [(h0, .inr (10, vL 67 G38)), (h_tape, .inl (cB, 940, .inl f_tape))] → va_S A s.heap H locs → lv_has ls 4 [(3, .int u443), (2, .int u32), (1, .int v27), (0, .ref h0)] → W p l e ({ frames := 1, cells := 0, slots := 0, locals := 20 } : Room) s m [.ref h0].toArray below meth c H locs 0 0 (MQ below (va_Qv (fun (u : va_W) => ∃ (Gh : Nat → Value) (y_p : Int32) (y_token : Int32) (y_at : Int32) (y_span : Int32) (y_number : Int32) (y_word : Int64), SAME [4, 11, 12, 13, 14, 18] Fh Gh ∧ Gh 4 = .int y_p ∧ IR 0 940 y_p ∧ Gh 11 = .int y_token ∧ IR 0 4 y_token ∧ Gh 12 = .int y_at ∧ IR 0 940 y_at ∧ Gh 13 = .int y_span ∧ IR 0 940 y_span ∧ Gh 14 = .int y_number ∧ Gh 18 = .long y_word ∧ (x_p.toInt ≤ y_p.toInt) ∧ ((1 ≤ y_token.toInt → y_token.toInt ≤ 3 → x_p.toInt < y_p.toInt)) ∧ ((y_token.toInt = 2 → 0 ≤ y_number.toInt ∧ y_number.toInt ≤ 999)) ∧ u = [(h0, .inr (10, vL 67 Gh)), (h_tape, .inl (cB, 940, .inl f_tape))]) (PO D A) A) [.ref h0].toArray s 0 0 A) (F0 m 222 ls []) := by
                intro u443 i445 i446 H locs ls hP hD hS hl
                have i445 : 0 ≤ u443.toInt ∧ u443.toInt ≤ 1 := i445
                have i446 : (u443.toInt = 1 → u32.toInt = 0 → (48 ≤ v259.toInt ∧ v259.toInt ≤ 57 ∧ 0 ≤ u41.toInt ∧ u41.toInt ≤ 999 ∧ (u40.toInt = 0 → u41.toInt = 0) ∧ (u40.toInt = 1 → u41.toInt ≤ 9) ∧ (u40.toInt = 2 → u41.toInt ≤ 99))) := i446
                have cut449 : ∀ (G447 : Nat → Value) (u448 : Int64) (_ : SAME [18] G38 G447) (_ : G447 18 = .long u448) (H : Heap) (locs : List Loc) (ls : Array Slot), va_P D vwCl [(h0, .inr (10, vL 67 G447)), (h_tape, .inl (cB, 940, .inl f_tape))] H → va_D A [(h0, .inr (10, vL 67 G447)), (h_tape, .inl (cB, 940, .inl f_tape))] → va_S A s.heap H locs → lv_has ls 4 [(3, .int u443), (2, .int u32), (1, .int v27), (0, .ref h0)] → W p l e ({ frames := 1, cells := 0, slots := 0, locals := 20 } : Room) s m [.ref h0].toArray below meth c H locs 0 0 (MQ below (va_Qv (fun (u : va_W) => ∃ (Gh : Nat → Value) (y_p : Int32) (y_token : Int32) (y_at : Int32) (y_span : Int32) (y_number : Int32) (y_word : Int64), SAME [4, 11, 12, 13, 14, 18] Fh Gh ∧ Gh 4 = .int y_p ∧ IR 0 940 y_p ∧ Gh 11 = .int y_token ∧ IR 0 4 y_token ∧ Gh 12 = .int y_at ∧ IR 0 940 y_at ∧ Gh 13 = .int y_span ∧ IR 0 940 y_span ∧ Gh 14 = .int y_number ∧ Gh 18 = .long y_word ∧ (x_p.toInt ≤ y_p.toInt) ∧ ((1 ≤ y_token.toInt → y_token.toInt ≤ 3 → x_p.toInt < y_p.toInt)) ∧ ((y_token.toInt = 2 → 0 ≤ y_number.toInt ∧ y_number.toInt ≤ 999)) ∧ u = [(h0, .inr (10, vL 67 Gh)), (h_tape, .inl (cB, 940, .inl f_tape))]) (PO D A) A) [.ref h0].toArray s 0 0 A) (F0 m 248 ls []) := by
                  intro G447 u448 i450 i451 H locs ls hP hD hS hl
                  refine lv_aload_n hx hb dX10_next_248 rfl (lv_at hl 3 rfl) ?_
                  have n452 : G447 13 = .int u40 := (SAME.at i450 (by decide) i82)
                  refine get_f (D := D) (ci := 10) (v := .int u40) (C := RX10) (T := TX10) (N := 67) hx hb hw inAX10 hown hK hP 0 rfl rfl 13 (by decide) (hw _ q_1274) (fun _ h9 => h9) n452 dX10_next_249 ?_
                  refine lv_iconst (v := 3) hx hb dX10_next_252 (by decide) ?_
                  refine lv_icmp_ge (tgt := 275) hx hb dX10_next_253 (by decide) (fun c453 => ?_) (fun c453 => ?_)
                  · have dc453 : 3 ≤ u40.toInt := le_i (a := 3) (b := u40.toInt) rfl rfl c453
                    have k454 : 3 ≤ u40.toInt ∧ u40.toInt ≤ 940 := ⟨Int.le_trans (Int.le_refl _) dc453, i86.2⟩
                    refine lv_aload_n hx hb dX10_next_275 rfl (lv_at hl 3 rfl) ?_
                    refine lv_dup hx hb dX10_next_276 rfl ?_
                    refine get_f (D := D) (ci := 10) (v := .int u40) (C := RX10) (T := TX10) (N := 67) hx hb hw inAX10 hown hK hP 0 rfl rfl 13 (by decide) (hw _ q_1274) (fun _ h9 => h9) n452 dX10_next_277 ?_
                    refine lv_iconst (v := 1) hx hb dX10_next_280 (by decide) ?_
                    refine lv_iadd hx hb dX10_next_281 ?_
                    refine lv_topi (fun v455 ev455 => ?_)
                    have bv455 : v455.toInt = u40.toInt + 1 := by rw [ev455]; exact add_k rfl rfl k454 ⟨Int.le_refl _, Int.le_refl _⟩ (by decide)
                    have k456 : 4 ≤ v455.toInt ∧ v455.toInt ≤ 941 := add_r bv455 k454 ⟨Int.le_refl _, Int.le_refl _⟩ (by decide)
                    refine put_f (D := D) (ci := 10) (v := .int v455) (ty := .int) (C := RX10) (T := TX10) (N := 67) hx hb hw inAX10 tyX10 tyX10_ok nmX10 hown hK hP hD hS 0 rfl rfl 13 (by decide) (hw _ q_1274) (fun _ h9 => h9) rfl (by decide +kernel) rfl rfl dX10_next_282 (fun H locs F457 eF457 hP hD hS => ?_)
                    have hP : va_P D vwCl [(h0, .inr (10, vL 67 F457)), (h_tape, .inl (cB, 940, .inl f_tape))] H := hP
                    have hD : va_D A [(h0, .inr (10, vL 67 F457)), (h_tape, .inl (cB, 940, .inl f_tape))] := hD
                    refine lv_aload_n hx hb dX10_next_285 rfl (lv_at hl 3 rfl) ?_
                    refine lv_dup hx hb dX10_next_286 rfl ?_
                    have n458 : G447 4 = .int u39 := (SAME.at i450 (by decide) i81)
                    have n459 : F457 4 = .int u39 := (get_ne eF457 (by decide) n458)
                    refine get_f (D := D) (ci := 10) (v := .int u39) (C := RX10) (T := TX10) (N := 67) hx hb hw inAX10 hown hK hP 0 rfl rfl 4 (by decide) (hw _ q_1265) (fun _ h9 => h9) n459 dX10_next_287 ?_
                    refine lv_iconst (v := 1) hx hb dX10_next_290 (by decide) ?_
                    refine lv_iadd hx hb dX10_next_291 ?_
                    refine lv_topi (fun v460 ev460 => ?_)
                    have bv460 : v460.toInt = u39.toInt + 1 := by rw [ev460]; exact add_k rfl rfl k261 ⟨Int.le_refl _, Int.le_refl _⟩ (by decide)
                    have k461 : 1 ≤ v460.toInt ∧ v460.toInt ≤ 940 := add_r bv460 k261 ⟨Int.le_refl _, Int.le_refl _⟩ (by decide)
                    refine put_f (D := D) (ci := 10) (v := .int v460) (ty := .int) (C := RX10) (T := TX10) (N := 67) hx hb hw inAX10 tyX10 tyX10_ok nmX10 hown hK hP hD hS 0 rfl rfl 4 (by decide) (hw _ q_1265) (fun _ h9 => h9) rfl (by decide +kernel) rfl rfl dX10_next_292 (fun H locs F462 eF462 hP hD hS => ?_)
                    have hP : va_P D vwCl [(h0, .inr (10, vL 67 F462)), (h_tape, .inl (cB, 940, .inl f_tape))] H := hP
                    have hD : va_D A [(h0, .inr (10, vL 67 F462)), (h_tape, .inl (cB, 940, .inl f_tape))] := hD
                    refine lv_goto (tgt := 181) hx hb dX10_next_295 (by decide) ?_
                    have n463 : F462 13 = .int v455 := (get_ne eF462 (by decide) (get_eq eF457))
                    have n464 : G447 14 = .int u41 := (SAME.at i450 (by decide) i83)
                    have n465 : F457 14 = .int u41 := (get_ne eF457 (by decide) n464)
                    have n466 : F462 14 = .int u41 := (get_ne eF462 (by decide) n465)
                    have n467 : F457 18 = .long u448 := (get_ne eF457 (by decide) i451)
                    have n468 : F462 18 = .long u448 := (get_ne eF462 (by decide) n467)
                    exact ih (u443, F462, v460, v455, u41, u448) ⟨i445, (SAME.up eF462 (SAME.up eF457 (SAME.tr (SAME.tr SAME.rf i80 (by decide)) i450 (by decide)) (by decide)) (by decide)), (get_eq eF462), n463, n466, n468, (ir_wk k461 (by decide) (by decide)), ⟨by omega, by omega⟩, (by show 0 ≤ v455.toInt ∧ v455.toInt ≤ v460.toInt; omega), (by show u443.toInt = 1 → u32.toInt = 0 → (0 ≤ u41.toInt ∧ u41.toInt ≤ 999 ∧ (v455.toInt = 0 → u41.toInt = 0) ∧ (v455.toInt = 1 → u41.toInt ≤ 9) ∧ (v455.toInt = 2 → u41.toInt ≤ 99)); omega), (by show (x_token.toInt = 2 → 0 ≤ u41.toInt ∧ u41.toInt ≤ 999); omega)⟩ (by show (x_size.toInt - v460.toInt).toNat < (x_size.toInt - u39.toInt).toNat; omega) _ _ _ hP hD hS (lv_sub hl [0, 1, 2, 3] rfl)
                  · have dc453 : u40.toInt < 3 := nle_i (a := 3) (b := u40.toInt) rfl rfl c453
                    have k469 : 0 ≤ u40.toInt ∧ u40.toInt ≤ 2 := ⟨i86.1, up_lt dc453 (Int.le_refl _) (by decide)⟩
                    refine lv_aload_n hx hb dX10_next_256 rfl (lv_at hl 3 rfl) ?_
                    refine lv_bipush (v := 10) hx hb dX10_next_257 (by decide) ?_
                    refine lv_aload_n hx hb dX10_next_259 rfl (lv_at hl 3 rfl) ?_
                    have n470 : G447 14 = .int u41 := (SAME.at i450 (by decide) i83)
                    refine get_f (D := D) (ci := 10) (v := .int u41) (C := RX10) (T := TX10) (N := 67) hx hb hw inAX10 hown hK hP 0 rfl rfl 14 (by decide) (hw _ q_1275) (fun _ h9 => h9) n470 dX10_next_260 ?_
                    refine lv_imul hx hb dX10_next_263 ?_
                    refine lv_topi (fun v471 ev471 => ?_)
                    refine lv_aload_n hx hb dX10_next_264 rfl (lv_at hl 3 rfl) ?_
                    have n472 : G447 1 = .ref h_tape := (SAME.at i450 (by decide) n92)
                    have n473 : G447 3 = .int x_size := (SAME.at i450 (by decide) n95)
                    have n474 : G447 4 = .int u39 := (SAME.at i450 (by decide) i81)
                    refine call_Vi (wr := []) (As := []) (rest := [.int v471, .ref h0]) hx hb hml hown hw (m_X10_peek l D cI cJ cB cP cM cZ h0 h_tape G447 x_size u39 f_tape _ n472 n473 (ir_wk k30 (by decide) (by decide)) n474 (ir_wk k261 (by decide) (by decide))) wV_X10_169_X10_peek dX10_next_265 hK hP hD hS hA [0, 1] [] rfl rfl (by decide) (by decide) (by decide) 0 10 rfl rfl GG.fb hG.at hl.1 rfl (Nat.le_of_ble_eq_true rfl) ⟨(Nat.le_of_ble_eq_true rfl), (Nat.le_of_ble_eq_true rfl)⟩ ⟨(Nat.le_of_ble_eq_true rfl), (Nat.le_of_ble_eq_true rfl)⟩ (fun r475 u H locs hp hP hD hS => ?_)
                    rcases hp with ⟨t476, rfl, rfl⟩ | ⟨t477, t478, rfl, rfl⟩
                    · have hP : va_P D vwCl [(h0, .inr (10, vL 67 G447)), (h_tape, .inl (cB, 940, .inl f_tape))] H := hP
                      have hD : va_D A [(h0, .inr (10, vL 67 G447)), (h_tape, .inl (cB, 940, .inl f_tape))] := hD
                      refine W.widen (k := 0) (n := 0) (Nat.le_of_ble_eq_true rfl) (Nat.le_of_ble_eq_true rfl) ?_
                      have k480 : 1 ≤ x_size.toInt ∧ x_size.toInt ≤ 939 := ⟨k30.1, Int.le_trans t476 k261.2⟩
                      have k481 : 1 ≤ u39.toInt ∧ u39.toInt ≤ 939 := ⟨Int.le_trans k30.1 t476, k261.2⟩
                      refine lv_iadd hx hb dX10_next_268 ?_
                      refine lv_topi (fun v482 ev482 => ?_)
                      refine lv_bipush (v := 48) hx hb dX10_next_269 (by decide) ?_
                      refine lv_isub hx hb dX10_next_271 ?_
                      refine lv_topi (fun v483 ev483 => ?_)
                      refine put_f (D := D) (ci := 10) (v := .int v483) (ty := .int) (C := RX10) (T := TX10) (N := 67) hx hb hw inAX10 tyX10 tyX10_ok nmX10 hown hK hP hD hS 0 rfl rfl 14 (by decide) (hw _ q_1275) (fun _ h9 => h9) rfl (by decide +kernel) rfl rfl dX10_next_272 (fun H locs F484 eF484 hP hD hS => ?_)
                      have hP : va_P D vwCl [(h0, .inr (10, vL 67 F484)), (h_tape, .inl (cB, 940, .inl f_tape))] H := hP
                      have hD : va_D A [(h0, .inr (10, vL 67 F484)), (h_tape, .inl (cB, 940, .inl f_tape))] := hD
                      refine lv_aload_n hx hb dX10_next_275 rfl (lv_at hl 3 rfl) ?_
                      refine lv_dup hx hb dX10_next_276 rfl ?_
                      have n485 : F484 13 = .int u40 := (get_ne eF484 (by decide) n452)
                      refine get_f (D := D) (ci := 10) (v := .int u40) (C := RX10) (T := TX10) (N := 67) hx hb hw inAX10 hown hK hP 0 rfl rfl 13 (by decide) (hw _ q_1274) (fun _ h9 => h9) n485 dX10_next_277 ?_
                      refine lv_iconst (v := 1) hx hb dX10_next_280 (by decide) ?_
                      refine lv_iadd hx hb dX10_next_281 ?_
                      refine lv_topi (fun v486 ev486 => ?_)
                      have bv486 : v486.toInt = u40.toInt + 1 := by rw [ev486]; exact add_k rfl rfl k469 ⟨Int.le_refl _, Int.le_refl _⟩ (by decide)
                      have k487 : 1 ≤ v486.toInt ∧ v486.toInt ≤ 3 := add_r bv486 k469 ⟨Int.le_refl _, Int.le_refl _⟩ (by decide)
                      refine put_f (D := D) (ci := 10) (v := .int v486) (ty := .int) (C := RX10) (T := TX10) (N := 67) hx hb hw inAX10 tyX10 tyX10_ok nmX10 hown hK hP hD hS 0 rfl rfl 13 (by decide) (hw _ q_1274) (fun _ h9 => h9) rfl (by decide +kernel) rfl rfl dX10_next_282 (fun H locs F488 eF488 hP hD hS => ?_)
                      have hP : va_P D vwCl [(h0, .inr (10, vL 67 F488)), (h_tape, .inl (cB, 940, .inl f_tape))] H := hP
                      have hD : va_D A [(h0, .inr (10, vL 67 F488)), (h_tape, .inl (cB, 940, .inl f_tape))] := hD
                      refine lv_aload_n hx hb dX10_next_285 rfl (lv_at hl 3 rfl) ?_
                      refine lv_dup hx hb dX10_next_286 rfl ?_
                      have n489 : F484 4 = .int u39 := (get_ne eF484 (by decide) n474)
                      have n490 : F488 4 = .int u39 := (get_ne eF488 (by decide) n489)
                      refine get_f (D := D) (ci := 10) (v := .int u39) (C := RX10) (T := TX10) (N := 67) hx hb hw inAX10 hown hK hP 0 rfl rfl 4 (by decide) (hw _ q_1265) (fun _ h9 => h9) n490 dX10_next_287 ?_
                      refine lv_iconst (v := 1) hx hb dX10_next_290 (by decide) ?_
                      refine lv_iadd hx hb dX10_next_291 ?_
                      refine lv_topi (fun v491 ev491 => ?_)
                      have bv491 : v491.toInt = u39.toInt + 1 := by rw [ev491]; exact add_k rfl rfl k481 ⟨Int.le_refl _, Int.le_refl _⟩ (by decide)
                      have k492 : 2 ≤ v491.toInt ∧ v491.toInt ≤ 940 := add_r bv491 k481 ⟨Int.le_refl _, Int.le_refl _⟩ (by decide)
                      refine put_f (D := D) (ci := 10) (v := .int v491) (ty := .int) (C := RX10) (T := TX10) (N := 67) hx hb hw inAX10 tyX10 tyX10_ok nmX10 hown hK hP hD hS 0 rfl rfl 4 (by decide) (hw _ q_1265) (fun _ h9 => h9) rfl (by decide +kernel) rfl rfl dX10_next_292 (fun H locs F493 eF493 hP hD hS => ?_)
                      have hP : va_P D vwCl [(h0, .inr (10, vL 67 F493)), (h_tape, .inl (cB, 940, .inl f_tape))] H := hP
                      have hD : va_D A [(h0, .inr (10, vL 67 F493)), (h_tape, .inl (cB, 940, .inl f_tape))] := hD
                      refine lv_goto (tgt := 181) hx hb dX10_next_295 (by decide) ?_
                      have n494 : F493 13 = .int v486 := (get_ne eF493 (by decide) (get_eq eF488))
                      have n495 : F488 14 = .int v483 := (get_ne eF488 (by decide) (get_eq eF484))
                      have n496 : F493 14 = .int v483 := (get_ne eF493 (by decide) n495)
                      have n497 : F484 18 = .long u448 := (get_ne eF484 (by decide) i451)
                      have n498 : F488 18 = .long u448 := (get_ne eF488 (by decide) n497)
                      have n499 : F493 18 = .long u448 := (get_ne eF493 (by decide) n498)
                      exact ih (u443, F493, v491, v486, v483, u448) ⟨i445, (SAME.up eF493 (SAME.up eF488 (SAME.up eF484 (SAME.tr (SAME.tr SAME.rf i80 (by decide)) i450 (by decide)) (by decide)) (by decide)) (by decide)), (get_eq eF493), n494, n496, n499, (ir_wk k492 (by decide) (by decide)), (ir_wk k487 (by decide) (by decide)), (by show 0 ≤ v486.toInt ∧ v486.toInt ≤ v491.toInt; omega), (by show u443.toInt = 1 → u32.toInt = 0 → (0 ≤ v483.toInt ∧ v483.toInt ≤ 999 ∧ (v486.toInt = 0 → v483.toInt = 0) ∧ (v486.toInt = 1 → v483.toInt ≤ 9) ∧ (v486.toInt = 2 → v483.toInt ≤ 99)); omega), (by show (x_token.toInt = 2 → 0 ≤ v483.toInt ∧ v483.toInt ≤ 999); omega)⟩ (by show (x_size.toInt - v491.toInt).toNat < (x_size.toInt - u39.toInt).toNat; omega) _ _ _ hP hD hS (lv_sub hl [0, 1, 2, 3] rfl)
                    · have hP : va_P D vwCl [(h0, .inr (10, vL 67 G447)), (h_tape, .inl (cB, 940, .inl f_tape))] H := hP
                      have hD : va_D A [(h0, .inr (10, vL 67 G447)), (h_tape, .inl (cB, 940, .inl f_tape))] := hD
                      refine W.widen (k := 0) (n := 0) (Nat.le_of_ble_eq_true rfl) (Nat.le_of_ble_eq_true rfl) ?_
                      refine lv_ci (y := v259) ev259.symm ?_
                      refine lv_iadd hx hb dX10_next_268 ?_
                      refine lv_topi (fun v500 ev500 => ?_)
                      refine lv_bipush (v := 48) hx hb dX10_next_269 (by decide) ?_
                      refine lv_isub hx hb dX10_next_271 ?_
                      refine lv_topi (fun v501 ev501 => ?_)
                      refine put_f (D := D) (ci := 10) (v := .int v501) (ty := .int) (C := RX10) (T := TX10) (N := 67) hx hb hw inAX10 tyX10 tyX10_ok nmX10 hown hK hP hD hS 0 rfl rfl 14 (by decide) (hw _ q_1275) (fun _ h9 => h9) rfl (by decide +kernel) rfl rfl dX10_next_272 (fun H locs F502 eF502 hP hD hS => ?_)
                      have hP : va_P D vwCl [(h0, .inr (10, vL 67 F502)), (h_tape, .inl (cB, 940, .inl f_tape))] H := hP
                      have hD : va_D A [(h0, .inr (10, vL 67 F502)), (h_tape, .inl (cB, 940, .inl f_tape))] := hD
                      refine lv_aload_n hx hb dX10_next_275 rfl (lv_at hl 3 rfl) ?_
                      refine lv_dup hx hb dX10_next_276 rfl ?_
                      have n503 : F502 13 = .int u40 := (get_ne eF502 (by decide) n452)
                      refine get_f (D := D) (ci := 10) (v := .int u40) (C := RX10) (T := TX10) (N := 67) hx hb hw inAX10 hown hK hP 0 rfl rfl 13 (by decide) (hw _ q_1274) (fun _ h9 => h9) n503 dX10_next_277 ?_
                      refine lv_iconst (v := 1) hx hb dX10_next_280 (by decide) ?_
                      refine lv_iadd hx hb dX10_next_281 ?_
                      refine lv_topi (fun v504 ev504 => ?_)
                      have bv504 : v504.toInt = u40.toInt + 1 := by rw [ev504]; exact add_k rfl rfl k469 ⟨Int.le_refl _, Int.le_refl _⟩ (by decide)
                      have k505 : 1 ≤ v504.toInt ∧ v504.toInt ≤ 3 := add_r bv504 k469 ⟨Int.le_refl _, Int.le_refl _⟩ (by decide)
                      refine put_f (D := D) (ci := 10) (v := .int v504) (ty := .int) (C := RX10) (T := TX10) (N := 67) hx hb hw inAX10 tyX10 tyX10_ok nmX10 hown hK hP hD hS 0 rfl rfl 13 (by decide) (hw _ q_1274) (fun _ h9 => h9) rfl (by decide +kernel) rfl rfl dX10_next_282 (fun H locs F506 eF506 hP hD hS => ?_)
                      have hP : va_P D vwCl [(h0, .inr (10, vL 67 F506)), (h_tape, .inl (cB, 940, .inl f_tape))] H := hP
                      have hD : va_D A [(h0, .inr (10, vL 67 F506)), (h_tape, .inl (cB, 940, .inl f_tape))] := hD
                      refine lv_aload_n hx hb dX10_next_285 rfl (lv_at hl 3 rfl) ?_
                      refine lv_dup hx hb dX10_next_286 rfl ?_
                      have n507 : F502 4 = .int u39 := (get_ne eF502 (by decide) n474)
                      have n508 : F506 4 = .int u39 := (get_ne eF506 (by decide) n507)
                      refine get_f (D := D) (ci := 10) (v := .int u39) (C := RX10) (T := TX10) (N := 67) hx hb hw inAX10 hown hK hP 0 rfl rfl 4 (by decide) (hw _ q_1265) (fun _ h9 => h9) n508 dX10_next_287 ?_
                      refine lv_iconst (v := 1) hx hb dX10_next_290 (by decide) ?_
                      refine lv_iadd hx hb dX10_next_291 ?_
                      refine lv_topi (fun v509 ev509 => ?_)
                      have bv509 : v509.toInt = u39.toInt + 1 := by rw [ev509]; exact add_k rfl rfl k261 ⟨Int.le_refl _, Int.le_refl _⟩ (by decide)
                      have k510 : 1 ≤ v509.toInt ∧ v509.toInt ≤ 940 := add_r bv509 k261 ⟨Int.le_refl _, Int.le_refl _⟩ (by decide)
                      refine put_f (D := D) (ci := 10) (v := .int v509) (ty := .int) (C := RX10) (T := TX10) (N := 67) hx hb hw inAX10 tyX10 tyX10_ok nmX10 hown hK hP hD hS 0 rfl rfl 4 (by decide) (hw _ q_1265) (fun _ h9 => h9) rfl (by decide +kernel) rfl rfl dX10_next_292 (fun H locs F511 eF511 hP hD hS => ?_)
                      have hP : va_P D vwCl [(h0, .inr (10, vL 67 F511)), (h_tape, .inl (cB, 940, .inl f_tape))] H := hP
                      have hD : va_D A [(h0, .inr (10, vL 67 F511)), (h_tape, .inl (cB, 940, .inl f_tape))] := hD
                      refine lv_goto (tgt := 181) hx hb dX10_next_295 (by decide) ?_
                      have n512 : F511 13 = .int v504 := (get_ne eF511 (by decide) (get_eq eF506))
                      have n513 : F506 14 = .int v501 := (get_ne eF506 (by decide) (get_eq eF502))
                      have n514 : F511 14 = .int v501 := (get_ne eF511 (by decide) n513)
                      have n515 : F502 18 = .long u448 := (get_ne eF502 (by decide) i451)
                      have n516 : F506 18 = .long u448 := (get_ne eF506 (by decide) n515)
                      have n517 : F511 18 = .long u448 := (get_ne eF511 (by decide) n516)
                      exact ih (u443, F511, v509, v504, v501, u448) ⟨i445, (SAME.up eF511 (SAME.up eF506 (SAME.up eF502 (SAME.tr (SAME.tr SAME.rf i80 (by decide)) i450 (by decide)) (by decide)) (by decide)) (by decide)), (get_eq eF511), n512, n514, n517, (ir_wk k510 (by decide) (by decide)), (ir_wk k505 (by decide) (by decide)), (by show 0 ≤ v504.toInt ∧ v504.toInt ≤ v509.toInt; omega), (by show u443.toInt = 1 → u32.toInt = 0 → (0 ≤ v501.toInt ∧ v501.toInt ≤ 999 ∧ (v504.toInt = 0 → v501.toInt = 0) ∧ (v504.toInt = 1 → v501.toInt ≤ 9) ∧ (v504.toInt = 2 → v501.toInt ≤ 99)); omega), (by show (x_token.toInt = 2 → 0 ≤ v501.toInt ∧ v501.toInt ≤ 999); omega)⟩ (by show (x_size.toInt - v509.toInt).toNat < (x_size.toInt - u39.toInt).toNat; omega) _ _ _ hP hD hS (lv_sub hl [0, 1, 2, 3] rfl)
                refine lv_aload_n hx hb dX10_next_222 rfl (lv_at hl 3 rfl) ?_
                refine get_f (D := D) (ci := 10) (v := .int u40) (C := RX10) (T := TX10) (N := 67) hx hb hw inAX10 hown hK hP 0 rfl rfl 13 (by decide) (hw _ q_1274) (fun _ h9 => h9) i82 dX10_next_223 ?_
                refine lv_bipush (v := 7) hx hb dX10_next_226 (by decide) ?_
                refine lv_icmp_ge (tgt := 248) hx hb dX10_next_228 (by decide) (fun c518 => ?_) (fun c518 => ?_)
                · have dc518 : 7 ≤ u40.toInt := le_i (a := 7) (b := u40.toInt) rfl rfl c518
                  have k519 : 7 ≤ u40.toInt ∧ u40.toInt ≤ 940 := ⟨Int.le_trans (Int.le_refl _) dc518, i86.2⟩
                  exact cut449 G38 u42 SAME.rf i84 _ _ _ hP hD hS (lv_sub hl [0, 1, 2, 3] rfl)
                · have dc518 : u40.toInt < 7 := nle_i (a := 7) (b := u40.toInt) rfl rfl c518
                  have k520 : 0 ≤ u40.toInt ∧ u40.toInt ≤ 6 := ⟨i86.1, up_lt dc518 (Int.le_refl _) (by decide)⟩
                  refine lv_aload_n hx hb dX10_next_231 rfl (lv_at hl 3 rfl) ?_
                  refine lv_aload_n hx hb dX10_next_232 rfl (lv_at hl 3 rfl) ?_
                  refine get_f (D := D) (ci := 10) (v := .long u42) (C := RX10) (T := TX10) (N := 67) hx hb hw inAX10 hown hK hP 0 rfl rfl 18 (by decide) (hw _ q_1279) (fun _ h9 => h9) i84 dX10_next_233 ?_
                  refine lv_bipush (v := 8) hx hb dX10_next_236 (by decide) ?_
                  obtain ⟨v521, ev521⟩ : ∃ z : Int64, (u42 : Int64) <<< ((8 : Int32).toInt64 &&& 63) = z := ⟨_, rfl⟩
                  refine lv_lshl (v := v521) hx hb dX10_next_238 ev521 ?_
                  refine lv_aload_n hx hb dX10_next_239 rfl (lv_at hl 3 rfl) ?_
                  refine call_Vi (wr := []) (As := []) (rest := [.long v521, .ref h0]) hx hb hml hown hw (m_X10_peek l D cI cJ cB cP cM cZ h0 h_tape G38 x_size u39 f_tape _ n92 n95 (ir_wk k30 (by decide) (by decide)) i81 (ir_wk k261 (by decide) (by decide))) wV_X10_169_X10_peek dX10_next_240 hK hP hD hS hA [0, 1] [] rfl rfl (by decide) (by decide) (by decide) 0 10 rfl rfl GG.fb hG.at hl.1 rfl (Nat.le_of_ble_eq_true rfl) ⟨(Nat.le_of_ble_eq_true rfl), (Nat.le_of_ble_eq_true rfl)⟩ ⟨(Nat.le_of_ble_eq_true rfl), (Nat.le_of_ble_eq_true rfl)⟩ (fun r522 u H locs hp hP hD hS => ?_)
                  rcases hp with ⟨t523, rfl, rfl⟩ | ⟨t524, t525, rfl, rfl⟩
                  · have hP : va_P D vwCl [(h0, .inr (10, vL 67 G38)), (h_tape, .inl (cB, 940, .inl f_tape))] H := hP
                    have hD : va_D A [(h0, .inr (10, vL 67 G38)), (h_tape, .inl (cB, 940, .inl f_tape))] := hD
                    refine W.widen (k := 0) (n := 0) (Nat.le_of_ble_eq_true rfl) (Nat.le_of_ble_eq_true rfl) ?_
                    have k527 : 1 ≤ x_size.toInt ∧ x_size.toInt ≤ 939 := ⟨k30.1, Int.le_trans t523 k261.2⟩
                    have k528 : 1 ≤ u39.toInt ∧ u39.toInt ≤ 939 := ⟨Int.le_trans k30.1 t523, k261.2⟩
                    obtain ⟨v529, ev529⟩ : ∃ z : Int64, ((-1) : Int32).toInt64 = z := ⟨_, rfl⟩
                    refine lv_i2l (v := v529) hx hb dX10_next_243 ev529 ?_
                    refine lv_lor hx hb dX10_next_244 ?_
                    refine lv_topl (fun v530 ev530 => ?_)
                    refine put_f (D := D) (ci := 10) (v := .long v530) (ty := .long) (C := RX10) (T := TX10) (N := 67) hx hb hw inAX10 tyX10 tyX10_ok nmX10 hown hK hP hD hS 0 rfl rfl 18 (by decide) (hw _ q_1279) (fun _ h9 => h9) rfl (by decide +kernel) rfl rfl dX10_next_245 (fun H locs F531 eF531 hP hD hS => ?_)
                    have hP : va_P D vwCl [(h0, .inr (10, vL 67 F531)), (h_tape, .inl (cB, 940, .inl f_tape))] H := hP
                    have hD : va_D A [(h0, .inr (10, vL 67 F531)), (h_tape, .inl (cB, 940, .inl f_tape))] := hD
                    exact cut449 F531 v530 (SAME.up eF531 SAME.rf (by decide)) (get_eq eF531) _ _ _ hP hD hS (lv_sub hl [0, 1, 2, 3] rfl)
                  · have hP : va_P D vwCl [(h0, .inr (10, vL 67 G38)), (h_tape, .inl (cB, 940, .inl f_tape))] H := hP
                    have hD : va_D A [(h0, .inr (10, vL 67 G38)), (h_tape, .inl (cB, 940, .inl f_tape))] := hD
                    refine W.widen (k := 0) (n := 0) (Nat.le_of_ble_eq_true rfl) (Nat.le_of_ble_eq_true rfl) ?_
                    refine lv_ci (y := v259) ev259.symm ?_
                    obtain ⟨v532, ev532⟩ : ∃ z : Int64, (v259 : Int32).toInt64 = z := ⟨_, rfl⟩
                    refine lv_i2l (v := v532) hx hb dX10_next_243 ev532 ?_
                    refine lv_lor hx hb dX10_next_244 ?_
                    refine lv_topl (fun v533 ev533 => ?_)
                    refine put_f (D := D) (ci := 10) (v := .long v533) (ty := .long) (C := RX10) (T := TX10) (N := 67) hx hb hw inAX10 tyX10 tyX10_ok nmX10 hown hK hP hD hS 0 rfl rfl 18 (by decide) (hw _ q_1279) (fun _ h9 => h9) rfl (by decide +kernel) rfl rfl dX10_next_245 (fun H locs F534 eF534 hP hD hS => ?_)
                    have hP : va_P D vwCl [(h0, .inr (10, vL 67 F534)), (h_tape, .inl (cB, 940, .inl f_tape))] H := hP
                    have hD : va_D A [(h0, .inr (10, vL 67 F534)), (h_tape, .inl (cB, 940, .inl f_tape))] := hD
                    exact cut449 F534 v533 (SAME.up eF534 SAME.rf (by decide)) (get_eq eF534) _ _ _ hP hD hS (lv_sub hl [0, 1, 2, 3] rfl)
              refine lv_iload_n hx hb dX10_next_201 rfl (lv_at hl 0 rfl) ?_
              refine lv_if_eq (tgt := 220) hx hb dX10_next_202 (by decide) (fun c535 => ?_) (fun c535 => ?_)
              · have dc535 : u37.toInt = 0 := eq_i (a := u37.toInt) (b := 0) rfl rfl c535
                have k536 : 0 ≤ u37.toInt ∧ u37.toInt ≤ 0 := ⟨i79.1, Int.le_trans (Int.le_of_eq dc535) (Int.le_refl _)⟩
                refine lv_iconst (v := 0) hx hb dX10_next_220 (by decide) ?_
                refine lv_istore_n (lv' := [(3, .int 0), (2, .int u32), (1, .int v27), (0, .ref h0)]) hx hb dX10_next_221 rfl hl (by decide) rfl (fun ls hl => ?_)
                exact cut444 0 (show 0 ≤ (0 : Int32).toInt ∧ (0 : Int32).toInt ≤ 1 by decide) (by show (0 = 1 → u32.toInt = 0 → (48 ≤ v259.toInt ∧ v259.toInt ≤ 57 ∧ 0 ≤ u41.toInt ∧ u41.toInt ≤ 999 ∧ (u40.toInt = 0 → u41.toInt = 0) ∧ (u40.toInt = 1 → u41.toInt ≤ 9) ∧ (u40.toInt = 2 → u41.toInt ≤ 99))); omega) _ _ _ hP hD hS (lv_sub hl [0, 1, 2, 3] rfl)
              · have dc535 : u37.toInt ≠ 0 := ne_i (a := u37.toInt) (b := 0) rfl rfl c535
                have k537 : 1 ≤ u37.toInt ∧ u37.toInt ≤ 1 := ⟨ne_lo dc535 i79.1 ⟨Int.le_refl _, Int.le_refl _⟩ (by decide), i79.2⟩
                refine lv_aload_n hx hb dX10_next_205 rfl (lv_at hl 3 rfl) ?_
                refine call_Vi (wr := []) (As := []) (rest := []) hx hb hml hown hw (m_X10_peek l D cI cJ cB cP cM cZ h0 h_tape G38 x_size u39 f_tape _ n92 n95 (ir_wk k30 (by decide) (by decide)) i81 (ir_wk k261 (by decide) (by decide))) wV_X10_169_X10_peek dX10_next_206 hK hP hD hS hA [0, 1] [] rfl rfl (by decide) (by decide) (by decide) 0 10 rfl rfl GG.fb hG.at hl.1 rfl (Nat.le_of_ble_eq_true rfl) ⟨(Nat.le_of_ble_eq_true rfl), (Nat.le_of_ble_eq_true rfl)⟩ ⟨(Nat.le_of_ble_eq_true rfl), (Nat.le_of_ble_eq_true rfl)⟩ (fun r538 u H locs hp hP hD hS => ?_)
                rcases hp with ⟨t539, rfl, rfl⟩ | ⟨t540, t541, rfl, rfl⟩
                · have hP : va_P D vwCl [(h0, .inr (10, vL 67 G38)), (h_tape, .inl (cB, 940, .inl f_tape))] H := hP
                  have hD : va_D A [(h0, .inr (10, vL 67 G38)), (h_tape, .inl (cB, 940, .inl f_tape))] := hD
                  refine W.widen (k := 0) (n := 0) (Nat.le_of_ble_eq_true rfl) (Nat.le_of_ble_eq_true rfl) ?_
                  have k543 : 1 ≤ x_size.toInt ∧ x_size.toInt ≤ 939 := ⟨k30.1, Int.le_trans t539 k261.2⟩
                  have k544 : 1 ≤ u39.toInt ∧ u39.toInt ≤ 939 := ⟨Int.le_trans k30.1 t539, k261.2⟩
                  refine call_Si (wr := [(h0, .inr (10, vL 67 G38)), (h_tape, .inl (cB, 940, .inl f_tape))]) (As := [.int (-1)]) (rest := []) hx hb hml hown hw (m_X10_isSmall l D cI cJ cB cP cM cZ (-1) _ ) wS_X10_182_X10_isSmall dX10_next_209 hP hD hS hA [] [0, 1] rfl rfl (by decide) (by decide) (by decide) GG.fb hG.at hl.1 rfl (Nat.le_of_ble_eq_true rfl) ⟨(Nat.le_of_ble_eq_true rfl), (Nat.le_of_ble_eq_true rfl)⟩ ⟨(Nat.le_of_ble_eq_true rfl), (Nat.le_of_ble_eq_true rfl)⟩ (fun r545 u H locs hp hP hD hS => ?_)
                  rcases hp with ⟨t546, rfl, rfl⟩ | ⟨t547, t548, rfl, rfl⟩ | ⟨t549, t550, rfl, rfl⟩
                  · have hP : va_P D vwCl [(h0, .inr (10, vL 67 G38)), (h_tape, .inl (cB, 940, .inl f_tape))] H := hP
                    have hD : va_D A [(h0, .inr (10, vL 67 G38)), (h_tape, .inl (cB, 940, .inl f_tape))] := hD
                    refine W.widen (k := 0) (n := 0) (Nat.le_of_ble_eq_true rfl) (Nat.le_of_ble_eq_true rfl) ?_
                    refine lv_iload_n hx hb dX10_next_212 rfl (lv_at hl 1 rfl) ?_
                    refine lv_icmp_ne (tgt := 220) hx hb dX10_next_213 (by decide) (fun c552 => ?_) (fun c552 => ?_)
                    · have dc552 : 0 ≠ u32.toInt := ne_i (a := 0) (b := u32.toInt) rfl rfl c552
                      have k553 : 1 ≤ u32.toInt ∧ u32.toInt ≤ 1 := ⟨ne_lo dc552.symm i34.1 ⟨Int.le_refl _, Int.le_refl _⟩ (by decide), i34.2⟩
                      refine lv_iconst (v := 0) hx hb dX10_next_220 (by decide) ?_
                      refine lv_istore_n (lv' := [(3, .int 0), (2, .int u32), (1, .int v27), (0, .ref h0)]) hx hb dX10_next_221 rfl hl (by decide) rfl (fun ls hl => ?_)
                      exact cut444 0 (show 0 ≤ (0 : Int32).toInt ∧ (0 : Int32).toInt ≤ 1 by decide) (by show (0 = 1 → u32.toInt = 0 → (48 ≤ v259.toInt ∧ v259.toInt ≤ 57 ∧ 0 ≤ u41.toInt ∧ u41.toInt ≤ 999 ∧ (u40.toInt = 0 → u41.toInt = 0) ∧ (u40.toInt = 1 → u41.toInt ≤ 9) ∧ (u40.toInt = 2 → u41.toInt ≤ 99))); omega) _ _ _ hP hD hS (lv_sub hl [0, 1, 2, 3] rfl)
                    · have dc552 : 0 = u32.toInt := eq_i (a := 0) (b := u32.toInt) rfl rfl c552
                      have k554 : 0 ≤ u32.toInt ∧ u32.toInt ≤ 0 := ⟨i34.1, Int.le_trans (Int.le_of_eq dc552.symm) (Int.le_refl _)⟩
                      refine lv_iconst (v := 1) hx hb dX10_next_216 (by decide) ?_
                      refine lv_goto (tgt := 221) hx hb dX10_next_217 (by decide) ?_
                      refine lv_istore_n (lv' := [(3, .int 1), (2, .int u32), (1, .int v27), (0, .ref h0)]) hx hb dX10_next_221 rfl hl (by decide) rfl (fun ls hl => ?_)
                      exact cut444 1 (show 0 ≤ (1 : Int32).toInt ∧ (1 : Int32).toInt ≤ 1 by decide) (by show (1 = 1 → u32.toInt = 0 → (48 ≤ v259.toInt ∧ v259.toInt ≤ 57 ∧ 0 ≤ u41.toInt ∧ u41.toInt ≤ 999 ∧ (u40.toInt = 0 → u41.toInt = 0) ∧ (u40.toInt = 1 → u41.toInt ≤ 9) ∧ (u40.toInt = 2 → u41.toInt ≤ 99))); omega) _ _ _ hP hD hS (lv_sub hl [0, 1, 2, 3] rfl)
                  · have hP : va_P D vwCl [(h0, .inr (10, vL 67 G38)), (h_tape, .inl (cB, 940, .inl f_tape))] H := hP
                    have hD : va_D A [(h0, .inr (10, vL 67 G38)), (h_tape, .inl (cB, 940, .inl f_tape))] := hD
                    refine W.widen (k := 0) (n := 0) (Nat.le_of_ble_eq_true rfl) (Nat.le_of_ble_eq_true rfl) ?_
                    exact absurd t547 (by decide)
                  · have hP : va_P D vwCl [(h0, .inr (10, vL 67 G38)), (h_tape, .inl (cB, 940, .inl f_tape))] H := hP
                    have hD : va_D A [(h0, .inr (10, vL 67 G38)), (h_tape, .inl (cB, 940, .inl f_tape))] := hD
                    refine W.widen (k := 0) (n := 0) (Nat.le_of_ble_eq_true rfl) (Nat.le_of_ble_eq_true rfl) ?_
                    exact absurd t549 (by decide)
                · have hP : va_P D vwCl [(h0, .inr (10, vL 67 G38)), (h_tape, .inl (cB, 940, .inl f_tape))] H := hP
                  have hD : va_D A [(h0, .inr (10, vL 67 G38)), (h_tape, .inl (cB, 940, .inl f_tape))] := hD
                  refine W.widen (k := 0) (n := 0) (Nat.le_of_ble_eq_true rfl) (Nat.le_of_ble_eq_true rfl) ?_
                  refine lv_ci (y := v259) ev259.symm ?_
                  refine call_Si (wr := [(h0, .inr (10, vL 67 G38)), (h_tape, .inl (cB, 940, .inl f_tape))]) (As := [.int v259]) (rest := []) hx hb hml hown hw (m_X10_isSmall l D cI cJ cB cP cM cZ v259 _ ) wS_X10_182_X10_isSmall dX10_next_209 hP hD hS hA [] [0, 1] rfl rfl (by decide) (by decide) (by decide) GG.fb hG.at hl.1 rfl (Nat.le_of_ble_eq_true rfl) ⟨(Nat.le_of_ble_eq_true rfl), (Nat.le_of_ble_eq_true rfl)⟩ ⟨(Nat.le_of_ble_eq_true rfl), (Nat.le_of_ble_eq_true rfl)⟩ (fun r555 u H locs hp hP hD hS => ?_)
                  rcases hp with ⟨t556, rfl, rfl⟩ | ⟨t557, t558, rfl, rfl⟩ | ⟨t559, t560, rfl, rfl⟩
                  · have hP : va_P D vwCl [(h0, .inr (10, vL 67 G38)), (h_tape, .inl (cB, 940, .inl f_tape))] H := hP
                    have hD : va_D A [(h0, .inr (10, vL 67 G38)), (h_tape, .inl (cB, 940, .inl f_tape))] := hD
                    refine W.widen (k := 0) (n := 0) (Nat.le_of_ble_eq_true rfl) (Nat.le_of_ble_eq_true rfl) ?_
                    exact False.elim (bad_lt t556 k442.1 (Int.le_refl _) (by decide))
                  · have hP : va_P D vwCl [(h0, .inr (10, vL 67 G38)), (h_tape, .inl (cB, 940, .inl f_tape))] H := hP
                    have hD : va_D A [(h0, .inr (10, vL 67 G38)), (h_tape, .inl (cB, 940, .inl f_tape))] := hD
                    refine W.widen (k := 0) (n := 0) (Nat.le_of_ble_eq_true rfl) (Nat.le_of_ble_eq_true rfl) ?_
                    exact False.elim (bad_lt t558 (Int.le_refl _) k442.2 (by decide))
                  · have hP : va_P D vwCl [(h0, .inr (10, vL 67 G38)), (h_tape, .inl (cB, 940, .inl f_tape))] H := hP
                    have hD : va_D A [(h0, .inr (10, vL 67 G38)), (h_tape, .inl (cB, 940, .inl f_tape))] := hD
                    refine W.widen (k := 0) (n := 0) (Nat.le_of_ble_eq_true rfl) (Nat.le_of_ble_eq_true rfl) ?_
                    refine lv_iload_n hx hb dX10_next_212 rfl (lv_at hl 1 rfl) ?_
                    refine lv_icmp_ne (tgt := 220) hx hb dX10_next_213 (by decide) (fun c562 => ?_) (fun c562 => ?_)
                    · have dc562 : 1 ≠ u32.toInt := ne_i (a := 1) (b := u32.toInt) rfl rfl c562
                      have k563 : 0 ≤ u32.toInt ∧ u32.toInt ≤ 0 := ⟨i34.1, ne_hi dc562.symm i34.2 ⟨Int.le_refl _, Int.le_refl _⟩ (by decide)⟩
                      refine lv_iconst (v := 0) hx hb dX10_next_220 (by decide) ?_
                      refine lv_istore_n (lv' := [(3, .int 0), (2, .int u32), (1, .int v27), (0, .ref h0)]) hx hb dX10_next_221 rfl hl (by decide) rfl (fun ls hl => ?_)
                      exact cut444 0 (show 0 ≤ (0 : Int32).toInt ∧ (0 : Int32).toInt ≤ 1 by decide) (by show (0 = 1 → u32.toInt = 0 → (48 ≤ v259.toInt ∧ v259.toInt ≤ 57 ∧ 0 ≤ u41.toInt ∧ u41.toInt ≤ 999 ∧ (u40.toInt = 0 → u41.toInt = 0) ∧ (u40.toInt = 1 → u41.toInt ≤ 9) ∧ (u40.toInt = 2 → u41.toInt ≤ 99))); omega) _ _ _ hP hD hS (lv_sub hl [0, 1, 2, 3] rfl)
                    · have dc562 : 1 = u32.toInt := eq_i (a := 1) (b := u32.toInt) rfl rfl c562
                      have k564 : 1 ≤ u32.toInt ∧ u32.toInt ≤ 1 := ⟨Int.le_trans (Int.le_refl _) (Int.le_of_eq dc562.symm.symm), i34.2⟩
                      refine lv_iconst (v := 1) hx hb dX10_next_216 (by decide) ?_
                      refine lv_goto (tgt := 221) hx hb dX10_next_217 (by decide) ?_
                      refine lv_istore_n (lv' := [(3, .int 1), (2, .int u32), (1, .int v27), (0, .ref h0)]) hx hb dX10_next_221 rfl hl (by decide) rfl (fun ls hl => ?_)
                      exact cut444 1 (show 0 ≤ (1 : Int32).toInt ∧ (1 : Int32).toInt ≤ 1 by decide) (by show (1 = 1 → u32.toInt = 0 → (48 ≤ v259.toInt ∧ v259.toInt ≤ 57 ∧ 0 ≤ u41.toInt ∧ u41.toInt ≤ 999 ∧ (u40.toInt = 0 → u41.toInt = 0) ∧ (u40.toInt = 1 → u41.toInt ≤ 9) ∧ (u40.toInt = 2 → u41.toInt ≤ 99))); omega) _ _ _ hP hD hS (lv_sub hl [0, 1, 2, 3] rfl)
        refine lv_iload_n hx hb dX10_next_95 rfl (lv_at hl 0 rfl) ?_
        refine call_Si (wr := [(h0, .inr (10, vL 67 F8)), (h_tape, .inl (cB, 940, .inl f_tape))]) (As := [.int v27]) (rest := []) hx hb hml hown hw (m_X10_isSmall l D cI cJ cB cP cM cZ v27 _ ) wS_X10_182_X10_isSmall dX10_next_96 hP hD hS hA [] [0, 1] rfl rfl (by decide) (by decide) (by decide) GG.fb hG.at hl.1 rfl (Nat.le_of_ble_eq_true rfl) ⟨(Nat.le_of_ble_eq_true rfl), (Nat.le_of_ble_eq_true rfl)⟩ ⟨(Nat.le_of_ble_eq_true rfl), (Nat.le_of_ble_eq_true rfl)⟩ (fun r565 u H locs hp hP hD hS => ?_)
        rcases hp with ⟨t566, rfl, rfl⟩ | ⟨t567, t568, rfl, rfl⟩ | ⟨t569, t570, rfl, rfl⟩
        · have hP : va_P D vwCl [(h0, .inr (10, vL 67 F8)), (h_tape, .inl (cB, 940, .inl f_tape))] H := hP
          have hD : va_D A [(h0, .inr (10, vL 67 F8)), (h_tape, .inl (cB, 940, .inl f_tape))] := hD
          refine W.widen (k := 0) (n := 0) (Nat.le_of_ble_eq_true rfl) (Nat.le_of_ble_eq_true rfl) ?_
          have k572 : 0 ≤ v27.toInt ∧ v27.toInt ≤ 96 := ⟨k28.1, up_lt t566 (Int.le_refl _) (by decide)⟩
          refine lv_if_ne (tgt := 164) hx hb dX10_next_99 (by decide) (fun g => absurd (by decide) g) (fun _ => ?_)
          refine lv_iload_n hx hb dX10_next_102 rfl (lv_at hl 0 rfl) ?_
          refine call_Si (wr := [(h0, .inr (10, vL 67 F8)), (h_tape, .inl (cB, 940, .inl f_tape))]) (As := [.int v27]) (rest := []) hx hb hml hown hw (m_X10_isDigit l D cI cJ cB cP cM cZ v27 _ ) wS_X10_186_X10_isDigit dX10_next_103 hP hD hS hA [] [0, 1] rfl rfl (by decide) (by decide) (by decide) GG.fb hG.at hl.1 rfl (Nat.le_of_ble_eq_true rfl) ⟨(Nat.le_of_ble_eq_true rfl), (Nat.le_of_ble_eq_true rfl)⟩ ⟨(Nat.le_of_ble_eq_true rfl), (Nat.le_of_ble_eq_true rfl)⟩ (fun r573 u H locs hp hP hD hS => ?_)
          rcases hp with ⟨t574, rfl, rfl⟩ | ⟨t575, t576, rfl, rfl⟩ | ⟨t577, t578, rfl, rfl⟩
          · have hP : va_P D vwCl [(h0, .inr (10, vL 67 F8)), (h_tape, .inl (cB, 940, .inl f_tape))] H := hP
            have hD : va_D A [(h0, .inr (10, vL 67 F8)), (h_tape, .inl (cB, 940, .inl f_tape))] := hD
            refine W.widen (k := 0) (n := 0) (Nat.le_of_ble_eq_true rfl) (Nat.le_of_ble_eq_true rfl) ?_
            have k580 : 0 ≤ v27.toInt ∧ v27.toInt ≤ 47 := ⟨k572.1, up_lt t574 (Int.le_refl _) (by decide)⟩
            refine lv_if_ne (tgt := 164) hx hb dX10_next_106 (by decide) (fun g => absurd (by decide) g) (fun _ => ?_)
            refine lv_aload_n hx hb dX10_next_109 rfl (lv_at hl 1 rfl) ?_
            refine lv_iload_n hx hb dX10_next_110 rfl (lv_at hl 0 rfl) ?_
            refine lv_bipush (v := 59) hx hb dX10_next_111 (by decide) ?_
            refine lv_icmp_eq (tgt := 140) hx hb dX10_next_113 (by decide) (fun c581 => False.elim (bad_le (Int.le_of_eq (eq_i (a := v27.toInt) (b := 59) rfl rfl c581).symm) (Int.le_refl _) k580.2 (by decide))) (fun c581 => ?_)
            have dc581 : v27.toInt ≠ 59 := ne_i (a := v27.toInt) (b := 59) rfl rfl c581
            refine lv_iload_n hx hb dX10_next_116 rfl (lv_at hl 0 rfl) ?_
            refine lv_bipush (v := 40) hx hb dX10_next_117 (by decide) ?_
            refine lv_icmp_eq (tgt := 140) hx hb dX10_next_119 (by decide) (fun c582 => ?_) (fun c582 => ?_)
            · have dc582 : v27.toInt = 40 := eq_i (a := v27.toInt) (b := 40) rfl rfl c582
              have k583 : 40 ≤ v27.toInt ∧ v27.toInt ≤ 40 := ⟨Int.le_trans (Int.le_refl _) (Int.le_of_eq dc582.symm), Int.le_trans (Int.le_of_eq dc582) (Int.le_refl _)⟩
              refine lv_iconst (v := 3) hx hb dX10_next_140 (by decide) ?_
              refine lv_goto (tgt := 145) hx hb dX10_next_141 (by decide) ?_
              refine put_f (D := D) (ci := 10) (v := .int 3) (ty := .int) (C := RX10) (T := TX10) (N := 67) hx hb hw inAX10 tyX10 tyX10_ok nmX10 hown hK hP hD hS 0 rfl rfl 11 (by decide) (hw _ q_1272) (fun _ h9 => h9) rfl (by decide +kernel) rfl rfl dX10_next_145 (fun H locs F584 eF584 hP hD hS => ?_)
              have hP : va_P D vwCl [(h0, .inr (10, vL 67 F584)), (h_tape, .inl (cB, 940, .inl f_tape))] H := hP
              have hD : va_D A [(h0, .inr (10, vL 67 F584)), (h_tape, .inl (cB, 940, .inl f_tape))] := hD
              refine lv_aload_n hx hb dX10_next_148 rfl (lv_at hl 1 rfl) ?_
              refine lv_iload_n hx hb dX10_next_149 rfl (lv_at hl 0 rfl) ?_
              refine put_f (D := D) (ci := 10) (v := .int v27) (ty := .int) (C := RX10) (T := TX10) (N := 67) hx hb hw inAX10 tyX10 tyX10_ok nmX10 hown hK hP hD hS 0 rfl rfl 14 (by decide) (hw _ q_1275) (fun _ h9 => h9) rfl (by decide +kernel) rfl rfl dX10_next_150 (fun H locs F585 eF585 hP hD hS => ?_)
              have hP : va_P D vwCl [(h0, .inr (10, vL 67 F585)), (h_tape, .inl (cB, 940, .inl f_tape))] H := hP
              have hD : va_D A [(h0, .inr (10, vL 67 F585)), (h_tape, .inl (cB, 940, .inl f_tape))] := hD
              refine lv_aload_n hx hb dX10_next_153 rfl (lv_at hl 1 rfl) ?_
              refine lv_dup hx hb dX10_next_154 rfl ?_
              have n586 : F584 4 = .int u2 := (get_ne eF584 (by decide) n20)
              have n587 : F585 4 = .int u2 := (get_ne eF585 (by decide) n586)
              refine get_f (D := D) (ci := 10) (v := .int u2) (C := RX10) (T := TX10) (N := 67) hx hb hw inAX10 hown hK hP 0 rfl rfl 4 (by decide) (hw _ q_1265) (fun _ h9 => h9) n587 dX10_next_155 ?_
              refine lv_iconst (v := 1) hx hb dX10_next_158 (by decide) ?_
              refine lv_iadd hx hb dX10_next_159 ?_
              refine lv_topi (fun v588 ev588 => ?_)
              have bv588 : v588.toInt = u2.toInt + 1 := by rw [ev588]; exact add_k rfl rfl k29 ⟨Int.le_refl _, Int.le_refl _⟩ (by decide)
              have k589 : 1 ≤ v588.toInt ∧ v588.toInt ≤ 940 := add_r bv588 k29 ⟨Int.le_refl _, Int.le_refl _⟩ (by decide)
              refine put_f (D := D) (ci := 10) (v := .int v588) (ty := .int) (C := RX10) (T := TX10) (N := 67) hx hb hw inAX10 tyX10 tyX10_ok nmX10 hown hK hP hD hS 0 rfl rfl 4 (by decide) (hw _ q_1265) (fun _ h9 => h9) rfl (by decide +kernel) rfl rfl dX10_next_160 (fun H locs F590 eF590 hP hD hS => ?_)
              have hP : va_P D vwCl [(h0, .inr (10, vL 67 F590)), (h_tape, .inl (cB, 940, .inl f_tape))] H := hP
              have hD : va_D A [(h0, .inr (10, vL 67 F590)), (h_tape, .inl (cB, 940, .inl f_tape))] := hD
              exact ret_v hx hb hr hlocks hS hP hD dX10_next_163 (Nat.le_of_ble_eq_true rfl) (Nat.le_of_ble_eq_true rfl) ⟨F590, v588, 3, u2, 0, v27, x_word, (SAME.up eF590 (SAME.up eF585 (SAME.up eF584 (SAME.up eF8 (SAME.up eF7 (SAME.tr SAME.rf i4 (by decide)) (by decide)) (by decide)) (by decide)) (by decide)) (by decide)), (get_eq eF590), (ir_wk k589 (by decide) (by decide)), (get_ne eF590 (by decide) (get_ne eF585 (by decide) (get_eq eF584))), (show 0 ≤ (3 : Int32).toInt ∧ (3 : Int32).toInt ≤ 4 by decide), (get_ne eF590 (by decide) (get_ne eF585 (by decide) (get_ne eF584 (by decide) (get_ne eF8 (by decide) (get_eq eF7))))), (ir_wk k29 (by decide) (by decide)), (get_ne eF590 (by decide) (get_ne eF585 (by decide) (get_ne eF584 (by decide) (get_eq eF8)))), (show 0 ≤ (0 : Int32).toInt ∧ (0 : Int32).toInt ≤ 940 by decide), (get_ne eF590 (by decide) (get_eq eF585)), (get_ne eF590 (by decide) (get_ne eF585 (by decide) (get_ne eF584 (by decide) (get_ne eF8 (by decide) (get_ne eF7 (by decide) (SAME.at i4 (by decide) e_word)))))), (by omega), (by omega), (by omega), rfl⟩
            · have dc582 : v27.toInt ≠ 40 := ne_i (a := v27.toInt) (b := 40) rfl rfl c582
              refine lv_iload_n hx hb dX10_next_122 rfl (lv_at hl 0 rfl) ?_
              refine lv_bipush (v := 41) hx hb dX10_next_123 (by decide) ?_
              refine lv_icmp_eq (tgt := 140) hx hb dX10_next_125 (by decide) (fun c591 => ?_) (fun c591 => ?_)
              · have dc591 : v27.toInt = 41 := eq_i (a := v27.toInt) (b := 41) rfl rfl c591
                have k592 : 41 ≤ v27.toInt ∧ v27.toInt ≤ 41 := ⟨Int.le_trans (Int.le_refl _) (Int.le_of_eq dc591.symm), Int.le_trans (Int.le_of_eq dc591) (Int.le_refl _)⟩
                refine lv_iconst (v := 3) hx hb dX10_next_140 (by decide) ?_
                refine lv_goto (tgt := 145) hx hb dX10_next_141 (by decide) ?_
                refine put_f (D := D) (ci := 10) (v := .int 3) (ty := .int) (C := RX10) (T := TX10) (N := 67) hx hb hw inAX10 tyX10 tyX10_ok nmX10 hown hK hP hD hS 0 rfl rfl 11 (by decide) (hw _ q_1272) (fun _ h9 => h9) rfl (by decide +kernel) rfl rfl dX10_next_145 (fun H locs F593 eF593 hP hD hS => ?_)
                have hP : va_P D vwCl [(h0, .inr (10, vL 67 F593)), (h_tape, .inl (cB, 940, .inl f_tape))] H := hP
                have hD : va_D A [(h0, .inr (10, vL 67 F593)), (h_tape, .inl (cB, 940, .inl f_tape))] := hD
                refine lv_aload_n hx hb dX10_next_148 rfl (lv_at hl 1 rfl) ?_
                refine lv_iload_n hx hb dX10_next_149 rfl (lv_at hl 0 rfl) ?_
                refine put_f (D := D) (ci := 10) (v := .int v27) (ty := .int) (C := RX10) (T := TX10) (N := 67) hx hb hw inAX10 tyX10 tyX10_ok nmX10 hown hK hP hD hS 0 rfl rfl 14 (by decide) (hw _ q_1275) (fun _ h9 => h9) rfl (by decide +kernel) rfl rfl dX10_next_150 (fun H locs F594 eF594 hP hD hS => ?_)
                have hP : va_P D vwCl [(h0, .inr (10, vL 67 F594)), (h_tape, .inl (cB, 940, .inl f_tape))] H := hP
                have hD : va_D A [(h0, .inr (10, vL 67 F594)), (h_tape, .inl (cB, 940, .inl f_tape))] := hD
                refine lv_aload_n hx hb dX10_next_153 rfl (lv_at hl 1 rfl) ?_
                refine lv_dup hx hb dX10_next_154 rfl ?_
                have n595 : F593 4 = .int u2 := (get_ne eF593 (by decide) n20)
                have n596 : F594 4 = .int u2 := (get_ne eF594 (by decide) n595)
                refine get_f (D := D) (ci := 10) (v := .int u2) (C := RX10) (T := TX10) (N := 67) hx hb hw inAX10 hown hK hP 0 rfl rfl 4 (by decide) (hw _ q_1265) (fun _ h9 => h9) n596 dX10_next_155 ?_
                refine lv_iconst (v := 1) hx hb dX10_next_158 (by decide) ?_
                refine lv_iadd hx hb dX10_next_159 ?_
                refine lv_topi (fun v597 ev597 => ?_)
                have bv597 : v597.toInt = u2.toInt + 1 := by rw [ev597]; exact add_k rfl rfl k29 ⟨Int.le_refl _, Int.le_refl _⟩ (by decide)
                have k598 : 1 ≤ v597.toInt ∧ v597.toInt ≤ 940 := add_r bv597 k29 ⟨Int.le_refl _, Int.le_refl _⟩ (by decide)
                refine put_f (D := D) (ci := 10) (v := .int v597) (ty := .int) (C := RX10) (T := TX10) (N := 67) hx hb hw inAX10 tyX10 tyX10_ok nmX10 hown hK hP hD hS 0 rfl rfl 4 (by decide) (hw _ q_1265) (fun _ h9 => h9) rfl (by decide +kernel) rfl rfl dX10_next_160 (fun H locs F599 eF599 hP hD hS => ?_)
                have hP : va_P D vwCl [(h0, .inr (10, vL 67 F599)), (h_tape, .inl (cB, 940, .inl f_tape))] H := hP
                have hD : va_D A [(h0, .inr (10, vL 67 F599)), (h_tape, .inl (cB, 940, .inl f_tape))] := hD
                exact ret_v hx hb hr hlocks hS hP hD dX10_next_163 (Nat.le_of_ble_eq_true rfl) (Nat.le_of_ble_eq_true rfl) ⟨F599, v597, 3, u2, 0, v27, x_word, (SAME.up eF599 (SAME.up eF594 (SAME.up eF593 (SAME.up eF8 (SAME.up eF7 (SAME.tr SAME.rf i4 (by decide)) (by decide)) (by decide)) (by decide)) (by decide)) (by decide)), (get_eq eF599), (ir_wk k598 (by decide) (by decide)), (get_ne eF599 (by decide) (get_ne eF594 (by decide) (get_eq eF593))), (show 0 ≤ (3 : Int32).toInt ∧ (3 : Int32).toInt ≤ 4 by decide), (get_ne eF599 (by decide) (get_ne eF594 (by decide) (get_ne eF593 (by decide) (get_ne eF8 (by decide) (get_eq eF7))))), (ir_wk k29 (by decide) (by decide)), (get_ne eF599 (by decide) (get_ne eF594 (by decide) (get_ne eF593 (by decide) (get_eq eF8)))), (show 0 ≤ (0 : Int32).toInt ∧ (0 : Int32).toInt ≤ 940 by decide), (get_ne eF599 (by decide) (get_eq eF594)), (get_ne eF599 (by decide) (get_ne eF594 (by decide) (get_ne eF593 (by decide) (get_ne eF8 (by decide) (get_ne eF7 (by decide) (SAME.at i4 (by decide) e_word)))))), (by omega), (by omega), (by omega), rfl⟩
              · have dc591 : v27.toInt ≠ 41 := ne_i (a := v27.toInt) (b := 41) rfl rfl c591
                refine lv_iload_n hx hb dX10_next_128 rfl (lv_at hl 0 rfl) ?_
                refine lv_bipush (v := 60) hx hb dX10_next_129 (by decide) ?_
                refine lv_icmp_lt (tgt := 144) hx hb dX10_next_131 (by decide) (fun c600 => ?_) (fun c600 => False.elim (bad_le (nlt_i (a := v27.toInt) (b := 60) rfl rfl c600) (Int.le_refl _) k580.2 (by decide)))
                have dc600 : v27.toInt < 60 := lt_i (a := v27.toInt) (b := 60) rfl rfl c600
                refine lv_iconst (v := 4) hx hb dX10_next_144 (by decide) ?_
                refine put_f (D := D) (ci := 10) (v := .int 4) (ty := .int) (C := RX10) (T := TX10) (N := 67) hx hb hw inAX10 tyX10 tyX10_ok nmX10 hown hK hP hD hS 0 rfl rfl 11 (by decide) (hw _ q_1272) (fun _ h9 => h9) rfl (by decide +kernel) rfl rfl dX10_next_145 (fun H locs F601 eF601 hP hD hS => ?_)
                have hP : va_P D vwCl [(h0, .inr (10, vL 67 F601)), (h_tape, .inl (cB, 940, .inl f_tape))] H := hP
                have hD : va_D A [(h0, .inr (10, vL 67 F601)), (h_tape, .inl (cB, 940, .inl f_tape))] := hD
                refine lv_aload_n hx hb dX10_next_148 rfl (lv_at hl 1 rfl) ?_
                refine lv_iload_n hx hb dX10_next_149 rfl (lv_at hl 0 rfl) ?_
                refine put_f (D := D) (ci := 10) (v := .int v27) (ty := .int) (C := RX10) (T := TX10) (N := 67) hx hb hw inAX10 tyX10 tyX10_ok nmX10 hown hK hP hD hS 0 rfl rfl 14 (by decide) (hw _ q_1275) (fun _ h9 => h9) rfl (by decide +kernel) rfl rfl dX10_next_150 (fun H locs F602 eF602 hP hD hS => ?_)
                have hP : va_P D vwCl [(h0, .inr (10, vL 67 F602)), (h_tape, .inl (cB, 940, .inl f_tape))] H := hP
                have hD : va_D A [(h0, .inr (10, vL 67 F602)), (h_tape, .inl (cB, 940, .inl f_tape))] := hD
                refine lv_aload_n hx hb dX10_next_153 rfl (lv_at hl 1 rfl) ?_
                refine lv_dup hx hb dX10_next_154 rfl ?_
                have n603 : F601 4 = .int u2 := (get_ne eF601 (by decide) n20)
                have n604 : F602 4 = .int u2 := (get_ne eF602 (by decide) n603)
                refine get_f (D := D) (ci := 10) (v := .int u2) (C := RX10) (T := TX10) (N := 67) hx hb hw inAX10 hown hK hP 0 rfl rfl 4 (by decide) (hw _ q_1265) (fun _ h9 => h9) n604 dX10_next_155 ?_
                refine lv_iconst (v := 1) hx hb dX10_next_158 (by decide) ?_
                refine lv_iadd hx hb dX10_next_159 ?_
                refine lv_topi (fun v605 ev605 => ?_)
                have bv605 : v605.toInt = u2.toInt + 1 := by rw [ev605]; exact add_k rfl rfl k29 ⟨Int.le_refl _, Int.le_refl _⟩ (by decide)
                have k606 : 1 ≤ v605.toInt ∧ v605.toInt ≤ 940 := add_r bv605 k29 ⟨Int.le_refl _, Int.le_refl _⟩ (by decide)
                refine put_f (D := D) (ci := 10) (v := .int v605) (ty := .int) (C := RX10) (T := TX10) (N := 67) hx hb hw inAX10 tyX10 tyX10_ok nmX10 hown hK hP hD hS 0 rfl rfl 4 (by decide) (hw _ q_1265) (fun _ h9 => h9) rfl (by decide +kernel) rfl rfl dX10_next_160 (fun H locs F607 eF607 hP hD hS => ?_)
                have hP : va_P D vwCl [(h0, .inr (10, vL 67 F607)), (h_tape, .inl (cB, 940, .inl f_tape))] H := hP
                have hD : va_D A [(h0, .inr (10, vL 67 F607)), (h_tape, .inl (cB, 940, .inl f_tape))] := hD
                exact ret_v hx hb hr hlocks hS hP hD dX10_next_163 (Nat.le_of_ble_eq_true rfl) (Nat.le_of_ble_eq_true rfl) ⟨F607, v605, 4, u2, 0, v27, x_word, (SAME.up eF607 (SAME.up eF602 (SAME.up eF601 (SAME.up eF8 (SAME.up eF7 (SAME.tr SAME.rf i4 (by decide)) (by decide)) (by decide)) (by decide)) (by decide)) (by decide)), (get_eq eF607), (ir_wk k606 (by decide) (by decide)), (get_ne eF607 (by decide) (get_ne eF602 (by decide) (get_eq eF601))), (show 0 ≤ (4 : Int32).toInt ∧ (4 : Int32).toInt ≤ 4 by decide), (get_ne eF607 (by decide) (get_ne eF602 (by decide) (get_ne eF601 (by decide) (get_ne eF8 (by decide) (get_eq eF7))))), (ir_wk k29 (by decide) (by decide)), (get_ne eF607 (by decide) (get_ne eF602 (by decide) (get_ne eF601 (by decide) (get_eq eF8)))), (show 0 ≤ (0 : Int32).toInt ∧ (0 : Int32).toInt ≤ 940 by decide), (get_ne eF607 (by decide) (get_eq eF602)), (get_ne eF607 (by decide) (get_ne eF602 (by decide) (get_ne eF601 (by decide) (get_ne eF8 (by decide) (get_ne eF7 (by decide) (SAME.at i4 (by decide) e_word)))))), (by omega), (by omega), (by omega), rfl⟩
          · have hP : va_P D vwCl [(h0, .inr (10, vL 67 F8)), (h_tape, .inl (cB, 940, .inl f_tape))] H := hP
            have hD : va_D A [(h0, .inr (10, vL 67 F8)), (h_tape, .inl (cB, 940, .inl f_tape))] := hD
            refine W.widen (k := 0) (n := 0) (Nat.le_of_ble_eq_true rfl) (Nat.le_of_ble_eq_true rfl) ?_
            have k608 : 48 ≤ v27.toInt ∧ v27.toInt ≤ 96 := ⟨Int.le_trans (Int.le_refl _) t575, k572.2⟩
            have k609 : 58 ≤ v27.toInt ∧ v27.toInt ≤ 96 := ⟨lo_lt t576 (Int.le_refl _) (by decide), k608.2⟩
            refine lv_if_ne (tgt := 164) hx hb dX10_next_106 (by decide) (fun g => absurd (by decide) g) (fun _ => ?_)
            refine lv_aload_n hx hb dX10_next_109 rfl (lv_at hl 1 rfl) ?_
            refine lv_iload_n hx hb dX10_next_110 rfl (lv_at hl 0 rfl) ?_
            refine lv_bipush (v := 59) hx hb dX10_next_111 (by decide) ?_
            refine lv_icmp_eq (tgt := 140) hx hb dX10_next_113 (by decide) (fun c610 => ?_) (fun c610 => ?_)
            · have dc610 : v27.toInt = 59 := eq_i (a := v27.toInt) (b := 59) rfl rfl c610
              have k611 : 59 ≤ v27.toInt ∧ v27.toInt ≤ 59 := ⟨Int.le_trans (Int.le_refl _) (Int.le_of_eq dc610.symm), Int.le_trans (Int.le_of_eq dc610) (Int.le_refl _)⟩
              refine lv_iconst (v := 3) hx hb dX10_next_140 (by decide) ?_
              refine lv_goto (tgt := 145) hx hb dX10_next_141 (by decide) ?_
              refine put_f (D := D) (ci := 10) (v := .int 3) (ty := .int) (C := RX10) (T := TX10) (N := 67) hx hb hw inAX10 tyX10 tyX10_ok nmX10 hown hK hP hD hS 0 rfl rfl 11 (by decide) (hw _ q_1272) (fun _ h9 => h9) rfl (by decide +kernel) rfl rfl dX10_next_145 (fun H locs F612 eF612 hP hD hS => ?_)
              have hP : va_P D vwCl [(h0, .inr (10, vL 67 F612)), (h_tape, .inl (cB, 940, .inl f_tape))] H := hP
              have hD : va_D A [(h0, .inr (10, vL 67 F612)), (h_tape, .inl (cB, 940, .inl f_tape))] := hD
              refine lv_aload_n hx hb dX10_next_148 rfl (lv_at hl 1 rfl) ?_
              refine lv_iload_n hx hb dX10_next_149 rfl (lv_at hl 0 rfl) ?_
              refine put_f (D := D) (ci := 10) (v := .int v27) (ty := .int) (C := RX10) (T := TX10) (N := 67) hx hb hw inAX10 tyX10 tyX10_ok nmX10 hown hK hP hD hS 0 rfl rfl 14 (by decide) (hw _ q_1275) (fun _ h9 => h9) rfl (by decide +kernel) rfl rfl dX10_next_150 (fun H locs F613 eF613 hP hD hS => ?_)
              have hP : va_P D vwCl [(h0, .inr (10, vL 67 F613)), (h_tape, .inl (cB, 940, .inl f_tape))] H := hP
              have hD : va_D A [(h0, .inr (10, vL 67 F613)), (h_tape, .inl (cB, 940, .inl f_tape))] := hD
              refine lv_aload_n hx hb dX10_next_153 rfl (lv_at hl 1 rfl) ?_
              refine lv_dup hx hb dX10_next_154 rfl ?_
              have n614 : F612 4 = .int u2 := (get_ne eF612 (by decide) n20)
              have n615 : F613 4 = .int u2 := (get_ne eF613 (by decide) n614)
              refine get_f (D := D) (ci := 10) (v := .int u2) (C := RX10) (T := TX10) (N := 67) hx hb hw inAX10 hown hK hP 0 rfl rfl 4 (by decide) (hw _ q_1265) (fun _ h9 => h9) n615 dX10_next_155 ?_
              refine lv_iconst (v := 1) hx hb dX10_next_158 (by decide) ?_
              refine lv_iadd hx hb dX10_next_159 ?_
              refine lv_topi (fun v616 ev616 => ?_)
              have bv616 : v616.toInt = u2.toInt + 1 := by rw [ev616]; exact add_k rfl rfl k29 ⟨Int.le_refl _, Int.le_refl _⟩ (by decide)
              have k617 : 1 ≤ v616.toInt ∧ v616.toInt ≤ 940 := add_r bv616 k29 ⟨Int.le_refl _, Int.le_refl _⟩ (by decide)
              refine put_f (D := D) (ci := 10) (v := .int v616) (ty := .int) (C := RX10) (T := TX10) (N := 67) hx hb hw inAX10 tyX10 tyX10_ok nmX10 hown hK hP hD hS 0 rfl rfl 4 (by decide) (hw _ q_1265) (fun _ h9 => h9) rfl (by decide +kernel) rfl rfl dX10_next_160 (fun H locs F618 eF618 hP hD hS => ?_)
              have hP : va_P D vwCl [(h0, .inr (10, vL 67 F618)), (h_tape, .inl (cB, 940, .inl f_tape))] H := hP
              have hD : va_D A [(h0, .inr (10, vL 67 F618)), (h_tape, .inl (cB, 940, .inl f_tape))] := hD
              exact ret_v hx hb hr hlocks hS hP hD dX10_next_163 (Nat.le_of_ble_eq_true rfl) (Nat.le_of_ble_eq_true rfl) ⟨F618, v616, 3, u2, 0, v27, x_word, (SAME.up eF618 (SAME.up eF613 (SAME.up eF612 (SAME.up eF8 (SAME.up eF7 (SAME.tr SAME.rf i4 (by decide)) (by decide)) (by decide)) (by decide)) (by decide)) (by decide)), (get_eq eF618), (ir_wk k617 (by decide) (by decide)), (get_ne eF618 (by decide) (get_ne eF613 (by decide) (get_eq eF612))), (show 0 ≤ (3 : Int32).toInt ∧ (3 : Int32).toInt ≤ 4 by decide), (get_ne eF618 (by decide) (get_ne eF613 (by decide) (get_ne eF612 (by decide) (get_ne eF8 (by decide) (get_eq eF7))))), (ir_wk k29 (by decide) (by decide)), (get_ne eF618 (by decide) (get_ne eF613 (by decide) (get_ne eF612 (by decide) (get_eq eF8)))), (show 0 ≤ (0 : Int32).toInt ∧ (0 : Int32).toInt ≤ 940 by decide), (get_ne eF618 (by decide) (get_eq eF613)), (get_ne eF618 (by decide) (get_ne eF613 (by decide) (get_ne eF612 (by decide) (get_ne eF8 (by decide) (get_ne eF7 (by decide) (SAME.at i4 (by decide) e_word)))))), (by omega), (by omega), (by omega), rfl⟩
            · have dc610 : v27.toInt ≠ 59 := ne_i (a := v27.toInt) (b := 59) rfl rfl c610
              refine lv_iload_n hx hb dX10_next_116 rfl (lv_at hl 0 rfl) ?_
              refine lv_bipush (v := 40) hx hb dX10_next_117 (by decide) ?_
              refine lv_icmp_eq (tgt := 140) hx hb dX10_next_119 (by decide) (fun c619 => False.elim (bad_le (Int.le_of_eq (eq_i (a := v27.toInt) (b := 40) rfl rfl c619)) k609.1 (Int.le_refl _) (by decide))) (fun c619 => ?_)
              have dc619 : v27.toInt ≠ 40 := ne_i (a := v27.toInt) (b := 40) rfl rfl c619
              refine lv_iload_n hx hb dX10_next_122 rfl (lv_at hl 0 rfl) ?_
              refine lv_bipush (v := 41) hx hb dX10_next_123 (by decide) ?_
              refine lv_icmp_eq (tgt := 140) hx hb dX10_next_125 (by decide) (fun c620 => False.elim (bad_le (Int.le_of_eq (eq_i (a := v27.toInt) (b := 41) rfl rfl c620)) k609.1 (Int.le_refl _) (by decide))) (fun c620 => ?_)
              have dc620 : v27.toInt ≠ 41 := ne_i (a := v27.toInt) (b := 41) rfl rfl c620
              refine lv_iload_n hx hb dX10_next_128 rfl (lv_at hl 0 rfl) ?_
              refine lv_bipush (v := 60) hx hb dX10_next_129 (by decide) ?_
              refine lv_icmp_lt (tgt := 144) hx hb dX10_next_131 (by decide) (fun c621 => ?_) (fun c621 => ?_)
              · have dc621 : v27.toInt < 60 := lt_i (a := v27.toInt) (b := 60) rfl rfl c621
                have k622 : 58 ≤ v27.toInt ∧ v27.toInt ≤ 59 := ⟨k609.1, up_lt dc621 (Int.le_refl _) (by decide)⟩
                refine lv_iconst (v := 4) hx hb dX10_next_144 (by decide) ?_
                refine put_f (D := D) (ci := 10) (v := .int 4) (ty := .int) (C := RX10) (T := TX10) (N := 67) hx hb hw inAX10 tyX10 tyX10_ok nmX10 hown hK hP hD hS 0 rfl rfl 11 (by decide) (hw _ q_1272) (fun _ h9 => h9) rfl (by decide +kernel) rfl rfl dX10_next_145 (fun H locs F623 eF623 hP hD hS => ?_)
                have hP : va_P D vwCl [(h0, .inr (10, vL 67 F623)), (h_tape, .inl (cB, 940, .inl f_tape))] H := hP
                have hD : va_D A [(h0, .inr (10, vL 67 F623)), (h_tape, .inl (cB, 940, .inl f_tape))] := hD
                refine lv_aload_n hx hb dX10_next_148 rfl (lv_at hl 1 rfl) ?_
                refine lv_iload_n hx hb dX10_next_149 rfl (lv_at hl 0 rfl) ?_
                refine put_f (D := D) (ci := 10) (v := .int v27) (ty := .int) (C := RX10) (T := TX10) (N := 67) hx hb hw inAX10 tyX10 tyX10_ok nmX10 hown hK hP hD hS 0 rfl rfl 14 (by decide) (hw _ q_1275) (fun _ h9 => h9) rfl (by decide +kernel) rfl rfl dX10_next_150 (fun H locs F624 eF624 hP hD hS => ?_)
                have hP : va_P D vwCl [(h0, .inr (10, vL 67 F624)), (h_tape, .inl (cB, 940, .inl f_tape))] H := hP
                have hD : va_D A [(h0, .inr (10, vL 67 F624)), (h_tape, .inl (cB, 940, .inl f_tape))] := hD
                refine lv_aload_n hx hb dX10_next_153 rfl (lv_at hl 1 rfl) ?_
                refine lv_dup hx hb dX10_next_154 rfl ?_
                have n625 : F623 4 = .int u2 := (get_ne eF623 (by decide) n20)
                have n626 : F624 4 = .int u2 := (get_ne eF624 (by decide) n625)
                refine get_f (D := D) (ci := 10) (v := .int u2) (C := RX10) (T := TX10) (N := 67) hx hb hw inAX10 hown hK hP 0 rfl rfl 4 (by decide) (hw _ q_1265) (fun _ h9 => h9) n626 dX10_next_155 ?_
                refine lv_iconst (v := 1) hx hb dX10_next_158 (by decide) ?_
                refine lv_iadd hx hb dX10_next_159 ?_
                refine lv_topi (fun v627 ev627 => ?_)
                have bv627 : v627.toInt = u2.toInt + 1 := by rw [ev627]; exact add_k rfl rfl k29 ⟨Int.le_refl _, Int.le_refl _⟩ (by decide)
                have k628 : 1 ≤ v627.toInt ∧ v627.toInt ≤ 940 := add_r bv627 k29 ⟨Int.le_refl _, Int.le_refl _⟩ (by decide)
                refine put_f (D := D) (ci := 10) (v := .int v627) (ty := .int) (C := RX10) (T := TX10) (N := 67) hx hb hw inAX10 tyX10 tyX10_ok nmX10 hown hK hP hD hS 0 rfl rfl 4 (by decide) (hw _ q_1265) (fun _ h9 => h9) rfl (by decide +kernel) rfl rfl dX10_next_160 (fun H locs F629 eF629 hP hD hS => ?_)
                have hP : va_P D vwCl [(h0, .inr (10, vL 67 F629)), (h_tape, .inl (cB, 940, .inl f_tape))] H := hP
                have hD : va_D A [(h0, .inr (10, vL 67 F629)), (h_tape, .inl (cB, 940, .inl f_tape))] := hD
                exact ret_v hx hb hr hlocks hS hP hD dX10_next_163 (Nat.le_of_ble_eq_true rfl) (Nat.le_of_ble_eq_true rfl) ⟨F629, v627, 4, u2, 0, v27, x_word, (SAME.up eF629 (SAME.up eF624 (SAME.up eF623 (SAME.up eF8 (SAME.up eF7 (SAME.tr SAME.rf i4 (by decide)) (by decide)) (by decide)) (by decide)) (by decide)) (by decide)), (get_eq eF629), (ir_wk k628 (by decide) (by decide)), (get_ne eF629 (by decide) (get_ne eF624 (by decide) (get_eq eF623))), (show 0 ≤ (4 : Int32).toInt ∧ (4 : Int32).toInt ≤ 4 by decide), (get_ne eF629 (by decide) (get_ne eF624 (by decide) (get_ne eF623 (by decide) (get_ne eF8 (by decide) (get_eq eF7))))), (ir_wk k29 (by decide) (by decide)), (get_ne eF629 (by decide) (get_ne eF624 (by decide) (get_ne eF623 (by decide) (get_eq eF8)))), (show 0 ≤ (0 : Int32).toInt ∧ (0 : Int32).toInt ≤ 940 by decide), (get_ne eF629 (by decide) (get_eq eF624)), (get_ne eF629 (by decide) (get_ne eF624 (by decide) (get_ne eF623 (by decide) (get_ne eF8 (by decide) (get_ne eF7 (by decide) (SAME.at i4 (by decide) e_word)))))), (by omega), (by omega), (by omega), rfl⟩
              · have dc621 : 60 ≤ v27.toInt := nlt_i (a := v27.toInt) (b := 60) rfl rfl c621
                have k630 : 60 ≤ v27.toInt ∧ v27.toInt ≤ 96 := ⟨Int.le_trans (Int.le_refl _) dc621, k609.2⟩
                refine lv_iload_n hx hb dX10_next_134 rfl (lv_at hl 0 rfl) ?_
                refine lv_bipush (v := 62) hx hb dX10_next_135 (by decide) ?_
                refine lv_icmp_gt (tgt := 144) hx hb dX10_next_137 (by decide) (fun c631 => ?_) (fun c631 => ?_)
                · have dc631 : 62 < v27.toInt := lt_i (a := 62) (b := v27.toInt) rfl rfl c631
                  have k632 : 63 ≤ v27.toInt ∧ v27.toInt ≤ 96 := ⟨lo_lt dc631 (Int.le_refl _) (by decide), k630.2⟩
                  refine lv_iconst (v := 4) hx hb dX10_next_144 (by decide) ?_
                  refine put_f (D := D) (ci := 10) (v := .int 4) (ty := .int) (C := RX10) (T := TX10) (N := 67) hx hb hw inAX10 tyX10 tyX10_ok nmX10 hown hK hP hD hS 0 rfl rfl 11 (by decide) (hw _ q_1272) (fun _ h9 => h9) rfl (by decide +kernel) rfl rfl dX10_next_145 (fun H locs F633 eF633 hP hD hS => ?_)
                  have hP : va_P D vwCl [(h0, .inr (10, vL 67 F633)), (h_tape, .inl (cB, 940, .inl f_tape))] H := hP
                  have hD : va_D A [(h0, .inr (10, vL 67 F633)), (h_tape, .inl (cB, 940, .inl f_tape))] := hD
                  refine lv_aload_n hx hb dX10_next_148 rfl (lv_at hl 1 rfl) ?_
                  refine lv_iload_n hx hb dX10_next_149 rfl (lv_at hl 0 rfl) ?_
                  refine put_f (D := D) (ci := 10) (v := .int v27) (ty := .int) (C := RX10) (T := TX10) (N := 67) hx hb hw inAX10 tyX10 tyX10_ok nmX10 hown hK hP hD hS 0 rfl rfl 14 (by decide) (hw _ q_1275) (fun _ h9 => h9) rfl (by decide +kernel) rfl rfl dX10_next_150 (fun H locs F634 eF634 hP hD hS => ?_)
                  have hP : va_P D vwCl [(h0, .inr (10, vL 67 F634)), (h_tape, .inl (cB, 940, .inl f_tape))] H := hP
                  have hD : va_D A [(h0, .inr (10, vL 67 F634)), (h_tape, .inl (cB, 940, .inl f_tape))] := hD
                  refine lv_aload_n hx hb dX10_next_153 rfl (lv_at hl 1 rfl) ?_
                  refine lv_dup hx hb dX10_next_154 rfl ?_
                  have n635 : F633 4 = .int u2 := (get_ne eF633 (by decide) n20)
                  have n636 : F634 4 = .int u2 := (get_ne eF634 (by decide) n635)
                  refine get_f (D := D) (ci := 10) (v := .int u2) (C := RX10) (T := TX10) (N := 67) hx hb hw inAX10 hown hK hP 0 rfl rfl 4 (by decide) (hw _ q_1265) (fun _ h9 => h9) n636 dX10_next_155 ?_
                  refine lv_iconst (v := 1) hx hb dX10_next_158 (by decide) ?_
                  refine lv_iadd hx hb dX10_next_159 ?_
                  refine lv_topi (fun v637 ev637 => ?_)
                  have bv637 : v637.toInt = u2.toInt + 1 := by rw [ev637]; exact add_k rfl rfl k29 ⟨Int.le_refl _, Int.le_refl _⟩ (by decide)
                  have k638 : 1 ≤ v637.toInt ∧ v637.toInt ≤ 940 := add_r bv637 k29 ⟨Int.le_refl _, Int.le_refl _⟩ (by decide)
                  refine put_f (D := D) (ci := 10) (v := .int v637) (ty := .int) (C := RX10) (T := TX10) (N := 67) hx hb hw inAX10 tyX10 tyX10_ok nmX10 hown hK hP hD hS 0 rfl rfl 4 (by decide) (hw _ q_1265) (fun _ h9 => h9) rfl (by decide +kernel) rfl rfl dX10_next_160 (fun H locs F639 eF639 hP hD hS => ?_)
                  have hP : va_P D vwCl [(h0, .inr (10, vL 67 F639)), (h_tape, .inl (cB, 940, .inl f_tape))] H := hP
                  have hD : va_D A [(h0, .inr (10, vL 67 F639)), (h_tape, .inl (cB, 940, .inl f_tape))] := hD
                  exact ret_v hx hb hr hlocks hS hP hD dX10_next_163 (Nat.le_of_ble_eq_true rfl) (Nat.le_of_ble_eq_true rfl) ⟨F639, v637, 4, u2, 0, v27, x_word, (SAME.up eF639 (SAME.up eF634 (SAME.up eF633 (SAME.up eF8 (SAME.up eF7 (SAME.tr SAME.rf i4 (by decide)) (by decide)) (by decide)) (by decide)) (by decide)) (by decide)), (get_eq eF639), (ir_wk k638 (by decide) (by decide)), (get_ne eF639 (by decide) (get_ne eF634 (by decide) (get_eq eF633))), (show 0 ≤ (4 : Int32).toInt ∧ (4 : Int32).toInt ≤ 4 by decide), (get_ne eF639 (by decide) (get_ne eF634 (by decide) (get_ne eF633 (by decide) (get_ne eF8 (by decide) (get_eq eF7))))), (ir_wk k29 (by decide) (by decide)), (get_ne eF639 (by decide) (get_ne eF634 (by decide) (get_ne eF633 (by decide) (get_eq eF8)))), (show 0 ≤ (0 : Int32).toInt ∧ (0 : Int32).toInt ≤ 940 by decide), (get_ne eF639 (by decide) (get_eq eF634)), (get_ne eF639 (by decide) (get_ne eF634 (by decide) (get_ne eF633 (by decide) (get_ne eF8 (by decide) (get_ne eF7 (by decide) (SAME.at i4 (by decide) e_word)))))), (by omega), (by omega), (by omega), rfl⟩
                · have dc631 : v27.toInt ≤ 62 := nlt_i (a := 62) (b := v27.toInt) rfl rfl c631
                  have k640 : 60 ≤ v27.toInt ∧ v27.toInt ≤ 62 := ⟨k630.1, Int.le_trans dc631 (Int.le_refl _)⟩
                  refine lv_iconst (v := 3) hx hb dX10_next_140 (by decide) ?_
                  refine lv_goto (tgt := 145) hx hb dX10_next_141 (by decide) ?_
                  refine put_f (D := D) (ci := 10) (v := .int 3) (ty := .int) (C := RX10) (T := TX10) (N := 67) hx hb hw inAX10 tyX10 tyX10_ok nmX10 hown hK hP hD hS 0 rfl rfl 11 (by decide) (hw _ q_1272) (fun _ h9 => h9) rfl (by decide +kernel) rfl rfl dX10_next_145 (fun H locs F641 eF641 hP hD hS => ?_)
                  have hP : va_P D vwCl [(h0, .inr (10, vL 67 F641)), (h_tape, .inl (cB, 940, .inl f_tape))] H := hP
                  have hD : va_D A [(h0, .inr (10, vL 67 F641)), (h_tape, .inl (cB, 940, .inl f_tape))] := hD
                  refine lv_aload_n hx hb dX10_next_148 rfl (lv_at hl 1 rfl) ?_
                  refine lv_iload_n hx hb dX10_next_149 rfl (lv_at hl 0 rfl) ?_
                  refine put_f (D := D) (ci := 10) (v := .int v27) (ty := .int) (C := RX10) (T := TX10) (N := 67) hx hb hw inAX10 tyX10 tyX10_ok nmX10 hown hK hP hD hS 0 rfl rfl 14 (by decide) (hw _ q_1275) (fun _ h9 => h9) rfl (by decide +kernel) rfl rfl dX10_next_150 (fun H locs F642 eF642 hP hD hS => ?_)
                  have hP : va_P D vwCl [(h0, .inr (10, vL 67 F642)), (h_tape, .inl (cB, 940, .inl f_tape))] H := hP
                  have hD : va_D A [(h0, .inr (10, vL 67 F642)), (h_tape, .inl (cB, 940, .inl f_tape))] := hD
                  refine lv_aload_n hx hb dX10_next_153 rfl (lv_at hl 1 rfl) ?_
                  refine lv_dup hx hb dX10_next_154 rfl ?_
                  have n643 : F641 4 = .int u2 := (get_ne eF641 (by decide) n20)
                  have n644 : F642 4 = .int u2 := (get_ne eF642 (by decide) n643)
                  refine get_f (D := D) (ci := 10) (v := .int u2) (C := RX10) (T := TX10) (N := 67) hx hb hw inAX10 hown hK hP 0 rfl rfl 4 (by decide) (hw _ q_1265) (fun _ h9 => h9) n644 dX10_next_155 ?_
                  refine lv_iconst (v := 1) hx hb dX10_next_158 (by decide) ?_
                  refine lv_iadd hx hb dX10_next_159 ?_
                  refine lv_topi (fun v645 ev645 => ?_)
                  have bv645 : v645.toInt = u2.toInt + 1 := by rw [ev645]; exact add_k rfl rfl k29 ⟨Int.le_refl _, Int.le_refl _⟩ (by decide)
                  have k646 : 1 ≤ v645.toInt ∧ v645.toInt ≤ 940 := add_r bv645 k29 ⟨Int.le_refl _, Int.le_refl _⟩ (by decide)
                  refine put_f (D := D) (ci := 10) (v := .int v645) (ty := .int) (C := RX10) (T := TX10) (N := 67) hx hb hw inAX10 tyX10 tyX10_ok nmX10 hown hK hP hD hS 0 rfl rfl 4 (by decide) (hw _ q_1265) (fun _ h9 => h9) rfl (by decide +kernel) rfl rfl dX10_next_160 (fun H locs F647 eF647 hP hD hS => ?_)
                  have hP : va_P D vwCl [(h0, .inr (10, vL 67 F647)), (h_tape, .inl (cB, 940, .inl f_tape))] H := hP
                  have hD : va_D A [(h0, .inr (10, vL 67 F647)), (h_tape, .inl (cB, 940, .inl f_tape))] := hD
                  exact ret_v hx hb hr hlocks hS hP hD dX10_next_163 (Nat.le_of_ble_eq_true rfl) (Nat.le_of_ble_eq_true rfl) ⟨F647, v645, 3, u2, 0, v27, x_word, (SAME.up eF647 (SAME.up eF642 (SAME.up eF641 (SAME.up eF8 (SAME.up eF7 (SAME.tr SAME.rf i4 (by decide)) (by decide)) (by decide)) (by decide)) (by decide)) (by decide)), (get_eq eF647), (ir_wk k646 (by decide) (by decide)), (get_ne eF647 (by decide) (get_ne eF642 (by decide) (get_eq eF641))), (show 0 ≤ (3 : Int32).toInt ∧ (3 : Int32).toInt ≤ 4 by decide), (get_ne eF647 (by decide) (get_ne eF642 (by decide) (get_ne eF641 (by decide) (get_ne eF8 (by decide) (get_eq eF7))))), (ir_wk k29 (by decide) (by decide)), (get_ne eF647 (by decide) (get_ne eF642 (by decide) (get_ne eF641 (by decide) (get_eq eF8)))), (show 0 ≤ (0 : Int32).toInt ∧ (0 : Int32).toInt ≤ 940 by decide), (get_ne eF647 (by decide) (get_eq eF642)), (get_ne eF647 (by decide) (get_ne eF642 (by decide) (get_ne eF641 (by decide) (get_ne eF8 (by decide) (get_ne eF7 (by decide) (SAME.at i4 (by decide) e_word)))))), (by omega), (by omega), (by omega), rfl⟩
          · have hP : va_P D vwCl [(h0, .inr (10, vL 67 F8)), (h_tape, .inl (cB, 940, .inl f_tape))] H := hP
            have hD : va_D A [(h0, .inr (10, vL 67 F8)), (h_tape, .inl (cB, 940, .inl f_tape))] := hD
            refine W.widen (k := 0) (n := 0) (Nat.le_of_ble_eq_true rfl) (Nat.le_of_ble_eq_true rfl) ?_
            have k648 : 48 ≤ v27.toInt ∧ v27.toInt ≤ 96 := ⟨Int.le_trans (Int.le_refl _) t577, k572.2⟩
            have k649 : 48 ≤ v27.toInt ∧ v27.toInt ≤ 57 := ⟨k648.1, Int.le_trans t578 (Int.le_refl _)⟩
            refine lv_if_ne (tgt := 164) hx hb dX10_next_106 (by decide) (fun _ => ?_) (fun g => absurd g (by decide))
            refine lv_iload_n hx hb dX10_next_164 rfl (lv_at hl 0 rfl) ?_
            refine call_Si (wr := [(h0, .inr (10, vL 67 F8)), (h_tape, .inl (cB, 940, .inl f_tape))]) (As := [.int v27]) (rest := []) hx hb hml hown hw (m_X10_isSmall l D cI cJ cB cP cM cZ v27 _ ) wS_X10_182_X10_isSmall dX10_next_165 hP hD hS hA [] [0, 1] rfl rfl (by decide) (by decide) (by decide) GG.fb hG.at hl.1 rfl (Nat.le_of_ble_eq_true rfl) ⟨(Nat.le_of_ble_eq_true rfl), (Nat.le_of_ble_eq_true rfl)⟩ ⟨(Nat.le_of_ble_eq_true rfl), (Nat.le_of_ble_eq_true rfl)⟩ (fun r650 u H locs hp hP hD hS => ?_)
            rcases hp with ⟨t651, rfl, rfl⟩ | ⟨t652, t653, rfl, rfl⟩ | ⟨t654, t655, rfl, rfl⟩
            · have hP : va_P D vwCl [(h0, .inr (10, vL 67 F8)), (h_tape, .inl (cB, 940, .inl f_tape))] H := hP
              have hD : va_D A [(h0, .inr (10, vL 67 F8)), (h_tape, .inl (cB, 940, .inl f_tape))] := hD
              refine W.widen (k := 0) (n := 0) (Nat.le_of_ble_eq_true rfl) (Nat.le_of_ble_eq_true rfl) ?_
              refine lv_istore_n (lv' := [(2, .int 0), (1, .int v27), (0, .ref h0)]) hx hb dX10_next_168 rfl hl (by decide) rfl (fun ls hl => ?_)
              refine lv_iconst (v := 1) hx hb dX10_next_169 (by decide) ?_
              refine lv_istore_n (lv' := [(3, .int 1), (2, .int 0), (1, .int v27), (0, .ref h0)]) hx hb dX10_next_170 rfl hl (by decide) rfl (fun ls hl => ?_)
              exact cut33 0 (show 0 ≤ (0 : Int32).toInt ∧ (0 : Int32).toInt ≤ 1 by decide) _ _ _ hP hD hS (lv_sub hl [0, 1, 2, 3] rfl)
            · have hP : va_P D vwCl [(h0, .inr (10, vL 67 F8)), (h_tape, .inl (cB, 940, .inl f_tape))] H := hP
              have hD : va_D A [(h0, .inr (10, vL 67 F8)), (h_tape, .inl (cB, 940, .inl f_tape))] := hD
              refine W.widen (k := 0) (n := 0) (Nat.le_of_ble_eq_true rfl) (Nat.le_of_ble_eq_true rfl) ?_
              exact False.elim (bad_le t652 (Int.le_refl _) k649.2 (by decide))
            · have hP : va_P D vwCl [(h0, .inr (10, vL 67 F8)), (h_tape, .inl (cB, 940, .inl f_tape))] H := hP
              have hD : va_D A [(h0, .inr (10, vL 67 F8)), (h_tape, .inl (cB, 940, .inl f_tape))] := hD
              refine W.widen (k := 0) (n := 0) (Nat.le_of_ble_eq_true rfl) (Nat.le_of_ble_eq_true rfl) ?_
              exact False.elim (bad_le t654 (Int.le_refl _) k649.2 (by decide))
        · have hP : va_P D vwCl [(h0, .inr (10, vL 67 F8)), (h_tape, .inl (cB, 940, .inl f_tape))] H := hP
          have hD : va_D A [(h0, .inr (10, vL 67 F8)), (h_tape, .inl (cB, 940, .inl f_tape))] := hD
          refine W.widen (k := 0) (n := 0) (Nat.le_of_ble_eq_true rfl) (Nat.le_of_ble_eq_true rfl) ?_
          have k657 : 97 ≤ v27.toInt ∧ v27.toInt ≤ 255 := ⟨Int.le_trans (Int.le_refl _) t567, k28.2⟩
          have k658 : 123 ≤ v27.toInt ∧ v27.toInt ≤ 255 := ⟨lo_lt t568 (Int.le_refl _) (by decide), k657.2⟩
          refine lv_if_ne (tgt := 164) hx hb dX10_next_99 (by decide) (fun g => absurd (by decide) g) (fun _ => ?_)
          refine lv_iload_n hx hb dX10_next_102 rfl (lv_at hl 0 rfl) ?_
          refine call_Si (wr := [(h0, .inr (10, vL 67 F8)), (h_tape, .inl (cB, 940, .inl f_tape))]) (As := [.int v27]) (rest := []) hx hb hml hown hw (m_X10_isDigit l D cI cJ cB cP cM cZ v27 _ ) wS_X10_186_X10_isDigit dX10_next_103 hP hD hS hA [] [0, 1] rfl rfl (by decide) (by decide) (by decide) GG.fb hG.at hl.1 rfl (Nat.le_of_ble_eq_true rfl) ⟨(Nat.le_of_ble_eq_true rfl), (Nat.le_of_ble_eq_true rfl)⟩ ⟨(Nat.le_of_ble_eq_true rfl), (Nat.le_of_ble_eq_true rfl)⟩ (fun r659 u H locs hp hP hD hS => ?_)
          rcases hp with ⟨t660, rfl, rfl⟩ | ⟨t661, t662, rfl, rfl⟩ | ⟨t663, t664, rfl, rfl⟩
          · have hP : va_P D vwCl [(h0, .inr (10, vL 67 F8)), (h_tape, .inl (cB, 940, .inl f_tape))] H := hP
            have hD : va_D A [(h0, .inr (10, vL 67 F8)), (h_tape, .inl (cB, 940, .inl f_tape))] := hD
            refine W.widen (k := 0) (n := 0) (Nat.le_of_ble_eq_true rfl) (Nat.le_of_ble_eq_true rfl) ?_
            exact False.elim (bad_lt t660 k658.1 (Int.le_refl _) (by decide))
          · have hP : va_P D vwCl [(h0, .inr (10, vL 67 F8)), (h_tape, .inl (cB, 940, .inl f_tape))] H := hP
            have hD : va_D A [(h0, .inr (10, vL 67 F8)), (h_tape, .inl (cB, 940, .inl f_tape))] := hD
            refine W.widen (k := 0) (n := 0) (Nat.le_of_ble_eq_true rfl) (Nat.le_of_ble_eq_true rfl) ?_
            refine lv_if_ne (tgt := 164) hx hb dX10_next_106 (by decide) (fun g => absurd (by decide) g) (fun _ => ?_)
            refine lv_aload_n hx hb dX10_next_109 rfl (lv_at hl 1 rfl) ?_
            refine lv_iload_n hx hb dX10_next_110 rfl (lv_at hl 0 rfl) ?_
            refine lv_bipush (v := 59) hx hb dX10_next_111 (by decide) ?_
            refine lv_icmp_eq (tgt := 140) hx hb dX10_next_113 (by decide) (fun c666 => False.elim (bad_le (Int.le_of_eq (eq_i (a := v27.toInt) (b := 59) rfl rfl c666)) k658.1 (Int.le_refl _) (by decide))) (fun c666 => ?_)
            have dc666 : v27.toInt ≠ 59 := ne_i (a := v27.toInt) (b := 59) rfl rfl c666
            refine lv_iload_n hx hb dX10_next_116 rfl (lv_at hl 0 rfl) ?_
            refine lv_bipush (v := 40) hx hb dX10_next_117 (by decide) ?_
            refine lv_icmp_eq (tgt := 140) hx hb dX10_next_119 (by decide) (fun c667 => False.elim (bad_le (Int.le_of_eq (eq_i (a := v27.toInt) (b := 40) rfl rfl c667)) k658.1 (Int.le_refl _) (by decide))) (fun c667 => ?_)
            have dc667 : v27.toInt ≠ 40 := ne_i (a := v27.toInt) (b := 40) rfl rfl c667
            refine lv_iload_n hx hb dX10_next_122 rfl (lv_at hl 0 rfl) ?_
            refine lv_bipush (v := 41) hx hb dX10_next_123 (by decide) ?_
            refine lv_icmp_eq (tgt := 140) hx hb dX10_next_125 (by decide) (fun c668 => False.elim (bad_le (Int.le_of_eq (eq_i (a := v27.toInt) (b := 41) rfl rfl c668)) k658.1 (Int.le_refl _) (by decide))) (fun c668 => ?_)
            have dc668 : v27.toInt ≠ 41 := ne_i (a := v27.toInt) (b := 41) rfl rfl c668
            refine lv_iload_n hx hb dX10_next_128 rfl (lv_at hl 0 rfl) ?_
            refine lv_bipush (v := 60) hx hb dX10_next_129 (by decide) ?_
            refine lv_icmp_lt (tgt := 144) hx hb dX10_next_131 (by decide) (fun c669 => False.elim (bad_lt (lt_i (a := v27.toInt) (b := 60) rfl rfl c669) k658.1 (Int.le_refl _) (by decide))) (fun c669 => ?_)
            have dc669 : 60 ≤ v27.toInt := nlt_i (a := v27.toInt) (b := 60) rfl rfl c669
            refine lv_iload_n hx hb dX10_next_134 rfl (lv_at hl 0 rfl) ?_
            refine lv_bipush (v := 62) hx hb dX10_next_135 (by decide) ?_
            refine lv_icmp_gt (tgt := 144) hx hb dX10_next_137 (by decide) (fun c670 => ?_) (fun c670 => False.elim (bad_le (nlt_i (a := 62) (b := v27.toInt) rfl rfl c670) k658.1 (Int.le_refl _) (by decide)))
            have dc670 : 62 < v27.toInt := lt_i (a := 62) (b := v27.toInt) rfl rfl c670
            refine lv_iconst (v := 4) hx hb dX10_next_144 (by decide) ?_
            refine put_f (D := D) (ci := 10) (v := .int 4) (ty := .int) (C := RX10) (T := TX10) (N := 67) hx hb hw inAX10 tyX10 tyX10_ok nmX10 hown hK hP hD hS 0 rfl rfl 11 (by decide) (hw _ q_1272) (fun _ h9 => h9) rfl (by decide +kernel) rfl rfl dX10_next_145 (fun H locs F671 eF671 hP hD hS => ?_)
            have hP : va_P D vwCl [(h0, .inr (10, vL 67 F671)), (h_tape, .inl (cB, 940, .inl f_tape))] H := hP
            have hD : va_D A [(h0, .inr (10, vL 67 F671)), (h_tape, .inl (cB, 940, .inl f_tape))] := hD
            refine lv_aload_n hx hb dX10_next_148 rfl (lv_at hl 1 rfl) ?_
            refine lv_iload_n hx hb dX10_next_149 rfl (lv_at hl 0 rfl) ?_
            refine put_f (D := D) (ci := 10) (v := .int v27) (ty := .int) (C := RX10) (T := TX10) (N := 67) hx hb hw inAX10 tyX10 tyX10_ok nmX10 hown hK hP hD hS 0 rfl rfl 14 (by decide) (hw _ q_1275) (fun _ h9 => h9) rfl (by decide +kernel) rfl rfl dX10_next_150 (fun H locs F672 eF672 hP hD hS => ?_)
            have hP : va_P D vwCl [(h0, .inr (10, vL 67 F672)), (h_tape, .inl (cB, 940, .inl f_tape))] H := hP
            have hD : va_D A [(h0, .inr (10, vL 67 F672)), (h_tape, .inl (cB, 940, .inl f_tape))] := hD
            refine lv_aload_n hx hb dX10_next_153 rfl (lv_at hl 1 rfl) ?_
            refine lv_dup hx hb dX10_next_154 rfl ?_
            have n673 : F671 4 = .int u2 := (get_ne eF671 (by decide) n20)
            have n674 : F672 4 = .int u2 := (get_ne eF672 (by decide) n673)
            refine get_f (D := D) (ci := 10) (v := .int u2) (C := RX10) (T := TX10) (N := 67) hx hb hw inAX10 hown hK hP 0 rfl rfl 4 (by decide) (hw _ q_1265) (fun _ h9 => h9) n674 dX10_next_155 ?_
            refine lv_iconst (v := 1) hx hb dX10_next_158 (by decide) ?_
            refine lv_iadd hx hb dX10_next_159 ?_
            refine lv_topi (fun v675 ev675 => ?_)
            have bv675 : v675.toInt = u2.toInt + 1 := by rw [ev675]; exact add_k rfl rfl k29 ⟨Int.le_refl _, Int.le_refl _⟩ (by decide)
            have k676 : 1 ≤ v675.toInt ∧ v675.toInt ≤ 940 := add_r bv675 k29 ⟨Int.le_refl _, Int.le_refl _⟩ (by decide)
            refine put_f (D := D) (ci := 10) (v := .int v675) (ty := .int) (C := RX10) (T := TX10) (N := 67) hx hb hw inAX10 tyX10 tyX10_ok nmX10 hown hK hP hD hS 0 rfl rfl 4 (by decide) (hw _ q_1265) (fun _ h9 => h9) rfl (by decide +kernel) rfl rfl dX10_next_160 (fun H locs F677 eF677 hP hD hS => ?_)
            have hP : va_P D vwCl [(h0, .inr (10, vL 67 F677)), (h_tape, .inl (cB, 940, .inl f_tape))] H := hP
            have hD : va_D A [(h0, .inr (10, vL 67 F677)), (h_tape, .inl (cB, 940, .inl f_tape))] := hD
            exact ret_v hx hb hr hlocks hS hP hD dX10_next_163 (Nat.le_of_ble_eq_true rfl) (Nat.le_of_ble_eq_true rfl) ⟨F677, v675, 4, u2, 0, v27, x_word, (SAME.up eF677 (SAME.up eF672 (SAME.up eF671 (SAME.up eF8 (SAME.up eF7 (SAME.tr SAME.rf i4 (by decide)) (by decide)) (by decide)) (by decide)) (by decide)) (by decide)), (get_eq eF677), (ir_wk k676 (by decide) (by decide)), (get_ne eF677 (by decide) (get_ne eF672 (by decide) (get_eq eF671))), (show 0 ≤ (4 : Int32).toInt ∧ (4 : Int32).toInt ≤ 4 by decide), (get_ne eF677 (by decide) (get_ne eF672 (by decide) (get_ne eF671 (by decide) (get_ne eF8 (by decide) (get_eq eF7))))), (ir_wk k29 (by decide) (by decide)), (get_ne eF677 (by decide) (get_ne eF672 (by decide) (get_ne eF671 (by decide) (get_eq eF8)))), (show 0 ≤ (0 : Int32).toInt ∧ (0 : Int32).toInt ≤ 940 by decide), (get_ne eF677 (by decide) (get_eq eF672)), (get_ne eF677 (by decide) (get_ne eF672 (by decide) (get_ne eF671 (by decide) (get_ne eF8 (by decide) (get_ne eF7 (by decide) (SAME.at i4 (by decide) e_word)))))), (by omega), (by omega), (by omega), rfl⟩
          · have hP : va_P D vwCl [(h0, .inr (10, vL 67 F8)), (h_tape, .inl (cB, 940, .inl f_tape))] H := hP
            have hD : va_D A [(h0, .inr (10, vL 67 F8)), (h_tape, .inl (cB, 940, .inl f_tape))] := hD
            refine W.widen (k := 0) (n := 0) (Nat.le_of_ble_eq_true rfl) (Nat.le_of_ble_eq_true rfl) ?_
            exact False.elim (bad_le t664 k658.1 (Int.le_refl _) (by decide))
        · have hP : va_P D vwCl [(h0, .inr (10, vL 67 F8)), (h_tape, .inl (cB, 940, .inl f_tape))] H := hP
          have hD : va_D A [(h0, .inr (10, vL 67 F8)), (h_tape, .inl (cB, 940, .inl f_tape))] := hD
          refine W.widen (k := 0) (n := 0) (Nat.le_of_ble_eq_true rfl) (Nat.le_of_ble_eq_true rfl) ?_
          have k678 : 97 ≤ v27.toInt ∧ v27.toInt ≤ 255 := ⟨Int.le_trans (Int.le_refl _) t569, k28.2⟩
          have k679 : 97 ≤ v27.toInt ∧ v27.toInt ≤ 122 := ⟨k678.1, Int.le_trans t570 (Int.le_refl _)⟩
          refine lv_if_ne (tgt := 164) hx hb dX10_next_99 (by decide) (fun _ => ?_) (fun g => absurd g (by decide))
          refine lv_iload_n hx hb dX10_next_164 rfl (lv_at hl 0 rfl) ?_
          refine call_Si (wr := [(h0, .inr (10, vL 67 F8)), (h_tape, .inl (cB, 940, .inl f_tape))]) (As := [.int v27]) (rest := []) hx hb hml hown hw (m_X10_isSmall l D cI cJ cB cP cM cZ v27 _ ) wS_X10_182_X10_isSmall dX10_next_165 hP hD hS hA [] [0, 1] rfl rfl (by decide) (by decide) (by decide) GG.fb hG.at hl.1 rfl (Nat.le_of_ble_eq_true rfl) ⟨(Nat.le_of_ble_eq_true rfl), (Nat.le_of_ble_eq_true rfl)⟩ ⟨(Nat.le_of_ble_eq_true rfl), (Nat.le_of_ble_eq_true rfl)⟩ (fun r680 u H locs hp hP hD hS => ?_)
          rcases hp with ⟨t681, rfl, rfl⟩ | ⟨t682, t683, rfl, rfl⟩ | ⟨t684, t685, rfl, rfl⟩
          · have hP : va_P D vwCl [(h0, .inr (10, vL 67 F8)), (h_tape, .inl (cB, 940, .inl f_tape))] H := hP
            have hD : va_D A [(h0, .inr (10, vL 67 F8)), (h_tape, .inl (cB, 940, .inl f_tape))] := hD
            refine W.widen (k := 0) (n := 0) (Nat.le_of_ble_eq_true rfl) (Nat.le_of_ble_eq_true rfl) ?_
            exact False.elim (bad_lt t681 k679.1 (Int.le_refl _) (by decide))
          · have hP : va_P D vwCl [(h0, .inr (10, vL 67 F8)), (h_tape, .inl (cB, 940, .inl f_tape))] H := hP
            have hD : va_D A [(h0, .inr (10, vL 67 F8)), (h_tape, .inl (cB, 940, .inl f_tape))] := hD
            refine W.widen (k := 0) (n := 0) (Nat.le_of_ble_eq_true rfl) (Nat.le_of_ble_eq_true rfl) ?_
            exact False.elim (bad_lt t683 (Int.le_refl _) k679.2 (by decide))
          · have hP : va_P D vwCl [(h0, .inr (10, vL 67 F8)), (h_tape, .inl (cB, 940, .inl f_tape))] H := hP
            have hD : va_D A [(h0, .inr (10, vL 67 F8)), (h_tape, .inl (cB, 940, .inl f_tape))] := hD
            refine W.widen (k := 0) (n := 0) (Nat.le_of_ble_eq_true rfl) (Nat.le_of_ble_eq_true rfl) ?_
            refine lv_istore_n (lv' := [(2, .int 1), (1, .int v27), (0, .ref h0)]) hx hb dX10_next_168 rfl hl (by decide) rfl (fun ls hl => ?_)
            refine lv_iconst (v := 1) hx hb dX10_next_169 (by decide) ?_
            refine lv_istore_n (lv' := [(3, .int 1), (2, .int 1), (1, .int v27), (0, .ref h0)]) hx hb dX10_next_170 rfl hl (by decide) rfl (fun ls hl => ?_)
            exact cut33 1 (show 0 ≤ (1 : Int32).toInt ∧ (1 : Int32).toInt ≤ 1 by decide) _ _ _ hP hD hS (lv_sub hl [0, 1, 2, 3] rfl)
    · have dc15 : x_limit.toInt < x_size.toInt := nle_i (a := x_size.toInt) (b := x_limit.toInt) rfl rfl c15
      have k687 : 200 ≤ x_limit.toInt ∧ x_limit.toInt ≤ 939 := ⟨i_x_limit.1, up_lt dc15 i_x_size.2 (by decide)⟩
      have k688 : 201 ≤ x_size.toInt ∧ x_size.toInt ≤ 940 := ⟨lo_lt dc15 i_x_limit.1 (by decide), i_x_size.2⟩
      refine lv_aload_n hx hb dX10_next_55 rfl (lv_at hl 0 rfl) ?_
      have n689 : F7 4 = .int u2 := (get_ne eF7 (by decide) i5)
      have n690 : F8 4 = .int u2 := (get_ne eF8 (by decide) n689)
      refine get_f (D := D) (ci := 10) (v := .int u2) (C := RX10) (T := TX10) (N := 67) hx hb hw inAX10 hown hK hP 0 rfl rfl 4 (by decide) (hw _ q_1265) (fun _ h9 => h9) n690 dX10_next_56 ?_
      refine lv_aload_n hx hb dX10_next_59 rfl (lv_at hl 0 rfl) ?_
      refine get_f (D := D) (ci := 10) (v := .int x_limit) (C := RX10) (T := TX10) (N := 67) hx hb hw inAX10 hown hK hP 0 rfl rfl 5 (by decide) (hw _ q_1266) (fun _ h9 => h9) n14 dX10_next_60 ?_
      refine lv_icmp_lt (tgt := 80) hx hb dX10_next_63 (by decide) (fun c691 => ?_) (fun c691 => ?_)
      · have dc691 : u2.toInt < x_limit.toInt := lt_i (a := u2.toInt) (b := x_limit.toInt) rfl rfl c691
        have k692 : 0 ≤ u2.toInt ∧ u2.toInt ≤ 938 := ⟨i6.1, up_lt dc691 k687.2 (by decide)⟩
        refine lv_aload_n hx hb dX10_next_80 rfl (lv_at hl 0 rfl) ?_
        have n693 : G1 1 = .ref h_tape := (SAME.at i4 (by decide) e_tape)
        have n694 : F7 1 = .ref h_tape := (get_ne eF7 (by decide) n693)
        have n695 : F8 1 = .ref h_tape := (get_ne eF8 (by decide) n694)
        refine call_Vi (wr := []) (As := []) (rest := []) hx hb hml hown hw (m_X10_peek l D cI cJ cB cP cM cZ h0 h_tape F8 x_size u2 f_tape _ n695 n11 (ir_wk k688 (by decide) (by decide)) n690 (ir_wk k692 (by decide) (by decide))) wV_X10_169_X10_peek dX10_next_81 hK hP hD hS hA [0, 1] [] rfl rfl (by decide) (by decide) (by decide) 0 10 rfl rfl GG.fb hG.at hl.1 rfl (Nat.le_of_ble_eq_true rfl) ⟨(Nat.le_of_ble_eq_true rfl), (Nat.le_of_ble_eq_true rfl)⟩ ⟨(Nat.le_of_ble_eq_true rfl), (Nat.le_of_ble_eq_true rfl)⟩ (fun r696 u H locs hp hP hD hS => ?_)
        rcases hp with ⟨t697, rfl, rfl⟩ | ⟨t698, t699, rfl, rfl⟩
        · have hP : va_P D vwCl [(h0, .inr (10, vL 67 F8)), (h_tape, .inl (cB, 940, .inl f_tape))] H := hP
          have hD : va_D A [(h0, .inr (10, vL 67 F8)), (h_tape, .inl (cB, 940, .inl f_tape))] := hD
          refine W.widen (k := 0) (n := 0) (Nat.le_of_ble_eq_true rfl) (Nat.le_of_ble_eq_true rfl) ?_
          have k701 : 201 ≤ x_size.toInt ∧ x_size.toInt ≤ 938 := ⟨k688.1, Int.le_trans t697 k692.2⟩
          have k702 : 201 ≤ u2.toInt ∧ u2.toInt ≤ 938 := ⟨Int.le_trans k688.1 t697, k692.2⟩
          refine lv_istore_n (lv' := [(1, .int (-1)), (0, .ref h0)]) hx hb dX10_next_84 rfl hl (by decide) rfl (fun ls hl => ?_)
          refine lv_iload_n hx hb dX10_next_85 rfl (lv_at hl 0 rfl) ?_
          refine lv_if_ge (tgt := 95) hx hb dX10_next_86 (by decide) (fun g => absurd g (by decide)) (fun _ => ?_)
          refine lv_aload_n hx hb dX10_next_89 rfl (lv_at hl 1 rfl) ?_
          refine lv_iconst (v := 0) hx hb dX10_next_90 (by decide) ?_
          refine put_f (D := D) (ci := 10) (v := .int 0) (ty := .int) (C := RX10) (T := TX10) (N := 67) hx hb hw inAX10 tyX10 tyX10_ok nmX10 hown hK hP hD hS 0 rfl rfl 11 (by decide) (hw _ q_1272) (fun _ h9 => h9) rfl (by decide +kernel) rfl rfl dX10_next_91 (fun H locs F703 eF703 hP hD hS => ?_)
          have hP : va_P D vwCl [(h0, .inr (10, vL 67 F703)), (h_tape, .inl (cB, 940, .inl f_tape))] H := hP
          have hD : va_D A [(h0, .inr (10, vL 67 F703)), (h_tape, .inl (cB, 940, .inl f_tape))] := hD
          exact ret_v hx hb hr hlocks hS hP hD dX10_next_94 (Nat.le_of_ble_eq_true rfl) (Nat.le_of_ble_eq_true rfl) ⟨F703, u2, 0, u2, 0, x_number, x_word, (SAME.up eF703 (SAME.up eF8 (SAME.up eF7 (SAME.tr SAME.rf i4 (by decide)) (by decide)) (by decide)) (by decide)), (get_ne eF703 (by decide) n690), (ir_wk k702 (by decide) (by decide)), (get_eq eF703), (show 0 ≤ (0 : Int32).toInt ∧ (0 : Int32).toInt ≤ 4 by decide), (get_ne eF703 (by decide) (get_ne eF8 (by decide) (get_eq eF7))), (ir_wk k702 (by decide) (by decide)), (get_ne eF703 (by decide) (get_eq eF8)), (show 0 ≤ (0 : Int32).toInt ∧ (0 : Int32).toInt ≤ 940 by decide), (get_ne eF703 (by decide) (get_ne eF8 (by decide) (get_ne eF7 (by decide) (SAME.at i4 (by decide) e_number)))), (get_ne eF703 (by decide) (get_ne eF8 (by decide) (get_ne eF7 (by decide) (SAME.at i4 (by decide) e_word)))), (by omega), (by omega), (by omega), rfl⟩
        · have hP : va_P D vwCl [(h0, .inr (10, vL 67 F8)), (h_tape, .inl (cB, 940, .inl f_tape))] H := hP
          have hD : va_D A [(h0, .inr (10, vL 67 F8)), (h_tape, .inl (cB, 940, .inl f_tape))] := hD
          refine W.widen (k := 0) (n := 0) (Nat.le_of_ble_eq_true rfl) (Nat.le_of_ble_eq_true rfl) ?_
          refine lv_topi (fun v704 ev704 => ?_)
          have k705 : 0 ≤ v704.toInt ∧ v704.toInt ≤ 255 := by rw [ev704]; exact t698
          refine lv_istore_n (lv' := [(1, .int v704), (0, .ref h0)]) hx hb dX10_next_84 rfl hl (by decide) rfl (fun ls hl => ?_)
          refine lv_iload_n hx hb dX10_next_85 rfl (lv_at hl 0 rfl) ?_
          refine lv_if_ge (tgt := 95) hx hb dX10_next_86 (by decide) (fun c706 => ?_) (fun c706 => False.elim (bad_lt (nle_i (a := 0) (b := v704.toInt) rfl rfl c706) k705.1 (Int.le_refl _) (by decide)))
          have dc706 : 0 ≤ v704.toInt := le_i (a := 0) (b := v704.toInt) rfl rfl c706
          have cut708 : ∀ (u707 : Int32) (_ : IR 0 1 u707) (H : Heap) (locs : List Loc) (ls : Array Slot), va_P D vwCl [(h0, .inr (10, vL 67 F8)), (h_tape, .inl (cB, 940, .inl f_tape))] H → va_D A [(h0, .inr (10, vL 67 F8)), (h_tape, .inl (cB, 940, .inl f_tape))] → va_S A s.heap H locs → lv_has ls 4 [(3, .int 1), (2, .int u707), (1, .int v704), (0, .ref h0)] → W p l e ({ frames := 1, cells := 0, slots := 0, locals := 20 } : Room) s m [.ref h0].toArray below meth c H locs 0 0 (MQ below (va_Qv (fun (u : va_W) => ∃ (Gh : Nat → Value) (y_p : Int32) (y_token : Int32) (y_at : Int32) (y_span : Int32) (y_number : Int32) (y_word : Int64), SAME [4, 11, 12, 13, 14, 18] Fh Gh ∧ Gh 4 = .int y_p ∧ IR 0 940 y_p ∧ Gh 11 = .int y_token ∧ IR 0 4 y_token ∧ Gh 12 = .int y_at ∧ IR 0 940 y_at ∧ Gh 13 = .int y_span ∧ IR 0 940 y_span ∧ Gh 14 = .int y_number ∧ Gh 18 = .long y_word ∧ (x_p.toInt ≤ y_p.toInt) ∧ ((1 ≤ y_token.toInt → y_token.toInt ≤ 3 → x_p.toInt < y_p.toInt)) ∧ ((y_token.toInt = 2 → 0 ≤ y_number.toInt ∧ y_number.toInt ≤ 999)) ∧ u = [(h0, .inr (10, vL 67 Gh)), (h_tape, .inl (cB, 940, .inl f_tape))]) (PO D A) A) [.ref h0].toArray s 0 0 A) (F0 m 171 ls []) := by
            intro u707 i709 H locs ls hP hD hS hl
            have i709 : 0 ≤ u707.toInt ∧ u707.toInt ≤ 1 := i709
            refine lv_aload_n hx hb dX10_next_171 rfl (lv_at hl 3 rfl) ?_
            refine lv_lconst (v := 0) hx hb dX10_next_172 (by decide) ?_
            refine put_f (D := D) (ci := 10) (v := .long 0) (ty := .long) (C := RX10) (T := TX10) (N := 67) hx hb hw inAX10 tyX10 tyX10_ok nmX10 hown hK hP hD hS 0 rfl rfl 18 (by decide) (hw _ q_1279) (fun _ h9 => h9) rfl (by decide +kernel) rfl rfl dX10_next_173 (fun H locs F710 eF710 hP hD hS => ?_)
            have hP : va_P D vwCl [(h0, .inr (10, vL 67 F710)), (h_tape, .inl (cB, 940, .inl f_tape))] H := hP
            have hD : va_D A [(h0, .inr (10, vL 67 F710)), (h_tape, .inl (cB, 940, .inl f_tape))] := hD
            refine lv_aload_n hx hb dX10_next_176 rfl (lv_at hl 3 rfl) ?_
            refine lv_iconst (v := 0) hx hb dX10_next_177 (by decide) ?_
            refine put_f (D := D) (ci := 10) (v := .int 0) (ty := .int) (C := RX10) (T := TX10) (N := 67) hx hb hw inAX10 tyX10 tyX10_ok nmX10 hown hK hP hD hS 0 rfl rfl 14 (by decide) (hw _ q_1275) (fun _ h9 => h9) rfl (by decide +kernel) rfl rfl dX10_next_178 (fun H locs F711 eF711 hP hD hS => ?_)
            have hP : va_P D vwCl [(h0, .inr (10, vL 67 F711)), (h_tape, .inl (cB, 940, .inl f_tape))] H := hP
            have hD : va_D A [(h0, .inr (10, vL 67 F711)), (h_tape, .inl (cB, 940, .inl f_tape))] := hD
            have cut718 : ∀ (u712 : Int32) (G713 : Nat → Value) (u714 : Int32) (u715 : Int32) (u716 : Int32) (u717 : Int64) (_ : IR 0 1 u712) (_ : SAME [4, 13, 14, 18] F711 G713) (_ : G713 4 = .int u714) (_ : G713 13 = .int u715) (_ : G713 14 = .int u716) (_ : G713 18 = .long u717) (_ : IR 0 940 u714) (_ : IR 0 940 u715) (_ : (0 ≤ u715.toInt ∧ u715.toInt ≤ u714.toInt)) (_ : (u712.toInt = 1 → u707.toInt = 0 → (0 ≤ u716.toInt ∧ u716.toInt ≤ 999 ∧ (u715.toInt = 0 → u716.toInt = 0) ∧ (u715.toInt = 1 → u716.toInt ≤ 9) ∧ (u715.toInt = 2 → u716.toInt ≤ 99)))) (_ : ((x_token.toInt = 2 → 0 ≤ u716.toInt ∧ u716.toInt ≤ 999))) (H : Heap) (locs : List Loc) (ls : Array Slot), va_P D vwCl [(h0, .inr (10, vL 67 G713)), (h_tape, .inl (cB, 940, .inl f_tape))] H → va_D A [(h0, .inr (10, vL 67 G713)), (h_tape, .inl (cB, 940, .inl f_tape))] → va_S A s.heap H locs → lv_has ls 4 [(3, .int u712), (2, .int u707), (1, .int v704), (0, .ref h0)] → W p l e ({ frames := 1, cells := 0, slots := 0, locals := 20 } : Room) s m [.ref h0].toArray below meth c H locs 0 0 (MQ below (va_Qv (fun (u : va_W) => ∃ (Gh : Nat → Value) (y_p : Int32) (y_token : Int32) (y_at : Int32) (y_span : Int32) (y_number : Int32) (y_word : Int64), SAME [4, 11, 12, 13, 14, 18] Fh Gh ∧ Gh 4 = .int y_p ∧ IR 0 940 y_p ∧ Gh 11 = .int y_token ∧ IR 0 4 y_token ∧ Gh 12 = .int y_at ∧ IR 0 940 y_at ∧ Gh 13 = .int y_span ∧ IR 0 940 y_span ∧ Gh 14 = .int y_number ∧ Gh 18 = .long y_word ∧ (x_p.toInt ≤ y_p.toInt) ∧ ((1 ≤ y_token.toInt → y_token.toInt ≤ 3 → x_p.toInt < y_p.toInt)) ∧ ((y_token.toInt = 2 → 0 ≤ y_number.toInt ∧ y_number.toInt ≤ 999)) ∧ u = [(h0, .inr (10, vL 67 Gh)), (h_tape, .inl (cB, 940, .inl f_tape))]) (PO D A) A) [.ref h0].toArray s 0 0 A) (F0 m 298 ls []) := by
              intro u712 G713 u714 u715 u716 u717 i719 i720 i721 i722 i723 i724 i725 i726 i727 i728 i729 H locs ls hP hD hS hl
              have i719 : 0 ≤ u712.toInt ∧ u712.toInt ≤ 1 := i719
              have i725 : 0 ≤ u714.toInt ∧ u714.toInt ≤ 940 := i725
              have i726 : 0 ≤ u715.toInt ∧ u715.toInt ≤ 940 := i726
              have i727 : 0 ≤ u715.toInt ∧ u715.toInt ≤ u714.toInt := i727
              have i728 : u712.toInt = 1 → u707.toInt = 0 → (0 ≤ u716.toInt ∧ u716.toInt ≤ 999 ∧ (u715.toInt = 0 → u716.toInt = 0) ∧ (u715.toInt = 1 → u716.toInt ≤ 9) ∧ (u715.toInt = 2 → u716.toInt ≤ 99)) := i728
              have i729 : (x_token.toInt = 2 → 0 ≤ u716.toInt ∧ u716.toInt ≤ 999) := i729
              refine lv_aload_n hx hb dX10_next_298 rfl (lv_at hl 3 rfl) ?_
              refine lv_iload_n hx hb dX10_next_299 rfl (lv_at hl 0 rfl) ?_
              refine lv_if_eq (tgt := 320) hx hb dX10_next_300 (by decide) (fun c730 => ?_) (fun c730 => ?_)
              · have dc730 : u712.toInt = 0 := eq_i (a := u712.toInt) (b := 0) rfl rfl c730
                have k731 : 0 ≤ u712.toInt ∧ u712.toInt ≤ 0 := ⟨i719.1, Int.le_trans (Int.le_of_eq dc730) (Int.le_refl _)⟩
                refine lv_iconst (v := 4) hx hb dX10_next_320 (by decide) ?_
                refine lv_goto (tgt := 333) hx hb dX10_next_321 (by decide) ?_
                refine put_f (D := D) (ci := 10) (v := .int 4) (ty := .int) (C := RX10) (T := TX10) (N := 67) hx hb hw inAX10 tyX10 tyX10_ok nmX10 hown hK hP hD hS 0 rfl rfl 11 (by decide) (hw _ q_1272) (fun _ h9 => h9) rfl (by decide +kernel) rfl rfl dX10_next_333 (fun H locs F732 eF732 hP hD hS => ?_)
                have hP : va_P D vwCl [(h0, .inr (10, vL 67 F732)), (h_tape, .inl (cB, 940, .inl f_tape))] H := hP
                have hD : va_D A [(h0, .inr (10, vL 67 F732)), (h_tape, .inl (cB, 940, .inl f_tape))] := hD
                exact ret_v hx hb hr hlocks hS hP hD dX10_next_336 (Nat.le_of_ble_eq_true rfl) (Nat.le_of_ble_eq_true rfl) ⟨F732, u714, 4, u2, u715, u716, u717, (SAME.up eF732 (SAME.tr (SAME.up eF711 (SAME.up eF710 (SAME.up eF8 (SAME.up eF7 (SAME.tr SAME.rf i4 (by decide)) (by decide)) (by decide)) (by decide)) (by decide)) i720 (by decide)) (by decide)), (get_ne eF732 (by decide) i721), i725, (get_eq eF732), (show 0 ≤ (4 : Int32).toInt ∧ (4 : Int32).toInt ≤ 4 by decide), (get_ne eF732 (by decide) (SAME.at i720 (by decide) (get_ne eF711 (by decide) (get_ne eF710 (by decide) (get_ne eF8 (by decide) (get_eq eF7)))))), (ir_wk k692 (by decide) (by decide)), (get_ne eF732 (by decide) i722), i726, (get_ne eF732 (by decide) i723), (get_ne eF732 (by decide) i724), (by omega), (by omega), (by omega), rfl⟩
              · have dc730 : u712.toInt ≠ 0 := ne_i (a := u712.toInt) (b := 0) rfl rfl c730
                have k733 : 1 ≤ u712.toInt ∧ u712.toInt ≤ 1 := ⟨ne_lo dc730 i719.1 ⟨Int.le_refl _, Int.le_refl _⟩ (by decide), i719.2⟩
                refine lv_aload_n hx hb dX10_next_303 rfl (lv_at hl 3 rfl) ?_
                refine get_f (D := D) (ci := 10) (v := .int u715) (C := RX10) (T := TX10) (N := 67) hx hb hw inAX10 hown hK hP 0 rfl rfl 13 (by decide) (hw _ q_1274) (fun _ h9 => h9) i722 dX10_next_304 ?_
                refine lv_iload_n hx hb dX10_next_307 rfl (lv_at hl 1 rfl) ?_
                refine lv_if_eq (tgt := 316) hx hb dX10_next_308 (by decide) (fun c734 => ?_) (fun c734 => ?_)
                · have dc734 : u707.toInt = 0 := eq_i (a := u707.toInt) (b := 0) rfl rfl c734
                  have k735 : 0 ≤ u707.toInt ∧ u707.toInt ≤ 0 := ⟨i709.1, Int.le_trans (Int.le_of_eq dc734) (Int.le_refl _)⟩
                  refine lv_iconst (v := 3) hx hb dX10_next_316 (by decide) ?_
                  refine lv_icmp_le (tgt := 324) hx hb dX10_next_317 (by decide) (fun c736 => ?_) (fun c736 => ?_)
                  · have dc736 : u715.toInt ≤ 3 := le_i (a := u715.toInt) (b := 3) rfl rfl c736
                    have k737 : 0 ≤ u715.toInt ∧ u715.toInt ≤ 3 := ⟨i726.1, Int.le_trans dc736 (Int.le_refl _)⟩
                    refine lv_iload_n hx hb dX10_next_324 rfl (lv_at hl 1 rfl) ?_
                    refine lv_if_eq (tgt := 332) hx hb dX10_next_325 (by decide) (fun c738 => ?_) (fun c738 => False.elim (bad_ne (ne_i (a := u707.toInt) (b := 0) rfl rfl c738) k735 ⟨Int.le_refl _, Int.le_refl _⟩ (by decide)))
                    have dc738 : u707.toInt = 0 := eq_i (a := u707.toInt) (b := 0) rfl rfl c738
                    refine lv_iconst (v := 2) hx hb dX10_next_332 (by decide) ?_
                    refine put_f (D := D) (ci := 10) (v := .int 2) (ty := .int) (C := RX10) (T := TX10) (N := 67) hx hb hw inAX10 tyX10 tyX10_ok nmX10 hown hK hP hD hS 0 rfl rfl 11 (by decide) (hw _ q_1272) (fun _ h9 => h9) rfl (by decide +kernel) rfl rfl dX10_next_333 (fun H locs F739 eF739 hP hD hS => ?_)
                    have hP : va_P D vwCl [(h0, .inr (10, vL 67 F739)), (h_tape, .inl (cB, 940, .inl f_tape))] H := hP
                    have hD : va_D A [(h0, .inr (10, vL 67 F739)), (h_tape, .inl (cB, 940, .inl f_tape))] := hD
                    exact ret_v hx hb hr hlocks hS hP hD dX10_next_336 (Nat.le_of_ble_eq_true rfl) (Nat.le_of_ble_eq_true rfl) ⟨F739, u714, 2, u2, u715, u716, u717, (SAME.up eF739 (SAME.tr (SAME.up eF711 (SAME.up eF710 (SAME.up eF8 (SAME.up eF7 (SAME.tr SAME.rf i4 (by decide)) (by decide)) (by decide)) (by decide)) (by decide)) i720 (by decide)) (by decide)), (get_ne eF739 (by decide) i721), i725, (get_eq eF739), (show 0 ≤ (2 : Int32).toInt ∧ (2 : Int32).toInt ≤ 4 by decide), (get_ne eF739 (by decide) (SAME.at i720 (by decide) (get_ne eF711 (by decide) (get_ne eF710 (by decide) (get_ne eF8 (by decide) (get_eq eF7)))))), (ir_wk k692 (by decide) (by decide)), (get_ne eF739 (by decide) i722), (ir_wk k737 (by decide) (by decide)), (get_ne eF739 (by decide) i723), (get_ne eF739 (by decide) i724), (by omega), (by omega), (by omega), rfl⟩
                  · have dc736 : 3 < u715.toInt := nle_i (a := u715.toInt) (b := 3) rfl rfl c736
                    have k740 : 4 ≤ u715.toInt ∧ u715.toInt ≤ 940 := ⟨lo_lt dc736 (Int.le_refl _) (by decide), i726.2⟩
                    refine lv_iconst (v := 4) hx hb dX10_next_320 (by decide) ?_
                    refine lv_goto (tgt := 333) hx hb dX10_next_321 (by decide) ?_
                    refine put_f (D := D) (ci := 10) (v := .int 4) (ty := .int) (C := RX10) (T := TX10) (N := 67) hx hb hw inAX10 tyX10 tyX10_ok nmX10 hown hK hP hD hS 0 rfl rfl 11 (by decide) (hw _ q_1272) (fun _ h9 => h9) rfl (by decide +kernel) rfl rfl dX10_next_333 (fun H locs F741 eF741 hP hD hS => ?_)
                    have hP : va_P D vwCl [(h0, .inr (10, vL 67 F741)), (h_tape, .inl (cB, 940, .inl f_tape))] H := hP
                    have hD : va_D A [(h0, .inr (10, vL 67 F741)), (h_tape, .inl (cB, 940, .inl f_tape))] := hD
                    exact ret_v hx hb hr hlocks hS hP hD dX10_next_336 (Nat.le_of_ble_eq_true rfl) (Nat.le_of_ble_eq_true rfl) ⟨F741, u714, 4, u2, u715, u716, u717, (SAME.up eF741 (SAME.tr (SAME.up eF711 (SAME.up eF710 (SAME.up eF8 (SAME.up eF7 (SAME.tr SAME.rf i4 (by decide)) (by decide)) (by decide)) (by decide)) (by decide)) i720 (by decide)) (by decide)), (get_ne eF741 (by decide) i721), i725, (get_eq eF741), (show 0 ≤ (4 : Int32).toInt ∧ (4 : Int32).toInt ≤ 4 by decide), (get_ne eF741 (by decide) (SAME.at i720 (by decide) (get_ne eF711 (by decide) (get_ne eF710 (by decide) (get_ne eF8 (by decide) (get_eq eF7)))))), (ir_wk k692 (by decide) (by decide)), (get_ne eF741 (by decide) i722), (ir_wk k740 (by decide) (by decide)), (get_ne eF741 (by decide) i723), (get_ne eF741 (by decide) i724), (by omega), (by omega), (by omega), rfl⟩
                · have dc734 : u707.toInt ≠ 0 := ne_i (a := u707.toInt) (b := 0) rfl rfl c734
                  have k742 : 1 ≤ u707.toInt ∧ u707.toInt ≤ 1 := ⟨ne_lo dc734 i709.1 ⟨Int.le_refl _, Int.le_refl _⟩ (by decide), i709.2⟩
                  refine lv_bipush (v := 7) hx hb dX10_next_311 (by decide) ?_
                  refine lv_goto (tgt := 317) hx hb dX10_next_313 (by decide) ?_
                  refine lv_icmp_le (tgt := 324) hx hb dX10_next_317 (by decide) (fun c743 => ?_) (fun c743 => ?_)
                  · have dc743 : u715.toInt ≤ 7 := le_i (a := u715.toInt) (b := 7) rfl rfl c743
                    have k744 : 0 ≤ u715.toInt ∧ u715.toInt ≤ 7 := ⟨i726.1, Int.le_trans dc743 (Int.le_refl _)⟩
                    refine lv_iload_n hx hb dX10_next_324 rfl (lv_at hl 1 rfl) ?_
                    refine lv_if_eq (tgt := 332) hx hb dX10_next_325 (by decide) (fun c745 => False.elim (bad_le (Int.le_of_eq (eq_i (a := u707.toInt) (b := 0) rfl rfl c745)) k742.1 (Int.le_refl _) (by decide))) (fun c745 => ?_)
                    have dc745 : u707.toInt ≠ 0 := ne_i (a := u707.toInt) (b := 0) rfl rfl c745
                    refine lv_iconst (v := 1) hx hb dX10_next_328 (by decide) ?_
                    refine lv_goto (tgt := 333) hx hb dX10_next_329 (by decide) ?_
                    refine put_f (D := D) (ci := 10) (v := .int 1) (ty := .int) (C := RX10) (T := TX10) (N := 67) hx hb hw inAX10 tyX10 tyX10_ok nmX10 hown hK hP hD hS 0 rfl rfl 11 (by decide) (hw _ q_1272) (fun _ h9 => h9) rfl (by decide +kernel) rfl rfl dX10_next_333 (fun H locs F746 eF746 hP hD hS => ?_)
                    have hP : va_P D vwCl [(h0, .inr (10, vL 67 F746)), (h_tape, .inl (cB, 940, .inl f_tape))] H := hP
                    have hD : va_D A [(h0, .inr (10, vL 67 F746)), (h_tape, .inl (cB, 940, .inl f_tape))] := hD
                    exact ret_v hx hb hr hlocks hS hP hD dX10_next_336 (Nat.le_of_ble_eq_true rfl) (Nat.le_of_ble_eq_true rfl) ⟨F746, u714, 1, u2, u715, u716, u717, (SAME.up eF746 (SAME.tr (SAME.up eF711 (SAME.up eF710 (SAME.up eF8 (SAME.up eF7 (SAME.tr SAME.rf i4 (by decide)) (by decide)) (by decide)) (by decide)) (by decide)) i720 (by decide)) (by decide)), (get_ne eF746 (by decide) i721), i725, (get_eq eF746), (show 0 ≤ (1 : Int32).toInt ∧ (1 : Int32).toInt ≤ 4 by decide), (get_ne eF746 (by decide) (SAME.at i720 (by decide) (get_ne eF711 (by decide) (get_ne eF710 (by decide) (get_ne eF8 (by decide) (get_eq eF7)))))), (ir_wk k692 (by decide) (by decide)), (get_ne eF746 (by decide) i722), (ir_wk k744 (by decide) (by decide)), (get_ne eF746 (by decide) i723), (get_ne eF746 (by decide) i724), (by omega), (by omega), (by omega), rfl⟩
                  · have dc743 : 7 < u715.toInt := nle_i (a := u715.toInt) (b := 7) rfl rfl c743
                    have k747 : 8 ≤ u715.toInt ∧ u715.toInt ≤ 940 := ⟨lo_lt dc743 (Int.le_refl _) (by decide), i726.2⟩
                    refine lv_iconst (v := 4) hx hb dX10_next_320 (by decide) ?_
                    refine lv_goto (tgt := 333) hx hb dX10_next_321 (by decide) ?_
                    refine put_f (D := D) (ci := 10) (v := .int 4) (ty := .int) (C := RX10) (T := TX10) (N := 67) hx hb hw inAX10 tyX10 tyX10_ok nmX10 hown hK hP hD hS 0 rfl rfl 11 (by decide) (hw _ q_1272) (fun _ h9 => h9) rfl (by decide +kernel) rfl rfl dX10_next_333 (fun H locs F748 eF748 hP hD hS => ?_)
                    have hP : va_P D vwCl [(h0, .inr (10, vL 67 F748)), (h_tape, .inl (cB, 940, .inl f_tape))] H := hP
                    have hD : va_D A [(h0, .inr (10, vL 67 F748)), (h_tape, .inl (cB, 940, .inl f_tape))] := hD
                    exact ret_v hx hb hr hlocks hS hP hD dX10_next_336 (Nat.le_of_ble_eq_true rfl) (Nat.le_of_ble_eq_true rfl) ⟨F748, u714, 4, u2, u715, u716, u717, (SAME.up eF748 (SAME.tr (SAME.up eF711 (SAME.up eF710 (SAME.up eF8 (SAME.up eF7 (SAME.tr SAME.rf i4 (by decide)) (by decide)) (by decide)) (by decide)) (by decide)) i720 (by decide)) (by decide)), (get_ne eF748 (by decide) i721), i725, (get_eq eF748), (show 0 ≤ (4 : Int32).toInt ∧ (4 : Int32).toInt ≤ 4 by decide), (get_ne eF748 (by decide) (SAME.at i720 (by decide) (get_ne eF711 (by decide) (get_ne eF710 (by decide) (get_ne eF8 (by decide) (get_eq eF7)))))), (ir_wk k692 (by decide) (by decide)), (get_ne eF748 (by decide) i722), (ir_wk k747 (by decide) (by decide)), (get_ne eF748 (by decide) i723), (get_ne eF748 (by decide) i724), (by omega), (by omega), (by omega), rfl⟩
            have n749 : F710 4 = .int u2 := (get_ne eF710 (by decide) n690)
            have n750 : F711 4 = .int u2 := (get_ne eF711 (by decide) n749)
            have n751 : F710 13 = .int 0 := (get_ne eF710 (by decide) (get_eq eF8))
            have n752 : F711 13 = .int 0 := (get_ne eF711 (by decide) n751)
            have n753 : F711 18 = .long 0 := (get_ne eF711 (by decide) (get_eq eF710))
            refine mloop (α := (Int32) × (Nat → Value) × (Int32) × (Int32) × (Int32) × (Int64)) (nL := 4) (D := D) (A := A) (H0 := s.heap) (fun a => (x_size.toInt - a.2.2.1.toInt).toNat) (fun a => IR 0 1 a.1 ∧ SAME [4, 13, 14, 18] F711 a.2.1 ∧ a.2.1 4 = .int a.2.2.1 ∧ a.2.1 13 = .int a.2.2.2.1 ∧ a.2.1 14 = .int a.2.2.2.2.1 ∧ a.2.1 18 = .long a.2.2.2.2.2 ∧ IR 0 940 a.2.2.1 ∧ IR 0 940 a.2.2.2.1 ∧ (0 ≤ a.2.2.2.1.toInt ∧ a.2.2.2.1.toInt ≤ a.2.2.1.toInt) ∧ (a.1.toInt = 1 → u707.toInt = 0 → (0 ≤ a.2.2.2.2.1.toInt ∧ a.2.2.2.2.1.toInt ≤ 999 ∧ (a.2.2.2.1.toInt = 0 → a.2.2.2.2.1.toInt = 0) ∧ (a.2.2.2.1.toInt = 1 → a.2.2.2.2.1.toInt ≤ 9) ∧ (a.2.2.2.1.toInt = 2 → a.2.2.2.2.1.toInt ≤ 99))) ∧ ((x_token.toInt = 2 → 0 ≤ a.2.2.2.2.1.toInt ∧ a.2.2.2.2.1.toInt ≤ 999))) (fun a => [(h0, .inr (10, vL 67 a.2.1)), (h_tape, .inl (cB, 940, .inl f_tape))]) (fun a => [(3, .int a.1), (2, .int u707), (1, .int v704), (0, .ref h0)]) (fun H locs ls => W p l e ({ frames := 1, cells := 0, slots := 0, locals := 20 } : Room) s m [.ref h0].toArray below meth c H locs 0 0 (MQ below (va_Qv (fun (u : va_W) => ∃ (Gh : Nat → Value) (y_p : Int32) (y_token : Int32) (y_at : Int32) (y_span : Int32) (y_number : Int32) (y_word : Int64), SAME [4, 11, 12, 13, 14, 18] Fh Gh ∧ Gh 4 = .int y_p ∧ IR 0 940 y_p ∧ Gh 11 = .int y_token ∧ IR 0 4 y_token ∧ Gh 12 = .int y_at ∧ IR 0 940 y_at ∧ Gh 13 = .int y_span ∧ IR 0 940 y_span ∧ Gh 14 = .int y_number ∧ Gh 18 = .long y_word ∧ (x_p.toInt ≤ y_p.toInt) ∧ ((1 ≤ y_token.toInt → y_token.toInt ≤ 3 → x_p.toInt < y_p.toInt)) ∧ ((y_token.toInt = 2 → 0 ≤ y_number.toInt ∧ y_number.toInt ≤ 999)) ∧ u = [(h0, .inr (10, vL 67 Gh)), (h_tape, .inl (cB, 940, .inl f_tape))]) (PO D A) A) [.ref h0].toArray s 0 0 A) (F0 m 181 ls [])) ?_ (1, F711, u2, 0, 0, 0) ⟨(show 0 ≤ (1 : Int32).toInt ∧ (1 : Int32).toInt ≤ 1 by decide), SAME.rf, n750, n752, (get_eq eF711), n753, (ir_wk k692 (by decide) (by decide)), (show 0 ≤ (0 : Int32).toInt ∧ (0 : Int32).toInt ≤ 940 by decide), (by show 0 ≤ 0 ∧ 0 ≤ u2.toInt; omega), (by show 1 = 1 → u707.toInt = 0 → (0 ≤ 0 ∧ 0 ≤ 999 ∧ (0 = 0 → 0 = 0) ∧ (0 = 1 → 0 ≤ 9) ∧ (0 = 2 → 0 ≤ 99)); omega), (by show (x_token.toInt = 2 → 0 ≤ 0 ∧ 0 ≤ 999); omega)⟩ _ _ _ hP hD hS hl
            rintro ⟨u712, G713, u714, u715, u716, u717⟩ ⟨i754, i755, i756, i757, i758, i759, i760, i761, i762, i763, i764⟩ ih H locs ls hP hD hS hl
            have i754 : 0 ≤ u712.toInt ∧ u712.toInt ≤ 1 := i754
            have i760 : 0 ≤ u714.toInt ∧ u714.toInt ≤ 940 := i760
            have i761 : 0 ≤ u715.toInt ∧ u715.toInt ≤ 940 := i761
            have i762 : 0 ≤ u715.toInt ∧ u715.toInt ≤ u714.toInt := i762
            have i763 : u712.toInt = 1 → u707.toInt = 0 → (0 ≤ u716.toInt ∧ u716.toInt ≤ 999 ∧ (u715.toInt = 0 → u716.toInt = 0) ∧ (u715.toInt = 1 → u716.toInt ≤ 9) ∧ (u715.toInt = 2 → u716.toInt ≤ 99)) := i763
            have i764 : (x_token.toInt = 2 → 0 ≤ u716.toInt ∧ u716.toInt ≤ 999) := i764
            have hP : va_P D vwCl [(h0, .inr (10, vL 67 G713)), (h_tape, .inl (cB, 940, .inl f_tape))] H := hP
            have hD : va_D A [(h0, .inr (10, vL 67 G713)), (h_tape, .inl (cB, 940, .inl f_tape))] := hD
            have hl : lv_has ls 4 [(3, .int u712), (2, .int u707), (1, .int v704), (0, .ref h0)] := hl
            refine lv_aload_n hx hb dX10_next_181 rfl (lv_at hl 3 rfl) ?_
            have n765 : F710 1 = .ref h_tape := (get_ne eF710 (by decide) n695)
            have n766 : F711 1 = .ref h_tape := (get_ne eF711 (by decide) n765)
            have n767 : G713 1 = .ref h_tape := (SAME.at i755 (by decide) n766)
            have n768 : F710 3 = .int x_size := (get_ne eF710 (by decide) n11)
            have n769 : F711 3 = .int x_size := (get_ne eF711 (by decide) n768)
            have n770 : G713 3 = .int x_size := (SAME.at i755 (by decide) n769)
            refine call_Vi (wr := []) (As := []) (rest := []) hx hb hml hown hw (m_X10_peek l D cI cJ cB cP cM cZ h0 h_tape G713 x_size u714 f_tape _ n767 n770 (ir_wk k688 (by decide) (by decide)) i756 i760) wV_X10_169_X10_peek dX10_next_182 hK hP hD hS hA [0, 1] [] rfl rfl (by decide) (by decide) (by decide) 0 10 rfl rfl GG.fb hG.at hl.1 rfl (Nat.le_of_ble_eq_true rfl) ⟨(Nat.le_of_ble_eq_true rfl), (Nat.le_of_ble_eq_true rfl)⟩ ⟨(Nat.le_of_ble_eq_true rfl), (Nat.le_of_ble_eq_true rfl)⟩ (fun r771 u H locs hp hP hD hS => ?_)
            rcases hp with ⟨t772, rfl, rfl⟩ | ⟨t773, t774, rfl, rfl⟩
            · have hP : va_P D vwCl [(h0, .inr (10, vL 67 G713)), (h_tape, .inl (cB, 940, .inl f_tape))] H := hP
              have hD : va_D A [(h0, .inr (10, vL 67 G713)), (h_tape, .inl (cB, 940, .inl f_tape))] := hD
              refine W.widen (k := 0) (n := 0) (Nat.le_of_ble_eq_true rfl) (Nat.le_of_ble_eq_true rfl) ?_
              have k776 : 201 ≤ u714.toInt ∧ u714.toInt ≤ 940 := ⟨Int.le_trans k688.1 t772, i760.2⟩
              refine call_Si (wr := [(h0, .inr (10, vL 67 G713)), (h_tape, .inl (cB, 940, .inl f_tape))]) (As := [.int (-1)]) (rest := []) hx hb hml hown hw (m_X10_isSmall l D cI cJ cB cP cM cZ (-1) _ ) wS_X10_182_X10_isSmall dX10_next_185 hP hD hS hA [] [0, 1] rfl rfl (by decide) (by decide) (by decide) GG.fb hG.at hl.1 rfl (Nat.le_of_ble_eq_true rfl) ⟨(Nat.le_of_ble_eq_true rfl), (Nat.le_of_ble_eq_true rfl)⟩ ⟨(Nat.le_of_ble_eq_true rfl), (Nat.le_of_ble_eq_true rfl)⟩ (fun r777 u H locs hp hP hD hS => ?_)
              rcases hp with ⟨t778, rfl, rfl⟩ | ⟨t779, t780, rfl, rfl⟩ | ⟨t781, t782, rfl, rfl⟩
              · have hP : va_P D vwCl [(h0, .inr (10, vL 67 G713)), (h_tape, .inl (cB, 940, .inl f_tape))] H := hP
                have hD : va_D A [(h0, .inr (10, vL 67 G713)), (h_tape, .inl (cB, 940, .inl f_tape))] := hD
                refine W.widen (k := 0) (n := 0) (Nat.le_of_ble_eq_true rfl) (Nat.le_of_ble_eq_true rfl) ?_
                refine lv_if_ne (tgt := 201) hx hb dX10_next_188 (by decide) (fun g => absurd (by decide) g) (fun _ => ?_)
                refine lv_aload_n hx hb dX10_next_191 rfl (lv_at hl 3 rfl) ?_
                refine call_Vi (wr := []) (As := []) (rest := []) hx hb hml hown hw (m_X10_peek l D cI cJ cB cP cM cZ h0 h_tape G713 x_size u714 f_tape _ n767 n770 (ir_wk k688 (by decide) (by decide)) i756 (ir_wk k776 (by decide) (by decide))) wV_X10_169_X10_peek dX10_next_192 hK hP hD hS hA [0, 1] [] rfl rfl (by decide) (by decide) (by decide) 0 10 rfl rfl GG.fb hG.at hl.1 rfl (Nat.le_of_ble_eq_true rfl) ⟨(Nat.le_of_ble_eq_true rfl), (Nat.le_of_ble_eq_true rfl)⟩ ⟨(Nat.le_of_ble_eq_true rfl), (Nat.le_of_ble_eq_true rfl)⟩ (fun r784 u H locs hp hP hD hS => ?_)
                rcases hp with ⟨t785, rfl, rfl⟩ | ⟨t786, t787, rfl, rfl⟩
                · have hP : va_P D vwCl [(h0, .inr (10, vL 67 G713)), (h_tape, .inl (cB, 940, .inl f_tape))] H := hP
                  have hD : va_D A [(h0, .inr (10, vL 67 G713)), (h_tape, .inl (cB, 940, .inl f_tape))] := hD
                  refine W.widen (k := 0) (n := 0) (Nat.le_of_ble_eq_true rfl) (Nat.le_of_ble_eq_true rfl) ?_
                  refine call_Si (wr := [(h0, .inr (10, vL 67 G713)), (h_tape, .inl (cB, 940, .inl f_tape))]) (As := [.int (-1)]) (rest := []) hx hb hml hown hw (m_X10_isDigit l D cI cJ cB cP cM cZ (-1) _ ) wS_X10_186_X10_isDigit dX10_next_195 hP hD hS hA [] [0, 1] rfl rfl (by decide) (by decide) (by decide) GG.fb hG.at hl.1 rfl (Nat.le_of_ble_eq_true rfl) ⟨(Nat.le_of_ble_eq_true rfl), (Nat.le_of_ble_eq_true rfl)⟩ ⟨(Nat.le_of_ble_eq_true rfl), (Nat.le_of_ble_eq_true rfl)⟩ (fun r789 u H locs hp hP hD hS => ?_)
                  rcases hp with ⟨t790, rfl, rfl⟩ | ⟨t791, t792, rfl, rfl⟩ | ⟨t793, t794, rfl, rfl⟩
                  · have hP : va_P D vwCl [(h0, .inr (10, vL 67 G713)), (h_tape, .inl (cB, 940, .inl f_tape))] H := hP
                    have hD : va_D A [(h0, .inr (10, vL 67 G713)), (h_tape, .inl (cB, 940, .inl f_tape))] := hD
                    refine W.widen (k := 0) (n := 0) (Nat.le_of_ble_eq_true rfl) (Nat.le_of_ble_eq_true rfl) ?_
                    refine lv_if_eq (tgt := 298) hx hb dX10_next_198 (by decide) (fun _ => ?_) (fun g => absurd (by decide) g)
                    exact cut718 u712 G713 u714 u715 u716 u717 i754 (SAME.tr SAME.rf i755 (by decide)) i756 i757 i758 i759 (ir_wk k776 (by decide) (by decide)) i761 (by show 0 ≤ u715.toInt ∧ u715.toInt ≤ u714.toInt; omega) (by show u712.toInt = 1 → u707.toInt = 0 → (0 ≤ u716.toInt ∧ u716.toInt ≤ 999 ∧ (u715.toInt = 0 → u716.toInt = 0) ∧ (u715.toInt = 1 → u716.toInt ≤ 9) ∧ (u715.toInt = 2 → u716.toInt ≤ 99)); omega) (by show (x_token.toInt = 2 → 0 ≤ u716.toInt ∧ u716.toInt ≤ 999); omega) _ _ _ hP hD hS (lv_sub hl [0, 1, 2, 3] rfl)
                  · have hP : va_P D vwCl [(h0, .inr (10, vL 67 G713)), (h_tape, .inl (cB, 940, .inl f_tape))] H := hP
                    have hD : va_D A [(h0, .inr (10, vL 67 G713)), (h_tape, .inl (cB, 940, .inl f_tape))] := hD
                    refine W.widen (k := 0) (n := 0) (Nat.le_of_ble_eq_true rfl) (Nat.le_of_ble_eq_true rfl) ?_
                    exact absurd t791 (by decide)
                  · have hP : va_P D vwCl [(h0, .inr (10, vL 67 G713)), (h_tape, .inl (cB, 940, .inl f_tape))] H := hP
                    have hD : va_D A [(h0, .inr (10, vL 67 G713)), (h_tape, .inl (cB, 940, .inl f_tape))] := hD
                    refine W.widen (k := 0) (n := 0) (Nat.le_of_ble_eq_true rfl) (Nat.le_of_ble_eq_true rfl) ?_
                    exact absurd t793 (by decide)
                · have hP : va_P D vwCl [(h0, .inr (10, vL 67 G713)), (h_tape, .inl (cB, 940, .inl f_tape))] H := hP
                  have hD : va_D A [(h0, .inr (10, vL 67 G713)), (h_tape, .inl (cB, 940, .inl f_tape))] := hD
                  refine W.widen (k := 0) (n := 0) (Nat.le_of_ble_eq_true rfl) (Nat.le_of_ble_eq_true rfl) ?_
                  refine lv_topi (fun v796 ev796 => ?_)
                  have k797 : 0 ≤ v796.toInt ∧ v796.toInt ≤ 255 := by rw [ev796]; exact t786
                  have k798 : 201 ≤ u714.toInt ∧ u714.toInt ≤ 939 := ⟨k776.1, up_lt t787 k688.2 (by decide)⟩
                  have k799 : 202 ≤ x_size.toInt ∧ x_size.toInt ≤ 940 := ⟨lo_lt t787 k776.1 (by decide), k688.2⟩
                  refine call_Si (wr := [(h0, .inr (10, vL 67 G713)), (h_tape, .inl (cB, 940, .inl f_tape))]) (As := [.int v796]) (rest := []) hx hb hml hown hw (m_X10_isDigit l D cI cJ cB cP cM cZ v796 _ ) wS_X10_186_X10_isDigit dX10_next_195 hP hD hS hA [] [0, 1] rfl rfl (by decide) (by decide) (by decide) GG.fb hG.at hl.1 rfl (Nat.le_of_ble_eq_true rfl) ⟨(Nat.le_of_ble_eq_true rfl), (Nat.le_of_ble_eq_true rfl)⟩ ⟨(Nat.le_of_ble_eq_true rfl), (Nat.le_of_ble_eq_true rfl)⟩ (fun r800 u H locs hp hP hD hS => ?_)
                  rcases hp with ⟨t801, rfl, rfl⟩ | ⟨t802, t803, rfl, rfl⟩ | ⟨t804, t805, rfl, rfl⟩
                  · have hP : va_P D vwCl [(h0, .inr (10, vL 67 G713)), (h_tape, .inl (cB, 940, .inl f_tape))] H := hP
                    have hD : va_D A [(h0, .inr (10, vL 67 G713)), (h_tape, .inl (cB, 940, .inl f_tape))] := hD
                    refine W.widen (k := 0) (n := 0) (Nat.le_of_ble_eq_true rfl) (Nat.le_of_ble_eq_true rfl) ?_
                    have k807 : 0 ≤ v796.toInt ∧ v796.toInt ≤ 47 := ⟨k797.1, up_lt t801 (Int.le_refl _) (by decide)⟩
                    refine lv_if_eq (tgt := 298) hx hb dX10_next_198 (by decide) (fun _ => ?_) (fun g => absurd (by decide) g)
                    exact cut718 u712 G713 u714 u715 u716 u717 i754 (SAME.tr SAME.rf i755 (by decide)) i756 i757 i758 i759 (ir_wk k798 (by decide) (by decide)) i761 (by show 0 ≤ u715.toInt ∧ u715.toInt ≤ u714.toInt; omega) (by show u712.toInt = 1 → u707.toInt = 0 → (0 ≤ u716.toInt ∧ u716.toInt ≤ 999 ∧ (u715.toInt = 0 → u716.toInt = 0) ∧ (u715.toInt = 1 → u716.toInt ≤ 9) ∧ (u715.toInt = 2 → u716.toInt ≤ 99)); omega) (by show (x_token.toInt = 2 → 0 ≤ u716.toInt ∧ u716.toInt ≤ 999); omega) _ _ _ hP hD hS (lv_sub hl [0, 1, 2, 3] rfl)
                  · have hP : va_P D vwCl [(h0, .inr (10, vL 67 G713)), (h_tape, .inl (cB, 940, .inl f_tape))] H := hP
                    have hD : va_D A [(h0, .inr (10, vL 67 G713)), (h_tape, .inl (cB, 940, .inl f_tape))] := hD
                    refine W.widen (k := 0) (n := 0) (Nat.le_of_ble_eq_true rfl) (Nat.le_of_ble_eq_true rfl) ?_
                    have k808 : 48 ≤ v796.toInt ∧ v796.toInt ≤ 255 := ⟨Int.le_trans (Int.le_refl _) t802, k797.2⟩
                    have k809 : 58 ≤ v796.toInt ∧ v796.toInt ≤ 255 := ⟨lo_lt t803 (Int.le_refl _) (by decide), k808.2⟩
                    refine lv_if_eq (tgt := 298) hx hb dX10_next_198 (by decide) (fun _ => ?_) (fun g => absurd (by decide) g)
                    exact cut718 u712 G713 u714 u715 u716 u717 i754 (SAME.tr SAME.rf i755 (by decide)) i756 i757 i758 i759 (ir_wk k798 (by decide) (by decide)) i761 (by show 0 ≤ u715.toInt ∧ u715.toInt ≤ u714.toInt; omega) (by show u712.toInt = 1 → u707.toInt = 0 → (0 ≤ u716.toInt ∧ u716.toInt ≤ 999 ∧ (u715.toInt = 0 → u716.toInt = 0) ∧ (u715.toInt = 1 → u716.toInt ≤ 9) ∧ (u715.toInt = 2 → u716.toInt ≤ 99)); omega) (by show (x_token.toInt = 2 → 0 ≤ u716.toInt ∧ u716.toInt ≤ 999); omega) _ _ _ hP hD hS (lv_sub hl [0, 1, 2, 3] rfl)
                  · have hP : va_P D vwCl [(h0, .inr (10, vL 67 G713)), (h_tape, .inl (cB, 940, .inl f_tape))] H := hP
                    have hD : va_D A [(h0, .inr (10, vL 67 G713)), (h_tape, .inl (cB, 940, .inl f_tape))] := hD
                    refine W.widen (k := 0) (n := 0) (Nat.le_of_ble_eq_true rfl) (Nat.le_of_ble_eq_true rfl) ?_
                    have k810 : 48 ≤ v796.toInt ∧ v796.toInt ≤ 255 := ⟨Int.le_trans (Int.le_refl _) t804, k797.2⟩
                    have k811 : 48 ≤ v796.toInt ∧ v796.toInt ≤ 57 := ⟨k810.1, Int.le_trans t805 (Int.le_refl _)⟩
                    refine lv_if_eq (tgt := 298) hx hb dX10_next_198 (by decide) (fun g => absurd g (by decide)) (fun _ => ?_)
                    have cut813 : ∀ (u812 : Int32) (_ : IR 0 1 u812) (_ : ((u812.toInt = 1 → u707.toInt = 0 → (48 ≤ v796.toInt ∧ v796.toInt ≤ 57 ∧ 0 ≤ u716.toInt ∧ u716.toInt ≤ 999 ∧ (u715.toInt = 0 → u716.toInt = 0) ∧ (u715.toInt = 1 → u716.toInt ≤ 9) ∧ (u715.toInt = 2 → u716.toInt ≤ 99))))) (H : Heap) (locs : List Loc) (ls : Array Slot), va_P D vwCl [(h0, .inr (10, vL 67 G713)), (h_tape, .inl (cB, 940, .inl f_tape))] H → va_D A [(h0, .inr (10, vL 67 G713)), (h_tape, .inl (cB, 940, .inl f_tape))] → va_S A s.heap H locs → lv_has ls 4 [(3, .int u812), (2, .int u707), (1, .int v704), (0, .ref h0)] → W p l e ({ frames := 1, cells := 0, slots := 0, locals := 20 } : Room) s m [.ref h0].toArray below meth c H locs 0 0 (MQ below (va_Qv (fun (u : va_W) => ∃ (Gh : Nat → Value) (y_p : Int32) (y_token : Int32) (y_at : Int32) (y_span : Int32) (y_number : Int32) (y_word : Int64), SAME [4, 11, 12, 13, 14, 18] Fh Gh ∧ Gh 4 = .int y_p ∧ IR 0 940 y_p ∧ Gh 11 = .int y_token ∧ IR 0 4 y_token ∧ Gh 12 = .int y_at ∧ IR 0 940 y_at ∧ Gh 13 = .int y_span ∧ IR 0 940 y_span ∧ Gh 14 = .int y_number ∧ Gh 18 = .long y_word ∧ (x_p.toInt ≤ y_p.toInt) ∧ ((1 ≤ y_token.toInt → y_token.toInt ≤ 3 → x_p.toInt < y_p.toInt)) ∧ ((y_token.toInt = 2 → 0 ≤ y_number.toInt ∧ y_number.toInt ≤ 999)) ∧ u = [(h0, .inr (10, vL 67 Gh)), (h_tape, .inl (cB, 940, .inl f_tape))]) (PO D A) A) [.ref h0].toArray s 0 0 A) (F0 m 222 ls []) := by
                      intro u812 i814 i815 H locs ls hP hD hS hl
                      have i814 : 0 ≤ u812.toInt ∧ u812.toInt ≤ 1 := i814
                      have i815 : (u812.toInt = 1 → u707.toInt = 0 → (48 ≤ v796.toInt ∧ v796.toInt ≤ 57 ∧ 0 ≤ u716.toInt ∧ u716.toInt ≤ 999 ∧ (u715.toInt = 0 → u716.toInt = 0) ∧ (u715.toInt = 1 → u716.toInt ≤ 9) ∧ (u715.toInt = 2 → u716.toInt ≤ 99))) := i815
                      have cut818 : ∀ (G816 : Nat → Value) (u817 : Int64) (_ : SAME [18] G713 G816) (_ : G816 18 = .long u817) (H : Heap) (locs : List Loc) (ls : Array Slot), va_P D vwCl [(h0, .inr (10, vL 67 G816)), (h_tape, .inl (cB, 940, .inl f_tape))] H → va_D A [(h0, .inr (10, vL 67 G816)), (h_tape, .inl (cB, 940, .inl f_tape))] → va_S A s.heap H locs → lv_has ls 4 [(3, .int u812), (2, .int u707), (1, .int v704), (0, .ref h0)] → W p l e ({ frames := 1, cells := 0, slots := 0, locals := 20 } : Room) s m [.ref h0].toArray below meth c H locs 0 0 (MQ below (va_Qv (fun (u : va_W) => ∃ (Gh : Nat → Value) (y_p : Int32) (y_token : Int32) (y_at : Int32) (y_span : Int32) (y_number : Int32) (y_word : Int64), SAME [4, 11, 12, 13, 14, 18] Fh Gh ∧ Gh 4 = .int y_p ∧ IR 0 940 y_p ∧ Gh 11 = .int y_token ∧ IR 0 4 y_token ∧ Gh 12 = .int y_at ∧ IR 0 940 y_at ∧ Gh 13 = .int y_span ∧ IR 0 940 y_span ∧ Gh 14 = .int y_number ∧ Gh 18 = .long y_word ∧ (x_p.toInt ≤ y_p.toInt) ∧ ((1 ≤ y_token.toInt → y_token.toInt ≤ 3 → x_p.toInt < y_p.toInt)) ∧ ((y_token.toInt = 2 → 0 ≤ y_number.toInt ∧ y_number.toInt ≤ 999)) ∧ u = [(h0, .inr (10, vL 67 Gh)), (h_tape, .inl (cB, 940, .inl f_tape))]) (PO D A) A) [.ref h0].toArray s 0 0 A) (F0 m 248 ls []) := by
                        intro G816 u817 i819 i820 H locs ls hP hD hS hl
                        refine lv_aload_n hx hb dX10_next_248 rfl (lv_at hl 3 rfl) ?_
                        have n821 : G816 13 = .int u715 := (SAME.at i819 (by decide) i757)
                        refine get_f (D := D) (ci := 10) (v := .int u715) (C := RX10) (T := TX10) (N := 67) hx hb hw inAX10 hown hK hP 0 rfl rfl 13 (by decide) (hw _ q_1274) (fun _ h9 => h9) n821 dX10_next_249 ?_
                        refine lv_iconst (v := 3) hx hb dX10_next_252 (by decide) ?_
                        refine lv_icmp_ge (tgt := 275) hx hb dX10_next_253 (by decide) (fun c822 => ?_) (fun c822 => ?_)
                        · have dc822 : 3 ≤ u715.toInt := le_i (a := 3) (b := u715.toInt) rfl rfl c822
                          have k823 : 3 ≤ u715.toInt ∧ u715.toInt ≤ 940 := ⟨Int.le_trans (Int.le_refl _) dc822, i761.2⟩
                          refine lv_aload_n hx hb dX10_next_275 rfl (lv_at hl 3 rfl) ?_
                          refine lv_dup hx hb dX10_next_276 rfl ?_
                          refine get_f (D := D) (ci := 10) (v := .int u715) (C := RX10) (T := TX10) (N := 67) hx hb hw inAX10 hown hK hP 0 rfl rfl 13 (by decide) (hw _ q_1274) (fun _ h9 => h9) n821 dX10_next_277 ?_
                          refine lv_iconst (v := 1) hx hb dX10_next_280 (by decide) ?_
                          refine lv_iadd hx hb dX10_next_281 ?_
                          refine lv_topi (fun v824 ev824 => ?_)
                          have bv824 : v824.toInt = u715.toInt + 1 := by rw [ev824]; exact add_k rfl rfl k823 ⟨Int.le_refl _, Int.le_refl _⟩ (by decide)
                          have k825 : 4 ≤ v824.toInt ∧ v824.toInt ≤ 941 := add_r bv824 k823 ⟨Int.le_refl _, Int.le_refl _⟩ (by decide)
                          refine put_f (D := D) (ci := 10) (v := .int v824) (ty := .int) (C := RX10) (T := TX10) (N := 67) hx hb hw inAX10 tyX10 tyX10_ok nmX10 hown hK hP hD hS 0 rfl rfl 13 (by decide) (hw _ q_1274) (fun _ h9 => h9) rfl (by decide +kernel) rfl rfl dX10_next_282 (fun H locs F826 eF826 hP hD hS => ?_)
                          have hP : va_P D vwCl [(h0, .inr (10, vL 67 F826)), (h_tape, .inl (cB, 940, .inl f_tape))] H := hP
                          have hD : va_D A [(h0, .inr (10, vL 67 F826)), (h_tape, .inl (cB, 940, .inl f_tape))] := hD
                          refine lv_aload_n hx hb dX10_next_285 rfl (lv_at hl 3 rfl) ?_
                          refine lv_dup hx hb dX10_next_286 rfl ?_
                          have n827 : G816 4 = .int u714 := (SAME.at i819 (by decide) i756)
                          have n828 : F826 4 = .int u714 := (get_ne eF826 (by decide) n827)
                          refine get_f (D := D) (ci := 10) (v := .int u714) (C := RX10) (T := TX10) (N := 67) hx hb hw inAX10 hown hK hP 0 rfl rfl 4 (by decide) (hw _ q_1265) (fun _ h9 => h9) n828 dX10_next_287 ?_
                          refine lv_iconst (v := 1) hx hb dX10_next_290 (by decide) ?_
                          refine lv_iadd hx hb dX10_next_291 ?_
                          refine lv_topi (fun v829 ev829 => ?_)
                          have bv829 : v829.toInt = u714.toInt + 1 := by rw [ev829]; exact add_k rfl rfl k798 ⟨Int.le_refl _, Int.le_refl _⟩ (by decide)
                          have k830 : 202 ≤ v829.toInt ∧ v829.toInt ≤ 940 := add_r bv829 k798 ⟨Int.le_refl _, Int.le_refl _⟩ (by decide)
                          refine put_f (D := D) (ci := 10) (v := .int v829) (ty := .int) (C := RX10) (T := TX10) (N := 67) hx hb hw inAX10 tyX10 tyX10_ok nmX10 hown hK hP hD hS 0 rfl rfl 4 (by decide) (hw _ q_1265) (fun _ h9 => h9) rfl (by decide +kernel) rfl rfl dX10_next_292 (fun H locs F831 eF831 hP hD hS => ?_)
                          have hP : va_P D vwCl [(h0, .inr (10, vL 67 F831)), (h_tape, .inl (cB, 940, .inl f_tape))] H := hP
                          have hD : va_D A [(h0, .inr (10, vL 67 F831)), (h_tape, .inl (cB, 940, .inl f_tape))] := hD
                          refine lv_goto (tgt := 181) hx hb dX10_next_295 (by decide) ?_
                          have n832 : F831 13 = .int v824 := (get_ne eF831 (by decide) (get_eq eF826))
                          have n833 : G816 14 = .int u716 := (SAME.at i819 (by decide) i758)
                          have n834 : F826 14 = .int u716 := (get_ne eF826 (by decide) n833)
                          have n835 : F831 14 = .int u716 := (get_ne eF831 (by decide) n834)
                          have n836 : F826 18 = .long u817 := (get_ne eF826 (by decide) i820)
                          have n837 : F831 18 = .long u817 := (get_ne eF831 (by decide) n836)
                          exact ih (u812, F831, v829, v824, u716, u817) ⟨i814, (SAME.up eF831 (SAME.up eF826 (SAME.tr (SAME.tr SAME.rf i755 (by decide)) i819 (by decide)) (by decide)) (by decide)), (get_eq eF831), n832, n835, n837, (ir_wk k830 (by decide) (by decide)), ⟨by omega, by omega⟩, (by show 0 ≤ v824.toInt ∧ v824.toInt ≤ v829.toInt; omega), (by show u812.toInt = 1 → u707.toInt = 0 → (0 ≤ u716.toInt ∧ u716.toInt ≤ 999 ∧ (v824.toInt = 0 → u716.toInt = 0) ∧ (v824.toInt = 1 → u716.toInt ≤ 9) ∧ (v824.toInt = 2 → u716.toInt ≤ 99)); omega), (by show (x_token.toInt = 2 → 0 ≤ u716.toInt ∧ u716.toInt ≤ 999); omega)⟩ (by show (x_size.toInt - v829.toInt).toNat < (x_size.toInt - u714.toInt).toNat; omega) _ _ _ hP hD hS (lv_sub hl [0, 1, 2, 3] rfl)
                        · have dc822 : u715.toInt < 3 := nle_i (a := 3) (b := u715.toInt) rfl rfl c822
                          have k838 : 0 ≤ u715.toInt ∧ u715.toInt ≤ 2 := ⟨i761.1, up_lt dc822 (Int.le_refl _) (by decide)⟩
                          refine lv_aload_n hx hb dX10_next_256 rfl (lv_at hl 3 rfl) ?_
                          refine lv_bipush (v := 10) hx hb dX10_next_257 (by decide) ?_
                          refine lv_aload_n hx hb dX10_next_259 rfl (lv_at hl 3 rfl) ?_
                          have n839 : G816 14 = .int u716 := (SAME.at i819 (by decide) i758)
                          refine get_f (D := D) (ci := 10) (v := .int u716) (C := RX10) (T := TX10) (N := 67) hx hb hw inAX10 hown hK hP 0 rfl rfl 14 (by decide) (hw _ q_1275) (fun _ h9 => h9) n839 dX10_next_260 ?_
                          refine lv_imul hx hb dX10_next_263 ?_
                          refine lv_topi (fun v840 ev840 => ?_)
                          refine lv_aload_n hx hb dX10_next_264 rfl (lv_at hl 3 rfl) ?_
                          have n841 : G816 1 = .ref h_tape := (SAME.at i819 (by decide) n767)
                          have n842 : G816 3 = .int x_size := (SAME.at i819 (by decide) n770)
                          have n843 : G816 4 = .int u714 := (SAME.at i819 (by decide) i756)
                          refine call_Vi (wr := []) (As := []) (rest := [.int v840, .ref h0]) hx hb hml hown hw (m_X10_peek l D cI cJ cB cP cM cZ h0 h_tape G816 x_size u714 f_tape _ n841 n842 (ir_wk k799 (by decide) (by decide)) n843 (ir_wk k798 (by decide) (by decide))) wV_X10_169_X10_peek dX10_next_265 hK hP hD hS hA [0, 1] [] rfl rfl (by decide) (by decide) (by decide) 0 10 rfl rfl GG.fb hG.at hl.1 rfl (Nat.le_of_ble_eq_true rfl) ⟨(Nat.le_of_ble_eq_true rfl), (Nat.le_of_ble_eq_true rfl)⟩ ⟨(Nat.le_of_ble_eq_true rfl), (Nat.le_of_ble_eq_true rfl)⟩ (fun r844 u H locs hp hP hD hS => ?_)
                          rcases hp with ⟨t845, rfl, rfl⟩ | ⟨t846, t847, rfl, rfl⟩
                          · have hP : va_P D vwCl [(h0, .inr (10, vL 67 G816)), (h_tape, .inl (cB, 940, .inl f_tape))] H := hP
                            have hD : va_D A [(h0, .inr (10, vL 67 G816)), (h_tape, .inl (cB, 940, .inl f_tape))] := hD
                            refine W.widen (k := 0) (n := 0) (Nat.le_of_ble_eq_true rfl) (Nat.le_of_ble_eq_true rfl) ?_
                            have k849 : 202 ≤ x_size.toInt ∧ x_size.toInt ≤ 939 := ⟨k799.1, Int.le_trans t845 k798.2⟩
                            have k850 : 202 ≤ u714.toInt ∧ u714.toInt ≤ 939 := ⟨Int.le_trans k799.1 t845, k798.2⟩
                            refine lv_iadd hx hb dX10_next_268 ?_
                            refine lv_topi (fun v851 ev851 => ?_)
                            refine lv_bipush (v := 48) hx hb dX10_next_269 (by decide) ?_
                            refine lv_isub hx hb dX10_next_271 ?_
                            refine lv_topi (fun v852 ev852 => ?_)
                            refine put_f (D := D) (ci := 10) (v := .int v852) (ty := .int) (C := RX10) (T := TX10) (N := 67) hx hb hw inAX10 tyX10 tyX10_ok nmX10 hown hK hP hD hS 0 rfl rfl 14 (by decide) (hw _ q_1275) (fun _ h9 => h9) rfl (by decide +kernel) rfl rfl dX10_next_272 (fun H locs F853 eF853 hP hD hS => ?_)
                            have hP : va_P D vwCl [(h0, .inr (10, vL 67 F853)), (h_tape, .inl (cB, 940, .inl f_tape))] H := hP
                            have hD : va_D A [(h0, .inr (10, vL 67 F853)), (h_tape, .inl (cB, 940, .inl f_tape))] := hD
                            refine lv_aload_n hx hb dX10_next_275 rfl (lv_at hl 3 rfl) ?_
                            refine lv_dup hx hb dX10_next_276 rfl ?_
                            have n854 : F853 13 = .int u715 := (get_ne eF853 (by decide) n821)
                            refine get_f (D := D) (ci := 10) (v := .int u715) (C := RX10) (T := TX10) (N := 67) hx hb hw inAX10 hown hK hP 0 rfl rfl 13 (by decide) (hw _ q_1274) (fun _ h9 => h9) n854 dX10_next_277 ?_
                            refine lv_iconst (v := 1) hx hb dX10_next_280 (by decide) ?_
                            refine lv_iadd hx hb dX10_next_281 ?_
                            refine lv_topi (fun v855 ev855 => ?_)
                            have bv855 : v855.toInt = u715.toInt + 1 := by rw [ev855]; exact add_k rfl rfl k838 ⟨Int.le_refl _, Int.le_refl _⟩ (by decide)
                            have k856 : 1 ≤ v855.toInt ∧ v855.toInt ≤ 3 := add_r bv855 k838 ⟨Int.le_refl _, Int.le_refl _⟩ (by decide)
                            refine put_f (D := D) (ci := 10) (v := .int v855) (ty := .int) (C := RX10) (T := TX10) (N := 67) hx hb hw inAX10 tyX10 tyX10_ok nmX10 hown hK hP hD hS 0 rfl rfl 13 (by decide) (hw _ q_1274) (fun _ h9 => h9) rfl (by decide +kernel) rfl rfl dX10_next_282 (fun H locs F857 eF857 hP hD hS => ?_)
                            have hP : va_P D vwCl [(h0, .inr (10, vL 67 F857)), (h_tape, .inl (cB, 940, .inl f_tape))] H := hP
                            have hD : va_D A [(h0, .inr (10, vL 67 F857)), (h_tape, .inl (cB, 940, .inl f_tape))] := hD
                            refine lv_aload_n hx hb dX10_next_285 rfl (lv_at hl 3 rfl) ?_
                            refine lv_dup hx hb dX10_next_286 rfl ?_
                            have n858 : F853 4 = .int u714 := (get_ne eF853 (by decide) n843)
                            have n859 : F857 4 = .int u714 := (get_ne eF857 (by decide) n858)
                            refine get_f (D := D) (ci := 10) (v := .int u714) (C := RX10) (T := TX10) (N := 67) hx hb hw inAX10 hown hK hP 0 rfl rfl 4 (by decide) (hw _ q_1265) (fun _ h9 => h9) n859 dX10_next_287 ?_
                            refine lv_iconst (v := 1) hx hb dX10_next_290 (by decide) ?_
                            refine lv_iadd hx hb dX10_next_291 ?_
                            refine lv_topi (fun v860 ev860 => ?_)
                            have bv860 : v860.toInt = u714.toInt + 1 := by rw [ev860]; exact add_k rfl rfl k850 ⟨Int.le_refl _, Int.le_refl _⟩ (by decide)
                            have k861 : 203 ≤ v860.toInt ∧ v860.toInt ≤ 940 := add_r bv860 k850 ⟨Int.le_refl _, Int.le_refl _⟩ (by decide)
                            refine put_f (D := D) (ci := 10) (v := .int v860) (ty := .int) (C := RX10) (T := TX10) (N := 67) hx hb hw inAX10 tyX10 tyX10_ok nmX10 hown hK hP hD hS 0 rfl rfl 4 (by decide) (hw _ q_1265) (fun _ h9 => h9) rfl (by decide +kernel) rfl rfl dX10_next_292 (fun H locs F862 eF862 hP hD hS => ?_)
                            have hP : va_P D vwCl [(h0, .inr (10, vL 67 F862)), (h_tape, .inl (cB, 940, .inl f_tape))] H := hP
                            have hD : va_D A [(h0, .inr (10, vL 67 F862)), (h_tape, .inl (cB, 940, .inl f_tape))] := hD
                            refine lv_goto (tgt := 181) hx hb dX10_next_295 (by decide) ?_
                            have n863 : F862 13 = .int v855 := (get_ne eF862 (by decide) (get_eq eF857))
                            have n864 : F857 14 = .int v852 := (get_ne eF857 (by decide) (get_eq eF853))
                            have n865 : F862 14 = .int v852 := (get_ne eF862 (by decide) n864)
                            have n866 : F853 18 = .long u817 := (get_ne eF853 (by decide) i820)
                            have n867 : F857 18 = .long u817 := (get_ne eF857 (by decide) n866)
                            have n868 : F862 18 = .long u817 := (get_ne eF862 (by decide) n867)
                            exact ih (u812, F862, v860, v855, v852, u817) ⟨i814, (SAME.up eF862 (SAME.up eF857 (SAME.up eF853 (SAME.tr (SAME.tr SAME.rf i755 (by decide)) i819 (by decide)) (by decide)) (by decide)) (by decide)), (get_eq eF862), n863, n865, n868, (ir_wk k861 (by decide) (by decide)), (ir_wk k856 (by decide) (by decide)), (by show 0 ≤ v855.toInt ∧ v855.toInt ≤ v860.toInt; omega), (by show u812.toInt = 1 → u707.toInt = 0 → (0 ≤ v852.toInt ∧ v852.toInt ≤ 999 ∧ (v855.toInt = 0 → v852.toInt = 0) ∧ (v855.toInt = 1 → v852.toInt ≤ 9) ∧ (v855.toInt = 2 → v852.toInt ≤ 99)); omega), (by show (x_token.toInt = 2 → 0 ≤ v852.toInt ∧ v852.toInt ≤ 999); omega)⟩ (by show (x_size.toInt - v860.toInt).toNat < (x_size.toInt - u714.toInt).toNat; omega) _ _ _ hP hD hS (lv_sub hl [0, 1, 2, 3] rfl)
                          · have hP : va_P D vwCl [(h0, .inr (10, vL 67 G816)), (h_tape, .inl (cB, 940, .inl f_tape))] H := hP
                            have hD : va_D A [(h0, .inr (10, vL 67 G816)), (h_tape, .inl (cB, 940, .inl f_tape))] := hD
                            refine W.widen (k := 0) (n := 0) (Nat.le_of_ble_eq_true rfl) (Nat.le_of_ble_eq_true rfl) ?_
                            refine lv_ci (y := v796) ev796.symm ?_
                            refine lv_iadd hx hb dX10_next_268 ?_
                            refine lv_topi (fun v869 ev869 => ?_)
                            refine lv_bipush (v := 48) hx hb dX10_next_269 (by decide) ?_
                            refine lv_isub hx hb dX10_next_271 ?_
                            refine lv_topi (fun v870 ev870 => ?_)
                            refine put_f (D := D) (ci := 10) (v := .int v870) (ty := .int) (C := RX10) (T := TX10) (N := 67) hx hb hw inAX10 tyX10 tyX10_ok nmX10 hown hK hP hD hS 0 rfl rfl 14 (by decide) (hw _ q_1275) (fun _ h9 => h9) rfl (by decide +kernel) rfl rfl dX10_next_272 (fun H locs F871 eF871 hP hD hS => ?_)
                            have hP : va_P D vwCl [(h0, .inr (10, vL 67 F871)), (h_tape, .inl (cB, 940, .inl f_tape))] H := hP
                            have hD : va_D A [(h0, .inr (10, vL 67 F871)), (h_tape, .inl (cB, 940, .inl f_tape))] := hD
                            refine lv_aload_n hx hb dX10_next_275 rfl (lv_at hl 3 rfl) ?_
                            refine lv_dup hx hb dX10_next_276 rfl ?_
                            have n872 : F871 13 = .int u715 := (get_ne eF871 (by decide) n821)
                            refine get_f (D := D) (ci := 10) (v := .int u715) (C := RX10) (T := TX10) (N := 67) hx hb hw inAX10 hown hK hP 0 rfl rfl 13 (by decide) (hw _ q_1274) (fun _ h9 => h9) n872 dX10_next_277 ?_
                            refine lv_iconst (v := 1) hx hb dX10_next_280 (by decide) ?_
                            refine lv_iadd hx hb dX10_next_281 ?_
                            refine lv_topi (fun v873 ev873 => ?_)
                            have bv873 : v873.toInt = u715.toInt + 1 := by rw [ev873]; exact add_k rfl rfl k838 ⟨Int.le_refl _, Int.le_refl _⟩ (by decide)
                            have k874 : 1 ≤ v873.toInt ∧ v873.toInt ≤ 3 := add_r bv873 k838 ⟨Int.le_refl _, Int.le_refl _⟩ (by decide)
                            refine put_f (D := D) (ci := 10) (v := .int v873) (ty := .int) (C := RX10) (T := TX10) (N := 67) hx hb hw inAX10 tyX10 tyX10_ok nmX10 hown hK hP hD hS 0 rfl rfl 13 (by decide) (hw _ q_1274) (fun _ h9 => h9) rfl (by decide +kernel) rfl rfl dX10_next_282 (fun H locs F875 eF875 hP hD hS => ?_)
                            have hP : va_P D vwCl [(h0, .inr (10, vL 67 F875)), (h_tape, .inl (cB, 940, .inl f_tape))] H := hP
                            have hD : va_D A [(h0, .inr (10, vL 67 F875)), (h_tape, .inl (cB, 940, .inl f_tape))] := hD
                            refine lv_aload_n hx hb dX10_next_285 rfl (lv_at hl 3 rfl) ?_
                            refine lv_dup hx hb dX10_next_286 rfl ?_
                            have n876 : F871 4 = .int u714 := (get_ne eF871 (by decide) n843)
                            have n877 : F875 4 = .int u714 := (get_ne eF875 (by decide) n876)
                            refine get_f (D := D) (ci := 10) (v := .int u714) (C := RX10) (T := TX10) (N := 67) hx hb hw inAX10 hown hK hP 0 rfl rfl 4 (by decide) (hw _ q_1265) (fun _ h9 => h9) n877 dX10_next_287 ?_
                            refine lv_iconst (v := 1) hx hb dX10_next_290 (by decide) ?_
                            refine lv_iadd hx hb dX10_next_291 ?_
                            refine lv_topi (fun v878 ev878 => ?_)
                            have bv878 : v878.toInt = u714.toInt + 1 := by rw [ev878]; exact add_k rfl rfl k798 ⟨Int.le_refl _, Int.le_refl _⟩ (by decide)
                            have k879 : 202 ≤ v878.toInt ∧ v878.toInt ≤ 940 := add_r bv878 k798 ⟨Int.le_refl _, Int.le_refl _⟩ (by decide)
                            refine put_f (D := D) (ci := 10) (v := .int v878) (ty := .int) (C := RX10) (T := TX10) (N := 67) hx hb hw inAX10 tyX10 tyX10_ok nmX10 hown hK hP hD hS 0 rfl rfl 4 (by decide) (hw _ q_1265) (fun _ h9 => h9) rfl (by decide +kernel) rfl rfl dX10_next_292 (fun H locs F880 eF880 hP hD hS => ?_)
                            have hP : va_P D vwCl [(h0, .inr (10, vL 67 F880)), (h_tape, .inl (cB, 940, .inl f_tape))] H := hP
                            have hD : va_D A [(h0, .inr (10, vL 67 F880)), (h_tape, .inl (cB, 940, .inl f_tape))] := hD
                            refine lv_goto (tgt := 181) hx hb dX10_next_295 (by decide) ?_
                            have n881 : F880 13 = .int v873 := (get_ne eF880 (by decide) (get_eq eF875))
                            have n882 : F875 14 = .int v870 := (get_ne eF875 (by decide) (get_eq eF871))
                            have n883 : F880 14 = .int v870 := (get_ne eF880 (by decide) n882)
                            have n884 : F871 18 = .long u817 := (get_ne eF871 (by decide) i820)
                            have n885 : F875 18 = .long u817 := (get_ne eF875 (by decide) n884)
                            have n886 : F880 18 = .long u817 := (get_ne eF880 (by decide) n885)
                            exact ih (u812, F880, v878, v873, v870, u817) ⟨i814, (SAME.up eF880 (SAME.up eF875 (SAME.up eF871 (SAME.tr (SAME.tr SAME.rf i755 (by decide)) i819 (by decide)) (by decide)) (by decide)) (by decide)), (get_eq eF880), n881, n883, n886, (ir_wk k879 (by decide) (by decide)), (ir_wk k874 (by decide) (by decide)), (by show 0 ≤ v873.toInt ∧ v873.toInt ≤ v878.toInt; omega), (by show u812.toInt = 1 → u707.toInt = 0 → (0 ≤ v870.toInt ∧ v870.toInt ≤ 999 ∧ (v873.toInt = 0 → v870.toInt = 0) ∧ (v873.toInt = 1 → v870.toInt ≤ 9) ∧ (v873.toInt = 2 → v870.toInt ≤ 99)); omega), (by show (x_token.toInt = 2 → 0 ≤ v870.toInt ∧ v870.toInt ≤ 999); omega)⟩ (by show (x_size.toInt - v878.toInt).toNat < (x_size.toInt - u714.toInt).toNat; omega) _ _ _ hP hD hS (lv_sub hl [0, 1, 2, 3] rfl)
                      refine lv_aload_n hx hb dX10_next_222 rfl (lv_at hl 3 rfl) ?_
                      refine get_f (D := D) (ci := 10) (v := .int u715) (C := RX10) (T := TX10) (N := 67) hx hb hw inAX10 hown hK hP 0 rfl rfl 13 (by decide) (hw _ q_1274) (fun _ h9 => h9) i757 dX10_next_223 ?_
                      refine lv_bipush (v := 7) hx hb dX10_next_226 (by decide) ?_
                      refine lv_icmp_ge (tgt := 248) hx hb dX10_next_228 (by decide) (fun c887 => ?_) (fun c887 => ?_)
                      · have dc887 : 7 ≤ u715.toInt := le_i (a := 7) (b := u715.toInt) rfl rfl c887
                        have k888 : 7 ≤ u715.toInt ∧ u715.toInt ≤ 940 := ⟨Int.le_trans (Int.le_refl _) dc887, i761.2⟩
                        exact cut818 G713 u717 SAME.rf i759 _ _ _ hP hD hS (lv_sub hl [0, 1, 2, 3] rfl)
                      · have dc887 : u715.toInt < 7 := nle_i (a := 7) (b := u715.toInt) rfl rfl c887
                        have k889 : 0 ≤ u715.toInt ∧ u715.toInt ≤ 6 := ⟨i761.1, up_lt dc887 (Int.le_refl _) (by decide)⟩
                        refine lv_aload_n hx hb dX10_next_231 rfl (lv_at hl 3 rfl) ?_
                        refine lv_aload_n hx hb dX10_next_232 rfl (lv_at hl 3 rfl) ?_
                        refine get_f (D := D) (ci := 10) (v := .long u717) (C := RX10) (T := TX10) (N := 67) hx hb hw inAX10 hown hK hP 0 rfl rfl 18 (by decide) (hw _ q_1279) (fun _ h9 => h9) i759 dX10_next_233 ?_
                        refine lv_bipush (v := 8) hx hb dX10_next_236 (by decide) ?_
                        obtain ⟨v890, ev890⟩ : ∃ z : Int64, (u717 : Int64) <<< ((8 : Int32).toInt64 &&& 63) = z := ⟨_, rfl⟩
                        refine lv_lshl (v := v890) hx hb dX10_next_238 ev890 ?_
                        refine lv_aload_n hx hb dX10_next_239 rfl (lv_at hl 3 rfl) ?_
                        refine call_Vi (wr := []) (As := []) (rest := [.long v890, .ref h0]) hx hb hml hown hw (m_X10_peek l D cI cJ cB cP cM cZ h0 h_tape G713 x_size u714 f_tape _ n767 n770 (ir_wk k799 (by decide) (by decide)) i756 (ir_wk k798 (by decide) (by decide))) wV_X10_169_X10_peek dX10_next_240 hK hP hD hS hA [0, 1] [] rfl rfl (by decide) (by decide) (by decide) 0 10 rfl rfl GG.fb hG.at hl.1 rfl (Nat.le_of_ble_eq_true rfl) ⟨(Nat.le_of_ble_eq_true rfl), (Nat.le_of_ble_eq_true rfl)⟩ ⟨(Nat.le_of_ble_eq_true rfl), (Nat.le_of_ble_eq_true rfl)⟩ (fun r891 u H locs hp hP hD hS => ?_)
                        rcases hp with ⟨t892, rfl, rfl⟩ | ⟨t893, t894, rfl, rfl⟩
                        · have hP : va_P D vwCl [(h0, .inr (10, vL 67 G713)), (h_tape, .inl (cB, 940, .inl f_tape))] H := hP
                          have hD : va_D A [(h0, .inr (10, vL 67 G713)), (h_tape, .inl (cB, 940, .inl f_tape))] := hD
                          refine W.widen (k := 0) (n := 0) (Nat.le_of_ble_eq_true rfl) (Nat.le_of_ble_eq_true rfl) ?_
                          have k896 : 202 ≤ x_size.toInt ∧ x_size.toInt ≤ 939 := ⟨k799.1, Int.le_trans t892 k798.2⟩
                          have k897 : 202 ≤ u714.toInt ∧ u714.toInt ≤ 939 := ⟨Int.le_trans k799.1 t892, k798.2⟩
                          obtain ⟨v898, ev898⟩ : ∃ z : Int64, ((-1) : Int32).toInt64 = z := ⟨_, rfl⟩
                          refine lv_i2l (v := v898) hx hb dX10_next_243 ev898 ?_
                          refine lv_lor hx hb dX10_next_244 ?_
                          refine lv_topl (fun v899 ev899 => ?_)
                          refine put_f (D := D) (ci := 10) (v := .long v899) (ty := .long) (C := RX10) (T := TX10) (N := 67) hx hb hw inAX10 tyX10 tyX10_ok nmX10 hown hK hP hD hS 0 rfl rfl 18 (by decide) (hw _ q_1279) (fun _ h9 => h9) rfl (by decide +kernel) rfl rfl dX10_next_245 (fun H locs F900 eF900 hP hD hS => ?_)
                          have hP : va_P D vwCl [(h0, .inr (10, vL 67 F900)), (h_tape, .inl (cB, 940, .inl f_tape))] H := hP
                          have hD : va_D A [(h0, .inr (10, vL 67 F900)), (h_tape, .inl (cB, 940, .inl f_tape))] := hD
                          exact cut818 F900 v899 (SAME.up eF900 SAME.rf (by decide)) (get_eq eF900) _ _ _ hP hD hS (lv_sub hl [0, 1, 2, 3] rfl)
                        · have hP : va_P D vwCl [(h0, .inr (10, vL 67 G713)), (h_tape, .inl (cB, 940, .inl f_tape))] H := hP
                          have hD : va_D A [(h0, .inr (10, vL 67 G713)), (h_tape, .inl (cB, 940, .inl f_tape))] := hD
                          refine W.widen (k := 0) (n := 0) (Nat.le_of_ble_eq_true rfl) (Nat.le_of_ble_eq_true rfl) ?_
                          refine lv_ci (y := v796) ev796.symm ?_
                          obtain ⟨v901, ev901⟩ : ∃ z : Int64, (v796 : Int32).toInt64 = z := ⟨_, rfl⟩
                          refine lv_i2l (v := v901) hx hb dX10_next_243 ev901 ?_
                          refine lv_lor hx hb dX10_next_244 ?_
                          refine lv_topl (fun v902 ev902 => ?_)
                          refine put_f (D := D) (ci := 10) (v := .long v902) (ty := .long) (C := RX10) (T := TX10) (N := 67) hx hb hw inAX10 tyX10 tyX10_ok nmX10 hown hK hP hD hS 0 rfl rfl 18 (by decide) (hw _ q_1279) (fun _ h9 => h9) rfl (by decide +kernel) rfl rfl dX10_next_245 (fun H locs F903 eF903 hP hD hS => ?_)
                          have hP : va_P D vwCl [(h0, .inr (10, vL 67 F903)), (h_tape, .inl (cB, 940, .inl f_tape))] H := hP
                          have hD : va_D A [(h0, .inr (10, vL 67 F903)), (h_tape, .inl (cB, 940, .inl f_tape))] := hD
                          exact cut818 F903 v902 (SAME.up eF903 SAME.rf (by decide)) (get_eq eF903) _ _ _ hP hD hS (lv_sub hl [0, 1, 2, 3] rfl)
                    refine lv_iload_n hx hb dX10_next_201 rfl (lv_at hl 0 rfl) ?_
                    refine lv_if_eq (tgt := 220) hx hb dX10_next_202 (by decide) (fun c904 => ?_) (fun c904 => ?_)
                    · have dc904 : u712.toInt = 0 := eq_i (a := u712.toInt) (b := 0) rfl rfl c904
                      have k905 : 0 ≤ u712.toInt ∧ u712.toInt ≤ 0 := ⟨i754.1, Int.le_trans (Int.le_of_eq dc904) (Int.le_refl _)⟩
                      refine lv_iconst (v := 0) hx hb dX10_next_220 (by decide) ?_
                      refine lv_istore_n (lv' := [(3, .int 0), (2, .int u707), (1, .int v704), (0, .ref h0)]) hx hb dX10_next_221 rfl hl (by decide) rfl (fun ls hl => ?_)
                      exact cut813 0 (show 0 ≤ (0 : Int32).toInt ∧ (0 : Int32).toInt ≤ 1 by decide) (by show (0 = 1 → u707.toInt = 0 → (48 ≤ v796.toInt ∧ v796.toInt ≤ 57 ∧ 0 ≤ u716.toInt ∧ u716.toInt ≤ 999 ∧ (u715.toInt = 0 → u716.toInt = 0) ∧ (u715.toInt = 1 → u716.toInt ≤ 9) ∧ (u715.toInt = 2 → u716.toInt ≤ 99))); omega) _ _ _ hP hD hS (lv_sub hl [0, 1, 2, 3] rfl)
                    · have dc904 : u712.toInt ≠ 0 := ne_i (a := u712.toInt) (b := 0) rfl rfl c904
                      have k906 : 1 ≤ u712.toInt ∧ u712.toInt ≤ 1 := ⟨ne_lo dc904 i754.1 ⟨Int.le_refl _, Int.le_refl _⟩ (by decide), i754.2⟩
                      refine lv_aload_n hx hb dX10_next_205 rfl (lv_at hl 3 rfl) ?_
                      refine call_Vi (wr := []) (As := []) (rest := []) hx hb hml hown hw (m_X10_peek l D cI cJ cB cP cM cZ h0 h_tape G713 x_size u714 f_tape _ n767 n770 (ir_wk k799 (by decide) (by decide)) i756 (ir_wk k798 (by decide) (by decide))) wV_X10_169_X10_peek dX10_next_206 hK hP hD hS hA [0, 1] [] rfl rfl (by decide) (by decide) (by decide) 0 10 rfl rfl GG.fb hG.at hl.1 rfl (Nat.le_of_ble_eq_true rfl) ⟨(Nat.le_of_ble_eq_true rfl), (Nat.le_of_ble_eq_true rfl)⟩ ⟨(Nat.le_of_ble_eq_true rfl), (Nat.le_of_ble_eq_true rfl)⟩ (fun r907 u H locs hp hP hD hS => ?_)
                      rcases hp with ⟨t908, rfl, rfl⟩ | ⟨t909, t910, rfl, rfl⟩
                      · have hP : va_P D vwCl [(h0, .inr (10, vL 67 G713)), (h_tape, .inl (cB, 940, .inl f_tape))] H := hP
                        have hD : va_D A [(h0, .inr (10, vL 67 G713)), (h_tape, .inl (cB, 940, .inl f_tape))] := hD
                        refine W.widen (k := 0) (n := 0) (Nat.le_of_ble_eq_true rfl) (Nat.le_of_ble_eq_true rfl) ?_
                        have k912 : 202 ≤ x_size.toInt ∧ x_size.toInt ≤ 939 := ⟨k799.1, Int.le_trans t908 k798.2⟩
                        have k913 : 202 ≤ u714.toInt ∧ u714.toInt ≤ 939 := ⟨Int.le_trans k799.1 t908, k798.2⟩
                        refine call_Si (wr := [(h0, .inr (10, vL 67 G713)), (h_tape, .inl (cB, 940, .inl f_tape))]) (As := [.int (-1)]) (rest := []) hx hb hml hown hw (m_X10_isSmall l D cI cJ cB cP cM cZ (-1) _ ) wS_X10_182_X10_isSmall dX10_next_209 hP hD hS hA [] [0, 1] rfl rfl (by decide) (by decide) (by decide) GG.fb hG.at hl.1 rfl (Nat.le_of_ble_eq_true rfl) ⟨(Nat.le_of_ble_eq_true rfl), (Nat.le_of_ble_eq_true rfl)⟩ ⟨(Nat.le_of_ble_eq_true rfl), (Nat.le_of_ble_eq_true rfl)⟩ (fun r914 u H locs hp hP hD hS => ?_)
                        rcases hp with ⟨t915, rfl, rfl⟩ | ⟨t916, t917, rfl, rfl⟩ | ⟨t918, t919, rfl, rfl⟩
                        · have hP : va_P D vwCl [(h0, .inr (10, vL 67 G713)), (h_tape, .inl (cB, 940, .inl f_tape))] H := hP
                          have hD : va_D A [(h0, .inr (10, vL 67 G713)), (h_tape, .inl (cB, 940, .inl f_tape))] := hD
                          refine W.widen (k := 0) (n := 0) (Nat.le_of_ble_eq_true rfl) (Nat.le_of_ble_eq_true rfl) ?_
                          refine lv_iload_n hx hb dX10_next_212 rfl (lv_at hl 1 rfl) ?_
                          refine lv_icmp_ne (tgt := 220) hx hb dX10_next_213 (by decide) (fun c921 => ?_) (fun c921 => ?_)
                          · have dc921 : 0 ≠ u707.toInt := ne_i (a := 0) (b := u707.toInt) rfl rfl c921
                            have k922 : 1 ≤ u707.toInt ∧ u707.toInt ≤ 1 := ⟨ne_lo dc921.symm i709.1 ⟨Int.le_refl _, Int.le_refl _⟩ (by decide), i709.2⟩
                            refine lv_iconst (v := 0) hx hb dX10_next_220 (by decide) ?_
                            refine lv_istore_n (lv' := [(3, .int 0), (2, .int u707), (1, .int v704), (0, .ref h0)]) hx hb dX10_next_221 rfl hl (by decide) rfl (fun ls hl => ?_)
                            exact cut813 0 (show 0 ≤ (0 : Int32).toInt ∧ (0 : Int32).toInt ≤ 1 by decide) (by show (0 = 1 → u707.toInt = 0 → (48 ≤ v796.toInt ∧ v796.toInt ≤ 57 ∧ 0 ≤ u716.toInt ∧ u716.toInt ≤ 999 ∧ (u715.toInt = 0 → u716.toInt = 0) ∧ (u715.toInt = 1 → u716.toInt ≤ 9) ∧ (u715.toInt = 2 → u716.toInt ≤ 99))); omega) _ _ _ hP hD hS (lv_sub hl [0, 1, 2, 3] rfl)
                          · have dc921 : 0 = u707.toInt := eq_i (a := 0) (b := u707.toInt) rfl rfl c921
                            have k923 : 0 ≤ u707.toInt ∧ u707.toInt ≤ 0 := ⟨i709.1, Int.le_trans (Int.le_of_eq dc921.symm) (Int.le_refl _)⟩
                            refine lv_iconst (v := 1) hx hb dX10_next_216 (by decide) ?_
                            refine lv_goto (tgt := 221) hx hb dX10_next_217 (by decide) ?_
                            refine lv_istore_n (lv' := [(3, .int 1), (2, .int u707), (1, .int v704), (0, .ref h0)]) hx hb dX10_next_221 rfl hl (by decide) rfl (fun ls hl => ?_)
                            exact cut813 1 (show 0 ≤ (1 : Int32).toInt ∧ (1 : Int32).toInt ≤ 1 by decide) (by show (1 = 1 → u707.toInt = 0 → (48 ≤ v796.toInt ∧ v796.toInt ≤ 57 ∧ 0 ≤ u716.toInt ∧ u716.toInt ≤ 999 ∧ (u715.toInt = 0 → u716.toInt = 0) ∧ (u715.toInt = 1 → u716.toInt ≤ 9) ∧ (u715.toInt = 2 → u716.toInt ≤ 99))); omega) _ _ _ hP hD hS (lv_sub hl [0, 1, 2, 3] rfl)
                        · have hP : va_P D vwCl [(h0, .inr (10, vL 67 G713)), (h_tape, .inl (cB, 940, .inl f_tape))] H := hP
                          have hD : va_D A [(h0, .inr (10, vL 67 G713)), (h_tape, .inl (cB, 940, .inl f_tape))] := hD
                          refine W.widen (k := 0) (n := 0) (Nat.le_of_ble_eq_true rfl) (Nat.le_of_ble_eq_true rfl) ?_
                          exact absurd t916 (by decide)
                        · have hP : va_P D vwCl [(h0, .inr (10, vL 67 G713)), (h_tape, .inl (cB, 940, .inl f_tape))] H := hP
                          have hD : va_D A [(h0, .inr (10, vL 67 G713)), (h_tape, .inl (cB, 940, .inl f_tape))] := hD
                          refine W.widen (k := 0) (n := 0) (Nat.le_of_ble_eq_true rfl) (Nat.le_of_ble_eq_true rfl) ?_
                          exact absurd t918 (by decide)
                      · have hP : va_P D vwCl [(h0, .inr (10, vL 67 G713)), (h_tape, .inl (cB, 940, .inl f_tape))] H := hP
                        have hD : va_D A [(h0, .inr (10, vL 67 G713)), (h_tape, .inl (cB, 940, .inl f_tape))] := hD
                        refine W.widen (k := 0) (n := 0) (Nat.le_of_ble_eq_true rfl) (Nat.le_of_ble_eq_true rfl) ?_
                        refine lv_ci (y := v796) ev796.symm ?_
                        refine call_Si (wr := [(h0, .inr (10, vL 67 G713)), (h_tape, .inl (cB, 940, .inl f_tape))]) (As := [.int v796]) (rest := []) hx hb hml hown hw (m_X10_isSmall l D cI cJ cB cP cM cZ v796 _ ) wS_X10_182_X10_isSmall dX10_next_209 hP hD hS hA [] [0, 1] rfl rfl (by decide) (by decide) (by decide) GG.fb hG.at hl.1 rfl (Nat.le_of_ble_eq_true rfl) ⟨(Nat.le_of_ble_eq_true rfl), (Nat.le_of_ble_eq_true rfl)⟩ ⟨(Nat.le_of_ble_eq_true rfl), (Nat.le_of_ble_eq_true rfl)⟩ (fun r924 u H locs hp hP hD hS => ?_)
                        rcases hp with ⟨t925, rfl, rfl⟩ | ⟨t926, t927, rfl, rfl⟩ | ⟨t928, t929, rfl, rfl⟩
                        · have hP : va_P D vwCl [(h0, .inr (10, vL 67 G713)), (h_tape, .inl (cB, 940, .inl f_tape))] H := hP
                          have hD : va_D A [(h0, .inr (10, vL 67 G713)), (h_tape, .inl (cB, 940, .inl f_tape))] := hD
                          refine W.widen (k := 0) (n := 0) (Nat.le_of_ble_eq_true rfl) (Nat.le_of_ble_eq_true rfl) ?_
                          refine lv_iload_n hx hb dX10_next_212 rfl (lv_at hl 1 rfl) ?_
                          refine lv_icmp_ne (tgt := 220) hx hb dX10_next_213 (by decide) (fun c931 => ?_) (fun c931 => ?_)
                          · have dc931 : 0 ≠ u707.toInt := ne_i (a := 0) (b := u707.toInt) rfl rfl c931
                            have k932 : 1 ≤ u707.toInt ∧ u707.toInt ≤ 1 := ⟨ne_lo dc931.symm i709.1 ⟨Int.le_refl _, Int.le_refl _⟩ (by decide), i709.2⟩
                            refine lv_iconst (v := 0) hx hb dX10_next_220 (by decide) ?_
                            refine lv_istore_n (lv' := [(3, .int 0), (2, .int u707), (1, .int v704), (0, .ref h0)]) hx hb dX10_next_221 rfl hl (by decide) rfl (fun ls hl => ?_)
                            exact cut813 0 (show 0 ≤ (0 : Int32).toInt ∧ (0 : Int32).toInt ≤ 1 by decide) (by show (0 = 1 → u707.toInt = 0 → (48 ≤ v796.toInt ∧ v796.toInt ≤ 57 ∧ 0 ≤ u716.toInt ∧ u716.toInt ≤ 999 ∧ (u715.toInt = 0 → u716.toInt = 0) ∧ (u715.toInt = 1 → u716.toInt ≤ 9) ∧ (u715.toInt = 2 → u716.toInt ≤ 99))); omega) _ _ _ hP hD hS (lv_sub hl [0, 1, 2, 3] rfl)
                          · have dc931 : 0 = u707.toInt := eq_i (a := 0) (b := u707.toInt) rfl rfl c931
                            have k933 : 0 ≤ u707.toInt ∧ u707.toInt ≤ 0 := ⟨i709.1, Int.le_trans (Int.le_of_eq dc931.symm) (Int.le_refl _)⟩
                            refine lv_iconst (v := 1) hx hb dX10_next_216 (by decide) ?_
                            refine lv_goto (tgt := 221) hx hb dX10_next_217 (by decide) ?_
                            refine lv_istore_n (lv' := [(3, .int 1), (2, .int u707), (1, .int v704), (0, .ref h0)]) hx hb dX10_next_221 rfl hl (by decide) rfl (fun ls hl => ?_)
                            exact cut813 1 (show 0 ≤ (1 : Int32).toInt ∧ (1 : Int32).toInt ≤ 1 by decide) (by show (1 = 1 → u707.toInt = 0 → (48 ≤ v796.toInt ∧ v796.toInt ≤ 57 ∧ 0 ≤ u716.toInt ∧ u716.toInt ≤ 999 ∧ (u715.toInt = 0 → u716.toInt = 0) ∧ (u715.toInt = 1 → u716.toInt ≤ 9) ∧ (u715.toInt = 2 → u716.toInt ≤ 99))); omega) _ _ _ hP hD hS (lv_sub hl [0, 1, 2, 3] rfl)
                        · have hP : va_P D vwCl [(h0, .inr (10, vL 67 G713)), (h_tape, .inl (cB, 940, .inl f_tape))] H := hP
                          have hD : va_D A [(h0, .inr (10, vL 67 G713)), (h_tape, .inl (cB, 940, .inl f_tape))] := hD
                          refine W.widen (k := 0) (n := 0) (Nat.le_of_ble_eq_true rfl) (Nat.le_of_ble_eq_true rfl) ?_
                          exact False.elim (bad_le t926 (Int.le_refl _) k811.2 (by decide))
                        · have hP : va_P D vwCl [(h0, .inr (10, vL 67 G713)), (h_tape, .inl (cB, 940, .inl f_tape))] H := hP
                          have hD : va_D A [(h0, .inr (10, vL 67 G713)), (h_tape, .inl (cB, 940, .inl f_tape))] := hD
                          refine W.widen (k := 0) (n := 0) (Nat.le_of_ble_eq_true rfl) (Nat.le_of_ble_eq_true rfl) ?_
                          exact False.elim (bad_le t928 (Int.le_refl _) k811.2 (by decide))
              · have hP : va_P D vwCl [(h0, .inr (10, vL 67 G713)), (h_tape, .inl (cB, 940, .inl f_tape))] H := hP
                have hD : va_D A [(h0, .inr (10, vL 67 G713)), (h_tape, .inl (cB, 940, .inl f_tape))] := hD
                refine W.widen (k := 0) (n := 0) (Nat.le_of_ble_eq_true rfl) (Nat.le_of_ble_eq_true rfl) ?_
                exact absurd t779 (by decide)
              · have hP : va_P D vwCl [(h0, .inr (10, vL 67 G713)), (h_tape, .inl (cB, 940, .inl f_tape))] H := hP
                have hD : va_D A [(h0, .inr (10, vL 67 G713)), (h_tape, .inl (cB, 940, .inl f_tape))] := hD
                refine W.widen (k := 0) (n := 0) (Nat.le_of_ble_eq_true rfl) (Nat.le_of_ble_eq_true rfl) ?_
                exact absurd t781 (by decide)
            · have hP : va_P D vwCl [(h0, .inr (10, vL 67 G713)), (h_tape, .inl (cB, 940, .inl f_tape))] H := hP
              have hD : va_D A [(h0, .inr (10, vL 67 G713)), (h_tape, .inl (cB, 940, .inl f_tape))] := hD
              refine W.widen (k := 0) (n := 0) (Nat.le_of_ble_eq_true rfl) (Nat.le_of_ble_eq_true rfl) ?_
              refine lv_topi (fun v934 ev934 => ?_)
              have k935 : 0 ≤ v934.toInt ∧ v934.toInt ≤ 255 := by rw [ev934]; exact t773
              have k936 : 0 ≤ u714.toInt ∧ u714.toInt ≤ 939 := ⟨i760.1, up_lt t774 k688.2 (by decide)⟩
              refine call_Si (wr := [(h0, .inr (10, vL 67 G713)), (h_tape, .inl (cB, 940, .inl f_tape))]) (As := [.int v934]) (rest := []) hx hb hml hown hw (m_X10_isSmall l D cI cJ cB cP cM cZ v934 _ ) wS_X10_182_X10_isSmall dX10_next_185 hP hD hS hA [] [0, 1] rfl rfl (by decide) (by decide) (by decide) GG.fb hG.at hl.1 rfl (Nat.le_of_ble_eq_true rfl) ⟨(Nat.le_of_ble_eq_true rfl), (Nat.le_of_ble_eq_true rfl)⟩ ⟨(Nat.le_of_ble_eq_true rfl), (Nat.le_of_ble_eq_true rfl)⟩ (fun r937 u H locs hp hP hD hS => ?_)
              rcases hp with ⟨t938, rfl, rfl⟩ | ⟨t939, t940, rfl, rfl⟩ | ⟨t941, t942, rfl, rfl⟩
              · have hP : va_P D vwCl [(h0, .inr (10, vL 67 G713)), (h_tape, .inl (cB, 940, .inl f_tape))] H := hP
                have hD : va_D A [(h0, .inr (10, vL 67 G713)), (h_tape, .inl (cB, 940, .inl f_tape))] := hD
                refine W.widen (k := 0) (n := 0) (Nat.le_of_ble_eq_true rfl) (Nat.le_of_ble_eq_true rfl) ?_
                have k944 : 0 ≤ v934.toInt ∧ v934.toInt ≤ 96 := ⟨k935.1, up_lt t938 (Int.le_refl _) (by decide)⟩
                refine lv_if_ne (tgt := 201) hx hb dX10_next_188 (by decide) (fun g => absurd (by decide) g) (fun _ => ?_)
                refine lv_aload_n hx hb dX10_next_191 rfl (lv_at hl 3 rfl) ?_
                refine call_Vi (wr := []) (As := []) (rest := []) hx hb hml hown hw (m_X10_peek l D cI cJ cB cP cM cZ h0 h_tape G713 x_size u714 f_tape _ n767 n770 (ir_wk k688 (by decide) (by decide)) i756 (ir_wk k936 (by decide) (by decide))) wV_X10_169_X10_peek dX10_next_192 hK hP hD hS hA [0, 1] [] rfl rfl (by decide) (by decide) (by decide) 0 10 rfl rfl GG.fb hG.at hl.1 rfl (Nat.le_of_ble_eq_true rfl) ⟨(Nat.le_of_ble_eq_true rfl), (Nat.le_of_ble_eq_true rfl)⟩ ⟨(Nat.le_of_ble_eq_true rfl), (Nat.le_of_ble_eq_true rfl)⟩ (fun r945 u H locs hp hP hD hS => ?_)
                rcases hp with ⟨t946, rfl, rfl⟩ | ⟨t947, t948, rfl, rfl⟩
                · have hP : va_P D vwCl [(h0, .inr (10, vL 67 G713)), (h_tape, .inl (cB, 940, .inl f_tape))] H := hP
                  have hD : va_D A [(h0, .inr (10, vL 67 G713)), (h_tape, .inl (cB, 940, .inl f_tape))] := hD
                  refine W.widen (k := 0) (n := 0) (Nat.le_of_ble_eq_true rfl) (Nat.le_of_ble_eq_true rfl) ?_
                  have k950 : 201 ≤ x_size.toInt ∧ x_size.toInt ≤ 939 := ⟨k688.1, Int.le_trans t946 k936.2⟩
                  have k951 : 201 ≤ u714.toInt ∧ u714.toInt ≤ 939 := ⟨Int.le_trans k688.1 t946, k936.2⟩
                  refine call_Si (wr := [(h0, .inr (10, vL 67 G713)), (h_tape, .inl (cB, 940, .inl f_tape))]) (As := [.int (-1)]) (rest := []) hx hb hml hown hw (m_X10_isDigit l D cI cJ cB cP cM cZ (-1) _ ) wS_X10_186_X10_isDigit dX10_next_195 hP hD hS hA [] [0, 1] rfl rfl (by decide) (by decide) (by decide) GG.fb hG.at hl.1 rfl (Nat.le_of_ble_eq_true rfl) ⟨(Nat.le_of_ble_eq_true rfl), (Nat.le_of_ble_eq_true rfl)⟩ ⟨(Nat.le_of_ble_eq_true rfl), (Nat.le_of_ble_eq_true rfl)⟩ (fun r952 u H locs hp hP hD hS => ?_)
                  rcases hp with ⟨t953, rfl, rfl⟩ | ⟨t954, t955, rfl, rfl⟩ | ⟨t956, t957, rfl, rfl⟩
                  · have hP : va_P D vwCl [(h0, .inr (10, vL 67 G713)), (h_tape, .inl (cB, 940, .inl f_tape))] H := hP
                    have hD : va_D A [(h0, .inr (10, vL 67 G713)), (h_tape, .inl (cB, 940, .inl f_tape))] := hD
                    refine W.widen (k := 0) (n := 0) (Nat.le_of_ble_eq_true rfl) (Nat.le_of_ble_eq_true rfl) ?_
                    refine lv_if_eq (tgt := 298) hx hb dX10_next_198 (by decide) (fun _ => ?_) (fun g => absurd (by decide) g)
                    exact cut718 u712 G713 u714 u715 u716 u717 i754 (SAME.tr SAME.rf i755 (by decide)) i756 i757 i758 i759 (ir_wk k951 (by decide) (by decide)) i761 (by show 0 ≤ u715.toInt ∧ u715.toInt ≤ u714.toInt; omega) (by show u712.toInt = 1 → u707.toInt = 0 → (0 ≤ u716.toInt ∧ u716.toInt ≤ 999 ∧ (u715.toInt = 0 → u716.toInt = 0) ∧ (u715.toInt = 1 → u716.toInt ≤ 9) ∧ (u715.toInt = 2 → u716.toInt ≤ 99)); omega) (by show (x_token.toInt = 2 → 0 ≤ u716.toInt ∧ u716.toInt ≤ 999); omega) _ _ _ hP hD hS (lv_sub hl [0, 1, 2, 3] rfl)
                  · have hP : va_P D vwCl [(h0, .inr (10, vL 67 G713)), (h_tape, .inl (cB, 940, .inl f_tape))] H := hP
                    have hD : va_D A [(h0, .inr (10, vL 67 G713)), (h_tape, .inl (cB, 940, .inl f_tape))] := hD
                    refine W.widen (k := 0) (n := 0) (Nat.le_of_ble_eq_true rfl) (Nat.le_of_ble_eq_true rfl) ?_
                    exact absurd t954 (by decide)
                  · have hP : va_P D vwCl [(h0, .inr (10, vL 67 G713)), (h_tape, .inl (cB, 940, .inl f_tape))] H := hP
                    have hD : va_D A [(h0, .inr (10, vL 67 G713)), (h_tape, .inl (cB, 940, .inl f_tape))] := hD
                    refine W.widen (k := 0) (n := 0) (Nat.le_of_ble_eq_true rfl) (Nat.le_of_ble_eq_true rfl) ?_
                    exact absurd t956 (by decide)
                · have hP : va_P D vwCl [(h0, .inr (10, vL 67 G713)), (h_tape, .inl (cB, 940, .inl f_tape))] H := hP
                  have hD : va_D A [(h0, .inr (10, vL 67 G713)), (h_tape, .inl (cB, 940, .inl f_tape))] := hD
                  refine W.widen (k := 0) (n := 0) (Nat.le_of_ble_eq_true rfl) (Nat.le_of_ble_eq_true rfl) ?_
                  refine lv_ci (y := v934) ev934.symm ?_
                  refine call_Si (wr := [(h0, .inr (10, vL 67 G713)), (h_tape, .inl (cB, 940, .inl f_tape))]) (As := [.int v934]) (rest := []) hx hb hml hown hw (m_X10_isDigit l D cI cJ cB cP cM cZ v934 _ ) wS_X10_186_X10_isDigit dX10_next_195 hP hD hS hA [] [0, 1] rfl rfl (by decide) (by decide) (by decide) GG.fb hG.at hl.1 rfl (Nat.le_of_ble_eq_true rfl) ⟨(Nat.le_of_ble_eq_true rfl), (Nat.le_of_ble_eq_true rfl)⟩ ⟨(Nat.le_of_ble_eq_true rfl), (Nat.le_of_ble_eq_true rfl)⟩ (fun r959 u H locs hp hP hD hS => ?_)
                  rcases hp with ⟨t960, rfl, rfl⟩ | ⟨t961, t962, rfl, rfl⟩ | ⟨t963, t964, rfl, rfl⟩
                  · have hP : va_P D vwCl [(h0, .inr (10, vL 67 G713)), (h_tape, .inl (cB, 940, .inl f_tape))] H := hP
                    have hD : va_D A [(h0, .inr (10, vL 67 G713)), (h_tape, .inl (cB, 940, .inl f_tape))] := hD
                    refine W.widen (k := 0) (n := 0) (Nat.le_of_ble_eq_true rfl) (Nat.le_of_ble_eq_true rfl) ?_
                    have k966 : 0 ≤ v934.toInt ∧ v934.toInt ≤ 47 := ⟨k944.1, up_lt t960 (Int.le_refl _) (by decide)⟩
                    refine lv_if_eq (tgt := 298) hx hb dX10_next_198 (by decide) (fun _ => ?_) (fun g => absurd (by decide) g)
                    exact cut718 u712 G713 u714 u715 u716 u717 i754 (SAME.tr SAME.rf i755 (by decide)) i756 i757 i758 i759 (ir_wk k936 (by decide) (by decide)) i761 (by show 0 ≤ u715.toInt ∧ u715.toInt ≤ u714.toInt; omega) (by show u712.toInt = 1 → u707.toInt = 0 → (0 ≤ u716.toInt ∧ u716.toInt ≤ 999 ∧ (u715.toInt = 0 → u716.toInt = 0) ∧ (u715.toInt = 1 → u716.toInt ≤ 9) ∧ (u715.toInt = 2 → u716.toInt ≤ 99)); omega) (by show (x_token.toInt = 2 → 0 ≤ u716.toInt ∧ u716.toInt ≤ 999); omega) _ _ _ hP hD hS (lv_sub hl [0, 1, 2, 3] rfl)
                  · have hP : va_P D vwCl [(h0, .inr (10, vL 67 G713)), (h_tape, .inl (cB, 940, .inl f_tape))] H := hP
                    have hD : va_D A [(h0, .inr (10, vL 67 G713)), (h_tape, .inl (cB, 940, .inl f_tape))] := hD
                    refine W.widen (k := 0) (n := 0) (Nat.le_of_ble_eq_true rfl) (Nat.le_of_ble_eq_true rfl) ?_
                    have k967 : 48 ≤ v934.toInt ∧ v934.toInt ≤ 96 := ⟨Int.le_trans (Int.le_refl _) t961, k944.2⟩
                    have k968 : 58 ≤ v934.toInt ∧ v934.toInt ≤ 96 := ⟨lo_lt t962 (Int.le_refl _) (by decide), k967.2⟩
                    refine lv_if_eq (tgt := 298) hx hb dX10_next_198 (by decide) (fun _ => ?_) (fun g => absurd (by decide) g)
                    exact cut718 u712 G713 u714 u715 u716 u717 i754 (SAME.tr SAME.rf i755 (by decide)) i756 i757 i758 i759 (ir_wk k936 (by decide) (by decide)) i761 (by show 0 ≤ u715.toInt ∧ u715.toInt ≤ u714.toInt; omega) (by show u712.toInt = 1 → u707.toInt = 0 → (0 ≤ u716.toInt ∧ u716.toInt ≤ 999 ∧ (u715.toInt = 0 → u716.toInt = 0) ∧ (u715.toInt = 1 → u716.toInt ≤ 9) ∧ (u715.toInt = 2 → u716.toInt ≤ 99)); omega) (by show (x_token.toInt = 2 → 0 ≤ u716.toInt ∧ u716.toInt ≤ 999); omega) _ _ _ hP hD hS (lv_sub hl [0, 1, 2, 3] rfl)
                  · have hP : va_P D vwCl [(h0, .inr (10, vL 67 G713)), (h_tape, .inl (cB, 940, .inl f_tape))] H := hP
                    have hD : va_D A [(h0, .inr (10, vL 67 G713)), (h_tape, .inl (cB, 940, .inl f_tape))] := hD
                    refine W.widen (k := 0) (n := 0) (Nat.le_of_ble_eq_true rfl) (Nat.le_of_ble_eq_true rfl) ?_
                    have k969 : 48 ≤ v934.toInt ∧ v934.toInt ≤ 96 := ⟨Int.le_trans (Int.le_refl _) t963, k944.2⟩
                    have k970 : 48 ≤ v934.toInt ∧ v934.toInt ≤ 57 := ⟨k969.1, Int.le_trans t964 (Int.le_refl _)⟩
                    refine lv_if_eq (tgt := 298) hx hb dX10_next_198 (by decide) (fun g => absurd g (by decide)) (fun _ => ?_)
                    have cut972 : ∀ (u971 : Int32) (_ : IR 0 1 u971) (_ : ((u971.toInt = 1 → u707.toInt = 0 → (48 ≤ v934.toInt ∧ v934.toInt ≤ 57 ∧ 0 ≤ u716.toInt ∧ u716.toInt ≤ 999 ∧ (u715.toInt = 0 → u716.toInt = 0) ∧ (u715.toInt = 1 → u716.toInt ≤ 9) ∧ (u715.toInt = 2 → u716.toInt ≤ 99))))) (H : Heap) (locs : List Loc) (ls : Array Slot), va_P D vwCl [(h0, .inr (10, vL 67 G713)), (h_tape, .inl (cB, 940, .inl f_tape))] H → va_D A [(h0, .inr (10, vL 67 G713)), (h_tape, .inl (cB, 940, .inl f_tape))] → va_S A s.heap H locs → lv_has ls 4 [(3, .int u971), (2, .int u707), (1, .int v704), (0, .ref h0)] → W p l e ({ frames := 1, cells := 0, slots := 0, locals := 20 } : Room) s m [.ref h0].toArray below meth c H locs 0 0 (MQ below (va_Qv (fun (u : va_W) => ∃ (Gh : Nat → Value) (y_p : Int32) (y_token : Int32) (y_at : Int32) (y_span : Int32) (y_number : Int32) (y_word : Int64), SAME [4, 11, 12, 13, 14, 18] Fh Gh ∧ Gh 4 = .int y_p ∧ IR 0 940 y_p ∧ Gh 11 = .int y_token ∧ IR 0 4 y_token ∧ Gh 12 = .int y_at ∧ IR 0 940 y_at ∧ Gh 13 = .int y_span ∧ IR 0 940 y_span ∧ Gh 14 = .int y_number ∧ Gh 18 = .long y_word ∧ (x_p.toInt ≤ y_p.toInt) ∧ ((1 ≤ y_token.toInt → y_token.toInt ≤ 3 → x_p.toInt < y_p.toInt)) ∧ ((y_token.toInt = 2 → 0 ≤ y_number.toInt ∧ y_number.toInt ≤ 999)) ∧ u = [(h0, .inr (10, vL 67 Gh)), (h_tape, .inl (cB, 940, .inl f_tape))]) (PO D A) A) [.ref h0].toArray s 0 0 A) (F0 m 222 ls []) := by
                      intro u971 i973 i974 H locs ls hP hD hS hl
                      have i973 : 0 ≤ u971.toInt ∧ u971.toInt ≤ 1 := i973
                      have i974 : (u971.toInt = 1 → u707.toInt = 0 → (48 ≤ v934.toInt ∧ v934.toInt ≤ 57 ∧ 0 ≤ u716.toInt ∧ u716.toInt ≤ 999 ∧ (u715.toInt = 0 → u716.toInt = 0) ∧ (u715.toInt = 1 → u716.toInt ≤ 9) ∧ (u715.toInt = 2 → u716.toInt ≤ 99))) := i974
                      have cut977 : ∀ (G975 : Nat → Value) (u976 : Int64) (_ : SAME [18] G713 G975) (_ : G975 18 = .long u976) (H : Heap) (locs : List Loc) (ls : Array Slot), va_P D vwCl [(h0, .inr (10, vL 67 G975)), (h_tape, .inl (cB, 940, .inl f_tape))] H → va_D A [(h0, .inr (10, vL 67 G975)), (h_tape, .inl (cB, 940, .inl f_tape))] → va_S A s.heap H locs → lv_has ls 4 [(3, .int u971), (2, .int u707), (1, .int v704), (0, .ref h0)] → W p l e ({ frames := 1, cells := 0, slots := 0, locals := 20 } : Room) s m [.ref h0].toArray below meth c H locs 0 0 (MQ below (va_Qv (fun (u : va_W) => ∃ (Gh : Nat → Value) (y_p : Int32) (y_token : Int32) (y_at : Int32) (y_span : Int32) (y_number : Int32) (y_word : Int64), SAME [4, 11, 12, 13, 14, 18] Fh Gh ∧ Gh 4 = .int y_p ∧ IR 0 940 y_p ∧ Gh 11 = .int y_token ∧ IR 0 4 y_token ∧ Gh 12 = .int y_at ∧ IR 0 940 y_at ∧ Gh 13 = .int y_span ∧ IR 0 940 y_span ∧ Gh 14 = .int y_number ∧ Gh 18 = .long y_word ∧ (x_p.toInt ≤ y_p.toInt) ∧ ((1 ≤ y_token.toInt → y_token.toInt ≤ 3 → x_p.toInt < y_p.toInt)) ∧ ((y_token.toInt = 2 → 0 ≤ y_number.toInt ∧ y_number.toInt ≤ 999)) ∧ u = [(h0, .inr (10, vL 67 Gh)), (h_tape, .inl (cB, 940, .inl f_tape))]) (PO D A) A) [.ref h0].toArray s 0 0 A) (F0 m 248 ls []) := by
                        intro G975 u976 i978 i979 H locs ls hP hD hS hl
                        refine lv_aload_n hx hb dX10_next_248 rfl (lv_at hl 3 rfl) ?_
                        have n980 : G975 13 = .int u715 := (SAME.at i978 (by decide) i757)
                        refine get_f (D := D) (ci := 10) (v := .int u715) (C := RX10) (T := TX10) (N := 67) hx hb hw inAX10 hown hK hP 0 rfl rfl 13 (by decide) (hw _ q_1274) (fun _ h9 => h9) n980 dX10_next_249 ?_
                        refine lv_iconst (v := 3) hx hb dX10_next_252 (by decide) ?_
                        refine lv_icmp_ge (tgt := 275) hx hb dX10_next_253 (by decide) (fun c981 => ?_) (fun c981 => ?_)
                        · have dc981 : 3 ≤ u715.toInt := le_i (a := 3) (b := u715.toInt) rfl rfl c981
                          have k982 : 3 ≤ u715.toInt ∧ u715.toInt ≤ 940 := ⟨Int.le_trans (Int.le_refl _) dc981, i761.2⟩
                          refine lv_aload_n hx hb dX10_next_275 rfl (lv_at hl 3 rfl) ?_
                          refine lv_dup hx hb dX10_next_276 rfl ?_
                          refine get_f (D := D) (ci := 10) (v := .int u715) (C := RX10) (T := TX10) (N := 67) hx hb hw inAX10 hown hK hP 0 rfl rfl 13 (by decide) (hw _ q_1274) (fun _ h9 => h9) n980 dX10_next_277 ?_
                          refine lv_iconst (v := 1) hx hb dX10_next_280 (by decide) ?_
                          refine lv_iadd hx hb dX10_next_281 ?_
                          refine lv_topi (fun v983 ev983 => ?_)
                          have bv983 : v983.toInt = u715.toInt + 1 := by rw [ev983]; exact add_k rfl rfl k982 ⟨Int.le_refl _, Int.le_refl _⟩ (by decide)
                          have k984 : 4 ≤ v983.toInt ∧ v983.toInt ≤ 941 := add_r bv983 k982 ⟨Int.le_refl _, Int.le_refl _⟩ (by decide)
                          refine put_f (D := D) (ci := 10) (v := .int v983) (ty := .int) (C := RX10) (T := TX10) (N := 67) hx hb hw inAX10 tyX10 tyX10_ok nmX10 hown hK hP hD hS 0 rfl rfl 13 (by decide) (hw _ q_1274) (fun _ h9 => h9) rfl (by decide +kernel) rfl rfl dX10_next_282 (fun H locs F985 eF985 hP hD hS => ?_)
                          have hP : va_P D vwCl [(h0, .inr (10, vL 67 F985)), (h_tape, .inl (cB, 940, .inl f_tape))] H := hP
                          have hD : va_D A [(h0, .inr (10, vL 67 F985)), (h_tape, .inl (cB, 940, .inl f_tape))] := hD
                          refine lv_aload_n hx hb dX10_next_285 rfl (lv_at hl 3 rfl) ?_
                          refine lv_dup hx hb dX10_next_286 rfl ?_
                          have n986 : G975 4 = .int u714 := (SAME.at i978 (by decide) i756)
                          have n987 : F985 4 = .int u714 := (get_ne eF985 (by decide) n986)
                          refine get_f (D := D) (ci := 10) (v := .int u714) (C := RX10) (T := TX10) (N := 67) hx hb hw inAX10 hown hK hP 0 rfl rfl 4 (by decide) (hw _ q_1265) (fun _ h9 => h9) n987 dX10_next_287 ?_
                          refine lv_iconst (v := 1) hx hb dX10_next_290 (by decide) ?_
                          refine lv_iadd hx hb dX10_next_291 ?_
                          refine lv_topi (fun v988 ev988 => ?_)
                          have bv988 : v988.toInt = u714.toInt + 1 := by rw [ev988]; exact add_k rfl rfl k936 ⟨Int.le_refl _, Int.le_refl _⟩ (by decide)
                          have k989 : 1 ≤ v988.toInt ∧ v988.toInt ≤ 940 := add_r bv988 k936 ⟨Int.le_refl _, Int.le_refl _⟩ (by decide)
                          refine put_f (D := D) (ci := 10) (v := .int v988) (ty := .int) (C := RX10) (T := TX10) (N := 67) hx hb hw inAX10 tyX10 tyX10_ok nmX10 hown hK hP hD hS 0 rfl rfl 4 (by decide) (hw _ q_1265) (fun _ h9 => h9) rfl (by decide +kernel) rfl rfl dX10_next_292 (fun H locs F990 eF990 hP hD hS => ?_)
                          have hP : va_P D vwCl [(h0, .inr (10, vL 67 F990)), (h_tape, .inl (cB, 940, .inl f_tape))] H := hP
                          have hD : va_D A [(h0, .inr (10, vL 67 F990)), (h_tape, .inl (cB, 940, .inl f_tape))] := hD
                          refine lv_goto (tgt := 181) hx hb dX10_next_295 (by decide) ?_
                          have n991 : F990 13 = .int v983 := (get_ne eF990 (by decide) (get_eq eF985))
                          have n992 : G975 14 = .int u716 := (SAME.at i978 (by decide) i758)
                          have n993 : F985 14 = .int u716 := (get_ne eF985 (by decide) n992)
                          have n994 : F990 14 = .int u716 := (get_ne eF990 (by decide) n993)
                          have n995 : F985 18 = .long u976 := (get_ne eF985 (by decide) i979)
                          have n996 : F990 18 = .long u976 := (get_ne eF990 (by decide) n995)
                          exact ih (u971, F990, v988, v983, u716, u976) ⟨i973, (SAME.up eF990 (SAME.up eF985 (SAME.tr (SAME.tr SAME.rf i755 (by decide)) i978 (by decide)) (by decide)) (by decide)), (get_eq eF990), n991, n994, n996, (ir_wk k989 (by decide) (by decide)), ⟨by omega, by omega⟩, (by show 0 ≤ v983.toInt ∧ v983.toInt ≤ v988.toInt; omega), (by show u971.toInt = 1 → u707.toInt = 0 → (0 ≤ u716.toInt ∧ u716.toInt ≤ 999 ∧ (v983.toInt = 0 → u716.toInt = 0) ∧ (v983.toInt = 1 → u716.toInt ≤ 9) ∧ (v983.toInt = 2 → u716.toInt ≤ 99)); omega), (by show (x_token.toInt = 2 → 0 ≤ u716.toInt ∧ u716.toInt ≤ 999); omega)⟩ (by show (x_size.toInt - v988.toInt).toNat < (x_size.toInt - u714.toInt).toNat; omega) _ _ _ hP hD hS (lv_sub hl [0, 1, 2, 3] rfl)
                        · have dc981 : u715.toInt < 3 := nle_i (a := 3) (b := u715.toInt) rfl rfl c981
                          have k997 : 0 ≤ u715.toInt ∧ u715.toInt ≤ 2 := ⟨i761.1, up_lt dc981 (Int.le_refl _) (by decide)⟩
                          refine lv_aload_n hx hb dX10_next_256 rfl (lv_at hl 3 rfl) ?_
                          refine lv_bipush (v := 10) hx hb dX10_next_257 (by decide) ?_
                          refine lv_aload_n hx hb dX10_next_259 rfl (lv_at hl 3 rfl) ?_
                          have n998 : G975 14 = .int u716 := (SAME.at i978 (by decide) i758)
                          refine get_f (D := D) (ci := 10) (v := .int u716) (C := RX10) (T := TX10) (N := 67) hx hb hw inAX10 hown hK hP 0 rfl rfl 14 (by decide) (hw _ q_1275) (fun _ h9 => h9) n998 dX10_next_260 ?_
                          refine lv_imul hx hb dX10_next_263 ?_
                          refine lv_topi (fun v999 ev999 => ?_)
                          refine lv_aload_n hx hb dX10_next_264 rfl (lv_at hl 3 rfl) ?_
                          have n1000 : G975 1 = .ref h_tape := (SAME.at i978 (by decide) n767)
                          have n1001 : G975 3 = .int x_size := (SAME.at i978 (by decide) n770)
                          have n1002 : G975 4 = .int u714 := (SAME.at i978 (by decide) i756)
                          refine call_Vi (wr := []) (As := []) (rest := [.int v999, .ref h0]) hx hb hml hown hw (m_X10_peek l D cI cJ cB cP cM cZ h0 h_tape G975 x_size u714 f_tape _ n1000 n1001 (ir_wk k688 (by decide) (by decide)) n1002 (ir_wk k936 (by decide) (by decide))) wV_X10_169_X10_peek dX10_next_265 hK hP hD hS hA [0, 1] [] rfl rfl (by decide) (by decide) (by decide) 0 10 rfl rfl GG.fb hG.at hl.1 rfl (Nat.le_of_ble_eq_true rfl) ⟨(Nat.le_of_ble_eq_true rfl), (Nat.le_of_ble_eq_true rfl)⟩ ⟨(Nat.le_of_ble_eq_true rfl), (Nat.le_of_ble_eq_true rfl)⟩ (fun r1003 u H locs hp hP hD hS => ?_)
                          rcases hp with ⟨t1004, rfl, rfl⟩ | ⟨t1005, t1006, rfl, rfl⟩
                          · have hP : va_P D vwCl [(h0, .inr (10, vL 67 G975)), (h_tape, .inl (cB, 940, .inl f_tape))] H := hP
                            have hD : va_D A [(h0, .inr (10, vL 67 G975)), (h_tape, .inl (cB, 940, .inl f_tape))] := hD
                            refine W.widen (k := 0) (n := 0) (Nat.le_of_ble_eq_true rfl) (Nat.le_of_ble_eq_true rfl) ?_
                            have k1008 : 201 ≤ x_size.toInt ∧ x_size.toInt ≤ 939 := ⟨k688.1, Int.le_trans t1004 k936.2⟩
                            have k1009 : 201 ≤ u714.toInt ∧ u714.toInt ≤ 939 := ⟨Int.le_trans k688.1 t1004, k936.2⟩
                            refine lv_iadd hx hb dX10_next_268 ?_
                            refine lv_topi (fun v1010 ev1010 => ?_)
                            refine lv_bipush (v := 48) hx hb dX10_next_269 (by decide) ?_
                            refine lv_isub hx hb dX10_next_271 ?_
                            refine lv_topi (fun v1011 ev1011 => ?_)
                            refine put_f (D := D) (ci := 10) (v := .int v1011) (ty := .int) (C := RX10) (T := TX10) (N := 67) hx hb hw inAX10 tyX10 tyX10_ok nmX10 hown hK hP hD hS 0 rfl rfl 14 (by decide) (hw _ q_1275) (fun _ h9 => h9) rfl (by decide +kernel) rfl rfl dX10_next_272 (fun H locs F1012 eF1012 hP hD hS => ?_)
                            have hP : va_P D vwCl [(h0, .inr (10, vL 67 F1012)), (h_tape, .inl (cB, 940, .inl f_tape))] H := hP
                            have hD : va_D A [(h0, .inr (10, vL 67 F1012)), (h_tape, .inl (cB, 940, .inl f_tape))] := hD
                            refine lv_aload_n hx hb dX10_next_275 rfl (lv_at hl 3 rfl) ?_
                            refine lv_dup hx hb dX10_next_276 rfl ?_
                            have n1013 : F1012 13 = .int u715 := (get_ne eF1012 (by decide) n980)
                            refine get_f (D := D) (ci := 10) (v := .int u715) (C := RX10) (T := TX10) (N := 67) hx hb hw inAX10 hown hK hP 0 rfl rfl 13 (by decide) (hw _ q_1274) (fun _ h9 => h9) n1013 dX10_next_277 ?_
                            refine lv_iconst (v := 1) hx hb dX10_next_280 (by decide) ?_
                            refine lv_iadd hx hb dX10_next_281 ?_
                            refine lv_topi (fun v1014 ev1014 => ?_)
                            have bv1014 : v1014.toInt = u715.toInt + 1 := by rw [ev1014]; exact add_k rfl rfl k997 ⟨Int.le_refl _, Int.le_refl _⟩ (by decide)
                            have k1015 : 1 ≤ v1014.toInt ∧ v1014.toInt ≤ 3 := add_r bv1014 k997 ⟨Int.le_refl _, Int.le_refl _⟩ (by decide)
                            refine put_f (D := D) (ci := 10) (v := .int v1014) (ty := .int) (C := RX10) (T := TX10) (N := 67) hx hb hw inAX10 tyX10 tyX10_ok nmX10 hown hK hP hD hS 0 rfl rfl 13 (by decide) (hw _ q_1274) (fun _ h9 => h9) rfl (by decide +kernel) rfl rfl dX10_next_282 (fun H locs F1016 eF1016 hP hD hS => ?_)
                            have hP : va_P D vwCl [(h0, .inr (10, vL 67 F1016)), (h_tape, .inl (cB, 940, .inl f_tape))] H := hP
                            have hD : va_D A [(h0, .inr (10, vL 67 F1016)), (h_tape, .inl (cB, 940, .inl f_tape))] := hD
                            refine lv_aload_n hx hb dX10_next_285 rfl (lv_at hl 3 rfl) ?_
                            refine lv_dup hx hb dX10_next_286 rfl ?_
                            have n1017 : F1012 4 = .int u714 := (get_ne eF1012 (by decide) n1002)
                            have n1018 : F1016 4 = .int u714 := (get_ne eF1016 (by decide) n1017)
                            refine get_f (D := D) (ci := 10) (v := .int u714) (C := RX10) (T := TX10) (N := 67) hx hb hw inAX10 hown hK hP 0 rfl rfl 4 (by decide) (hw _ q_1265) (fun _ h9 => h9) n1018 dX10_next_287 ?_
                            refine lv_iconst (v := 1) hx hb dX10_next_290 (by decide) ?_
                            refine lv_iadd hx hb dX10_next_291 ?_
                            refine lv_topi (fun v1019 ev1019 => ?_)
                            have bv1019 : v1019.toInt = u714.toInt + 1 := by rw [ev1019]; exact add_k rfl rfl k1009 ⟨Int.le_refl _, Int.le_refl _⟩ (by decide)
                            have k1020 : 202 ≤ v1019.toInt ∧ v1019.toInt ≤ 940 := add_r bv1019 k1009 ⟨Int.le_refl _, Int.le_refl _⟩ (by decide)
                            refine put_f (D := D) (ci := 10) (v := .int v1019) (ty := .int) (C := RX10) (T := TX10) (N := 67) hx hb hw inAX10 tyX10 tyX10_ok nmX10 hown hK hP hD hS 0 rfl rfl 4 (by decide) (hw _ q_1265) (fun _ h9 => h9) rfl (by decide +kernel) rfl rfl dX10_next_292 (fun H locs F1021 eF1021 hP hD hS => ?_)
                            have hP : va_P D vwCl [(h0, .inr (10, vL 67 F1021)), (h_tape, .inl (cB, 940, .inl f_tape))] H := hP
                            have hD : va_D A [(h0, .inr (10, vL 67 F1021)), (h_tape, .inl (cB, 940, .inl f_tape))] := hD
                            refine lv_goto (tgt := 181) hx hb dX10_next_295 (by decide) ?_
                            have n1022 : F1021 13 = .int v1014 := (get_ne eF1021 (by decide) (get_eq eF1016))
                            have n1023 : F1016 14 = .int v1011 := (get_ne eF1016 (by decide) (get_eq eF1012))
                            have n1024 : F1021 14 = .int v1011 := (get_ne eF1021 (by decide) n1023)
                            have n1025 : F1012 18 = .long u976 := (get_ne eF1012 (by decide) i979)
                            have n1026 : F1016 18 = .long u976 := (get_ne eF1016 (by decide) n1025)
                            have n1027 : F1021 18 = .long u976 := (get_ne eF1021 (by decide) n1026)
                            exact ih (u971, F1021, v1019, v1014, v1011, u976) ⟨i973, (SAME.up eF1021 (SAME.up eF1016 (SAME.up eF1012 (SAME.tr (SAME.tr SAME.rf i755 (by decide)) i978 (by decide)) (by decide)) (by decide)) (by decide)), (get_eq eF1021), n1022, n1024, n1027, (ir_wk k1020 (by decide) (by decide)), (ir_wk k1015 (by decide) (by decide)), (by show 0 ≤ v1014.toInt ∧ v1014.toInt ≤ v1019.toInt; omega), (by show u971.toInt = 1 → u707.toInt = 0 → (0 ≤ v1011.toInt ∧ v1011.toInt ≤ 999 ∧ (v1014.toInt = 0 → v1011.toInt = 0) ∧ (v1014.toInt = 1 → v1011.toInt ≤ 9) ∧ (v1014.toInt = 2 → v1011.toInt ≤ 99)); omega), (by show (x_token.toInt = 2 → 0 ≤ v1011.toInt ∧ v1011.toInt ≤ 999); omega)⟩ (by show (x_size.toInt - v1019.toInt).toNat < (x_size.toInt - u714.toInt).toNat; omega) _ _ _ hP hD hS (lv_sub hl [0, 1, 2, 3] rfl)
                          · have hP : va_P D vwCl [(h0, .inr (10, vL 67 G975)), (h_tape, .inl (cB, 940, .inl f_tape))] H := hP
                            have hD : va_D A [(h0, .inr (10, vL 67 G975)), (h_tape, .inl (cB, 940, .inl f_tape))] := hD
                            refine W.widen (k := 0) (n := 0) (Nat.le_of_ble_eq_true rfl) (Nat.le_of_ble_eq_true rfl) ?_
                            refine lv_ci (y := v934) ev934.symm ?_
                            refine lv_iadd hx hb dX10_next_268 ?_
                            refine lv_topi (fun v1028 ev1028 => ?_)
                            refine lv_bipush (v := 48) hx hb dX10_next_269 (by decide) ?_
                            refine lv_isub hx hb dX10_next_271 ?_
                            refine lv_topi (fun v1029 ev1029 => ?_)
                            refine put_f (D := D) (ci := 10) (v := .int v1029) (ty := .int) (C := RX10) (T := TX10) (N := 67) hx hb hw inAX10 tyX10 tyX10_ok nmX10 hown hK hP hD hS 0 rfl rfl 14 (by decide) (hw _ q_1275) (fun _ h9 => h9) rfl (by decide +kernel) rfl rfl dX10_next_272 (fun H locs F1030 eF1030 hP hD hS => ?_)
                            have hP : va_P D vwCl [(h0, .inr (10, vL 67 F1030)), (h_tape, .inl (cB, 940, .inl f_tape))] H := hP
                            have hD : va_D A [(h0, .inr (10, vL 67 F1030)), (h_tape, .inl (cB, 940, .inl f_tape))] := hD
                            refine lv_aload_n hx hb dX10_next_275 rfl (lv_at hl 3 rfl) ?_
                            refine lv_dup hx hb dX10_next_276 rfl ?_
                            have n1031 : F1030 13 = .int u715 := (get_ne eF1030 (by decide) n980)
                            refine get_f (D := D) (ci := 10) (v := .int u715) (C := RX10) (T := TX10) (N := 67) hx hb hw inAX10 hown hK hP 0 rfl rfl 13 (by decide) (hw _ q_1274) (fun _ h9 => h9) n1031 dX10_next_277 ?_
                            refine lv_iconst (v := 1) hx hb dX10_next_280 (by decide) ?_
                            refine lv_iadd hx hb dX10_next_281 ?_
                            refine lv_topi (fun v1032 ev1032 => ?_)
                            have bv1032 : v1032.toInt = u715.toInt + 1 := by rw [ev1032]; exact add_k rfl rfl k997 ⟨Int.le_refl _, Int.le_refl _⟩ (by decide)
                            have k1033 : 1 ≤ v1032.toInt ∧ v1032.toInt ≤ 3 := add_r bv1032 k997 ⟨Int.le_refl _, Int.le_refl _⟩ (by decide)
                            refine put_f (D := D) (ci := 10) (v := .int v1032) (ty := .int) (C := RX10) (T := TX10) (N := 67) hx hb hw inAX10 tyX10 tyX10_ok nmX10 hown hK hP hD hS 0 rfl rfl 13 (by decide) (hw _ q_1274) (fun _ h9 => h9) rfl (by decide +kernel) rfl rfl dX10_next_282 (fun H locs F1034 eF1034 hP hD hS => ?_)
                            have hP : va_P D vwCl [(h0, .inr (10, vL 67 F1034)), (h_tape, .inl (cB, 940, .inl f_tape))] H := hP
                            have hD : va_D A [(h0, .inr (10, vL 67 F1034)), (h_tape, .inl (cB, 940, .inl f_tape))] := hD
                            refine lv_aload_n hx hb dX10_next_285 rfl (lv_at hl 3 rfl) ?_
                            refine lv_dup hx hb dX10_next_286 rfl ?_
                            have n1035 : F1030 4 = .int u714 := (get_ne eF1030 (by decide) n1002)
                            have n1036 : F1034 4 = .int u714 := (get_ne eF1034 (by decide) n1035)
                            refine get_f (D := D) (ci := 10) (v := .int u714) (C := RX10) (T := TX10) (N := 67) hx hb hw inAX10 hown hK hP 0 rfl rfl 4 (by decide) (hw _ q_1265) (fun _ h9 => h9) n1036 dX10_next_287 ?_
                            refine lv_iconst (v := 1) hx hb dX10_next_290 (by decide) ?_
                            refine lv_iadd hx hb dX10_next_291 ?_
                            refine lv_topi (fun v1037 ev1037 => ?_)
                            have bv1037 : v1037.toInt = u714.toInt + 1 := by rw [ev1037]; exact add_k rfl rfl k936 ⟨Int.le_refl _, Int.le_refl _⟩ (by decide)
                            have k1038 : 1 ≤ v1037.toInt ∧ v1037.toInt ≤ 940 := add_r bv1037 k936 ⟨Int.le_refl _, Int.le_refl _⟩ (by decide)
                            refine put_f (D := D) (ci := 10) (v := .int v1037) (ty := .int) (C := RX10) (T := TX10) (N := 67) hx hb hw inAX10 tyX10 tyX10_ok nmX10 hown hK hP hD hS 0 rfl rfl 4 (by decide) (hw _ q_1265) (fun _ h9 => h9) rfl (by decide +kernel) rfl rfl dX10_next_292 (fun H locs F1039 eF1039 hP hD hS => ?_)
                            have hP : va_P D vwCl [(h0, .inr (10, vL 67 F1039)), (h_tape, .inl (cB, 940, .inl f_tape))] H := hP
                            have hD : va_D A [(h0, .inr (10, vL 67 F1039)), (h_tape, .inl (cB, 940, .inl f_tape))] := hD
                            refine lv_goto (tgt := 181) hx hb dX10_next_295 (by decide) ?_
                            have n1040 : F1039 13 = .int v1032 := (get_ne eF1039 (by decide) (get_eq eF1034))
                            have n1041 : F1034 14 = .int v1029 := (get_ne eF1034 (by decide) (get_eq eF1030))
                            have n1042 : F1039 14 = .int v1029 := (get_ne eF1039 (by decide) n1041)
                            have n1043 : F1030 18 = .long u976 := (get_ne eF1030 (by decide) i979)
                            have n1044 : F1034 18 = .long u976 := (get_ne eF1034 (by decide) n1043)
                            have n1045 : F1039 18 = .long u976 := (get_ne eF1039 (by decide) n1044)
                            exact ih (u971, F1039, v1037, v1032, v1029, u976) ⟨i973, (SAME.up eF1039 (SAME.up eF1034 (SAME.up eF1030 (SAME.tr (SAME.tr SAME.rf i755 (by decide)) i978 (by decide)) (by decide)) (by decide)) (by decide)), (get_eq eF1039), n1040, n1042, n1045, (ir_wk k1038 (by decide) (by decide)), (ir_wk k1033 (by decide) (by decide)), (by show 0 ≤ v1032.toInt ∧ v1032.toInt ≤ v1037.toInt; omega), (by show u971.toInt = 1 → u707.toInt = 0 → (0 ≤ v1029.toInt ∧ v1029.toInt ≤ 999 ∧ (v1032.toInt = 0 → v1029.toInt = 0) ∧ (v1032.toInt = 1 → v1029.toInt ≤ 9) ∧ (v1032.toInt = 2 → v1029.toInt ≤ 99)); omega), (by show (x_token.toInt = 2 → 0 ≤ v1029.toInt ∧ v1029.toInt ≤ 999); omega)⟩ (by show (x_size.toInt - v1037.toInt).toNat < (x_size.toInt - u714.toInt).toNat; omega) _ _ _ hP hD hS (lv_sub hl [0, 1, 2, 3] rfl)
                      refine lv_aload_n hx hb dX10_next_222 rfl (lv_at hl 3 rfl) ?_
                      refine get_f (D := D) (ci := 10) (v := .int u715) (C := RX10) (T := TX10) (N := 67) hx hb hw inAX10 hown hK hP 0 rfl rfl 13 (by decide) (hw _ q_1274) (fun _ h9 => h9) i757 dX10_next_223 ?_
                      refine lv_bipush (v := 7) hx hb dX10_next_226 (by decide) ?_
                      refine lv_icmp_ge (tgt := 248) hx hb dX10_next_228 (by decide) (fun c1046 => ?_) (fun c1046 => ?_)
                      · have dc1046 : 7 ≤ u715.toInt := le_i (a := 7) (b := u715.toInt) rfl rfl c1046
                        have k1047 : 7 ≤ u715.toInt ∧ u715.toInt ≤ 940 := ⟨Int.le_trans (Int.le_refl _) dc1046, i761.2⟩
                        exact cut977 G713 u717 SAME.rf i759 _ _ _ hP hD hS (lv_sub hl [0, 1, 2, 3] rfl)
                      · have dc1046 : u715.toInt < 7 := nle_i (a := 7) (b := u715.toInt) rfl rfl c1046
                        have k1048 : 0 ≤ u715.toInt ∧ u715.toInt ≤ 6 := ⟨i761.1, up_lt dc1046 (Int.le_refl _) (by decide)⟩
                        refine lv_aload_n hx hb dX10_next_231 rfl (lv_at hl 3 rfl) ?_
                        refine lv_aload_n hx hb dX10_next_232 rfl (lv_at hl 3 rfl) ?_
                        refine get_f (D := D) (ci := 10) (v := .long u717) (C := RX10) (T := TX10) (N := 67) hx hb hw inAX10 hown hK hP 0 rfl rfl 18 (by decide) (hw _ q_1279) (fun _ h9 => h9) i759 dX10_next_233 ?_
                        refine lv_bipush (v := 8) hx hb dX10_next_236 (by decide) ?_
                        obtain ⟨v1049, ev1049⟩ : ∃ z : Int64, (u717 : Int64) <<< ((8 : Int32).toInt64 &&& 63) = z := ⟨_, rfl⟩
                        refine lv_lshl (v := v1049) hx hb dX10_next_238 ev1049 ?_
                        refine lv_aload_n hx hb dX10_next_239 rfl (lv_at hl 3 rfl) ?_
                        refine call_Vi (wr := []) (As := []) (rest := [.long v1049, .ref h0]) hx hb hml hown hw (m_X10_peek l D cI cJ cB cP cM cZ h0 h_tape G713 x_size u714 f_tape _ n767 n770 (ir_wk k688 (by decide) (by decide)) i756 (ir_wk k936 (by decide) (by decide))) wV_X10_169_X10_peek dX10_next_240 hK hP hD hS hA [0, 1] [] rfl rfl (by decide) (by decide) (by decide) 0 10 rfl rfl GG.fb hG.at hl.1 rfl (Nat.le_of_ble_eq_true rfl) ⟨(Nat.le_of_ble_eq_true rfl), (Nat.le_of_ble_eq_true rfl)⟩ ⟨(Nat.le_of_ble_eq_true rfl), (Nat.le_of_ble_eq_true rfl)⟩ (fun r1050 u H locs hp hP hD hS => ?_)
                        rcases hp with ⟨t1051, rfl, rfl⟩ | ⟨t1052, t1053, rfl, rfl⟩
                        · have hP : va_P D vwCl [(h0, .inr (10, vL 67 G713)), (h_tape, .inl (cB, 940, .inl f_tape))] H := hP
                          have hD : va_D A [(h0, .inr (10, vL 67 G713)), (h_tape, .inl (cB, 940, .inl f_tape))] := hD
                          refine W.widen (k := 0) (n := 0) (Nat.le_of_ble_eq_true rfl) (Nat.le_of_ble_eq_true rfl) ?_
                          have k1055 : 201 ≤ x_size.toInt ∧ x_size.toInt ≤ 939 := ⟨k688.1, Int.le_trans t1051 k936.2⟩
                          have k1056 : 201 ≤ u714.toInt ∧ u714.toInt ≤ 939 := ⟨Int.le_trans k688.1 t1051, k936.2⟩
                          obtain ⟨v1057, ev1057⟩ : ∃ z : Int64, ((-1) : Int32).toInt64 = z := ⟨_, rfl⟩
                          refine lv_i2l (v := v1057) hx hb dX10_next_243 ev1057 ?_
                          refine lv_lor hx hb dX10_next_244 ?_
                          refine lv_topl (fun v1058 ev1058 => ?_)
                          refine put_f (D := D) (ci := 10) (v := .long v1058) (ty := .long) (C := RX10) (T := TX10) (N := 67) hx hb hw inAX10 tyX10 tyX10_ok nmX10 hown hK hP hD hS 0 rfl rfl 18 (by decide) (hw _ q_1279) (fun _ h9 => h9) rfl (by decide +kernel) rfl rfl dX10_next_245 (fun H locs F1059 eF1059 hP hD hS => ?_)
                          have hP : va_P D vwCl [(h0, .inr (10, vL 67 F1059)), (h_tape, .inl (cB, 940, .inl f_tape))] H := hP
                          have hD : va_D A [(h0, .inr (10, vL 67 F1059)), (h_tape, .inl (cB, 940, .inl f_tape))] := hD
                          exact cut977 F1059 v1058 (SAME.up eF1059 SAME.rf (by decide)) (get_eq eF1059) _ _ _ hP hD hS (lv_sub hl [0, 1, 2, 3] rfl)
                        · have hP : va_P D vwCl [(h0, .inr (10, vL 67 G713)), (h_tape, .inl (cB, 940, .inl f_tape))] H := hP
                          have hD : va_D A [(h0, .inr (10, vL 67 G713)), (h_tape, .inl (cB, 940, .inl f_tape))] := hD
                          refine W.widen (k := 0) (n := 0) (Nat.le_of_ble_eq_true rfl) (Nat.le_of_ble_eq_true rfl) ?_
                          refine lv_ci (y := v934) ev934.symm ?_
                          obtain ⟨v1060, ev1060⟩ : ∃ z : Int64, (v934 : Int32).toInt64 = z := ⟨_, rfl⟩
                          refine lv_i2l (v := v1060) hx hb dX10_next_243 ev1060 ?_
                          refine lv_lor hx hb dX10_next_244 ?_
                          refine lv_topl (fun v1061 ev1061 => ?_)
                          refine put_f (D := D) (ci := 10) (v := .long v1061) (ty := .long) (C := RX10) (T := TX10) (N := 67) hx hb hw inAX10 tyX10 tyX10_ok nmX10 hown hK hP hD hS 0 rfl rfl 18 (by decide) (hw _ q_1279) (fun _ h9 => h9) rfl (by decide +kernel) rfl rfl dX10_next_245 (fun H locs F1062 eF1062 hP hD hS => ?_)
                          have hP : va_P D vwCl [(h0, .inr (10, vL 67 F1062)), (h_tape, .inl (cB, 940, .inl f_tape))] H := hP
                          have hD : va_D A [(h0, .inr (10, vL 67 F1062)), (h_tape, .inl (cB, 940, .inl f_tape))] := hD
                          exact cut977 F1062 v1061 (SAME.up eF1062 SAME.rf (by decide)) (get_eq eF1062) _ _ _ hP hD hS (lv_sub hl [0, 1, 2, 3] rfl)
                    refine lv_iload_n hx hb dX10_next_201 rfl (lv_at hl 0 rfl) ?_
                    refine lv_if_eq (tgt := 220) hx hb dX10_next_202 (by decide) (fun c1063 => ?_) (fun c1063 => ?_)
                    · have dc1063 : u712.toInt = 0 := eq_i (a := u712.toInt) (b := 0) rfl rfl c1063
                      have k1064 : 0 ≤ u712.toInt ∧ u712.toInt ≤ 0 := ⟨i754.1, Int.le_trans (Int.le_of_eq dc1063) (Int.le_refl _)⟩
                      refine lv_iconst (v := 0) hx hb dX10_next_220 (by decide) ?_
                      refine lv_istore_n (lv' := [(3, .int 0), (2, .int u707), (1, .int v704), (0, .ref h0)]) hx hb dX10_next_221 rfl hl (by decide) rfl (fun ls hl => ?_)
                      exact cut972 0 (show 0 ≤ (0 : Int32).toInt ∧ (0 : Int32).toInt ≤ 1 by decide) (by show (0 = 1 → u707.toInt = 0 → (48 ≤ v934.toInt ∧ v934.toInt ≤ 57 ∧ 0 ≤ u716.toInt ∧ u716.toInt ≤ 999 ∧ (u715.toInt = 0 → u716.toInt = 0) ∧ (u715.toInt = 1 → u716.toInt ≤ 9) ∧ (u715.toInt = 2 → u716.toInt ≤ 99))); omega) _ _ _ hP hD hS (lv_sub hl [0, 1, 2, 3] rfl)
                    · have dc1063 : u712.toInt ≠ 0 := ne_i (a := u712.toInt) (b := 0) rfl rfl c1063
                      have k1065 : 1 ≤ u712.toInt ∧ u712.toInt ≤ 1 := ⟨ne_lo dc1063 i754.1 ⟨Int.le_refl _, Int.le_refl _⟩ (by decide), i754.2⟩
                      refine lv_aload_n hx hb dX10_next_205 rfl (lv_at hl 3 rfl) ?_
                      refine call_Vi (wr := []) (As := []) (rest := []) hx hb hml hown hw (m_X10_peek l D cI cJ cB cP cM cZ h0 h_tape G713 x_size u714 f_tape _ n767 n770 (ir_wk k688 (by decide) (by decide)) i756 (ir_wk k936 (by decide) (by decide))) wV_X10_169_X10_peek dX10_next_206 hK hP hD hS hA [0, 1] [] rfl rfl (by decide) (by decide) (by decide) 0 10 rfl rfl GG.fb hG.at hl.1 rfl (Nat.le_of_ble_eq_true rfl) ⟨(Nat.le_of_ble_eq_true rfl), (Nat.le_of_ble_eq_true rfl)⟩ ⟨(Nat.le_of_ble_eq_true rfl), (Nat.le_of_ble_eq_true rfl)⟩ (fun r1066 u H locs hp hP hD hS => ?_)
                      rcases hp with ⟨t1067, rfl, rfl⟩ | ⟨t1068, t1069, rfl, rfl⟩
                      · have hP : va_P D vwCl [(h0, .inr (10, vL 67 G713)), (h_tape, .inl (cB, 940, .inl f_tape))] H := hP
                        have hD : va_D A [(h0, .inr (10, vL 67 G713)), (h_tape, .inl (cB, 940, .inl f_tape))] := hD
                        refine W.widen (k := 0) (n := 0) (Nat.le_of_ble_eq_true rfl) (Nat.le_of_ble_eq_true rfl) ?_
                        have k1071 : 201 ≤ x_size.toInt ∧ x_size.toInt ≤ 939 := ⟨k688.1, Int.le_trans t1067 k936.2⟩
                        have k1072 : 201 ≤ u714.toInt ∧ u714.toInt ≤ 939 := ⟨Int.le_trans k688.1 t1067, k936.2⟩
                        refine call_Si (wr := [(h0, .inr (10, vL 67 G713)), (h_tape, .inl (cB, 940, .inl f_tape))]) (As := [.int (-1)]) (rest := []) hx hb hml hown hw (m_X10_isSmall l D cI cJ cB cP cM cZ (-1) _ ) wS_X10_182_X10_isSmall dX10_next_209 hP hD hS hA [] [0, 1] rfl rfl (by decide) (by decide) (by decide) GG.fb hG.at hl.1 rfl (Nat.le_of_ble_eq_true rfl) ⟨(Nat.le_of_ble_eq_true rfl), (Nat.le_of_ble_eq_true rfl)⟩ ⟨(Nat.le_of_ble_eq_true rfl), (Nat.le_of_ble_eq_true rfl)⟩ (fun r1073 u H locs hp hP hD hS => ?_)
                        rcases hp with ⟨t1074, rfl, rfl⟩ | ⟨t1075, t1076, rfl, rfl⟩ | ⟨t1077, t1078, rfl, rfl⟩
                        · have hP : va_P D vwCl [(h0, .inr (10, vL 67 G713)), (h_tape, .inl (cB, 940, .inl f_tape))] H := hP
                          have hD : va_D A [(h0, .inr (10, vL 67 G713)), (h_tape, .inl (cB, 940, .inl f_tape))] := hD
                          refine W.widen (k := 0) (n := 0) (Nat.le_of_ble_eq_true rfl) (Nat.le_of_ble_eq_true rfl) ?_
                          refine lv_iload_n hx hb dX10_next_212 rfl (lv_at hl 1 rfl) ?_
                          refine lv_icmp_ne (tgt := 220) hx hb dX10_next_213 (by decide) (fun c1080 => ?_) (fun c1080 => ?_)
                          · have dc1080 : 0 ≠ u707.toInt := ne_i (a := 0) (b := u707.toInt) rfl rfl c1080
                            have k1081 : 1 ≤ u707.toInt ∧ u707.toInt ≤ 1 := ⟨ne_lo dc1080.symm i709.1 ⟨Int.le_refl _, Int.le_refl _⟩ (by decide), i709.2⟩
                            refine lv_iconst (v := 0) hx hb dX10_next_220 (by decide) ?_
                            refine lv_istore_n (lv' := [(3, .int 0), (2, .int u707), (1, .int v704), (0, .ref h0)]) hx hb dX10_next_221 rfl hl (by decide) rfl (fun ls hl => ?_)
                            exact cut972 0 (show 0 ≤ (0 : Int32).toInt ∧ (0 : Int32).toInt ≤ 1 by decide) (by show (0 = 1 → u707.toInt = 0 → (48 ≤ v934.toInt ∧ v934.toInt ≤ 57 ∧ 0 ≤ u716.toInt ∧ u716.toInt ≤ 999 ∧ (u715.toInt = 0 → u716.toInt = 0) ∧ (u715.toInt = 1 → u716.toInt ≤ 9) ∧ (u715.toInt = 2 → u716.toInt ≤ 99))); omega) _ _ _ hP hD hS (lv_sub hl [0, 1, 2, 3] rfl)
                          · have dc1080 : 0 = u707.toInt := eq_i (a := 0) (b := u707.toInt) rfl rfl c1080
                            have k1082 : 0 ≤ u707.toInt ∧ u707.toInt ≤ 0 := ⟨i709.1, Int.le_trans (Int.le_of_eq dc1080.symm) (Int.le_refl _)⟩
                            refine lv_iconst (v := 1) hx hb dX10_next_216 (by decide) ?_
                            refine lv_goto (tgt := 221) hx hb dX10_next_217 (by decide) ?_
                            refine lv_istore_n (lv' := [(3, .int 1), (2, .int u707), (1, .int v704), (0, .ref h0)]) hx hb dX10_next_221 rfl hl (by decide) rfl (fun ls hl => ?_)
                            exact cut972 1 (show 0 ≤ (1 : Int32).toInt ∧ (1 : Int32).toInt ≤ 1 by decide) (by show (1 = 1 → u707.toInt = 0 → (48 ≤ v934.toInt ∧ v934.toInt ≤ 57 ∧ 0 ≤ u716.toInt ∧ u716.toInt ≤ 999 ∧ (u715.toInt = 0 → u716.toInt = 0) ∧ (u715.toInt = 1 → u716.toInt ≤ 9) ∧ (u715.toInt = 2 → u716.toInt ≤ 99))); omega) _ _ _ hP hD hS (lv_sub hl [0, 1, 2, 3] rfl)
                        · have hP : va_P D vwCl [(h0, .inr (10, vL 67 G713)), (h_tape, .inl (cB, 940, .inl f_tape))] H := hP
                          have hD : va_D A [(h0, .inr (10, vL 67 G713)), (h_tape, .inl (cB, 940, .inl f_tape))] := hD
                          refine W.widen (k := 0) (n := 0) (Nat.le_of_ble_eq_true rfl) (Nat.le_of_ble_eq_true rfl) ?_
                          exact absurd t1075 (by decide)
                        · have hP : va_P D vwCl [(h0, .inr (10, vL 67 G713)), (h_tape, .inl (cB, 940, .inl f_tape))] H := hP
                          have hD : va_D A [(h0, .inr (10, vL 67 G713)), (h_tape, .inl (cB, 940, .inl f_tape))] := hD
                          refine W.widen (k := 0) (n := 0) (Nat.le_of_ble_eq_true rfl) (Nat.le_of_ble_eq_true rfl) ?_
                          exact absurd t1077 (by decide)
                      · have hP : va_P D vwCl [(h0, .inr (10, vL 67 G713)), (h_tape, .inl (cB, 940, .inl f_tape))] H := hP
                        have hD : va_D A [(h0, .inr (10, vL 67 G713)), (h_tape, .inl (cB, 940, .inl f_tape))] := hD
                        refine W.widen (k := 0) (n := 0) (Nat.le_of_ble_eq_true rfl) (Nat.le_of_ble_eq_true rfl) ?_
                        refine lv_ci (y := v934) ev934.symm ?_
                        refine call_Si (wr := [(h0, .inr (10, vL 67 G713)), (h_tape, .inl (cB, 940, .inl f_tape))]) (As := [.int v934]) (rest := []) hx hb hml hown hw (m_X10_isSmall l D cI cJ cB cP cM cZ v934 _ ) wS_X10_182_X10_isSmall dX10_next_209 hP hD hS hA [] [0, 1] rfl rfl (by decide) (by decide) (by decide) GG.fb hG.at hl.1 rfl (Nat.le_of_ble_eq_true rfl) ⟨(Nat.le_of_ble_eq_true rfl), (Nat.le_of_ble_eq_true rfl)⟩ ⟨(Nat.le_of_ble_eq_true rfl), (Nat.le_of_ble_eq_true rfl)⟩ (fun r1083 u H locs hp hP hD hS => ?_)
                        rcases hp with ⟨t1084, rfl, rfl⟩ | ⟨t1085, t1086, rfl, rfl⟩ | ⟨t1087, t1088, rfl, rfl⟩
                        · have hP : va_P D vwCl [(h0, .inr (10, vL 67 G713)), (h_tape, .inl (cB, 940, .inl f_tape))] H := hP
                          have hD : va_D A [(h0, .inr (10, vL 67 G713)), (h_tape, .inl (cB, 940, .inl f_tape))] := hD
                          refine W.widen (k := 0) (n := 0) (Nat.le_of_ble_eq_true rfl) (Nat.le_of_ble_eq_true rfl) ?_
                          refine lv_iload_n hx hb dX10_next_212 rfl (lv_at hl 1 rfl) ?_
                          refine lv_icmp_ne (tgt := 220) hx hb dX10_next_213 (by decide) (fun c1090 => ?_) (fun c1090 => ?_)
                          · have dc1090 : 0 ≠ u707.toInt := ne_i (a := 0) (b := u707.toInt) rfl rfl c1090
                            have k1091 : 1 ≤ u707.toInt ∧ u707.toInt ≤ 1 := ⟨ne_lo dc1090.symm i709.1 ⟨Int.le_refl _, Int.le_refl _⟩ (by decide), i709.2⟩
                            refine lv_iconst (v := 0) hx hb dX10_next_220 (by decide) ?_
                            refine lv_istore_n (lv' := [(3, .int 0), (2, .int u707), (1, .int v704), (0, .ref h0)]) hx hb dX10_next_221 rfl hl (by decide) rfl (fun ls hl => ?_)
                            exact cut972 0 (show 0 ≤ (0 : Int32).toInt ∧ (0 : Int32).toInt ≤ 1 by decide) (by show (0 = 1 → u707.toInt = 0 → (48 ≤ v934.toInt ∧ v934.toInt ≤ 57 ∧ 0 ≤ u716.toInt ∧ u716.toInt ≤ 999 ∧ (u715.toInt = 0 → u716.toInt = 0) ∧ (u715.toInt = 1 → u716.toInt ≤ 9) ∧ (u715.toInt = 2 → u716.toInt ≤ 99))); omega) _ _ _ hP hD hS (lv_sub hl [0, 1, 2, 3] rfl)
                          · have dc1090 : 0 = u707.toInt := eq_i (a := 0) (b := u707.toInt) rfl rfl c1090
                            have k1092 : 0 ≤ u707.toInt ∧ u707.toInt ≤ 0 := ⟨i709.1, Int.le_trans (Int.le_of_eq dc1090.symm) (Int.le_refl _)⟩
                            refine lv_iconst (v := 1) hx hb dX10_next_216 (by decide) ?_
                            refine lv_goto (tgt := 221) hx hb dX10_next_217 (by decide) ?_
                            refine lv_istore_n (lv' := [(3, .int 1), (2, .int u707), (1, .int v704), (0, .ref h0)]) hx hb dX10_next_221 rfl hl (by decide) rfl (fun ls hl => ?_)
                            exact cut972 1 (show 0 ≤ (1 : Int32).toInt ∧ (1 : Int32).toInt ≤ 1 by decide) (by show (1 = 1 → u707.toInt = 0 → (48 ≤ v934.toInt ∧ v934.toInt ≤ 57 ∧ 0 ≤ u716.toInt ∧ u716.toInt ≤ 999 ∧ (u715.toInt = 0 → u716.toInt = 0) ∧ (u715.toInt = 1 → u716.toInt ≤ 9) ∧ (u715.toInt = 2 → u716.toInt ≤ 99))); omega) _ _ _ hP hD hS (lv_sub hl [0, 1, 2, 3] rfl)
                        · have hP : va_P D vwCl [(h0, .inr (10, vL 67 G713)), (h_tape, .inl (cB, 940, .inl f_tape))] H := hP
                          have hD : va_D A [(h0, .inr (10, vL 67 G713)), (h_tape, .inl (cB, 940, .inl f_tape))] := hD
                          refine W.widen (k := 0) (n := 0) (Nat.le_of_ble_eq_true rfl) (Nat.le_of_ble_eq_true rfl) ?_
                          exact False.elim (bad_le t1085 (Int.le_refl _) k970.2 (by decide))
                        · have hP : va_P D vwCl [(h0, .inr (10, vL 67 G713)), (h_tape, .inl (cB, 940, .inl f_tape))] H := hP
                          have hD : va_D A [(h0, .inr (10, vL 67 G713)), (h_tape, .inl (cB, 940, .inl f_tape))] := hD
                          refine W.widen (k := 0) (n := 0) (Nat.le_of_ble_eq_true rfl) (Nat.le_of_ble_eq_true rfl) ?_
                          exact False.elim (bad_le t1087 (Int.le_refl _) k970.2 (by decide))
              · have hP : va_P D vwCl [(h0, .inr (10, vL 67 G713)), (h_tape, .inl (cB, 940, .inl f_tape))] H := hP
                have hD : va_D A [(h0, .inr (10, vL 67 G713)), (h_tape, .inl (cB, 940, .inl f_tape))] := hD
                refine W.widen (k := 0) (n := 0) (Nat.le_of_ble_eq_true rfl) (Nat.le_of_ble_eq_true rfl) ?_
                have k1093 : 97 ≤ v934.toInt ∧ v934.toInt ≤ 255 := ⟨Int.le_trans (Int.le_refl _) t939, k935.2⟩
                have k1094 : 123 ≤ v934.toInt ∧ v934.toInt ≤ 255 := ⟨lo_lt t940 (Int.le_refl _) (by decide), k1093.2⟩
                refine lv_if_ne (tgt := 201) hx hb dX10_next_188 (by decide) (fun g => absurd (by decide) g) (fun _ => ?_)
                refine lv_aload_n hx hb dX10_next_191 rfl (lv_at hl 3 rfl) ?_
                refine call_Vi (wr := []) (As := []) (rest := []) hx hb hml hown hw (m_X10_peek l D cI cJ cB cP cM cZ h0 h_tape G713 x_size u714 f_tape _ n767 n770 (ir_wk k688 (by decide) (by decide)) i756 (ir_wk k936 (by decide) (by decide))) wV_X10_169_X10_peek dX10_next_192 hK hP hD hS hA [0, 1] [] rfl rfl (by decide) (by decide) (by decide) 0 10 rfl rfl GG.fb hG.at hl.1 rfl (Nat.le_of_ble_eq_true rfl) ⟨(Nat.le_of_ble_eq_true rfl), (Nat.le_of_ble_eq_true rfl)⟩ ⟨(Nat.le_of_ble_eq_true rfl), (Nat.le_of_ble_eq_true rfl)⟩ (fun r1095 u H locs hp hP hD hS => ?_)
                rcases hp with ⟨t1096, rfl, rfl⟩ | ⟨t1097, t1098, rfl, rfl⟩
                · have hP : va_P D vwCl [(h0, .inr (10, vL 67 G713)), (h_tape, .inl (cB, 940, .inl f_tape))] H := hP
                  have hD : va_D A [(h0, .inr (10, vL 67 G713)), (h_tape, .inl (cB, 940, .inl f_tape))] := hD
                  refine W.widen (k := 0) (n := 0) (Nat.le_of_ble_eq_true rfl) (Nat.le_of_ble_eq_true rfl) ?_
                  have k1100 : 201 ≤ x_size.toInt ∧ x_size.toInt ≤ 939 := ⟨k688.1, Int.le_trans t1096 k936.2⟩
                  have k1101 : 201 ≤ u714.toInt ∧ u714.toInt ≤ 939 := ⟨Int.le_trans k688.1 t1096, k936.2⟩
                  refine call_Si (wr := [(h0, .inr (10, vL 67 G713)), (h_tape, .inl (cB, 940, .inl f_tape))]) (As := [.int (-1)]) (rest := []) hx hb hml hown hw (m_X10_isDigit l D cI cJ cB cP cM cZ (-1) _ ) wS_X10_186_X10_isDigit dX10_next_195 hP hD hS hA [] [0, 1] rfl rfl (by decide) (by decide) (by decide) GG.fb hG.at hl.1 rfl (Nat.le_of_ble_eq_true rfl) ⟨(Nat.le_of_ble_eq_true rfl), (Nat.le_of_ble_eq_true rfl)⟩ ⟨(Nat.le_of_ble_eq_true rfl), (Nat.le_of_ble_eq_true rfl)⟩ (fun r1102 u H locs hp hP hD hS => ?_)
                  rcases hp with ⟨t1103, rfl, rfl⟩ | ⟨t1104, t1105, rfl, rfl⟩ | ⟨t1106, t1107, rfl, rfl⟩
                  · have hP : va_P D vwCl [(h0, .inr (10, vL 67 G713)), (h_tape, .inl (cB, 940, .inl f_tape))] H := hP
                    have hD : va_D A [(h0, .inr (10, vL 67 G713)), (h_tape, .inl (cB, 940, .inl f_tape))] := hD
                    refine W.widen (k := 0) (n := 0) (Nat.le_of_ble_eq_true rfl) (Nat.le_of_ble_eq_true rfl) ?_
                    refine lv_if_eq (tgt := 298) hx hb dX10_next_198 (by decide) (fun _ => ?_) (fun g => absurd (by decide) g)
                    exact cut718 u712 G713 u714 u715 u716 u717 i754 (SAME.tr SAME.rf i755 (by decide)) i756 i757 i758 i759 (ir_wk k1101 (by decide) (by decide)) i761 (by show 0 ≤ u715.toInt ∧ u715.toInt ≤ u714.toInt; omega) (by show u712.toInt = 1 → u707.toInt = 0 → (0 ≤ u716.toInt ∧ u716.toInt ≤ 999 ∧ (u715.toInt = 0 → u716.toInt = 0) ∧ (u715.toInt = 1 → u716.toInt ≤ 9) ∧ (u715.toInt = 2 → u716.toInt ≤ 99)); omega) (by show (x_token.toInt = 2 → 0 ≤ u716.toInt ∧ u716.toInt ≤ 999); omega) _ _ _ hP hD hS (lv_sub hl [0, 1, 2, 3] rfl)
                  · have hP : va_P D vwCl [(h0, .inr (10, vL 67 G713)), (h_tape, .inl (cB, 940, .inl f_tape))] H := hP
                    have hD : va_D A [(h0, .inr (10, vL 67 G713)), (h_tape, .inl (cB, 940, .inl f_tape))] := hD
                    refine W.widen (k := 0) (n := 0) (Nat.le_of_ble_eq_true rfl) (Nat.le_of_ble_eq_true rfl) ?_
                    exact absurd t1104 (by decide)
                  · have hP : va_P D vwCl [(h0, .inr (10, vL 67 G713)), (h_tape, .inl (cB, 940, .inl f_tape))] H := hP
                    have hD : va_D A [(h0, .inr (10, vL 67 G713)), (h_tape, .inl (cB, 940, .inl f_tape))] := hD
                    refine W.widen (k := 0) (n := 0) (Nat.le_of_ble_eq_true rfl) (Nat.le_of_ble_eq_true rfl) ?_
                    exact absurd t1106 (by decide)
                · have hP : va_P D vwCl [(h0, .inr (10, vL 67 G713)), (h_tape, .inl (cB, 940, .inl f_tape))] H := hP
                  have hD : va_D A [(h0, .inr (10, vL 67 G713)), (h_tape, .inl (cB, 940, .inl f_tape))] := hD
                  refine W.widen (k := 0) (n := 0) (Nat.le_of_ble_eq_true rfl) (Nat.le_of_ble_eq_true rfl) ?_
                  refine lv_ci (y := v934) ev934.symm ?_
                  refine call_Si (wr := [(h0, .inr (10, vL 67 G713)), (h_tape, .inl (cB, 940, .inl f_tape))]) (As := [.int v934]) (rest := []) hx hb hml hown hw (m_X10_isDigit l D cI cJ cB cP cM cZ v934 _ ) wS_X10_186_X10_isDigit dX10_next_195 hP hD hS hA [] [0, 1] rfl rfl (by decide) (by decide) (by decide) GG.fb hG.at hl.1 rfl (Nat.le_of_ble_eq_true rfl) ⟨(Nat.le_of_ble_eq_true rfl), (Nat.le_of_ble_eq_true rfl)⟩ ⟨(Nat.le_of_ble_eq_true rfl), (Nat.le_of_ble_eq_true rfl)⟩ (fun r1109 u H locs hp hP hD hS => ?_)
                  rcases hp with ⟨t1110, rfl, rfl⟩ | ⟨t1111, t1112, rfl, rfl⟩ | ⟨t1113, t1114, rfl, rfl⟩
                  · have hP : va_P D vwCl [(h0, .inr (10, vL 67 G713)), (h_tape, .inl (cB, 940, .inl f_tape))] H := hP
                    have hD : va_D A [(h0, .inr (10, vL 67 G713)), (h_tape, .inl (cB, 940, .inl f_tape))] := hD
                    refine W.widen (k := 0) (n := 0) (Nat.le_of_ble_eq_true rfl) (Nat.le_of_ble_eq_true rfl) ?_
                    exact False.elim (bad_lt t1110 k1094.1 (Int.le_refl _) (by decide))
                  · have hP : va_P D vwCl [(h0, .inr (10, vL 67 G713)), (h_tape, .inl (cB, 940, .inl f_tape))] H := hP
                    have hD : va_D A [(h0, .inr (10, vL 67 G713)), (h_tape, .inl (cB, 940, .inl f_tape))] := hD
                    refine W.widen (k := 0) (n := 0) (Nat.le_of_ble_eq_true rfl) (Nat.le_of_ble_eq_true rfl) ?_
                    refine lv_if_eq (tgt := 298) hx hb dX10_next_198 (by decide) (fun _ => ?_) (fun g => absurd (by decide) g)
                    exact cut718 u712 G713 u714 u715 u716 u717 i754 (SAME.tr SAME.rf i755 (by decide)) i756 i757 i758 i759 (ir_wk k936 (by decide) (by decide)) i761 (by show 0 ≤ u715.toInt ∧ u715.toInt ≤ u714.toInt; omega) (by show u712.toInt = 1 → u707.toInt = 0 → (0 ≤ u716.toInt ∧ u716.toInt ≤ 999 ∧ (u715.toInt = 0 → u716.toInt = 0) ∧ (u715.toInt = 1 → u716.toInt ≤ 9) ∧ (u715.toInt = 2 → u716.toInt ≤ 99)); omega) (by show (x_token.toInt = 2 → 0 ≤ u716.toInt ∧ u716.toInt ≤ 999); omega) _ _ _ hP hD hS (lv_sub hl [0, 1, 2, 3] rfl)
                  · have hP : va_P D vwCl [(h0, .inr (10, vL 67 G713)), (h_tape, .inl (cB, 940, .inl f_tape))] H := hP
                    have hD : va_D A [(h0, .inr (10, vL 67 G713)), (h_tape, .inl (cB, 940, .inl f_tape))] := hD
                    refine W.widen (k := 0) (n := 0) (Nat.le_of_ble_eq_true rfl) (Nat.le_of_ble_eq_true rfl) ?_
                    exact False.elim (bad_le t1114 k1094.1 (Int.le_refl _) (by decide))
              · have hP : va_P D vwCl [(h0, .inr (10, vL 67 G713)), (h_tape, .inl (cB, 940, .inl f_tape))] H := hP
                have hD : va_D A [(h0, .inr (10, vL 67 G713)), (h_tape, .inl (cB, 940, .inl f_tape))] := hD
                refine W.widen (k := 0) (n := 0) (Nat.le_of_ble_eq_true rfl) (Nat.le_of_ble_eq_true rfl) ?_
                have k1116 : 97 ≤ v934.toInt ∧ v934.toInt ≤ 255 := ⟨Int.le_trans (Int.le_refl _) t941, k935.2⟩
                have k1117 : 97 ≤ v934.toInt ∧ v934.toInt ≤ 122 := ⟨k1116.1, Int.le_trans t942 (Int.le_refl _)⟩
                refine lv_if_ne (tgt := 201) hx hb dX10_next_188 (by decide) (fun _ => ?_) (fun g => absurd g (by decide))
                have cut1119 : ∀ (u1118 : Int32) (_ : IR 0 1 u1118) (_ : ((u1118.toInt = 1 → u707.toInt = 0 → (48 ≤ v934.toInt ∧ v934.toInt ≤ 57 ∧ 0 ≤ u716.toInt ∧ u716.toInt ≤ 999 ∧ (u715.toInt = 0 → u716.toInt = 0) ∧ (u715.toInt = 1 → u716.toInt ≤ 9) ∧ (u715.toInt = 2 → u716.toInt ≤ 99))))) (H : Heap) (locs : List Loc) (ls : Array Slot), va_P D vwCl [(h0, .inr (10, vL 67 G713)), (h_tape, .inl (cB, 940, .inl f_tape))] H → va_D A [(h0, .inr (10, vL 67 G713)), (h_tape, .inl (cB, 940, .inl f_tape))] → va_S A s.heap H locs → lv_has ls 4 [(3, .int u1118), (2, .int u707), (1, .int v704), (0, .ref h0)] → W p l e ({ frames := 1, cells := 0, slots := 0, locals := 20 } : Room) s m [.ref h0].toArray below meth c H locs 0 0 (MQ below (va_Qv (fun (u : va_W) => ∃ (Gh : Nat → Value) (y_p : Int32) (y_token : Int32) (y_at : Int32) (y_span : Int32) (y_number : Int32) (y_word : Int64), SAME [4, 11, 12, 13, 14, 18] Fh Gh ∧ Gh 4 = .int y_p ∧ IR 0 940 y_p ∧ Gh 11 = .int y_token ∧ IR 0 4 y_token ∧ Gh 12 = .int y_at ∧ IR 0 940 y_at ∧ Gh 13 = .int y_span ∧ IR 0 940 y_span ∧ Gh 14 = .int y_number ∧ Gh 18 = .long y_word ∧ (x_p.toInt ≤ y_p.toInt) ∧ ((1 ≤ y_token.toInt → y_token.toInt ≤ 3 → x_p.toInt < y_p.toInt)) ∧ ((y_token.toInt = 2 → 0 ≤ y_number.toInt ∧ y_number.toInt ≤ 999)) ∧ u = [(h0, .inr (10, vL 67 Gh)), (h_tape, .inl (cB, 940, .inl f_tape))]) (PO D A) A) [.ref h0].toArray s 0 0 A) (F0 m 222 ls []) := by
                  intro u1118 i1120 i1121 H locs ls hP hD hS hl
                  have i1120 : 0 ≤ u1118.toInt ∧ u1118.toInt ≤ 1 := i1120
                  have i1121 : (u1118.toInt = 1 → u707.toInt = 0 → (48 ≤ v934.toInt ∧ v934.toInt ≤ 57 ∧ 0 ≤ u716.toInt ∧ u716.toInt ≤ 999 ∧ (u715.toInt = 0 → u716.toInt = 0) ∧ (u715.toInt = 1 → u716.toInt ≤ 9) ∧ (u715.toInt = 2 → u716.toInt ≤ 99))) := i1121
                  have cut1124 : ∀ (G1122 : Nat → Value) (u1123 : Int64) (_ : SAME [18] G713 G1122) (_ : G1122 18 = .long u1123) (H : Heap) (locs : List Loc) (ls : Array Slot), va_P D vwCl [(h0, .inr (10, vL 67 G1122)), (h_tape, .inl (cB, 940, .inl f_tape))] H → va_D A [(h0, .inr (10, vL 67 G1122)), (h_tape, .inl (cB, 940, .inl f_tape))] → va_S A s.heap H locs → lv_has ls 4 [(3, .int u1118), (2, .int u707), (1, .int v704), (0, .ref h0)] → W p l e ({ frames := 1, cells := 0, slots := 0, locals := 20 } : Room) s m [.ref h0].toArray below meth c H locs 0 0 (MQ below (va_Qv (fun (u : va_W) => ∃ (Gh : Nat → Value) (y_p : Int32) (y_token : Int32) (y_at : Int32) (y_span : Int32) (y_number : Int32) (y_word : Int64), SAME [4, 11, 12, 13, 14, 18] Fh Gh ∧ Gh 4 = .int y_p ∧ IR 0 940 y_p ∧ Gh 11 = .int y_token ∧ IR 0 4 y_token ∧ Gh 12 = .int y_at ∧ IR 0 940 y_at ∧ Gh 13 = .int y_span ∧ IR 0 940 y_span ∧ Gh 14 = .int y_number ∧ Gh 18 = .long y_word ∧ (x_p.toInt ≤ y_p.toInt) ∧ ((1 ≤ y_token.toInt → y_token.toInt ≤ 3 → x_p.toInt < y_p.toInt)) ∧ ((y_token.toInt = 2 → 0 ≤ y_number.toInt ∧ y_number.toInt ≤ 999)) ∧ u = [(h0, .inr (10, vL 67 Gh)), (h_tape, .inl (cB, 940, .inl f_tape))]) (PO D A) A) [.ref h0].toArray s 0 0 A) (F0 m 248 ls []) := by
                    intro G1122 u1123 i1125 i1126 H locs ls hP hD hS hl
                    refine lv_aload_n hx hb dX10_next_248 rfl (lv_at hl 3 rfl) ?_
                    have n1127 : G1122 13 = .int u715 := (SAME.at i1125 (by decide) i757)
                    refine get_f (D := D) (ci := 10) (v := .int u715) (C := RX10) (T := TX10) (N := 67) hx hb hw inAX10 hown hK hP 0 rfl rfl 13 (by decide) (hw _ q_1274) (fun _ h9 => h9) n1127 dX10_next_249 ?_
                    refine lv_iconst (v := 3) hx hb dX10_next_252 (by decide) ?_
                    refine lv_icmp_ge (tgt := 275) hx hb dX10_next_253 (by decide) (fun c1128 => ?_) (fun c1128 => ?_)
                    · have dc1128 : 3 ≤ u715.toInt := le_i (a := 3) (b := u715.toInt) rfl rfl c1128
                      have k1129 : 3 ≤ u715.toInt ∧ u715.toInt ≤ 940 := ⟨Int.le_trans (Int.le_refl _) dc1128, i761.2⟩
                      refine lv_aload_n hx hb dX10_next_275 rfl (lv_at hl 3 rfl) ?_
                      refine lv_dup hx hb dX10_next_276 rfl ?_
                      refine get_f (D := D) (ci := 10) (v := .int u715) (C := RX10) (T := TX10) (N := 67) hx hb hw inAX10 hown hK hP 0 rfl rfl 13 (by decide) (hw _ q_1274) (fun _ h9 => h9) n1127 dX10_next_277 ?_
                      refine lv_iconst (v := 1) hx hb dX10_next_280 (by decide) ?_
                      refine lv_iadd hx hb dX10_next_281 ?_
                      refine lv_topi (fun v1130 ev1130 => ?_)
                      have bv1130 : v1130.toInt = u715.toInt + 1 := by rw [ev1130]; exact add_k rfl rfl k1129 ⟨Int.le_refl _, Int.le_refl _⟩ (by decide)
                      have k1131 : 4 ≤ v1130.toInt ∧ v1130.toInt ≤ 941 := add_r bv1130 k1129 ⟨Int.le_refl _, Int.le_refl _⟩ (by decide)
                      refine put_f (D := D) (ci := 10) (v := .int v1130) (ty := .int) (C := RX10) (T := TX10) (N := 67) hx hb hw inAX10 tyX10 tyX10_ok nmX10 hown hK hP hD hS 0 rfl rfl 13 (by decide) (hw _ q_1274) (fun _ h9 => h9) rfl (by decide +kernel) rfl rfl dX10_next_282 (fun H locs F1132 eF1132 hP hD hS => ?_)
                      have hP : va_P D vwCl [(h0, .inr (10, vL 67 F1132)), (h_tape, .inl (cB, 940, .inl f_tape))] H := hP
                      have hD : va_D A [(h0, .inr (10, vL 67 F1132)), (h_tape, .inl (cB, 940, .inl f_tape))] := hD
                      refine lv_aload_n hx hb dX10_next_285 rfl (lv_at hl 3 rfl) ?_
                      refine lv_dup hx hb dX10_next_286 rfl ?_
                      have n1133 : G1122 4 = .int u714 := (SAME.at i1125 (by decide) i756)
                      have n1134 : F1132 4 = .int u714 := (get_ne eF1132 (by decide) n1133)
                      refine get_f (D := D) (ci := 10) (v := .int u714) (C := RX10) (T := TX10) (N := 67) hx hb hw inAX10 hown hK hP 0 rfl rfl 4 (by decide) (hw _ q_1265) (fun _ h9 => h9) n1134 dX10_next_287 ?_
                      refine lv_iconst (v := 1) hx hb dX10_next_290 (by decide) ?_
                      refine lv_iadd hx hb dX10_next_291 ?_
                      refine lv_topi (fun v1135 ev1135 => ?_)
                      have bv1135 : v1135.toInt = u714.toInt + 1 := by rw [ev1135]; exact add_k rfl rfl k936 ⟨Int.le_refl _, Int.le_refl _⟩ (by decide)
                      have k1136 : 1 ≤ v1135.toInt ∧ v1135.toInt ≤ 940 := add_r bv1135 k936 ⟨Int.le_refl _, Int.le_refl _⟩ (by decide)
                      refine put_f (D := D) (ci := 10) (v := .int v1135) (ty := .int) (C := RX10) (T := TX10) (N := 67) hx hb hw inAX10 tyX10 tyX10_ok nmX10 hown hK hP hD hS 0 rfl rfl 4 (by decide) (hw _ q_1265) (fun _ h9 => h9) rfl (by decide +kernel) rfl rfl dX10_next_292 (fun H locs F1137 eF1137 hP hD hS => ?_)
                      have hP : va_P D vwCl [(h0, .inr (10, vL 67 F1137)), (h_tape, .inl (cB, 940, .inl f_tape))] H := hP
                      have hD : va_D A [(h0, .inr (10, vL 67 F1137)), (h_tape, .inl (cB, 940, .inl f_tape))] := hD
                      refine lv_goto (tgt := 181) hx hb dX10_next_295 (by decide) ?_
                      have n1138 : F1137 13 = .int v1130 := (get_ne eF1137 (by decide) (get_eq eF1132))
                      have n1139 : G1122 14 = .int u716 := (SAME.at i1125 (by decide) i758)
                      have n1140 : F1132 14 = .int u716 := (get_ne eF1132 (by decide) n1139)
                      have n1141 : F1137 14 = .int u716 := (get_ne eF1137 (by decide) n1140)
                      have n1142 : F1132 18 = .long u1123 := (get_ne eF1132 (by decide) i1126)
                      have n1143 : F1137 18 = .long u1123 := (get_ne eF1137 (by decide) n1142)
                      exact ih (u1118, F1137, v1135, v1130, u716, u1123) ⟨i1120, (SAME.up eF1137 (SAME.up eF1132 (SAME.tr (SAME.tr SAME.rf i755 (by decide)) i1125 (by decide)) (by decide)) (by decide)), (get_eq eF1137), n1138, n1141, n1143, (ir_wk k1136 (by decide) (by decide)), ⟨by omega, by omega⟩, (by show 0 ≤ v1130.toInt ∧ v1130.toInt ≤ v1135.toInt; omega), (by show u1118.toInt = 1 → u707.toInt = 0 → (0 ≤ u716.toInt ∧ u716.toInt ≤ 999 ∧ (v1130.toInt = 0 → u716.toInt = 0) ∧ (v1130.toInt = 1 → u716.toInt ≤ 9) ∧ (v1130.toInt = 2 → u716.toInt ≤ 99)); omega), (by show (x_token.toInt = 2 → 0 ≤ u716.toInt ∧ u716.toInt ≤ 999); omega)⟩ (by show (x_size.toInt - v1135.toInt).toNat < (x_size.toInt - u714.toInt).toNat; omega) _ _ _ hP hD hS (lv_sub hl [0, 1, 2, 3] rfl)
                    · have dc1128 : u715.toInt < 3 := nle_i (a := 3) (b := u715.toInt) rfl rfl c1128
                      have k1144 : 0 ≤ u715.toInt ∧ u715.toInt ≤ 2 := ⟨i761.1, up_lt dc1128 (Int.le_refl _) (by decide)⟩
                      refine lv_aload_n hx hb dX10_next_256 rfl (lv_at hl 3 rfl) ?_
                      refine lv_bipush (v := 10) hx hb dX10_next_257 (by decide) ?_
                      refine lv_aload_n hx hb dX10_next_259 rfl (lv_at hl 3 rfl) ?_
                      have n1145 : G1122 14 = .int u716 := (SAME.at i1125 (by decide) i758)
                      refine get_f (D := D) (ci := 10) (v := .int u716) (C := RX10) (T := TX10) (N := 67) hx hb hw inAX10 hown hK hP 0 rfl rfl 14 (by decide) (hw _ q_1275) (fun _ h9 => h9) n1145 dX10_next_260 ?_
                      refine lv_imul hx hb dX10_next_263 ?_
                      refine lv_topi (fun v1146 ev1146 => ?_)
                      refine lv_aload_n hx hb dX10_next_264 rfl (lv_at hl 3 rfl) ?_
                      have n1147 : G1122 1 = .ref h_tape := (SAME.at i1125 (by decide) n767)
                      have n1148 : G1122 3 = .int x_size := (SAME.at i1125 (by decide) n770)
                      have n1149 : G1122 4 = .int u714 := (SAME.at i1125 (by decide) i756)
                      refine call_Vi (wr := []) (As := []) (rest := [.int v1146, .ref h0]) hx hb hml hown hw (m_X10_peek l D cI cJ cB cP cM cZ h0 h_tape G1122 x_size u714 f_tape _ n1147 n1148 (ir_wk k688 (by decide) (by decide)) n1149 (ir_wk k936 (by decide) (by decide))) wV_X10_169_X10_peek dX10_next_265 hK hP hD hS hA [0, 1] [] rfl rfl (by decide) (by decide) (by decide) 0 10 rfl rfl GG.fb hG.at hl.1 rfl (Nat.le_of_ble_eq_true rfl) ⟨(Nat.le_of_ble_eq_true rfl), (Nat.le_of_ble_eq_true rfl)⟩ ⟨(Nat.le_of_ble_eq_true rfl), (Nat.le_of_ble_eq_true rfl)⟩ (fun r1150 u H locs hp hP hD hS => ?_)
                      rcases hp with ⟨t1151, rfl, rfl⟩ | ⟨t1152, t1153, rfl, rfl⟩
                      · have hP : va_P D vwCl [(h0, .inr (10, vL 67 G1122)), (h_tape, .inl (cB, 940, .inl f_tape))] H := hP
                        have hD : va_D A [(h0, .inr (10, vL 67 G1122)), (h_tape, .inl (cB, 940, .inl f_tape))] := hD
                        refine W.widen (k := 0) (n := 0) (Nat.le_of_ble_eq_true rfl) (Nat.le_of_ble_eq_true rfl) ?_
                        have k1155 : 201 ≤ x_size.toInt ∧ x_size.toInt ≤ 939 := ⟨k688.1, Int.le_trans t1151 k936.2⟩
                        have k1156 : 201 ≤ u714.toInt ∧ u714.toInt ≤ 939 := ⟨Int.le_trans k688.1 t1151, k936.2⟩
                        refine lv_iadd hx hb dX10_next_268 ?_
                        refine lv_topi (fun v1157 ev1157 => ?_)
                        refine lv_bipush (v := 48) hx hb dX10_next_269 (by decide) ?_
                        refine lv_isub hx hb dX10_next_271 ?_
                        refine lv_topi (fun v1158 ev1158 => ?_)
                        refine put_f (D := D) (ci := 10) (v := .int v1158) (ty := .int) (C := RX10) (T := TX10) (N := 67) hx hb hw inAX10 tyX10 tyX10_ok nmX10 hown hK hP hD hS 0 rfl rfl 14 (by decide) (hw _ q_1275) (fun _ h9 => h9) rfl (by decide +kernel) rfl rfl dX10_next_272 (fun H locs F1159 eF1159 hP hD hS => ?_)
                        have hP : va_P D vwCl [(h0, .inr (10, vL 67 F1159)), (h_tape, .inl (cB, 940, .inl f_tape))] H := hP
                        have hD : va_D A [(h0, .inr (10, vL 67 F1159)), (h_tape, .inl (cB, 940, .inl f_tape))] := hD
                        refine lv_aload_n hx hb dX10_next_275 rfl (lv_at hl 3 rfl) ?_
                        refine lv_dup hx hb dX10_next_276 rfl ?_
                        have n1160 : F1159 13 = .int u715 := (get_ne eF1159 (by decide) n1127)
                        refine get_f (D := D) (ci := 10) (v := .int u715) (C := RX10) (T := TX10) (N := 67) hx hb hw inAX10 hown hK hP 0 rfl rfl 13 (by decide) (hw _ q_1274) (fun _ h9 => h9) n1160 dX10_next_277 ?_
                        refine lv_iconst (v := 1) hx hb dX10_next_280 (by decide) ?_
                        refine lv_iadd hx hb dX10_next_281 ?_
                        refine lv_topi (fun v1161 ev1161 => ?_)
                        have bv1161 : v1161.toInt = u715.toInt + 1 := by rw [ev1161]; exact add_k rfl rfl k1144 ⟨Int.le_refl _, Int.le_refl _⟩ (by decide)
                        have k1162 : 1 ≤ v1161.toInt ∧ v1161.toInt ≤ 3 := add_r bv1161 k1144 ⟨Int.le_refl _, Int.le_refl _⟩ (by decide)
                        refine put_f (D := D) (ci := 10) (v := .int v1161) (ty := .int) (C := RX10) (T := TX10) (N := 67) hx hb hw inAX10 tyX10 tyX10_ok nmX10 hown hK hP hD hS 0 rfl rfl 13 (by decide) (hw _ q_1274) (fun _ h9 => h9) rfl (by decide +kernel) rfl rfl dX10_next_282 (fun H locs F1163 eF1163 hP hD hS => ?_)
                        have hP : va_P D vwCl [(h0, .inr (10, vL 67 F1163)), (h_tape, .inl (cB, 940, .inl f_tape))] H := hP
                        have hD : va_D A [(h0, .inr (10, vL 67 F1163)), (h_tape, .inl (cB, 940, .inl f_tape))] := hD
                        refine lv_aload_n hx hb dX10_next_285 rfl (lv_at hl 3 rfl) ?_
                        refine lv_dup hx hb dX10_next_286 rfl ?_
                        have n1164 : F1159 4 = .int u714 := (get_ne eF1159 (by decide) n1149)
                        have n1165 : F1163 4 = .int u714 := (get_ne eF1163 (by decide) n1164)
                        refine get_f (D := D) (ci := 10) (v := .int u714) (C := RX10) (T := TX10) (N := 67) hx hb hw inAX10 hown hK hP 0 rfl rfl 4 (by decide) (hw _ q_1265) (fun _ h9 => h9) n1165 dX10_next_287 ?_
                        refine lv_iconst (v := 1) hx hb dX10_next_290 (by decide) ?_
                        refine lv_iadd hx hb dX10_next_291 ?_
                        refine lv_topi (fun v1166 ev1166 => ?_)
                        have bv1166 : v1166.toInt = u714.toInt + 1 := by rw [ev1166]; exact add_k rfl rfl k1156 ⟨Int.le_refl _, Int.le_refl _⟩ (by decide)
                        have k1167 : 202 ≤ v1166.toInt ∧ v1166.toInt ≤ 940 := add_r bv1166 k1156 ⟨Int.le_refl _, Int.le_refl _⟩ (by decide)
                        refine put_f (D := D) (ci := 10) (v := .int v1166) (ty := .int) (C := RX10) (T := TX10) (N := 67) hx hb hw inAX10 tyX10 tyX10_ok nmX10 hown hK hP hD hS 0 rfl rfl 4 (by decide) (hw _ q_1265) (fun _ h9 => h9) rfl (by decide +kernel) rfl rfl dX10_next_292 (fun H locs F1168 eF1168 hP hD hS => ?_)
                        have hP : va_P D vwCl [(h0, .inr (10, vL 67 F1168)), (h_tape, .inl (cB, 940, .inl f_tape))] H := hP
                        have hD : va_D A [(h0, .inr (10, vL 67 F1168)), (h_tape, .inl (cB, 940, .inl f_tape))] := hD
                        refine lv_goto (tgt := 181) hx hb dX10_next_295 (by decide) ?_
                        have n1169 : F1168 13 = .int v1161 := (get_ne eF1168 (by decide) (get_eq eF1163))
                        have n1170 : F1163 14 = .int v1158 := (get_ne eF1163 (by decide) (get_eq eF1159))
                        have n1171 : F1168 14 = .int v1158 := (get_ne eF1168 (by decide) n1170)
                        have n1172 : F1159 18 = .long u1123 := (get_ne eF1159 (by decide) i1126)
                        have n1173 : F1163 18 = .long u1123 := (get_ne eF1163 (by decide) n1172)
                        have n1174 : F1168 18 = .long u1123 := (get_ne eF1168 (by decide) n1173)
                        exact ih (u1118, F1168, v1166, v1161, v1158, u1123) ⟨i1120, (SAME.up eF1168 (SAME.up eF1163 (SAME.up eF1159 (SAME.tr (SAME.tr SAME.rf i755 (by decide)) i1125 (by decide)) (by decide)) (by decide)) (by decide)), (get_eq eF1168), n1169, n1171, n1174, (ir_wk k1167 (by decide) (by decide)), (ir_wk k1162 (by decide) (by decide)), (by show 0 ≤ v1161.toInt ∧ v1161.toInt ≤ v1166.toInt; omega), (by show u1118.toInt = 1 → u707.toInt = 0 → (0 ≤ v1158.toInt ∧ v1158.toInt ≤ 999 ∧ (v1161.toInt = 0 → v1158.toInt = 0) ∧ (v1161.toInt = 1 → v1158.toInt ≤ 9) ∧ (v1161.toInt = 2 → v1158.toInt ≤ 99)); omega), (by show (x_token.toInt = 2 → 0 ≤ v1158.toInt ∧ v1158.toInt ≤ 999); omega)⟩ (by show (x_size.toInt - v1166.toInt).toNat < (x_size.toInt - u714.toInt).toNat; omega) _ _ _ hP hD hS (lv_sub hl [0, 1, 2, 3] rfl)
                      · have hP : va_P D vwCl [(h0, .inr (10, vL 67 G1122)), (h_tape, .inl (cB, 940, .inl f_tape))] H := hP
                        have hD : va_D A [(h0, .inr (10, vL 67 G1122)), (h_tape, .inl (cB, 940, .inl f_tape))] := hD
                        refine W.widen (k := 0) (n := 0) (Nat.le_of_ble_eq_true rfl) (Nat.le_of_ble_eq_true rfl) ?_
                        refine lv_ci (y := v934) ev934.symm ?_
                        refine lv_iadd hx hb dX10_next_268 ?_
                        refine lv_topi (fun v1175 ev1175 => ?_)
                        refine lv_bipush (v := 48) hx hb dX10_next_269 (by decide) ?_
                        refine lv_isub hx hb dX10_next_271 ?_
                        refine lv_topi (fun v1176 ev1176 => ?_)
                        refine put_f (D := D) (ci := 10) (v := .int v1176) (ty := .int) (C := RX10) (T := TX10) (N := 67) hx hb hw inAX10 tyX10 tyX10_ok nmX10 hown hK hP hD hS 0 rfl rfl 14 (by decide) (hw _ q_1275) (fun _ h9 => h9) rfl (by decide +kernel) rfl rfl dX10_next_272 (fun H locs F1177 eF1177 hP hD hS => ?_)
                        have hP : va_P D vwCl [(h0, .inr (10, vL 67 F1177)), (h_tape, .inl (cB, 940, .inl f_tape))] H := hP
                        have hD : va_D A [(h0, .inr (10, vL 67 F1177)), (h_tape, .inl (cB, 940, .inl f_tape))] := hD
                        refine lv_aload_n hx hb dX10_next_275 rfl (lv_at hl 3 rfl) ?_
                        refine lv_dup hx hb dX10_next_276 rfl ?_
                        have n1178 : F1177 13 = .int u715 := (get_ne eF1177 (by decide) n1127)
                        refine get_f (D := D) (ci := 10) (v := .int u715) (C := RX10) (T := TX10) (N := 67) hx hb hw inAX10 hown hK hP 0 rfl rfl 13 (by decide) (hw _ q_1274) (fun _ h9 => h9) n1178 dX10_next_277 ?_
                        refine lv_iconst (v := 1) hx hb dX10_next_280 (by decide) ?_
                        refine lv_iadd hx hb dX10_next_281 ?_
                        refine lv_topi (fun v1179 ev1179 => ?_)
                        have bv1179 : v1179.toInt = u715.toInt + 1 := by rw [ev1179]; exact add_k rfl rfl k1144 ⟨Int.le_refl _, Int.le_refl _⟩ (by decide)
                        have k1180 : 1 ≤ v1179.toInt ∧ v1179.toInt ≤ 3 := add_r bv1179 k1144 ⟨Int.le_refl _, Int.le_refl _⟩ (by decide)
                        refine put_f (D := D) (ci := 10) (v := .int v1179) (ty := .int) (C := RX10) (T := TX10) (N := 67) hx hb hw inAX10 tyX10 tyX10_ok nmX10 hown hK hP hD hS 0 rfl rfl 13 (by decide) (hw _ q_1274) (fun _ h9 => h9) rfl (by decide +kernel) rfl rfl dX10_next_282 (fun H locs F1181 eF1181 hP hD hS => ?_)
                        have hP : va_P D vwCl [(h0, .inr (10, vL 67 F1181)), (h_tape, .inl (cB, 940, .inl f_tape))] H := hP
                        have hD : va_D A [(h0, .inr (10, vL 67 F1181)), (h_tape, .inl (cB, 940, .inl f_tape))] := hD
                        refine lv_aload_n hx hb dX10_next_285 rfl (lv_at hl 3 rfl) ?_
                        refine lv_dup hx hb dX10_next_286 rfl ?_
                        have n1182 : F1177 4 = .int u714 := (get_ne eF1177 (by decide) n1149)
                        have n1183 : F1181 4 = .int u714 := (get_ne eF1181 (by decide) n1182)
                        refine get_f (D := D) (ci := 10) (v := .int u714) (C := RX10) (T := TX10) (N := 67) hx hb hw inAX10 hown hK hP 0 rfl rfl 4 (by decide) (hw _ q_1265) (fun _ h9 => h9) n1183 dX10_next_287 ?_
                        refine lv_iconst (v := 1) hx hb dX10_next_290 (by decide) ?_
                        refine lv_iadd hx hb dX10_next_291 ?_
                        refine lv_topi (fun v1184 ev1184 => ?_)
                        have bv1184 : v1184.toInt = u714.toInt + 1 := by rw [ev1184]; exact add_k rfl rfl k936 ⟨Int.le_refl _, Int.le_refl _⟩ (by decide)
                        have k1185 : 1 ≤ v1184.toInt ∧ v1184.toInt ≤ 940 := add_r bv1184 k936 ⟨Int.le_refl _, Int.le_refl _⟩ (by decide)
                        refine put_f (D := D) (ci := 10) (v := .int v1184) (ty := .int) (C := RX10) (T := TX10) (N := 67) hx hb hw inAX10 tyX10 tyX10_ok nmX10 hown hK hP hD hS 0 rfl rfl 4 (by decide) (hw _ q_1265) (fun _ h9 => h9) rfl (by decide +kernel) rfl rfl dX10_next_292 (fun H locs F1186 eF1186 hP hD hS => ?_)
                        have hP : va_P D vwCl [(h0, .inr (10, vL 67 F1186)), (h_tape, .inl (cB, 940, .inl f_tape))] H := hP
                        have hD : va_D A [(h0, .inr (10, vL 67 F1186)), (h_tape, .inl (cB, 940, .inl f_tape))] := hD
                        refine lv_goto (tgt := 181) hx hb dX10_next_295 (by decide) ?_
                        have n1187 : F1186 13 = .int v1179 := (get_ne eF1186 (by decide) (get_eq eF1181))
                        have n1188 : F1181 14 = .int v1176 := (get_ne eF1181 (by decide) (get_eq eF1177))
                        have n1189 : F1186 14 = .int v1176 := (get_ne eF1186 (by decide) n1188)
                        have n1190 : F1177 18 = .long u1123 := (get_ne eF1177 (by decide) i1126)
                        have n1191 : F1181 18 = .long u1123 := (get_ne eF1181 (by decide) n1190)
                        have n1192 : F1186 18 = .long u1123 := (get_ne eF1186 (by decide) n1191)
                        exact ih (u1118, F1186, v1184, v1179, v1176, u1123) ⟨i1120, (SAME.up eF1186 (SAME.up eF1181 (SAME.up eF1177 (SAME.tr (SAME.tr SAME.rf i755 (by decide)) i1125 (by decide)) (by decide)) (by decide)) (by decide)), (get_eq eF1186), n1187, n1189, n1192, (ir_wk k1185 (by decide) (by decide)), (ir_wk k1180 (by decide) (by decide)), (by show 0 ≤ v1179.toInt ∧ v1179.toInt ≤ v1184.toInt; omega), (by show u1118.toInt = 1 → u707.toInt = 0 → (0 ≤ v1176.toInt ∧ v1176.toInt ≤ 999 ∧ (v1179.toInt = 0 → v1176.toInt = 0) ∧ (v1179.toInt = 1 → v1176.toInt ≤ 9) ∧ (v1179.toInt = 2 → v1176.toInt ≤ 99)); omega), (by show (x_token.toInt = 2 → 0 ≤ v1176.toInt ∧ v1176.toInt ≤ 999); omega)⟩ (by show (x_size.toInt - v1184.toInt).toNat < (x_size.toInt - u714.toInt).toNat; omega) _ _ _ hP hD hS (lv_sub hl [0, 1, 2, 3] rfl)
                  refine lv_aload_n hx hb dX10_next_222 rfl (lv_at hl 3 rfl) ?_
                  refine get_f (D := D) (ci := 10) (v := .int u715) (C := RX10) (T := TX10) (N := 67) hx hb hw inAX10 hown hK hP 0 rfl rfl 13 (by decide) (hw _ q_1274) (fun _ h9 => h9) i757 dX10_next_223 ?_
                  refine lv_bipush (v := 7) hx hb dX10_next_226 (by decide) ?_
                  refine lv_icmp_ge (tgt := 248) hx hb dX10_next_228 (by decide) (fun c1193 => ?_) (fun c1193 => ?_)
                  · have dc1193 : 7 ≤ u715.toInt := le_i (a := 7) (b := u715.toInt) rfl rfl c1193
                    have k1194 : 7 ≤ u715.toInt ∧ u715.toInt ≤ 940 := ⟨Int.le_trans (Int.le_refl _) dc1193, i761.2⟩
                    exact cut1124 G713 u717 SAME.rf i759 _ _ _ hP hD hS (lv_sub hl [0, 1, 2, 3] rfl)
                  · have dc1193 : u715.toInt < 7 := nle_i (a := 7) (b := u715.toInt) rfl rfl c1193
                    have k1195 : 0 ≤ u715.toInt ∧ u715.toInt ≤ 6 := ⟨i761.1, up_lt dc1193 (Int.le_refl _) (by decide)⟩
                    refine lv_aload_n hx hb dX10_next_231 rfl (lv_at hl 3 rfl) ?_
                    refine lv_aload_n hx hb dX10_next_232 rfl (lv_at hl 3 rfl) ?_
                    refine get_f (D := D) (ci := 10) (v := .long u717) (C := RX10) (T := TX10) (N := 67) hx hb hw inAX10 hown hK hP 0 rfl rfl 18 (by decide) (hw _ q_1279) (fun _ h9 => h9) i759 dX10_next_233 ?_
                    refine lv_bipush (v := 8) hx hb dX10_next_236 (by decide) ?_
                    obtain ⟨v1196, ev1196⟩ : ∃ z : Int64, (u717 : Int64) <<< ((8 : Int32).toInt64 &&& 63) = z := ⟨_, rfl⟩
                    refine lv_lshl (v := v1196) hx hb dX10_next_238 ev1196 ?_
                    refine lv_aload_n hx hb dX10_next_239 rfl (lv_at hl 3 rfl) ?_
                    refine call_Vi (wr := []) (As := []) (rest := [.long v1196, .ref h0]) hx hb hml hown hw (m_X10_peek l D cI cJ cB cP cM cZ h0 h_tape G713 x_size u714 f_tape _ n767 n770 (ir_wk k688 (by decide) (by decide)) i756 (ir_wk k936 (by decide) (by decide))) wV_X10_169_X10_peek dX10_next_240 hK hP hD hS hA [0, 1] [] rfl rfl (by decide) (by decide) (by decide) 0 10 rfl rfl GG.fb hG.at hl.1 rfl (Nat.le_of_ble_eq_true rfl) ⟨(Nat.le_of_ble_eq_true rfl), (Nat.le_of_ble_eq_true rfl)⟩ ⟨(Nat.le_of_ble_eq_true rfl), (Nat.le_of_ble_eq_true rfl)⟩ (fun r1197 u H locs hp hP hD hS => ?_)
                    rcases hp with ⟨t1198, rfl, rfl⟩ | ⟨t1199, t1200, rfl, rfl⟩
                    · have hP : va_P D vwCl [(h0, .inr (10, vL 67 G713)), (h_tape, .inl (cB, 940, .inl f_tape))] H := hP
                      have hD : va_D A [(h0, .inr (10, vL 67 G713)), (h_tape, .inl (cB, 940, .inl f_tape))] := hD
                      refine W.widen (k := 0) (n := 0) (Nat.le_of_ble_eq_true rfl) (Nat.le_of_ble_eq_true rfl) ?_
                      have k1202 : 201 ≤ x_size.toInt ∧ x_size.toInt ≤ 939 := ⟨k688.1, Int.le_trans t1198 k936.2⟩
                      have k1203 : 201 ≤ u714.toInt ∧ u714.toInt ≤ 939 := ⟨Int.le_trans k688.1 t1198, k936.2⟩
                      obtain ⟨v1204, ev1204⟩ : ∃ z : Int64, ((-1) : Int32).toInt64 = z := ⟨_, rfl⟩
                      refine lv_i2l (v := v1204) hx hb dX10_next_243 ev1204 ?_
                      refine lv_lor hx hb dX10_next_244 ?_
                      refine lv_topl (fun v1205 ev1205 => ?_)
                      refine put_f (D := D) (ci := 10) (v := .long v1205) (ty := .long) (C := RX10) (T := TX10) (N := 67) hx hb hw inAX10 tyX10 tyX10_ok nmX10 hown hK hP hD hS 0 rfl rfl 18 (by decide) (hw _ q_1279) (fun _ h9 => h9) rfl (by decide +kernel) rfl rfl dX10_next_245 (fun H locs F1206 eF1206 hP hD hS => ?_)
                      have hP : va_P D vwCl [(h0, .inr (10, vL 67 F1206)), (h_tape, .inl (cB, 940, .inl f_tape))] H := hP
                      have hD : va_D A [(h0, .inr (10, vL 67 F1206)), (h_tape, .inl (cB, 940, .inl f_tape))] := hD
                      exact cut1124 F1206 v1205 (SAME.up eF1206 SAME.rf (by decide)) (get_eq eF1206) _ _ _ hP hD hS (lv_sub hl [0, 1, 2, 3] rfl)
                    · have hP : va_P D vwCl [(h0, .inr (10, vL 67 G713)), (h_tape, .inl (cB, 940, .inl f_tape))] H := hP
                      have hD : va_D A [(h0, .inr (10, vL 67 G713)), (h_tape, .inl (cB, 940, .inl f_tape))] := hD
                      refine W.widen (k := 0) (n := 0) (Nat.le_of_ble_eq_true rfl) (Nat.le_of_ble_eq_true rfl) ?_
                      refine lv_ci (y := v934) ev934.symm ?_
                      obtain ⟨v1207, ev1207⟩ : ∃ z : Int64, (v934 : Int32).toInt64 = z := ⟨_, rfl⟩
                      refine lv_i2l (v := v1207) hx hb dX10_next_243 ev1207 ?_
                      refine lv_lor hx hb dX10_next_244 ?_
                      refine lv_topl (fun v1208 ev1208 => ?_)
                      refine put_f (D := D) (ci := 10) (v := .long v1208) (ty := .long) (C := RX10) (T := TX10) (N := 67) hx hb hw inAX10 tyX10 tyX10_ok nmX10 hown hK hP hD hS 0 rfl rfl 18 (by decide) (hw _ q_1279) (fun _ h9 => h9) rfl (by decide +kernel) rfl rfl dX10_next_245 (fun H locs F1209 eF1209 hP hD hS => ?_)
                      have hP : va_P D vwCl [(h0, .inr (10, vL 67 F1209)), (h_tape, .inl (cB, 940, .inl f_tape))] H := hP
                      have hD : va_D A [(h0, .inr (10, vL 67 F1209)), (h_tape, .inl (cB, 940, .inl f_tape))] := hD
                      exact cut1124 F1209 v1208 (SAME.up eF1209 SAME.rf (by decide)) (get_eq eF1209) _ _ _ hP hD hS (lv_sub hl [0, 1, 2, 3] rfl)
                refine lv_iload_n hx hb dX10_next_201 rfl (lv_at hl 0 rfl) ?_
                refine lv_if_eq (tgt := 220) hx hb dX10_next_202 (by decide) (fun c1210 => ?_) (fun c1210 => ?_)
                · have dc1210 : u712.toInt = 0 := eq_i (a := u712.toInt) (b := 0) rfl rfl c1210
                  have k1211 : 0 ≤ u712.toInt ∧ u712.toInt ≤ 0 := ⟨i754.1, Int.le_trans (Int.le_of_eq dc1210) (Int.le_refl _)⟩
                  refine lv_iconst (v := 0) hx hb dX10_next_220 (by decide) ?_
                  refine lv_istore_n (lv' := [(3, .int 0), (2, .int u707), (1, .int v704), (0, .ref h0)]) hx hb dX10_next_221 rfl hl (by decide) rfl (fun ls hl => ?_)
                  exact cut1119 0 (show 0 ≤ (0 : Int32).toInt ∧ (0 : Int32).toInt ≤ 1 by decide) (by show (0 = 1 → u707.toInt = 0 → (48 ≤ v934.toInt ∧ v934.toInt ≤ 57 ∧ 0 ≤ u716.toInt ∧ u716.toInt ≤ 999 ∧ (u715.toInt = 0 → u716.toInt = 0) ∧ (u715.toInt = 1 → u716.toInt ≤ 9) ∧ (u715.toInt = 2 → u716.toInt ≤ 99))); omega) _ _ _ hP hD hS (lv_sub hl [0, 1, 2, 3] rfl)
                · have dc1210 : u712.toInt ≠ 0 := ne_i (a := u712.toInt) (b := 0) rfl rfl c1210
                  have k1212 : 1 ≤ u712.toInt ∧ u712.toInt ≤ 1 := ⟨ne_lo dc1210 i754.1 ⟨Int.le_refl _, Int.le_refl _⟩ (by decide), i754.2⟩
                  refine lv_aload_n hx hb dX10_next_205 rfl (lv_at hl 3 rfl) ?_
                  refine call_Vi (wr := []) (As := []) (rest := []) hx hb hml hown hw (m_X10_peek l D cI cJ cB cP cM cZ h0 h_tape G713 x_size u714 f_tape _ n767 n770 (ir_wk k688 (by decide) (by decide)) i756 (ir_wk k936 (by decide) (by decide))) wV_X10_169_X10_peek dX10_next_206 hK hP hD hS hA [0, 1] [] rfl rfl (by decide) (by decide) (by decide) 0 10 rfl rfl GG.fb hG.at hl.1 rfl (Nat.le_of_ble_eq_true rfl) ⟨(Nat.le_of_ble_eq_true rfl), (Nat.le_of_ble_eq_true rfl)⟩ ⟨(Nat.le_of_ble_eq_true rfl), (Nat.le_of_ble_eq_true rfl)⟩ (fun r1213 u H locs hp hP hD hS => ?_)
                  rcases hp with ⟨t1214, rfl, rfl⟩ | ⟨t1215, t1216, rfl, rfl⟩
                  · have hP : va_P D vwCl [(h0, .inr (10, vL 67 G713)), (h_tape, .inl (cB, 940, .inl f_tape))] H := hP
                    have hD : va_D A [(h0, .inr (10, vL 67 G713)), (h_tape, .inl (cB, 940, .inl f_tape))] := hD
                    refine W.widen (k := 0) (n := 0) (Nat.le_of_ble_eq_true rfl) (Nat.le_of_ble_eq_true rfl) ?_
                    have k1218 : 201 ≤ x_size.toInt ∧ x_size.toInt ≤ 939 := ⟨k688.1, Int.le_trans t1214 k936.2⟩
                    have k1219 : 201 ≤ u714.toInt ∧ u714.toInt ≤ 939 := ⟨Int.le_trans k688.1 t1214, k936.2⟩
                    refine call_Si (wr := [(h0, .inr (10, vL 67 G713)), (h_tape, .inl (cB, 940, .inl f_tape))]) (As := [.int (-1)]) (rest := []) hx hb hml hown hw (m_X10_isSmall l D cI cJ cB cP cM cZ (-1) _ ) wS_X10_182_X10_isSmall dX10_next_209 hP hD hS hA [] [0, 1] rfl rfl (by decide) (by decide) (by decide) GG.fb hG.at hl.1 rfl (Nat.le_of_ble_eq_true rfl) ⟨(Nat.le_of_ble_eq_true rfl), (Nat.le_of_ble_eq_true rfl)⟩ ⟨(Nat.le_of_ble_eq_true rfl), (Nat.le_of_ble_eq_true rfl)⟩ (fun r1220 u H locs hp hP hD hS => ?_)
                    rcases hp with ⟨t1221, rfl, rfl⟩ | ⟨t1222, t1223, rfl, rfl⟩ | ⟨t1224, t1225, rfl, rfl⟩
                    · have hP : va_P D vwCl [(h0, .inr (10, vL 67 G713)), (h_tape, .inl (cB, 940, .inl f_tape))] H := hP
                      have hD : va_D A [(h0, .inr (10, vL 67 G713)), (h_tape, .inl (cB, 940, .inl f_tape))] := hD
                      refine W.widen (k := 0) (n := 0) (Nat.le_of_ble_eq_true rfl) (Nat.le_of_ble_eq_true rfl) ?_
                      refine lv_iload_n hx hb dX10_next_212 rfl (lv_at hl 1 rfl) ?_
                      refine lv_icmp_ne (tgt := 220) hx hb dX10_next_213 (by decide) (fun c1227 => ?_) (fun c1227 => ?_)
                      · have dc1227 : 0 ≠ u707.toInt := ne_i (a := 0) (b := u707.toInt) rfl rfl c1227
                        have k1228 : 1 ≤ u707.toInt ∧ u707.toInt ≤ 1 := ⟨ne_lo dc1227.symm i709.1 ⟨Int.le_refl _, Int.le_refl _⟩ (by decide), i709.2⟩
                        refine lv_iconst (v := 0) hx hb dX10_next_220 (by decide) ?_
                        refine lv_istore_n (lv' := [(3, .int 0), (2, .int u707), (1, .int v704), (0, .ref h0)]) hx hb dX10_next_221 rfl hl (by decide) rfl (fun ls hl => ?_)
                        exact cut1119 0 (show 0 ≤ (0 : Int32).toInt ∧ (0 : Int32).toInt ≤ 1 by decide) (by show (0 = 1 → u707.toInt = 0 → (48 ≤ v934.toInt ∧ v934.toInt ≤ 57 ∧ 0 ≤ u716.toInt ∧ u716.toInt ≤ 999 ∧ (u715.toInt = 0 → u716.toInt = 0) ∧ (u715.toInt = 1 → u716.toInt ≤ 9) ∧ (u715.toInt = 2 → u716.toInt ≤ 99))); omega) _ _ _ hP hD hS (lv_sub hl [0, 1, 2, 3] rfl)
                      · have dc1227 : 0 = u707.toInt := eq_i (a := 0) (b := u707.toInt) rfl rfl c1227
                        have k1229 : 0 ≤ u707.toInt ∧ u707.toInt ≤ 0 := ⟨i709.1, Int.le_trans (Int.le_of_eq dc1227.symm) (Int.le_refl _)⟩
                        refine lv_iconst (v := 1) hx hb dX10_next_216 (by decide) ?_
                        refine lv_goto (tgt := 221) hx hb dX10_next_217 (by decide) ?_
                        refine lv_istore_n (lv' := [(3, .int 1), (2, .int u707), (1, .int v704), (0, .ref h0)]) hx hb dX10_next_221 rfl hl (by decide) rfl (fun ls hl => ?_)
                        exact cut1119 1 (show 0 ≤ (1 : Int32).toInt ∧ (1 : Int32).toInt ≤ 1 by decide) (by show (1 = 1 → u707.toInt = 0 → (48 ≤ v934.toInt ∧ v934.toInt ≤ 57 ∧ 0 ≤ u716.toInt ∧ u716.toInt ≤ 999 ∧ (u715.toInt = 0 → u716.toInt = 0) ∧ (u715.toInt = 1 → u716.toInt ≤ 9) ∧ (u715.toInt = 2 → u716.toInt ≤ 99))); omega) _ _ _ hP hD hS (lv_sub hl [0, 1, 2, 3] rfl)
                    · have hP : va_P D vwCl [(h0, .inr (10, vL 67 G713)), (h_tape, .inl (cB, 940, .inl f_tape))] H := hP
                      have hD : va_D A [(h0, .inr (10, vL 67 G713)), (h_tape, .inl (cB, 940, .inl f_tape))] := hD
                      refine W.widen (k := 0) (n := 0) (Nat.le_of_ble_eq_true rfl) (Nat.le_of_ble_eq_true rfl) ?_
                      exact absurd t1222 (by decide)
                    · have hP : va_P D vwCl [(h0, .inr (10, vL 67 G713)), (h_tape, .inl (cB, 940, .inl f_tape))] H := hP
                      have hD : va_D A [(h0, .inr (10, vL 67 G713)), (h_tape, .inl (cB, 940, .inl f_tape))] := hD
                      refine W.widen (k := 0) (n := 0) (Nat.le_of_ble_eq_true rfl) (Nat.le_of_ble_eq_true rfl) ?_
                      exact absurd t1224 (by decide)
                  · have hP : va_P D vwCl [(h0, .inr (10, vL 67 G713)), (h_tape, .inl (cB, 940, .inl f_tape))] H := hP
                    have hD : va_D A [(h0, .inr (10, vL 67 G713)), (h_tape, .inl (cB, 940, .inl f_tape))] := hD
                    refine W.widen (k := 0) (n := 0) (Nat.le_of_ble_eq_true rfl) (Nat.le_of_ble_eq_true rfl) ?_
                    refine lv_ci (y := v934) ev934.symm ?_
                    refine call_Si (wr := [(h0, .inr (10, vL 67 G713)), (h_tape, .inl (cB, 940, .inl f_tape))]) (As := [.int v934]) (rest := []) hx hb hml hown hw (m_X10_isSmall l D cI cJ cB cP cM cZ v934 _ ) wS_X10_182_X10_isSmall dX10_next_209 hP hD hS hA [] [0, 1] rfl rfl (by decide) (by decide) (by decide) GG.fb hG.at hl.1 rfl (Nat.le_of_ble_eq_true rfl) ⟨(Nat.le_of_ble_eq_true rfl), (Nat.le_of_ble_eq_true rfl)⟩ ⟨(Nat.le_of_ble_eq_true rfl), (Nat.le_of_ble_eq_true rfl)⟩ (fun r1230 u H locs hp hP hD hS => ?_)
                    rcases hp with ⟨t1231, rfl, rfl⟩ | ⟨t1232, t1233, rfl, rfl⟩ | ⟨t1234, t1235, rfl, rfl⟩
                    · have hP : va_P D vwCl [(h0, .inr (10, vL 67 G713)), (h_tape, .inl (cB, 940, .inl f_tape))] H := hP
                      have hD : va_D A [(h0, .inr (10, vL 67 G713)), (h_tape, .inl (cB, 940, .inl f_tape))] := hD
                      refine W.widen (k := 0) (n := 0) (Nat.le_of_ble_eq_true rfl) (Nat.le_of_ble_eq_true rfl) ?_
                      exact False.elim (bad_lt t1231 k1117.1 (Int.le_refl _) (by decide))
                    · have hP : va_P D vwCl [(h0, .inr (10, vL 67 G713)), (h_tape, .inl (cB, 940, .inl f_tape))] H := hP
                      have hD : va_D A [(h0, .inr (10, vL 67 G713)), (h_tape, .inl (cB, 940, .inl f_tape))] := hD
                      refine W.widen (k := 0) (n := 0) (Nat.le_of_ble_eq_true rfl) (Nat.le_of_ble_eq_true rfl) ?_
                      exact False.elim (bad_lt t1233 (Int.le_refl _) k1117.2 (by decide))
                    · have hP : va_P D vwCl [(h0, .inr (10, vL 67 G713)), (h_tape, .inl (cB, 940, .inl f_tape))] H := hP
                      have hD : va_D A [(h0, .inr (10, vL 67 G713)), (h_tape, .inl (cB, 940, .inl f_tape))] := hD
                      refine W.widen (k := 0) (n := 0) (Nat.le_of_ble_eq_true rfl) (Nat.le_of_ble_eq_true rfl) ?_
                      refine lv_iload_n hx hb dX10_next_212 rfl (lv_at hl 1 rfl) ?_
                      refine lv_icmp_ne (tgt := 220) hx hb dX10_next_213 (by decide) (fun c1237 => ?_) (fun c1237 => ?_)
                      · have dc1237 : 1 ≠ u707.toInt := ne_i (a := 1) (b := u707.toInt) rfl rfl c1237
                        have k1238 : 0 ≤ u707.toInt ∧ u707.toInt ≤ 0 := ⟨i709.1, ne_hi dc1237.symm i709.2 ⟨Int.le_refl _, Int.le_refl _⟩ (by decide)⟩
                        refine lv_iconst (v := 0) hx hb dX10_next_220 (by decide) ?_
                        refine lv_istore_n (lv' := [(3, .int 0), (2, .int u707), (1, .int v704), (0, .ref h0)]) hx hb dX10_next_221 rfl hl (by decide) rfl (fun ls hl => ?_)
                        exact cut1119 0 (show 0 ≤ (0 : Int32).toInt ∧ (0 : Int32).toInt ≤ 1 by decide) (by show (0 = 1 → u707.toInt = 0 → (48 ≤ v934.toInt ∧ v934.toInt ≤ 57 ∧ 0 ≤ u716.toInt ∧ u716.toInt ≤ 999 ∧ (u715.toInt = 0 → u716.toInt = 0) ∧ (u715.toInt = 1 → u716.toInt ≤ 9) ∧ (u715.toInt = 2 → u716.toInt ≤ 99))); omega) _ _ _ hP hD hS (lv_sub hl [0, 1, 2, 3] rfl)
                      · have dc1237 : 1 = u707.toInt := eq_i (a := 1) (b := u707.toInt) rfl rfl c1237
                        have k1239 : 1 ≤ u707.toInt ∧ u707.toInt ≤ 1 := ⟨Int.le_trans (Int.le_refl _) (Int.le_of_eq dc1237.symm.symm), i709.2⟩
                        refine lv_iconst (v := 1) hx hb dX10_next_216 (by decide) ?_
                        refine lv_goto (tgt := 221) hx hb dX10_next_217 (by decide) ?_
                        refine lv_istore_n (lv' := [(3, .int 1), (2, .int u707), (1, .int v704), (0, .ref h0)]) hx hb dX10_next_221 rfl hl (by decide) rfl (fun ls hl => ?_)
                        exact cut1119 1 (show 0 ≤ (1 : Int32).toInt ∧ (1 : Int32).toInt ≤ 1 by decide) (by show (1 = 1 → u707.toInt = 0 → (48 ≤ v934.toInt ∧ v934.toInt ≤ 57 ∧ 0 ≤ u716.toInt ∧ u716.toInt ≤ 999 ∧ (u715.toInt = 0 → u716.toInt = 0) ∧ (u715.toInt = 1 → u716.toInt ≤ 9) ∧ (u715.toInt = 2 → u716.toInt ≤ 99))); omega) _ _ _ hP hD hS (lv_sub hl [0, 1, 2, 3] rfl)
          refine lv_iload_n hx hb dX10_next_95 rfl (lv_at hl 0 rfl) ?_
          refine call_Si (wr := [(h0, .inr (10, vL 67 F8)), (h_tape, .inl (cB, 940, .inl f_tape))]) (As := [.int v704]) (rest := []) hx hb hml hown hw (m_X10_isSmall l D cI cJ cB cP cM cZ v704 _ ) wS_X10_182_X10_isSmall dX10_next_96 hP hD hS hA [] [0, 1] rfl rfl (by decide) (by decide) (by decide) GG.fb hG.at hl.1 rfl (Nat.le_of_ble_eq_true rfl) ⟨(Nat.le_of_ble_eq_true rfl), (Nat.le_of_ble_eq_true rfl)⟩ ⟨(Nat.le_of_ble_eq_true rfl), (Nat.le_of_ble_eq_true rfl)⟩ (fun r1240 u H locs hp hP hD hS => ?_)
          rcases hp with ⟨t1241, rfl, rfl⟩ | ⟨t1242, t1243, rfl, rfl⟩ | ⟨t1244, t1245, rfl, rfl⟩
          · have hP : va_P D vwCl [(h0, .inr (10, vL 67 F8)), (h_tape, .inl (cB, 940, .inl f_tape))] H := hP
            have hD : va_D A [(h0, .inr (10, vL 67 F8)), (h_tape, .inl (cB, 940, .inl f_tape))] := hD
            refine W.widen (k := 0) (n := 0) (Nat.le_of_ble_eq_true rfl) (Nat.le_of_ble_eq_true rfl) ?_
            have k1247 : 0 ≤ v704.toInt ∧ v704.toInt ≤ 96 := ⟨k705.1, up_lt t1241 (Int.le_refl _) (by decide)⟩
            refine lv_if_ne (tgt := 164) hx hb dX10_next_99 (by decide) (fun g => absurd (by decide) g) (fun _ => ?_)
            refine lv_iload_n hx hb dX10_next_102 rfl (lv_at hl 0 rfl) ?_
            refine call_Si (wr := [(h0, .inr (10, vL 67 F8)), (h_tape, .inl (cB, 940, .inl f_tape))]) (As := [.int v704]) (rest := []) hx hb hml hown hw (m_X10_isDigit l D cI cJ cB cP cM cZ v704 _ ) wS_X10_186_X10_isDigit dX10_next_103 hP hD hS hA [] [0, 1] rfl rfl (by decide) (by decide) (by decide) GG.fb hG.at hl.1 rfl (Nat.le_of_ble_eq_true rfl) ⟨(Nat.le_of_ble_eq_true rfl), (Nat.le_of_ble_eq_true rfl)⟩ ⟨(Nat.le_of_ble_eq_true rfl), (Nat.le_of_ble_eq_true rfl)⟩ (fun r1248 u H locs hp hP hD hS => ?_)
            rcases hp with ⟨t1249, rfl, rfl⟩ | ⟨t1250, t1251, rfl, rfl⟩ | ⟨t1252, t1253, rfl, rfl⟩
            · have hP : va_P D vwCl [(h0, .inr (10, vL 67 F8)), (h_tape, .inl (cB, 940, .inl f_tape))] H := hP
              have hD : va_D A [(h0, .inr (10, vL 67 F8)), (h_tape, .inl (cB, 940, .inl f_tape))] := hD
              refine W.widen (k := 0) (n := 0) (Nat.le_of_ble_eq_true rfl) (Nat.le_of_ble_eq_true rfl) ?_
              have k1255 : 0 ≤ v704.toInt ∧ v704.toInt ≤ 47 := ⟨k1247.1, up_lt t1249 (Int.le_refl _) (by decide)⟩
              refine lv_if_ne (tgt := 164) hx hb dX10_next_106 (by decide) (fun g => absurd (by decide) g) (fun _ => ?_)
              refine lv_aload_n hx hb dX10_next_109 rfl (lv_at hl 1 rfl) ?_
              refine lv_iload_n hx hb dX10_next_110 rfl (lv_at hl 0 rfl) ?_
              refine lv_bipush (v := 59) hx hb dX10_next_111 (by decide) ?_
              refine lv_icmp_eq (tgt := 140) hx hb dX10_next_113 (by decide) (fun c1256 => False.elim (bad_le (Int.le_of_eq (eq_i (a := v704.toInt) (b := 59) rfl rfl c1256).symm) (Int.le_refl _) k1255.2 (by decide))) (fun c1256 => ?_)
              have dc1256 : v704.toInt ≠ 59 := ne_i (a := v704.toInt) (b := 59) rfl rfl c1256
              refine lv_iload_n hx hb dX10_next_116 rfl (lv_at hl 0 rfl) ?_
              refine lv_bipush (v := 40) hx hb dX10_next_117 (by decide) ?_
              refine lv_icmp_eq (tgt := 140) hx hb dX10_next_119 (by decide) (fun c1257 => ?_) (fun c1257 => ?_)
              · have dc1257 : v704.toInt = 40 := eq_i (a := v704.toInt) (b := 40) rfl rfl c1257
                have k1258 : 40 ≤ v704.toInt ∧ v704.toInt ≤ 40 := ⟨Int.le_trans (Int.le_refl _) (Int.le_of_eq dc1257.symm), Int.le_trans (Int.le_of_eq dc1257) (Int.le_refl _)⟩
                refine lv_iconst (v := 3) hx hb dX10_next_140 (by decide) ?_
                refine lv_goto (tgt := 145) hx hb dX10_next_141 (by decide) ?_
                refine put_f (D := D) (ci := 10) (v := .int 3) (ty := .int) (C := RX10) (T := TX10) (N := 67) hx hb hw inAX10 tyX10 tyX10_ok nmX10 hown hK hP hD hS 0 rfl rfl 11 (by decide) (hw _ q_1272) (fun _ h9 => h9) rfl (by decide +kernel) rfl rfl dX10_next_145 (fun H locs F1259 eF1259 hP hD hS => ?_)
                have hP : va_P D vwCl [(h0, .inr (10, vL 67 F1259)), (h_tape, .inl (cB, 940, .inl f_tape))] H := hP
                have hD : va_D A [(h0, .inr (10, vL 67 F1259)), (h_tape, .inl (cB, 940, .inl f_tape))] := hD
                refine lv_aload_n hx hb dX10_next_148 rfl (lv_at hl 1 rfl) ?_
                refine lv_iload_n hx hb dX10_next_149 rfl (lv_at hl 0 rfl) ?_
                refine put_f (D := D) (ci := 10) (v := .int v704) (ty := .int) (C := RX10) (T := TX10) (N := 67) hx hb hw inAX10 tyX10 tyX10_ok nmX10 hown hK hP hD hS 0 rfl rfl 14 (by decide) (hw _ q_1275) (fun _ h9 => h9) rfl (by decide +kernel) rfl rfl dX10_next_150 (fun H locs F1260 eF1260 hP hD hS => ?_)
                have hP : va_P D vwCl [(h0, .inr (10, vL 67 F1260)), (h_tape, .inl (cB, 940, .inl f_tape))] H := hP
                have hD : va_D A [(h0, .inr (10, vL 67 F1260)), (h_tape, .inl (cB, 940, .inl f_tape))] := hD
                refine lv_aload_n hx hb dX10_next_153 rfl (lv_at hl 1 rfl) ?_
                refine lv_dup hx hb dX10_next_154 rfl ?_
                have n1261 : F1259 4 = .int u2 := (get_ne eF1259 (by decide) n690)
                have n1262 : F1260 4 = .int u2 := (get_ne eF1260 (by decide) n1261)
                refine get_f (D := D) (ci := 10) (v := .int u2) (C := RX10) (T := TX10) (N := 67) hx hb hw inAX10 hown hK hP 0 rfl rfl 4 (by decide) (hw _ q_1265) (fun _ h9 => h9) n1262 dX10_next_155 ?_
                refine lv_iconst (v := 1) hx hb dX10_next_158 (by decide) ?_
                refine lv_iadd hx hb dX10_next_159 ?_
                refine lv_topi (fun v1263 ev1263 => ?_)
                have bv1263 : v1263.toInt = u2.toInt + 1 := by rw [ev1263]; exact add_k rfl rfl k692 ⟨Int.le_refl _, Int.le_refl _⟩ (by decide)
                have k1264 : 1 ≤ v1263.toInt ∧ v1263.toInt ≤ 939 := add_r bv1263 k692 ⟨Int.le_refl _, Int.le_refl _⟩ (by decide)
                refine put_f (D := D) (ci := 10) (v := .int v1263) (ty := .int) (C := RX10) (T := TX10) (N := 67) hx hb hw inAX10 tyX10 tyX10_ok nmX10 hown hK hP hD hS 0 rfl rfl 4 (by decide) (hw _ q_1265) (fun _ h9 => h9) rfl (by decide +kernel) rfl rfl dX10_next_160 (fun H locs F1265 eF1265 hP hD hS => ?_)
                have hP : va_P D vwCl [(h0, .inr (10, vL 67 F1265)), (h_tape, .inl (cB, 940, .inl f_tape))] H := hP
                have hD : va_D A [(h0, .inr (10, vL 67 F1265)), (h_tape, .inl (cB, 940, .inl f_tape))] := hD
                exact ret_v hx hb hr hlocks hS hP hD dX10_next_163 (Nat.le_of_ble_eq_true rfl) (Nat.le_of_ble_eq_true rfl) ⟨F1265, v1263, 3, u2, 0, v704, x_word, (SAME.up eF1265 (SAME.up eF1260 (SAME.up eF1259 (SAME.up eF8 (SAME.up eF7 (SAME.tr SAME.rf i4 (by decide)) (by decide)) (by decide)) (by decide)) (by decide)) (by decide)), (get_eq eF1265), (ir_wk k1264 (by decide) (by decide)), (get_ne eF1265 (by decide) (get_ne eF1260 (by decide) (get_eq eF1259))), (show 0 ≤ (3 : Int32).toInt ∧ (3 : Int32).toInt ≤ 4 by decide), (get_ne eF1265 (by decide) (get_ne eF1260 (by decide) (get_ne eF1259 (by decide) (get_ne eF8 (by decide) (get_eq eF7))))), (ir_wk k692 (by decide) (by decide)), (get_ne eF1265 (by decide) (get_ne eF1260 (by decide) (get_ne eF1259 (by decide) (get_eq eF8)))), (show 0 ≤ (0 : Int32).toInt ∧ (0 : Int32).toInt ≤ 940 by decide), (get_ne eF1265 (by decide) (get_eq eF1260)), (get_ne eF1265 (by decide) (get_ne eF1260 (by decide) (get_ne eF1259 (by decide) (get_ne eF8 (by decide) (get_ne eF7 (by decide) (SAME.at i4 (by decide) e_word)))))), (by omega), (by omega), (by omega), rfl⟩
              · have dc1257 : v704.toInt ≠ 40 := ne_i (a := v704.toInt) (b := 40) rfl rfl c1257
                refine lv_iload_n hx hb dX10_next_122 rfl (lv_at hl 0 rfl) ?_
                refine lv_bipush (v := 41) hx hb dX10_next_123 (by decide) ?_
                refine lv_icmp_eq (tgt := 140) hx hb dX10_next_125 (by decide) (fun c1266 => ?_) (fun c1266 => ?_)
                · have dc1266 : v704.toInt = 41 := eq_i (a := v704.toInt) (b := 41) rfl rfl c1266
                  have k1267 : 41 ≤ v704.toInt ∧ v704.toInt ≤ 41 := ⟨Int.le_trans (Int.le_refl _) (Int.le_of_eq dc1266.symm), Int.le_trans (Int.le_of_eq dc1266) (Int.le_refl _)⟩
                  refine lv_iconst (v := 3) hx hb dX10_next_140 (by decide) ?_
                  refine lv_goto (tgt := 145) hx hb dX10_next_141 (by decide) ?_
                  refine put_f (D := D) (ci := 10) (v := .int 3) (ty := .int) (C := RX10) (T := TX10) (N := 67) hx hb hw inAX10 tyX10 tyX10_ok nmX10 hown hK hP hD hS 0 rfl rfl 11 (by decide) (hw _ q_1272) (fun _ h9 => h9) rfl (by decide +kernel) rfl rfl dX10_next_145 (fun H locs F1268 eF1268 hP hD hS => ?_)
                  have hP : va_P D vwCl [(h0, .inr (10, vL 67 F1268)), (h_tape, .inl (cB, 940, .inl f_tape))] H := hP
                  have hD : va_D A [(h0, .inr (10, vL 67 F1268)), (h_tape, .inl (cB, 940, .inl f_tape))] := hD
                  refine lv_aload_n hx hb dX10_next_148 rfl (lv_at hl 1 rfl) ?_
                  refine lv_iload_n hx hb dX10_next_149 rfl (lv_at hl 0 rfl) ?_
                  refine put_f (D := D) (ci := 10) (v := .int v704) (ty := .int) (C := RX10) (T := TX10) (N := 67) hx hb hw inAX10 tyX10 tyX10_ok nmX10 hown hK hP hD hS 0 rfl rfl 14 (by decide) (hw _ q_1275) (fun _ h9 => h9) rfl (by decide +kernel) rfl rfl dX10_next_150 (fun H locs F1269 eF1269 hP hD hS => ?_)
                  have hP : va_P D vwCl [(h0, .inr (10, vL 67 F1269)), (h_tape, .inl (cB, 940, .inl f_tape))] H := hP
                  have hD : va_D A [(h0, .inr (10, vL 67 F1269)), (h_tape, .inl (cB, 940, .inl f_tape))] := hD
                  refine lv_aload_n hx hb dX10_next_153 rfl (lv_at hl 1 rfl) ?_
                  refine lv_dup hx hb dX10_next_154 rfl ?_
                  have n1270 : F1268 4 = .int u2 := (get_ne eF1268 (by decide) n690)
                  have n1271 : F1269 4 = .int u2 := (get_ne eF1269 (by decide) n1270)
                  refine get_f (D := D) (ci := 10) (v := .int u2) (C := RX10) (T := TX10) (N := 67) hx hb hw inAX10 hown hK hP 0 rfl rfl 4 (by decide) (hw _ q_1265) (fun _ h9 => h9) n1271 dX10_next_155 ?_
                  refine lv_iconst (v := 1) hx hb dX10_next_158 (by decide) ?_
                  refine lv_iadd hx hb dX10_next_159 ?_
                  refine lv_topi (fun v1272 ev1272 => ?_)
                  have bv1272 : v1272.toInt = u2.toInt + 1 := by rw [ev1272]; exact add_k rfl rfl k692 ⟨Int.le_refl _, Int.le_refl _⟩ (by decide)
                  have k1273 : 1 ≤ v1272.toInt ∧ v1272.toInt ≤ 939 := add_r bv1272 k692 ⟨Int.le_refl _, Int.le_refl _⟩ (by decide)
                  refine put_f (D := D) (ci := 10) (v := .int v1272) (ty := .int) (C := RX10) (T := TX10) (N := 67) hx hb hw inAX10 tyX10 tyX10_ok nmX10 hown hK hP hD hS 0 rfl rfl 4 (by decide) (hw _ q_1265) (fun _ h9 => h9) rfl (by decide +kernel) rfl rfl dX10_next_160 (fun H locs F1274 eF1274 hP hD hS => ?_)
                  have hP : va_P D vwCl [(h0, .inr (10, vL 67 F1274)), (h_tape, .inl (cB, 940, .inl f_tape))] H := hP
                  have hD : va_D A [(h0, .inr (10, vL 67 F1274)), (h_tape, .inl (cB, 940, .inl f_tape))] := hD
                  exact ret_v hx hb hr hlocks hS hP hD dX10_next_163 (Nat.le_of_ble_eq_true rfl) (Nat.le_of_ble_eq_true rfl) ⟨F1274, v1272, 3, u2, 0, v704, x_word, (SAME.up eF1274 (SAME.up eF1269 (SAME.up eF1268 (SAME.up eF8 (SAME.up eF7 (SAME.tr SAME.rf i4 (by decide)) (by decide)) (by decide)) (by decide)) (by decide)) (by decide)), (get_eq eF1274), (ir_wk k1273 (by decide) (by decide)), (get_ne eF1274 (by decide) (get_ne eF1269 (by decide) (get_eq eF1268))), (show 0 ≤ (3 : Int32).toInt ∧ (3 : Int32).toInt ≤ 4 by decide), (get_ne eF1274 (by decide) (get_ne eF1269 (by decide) (get_ne eF1268 (by decide) (get_ne eF8 (by decide) (get_eq eF7))))), (ir_wk k692 (by decide) (by decide)), (get_ne eF1274 (by decide) (get_ne eF1269 (by decide) (get_ne eF1268 (by decide) (get_eq eF8)))), (show 0 ≤ (0 : Int32).toInt ∧ (0 : Int32).toInt ≤ 940 by decide), (get_ne eF1274 (by decide) (get_eq eF1269)), (get_ne eF1274 (by decide) (get_ne eF1269 (by decide) (get_ne eF1268 (by decide) (get_ne eF8 (by decide) (get_ne eF7 (by decide) (SAME.at i4 (by decide) e_word)))))), (by omega), (by omega), (by omega), rfl⟩
                · have dc1266 : v704.toInt ≠ 41 := ne_i (a := v704.toInt) (b := 41) rfl rfl c1266
                  refine lv_iload_n hx hb dX10_next_128 rfl (lv_at hl 0 rfl) ?_
                  refine lv_bipush (v := 60) hx hb dX10_next_129 (by decide) ?_
                  refine lv_icmp_lt (tgt := 144) hx hb dX10_next_131 (by decide) (fun c1275 => ?_) (fun c1275 => False.elim (bad_le (nlt_i (a := v704.toInt) (b := 60) rfl rfl c1275) (Int.le_refl _) k1255.2 (by decide)))
                  have dc1275 : v704.toInt < 60 := lt_i (a := v704.toInt) (b := 60) rfl rfl c1275
                  refine lv_iconst (v := 4) hx hb dX10_next_144 (by decide) ?_
                  refine put_f (D := D) (ci := 10) (v := .int 4) (ty := .int) (C := RX10) (T := TX10) (N := 67) hx hb hw inAX10 tyX10 tyX10_ok nmX10 hown hK hP hD hS 0 rfl rfl 11 (by decide) (hw _ q_1272) (fun _ h9 => h9) rfl (by decide +kernel) rfl rfl dX10_next_145 (fun H locs F1276 eF1276 hP hD hS => ?_)
                  have hP : va_P D vwCl [(h0, .inr (10, vL 67 F1276)), (h_tape, .inl (cB, 940, .inl f_tape))] H := hP
                  have hD : va_D A [(h0, .inr (10, vL 67 F1276)), (h_tape, .inl (cB, 940, .inl f_tape))] := hD
                  refine lv_aload_n hx hb dX10_next_148 rfl (lv_at hl 1 rfl) ?_
                  refine lv_iload_n hx hb dX10_next_149 rfl (lv_at hl 0 rfl) ?_
                  refine put_f (D := D) (ci := 10) (v := .int v704) (ty := .int) (C := RX10) (T := TX10) (N := 67) hx hb hw inAX10 tyX10 tyX10_ok nmX10 hown hK hP hD hS 0 rfl rfl 14 (by decide) (hw _ q_1275) (fun _ h9 => h9) rfl (by decide +kernel) rfl rfl dX10_next_150 (fun H locs F1277 eF1277 hP hD hS => ?_)
                  have hP : va_P D vwCl [(h0, .inr (10, vL 67 F1277)), (h_tape, .inl (cB, 940, .inl f_tape))] H := hP
                  have hD : va_D A [(h0, .inr (10, vL 67 F1277)), (h_tape, .inl (cB, 940, .inl f_tape))] := hD
                  refine lv_aload_n hx hb dX10_next_153 rfl (lv_at hl 1 rfl) ?_
                  refine lv_dup hx hb dX10_next_154 rfl ?_
                  have n1278 : F1276 4 = .int u2 := (get_ne eF1276 (by decide) n690)
                  have n1279 : F1277 4 = .int u2 := (get_ne eF1277 (by decide) n1278)
                  refine get_f (D := D) (ci := 10) (v := .int u2) (C := RX10) (T := TX10) (N := 67) hx hb hw inAX10 hown hK hP 0 rfl rfl 4 (by decide) (hw _ q_1265) (fun _ h9 => h9) n1279 dX10_next_155 ?_
                  refine lv_iconst (v := 1) hx hb dX10_next_158 (by decide) ?_
                  refine lv_iadd hx hb dX10_next_159 ?_
                  refine lv_topi (fun v1280 ev1280 => ?_)
                  have bv1280 : v1280.toInt = u2.toInt + 1 := by rw [ev1280]; exact add_k rfl rfl k692 ⟨Int.le_refl _, Int.le_refl _⟩ (by decide)
                  have k1281 : 1 ≤ v1280.toInt ∧ v1280.toInt ≤ 939 := add_r bv1280 k692 ⟨Int.le_refl _, Int.le_refl _⟩ (by decide)
                  refine put_f (D := D) (ci := 10) (v := .int v1280) (ty := .int) (C := RX10) (T := TX10) (N := 67) hx hb hw inAX10 tyX10 tyX10_ok nmX10 hown hK hP hD hS 0 rfl rfl 4 (by decide) (hw _ q_1265) (fun _ h9 => h9) rfl (by decide +kernel) rfl rfl dX10_next_160 (fun H locs F1282 eF1282 hP hD hS => ?_)
                  have hP : va_P D vwCl [(h0, .inr (10, vL 67 F1282)), (h_tape, .inl (cB, 940, .inl f_tape))] H := hP
                  have hD : va_D A [(h0, .inr (10, vL 67 F1282)), (h_tape, .inl (cB, 940, .inl f_tape))] := hD
                  exact ret_v hx hb hr hlocks hS hP hD dX10_next_163 (Nat.le_of_ble_eq_true rfl) (Nat.le_of_ble_eq_true rfl) ⟨F1282, v1280, 4, u2, 0, v704, x_word, (SAME.up eF1282 (SAME.up eF1277 (SAME.up eF1276 (SAME.up eF8 (SAME.up eF7 (SAME.tr SAME.rf i4 (by decide)) (by decide)) (by decide)) (by decide)) (by decide)) (by decide)), (get_eq eF1282), (ir_wk k1281 (by decide) (by decide)), (get_ne eF1282 (by decide) (get_ne eF1277 (by decide) (get_eq eF1276))), (show 0 ≤ (4 : Int32).toInt ∧ (4 : Int32).toInt ≤ 4 by decide), (get_ne eF1282 (by decide) (get_ne eF1277 (by decide) (get_ne eF1276 (by decide) (get_ne eF8 (by decide) (get_eq eF7))))), (ir_wk k692 (by decide) (by decide)), (get_ne eF1282 (by decide) (get_ne eF1277 (by decide) (get_ne eF1276 (by decide) (get_eq eF8)))), (show 0 ≤ (0 : Int32).toInt ∧ (0 : Int32).toInt ≤ 940 by decide), (get_ne eF1282 (by decide) (get_eq eF1277)), (get_ne eF1282 (by decide) (get_ne eF1277 (by decide) (get_ne eF1276 (by decide) (get_ne eF8 (by decide) (get_ne eF7 (by decide) (SAME.at i4 (by decide) e_word)))))), (by omega), (by omega), (by omega), rfl⟩
            · have hP : va_P D vwCl [(h0, .inr (10, vL 67 F8)), (h_tape, .inl (cB, 940, .inl f_tape))] H := hP
              have hD : va_D A [(h0, .inr (10, vL 67 F8)), (h_tape, .inl (cB, 940, .inl f_tape))] := hD
              refine W.widen (k := 0) (n := 0) (Nat.le_of_ble_eq_true rfl) (Nat.le_of_ble_eq_true rfl) ?_
              have k1283 : 48 ≤ v704.toInt ∧ v704.toInt ≤ 96 := ⟨Int.le_trans (Int.le_refl _) t1250, k1247.2⟩
              have k1284 : 58 ≤ v704.toInt ∧ v704.toInt ≤ 96 := ⟨lo_lt t1251 (Int.le_refl _) (by decide), k1283.2⟩
              refine lv_if_ne (tgt := 164) hx hb dX10_next_106 (by decide) (fun g => absurd (by decide) g) (fun _ => ?_)
              refine lv_aload_n hx hb dX10_next_109 rfl (lv_at hl 1 rfl) ?_
              refine lv_iload_n hx hb dX10_next_110 rfl (lv_at hl 0 rfl) ?_
              refine lv_bipush (v := 59) hx hb dX10_next_111 (by decide) ?_
              refine lv_icmp_eq (tgt := 140) hx hb dX10_next_113 (by decide) (fun c1285 => ?_) (fun c1285 => ?_)
              · have dc1285 : v704.toInt = 59 := eq_i (a := v704.toInt) (b := 59) rfl rfl c1285
                have k1286 : 59 ≤ v704.toInt ∧ v704.toInt ≤ 59 := ⟨Int.le_trans (Int.le_refl _) (Int.le_of_eq dc1285.symm), Int.le_trans (Int.le_of_eq dc1285) (Int.le_refl _)⟩
                refine lv_iconst (v := 3) hx hb dX10_next_140 (by decide) ?_
                refine lv_goto (tgt := 145) hx hb dX10_next_141 (by decide) ?_
                refine put_f (D := D) (ci := 10) (v := .int 3) (ty := .int) (C := RX10) (T := TX10) (N := 67) hx hb hw inAX10 tyX10 tyX10_ok nmX10 hown hK hP hD hS 0 rfl rfl 11 (by decide) (hw _ q_1272) (fun _ h9 => h9) rfl (by decide +kernel) rfl rfl dX10_next_145 (fun H locs F1287 eF1287 hP hD hS => ?_)
                have hP : va_P D vwCl [(h0, .inr (10, vL 67 F1287)), (h_tape, .inl (cB, 940, .inl f_tape))] H := hP
                have hD : va_D A [(h0, .inr (10, vL 67 F1287)), (h_tape, .inl (cB, 940, .inl f_tape))] := hD
                refine lv_aload_n hx hb dX10_next_148 rfl (lv_at hl 1 rfl) ?_
                refine lv_iload_n hx hb dX10_next_149 rfl (lv_at hl 0 rfl) ?_
                refine put_f (D := D) (ci := 10) (v := .int v704) (ty := .int) (C := RX10) (T := TX10) (N := 67) hx hb hw inAX10 tyX10 tyX10_ok nmX10 hown hK hP hD hS 0 rfl rfl 14 (by decide) (hw _ q_1275) (fun _ h9 => h9) rfl (by decide +kernel) rfl rfl dX10_next_150 (fun H locs F1288 eF1288 hP hD hS => ?_)
                have hP : va_P D vwCl [(h0, .inr (10, vL 67 F1288)), (h_tape, .inl (cB, 940, .inl f_tape))] H := hP
                have hD : va_D A [(h0, .inr (10, vL 67 F1288)), (h_tape, .inl (cB, 940, .inl f_tape))] := hD
                refine lv_aload_n hx hb dX10_next_153 rfl (lv_at hl 1 rfl) ?_
                refine lv_dup hx hb dX10_next_154 rfl ?_
                have n1289 : F1287 4 = .int u2 := (get_ne eF1287 (by decide) n690)
                have n1290 : F1288 4 = .int u2 := (get_ne eF1288 (by decide) n1289)
                refine get_f (D := D) (ci := 10) (v := .int u2) (C := RX10) (T := TX10) (N := 67) hx hb hw inAX10 hown hK hP 0 rfl rfl 4 (by decide) (hw _ q_1265) (fun _ h9 => h9) n1290 dX10_next_155 ?_
                refine lv_iconst (v := 1) hx hb dX10_next_158 (by decide) ?_
                refine lv_iadd hx hb dX10_next_159 ?_
                refine lv_topi (fun v1291 ev1291 => ?_)
                have bv1291 : v1291.toInt = u2.toInt + 1 := by rw [ev1291]; exact add_k rfl rfl k692 ⟨Int.le_refl _, Int.le_refl _⟩ (by decide)
                have k1292 : 1 ≤ v1291.toInt ∧ v1291.toInt ≤ 939 := add_r bv1291 k692 ⟨Int.le_refl _, Int.le_refl _⟩ (by decide)
                refine put_f (D := D) (ci := 10) (v := .int v1291) (ty := .int) (C := RX10) (T := TX10) (N := 67) hx hb hw inAX10 tyX10 tyX10_ok nmX10 hown hK hP hD hS 0 rfl rfl 4 (by decide) (hw _ q_1265) (fun _ h9 => h9) rfl (by decide +kernel) rfl rfl dX10_next_160 (fun H locs F1293 eF1293 hP hD hS => ?_)
                have hP : va_P D vwCl [(h0, .inr (10, vL 67 F1293)), (h_tape, .inl (cB, 940, .inl f_tape))] H := hP
                have hD : va_D A [(h0, .inr (10, vL 67 F1293)), (h_tape, .inl (cB, 940, .inl f_tape))] := hD
                exact ret_v hx hb hr hlocks hS hP hD dX10_next_163 (Nat.le_of_ble_eq_true rfl) (Nat.le_of_ble_eq_true rfl) ⟨F1293, v1291, 3, u2, 0, v704, x_word, (SAME.up eF1293 (SAME.up eF1288 (SAME.up eF1287 (SAME.up eF8 (SAME.up eF7 (SAME.tr SAME.rf i4 (by decide)) (by decide)) (by decide)) (by decide)) (by decide)) (by decide)), (get_eq eF1293), (ir_wk k1292 (by decide) (by decide)), (get_ne eF1293 (by decide) (get_ne eF1288 (by decide) (get_eq eF1287))), (show 0 ≤ (3 : Int32).toInt ∧ (3 : Int32).toInt ≤ 4 by decide), (get_ne eF1293 (by decide) (get_ne eF1288 (by decide) (get_ne eF1287 (by decide) (get_ne eF8 (by decide) (get_eq eF7))))), (ir_wk k692 (by decide) (by decide)), (get_ne eF1293 (by decide) (get_ne eF1288 (by decide) (get_ne eF1287 (by decide) (get_eq eF8)))), (show 0 ≤ (0 : Int32).toInt ∧ (0 : Int32).toInt ≤ 940 by decide), (get_ne eF1293 (by decide) (get_eq eF1288)), (get_ne eF1293 (by decide) (get_ne eF1288 (by decide) (get_ne eF1287 (by decide) (get_ne eF8 (by decide) (get_ne eF7 (by decide) (SAME.at i4 (by decide) e_word)))))), (by omega), (by omega), (by omega), rfl⟩
              · have dc1285 : v704.toInt ≠ 59 := ne_i (a := v704.toInt) (b := 59) rfl rfl c1285
                refine lv_iload_n hx hb dX10_next_116 rfl (lv_at hl 0 rfl) ?_
                refine lv_bipush (v := 40) hx hb dX10_next_117 (by decide) ?_
                refine lv_icmp_eq (tgt := 140) hx hb dX10_next_119 (by decide) (fun c1294 => False.elim (bad_le (Int.le_of_eq (eq_i (a := v704.toInt) (b := 40) rfl rfl c1294)) k1284.1 (Int.le_refl _) (by decide))) (fun c1294 => ?_)
                have dc1294 : v704.toInt ≠ 40 := ne_i (a := v704.toInt) (b := 40) rfl rfl c1294
                refine lv_iload_n hx hb dX10_next_122 rfl (lv_at hl 0 rfl) ?_
                refine lv_bipush (v := 41) hx hb dX10_next_123 (by decide) ?_
                refine lv_icmp_eq (tgt := 140) hx hb dX10_next_125 (by decide) (fun c1295 => False.elim (bad_le (Int.le_of_eq (eq_i (a := v704.toInt) (b := 41) rfl rfl c1295)) k1284.1 (Int.le_refl _) (by decide))) (fun c1295 => ?_)
                have dc1295 : v704.toInt ≠ 41 := ne_i (a := v704.toInt) (b := 41) rfl rfl c1295
                refine lv_iload_n hx hb dX10_next_128 rfl (lv_at hl 0 rfl) ?_
                refine lv_bipush (v := 60) hx hb dX10_next_129 (by decide) ?_
                refine lv_icmp_lt (tgt := 144) hx hb dX10_next_131 (by decide) (fun c1296 => ?_) (fun c1296 => ?_)
                · have dc1296 : v704.toInt < 60 := lt_i (a := v704.toInt) (b := 60) rfl rfl c1296
                  have k1297 : 58 ≤ v704.toInt ∧ v704.toInt ≤ 59 := ⟨k1284.1, up_lt dc1296 (Int.le_refl _) (by decide)⟩
                  refine lv_iconst (v := 4) hx hb dX10_next_144 (by decide) ?_
                  refine put_f (D := D) (ci := 10) (v := .int 4) (ty := .int) (C := RX10) (T := TX10) (N := 67) hx hb hw inAX10 tyX10 tyX10_ok nmX10 hown hK hP hD hS 0 rfl rfl 11 (by decide) (hw _ q_1272) (fun _ h9 => h9) rfl (by decide +kernel) rfl rfl dX10_next_145 (fun H locs F1298 eF1298 hP hD hS => ?_)
                  have hP : va_P D vwCl [(h0, .inr (10, vL 67 F1298)), (h_tape, .inl (cB, 940, .inl f_tape))] H := hP
                  have hD : va_D A [(h0, .inr (10, vL 67 F1298)), (h_tape, .inl (cB, 940, .inl f_tape))] := hD
                  refine lv_aload_n hx hb dX10_next_148 rfl (lv_at hl 1 rfl) ?_
                  refine lv_iload_n hx hb dX10_next_149 rfl (lv_at hl 0 rfl) ?_
                  refine put_f (D := D) (ci := 10) (v := .int v704) (ty := .int) (C := RX10) (T := TX10) (N := 67) hx hb hw inAX10 tyX10 tyX10_ok nmX10 hown hK hP hD hS 0 rfl rfl 14 (by decide) (hw _ q_1275) (fun _ h9 => h9) rfl (by decide +kernel) rfl rfl dX10_next_150 (fun H locs F1299 eF1299 hP hD hS => ?_)
                  have hP : va_P D vwCl [(h0, .inr (10, vL 67 F1299)), (h_tape, .inl (cB, 940, .inl f_tape))] H := hP
                  have hD : va_D A [(h0, .inr (10, vL 67 F1299)), (h_tape, .inl (cB, 940, .inl f_tape))] := hD
                  refine lv_aload_n hx hb dX10_next_153 rfl (lv_at hl 1 rfl) ?_
                  refine lv_dup hx hb dX10_next_154 rfl ?_
                  have n1300 : F1298 4 = .int u2 := (get_ne eF1298 (by decide) n690)
                  have n1301 : F1299 4 = .int u2 := (get_ne eF1299 (by decide) n1300)
                  refine get_f (D := D) (ci := 10) (v := .int u2) (C := RX10) (T := TX10) (N := 67) hx hb hw inAX10 hown hK hP 0 rfl rfl 4 (by decide) (hw _ q_1265) (fun _ h9 => h9) n1301 dX10_next_155 ?_
                  refine lv_iconst (v := 1) hx hb dX10_next_158 (by decide) ?_
                  refine lv_iadd hx hb dX10_next_159 ?_
                  refine lv_topi (fun v1302 ev1302 => ?_)
                  have bv1302 : v1302.toInt = u2.toInt + 1 := by rw [ev1302]; exact add_k rfl rfl k692 ⟨Int.le_refl _, Int.le_refl _⟩ (by decide)
                  have k1303 : 1 ≤ v1302.toInt ∧ v1302.toInt ≤ 939 := add_r bv1302 k692 ⟨Int.le_refl _, Int.le_refl _⟩ (by decide)
                  refine put_f (D := D) (ci := 10) (v := .int v1302) (ty := .int) (C := RX10) (T := TX10) (N := 67) hx hb hw inAX10 tyX10 tyX10_ok nmX10 hown hK hP hD hS 0 rfl rfl 4 (by decide) (hw _ q_1265) (fun _ h9 => h9) rfl (by decide +kernel) rfl rfl dX10_next_160 (fun H locs F1304 eF1304 hP hD hS => ?_)
                  have hP : va_P D vwCl [(h0, .inr (10, vL 67 F1304)), (h_tape, .inl (cB, 940, .inl f_tape))] H := hP
                  have hD : va_D A [(h0, .inr (10, vL 67 F1304)), (h_tape, .inl (cB, 940, .inl f_tape))] := hD
                  exact ret_v hx hb hr hlocks hS hP hD dX10_next_163 (Nat.le_of_ble_eq_true rfl) (Nat.le_of_ble_eq_true rfl) ⟨F1304, v1302, 4, u2, 0, v704, x_word, (SAME.up eF1304 (SAME.up eF1299 (SAME.up eF1298 (SAME.up eF8 (SAME.up eF7 (SAME.tr SAME.rf i4 (by decide)) (by decide)) (by decide)) (by decide)) (by decide)) (by decide)), (get_eq eF1304), (ir_wk k1303 (by decide) (by decide)), (get_ne eF1304 (by decide) (get_ne eF1299 (by decide) (get_eq eF1298))), (show 0 ≤ (4 : Int32).toInt ∧ (4 : Int32).toInt ≤ 4 by decide), (get_ne eF1304 (by decide) (get_ne eF1299 (by decide) (get_ne eF1298 (by decide) (get_ne eF8 (by decide) (get_eq eF7))))), (ir_wk k692 (by decide) (by decide)), (get_ne eF1304 (by decide) (get_ne eF1299 (by decide) (get_ne eF1298 (by decide) (get_eq eF8)))), (show 0 ≤ (0 : Int32).toInt ∧ (0 : Int32).toInt ≤ 940 by decide), (get_ne eF1304 (by decide) (get_eq eF1299)), (get_ne eF1304 (by decide) (get_ne eF1299 (by decide) (get_ne eF1298 (by decide) (get_ne eF8 (by decide) (get_ne eF7 (by decide) (SAME.at i4 (by decide) e_word)))))), (by omega), (by omega), (by omega), rfl⟩
                · have dc1296 : 60 ≤ v704.toInt := nlt_i (a := v704.toInt) (b := 60) rfl rfl c1296
                  have k1305 : 60 ≤ v704.toInt ∧ v704.toInt ≤ 96 := ⟨Int.le_trans (Int.le_refl _) dc1296, k1284.2⟩
                  refine lv_iload_n hx hb dX10_next_134 rfl (lv_at hl 0 rfl) ?_
                  refine lv_bipush (v := 62) hx hb dX10_next_135 (by decide) ?_
                  refine lv_icmp_gt (tgt := 144) hx hb dX10_next_137 (by decide) (fun c1306 => ?_) (fun c1306 => ?_)
                  · have dc1306 : 62 < v704.toInt := lt_i (a := 62) (b := v704.toInt) rfl rfl c1306
                    have k1307 : 63 ≤ v704.toInt ∧ v704.toInt ≤ 96 := ⟨lo_lt dc1306 (Int.le_refl _) (by decide), k1305.2⟩
                    refine lv_iconst (v := 4) hx hb dX10_next_144 (by decide) ?_
                    refine put_f (D := D) (ci := 10) (v := .int 4) (ty := .int) (C := RX10) (T := TX10) (N := 67) hx hb hw inAX10 tyX10 tyX10_ok nmX10 hown hK hP hD hS 0 rfl rfl 11 (by decide) (hw _ q_1272) (fun _ h9 => h9) rfl (by decide +kernel) rfl rfl dX10_next_145 (fun H locs F1308 eF1308 hP hD hS => ?_)
                    have hP : va_P D vwCl [(h0, .inr (10, vL 67 F1308)), (h_tape, .inl (cB, 940, .inl f_tape))] H := hP
                    have hD : va_D A [(h0, .inr (10, vL 67 F1308)), (h_tape, .inl (cB, 940, .inl f_tape))] := hD
                    refine lv_aload_n hx hb dX10_next_148 rfl (lv_at hl 1 rfl) ?_
                    refine lv_iload_n hx hb dX10_next_149 rfl (lv_at hl 0 rfl) ?_
                    refine put_f (D := D) (ci := 10) (v := .int v704) (ty := .int) (C := RX10) (T := TX10) (N := 67) hx hb hw inAX10 tyX10 tyX10_ok nmX10 hown hK hP hD hS 0 rfl rfl 14 (by decide) (hw _ q_1275) (fun _ h9 => h9) rfl (by decide +kernel) rfl rfl dX10_next_150 (fun H locs F1309 eF1309 hP hD hS => ?_)
                    have hP : va_P D vwCl [(h0, .inr (10, vL 67 F1309)), (h_tape, .inl (cB, 940, .inl f_tape))] H := hP
                    have hD : va_D A [(h0, .inr (10, vL 67 F1309)), (h_tape, .inl (cB, 940, .inl f_tape))] := hD
                    refine lv_aload_n hx hb dX10_next_153 rfl (lv_at hl 1 rfl) ?_
                    refine lv_dup hx hb dX10_next_154 rfl ?_
                    have n1310 : F1308 4 = .int u2 := (get_ne eF1308 (by decide) n690)
                    have n1311 : F1309 4 = .int u2 := (get_ne eF1309 (by decide) n1310)
                    refine get_f (D := D) (ci := 10) (v := .int u2) (C := RX10) (T := TX10) (N := 67) hx hb hw inAX10 hown hK hP 0 rfl rfl 4 (by decide) (hw _ q_1265) (fun _ h9 => h9) n1311 dX10_next_155 ?_
                    refine lv_iconst (v := 1) hx hb dX10_next_158 (by decide) ?_
                    refine lv_iadd hx hb dX10_next_159 ?_
                    refine lv_topi (fun v1312 ev1312 => ?_)
                    have bv1312 : v1312.toInt = u2.toInt + 1 := by rw [ev1312]; exact add_k rfl rfl k692 ⟨Int.le_refl _, Int.le_refl _⟩ (by decide)
                    have k1313 : 1 ≤ v1312.toInt ∧ v1312.toInt ≤ 939 := add_r bv1312 k692 ⟨Int.le_refl _, Int.le_refl _⟩ (by decide)
                    refine put_f (D := D) (ci := 10) (v := .int v1312) (ty := .int) (C := RX10) (T := TX10) (N := 67) hx hb hw inAX10 tyX10 tyX10_ok nmX10 hown hK hP hD hS 0 rfl rfl 4 (by decide) (hw _ q_1265) (fun _ h9 => h9) rfl (by decide +kernel) rfl rfl dX10_next_160 (fun H locs F1314 eF1314 hP hD hS => ?_)
                    have hP : va_P D vwCl [(h0, .inr (10, vL 67 F1314)), (h_tape, .inl (cB, 940, .inl f_tape))] H := hP
                    have hD : va_D A [(h0, .inr (10, vL 67 F1314)), (h_tape, .inl (cB, 940, .inl f_tape))] := hD
                    exact ret_v hx hb hr hlocks hS hP hD dX10_next_163 (Nat.le_of_ble_eq_true rfl) (Nat.le_of_ble_eq_true rfl) ⟨F1314, v1312, 4, u2, 0, v704, x_word, (SAME.up eF1314 (SAME.up eF1309 (SAME.up eF1308 (SAME.up eF8 (SAME.up eF7 (SAME.tr SAME.rf i4 (by decide)) (by decide)) (by decide)) (by decide)) (by decide)) (by decide)), (get_eq eF1314), (ir_wk k1313 (by decide) (by decide)), (get_ne eF1314 (by decide) (get_ne eF1309 (by decide) (get_eq eF1308))), (show 0 ≤ (4 : Int32).toInt ∧ (4 : Int32).toInt ≤ 4 by decide), (get_ne eF1314 (by decide) (get_ne eF1309 (by decide) (get_ne eF1308 (by decide) (get_ne eF8 (by decide) (get_eq eF7))))), (ir_wk k692 (by decide) (by decide)), (get_ne eF1314 (by decide) (get_ne eF1309 (by decide) (get_ne eF1308 (by decide) (get_eq eF8)))), (show 0 ≤ (0 : Int32).toInt ∧ (0 : Int32).toInt ≤ 940 by decide), (get_ne eF1314 (by decide) (get_eq eF1309)), (get_ne eF1314 (by decide) (get_ne eF1309 (by decide) (get_ne eF1308 (by decide) (get_ne eF8 (by decide) (get_ne eF7 (by decide) (SAME.at i4 (by decide) e_word)))))), (by omega), (by omega), (by omega), rfl⟩
                  · have dc1306 : v704.toInt ≤ 62 := nlt_i (a := 62) (b := v704.toInt) rfl rfl c1306
                    have k1315 : 60 ≤ v704.toInt ∧ v704.toInt ≤ 62 := ⟨k1305.1, Int.le_trans dc1306 (Int.le_refl _)⟩
                    refine lv_iconst (v := 3) hx hb dX10_next_140 (by decide) ?_
                    refine lv_goto (tgt := 145) hx hb dX10_next_141 (by decide) ?_
                    refine put_f (D := D) (ci := 10) (v := .int 3) (ty := .int) (C := RX10) (T := TX10) (N := 67) hx hb hw inAX10 tyX10 tyX10_ok nmX10 hown hK hP hD hS 0 rfl rfl 11 (by decide) (hw _ q_1272) (fun _ h9 => h9) rfl (by decide +kernel) rfl rfl dX10_next_145 (fun H locs F1316 eF1316 hP hD hS => ?_)
                    have hP : va_P D vwCl [(h0, .inr (10, vL 67 F1316)), (h_tape, .inl (cB, 940, .inl f_tape))] H := hP
                    have hD : va_D A [(h0, .inr (10, vL 67 F1316)), (h_tape, .inl (cB, 940, .inl f_tape))] := hD
                    refine lv_aload_n hx hb dX10_next_148 rfl (lv_at hl 1 rfl) ?_
                    refine lv_iload_n hx hb dX10_next_149 rfl (lv_at hl 0 rfl) ?_
                    refine put_f (D := D) (ci := 10) (v := .int v704) (ty := .int) (C := RX10) (T := TX10) (N := 67) hx hb hw inAX10 tyX10 tyX10_ok nmX10 hown hK hP hD hS 0 rfl rfl 14 (by decide) (hw _ q_1275) (fun _ h9 => h9) rfl (by decide +kernel) rfl rfl dX10_next_150 (fun H locs F1317 eF1317 hP hD hS => ?_)
                    have hP : va_P D vwCl [(h0, .inr (10, vL 67 F1317)), (h_tape, .inl (cB, 940, .inl f_tape))] H := hP
                    have hD : va_D A [(h0, .inr (10, vL 67 F1317)), (h_tape, .inl (cB, 940, .inl f_tape))] := hD
                    refine lv_aload_n hx hb dX10_next_153 rfl (lv_at hl 1 rfl) ?_
                    refine lv_dup hx hb dX10_next_154 rfl ?_
                    have n1318 : F1316 4 = .int u2 := (get_ne eF1316 (by decide) n690)
                    have n1319 : F1317 4 = .int u2 := (get_ne eF1317 (by decide) n1318)
                    refine get_f (D := D) (ci := 10) (v := .int u2) (C := RX10) (T := TX10) (N := 67) hx hb hw inAX10 hown hK hP 0 rfl rfl 4 (by decide) (hw _ q_1265) (fun _ h9 => h9) n1319 dX10_next_155 ?_
                    refine lv_iconst (v := 1) hx hb dX10_next_158 (by decide) ?_
                    refine lv_iadd hx hb dX10_next_159 ?_
                    refine lv_topi (fun v1320 ev1320 => ?_)
                    have bv1320 : v1320.toInt = u2.toInt + 1 := by rw [ev1320]; exact add_k rfl rfl k692 ⟨Int.le_refl _, Int.le_refl _⟩ (by decide)
                    have k1321 : 1 ≤ v1320.toInt ∧ v1320.toInt ≤ 939 := add_r bv1320 k692 ⟨Int.le_refl _, Int.le_refl _⟩ (by decide)
                    refine put_f (D := D) (ci := 10) (v := .int v1320) (ty := .int) (C := RX10) (T := TX10) (N := 67) hx hb hw inAX10 tyX10 tyX10_ok nmX10 hown hK hP hD hS 0 rfl rfl 4 (by decide) (hw _ q_1265) (fun _ h9 => h9) rfl (by decide +kernel) rfl rfl dX10_next_160 (fun H locs F1322 eF1322 hP hD hS => ?_)
                    have hP : va_P D vwCl [(h0, .inr (10, vL 67 F1322)), (h_tape, .inl (cB, 940, .inl f_tape))] H := hP
                    have hD : va_D A [(h0, .inr (10, vL 67 F1322)), (h_tape, .inl (cB, 940, .inl f_tape))] := hD
                    exact ret_v hx hb hr hlocks hS hP hD dX10_next_163 (Nat.le_of_ble_eq_true rfl) (Nat.le_of_ble_eq_true rfl) ⟨F1322, v1320, 3, u2, 0, v704, x_word, (SAME.up eF1322 (SAME.up eF1317 (SAME.up eF1316 (SAME.up eF8 (SAME.up eF7 (SAME.tr SAME.rf i4 (by decide)) (by decide)) (by decide)) (by decide)) (by decide)) (by decide)), (get_eq eF1322), (ir_wk k1321 (by decide) (by decide)), (get_ne eF1322 (by decide) (get_ne eF1317 (by decide) (get_eq eF1316))), (show 0 ≤ (3 : Int32).toInt ∧ (3 : Int32).toInt ≤ 4 by decide), (get_ne eF1322 (by decide) (get_ne eF1317 (by decide) (get_ne eF1316 (by decide) (get_ne eF8 (by decide) (get_eq eF7))))), (ir_wk k692 (by decide) (by decide)), (get_ne eF1322 (by decide) (get_ne eF1317 (by decide) (get_ne eF1316 (by decide) (get_eq eF8)))), (show 0 ≤ (0 : Int32).toInt ∧ (0 : Int32).toInt ≤ 940 by decide), (get_ne eF1322 (by decide) (get_eq eF1317)), (get_ne eF1322 (by decide) (get_ne eF1317 (by decide) (get_ne eF1316 (by decide) (get_ne eF8 (by decide) (get_ne eF7 (by decide) (SAME.at i4 (by decide) e_word)))))), (by omega), (by omega), (by omega), rfl⟩
            · have hP : va_P D vwCl [(h0, .inr (10, vL 67 F8)), (h_tape, .inl (cB, 940, .inl f_tape))] H := hP
              have hD : va_D A [(h0, .inr (10, vL 67 F8)), (h_tape, .inl (cB, 940, .inl f_tape))] := hD
              refine W.widen (k := 0) (n := 0) (Nat.le_of_ble_eq_true rfl) (Nat.le_of_ble_eq_true rfl) ?_
              have k1323 : 48 ≤ v704.toInt ∧ v704.toInt ≤ 96 := ⟨Int.le_trans (Int.le_refl _) t1252, k1247.2⟩
              have k1324 : 48 ≤ v704.toInt ∧ v704.toInt ≤ 57 := ⟨k1323.1, Int.le_trans t1253 (Int.le_refl _)⟩
              refine lv_if_ne (tgt := 164) hx hb dX10_next_106 (by decide) (fun _ => ?_) (fun g => absurd g (by decide))
              refine lv_iload_n hx hb dX10_next_164 rfl (lv_at hl 0 rfl) ?_
              refine call_Si (wr := [(h0, .inr (10, vL 67 F8)), (h_tape, .inl (cB, 940, .inl f_tape))]) (As := [.int v704]) (rest := []) hx hb hml hown hw (m_X10_isSmall l D cI cJ cB cP cM cZ v704 _ ) wS_X10_182_X10_isSmall dX10_next_165 hP hD hS hA [] [0, 1] rfl rfl (by decide) (by decide) (by decide) GG.fb hG.at hl.1 rfl (Nat.le_of_ble_eq_true rfl) ⟨(Nat.le_of_ble_eq_true rfl), (Nat.le_of_ble_eq_true rfl)⟩ ⟨(Nat.le_of_ble_eq_true rfl), (Nat.le_of_ble_eq_true rfl)⟩ (fun r1325 u H locs hp hP hD hS => ?_)
              rcases hp with ⟨t1326, rfl, rfl⟩ | ⟨t1327, t1328, rfl, rfl⟩ | ⟨t1329, t1330, rfl, rfl⟩
              · have hP : va_P D vwCl [(h0, .inr (10, vL 67 F8)), (h_tape, .inl (cB, 940, .inl f_tape))] H := hP
                have hD : va_D A [(h0, .inr (10, vL 67 F8)), (h_tape, .inl (cB, 940, .inl f_tape))] := hD
                refine W.widen (k := 0) (n := 0) (Nat.le_of_ble_eq_true rfl) (Nat.le_of_ble_eq_true rfl) ?_
                refine lv_istore_n (lv' := [(2, .int 0), (1, .int v704), (0, .ref h0)]) hx hb dX10_next_168 rfl hl (by decide) rfl (fun ls hl => ?_)
                refine lv_iconst (v := 1) hx hb dX10_next_169 (by decide) ?_
                refine lv_istore_n (lv' := [(3, .int 1), (2, .int 0), (1, .int v704), (0, .ref h0)]) hx hb dX10_next_170 rfl hl (by decide) rfl (fun ls hl => ?_)
                exact cut708 0 (show 0 ≤ (0 : Int32).toInt ∧ (0 : Int32).toInt ≤ 1 by decide) _ _ _ hP hD hS (lv_sub hl [0, 1, 2, 3] rfl)
              · have hP : va_P D vwCl [(h0, .inr (10, vL 67 F8)), (h_tape, .inl (cB, 940, .inl f_tape))] H := hP
                have hD : va_D A [(h0, .inr (10, vL 67 F8)), (h_tape, .inl (cB, 940, .inl f_tape))] := hD
                refine W.widen (k := 0) (n := 0) (Nat.le_of_ble_eq_true rfl) (Nat.le_of_ble_eq_true rfl) ?_
                exact False.elim (bad_le t1327 (Int.le_refl _) k1324.2 (by decide))
              · have hP : va_P D vwCl [(h0, .inr (10, vL 67 F8)), (h_tape, .inl (cB, 940, .inl f_tape))] H := hP
                have hD : va_D A [(h0, .inr (10, vL 67 F8)), (h_tape, .inl (cB, 940, .inl f_tape))] := hD
                refine W.widen (k := 0) (n := 0) (Nat.le_of_ble_eq_true rfl) (Nat.le_of_ble_eq_true rfl) ?_
                exact False.elim (bad_le t1329 (Int.le_refl _) k1324.2 (by decide))
          · have hP : va_P D vwCl [(h0, .inr (10, vL 67 F8)), (h_tape, .inl (cB, 940, .inl f_tape))] H := hP
            have hD : va_D A [(h0, .inr (10, vL 67 F8)), (h_tape, .inl (cB, 940, .inl f_tape))] := hD
            refine W.widen (k := 0) (n := 0) (Nat.le_of_ble_eq_true rfl) (Nat.le_of_ble_eq_true rfl) ?_
            have k1332 : 97 ≤ v704.toInt ∧ v704.toInt ≤ 255 := ⟨Int.le_trans (Int.le_refl _) t1242, k705.2⟩
            have k1333 : 123 ≤ v704.toInt ∧ v704.toInt ≤ 255 := ⟨lo_lt t1243 (Int.le_refl _) (by decide), k1332.2⟩
            refine lv_if_ne (tgt := 164) hx hb dX10_next_99 (by decide) (fun g => absurd (by decide) g) (fun _ => ?_)
            refine lv_iload_n hx hb dX10_next_102 rfl (lv_at hl 0 rfl) ?_
            refine call_Si (wr := [(h0, .inr (10, vL 67 F8)), (h_tape, .inl (cB, 940, .inl f_tape))]) (As := [.int v704]) (rest := []) hx hb hml hown hw (m_X10_isDigit l D cI cJ cB cP cM cZ v704 _ ) wS_X10_186_X10_isDigit dX10_next_103 hP hD hS hA [] [0, 1] rfl rfl (by decide) (by decide) (by decide) GG.fb hG.at hl.1 rfl (Nat.le_of_ble_eq_true rfl) ⟨(Nat.le_of_ble_eq_true rfl), (Nat.le_of_ble_eq_true rfl)⟩ ⟨(Nat.le_of_ble_eq_true rfl), (Nat.le_of_ble_eq_true rfl)⟩ (fun r1334 u H locs hp hP hD hS => ?_)
            rcases hp with ⟨t1335, rfl, rfl⟩ | ⟨t1336, t1337, rfl, rfl⟩ | ⟨t1338, t1339, rfl, rfl⟩
            · have hP : va_P D vwCl [(h0, .inr (10, vL 67 F8)), (h_tape, .inl (cB, 940, .inl f_tape))] H := hP
              have hD : va_D A [(h0, .inr (10, vL 67 F8)), (h_tape, .inl (cB, 940, .inl f_tape))] := hD
              refine W.widen (k := 0) (n := 0) (Nat.le_of_ble_eq_true rfl) (Nat.le_of_ble_eq_true rfl) ?_
              exact False.elim (bad_lt t1335 k1333.1 (Int.le_refl _) (by decide))
            · have hP : va_P D vwCl [(h0, .inr (10, vL 67 F8)), (h_tape, .inl (cB, 940, .inl f_tape))] H := hP
              have hD : va_D A [(h0, .inr (10, vL 67 F8)), (h_tape, .inl (cB, 940, .inl f_tape))] := hD
              refine W.widen (k := 0) (n := 0) (Nat.le_of_ble_eq_true rfl) (Nat.le_of_ble_eq_true rfl) ?_
              refine lv_if_ne (tgt := 164) hx hb dX10_next_106 (by decide) (fun g => absurd (by decide) g) (fun _ => ?_)
              refine lv_aload_n hx hb dX10_next_109 rfl (lv_at hl 1 rfl) ?_
              refine lv_iload_n hx hb dX10_next_110 rfl (lv_at hl 0 rfl) ?_
              refine lv_bipush (v := 59) hx hb dX10_next_111 (by decide) ?_
              refine lv_icmp_eq (tgt := 140) hx hb dX10_next_113 (by decide) (fun c1341 => False.elim (bad_le (Int.le_of_eq (eq_i (a := v704.toInt) (b := 59) rfl rfl c1341)) k1333.1 (Int.le_refl _) (by decide))) (fun c1341 => ?_)
              have dc1341 : v704.toInt ≠ 59 := ne_i (a := v704.toInt) (b := 59) rfl rfl c1341
              refine lv_iload_n hx hb dX10_next_116 rfl (lv_at hl 0 rfl) ?_
              refine lv_bipush (v := 40) hx hb dX10_next_117 (by decide) ?_
              refine lv_icmp_eq (tgt := 140) hx hb dX10_next_119 (by decide) (fun c1342 => False.elim (bad_le (Int.le_of_eq (eq_i (a := v704.toInt) (b := 40) rfl rfl c1342)) k1333.1 (Int.le_refl _) (by decide))) (fun c1342 => ?_)
              have dc1342 : v704.toInt ≠ 40 := ne_i (a := v704.toInt) (b := 40) rfl rfl c1342
              refine lv_iload_n hx hb dX10_next_122 rfl (lv_at hl 0 rfl) ?_
              refine lv_bipush (v := 41) hx hb dX10_next_123 (by decide) ?_
              refine lv_icmp_eq (tgt := 140) hx hb dX10_next_125 (by decide) (fun c1343 => False.elim (bad_le (Int.le_of_eq (eq_i (a := v704.toInt) (b := 41) rfl rfl c1343)) k1333.1 (Int.le_refl _) (by decide))) (fun c1343 => ?_)
              have dc1343 : v704.toInt ≠ 41 := ne_i (a := v704.toInt) (b := 41) rfl rfl c1343
              refine lv_iload_n hx hb dX10_next_128 rfl (lv_at hl 0 rfl) ?_
              refine lv_bipush (v := 60) hx hb dX10_next_129 (by decide) ?_
              refine lv_icmp_lt (tgt := 144) hx hb dX10_next_131 (by decide) (fun c1344 => False.elim (bad_lt (lt_i (a := v704.toInt) (b := 60) rfl rfl c1344) k1333.1 (Int.le_refl _) (by decide))) (fun c1344 => ?_)
              have dc1344 : 60 ≤ v704.toInt := nlt_i (a := v704.toInt) (b := 60) rfl rfl c1344
              refine lv_iload_n hx hb dX10_next_134 rfl (lv_at hl 0 rfl) ?_
              refine lv_bipush (v := 62) hx hb dX10_next_135 (by decide) ?_
              refine lv_icmp_gt (tgt := 144) hx hb dX10_next_137 (by decide) (fun c1345 => ?_) (fun c1345 => False.elim (bad_le (nlt_i (a := 62) (b := v704.toInt) rfl rfl c1345) k1333.1 (Int.le_refl _) (by decide)))
              have dc1345 : 62 < v704.toInt := lt_i (a := 62) (b := v704.toInt) rfl rfl c1345
              refine lv_iconst (v := 4) hx hb dX10_next_144 (by decide) ?_
              refine put_f (D := D) (ci := 10) (v := .int 4) (ty := .int) (C := RX10) (T := TX10) (N := 67) hx hb hw inAX10 tyX10 tyX10_ok nmX10 hown hK hP hD hS 0 rfl rfl 11 (by decide) (hw _ q_1272) (fun _ h9 => h9) rfl (by decide +kernel) rfl rfl dX10_next_145 (fun H locs F1346 eF1346 hP hD hS => ?_)
              have hP : va_P D vwCl [(h0, .inr (10, vL 67 F1346)), (h_tape, .inl (cB, 940, .inl f_tape))] H := hP
              have hD : va_D A [(h0, .inr (10, vL 67 F1346)), (h_tape, .inl (cB, 940, .inl f_tape))] := hD
              refine lv_aload_n hx hb dX10_next_148 rfl (lv_at hl 1 rfl) ?_
              refine lv_iload_n hx hb dX10_next_149 rfl (lv_at hl 0 rfl) ?_
              refine put_f (D := D) (ci := 10) (v := .int v704) (ty := .int) (C := RX10) (T := TX10) (N := 67) hx hb hw inAX10 tyX10 tyX10_ok nmX10 hown hK hP hD hS 0 rfl rfl 14 (by decide) (hw _ q_1275) (fun _ h9 => h9) rfl (by decide +kernel) rfl rfl dX10_next_150 (fun H locs F1347 eF1347 hP hD hS => ?_)
              have hP : va_P D vwCl [(h0, .inr (10, vL 67 F1347)), (h_tape, .inl (cB, 940, .inl f_tape))] H := hP
              have hD : va_D A [(h0, .inr (10, vL 67 F1347)), (h_tape, .inl (cB, 940, .inl f_tape))] := hD
              refine lv_aload_n hx hb dX10_next_153 rfl (lv_at hl 1 rfl) ?_
              refine lv_dup hx hb dX10_next_154 rfl ?_
              have n1348 : F1346 4 = .int u2 := (get_ne eF1346 (by decide) n690)
              have n1349 : F1347 4 = .int u2 := (get_ne eF1347 (by decide) n1348)
              refine get_f (D := D) (ci := 10) (v := .int u2) (C := RX10) (T := TX10) (N := 67) hx hb hw inAX10 hown hK hP 0 rfl rfl 4 (by decide) (hw _ q_1265) (fun _ h9 => h9) n1349 dX10_next_155 ?_
              refine lv_iconst (v := 1) hx hb dX10_next_158 (by decide) ?_
              refine lv_iadd hx hb dX10_next_159 ?_
              refine lv_topi (fun v1350 ev1350 => ?_)
              have bv1350 : v1350.toInt = u2.toInt + 1 := by rw [ev1350]; exact add_k rfl rfl k692 ⟨Int.le_refl _, Int.le_refl _⟩ (by decide)
              have k1351 : 1 ≤ v1350.toInt ∧ v1350.toInt ≤ 939 := add_r bv1350 k692 ⟨Int.le_refl _, Int.le_refl _⟩ (by decide)
              refine put_f (D := D) (ci := 10) (v := .int v1350) (ty := .int) (C := RX10) (T := TX10) (N := 67) hx hb hw inAX10 tyX10 tyX10_ok nmX10 hown hK hP hD hS 0 rfl rfl 4 (by decide) (hw _ q_1265) (fun _ h9 => h9) rfl (by decide +kernel) rfl rfl dX10_next_160 (fun H locs F1352 eF1352 hP hD hS => ?_)
              have hP : va_P D vwCl [(h0, .inr (10, vL 67 F1352)), (h_tape, .inl (cB, 940, .inl f_tape))] H := hP
              have hD : va_D A [(h0, .inr (10, vL 67 F1352)), (h_tape, .inl (cB, 940, .inl f_tape))] := hD
              exact ret_v hx hb hr hlocks hS hP hD dX10_next_163 (Nat.le_of_ble_eq_true rfl) (Nat.le_of_ble_eq_true rfl) ⟨F1352, v1350, 4, u2, 0, v704, x_word, (SAME.up eF1352 (SAME.up eF1347 (SAME.up eF1346 (SAME.up eF8 (SAME.up eF7 (SAME.tr SAME.rf i4 (by decide)) (by decide)) (by decide)) (by decide)) (by decide)) (by decide)), (get_eq eF1352), (ir_wk k1351 (by decide) (by decide)), (get_ne eF1352 (by decide) (get_ne eF1347 (by decide) (get_eq eF1346))), (show 0 ≤ (4 : Int32).toInt ∧ (4 : Int32).toInt ≤ 4 by decide), (get_ne eF1352 (by decide) (get_ne eF1347 (by decide) (get_ne eF1346 (by decide) (get_ne eF8 (by decide) (get_eq eF7))))), (ir_wk k692 (by decide) (by decide)), (get_ne eF1352 (by decide) (get_ne eF1347 (by decide) (get_ne eF1346 (by decide) (get_eq eF8)))), (show 0 ≤ (0 : Int32).toInt ∧ (0 : Int32).toInt ≤ 940 by decide), (get_ne eF1352 (by decide) (get_eq eF1347)), (get_ne eF1352 (by decide) (get_ne eF1347 (by decide) (get_ne eF1346 (by decide) (get_ne eF8 (by decide) (get_ne eF7 (by decide) (SAME.at i4 (by decide) e_word)))))), (by omega), (by omega), (by omega), rfl⟩
            · have hP : va_P D vwCl [(h0, .inr (10, vL 67 F8)), (h_tape, .inl (cB, 940, .inl f_tape))] H := hP
              have hD : va_D A [(h0, .inr (10, vL 67 F8)), (h_tape, .inl (cB, 940, .inl f_tape))] := hD
              refine W.widen (k := 0) (n := 0) (Nat.le_of_ble_eq_true rfl) (Nat.le_of_ble_eq_true rfl) ?_
              exact False.elim (bad_le t1339 k1333.1 (Int.le_refl _) (by decide))
          · have hP : va_P D vwCl [(h0, .inr (10, vL 67 F8)), (h_tape, .inl (cB, 940, .inl f_tape))] H := hP
            have hD : va_D A [(h0, .inr (10, vL 67 F8)), (h_tape, .inl (cB, 940, .inl f_tape))] := hD
            refine W.widen (k := 0) (n := 0) (Nat.le_of_ble_eq_true rfl) (Nat.le_of_ble_eq_true rfl) ?_
            have k1353 : 97 ≤ v704.toInt ∧ v704.toInt ≤ 255 := ⟨Int.le_trans (Int.le_refl _) t1244, k705.2⟩
            have k1354 : 97 ≤ v704.toInt ∧ v704.toInt ≤ 122 := ⟨k1353.1, Int.le_trans t1245 (Int.le_refl _)⟩
            refine lv_if_ne (tgt := 164) hx hb dX10_next_99 (by decide) (fun _ => ?_) (fun g => absurd g (by decide))
            refine lv_iload_n hx hb dX10_next_164 rfl (lv_at hl 0 rfl) ?_
            refine call_Si (wr := [(h0, .inr (10, vL 67 F8)), (h_tape, .inl (cB, 940, .inl f_tape))]) (As := [.int v704]) (rest := []) hx hb hml hown hw (m_X10_isSmall l D cI cJ cB cP cM cZ v704 _ ) wS_X10_182_X10_isSmall dX10_next_165 hP hD hS hA [] [0, 1] rfl rfl (by decide) (by decide) (by decide) GG.fb hG.at hl.1 rfl (Nat.le_of_ble_eq_true rfl) ⟨(Nat.le_of_ble_eq_true rfl), (Nat.le_of_ble_eq_true rfl)⟩ ⟨(Nat.le_of_ble_eq_true rfl), (Nat.le_of_ble_eq_true rfl)⟩ (fun r1355 u H locs hp hP hD hS => ?_)
            rcases hp with ⟨t1356, rfl, rfl⟩ | ⟨t1357, t1358, rfl, rfl⟩ | ⟨t1359, t1360, rfl, rfl⟩
            · have hP : va_P D vwCl [(h0, .inr (10, vL 67 F8)), (h_tape, .inl (cB, 940, .inl f_tape))] H := hP
              have hD : va_D A [(h0, .inr (10, vL 67 F8)), (h_tape, .inl (cB, 940, .inl f_tape))] := hD
              refine W.widen (k := 0) (n := 0) (Nat.le_of_ble_eq_true rfl) (Nat.le_of_ble_eq_true rfl) ?_
              exact False.elim (bad_lt t1356 k1354.1 (Int.le_refl _) (by decide))
            · have hP : va_P D vwCl [(h0, .inr (10, vL 67 F8)), (h_tape, .inl (cB, 940, .inl f_tape))] H := hP
              have hD : va_D A [(h0, .inr (10, vL 67 F8)), (h_tape, .inl (cB, 940, .inl f_tape))] := hD
              refine W.widen (k := 0) (n := 0) (Nat.le_of_ble_eq_true rfl) (Nat.le_of_ble_eq_true rfl) ?_
              exact False.elim (bad_lt t1358 (Int.le_refl _) k1354.2 (by decide))
            · have hP : va_P D vwCl [(h0, .inr (10, vL 67 F8)), (h_tape, .inl (cB, 940, .inl f_tape))] H := hP
              have hD : va_D A [(h0, .inr (10, vL 67 F8)), (h_tape, .inl (cB, 940, .inl f_tape))] := hD
              refine W.widen (k := 0) (n := 0) (Nat.le_of_ble_eq_true rfl) (Nat.le_of_ble_eq_true rfl) ?_
              refine lv_istore_n (lv' := [(2, .int 1), (1, .int v704), (0, .ref h0)]) hx hb dX10_next_168 rfl hl (by decide) rfl (fun ls hl => ?_)
              refine lv_iconst (v := 1) hx hb dX10_next_169 (by decide) ?_
              refine lv_istore_n (lv' := [(3, .int 1), (2, .int 1), (1, .int v704), (0, .ref h0)]) hx hb dX10_next_170 rfl hl (by decide) rfl (fun ls hl => ?_)
              exact cut708 1 (show 0 ≤ (1 : Int32).toInt ∧ (1 : Int32).toInt ≤ 1 by decide) _ _ _ hP hD hS (lv_sub hl [0, 1, 2, 3] rfl)
      · have dc691 : x_limit.toInt ≤ u2.toInt := nlt_i (a := u2.toInt) (b := x_limit.toInt) rfl rfl c691
        have k1362 : 200 ≤ u2.toInt ∧ u2.toInt ≤ 940 := ⟨Int.le_trans k687.1 dc691, i6.2⟩
        refine lv_aload_n hx hb dX10_next_66 rfl (lv_at hl 0 rfl) ?_
        refine lv_aload_n hx hb dX10_next_67 rfl (lv_at hl 0 rfl) ?_
        refine get_f (D := D) (ci := 10) (v := .int x_limit) (C := RX10) (T := TX10) (N := 67) hx hb hw inAX10 hown hK hP 0 rfl rfl 5 (by decide) (hw _ q_1266) (fun _ h9 => h9) n14 dX10_next_68 ?_
        refine put_f (D := D) (ci := 10) (v := .int x_limit) (ty := .int) (C := RX10) (T := TX10) (N := 67) hx hb hw inAX10 tyX10 tyX10_ok nmX10 hown hK hP hD hS 0 rfl rfl 12 (by decide) (hw _ q_1273) (fun _ h9 => h9) rfl (by decide +kernel) rfl rfl dX10_next_71 (fun H locs F1363 eF1363 hP hD hS => ?_)
        have hP : va_P D vwCl [(h0, .inr (10, vL 67 F1363)), (h_tape, .inl (cB, 940, .inl f_tape))] H := hP
        have hD : va_D A [(h0, .inr (10, vL 67 F1363)), (h_tape, .inl (cB, 940, .inl f_tape))] := hD
        refine lv_aload_n hx hb dX10_next_74 rfl (lv_at hl 0 rfl) ?_
        refine lv_iconst (v := 4) hx hb dX10_next_75 (by decide) ?_
        refine put_f (D := D) (ci := 10) (v := .int 4) (ty := .int) (C := RX10) (T := TX10) (N := 67) hx hb hw inAX10 tyX10 tyX10_ok nmX10 hown hK hP hD hS 0 rfl rfl 11 (by decide) (hw _ q_1272) (fun _ h9 => h9) rfl (by decide +kernel) rfl rfl dX10_next_76 (fun H locs F1364 eF1364 hP hD hS => ?_)
        have hP : va_P D vwCl [(h0, .inr (10, vL 67 F1364)), (h_tape, .inl (cB, 940, .inl f_tape))] H := hP
        have hD : va_D A [(h0, .inr (10, vL 67 F1364)), (h_tape, .inl (cB, 940, .inl f_tape))] := hD
        exact ret_v hx hb hr hlocks hS hP hD dX10_next_79 (Nat.le_of_ble_eq_true rfl) (Nat.le_of_ble_eq_true rfl) ⟨F1364, u2, 4, x_limit, 0, x_number, x_word, (SAME.up eF1364 (SAME.up eF1363 (SAME.up eF8 (SAME.up eF7 (SAME.tr SAME.rf i4 (by decide)) (by decide)) (by decide)) (by decide)) (by decide)), (get_ne eF1364 (by decide) (get_ne eF1363 (by decide) n690)), (ir_wk k1362 (by decide) (by decide)), (get_eq eF1364), (show 0 ≤ (4 : Int32).toInt ∧ (4 : Int32).toInt ≤ 4 by decide), (get_ne eF1364 (by decide) (get_eq eF1363)), (ir_wk k687 (by decide) (by decide)), (get_ne eF1364 (by decide) (get_ne eF1363 (by decide) (get_eq eF8))), (show 0 ≤ (0 : Int32).toInt ∧ (0 : Int32).toInt ≤ 940 by decide), (get_ne eF1364 (by decide) (get_ne eF1363 (by decide) (get_ne eF8 (by decide) (get_ne eF7 (by decide) (SAME.at i4 (by decide) e_number))))), (get_ne eF1364 (by decide) (get_ne eF1363 (by decide) (get_ne eF8 (by decide) (get_ne eF7 (by decide) (SAME.at i4 (by decide) e_word))))), (by omega), (by omega), (by omega), rfl⟩
  refine mloop (α := (Nat → Value) × (Int32)) (nL := 4) (D := D) (A := A) (H0 := s.heap) (fun a => (x_size.toInt - a.2.toInt).toNat) (fun a => SAME [4] Fh a.1 ∧ a.1 4 = .int a.2 ∧ IR 0 940 a.2) (fun a => [(h0, .inr (10, vL 67 a.1)), (h_tape, .inl (cB, 940, .inl f_tape))]) (fun a => [(0, .ref h0)]) (fun H locs ls => W p l e ({ frames := 1, cells := 0, slots := 0, locals := 20 } : Room) s m [.ref h0].toArray below meth c H locs 0 0 (MQ below (va_Qv (fun (u : va_W) => ∃ (Gh : Nat → Value) (y_p : Int32) (y_token : Int32) (y_at : Int32) (y_span : Int32) (y_number : Int32) (y_word : Int64), SAME [4, 11, 12, 13, 14, 18] Fh Gh ∧ Gh 4 = .int y_p ∧ IR 0 940 y_p ∧ Gh 11 = .int y_token ∧ IR 0 4 y_token ∧ Gh 12 = .int y_at ∧ IR 0 940 y_at ∧ Gh 13 = .int y_span ∧ IR 0 940 y_span ∧ Gh 14 = .int y_number ∧ Gh 18 = .long y_word ∧ (x_p.toInt ≤ y_p.toInt) ∧ ((1 ≤ y_token.toInt → y_token.toInt ≤ 3 → x_p.toInt < y_p.toInt)) ∧ ((y_token.toInt = 2 → 0 ≤ y_number.toInt ∧ y_number.toInt ≤ 999)) ∧ u = [(h0, .inr (10, vL 67 Gh)), (h_tape, .inl (cB, 940, .inl f_tape))]) (PO D A) A) [.ref h0].toArray s 0 0 A) (F0 m 0 ls [])) ?_ (Fh, x_p) ⟨SAME.rf, e_p, i_x_p⟩ _ _ _ hP hD hS hl
  rintro ⟨G1, u2⟩ ⟨i1365, i1366, i1367⟩ ih H locs ls hP hD hS hl
  have i1367 : 0 ≤ u2.toInt ∧ u2.toInt ≤ 940 := i1367
  have hP : va_P D vwCl [(h0, .inr (10, vL 67 G1)), (h_tape, .inl (cB, 940, .inl f_tape))] H := hP
  have hD : va_D A [(h0, .inr (10, vL 67 G1)), (h_tape, .inl (cB, 940, .inl f_tape))] := hD
  have hl : lv_has ls 4 [(0, .ref h0)] := hl
  refine lv_aload_n hx hb dX10_next_0 rfl (lv_at hl 0 rfl) ?_
  have n1368 : G1 1 = .ref h_tape := (SAME.at i1365 (by decide) e_tape)
  have n1369 : G1 3 = .int x_size := (SAME.at i1365 (by decide) e_size)
  refine call_Vi (wr := []) (As := []) (rest := []) hx hb hml hown hw (m_X10_peek l D cI cJ cB cP cM cZ h0 h_tape G1 x_size u2 f_tape _ n1368 n1369 i_x_size i1366 i1367) wV_X10_169_X10_peek dX10_next_1 hK hP hD hS hA [0, 1] [] rfl rfl (by decide) (by decide) (by decide) 0 10 rfl rfl GG.fb hG.at hl.1 rfl (Nat.le_of_ble_eq_true rfl) ⟨(Nat.le_of_ble_eq_true rfl), (Nat.le_of_ble_eq_true rfl)⟩ ⟨(Nat.le_of_ble_eq_true rfl), (Nat.le_of_ble_eq_true rfl)⟩ (fun r1370 u H locs hp hP hD hS => ?_)
  rcases hp with ⟨t1371, rfl, rfl⟩ | ⟨t1372, t1373, rfl, rfl⟩
  · have hP : va_P D vwCl [(h0, .inr (10, vL 67 G1)), (h_tape, .inl (cB, 940, .inl f_tape))] H := hP
    have hD : va_D A [(h0, .inr (10, vL 67 G1)), (h_tape, .inl (cB, 940, .inl f_tape))] := hD
    refine W.widen (k := 0) (n := 0) (Nat.le_of_ble_eq_true rfl) (Nat.le_of_ble_eq_true rfl) ?_
    refine lv_bipush (v := 32) hx hb dX10_next_4 (by decide) ?_
    refine lv_icmp_eq (tgt := 18) hx hb dX10_next_6 (by decide) (fun g => absurd g (by decide)) (fun _ => ?_)
    refine lv_aload_n hx hb dX10_next_9 rfl (lv_at hl 0 rfl) ?_
    refine call_Vi (wr := []) (As := []) (rest := []) hx hb hml hown hw (m_X10_peek l D cI cJ cB cP cM cZ h0 h_tape G1 x_size u2 f_tape _ n1368 n1369 i_x_size i1366 i1367) wV_X10_169_X10_peek dX10_next_10 hK hP hD hS hA [0, 1] [] rfl rfl (by decide) (by decide) (by decide) 0 10 rfl rfl GG.fb hG.at hl.1 rfl (Nat.le_of_ble_eq_true rfl) ⟨(Nat.le_of_ble_eq_true rfl), (Nat.le_of_ble_eq_true rfl)⟩ ⟨(Nat.le_of_ble_eq_true rfl), (Nat.le_of_ble_eq_true rfl)⟩ (fun r1375 u H locs hp hP hD hS => ?_)
    rcases hp with ⟨t1376, rfl, rfl⟩ | ⟨t1377, t1378, rfl, rfl⟩
    · have hP : va_P D vwCl [(h0, .inr (10, vL 67 G1)), (h_tape, .inl (cB, 940, .inl f_tape))] H := hP
      have hD : va_D A [(h0, .inr (10, vL 67 G1)), (h_tape, .inl (cB, 940, .inl f_tape))] := hD
      refine W.widen (k := 0) (n := 0) (Nat.le_of_ble_eq_true rfl) (Nat.le_of_ble_eq_true rfl) ?_
      refine lv_bipush (v := 10) hx hb dX10_next_13 (by decide) ?_
      refine lv_icmp_ne (tgt := 31) hx hb dX10_next_15 (by decide) (fun _ => ?_) (fun g => absurd g (by decide))
      exact cut3 G1 u2 (SAME.tr SAME.rf i1365 (by decide)) i1366 i1367 _ _ _ hP hD hS (lv_sub hl [0] rfl)
    · have hP : va_P D vwCl [(h0, .inr (10, vL 67 G1)), (h_tape, .inl (cB, 940, .inl f_tape))] H := hP
      have hD : va_D A [(h0, .inr (10, vL 67 G1)), (h_tape, .inl (cB, 940, .inl f_tape))] := hD
      refine W.widen (k := 0) (n := 0) (Nat.le_of_ble_eq_true rfl) (Nat.le_of_ble_eq_true rfl) ?_
      refine lv_topi (fun v1380 ev1380 => ?_)
      have k1381 : 0 ≤ v1380.toInt ∧ v1380.toInt ≤ 255 := by rw [ev1380]; exact t1377
      have k1382 : 0 ≤ u2.toInt ∧ u2.toInt ≤ 939 := ⟨i1367.1, up_lt t1378 i_x_size.2 (by decide)⟩
      have k1383 : 1 ≤ x_size.toInt ∧ x_size.toInt ≤ 940 := ⟨lo_lt t1378 i1367.1 (by decide), i_x_size.2⟩
      refine lv_bipush (v := 10) hx hb dX10_next_13 (by decide) ?_
      refine lv_icmp_ne (tgt := 31) hx hb dX10_next_15 (by decide) (fun c1384 => ?_) (fun c1384 => ?_)
      · have dc1384 : v1380.toInt ≠ 10 := ne_i (a := v1380.toInt) (b := 10) rfl rfl c1384
        exact cut3 G1 u2 (SAME.tr SAME.rf i1365 (by decide)) i1366 (ir_wk k1382 (by decide) (by decide)) _ _ _ hP hD hS (lv_sub hl [0] rfl)
      · have dc1384 : v1380.toInt = 10 := eq_i (a := v1380.toInt) (b := 10) rfl rfl c1384
        have k1385 : 10 ≤ v1380.toInt ∧ v1380.toInt ≤ 10 := ⟨Int.le_trans (Int.le_refl _) (Int.le_of_eq dc1384.symm), Int.le_trans (Int.le_of_eq dc1384) (Int.le_refl _)⟩
        refine lv_aload_n hx hb dX10_next_18 rfl (lv_at hl 0 rfl) ?_
        refine lv_dup hx hb dX10_next_19 rfl ?_
        refine get_f (D := D) (ci := 10) (v := .int u2) (C := RX10) (T := TX10) (N := 67) hx hb hw inAX10 hown hK hP 0 rfl rfl 4 (by decide) (hw _ q_1265) (fun _ h9 => h9) i1366 dX10_next_20 ?_
        refine lv_iconst (v := 1) hx hb dX10_next_23 (by decide) ?_
        refine lv_iadd hx hb dX10_next_24 ?_
        refine lv_topi (fun v1386 ev1386 => ?_)
        have bv1386 : v1386.toInt = u2.toInt + 1 := by rw [ev1386]; exact add_k rfl rfl k1382 ⟨Int.le_refl _, Int.le_refl _⟩ (by decide)
        have k1387 : 1 ≤ v1386.toInt ∧ v1386.toInt ≤ 940 := add_r bv1386 k1382 ⟨Int.le_refl _, Int.le_refl _⟩ (by decide)
        refine put_f (D := D) (ci := 10) (v := .int v1386) (ty := .int) (C := RX10) (T := TX10) (N := 67) hx hb hw inAX10 tyX10 tyX10_ok nmX10 hown hK hP hD hS 0 rfl rfl 4 (by decide) (hw _ q_1265) (fun _ h9 => h9) rfl (by decide +kernel) rfl rfl dX10_next_25 (fun H locs F1388 eF1388 hP hD hS => ?_)
        have hP : va_P D vwCl [(h0, .inr (10, vL 67 F1388)), (h_tape, .inl (cB, 940, .inl f_tape))] H := hP
        have hD : va_D A [(h0, .inr (10, vL 67 F1388)), (h_tape, .inl (cB, 940, .inl f_tape))] := hD
        refine lv_goto (tgt := 0) hx hb dX10_next_28 (by decide) ?_
        exact ih (F1388, v1386) ⟨(SAME.up eF1388 (SAME.tr SAME.rf i1365 (by decide)) (by decide)), (get_eq eF1388), (ir_wk k1387 (by decide) (by decide))⟩ (by show (x_size.toInt - v1386.toInt).toNat < (x_size.toInt - u2.toInt).toNat; omega) _ _ _ hP hD hS (lv_sub hl [0] rfl)
  · have hP : va_P D vwCl [(h0, .inr (10, vL 67 G1)), (h_tape, .inl (cB, 940, .inl f_tape))] H := hP
    have hD : va_D A [(h0, .inr (10, vL 67 G1)), (h_tape, .inl (cB, 940, .inl f_tape))] := hD
    refine W.widen (k := 0) (n := 0) (Nat.le_of_ble_eq_true rfl) (Nat.le_of_ble_eq_true rfl) ?_
    refine lv_topi (fun v1389 ev1389 => ?_)
    have k1390 : 0 ≤ v1389.toInt ∧ v1389.toInt ≤ 255 := by rw [ev1389]; exact t1372
    have k1391 : 0 ≤ u2.toInt ∧ u2.toInt ≤ 939 := ⟨i1367.1, up_lt t1373 i_x_size.2 (by decide)⟩
    have k1392 : 1 ≤ x_size.toInt ∧ x_size.toInt ≤ 940 := ⟨lo_lt t1373 i1367.1 (by decide), i_x_size.2⟩
    refine lv_bipush (v := 32) hx hb dX10_next_4 (by decide) ?_
    refine lv_icmp_eq (tgt := 18) hx hb dX10_next_6 (by decide) (fun c1393 => ?_) (fun c1393 => ?_)
    · have dc1393 : v1389.toInt = 32 := eq_i (a := v1389.toInt) (b := 32) rfl rfl c1393
      have k1394 : 32 ≤ v1389.toInt ∧ v1389.toInt ≤ 32 := ⟨Int.le_trans (Int.le_refl _) (Int.le_of_eq dc1393.symm), Int.le_trans (Int.le_of_eq dc1393) (Int.le_refl _)⟩
      refine lv_aload_n hx hb dX10_next_18 rfl (lv_at hl 0 rfl) ?_
      refine lv_dup hx hb dX10_next_19 rfl ?_
      refine get_f (D := D) (ci := 10) (v := .int u2) (C := RX10) (T := TX10) (N := 67) hx hb hw inAX10 hown hK hP 0 rfl rfl 4 (by decide) (hw _ q_1265) (fun _ h9 => h9) i1366 dX10_next_20 ?_
      refine lv_iconst (v := 1) hx hb dX10_next_23 (by decide) ?_
      refine lv_iadd hx hb dX10_next_24 ?_
      refine lv_topi (fun v1395 ev1395 => ?_)
      have bv1395 : v1395.toInt = u2.toInt + 1 := by rw [ev1395]; exact add_k rfl rfl k1391 ⟨Int.le_refl _, Int.le_refl _⟩ (by decide)
      have k1396 : 1 ≤ v1395.toInt ∧ v1395.toInt ≤ 940 := add_r bv1395 k1391 ⟨Int.le_refl _, Int.le_refl _⟩ (by decide)
      refine put_f (D := D) (ci := 10) (v := .int v1395) (ty := .int) (C := RX10) (T := TX10) (N := 67) hx hb hw inAX10 tyX10 tyX10_ok nmX10 hown hK hP hD hS 0 rfl rfl 4 (by decide) (hw _ q_1265) (fun _ h9 => h9) rfl (by decide +kernel) rfl rfl dX10_next_25 (fun H locs F1397 eF1397 hP hD hS => ?_)
      have hP : va_P D vwCl [(h0, .inr (10, vL 67 F1397)), (h_tape, .inl (cB, 940, .inl f_tape))] H := hP
      have hD : va_D A [(h0, .inr (10, vL 67 F1397)), (h_tape, .inl (cB, 940, .inl f_tape))] := hD
      refine lv_goto (tgt := 0) hx hb dX10_next_28 (by decide) ?_
      exact ih (F1397, v1395) ⟨(SAME.up eF1397 (SAME.tr SAME.rf i1365 (by decide)) (by decide)), (get_eq eF1397), (ir_wk k1396 (by decide) (by decide))⟩ (by show (x_size.toInt - v1395.toInt).toNat < (x_size.toInt - u2.toInt).toNat; omega) _ _ _ hP hD hS (lv_sub hl [0] rfl)
    · have dc1393 : v1389.toInt ≠ 32 := ne_i (a := v1389.toInt) (b := 32) rfl rfl c1393
      refine lv_aload_n hx hb dX10_next_9 rfl (lv_at hl 0 rfl) ?_
      refine call_Vi (wr := []) (As := []) (rest := []) hx hb hml hown hw (m_X10_peek l D cI cJ cB cP cM cZ h0 h_tape G1 x_size u2 f_tape _ n1368 n1369 (ir_wk k1392 (by decide) (by decide)) i1366 (ir_wk k1391 (by decide) (by decide))) wV_X10_169_X10_peek dX10_next_10 hK hP hD hS hA [0, 1] [] rfl rfl (by decide) (by decide) (by decide) 0 10 rfl rfl GG.fb hG.at hl.1 rfl (Nat.le_of_ble_eq_true rfl) ⟨(Nat.le_of_ble_eq_true rfl), (Nat.le_of_ble_eq_true rfl)⟩ ⟨(Nat.le_of_ble_eq_true rfl), (Nat.le_of_ble_eq_true rfl)⟩ (fun r1398 u H locs hp hP hD hS => ?_)
      rcases hp with ⟨t1399, rfl, rfl⟩ | ⟨t1400, t1401, rfl, rfl⟩
      · have hP : va_P D vwCl [(h0, .inr (10, vL 67 G1)), (h_tape, .inl (cB, 940, .inl f_tape))] H := hP
        have hD : va_D A [(h0, .inr (10, vL 67 G1)), (h_tape, .inl (cB, 940, .inl f_tape))] := hD
        refine W.widen (k := 0) (n := 0) (Nat.le_of_ble_eq_true rfl) (Nat.le_of_ble_eq_true rfl) ?_
        have k1403 : 1 ≤ x_size.toInt ∧ x_size.toInt ≤ 939 := ⟨k1392.1, Int.le_trans t1399 k1391.2⟩
        have k1404 : 1 ≤ u2.toInt ∧ u2.toInt ≤ 939 := ⟨Int.le_trans k1392.1 t1399, k1391.2⟩
        refine lv_bipush (v := 10) hx hb dX10_next_13 (by decide) ?_
        refine lv_icmp_ne (tgt := 31) hx hb dX10_next_15 (by decide) (fun _ => ?_) (fun g => absurd g (by decide))
        exact cut3 G1 u2 (SAME.tr SAME.rf i1365 (by decide)) i1366 (ir_wk k1404 (by decide) (by decide)) _ _ _ hP hD hS (lv_sub hl [0] rfl)
      · have hP : va_P D vwCl [(h0, .inr (10, vL 67 G1)), (h_tape, .inl (cB, 940, .inl f_tape))] H := hP
        have hD : va_D A [(h0, .inr (10, vL 67 G1)), (h_tape, .inl (cB, 940, .inl f_tape))] := hD
        refine W.widen (k := 0) (n := 0) (Nat.le_of_ble_eq_true rfl) (Nat.le_of_ble_eq_true rfl) ?_
        refine lv_ci (y := v1389) ev1389.symm ?_
        refine lv_bipush (v := 10) hx hb dX10_next_13 (by decide) ?_
        refine lv_icmp_ne (tgt := 31) hx hb dX10_next_15 (by decide) (fun c1405 => ?_) (fun c1405 => ?_)
        · have dc1405 : v1389.toInt ≠ 10 := ne_i (a := v1389.toInt) (b := 10) rfl rfl c1405
          exact cut3 G1 u2 (SAME.tr SAME.rf i1365 (by decide)) i1366 (ir_wk k1391 (by decide) (by decide)) _ _ _ hP hD hS (lv_sub hl [0] rfl)
        · have dc1405 : v1389.toInt = 10 := eq_i (a := v1389.toInt) (b := 10) rfl rfl c1405
          have k1406 : 10 ≤ v1389.toInt ∧ v1389.toInt ≤ 10 := ⟨Int.le_trans (Int.le_refl _) (Int.le_of_eq dc1405.symm), Int.le_trans (Int.le_of_eq dc1405) (Int.le_refl _)⟩
          refine lv_aload_n hx hb dX10_next_18 rfl (lv_at hl 0 rfl) ?_
          refine lv_dup hx hb dX10_next_19 rfl ?_
          refine get_f (D := D) (ci := 10) (v := .int u2) (C := RX10) (T := TX10) (N := 67) hx hb hw inAX10 hown hK hP 0 rfl rfl 4 (by decide) (hw _ q_1265) (fun _ h9 => h9) i1366 dX10_next_20 ?_
          refine lv_iconst (v := 1) hx hb dX10_next_23 (by decide) ?_
          refine lv_iadd hx hb dX10_next_24 ?_
          refine lv_topi (fun v1407 ev1407 => ?_)
          have bv1407 : v1407.toInt = u2.toInt + 1 := by rw [ev1407]; exact add_k rfl rfl k1391 ⟨Int.le_refl _, Int.le_refl _⟩ (by decide)
          have k1408 : 1 ≤ v1407.toInt ∧ v1407.toInt ≤ 940 := add_r bv1407 k1391 ⟨Int.le_refl _, Int.le_refl _⟩ (by decide)
          refine put_f (D := D) (ci := 10) (v := .int v1407) (ty := .int) (C := RX10) (T := TX10) (N := 67) hx hb hw inAX10 tyX10 tyX10_ok nmX10 hown hK hP hD hS 0 rfl rfl 4 (by decide) (hw _ q_1265) (fun _ h9 => h9) rfl (by decide +kernel) rfl rfl dX10_next_25 (fun H locs F1409 eF1409 hP hD hS => ?_)
          have hP : va_P D vwCl [(h0, .inr (10, vL 67 F1409)), (h_tape, .inl (cB, 940, .inl f_tape))] H := hP
          have hD : va_D A [(h0, .inr (10, vL 67 F1409)), (h_tape, .inl (cB, 940, .inl f_tape))] := hD
          refine lv_goto (tgt := 0) hx hb dX10_next_28 (by decide) ?_
          exact ih (F1409, v1407) ⟨(SAME.up eF1409 (SAME.tr SAME.rf i1365 (by decide)) (by decide)), (get_eq eF1409), (ir_wk k1408 (by decide) (by decide))⟩ (by show (x_size.toInt - v1407.toInt).toNat < (x_size.toInt - u2.toInt).toNat; omega) _ _ _ hP hD hS (lv_sub hl [0] rfl)
