set_option maxHeartbeats 4000000 in
set_option maxRecDepth 100000 in
theorem m_X10_throwsIf (l : Launch) (D : va_G) (cI cJ cB cP cM cZ : ClassId) (h0 : Nat) (Fh : Nat → Value) (p0 : Int32) (sz : Nat) (i_p0 : IR 0 1 p0) : CI l yX10_throwsIf cX10_throwsIf 2 (some .boolean) { frames := 0, cells := 0, slots := 0, locals := 0 } (GG D cI cJ cB cP cM cZ) D [(h0, .inr (10, vL 67 Fh))] sz [.ref h0, .int p0] (fun (r : Int32) (u : va_W) => (∃ (Gh : Nat → Value), SAME [0] Fh Gh ∧ Gh 0 = .int 0 ∧ IR 0 0 p0 ∧ p0.toInt = 0 ∧ r = p0 ∧ u = [(h0, .inr (10, vL 67 Gh))]) ∨ (∃ (Gh : Nat → Value), SAME [0] Fh Gh ∧ Gh 0 = .int 1 ∧ IR 1 1 p0 ∧ p0.toInt ≠ 0 ∧ r = p0 ∧ u = [(h0, .inr (10, vL 67 Gh))])) := by
  refine CI_mk (by decide) (Nat.le_of_ble_eq_true rfl) ?_
  intro p e s m below meth c A ls E hAe hG hsz hP hD hA hS hl
  obtain ⟨hx, hb, hr, hw, hown, hlocks, hml, hnm⟩ := E
  have hK := hG.1
  have i_p0 : 0 ≤ p0.toInt ∧ p0.toInt ≤ 1 := i_p0
  have hl : lv_has ls 2 [(0, .ref h0), (1, .int p0)] := hl
  refine lv_aload_n hx hb dX10_throwsIf_0 rfl (lv_at hl 0 rfl) ?_
  refine lv_iload_n hx hb dX10_throwsIf_1 rfl (lv_at hl 1 rfl) ?_
  refine lv_if_eq (tgt := 9) hx hb dX10_throwsIf_2 (by decide) (fun c1 => ?_) (fun c1 => ?_)
  · have dc1 : p0.toInt = 0 := eq_i (a := p0.toInt) (b := 0) rfl rfl c1
    have k2 : 0 ≤ p0.toInt ∧ p0.toInt ≤ 0 := ⟨i_p0.1, Int.le_trans (Int.le_of_eq dc1) (Int.le_refl _)⟩
    refine lv_iconst (v := 0) hx hb dX10_throwsIf_9 (by decide) ?_
    refine put_f (D := D) (ci := 10) (v := .int 0) (ty := .int) (C := RX10) (T := TX10) (N := 67) hx hb hw inAX10 tyX10 tyX10_ok nmX10 hown hK hP hD hS 0 rfl rfl 0 (by decide) (hw _ q_1261) (fun _ h9 => h9) rfl (by decide +kernel) rfl rfl dX10_throwsIf_10 (fun H locs F3 eF3 hP hD hS => ?_)
    have hP : va_P D vwCl [(h0, .inr (10, vL 67 F3))] H := hP
    have hD : va_D A [(h0, .inr (10, vL 67 F3))] := hD
    refine lv_iload_n hx hb dX10_throwsIf_13 rfl (lv_at hl 1 rfl) ?_
    exact ret_i (v := p0) hx hb hr hlocks hS hP hD dX10_throwsIf_14 (nz_i (show 0 ≤ p0.toInt ∧ p0.toInt ≤ 1 from (ir_wk k2 (by decide) (by decide))).1 (show 0 ≤ p0.toInt ∧ p0.toInt ≤ 1 from (ir_wk k2 (by decide) (by decide))).2) (Nat.le_of_ble_eq_true rfl) (Nat.le_of_ble_eq_true rfl) (Or.inl ⟨F3, (SAME.up eF3 SAME.rf (by decide)), (get_eq eF3), k2, dc1, rfl, rfl⟩)
  · have dc1 : p0.toInt ≠ 0 := ne_i (a := p0.toInt) (b := 0) rfl rfl c1
    have k4 : 1 ≤ p0.toInt ∧ p0.toInt ≤ 1 := ⟨ne_lo dc1 i_p0.1 ⟨Int.le_refl _, Int.le_refl _⟩ (by decide), i_p0.2⟩
    refine lv_iconst (v := 1) hx hb dX10_throwsIf_5 (by decide) ?_
    refine lv_goto (tgt := 10) hx hb dX10_throwsIf_6 (by decide) ?_
    refine put_f (D := D) (ci := 10) (v := .int 1) (ty := .int) (C := RX10) (T := TX10) (N := 67) hx hb hw inAX10 tyX10 tyX10_ok nmX10 hown hK hP hD hS 0 rfl rfl 0 (by decide) (hw _ q_1261) (fun _ h9 => h9) rfl (by decide +kernel) rfl rfl dX10_throwsIf_10 (fun H locs F5 eF5 hP hD hS => ?_)
    have hP : va_P D vwCl [(h0, .inr (10, vL 67 F5))] H := hP
    have hD : va_D A [(h0, .inr (10, vL 67 F5))] := hD
    refine lv_iload_n hx hb dX10_throwsIf_13 rfl (lv_at hl 1 rfl) ?_
    exact ret_i (v := p0) hx hb hr hlocks hS hP hD dX10_throwsIf_14 (nz_i (show 0 ≤ p0.toInt ∧ p0.toInt ≤ 1 from (ir_wk k4 (by decide) (by decide))).1 (show 0 ≤ p0.toInt ∧ p0.toInt ≤ 1 from (ir_wk k4 (by decide) (by decide))).2) (Nat.le_of_ble_eq_true rfl) (Nat.le_of_ble_eq_true rfl) (Or.inr ⟨F5, (SAME.up eF5 SAME.rf (by decide)), (get_eq eF5), k4, dc1, rfl, rfl⟩)
set_option maxHeartbeats 4000000 in
set_option maxRecDepth 100000 in
theorem m_X10_bytes4 (l : Launch) (D : va_G) (cI cJ cB cP cM cZ : ClassId) (h0 : Nat) (h_tape : Nat) (Fh : Nat → Value) (x_length : Int32) (f_tape : Nat → Int32) (p0 : Int32) (sz : Nat) (e_tape : Fh 1 = .ref h_tape) (e_length : Fh 2 = .int x_length) (i_x_length : IR 0 936 x_length) : CV l yX10_bytes4 cX10_bytes4 3 none { frames := 0, cells := 0, slots := 0, locals := 0 } (GG D cI cJ cB cP cM cZ) D [(h0, .inr (10, vL 67 Fh)), (h_tape, .inl (cB, 940, .inl f_tape))] sz [.ref h0, .int p0] (fun (u : va_W) => ∃ (Gh : Nat → Value) (y_length : Int32) (g_tape : Nat → Int32), SAME [2] Fh Gh ∧ Gh 2 = .int y_length ∧ IR 4 940 y_length ∧ (y_length.toInt = x_length.toInt + 4) ∧ (g_tape = ap4 f_tape x_length.toInt.toNat p0) ∧ u = [(h0, .inr (10, vL 67 Gh)), (h_tape, .inl (cB, 940, .inl g_tape))]) := by
  refine CV_mk (by decide) (Nat.le_of_ble_eq_true rfl) ?_
  intro p e s m below meth c A ls E hAe hG hsz hP hD hA hS hl
  obtain ⟨hx, hb, hr, hw, hown, hlocks, hml, hnm⟩ := E
  have hK := hG.1
  have i_x_length : 0 ≤ x_length.toInt ∧ x_length.toInt ≤ 936 := i_x_length
  have hl : lv_has ls 3 [(0, .ref h0), (1, .int p0)] := hl
  refine lv_bipush (v := 24) hx hb dX10_bytes4_0 (by decide) ?_
  refine lv_istore_n (lv' := [(2, .int 24), (0, .ref h0), (1, .int p0)]) hx hb dX10_bytes4_2 rfl hl (by decide) rfl (fun ls hl => ?_)
  refine lv_iload_n hx hb dX10_bytes4_3 rfl (lv_at hl 0 rfl) ?_
  refine lv_if_lt (tgt := 36) hx hb dX10_bytes4_4 (by decide) (fun g => absurd g (by decide)) (fun _ => ?_)
  refine lv_aload_n hx hb dX10_bytes4_7 rfl (lv_at hl 1 rfl) ?_
  refine get_f (D := D) (ci := 10) (v := .ref h_tape) (C := RX10) (T := TX10) (N := 67) hx hb hw inAX10 hown hK hP 0 rfl rfl 1 (by decide) (hw _ q_1262) (fun _ h9 => h9) e_tape dX10_bytes4_8 ?_
  refine lv_aload_n hx hb dX10_bytes4_11 rfl (lv_at hl 1 rfl) ?_
  refine get_f (D := D) (ci := 10) (v := .int x_length) (C := RX10) (T := TX10) (N := 67) hx hb hw inAX10 hown hK hP 0 rfl rfl 2 (by decide) (hw _ q_1263) (fun _ h9 => h9) e_length dX10_bytes4_12 ?_
  refine lv_iload_n hx hb dX10_bytes4_15 rfl (lv_at hl 2 rfl) ?_
  refine lv_iload_n hx hb dX10_bytes4_16 rfl (lv_at hl 0 rfl) ?_
  refine lv_ishr hx hb dX10_bytes4_17 ?_
  refine lv_topi (fun v1 ev1 => ?_)
  obtain ⟨v2, ev2⟩ : ∃ z : Int32, (v1 : Int32).toInt8.toInt32 = z := ⟨_, rfl⟩
  refine lv_i2b (v := v2) hx hb dX10_bytes4_18 ev2 ?_
  obtain ⟨g3, eg3⟩ : ∃ z : Nat → Int32, upd f_tape x_length.toNatClampNeg (vp_nar .byte v2) = z := ⟨_, rfl⟩
  refine bast_g hx hb hK hP hD hS 1 2 rfl rfl (ix_k i_x_length (by decide) (by decide)) eg3 dX10_bytes4_19 (fun H locs hP hD hS => ?_)
  have hP : va_P D vwCl [(h0, .inr (10, vL 67 Fh)), (h_tape, .inl (cB, 940, .inl g3))] H := hP
  have hD : va_D A [(h0, .inr (10, vL 67 Fh)), (h_tape, .inl (cB, 940, .inl g3))] := hD
  refine lv_aload_n hx hb dX10_bytes4_20 rfl (lv_at hl 1 rfl) ?_
  refine lv_dup hx hb dX10_bytes4_21 rfl ?_
  refine get_f (D := D) (ci := 10) (v := .int x_length) (C := RX10) (T := TX10) (N := 67) hx hb hw inAX10 hown hK hP 0 rfl rfl 2 (by decide) (hw _ q_1263) (fun _ h9 => h9) e_length dX10_bytes4_22 ?_
  refine lv_iconst (v := 1) hx hb dX10_bytes4_25 (by decide) ?_
  refine lv_iadd hx hb dX10_bytes4_26 ?_
  refine lv_topi (fun v4 ev4 => ?_)
  have bv4 : v4.toInt = x_length.toInt + 1 := by rw [ev4]; exact add_k rfl rfl i_x_length ⟨Int.le_refl _, Int.le_refl _⟩ (by decide)
  have k5 : 1 ≤ v4.toInt ∧ v4.toInt ≤ 937 := add_r bv4 i_x_length ⟨Int.le_refl _, Int.le_refl _⟩ (by decide)
  refine put_f (D := D) (ci := 10) (v := .int v4) (ty := .int) (C := RX10) (T := TX10) (N := 67) hx hb hw inAX10 tyX10 tyX10_ok nmX10 hown hK hP hD hS 0 rfl rfl 2 (by decide) (hw _ q_1263) (fun _ h9 => h9) rfl (by decide +kernel) rfl rfl dX10_bytes4_27 (fun H locs F6 eF6 hP hD hS => ?_)
  have hP : va_P D vwCl [(h0, .inr (10, vL 67 F6)), (h_tape, .inl (cB, 940, .inl g3))] H := hP
  have hD : va_D A [(h0, .inr (10, vL 67 F6)), (h_tape, .inl (cB, 940, .inl g3))] := hD
  refine lv_iinc (v := 16) (lv' := [(2, .int 16), (0, .ref h0), (1, .int p0)]) hx hb dX10_bytes4_30 hl (k := 0) rfl (by decide +kernel) (by decide) rfl (fun ls hl => ?_)
  refine lv_goto (tgt := 3) hx hb dX10_bytes4_33 (by decide) ?_
  refine lv_iload_n hx hb dX10_bytes4_3 rfl (lv_at hl 0 rfl) ?_
  refine lv_if_lt (tgt := 36) hx hb dX10_bytes4_4 (by decide) (fun g => absurd g (by decide)) (fun _ => ?_)
  refine lv_aload_n hx hb dX10_bytes4_7 rfl (lv_at hl 1 rfl) ?_
  have n7 : F6 1 = .ref h_tape := (get_ne eF6 (by decide) e_tape)
  refine get_f (D := D) (ci := 10) (v := .ref h_tape) (C := RX10) (T := TX10) (N := 67) hx hb hw inAX10 hown hK hP 0 rfl rfl 1 (by decide) (hw _ q_1262) (fun _ h9 => h9) n7 dX10_bytes4_8 ?_
  refine lv_aload_n hx hb dX10_bytes4_11 rfl (lv_at hl 1 rfl) ?_
  refine get_f (D := D) (ci := 10) (v := .int v4) (C := RX10) (T := TX10) (N := 67) hx hb hw inAX10 hown hK hP 0 rfl rfl 2 (by decide) (hw _ q_1263) (fun _ h9 => h9) (get_eq eF6) dX10_bytes4_12 ?_
  refine lv_iload_n hx hb dX10_bytes4_15 rfl (lv_at hl 2 rfl) ?_
  refine lv_iload_n hx hb dX10_bytes4_16 rfl (lv_at hl 0 rfl) ?_
  refine lv_ishr hx hb dX10_bytes4_17 ?_
  refine lv_topi (fun v8 ev8 => ?_)
  obtain ⟨v9, ev9⟩ : ∃ z : Int32, (v8 : Int32).toInt8.toInt32 = z := ⟨_, rfl⟩
  refine lv_i2b (v := v9) hx hb dX10_bytes4_18 ev9 ?_
  obtain ⟨g10, eg10⟩ : ∃ z : Nat → Int32, upd g3 v4.toNatClampNeg (vp_nar .byte v9) = z := ⟨_, rfl⟩
  refine bast_g hx hb hK hP hD hS 1 2 rfl rfl (ix_k k5 (by decide) (by decide)) eg10 dX10_bytes4_19 (fun H locs hP hD hS => ?_)
  have hP : va_P D vwCl [(h0, .inr (10, vL 67 F6)), (h_tape, .inl (cB, 940, .inl g10))] H := hP
  have hD : va_D A [(h0, .inr (10, vL 67 F6)), (h_tape, .inl (cB, 940, .inl g10))] := hD
  refine lv_aload_n hx hb dX10_bytes4_20 rfl (lv_at hl 1 rfl) ?_
  refine lv_dup hx hb dX10_bytes4_21 rfl ?_
  refine get_f (D := D) (ci := 10) (v := .int v4) (C := RX10) (T := TX10) (N := 67) hx hb hw inAX10 hown hK hP 0 rfl rfl 2 (by decide) (hw _ q_1263) (fun _ h9 => h9) (get_eq eF6) dX10_bytes4_22 ?_
  refine lv_iconst (v := 1) hx hb dX10_bytes4_25 (by decide) ?_
  refine lv_iadd hx hb dX10_bytes4_26 ?_
  refine lv_topi (fun v11 ev11 => ?_)
  have bv11 : v11.toInt = v4.toInt + 1 := by rw [ev11]; exact add_k rfl rfl k5 ⟨Int.le_refl _, Int.le_refl _⟩ (by decide)
  have k12 : 2 ≤ v11.toInt ∧ v11.toInt ≤ 938 := add_r bv11 k5 ⟨Int.le_refl _, Int.le_refl _⟩ (by decide)
  refine put_f (D := D) (ci := 10) (v := .int v11) (ty := .int) (C := RX10) (T := TX10) (N := 67) hx hb hw inAX10 tyX10 tyX10_ok nmX10 hown hK hP hD hS 0 rfl rfl 2 (by decide) (hw _ q_1263) (fun _ h9 => h9) rfl (by decide +kernel) rfl rfl dX10_bytes4_27 (fun H locs F13 eF13 hP hD hS => ?_)
  have hP : va_P D vwCl [(h0, .inr (10, vL 67 F13)), (h_tape, .inl (cB, 940, .inl g10))] H := hP
  have hD : va_D A [(h0, .inr (10, vL 67 F13)), (h_tape, .inl (cB, 940, .inl g10))] := hD
  refine lv_iinc (v := 8) (lv' := [(2, .int 8), (0, .ref h0), (1, .int p0)]) hx hb dX10_bytes4_30 hl (k := 0) rfl (by decide +kernel) (by decide) rfl (fun ls hl => ?_)
  refine lv_goto (tgt := 3) hx hb dX10_bytes4_33 (by decide) ?_
  refine lv_iload_n hx hb dX10_bytes4_3 rfl (lv_at hl 0 rfl) ?_
  refine lv_if_lt (tgt := 36) hx hb dX10_bytes4_4 (by decide) (fun g => absurd g (by decide)) (fun _ => ?_)
  refine lv_aload_n hx hb dX10_bytes4_7 rfl (lv_at hl 1 rfl) ?_
  have n14 : F13 1 = .ref h_tape := (get_ne eF13 (by decide) n7)
  refine get_f (D := D) (ci := 10) (v := .ref h_tape) (C := RX10) (T := TX10) (N := 67) hx hb hw inAX10 hown hK hP 0 rfl rfl 1 (by decide) (hw _ q_1262) (fun _ h9 => h9) n14 dX10_bytes4_8 ?_
  refine lv_aload_n hx hb dX10_bytes4_11 rfl (lv_at hl 1 rfl) ?_
  refine get_f (D := D) (ci := 10) (v := .int v11) (C := RX10) (T := TX10) (N := 67) hx hb hw inAX10 hown hK hP 0 rfl rfl 2 (by decide) (hw _ q_1263) (fun _ h9 => h9) (get_eq eF13) dX10_bytes4_12 ?_
  refine lv_iload_n hx hb dX10_bytes4_15 rfl (lv_at hl 2 rfl) ?_
  refine lv_iload_n hx hb dX10_bytes4_16 rfl (lv_at hl 0 rfl) ?_
  refine lv_ishr hx hb dX10_bytes4_17 ?_
  refine lv_topi (fun v15 ev15 => ?_)
  obtain ⟨v16, ev16⟩ : ∃ z : Int32, (v15 : Int32).toInt8.toInt32 = z := ⟨_, rfl⟩
  refine lv_i2b (v := v16) hx hb dX10_bytes4_18 ev16 ?_
  obtain ⟨g17, eg17⟩ : ∃ z : Nat → Int32, upd g10 v11.toNatClampNeg (vp_nar .byte v16) = z := ⟨_, rfl⟩
  refine bast_g hx hb hK hP hD hS 1 2 rfl rfl (ix_k k12 (by decide) (by decide)) eg17 dX10_bytes4_19 (fun H locs hP hD hS => ?_)
  have hP : va_P D vwCl [(h0, .inr (10, vL 67 F13)), (h_tape, .inl (cB, 940, .inl g17))] H := hP
  have hD : va_D A [(h0, .inr (10, vL 67 F13)), (h_tape, .inl (cB, 940, .inl g17))] := hD
  refine lv_aload_n hx hb dX10_bytes4_20 rfl (lv_at hl 1 rfl) ?_
  refine lv_dup hx hb dX10_bytes4_21 rfl ?_
  refine get_f (D := D) (ci := 10) (v := .int v11) (C := RX10) (T := TX10) (N := 67) hx hb hw inAX10 hown hK hP 0 rfl rfl 2 (by decide) (hw _ q_1263) (fun _ h9 => h9) (get_eq eF13) dX10_bytes4_22 ?_
  refine lv_iconst (v := 1) hx hb dX10_bytes4_25 (by decide) ?_
  refine lv_iadd hx hb dX10_bytes4_26 ?_
  refine lv_topi (fun v18 ev18 => ?_)
  have bv18 : v18.toInt = v11.toInt + 1 := by rw [ev18]; exact add_k rfl rfl k12 ⟨Int.le_refl _, Int.le_refl _⟩ (by decide)
  have k19 : 3 ≤ v18.toInt ∧ v18.toInt ≤ 939 := add_r bv18 k12 ⟨Int.le_refl _, Int.le_refl _⟩ (by decide)
  refine put_f (D := D) (ci := 10) (v := .int v18) (ty := .int) (C := RX10) (T := TX10) (N := 67) hx hb hw inAX10 tyX10 tyX10_ok nmX10 hown hK hP hD hS 0 rfl rfl 2 (by decide) (hw _ q_1263) (fun _ h9 => h9) rfl (by decide +kernel) rfl rfl dX10_bytes4_27 (fun H locs F20 eF20 hP hD hS => ?_)
  have hP : va_P D vwCl [(h0, .inr (10, vL 67 F20)), (h_tape, .inl (cB, 940, .inl g17))] H := hP
  have hD : va_D A [(h0, .inr (10, vL 67 F20)), (h_tape, .inl (cB, 940, .inl g17))] := hD
  refine lv_iinc (v := 0) (lv' := [(2, .int 0), (0, .ref h0), (1, .int p0)]) hx hb dX10_bytes4_30 hl (k := 0) rfl (by decide +kernel) (by decide) rfl (fun ls hl => ?_)
  refine lv_goto (tgt := 3) hx hb dX10_bytes4_33 (by decide) ?_
  refine lv_iload_n hx hb dX10_bytes4_3 rfl (lv_at hl 0 rfl) ?_
  refine lv_if_lt (tgt := 36) hx hb dX10_bytes4_4 (by decide) (fun g => absurd g (by decide)) (fun _ => ?_)
  refine lv_aload_n hx hb dX10_bytes4_7 rfl (lv_at hl 1 rfl) ?_
  have n21 : F20 1 = .ref h_tape := (get_ne eF20 (by decide) n14)
  refine get_f (D := D) (ci := 10) (v := .ref h_tape) (C := RX10) (T := TX10) (N := 67) hx hb hw inAX10 hown hK hP 0 rfl rfl 1 (by decide) (hw _ q_1262) (fun _ h9 => h9) n21 dX10_bytes4_8 ?_
  refine lv_aload_n hx hb dX10_bytes4_11 rfl (lv_at hl 1 rfl) ?_
  refine get_f (D := D) (ci := 10) (v := .int v18) (C := RX10) (T := TX10) (N := 67) hx hb hw inAX10 hown hK hP 0 rfl rfl 2 (by decide) (hw _ q_1263) (fun _ h9 => h9) (get_eq eF20) dX10_bytes4_12 ?_
  refine lv_iload_n hx hb dX10_bytes4_15 rfl (lv_at hl 2 rfl) ?_
  refine lv_iload_n hx hb dX10_bytes4_16 rfl (lv_at hl 0 rfl) ?_
  refine lv_ishr hx hb dX10_bytes4_17 ?_
  refine lv_topi (fun v22 ev22 => ?_)
  obtain ⟨v23, ev23⟩ : ∃ z : Int32, (v22 : Int32).toInt8.toInt32 = z := ⟨_, rfl⟩
  refine lv_i2b (v := v23) hx hb dX10_bytes4_18 ev23 ?_
  obtain ⟨g24, eg24⟩ : ∃ z : Nat → Int32, upd g17 v18.toNatClampNeg (vp_nar .byte v23) = z := ⟨_, rfl⟩
  refine bast_g hx hb hK hP hD hS 1 2 rfl rfl (ix_k k19 (by decide) (by decide)) eg24 dX10_bytes4_19 (fun H locs hP hD hS => ?_)
  have hP : va_P D vwCl [(h0, .inr (10, vL 67 F20)), (h_tape, .inl (cB, 940, .inl g24))] H := hP
  have hD : va_D A [(h0, .inr (10, vL 67 F20)), (h_tape, .inl (cB, 940, .inl g24))] := hD
  refine lv_aload_n hx hb dX10_bytes4_20 rfl (lv_at hl 1 rfl) ?_
  refine lv_dup hx hb dX10_bytes4_21 rfl ?_
  refine get_f (D := D) (ci := 10) (v := .int v18) (C := RX10) (T := TX10) (N := 67) hx hb hw inAX10 hown hK hP 0 rfl rfl 2 (by decide) (hw _ q_1263) (fun _ h9 => h9) (get_eq eF20) dX10_bytes4_22 ?_
  refine lv_iconst (v := 1) hx hb dX10_bytes4_25 (by decide) ?_
  refine lv_iadd hx hb dX10_bytes4_26 ?_
  refine lv_topi (fun v25 ev25 => ?_)
  have bv25 : v25.toInt = v18.toInt + 1 := by rw [ev25]; exact add_k rfl rfl k19 ⟨Int.le_refl _, Int.le_refl _⟩ (by decide)
  have k26 : 4 ≤ v25.toInt ∧ v25.toInt ≤ 940 := add_r bv25 k19 ⟨Int.le_refl _, Int.le_refl _⟩ (by decide)
  refine put_f (D := D) (ci := 10) (v := .int v25) (ty := .int) (C := RX10) (T := TX10) (N := 67) hx hb hw inAX10 tyX10 tyX10_ok nmX10 hown hK hP hD hS 0 rfl rfl 2 (by decide) (hw _ q_1263) (fun _ h9 => h9) rfl (by decide +kernel) rfl rfl dX10_bytes4_27 (fun H locs F27 eF27 hP hD hS => ?_)
  have hP : va_P D vwCl [(h0, .inr (10, vL 67 F27)), (h_tape, .inl (cB, 940, .inl g24))] H := hP
  have hD : va_D A [(h0, .inr (10, vL 67 F27)), (h_tape, .inl (cB, 940, .inl g24))] := hD
  refine lv_iinc (v := (-8)) (lv' := [(2, .int (-8)), (0, .ref h0), (1, .int p0)]) hx hb dX10_bytes4_30 hl (k := 0) rfl (by decide +kernel) (by decide) rfl (fun ls hl => ?_)
  refine lv_goto (tgt := 3) hx hb dX10_bytes4_33 (by decide) ?_
  refine lv_iload_n hx hb dX10_bytes4_3 rfl (lv_at hl 0 rfl) ?_
  refine lv_if_lt (tgt := 36) hx hb dX10_bytes4_4 (by decide) (fun _ => ?_) (fun g => absurd (by decide) g)
  exact ret_v hx hb hr hlocks hS hP hD dX10_bytes4_36 (Nat.le_of_ble_eq_true rfl) (Nat.le_of_ble_eq_true rfl) ⟨F27, v25, g24, (SAME.up eF27 (SAME.up eF20 (SAME.up eF13 (SAME.up eF6 SAME.rf (by decide)) (by decide)) (by decide)) (by decide)), (get_eq eF27), k26, (by omega), (ap4_of eg3 eg10 eg17 eg24 (by omega) (by omega) (by omega) (by omega) (by8_S (k := 24) ev1 ev2) (by8_S (k := 16) ev8 ev9) (by8_S (k := 8) ev15 ev16) (by8_S (k := 0) ev22 ev23)), rfl⟩
set_option maxHeartbeats 4000000 in
set_option maxRecDepth 100000 in
theorem m_X10_feed (l : Launch) (D : va_G) (cI cJ cB cP cM cZ : ClassId) (h0 : Nat) (h_tape : Nat) (Fh : Nat → Value) (x_length : Int32) (f_tape : Nat → Int32) (p0 : Int32) (p1 : Int32) (p2 : Int32) (p3 : Int32) (p4 : Int32) (sz : Nat) (e_tape : Fh 1 = .ref h_tape) (e_length : Fh 2 = .int x_length) (i_x_length : IR 0 940 x_length) : CI l yX10_feed cX10_feed 6 (some .int) { frames := 1, cells := 0, slots := 0, locals := 22 } (GG D cI cJ cB cP cM cZ) D [(h0, .inr (10, vL 67 Fh)), (h_tape, .inl (cB, 940, .inl f_tape))] sz [.ref h0, .int p0, .int p1, .int p2, .int p3, .int p4] (fun (r : Int32) (u : va_W) => ∃ (Gh : Nat → Value) (y_length : Int32) (g_tape : Nat → Int32), SAME [0, 2] Fh Gh ∧ Gh 0 = .int 0 ∧ Gh 2 = .int y_length ∧ IR 20 940 y_length ∧ IR (-1) 940 r ∧ ((x_length.toInt ≤ 920 ∧ r.toInt = x_length.toInt + 20 ∧ y_length.toInt = x_length.toInt + 20 ∧ g_tape = ap20 f_tape x_length.toInt.toNat p0 p1 p2 p3 p4) ∨ (920 < x_length.toInt ∧ r.toInt = -1 ∧ y_length = x_length ∧ g_tape = f_tape)) ∧ u = [(h0, .inr (10, vL 67 Gh)), (h_tape, .inl (cB, 940, .inl g_tape))]) := by
  refine CI_mk (by decide) (Nat.le_of_ble_eq_true rfl) ?_
  intro p e s m below meth c A ls E hAe hG hsz hP hD hA hS hl
  obtain ⟨hx, hb, hr, hw, hown, hlocks, hml, hnm⟩ := E
  have hK := hG.1
  have i_x_length : 0 ≤ x_length.toInt ∧ x_length.toInt ≤ 940 := i_x_length
  have hl : lv_has ls 6 [(0, .ref h0), (1, .int p0), (2, .int p1), (3, .int p2), (4, .int p3), (5, .int p4)] := hl
  refine lv_aload_n hx hb dX10_feed_0 rfl (lv_at hl 0 rfl) ?_
  refine lv_iconst (v := 0) hx hb dX10_feed_1 (by decide) ?_
  refine put_f (D := D) (ci := 10) (v := .int 0) (ty := .int) (C := RX10) (T := TX10) (N := 67) hx hb hw inAX10 tyX10 tyX10_ok nmX10 hown hK hP hD hS 0 rfl rfl 0 (by decide) (hw _ q_1261) (fun _ h9 => h9) rfl (by decide +kernel) rfl rfl dX10_feed_2 (fun H locs F1 eF1 hP hD hS => ?_)
  have hP : va_P D vwCl [(h0, .inr (10, vL 67 F1)), (h_tape, .inl (cB, 940, .inl f_tape))] H := hP
  have hD : va_D A [(h0, .inr (10, vL 67 F1)), (h_tape, .inl (cB, 940, .inl f_tape))] := hD
  refine lv_aload_n hx hb dX10_feed_5 rfl (lv_at hl 0 rfl) ?_
  have n2 : F1 2 = .int x_length := (get_ne eF1 (by decide) e_length)
  refine get_f (D := D) (ci := 10) (v := .int x_length) (C := RX10) (T := TX10) (N := 67) hx hb hw inAX10 hown hK hP 0 rfl rfl 2 (by decide) (hw _ q_1263) (fun _ h9 => h9) n2 dX10_feed_6 ?_
  refine lv_bipush (v := 20) hx hb dX10_feed_9 (by decide) ?_
  refine lv_iadd hx hb dX10_feed_11 ?_
  refine lv_topi (fun v3 ev3 => ?_)
  have bv3 : v3.toInt = x_length.toInt + 20 := by rw [ev3]; exact add_k rfl rfl i_x_length ⟨Int.le_refl _, Int.le_refl _⟩ (by decide)
  have k4 : 20 ≤ v3.toInt ∧ v3.toInt ≤ 960 := add_r bv3 i_x_length ⟨Int.le_refl _, Int.le_refl _⟩ (by decide)
  refine lv_sipush (v := 940) hx hb dX10_feed_12 (by decide) ?_
  refine lv_icmp_le (tgt := 20) hx hb dX10_feed_15 (by decide) (fun c5 => ?_) (fun c5 => ?_)
  · have dc5 : v3.toInt ≤ 940 := le_i (a := v3.toInt) (b := 940) rfl rfl c5
    have k6 : 20 ≤ v3.toInt ∧ v3.toInt ≤ 940 := ⟨k4.1, Int.le_trans dc5 (Int.le_refl _)⟩
    have k7 : 0 ≤ x_length.toInt ∧ x_length.toInt ≤ 920 := ⟨i_x_length.1, lin_hi bv3 k6.2 (by decide)⟩
    refine lv_aload_n hx hb dX10_feed_20 rfl (lv_at hl 0 rfl) ?_
    refine lv_iload_n hx hb dX10_feed_21 rfl (lv_at hl 1 rfl) ?_
    have n8 : F1 1 = .ref h_tape := (get_ne eF1 (by decide) e_tape)
    refine call_Vv (wr := []) (As := [.int p0]) (rest := []) hx hb hml hown hw (m_X10_bytes4 l D cI cJ cB cP cM cZ h0 h_tape F1 x_length f_tape p0 _ n8 n2 (ir_wk k7 (by decide) (by decide))) wV_X10_10_X10_bytes4 dX10_feed_22 hK hP hD hS hA [0, 1] [] rfl rfl (by decide) (by decide) (by decide) 0 10 rfl rfl GG.fb hG.at hl.1 rfl (Nat.le_of_ble_eq_true rfl) ⟨(Nat.le_of_ble_eq_true rfl), (Nat.le_of_ble_eq_true rfl)⟩ ⟨(Nat.le_of_ble_eq_true rfl), (Nat.le_of_ble_eq_true rfl)⟩ (fun u H locs hp hP hD hS => ?_)
    obtain ⟨F10, y11, g12, t13, t14, t15, t16, t17, rfl⟩ := hp
    have hP : va_P D vwCl [(h0, .inr (10, vL 67 F10)), (h_tape, .inl (cB, 940, .inl g12))] H := hP
    have hD : va_D A [(h0, .inr (10, vL 67 F10)), (h_tape, .inl (cB, 940, .inl g12))] := hD
    refine W.widen (k := 0) (n := 0) (Nat.le_of_ble_eq_true rfl) (Nat.le_of_ble_eq_true rfl) ?_
    have k19 : 4 ≤ y11.toInt ∧ y11.toInt ≤ 924 := ⟨by omega, by omega⟩
    refine lv_aload_n hx hb dX10_feed_25 rfl (lv_at hl 0 rfl) ?_
    refine lv_iload_n hx hb dX10_feed_26 rfl (lv_at hl 2 rfl) ?_
    have n20 : F10 1 = .ref h_tape := (SAME.at t13 (by decide) n8)
    refine call_Vv (wr := []) (As := [.int p1]) (rest := []) hx hb hml hown hw (m_X10_bytes4 l D cI cJ cB cP cM cZ h0 h_tape F10 y11 g12 p1 _ n20 t14 (ir_wk k19 (by decide) (by decide))) wV_X10_10_X10_bytes4 dX10_feed_27 hK hP hD hS hA [0, 1] [] rfl rfl (by decide) (by decide) (by decide) 0 10 rfl rfl GG.fb hG.at hl.1 rfl (Nat.le_of_ble_eq_true rfl) ⟨(Nat.le_of_ble_eq_true rfl), (Nat.le_of_ble_eq_true rfl)⟩ ⟨(Nat.le_of_ble_eq_true rfl), (Nat.le_of_ble_eq_true rfl)⟩ (fun u H locs hp hP hD hS => ?_)
    obtain ⟨F22, y23, g24, t25, t26, t27, t28, t29, rfl⟩ := hp
    have hP : va_P D vwCl [(h0, .inr (10, vL 67 F22)), (h_tape, .inl (cB, 940, .inl g24))] H := hP
    have hD : va_D A [(h0, .inr (10, vL 67 F22)), (h_tape, .inl (cB, 940, .inl g24))] := hD
    refine W.widen (k := 0) (n := 0) (Nat.le_of_ble_eq_true rfl) (Nat.le_of_ble_eq_true rfl) ?_
    have k31 : 8 ≤ y23.toInt ∧ y23.toInt ≤ 928 := ⟨by omega, by omega⟩
    refine lv_aload_n hx hb dX10_feed_30 rfl (lv_at hl 0 rfl) ?_
    refine lv_iload_n hx hb dX10_feed_31 rfl (lv_at hl 3 rfl) ?_
    have n32 : F22 1 = .ref h_tape := (SAME.at t25 (by decide) n20)
    refine call_Vv (wr := []) (As := [.int p2]) (rest := []) hx hb hml hown hw (m_X10_bytes4 l D cI cJ cB cP cM cZ h0 h_tape F22 y23 g24 p2 _ n32 t26 (ir_wk k31 (by decide) (by decide))) wV_X10_10_X10_bytes4 dX10_feed_32 hK hP hD hS hA [0, 1] [] rfl rfl (by decide) (by decide) (by decide) 0 10 rfl rfl GG.fb hG.at hl.1 rfl (Nat.le_of_ble_eq_true rfl) ⟨(Nat.le_of_ble_eq_true rfl), (Nat.le_of_ble_eq_true rfl)⟩ ⟨(Nat.le_of_ble_eq_true rfl), (Nat.le_of_ble_eq_true rfl)⟩ (fun u H locs hp hP hD hS => ?_)
    obtain ⟨F34, y35, g36, t37, t38, t39, t40, t41, rfl⟩ := hp
    have hP : va_P D vwCl [(h0, .inr (10, vL 67 F34)), (h_tape, .inl (cB, 940, .inl g36))] H := hP
    have hD : va_D A [(h0, .inr (10, vL 67 F34)), (h_tape, .inl (cB, 940, .inl g36))] := hD
    refine W.widen (k := 0) (n := 0) (Nat.le_of_ble_eq_true rfl) (Nat.le_of_ble_eq_true rfl) ?_
    have k43 : 12 ≤ y35.toInt ∧ y35.toInt ≤ 932 := ⟨by omega, by omega⟩
    refine lv_aload_n hx hb dX10_feed_35 rfl (lv_at hl 0 rfl) ?_
    refine lv_iload hx hb dX10_feed_36 (lv_at hl 4 rfl) ?_
    have n44 : F34 1 = .ref h_tape := (SAME.at t37 (by decide) n32)
    refine call_Vv (wr := []) (As := [.int p3]) (rest := []) hx hb hml hown hw (m_X10_bytes4 l D cI cJ cB cP cM cZ h0 h_tape F34 y35 g36 p3 _ n44 t38 (ir_wk k43 (by decide) (by decide))) wV_X10_10_X10_bytes4 dX10_feed_38 hK hP hD hS hA [0, 1] [] rfl rfl (by decide) (by decide) (by decide) 0 10 rfl rfl GG.fb hG.at hl.1 rfl (Nat.le_of_ble_eq_true rfl) ⟨(Nat.le_of_ble_eq_true rfl), (Nat.le_of_ble_eq_true rfl)⟩ ⟨(Nat.le_of_ble_eq_true rfl), (Nat.le_of_ble_eq_true rfl)⟩ (fun u H locs hp hP hD hS => ?_)
    obtain ⟨F46, y47, g48, t49, t50, t51, t52, t53, rfl⟩ := hp
    have hP : va_P D vwCl [(h0, .inr (10, vL 67 F46)), (h_tape, .inl (cB, 940, .inl g48))] H := hP
    have hD : va_D A [(h0, .inr (10, vL 67 F46)), (h_tape, .inl (cB, 940, .inl g48))] := hD
    refine W.widen (k := 0) (n := 0) (Nat.le_of_ble_eq_true rfl) (Nat.le_of_ble_eq_true rfl) ?_
    have k55 : 16 ≤ y47.toInt ∧ y47.toInt ≤ 936 := ⟨by omega, by omega⟩
    refine lv_aload_n hx hb dX10_feed_41 rfl (lv_at hl 0 rfl) ?_
    refine lv_iload hx hb dX10_feed_42 (lv_at hl 5 rfl) ?_
    have n56 : F46 1 = .ref h_tape := (SAME.at t49 (by decide) n44)
    refine call_Vv (wr := []) (As := [.int p4]) (rest := []) hx hb hml hown hw (m_X10_bytes4 l D cI cJ cB cP cM cZ h0 h_tape F46 y47 g48 p4 _ n56 t50 (ir_wk k55 (by decide) (by decide))) wV_X10_10_X10_bytes4 dX10_feed_44 hK hP hD hS hA [0, 1] [] rfl rfl (by decide) (by decide) (by decide) 0 10 rfl rfl GG.fb hG.at hl.1 rfl (Nat.le_of_ble_eq_true rfl) ⟨(Nat.le_of_ble_eq_true rfl), (Nat.le_of_ble_eq_true rfl)⟩ ⟨(Nat.le_of_ble_eq_true rfl), (Nat.le_of_ble_eq_true rfl)⟩ (fun u H locs hp hP hD hS => ?_)
    obtain ⟨F58, y59, g60, t61, t62, t63, t64, t65, rfl⟩ := hp
    have hP : va_P D vwCl [(h0, .inr (10, vL 67 F58)), (h_tape, .inl (cB, 940, .inl g60))] H := hP
    have hD : va_D A [(h0, .inr (10, vL 67 F58)), (h_tape, .inl (cB, 940, .inl g60))] := hD
    refine W.widen (k := 0) (n := 0) (Nat.le_of_ble_eq_true rfl) (Nat.le_of_ble_eq_true rfl) ?_
    have k67 : 20 ≤ y59.toInt ∧ y59.toInt ≤ 940 := ⟨by omega, by omega⟩
    refine lv_aload_n hx hb dX10_feed_47 rfl (lv_at hl 0 rfl) ?_
    refine get_f (D := D) (ci := 10) (v := .int y59) (C := RX10) (T := TX10) (N := 67) hx hb hw inAX10 hown hK hP 0 rfl rfl 2 (by decide) (hw _ q_1263) (fun _ h9 => h9) t62 dX10_feed_48 ?_
    exact ret_i (v := y59) hx hb hr hlocks hS hP hD dX10_feed_51 rfl (Nat.le_of_ble_eq_true rfl) (Nat.le_of_ble_eq_true rfl) ⟨F58, y59, g60, (SAME.tr (SAME.tr (SAME.tr (SAME.tr (SAME.tr (SAME.up eF1 SAME.rf (by decide)) t13 (by decide)) t25 (by decide)) t37 (by decide)) t49 (by decide)) t61 (by decide)), (SAME.at t61 (by decide) (SAME.at t49 (by decide) (SAME.at t37 (by decide) (SAME.at t25 (by decide) (SAME.at t13 (by decide) (get_eq eF1)))))), t62, k67, (ir_wk k67 (by decide) (by decide)), (Or.inl ⟨by omega, by omega, by omega, ap20_of t17 t29 t41 t53 t65 (by omega) (by omega) (by omega) (by omega) (by omega)⟩), rfl⟩
  · have dc5 : 940 < v3.toInt := nle_i (a := v3.toInt) (b := 940) rfl rfl c5
    have k68 : 941 ≤ v3.toInt ∧ v3.toInt ≤ 960 := ⟨lo_lt dc5 (Int.le_refl _) (by decide), k4.2⟩
    have k69 : 921 ≤ x_length.toInt ∧ x_length.toInt ≤ 940 := ⟨lin_lo bv3 k68.1 (by decide), i_x_length.2⟩
    refine lv_iconst (v := (-1)) hx hb dX10_feed_18 (by decide) ?_
    exact ret_i (v := (-1)) hx hb hr hlocks hS hP hD dX10_feed_19 rfl (Nat.le_of_ble_eq_true rfl) (Nat.le_of_ble_eq_true rfl) ⟨F1, x_length, f_tape, (SAME.up eF1 SAME.rf (by decide)), (get_eq eF1), n2, (ir_wk k69 (by decide) (by decide)), (show (-1) ≤ ((-1) : Int32).toInt ∧ ((-1) : Int32).toInt ≤ 940 by decide), (Or.inr ⟨by omega, by decide, rfl, rfl⟩), rfl⟩
set_option maxHeartbeats 4000000 in
set_option maxRecDepth 100000 in
theorem m_X10_end (l : Launch) (D : va_G) (cI cJ cB cP cM cZ : ClassId) (h0 : Nat) (Fh : Nat → Value) (x_length : Int32) (p0 : Int32) (sz : Nat) (e_length : Fh 2 = .int x_length) (i_x_length : IR 0 940 x_length) : CI l yX10_end cX10_end 2 (some .boolean) { frames := 0, cells := 0, slots := 0, locals := 0 } (GG D cI cJ cB cP cM cZ) D [(h0, .inr (10, vL 67 Fh))] sz [.ref h0, .int p0] (fun (r : Int32) (u : va_W) => ∃ (Gh : Nat → Value) (y_length : Int32), SAME [0, 2] Fh Gh ∧ Gh 0 = .int 0 ∧ Gh 2 = .int y_length ∧ IR 0 940 y_length ∧ IR 0 1 r ∧ ((0 ≤ p0.toInt → p0.toInt ≤ x_length.toInt → r.toInt = 1 ∧ y_length.toInt = p0.toInt) ∧ ((p0.toInt < 0 ∨ x_length.toInt < p0.toInt) → r.toInt = 0 ∧ y_length.toInt = x_length.toInt)) ∧ u = [(h0, .inr (10, vL 67 Gh))]) := by
  refine CI_mk (by decide) (Nat.le_of_ble_eq_true rfl) ?_
  intro p e s m below meth c A ls E hAe hG hsz hP hD hA hS hl
  obtain ⟨hx, hb, hr, hw, hown, hlocks, hml, hnm⟩ := E
  have hK := hG.1
  have i_x_length : 0 ≤ x_length.toInt ∧ x_length.toInt ≤ 940 := i_x_length
  have hl : lv_has ls 2 [(0, .ref h0), (1, .int p0)] := hl
  refine lv_aload_n hx hb dX10_end_0 rfl (lv_at hl 0 rfl) ?_
  refine lv_iconst (v := 0) hx hb dX10_end_1 (by decide) ?_
  refine put_f (D := D) (ci := 10) (v := .int 0) (ty := .int) (C := RX10) (T := TX10) (N := 67) hx hb hw inAX10 tyX10 tyX10_ok nmX10 hown hK hP hD hS 0 rfl rfl 0 (by decide) (hw _ q_1261) (fun _ h9 => h9) rfl (by decide +kernel) rfl rfl dX10_end_2 (fun H locs F1 eF1 hP hD hS => ?_)
  have hP : va_P D vwCl [(h0, .inr (10, vL 67 F1))] H := hP
  have hD : va_D A [(h0, .inr (10, vL 67 F1))] := hD
  refine lv_iload_n hx hb dX10_end_5 rfl (lv_at hl 1 rfl) ?_
  refine lv_if_lt (tgt := 17) hx hb dX10_end_6 (by decide) (fun c2 => ?_) (fun c2 => ?_)
  · have dc2 : p0.toInt < 0 := lt_i (a := p0.toInt) (b := 0) rfl rfl c2
    have k3 : (-2147483648) ≤ p0.toInt ∧ p0.toInt ≤ (-1) := ⟨(ir_any _).1, up_lt dc2 (Int.le_refl _) (by decide)⟩
    refine lv_iconst (v := 0) hx hb dX10_end_17 (by decide) ?_
    exact ret_i (v := 0) hx hb hr hlocks hS hP hD dX10_end_18 rfl (Nat.le_of_ble_eq_true rfl) (Nat.le_of_ble_eq_true rfl) ⟨F1, x_length, (SAME.up eF1 SAME.rf (by decide)), (get_eq eF1), (get_ne eF1 (by decide) e_length), i_x_length, (show 0 ≤ (0 : Int32).toInt ∧ (0 : Int32).toInt ≤ 1 by decide), (by have zl0 : (0 : Int32).toInt = 0 := (by decide); omega), rfl⟩
  · have dc2 : 0 ≤ p0.toInt := nlt_i (a := p0.toInt) (b := 0) rfl rfl c2
    have k4 : 0 ≤ p0.toInt ∧ p0.toInt ≤ 2147483647 := ⟨Int.le_trans (Int.le_refl _) dc2, (ir_any _).2⟩
    refine lv_iload_n hx hb dX10_end_9 rfl (lv_at hl 1 rfl) ?_
    refine lv_aload_n hx hb dX10_end_10 rfl (lv_at hl 0 rfl) ?_
    have n5 : F1 2 = .int x_length := (get_ne eF1 (by decide) e_length)
    refine get_f (D := D) (ci := 10) (v := .int x_length) (C := RX10) (T := TX10) (N := 67) hx hb hw inAX10 hown hK hP 0 rfl rfl 2 (by decide) (hw _ q_1263) (fun _ h9 => h9) n5 dX10_end_11 ?_
    refine lv_icmp_le (tgt := 19) hx hb dX10_end_14 (by decide) (fun c6 => ?_) (fun c6 => ?_)
    · have dc6 : p0.toInt ≤ x_length.toInt := le_i (a := p0.toInt) (b := x_length.toInt) rfl rfl c6
      have k7 : 0 ≤ p0.toInt ∧ p0.toInt ≤ 940 := ⟨k4.1, Int.le_trans dc6 i_x_length.2⟩
      refine lv_aload_n hx hb dX10_end_19 rfl (lv_at hl 0 rfl) ?_
      refine lv_iload_n hx hb dX10_end_20 rfl (lv_at hl 1 rfl) ?_
      refine put_f (D := D) (ci := 10) (v := .int p0) (ty := .int) (C := RX10) (T := TX10) (N := 67) hx hb hw inAX10 tyX10 tyX10_ok nmX10 hown hK hP hD hS 0 rfl rfl 2 (by decide) (hw _ q_1263) (fun _ h9 => h9) rfl (by decide +kernel) rfl rfl dX10_end_21 (fun H locs F8 eF8 hP hD hS => ?_)
      have hP : va_P D vwCl [(h0, .inr (10, vL 67 F8))] H := hP
      have hD : va_D A [(h0, .inr (10, vL 67 F8))] := hD
      refine lv_iconst (v := 1) hx hb dX10_end_24 (by decide) ?_
      exact ret_i (v := 1) hx hb hr hlocks hS hP hD dX10_end_25 rfl (Nat.le_of_ble_eq_true rfl) (Nat.le_of_ble_eq_true rfl) ⟨F8, p0, (SAME.up eF8 (SAME.up eF1 SAME.rf (by decide)) (by decide)), (get_ne eF8 (by decide) (get_eq eF1)), (get_eq eF8), k7, (show 0 ≤ (1 : Int32).toInt ∧ (1 : Int32).toInt ≤ 1 by decide), (by have zl1 : (1 : Int32).toInt = 1 := (by decide); omega), rfl⟩
    · have dc6 : x_length.toInt < p0.toInt := nle_i (a := p0.toInt) (b := x_length.toInt) rfl rfl c6
      have k9 : 1 ≤ p0.toInt ∧ p0.toInt ≤ 2147483647 := ⟨lo_lt dc6 i_x_length.1 (by decide), k4.2⟩
      refine lv_iconst (v := 0) hx hb dX10_end_17 (by decide) ?_
      exact ret_i (v := 0) hx hb hr hlocks hS hP hD dX10_end_18 rfl (Nat.le_of_ble_eq_true rfl) (Nat.le_of_ble_eq_true rfl) ⟨F1, x_length, (SAME.up eF1 SAME.rf (by decide)), (get_eq eF1), n5, i_x_length, (show 0 ≤ (0 : Int32).toInt ∧ (0 : Int32).toInt ≤ 1 by decide), (by have zl0 : (0 : Int32).toInt = 0 := (by decide); omega), rfl⟩
set_option maxHeartbeats 4000000 in
set_option maxRecDepth 100000 in
theorem m_X10_taken (l : Launch) (D : va_G) (cI cJ cB cP cM cZ : ClassId) (h0 : Nat) (Fh : Nat → Value) (x_length : Int32) (p0 : Int32) (sz : Nat) (e_length : Fh 2 = .int x_length) (i_x_length : IR 0 940 x_length) (i_p0 : IR 200 940 p0) : CV l yX10_taken cX10_taken 2 none { frames := 0, cells := 0, slots := 0, locals := 0 } (GG D cI cJ cB cP cM cZ) D [(h0, .inr (10, vL 67 Fh))] sz [.ref h0, .int p0] (fun (u : va_W) => ∃ (Gh : Nat → Value), SAME [2, 3, 4, 5] Fh Gh ∧ Gh 2 = .int 0 ∧ Gh 3 = .int x_length ∧ Gh 4 = .int 0 ∧ Gh 5 = .int p0 ∧ u = [(h0, .inr (10, vL 67 Gh))]) := by
  refine CV_mk (by decide) (Nat.le_of_ble_eq_true rfl) ?_
  intro p e s m below meth c A ls E hAe hG hsz hP hD hA hS hl
  obtain ⟨hx, hb, hr, hw, hown, hlocks, hml, hnm⟩ := E
  have hK := hG.1
  have i_x_length : 0 ≤ x_length.toInt ∧ x_length.toInt ≤ 940 := i_x_length
  have i_p0 : 200 ≤ p0.toInt ∧ p0.toInt ≤ 940 := i_p0
  have hl : lv_has ls 2 [(0, .ref h0), (1, .int p0)] := hl
  refine lv_aload_n hx hb dX10_taken_0 rfl (lv_at hl 0 rfl) ?_
  refine lv_aload_n hx hb dX10_taken_1 rfl (lv_at hl 0 rfl) ?_
  refine get_f (D := D) (ci := 10) (v := .int x_length) (C := RX10) (T := TX10) (N := 67) hx hb hw inAX10 hown hK hP 0 rfl rfl 2 (by decide) (hw _ q_1263) (fun _ h9 => h9) e_length dX10_taken_2 ?_
  refine put_f (D := D) (ci := 10) (v := .int x_length) (ty := .int) (C := RX10) (T := TX10) (N := 67) hx hb hw inAX10 tyX10 tyX10_ok nmX10 hown hK hP hD hS 0 rfl rfl 3 (by decide) (hw _ q_1264) (fun _ h9 => h9) rfl (by decide +kernel) rfl rfl dX10_taken_5 (fun H locs F1 eF1 hP hD hS => ?_)
  have hP : va_P D vwCl [(h0, .inr (10, vL 67 F1))] H := hP
  have hD : va_D A [(h0, .inr (10, vL 67 F1))] := hD
  refine lv_aload_n hx hb dX10_taken_8 rfl (lv_at hl 0 rfl) ?_
  refine lv_iconst (v := 0) hx hb dX10_taken_9 (by decide) ?_
  refine put_f (D := D) (ci := 10) (v := .int 0) (ty := .int) (C := RX10) (T := TX10) (N := 67) hx hb hw inAX10 tyX10 tyX10_ok nmX10 hown hK hP hD hS 0 rfl rfl 2 (by decide) (hw _ q_1263) (fun _ h9 => h9) rfl (by decide +kernel) rfl rfl dX10_taken_10 (fun H locs F2 eF2 hP hD hS => ?_)
  have hP : va_P D vwCl [(h0, .inr (10, vL 67 F2))] H := hP
  have hD : va_D A [(h0, .inr (10, vL 67 F2))] := hD
  refine lv_aload_n hx hb dX10_taken_13 rfl (lv_at hl 0 rfl) ?_
  refine lv_iconst (v := 0) hx hb dX10_taken_14 (by decide) ?_
  refine put_f (D := D) (ci := 10) (v := .int 0) (ty := .int) (C := RX10) (T := TX10) (N := 67) hx hb hw inAX10 tyX10 tyX10_ok nmX10 hown hK hP hD hS 0 rfl rfl 4 (by decide) (hw _ q_1265) (fun _ h9 => h9) rfl (by decide +kernel) rfl rfl dX10_taken_15 (fun H locs F3 eF3 hP hD hS => ?_)
  have hP : va_P D vwCl [(h0, .inr (10, vL 67 F3))] H := hP
  have hD : va_D A [(h0, .inr (10, vL 67 F3))] := hD
  refine lv_aload_n hx hb dX10_taken_18 rfl (lv_at hl 0 rfl) ?_
  refine lv_iload_n hx hb dX10_taken_19 rfl (lv_at hl 1 rfl) ?_
  refine put_f (D := D) (ci := 10) (v := .int p0) (ty := .int) (C := RX10) (T := TX10) (N := 67) hx hb hw inAX10 tyX10 tyX10_ok nmX10 hown hK hP hD hS 0 rfl rfl 5 (by decide) (hw _ q_1266) (fun _ h9 => h9) rfl (by decide +kernel) rfl rfl dX10_taken_20 (fun H locs F4 eF4 hP hD hS => ?_)
  have hP : va_P D vwCl [(h0, .inr (10, vL 67 F4))] H := hP
  have hD : va_D A [(h0, .inr (10, vL 67 F4))] := hD
  exact ret_v hx hb hr hlocks hS hP hD dX10_taken_23 (Nat.le_of_ble_eq_true rfl) (Nat.le_of_ble_eq_true rfl) ⟨F4, (SAME.up eF4 (SAME.up eF3 (SAME.up eF2 (SAME.up eF1 SAME.rf (by decide)) (by decide)) (by decide)) (by decide)), (get_ne eF4 (by decide) (get_ne eF3 (by decide) (get_eq eF2))), (get_ne eF4 (by decide) (get_ne eF3 (by decide) (get_ne eF2 (by decide) (get_eq eF1)))), (get_ne eF4 (by decide) (get_eq eF3)), (get_eq eF4), rfl⟩
set_option maxHeartbeats 4000000 in
set_option maxRecDepth 100000 in
theorem m_X10_isIn (l : Launch) (D : va_G) (cI cJ cB cP cM cZ : ClassId) (p0 : Int32) (p1 : Int32) (p2 : Int32) (sz : Nat)  : CI l yX10_isIn cX10_isIn 3 (some .boolean) { frames := 0, cells := 0, slots := 0, locals := 0 } (GG D cI cJ cB cP cM cZ) D [] sz [.int p0, .int p1, .int p2] (fun (r : Int32) (u : va_W) => (p0.toInt < p1.toInt ∧ r = 0 ∧ u = []) ∨ (p1.toInt ≤ p0.toInt ∧ p2.toInt < p0.toInt ∧ r = 0 ∧ u = []) ∨ (p1.toInt ≤ p0.toInt ∧ p0.toInt ≤ p2.toInt ∧ r = 1 ∧ u = [])) := by
  refine CI_mk (by decide) (Nat.le_of_ble_eq_true rfl) ?_
  intro p e s m below meth c A ls E hAe hG hsz hP hD hA hS hl
  obtain ⟨hx, hb, hr, hw, hown, hlocks, hml, hnm⟩ := E
  have hK := hG.1
  have hl : lv_has ls 3 [(0, .int p0), (1, .int p1), (2, .int p2)] := hl
  refine lv_iload_n hx hb dX10_isIn_0 rfl (lv_at hl 0 rfl) ?_
  refine lv_iload_n hx hb dX10_isIn_1 rfl (lv_at hl 1 rfl) ?_
  refine lv_icmp_lt (tgt := 14) hx hb dX10_isIn_2 (by decide) (fun c1 => ?_) (fun c1 => ?_)
  · have dc1 : p0.toInt < p1.toInt := lt_i (a := p0.toInt) (b := p1.toInt) rfl rfl c1
    have k2 : (-2147483648) ≤ p0.toInt ∧ p0.toInt ≤ 2147483646 := ⟨(ir_any _).1, up_lt dc1 (ir_any _).2 (by decide)⟩
    have k3 : (-2147483647) ≤ p1.toInt ∧ p1.toInt ≤ 2147483647 := ⟨lo_lt dc1 (ir_any _).1 (by decide), (ir_any _).2⟩
    refine lv_iconst (v := 0) hx hb dX10_isIn_14 (by decide) ?_
    exact ret_i (v := 0) hx hb hr hlocks hS hP hD dX10_isIn_15 rfl (Nat.le_of_ble_eq_true rfl) (Nat.le_of_ble_eq_true rfl) (Or.inl ⟨dc1, rfl, rfl⟩)
  · have dc1 : p1.toInt ≤ p0.toInt := nlt_i (a := p0.toInt) (b := p1.toInt) rfl rfl c1
    refine lv_iload_n hx hb dX10_isIn_5 rfl (lv_at hl 0 rfl) ?_
    refine lv_iload_n hx hb dX10_isIn_6 rfl (lv_at hl 2 rfl) ?_
    refine lv_icmp_gt (tgt := 14) hx hb dX10_isIn_7 (by decide) (fun c4 => ?_) (fun c4 => ?_)
    · have dc4 : p2.toInt < p0.toInt := lt_i (a := p2.toInt) (b := p0.toInt) rfl rfl c4
      have k5 : (-2147483648) ≤ p2.toInt ∧ p2.toInt ≤ 2147483646 := ⟨(ir_any _).1, up_lt dc4 (ir_any _).2 (by decide)⟩
      have k6 : (-2147483647) ≤ p0.toInt ∧ p0.toInt ≤ 2147483647 := ⟨lo_lt dc4 (ir_any _).1 (by decide), (ir_any _).2⟩
      refine lv_iconst (v := 0) hx hb dX10_isIn_14 (by decide) ?_
      exact ret_i (v := 0) hx hb hr hlocks hS hP hD dX10_isIn_15 rfl (Nat.le_of_ble_eq_true rfl) (Nat.le_of_ble_eq_true rfl) (Or.inr (Or.inl ⟨dc1, dc4, rfl, rfl⟩))
    · have dc4 : p0.toInt ≤ p2.toInt := nlt_i (a := p2.toInt) (b := p0.toInt) rfl rfl c4
      refine lv_iconst (v := 1) hx hb dX10_isIn_10 (by decide) ?_
      refine lv_goto (tgt := 15) hx hb dX10_isIn_11 (by decide) ?_
      exact ret_i (v := 1) hx hb hr hlocks hS hP hD dX10_isIn_15 rfl (Nat.le_of_ble_eq_true rfl) (Nat.le_of_ble_eq_true rfl) (Or.inr (Or.inr ⟨dc1, dc4, rfl, rfl⟩))
set_option maxHeartbeats 4000000 in
set_option maxRecDepth 100000 in
theorem m_X10_bitOf (l : Launch) (D : va_G) (cI cJ cB cP cM cZ : ClassId) (p0 : Int32) (p1 : Int32) (sz : Nat)  : CI l yX10_bitOf cX10_bitOf 2 (some .boolean) { frames := 0, cells := 0, slots := 0, locals := 0 } (GG D cI cJ cB cP cM cZ) D [] sz [.int p0, .int p1] (fun (r : Int32) (u : va_W) => (((r.toInt = 1 ∧ tst p0 p1 = 1) ∨ (r.toInt = 0 ∧ tst p0 p1 = 0)) ∧ r = 0 ∧ u = []) ∨ (((r.toInt = 1 ∧ tst p0 p1 = 1) ∨ (r.toInt = 0 ∧ tst p0 p1 = 0)) ∧ r = 1 ∧ u = [])) := by
  refine CI_mk (by decide) (Nat.le_of_ble_eq_true rfl) ?_
  intro p e s m below meth c A ls E hAe hG hsz hP hD hA hS hl
  obtain ⟨hx, hb, hr, hw, hown, hlocks, hml, hnm⟩ := E
  have hK := hG.1
  have hl : lv_has ls 2 [(0, .int p0), (1, .int p1)] := hl
  refine lv_iload_n hx hb dX10_bitOf_0 rfl (lv_at hl 0 rfl) ?_
  refine lv_iload_n hx hb dX10_bitOf_1 rfl (lv_at hl 1 rfl) ?_
  refine lv_ishr hx hb dX10_bitOf_2 ?_
  refine lv_topi (fun v1 ev1 => ?_)
  refine lv_iconst (v := 1) hx hb dX10_bitOf_3 (by decide) ?_
  refine lv_iand hx hb dX10_bitOf_4 ?_
  refine lv_topi (fun v2 ev2 => ?_)
  have k3 : 0 ≤ v2.toInt ∧ v2.toInt ≤ 1 := by rw [ev2]; exact and_i v1 1 (by decide)
  refine lv_iconst (v := 1) hx hb dX10_bitOf_5 (by decide) ?_
  refine lv_icmp_ne (tgt := 13) hx hb dX10_bitOf_6 (by decide) (fun c4 => ?_) (fun c4 => ?_)
  · have dc4 : v2.toInt ≠ 1 := ne_i (a := v2.toInt) (b := 1) rfl rfl c4
    have k5 : 0 ≤ v2.toInt ∧ v2.toInt ≤ 0 := ⟨k3.1, ne_hi dc4 k3.2 ⟨Int.le_refl _, Int.le_refl _⟩ (by decide)⟩
    refine lv_iconst (v := 0) hx hb dX10_bitOf_13 (by decide) ?_
    exact ret_i (v := 0) hx hb hr hlocks hS hP hD dX10_bitOf_14 rfl (Nat.le_of_ble_eq_true rfl) (Nat.le_of_ble_eq_true rfl) (Or.inl ⟨(Or.inr ⟨by decide, by show ((p0 >>> (p1 &&& 31)) &&& 1).toInt = 0; rw [← ev1, ← ev2]; omega⟩), rfl, rfl⟩)
  · have dc4 : v2.toInt = 1 := eq_i (a := v2.toInt) (b := 1) rfl rfl c4
    have k6 : 1 ≤ v2.toInt ∧ v2.toInt ≤ 1 := ⟨Int.le_trans (Int.le_refl _) (Int.le_of_eq dc4.symm), k3.2⟩
    refine lv_iconst (v := 1) hx hb dX10_bitOf_9 (by decide) ?_
    refine lv_goto (tgt := 14) hx hb dX10_bitOf_10 (by decide) ?_
    exact ret_i (v := 1) hx hb hr hlocks hS hP hD dX10_bitOf_14 rfl (Nat.le_of_ble_eq_true rfl) (Nat.le_of_ble_eq_true rfl) (Or.inr ⟨(Or.inl ⟨by decide, by show ((p0 >>> (p1 &&& 31)) &&& 1).toInt = 1; rw [← ev1, ← ev2]; omega⟩), rfl, rfl⟩)
def fn_X10_off (p0 : Int32) (p1 : Int32) : Int32 := (if p1 ≤ p0 then (p0 - p1) else (p1 - p0))
set_option maxHeartbeats 4000000 in
set_option maxRecDepth 100000 in
theorem m_X10_off (l : Launch) (D : va_G) (cI cJ cB cP cM cZ : ClassId) (p0 : Int32) (p1 : Int32) (sz : Nat)  : CI l yX10_off cX10_off 2 (some .int) { frames := 0, cells := 0, slots := 0, locals := 0 } (GG D cI cJ cB cP cM cZ) D [] sz [.int p0, .int p1] (fun (r : Int32) (u : va_W) => r = fn_X10_off p0 p1 ∧ u = []) := by
  refine CI_mk (by decide) (Nat.le_of_ble_eq_true rfl) ?_
  intro p e s m below meth c A ls E hAe hG hsz hP hD hA hS hl
  obtain ⟨hx, hb, hr, hw, hown, hlocks, hml, hnm⟩ := E
  have hK := hG.1
  have hl : lv_has ls 2 [(0, .int p0), (1, .int p1)] := hl
  refine lv_iload_n hx hb dX10_off_0 rfl (lv_at hl 0 rfl) ?_
  refine lv_iload_n hx hb dX10_off_1 rfl (lv_at hl 1 rfl) ?_
  refine lv_icmp_ge (tgt := 11) hx hb dX10_off_2 (by decide) (fun c1 => ?_) (fun c1 => ?_)
  · have dc1 : p1.toInt ≤ p0.toInt := le_i (a := p1.toInt) (b := p0.toInt) rfl rfl c1
    refine lv_iload_n hx hb dX10_off_11 rfl (lv_at hl 0 rfl) ?_
    refine lv_iload_n hx hb dX10_off_12 rfl (lv_at hl 1 rfl) ?_
    refine lv_isub hx hb dX10_off_13 ?_
    refine lv_topi (fun v2 ev2 => ?_)
    exact ret_i (v := v2) hx hb hr hlocks hS hP hD dX10_off_14 rfl (Nat.le_of_ble_eq_true rfl) (Nat.le_of_ble_eq_true rfl) ⟨(by subst_vars; unfold fn_X10_off; rw [if_pos c1]), rfl⟩
  · have dc1 : p0.toInt < p1.toInt := nle_i (a := p1.toInt) (b := p0.toInt) rfl rfl c1
    have k3 : (-2147483648) ≤ p0.toInt ∧ p0.toInt ≤ 2147483646 := ⟨(ir_any _).1, up_lt dc1 (ir_any _).2 (by decide)⟩
    have k4 : (-2147483647) ≤ p1.toInt ∧ p1.toInt ≤ 2147483647 := ⟨lo_lt dc1 (ir_any _).1 (by decide), (ir_any _).2⟩
    refine lv_iload_n hx hb dX10_off_5 rfl (lv_at hl 1 rfl) ?_
    refine lv_iload_n hx hb dX10_off_6 rfl (lv_at hl 0 rfl) ?_
    refine lv_isub hx hb dX10_off_7 ?_
    refine lv_topi (fun v5 ev5 => ?_)
    refine lv_goto (tgt := 14) hx hb dX10_off_8 (by decide) ?_
    exact ret_i (v := v5) hx hb hr hlocks hS hP hD dX10_off_14 rfl (Nat.le_of_ble_eq_true rfl) (Nat.le_of_ble_eq_true rfl) ⟨(by subst_vars; unfold fn_X10_off; rw [if_neg c1]), rfl⟩
def fn_X10_lesser (p0 : Int32) (p1 : Int32) : Int32 := (if p1 ≤ p0 then p1 else p0)
set_option maxHeartbeats 4000000 in
set_option maxRecDepth 100000 in
theorem m_X10_lesser (l : Launch) (D : va_G) (cI cJ cB cP cM cZ : ClassId) (p0 : Int32) (p1 : Int32) (sz : Nat)  : CI l yX10_lesser cX10_lesser 2 (some .int) { frames := 0, cells := 0, slots := 0, locals := 0 } (GG D cI cJ cB cP cM cZ) D [] sz [.int p0, .int p1] (fun (r : Int32) (u : va_W) => r = fn_X10_lesser p0 p1 ∧ (r.toInt ≤ p0.toInt ∧ r.toInt ≤ p1.toInt ∧ (r.toInt = p0.toInt ∨ r.toInt = p1.toInt)) ∧ u = []) := by
  refine CI_mk (by decide) (Nat.le_of_ble_eq_true rfl) ?_
  intro p e s m below meth c A ls E hAe hG hsz hP hD hA hS hl
  obtain ⟨hx, hb, hr, hw, hown, hlocks, hml, hnm⟩ := E
  have hK := hG.1
  have hl : lv_has ls 2 [(0, .int p0), (1, .int p1)] := hl
  refine lv_iload_n hx hb dX10_lesser_0 rfl (lv_at hl 0 rfl) ?_
  refine lv_iload_n hx hb dX10_lesser_1 rfl (lv_at hl 1 rfl) ?_
  refine lv_icmp_ge (tgt := 9) hx hb dX10_lesser_2 (by decide) (fun c1 => ?_) (fun c1 => ?_)
  · have dc1 : p1.toInt ≤ p0.toInt := le_i (a := p1.toInt) (b := p0.toInt) rfl rfl c1
    refine lv_iload_n hx hb dX10_lesser_9 rfl (lv_at hl 1 rfl) ?_
    exact ret_i (v := p1) hx hb hr hlocks hS hP hD dX10_lesser_10 rfl (Nat.le_of_ble_eq_true rfl) (Nat.le_of_ble_eq_true rfl) ⟨(by subst_vars; unfold fn_X10_lesser; rw [if_pos c1]), (by omega), rfl⟩
  · have dc1 : p0.toInt < p1.toInt := nle_i (a := p1.toInt) (b := p0.toInt) rfl rfl c1
    have k2 : (-2147483648) ≤ p0.toInt ∧ p0.toInt ≤ 2147483646 := ⟨(ir_any _).1, up_lt dc1 (ir_any _).2 (by decide)⟩
    have k3 : (-2147483647) ≤ p1.toInt ∧ p1.toInt ≤ 2147483647 := ⟨lo_lt dc1 (ir_any _).1 (by decide), (ir_any _).2⟩
    refine lv_iload_n hx hb dX10_lesser_5 rfl (lv_at hl 0 rfl) ?_
    refine lv_goto (tgt := 10) hx hb dX10_lesser_6 (by decide) ?_
    exact ret_i (v := p0) hx hb hr hlocks hS hP hD dX10_lesser_10 rfl (Nat.le_of_ble_eq_true rfl) (Nat.le_of_ble_eq_true rfl) ⟨(by subst_vars; unfold fn_X10_lesser; rw [if_neg c1]), (by omega), rfl⟩
def fn_X10_bounded (p0 : Int32) : Int32 := (if (10 : Int32) ≤ p0 then (fn_X10_lesser p0 (250 : Int32)) else (10 : Int32))
set_option maxHeartbeats 4000000 in
set_option maxRecDepth 100000 in
theorem m_X10_bounded (l : Launch) (D : va_G) (cI cJ cB cP cM cZ : ClassId) (p0 : Int32) (sz : Nat)  : CI l yX10_bounded cX10_bounded 1 (some .int) { frames := 1, cells := 0, slots := 0, locals := 21 } (GG D cI cJ cB cP cM cZ) D [] sz [.int p0] (fun (r : Int32) (u : va_W) => IR 10 250 r ∧ r = fn_X10_bounded p0 ∧ u = []) := by
  refine CI_mk (by decide) (Nat.le_of_ble_eq_true rfl) ?_
  intro p e s m below meth c A ls E hAe hG hsz hP hD hA hS hl
  obtain ⟨hx, hb, hr, hw, hown, hlocks, hml, hnm⟩ := E
  have hK := hG.1
  have hl : lv_has ls 1 [(0, .int p0)] := hl
  refine lv_iload_n hx hb dX10_bounded_0 rfl (lv_at hl 0 rfl) ?_
  refine lv_bipush (v := 10) hx hb dX10_bounded_1 (by decide) ?_
  refine lv_icmp_ge (tgt := 11) hx hb dX10_bounded_3 (by decide) (fun c1 => ?_) (fun c1 => ?_)
  · have dc1 : 10 ≤ p0.toInt := le_i (a := 10) (b := p0.toInt) rfl rfl c1
    have k2 : 10 ≤ p0.toInt ∧ p0.toInt ≤ 2147483647 := ⟨Int.le_trans (Int.le_refl _) dc1, (ir_any _).2⟩
    refine lv_iload_n hx hb dX10_bounded_11 rfl (lv_at hl 0 rfl) ?_
    refine lv_sipush (v := 250) hx hb dX10_bounded_12 (by decide) ?_
    refine call_Si (wr := []) (As := [.int p0, .int 250]) (rest := []) hx hb hml hown hw (m_X10_lesser l D cI cJ cB cP cM cZ p0 250 _ ) wS_X10_27_X10_lesser dX10_bounded_15 hP hD hS hA [] [] rfl rfl (by decide) (by decide) (by decide) GG.fb hG.at hl.1 rfl (Nat.le_of_ble_eq_true rfl) ⟨(Nat.le_of_ble_eq_true rfl), (Nat.le_of_ble_eq_true rfl)⟩ ⟨(Nat.le_of_ble_eq_true rfl), (Nat.le_of_ble_eq_true rfl)⟩ (fun r3 u H locs hp hP hD hS => ?_)
    have zl250 : (250 : Int32).toInt = 250 := by decide
    obtain ⟨t4, t5, rfl⟩ := hp
    have hP : va_P D vwCl [] H := hP
    have hD : va_D A [] := hD
    refine W.widen (k := 0) (n := 0) (Nat.le_of_ble_eq_true rfl) (Nat.le_of_ble_eq_true rfl) ?_
    have k7 : 10 ≤ r3.toInt ∧ r3.toInt ≤ 250 := ⟨by omega, by omega⟩
    exact ret_i (v := r3) hx hb hr hlocks hS hP hD dX10_bounded_18 rfl (Nat.le_of_ble_eq_true rfl) (Nat.le_of_ble_eq_true rfl) ⟨k7, (by subst_vars; unfold fn_X10_bounded; rw [if_pos c1]), rfl⟩
  · have dc1 : p0.toInt < 10 := nle_i (a := 10) (b := p0.toInt) rfl rfl c1
    have k8 : (-2147483648) ≤ p0.toInt ∧ p0.toInt ≤ 9 := ⟨(ir_any _).1, up_lt dc1 (Int.le_refl _) (by decide)⟩
    refine lv_bipush (v := 10) hx hb dX10_bounded_6 (by decide) ?_
    refine lv_goto (tgt := 18) hx hb dX10_bounded_8 (by decide) ?_
    exact ret_i (v := 10) hx hb hr hlocks hS hP hD dX10_bounded_18 rfl (Nat.le_of_ble_eq_true rfl) (Nat.le_of_ble_eq_true rfl) ⟨(show 10 ≤ (10 : Int32).toInt ∧ (10 : Int32).toInt ≤ 250 by decide), (by subst_vars; unfold fn_X10_bounded; rw [if_neg c1]), rfl⟩
set_option maxHeartbeats 4000000 in
set_option maxRecDepth 100000 in
theorem m_X10_octet (l : Launch) (D : va_G) (cI cJ cB cP cM cZ : ClassId) (h0 : Nat) (h_tape : Nat) (Fh : Nat → Value) (f_tape : Nat → Int32) (p0 : Int32) (sz : Nat) (e_tape : Fh 1 = .ref h_tape) (i_p0 : IR 0 939 p0) : CI l yX10_octet cX10_octet 2 (some .int) { frames := 0, cells := 0, slots := 0, locals := 0 } (GG D cI cJ cB cP cM cZ) D [(h0, .inr (10, vL 67 Fh)), (h_tape, .inl (cB, 940, .inl f_tape))] sz [.ref h0, .int p0] (fun (r : Int32) (u : va_W) => IR 0 255 r ∧ u = [(h0, .inr (10, vL 67 Fh)), (h_tape, .inl (cB, 940, .inl f_tape))]) := by
  refine CI_mk (by decide) (Nat.le_of_ble_eq_true rfl) ?_
  intro p e s m below meth c A ls E hAe hG hsz hP hD hA hS hl
  obtain ⟨hx, hb, hr, hw, hown, hlocks, hml, hnm⟩ := E
  have hK := hG.1
  have i_p0 : 0 ≤ p0.toInt ∧ p0.toInt ≤ 939 := i_p0
  have hl : lv_has ls 2 [(0, .ref h0), (1, .int p0)] := hl
  refine lv_aload_n hx hb dX10_octet_0 rfl (lv_at hl 0 rfl) ?_
  refine get_f (D := D) (ci := 10) (v := .ref h_tape) (C := RX10) (T := TX10) (N := 67) hx hb hw inAX10 hown hK hP 0 rfl rfl 1 (by decide) (hw _ q_1262) (fun _ h9 => h9) e_tape dX10_octet_1 ?_
  refine lv_iload_n hx hb dX10_octet_4 rfl (lv_at hl 1 rfl) ?_
  refine va_bald hx hb hK hP 1 2 rfl rfl (ix_k i_p0 (by decide) (by decide)) dX10_octet_5 ?_
  refine lv_topi (fun v1 ev1 => ?_)
  refine lv_sipush (v := 255) hx hb dX10_octet_6 (by decide) ?_
  refine lv_iand hx hb dX10_octet_9 ?_
  refine lv_topi (fun v2 ev2 => ?_)
  have k3 : 0 ≤ v2.toInt ∧ v2.toInt ≤ 255 := by rw [ev2]; exact and_i v1 8 (by decide)
  exact ret_i (v := v2) hx hb hr hlocks hS hP hD dX10_octet_10 rfl (Nat.le_of_ble_eq_true rfl) (Nat.le_of_ble_eq_true rfl) ⟨k3, rfl⟩
set_option maxHeartbeats 4000000 in
set_option maxRecDepth 100000 in
theorem m_X10_clears (l : Launch) (D : va_G) (cI cJ cB cP cM cZ : ClassId) (h0 : Nat) (h_h : Nat) (Fh : Nat → Value) (f_h : Nat → Int32) (sz : Nat) (e_h : Fh 7 = .ref h_h) (s_h_0 : SG 0 0 0 40 f_h) (s_h_44 : SG 44 55 0 9 f_h) (s_h_5 : SG 5 5 0 12 f_h) (s_h_6 : SG 6 6 0 12 f_h) (s_h_7 : SG 7 7 0 6 f_h) : CV l yX10_clears cX10_clears 2 none { frames := 0, cells := 0, slots := 0, locals := 0 } (GG D cI cJ cB cP cM cZ) D [(h0, .inr (10, vL 67 Fh)), (h_h, .inl (cI, 104, .inl f_h))] sz [.ref h0] (fun (u : va_W) => ∃ (g_h : Nat → Int32), SG 0 0 0 40 g_h ∧ SG 5 5 0 12 g_h ∧ SG 6 6 0 12 g_h ∧ SG 7 7 0 6 g_h ∧ SG 44 55 0 9 g_h ∧ ((g_h 0).toInt = 40 ∧ (g_h 5).toInt = 0 ∧ (g_h 6).toInt = 0 ∧ (g_h 7).toInt = 0) ∧ u = [(h0, .inr (10, vL 67 Fh)), (h_h, .inl (cI, 104, .inl g_h))]) := by
  refine CV_mk (by decide) (Nat.le_of_ble_eq_true rfl) ?_
  intro p e s m below meth c A ls E hAe hG hsz hP hD hA hS hl
  obtain ⟨hx, hb, hr, hw, hown, hlocks, hml, hnm⟩ := E
  have hK := hG.1
  have hl : lv_has ls 2 [(0, .ref h0)] := hl
  refine lv_iconst (v := 0) hx hb dX10_clears_0 (by decide) ?_
  refine lv_istore_n (lv' := [(1, .int 0), (0, .ref h0)]) hx hb dX10_clears_1 rfl hl (by decide) rfl (fun ls hl => ?_)
  refine mloop (α := (Int32) × (Nat → Int32)) (nL := 2) (D := D) (A := A) (H0 := s.heap) (fun a => (104 - a.1.toInt).toNat) (fun a => IR 0 104 a.1 ∧ SG 0 0 0 40 a.2 ∧ SG 44 55 0 9 a.2 ∧ SG 5 5 0 12 a.2 ∧ SG 6 6 0 12 a.2 ∧ SG 7 7 0 6 a.2 ∧ (FILK a.2 0 (a.1.toInt))) (fun a => [(h0, .inr (10, vL 67 Fh)), (h_h, .inl (cI, 104, .inl a.2))]) (fun a => [(1, .int a.1), (0, .ref h0)]) (fun H locs ls => W p l e ({ frames := 0, cells := 0, slots := 0, locals := 0 } : Room) s m [.ref h0].toArray below meth c H locs 0 0 (MQ below (va_Qv (fun (u : va_W) => ∃ (g_h : Nat → Int32), SG 0 0 0 40 g_h ∧ SG 5 5 0 12 g_h ∧ SG 6 6 0 12 g_h ∧ SG 7 7 0 6 g_h ∧ SG 44 55 0 9 g_h ∧ ((g_h 0).toInt = 40 ∧ (g_h 5).toInt = 0 ∧ (g_h 6).toInt = 0 ∧ (g_h 7).toInt = 0) ∧ u = [(h0, .inr (10, vL 67 Fh)), (h_h, .inl (cI, 104, .inl g_h))]) (PO D A) A) [.ref h0].toArray s 0 0 A) (F0 m 2 ls [])) ?_ (0, f_h) ⟨(show 0 ≤ (0 : Int32).toInt ∧ (0 : Int32).toInt ≤ 104 by decide), s_h_0, s_h_44, s_h_5, s_h_6, s_h_7, (show FILK f_h 0 (0) from (FILK.zero (by decide)))⟩ _ _ _ hP hD hS hl
  rintro ⟨u1, w2⟩ ⟨i3, i4, i5, i6, i7, i8, i9⟩ ih H locs ls hP hD hS hl
  have i3 : 0 ≤ u1.toInt ∧ u1.toInt ≤ 104 := i3
  have i9 : FILK w2 0 (u1.toInt) := i9
  have hP : va_P D vwCl [(h0, .inr (10, vL 67 Fh)), (h_h, .inl (cI, 104, .inl w2))] H := hP
  have hD : va_D A [(h0, .inr (10, vL 67 Fh)), (h_h, .inl (cI, 104, .inl w2))] := hD
  have hl : lv_has ls 2 [(1, .int u1), (0, .ref h0)] := hl
  refine lv_iload_n hx hb dX10_clears_2 rfl (lv_at hl 0 rfl) ?_
  refine lv_bipush (v := 104) hx hb dX10_clears_3 (by decide) ?_
  refine lv_icmp_ge (tgt := 21) hx hb dX10_clears_5 (by decide) (fun c10 => ?_) (fun c10 => ?_)
  · have dc10 : 104 ≤ u1.toInt := le_i (a := 104) (b := u1.toInt) rfl rfl c10
    have k11 : 104 ≤ u1.toInt ∧ u1.toInt ≤ 104 := ⟨Int.le_trans (Int.le_refl _) dc10, i3.2⟩
    refine lv_aload_n hx hb dX10_clears_21 rfl (lv_at hl 1 rfl) ?_
    refine get_f (D := D) (ci := 10) (v := .ref h_h) (C := RX10) (T := TX10) (N := 67) hx hb hw inAX10 hown hK hP 0 rfl rfl 7 (by decide) (hw _ q_1268) (fun _ h9 => h9) e_h dX10_clears_22 ?_
    refine lv_iconst (v := 0) hx hb dX10_clears_25 (by decide) ?_
    refine lv_bipush (v := 40) hx hb dX10_clears_26 (by decide) ?_
    obtain ⟨g12, eg12⟩ : ∃ z : Nat → Int32, upd w2 0 40 = z := ⟨_, rfl⟩
    have r13 : SG 0 0 0 40 g12 := by rw [← eg12]; exact i4.upN (Or.inr (Or.inr ⟨by decide, by decide⟩))
    have r14 : SG 44 55 0 9 g12 := by rw [← eg12]; exact i5.upN (Or.inl (by decide))
    have r15 : SG 5 5 0 12 g12 := by rw [← eg12]; exact i6.upN (Or.inl (by decide))
    have r16 : SG 6 6 0 12 g12 := by rw [← eg12]; exact i7.upN (Or.inl (by decide))
    have r17 : SG 7 7 0 6 g12 := by rw [← eg12]; exact i8.upN (Or.inl (by decide))
    refine iast_n hx hb hK hP hD hS 1 0 rfl rfl 0 rfl (Nat.le_of_ble_eq_true rfl) (Nat.le_of_ble_eq_true rfl) eg12 dX10_clears_28 (fun H locs hP hD hS => ?_)
    have hP : va_P D vwCl [(h0, .inr (10, vL 67 Fh)), (h_h, .inl (cI, 104, .inl g12))] H := hP
    have hD : va_D A [(h0, .inr (10, vL 67 Fh)), (h_h, .inl (cI, 104, .inl g12))] := hD
    refine lv_aload_n hx hb dX10_clears_29 rfl (lv_at hl 1 rfl) ?_
    refine get_f (D := D) (ci := 10) (v := .ref h_h) (C := RX10) (T := TX10) (N := 67) hx hb hw inAX10 hown hK hP 0 rfl rfl 7 (by decide) (hw _ q_1268) (fun _ h9 => h9) e_h dX10_clears_30 ?_
    refine lv_iconst (v := 1) hx hb dX10_clears_33 (by decide) ?_
    refine lv_sipush (v := 210) hx hb dX10_clears_34 (by decide) ?_
    obtain ⟨g18, eg18⟩ : ∃ z : Nat → Int32, upd g12 1 210 = z := ⟨_, rfl⟩
    have r19 : SG 0 0 0 40 g18 := by rw [← eg18]; exact r13.upN (Or.inr (Or.inl (by decide)))
    have r20 : SG 44 55 0 9 g18 := by rw [← eg18]; exact r14.upN (Or.inl (by decide))
    have r21 : SG 5 5 0 12 g18 := by rw [← eg18]; exact r15.upN (Or.inl (by decide))
    have r22 : SG 6 6 0 12 g18 := by rw [← eg18]; exact r16.upN (Or.inl (by decide))
    have r23 : SG 7 7 0 6 g18 := by rw [← eg18]; exact r17.upN (Or.inl (by decide))
    refine iast_n hx hb hK hP hD hS 1 0 rfl rfl 1 rfl (Nat.le_of_ble_eq_true rfl) (Nat.le_of_ble_eq_true rfl) eg18 dX10_clears_37 (fun H locs hP hD hS => ?_)
    have hP : va_P D vwCl [(h0, .inr (10, vL 67 Fh)), (h_h, .inl (cI, 104, .inl g18))] H := hP
    have hD : va_D A [(h0, .inr (10, vL 67 Fh)), (h_h, .inl (cI, 104, .inl g18))] := hD
    refine lv_aload_n hx hb dX10_clears_38 rfl (lv_at hl 1 rfl) ?_
    refine get_f (D := D) (ci := 10) (v := .ref h_h) (C := RX10) (T := TX10) (N := 67) hx hb hw inAX10 hown hK hP 0 rfl rfl 7 (by decide) (hw _ q_1268) (fun _ h9 => h9) e_h dX10_clears_39 ?_
    refine lv_iconst (v := 2) hx hb dX10_clears_42 (by decide) ?_
    refine lv_sipush (v := 630) hx hb dX10_clears_43 (by decide) ?_
    obtain ⟨g24, eg24⟩ : ∃ z : Nat → Int32, upd g18 2 630 = z := ⟨_, rfl⟩
    have r25 : SG 0 0 0 40 g24 := by rw [← eg24]; exact r19.upN (Or.inr (Or.inl (by decide)))
    have r26 : SG 44 55 0 9 g24 := by rw [← eg24]; exact r20.upN (Or.inl (by decide))
    have r27 : SG 5 5 0 12 g24 := by rw [← eg24]; exact r21.upN (Or.inl (by decide))
    have r28 : SG 6 6 0 12 g24 := by rw [← eg24]; exact r22.upN (Or.inl (by decide))
    have r29 : SG 7 7 0 6 g24 := by rw [← eg24]; exact r23.upN (Or.inl (by decide))
    refine iast_n hx hb hK hP hD hS 1 0 rfl rfl 2 rfl (Nat.le_of_ble_eq_true rfl) (Nat.le_of_ble_eq_true rfl) eg24 dX10_clears_46 (fun H locs hP hD hS => ?_)
    have hP : va_P D vwCl [(h0, .inr (10, vL 67 Fh)), (h_h, .inl (cI, 104, .inl g24))] H := hP
    have hD : va_D A [(h0, .inr (10, vL 67 Fh)), (h_h, .inl (cI, 104, .inl g24))] := hD
    refine lv_aload_n hx hb dX10_clears_47 rfl (lv_at hl 1 rfl) ?_
    refine get_f (D := D) (ci := 10) (v := .ref h_h) (C := RX10) (T := TX10) (N := 67) hx hb hw inAX10 hown hK hP 0 rfl rfl 7 (by decide) (hw _ q_1268) (fun _ h9 => h9) e_h dX10_clears_48 ?_
    refine lv_iconst (v := 3) hx hb dX10_clears_51 (by decide) ?_
    refine lv_iconst (v := 2) hx hb dX10_clears_52 (by decide) ?_
    obtain ⟨g30, eg30⟩ : ∃ z : Nat → Int32, upd g24 3 2 = z := ⟨_, rfl⟩
    have r31 : SG 0 0 0 40 g30 := by rw [← eg30]; exact r25.upN (Or.inr (Or.inl (by decide)))
    have r32 : SG 44 55 0 9 g30 := by rw [← eg30]; exact r26.upN (Or.inl (by decide))
    have r33 : SG 5 5 0 12 g30 := by rw [← eg30]; exact r27.upN (Or.inl (by decide))
    have r34 : SG 6 6 0 12 g30 := by rw [← eg30]; exact r28.upN (Or.inl (by decide))
    have r35 : SG 7 7 0 6 g30 := by rw [← eg30]; exact r29.upN (Or.inl (by decide))
    refine iast_n hx hb hK hP hD hS 1 0 rfl rfl 3 rfl (Nat.le_of_ble_eq_true rfl) (Nat.le_of_ble_eq_true rfl) eg30 dX10_clears_53 (fun H locs hP hD hS => ?_)
    have hP : va_P D vwCl [(h0, .inr (10, vL 67 Fh)), (h_h, .inl (cI, 104, .inl g30))] H := hP
    have hD : va_D A [(h0, .inr (10, vL 67 Fh)), (h_h, .inl (cI, 104, .inl g30))] := hD
    refine lv_aload_n hx hb dX10_clears_54 rfl (lv_at hl 1 rfl) ?_
    refine get_f (D := D) (ci := 10) (v := .ref h_h) (C := RX10) (T := TX10) (N := 67) hx hb hw inAX10 hown hK hP 0 rfl rfl 7 (by decide) (hw _ q_1268) (fun _ h9 => h9) e_h dX10_clears_55 ?_
    refine lv_iconst (v := 4) hx hb dX10_clears_58 (by decide) ?_
    refine lv_iconst (v := 5) hx hb dX10_clears_59 (by decide) ?_
    obtain ⟨g36, eg36⟩ : ∃ z : Nat → Int32, upd g30 4 5 = z := ⟨_, rfl⟩
    have r37 : SG 0 0 0 40 g36 := by rw [← eg36]; exact r31.upN (Or.inr (Or.inl (by decide)))
    have r38 : SG 44 55 0 9 g36 := by rw [← eg36]; exact r32.upN (Or.inl (by decide))
    have r39 : SG 5 5 0 12 g36 := by rw [← eg36]; exact r33.upN (Or.inl (by decide))
    have r40 : SG 6 6 0 12 g36 := by rw [← eg36]; exact r34.upN (Or.inl (by decide))
    have r41 : SG 7 7 0 6 g36 := by rw [← eg36]; exact r35.upN (Or.inl (by decide))
    refine iast_n hx hb hK hP hD hS 1 0 rfl rfl 4 rfl (Nat.le_of_ble_eq_true rfl) (Nat.le_of_ble_eq_true rfl) eg36 dX10_clears_60 (fun H locs hP hD hS => ?_)
    have hP : va_P D vwCl [(h0, .inr (10, vL 67 Fh)), (h_h, .inl (cI, 104, .inl g36))] H := hP
    have hD : va_D A [(h0, .inr (10, vL 67 Fh)), (h_h, .inl (cI, 104, .inl g36))] := hD
    exact ret_v hx hb hr hlocks hS hP hD dX10_clears_61 (Nat.le_of_ble_eq_true rfl) (Nat.le_of_ble_eq_true rfl) ⟨g36, r37, r39, r40, r41, r38, ⟨by rw [← eg36, pk_un (by decide), ← eg30, pk_un (by decide), ← eg24, pk_un (by decide), ← eg18, pk_un (by decide), ← eg12, pk_us]; decide, by rw [← eg36, pk_un (by decide), ← eg30, pk_un (by decide), ← eg24, pk_un (by decide), ← eg18, pk_un (by decide), ← eg12, pk_un (by decide)]; exact congrArg Int32.toInt (FILK.at i9 5 (by omega)), by rw [← eg36, pk_un (by decide), ← eg30, pk_un (by decide), ← eg24, pk_un (by decide), ← eg18, pk_un (by decide), ← eg12, pk_un (by decide)]; exact congrArg Int32.toInt (FILK.at i9 6 (by omega)), by rw [← eg36, pk_un (by decide), ← eg30, pk_un (by decide), ← eg24, pk_un (by decide), ← eg18, pk_un (by decide), ← eg12, pk_un (by decide)]; exact congrArg Int32.toInt (FILK.at i9 7 (by omega))⟩, rfl⟩
  · have dc10 : u1.toInt < 104 := nle_i (a := 104) (b := u1.toInt) rfl rfl c10
    have k42 : 0 ≤ u1.toInt ∧ u1.toInt ≤ 103 := ⟨i3.1, up_lt dc10 (Int.le_refl _) (by decide)⟩
    refine lv_aload_n hx hb dX10_clears_8 rfl (lv_at hl 1 rfl) ?_
    refine get_f (D := D) (ci := 10) (v := .ref h_h) (C := RX10) (T := TX10) (N := 67) hx hb hw inAX10 hown hK hP 0 rfl rfl 7 (by decide) (hw _ q_1268) (fun _ h9 => h9) e_h dX10_clears_9 ?_
    refine lv_iload_n hx hb dX10_clears_12 rfl (lv_at hl 0 rfl) ?_
    refine lv_iconst (v := 0) hx hb dX10_clears_13 (by decide) ?_
    obtain ⟨g43, eg43⟩ : ∃ z : Nat → Int32, upd w2 u1.toNatClampNeg 0 = z := ⟨_, rfl⟩
    have r44 : SG 0 0 0 40 g43 := by rw [← eg43]; exact i4.up (Int.le_trans (by decide) k42.1) (Or.inr (Or.inr ⟨by decide, by decide⟩))
    have r45 : SG 44 55 0 9 g43 := by rw [← eg43]; exact i5.up (Int.le_trans (by decide) k42.1) (Or.inr (Or.inr ⟨by decide, by decide⟩))
    have r46 : SG 5 5 0 12 g43 := by rw [← eg43]; exact i6.up (Int.le_trans (by decide) k42.1) (Or.inr (Or.inr ⟨by decide, by decide⟩))
    have r47 : SG 6 6 0 12 g43 := by rw [← eg43]; exact i7.up (Int.le_trans (by decide) k42.1) (Or.inr (Or.inr ⟨by decide, by decide⟩))
    have r48 : SG 7 7 0 6 g43 := by rw [← eg43]; exact i8.up (Int.le_trans (by decide) k42.1) (Or.inr (Or.inr ⟨by decide, by decide⟩))
    refine iast_g hx hb hK hP hD hS 1 0 rfl rfl (ix_k k42 (by decide) (by decide)) eg43 dX10_clears_14 (fun H locs hP hD hS => ?_)
    have hP : va_P D vwCl [(h0, .inr (10, vL 67 Fh)), (h_h, .inl (cI, 104, .inl g43))] H := hP
    have hD : va_D A [(h0, .inr (10, vL 67 Fh)), (h_h, .inl (cI, 104, .inl g43))] := hD
    obtain ⟨v49, ev49⟩ : ∃ z : Int32, z = u1 + 1 := ⟨_, rfl⟩
    have bv49 : v49.toInt = u1.toInt + 1 := by rw [ev49]; exact add_k rfl rfl k42 ⟨Int.le_refl _, Int.le_refl _⟩ (by decide)
    have k50 : 1 ≤ v49.toInt ∧ v49.toInt ≤ 104 := add_r bv49 k42 ⟨Int.le_refl _, Int.le_refl _⟩ (by decide)
    refine lv_iinc (v := v49) (lv' := [(1, .int v49), (0, .ref h0)]) hx hb dX10_clears_15 hl (k := 0) rfl (by rw [ev49]; rfl) (by decide) rfl (fun ls hl => ?_)
    refine lv_goto (tgt := 2) hx hb dX10_clears_18 (by decide) ?_
    exact ih (v49, g43) ⟨(ir_wk k50 (by decide) (by decide)), r44, r45, r46, r47, r48, (show FILK g43 0 (v49.toInt) from (FILK.step i9 eg43 (by omega) (by omega) (by omega)))⟩ (by show (104 - v49.toInt).toNat < (104 - u1.toInt).toNat; omega) _ _ _ hP hD hS (lv_sub hl [0, 1] rfl)
