set_option maxHeartbeats 4000000 in
set_option maxRecDepth 100000 in
theorem m_X10_peek (l : Launch) (D : va_G) (cI cJ cB cP cM cZ : ClassId) (h0 : Nat) (h_tape : Nat) (Fh : Nat → Value) (x_size : Int32) (x_p : Int32) (f_tape : Nat → Int32) (sz : Nat) (e_tape : Fh 1 = .ref h_tape) (e_size : Fh 3 = .int x_size) (i_x_size : IR 0 940 x_size) (e_p : Fh 4 = .int x_p) (i_x_p : IR 0 940 x_p) : CI l yX10_peek cX10_peek 1 (some .int) { frames := 0, cells := 0, slots := 0, locals := 0 } (GG D cI cJ cB cP cM cZ) D [(h0, .inr (10, vL 67 Fh)), (h_tape, .inl (cB, 940, .inl f_tape))] sz [.ref h0] (fun (r : Int32) (u : va_W) => IR (-1) 255 r ∧ ((x_p.toInt < x_size.toInt ∧ r.toInt = tb f_tape x_p.toInt.toNat) ∨ (x_size.toInt ≤ x_p.toInt ∧ r.toInt = -1)) ∧ u = [(h0, .inr (10, vL 67 Fh)), (h_tape, .inl (cB, 940, .inl f_tape))]) := by
  refine CI_mk (by decide) (Nat.le_of_ble_eq_true rfl) ?_
  intro p e s m below meth c A ls E hAe hG hsz hP hD hA hS hl
  obtain ⟨hx, hb, hr, hw, hown, hlocks, hml, hnm⟩ := E
  have hK := hG.1
  have i_x_size : 0 ≤ x_size.toInt ∧ x_size.toInt ≤ 940 := i_x_size
  have i_x_p : 0 ≤ x_p.toInt ∧ x_p.toInt ≤ 940 := i_x_p
  have hl : lv_has ls 1 [(0, .ref h0)] := hl
  refine lv_aload_n hx hb dX10_peek_0 rfl (lv_at hl 0 rfl) ?_
  refine get_f (D := D) (ci := 10) (v := .int x_p) (C := RX10) (T := TX10) (N := 67) hx hb hw inAX10 hown hK hP 0 rfl rfl 4 (by decide) (hw _ q_1265) (fun _ h9 => h9) e_p dX10_peek_1 ?_
  refine lv_aload_n hx hb dX10_peek_4 rfl (lv_at hl 0 rfl) ?_
  refine get_f (D := D) (ci := 10) (v := .int x_size) (C := RX10) (T := TX10) (N := 67) hx hb hw inAX10 hown hK hP 0 rfl rfl 3 (by decide) (hw _ q_1264) (fun _ h9 => h9) e_size dX10_peek_5 ?_
  refine lv_icmp_ge (tgt := 27) hx hb dX10_peek_8 (by decide) (fun c1 => ?_) (fun c1 => ?_)
  · have dc1 : x_size.toInt ≤ x_p.toInt := le_i (a := x_size.toInt) (b := x_p.toInt) rfl rfl c1
    refine lv_iconst (v := (-1)) hx hb dX10_peek_27 (by decide) ?_
    exact ret_i (v := (-1)) hx hb hr hlocks hS hP hD dX10_peek_28 rfl (Nat.le_of_ble_eq_true rfl) (Nat.le_of_ble_eq_true rfl) ⟨(show (-1) ≤ ((-1) : Int32).toInt ∧ ((-1) : Int32).toInt ≤ 255 by decide), (Or.inr ⟨by omega, by decide⟩), rfl⟩
  · have dc1 : x_p.toInt < x_size.toInt := nle_i (a := x_size.toInt) (b := x_p.toInt) rfl rfl c1
    have k2 : 0 ≤ x_p.toInt ∧ x_p.toInt ≤ 939 := ⟨i_x_p.1, up_lt dc1 i_x_size.2 (by decide)⟩
    have k3 : 1 ≤ x_size.toInt ∧ x_size.toInt ≤ 940 := ⟨lo_lt dc1 i_x_p.1 (by decide), i_x_size.2⟩
    refine lv_aload_n hx hb dX10_peek_11 rfl (lv_at hl 0 rfl) ?_
    refine get_f (D := D) (ci := 10) (v := .ref h_tape) (C := RX10) (T := TX10) (N := 67) hx hb hw inAX10 hown hK hP 0 rfl rfl 1 (by decide) (hw _ q_1262) (fun _ h9 => h9) e_tape dX10_peek_12 ?_
    refine lv_aload_n hx hb dX10_peek_15 rfl (lv_at hl 0 rfl) ?_
    refine get_f (D := D) (ci := 10) (v := .int x_p) (C := RX10) (T := TX10) (N := 67) hx hb hw inAX10 hown hK hP 0 rfl rfl 4 (by decide) (hw _ q_1265) (fun _ h9 => h9) e_p dX10_peek_16 ?_
    refine va_bald hx hb hK hP 1 2 rfl rfl (ix_k k2 (by decide) (by decide)) dX10_peek_19 ?_
    refine lv_topi (fun v4 ev4 => ?_)
    refine lv_sipush (v := 255) hx hb dX10_peek_20 (by decide) ?_
    refine lv_iand hx hb dX10_peek_23 ?_
    refine lv_topi (fun v5 ev5 => ?_)
    have k6 : 0 ≤ v5.toInt ∧ v5.toInt ≤ 255 := by rw [ev5]; exact and_i v4 8 (by decide)
    refine lv_goto (tgt := 28) hx hb dX10_peek_24 (by decide) ?_
    exact ret_i (v := v5) hx hb hr hlocks hS hP hD dX10_peek_28 rfl (Nat.le_of_ble_eq_true rfl) (Nat.le_of_ble_eq_true rfl) ⟨(ir_wk k6 (by decide) (by decide)), (Or.inl ⟨by omega, by rw [ev5, ev4]; first | done | exact rfl⟩), rfl⟩
set_option maxHeartbeats 4000000 in
set_option maxRecDepth 100000 in
theorem m_X10_isSmall (l : Launch) (D : va_G) (cI cJ cB cP cM cZ : ClassId) (p0 : Int32) (sz : Nat)  : CI l yX10_isSmall cX10_isSmall 1 (some .boolean) { frames := 0, cells := 0, slots := 0, locals := 0 } (GG D cI cJ cB cP cM cZ) D [] sz [.int p0] (fun (r : Int32) (u : va_W) => IR 0 1 r ∧ ((r.toInt = 1 ∧ 97 ≤ p0.toInt ∧ p0.toInt ≤ 122) ∨ (r.toInt = 0 ∧ (p0.toInt < 97 ∨ 122 < p0.toInt))) ∧ u = []) := by
  refine CI_mk (by decide) (Nat.le_of_ble_eq_true rfl) ?_
  intro p e s m below meth c A ls E hAe hG hsz hP hD hA hS hl
  obtain ⟨hx, hb, hr, hw, hown, hlocks, hml, hnm⟩ := E
  have hK := hG.1
  have hl : lv_has ls 1 [(0, .int p0)] := hl
  refine lv_iload_n hx hb dX10_isSmall_0 rfl (lv_at hl 0 rfl) ?_
  refine lv_bipush (v := 97) hx hb dX10_isSmall_1 (by decide) ?_
  refine lv_icmp_lt (tgt := 16) hx hb dX10_isSmall_3 (by decide) (fun c1 => ?_) (fun c1 => ?_)
  · have dc1 : p0.toInt < 97 := lt_i (a := p0.toInt) (b := 97) rfl rfl c1
    have k2 : (-2147483648) ≤ p0.toInt ∧ p0.toInt ≤ 96 := ⟨(ir_any _).1, up_lt dc1 (Int.le_refl _) (by decide)⟩
    refine lv_iconst (v := 0) hx hb dX10_isSmall_16 (by decide) ?_
    exact ret_i (v := 0) hx hb hr hlocks hS hP hD dX10_isSmall_17 rfl (Nat.le_of_ble_eq_true rfl) (Nat.le_of_ble_eq_true rfl) ⟨(show 0 ≤ (0 : Int32).toInt ∧ (0 : Int32).toInt ≤ 1 by decide), (by have zl0 : (0 : Int32).toInt = 0 := (by decide); omega), rfl⟩
  · have dc1 : 97 ≤ p0.toInt := nlt_i (a := p0.toInt) (b := 97) rfl rfl c1
    have k3 : 97 ≤ p0.toInt ∧ p0.toInt ≤ 2147483647 := ⟨Int.le_trans (Int.le_refl _) dc1, (ir_any _).2⟩
    refine lv_iload_n hx hb dX10_isSmall_6 rfl (lv_at hl 0 rfl) ?_
    refine lv_bipush (v := 122) hx hb dX10_isSmall_7 (by decide) ?_
    refine lv_icmp_gt (tgt := 16) hx hb dX10_isSmall_9 (by decide) (fun c4 => ?_) (fun c4 => ?_)
    · have dc4 : 122 < p0.toInt := lt_i (a := 122) (b := p0.toInt) rfl rfl c4
      have k5 : 123 ≤ p0.toInt ∧ p0.toInt ≤ 2147483647 := ⟨lo_lt dc4 (Int.le_refl _) (by decide), k3.2⟩
      refine lv_iconst (v := 0) hx hb dX10_isSmall_16 (by decide) ?_
      exact ret_i (v := 0) hx hb hr hlocks hS hP hD dX10_isSmall_17 rfl (Nat.le_of_ble_eq_true rfl) (Nat.le_of_ble_eq_true rfl) ⟨(show 0 ≤ (0 : Int32).toInt ∧ (0 : Int32).toInt ≤ 1 by decide), (by have zl0 : (0 : Int32).toInt = 0 := (by decide); omega), rfl⟩
    · have dc4 : p0.toInt ≤ 122 := nlt_i (a := 122) (b := p0.toInt) rfl rfl c4
      have k6 : 97 ≤ p0.toInt ∧ p0.toInt ≤ 122 := ⟨k3.1, Int.le_trans dc4 (Int.le_refl _)⟩
      refine lv_iconst (v := 1) hx hb dX10_isSmall_12 (by decide) ?_
      refine lv_goto (tgt := 17) hx hb dX10_isSmall_13 (by decide) ?_
      exact ret_i (v := 1) hx hb hr hlocks hS hP hD dX10_isSmall_17 rfl (Nat.le_of_ble_eq_true rfl) (Nat.le_of_ble_eq_true rfl) ⟨(show 0 ≤ (1 : Int32).toInt ∧ (1 : Int32).toInt ≤ 1 by decide), (by have zl1 : (1 : Int32).toInt = 1 := (by decide); omega), rfl⟩
set_option maxHeartbeats 4000000 in
set_option maxRecDepth 100000 in
theorem m_X10_isDigit (l : Launch) (D : va_G) (cI cJ cB cP cM cZ : ClassId) (p0 : Int32) (sz : Nat)  : CI l yX10_isDigit cX10_isDigit 1 (some .boolean) { frames := 0, cells := 0, slots := 0, locals := 0 } (GG D cI cJ cB cP cM cZ) D [] sz [.int p0] (fun (r : Int32) (u : va_W) => IR 0 1 r ∧ ((r.toInt = 1 ∧ 48 ≤ p0.toInt ∧ p0.toInt ≤ 57) ∨ (r.toInt = 0 ∧ (p0.toInt < 48 ∨ 57 < p0.toInt))) ∧ u = []) := by
  refine CI_mk (by decide) (Nat.le_of_ble_eq_true rfl) ?_
  intro p e s m below meth c A ls E hAe hG hsz hP hD hA hS hl
  obtain ⟨hx, hb, hr, hw, hown, hlocks, hml, hnm⟩ := E
  have hK := hG.1
  have hl : lv_has ls 1 [(0, .int p0)] := hl
  refine lv_iload_n hx hb dX10_isDigit_0 rfl (lv_at hl 0 rfl) ?_
  refine lv_bipush (v := 48) hx hb dX10_isDigit_1 (by decide) ?_
  refine lv_icmp_lt (tgt := 16) hx hb dX10_isDigit_3 (by decide) (fun c1 => ?_) (fun c1 => ?_)
  · have dc1 : p0.toInt < 48 := lt_i (a := p0.toInt) (b := 48) rfl rfl c1
    have k2 : (-2147483648) ≤ p0.toInt ∧ p0.toInt ≤ 47 := ⟨(ir_any _).1, up_lt dc1 (Int.le_refl _) (by decide)⟩
    refine lv_iconst (v := 0) hx hb dX10_isDigit_16 (by decide) ?_
    exact ret_i (v := 0) hx hb hr hlocks hS hP hD dX10_isDigit_17 rfl (Nat.le_of_ble_eq_true rfl) (Nat.le_of_ble_eq_true rfl) ⟨(show 0 ≤ (0 : Int32).toInt ∧ (0 : Int32).toInt ≤ 1 by decide), (by have zl0 : (0 : Int32).toInt = 0 := (by decide); omega), rfl⟩
  · have dc1 : 48 ≤ p0.toInt := nlt_i (a := p0.toInt) (b := 48) rfl rfl c1
    have k3 : 48 ≤ p0.toInt ∧ p0.toInt ≤ 2147483647 := ⟨Int.le_trans (Int.le_refl _) dc1, (ir_any _).2⟩
    refine lv_iload_n hx hb dX10_isDigit_6 rfl (lv_at hl 0 rfl) ?_
    refine lv_bipush (v := 57) hx hb dX10_isDigit_7 (by decide) ?_
    refine lv_icmp_gt (tgt := 16) hx hb dX10_isDigit_9 (by decide) (fun c4 => ?_) (fun c4 => ?_)
    · have dc4 : 57 < p0.toInt := lt_i (a := 57) (b := p0.toInt) rfl rfl c4
      have k5 : 58 ≤ p0.toInt ∧ p0.toInt ≤ 2147483647 := ⟨lo_lt dc4 (Int.le_refl _) (by decide), k3.2⟩
      refine lv_iconst (v := 0) hx hb dX10_isDigit_16 (by decide) ?_
      exact ret_i (v := 0) hx hb hr hlocks hS hP hD dX10_isDigit_17 rfl (Nat.le_of_ble_eq_true rfl) (Nat.le_of_ble_eq_true rfl) ⟨(show 0 ≤ (0 : Int32).toInt ∧ (0 : Int32).toInt ≤ 1 by decide), (by have zl0 : (0 : Int32).toInt = 0 := (by decide); omega), rfl⟩
    · have dc4 : p0.toInt ≤ 57 := nlt_i (a := 57) (b := p0.toInt) rfl rfl c4
      have k6 : 48 ≤ p0.toInt ∧ p0.toInt ≤ 57 := ⟨k3.1, Int.le_trans dc4 (Int.le_refl _)⟩
      refine lv_iconst (v := 1) hx hb dX10_isDigit_12 (by decide) ?_
      refine lv_goto (tgt := 17) hx hb dX10_isDigit_13 (by decide) ?_
      exact ret_i (v := 1) hx hb hr hlocks hS hP hD dX10_isDigit_17 rfl (Nat.le_of_ble_eq_true rfl) (Nat.le_of_ble_eq_true rfl) ⟨(show 0 ≤ (1 : Int32).toInt ∧ (1 : Int32).toInt ≤ 1 by decide), (by have zl1 : (1 : Int32).toInt = 1 := (by decide); omega), rfl⟩
