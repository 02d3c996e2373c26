set_option maxHeartbeats 4000000 in
set_option maxRecDepth 100000 in
theorem m_X0_valueAt (l : Launch) (D : va_G) (cI cJ cB cP cM cZ : ClassId) (h0 : Nat) (h_values : Nat) (Fh : Nat → Value) (x_size : Int32) (x_told : Int32) (f_values : Nat → Int32) (p0 : Int32) (sz : Nat) (e_values : Fh 0 = .ref h_values) (e_size : Fh 2 = .int x_size) (e_told : Fh 3 = .int x_told) (i_x_told : IR 0 1 x_told) : CI l yX0_valueAt cX0_valueAt 2 (some .int) { frames := 0, cells := 0, slots := 0, locals := 0 } (GG D cI cJ cB cP cM cZ) D [(h0, .inr (0, vL 5 Fh)), (h_values, .inl (cI, 12, .inl f_values))] sz [.ref h0, .int p0] (fun (r : Int32) (u : va_W) => u = [(h0, .inr (0, vL 5 Fh)), (h_values, .inl (cI, 12, .inl f_values))]) := by
  refine CI_mk (by decide) (Nat.le_of_ble_eq_true rfl) ?_
  intro p e s m below meth c A ls E hAe hG hsz hP hD hA hS hl
  obtain ⟨hx, hb, hr, hw, hown, hlocks, hml, hnm⟩ := E
  have hK := hG.1
  have i_x_told : 0 ≤ x_told.toInt ∧ x_told.toInt ≤ 1 := i_x_told
  have hl : lv_has ls 2 [(0, .ref h0), (1, .int p0)] := hl
  refine lv_aload_n hx hb dX0_valueAt_0 rfl (lv_at hl 0 rfl) ?_
  refine get_f (D := D) (ci := 0) (v := .int x_told) (C := RX0) (T := TX0) (N := 5) hx hb hw inAX0 hown hK hP 0 rfl rfl 3 (by decide) (hw _ q_285) (fun _ h9 => h9) e_told dX0_valueAt_1 ?_
  refine lv_if_eq (tgt := 37) hx hb dX0_valueAt_4 (by decide) (fun c1 => ?_) (fun c1 => ?_)
  · have dc1 : x_told.toInt = 0 := eq_i (a := x_told.toInt) (b := 0) rfl rfl c1
    have k2 : 0 ≤ x_told.toInt ∧ x_told.toInt ≤ 0 := ⟨i_x_told.1, Int.le_trans (Int.le_of_eq dc1) (Int.le_refl _)⟩
    refine lv_iconst (v := (-1)) hx hb dX0_valueAt_37 (by decide) ?_
    exact ret_i (v := (-1)) hx hb hr hlocks hS hP hD dX0_valueAt_38 rfl (Nat.le_of_ble_eq_true rfl) (Nat.le_of_ble_eq_true rfl) rfl
  · have dc1 : x_told.toInt ≠ 0 := ne_i (a := x_told.toInt) (b := 0) rfl rfl c1
    have k3 : 1 ≤ x_told.toInt ∧ x_told.toInt ≤ 1 := ⟨ne_lo dc1 i_x_told.1 ⟨Int.le_refl _, Int.le_refl _⟩ (by decide), i_x_told.2⟩
    refine lv_iload_n hx hb dX0_valueAt_7 rfl (lv_at hl 1 rfl) ?_
    refine lv_if_lt (tgt := 37) hx hb dX0_valueAt_8 (by decide) (fun c4 => ?_) (fun c4 => ?_)
    · have dc4 : p0.toInt < 0 := lt_i (a := p0.toInt) (b := 0) rfl rfl c4
      have k5 : (-2147483648) ≤ p0.toInt ∧ p0.toInt ≤ (-1) := ⟨(ir_any _).1, up_lt dc4 (Int.le_refl _) (by decide)⟩
      refine lv_iconst (v := (-1)) hx hb dX0_valueAt_37 (by decide) ?_
      exact ret_i (v := (-1)) hx hb hr hlocks hS hP hD dX0_valueAt_38 rfl (Nat.le_of_ble_eq_true rfl) (Nat.le_of_ble_eq_true rfl) rfl
    · have dc4 : 0 ≤ p0.toInt := nlt_i (a := p0.toInt) (b := 0) rfl rfl c4
      have k6 : 0 ≤ p0.toInt ∧ p0.toInt ≤ 2147483647 := ⟨Int.le_trans (Int.le_refl _) dc4, (ir_any _).2⟩
      refine lv_iload_n hx hb dX0_valueAt_11 rfl (lv_at hl 1 rfl) ?_
      refine lv_aload_n hx hb dX0_valueAt_12 rfl (lv_at hl 0 rfl) ?_
      refine get_f (D := D) (ci := 0) (v := .int x_size) (C := RX0) (T := TX0) (N := 5) hx hb hw inAX0 hown hK hP 0 rfl rfl 2 (by decide) (hw _ q_284) (fun _ h9 => h9) e_size dX0_valueAt_13 ?_
      refine lv_icmp_ge (tgt := 37) hx hb dX0_valueAt_16 (by decide) (fun c7 => ?_) (fun c7 => ?_)
      · have dc7 : x_size.toInt ≤ p0.toInt := le_i (a := x_size.toInt) (b := p0.toInt) rfl rfl c7
        refine lv_iconst (v := (-1)) hx hb dX0_valueAt_37 (by decide) ?_
        exact ret_i (v := (-1)) hx hb hr hlocks hS hP hD dX0_valueAt_38 rfl (Nat.le_of_ble_eq_true rfl) (Nat.le_of_ble_eq_true rfl) rfl
      · have dc7 : p0.toInt < x_size.toInt := nle_i (a := x_size.toInt) (b := p0.toInt) rfl rfl c7
        have k8 : 0 ≤ p0.toInt ∧ p0.toInt ≤ 2147483646 := ⟨k6.1, up_lt dc7 (ir_any _).2 (by decide)⟩
        have k9 : 1 ≤ x_size.toInt ∧ x_size.toInt ≤ 2147483647 := ⟨lo_lt dc7 k6.1 (by decide), (ir_any _).2⟩
        refine lv_iload_n hx hb dX0_valueAt_19 rfl (lv_at hl 1 rfl) ?_
        refine lv_aload_n hx hb dX0_valueAt_20 rfl (lv_at hl 0 rfl) ?_
        refine get_f (D := D) (ci := 0) (v := .ref h_values) (C := RX0) (T := TX0) (N := 5) hx hb hw inAX0 hown hK hP 0 rfl rfl 0 (by decide) (hw _ q_281) (fun _ h9 => h9) e_values dX0_valueAt_21 ?_
        refine va_alen (v := 12) hx hb hK hP 1 0 rfl rfl rfl dX0_valueAt_24 ?_
        refine lv_icmp_ge (tgt := 37) hx hb dX0_valueAt_25 (by decide) (fun c10 => ?_) (fun c10 => ?_)
        · have dc10 : 12 ≤ p0.toInt := le_i (a := 12) (b := p0.toInt) rfl rfl c10
          have k11 : 12 ≤ p0.toInt ∧ p0.toInt ≤ 2147483646 := ⟨Int.le_trans (Int.le_refl _) dc10, k8.2⟩
          refine lv_iconst (v := (-1)) hx hb dX0_valueAt_37 (by decide) ?_
          exact ret_i (v := (-1)) hx hb hr hlocks hS hP hD dX0_valueAt_38 rfl (Nat.le_of_ble_eq_true rfl) (Nat.le_of_ble_eq_true rfl) rfl
        · have dc10 : p0.toInt < 12 := nle_i (a := 12) (b := p0.toInt) rfl rfl c10
          have k12 : 0 ≤ p0.toInt ∧ p0.toInt ≤ 11 := ⟨k8.1, up_lt dc10 (Int.le_refl _) (by decide)⟩
          refine lv_aload_n hx hb dX0_valueAt_28 rfl (lv_at hl 0 rfl) ?_
          refine get_f (D := D) (ci := 0) (v := .ref h_values) (C := RX0) (T := TX0) (N := 5) hx hb hw inAX0 hown hK hP 0 rfl rfl 0 (by decide) (hw _ q_281) (fun _ h9 => h9) e_values dX0_valueAt_29 ?_
          refine lv_iload_n hx hb dX0_valueAt_32 rfl (lv_at hl 1 rfl) ?_
          refine va_iald hx hb hK hP 1 0 rfl rfl (ix_k k12 (by decide) (by decide)) dX0_valueAt_33 ?_
          refine lv_topi (fun v13 ev13 => ?_)
          refine lv_goto (tgt := 38) hx hb dX0_valueAt_34 (by decide) ?_
          exact ret_i (v := v13) hx hb hr hlocks hS hP hD dX0_valueAt_38 rfl (Nat.le_of_ble_eq_true rfl) (Nat.le_of_ble_eq_true rfl) rfl
set_option maxHeartbeats 4000000 in
set_option maxRecDepth 100000 in
theorem m_X0_holdsFor (l : Launch) (D : va_G) (cI cJ cB cP cM cZ : ClassId) (h0 : Nat) (h_crew : Nat) (p0 : Nat) (p1 : Nat) (h_p1_crew : Nat) (Fh : Nat → Value) (x_told : Int32) (x_serial : Int32) (f_crew : Nat → Int32) (F_p0_ : Nat → Value) (x_p0_serial : Int32) (F_p1_ : Nat → Value) (x_p1_crewed : Int32) (f_p1_crew : Nat → Int32) (sz : Nat) (e_crew : Fh 1 = .ref h_crew) (e_told : Fh 3 = .int x_told) (i_x_told : IR 0 1 x_told) (e_serial : Fh 4 = .int x_serial) (e_p0_serial : F_p0_ 0 = .int x_p0_serial) (e_p1_crew : F_p1_ 0 = .ref h_p1_crew) (e_p1_crewed : F_p1_ 3 = .int x_p1_crewed) (i_x_p1_crewed : IR 0 1 x_p1_crewed) (s_p1_crew_0 : SG 0 3 0 11 f_p1_crew) : CI l yX0_holdsFor cX0_holdsFor 5 (some .boolean) { frames := 0, cells := 0, slots := 0, locals := 0 } (GG D cI cJ cB cP cM cZ) D [(h0, .inr (0, vL 5 Fh)), (h_crew, .inl (cI, 4, .inl f_crew)), (p0, .inr (1, vL 18 F_p0_)), (p1, .inr (5, vL 11 F_p1_)), (h_p1_crew, .inl (cI, 4, .inl f_p1_crew))] sz [.ref h0, .ref p0, .ref p1] (fun (r : Int32) (u : va_W) => IR 0 1 r ∧ u = [(h0, .inr (0, vL 5 Fh)), (h_crew, .inl (cI, 4, .inl f_crew)), (p0, .inr (1, vL 18 F_p0_)), (p1, .inr (5, vL 11 F_p1_)), (h_p1_crew, .inl (cI, 4, .inl f_p1_crew))]) := by
  refine CI_mk (by decide) (Nat.le_of_ble_eq_true rfl) ?_
  intro p e s m below meth c A ls E hAe hG hsz hP hD hA hS hl
  obtain ⟨hx, hb, hr, hw, hown, hlocks, hml, hnm⟩ := E
  have hK := hG.1
  have i_x_told : 0 ≤ x_told.toInt ∧ x_told.toInt ≤ 1 := i_x_told
  have i_x_p1_crewed : 0 ≤ x_p1_crewed.toInt ∧ x_p1_crewed.toInt ≤ 1 := i_x_p1_crewed
  have hl : lv_has ls 5 [(0, .ref h0), (1, .ref p0), (2, .ref p1)] := hl
  refine lv_aload_n hx hb dX0_holdsFor_0 rfl (lv_at hl 0 rfl) ?_
  refine get_f (D := D) (ci := 0) (v := .int x_told) (C := RX0) (T := TX0) (N := 5) hx hb hw inAX0 hown hK hP 0 rfl rfl 3 (by decide) (hw _ q_285) (fun _ h9 => h9) e_told dX0_holdsFor_1 ?_
  refine lv_if_eq (tgt := 29) hx hb dX0_holdsFor_4 (by decide) (fun c1 => ?_) (fun c1 => ?_)
  · have dc1 : x_told.toInt = 0 := eq_i (a := x_told.toInt) (b := 0) rfl rfl c1
    have k2 : 0 ≤ x_told.toInt ∧ x_told.toInt ≤ 0 := ⟨i_x_told.1, Int.le_trans (Int.le_of_eq dc1) (Int.le_refl _)⟩
    refine lv_iconst (v := 0) hx hb dX0_holdsFor_29 (by decide) ?_
    refine lv_istore_n (lv' := [(3, .int 0), (0, .ref h0), (1, .ref p0), (2, .ref p1)]) hx hb dX0_holdsFor_30 rfl hl (by decide) rfl (fun ls hl => ?_)
    refine lv_iconst (v := 0) hx hb dX0_holdsFor_31 (by decide) ?_
    refine lv_istore (lv' := [(4, .int 0), (3, .int 0), (0, .ref h0), (1, .ref p0), (2, .ref p1)]) hx hb dX0_holdsFor_32 hl (by decide) rfl (fun ls hl => ?_)
    refine mloop (α := (Int32) × (Int32)) (nL := 5) (D := D) (A := A) (H0 := s.heap) (fun a => (4 - a.1.toInt).toNat) (fun a => IR 0 4 a.1 ∧ IR 0 0 a.2) (fun a => [(h0, .inr (0, vL 5 Fh)), (h_crew, .inl (cI, 4, .inl f_crew)), (p0, .inr (1, vL 18 F_p0_)), (p1, .inr (5, vL 11 F_p1_)), (h_p1_crew, .inl (cI, 4, .inl f_p1_crew))]) (fun a => [(4, .int a.1), (3, .int a.2), (0, .ref h0), (1, .ref p0), (2, .ref p1)]) (fun H locs ls => W p l e ({ frames := 0, cells := 0, slots := 0, locals := 0 } : Room) s m [.ref h0, .ref p0, .ref p1].toArray below meth c H locs 0 0 (MQ below (va_Qi (fun (r : Int32) (u : va_W) => IR 0 1 r ∧ u = [(h0, .inr (0, vL 5 Fh)), (h_crew, .inl (cI, 4, .inl f_crew)), (p0, .inr (1, vL 18 F_p0_)), (p1, .inr (5, vL 11 F_p1_)), (h_p1_crew, .inl (cI, 4, .inl f_p1_crew))]) (PO D A) A) [.ref h0, .ref p0, .ref p1].toArray s 0 0 A) (F0 m 34 ls [])) ?_ (0, 0) ⟨⟨by decide, by decide⟩, ⟨by decide, by decide⟩⟩ _ _ _ hP hD hS hl
    rintro ⟨u3, u4⟩ ⟨i5, i6⟩ ih H locs ls hP hD hS hl
    have i5 : 0 ≤ u3.toInt ∧ u3.toInt ≤ 4 := i5
    have i6 : 0 ≤ u4.toInt ∧ u4.toInt ≤ 0 := i6
    have hP : va_P D vwCl [(h0, .inr (0, vL 5 Fh)), (h_crew, .inl (cI, 4, .inl f_crew)), (p0, .inr (1, vL 18 F_p0_)), (p1, .inr (5, vL 11 F_p1_)), (h_p1_crew, .inl (cI, 4, .inl f_p1_crew))] H := hP
    have hD : va_D A [(h0, .inr (0, vL 5 Fh)), (h_crew, .inl (cI, 4, .inl f_crew)), (p0, .inr (1, vL 18 F_p0_)), (p1, .inr (5, vL 11 F_p1_)), (h_p1_crew, .inl (cI, 4, .inl f_p1_crew))] := hD
    have hl : lv_has ls 5 [(4, .int u3), (3, .int u4), (0, .ref h0), (1, .ref p0), (2, .ref p1)] := hl
    refine lv_iload hx hb dX0_holdsFor_34 (lv_at hl 0 rfl) ?_
    refine lv_iconst (v := 4) hx hb dX0_holdsFor_36 (by decide) ?_
    refine lv_icmp_ge (tgt := 73) hx hb dX0_holdsFor_37 (by decide) (fun c7 => ?_) (fun c7 => ?_)
    · have dc7 : 4 ≤ u3.toInt := le_i (a := 4) (b := u3.toInt) rfl rfl c7
      have k8 : 4 ≤ u3.toInt ∧ u3.toInt ≤ 4 := ⟨Int.le_trans (Int.le_refl _) dc7, i5.2⟩
      refine lv_iload_n hx hb dX0_holdsFor_73 rfl (lv_at hl 1 rfl) ?_
      exact ret_i (v := u4) hx hb hr hlocks hS hP hD dX0_holdsFor_74 (nz_i (ir_wk i6 (by decide) (by decide)).1 (ir_wk i6 (by decide) (by decide)).2) (Nat.le_of_ble_eq_true rfl) (Nat.le_of_ble_eq_true rfl) ⟨(ir_wk i6 (by decide) (by decide)), rfl⟩
    · have dc7 : u3.toInt < 4 := nle_i (a := 4) (b := u3.toInt) rfl rfl c7
      have k9 : 0 ≤ u3.toInt ∧ u3.toInt ≤ 3 := ⟨i5.1, up_lt dc7 (Int.le_refl _) (by decide)⟩
      refine lv_iload_n hx hb dX0_holdsFor_40 rfl (lv_at hl 1 rfl) ?_
      refine lv_if_eq (tgt := 65) hx hb dX0_holdsFor_41 (by decide) (fun c10 => ?_) (fun c10 => False.elim (bad_ne (ne_i (a := u4.toInt) (b := 0) rfl rfl c10) i6 ⟨Int.le_refl _, Int.le_refl _⟩ (by decide)))
      have dc10 : u4.toInt = 0 := eq_i (a := u4.toInt) (b := 0) rfl rfl c10
      refine lv_iconst (v := 0) hx hb dX0_holdsFor_65 (by decide) ?_
      refine lv_istore_n (lv' := [(3, .int 0), (4, .int u3), (0, .ref h0), (1, .ref p0), (2, .ref p1)]) hx hb dX0_holdsFor_66 rfl hl (by decide) rfl (fun ls hl => ?_)
      obtain ⟨v11, ev11⟩ : ∃ z : Int32, z = u3 + 1 := ⟨_, rfl⟩
      have bv11 : v11.toInt = u3.toInt + 1 := by rw [ev11]; exact add_k rfl rfl k9 ⟨Int.le_refl _, Int.le_refl _⟩ (by decide)
      have k12 : 1 ≤ v11.toInt ∧ v11.toInt ≤ 4 := add_r bv11 k9 ⟨Int.le_refl _, Int.le_refl _⟩ (by decide)
      refine lv_iinc (v := v11) (lv' := [(4, .int v11), (3, .int 0), (0, .ref h0), (1, .ref p0), (2, .ref p1)]) hx hb dX0_holdsFor_67 hl (k := 1) rfl (by rw [ev11]; rfl) (by decide) rfl (fun ls hl => ?_)
      refine lv_goto (tgt := 34) hx hb dX0_holdsFor_70 (by decide) ?_
      exact ih (v11, 0) ⟨(ir_wk k12 (by decide) (by decide)), ⟨by decide, by decide⟩⟩ (by show (4 - v11.toInt).toNat < (4 - u3.toInt).toNat; omega) _ _ _ hP hD hS (lv_sub hl [0, 1, 2, 3, 4] rfl)
  · have dc1 : x_told.toInt ≠ 0 := ne_i (a := x_told.toInt) (b := 0) rfl rfl c1
    have k13 : 1 ≤ x_told.toInt ∧ x_told.toInt ≤ 1 := ⟨ne_lo dc1 i_x_told.1 ⟨Int.le_refl _, Int.le_refl _⟩ (by decide), i_x_told.2⟩
    refine lv_aload_n hx hb dX0_holdsFor_7 rfl (lv_at hl 2 rfl) ?_
    refine get_f (D := D) (ci := 5) (v := .int x_p1_crewed) (C := RX5) (T := TX5) (N := 11) hx hb hw inAX5 hown hK hP 3 rfl rfl 3 (by decide) (hw _ q_158) (fun _ h9 => h9) e_p1_crewed dX0_holdsFor_8 ?_
    refine lv_if_eq (tgt := 29) hx hb dX0_holdsFor_11 (by decide) (fun c14 => ?_) (fun c14 => ?_)
    · have dc14 : x_p1_crewed.toInt = 0 := eq_i (a := x_p1_crewed.toInt) (b := 0) rfl rfl c14
      have k15 : 0 ≤ x_p1_crewed.toInt ∧ x_p1_crewed.toInt ≤ 0 := ⟨i_x_p1_crewed.1, Int.le_trans (Int.le_of_eq dc14) (Int.le_refl _)⟩
      refine lv_iconst (v := 0) hx hb dX0_holdsFor_29 (by decide) ?_
      refine lv_istore_n (lv' := [(3, .int 0), (0, .ref h0), (1, .ref p0), (2, .ref p1)]) hx hb dX0_holdsFor_30 rfl hl (by decide) rfl (fun ls hl => ?_)
      refine lv_iconst (v := 0) hx hb dX0_holdsFor_31 (by decide) ?_
      refine lv_istore (lv' := [(4, .int 0), (3, .int 0), (0, .ref h0), (1, .ref p0), (2, .ref p1)]) hx hb dX0_holdsFor_32 hl (by decide) rfl (fun ls hl => ?_)
      refine mloop (α := (Int32) × (Int32)) (nL := 5) (D := D) (A := A) (H0 := s.heap) (fun a => (4 - a.1.toInt).toNat) (fun a => IR 0 4 a.1 ∧ IR 0 0 a.2) (fun a => [(h0, .inr (0, vL 5 Fh)), (h_crew, .inl (cI, 4, .inl f_crew)), (p0, .inr (1, vL 18 F_p0_)), (p1, .inr (5, vL 11 F_p1_)), (h_p1_crew, .inl (cI, 4, .inl f_p1_crew))]) (fun a => [(4, .int a.1), (3, .int a.2), (0, .ref h0), (1, .ref p0), (2, .ref p1)]) (fun H locs ls => W p l e ({ frames := 0, cells := 0, slots := 0, locals := 0 } : Room) s m [.ref h0, .ref p0, .ref p1].toArray below meth c H locs 0 0 (MQ below (va_Qi (fun (r : Int32) (u : va_W) => IR 0 1 r ∧ u = [(h0, .inr (0, vL 5 Fh)), (h_crew, .inl (cI, 4, .inl f_crew)), (p0, .inr (1, vL 18 F_p0_)), (p1, .inr (5, vL 11 F_p1_)), (h_p1_crew, .inl (cI, 4, .inl f_p1_crew))]) (PO D A) A) [.ref h0, .ref p0, .ref p1].toArray s 0 0 A) (F0 m 34 ls [])) ?_ (0, 0) ⟨⟨by decide, by decide⟩, ⟨by decide, by decide⟩⟩ _ _ _ hP hD hS hl
      rintro ⟨u16, u17⟩ ⟨i18, i19⟩ ih H locs ls hP hD hS hl
      have i18 : 0 ≤ u16.toInt ∧ u16.toInt ≤ 4 := i18
      have i19 : 0 ≤ u17.toInt ∧ u17.toInt ≤ 0 := i19
      have hP : va_P D vwCl [(h0, .inr (0, vL 5 Fh)), (h_crew, .inl (cI, 4, .inl f_crew)), (p0, .inr (1, vL 18 F_p0_)), (p1, .inr (5, vL 11 F_p1_)), (h_p1_crew, .inl (cI, 4, .inl f_p1_crew))] H := hP
      have hD : va_D A [(h0, .inr (0, vL 5 Fh)), (h_crew, .inl (cI, 4, .inl f_crew)), (p0, .inr (1, vL 18 F_p0_)), (p1, .inr (5, vL 11 F_p1_)), (h_p1_crew, .inl (cI, 4, .inl f_p1_crew))] := hD
      have hl : lv_has ls 5 [(4, .int u16), (3, .int u17), (0, .ref h0), (1, .ref p0), (2, .ref p1)] := hl
      refine lv_iload hx hb dX0_holdsFor_34 (lv_at hl 0 rfl) ?_
      refine lv_iconst (v := 4) hx hb dX0_holdsFor_36 (by decide) ?_
      refine lv_icmp_ge (tgt := 73) hx hb dX0_holdsFor_37 (by decide) (fun c20 => ?_) (fun c20 => ?_)
      · have dc20 : 4 ≤ u16.toInt := le_i (a := 4) (b := u16.toInt) rfl rfl c20
        have k21 : 4 ≤ u16.toInt ∧ u16.toInt ≤ 4 := ⟨Int.le_trans (Int.le_refl _) dc20, i18.2⟩
        refine lv_iload_n hx hb dX0_holdsFor_73 rfl (lv_at hl 1 rfl) ?_
        exact ret_i (v := u17) hx hb hr hlocks hS hP hD dX0_holdsFor_74 (nz_i (ir_wk i19 (by decide) (by decide)).1 (ir_wk i19 (by decide) (by decide)).2) (Nat.le_of_ble_eq_true rfl) (Nat.le_of_ble_eq_true rfl) ⟨(ir_wk i19 (by decide) (by decide)), rfl⟩
      · have dc20 : u16.toInt < 4 := nle_i (a := 4) (b := u16.toInt) rfl rfl c20
        have k22 : 0 ≤ u16.toInt ∧ u16.toInt ≤ 3 := ⟨i18.1, up_lt dc20 (Int.le_refl _) (by decide)⟩
        refine lv_iload_n hx hb dX0_holdsFor_40 rfl (lv_at hl 1 rfl) ?_
        refine lv_if_eq (tgt := 65) hx hb dX0_holdsFor_41 (by decide) (fun c23 => ?_) (fun c23 => False.elim (bad_ne (ne_i (a := u17.toInt) (b := 0) rfl rfl c23) i19 ⟨Int.le_refl _, Int.le_refl _⟩ (by decide)))
        have dc23 : u17.toInt = 0 := eq_i (a := u17.toInt) (b := 0) rfl rfl c23
        refine lv_iconst (v := 0) hx hb dX0_holdsFor_65 (by decide) ?_
        refine lv_istore_n (lv' := [(3, .int 0), (4, .int u16), (0, .ref h0), (1, .ref p0), (2, .ref p1)]) hx hb dX0_holdsFor_66 rfl hl (by decide) rfl (fun ls hl => ?_)
        obtain ⟨v24, ev24⟩ : ∃ z : Int32, z = u16 + 1 := ⟨_, rfl⟩
        have bv24 : v24.toInt = u16.toInt + 1 := by rw [ev24]; exact add_k rfl rfl k22 ⟨Int.le_refl _, Int.le_refl _⟩ (by decide)
        have k25 : 1 ≤ v24.toInt ∧ v24.toInt ≤ 4 := add_r bv24 k22 ⟨Int.le_refl _, Int.le_refl _⟩ (by decide)
        refine lv_iinc (v := v24) (lv' := [(4, .int v24), (3, .int 0), (0, .ref h0), (1, .ref p0), (2, .ref p1)]) hx hb dX0_holdsFor_67 hl (k := 1) rfl (by rw [ev24]; rfl) (by decide) rfl (fun ls hl => ?_)
        refine lv_goto (tgt := 34) hx hb dX0_holdsFor_70 (by decide) ?_
        exact ih (v24, 0) ⟨(ir_wk k25 (by decide) (by decide)), ⟨by decide, by decide⟩⟩ (by show (4 - v24.toInt).toNat < (4 - u16.toInt).toNat; omega) _ _ _ hP hD hS (lv_sub hl [0, 1, 2, 3, 4] rfl)
    · have dc14 : x_p1_crewed.toInt ≠ 0 := ne_i (a := x_p1_crewed.toInt) (b := 0) rfl rfl c14
      have k26 : 1 ≤ x_p1_crewed.toInt ∧ x_p1_crewed.toInt ≤ 1 := ⟨ne_lo dc14 i_x_p1_crewed.1 ⟨Int.le_refl _, Int.le_refl _⟩ (by decide), i_x_p1_crewed.2⟩
      refine lv_aload_n hx hb dX0_holdsFor_14 rfl (lv_at hl 0 rfl) ?_
      refine get_f (D := D) (ci := 0) (v := .int x_serial) (C := RX0) (T := TX0) (N := 5) hx hb hw inAX0 hown hK hP 0 rfl rfl 4 (by decide) (hw _ q_286) (fun _ h9 => h9) e_serial dX0_holdsFor_15 ?_
      refine lv_aload_n hx hb dX0_holdsFor_18 rfl (lv_at hl 1 rfl) ?_
      refine get_f (D := D) (ci := 1) (v := .int x_p0_serial) (C := RX1) (T := TX1) (N := 18) hx hb hw inAX1 hown hK hP 2 rfl rfl 0 (by decide) (hw _ q_314) (fun _ h9 => h9) e_p0_serial dX0_holdsFor_19 ?_
      refine lv_icmp_ne (tgt := 29) hx hb dX0_holdsFor_22 (by decide) (fun c27 => ?_) (fun c27 => ?_)
      · have dc27 : x_serial.toInt ≠ x_p0_serial.toInt := ne_i (a := x_serial.toInt) (b := x_p0_serial.toInt) rfl rfl c27
        refine lv_iconst (v := 0) hx hb dX0_holdsFor_29 (by decide) ?_
        refine lv_istore_n (lv' := [(3, .int 0), (0, .ref h0), (1, .ref p0), (2, .ref p1)]) hx hb dX0_holdsFor_30 rfl hl (by decide) rfl (fun ls hl => ?_)
        refine lv_iconst (v := 0) hx hb dX0_holdsFor_31 (by decide) ?_
        refine lv_istore (lv' := [(4, .int 0), (3, .int 0), (0, .ref h0), (1, .ref p0), (2, .ref p1)]) hx hb dX0_holdsFor_32 hl (by decide) rfl (fun ls hl => ?_)
        refine mloop (α := (Int32) × (Int32)) (nL := 5) (D := D) (A := A) (H0 := s.heap) (fun a => (4 - a.1.toInt).toNat) (fun a => IR 0 4 a.1 ∧ IR 0 0 a.2) (fun a => [(h0, .inr (0, vL 5 Fh)), (h_crew, .inl (cI, 4, .inl f_crew)), (p0, .inr (1, vL 18 F_p0_)), (p1, .inr (5, vL 11 F_p1_)), (h_p1_crew, .inl (cI, 4, .inl f_p1_crew))]) (fun a => [(4, .int a.1), (3, .int a.2), (0, .ref h0), (1, .ref p0), (2, .ref p1)]) (fun H locs ls => W p l e ({ frames := 0, cells := 0, slots := 0, locals := 0 } : Room) s m [.ref h0, .ref p0, .ref p1].toArray below meth c H locs 0 0 (MQ below (va_Qi (fun (r : Int32) (u : va_W) => IR 0 1 r ∧ u = [(h0, .inr (0, vL 5 Fh)), (h_crew, .inl (cI, 4, .inl f_crew)), (p0, .inr (1, vL 18 F_p0_)), (p1, .inr (5, vL 11 F_p1_)), (h_p1_crew, .inl (cI, 4, .inl f_p1_crew))]) (PO D A) A) [.ref h0, .ref p0, .ref p1].toArray s 0 0 A) (F0 m 34 ls [])) ?_ (0, 0) ⟨⟨by decide, by decide⟩, ⟨by decide, by decide⟩⟩ _ _ _ hP hD hS hl
        rintro ⟨u28, u29⟩ ⟨i30, i31⟩ ih H locs ls hP hD hS hl
        have i30 : 0 ≤ u28.toInt ∧ u28.toInt ≤ 4 := i30
        have i31 : 0 ≤ u29.toInt ∧ u29.toInt ≤ 0 := i31
        have hP : va_P D vwCl [(h0, .inr (0, vL 5 Fh)), (h_crew, .inl (cI, 4, .inl f_crew)), (p0, .inr (1, vL 18 F_p0_)), (p1, .inr (5, vL 11 F_p1_)), (h_p1_crew, .inl (cI, 4, .inl f_p1_crew))] H := hP
        have hD : va_D A [(h0, .inr (0, vL 5 Fh)), (h_crew, .inl (cI, 4, .inl f_crew)), (p0, .inr (1, vL 18 F_p0_)), (p1, .inr (5, vL 11 F_p1_)), (h_p1_crew, .inl (cI, 4, .inl f_p1_crew))] := hD
        have hl : lv_has ls 5 [(4, .int u28), (3, .int u29), (0, .ref h0), (1, .ref p0), (2, .ref p1)] := hl
        refine lv_iload hx hb dX0_holdsFor_34 (lv_at hl 0 rfl) ?_
        refine lv_iconst (v := 4) hx hb dX0_holdsFor_36 (by decide) ?_
        refine lv_icmp_ge (tgt := 73) hx hb dX0_holdsFor_37 (by decide) (fun c32 => ?_) (fun c32 => ?_)
        · have dc32 : 4 ≤ u28.toInt := le_i (a := 4) (b := u28.toInt) rfl rfl c32
          have k33 : 4 ≤ u28.toInt ∧ u28.toInt ≤ 4 := ⟨Int.le_trans (Int.le_refl _) dc32, i30.2⟩
          refine lv_iload_n hx hb dX0_holdsFor_73 rfl (lv_at hl 1 rfl) ?_
          exact ret_i (v := u29) hx hb hr hlocks hS hP hD dX0_holdsFor_74 (nz_i (ir_wk i31 (by decide) (by decide)).1 (ir_wk i31 (by decide) (by decide)).2) (Nat.le_of_ble_eq_true rfl) (Nat.le_of_ble_eq_true rfl) ⟨(ir_wk i31 (by decide) (by decide)), rfl⟩
        · have dc32 : u28.toInt < 4 := nle_i (a := 4) (b := u28.toInt) rfl rfl c32
          have k34 : 0 ≤ u28.toInt ∧ u28.toInt ≤ 3 := ⟨i30.1, up_lt dc32 (Int.le_refl _) (by decide)⟩
          refine lv_iload_n hx hb dX0_holdsFor_40 rfl (lv_at hl 1 rfl) ?_
          refine lv_if_eq (tgt := 65) hx hb dX0_holdsFor_41 (by decide) (fun c35 => ?_) (fun c35 => False.elim (bad_ne (ne_i (a := u29.toInt) (b := 0) rfl rfl c35) i31 ⟨Int.le_refl _, Int.le_refl _⟩ (by decide)))
          have dc35 : u29.toInt = 0 := eq_i (a := u29.toInt) (b := 0) rfl rfl c35
          refine lv_iconst (v := 0) hx hb dX0_holdsFor_65 (by decide) ?_
          refine lv_istore_n (lv' := [(3, .int 0), (4, .int u28), (0, .ref h0), (1, .ref p0), (2, .ref p1)]) hx hb dX0_holdsFor_66 rfl hl (by decide) rfl (fun ls hl => ?_)
          obtain ⟨v36, ev36⟩ : ∃ z : Int32, z = u28 + 1 := ⟨_, rfl⟩
          have bv36 : v36.toInt = u28.toInt + 1 := by rw [ev36]; exact add_k rfl rfl k34 ⟨Int.le_refl _, Int.le_refl _⟩ (by decide)
          have k37 : 1 ≤ v36.toInt ∧ v36.toInt ≤ 4 := add_r bv36 k34 ⟨Int.le_refl _, Int.le_refl _⟩ (by decide)
          refine lv_iinc (v := v36) (lv' := [(4, .int v36), (3, .int 0), (0, .ref h0), (1, .ref p0), (2, .ref p1)]) hx hb dX0_holdsFor_67 hl (k := 1) rfl (by rw [ev36]; rfl) (by decide) rfl (fun ls hl => ?_)
          refine lv_goto (tgt := 34) hx hb dX0_holdsFor_70 (by decide) ?_
          exact ih (v36, 0) ⟨(ir_wk k37 (by decide) (by decide)), ⟨by decide, by decide⟩⟩ (by show (4 - v36.toInt).toNat < (4 - u28.toInt).toNat; omega) _ _ _ hP hD hS (lv_sub hl [0, 1, 2, 3, 4] rfl)
      · have dc27 : x_serial.toInt = x_p0_serial.toInt := eq_i (a := x_serial.toInt) (b := x_p0_serial.toInt) rfl rfl c27
        refine lv_iconst (v := 1) hx hb dX0_holdsFor_25 (by decide) ?_
        refine lv_goto (tgt := 30) hx hb dX0_holdsFor_26 (by decide) ?_
        refine lv_istore_n (lv' := [(3, .int 1), (0, .ref h0), (1, .ref p0), (2, .ref p1)]) hx hb dX0_holdsFor_30 rfl hl (by decide) rfl (fun ls hl => ?_)
        refine lv_iconst (v := 0) hx hb dX0_holdsFor_31 (by decide) ?_
        refine lv_istore (lv' := [(4, .int 0), (3, .int 1), (0, .ref h0), (1, .ref p0), (2, .ref p1)]) hx hb dX0_holdsFor_32 hl (by decide) rfl (fun ls hl => ?_)
        refine mloop (α := (Int32) × (Int32)) (nL := 5) (D := D) (A := A) (H0 := s.heap) (fun a => (4 - a.1.toInt).toNat) (fun a => IR 0 4 a.1 ∧ IR 0 1 a.2) (fun a => [(h0, .inr (0, vL 5 Fh)), (h_crew, .inl (cI, 4, .inl f_crew)), (p0, .inr (1, vL 18 F_p0_)), (p1, .inr (5, vL 11 F_p1_)), (h_p1_crew, .inl (cI, 4, .inl f_p1_crew))]) (fun a => [(4, .int a.1), (3, .int a.2), (0, .ref h0), (1, .ref p0), (2, .ref p1)]) (fun H locs ls => W p l e ({ frames := 0, cells := 0, slots := 0, locals := 0 } : Room) s m [.ref h0, .ref p0, .ref p1].toArray below meth c H locs 0 0 (MQ below (va_Qi (fun (r : Int32) (u : va_W) => IR 0 1 r ∧ u = [(h0, .inr (0, vL 5 Fh)), (h_crew, .inl (cI, 4, .inl f_crew)), (p0, .inr (1, vL 18 F_p0_)), (p1, .inr (5, vL 11 F_p1_)), (h_p1_crew, .inl (cI, 4, .inl f_p1_crew))]) (PO D A) A) [.ref h0, .ref p0, .ref p1].toArray s 0 0 A) (F0 m 34 ls [])) ?_ (0, 1) ⟨⟨by decide, by decide⟩, ⟨by decide, by decide⟩⟩ _ _ _ hP hD hS hl
        rintro ⟨u38, u39⟩ ⟨i40, i41⟩ ih H locs ls hP hD hS hl
        have i40 : 0 ≤ u38.toInt ∧ u38.toInt ≤ 4 := i40
        have i41 : 0 ≤ u39.toInt ∧ u39.toInt ≤ 1 := i41
        have hP : va_P D vwCl [(h0, .inr (0, vL 5 Fh)), (h_crew, .inl (cI, 4, .inl f_crew)), (p0, .inr (1, vL 18 F_p0_)), (p1, .inr (5, vL 11 F_p1_)), (h_p1_crew, .inl (cI, 4, .inl f_p1_crew))] H := hP
        have hD : va_D A [(h0, .inr (0, vL 5 Fh)), (h_crew, .inl (cI, 4, .inl f_crew)), (p0, .inr (1, vL 18 F_p0_)), (p1, .inr (5, vL 11 F_p1_)), (h_p1_crew, .inl (cI, 4, .inl f_p1_crew))] := hD
        have hl : lv_has ls 5 [(4, .int u38), (3, .int u39), (0, .ref h0), (1, .ref p0), (2, .ref p1)] := hl
        refine lv_iload hx hb dX0_holdsFor_34 (lv_at hl 0 rfl) ?_
        refine lv_iconst (v := 4) hx hb dX0_holdsFor_36 (by decide) ?_
        refine lv_icmp_ge (tgt := 73) hx hb dX0_holdsFor_37 (by decide) (fun c42 => ?_) (fun c42 => ?_)
        · have dc42 : 4 ≤ u38.toInt := le_i (a := 4) (b := u38.toInt) rfl rfl c42
          have k43 : 4 ≤ u38.toInt ∧ u38.toInt ≤ 4 := ⟨Int.le_trans (Int.le_refl _) dc42, i40.2⟩
          refine lv_iload_n hx hb dX0_holdsFor_73 rfl (lv_at hl 1 rfl) ?_
          exact ret_i (v := u39) hx hb hr hlocks hS hP hD dX0_holdsFor_74 (nz_i i41.1 i41.2) (Nat.le_of_ble_eq_true rfl) (Nat.le_of_ble_eq_true rfl) ⟨i41, rfl⟩
        · have dc42 : u38.toInt < 4 := nle_i (a := 4) (b := u38.toInt) rfl rfl c42
          have k44 : 0 ≤ u38.toInt ∧ u38.toInt ≤ 3 := ⟨i40.1, up_lt dc42 (Int.le_refl _) (by decide)⟩
          refine lv_iload_n hx hb dX0_holdsFor_40 rfl (lv_at hl 1 rfl) ?_
          refine lv_if_eq (tgt := 65) hx hb dX0_holdsFor_41 (by decide) (fun c45 => ?_) (fun c45 => ?_)
          · have dc45 : u39.toInt = 0 := eq_i (a := u39.toInt) (b := 0) rfl rfl c45
            have k46 : 0 ≤ u39.toInt ∧ u39.toInt ≤ 0 := ⟨i41.1, Int.le_trans (Int.le_of_eq dc45) (Int.le_refl _)⟩
            refine lv_iconst (v := 0) hx hb dX0_holdsFor_65 (by decide) ?_
            refine lv_istore_n (lv' := [(3, .int 0), (4, .int u38), (0, .ref h0), (1, .ref p0), (2, .ref p1)]) hx hb dX0_holdsFor_66 rfl hl (by decide) rfl (fun ls hl => ?_)
            obtain ⟨v47, ev47⟩ : ∃ z : Int32, z = u38 + 1 := ⟨_, rfl⟩
            have bv47 : v47.toInt = u38.toInt + 1 := by rw [ev47]; exact add_k rfl rfl k44 ⟨Int.le_refl _, Int.le_refl _⟩ (by decide)
            have k48 : 1 ≤ v47.toInt ∧ v47.toInt ≤ 4 := add_r bv47 k44 ⟨Int.le_refl _, Int.le_refl _⟩ (by decide)
            refine lv_iinc (v := v47) (lv' := [(4, .int v47), (3, .int 0), (0, .ref h0), (1, .ref p0), (2, .ref p1)]) hx hb dX0_holdsFor_67 hl (k := 1) rfl (by rw [ev47]; rfl) (by decide) rfl (fun ls hl => ?_)
            refine lv_goto (tgt := 34) hx hb dX0_holdsFor_70 (by decide) ?_
            exact ih (v47, 0) ⟨(ir_wk k48 (by decide) (by decide)), ⟨by decide, by decide⟩⟩ (by show (4 - v47.toInt).toNat < (4 - u38.toInt).toNat; omega) _ _ _ hP hD hS (lv_sub hl [0, 1, 2, 3, 4] rfl)
          · have dc45 : u39.toInt ≠ 0 := ne_i (a := u39.toInt) (b := 0) rfl rfl c45
            have k49 : 1 ≤ u39.toInt ∧ u39.toInt ≤ 1 := ⟨ne_lo dc45 i41.1 ⟨Int.le_refl _, Int.le_refl _⟩ (by decide), i41.2⟩
            refine lv_aload_n hx hb dX0_holdsFor_44 rfl (lv_at hl 2 rfl) ?_
            refine get_f (D := D) (ci := 0) (v := .ref h_crew) (C := RX0) (T := TX0) (N := 5) hx hb hw inAX0 hown hK hP 0 rfl rfl 1 (by decide) (hw _ q_283) (fun _ h9 => h9) e_crew dX0_holdsFor_45 ?_
            refine lv_iload hx hb dX0_holdsFor_48 (lv_at hl 0 rfl) ?_
            refine va_iald hx hb hK hP 1 0 rfl rfl (ix_k k44 (by decide) (by decide)) dX0_holdsFor_50 ?_
            refine lv_topi (fun v50 ev50 => ?_)
            refine lv_aload_n hx hb dX0_holdsFor_51 rfl (lv_at hl 4 rfl) ?_
            refine get_f (D := D) (ci := 5) (v := .ref h_p1_crew) (C := RX5) (T := TX5) (N := 11) hx hb hw inAX5 hown hK hP 3 rfl rfl 0 (by decide) (hw _ q_146) (fun _ h9 => h9) e_p1_crew dX0_holdsFor_52 ?_
            refine lv_iload hx hb dX0_holdsFor_55 (lv_at hl 0 rfl) ?_
            refine va_iald hx hb hK hP 4 0 rfl rfl (ix_k k44 (by decide) (by decide)) dX0_holdsFor_57 ?_
            refine lv_topi (fun v51 ev51 => ?_)
            have k52 : 0 ≤ v51.toInt ∧ v51.toInt ≤ 11 := by rw [ev51]; exact s_p1_crew_0.at _ (Int.le_trans (by decide) k44.1) (Int.le_trans k44.2 (by decide))
            refine lv_icmp_ne (tgt := 65) hx hb dX0_holdsFor_58 (by decide) (fun c53 => ?_) (fun c53 => ?_)
            · have dc53 : v50.toInt ≠ v51.toInt := ne_i (a := v50.toInt) (b := v51.toInt) rfl rfl c53
              refine lv_iconst (v := 0) hx hb dX0_holdsFor_65 (by decide) ?_
              refine lv_istore_n (lv' := [(3, .int 0), (4, .int u38), (0, .ref h0), (1, .ref p0), (2, .ref p1)]) hx hb dX0_holdsFor_66 rfl hl (by decide) rfl (fun ls hl => ?_)
              obtain ⟨v54, ev54⟩ : ∃ z : Int32, z = u38 + 1 := ⟨_, rfl⟩
              have bv54 : v54.toInt = u38.toInt + 1 := by rw [ev54]; exact add_k rfl rfl k44 ⟨Int.le_refl _, Int.le_refl _⟩ (by decide)
              have k55 : 1 ≤ v54.toInt ∧ v54.toInt ≤ 4 := add_r bv54 k44 ⟨Int.le_refl _, Int.le_refl _⟩ (by decide)
              refine lv_iinc (v := v54) (lv' := [(4, .int v54), (3, .int 0), (0, .ref h0), (1, .ref p0), (2, .ref p1)]) hx hb dX0_holdsFor_67 hl (k := 1) rfl (by rw [ev54]; rfl) (by decide) rfl (fun ls hl => ?_)
              refine lv_goto (tgt := 34) hx hb dX0_holdsFor_70 (by decide) ?_
              exact ih (v54, 0) ⟨(ir_wk k55 (by decide) (by decide)), ⟨by decide, by decide⟩⟩ (by show (4 - v54.toInt).toNat < (4 - u38.toInt).toNat; omega) _ _ _ hP hD hS (lv_sub hl [0, 1, 2, 3, 4] rfl)
            · have dc53 : v50.toInt = v51.toInt := eq_i (a := v50.toInt) (b := v51.toInt) rfl rfl c53
              have k56 : 0 ≤ v50.toInt ∧ v50.toInt ≤ 11 := ⟨Int.le_trans k52.1 (Int.le_of_eq dc53.symm), Int.le_trans (Int.le_of_eq dc53) k52.2⟩
              refine lv_iconst (v := 1) hx hb dX0_holdsFor_61 (by decide) ?_
              refine lv_goto (tgt := 66) hx hb dX0_holdsFor_62 (by decide) ?_
              refine lv_istore_n (lv' := [(3, .int 1), (4, .int u38), (0, .ref h0), (1, .ref p0), (2, .ref p1)]) hx hb dX0_holdsFor_66 rfl hl (by decide) rfl (fun ls hl => ?_)
              obtain ⟨v57, ev57⟩ : ∃ z : Int32, z = u38 + 1 := ⟨_, rfl⟩
              have bv57 : v57.toInt = u38.toInt + 1 := by rw [ev57]; exact add_k rfl rfl k44 ⟨Int.le_refl _, Int.le_refl _⟩ (by decide)
              have k58 : 1 ≤ v57.toInt ∧ v57.toInt ≤ 4 := add_r bv57 k44 ⟨Int.le_refl _, Int.le_refl _⟩ (by decide)
              refine lv_iinc (v := v57) (lv' := [(4, .int v57), (3, .int 1), (0, .ref h0), (1, .ref p0), (2, .ref p1)]) hx hb dX0_holdsFor_67 hl (k := 1) rfl (by rw [ev57]; rfl) (by decide) rfl (fun ls hl => ?_)
              refine lv_goto (tgt := 34) hx hb dX0_holdsFor_70 (by decide) ?_
              exact ih (v57, 1) ⟨(ir_wk k58 (by decide) (by decide)), ⟨by decide, by decide⟩⟩ (by show (4 - v57.toInt).toNat < (4 - u38.toInt).toNat; omega) _ _ _ hP hD hS (lv_sub hl [0, 1, 2, 3, 4] rfl)
set_option maxHeartbeats 4000000 in
set_option maxRecDepth 100000 in
theorem m_X1_indexOf_12 (l : Launch) (D : va_G) (cI cJ cB cP cM cZ : ClassId) (p0 : Nat) (f_p0 : Nat → Int64) (p1 : Int32) (p2 : Int64) (sz : Nat)  : CI l yX1_indexOf cX1_indexOf 5 (some .int) { frames := 0, cells := 0, slots := 0, locals := 0 } (GG D cI cJ cB cP cM cZ) D [(p0, .inl (cJ, 12, .inr (.inl f_p0)))] sz [.ref p0, .int p1, .long p2] (fun (r : Int32) (u : va_W) => IR (-1) 11 r ∧ u = [(p0, .inl (cJ, 12, .inr (.inl f_p0)))]) := by
  refine CI_mk (by decide) (Nat.le_of_ble_eq_true rfl) ?_
  intro p e s m below meth c A ls E hAe hG hsz hP hD hA hS hl
  obtain ⟨hx, hb, hr, hw, hown, hlocks, hml, hnm⟩ := E
  have hK := hG.1
  have hl : lv_has ls 5 [(0, .ref p0), (1, .int p1), (2, .long p2)] := hl
  refine lv_iconst (v := 0) hx hb dX1_indexOf_0 (by decide) ?_
  refine lv_istore (lv' := [(4, .int 0), (0, .ref p0), (1, .int p1), (2, .long p2)]) hx hb dX1_indexOf_1 hl (by decide) rfl (fun ls hl => ?_)
  refine mloop (α := (Int32)) (nL := 5) (D := D) (A := A) (H0 := s.heap) (fun a => (12 - a.toInt).toNat) (fun a => IR 0 12 a) (fun a => [(p0, .inl (cJ, 12, .inr (.inl f_p0)))]) (fun a => [(4, .int a), (0, .ref p0), (1, .int p1), (2, .long p2)]) (fun H locs ls => W p l e ({ frames := 0, cells := 0, slots := 0, locals := 0 } : Room) s m [.ref p0, .int p1, .long p2].toArray below meth c H locs 0 0 (MQ below (va_Qi (fun (r : Int32) (u : va_W) => IR (-1) 11 r ∧ u = [(p0, .inl (cJ, 12, .inr (.inl f_p0)))]) (PO D A) A) [.ref p0, .int p1, .long p2].toArray s 0 0 A) (F0 m 3 ls [])) ?_ (0) ⟨by decide, by decide⟩ _ _ _ hP hD hS hl
  rintro u1 i2 ih H locs ls hP hD hS hl
  have i2 : 0 ≤ u1.toInt ∧ u1.toInt ≤ 12 := i2
  have hP : va_P D vwCl [(p0, .inl (cJ, 12, .inr (.inl f_p0)))] H := hP
  have hD : va_D A [(p0, .inl (cJ, 12, .inr (.inl f_p0)))] := hD
  have hl : lv_has ls 5 [(4, .int u1), (0, .ref p0), (1, .int p1), (2, .long p2)] := hl
  refine lv_iload hx hb dX1_indexOf_3 (lv_at hl 0 rfl) ?_
  refine lv_iload_n hx hb dX1_indexOf_5 rfl (lv_at hl 2 rfl) ?_
  refine lv_icmp_ge (tgt := 34) hx hb dX1_indexOf_6 (by decide) (fun c3 => ?_) (fun c3 => ?_)
  · have dc3 : p1.toInt ≤ u1.toInt := le_i (a := p1.toInt) (b := u1.toInt) rfl rfl c3
    have k4 : (-2147483648) ≤ p1.toInt ∧ p1.toInt ≤ 12 := ⟨(ir_any _).1, Int.le_trans dc3 i2.2⟩
    refine lv_iconst (v := (-1)) hx hb dX1_indexOf_34 (by decide) ?_
    exact ret_i (v := (-1)) hx hb hr hlocks hS hP hD dX1_indexOf_35 rfl (Nat.le_of_ble_eq_true rfl) (Nat.le_of_ble_eq_true rfl) ⟨⟨by decide, by decide⟩, rfl⟩
  · have dc3 : u1.toInt < p1.toInt := nle_i (a := p1.toInt) (b := u1.toInt) rfl rfl c3
    have k5 : 1 ≤ p1.toInt ∧ p1.toInt ≤ 2147483647 := ⟨lo_lt dc3 i2.1 (by decide), (ir_any _).2⟩
    refine lv_iload hx hb dX1_indexOf_9 (lv_at hl 0 rfl) ?_
    refine lv_aload_n hx hb dX1_indexOf_11 rfl (lv_at hl 1 rfl) ?_
    refine va_alen (v := 12) hx hb hK hP 0 1 rfl rfl rfl dX1_indexOf_12 ?_
    refine lv_icmp_ge (tgt := 34) hx hb dX1_indexOf_13 (by decide) (fun c6 => ?_) (fun c6 => ?_)
    · have dc6 : 12 ≤ u1.toInt := le_i (a := 12) (b := u1.toInt) rfl rfl c6
      have k7 : 12 ≤ u1.toInt ∧ u1.toInt ≤ 12 := ⟨Int.le_trans (Int.le_refl _) dc6, i2.2⟩
      refine lv_iconst (v := (-1)) hx hb dX1_indexOf_34 (by decide) ?_
      exact ret_i (v := (-1)) hx hb hr hlocks hS hP hD dX1_indexOf_35 rfl (Nat.le_of_ble_eq_true rfl) (Nat.le_of_ble_eq_true rfl) ⟨⟨by decide, by decide⟩, rfl⟩
    · have dc6 : u1.toInt < 12 := nle_i (a := 12) (b := u1.toInt) rfl rfl c6
      have k8 : 0 ≤ u1.toInt ∧ u1.toInt ≤ 11 := ⟨i2.1, up_lt dc6 (Int.le_refl _) (by decide)⟩
      refine lv_aload_n hx hb dX1_indexOf_16 rfl (lv_at hl 1 rfl) ?_
      refine lv_iload hx hb dX1_indexOf_17 (lv_at hl 0 rfl) ?_
      refine va_lald hx hb hK hP 0 1 rfl rfl (ix_k k8 (by decide) (by decide)) dX1_indexOf_19 ?_
      refine lv_topl (fun v9 ev9 => ?_)
      refine lv_lload_n hx hb dX1_indexOf_20 rfl (lv_at hl 3 rfl) ?_
      refine W.lcmp hx hb dX1_indexOf_21 ?_
      refine lv_topi (fun v10 ev10 => ?_)
      refine lv_if_ne (tgt := 28) hx hb dX1_indexOf_22 (by decide) (fun c11 => ?_) (fun c11 => ?_)
      · have dc11 : v10.toInt ≠ 0 := ne_i (a := v10.toInt) (b := 0) rfl rfl c11
        obtain ⟨v12, ev12⟩ : ∃ z : Int32, z = u1 + 1 := ⟨_, rfl⟩
        have bv12 : v12.toInt = u1.toInt + 1 := by rw [ev12]; exact add_k rfl rfl k8 ⟨Int.le_refl _, Int.le_refl _⟩ (by decide)
        have k13 : 1 ≤ v12.toInt ∧ v12.toInt ≤ 12 := add_r bv12 k8 ⟨Int.le_refl _, Int.le_refl _⟩ (by decide)
        refine lv_iinc (v := v12) (lv' := [(4, .int v12), (0, .ref p0), (1, .int p1), (2, .long p2)]) hx hb dX1_indexOf_28 hl (k := 0) rfl (by rw [ev12]; rfl) (by decide) rfl (fun ls hl => ?_)
        refine lv_goto (tgt := 3) hx hb dX1_indexOf_31 (by decide) ?_
        exact ih (v12) (ir_wk k13 (by decide) (by decide)) (by show (12 - v12.toInt).toNat < (12 - u1.toInt).toNat; omega) _ _ _ hP hD hS (lv_sub hl [0, 1, 2, 3] rfl)
      · have dc11 : v10.toInt = 0 := eq_i (a := v10.toInt) (b := 0) rfl rfl c11
        have k14 : 0 ≤ v10.toInt ∧ v10.toInt ≤ 0 := ⟨Int.le_trans (Int.le_refl _) (Int.le_of_eq dc11.symm), Int.le_trans (Int.le_of_eq dc11) (Int.le_refl _)⟩
        refine lv_iload hx hb dX1_indexOf_25 (lv_at hl 0 rfl) ?_
        exact ret_i (v := u1) hx hb hr hlocks hS hP hD dX1_indexOf_27 rfl (Nat.le_of_ble_eq_true rfl) (Nat.le_of_ble_eq_true rfl) ⟨(ir_wk k8 (by decide) (by decide)), rfl⟩
set_option maxHeartbeats 4000000 in
set_option maxRecDepth 100000 in
theorem m_X1_manNamed (l : Launch) (D : va_G) (cI cJ cB cP cM cZ : ClassId) (h0 : Nat) (h_manName : Nat) (Fh : Nat → Value) (x_men : Int32) (f_manName : Nat → Int64) (p0 : Int64) (sz : Nat) (e_manName : Fh 2 = .ref h_manName) (e_men : Fh 13 = .int x_men) (i_x_men : IR 0 12 x_men) : CI l yX1_manNamed cX1_manNamed 3 (some .int) { frames := 1, cells := 0, slots := 0, locals := 24 } (GG D cI cJ cB cP cM cZ) D [(h0, .inr (1, vL 18 Fh)), (h_manName, .inl (cJ, 12, .inr (.inl f_manName)))] sz [.ref h0, .long p0] (fun (r : Int32) (u : va_W) => IR (-1) 11 r ∧ u = [(h0, .inr (1, vL 18 Fh)), (h_manName, .inl (cJ, 12, .inr (.inl f_manName)))]) := by
  refine CI_mk (by decide) (Nat.le_of_ble_eq_true rfl) ?_
  intro p e s m below meth c A ls E hAe hG hsz hP hD hA hS hl
  obtain ⟨hx, hb, hr, hw, hown, hlocks, hml, hnm⟩ := E
  have hK := hG.1
  have i_x_men : 0 ≤ x_men.toInt ∧ x_men.toInt ≤ 12 := i_x_men
  have hl : lv_has ls 3 [(0, .ref h0), (1, .long p0)] := hl
  refine lv_aload_n hx hb dX1_manNamed_0 rfl (lv_at hl 0 rfl) ?_
  refine get_f (D := D) (ci := 1) (v := .ref h_manName) (C := RX1) (T := TX1) (N := 18) hx hb hw inAX1 hown hK hP 0 rfl rfl 2 (by decide) (hw _ q_320) (fun _ h9 => h9) e_manName dX1_manNamed_1 ?_
  refine lv_aload_n hx hb dX1_manNamed_4 rfl (lv_at hl 0 rfl) ?_
  refine get_f (D := D) (ci := 1) (v := .int x_men) (C := RX1) (T := TX1) (N := 18) hx hb hw inAX1 hown hK hP 0 rfl rfl 13 (by decide) (hw _ q_352) (fun _ h9 => h9) e_men dX1_manNamed_5 ?_
  refine lv_lload_n hx hb dX1_manNamed_8 rfl (lv_at hl 1 rfl) ?_
  refine call_Si (wr := [(h0, .inr (1, vL 18 Fh))]) (As := [.ref h_manName, .int x_men, .long p0]) (rest := []) hx hb hml hown hw (m_X1_indexOf_12 l D cI cJ cB cP cM cZ h_manName f_manName x_men p0 _ ) wS_X1_76_X1_indexOf dX1_manNamed_9 hP hD hS hA [1] [0] rfl rfl (by decide) (by decide) (by decide) GG.fb hG.at hl.1 rfl (Nat.le_of_ble_eq_true rfl) ⟨(Nat.le_of_ble_eq_true rfl), (Nat.le_of_ble_eq_true rfl)⟩ ⟨(Nat.le_of_ble_eq_true rfl), (Nat.le_of_ble_eq_true rfl)⟩ (fun r1 u H locs hp hP hD hS => ?_)
  obtain ⟨t2, rfl⟩ := hp
  have hP : va_P D vwCl [(h0, .inr (1, vL 18 Fh)), (h_manName, .inl (cJ, 12, .inr (.inl f_manName)))] H := hP
  have hD : va_D A [(h0, .inr (1, vL 18 Fh)), (h_manName, .inl (cJ, 12, .inr (.inl f_manName)))] := hD
  refine W.widen (k := 0) (n := 0) (Nat.le_of_ble_eq_true rfl) (Nat.le_of_ble_eq_true rfl) ?_
  exact ret_i (v := r1) hx hb hr hlocks hS hP hD dX1_manNamed_12 rfl (Nat.le_of_ble_eq_true rfl) (Nat.le_of_ble_eq_true rfl) ⟨t2, rfl⟩
set_option maxHeartbeats 4000000 in
set_option maxRecDepth 100000 in
theorem m_X1_indexOf_6 (l : Launch) (D : va_G) (cI cJ cB cP cM cZ : ClassId) (p0 : Nat) (f_p0 : Nat → Int64) (p1 : Int32) (p2 : Int64) (sz : Nat)  : CI l yX1_indexOf cX1_indexOf 5 (some .int) { frames := 0, cells := 0, slots := 0, locals := 0 } (GG D cI cJ cB cP cM cZ) D [(p0, .inl (cJ, 6, .inr (.inl f_p0)))] sz [.ref p0, .int p1, .long p2] (fun (r : Int32) (u : va_W) => IR (-1) 5 r ∧ u = [(p0, .inl (cJ, 6, .inr (.inl f_p0)))]) := by
  refine CI_mk (by decide) (Nat.le_of_ble_eq_true rfl) ?_
  intro p e s m below meth c A ls E hAe hG hsz hP hD hA hS hl
  obtain ⟨hx, hb, hr, hw, hown, hlocks, hml, hnm⟩ := E
  have hK := hG.1
  have hl : lv_has ls 5 [(0, .ref p0), (1, .int p1), (2, .long p2)] := hl
  refine lv_iconst (v := 0) hx hb dX1_indexOf_0 (by decide) ?_
  refine lv_istore (lv' := [(4, .int 0), (0, .ref p0), (1, .int p1), (2, .long p2)]) hx hb dX1_indexOf_1 hl (by decide) rfl (fun ls hl => ?_)
  refine mloop (α := (Int32)) (nL := 5) (D := D) (A := A) (H0 := s.heap) (fun a => (6 - a.toInt).toNat) (fun a => IR 0 6 a) (fun a => [(p0, .inl (cJ, 6, .inr (.inl f_p0)))]) (fun a => [(4, .int a), (0, .ref p0), (1, .int p1), (2, .long p2)]) (fun H locs ls => W p l e ({ frames := 0, cells := 0, slots := 0, locals := 0 } : Room) s m [.ref p0, .int p1, .long p2].toArray below meth c H locs 0 0 (MQ below (va_Qi (fun (r : Int32) (u : va_W) => IR (-1) 5 r ∧ u = [(p0, .inl (cJ, 6, .inr (.inl f_p0)))]) (PO D A) A) [.ref p0, .int p1, .long p2].toArray s 0 0 A) (F0 m 3 ls [])) ?_ (0) ⟨by decide, by decide⟩ _ _ _ hP hD hS hl
  rintro u1 i2 ih H locs ls hP hD hS hl
  have i2 : 0 ≤ u1.toInt ∧ u1.toInt ≤ 6 := i2
  have hP : va_P D vwCl [(p0, .inl (cJ, 6, .inr (.inl f_p0)))] H := hP
  have hD : va_D A [(p0, .inl (cJ, 6, .inr (.inl f_p0)))] := hD
  have hl : lv_has ls 5 [(4, .int u1), (0, .ref p0), (1, .int p1), (2, .long p2)] := hl
  refine lv_iload hx hb dX1_indexOf_3 (lv_at hl 0 rfl) ?_
  refine lv_iload_n hx hb dX1_indexOf_5 rfl (lv_at hl 2 rfl) ?_
  refine lv_icmp_ge (tgt := 34) hx hb dX1_indexOf_6 (by decide) (fun c3 => ?_) (fun c3 => ?_)
  · have dc3 : p1.toInt ≤ u1.toInt := le_i (a := p1.toInt) (b := u1.toInt) rfl rfl c3
    have k4 : (-2147483648) ≤ p1.toInt ∧ p1.toInt ≤ 6 := ⟨(ir_any _).1, Int.le_trans dc3 i2.2⟩
    refine lv_iconst (v := (-1)) hx hb dX1_indexOf_34 (by decide) ?_
    exact ret_i (v := (-1)) hx hb hr hlocks hS hP hD dX1_indexOf_35 rfl (Nat.le_of_ble_eq_true rfl) (Nat.le_of_ble_eq_true rfl) ⟨⟨by decide, by decide⟩, rfl⟩
  · have dc3 : u1.toInt < p1.toInt := nle_i (a := p1.toInt) (b := u1.toInt) rfl rfl c3
    have k5 : 1 ≤ p1.toInt ∧ p1.toInt ≤ 2147483647 := ⟨lo_lt dc3 i2.1 (by decide), (ir_any _).2⟩
    refine lv_iload hx hb dX1_indexOf_9 (lv_at hl 0 rfl) ?_
    refine lv_aload_n hx hb dX1_indexOf_11 rfl (lv_at hl 1 rfl) ?_
    refine va_alen (v := 6) hx hb hK hP 0 1 rfl rfl rfl dX1_indexOf_12 ?_
    refine lv_icmp_ge (tgt := 34) hx hb dX1_indexOf_13 (by decide) (fun c6 => ?_) (fun c6 => ?_)
    · have dc6 : 6 ≤ u1.toInt := le_i (a := 6) (b := u1.toInt) rfl rfl c6
      have k7 : 6 ≤ u1.toInt ∧ u1.toInt ≤ 6 := ⟨Int.le_trans (Int.le_refl _) dc6, i2.2⟩
      refine lv_iconst (v := (-1)) hx hb dX1_indexOf_34 (by decide) ?_
      exact ret_i (v := (-1)) hx hb hr hlocks hS hP hD dX1_indexOf_35 rfl (Nat.le_of_ble_eq_true rfl) (Nat.le_of_ble_eq_true rfl) ⟨⟨by decide, by decide⟩, rfl⟩
    · have dc6 : u1.toInt < 6 := nle_i (a := 6) (b := u1.toInt) rfl rfl c6
      have k8 : 0 ≤ u1.toInt ∧ u1.toInt ≤ 5 := ⟨i2.1, up_lt dc6 (Int.le_refl _) (by decide)⟩
      refine lv_aload_n hx hb dX1_indexOf_16 rfl (lv_at hl 1 rfl) ?_
      refine lv_iload hx hb dX1_indexOf_17 (lv_at hl 0 rfl) ?_
      refine va_lald hx hb hK hP 0 1 rfl rfl (ix_k k8 (by decide) (by decide)) dX1_indexOf_19 ?_
      refine lv_topl (fun v9 ev9 => ?_)
      refine lv_lload_n hx hb dX1_indexOf_20 rfl (lv_at hl 3 rfl) ?_
      refine W.lcmp hx hb dX1_indexOf_21 ?_
      refine lv_topi (fun v10 ev10 => ?_)
      refine lv_if_ne (tgt := 28) hx hb dX1_indexOf_22 (by decide) (fun c11 => ?_) (fun c11 => ?_)
      · have dc11 : v10.toInt ≠ 0 := ne_i (a := v10.toInt) (b := 0) rfl rfl c11
        obtain ⟨v12, ev12⟩ : ∃ z : Int32, z = u1 + 1 := ⟨_, rfl⟩
        have bv12 : v12.toInt = u1.toInt + 1 := by rw [ev12]; exact add_k rfl rfl k8 ⟨Int.le_refl _, Int.le_refl _⟩ (by decide)
        have k13 : 1 ≤ v12.toInt ∧ v12.toInt ≤ 6 := add_r bv12 k8 ⟨Int.le_refl _, Int.le_refl _⟩ (by decide)
        refine lv_iinc (v := v12) (lv' := [(4, .int v12), (0, .ref p0), (1, .int p1), (2, .long p2)]) hx hb dX1_indexOf_28 hl (k := 0) rfl (by rw [ev12]; rfl) (by decide) rfl (fun ls hl => ?_)
        refine lv_goto (tgt := 3) hx hb dX1_indexOf_31 (by decide) ?_
        exact ih (v12) (ir_wk k13 (by decide) (by decide)) (by show (6 - v12.toInt).toNat < (6 - u1.toInt).toNat; omega) _ _ _ hP hD hS (lv_sub hl [0, 1, 2, 3] rfl)
      · have dc11 : v10.toInt = 0 := eq_i (a := v10.toInt) (b := 0) rfl rfl c11
        have k14 : 0 ≤ v10.toInt ∧ v10.toInt ≤ 0 := ⟨Int.le_trans (Int.le_refl _) (Int.le_of_eq dc11.symm), Int.le_trans (Int.le_of_eq dc11) (Int.le_refl _)⟩
        refine lv_iload hx hb dX1_indexOf_25 (lv_at hl 0 rfl) ?_
        exact ret_i (v := u1) hx hb hr hlocks hS hP hD dX1_indexOf_27 rfl (Nat.le_of_ble_eq_true rfl) (Nat.le_of_ble_eq_true rfl) ⟨(ir_wk k8 (by decide) (by decide)), rfl⟩
set_option maxHeartbeats 4000000 in
set_option maxRecDepth 100000 in
theorem m_X1_runnerNamed (l : Launch) (D : va_G) (cI cJ cB cP cM cZ : ClassId) (h0 : Nat) (h_runnerName : Nat) (Fh : Nat → Value) (x_runners : Int32) (f_runnerName : Nat → Int64) (p0 : Int64) (sz : Nat) (e_runnerName : Fh 10 = .ref h_runnerName) (e_runners : Fh 15 = .int x_runners) (i_x_runners : IR 0 6 x_runners) : CI l yX1_runnerNamed cX1_runnerNamed 3 (some .int) { frames := 1, cells := 0, slots := 0, locals := 24 } (GG D cI cJ cB cP cM cZ) D [(h0, .inr (1, vL 18 Fh)), (h_runnerName, .inl (cJ, 6, .inr (.inl f_runnerName)))] sz [.ref h0, .long p0] (fun (r : Int32) (u : va_W) => IR (-1) 5 r ∧ u = [(h0, .inr (1, vL 18 Fh)), (h_runnerName, .inl (cJ, 6, .inr (.inl f_runnerName)))]) := by
  refine CI_mk (by decide) (Nat.le_of_ble_eq_true rfl) ?_
  intro p e s m below meth c A ls E hAe hG hsz hP hD hA hS hl
  obtain ⟨hx, hb, hr, hw, hown, hlocks, hml, hnm⟩ := E
  have hK := hG.1
  have i_x_runners : 0 ≤ x_runners.toInt ∧ x_runners.toInt ≤ 6 := i_x_runners
  have hl : lv_has ls 3 [(0, .ref h0), (1, .long p0)] := hl
  refine lv_aload_n hx hb dX1_runnerNamed_0 rfl (lv_at hl 0 rfl) ?_
  refine get_f (D := D) (ci := 1) (v := .ref h_runnerName) (C := RX1) (T := TX1) (N := 18) hx hb hw inAX1 hown hK hP 0 rfl rfl 10 (by decide) (hw _ q_347) (fun _ h9 => h9) e_runnerName dX1_runnerNamed_1 ?_
  refine lv_aload_n hx hb dX1_runnerNamed_4 rfl (lv_at hl 0 rfl) ?_
  refine get_f (D := D) (ci := 1) (v := .int x_runners) (C := RX1) (T := TX1) (N := 18) hx hb hw inAX1 hown hK hP 0 rfl rfl 15 (by decide) (hw _ q_359) (fun _ h9 => h9) e_runners dX1_runnerNamed_5 ?_
  refine lv_lload_n hx hb dX1_runnerNamed_8 rfl (lv_at hl 1 rfl) ?_
  refine call_Si (wr := [(h0, .inr (1, vL 18 Fh))]) (As := [.ref h_runnerName, .int x_runners, .long p0]) (rest := []) hx hb hml hown hw (m_X1_indexOf_6 l D cI cJ cB cP cM cZ h_runnerName f_runnerName x_runners p0 _ ) wS_X1_76_X1_indexOf dX1_runnerNamed_9 hP hD hS hA [1] [0] rfl rfl (by decide) (by decide) (by decide) GG.fb hG.at hl.1 rfl (Nat.le_of_ble_eq_true rfl) ⟨(Nat.le_of_ble_eq_true rfl), (Nat.le_of_ble_eq_true rfl)⟩ ⟨(Nat.le_of_ble_eq_true rfl), (Nat.le_of_ble_eq_true rfl)⟩ (fun r1 u H locs hp hP hD hS => ?_)
  obtain ⟨t2, rfl⟩ := hp
  have hP : va_P D vwCl [(h0, .inr (1, vL 18 Fh)), (h_runnerName, .inl (cJ, 6, .inr (.inl f_runnerName)))] H := hP
  have hD : va_D A [(h0, .inr (1, vL 18 Fh)), (h_runnerName, .inl (cJ, 6, .inr (.inl f_runnerName)))] := hD
  refine W.widen (k := 0) (n := 0) (Nat.le_of_ble_eq_true rfl) (Nat.le_of_ble_eq_true rfl) ?_
  exact ret_i (v := r1) hx hb hr hlocks hS hP hD dX1_runnerNamed_12 rfl (Nat.le_of_ble_eq_true rfl) (Nat.le_of_ble_eq_true rfl) ⟨t2, rfl⟩
set_option maxHeartbeats 4000000 in
set_option maxRecDepth 100000 in
theorem m_X1_runnerTakes (l : Launch) (D : va_G) (cI cJ cB cP cM cZ : ClassId) (h0 : Nat) (h_settings : Nat) (h_bestAt : Nat) (h_bad : Nat) (Fh : Nat → Value) (x_runners : Int32) (f_settings : Nat → Int32) (f_bestAt : Nat → Int32) (f_bad : Nat → Int32) (p0 : Int32) (p1 : Int32) (sz : Nat) (e_settings : Fh 1 = .ref h_settings) (e_bestAt : Fh 11 = .ref h_bestAt) (e_bad : Fh 12 = .ref h_bad) (e_runners : Fh 15 = .int x_runners) (i_x_runners : IR 0 6 x_runners) : CI l yX1_runnerTakes cX1_runnerTakes 4 (some .int) { frames := 1, cells := 0, slots := 0, locals := 40 } (GG D cI cJ cB cP cM cZ) D [(h0, .inr (1, vL 18 Fh)), (h_settings, .inl (cI, 5, .inl f_settings)), (h_bestAt, .inl (cI, 6, .inl f_bestAt)), (h_bad, .inl (cI, 6, .inl f_bad))] sz [.ref h0, .int p0, .int p1] (fun (r : Int32) (u : va_W) => u = [(h0, .inr (1, vL 18 Fh)), (h_settings, .inl (cI, 5, .inl f_settings)), (h_bestAt, .inl (cI, 6, .inl f_bestAt)), (h_bad, .inl (cI, 6, .inl f_bad))]) := by
  refine CI_mk (by decide) (Nat.le_of_ble_eq_true rfl) ?_
  intro p e s m below meth c A ls E hAe hG hsz hP hD hA hS hl
  obtain ⟨hx, hb, hr, hw, hown, hlocks, hml, hnm⟩ := E
  have hK := hG.1
  have i_x_runners : 0 ≤ x_runners.toInt ∧ x_runners.toInt ≤ 6 := i_x_runners
  have hl : lv_has ls 4 [(0, .ref h0), (1, .int p0), (2, .int p1)] := hl
  refine lv_iload_n hx hb dX1_runnerTakes_0 rfl (lv_at hl 1 rfl) ?_
  refine lv_if_lt (tgt := 12) hx hb dX1_runnerTakes_1 (by decide) (fun c1 => ?_) (fun c1 => ?_)
  · have dc1 : p0.toInt < 0 := lt_i (a := p0.toInt) (b := 0) rfl rfl c1
    have k2 : (-2147483648) ≤ p0.toInt ∧ p0.toInt ≤ (-1) := ⟨(ir_any _).1, up_lt dc1 (Int.le_refl _) (by decide)⟩
    refine lv_iconst (v := 0) hx hb dX1_runnerTakes_12 (by decide) ?_
    exact ret_i (v := 0) hx hb hr hlocks hS hP hD dX1_runnerTakes_13 rfl (Nat.le_of_ble_eq_true rfl) (Nat.le_of_ble_eq_true rfl) rfl
  · have dc1 : 0 ≤ p0.toInt := nlt_i (a := p0.toInt) (b := 0) rfl rfl c1
    have k3 : 0 ≤ p0.toInt ∧ p0.toInt ≤ 2147483647 := ⟨Int.le_trans (Int.le_refl _) dc1, (ir_any _).2⟩
    refine lv_iload_n hx hb dX1_runnerTakes_4 rfl (lv_at hl 1 rfl) ?_
    refine lv_aload_n hx hb dX1_runnerTakes_5 rfl (lv_at hl 0 rfl) ?_
    refine get_f (D := D) (ci := 1) (v := .int x_runners) (C := RX1) (T := TX1) (N := 18) hx hb hw inAX1 hown hK hP 0 rfl rfl 15 (by decide) (hw _ q_359) (fun _ h9 => h9) e_runners dX1_runnerTakes_6 ?_
    refine lv_icmp_lt (tgt := 14) hx hb dX1_runnerTakes_9 (by decide) (fun c4 => ?_) (fun c4 => ?_)
    · have dc4 : p0.toInt < x_runners.toInt := lt_i (a := p0.toInt) (b := x_runners.toInt) rfl rfl c4
      have k5 : 0 ≤ p0.toInt ∧ p0.toInt ≤ 5 := ⟨k3.1, up_lt dc4 i_x_runners.2 (by decide)⟩
      have k6 : 1 ≤ x_runners.toInt ∧ x_runners.toInt ≤ 6 := ⟨lo_lt dc4 k3.1 (by decide), i_x_runners.2⟩
      refine lv_aload_n hx hb dX1_runnerTakes_14 rfl (lv_at hl 0 rfl) ?_
      refine get_f (D := D) (ci := 1) (v := .ref h_settings) (C := RX1) (T := TX1) (N := 18) hx hb hw inAX1 hown hK hP 0 rfl rfl 1 (by decide) (hw _ q_315) (fun _ h9 => h9) e_settings dX1_runnerTakes_15 ?_
      refine lv_iconst (v := 4) hx hb dX1_runnerTakes_18 (by decide) ?_
      refine iald_n hx hb hK hP 1 0 rfl rfl 4 rfl (Nat.le_of_ble_eq_true rfl) (Nat.le_of_ble_eq_true rfl) rfl dX1_runnerTakes_19 ?_
      refine lv_topi (fun v7 ev7 => ?_)
      refine lv_iload_n hx hb dX1_runnerTakes_20 rfl (lv_at hl 2 rfl) ?_
      refine lv_iconst (v := 3) hx hb dX1_runnerTakes_21 (by decide) ?_
      refine lv_idiv hx hb dX1_runnerTakes_22 (by decide) ?_
      refine lv_topi (fun v8 ev8 => ?_)
      refine lv_iadd hx hb dX1_runnerTakes_23 ?_
      refine lv_topi (fun v9 ev9 => ?_)
      refine lv_istore_n (lv' := [(3, .int v9), (0, .ref h0), (1, .int p0), (2, .int p1)]) hx hb dX1_runnerTakes_24 rfl hl (by decide) rfl (fun ls hl => ?_)
      refine lv_aload_n hx hb dX1_runnerTakes_25 rfl (lv_at hl 1 rfl) ?_
      refine get_f (D := D) (ci := 1) (v := .ref h_bad) (C := RX1) (T := TX1) (N := 18) hx hb hw inAX1 hown hK hP 0 rfl rfl 12 (by decide) (hw _ q_350) (fun _ h9 => h9) e_bad dX1_runnerTakes_26 ?_
      refine lv_iload_n hx hb dX1_runnerTakes_29 rfl (lv_at hl 2 rfl) ?_
      refine va_iald hx hb hK hP 3 0 rfl rfl (ix_k k5 (by decide) (by decide)) dX1_runnerTakes_30 ?_
      refine lv_topi (fun v10 ev10 => ?_)
      refine lv_iload_n hx hb dX1_runnerTakes_31 rfl (lv_at hl 0 rfl) ?_
      refine lv_aload_n hx hb dX1_runnerTakes_32 rfl (lv_at hl 1 rfl) ?_
      refine get_f (D := D) (ci := 1) (v := .ref h_bestAt) (C := RX1) (T := TX1) (N := 18) hx hb hw inAX1 hown hK hP 0 rfl rfl 11 (by decide) (hw _ q_348) (fun _ h9 => h9) e_bestAt dX1_runnerTakes_33 ?_
      refine lv_iload_n hx hb dX1_runnerTakes_36 rfl (lv_at hl 2 rfl) ?_
      refine va_iald hx hb hK hP 2 0 rfl rfl (ix_k k5 (by decide) (by decide)) dX1_runnerTakes_37 ?_
      refine lv_topi (fun v11 ev11 => ?_)
      refine lv_isub hx hb dX1_runnerTakes_38 ?_
      refine lv_topi (fun v12 ev12 => ?_)
      refine va_mabs hx hb (hml.trans hl.1.symm) hown (hw _ q_756) (hw _ q_757) (hw _ q_19) (hw _ q_758) (Nat.le_of_ble_eq_true rfl) (Nat.le_of_ble_eq_true rfl) (Nat.le_of_ble_eq_true rfl) (Nat.le_of_ble_eq_true rfl) dX1_runnerTakes_39 ?_
      refine lv_topi (fun v13 ev13 => ?_)
      refine lv_imul hx hb dX1_runnerTakes_42 ?_
      refine lv_topi (fun v14 ev14 => ?_)
      refine lv_iconst (v := 4) hx hb dX1_runnerTakes_43 (by decide) ?_
      refine lv_idiv hx hb dX1_runnerTakes_44 (by decide) ?_
      refine lv_topi (fun v15 ev15 => ?_)
      exact ret_i (v := v15) hx hb hr hlocks hS hP hD dX1_runnerTakes_45 rfl (Nat.le_of_ble_eq_true rfl) (Nat.le_of_ble_eq_true rfl) rfl
    · have dc4 : x_runners.toInt ≤ p0.toInt := nlt_i (a := p0.toInt) (b := x_runners.toInt) rfl rfl c4
      refine lv_iconst (v := 0) hx hb dX1_runnerTakes_12 (by decide) ?_
      exact ret_i (v := 0) hx hb hr hlocks hS hP hD dX1_runnerTakes_13 rfl (Nat.le_of_ble_eq_true rfl) (Nat.le_of_ble_eq_true rfl) rfl
set_option maxHeartbeats 4000000 in
set_option maxRecDepth 100000 in
theorem m_X1_steadyChange (l : Launch) (D : va_G) (cI cJ cB cP cM cZ : ClassId) (h0 : Nat) (h_settings : Nat) (h_drop : Nat) (h_bestAt : Nat) (h_bad : Nat) (p1 : Nat) (Fh : Nat → Value) (x_runners : Int32) (f_settings : Nat → Int32) (f_drop : Nat → Int32) (f_bestAt : Nat → Int32) (f_bad : Nat → Int32) (F_p1_ : Nat → Value) (x_p1_runner : Int32) (x_p1_number : Int32) (p0 : Int32) (p2 : Int32) (sz : Nat) (e_settings : Fh 1 = .ref h_settings) (e_drop : Fh 7 = .ref h_drop) (e_bestAt : Fh 11 = .ref h_bestAt) (e_bad : Fh 12 = .ref h_bad) (e_runners : Fh 15 = .int x_runners) (i_x_runners : IR 0 6 x_runners) (e_p1_runner : F_p1_ 5 = .int x_p1_runner) (e_p1_number : F_p1_ 6 = .int x_p1_number) (i_p0 : IR 0 11 p0) : CI l yX1_steadyChange cX1_steadyChange 4 (some .int) { frames := 2, cells := 0, slots := 0, locals := 63 } (GG D cI cJ cB cP cM cZ) D [(h0, .inr (1, vL 18 Fh)), (h_settings, .inl (cI, 5, .inl f_settings)), (h_drop, .inl (cI, 12, .inl f_drop)), (h_bestAt, .inl (cI, 6, .inl f_bestAt)), (h_bad, .inl (cI, 6, .inl f_bad)), (p1, .inr (5, vL 11 F_p1_))] sz [.ref h0, .int p0, .ref p1, .int p2] (fun (r : Int32) (u : va_W) => u = [(h0, .inr (1, vL 18 Fh)), (h_settings, .inl (cI, 5, .inl f_settings)), (h_drop, .inl (cI, 12, .inl f_drop)), (h_bestAt, .inl (cI, 6, .inl f_bestAt)), (h_bad, .inl (cI, 6, .inl f_bad)), (p1, .inr (5, vL 11 F_p1_))]) := by
  refine CI_mk (by decide) (Nat.le_of_ble_eq_true rfl) ?_
  intro p e s m below meth c A ls E hAe hG hsz hP hD hA hS hl
  obtain ⟨hx, hb, hr, hw, hown, hlocks, hml, hnm⟩ := E
  have hK := hG.1
  have i_x_runners : 0 ≤ x_runners.toInt ∧ x_runners.toInt ≤ 6 := i_x_runners
  have i_p0 : 0 ≤ p0.toInt ∧ p0.toInt ≤ 11 := i_p0
  have hl : lv_has ls 4 [(0, .ref h0), (1, .int p0), (2, .ref p1), (3, .int p2)] := hl
  refine lv_aload_n hx hb dX1_steadyChange_0 rfl (lv_at hl 0 rfl) ?_
  refine get_f (D := D) (ci := 1) (v := .ref h_drop) (C := RX1) (T := TX1) (N := 18) hx hb hw inAX1 hown hK hP 0 rfl rfl 7 (by decide) (hw _ q_340) (fun _ h9 => h9) e_drop dX1_steadyChange_1 ?_
  refine lv_iload_n hx hb dX1_steadyChange_4 rfl (lv_at hl 1 rfl) ?_
  refine va_iald hx hb hK hP 2 0 rfl rfl (ix_k i_p0 (by decide) (by decide)) dX1_steadyChange_5 ?_
  refine lv_topi (fun v1 ev1 => ?_)
  refine lv_iload_n hx hb dX1_steadyChange_6 rfl (lv_at hl 3 rfl) ?_
  refine lv_imul hx hb dX1_steadyChange_7 ?_
  refine lv_topi (fun v2 ev2 => ?_)
  refine lv_bipush (v := 100) hx hb dX1_steadyChange_8 (by decide) ?_
  refine lv_idiv hx hb dX1_steadyChange_10 (by decide) ?_
  refine lv_topi (fun v3 ev3 => ?_)
  refine lv_aload_n hx hb dX1_steadyChange_11 rfl (lv_at hl 0 rfl) ?_
  refine get_f (D := D) (ci := 1) (v := .ref h_settings) (C := RX1) (T := TX1) (N := 18) hx hb hw inAX1 hown hK hP 0 rfl rfl 1 (by decide) (hw _ q_315) (fun _ h9 => h9) e_settings dX1_steadyChange_12 ?_
  refine lv_iconst (v := 3) hx hb dX1_steadyChange_15 (by decide) ?_
  refine iald_n hx hb hK hP 1 0 rfl rfl 3 rfl (Nat.le_of_ble_eq_true rfl) (Nat.le_of_ble_eq_true rfl) rfl dX1_steadyChange_16 ?_
  refine lv_topi (fun v4 ev4 => ?_)
  refine lv_isub hx hb dX1_steadyChange_17 ?_
  refine lv_topi (fun v5 ev5 => ?_)
  refine lv_aload_n hx hb dX1_steadyChange_18 rfl (lv_at hl 2 rfl) ?_
  refine get_f (D := D) (ci := 5) (v := .int x_p1_number) (C := RX5) (T := TX5) (N := 11) hx hb hw inAX5 hown hK hP 5 rfl rfl 6 (by decide) (hw _ q_168) (fun _ h9 => h9) e_p1_number dX1_steadyChange_19 ?_
  refine lv_iconst (v := 5) hx hb dX1_steadyChange_22 (by decide) ?_
  refine lv_idiv hx hb dX1_steadyChange_23 (by decide) ?_
  refine lv_topi (fun v6 ev6 => ?_)
  refine lv_isub hx hb dX1_steadyChange_24 ?_
  refine lv_topi (fun v7 ev7 => ?_)
  refine lv_aload_n hx hb dX1_steadyChange_25 rfl (lv_at hl 0 rfl) ?_
  refine lv_aload_n hx hb dX1_steadyChange_26 rfl (lv_at hl 2 rfl) ?_
  refine get_f (D := D) (ci := 5) (v := .int x_p1_runner) (C := RX5) (T := TX5) (N := 11) hx hb hw inAX5 hown hK hP 5 rfl rfl 5 (by decide) (hw _ q_165) (fun _ h9 => h9) e_p1_runner dX1_steadyChange_27 ?_
  refine lv_aload_n hx hb dX1_steadyChange_30 rfl (lv_at hl 2 rfl) ?_
  refine get_f (D := D) (ci := 5) (v := .int x_p1_number) (C := RX5) (T := TX5) (N := 11) hx hb hw inAX5 hown hK hP 5 rfl rfl 6 (by decide) (hw _ q_168) (fun _ h9 => h9) e_p1_number dX1_steadyChange_31 ?_
  refine call_Vi (wr := [(h_drop, .inl (cI, 12, .inl f_drop)), (p1, .inr (5, vL 11 F_p1_))]) (As := [.int x_p1_runner, .int x_p1_number]) (rest := [.int v7]) hx hb hml hown hw (m_X1_runnerTakes l D cI cJ cB cP cM cZ h0 h_settings h_bestAt h_bad Fh x_runners f_settings f_bestAt f_bad x_p1_runner x_p1_number _ e_settings e_bestAt e_bad e_runners i_x_runners) wV_X1_94_X1_runnerTakes dX1_steadyChange_34 hK hP hD hS hA [0, 1, 3, 4] [2, 5] rfl rfl (by decide) (by decide) (by decide) 0 1 rfl rfl GG.fb hG.at hl.1 rfl (Nat.le_of_ble_eq_true rfl) ⟨(Nat.le_of_ble_eq_true rfl), (Nat.le_of_ble_eq_true rfl)⟩ ⟨(Nat.le_of_ble_eq_true rfl), (Nat.le_of_ble_eq_true rfl)⟩ (fun r8 u H locs hp hP hD hS => ?_)
  obtain rfl := hp
  have hP : va_P D vwCl [(h_drop, .inl (cI, 12, .inl f_drop)), (p1, .inr (5, vL 11 F_p1_)), (h0, .inr (1, vL 18 Fh)), (h_settings, .inl (cI, 5, .inl f_settings)), (h_bestAt, .inl (cI, 6, .inl f_bestAt)), (h_bad, .inl (cI, 6, .inl f_bad))] H := hP
  have hD : va_D A [(h_drop, .inl (cI, 12, .inl f_drop)), (p1, .inr (5, vL 11 F_p1_)), (h0, .inr (1, vL 18 Fh)), (h_settings, .inl (cI, 5, .inl f_settings)), (h_bestAt, .inl (cI, 6, .inl f_bestAt)), (h_bad, .inl (cI, 6, .inl f_bad))] := hD
  refine W.widen (k := 0) (n := 0) (Nat.le_of_ble_eq_true rfl) (Nat.le_of_ble_eq_true rfl) ?_
  refine lv_isub hx hb dX1_steadyChange_37 ?_
  refine lv_topi (fun v9 ev9 => ?_)
  exact ret_i (v := v9) hx hb hr hlocks hS (hP.sub (ws' := [(h0, .inr (1, vL 18 Fh)), (h_settings, .inl (cI, 5, .inl f_settings)), (h_drop, .inl (cI, 12, .inl f_drop)), (h_bestAt, .inl (cI, 6, .inl f_bestAt)), (h_bad, .inl (cI, 6, .inl f_bad)), (p1, .inr (5, vL 11 F_p1_))]) [2, 3, 0, 4, 5, 1] rfl) (hD.sub (ws' := [(h0, .inr (1, vL 18 Fh)), (h_settings, .inl (cI, 5, .inl f_settings)), (h_drop, .inl (cI, 12, .inl f_drop)), (h_bestAt, .inl (cI, 6, .inl f_bestAt)), (h_bad, .inl (cI, 6, .inl f_bad)), (p1, .inr (5, vL 11 F_p1_))]) [2, 3, 0, 4, 5, 1] (by decide) rfl) dX1_steadyChange_38 rfl (Nat.le_of_ble_eq_true rfl) (Nat.le_of_ble_eq_true rfl) rfl
set_option maxHeartbeats 4000000 in
set_option maxRecDepth 100000 in
theorem m_X1_heightCost (l : Launch) (D : va_G) (cI cJ cB cP cM cZ : ClassId) (h0 : Nat) (h_ideal : Nat) (Fh : Nat → Value) (f_ideal : Nat → Int32) (p0 : Int32) (p1 : Int32) (p2 : Int32) (sz : Nat) (e_ideal : Fh 8 = .ref h_ideal) (i_p0 : IR 0 11 p0) : CI l yX1_heightCost cX1_heightCost 4 (some .int) { frames := 1, cells := 0, slots := 0, locals := 40 } (GG D cI cJ cB cP cM cZ) D [(h0, .inr (1, vL 18 Fh)), (h_ideal, .inl (cI, 12, .inl f_ideal))] sz [.ref h0, .int p0, .int p1, .int p2] (fun (r : Int32) (u : va_W) => u = [(h0, .inr (1, vL 18 Fh)), (h_ideal, .inl (cI, 12, .inl f_ideal))]) := by
  refine CI_mk (by decide) (Nat.le_of_ble_eq_true rfl) ?_
  intro p e s m below meth c A ls E hAe hG hsz hP hD hA hS hl
  obtain ⟨hx, hb, hr, hw, hown, hlocks, hml, hnm⟩ := E
  have hK := hG.1
  have i_p0 : 0 ≤ p0.toInt ∧ p0.toInt ≤ 11 := i_p0
  have hl : lv_has ls 4 [(0, .ref h0), (1, .int p0), (2, .int p1), (3, .int p2)] := hl
  refine lv_iconst (v := 3) hx hb dX1_heightCost_0 (by decide) ?_
  refine lv_iload_n hx hb dX1_heightCost_1 rfl (lv_at hl 2 rfl) ?_
  refine lv_aload_n hx hb dX1_heightCost_2 rfl (lv_at hl 0 rfl) ?_
  refine get_f (D := D) (ci := 1) (v := .ref h_ideal) (C := RX1) (T := TX1) (N := 18) hx hb hw inAX1 hown hK hP 0 rfl rfl 8 (by decide) (hw _ q_342) (fun _ h9 => h9) e_ideal dX1_heightCost_3 ?_
  refine lv_iload_n hx hb dX1_heightCost_6 rfl (lv_at hl 1 rfl) ?_
  refine va_iald hx hb hK hP 1 0 rfl rfl (ix_k i_p0 (by decide) (by decide)) dX1_heightCost_7 ?_
  refine lv_topi (fun v1 ev1 => ?_)
  refine lv_isub hx hb dX1_heightCost_8 ?_
  refine lv_topi (fun v2 ev2 => ?_)
  refine va_mabs hx hb (hml.trans hl.1.symm) hown (hw _ q_756) (hw _ q_757) (hw _ q_19) (hw _ q_758) (Nat.le_of_ble_eq_true rfl) (Nat.le_of_ble_eq_true rfl) (Nat.le_of_ble_eq_true rfl) (Nat.le_of_ble_eq_true rfl) dX1_heightCost_9 ?_
  refine lv_topi (fun v3 ev3 => ?_)
  refine lv_imul hx hb dX1_heightCost_12 ?_
  refine lv_topi (fun v4 ev4 => ?_)
  refine lv_iconst (v := 2) hx hb dX1_heightCost_13 (by decide) ?_
  refine lv_iload_n hx hb dX1_heightCost_14 rfl (lv_at hl 2 rfl) ?_
  refine lv_iload_n hx hb dX1_heightCost_15 rfl (lv_at hl 3 rfl) ?_
  refine lv_isub hx hb dX1_heightCost_16 ?_
  refine lv_topi (fun v5 ev5 => ?_)
  refine va_mabs hx hb (hml.trans hl.1.symm) hown (hw _ q_756) (hw _ q_757) (hw _ q_19) (hw _ q_758) (Nat.le_of_ble_eq_true rfl) (Nat.le_of_ble_eq_true rfl) (Nat.le_of_ble_eq_true rfl) (Nat.le_of_ble_eq_true rfl) dX1_heightCost_17 ?_
  refine lv_topi (fun v6 ev6 => ?_)
  refine lv_imul hx hb dX1_heightCost_20 ?_
  refine lv_topi (fun v7 ev7 => ?_)
  refine lv_iadd hx hb dX1_heightCost_21 ?_
  refine lv_topi (fun v8 ev8 => ?_)
  exact ret_i (v := v8) hx hb hr hlocks hS hP hD dX1_heightCost_22 rfl (Nat.le_of_ble_eq_true rfl) (Nat.le_of_ble_eq_true rfl) rfl
set_option maxHeartbeats 4000000 in
set_option maxRecDepth 100000 in
theorem m_X1_turnsOver (l : Launch) (D : va_G) (cI cJ cB cP cM cZ : ClassId) (h0 : Nat) (h_over : Nat) (Fh : Nat → Value) (f_over : Nat → Int32) (p0 : Int32) (p1 : Int32) (p2 : Int32) (sz : Nat) (e_over : Fh 9 = .ref h_over) (i_p0 : IR 0 11 p0) : CI l yX1_turnsOver cX1_turnsOver 4 (some .boolean) { frames := 0, cells := 0, slots := 0, locals := 0 } (GG D cI cJ cB cP cM cZ) D [(h0, .inr (1, vL 18 Fh)), (h_over, .inl (cI, 12, .inl f_over))] sz [.ref h0, .int p0, .int p1, .int p2] (fun (r : Int32) (u : va_W) => IR 0 1 r ∧ u = [(h0, .inr (1, vL 18 Fh)), (h_over, .inl (cI, 12, .inl f_over))]) := by
  refine CI_mk (by decide) (Nat.le_of_ble_eq_true rfl) ?_
  intro p e s m below meth c A ls E hAe hG hsz hP hD hA hS hl
  obtain ⟨hx, hb, hr, hw, hown, hlocks, hml, hnm⟩ := E
  have hK := hG.1
  have i_p0 : 0 ≤ p0.toInt ∧ p0.toInt ≤ 11 := i_p0
  have hl : lv_has ls 4 [(0, .ref h0), (1, .int p0), (2, .int p1), (3, .int p2)] := hl
  refine lv_iload_n hx hb dX1_turnsOver_0 rfl (lv_at hl 2 rfl) ?_
  refine lv_iload_n hx hb dX1_turnsOver_1 rfl (lv_at hl 3 rfl) ?_
  refine lv_imul hx hb dX1_turnsOver_2 ?_
  refine lv_topi (fun v1 ev1 => ?_)
  refine lv_bipush (v := 20) hx hb dX1_turnsOver_3 (by decide) ?_
  refine lv_aload_n hx hb dX1_turnsOver_5 rfl (lv_at hl 0 rfl) ?_
  refine get_f (D := D) (ci := 1) (v := .ref h_over) (C := RX1) (T := TX1) (N := 18) hx hb hw inAX1 hown hK hP 0 rfl rfl 9 (by decide) (hw _ q_345) (fun _ h9 => h9) e_over dX1_turnsOver_6 ?_
  refine lv_iload_n hx hb dX1_turnsOver_9 rfl (lv_at hl 1 rfl) ?_
  refine va_iald hx hb hK hP 1 0 rfl rfl (ix_k i_p0 (by decide) (by decide)) dX1_turnsOver_10 ?_
  refine lv_topi (fun v2 ev2 => ?_)
  refine lv_imul hx hb dX1_turnsOver_11 ?_
  refine lv_topi (fun v3 ev3 => ?_)
  refine lv_icmp_le (tgt := 19) hx hb dX1_turnsOver_12 (by decide) (fun c4 => ?_) (fun c4 => ?_)
  · have dc4 : v1.toInt ≤ v3.toInt := le_i (a := v1.toInt) (b := v3.toInt) rfl rfl c4
    refine lv_iconst (v := 0) hx hb dX1_turnsOver_19 (by decide) ?_
    exact ret_i (v := 0) hx hb hr hlocks hS hP hD dX1_turnsOver_20 rfl (Nat.le_of_ble_eq_true rfl) (Nat.le_of_ble_eq_true rfl) ⟨⟨by decide, by decide⟩, rfl⟩
  · have dc4 : v3.toInt < v1.toInt := nle_i (a := v1.toInt) (b := v3.toInt) rfl rfl c4
    have k5 : (-2147483648) ≤ v3.toInt ∧ v3.toInt ≤ 2147483646 := ⟨(ir_any _).1, up_lt dc4 (ir_any _).2 (by decide)⟩
    have k6 : (-2147483647) ≤ v1.toInt ∧ v1.toInt ≤ 2147483647 := ⟨lo_lt dc4 (ir_any _).1 (by decide), (ir_any _).2⟩
    refine lv_iconst (v := 1) hx hb dX1_turnsOver_15 (by decide) ?_
    refine lv_goto (tgt := 20) hx hb dX1_turnsOver_16 (by decide) ?_
    exact ret_i (v := 1) hx hb hr hlocks hS hP hD dX1_turnsOver_20 rfl (Nat.le_of_ble_eq_true rfl) (Nat.le_of_ble_eq_true rfl) ⟨⟨by decide, by decide⟩, rfl⟩
set_option maxHeartbeats 4000000 in
set_option maxRecDepth 100000 in
theorem m_X6_wordHere (l : Launch) (D : va_G) (cI cJ cB cP cM cZ : ClassId) (h0 : Nat) (Fh : Nat → Value) (x_kind : Int32) (x_value : Int32) (sz : Nat) (e_kind : Fh 2 = .int x_kind) (e_value : Fh 4 = .int x_value) : CI l yX6_wordHere cX6_wordHere 1 (some .int) { frames := 0, cells := 0, slots := 0, locals := 0 } (GG D cI cJ cB cP cM cZ) D [(h0, .inr (6, vL 12 Fh))] sz [.ref h0] (fun (r : Int32) (u : va_W) => (x_kind.toInt ≠ 2 ∧ r = (-1) ∧ u = [(h0, .inr (6, vL 12 Fh))]) ∨ (x_kind.toInt = 2 ∧ r = x_value ∧ u = [(h0, .inr (6, vL 12 Fh))])) := by
  refine CI_mk (by decide) (Nat.le_of_ble_eq_true rfl) ?_
  intro p e s m below meth c A ls E hAe hG hsz hP hD hA hS hl
  obtain ⟨hx, hb, hr, hw, hown, hlocks, hml, hnm⟩ := E
  have hK := hG.1
  have hl : lv_has ls 1 [(0, .ref h0)] := hl
  refine lv_aload_n hx hb dX6_wordHere_0 rfl (lv_at hl 0 rfl) ?_
  refine get_f (D := D) (ci := 6) (v := .int x_kind) (C := RX6) (T := TX6) (N := 12) hx hb hw inAX6 hown hK hP 0 rfl rfl 2 (by decide) (hw _ q_92) (fun _ h9 => h9) e_kind dX6_wordHere_1 ?_
  refine lv_iconst (v := 2) hx hb dX6_wordHere_4 (by decide) ?_
  refine lv_icmp_ne (tgt := 15) hx hb dX6_wordHere_5 (by decide) (fun c1 => ?_) (fun c1 => ?_)
  · have dc1 : x_kind.toInt ≠ 2 := ne_i (a := x_kind.toInt) (b := 2) rfl rfl c1
    refine lv_iconst (v := (-1)) hx hb dX6_wordHere_15 (by decide) ?_
    exact ret_i (v := (-1)) hx hb hr hlocks hS hP hD dX6_wordHere_16 rfl (Nat.le_of_ble_eq_true rfl) (Nat.le_of_ble_eq_true rfl) (Or.inl ⟨dc1, rfl, rfl⟩)
  · have dc1 : x_kind.toInt = 2 := eq_i (a := x_kind.toInt) (b := 2) rfl rfl c1
    have k2 : 2 ≤ x_kind.toInt ∧ x_kind.toInt ≤ 2 := ⟨Int.le_trans (Int.le_refl _) (Int.le_of_eq dc1.symm), Int.le_trans (Int.le_of_eq dc1) (Int.le_refl _)⟩
    refine lv_aload_n hx hb dX6_wordHere_8 rfl (lv_at hl 0 rfl) ?_
    refine get_f (D := D) (ci := 6) (v := .int x_value) (C := RX6) (T := TX6) (N := 12) hx hb hw inAX6 hown hK hP 0 rfl rfl 4 (by decide) (hw _ q_97) (fun _ h9 => h9) e_value dX6_wordHere_9 ?_
    refine lv_goto (tgt := 16) hx hb dX6_wordHere_12 (by decide) ?_
    exact ret_i (v := x_value) hx hb hr hlocks hS hP hD dX6_wordHere_16 rfl (Nat.le_of_ble_eq_true rfl) (Nat.le_of_ble_eq_true rfl) (Or.inr ⟨dc1, rfl, rfl⟩)
set_option maxHeartbeats 4000000 in
set_option maxRecDepth 100000 in
theorem m_X6_fail (l : Launch) (D : va_G) (cI cJ cB cP cM cZ : ClassId) (h0 : Nat) (Fh : Nat → Value) (x_place : Int32) (p0 : Int32) (sz : Nat) (e_place : Fh 3 = .int x_place) : CI l yX6_fail cX6_fail 2 (some .boolean) { frames := 0, cells := 0, slots := 0, locals := 0 } (GG D cI cJ cB cP cM cZ) D [(h0, .inr (6, vL 12 Fh))] sz [.ref h0, .int p0] (fun (r : Int32) (u : va_W) => ∃ (Gh : Nat → Value), SAME [7, 8] Fh Gh ∧ Gh 7 = .int p0 ∧ Gh 8 = .int x_place ∧ r = 0 ∧ u = [(h0, .inr (6, vL 12 Gh))]) := by
  refine CI_mk (by decide) (Nat.le_of_ble_eq_true rfl) ?_
  intro p e s m below meth c A ls E hAe hG hsz hP hD hA hS hl
  obtain ⟨hx, hb, hr, hw, hown, hlocks, hml, hnm⟩ := E
  have hK := hG.1
  have hl : lv_has ls 2 [(0, .ref h0), (1, .int p0)] := hl
  refine lv_aload_n hx hb dX6_fail_0 rfl (lv_at hl 0 rfl) ?_
  refine lv_iload_n hx hb dX6_fail_1 rfl (lv_at hl 1 rfl) ?_
  refine put_f (D := D) (ci := 6) (v := .int p0) (ty := .int) (C := RX6) (T := TX6) (N := 12) hx hb hw inAX6 tyX6 tyX6_ok nmX6 hown hK hP hD hS 0 rfl rfl 7 (by decide) (hw _ q_105) (fun _ h9 => h9) rfl (by decide +kernel) rfl rfl dX6_fail_2 (fun H locs F1 eF1 hP hD hS => ?_)
  have hP : va_P D vwCl [(h0, .inr (6, vL 12 F1))] H := hP
  have hD : va_D A [(h0, .inr (6, vL 12 F1))] := hD
  refine lv_aload_n hx hb dX6_fail_5 rfl (lv_at hl 0 rfl) ?_
  refine lv_aload_n hx hb dX6_fail_6 rfl (lv_at hl 0 rfl) ?_
  have n2 : F1 3 = .int x_place := (get_ne eF1 (by decide) e_place)
  refine get_f (D := D) (ci := 6) (v := .int x_place) (C := RX6) (T := TX6) (N := 12) hx hb hw inAX6 hown hK hP 0 rfl rfl 3 (by decide) (hw _ q_96) (fun _ h9 => h9) n2 dX6_fail_7 ?_
  refine put_f (D := D) (ci := 6) (v := .int x_place) (ty := .int) (C := RX6) (T := TX6) (N := 12) hx hb hw inAX6 tyX6 tyX6_ok nmX6 hown hK hP hD hS 0 rfl rfl 8 (by decide) (hw _ q_107) (fun _ h9 => h9) rfl (by decide +kernel) rfl rfl dX6_fail_10 (fun H locs F3 eF3 hP hD hS => ?_)
  have hP : va_P D vwCl [(h0, .inr (6, vL 12 F3))] H := hP
  have hD : va_D A [(h0, .inr (6, vL 12 F3))] := hD
  refine lv_iconst (v := 0) hx hb dX6_fail_13 (by decide) ?_
  exact ret_i (v := 0) hx hb hr hlocks hS hP hD dX6_fail_14 rfl (Nat.le_of_ble_eq_true rfl) (Nat.le_of_ble_eq_true rfl) ⟨F3, (SAME.up eF3 (SAME.up eF1 SAME.rf (by decide)) (by decide)), (get_ne eF3 (by decide) (get_eq eF1)), (get_eq eF3), rfl, rfl⟩
set_option maxHeartbeats 4000000 in
set_option maxRecDepth 100000 in
theorem m_X6_isSign (l : Launch) (D : va_G) (cI cJ cB cP cM cZ : ClassId) (p0 : Int32) (sz : Nat)  : CI l yX6_isSign cX6_isSign 1 (some .boolean) { frames := 0, cells := 0, slots := 0, locals := 0 } (GG D cI cJ cB cP cM cZ) D [] sz [.int p0] (fun (r : Int32) (u : va_W) => IR 0 1 r ∧ u = []) := by
  refine CI_mk (by decide) (Nat.le_of_ble_eq_true rfl) ?_
  intro p e s m below meth c A ls E hAe hG hsz hP hD hA hS hl
  obtain ⟨hx, hb, hr, hw, hown, hlocks, hml, hnm⟩ := E
  have hK := hG.1
  have hl : lv_has ls 1 [(0, .int p0)] := hl
  refine lv_iload_n hx hb dX6_isSign_0 rfl (lv_at hl 0 rfl) ?_
  refine lv_bipush (v := 59) hx hb dX6_isSign_1 (by decide) ?_
  refine lv_icmp_eq (tgt := 36) hx hb dX6_isSign_3 (by decide) (fun c1 => ?_) (fun c1 => ?_)
  · have dc1 : p0.toInt = 59 := eq_i (a := p0.toInt) (b := 59) rfl rfl c1
    have k2 : 59 ≤ p0.toInt ∧ p0.toInt ≤ 59 := ⟨Int.le_trans (Int.le_refl _) (Int.le_of_eq dc1.symm), Int.le_trans (Int.le_of_eq dc1) (Int.le_refl _)⟩
    refine lv_iconst (v := 1) hx hb dX6_isSign_36 (by decide) ?_
    refine lv_goto (tgt := 41) hx hb dX6_isSign_37 (by decide) ?_
    exact ret_i (v := 1) hx hb hr hlocks hS hP hD dX6_isSign_41 rfl (Nat.le_of_ble_eq_true rfl) (Nat.le_of_ble_eq_true rfl) ⟨⟨by decide, by decide⟩, rfl⟩
  · have dc1 : p0.toInt ≠ 59 := ne_i (a := p0.toInt) (b := 59) rfl rfl c1
    refine lv_iload_n hx hb dX6_isSign_6 rfl (lv_at hl 0 rfl) ?_
    refine lv_bipush (v := 60) hx hb dX6_isSign_7 (by decide) ?_
    refine lv_icmp_eq (tgt := 36) hx hb dX6_isSign_9 (by decide) (fun c3 => ?_) (fun c3 => ?_)
    · have dc3 : p0.toInt = 60 := eq_i (a := p0.toInt) (b := 60) rfl rfl c3
      have k4 : 60 ≤ p0.toInt ∧ p0.toInt ≤ 60 := ⟨Int.le_trans (Int.le_refl _) (Int.le_of_eq dc3.symm), Int.le_trans (Int.le_of_eq dc3) (Int.le_refl _)⟩
      refine lv_iconst (v := 1) hx hb dX6_isSign_36 (by decide) ?_
      refine lv_goto (tgt := 41) hx hb dX6_isSign_37 (by decide) ?_
      exact ret_i (v := 1) hx hb hr hlocks hS hP hD dX6_isSign_41 rfl (Nat.le_of_ble_eq_true rfl) (Nat.le_of_ble_eq_true rfl) ⟨⟨by decide, by decide⟩, rfl⟩
    · have dc3 : p0.toInt ≠ 60 := ne_i (a := p0.toInt) (b := 60) rfl rfl c3
      refine lv_iload_n hx hb dX6_isSign_12 rfl (lv_at hl 0 rfl) ?_
      refine lv_bipush (v := 61) hx hb dX6_isSign_13 (by decide) ?_
      refine lv_icmp_eq (tgt := 36) hx hb dX6_isSign_15 (by decide) (fun c5 => ?_) (fun c5 => ?_)
      · have dc5 : p0.toInt = 61 := eq_i (a := p0.toInt) (b := 61) rfl rfl c5
        have k6 : 61 ≤ p0.toInt ∧ p0.toInt ≤ 61 := ⟨Int.le_trans (Int.le_refl _) (Int.le_of_eq dc5.symm), Int.le_trans (Int.le_of_eq dc5) (Int.le_refl _)⟩
        refine lv_iconst (v := 1) hx hb dX6_isSign_36 (by decide) ?_
        refine lv_goto (tgt := 41) hx hb dX6_isSign_37 (by decide) ?_
        exact ret_i (v := 1) hx hb hr hlocks hS hP hD dX6_isSign_41 rfl (Nat.le_of_ble_eq_true rfl) (Nat.le_of_ble_eq_true rfl) ⟨⟨by decide, by decide⟩, rfl⟩
      · have dc5 : p0.toInt ≠ 61 := ne_i (a := p0.toInt) (b := 61) rfl rfl c5
        refine lv_iload_n hx hb dX6_isSign_18 rfl (lv_at hl 0 rfl) ?_
        refine lv_bipush (v := 62) hx hb dX6_isSign_19 (by decide) ?_
        refine lv_icmp_eq (tgt := 36) hx hb dX6_isSign_21 (by decide) (fun c7 => ?_) (fun c7 => ?_)
        · have dc7 : p0.toInt = 62 := eq_i (a := p0.toInt) (b := 62) rfl rfl c7
          have k8 : 62 ≤ p0.toInt ∧ p0.toInt ≤ 62 := ⟨Int.le_trans (Int.le_refl _) (Int.le_of_eq dc7.symm), Int.le_trans (Int.le_of_eq dc7) (Int.le_refl _)⟩
          refine lv_iconst (v := 1) hx hb dX6_isSign_36 (by decide) ?_
          refine lv_goto (tgt := 41) hx hb dX6_isSign_37 (by decide) ?_
          exact ret_i (v := 1) hx hb hr hlocks hS hP hD dX6_isSign_41 rfl (Nat.le_of_ble_eq_true rfl) (Nat.le_of_ble_eq_true rfl) ⟨⟨by decide, by decide⟩, rfl⟩
        · have dc7 : p0.toInt ≠ 62 := ne_i (a := p0.toInt) (b := 62) rfl rfl c7
          refine lv_iload_n hx hb dX6_isSign_24 rfl (lv_at hl 0 rfl) ?_
          refine lv_bipush (v := 40) hx hb dX6_isSign_25 (by decide) ?_
          refine lv_icmp_eq (tgt := 36) hx hb dX6_isSign_27 (by decide) (fun c9 => ?_) (fun c9 => ?_)
          · have dc9 : p0.toInt = 40 := eq_i (a := p0.toInt) (b := 40) rfl rfl c9
            have k10 : 40 ≤ p0.toInt ∧ p0.toInt ≤ 40 := ⟨Int.le_trans (Int.le_refl _) (Int.le_of_eq dc9.symm), Int.le_trans (Int.le_of_eq dc9) (Int.le_refl _)⟩
            refine lv_iconst (v := 1) hx hb dX6_isSign_36 (by decide) ?_
            refine lv_goto (tgt := 41) hx hb dX6_isSign_37 (by decide) ?_
            exact ret_i (v := 1) hx hb hr hlocks hS hP hD dX6_isSign_41 rfl (Nat.le_of_ble_eq_true rfl) (Nat.le_of_ble_eq_true rfl) ⟨⟨by decide, by decide⟩, rfl⟩
          · have dc9 : p0.toInt ≠ 40 := ne_i (a := p0.toInt) (b := 40) rfl rfl c9
            refine lv_iload_n hx hb dX6_isSign_30 rfl (lv_at hl 0 rfl) ?_
            refine lv_bipush (v := 41) hx hb dX6_isSign_31 (by decide) ?_
            refine lv_icmp_ne (tgt := 40) hx hb dX6_isSign_33 (by decide) (fun c11 => ?_) (fun c11 => ?_)
            · have dc11 : p0.toInt ≠ 41 := ne_i (a := p0.toInt) (b := 41) rfl rfl c11
              refine lv_iconst (v := 0) hx hb dX6_isSign_40 (by decide) ?_
              exact ret_i (v := 0) hx hb hr hlocks hS hP hD dX6_isSign_41 rfl (Nat.le_of_ble_eq_true rfl) (Nat.le_of_ble_eq_true rfl) ⟨⟨by decide, by decide⟩, rfl⟩
            · have dc11 : p0.toInt = 41 := eq_i (a := p0.toInt) (b := 41) rfl rfl c11
              have k12 : 41 ≤ p0.toInt ∧ p0.toInt ≤ 41 := ⟨Int.le_trans (Int.le_refl _) (Int.le_of_eq dc11.symm), Int.le_trans (Int.le_of_eq dc11) (Int.le_refl _)⟩
              refine lv_iconst (v := 1) hx hb dX6_isSign_36 (by decide) ?_
              refine lv_goto (tgt := 41) hx hb dX6_isSign_37 (by decide) ?_
              exact ret_i (v := 1) hx hb hr hlocks hS hP hD dX6_isSign_41 rfl (Nat.le_of_ble_eq_true rfl) (Nat.le_of_ble_eq_true rfl) ⟨⟨by decide, by decide⟩, rfl⟩
set_option maxHeartbeats 4000000 in
set_option maxRecDepth 100000 in
theorem m_X6_readRow (l : Launch) (D : va_G) (cI cJ cB cP cM cZ : ClassId) (h0 : Nat) (h_bytes : Nat) (Fh : Nat → Value) (x_length : Int32) (x_at : Int32) (f_bytes : Nat → Int32) (sz : Nat) (e_bytes : Fh 0 = .ref h_bytes) (e_length : Fh 1 = .int x_length) (i_x_length : IR 0 940 x_length) (e_at : Fh 10 = .int x_at) (i_x_at : IR 0 940 x_at) : CV l yX6_readRow cX6_readRow 4 none { frames := 0, cells := 0, slots := 0, locals := 0 } (GG D cI cJ cB cP cM cZ) D [(h0, .inr (6, vL 12 Fh)), (h_bytes, .inl (cB, 940, .inl f_bytes))] sz [.ref h0] (fun (u : va_W) => ∃ (Gh : Nat → Value) (y_kind : Int32) (y_value : Int32) (y_name : Int64) (y_at : Int32), SAME [2, 4, 5, 10] Fh Gh ∧ Gh 2 = .int y_kind ∧ IR 1 3 y_kind ∧ Gh 4 = .int y_value ∧ Gh 5 = .long y_name ∧ Gh 10 = .int y_at ∧ IR 0 940 y_at ∧ u = [(h0, .inr (6, vL 12 Gh)), (h_bytes, .inl (cB, 940, .inl f_bytes))]) := by
  refine CV_mk (by decide) (Nat.le_of_ble_eq_true rfl) ?_
  intro p e s m below meth c A ls E hAe hG hsz hP hD hA hS hl
  obtain ⟨hx, hb, hr, hw, hown, hlocks, hml, hnm⟩ := E
  have hK := hG.1
  have i_x_length : 0 ≤ x_length.toInt ∧ x_length.toInt ≤ 940 := i_x_length
  have i_x_at : 0 ≤ x_at.toInt ∧ x_at.toInt ≤ 940 := i_x_at
  have hl : lv_has ls 4 [(0, .ref h0)] := hl
  refine lv_iconst (v := 0) hx hb dX6_readRow_0 (by decide) ?_
  refine lv_istore_n (lv' := [(1, .int 0), (0, .ref h0)]) hx hb dX6_readRow_1 rfl hl (by decide) rfl (fun ls hl => ?_)
  refine lv_iconst (v := 0) hx hb dX6_readRow_2 (by decide) ?_
  refine lv_istore_n (lv' := [(2, .int 0), (1, .int 0), (0, .ref h0)]) hx hb dX6_readRow_3 rfl hl (by decide) rfl (fun ls hl => ?_)
  refine lv_aload_n hx hb dX6_readRow_4 rfl (lv_at hl 2 rfl) ?_
  refine lv_iconst (v := 0) hx hb dX6_readRow_5 (by decide) ?_
  refine put_f (D := D) (ci := 6) (v := .int 0) (ty := .int) (C := RX6) (T := TX6) (N := 12) hx hb hw inAX6 tyX6 tyX6_ok nmX6 hown hK hP hD hS 0 rfl rfl 4 (by decide) (hw _ q_97) (fun _ h9 => h9) rfl (by decide +kernel) rfl rfl dX6_readRow_6 (fun H locs F1 eF1 hP hD hS => ?_)
  have hP : va_P D vwCl [(h0, .inr (6, vL 12 F1)), (h_bytes, .inl (cB, 940, .inl f_bytes))] H := hP
  have hD : va_D A [(h0, .inr (6, vL 12 F1)), (h_bytes, .inl (cB, 940, .inl f_bytes))] := hD
  refine lv_aload_n hx hb dX6_readRow_9 rfl (lv_at hl 2 rfl) ?_
  refine lv_lconst (v := 0) hx hb dX6_readRow_10 (by decide) ?_
  refine put_f (D := D) (ci := 6) (v := .long 0) (ty := .long) (C := RX6) (T := TX6) (N := 12) hx hb hw inAX6 tyX6 tyX6_ok nmX6 hown hK hP hD hS 0 rfl rfl 5 (by decide) (hw _ q_98) (fun _ h9 => h9) rfl (by decide +kernel) rfl rfl dX6_readRow_11 (fun H locs F2 eF2 hP hD hS => ?_)
  have hP : va_P D vwCl [(h0, .inr (6, vL 12 F2)), (h_bytes, .inl (cB, 940, .inl f_bytes))] H := hP
  have hD : va_D A [(h0, .inr (6, vL 12 F2)), (h_bytes, .inl (cB, 940, .inl f_bytes))] := hD
  have cut9 : ∀ (u3 : Int32) (u4 : Int32) (G5 : Nat → Value) (u6 : Int32) (u7 : Int64) (u8 : Int32) (_ : SAME [4, 5, 10] F2 G5) (_ : G5 4 = .int u6) (_ : G5 5 = .long u7) (_ : G5 10 = .int u8) (_ : IR 0 940 u8) (H : Heap) (locs : List Loc) (ls : Array Slot), va_P D vwCl [(h0, .inr (6, vL 12 G5)), (h_bytes, .inl (cB, 940, .inl f_bytes))] H → va_D A [(h0, .inr (6, vL 12 G5)), (h_bytes, .inl (cB, 940, .inl f_bytes))] → va_S A s.heap H locs → lv_has ls 4 [(2, .int u3), (1, .int u4), (0, .ref h0)] → W p l e ({ frames := 0, cells := 0, slots := 0, locals := 0 } : Room) s m [.ref h0].toArray below meth c H locs 0 0 (MQ below (va_Qv (fun (u : va_W) => ∃ (Gh : Nat → Value) (y_kind : Int32) (y_value : Int32) (y_name : Int64) (y_at : Int32), SAME [2, 4, 5, 10] Fh Gh ∧ Gh 2 = .int y_kind ∧ IR 1 3 y_kind ∧ Gh 4 = .int y_value ∧ Gh 5 = .long y_name ∧ Gh 10 = .int y_at ∧ IR 0 940 y_at ∧ u = [(h0, .inr (6, vL 12 Gh)), (h_bytes, .inl (cB, 940, .inl f_bytes))]) (PO D A) A) [.ref h0].toArray s 0 0 A) (F0 m 118 ls []) := by
    intro u3 u4 G5 u6 u7 u8 i10 i11 i12 i13 i14 H locs ls hP hD hS hl
    have i14 : 0 ≤ u8.toInt ∧ u8.toInt ≤ 940 := i14
    refine lv_aload_n hx hb dX6_readRow_118 rfl (lv_at hl 2 rfl) ?_
    refine lv_iconst (v := 1) hx hb dX6_readRow_119 (by decide) ?_
    refine put_f (D := D) (ci := 6) (v := .int 1) (ty := .int) (C := RX6) (T := TX6) (N := 12) hx hb hw inAX6 tyX6 tyX6_ok nmX6 hown hK hP hD hS 0 rfl rfl 2 (by decide) (hw _ q_92) (fun _ h9 => h9) rfl (by decide +kernel) rfl rfl dX6_readRow_120 (fun H locs F15 eF15 hP hD hS => ?_)
    have hP : va_P D vwCl [(h0, .inr (6, vL 12 F15)), (h_bytes, .inl (cB, 940, .inl f_bytes))] H := hP
    have hD : va_D A [(h0, .inr (6, vL 12 F15)), (h_bytes, .inl (cB, 940, .inl f_bytes))] := hD
    refine lv_iload_n hx hb dX6_readRow_123 rfl (lv_at hl 0 rfl) ?_
    refine lv_if_ne (tgt := 145) hx hb dX6_readRow_124 (by decide) (fun c16 => ?_) (fun c16 => ?_)
    · have dc16 : u3.toInt ≠ 0 := ne_i (a := u3.toInt) (b := 0) rfl rfl c16
      refine lv_iload_n hx hb dX6_readRow_145 rfl (lv_at hl 1 rfl) ?_
      refine lv_if_ne (tgt := 163) hx hb dX6_readRow_146 (by decide) (fun c17 => ?_) (fun c17 => ?_)
      · have dc17 : u4.toInt ≠ 0 := ne_i (a := u4.toInt) (b := 0) rfl rfl c17
        exact ret_v hx hb hr hlocks hS hP hD dX6_readRow_163 (Nat.le_of_ble_eq_true rfl) (Nat.le_of_ble_eq_true rfl) ⟨F15, 1, u6, u7, u8, (SAME.up eF15 (SAME.tr (SAME.up eF2 (SAME.up eF1 SAME.rf (by decide)) (by decide)) i10 (by decide)) (by decide)), (get_eq eF15), ⟨by decide, by decide⟩, (get_ne eF15 (by decide) i11), (get_ne eF15 (by decide) i12), (get_ne eF15 (by decide) i13), i14, rfl⟩
      · have dc17 : u4.toInt = 0 := eq_i (a := u4.toInt) (b := 0) rfl rfl c17
        have k18 : 0 ≤ u4.toInt ∧ u4.toInt ≤ 0 := ⟨Int.le_trans (Int.le_refl _) (Int.le_of_eq dc17.symm), Int.le_trans (Int.le_of_eq dc17) (Int.le_refl _)⟩
        refine lv_iload_n hx hb dX6_readRow_149 rfl (lv_at hl 0 rfl) ?_
        refine lv_if_le (tgt := 163) hx hb dX6_readRow_150 (by decide) (fun c19 => ?_) (fun c19 => ?_)
        · have dc19 : u3.toInt ≤ 0 := le_i (a := u3.toInt) (b := 0) rfl rfl c19
          have k20 : (-2147483648) ≤ u3.toInt ∧ u3.toInt ≤ 0 := ⟨(ir_any _).1, Int.le_trans dc19 (Int.le_refl _)⟩
          exact ret_v hx hb hr hlocks hS hP hD dX6_readRow_163 (Nat.le_of_ble_eq_true rfl) (Nat.le_of_ble_eq_true rfl) ⟨F15, 1, u6, u7, u8, (SAME.up eF15 (SAME.tr (SAME.up eF2 (SAME.up eF1 SAME.rf (by decide)) (by decide)) i10 (by decide)) (by decide)), (get_eq eF15), ⟨by decide, by decide⟩, (get_ne eF15 (by decide) i11), (get_ne eF15 (by decide) i12), (get_ne eF15 (by decide) i13), i14, rfl⟩
        · have dc19 : 0 < u3.toInt := nle_i (a := u3.toInt) (b := 0) rfl rfl c19
          have k21 : 1 ≤ u3.toInt ∧ u3.toInt ≤ 2147483647 := ⟨lo_lt dc19 (Int.le_refl _) (by decide), (ir_any _).2⟩
          refine lv_iload_n hx hb dX6_readRow_153 rfl (lv_at hl 0 rfl) ?_
          refine lv_iconst (v := 3) hx hb dX6_readRow_154 (by decide) ?_
          refine lv_icmp_gt (tgt := 163) hx hb dX6_readRow_155 (by decide) (fun c22 => ?_) (fun c22 => ?_)
          · have dc22 : 3 < u3.toInt := lt_i (a := 3) (b := u3.toInt) rfl rfl c22
            have k23 : 4 ≤ u3.toInt ∧ u3.toInt ≤ 2147483647 := ⟨lo_lt dc22 (Int.le_refl _) (by decide), k21.2⟩
            exact ret_v hx hb hr hlocks hS hP hD dX6_readRow_163 (Nat.le_of_ble_eq_true rfl) (Nat.le_of_ble_eq_true rfl) ⟨F15, 1, u6, u7, u8, (SAME.up eF15 (SAME.tr (SAME.up eF2 (SAME.up eF1 SAME.rf (by decide)) (by decide)) i10 (by decide)) (by decide)), (get_eq eF15), ⟨by decide, by decide⟩, (get_ne eF15 (by decide) i11), (get_ne eF15 (by decide) i12), (get_ne eF15 (by decide) i13), i14, rfl⟩
          · have dc22 : u3.toInt ≤ 3 := nlt_i (a := 3) (b := u3.toInt) rfl rfl c22
            have k24 : 1 ≤ u3.toInt ∧ u3.toInt ≤ 3 := ⟨k21.1, Int.le_trans dc22 (Int.le_refl _)⟩
            refine lv_aload_n hx hb dX6_readRow_158 rfl (lv_at hl 2 rfl) ?_
            refine lv_iconst (v := 3) hx hb dX6_readRow_159 (by decide) ?_
            refine put_f (D := D) (ci := 6) (v := .int 3) (ty := .int) (C := RX6) (T := TX6) (N := 12) hx hb hw inAX6 tyX6 tyX6_ok nmX6 hown hK hP hD hS 0 rfl rfl 2 (by decide) (hw _ q_92) (fun _ h9 => h9) rfl (by decide +kernel) rfl rfl dX6_readRow_160 (fun H locs F25 eF25 hP hD hS => ?_)
            have hP : va_P D vwCl [(h0, .inr (6, vL 12 F25)), (h_bytes, .inl (cB, 940, .inl f_bytes))] H := hP
            have hD : va_D A [(h0, .inr (6, vL 12 F25)), (h_bytes, .inl (cB, 940, .inl f_bytes))] := hD
            exact ret_v hx hb hr hlocks hS hP hD dX6_readRow_163 (Nat.le_of_ble_eq_true rfl) (Nat.le_of_ble_eq_true rfl) ⟨F25, 3, u6, u7, u8, (SAME.up eF25 (SAME.up eF15 (SAME.tr (SAME.up eF2 (SAME.up eF1 SAME.rf (by decide)) (by decide)) i10 (by decide)) (by decide)) (by decide)), (get_eq eF25), ⟨by decide, by decide⟩, (get_ne eF25 (by decide) (get_ne eF15 (by decide) i11)), (get_ne eF25 (by decide) (get_ne eF15 (by decide) i12)), (get_ne eF25 (by decide) (get_ne eF15 (by decide) i13)), i14, rfl⟩
    · have dc16 : u3.toInt = 0 := eq_i (a := u3.toInt) (b := 0) rfl rfl c16
      have k26 : 0 ≤ u3.toInt ∧ u3.toInt ≤ 0 := ⟨Int.le_trans (Int.le_refl _) (Int.le_of_eq dc16.symm), Int.le_trans (Int.le_of_eq dc16) (Int.le_refl _)⟩
      refine lv_iload_n hx hb dX6_readRow_127 rfl (lv_at hl 1 rfl) ?_
      refine lv_if_le (tgt := 145) hx hb dX6_readRow_128 (by decide) (fun c27 => ?_) (fun c27 => ?_)
      · have dc27 : u4.toInt ≤ 0 := le_i (a := u4.toInt) (b := 0) rfl rfl c27
        have k28 : (-2147483648) ≤ u4.toInt ∧ u4.toInt ≤ 0 := ⟨(ir_any _).1, Int.le_trans dc27 (Int.le_refl _)⟩
        refine lv_iload_n hx hb dX6_readRow_145 rfl (lv_at hl 1 rfl) ?_
        refine lv_if_ne (tgt := 163) hx hb dX6_readRow_146 (by decide) (fun c29 => ?_) (fun c29 => ?_)
        · have dc29 : u4.toInt ≠ 0 := ne_i (a := u4.toInt) (b := 0) rfl rfl c29
          have k30 : (-2147483648) ≤ u4.toInt ∧ u4.toInt ≤ (-1) := ⟨k28.1, ne_hi dc29 k28.2 ⟨Int.le_refl _, Int.le_refl _⟩ (by decide)⟩
          exact ret_v hx hb hr hlocks hS hP hD dX6_readRow_163 (Nat.le_of_ble_eq_true rfl) (Nat.le_of_ble_eq_true rfl) ⟨F15, 1, u6, u7, u8, (SAME.up eF15 (SAME.tr (SAME.up eF2 (SAME.up eF1 SAME.rf (by decide)) (by decide)) i10 (by decide)) (by decide)), (get_eq eF15), ⟨by decide, by decide⟩, (get_ne eF15 (by decide) i11), (get_ne eF15 (by decide) i12), (get_ne eF15 (by decide) i13), i14, rfl⟩
        · have dc29 : u4.toInt = 0 := eq_i (a := u4.toInt) (b := 0) rfl rfl c29
          have k31 : 0 ≤ u4.toInt ∧ u4.toInt ≤ 0 := ⟨Int.le_trans (Int.le_refl _) (Int.le_of_eq dc29.symm), k28.2⟩
          refine lv_iload_n hx hb dX6_readRow_149 rfl (lv_at hl 0 rfl) ?_
          refine lv_if_le (tgt := 163) hx hb dX6_readRow_150 (by decide) (fun c32 => ?_) (fun c32 => False.elim (bad_lt (nle_i (a := u3.toInt) (b := 0) rfl rfl c32) (Int.le_refl _) k26.2 (by decide)))
          have dc32 : u3.toInt ≤ 0 := le_i (a := u3.toInt) (b := 0) rfl rfl c32
          exact ret_v hx hb hr hlocks hS hP hD dX6_readRow_163 (Nat.le_of_ble_eq_true rfl) (Nat.le_of_ble_eq_true rfl) ⟨F15, 1, u6, u7, u8, (SAME.up eF15 (SAME.tr (SAME.up eF2 (SAME.up eF1 SAME.rf (by decide)) (by decide)) i10 (by decide)) (by decide)), (get_eq eF15), ⟨by decide, by decide⟩, (get_ne eF15 (by decide) i11), (get_ne eF15 (by decide) i12), (get_ne eF15 (by decide) i13), i14, rfl⟩
      · have dc27 : 0 < u4.toInt := nle_i (a := u4.toInt) (b := 0) rfl rfl c27
        have k33 : 1 ≤ u4.toInt ∧ u4.toInt ≤ 2147483647 := ⟨lo_lt dc27 (Int.le_refl _) (by decide), (ir_any _).2⟩
        refine lv_iload_n hx hb dX6_readRow_131 rfl (lv_at hl 1 rfl) ?_
        refine lv_bipush (v := 7) hx hb dX6_readRow_132 (by decide) ?_
        refine lv_icmp_gt (tgt := 145) hx hb dX6_readRow_134 (by decide) (fun c34 => ?_) (fun c34 => ?_)
        · have dc34 : 7 < u4.toInt := lt_i (a := 7) (b := u4.toInt) rfl rfl c34
          have k35 : 8 ≤ u4.toInt ∧ u4.toInt ≤ 2147483647 := ⟨lo_lt dc34 (Int.le_refl _) (by decide), k33.2⟩
          refine lv_iload_n hx hb dX6_readRow_145 rfl (lv_at hl 1 rfl) ?_
          refine lv_if_ne (tgt := 163) hx hb dX6_readRow_146 (by decide) (fun c36 => ?_) (fun c36 => False.elim (bad_le (Int.le_of_eq (eq_i (a := u4.toInt) (b := 0) rfl rfl c36)) k35.1 (Int.le_refl _) (by decide)))
          have dc36 : u4.toInt ≠ 0 := ne_i (a := u4.toInt) (b := 0) rfl rfl c36
          exact ret_v hx hb hr hlocks hS hP hD dX6_readRow_163 (Nat.le_of_ble_eq_true rfl) (Nat.le_of_ble_eq_true rfl) ⟨F15, 1, u6, u7, u8, (SAME.up eF15 (SAME.tr (SAME.up eF2 (SAME.up eF1 SAME.rf (by decide)) (by decide)) i10 (by decide)) (by decide)), (get_eq eF15), ⟨by decide, by decide⟩, (get_ne eF15 (by decide) i11), (get_ne eF15 (by decide) i12), (get_ne eF15 (by decide) i13), i14, rfl⟩
        · have dc34 : u4.toInt ≤ 7 := nlt_i (a := 7) (b := u4.toInt) rfl rfl c34
          have k37 : 1 ≤ u4.toInt ∧ u4.toInt ≤ 7 := ⟨k33.1, Int.le_trans dc34 (Int.le_refl _)⟩
          refine lv_aload_n hx hb dX6_readRow_137 rfl (lv_at hl 2 rfl) ?_
          refine lv_iconst (v := 2) hx hb dX6_readRow_138 (by decide) ?_
          refine put_f (D := D) (ci := 6) (v := .int 2) (ty := .int) (C := RX6) (T := TX6) (N := 12) hx hb hw inAX6 tyX6 tyX6_ok nmX6 hown hK hP hD hS 0 rfl rfl 2 (by decide) (hw _ q_92) (fun _ h9 => h9) rfl (by decide +kernel) rfl rfl dX6_readRow_139 (fun H locs F38 eF38 hP hD hS => ?_)
          have hP : va_P D vwCl [(h0, .inr (6, vL 12 F38)), (h_bytes, .inl (cB, 940, .inl f_bytes))] H := hP
          have hD : va_D A [(h0, .inr (6, vL 12 F38)), (h_bytes, .inl (cB, 940, .inl f_bytes))] := hD
          refine lv_goto (tgt := 163) hx hb dX6_readRow_142 (by decide) ?_
          exact ret_v hx hb hr hlocks hS hP hD dX6_readRow_163 (Nat.le_of_ble_eq_true rfl) (Nat.le_of_ble_eq_true rfl) ⟨F38, 2, u6, u7, u8, (SAME.up eF38 (SAME.up eF15 (SAME.tr (SAME.up eF2 (SAME.up eF1 SAME.rf (by decide)) (by decide)) i10 (by decide)) (by decide)) (by decide)), (get_eq eF38), ⟨by decide, by decide⟩, (get_ne eF38 (by decide) (get_ne eF15 (by decide) i11)), (get_ne eF38 (by decide) (get_ne eF15 (by decide) i12)), (get_ne eF38 (by decide) (get_ne eF15 (by decide) i13)), i14, rfl⟩
  have n39 : F2 4 = .int 0 := (get_ne eF2 (by decide) (get_eq eF1))
  have n40 : F1 10 = .int x_at := (get_ne eF1 (by decide) e_at)
  have n41 : F2 10 = .int x_at := (get_ne eF2 (by decide) n40)
  refine mloop (α := (Int32) × (Int32) × (Nat → Value) × (Int32) × (Int64) × (Int32)) (nL := 4) (D := D) (A := A) (H0 := s.heap) (fun a => (x_length.toInt - a.2.2.2.2.2.toInt).toNat) (fun a => SAME [4, 5, 10] F2 a.2.2.1 ∧ a.2.2.1 4 = .int a.2.2.2.1 ∧ a.2.2.1 5 = .long a.2.2.2.2.1 ∧ a.2.2.1 10 = .int a.2.2.2.2.2 ∧ IR 0 940 a.2.2.2.2.2) (fun a => [(h0, .inr (6, vL 12 a.2.2.1)), (h_bytes, .inl (cB, 940, .inl f_bytes))]) (fun a => [(2, .int a.1), (1, .int a.2.1), (0, .ref h0)]) (fun H locs ls => W p l e ({ frames := 0, cells := 0, slots := 0, locals := 0 } : Room) s m [.ref h0].toArray below meth c H locs 0 0 (MQ below (va_Qv (fun (u : va_W) => ∃ (Gh : Nat → Value) (y_kind : Int32) (y_value : Int32) (y_name : Int64) (y_at : Int32), SAME [2, 4, 5, 10] Fh Gh ∧ Gh 2 = .int y_kind ∧ IR 1 3 y_kind ∧ Gh 4 = .int y_value ∧ Gh 5 = .long y_name ∧ Gh 10 = .int y_at ∧ IR 0 940 y_at ∧ u = [(h0, .inr (6, vL 12 Gh)), (h_bytes, .inl (cB, 940, .inl f_bytes))]) (PO D A) A) [.ref h0].toArray s 0 0 A) (F0 m 14 ls [])) ?_ (0, 0, F2, 0, 0, x_at) ⟨SAME.rf, n39, (get_eq eF2), n41, i_x_at⟩ _ _ _ hP hD hS hl
  rintro ⟨u3, u4, G5, u6, u7, u8⟩ ⟨i42, i43, i44, i45, i46⟩ ih H locs ls hP hD hS hl
  have i46 : 0 ≤ u8.toInt ∧ u8.toInt ≤ 940 := i46
  have hP : va_P D vwCl [(h0, .inr (6, vL 12 G5)), (h_bytes, .inl (cB, 940, .inl f_bytes))] H := hP
  have hD : va_D A [(h0, .inr (6, vL 12 G5)), (h_bytes, .inl (cB, 940, .inl f_bytes))] := hD
  have hl : lv_has ls 4 [(2, .int u3), (1, .int u4), (0, .ref h0)] := hl
  refine lv_aload_n hx hb dX6_readRow_14 rfl (lv_at hl 2 rfl) ?_
  refine get_f (D := D) (ci := 6) (v := .int u8) (C := RX6) (T := TX6) (N := 12) hx hb hw inAX6 hown hK hP 0 rfl rfl 10 (by decide) (hw _ q_110) (fun _ h9 => h9) i45 dX6_readRow_15 ?_
  refine lv_aload_n hx hb dX6_readRow_18 rfl (lv_at hl 2 rfl) ?_
  have n47 : F1 1 = .int x_length := (get_ne eF1 (by decide) e_length)
  have n48 : F2 1 = .int x_length := (get_ne eF2 (by decide) n47)
  have n49 : G5 1 = .int x_length := (SAME.at i42 (by decide) n48)
  refine get_f (D := D) (ci := 6) (v := .int x_length) (C := RX6) (T := TX6) (N := 12) hx hb hw inAX6 hown hK hP 0 rfl rfl 1 (by decide) (hw _ q_90) (fun _ h9 => h9) n49 dX6_readRow_19 ?_
  refine lv_icmp_ge (tgt := 118) hx hb dX6_readRow_22 (by decide) (fun c50 => ?_) (fun c50 => ?_)
  · have dc50 : x_length.toInt ≤ u8.toInt := le_i (a := x_length.toInt) (b := u8.toInt) rfl rfl c50
    exact cut9 u3 u4 G5 u6 u7 u8 (SAME.tr SAME.rf i42 (by decide)) i43 i44 i45 i46 _ _ _ hP hD hS (lv_sub hl [0, 1, 2] rfl)
  · have dc50 : u8.toInt < x_length.toInt := nle_i (a := x_length.toInt) (b := u8.toInt) rfl rfl c50
    have k51 : 0 ≤ u8.toInt ∧ u8.toInt ≤ 939 := ⟨i46.1, up_lt dc50 i_x_length.2 (by decide)⟩
    have k52 : 1 ≤ x_length.toInt ∧ x_length.toInt ≤ 940 := ⟨lo_lt dc50 i46.1 (by decide), i_x_length.2⟩
    refine lv_aload_n hx hb dX6_readRow_25 rfl (lv_at hl 2 rfl) ?_
    have n53 : F1 0 = .ref h_bytes := (get_ne eF1 (by decide) e_bytes)
    have n54 : F2 0 = .ref h_bytes := (get_ne eF2 (by decide) n53)
    have n55 : G5 0 = .ref h_bytes := (SAME.at i42 (by decide) n54)
    refine get_f (D := D) (ci := 6) (v := .ref h_bytes) (C := RX6) (T := TX6) (N := 12) hx hb hw inAX6 hown hK hP 0 rfl rfl 0 (by decide) (hw _ q_89) (fun _ h9 => h9) n55 dX6_readRow_26 ?_
    refine lv_aload_n hx hb dX6_readRow_29 rfl (lv_at hl 2 rfl) ?_
    refine get_f (D := D) (ci := 6) (v := .int u8) (C := RX6) (T := TX6) (N := 12) hx hb hw inAX6 hown hK hP 0 rfl rfl 10 (by decide) (hw _ q_110) (fun _ h9 => h9) i45 dX6_readRow_30 ?_
    refine va_bald hx hb hK hP 1 2 rfl rfl (ix_k k51 (by decide) (by decide)) dX6_readRow_33 ?_
    refine lv_topi (fun v56 ev56 => ?_)
    refine lv_istore_n (lv' := [(3, .int v56), (2, .int u3), (1, .int u4), (0, .ref h0)]) hx hb dX6_readRow_34 rfl hl (by decide) rfl (fun ls hl => ?_)
    refine lv_iload_n hx hb dX6_readRow_35 rfl (lv_at hl 0 rfl) ?_
    refine lv_bipush (v := 97) hx hb dX6_readRow_36 (by decide) ?_
    refine lv_icmp_lt (tgt := 74) hx hb dX6_readRow_38 (by decide) (fun c57 => ?_) (fun c57 => ?_)
    · have dc57 : v56.toInt < 97 := lt_i (a := v56.toInt) (b := 97) rfl rfl c57
      have k58 : (-2147483648) ≤ v56.toInt ∧ v56.toInt ≤ 96 := ⟨(ir_any _).1, up_lt dc57 (Int.le_refl _) (by decide)⟩
      refine lv_iload_n hx hb dX6_readRow_74 rfl (lv_at hl 0 rfl) ?_
      refine lv_bipush (v := 48) hx hb dX6_readRow_75 (by decide) ?_
      refine lv_icmp_lt (tgt := 118) hx hb dX6_readRow_77 (by decide) (fun c59 => ?_) (fun c59 => ?_)
      · have dc59 : v56.toInt < 48 := lt_i (a := v56.toInt) (b := 48) rfl rfl c59
        have k60 : (-2147483648) ≤ v56.toInt ∧ v56.toInt ≤ 47 := ⟨k58.1, up_lt dc59 (Int.le_refl _) (by decide)⟩
        exact cut9 u3 u4 G5 u6 u7 u8 (SAME.tr SAME.rf i42 (by decide)) i43 i44 i45 (ir_wk k51 (by decide) (by decide)) _ _ _ hP hD hS (lv_sub hl [1, 2, 3] rfl)
      · have dc59 : 48 ≤ v56.toInt := nlt_i (a := v56.toInt) (b := 48) rfl rfl c59
        have k61 : 48 ≤ v56.toInt ∧ v56.toInt ≤ 96 := ⟨Int.le_trans (Int.le_refl _) dc59, k58.2⟩
        refine lv_iload_n hx hb dX6_readRow_80 rfl (lv_at hl 0 rfl) ?_
        refine lv_bipush (v := 57) hx hb dX6_readRow_81 (by decide) ?_
        refine lv_icmp_gt (tgt := 118) hx hb dX6_readRow_83 (by decide) (fun c62 => ?_) (fun c62 => ?_)
        · have dc62 : 57 < v56.toInt := lt_i (a := 57) (b := v56.toInt) rfl rfl c62
          have k63 : 58 ≤ v56.toInt ∧ v56.toInt ≤ 96 := ⟨lo_lt dc62 (Int.le_refl _) (by decide), k61.2⟩
          exact cut9 u3 u4 G5 u6 u7 u8 (SAME.tr SAME.rf i42 (by decide)) i43 i44 i45 (ir_wk k51 (by decide) (by decide)) _ _ _ hP hD hS (lv_sub hl [1, 2, 3] rfl)
        · have dc62 : v56.toInt ≤ 57 := nlt_i (a := 57) (b := v56.toInt) rfl rfl c62
          have k64 : 48 ≤ v56.toInt ∧ v56.toInt ≤ 57 := ⟨k61.1, Int.le_trans dc62 (Int.le_refl _)⟩
          obtain ⟨v65, ev65⟩ : ∃ z : Int32, z = u3 + 1 := ⟨_, rfl⟩
          refine lv_iinc (v := v65) (lv' := [(2, .int v65), (3, .int v56), (1, .int u4), (0, .ref h0)]) hx hb dX6_readRow_86 hl (k := 1) rfl (by rw [ev65]; rfl) (by decide) rfl (fun ls hl => ?_)
          refine lv_aload_n hx hb dX6_readRow_89 rfl (lv_at hl 3 rfl) ?_
          refine lv_aload_n hx hb dX6_readRow_90 rfl (lv_at hl 3 rfl) ?_
          refine get_f (D := D) (ci := 6) (v := .int u6) (C := RX6) (T := TX6) (N := 12) hx hb hw inAX6 hown hK hP 0 rfl rfl 4 (by decide) (hw _ q_97) (fun _ h9 => h9) i43 dX6_readRow_91 ?_
          refine lv_bipush (v := 10) hx hb dX6_readRow_94 (by decide) ?_
          refine lv_imul hx hb dX6_readRow_96 ?_
          refine lv_topi (fun v66 ev66 => ?_)
          refine lv_iload_n hx hb dX6_readRow_97 rfl (lv_at hl 1 rfl) ?_
          refine lv_iadd hx hb dX6_readRow_98 ?_
          refine lv_topi (fun v67 ev67 => ?_)
          refine lv_bipush (v := 48) hx hb dX6_readRow_99 (by decide) ?_
          refine lv_isub hx hb dX6_readRow_101 ?_
          refine lv_topi (fun v68 ev68 => ?_)
          refine put_f (D := D) (ci := 6) (v := .int v68) (ty := .int) (C := RX6) (T := TX6) (N := 12) hx hb hw inAX6 tyX6 tyX6_ok nmX6 hown hK hP hD hS 0 rfl rfl 4 (by decide) (hw _ q_97) (fun _ h9 => h9) rfl (by decide +kernel) rfl rfl dX6_readRow_102 (fun H locs F69 eF69 hP hD hS => ?_)
          have hP : va_P D vwCl [(h0, .inr (6, vL 12 F69)), (h_bytes, .inl (cB, 940, .inl f_bytes))] H := hP
          have hD : va_D A [(h0, .inr (6, vL 12 F69)), (h_bytes, .inl (cB, 940, .inl f_bytes))] := hD
          refine lv_aload_n hx hb dX6_readRow_105 rfl (lv_at hl 3 rfl) ?_
          refine lv_dup hx hb dX6_readRow_106 rfl ?_
          have n70 : F69 10 = .int u8 := (get_ne eF69 (by decide) i45)
          refine get_f (D := D) (ci := 6) (v := .int u8) (C := RX6) (T := TX6) (N := 12) hx hb hw inAX6 hown hK hP 0 rfl rfl 10 (by decide) (hw _ q_110) (fun _ h9 => h9) n70 dX6_readRow_107 ?_
          refine lv_iconst (v := 1) hx hb dX6_readRow_110 (by decide) ?_
          refine lv_iadd hx hb dX6_readRow_111 ?_
          refine lv_topi (fun v71 ev71 => ?_)
          have bv71 : v71.toInt = u8.toInt + 1 := by rw [ev71]; exact add_k rfl rfl k51 ⟨Int.le_refl _, Int.le_refl _⟩ (by decide)
          have k72 : 1 ≤ v71.toInt ∧ v71.toInt ≤ 940 := add_r bv71 k51 ⟨Int.le_refl _, Int.le_refl _⟩ (by decide)
          refine put_f (D := D) (ci := 6) (v := .int v71) (ty := .int) (C := RX6) (T := TX6) (N := 12) hx hb hw inAX6 tyX6 tyX6_ok nmX6 hown hK hP hD hS 0 rfl rfl 10 (by decide) (hw _ q_110) (fun _ h9 => h9) rfl (by decide +kernel) rfl rfl dX6_readRow_112 (fun H locs F73 eF73 hP hD hS => ?_)
          have hP : va_P D vwCl [(h0, .inr (6, vL 12 F73)), (h_bytes, .inl (cB, 940, .inl f_bytes))] H := hP
          have hD : va_D A [(h0, .inr (6, vL 12 F73)), (h_bytes, .inl (cB, 940, .inl f_bytes))] := hD
          refine lv_goto (tgt := 14) hx hb dX6_readRow_115 (by decide) ?_
          have n74 : F73 4 = .int v68 := (get_ne eF73 (by decide) (get_eq eF69))
          have n75 : F69 5 = .long u7 := (get_ne eF69 (by decide) i44)
          have n76 : F73 5 = .long u7 := (get_ne eF73 (by decide) n75)
          exact ih (v65, u4, F73, v68, u7, v71) ⟨(SAME.up eF73 (SAME.up eF69 (SAME.tr SAME.rf i42 (by decide)) (by decide)) (by decide)), n74, n76, (get_eq eF73), (ir_wk k72 (by decide) (by decide))⟩ (by show (x_length.toInt - v71.toInt).toNat < (x_length.toInt - u8.toInt).toNat; omega) _ _ _ hP hD hS (lv_sub hl [0, 2, 3] rfl)
    · have dc57 : 97 ≤ v56.toInt := nlt_i (a := v56.toInt) (b := 97) rfl rfl c57
      have k77 : 97 ≤ v56.toInt ∧ v56.toInt ≤ 2147483647 := ⟨Int.le_trans (Int.le_refl _) dc57, (ir_any _).2⟩
      refine lv_iload_n hx hb dX6_readRow_41 rfl (lv_at hl 0 rfl) ?_
      refine lv_bipush (v := 122) hx hb dX6_readRow_42 (by decide) ?_
      refine lv_icmp_gt (tgt := 74) hx hb dX6_readRow_44 (by decide) (fun c78 => ?_) (fun c78 => ?_)
      · have dc78 : 122 < v56.toInt := lt_i (a := 122) (b := v56.toInt) rfl rfl c78
        have k79 : 123 ≤ v56.toInt ∧ v56.toInt ≤ 2147483647 := ⟨lo_lt dc78 (Int.le_refl _) (by decide), k77.2⟩
        refine lv_iload_n hx hb dX6_readRow_74 rfl (lv_at hl 0 rfl) ?_
        refine lv_bipush (v := 48) hx hb dX6_readRow_75 (by decide) ?_
        refine lv_icmp_lt (tgt := 118) hx hb dX6_readRow_77 (by decide) (fun c80 => False.elim (bad_lt (lt_i (a := v56.toInt) (b := 48) rfl rfl c80) k79.1 (Int.le_refl _) (by decide))) (fun c80 => ?_)
        have dc80 : 48 ≤ v56.toInt := nlt_i (a := v56.toInt) (b := 48) rfl rfl c80
        refine lv_iload_n hx hb dX6_readRow_80 rfl (lv_at hl 0 rfl) ?_
        refine lv_bipush (v := 57) hx hb dX6_readRow_81 (by decide) ?_
        refine lv_icmp_gt (tgt := 118) hx hb dX6_readRow_83 (by decide) (fun c81 => ?_) (fun c81 => False.elim (bad_le (nlt_i (a := 57) (b := v56.toInt) rfl rfl c81) k79.1 (Int.le_refl _) (by decide)))
        have dc81 : 57 < v56.toInt := lt_i (a := 57) (b := v56.toInt) rfl rfl c81
        exact cut9 u3 u4 G5 u6 u7 u8 (SAME.tr SAME.rf i42 (by decide)) i43 i44 i45 (ir_wk k51 (by decide) (by decide)) _ _ _ hP hD hS (lv_sub hl [1, 2, 3] rfl)
      · have dc78 : v56.toInt ≤ 122 := nlt_i (a := 122) (b := v56.toInt) rfl rfl c78
        have k82 : 97 ≤ v56.toInt ∧ v56.toInt ≤ 122 := ⟨k77.1, Int.le_trans dc78 (Int.le_refl _)⟩
        obtain ⟨v83, ev83⟩ : ∃ z : Int32, z = u4 + 1 := ⟨_, rfl⟩
        refine lv_iinc (v := v83) (lv' := [(1, .int v83), (3, .int v56), (2, .int u3), (0, .ref h0)]) hx hb dX6_readRow_47 hl (k := 2) rfl (by rw [ev83]; rfl) (by decide) rfl (fun ls hl => ?_)
        refine lv_aload_n hx hb dX6_readRow_50 rfl (lv_at hl 3 rfl) ?_
        refine lv_aload_n hx hb dX6_readRow_51 rfl (lv_at hl 3 rfl) ?_
        refine get_f (D := D) (ci := 6) (v := .long u7) (C := RX6) (T := TX6) (N := 12) hx hb hw inAX6 hown hK hP 0 rfl rfl 5 (by decide) (hw _ q_98) (fun _ h9 => h9) i44 dX6_readRow_52 ?_
        refine lv_ldc2 hx hb hown (hw _ q_87) dX6_readRow_55 ?_
        refine lv_lmul hx hb dX6_readRow_58 ?_
        refine lv_topl (fun v84 ev84 => ?_)
        refine lv_iload_n hx hb dX6_readRow_59 rfl (lv_at hl 1 rfl) ?_
        obtain ⟨v85, ev85⟩ : ∃ z : Int64, (v56 : Int32).toInt64 = z := ⟨_, rfl⟩
        refine lv_i2l (v := v85) hx hb dX6_readRow_60 ev85 ?_
        refine lv_ladd hx hb dX6_readRow_61 ?_
        refine lv_topl (fun v86 ev86 => ?_)
        refine lv_ldc2 hx hb hown (hw _ q_88) dX6_readRow_62 ?_
        refine lv_lsub hx hb dX6_readRow_65 ?_
        refine lv_topl (fun v87 ev87 => ?_)
        refine lv_lconst (v := 1) hx hb dX6_readRow_66 (by decide) ?_
        refine lv_ladd hx hb dX6_readRow_67 ?_
        refine lv_topl (fun v88 ev88 => ?_)
        refine put_f (D := D) (ci := 6) (v := .long v88) (ty := .long) (C := RX6) (T := TX6) (N := 12) hx hb hw inAX6 tyX6 tyX6_ok nmX6 hown hK hP hD hS 0 rfl rfl 5 (by decide) (hw _ q_98) (fun _ h9 => h9) rfl (by decide +kernel) rfl rfl dX6_readRow_68 (fun H locs F89 eF89 hP hD hS => ?_)
        have hP : va_P D vwCl [(h0, .inr (6, vL 12 F89)), (h_bytes, .inl (cB, 940, .inl f_bytes))] H := hP
        have hD : va_D A [(h0, .inr (6, vL 12 F89)), (h_bytes, .inl (cB, 940, .inl f_bytes))] := hD
        refine lv_goto (tgt := 105) hx hb dX6_readRow_71 (by decide) ?_
        refine lv_aload_n hx hb dX6_readRow_105 rfl (lv_at hl 3 rfl) ?_
        refine lv_dup hx hb dX6_readRow_106 rfl ?_
        have n90 : F89 10 = .int u8 := (get_ne eF89 (by decide) i45)
        refine get_f (D := D) (ci := 6) (v := .int u8) (C := RX6) (T := TX6) (N := 12) hx hb hw inAX6 hown hK hP 0 rfl rfl 10 (by decide) (hw _ q_110) (fun _ h9 => h9) n90 dX6_readRow_107 ?_
        refine lv_iconst (v := 1) hx hb dX6_readRow_110 (by decide) ?_
        refine lv_iadd hx hb dX6_readRow_111 ?_
        refine lv_topi (fun v91 ev91 => ?_)
        have bv91 : v91.toInt = u8.toInt + 1 := by rw [ev91]; exact add_k rfl rfl k51 ⟨Int.le_refl _, Int.le_refl _⟩ (by decide)
        have k92 : 1 ≤ v91.toInt ∧ v91.toInt ≤ 940 := add_r bv91 k51 ⟨Int.le_refl _, Int.le_refl _⟩ (by decide)
        refine put_f (D := D) (ci := 6) (v := .int v91) (ty := .int) (C := RX6) (T := TX6) (N := 12) hx hb hw inAX6 tyX6 tyX6_ok nmX6 hown hK hP hD hS 0 rfl rfl 10 (by decide) (hw _ q_110) (fun _ h9 => h9) rfl (by decide +kernel) rfl rfl dX6_readRow_112 (fun H locs F93 eF93 hP hD hS => ?_)
        have hP : va_P D vwCl [(h0, .inr (6, vL 12 F93)), (h_bytes, .inl (cB, 940, .inl f_bytes))] H := hP
        have hD : va_D A [(h0, .inr (6, vL 12 F93)), (h_bytes, .inl (cB, 940, .inl f_bytes))] := hD
        refine lv_goto (tgt := 14) hx hb dX6_readRow_115 (by decide) ?_
        have n94 : F89 4 = .int u6 := (get_ne eF89 (by decide) i43)
        have n95 : F93 4 = .int u6 := (get_ne eF93 (by decide) n94)
        have n96 : F93 5 = .long v88 := (get_ne eF93 (by decide) (get_eq eF89))
        exact ih (u3, v83, F93, u6, v88, v91) ⟨(SAME.up eF93 (SAME.up eF89 (SAME.tr SAME.rf i42 (by decide)) (by decide)) (by decide)), n95, n96, (get_eq eF93), (ir_wk k92 (by decide) (by decide))⟩ (by show (x_length.toInt - v91.toInt).toNat < (x_length.toInt - u8.toInt).toNat; omega) _ _ _ hP hD hS (lv_sub hl [2, 0, 3] rfl)
set_option maxHeartbeats 4000000 in
set_option maxRecDepth 100000 in
theorem m_X6_wordNamed (l : Launch) (D : va_G) (cI cJ cB cP cM cZ : ClassId) (h0 : Nat) (h_wordNames : Nat) (Fh : Nat → Value) (f_wordNames : Nat → Int64) (p0 : Int64) (sz : Nat) (e_wordNames : Fh 9 = .ref h_wordNames) : CI l yX6_wordNamed cX6_wordNamed 4 (some .int) { frames := 0, cells := 0, slots := 0, locals := 0 } (GG D cI cJ cB cP cM cZ) D [(h0, .inr (6, vL 12 Fh)), (h_wordNames, .inl (cJ, 23, .inr (.inl f_wordNames)))] sz [.ref h0, .long p0] (fun (r : Int32) (u : va_W) => IR (-1) 22 r ∧ u = [(h0, .inr (6, vL 12 Fh)), (h_wordNames, .inl (cJ, 23, .inr (.inl f_wordNames)))]) := by
  refine CI_mk (by decide) (Nat.le_of_ble_eq_true rfl) ?_
  intro p e s m below meth c A ls E hAe hG hsz hP hD hA hS hl
  obtain ⟨hx, hb, hr, hw, hown, hlocks, hml, hnm⟩ := E
  have hK := hG.1
  have hl : lv_has ls 4 [(0, .ref h0), (1, .long p0)] := hl
  refine lv_iconst (v := 0) hx hb dX6_wordNamed_0 (by decide) ?_
  refine lv_istore_n (lv' := [(3, .int 0), (0, .ref h0), (1, .long p0)]) hx hb dX6_wordNamed_1 rfl hl (by decide) rfl (fun ls hl => ?_)
  refine mloop (α := (Int32)) (nL := 4) (D := D) (A := A) (H0 := s.heap) (fun a => (23 - a.toInt).toNat) (fun a => IR 0 23 a) (fun a => [(h0, .inr (6, vL 12 Fh)), (h_wordNames, .inl (cJ, 23, .inr (.inl f_wordNames)))]) (fun a => [(3, .int a), (0, .ref h0), (1, .long p0)]) (fun H locs ls => W p l e ({ frames := 0, cells := 0, slots := 0, locals := 0 } : Room) s m [.ref h0, .long p0].toArray below meth c H locs 0 0 (MQ below (va_Qi (fun (r : Int32) (u : va_W) => IR (-1) 22 r ∧ u = [(h0, .inr (6, vL 12 Fh)), (h_wordNames, .inl (cJ, 23, .inr (.inl f_wordNames)))]) (PO D A) A) [.ref h0, .long p0].toArray s 0 0 A) (F0 m 2 ls [])) ?_ (0) ⟨by decide, by decide⟩ _ _ _ hP hD hS hl
  rintro u1 i2 ih H locs ls hP hD hS hl
  have i2 : 0 ≤ u1.toInt ∧ u1.toInt ≤ 23 := i2
  have hP : va_P D vwCl [(h0, .inr (6, vL 12 Fh)), (h_wordNames, .inl (cJ, 23, .inr (.inl f_wordNames)))] H := hP
  have hD : va_D A [(h0, .inr (6, vL 12 Fh)), (h_wordNames, .inl (cJ, 23, .inr (.inl f_wordNames)))] := hD
  have hl : lv_has ls 4 [(3, .int u1), (0, .ref h0), (1, .long p0)] := hl
  refine lv_iload_n hx hb dX6_wordNamed_2 rfl (lv_at hl 0 rfl) ?_
  refine lv_bipush (v := 23) hx hb dX6_wordNamed_3 (by decide) ?_
  refine lv_icmp_ge (tgt := 27) hx hb dX6_wordNamed_5 (by decide) (fun c3 => ?_) (fun c3 => ?_)
  · have dc3 : 23 ≤ u1.toInt := le_i (a := 23) (b := u1.toInt) rfl rfl c3
    have k4 : 23 ≤ u1.toInt ∧ u1.toInt ≤ 23 := ⟨Int.le_trans (Int.le_refl _) dc3, i2.2⟩
    refine lv_iconst (v := (-1)) hx hb dX6_wordNamed_27 (by decide) ?_
    exact ret_i (v := (-1)) hx hb hr hlocks hS hP hD dX6_wordNamed_28 rfl (Nat.le_of_ble_eq_true rfl) (Nat.le_of_ble_eq_true rfl) ⟨⟨by decide, by decide⟩, rfl⟩
  · have dc3 : u1.toInt < 23 := nle_i (a := 23) (b := u1.toInt) rfl rfl c3
    have k5 : 0 ≤ u1.toInt ∧ u1.toInt ≤ 22 := ⟨i2.1, up_lt dc3 (Int.le_refl _) (by decide)⟩
    refine lv_aload_n hx hb dX6_wordNamed_8 rfl (lv_at hl 1 rfl) ?_
    refine get_f (D := D) (ci := 6) (v := .ref h_wordNames) (C := RX6) (T := TX6) (N := 12) hx hb hw inAX6 hown hK hP 0 rfl rfl 9 (by decide) (hw _ q_109) (fun _ h9 => h9) e_wordNames dX6_wordNamed_9 ?_
    refine lv_iload_n hx hb dX6_wordNamed_12 rfl (lv_at hl 0 rfl) ?_
    refine va_lald hx hb hK hP 1 1 rfl rfl (ix_k k5 (by decide) (by decide)) dX6_wordNamed_13 ?_
    refine lv_topl (fun v6 ev6 => ?_)
    refine lv_lload_n hx hb dX6_wordNamed_14 rfl (lv_at hl 2 rfl) ?_
    refine W.lcmp hx hb dX6_wordNamed_15 ?_
    refine lv_topi (fun v7 ev7 => ?_)
    refine lv_if_ne (tgt := 21) hx hb dX6_wordNamed_16 (by decide) (fun c8 => ?_) (fun c8 => ?_)
    · have dc8 : v7.toInt ≠ 0 := ne_i (a := v7.toInt) (b := 0) rfl rfl c8
      obtain ⟨v9, ev9⟩ : ∃ z : Int32, z = u1 + 1 := ⟨_, rfl⟩
      have bv9 : v9.toInt = u1.toInt + 1 := by rw [ev9]; exact add_k rfl rfl k5 ⟨Int.le_refl _, Int.le_refl _⟩ (by decide)
      have k10 : 1 ≤ v9.toInt ∧ v9.toInt ≤ 23 := add_r bv9 k5 ⟨Int.le_refl _, Int.le_refl _⟩ (by decide)
      refine lv_iinc (v := v9) (lv' := [(3, .int v9), (0, .ref h0), (1, .long p0)]) hx hb dX6_wordNamed_21 hl (k := 0) rfl (by rw [ev9]; rfl) (by decide) rfl (fun ls hl => ?_)
      refine lv_goto (tgt := 2) hx hb dX6_wordNamed_24 (by decide) ?_
      exact ih (v9) (ir_wk k10 (by decide) (by decide)) (by show (23 - v9.toInt).toNat < (23 - u1.toInt).toNat; omega) _ _ _ hP hD hS (lv_sub hl [0, 1, 2] rfl)
    · have dc8 : v7.toInt = 0 := eq_i (a := v7.toInt) (b := 0) rfl rfl c8
      have k11 : 0 ≤ v7.toInt ∧ v7.toInt ≤ 0 := ⟨Int.le_trans (Int.le_refl _) (Int.le_of_eq dc8.symm), Int.le_trans (Int.le_of_eq dc8) (Int.le_refl _)⟩
      refine lv_iload_n hx hb dX6_wordNamed_19 rfl (lv_at hl 0 rfl) ?_
      exact ret_i (v := u1) hx hb hr hlocks hS hP hD dX6_wordNamed_20 rfl (Nat.le_of_ble_eq_true rfl) (Nat.le_of_ble_eq_true rfl) ⟨(ir_wk k5 (by decide) (by decide)), rfl⟩
set_option maxHeartbeats 4000000 in
set_option maxRecDepth 100000 in
theorem m_X6_advance (l : Launch) (D : va_G) (cI cJ cB cP cM cZ : ClassId) (h0 : Nat) (h_bytes : Nat) (h_wordNames : Nat) (Fh : Nat → Value) (x_length : Int32) (x_value : Int32) (x_name : Int64) (x_at : Int32) (x_mostBytes : Int32) (f_bytes : Nat → Int32) (f_wordNames : Nat → Int64) (sz : Nat) (e_bytes : Fh 0 = .ref h_bytes) (e_length : Fh 1 = .int x_length) (i_x_length : IR 0 940 x_length) (e_value : Fh 4 = .int x_value) (e_name : Fh 5 = .long x_name) (e_wordNames : Fh 9 = .ref h_wordNames) (e_at : Fh 10 = .int x_at) (i_x_at : IR 0 940 x_at) (e_mostBytes : Fh 11 = .int x_mostBytes) : CV l yX6_advance cX6_advance 1 none { frames := 1, cells := 0, slots := 0, locals := 23 } (GG D cI cJ cB cP cM cZ) D [(h0, .inr (6, vL 12 Fh)), (h_bytes, .inl (cB, 940, .inl f_bytes)), (h_wordNames, .inl (cJ, 23, .inr (.inl f_wordNames)))] sz [.ref h0] (fun (u : va_W) => ∃ (Gh : Nat → Value) (y_kind : Int32) (y_place : Int32) (y_value : Int32) (y_name : Int64) (y_at : Int32), SAME [2, 3, 4, 5, 10] Fh Gh ∧ Gh 2 = .int y_kind ∧ Gh 3 = .int y_place ∧ IR (-2147483648) 940 y_place ∧ Gh 4 = .int y_value ∧ Gh 5 = .long y_name ∧ Gh 10 = .int y_at ∧ IR 0 940 y_at ∧ u = [(h0, .inr (6, vL 12 Gh)), (h_bytes, .inl (cB, 940, .inl f_bytes)), (h_wordNames, .inl (cJ, 23, .inr (.inl f_wordNames)))]) := by
  refine CV_mk (by decide) (Nat.le_of_ble_eq_true rfl) ?_
  intro p e s m below meth c A ls E hAe hG hsz hP hD hA hS hl
  obtain ⟨hx, hb, hr, hw, hown, hlocks, hml, hnm⟩ := E
  have hK := hG.1
  have i_x_length : 0 ≤ x_length.toInt ∧ x_length.toInt ≤ 940 := i_x_length
  have i_x_at : 0 ≤ x_at.toInt ∧ x_at.toInt ≤ 940 := i_x_at
  have hl : lv_has ls 1 [(0, .ref h0)] := hl
  have cut3 : ∀ (G1 : Nat → Value) (u2 : Int32) (_ : SAME [10] Fh G1) (_ : G1 10 = .int u2) (_ : IR 0 940 u2) (H : Heap) (locs : List Loc) (ls : Array Slot), va_P D vwCl [(h0, .inr (6, vL 12 G1)), (h_bytes, .inl (cB, 940, .inl f_bytes)), (h_wordNames, .inl (cJ, 23, .inr (.inl f_wordNames)))] H → va_D A [(h0, .inr (6, vL 12 G1)), (h_bytes, .inl (cB, 940, .inl f_bytes)), (h_wordNames, .inl (cJ, 23, .inr (.inl f_wordNames)))] → va_S A s.heap H locs → lv_has ls 1 [(0, .ref h0)] → W p l e ({ frames := 1, cells := 0, slots := 0, locals := 23 } : Room) s m [.ref h0].toArray below meth c H locs 0 0 (MQ below (va_Qv (fun (u : va_W) => ∃ (Gh : Nat → Value) (y_kind : Int32) (y_place : Int32) (y_value : Int32) (y_name : Int64) (y_at : Int32), SAME [2, 3, 4, 5, 10] Fh Gh ∧ Gh 2 = .int y_kind ∧ Gh 3 = .int y_place ∧ IR (-2147483648) 940 y_place ∧ Gh 4 = .int y_value ∧ Gh 5 = .long y_name ∧ Gh 10 = .int y_at ∧ IR 0 940 y_at ∧ u = [(h0, .inr (6, vL 12 Gh)), (h_bytes, .inl (cB, 940, .inl f_bytes)), (h_wordNames, .inl (cJ, 23, .inr (.inl f_wordNames)))]) (PO D A) A) [.ref h0].toArray s 0 0 A) (F0 m 52 ls []) := by
    intro G1 u2 i4 i5 i6 H locs ls hP hD hS hl
    have i6 : 0 ≤ u2.toInt ∧ u2.toInt ≤ 940 := i6
    refine lv_aload_n hx hb dX6_advance_52 rfl (lv_at hl 0 rfl) ?_
    refine lv_aload_n hx hb dX6_advance_53 rfl (lv_at hl 0 rfl) ?_
    refine get_f (D := D) (ci := 6) (v := .int u2) (C := RX6) (T := TX6) (N := 12) hx hb hw inAX6 hown hK hP 0 rfl rfl 10 (by decide) (hw _ q_110) (fun _ h9 => h9) i5 dX6_advance_54 ?_
    refine put_f (D := D) (ci := 6) (v := .int u2) (ty := .int) (C := RX6) (T := TX6) (N := 12) hx hb hw inAX6 tyX6 tyX6_ok nmX6 hown hK hP hD hS 0 rfl rfl 3 (by decide) (hw _ q_96) (fun _ h9 => h9) rfl (by decide +kernel) rfl rfl dX6_advance_57 (fun H locs F7 eF7 hP hD hS => ?_)
    have hP : va_P D vwCl [(h0, .inr (6, vL 12 F7)), (h_bytes, .inl (cB, 940, .inl f_bytes)), (h_wordNames, .inl (cJ, 23, .inr (.inl f_wordNames)))] H := hP
    have hD : va_D A [(h0, .inr (6, vL 12 F7)), (h_bytes, .inl (cB, 940, .inl f_bytes)), (h_wordNames, .inl (cJ, 23, .inr (.inl f_wordNames)))] := hD
    refine lv_aload_n hx hb dX6_advance_60 rfl (lv_at hl 0 rfl) ?_
    have n8 : G1 1 = .int x_length := (SAME.at i4 (by decide) e_length)
    have n9 : F7 1 = .int x_length := (get_ne eF7 (by decide) n8)
    refine get_f (D := D) (ci := 6) (v := .int x_length) (C := RX6) (T := TX6) (N := 12) hx hb hw inAX6 hown hK hP 0 rfl rfl 1 (by decide) (hw _ q_90) (fun _ h9 => h9) n9 dX6_advance_61 ?_
    refine lv_aload_n hx hb dX6_advance_64 rfl (lv_at hl 0 rfl) ?_
    have n10 : G1 11 = .int x_mostBytes := (SAME.at i4 (by decide) e_mostBytes)
    have n11 : F7 11 = .int x_mostBytes := (get_ne eF7 (by decide) n10)
    refine get_f (D := D) (ci := 6) (v := .int x_mostBytes) (C := RX6) (T := TX6) (N := 12) hx hb hw inAX6 hown hK hP 0 rfl rfl 11 (by decide) (hw _ q_111) (fun _ h9 => h9) n11 dX6_advance_65 ?_
    refine lv_icmp_le (tgt := 98) hx hb dX6_advance_68 (by decide) (fun c12 => ?_) (fun c12 => ?_)
    · have dc12 : x_length.toInt ≤ x_mostBytes.toInt := le_i (a := x_length.toInt) (b := x_mostBytes.toInt) rfl rfl c12
      have k13 : 0 ≤ x_mostBytes.toInt ∧ x_mostBytes.toInt ≤ 2147483647 := ⟨Int.le_trans i_x_length.1 dc12, (ir_any _).2⟩
      refine lv_aload_n hx hb dX6_advance_98 rfl (lv_at hl 0 rfl) ?_
      have n14 : F7 10 = .int u2 := (get_ne eF7 (by decide) i5)
      refine get_f (D := D) (ci := 6) (v := .int u2) (C := RX6) (T := TX6) (N := 12) hx hb hw inAX6 hown hK hP 0 rfl rfl 10 (by decide) (hw _ q_110) (fun _ h9 => h9) n14 dX6_advance_99 ?_
      refine lv_aload_n hx hb dX6_advance_102 rfl (lv_at hl 0 rfl) ?_
      refine get_f (D := D) (ci := 6) (v := .int x_length) (C := RX6) (T := TX6) (N := 12) hx hb hw inAX6 hown hK hP 0 rfl rfl 1 (by decide) (hw _ q_90) (fun _ h9 => h9) n9 dX6_advance_103 ?_
      refine lv_icmp_lt (tgt := 117) hx hb dX6_advance_106 (by decide) (fun c15 => ?_) (fun c15 => ?_)
      · have dc15 : u2.toInt < x_length.toInt := lt_i (a := u2.toInt) (b := x_length.toInt) rfl rfl c15
        have k16 : 0 ≤ u2.toInt ∧ u2.toInt ≤ 939 := ⟨i6.1, up_lt dc15 i_x_length.2 (by decide)⟩
        have k17 : 1 ≤ x_length.toInt ∧ x_length.toInt ≤ 940 := ⟨lo_lt dc15 i6.1 (by decide), i_x_length.2⟩
        refine lv_aload_n hx hb dX6_advance_117 rfl (lv_at hl 0 rfl) ?_
        have n18 : G1 0 = .ref h_bytes := (SAME.at i4 (by decide) e_bytes)
        have n19 : F7 0 = .ref h_bytes := (get_ne eF7 (by decide) n18)
        refine get_f (D := D) (ci := 6) (v := .ref h_bytes) (C := RX6) (T := TX6) (N := 12) hx hb hw inAX6 hown hK hP 0 rfl rfl 0 (by decide) (hw _ q_89) (fun _ h9 => h9) n19 dX6_advance_118 ?_
        refine lv_aload_n hx hb dX6_advance_121 rfl (lv_at hl 0 rfl) ?_
        refine get_f (D := D) (ci := 6) (v := .int u2) (C := RX6) (T := TX6) (N := 12) hx hb hw inAX6 hown hK hP 0 rfl rfl 10 (by decide) (hw _ q_110) (fun _ h9 => h9) n14 dX6_advance_122 ?_
        refine va_bald hx hb hK hP 1 2 rfl rfl (ix_k k16 (by decide) (by decide)) dX6_advance_125 ?_
        refine lv_topi (fun v20 ev20 => ?_)
        refine call_Si (wr := [(h0, .inr (6, vL 12 F7)), (h_bytes, .inl (cB, 940, .inl f_bytes)), (h_wordNames, .inl (cJ, 23, .inr (.inl f_wordNames)))]) (As := [.int v20]) (rest := []) hx hb hml hown hw (m_X6_isSign l D cI cJ cB cP cM cZ v20 _ ) wS_X6_69_X6_isSign dX6_advance_126 hP hD hS hA [] [0, 1, 2] rfl rfl (by decide) (by decide) (by decide) GG.fb hG.at hl.1 rfl (Nat.le_of_ble_eq_true rfl) ⟨(Nat.le_of_ble_eq_true rfl), (Nat.le_of_ble_eq_true rfl)⟩ ⟨(Nat.le_of_ble_eq_true rfl), (Nat.le_of_ble_eq_true rfl)⟩ (fun r21 u H locs hp hP hD hS => ?_)
        obtain ⟨t22, rfl⟩ := hp
        have hP : va_P D vwCl [(h0, .inr (6, vL 12 F7)), (h_bytes, .inl (cB, 940, .inl f_bytes)), (h_wordNames, .inl (cJ, 23, .inr (.inl f_wordNames)))] H := hP
        have hD : va_D A [(h0, .inr (6, vL 12 F7)), (h_bytes, .inl (cB, 940, .inl f_bytes)), (h_wordNames, .inl (cJ, 23, .inr (.inl f_wordNames)))] := hD
        refine W.widen (k := 0) (n := 0) (Nat.le_of_ble_eq_true rfl) (Nat.le_of_ble_eq_true rfl) ?_
        refine lv_if_eq (tgt := 158) hx hb dX6_advance_129 (by decide) (fun c23 => ?_) (fun c23 => ?_)
        · have dc23 : r21.toInt = 0 := eq_i (a := r21.toInt) (b := 0) rfl rfl c23
          have k24 : 0 ≤ r21.toInt ∧ r21.toInt ≤ 0 := ⟨t22.1, Int.le_trans (Int.le_of_eq dc23) (Int.le_refl _)⟩
          refine lv_aload_n hx hb dX6_advance_158 rfl (lv_at hl 0 rfl) ?_
          refine call_Vv (wr := [(h_wordNames, .inl (cJ, 23, .inr (.inl f_wordNames)))]) (As := []) (rest := []) hx hb hml hown hw (m_X6_readRow l D cI cJ cB cP cM cZ h0 h_bytes F7 x_length u2 f_bytes _ n19 n9 (ir_wk k17 (by decide) (by decide)) n14 (ir_wk k16 (by decide) (by decide))) wV_X6_73_X6_readRow dX6_advance_159 hK hP hD hS hA [0, 1] [2] rfl rfl (by decide) (by decide) (by decide) 0 6 rfl rfl GG.fb hG.at hl.1 rfl (Nat.le_of_ble_eq_true rfl) ⟨(Nat.le_of_ble_eq_true rfl), (Nat.le_of_ble_eq_true rfl)⟩ ⟨(Nat.le_of_ble_eq_true rfl), (Nat.le_of_ble_eq_true rfl)⟩ (fun u H locs hp hP hD hS => ?_)
          obtain ⟨F26, y27, y28, y29, y30, t31, t32, t33, t34, t35, t36, t37, rfl⟩ := hp
          have hP : va_P D vwCl [(h_wordNames, .inl (cJ, 23, .inr (.inl f_wordNames))), (h0, .inr (6, vL 12 F26)), (h_bytes, .inl (cB, 940, .inl f_bytes))] H := hP
          have hD : va_D A [(h_wordNames, .inl (cJ, 23, .inr (.inl f_wordNames))), (h0, .inr (6, vL 12 F26)), (h_bytes, .inl (cB, 940, .inl f_bytes))] := hD
          refine W.widen (k := 0) (n := 0) (Nat.le_of_ble_eq_true rfl) (Nat.le_of_ble_eq_true rfl) ?_
          refine lv_aload_n hx hb dX6_advance_162 rfl (lv_at hl 0 rfl) ?_
          refine lv_aload_n hx hb dX6_advance_163 rfl (lv_at hl 0 rfl) ?_
          refine get_f (D := D) (ci := 6) (v := .int y27) (C := RX6) (T := TX6) (N := 12) hx hb hw inAX6 hown hK hP 1 rfl rfl 2 (by decide) (hw _ q_92) (fun _ h9 => h9) t32 dX6_advance_164 ?_
          refine lv_iconst (v := 2) hx hb dX6_advance_167 (by decide) ?_
          refine lv_icmp_ne (tgt := 182) hx hb dX6_advance_168 (by decide) (fun c38 => ?_) (fun c38 => ?_)
          · have dc38 : y27.toInt ≠ 2 := ne_i (a := y27.toInt) (b := 2) rfl rfl c38
            refine lv_aload_n hx hb dX6_advance_182 rfl (lv_at hl 0 rfl) ?_
            refine get_f (D := D) (ci := 6) (v := .int y28) (C := RX6) (T := TX6) (N := 12) hx hb hw inAX6 hown hK hP 1 rfl rfl 4 (by decide) (hw _ q_97) (fun _ h9 => h9) t34 dX6_advance_183 ?_
            refine put_f (D := D) (ci := 6) (v := .int y28) (ty := .int) (C := RX6) (T := TX6) (N := 12) hx hb hw inAX6 tyX6 tyX6_ok nmX6 hown hK hP hD hS 1 rfl rfl 4 (by decide) (hw _ q_97) (fun _ h9 => h9) rfl (by decide +kernel) rfl rfl dX6_advance_186 (fun H locs F39 eF39 hP hD hS => ?_)
            have hP : va_P D vwCl [(h_wordNames, .inl (cJ, 23, .inr (.inl f_wordNames))), (h0, .inr (6, vL 12 F39)), (h_bytes, .inl (cB, 940, .inl f_bytes))] H := hP
            have hD : va_D A [(h_wordNames, .inl (cJ, 23, .inr (.inl f_wordNames))), (h0, .inr (6, vL 12 F39)), (h_bytes, .inl (cB, 940, .inl f_bytes))] := hD
            exact ret_v hx hb hr hlocks hS (hP.sub (ws' := [(h0, .inr (6, vL 12 F39)), (h_bytes, .inl (cB, 940, .inl f_bytes)), (h_wordNames, .inl (cJ, 23, .inr (.inl f_wordNames)))]) [1, 2, 0] rfl) (hD.sub (ws' := [(h0, .inr (6, vL 12 F39)), (h_bytes, .inl (cB, 940, .inl f_bytes)), (h_wordNames, .inl (cJ, 23, .inr (.inl f_wordNames)))]) [1, 2, 0] (by decide) rfl) dX6_advance_189 (Nat.le_of_ble_eq_true rfl) (Nat.le_of_ble_eq_true rfl) ⟨F39, y27, u2, y28, y29, y30, (SAME.up eF39 (SAME.tr (SAME.up eF7 (SAME.tr SAME.rf i4 (by decide)) (by decide)) t31 (by decide)) (by decide)), (get_ne eF39 (by decide) t32), (get_ne eF39 (by decide) (SAME.at t31 (by decide) (get_eq eF7))), (ir_wk k16 (by decide) (by decide)), (get_eq eF39), (get_ne eF39 (by decide) t35), (get_ne eF39 (by decide) t36), t37, rfl⟩
          · have dc38 : y27.toInt = 2 := eq_i (a := y27.toInt) (b := 2) rfl rfl c38
            have k40 : 2 ≤ y27.toInt ∧ y27.toInt ≤ 2 := ⟨Int.le_trans (Int.le_refl _) (Int.le_of_eq dc38.symm), Int.le_trans (Int.le_of_eq dc38) (Int.le_refl _)⟩
            refine lv_aload_n hx hb dX6_advance_171 rfl (lv_at hl 0 rfl) ?_
            refine lv_aload_n hx hb dX6_advance_172 rfl (lv_at hl 0 rfl) ?_
            refine get_f (D := D) (ci := 6) (v := .long y29) (C := RX6) (T := TX6) (N := 12) hx hb hw inAX6 hown hK hP 1 rfl rfl 5 (by decide) (hw _ q_98) (fun _ h9 => h9) t35 dX6_advance_173 ?_
            have n41 : G1 9 = .ref h_wordNames := (SAME.at i4 (by decide) e_wordNames)
            have n42 : F7 9 = .ref h_wordNames := (get_ne eF7 (by decide) n41)
            have n43 : F26 9 = .ref h_wordNames := (SAME.at t31 (by decide) n42)
            refine call_Vi (wr := [(h_bytes, .inl (cB, 940, .inl f_bytes))]) (As := [.long y29]) (rest := [.ref h0]) hx hb hml hown hw (m_X6_wordNamed l D cI cJ cB cP cM cZ h0 h_wordNames F26 f_wordNames y29 _ n43) wV_X6_76_X6_wordNamed dX6_advance_176 hK hP hD hS hA [1, 0] [2] rfl rfl (by decide) (by decide) (by decide) 0 6 rfl rfl GG.fb hG.at hl.1 rfl (Nat.le_of_ble_eq_true rfl) ⟨(Nat.le_of_ble_eq_true rfl), (Nat.le_of_ble_eq_true rfl)⟩ ⟨(Nat.le_of_ble_eq_true rfl), (Nat.le_of_ble_eq_true rfl)⟩ (fun r44 u H locs hp hP hD hS => ?_)
            obtain ⟨t45, rfl⟩ := hp
            have hP : va_P D vwCl [(h_bytes, .inl (cB, 940, .inl f_bytes)), (h0, .inr (6, vL 12 F26)), (h_wordNames, .inl (cJ, 23, .inr (.inl f_wordNames)))] H := hP
            have hD : va_D A [(h_bytes, .inl (cB, 940, .inl f_bytes)), (h0, .inr (6, vL 12 F26)), (h_wordNames, .inl (cJ, 23, .inr (.inl f_wordNames)))] := hD
            refine W.widen (k := 0) (n := 0) (Nat.le_of_ble_eq_true rfl) (Nat.le_of_ble_eq_true rfl) ?_
            refine lv_goto (tgt := 186) hx hb dX6_advance_179 (by decide) ?_
            refine put_f (D := D) (ci := 6) (v := .int r44) (ty := .int) (C := RX6) (T := TX6) (N := 12) hx hb hw inAX6 tyX6 tyX6_ok nmX6 hown hK hP hD hS 1 rfl rfl 4 (by decide) (hw _ q_97) (fun _ h9 => h9) rfl (by decide +kernel) rfl rfl dX6_advance_186 (fun H locs F46 eF46 hP hD hS => ?_)
            have hP : va_P D vwCl [(h_bytes, .inl (cB, 940, .inl f_bytes)), (h0, .inr (6, vL 12 F46)), (h_wordNames, .inl (cJ, 23, .inr (.inl f_wordNames)))] H := hP
            have hD : va_D A [(h_bytes, .inl (cB, 940, .inl f_bytes)), (h0, .inr (6, vL 12 F46)), (h_wordNames, .inl (cJ, 23, .inr (.inl f_wordNames)))] := hD
            exact ret_v hx hb hr hlocks hS (hP.sub (ws' := [(h0, .inr (6, vL 12 F46)), (h_bytes, .inl (cB, 940, .inl f_bytes)), (h_wordNames, .inl (cJ, 23, .inr (.inl f_wordNames)))]) [1, 0, 2] rfl) (hD.sub (ws' := [(h0, .inr (6, vL 12 F46)), (h_bytes, .inl (cB, 940, .inl f_bytes)), (h_wordNames, .inl (cJ, 23, .inr (.inl f_wordNames)))]) [1, 0, 2] (by decide) rfl) dX6_advance_189 (Nat.le_of_ble_eq_true rfl) (Nat.le_of_ble_eq_true rfl) ⟨F46, y27, u2, r44, y29, y30, (SAME.up eF46 (SAME.tr (SAME.up eF7 (SAME.tr SAME.rf i4 (by decide)) (by decide)) t31 (by decide)) (by decide)), (get_ne eF46 (by decide) t32), (get_ne eF46 (by decide) (SAME.at t31 (by decide) (get_eq eF7))), (ir_wk k16 (by decide) (by decide)), (get_eq eF46), (get_ne eF46 (by decide) t35), (get_ne eF46 (by decide) t36), t37, rfl⟩
        · have dc23 : r21.toInt ≠ 0 := ne_i (a := r21.toInt) (b := 0) rfl rfl c23
          have k47 : 1 ≤ r21.toInt ∧ r21.toInt ≤ 1 := ⟨ne_lo dc23 t22.1 ⟨Int.le_refl _, Int.le_refl _⟩ (by decide), t22.2⟩
          refine lv_aload_n hx hb dX6_advance_132 rfl (lv_at hl 0 rfl) ?_
          refine lv_aload_n hx hb dX6_advance_133 rfl (lv_at hl 0 rfl) ?_
          refine get_f (D := D) (ci := 6) (v := .ref h_bytes) (C := RX6) (T := TX6) (N := 12) hx hb hw inAX6 hown hK hP 0 rfl rfl 0 (by decide) (hw _ q_89) (fun _ h9 => h9) n19 dX6_advance_134 ?_
          refine lv_aload_n hx hb dX6_advance_137 rfl (lv_at hl 0 rfl) ?_
          refine get_f (D := D) (ci := 6) (v := .int u2) (C := RX6) (T := TX6) (N := 12) hx hb hw inAX6 hown hK hP 0 rfl rfl 10 (by decide) (hw _ q_110) (fun _ h9 => h9) n14 dX6_advance_138 ?_
          refine va_bald hx hb hK hP 1 2 rfl rfl (ix_k k16 (by decide) (by decide)) dX6_advance_141 ?_
          refine lv_ci (y := v20) ev20.symm ?_
          refine put_f (D := D) (ci := 6) (v := .int v20) (ty := .int) (C := RX6) (T := TX6) (N := 12) hx hb hw inAX6 tyX6 tyX6_ok nmX6 hown hK hP hD hS 0 rfl rfl 2 (by decide) (hw _ q_92) (fun _ h9 => h9) rfl (by decide +kernel) rfl rfl dX6_advance_142 (fun H locs F48 eF48 hP hD hS => ?_)
          have hP : va_P D vwCl [(h0, .inr (6, vL 12 F48)), (h_bytes, .inl (cB, 940, .inl f_bytes)), (h_wordNames, .inl (cJ, 23, .inr (.inl f_wordNames)))] H := hP
          have hD : va_D A [(h0, .inr (6, vL 12 F48)), (h_bytes, .inl (cB, 940, .inl f_bytes)), (h_wordNames, .inl (cJ, 23, .inr (.inl f_wordNames)))] := hD
          refine lv_aload_n hx hb dX6_advance_145 rfl (lv_at hl 0 rfl) ?_
          refine lv_dup hx hb dX6_advance_146 rfl ?_
          have n49 : F48 10 = .int u2 := (get_ne eF48 (by decide) n14)
          refine get_f (D := D) (ci := 6) (v := .int u2) (C := RX6) (T := TX6) (N := 12) hx hb hw inAX6 hown hK hP 0 rfl rfl 10 (by decide) (hw _ q_110) (fun _ h9 => h9) n49 dX6_advance_147 ?_
          refine lv_iconst (v := 1) hx hb dX6_advance_150 (by decide) ?_
          refine lv_iadd hx hb dX6_advance_151 ?_
          refine lv_topi (fun v50 ev50 => ?_)
          have bv50 : v50.toInt = u2.toInt + 1 := by rw [ev50]; exact add_k rfl rfl k16 ⟨Int.le_refl _, Int.le_refl _⟩ (by decide)
          have k51 : 1 ≤ v50.toInt ∧ v50.toInt ≤ 940 := add_r bv50 k16 ⟨Int.le_refl _, Int.le_refl _⟩ (by decide)
          refine put_f (D := D) (ci := 6) (v := .int v50) (ty := .int) (C := RX6) (T := TX6) (N := 12) hx hb hw inAX6 tyX6 tyX6_ok nmX6 hown hK hP hD hS 0 rfl rfl 10 (by decide) (hw _ q_110) (fun _ h9 => h9) rfl (by decide +kernel) rfl rfl dX6_advance_152 (fun H locs F52 eF52 hP hD hS => ?_)
          have hP : va_P D vwCl [(h0, .inr (6, vL 12 F52)), (h_bytes, .inl (cB, 940, .inl f_bytes)), (h_wordNames, .inl (cJ, 23, .inr (.inl f_wordNames)))] H := hP
          have hD : va_D A [(h0, .inr (6, vL 12 F52)), (h_bytes, .inl (cB, 940, .inl f_bytes)), (h_wordNames, .inl (cJ, 23, .inr (.inl f_wordNames)))] := hD
          refine lv_goto (tgt := 189) hx hb dX6_advance_155 (by decide) ?_
          exact ret_v hx hb hr hlocks hS hP hD dX6_advance_189 (Nat.le_of_ble_eq_true rfl) (Nat.le_of_ble_eq_true rfl) ⟨F52, v20, u2, x_value, x_name, v50, (SAME.up eF52 (SAME.up eF48 (SAME.up eF7 (SAME.tr SAME.rf i4 (by decide)) (by decide)) (by decide)) (by decide)), (get_ne eF52 (by decide) (get_eq eF48)), (get_ne eF52 (by decide) (get_ne eF48 (by decide) (get_eq eF7))), (ir_wk k16 (by decide) (by decide)), (get_ne eF52 (by decide) (get_ne eF48 (by decide) (get_ne eF7 (by decide) (SAME.at i4 (by decide) e_value)))), (get_ne eF52 (by decide) (get_ne eF48 (by decide) (get_ne eF7 (by decide) (SAME.at i4 (by decide) e_name)))), (get_eq eF52), (ir_wk k51 (by decide) (by decide)), rfl⟩
      · have dc15 : x_length.toInt ≤ u2.toInt := nlt_i (a := u2.toInt) (b := x_length.toInt) rfl rfl c15
        refine lv_aload_n hx hb dX6_advance_109 rfl (lv_at hl 0 rfl) ?_
        refine lv_iconst (v := 0) hx hb dX6_advance_110 (by decide) ?_
        refine put_f (D := D) (ci := 6) (v := .int 0) (ty := .int) (C := RX6) (T := TX6) (N := 12) hx hb hw inAX6 tyX6 tyX6_ok nmX6 hown hK hP hD hS 0 rfl rfl 2 (by decide) (hw _ q_92) (fun _ h9 => h9) rfl (by decide +kernel) rfl rfl dX6_advance_111 (fun H locs F53 eF53 hP hD hS => ?_)
        have hP : va_P D vwCl [(h0, .inr (6, vL 12 F53)), (h_bytes, .inl (cB, 940, .inl f_bytes)), (h_wordNames, .inl (cJ, 23, .inr (.inl f_wordNames)))] H := hP
        have hD : va_D A [(h0, .inr (6, vL 12 F53)), (h_bytes, .inl (cB, 940, .inl f_bytes)), (h_wordNames, .inl (cJ, 23, .inr (.inl f_wordNames)))] := hD
        refine lv_goto (tgt := 189) hx hb dX6_advance_114 (by decide) ?_
        exact ret_v hx hb hr hlocks hS hP hD dX6_advance_189 (Nat.le_of_ble_eq_true rfl) (Nat.le_of_ble_eq_true rfl) ⟨F53, 0, u2, x_value, x_name, u2, (SAME.up eF53 (SAME.up eF7 (SAME.tr SAME.rf i4 (by decide)) (by decide)) (by decide)), (get_eq eF53), (get_ne eF53 (by decide) (get_eq eF7)), (ir_wk i6 (by decide) (by decide)), (get_ne eF53 (by decide) (get_ne eF7 (by decide) (SAME.at i4 (by decide) e_value))), (get_ne eF53 (by decide) (get_ne eF7 (by decide) (SAME.at i4 (by decide) e_name))), (get_ne eF53 (by decide) n14), i6, rfl⟩
    · have dc12 : x_mostBytes.toInt < x_length.toInt := nle_i (a := x_length.toInt) (b := x_mostBytes.toInt) rfl rfl c12
      have k54 : (-2147483648) ≤ x_mostBytes.toInt ∧ x_mostBytes.toInt ≤ 939 := ⟨(ir_any _).1, up_lt dc12 i_x_length.2 (by decide)⟩
      refine lv_aload_n hx hb dX6_advance_71 rfl (lv_at hl 0 rfl) ?_
      have n55 : F7 10 = .int u2 := (get_ne eF7 (by decide) i5)
      refine get_f (D := D) (ci := 6) (v := .int u2) (C := RX6) (T := TX6) (N := 12) hx hb hw inAX6 hown hK hP 0 rfl rfl 10 (by decide) (hw _ q_110) (fun _ h9 => h9) n55 dX6_advance_72 ?_
      refine lv_aload_n hx hb dX6_advance_75 rfl (lv_at hl 0 rfl) ?_
      refine get_f (D := D) (ci := 6) (v := .int x_mostBytes) (C := RX6) (T := TX6) (N := 12) hx hb hw inAX6 hown hK hP 0 rfl rfl 11 (by decide) (hw _ q_111) (fun _ h9 => h9) n11 dX6_advance_76 ?_
      refine lv_icmp_lt (tgt := 98) hx hb dX6_advance_79 (by decide) (fun c56 => ?_) (fun c56 => ?_)
      · have dc56 : u2.toInt < x_mostBytes.toInt := lt_i (a := u2.toInt) (b := x_mostBytes.toInt) rfl rfl c56
        have k57 : 0 ≤ u2.toInt ∧ u2.toInt ≤ 938 := ⟨i6.1, up_lt dc56 k54.2 (by decide)⟩
        have k58 : 1 ≤ x_mostBytes.toInt ∧ x_mostBytes.toInt ≤ 939 := ⟨lo_lt dc56 i6.1 (by decide), k54.2⟩
        refine lv_aload_n hx hb dX6_advance_98 rfl (lv_at hl 0 rfl) ?_
        refine get_f (D := D) (ci := 6) (v := .int u2) (C := RX6) (T := TX6) (N := 12) hx hb hw inAX6 hown hK hP 0 rfl rfl 10 (by decide) (hw _ q_110) (fun _ h9 => h9) n55 dX6_advance_99 ?_
        refine lv_aload_n hx hb dX6_advance_102 rfl (lv_at hl 0 rfl) ?_
        refine get_f (D := D) (ci := 6) (v := .int x_length) (C := RX6) (T := TX6) (N := 12) hx hb hw inAX6 hown hK hP 0 rfl rfl 1 (by decide) (hw _ q_90) (fun _ h9 => h9) n9 dX6_advance_103 ?_
        refine lv_icmp_lt (tgt := 117) hx hb dX6_advance_106 (by decide) (fun c59 => ?_) (fun c59 => ?_)
        · have dc59 : u2.toInt < x_length.toInt := lt_i (a := u2.toInt) (b := x_length.toInt) rfl rfl c59
          have k60 : 1 ≤ x_length.toInt ∧ x_length.toInt ≤ 940 := ⟨lo_lt dc59 k57.1 (by decide), i_x_length.2⟩
          refine lv_aload_n hx hb dX6_advance_117 rfl (lv_at hl 0 rfl) ?_
          have n61 : G1 0 = .ref h_bytes := (SAME.at i4 (by decide) e_bytes)
          have n62 : F7 0 = .ref h_bytes := (get_ne eF7 (by decide) n61)
          refine get_f (D := D) (ci := 6) (v := .ref h_bytes) (C := RX6) (T := TX6) (N := 12) hx hb hw inAX6 hown hK hP 0 rfl rfl 0 (by decide) (hw _ q_89) (fun _ h9 => h9) n62 dX6_advance_118 ?_
          refine lv_aload_n hx hb dX6_advance_121 rfl (lv_at hl 0 rfl) ?_
          refine get_f (D := D) (ci := 6) (v := .int u2) (C := RX6) (T := TX6) (N := 12) hx hb hw inAX6 hown hK hP 0 rfl rfl 10 (by decide) (hw _ q_110) (fun _ h9 => h9) n55 dX6_advance_122 ?_
          refine va_bald hx hb hK hP 1 2 rfl rfl (ix_k k57 (by decide) (by decide)) dX6_advance_125 ?_
          refine lv_topi (fun v63 ev63 => ?_)
          refine call_Si (wr := [(h0, .inr (6, vL 12 F7)), (h_bytes, .inl (cB, 940, .inl f_bytes)), (h_wordNames, .inl (cJ, 23, .inr (.inl f_wordNames)))]) (As := [.int v63]) (rest := []) hx hb hml hown hw (m_X6_isSign l D cI cJ cB cP cM cZ v63 _ ) wS_X6_69_X6_isSign dX6_advance_126 hP hD hS hA [] [0, 1, 2] rfl rfl (by decide) (by decide) (by decide) GG.fb hG.at hl.1 rfl (Nat.le_of_ble_eq_true rfl) ⟨(Nat.le_of_ble_eq_true rfl), (Nat.le_of_ble_eq_true rfl)⟩ ⟨(Nat.le_of_ble_eq_true rfl), (Nat.le_of_ble_eq_true rfl)⟩ (fun r64 u H locs hp hP hD hS => ?_)
          obtain ⟨t65, rfl⟩ := hp
          have hP : va_P D vwCl [(h0, .inr (6, vL 12 F7)), (h_bytes, .inl (cB, 940, .inl f_bytes)), (h_wordNames, .inl (cJ, 23, .inr (.inl f_wordNames)))] H := hP
          have hD : va_D A [(h0, .inr (6, vL 12 F7)), (h_bytes, .inl (cB, 940, .inl f_bytes)), (h_wordNames, .inl (cJ, 23, .inr (.inl f_wordNames)))] := hD
          refine W.widen (k := 0) (n := 0) (Nat.le_of_ble_eq_true rfl) (Nat.le_of_ble_eq_true rfl) ?_
          refine lv_if_eq (tgt := 158) hx hb dX6_advance_129 (by decide) (fun c66 => ?_) (fun c66 => ?_)
          · have dc66 : r64.toInt = 0 := eq_i (a := r64.toInt) (b := 0) rfl rfl c66
            have k67 : 0 ≤ r64.toInt ∧ r64.toInt ≤ 0 := ⟨t65.1, Int.le_trans (Int.le_of_eq dc66) (Int.le_refl _)⟩
            refine lv_aload_n hx hb dX6_advance_158 rfl (lv_at hl 0 rfl) ?_
            refine call_Vv (wr := [(h_wordNames, .inl (cJ, 23, .inr (.inl f_wordNames)))]) (As := []) (rest := []) hx hb hml hown hw (m_X6_readRow l D cI cJ cB cP cM cZ h0 h_bytes F7 x_length u2 f_bytes _ n62 n9 (ir_wk k60 (by decide) (by decide)) n55 (ir_wk k57 (by decide) (by decide))) wV_X6_73_X6_readRow dX6_advance_159 hK hP hD hS hA [0, 1] [2] rfl rfl (by decide) (by decide) (by decide) 0 6 rfl rfl GG.fb hG.at hl.1 rfl (Nat.le_of_ble_eq_true rfl) ⟨(Nat.le_of_ble_eq_true rfl), (Nat.le_of_ble_eq_true rfl)⟩ ⟨(Nat.le_of_ble_eq_true rfl), (Nat.le_of_ble_eq_true rfl)⟩ (fun u H locs hp hP hD hS => ?_)
            obtain ⟨F69, y70, y71, y72, y73, t74, t75, t76, t77, t78, t79, t80, rfl⟩ := hp
            have hP : va_P D vwCl [(h_wordNames, .inl (cJ, 23, .inr (.inl f_wordNames))), (h0, .inr (6, vL 12 F69)), (h_bytes, .inl (cB, 940, .inl f_bytes))] H := hP
            have hD : va_D A [(h_wordNames, .inl (cJ, 23, .inr (.inl f_wordNames))), (h0, .inr (6, vL 12 F69)), (h_bytes, .inl (cB, 940, .inl f_bytes))] := hD
            refine W.widen (k := 0) (n := 0) (Nat.le_of_ble_eq_true rfl) (Nat.le_of_ble_eq_true rfl) ?_
            refine lv_aload_n hx hb dX6_advance_162 rfl (lv_at hl 0 rfl) ?_
            refine lv_aload_n hx hb dX6_advance_163 rfl (lv_at hl 0 rfl) ?_
            refine get_f (D := D) (ci := 6) (v := .int y70) (C := RX6) (T := TX6) (N := 12) hx hb hw inAX6 hown hK hP 1 rfl rfl 2 (by decide) (hw _ q_92) (fun _ h9 => h9) t75 dX6_advance_164 ?_
            refine lv_iconst (v := 2) hx hb dX6_advance_167 (by decide) ?_
            refine lv_icmp_ne (tgt := 182) hx hb dX6_advance_168 (by decide) (fun c81 => ?_) (fun c81 => ?_)
            · have dc81 : y70.toInt ≠ 2 := ne_i (a := y70.toInt) (b := 2) rfl rfl c81
              refine lv_aload_n hx hb dX6_advance_182 rfl (lv_at hl 0 rfl) ?_
              refine get_f (D := D) (ci := 6) (v := .int y71) (C := RX6) (T := TX6) (N := 12) hx hb hw inAX6 hown hK hP 1 rfl rfl 4 (by decide) (hw _ q_97) (fun _ h9 => h9) t77 dX6_advance_183 ?_
              refine put_f (D := D) (ci := 6) (v := .int y71) (ty := .int) (C := RX6) (T := TX6) (N := 12) hx hb hw inAX6 tyX6 tyX6_ok nmX6 hown hK hP hD hS 1 rfl rfl 4 (by decide) (hw _ q_97) (fun _ h9 => h9) rfl (by decide +kernel) rfl rfl dX6_advance_186 (fun H locs F82 eF82 hP hD hS => ?_)
              have hP : va_P D vwCl [(h_wordNames, .inl (cJ, 23, .inr (.inl f_wordNames))), (h0, .inr (6, vL 12 F82)), (h_bytes, .inl (cB, 940, .inl f_bytes))] H := hP
              have hD : va_D A [(h_wordNames, .inl (cJ, 23, .inr (.inl f_wordNames))), (h0, .inr (6, vL 12 F82)), (h_bytes, .inl (cB, 940, .inl f_bytes))] := hD
              exact ret_v hx hb hr hlocks hS (hP.sub (ws' := [(h0, .inr (6, vL 12 F82)), (h_bytes, .inl (cB, 940, .inl f_bytes)), (h_wordNames, .inl (cJ, 23, .inr (.inl f_wordNames)))]) [1, 2, 0] rfl) (hD.sub (ws' := [(h0, .inr (6, vL 12 F82)), (h_bytes, .inl (cB, 940, .inl f_bytes)), (h_wordNames, .inl (cJ, 23, .inr (.inl f_wordNames)))]) [1, 2, 0] (by decide) rfl) dX6_advance_189 (Nat.le_of_ble_eq_true rfl) (Nat.le_of_ble_eq_true rfl) ⟨F82, y70, u2, y71, y72, y73, (SAME.up eF82 (SAME.tr (SAME.up eF7 (SAME.tr SAME.rf i4 (by decide)) (by decide)) t74 (by decide)) (by decide)), (get_ne eF82 (by decide) t75), (get_ne eF82 (by decide) (SAME.at t74 (by decide) (get_eq eF7))), (ir_wk k57 (by decide) (by decide)), (get_eq eF82), (get_ne eF82 (by decide) t78), (get_ne eF82 (by decide) t79), t80, rfl⟩
            · have dc81 : y70.toInt = 2 := eq_i (a := y70.toInt) (b := 2) rfl rfl c81
              have k83 : 2 ≤ y70.toInt ∧ y70.toInt ≤ 2 := ⟨Int.le_trans (Int.le_refl _) (Int.le_of_eq dc81.symm), Int.le_trans (Int.le_of_eq dc81) (Int.le_refl _)⟩
              refine lv_aload_n hx hb dX6_advance_171 rfl (lv_at hl 0 rfl) ?_
              refine lv_aload_n hx hb dX6_advance_172 rfl (lv_at hl 0 rfl) ?_
              refine get_f (D := D) (ci := 6) (v := .long y72) (C := RX6) (T := TX6) (N := 12) hx hb hw inAX6 hown hK hP 1 rfl rfl 5 (by decide) (hw _ q_98) (fun _ h9 => h9) t78 dX6_advance_173 ?_
              have n84 : G1 9 = .ref h_wordNames := (SAME.at i4 (by decide) e_wordNames)
              have n85 : F7 9 = .ref h_wordNames := (get_ne eF7 (by decide) n84)
              have n86 : F69 9 = .ref h_wordNames := (SAME.at t74 (by decide) n85)
              refine call_Vi (wr := [(h_bytes, .inl (cB, 940, .inl f_bytes))]) (As := [.long y72]) (rest := [.ref h0]) hx hb hml hown hw (m_X6_wordNamed l D cI cJ cB cP cM cZ h0 h_wordNames F69 f_wordNames y72 _ n86) wV_X6_76_X6_wordNamed dX6_advance_176 hK hP hD hS hA [1, 0] [2] rfl rfl (by decide) (by decide) (by decide) 0 6 rfl rfl GG.fb hG.at hl.1 rfl (Nat.le_of_ble_eq_true rfl) ⟨(Nat.le_of_ble_eq_true rfl), (Nat.le_of_ble_eq_true rfl)⟩ ⟨(Nat.le_of_ble_eq_true rfl), (Nat.le_of_ble_eq_true rfl)⟩ (fun r87 u H locs hp hP hD hS => ?_)
              obtain ⟨t88, rfl⟩ := hp
              have hP : va_P D vwCl [(h_bytes, .inl (cB, 940, .inl f_bytes)), (h0, .inr (6, vL 12 F69)), (h_wordNames, .inl (cJ, 23, .inr (.inl f_wordNames)))] H := hP
              have hD : va_D A [(h_bytes, .inl (cB, 940, .inl f_bytes)), (h0, .inr (6, vL 12 F69)), (h_wordNames, .inl (cJ, 23, .inr (.inl f_wordNames)))] := hD
              refine W.widen (k := 0) (n := 0) (Nat.le_of_ble_eq_true rfl) (Nat.le_of_ble_eq_true rfl) ?_
              refine lv_goto (tgt := 186) hx hb dX6_advance_179 (by decide) ?_
              refine put_f (D := D) (ci := 6) (v := .int r87) (ty := .int) (C := RX6) (T := TX6) (N := 12) hx hb hw inAX6 tyX6 tyX6_ok nmX6 hown hK hP hD hS 1 rfl rfl 4 (by decide) (hw _ q_97) (fun _ h9 => h9) rfl (by decide +kernel) rfl rfl dX6_advance_186 (fun H locs F89 eF89 hP hD hS => ?_)
              have hP : va_P D vwCl [(h_bytes, .inl (cB, 940, .inl f_bytes)), (h0, .inr (6, vL 12 F89)), (h_wordNames, .inl (cJ, 23, .inr (.inl f_wordNames)))] H := hP
              have hD : va_D A [(h_bytes, .inl (cB, 940, .inl f_bytes)), (h0, .inr (6, vL 12 F89)), (h_wordNames, .inl (cJ, 23, .inr (.inl f_wordNames)))] := hD
              exact ret_v hx hb hr hlocks hS (hP.sub (ws' := [(h0, .inr (6, vL 12 F89)), (h_bytes, .inl (cB, 940, .inl f_bytes)), (h_wordNames, .inl (cJ, 23, .inr (.inl f_wordNames)))]) [1, 0, 2] rfl) (hD.sub (ws' := [(h0, .inr (6, vL 12 F89)), (h_bytes, .inl (cB, 940, .inl f_bytes)), (h_wordNames, .inl (cJ, 23, .inr (.inl f_wordNames)))]) [1, 0, 2] (by decide) rfl) dX6_advance_189 (Nat.le_of_ble_eq_true rfl) (Nat.le_of_ble_eq_true rfl) ⟨F89, y70, u2, r87, y72, y73, (SAME.up eF89 (SAME.tr (SAME.up eF7 (SAME.tr SAME.rf i4 (by decide)) (by decide)) t74 (by decide)) (by decide)), (get_ne eF89 (by decide) t75), (get_ne eF89 (by decide) (SAME.at t74 (by decide) (get_eq eF7))), (ir_wk k57 (by decide) (by decide)), (get_eq eF89), (get_ne eF89 (by decide) t78), (get_ne eF89 (by decide) t79), t80, rfl⟩
          · have dc66 : r64.toInt ≠ 0 := ne_i (a := r64.toInt) (b := 0) rfl rfl c66
            have k90 : 1 ≤ r64.toInt ∧ r64.toInt ≤ 1 := ⟨ne_lo dc66 t65.1 ⟨Int.le_refl _, Int.le_refl _⟩ (by decide), t65.2⟩
            refine lv_aload_n hx hb dX6_advance_132 rfl (lv_at hl 0 rfl) ?_
            refine lv_aload_n hx hb dX6_advance_133 rfl (lv_at hl 0 rfl) ?_
            refine get_f (D := D) (ci := 6) (v := .ref h_bytes) (C := RX6) (T := TX6) (N := 12) hx hb hw inAX6 hown hK hP 0 rfl rfl 0 (by decide) (hw _ q_89) (fun _ h9 => h9) n62 dX6_advance_134 ?_
            refine lv_aload_n hx hb dX6_advance_137 rfl (lv_at hl 0 rfl) ?_
            refine get_f (D := D) (ci := 6) (v := .int u2) (C := RX6) (T := TX6) (N := 12) hx hb hw inAX6 hown hK hP 0 rfl rfl 10 (by decide) (hw _ q_110) (fun _ h9 => h9) n55 dX6_advance_138 ?_
            refine va_bald hx hb hK hP 1 2 rfl rfl (ix_k k57 (by decide) (by decide)) dX6_advance_141 ?_
            refine lv_ci (y := v63) ev63.symm ?_
            refine put_f (D := D) (ci := 6) (v := .int v63) (ty := .int) (C := RX6) (T := TX6) (N := 12) hx hb hw inAX6 tyX6 tyX6_ok nmX6 hown hK hP hD hS 0 rfl rfl 2 (by decide) (hw _ q_92) (fun _ h9 => h9) rfl (by decide +kernel) rfl rfl dX6_advance_142 (fun H locs F91 eF91 hP hD hS => ?_)
            have hP : va_P D vwCl [(h0, .inr (6, vL 12 F91)), (h_bytes, .inl (cB, 940, .inl f_bytes)), (h_wordNames, .inl (cJ, 23, .inr (.inl f_wordNames)))] H := hP
            have hD : va_D A [(h0, .inr (6, vL 12 F91)), (h_bytes, .inl (cB, 940, .inl f_bytes)), (h_wordNames, .inl (cJ, 23, .inr (.inl f_wordNames)))] := hD
            refine lv_aload_n hx hb dX6_advance_145 rfl (lv_at hl 0 rfl) ?_
            refine lv_dup hx hb dX6_advance_146 rfl ?_
            have n92 : F91 10 = .int u2 := (get_ne eF91 (by decide) n55)
            refine get_f (D := D) (ci := 6) (v := .int u2) (C := RX6) (T := TX6) (N := 12) hx hb hw inAX6 hown hK hP 0 rfl rfl 10 (by decide) (hw _ q_110) (fun _ h9 => h9) n92 dX6_advance_147 ?_
            refine lv_iconst (v := 1) hx hb dX6_advance_150 (by decide) ?_
            refine lv_iadd hx hb dX6_advance_151 ?_
            refine lv_topi (fun v93 ev93 => ?_)
            have bv93 : v93.toInt = u2.toInt + 1 := by rw [ev93]; exact add_k rfl rfl k57 ⟨Int.le_refl _, Int.le_refl _⟩ (by decide)
            have k94 : 1 ≤ v93.toInt ∧ v93.toInt ≤ 939 := add_r bv93 k57 ⟨Int.le_refl _, Int.le_refl _⟩ (by decide)
            refine put_f (D := D) (ci := 6) (v := .int v93) (ty := .int) (C := RX6) (T := TX6) (N := 12) hx hb hw inAX6 tyX6 tyX6_ok nmX6 hown hK hP hD hS 0 rfl rfl 10 (by decide) (hw _ q_110) (fun _ h9 => h9) rfl (by decide +kernel) rfl rfl dX6_advance_152 (fun H locs F95 eF95 hP hD hS => ?_)
            have hP : va_P D vwCl [(h0, .inr (6, vL 12 F95)), (h_bytes, .inl (cB, 940, .inl f_bytes)), (h_wordNames, .inl (cJ, 23, .inr (.inl f_wordNames)))] H := hP
            have hD : va_D A [(h0, .inr (6, vL 12 F95)), (h_bytes, .inl (cB, 940, .inl f_bytes)), (h_wordNames, .inl (cJ, 23, .inr (.inl f_wordNames)))] := hD
            refine lv_goto (tgt := 189) hx hb dX6_advance_155 (by decide) ?_
            exact ret_v hx hb hr hlocks hS hP hD dX6_advance_189 (Nat.le_of_ble_eq_true rfl) (Nat.le_of_ble_eq_true rfl) ⟨F95, v63, u2, x_value, x_name, v93, (SAME.up eF95 (SAME.up eF91 (SAME.up eF7 (SAME.tr SAME.rf i4 (by decide)) (by decide)) (by decide)) (by decide)), (get_ne eF95 (by decide) (get_eq eF91)), (get_ne eF95 (by decide) (get_ne eF91 (by decide) (get_eq eF7))), (ir_wk k57 (by decide) (by decide)), (get_ne eF95 (by decide) (get_ne eF91 (by decide) (get_ne eF7 (by decide) (SAME.at i4 (by decide) e_value)))), (get_ne eF95 (by decide) (get_ne eF91 (by decide) (get_ne eF7 (by decide) (SAME.at i4 (by decide) e_name)))), (get_eq eF95), (ir_wk k94 (by decide) (by decide)), rfl⟩
        · have dc59 : x_length.toInt ≤ u2.toInt := nlt_i (a := u2.toInt) (b := x_length.toInt) rfl rfl c59
          have k96 : 0 ≤ x_length.toInt ∧ x_length.toInt ≤ 938 := ⟨i_x_length.1, Int.le_trans dc59 k57.2⟩
          refine lv_aload_n hx hb dX6_advance_109 rfl (lv_at hl 0 rfl) ?_
          refine lv_iconst (v := 0) hx hb dX6_advance_110 (by decide) ?_
          refine put_f (D := D) (ci := 6) (v := .int 0) (ty := .int) (C := RX6) (T := TX6) (N := 12) hx hb hw inAX6 tyX6 tyX6_ok nmX6 hown hK hP hD hS 0 rfl rfl 2 (by decide) (hw _ q_92) (fun _ h9 => h9) rfl (by decide +kernel) rfl rfl dX6_advance_111 (fun H locs F97 eF97 hP hD hS => ?_)
          have hP : va_P D vwCl [(h0, .inr (6, vL 12 F97)), (h_bytes, .inl (cB, 940, .inl f_bytes)), (h_wordNames, .inl (cJ, 23, .inr (.inl f_wordNames)))] H := hP
          have hD : va_D A [(h0, .inr (6, vL 12 F97)), (h_bytes, .inl (cB, 940, .inl f_bytes)), (h_wordNames, .inl (cJ, 23, .inr (.inl f_wordNames)))] := hD
          refine lv_goto (tgt := 189) hx hb dX6_advance_114 (by decide) ?_
          exact ret_v hx hb hr hlocks hS hP hD dX6_advance_189 (Nat.le_of_ble_eq_true rfl) (Nat.le_of_ble_eq_true rfl) ⟨F97, 0, u2, x_value, x_name, u2, (SAME.up eF97 (SAME.up eF7 (SAME.tr SAME.rf i4 (by decide)) (by decide)) (by decide)), (get_eq eF97), (get_ne eF97 (by decide) (get_eq eF7)), (ir_wk k57 (by decide) (by decide)), (get_ne eF97 (by decide) (get_ne eF7 (by decide) (SAME.at i4 (by decide) e_value))), (get_ne eF97 (by decide) (get_ne eF7 (by decide) (SAME.at i4 (by decide) e_name))), (get_ne eF97 (by decide) n55), (ir_wk k57 (by decide) (by decide)), rfl⟩
      · have dc56 : x_mostBytes.toInt ≤ u2.toInt := nlt_i (a := u2.toInt) (b := x_mostBytes.toInt) rfl rfl c56
        refine lv_aload_n hx hb dX6_advance_82 rfl (lv_at hl 0 rfl) ?_
        refine lv_aload_n hx hb dX6_advance_83 rfl (lv_at hl 0 rfl) ?_
        refine get_f (D := D) (ci := 6) (v := .int x_mostBytes) (C := RX6) (T := TX6) (N := 12) hx hb hw inAX6 hown hK hP 0 rfl rfl 11 (by decide) (hw _ q_111) (fun _ h9 => h9) n11 dX6_advance_84 ?_
        refine put_f (D := D) (ci := 6) (v := .int x_mostBytes) (ty := .int) (C := RX6) (T := TX6) (N := 12) hx hb hw inAX6 tyX6 tyX6_ok nmX6 hown hK hP hD hS 0 rfl rfl 3 (by decide) (hw _ q_96) (fun _ h9 => h9) rfl (by decide +kernel) rfl rfl dX6_advance_87 (fun H locs F98 eF98 hP hD hS => ?_)
        have hP : va_P D vwCl [(h0, .inr (6, vL 12 F98)), (h_bytes, .inl (cB, 940, .inl f_bytes)), (h_wordNames, .inl (cJ, 23, .inr (.inl f_wordNames)))] H := hP
        have hD : va_D A [(h0, .inr (6, vL 12 F98)), (h_bytes, .inl (cB, 940, .inl f_bytes)), (h_wordNames, .inl (cJ, 23, .inr (.inl f_wordNames)))] := hD
        refine lv_aload_n hx hb dX6_advance_90 rfl (lv_at hl 0 rfl) ?_
        refine lv_iconst (v := 1) hx hb dX6_advance_91 (by decide) ?_
        refine put_f (D := D) (ci := 6) (v := .int 1) (ty := .int) (C := RX6) (T := TX6) (N := 12) hx hb hw inAX6 tyX6 tyX6_ok nmX6 hown hK hP hD hS 0 rfl rfl 2 (by decide) (hw _ q_92) (fun _ h9 => h9) rfl (by decide +kernel) rfl rfl dX6_advance_92 (fun H locs F99 eF99 hP hD hS => ?_)
        have hP : va_P D vwCl [(h0, .inr (6, vL 12 F99)), (h_bytes, .inl (cB, 940, .inl f_bytes)), (h_wordNames, .inl (cJ, 23, .inr (.inl f_wordNames)))] H := hP
        have hD : va_D A [(h0, .inr (6, vL 12 F99)), (h_bytes, .inl (cB, 940, .inl f_bytes)), (h_wordNames, .inl (cJ, 23, .inr (.inl f_wordNames)))] := hD
        refine lv_goto (tgt := 189) hx hb dX6_advance_95 (by decide) ?_
        exact ret_v hx hb hr hlocks hS hP hD dX6_advance_189 (Nat.le_of_ble_eq_true rfl) (Nat.le_of_ble_eq_true rfl) ⟨F99, 1, x_mostBytes, x_value, x_name, u2, (SAME.up eF99 (SAME.up eF98 (SAME.up eF7 (SAME.tr SAME.rf i4 (by decide)) (by decide)) (by decide)) (by decide)), (get_eq eF99), (get_ne eF99 (by decide) (get_eq eF98)), (ir_wk k54 (by decide) (by decide)), (get_ne eF99 (by decide) (get_ne eF98 (by decide) (get_ne eF7 (by decide) (SAME.at i4 (by decide) e_value)))), (get_ne eF99 (by decide) (get_ne eF98 (by decide) (get_ne eF7 (by decide) (SAME.at i4 (by decide) e_name)))), (get_ne eF99 (by decide) (get_ne eF98 (by decide) n55)), i6, rfl⟩
  refine mloop (α := (Nat → Value) × (Int32)) (nL := 1) (D := D) (A := A) (H0 := s.heap) (fun a => (x_length.toInt - a.2.toInt).toNat) (fun a => SAME [10] Fh a.1 ∧ a.1 10 = .int a.2 ∧ IR 0 940 a.2) (fun a => [(h0, .inr (6, vL 12 a.1)), (h_bytes, .inl (cB, 940, .inl f_bytes)), (h_wordNames, .inl (cJ, 23, .inr (.inl f_wordNames)))]) (fun a => [(0, .ref h0)]) (fun H locs ls => W p l e ({ frames := 1, cells := 0, slots := 0, locals := 23 } : Room) s m [.ref h0].toArray below meth c H locs 0 0 (MQ below (va_Qv (fun (u : va_W) => ∃ (Gh : Nat → Value) (y_kind : Int32) (y_place : Int32) (y_value : Int32) (y_name : Int64) (y_at : Int32), SAME [2, 3, 4, 5, 10] Fh Gh ∧ Gh 2 = .int y_kind ∧ Gh 3 = .int y_place ∧ IR (-2147483648) 940 y_place ∧ Gh 4 = .int y_value ∧ Gh 5 = .long y_name ∧ Gh 10 = .int y_at ∧ IR 0 940 y_at ∧ u = [(h0, .inr (6, vL 12 Gh)), (h_bytes, .inl (cB, 940, .inl f_bytes)), (h_wordNames, .inl (cJ, 23, .inr (.inl f_wordNames)))]) (PO D A) A) [.ref h0].toArray s 0 0 A) (F0 m 0 ls [])) ?_ (Fh, x_at) ⟨SAME.rf, e_at, i_x_at⟩ _ _ _ hP hD hS hl
  rintro ⟨G1, u2⟩ ⟨i100, i101, i102⟩ ih H locs ls hP hD hS hl
  have i102 : 0 ≤ u2.toInt ∧ u2.toInt ≤ 940 := i102
  have hP : va_P D vwCl [(h0, .inr (6, vL 12 G1)), (h_bytes, .inl (cB, 940, .inl f_bytes)), (h_wordNames, .inl (cJ, 23, .inr (.inl f_wordNames)))] H := hP
  have hD : va_D A [(h0, .inr (6, vL 12 G1)), (h_bytes, .inl (cB, 940, .inl f_bytes)), (h_wordNames, .inl (cJ, 23, .inr (.inl f_wordNames)))] := hD
  have hl : lv_has ls 1 [(0, .ref h0)] := hl
  refine lv_aload_n hx hb dX6_advance_0 rfl (lv_at hl 0 rfl) ?_
  refine get_f (D := D) (ci := 6) (v := .int u2) (C := RX6) (T := TX6) (N := 12) hx hb hw inAX6 hown hK hP 0 rfl rfl 10 (by decide) (hw _ q_110) (fun _ h9 => h9) i101 dX6_advance_1 ?_
  refine lv_aload_n hx hb dX6_advance_4 rfl (lv_at hl 0 rfl) ?_
  have n103 : G1 1 = .int x_length := (SAME.at i100 (by decide) e_length)
  refine get_f (D := D) (ci := 6) (v := .int x_length) (C := RX6) (T := TX6) (N := 12) hx hb hw inAX6 hown hK hP 0 rfl rfl 1 (by decide) (hw _ q_90) (fun _ h9 => h9) n103 dX6_advance_5 ?_
  refine lv_icmp_ge (tgt := 52) hx hb dX6_advance_8 (by decide) (fun c104 => ?_) (fun c104 => ?_)
  · have dc104 : x_length.toInt ≤ u2.toInt := le_i (a := x_length.toInt) (b := u2.toInt) rfl rfl c104
    exact cut3 G1 u2 (SAME.tr SAME.rf i100 (by decide)) i101 i102 _ _ _ hP hD hS (lv_sub hl [0] rfl)
  · have dc104 : u2.toInt < x_length.toInt := nle_i (a := x_length.toInt) (b := u2.toInt) rfl rfl c104
    have k105 : 0 ≤ u2.toInt ∧ u2.toInt ≤ 939 := ⟨i102.1, up_lt dc104 i_x_length.2 (by decide)⟩
    have k106 : 1 ≤ x_length.toInt ∧ x_length.toInt ≤ 940 := ⟨lo_lt dc104 i102.1 (by decide), i_x_length.2⟩
    refine lv_aload_n hx hb dX6_advance_11 rfl (lv_at hl 0 rfl) ?_
    have n107 : G1 0 = .ref h_bytes := (SAME.at i100 (by decide) e_bytes)
    refine get_f (D := D) (ci := 6) (v := .ref h_bytes) (C := RX6) (T := TX6) (N := 12) hx hb hw inAX6 hown hK hP 0 rfl rfl 0 (by decide) (hw _ q_89) (fun _ h9 => h9) n107 dX6_advance_12 ?_
    refine lv_aload_n hx hb dX6_advance_15 rfl (lv_at hl 0 rfl) ?_
    refine get_f (D := D) (ci := 6) (v := .int u2) (C := RX6) (T := TX6) (N := 12) hx hb hw inAX6 hown hK hP 0 rfl rfl 10 (by decide) (hw _ q_110) (fun _ h9 => h9) i101 dX6_advance_16 ?_
    refine va_bald hx hb hK hP 1 2 rfl rfl (ix_k k105 (by decide) (by decide)) dX6_advance_19 ?_
    refine lv_topi (fun v108 ev108 => ?_)
    refine lv_bipush (v := 32) hx hb dX6_advance_20 (by decide) ?_
    refine lv_icmp_eq (tgt := 39) hx hb dX6_advance_22 (by decide) (fun c109 => ?_) (fun c109 => ?_)
    · have dc109 : v108.toInt = 32 := eq_i (a := v108.toInt) (b := 32) rfl rfl c109
      have k110 : 32 ≤ v108.toInt ∧ v108.toInt ≤ 32 := ⟨Int.le_trans (Int.le_refl _) (Int.le_of_eq dc109.symm), Int.le_trans (Int.le_of_eq dc109) (Int.le_refl _)⟩
      refine lv_aload_n hx hb dX6_advance_39 rfl (lv_at hl 0 rfl) ?_
      refine lv_dup hx hb dX6_advance_40 rfl ?_
      refine get_f (D := D) (ci := 6) (v := .int u2) (C := RX6) (T := TX6) (N := 12) hx hb hw inAX6 hown hK hP 0 rfl rfl 10 (by decide) (hw _ q_110) (fun _ h9 => h9) i101 dX6_advance_41 ?_
      refine lv_iconst (v := 1) hx hb dX6_advance_44 (by decide) ?_
      refine lv_iadd hx hb dX6_advance_45 ?_
      refine lv_topi (fun v111 ev111 => ?_)
      have bv111 : v111.toInt = u2.toInt + 1 := by rw [ev111]; exact add_k rfl rfl k105 ⟨Int.le_refl _, Int.le_refl _⟩ (by decide)
      have k112 : 1 ≤ v111.toInt ∧ v111.toInt ≤ 940 := add_r bv111 k105 ⟨Int.le_refl _, Int.le_refl _⟩ (by decide)
      refine put_f (D := D) (ci := 6) (v := .int v111) (ty := .int) (C := RX6) (T := TX6) (N := 12) hx hb hw inAX6 tyX6 tyX6_ok nmX6 hown hK hP hD hS 0 rfl rfl 10 (by decide) (hw _ q_110) (fun _ h9 => h9) rfl (by decide +kernel) rfl rfl dX6_advance_46 (fun H locs F113 eF113 hP hD hS => ?_)
      have hP : va_P D vwCl [(h0, .inr (6, vL 12 F113)), (h_bytes, .inl (cB, 940, .inl f_bytes)), (h_wordNames, .inl (cJ, 23, .inr (.inl f_wordNames)))] H := hP
      have hD : va_D A [(h0, .inr (6, vL 12 F113)), (h_bytes, .inl (cB, 940, .inl f_bytes)), (h_wordNames, .inl (cJ, 23, .inr (.inl f_wordNames)))] := hD
      refine lv_goto (tgt := 0) hx hb dX6_advance_49 (by decide) ?_
      exact ih (F113, v111) ⟨(SAME.up eF113 (SAME.tr SAME.rf i100 (by decide)) (by decide)), (get_eq eF113), (ir_wk k112 (by decide) (by decide))⟩ (by show (x_length.toInt - v111.toInt).toNat < (x_length.toInt - u2.toInt).toNat; omega) _ _ _ hP hD hS (lv_sub hl [0] rfl)
    · have dc109 : v108.toInt ≠ 32 := ne_i (a := v108.toInt) (b := 32) rfl rfl c109
      refine lv_aload_n hx hb dX6_advance_25 rfl (lv_at hl 0 rfl) ?_
      refine get_f (D := D) (ci := 6) (v := .ref h_bytes) (C := RX6) (T := TX6) (N := 12) hx hb hw inAX6 hown hK hP 0 rfl rfl 0 (by decide) (hw _ q_89) (fun _ h9 => h9) n107 dX6_advance_26 ?_
      refine lv_aload_n hx hb dX6_advance_29 rfl (lv_at hl 0 rfl) ?_
      refine get_f (D := D) (ci := 6) (v := .int u2) (C := RX6) (T := TX6) (N := 12) hx hb hw inAX6 hown hK hP 0 rfl rfl 10 (by decide) (hw _ q_110) (fun _ h9 => h9) i101 dX6_advance_30 ?_
      refine va_bald hx hb hK hP 1 2 rfl rfl (ix_k k105 (by decide) (by decide)) dX6_advance_33 ?_
      refine lv_ci (y := v108) ev108.symm ?_
      refine lv_bipush (v := 10) hx hb dX6_advance_34 (by decide) ?_
      refine lv_icmp_ne (tgt := 52) hx hb dX6_advance_36 (by decide) (fun c114 => ?_) (fun c114 => ?_)
      · have dc114 : v108.toInt ≠ 10 := ne_i (a := v108.toInt) (b := 10) rfl rfl c114
        exact cut3 G1 u2 (SAME.tr SAME.rf i100 (by decide)) i101 (ir_wk k105 (by decide) (by decide)) _ _ _ hP hD hS (lv_sub hl [0] rfl)
      · have dc114 : v108.toInt = 10 := eq_i (a := v108.toInt) (b := 10) rfl rfl c114
        have k115 : 10 ≤ v108.toInt ∧ v108.toInt ≤ 10 := ⟨Int.le_trans (Int.le_refl _) (Int.le_of_eq dc114.symm), Int.le_trans (Int.le_of_eq dc114) (Int.le_refl _)⟩
        refine lv_aload_n hx hb dX6_advance_39 rfl (lv_at hl 0 rfl) ?_
        refine lv_dup hx hb dX6_advance_40 rfl ?_
        refine get_f (D := D) (ci := 6) (v := .int u2) (C := RX6) (T := TX6) (N := 12) hx hb hw inAX6 hown hK hP 0 rfl rfl 10 (by decide) (hw _ q_110) (fun _ h9 => h9) i101 dX6_advance_41 ?_
        refine lv_iconst (v := 1) hx hb dX6_advance_44 (by decide) ?_
        refine lv_iadd hx hb dX6_advance_45 ?_
        refine lv_topi (fun v116 ev116 => ?_)
        have bv116 : v116.toInt = u2.toInt + 1 := by rw [ev116]; exact add_k rfl rfl k105 ⟨Int.le_refl _, Int.le_refl _⟩ (by decide)
        have k117 : 1 ≤ v116.toInt ∧ v116.toInt ≤ 940 := add_r bv116 k105 ⟨Int.le_refl _, Int.le_refl _⟩ (by decide)
        refine put_f (D := D) (ci := 6) (v := .int v116) (ty := .int) (C := RX6) (T := TX6) (N := 12) hx hb hw inAX6 tyX6 tyX6_ok nmX6 hown hK hP hD hS 0 rfl rfl 10 (by decide) (hw _ q_110) (fun _ h9 => h9) rfl (by decide +kernel) rfl rfl dX6_advance_46 (fun H locs F118 eF118 hP hD hS => ?_)
        have hP : va_P D vwCl [(h0, .inr (6, vL 12 F118)), (h_bytes, .inl (cB, 940, .inl f_bytes)), (h_wordNames, .inl (cJ, 23, .inr (.inl f_wordNames)))] H := hP
        have hD : va_D A [(h0, .inr (6, vL 12 F118)), (h_bytes, .inl (cB, 940, .inl f_bytes)), (h_wordNames, .inl (cJ, 23, .inr (.inl f_wordNames)))] := hD
        refine lv_goto (tgt := 0) hx hb dX6_advance_49 (by decide) ?_
        exact ih (F118, v116) ⟨(SAME.up eF118 (SAME.tr SAME.rf i100 (by decide)) (by decide)), (get_eq eF118), (ir_wk k117 (by decide) (by decide))⟩ (by show (x_length.toInt - v116.toInt).toNat < (x_length.toInt - u2.toInt).toNat; omega) _ _ _ hP hD hS (lv_sub hl [0] rfl)
set_option maxHeartbeats 4000000 in
set_option maxRecDepth 100000 in
theorem m_X6_isNumberWithin (l : Launch) (D : va_G) (cI cJ cB cP cM cZ : ClassId) (h0 : Nat) (Fh : Nat → Value) (x_kind : Int32) (x_place : Int32) (x_value : Int32) (p0 : Int32) (p1 : Int32) (sz : Nat) (e_kind : Fh 2 = .int x_kind) (e_place : Fh 3 = .int x_place) (e_value : Fh 4 = .int x_value) : CI l yX6_isNumberWithin cX6_isNumberWithin 3 (some .boolean) { frames := 1, cells := 0, slots := 0, locals := 21 } (GG D cI cJ cB cP cM cZ) D [(h0, .inr (6, vL 12 Fh))] sz [.ref h0, .int p0, .int p1] (fun (r : Int32) (u : va_W) => (∃ (Gh : Nat → Value) (y_faultKind : Int32), SAME [7, 8] Fh Gh ∧ Gh 7 = .int y_faultKind ∧ IR 1 2 y_faultKind ∧ Gh 8 = .int x_place ∧ r = 0 ∧ u = [(h0, .inr (6, vL 12 Gh))]) ∨ (x_kind.toInt = 3 ∧ p0.toInt ≤ x_value.toInt ∧ x_value.toInt ≤ p1.toInt ∧ r = 1 ∧ u = [(h0, .inr (6, vL 12 Fh))])) := by
  refine CI_mk (by decide) (Nat.le_of_ble_eq_true rfl) ?_
  intro p e s m below meth c A ls E hAe hG hsz hP hD hA hS hl
  obtain ⟨hx, hb, hr, hw, hown, hlocks, hml, hnm⟩ := E
  have hK := hG.1
  have hl : lv_has ls 3 [(0, .ref h0), (1, .int p0), (2, .int p1)] := hl
  refine lv_aload_n hx hb dX6_isNumberWithin_0 rfl (lv_at hl 0 rfl) ?_
  refine get_f (D := D) (ci := 6) (v := .int x_kind) (C := RX6) (T := TX6) (N := 12) hx hb hw inAX6 hown hK hP 0 rfl rfl 2 (by decide) (hw _ q_92) (fun _ h9 => h9) e_kind dX6_isNumberWithin_1 ?_
  refine lv_iconst (v := 3) hx hb dX6_isNumberWithin_4 (by decide) ?_
  refine lv_icmp_eq (tgt := 14) hx hb dX6_isNumberWithin_5 (by decide) (fun c1 => ?_) (fun c1 => ?_)
  · have dc1 : x_kind.toInt = 3 := eq_i (a := x_kind.toInt) (b := 3) rfl rfl c1
    have k2 : 3 ≤ x_kind.toInt ∧ x_kind.toInt ≤ 3 := ⟨Int.le_trans (Int.le_refl _) (Int.le_of_eq dc1.symm), Int.le_trans (Int.le_of_eq dc1) (Int.le_refl _)⟩
    refine lv_aload_n hx hb dX6_isNumberWithin_14 rfl (lv_at hl 0 rfl) ?_
    refine get_f (D := D) (ci := 6) (v := .int x_value) (C := RX6) (T := TX6) (N := 12) hx hb hw inAX6 hown hK hP 0 rfl rfl 4 (by decide) (hw _ q_97) (fun _ h9 => h9) e_value dX6_isNumberWithin_15 ?_
    refine lv_iload_n hx hb dX6_isNumberWithin_18 rfl (lv_at hl 1 rfl) ?_
    refine lv_icmp_lt (tgt := 30) hx hb dX6_isNumberWithin_19 (by decide) (fun c3 => ?_) (fun c3 => ?_)
    · have dc3 : x_value.toInt < p0.toInt := lt_i (a := x_value.toInt) (b := p0.toInt) rfl rfl c3
      have k4 : (-2147483648) ≤ x_value.toInt ∧ x_value.toInt ≤ 2147483646 := ⟨(ir_any _).1, up_lt dc3 (ir_any _).2 (by decide)⟩
      have k5 : (-2147483647) ≤ p0.toInt ∧ p0.toInt ≤ 2147483647 := ⟨lo_lt dc3 (ir_any _).1 (by decide), (ir_any _).2⟩
      refine lv_aload_n hx hb dX6_isNumberWithin_30 rfl (lv_at hl 0 rfl) ?_
      refine lv_iconst (v := 2) hx hb dX6_isNumberWithin_31 (by decide) ?_
      refine call_Vi (wr := []) (As := [.int 2]) (rest := []) hx hb hml hown hw (m_X6_fail l D cI cJ cB cP cM cZ h0 Fh x_place 2 _ e_place) wV_X6_80_X6_fail dX6_isNumberWithin_32 hK hP hD hS hA [0] [] rfl rfl (by decide) (by decide) (by decide) 0 6 rfl rfl GG.fb hG.at hl.1 rfl (Nat.le_of_ble_eq_true rfl) ⟨(Nat.le_of_ble_eq_true rfl), (Nat.le_of_ble_eq_true rfl)⟩ ⟨(Nat.le_of_ble_eq_true rfl), (Nat.le_of_ble_eq_true rfl)⟩ (fun r6 u H locs hp hP hD hS => ?_)
      obtain ⟨F7, t8, t9, t10, rfl, rfl⟩ := hp
      have hP : va_P D vwCl [(h0, .inr (6, vL 12 F7))] H := hP
      have hD : va_D A [(h0, .inr (6, vL 12 F7))] := hD
      refine W.widen (k := 0) (n := 0) (Nat.le_of_ble_eq_true rfl) (Nat.le_of_ble_eq_true rfl) ?_
      refine lv_if_eq (tgt := 42) hx hb dX6_isNumberWithin_35 (by decide) (fun _ => ?_) (fun g => absurd (by decide) g)
      refine lv_iconst (v := 0) hx hb dX6_isNumberWithin_42 (by decide) ?_
      exact ret_i (v := 0) hx hb hr hlocks hS hP hD dX6_isNumberWithin_43 rfl (Nat.le_of_ble_eq_true rfl) (Nat.le_of_ble_eq_true rfl) (Or.inl ⟨F7, 2, (SAME.tr SAME.rf t8 (by decide)), t9, ⟨by decide, by decide⟩, t10, rfl, rfl⟩)
    · have dc3 : p0.toInt ≤ x_value.toInt := nlt_i (a := x_value.toInt) (b := p0.toInt) rfl rfl c3
      refine lv_aload_n hx hb dX6_isNumberWithin_22 rfl (lv_at hl 0 rfl) ?_
      refine get_f (D := D) (ci := 6) (v := .int x_value) (C := RX6) (T := TX6) (N := 12) hx hb hw inAX6 hown hK hP 0 rfl rfl 4 (by decide) (hw _ q_97) (fun _ h9 => h9) e_value dX6_isNumberWithin_23 ?_
      refine lv_iload_n hx hb dX6_isNumberWithin_26 rfl (lv_at hl 2 rfl) ?_
      refine lv_icmp_le (tgt := 38) hx hb dX6_isNumberWithin_27 (by decide) (fun c11 => ?_) (fun c11 => ?_)
      · have dc11 : x_value.toInt ≤ p1.toInt := le_i (a := x_value.toInt) (b := p1.toInt) rfl rfl c11
        refine lv_iconst (v := 1) hx hb dX6_isNumberWithin_38 (by decide) ?_
        refine lv_goto (tgt := 43) hx hb dX6_isNumberWithin_39 (by decide) ?_
        exact ret_i (v := 1) hx hb hr hlocks hS hP hD dX6_isNumberWithin_43 rfl (Nat.le_of_ble_eq_true rfl) (Nat.le_of_ble_eq_true rfl) (Or.inr ⟨dc1, dc3, dc11, rfl, rfl⟩)
      · have dc11 : p1.toInt < x_value.toInt := nle_i (a := x_value.toInt) (b := p1.toInt) rfl rfl c11
        have k12 : (-2147483648) ≤ p1.toInt ∧ p1.toInt ≤ 2147483646 := ⟨(ir_any _).1, up_lt dc11 (ir_any _).2 (by decide)⟩
        have k13 : (-2147483647) ≤ x_value.toInt ∧ x_value.toInt ≤ 2147483647 := ⟨lo_lt dc11 (ir_any _).1 (by decide), (ir_any _).2⟩
        refine lv_aload_n hx hb dX6_isNumberWithin_30 rfl (lv_at hl 0 rfl) ?_
        refine lv_iconst (v := 2) hx hb dX6_isNumberWithin_31 (by decide) ?_
        refine call_Vi (wr := []) (As := [.int 2]) (rest := []) hx hb hml hown hw (m_X6_fail l D cI cJ cB cP cM cZ h0 Fh x_place 2 _ e_place) wV_X6_80_X6_fail dX6_isNumberWithin_32 hK hP hD hS hA [0] [] rfl rfl (by decide) (by decide) (by decide) 0 6 rfl rfl GG.fb hG.at hl.1 rfl (Nat.le_of_ble_eq_true rfl) ⟨(Nat.le_of_ble_eq_true rfl), (Nat.le_of_ble_eq_true rfl)⟩ ⟨(Nat.le_of_ble_eq_true rfl), (Nat.le_of_ble_eq_true rfl)⟩ (fun r14 u H locs hp hP hD hS => ?_)
        obtain ⟨F15, t16, t17, t18, rfl, rfl⟩ := hp
        have hP : va_P D vwCl [(h0, .inr (6, vL 12 F15))] H := hP
        have hD : va_D A [(h0, .inr (6, vL 12 F15))] := hD
        refine W.widen (k := 0) (n := 0) (Nat.le_of_ble_eq_true rfl) (Nat.le_of_ble_eq_true rfl) ?_
        refine lv_if_eq (tgt := 42) hx hb dX6_isNumberWithin_35 (by decide) (fun _ => ?_) (fun g => absurd (by decide) g)
        refine lv_iconst (v := 0) hx hb dX6_isNumberWithin_42 (by decide) ?_
        exact ret_i (v := 0) hx hb hr hlocks hS hP hD dX6_isNumberWithin_43 rfl (Nat.le_of_ble_eq_true rfl) (Nat.le_of_ble_eq_true rfl) (Or.inl ⟨F15, 2, (SAME.tr SAME.rf t16 (by decide)), t17, ⟨by decide, by decide⟩, t18, rfl, rfl⟩)
  · have dc1 : x_kind.toInt ≠ 3 := ne_i (a := x_kind.toInt) (b := 3) rfl rfl c1
    refine lv_aload_n hx hb dX6_isNumberWithin_8 rfl (lv_at hl 0 rfl) ?_
    refine lv_iconst (v := 1) hx hb dX6_isNumberWithin_9 (by decide) ?_
    refine call_Vi (wr := []) (As := [.int 1]) (rest := []) hx hb hml hown hw (m_X6_fail l D cI cJ cB cP cM cZ h0 Fh x_place 1 _ e_place) wV_X6_80_X6_fail dX6_isNumberWithin_10 hK hP hD hS hA [0] [] rfl rfl (by decide) (by decide) (by decide) 0 6 rfl rfl GG.fb hG.at hl.1 rfl (Nat.le_of_ble_eq_true rfl) ⟨(Nat.le_of_ble_eq_true rfl), (Nat.le_of_ble_eq_true rfl)⟩ ⟨(Nat.le_of_ble_eq_true rfl), (Nat.le_of_ble_eq_true rfl)⟩ (fun r19 u H locs hp hP hD hS => ?_)
    obtain ⟨F20, t21, t22, t23, rfl, rfl⟩ := hp
    have hP : va_P D vwCl [(h0, .inr (6, vL 12 F20))] H := hP
    have hD : va_D A [(h0, .inr (6, vL 12 F20))] := hD
    refine W.widen (k := 0) (n := 0) (Nat.le_of_ble_eq_true rfl) (Nat.le_of_ble_eq_true rfl) ?_
    exact ret_i (v := 0) hx hb hr hlocks hS hP hD dX6_isNumberWithin_13 rfl (Nat.le_of_ble_eq_true rfl) (Nat.le_of_ble_eq_true rfl) (Or.inl ⟨F20, 1, (SAME.tr SAME.rf t21 (by decide)), t22, ⟨by decide, by decide⟩, t23, rfl, rfl⟩)
set_option maxHeartbeats 4000000 in
set_option maxRecDepth 100000 in
theorem m_X6_takeInto_5 (l : Launch) (D : va_G) (cI cJ cB cP cM cZ : ClassId) (h0 : Nat) (h_bytes : Nat) (h_wordNames : Nat) (p0 : Nat) (Fh : Nat → Value) (x_length : Int32) (x_kind : Int32) (x_place : Int32) (x_value : Int32) (x_name : Int64) (x_faultKind : Int32) (x_faultPlace : Int32) (x_at : Int32) (x_mostBytes : Int32) (f_bytes : Nat → Int32) (f_wordNames : Nat → Int64) (f_p0 : Nat → Int32) (p1 : Int32) (p2 : Int32) (p3 : Int32) (sz : Nat) (e_bytes : Fh 0 = .ref h_bytes) (e_length : Fh 1 = .int x_length) (i_x_length : IR 0 940 x_length) (e_kind : Fh 2 = .int x_kind) (e_place : Fh 3 = .int x_place) (e_value : Fh 4 = .int x_value) (e_name : Fh 5 = .long x_name) (e_faultKind : Fh 7 = .int x_faultKind) (e_faultPlace : Fh 8 = .int x_faultPlace) (e_wordNames : Fh 9 = .ref h_wordNames) (e_at : Fh 10 = .int x_at) (i_x_at : IR 0 940 x_at) (e_mostBytes : Fh 11 = .int x_mostBytes) : CI l yX6_takeInto cX6_takeInto 5 (some .boolean) { frames := 2, cells := 0, slots := 0, locals := 43 } (GG D cI cJ cB cP cM cZ) D [(h0, .inr (6, vL 12 Fh)), (h_bytes, .inl (cB, 940, .inl f_bytes)), (h_wordNames, .inl (cJ, 23, .inr (.inl f_wordNames))), (p0, .inl (cI, 5, .inl f_p0))] sz [.ref h0, .ref p0, .int p1, .int p2, .int p3] (fun (r : Int32) (u : va_W) => ∃ (Gh : Nat → Value) (y_kind : Int32) (y_place : Int32) (y_value : Int32) (y_name : Int64) (y_faultKind : Int32) (y_faultPlace : Int32) (y_at : Int32) (g_p0 : Nat → Int32), SAME [2, 3, 4, 5, 7, 8, 10] Fh Gh ∧ Gh 2 = .int y_kind ∧ Gh 3 = .int y_place ∧ Gh 4 = .int y_value ∧ Gh 5 = .long y_name ∧ Gh 7 = .int y_faultKind ∧ Gh 8 = .int y_faultPlace ∧ Gh 10 = .int y_at ∧ IR 0 940 y_at ∧ IR 0 1 r ∧ u = [(h0, .inr (6, vL 12 Gh)), (h_bytes, .inl (cB, 940, .inl f_bytes)), (h_wordNames, .inl (cJ, 23, .inr (.inl f_wordNames))), (p0, .inl (cI, 5, .inl g_p0))]) := by
  refine CI_mk (by decide) (Nat.le_of_ble_eq_true rfl) ?_
  intro p e s m below meth c A ls E hAe hG hsz hP hD hA hS hl
  obtain ⟨hx, hb, hr, hw, hown, hlocks, hml, hnm⟩ := E
  have hK := hG.1
  have i_x_length : 0 ≤ x_length.toInt ∧ x_length.toInt ≤ 940 := i_x_length
  have i_x_at : 0 ≤ x_at.toInt ∧ x_at.toInt ≤ 940 := i_x_at
  have hl : lv_has ls 5 [(0, .ref h0), (1, .ref p0), (2, .int p1), (3, .int p2), (4, .int p3)] := hl
  refine lv_iload_n hx hb dX6_takeInto_0 rfl (lv_at hl 2 rfl) ?_
  refine lv_if_lt (tgt := 10) hx hb dX6_takeInto_1 (by decide) (fun c1 => ?_) (fun c1 => ?_)
  · have dc1 : p1.toInt < 0 := lt_i (a := p1.toInt) (b := 0) rfl rfl c1
    have k2 : (-2147483648) ≤ p1.toInt ∧ p1.toInt ≤ (-1) := ⟨(ir_any _).1, up_lt dc1 (Int.le_refl _) (by decide)⟩
    refine lv_aload_n hx hb dX6_takeInto_10 rfl (lv_at hl 0 rfl) ?_
    refine lv_iconst (v := 4) hx hb dX6_takeInto_11 (by decide) ?_
    refine call_Vi (wr := [(h_bytes, .inl (cB, 940, .inl f_bytes)), (h_wordNames, .inl (cJ, 23, .inr (.inl f_wordNames))), (p0, .inl (cI, 5, .inl f_p0))]) (As := [.int 4]) (rest := []) hx hb hml hown hw (m_X6_fail l D cI cJ cB cP cM cZ h0 Fh x_place 4 _ e_place) wV_X6_80_X6_fail dX6_takeInto_12 hK hP hD hS hA [0] [1, 2, 3] rfl rfl (by decide) (by decide) (by decide) 0 6 rfl rfl GG.fb hG.at hl.1 rfl (Nat.le_of_ble_eq_true rfl) ⟨(Nat.le_of_ble_eq_true rfl), (Nat.le_of_ble_eq_true rfl)⟩ ⟨(Nat.le_of_ble_eq_true rfl), (Nat.le_of_ble_eq_true rfl)⟩ (fun r3 u H locs hp hP hD hS => ?_)
    obtain ⟨F4, t5, t6, t7, rfl, rfl⟩ := hp
    have hP : va_P D vwCl [(h_bytes, .inl (cB, 940, .inl f_bytes)), (h_wordNames, .inl (cJ, 23, .inr (.inl f_wordNames))), (p0, .inl (cI, 5, .inl f_p0)), (h0, .inr (6, vL 12 F4))] H := hP
    have hD : va_D A [(h_bytes, .inl (cB, 940, .inl f_bytes)), (h_wordNames, .inl (cJ, 23, .inr (.inl f_wordNames))), (p0, .inl (cI, 5, .inl f_p0)), (h0, .inr (6, vL 12 F4))] := hD
    refine W.widen (k := 0) (n := 0) (Nat.le_of_ble_eq_true rfl) (Nat.le_of_ble_eq_true rfl) ?_
    exact ret_i (v := 0) hx hb hr hlocks hS (hP.sub (ws' := [(h0, .inr (6, vL 12 F4)), (h_bytes, .inl (cB, 940, .inl f_bytes)), (h_wordNames, .inl (cJ, 23, .inr (.inl f_wordNames))), (p0, .inl (cI, 5, .inl f_p0))]) [3, 0, 1, 2] rfl) (hD.sub (ws' := [(h0, .inr (6, vL 12 F4)), (h_bytes, .inl (cB, 940, .inl f_bytes)), (h_wordNames, .inl (cJ, 23, .inr (.inl f_wordNames))), (p0, .inl (cI, 5, .inl f_p0))]) [3, 0, 1, 2] (by decide) rfl) dX6_takeInto_15 rfl (Nat.le_of_ble_eq_true rfl) (Nat.le_of_ble_eq_true rfl) ⟨F4, x_kind, x_place, x_value, x_name, 4, x_place, x_at, f_p0, (SAME.tr SAME.rf t5 (by decide)), (SAME.at t5 (by decide) e_kind), (SAME.at t5 (by decide) e_place), (SAME.at t5 (by decide) e_value), (SAME.at t5 (by decide) e_name), t6, t7, (SAME.at t5 (by decide) e_at), i_x_at, ⟨by decide, by decide⟩, rfl⟩
  · have dc1 : 0 ≤ p1.toInt := nlt_i (a := p1.toInt) (b := 0) rfl rfl c1
    have k8 : 0 ≤ p1.toInt ∧ p1.toInt ≤ 2147483647 := ⟨Int.le_trans (Int.le_refl _) dc1, (ir_any _).2⟩
    refine lv_iload_n hx hb dX6_takeInto_4 rfl (lv_at hl 2 rfl) ?_
    refine lv_aload_n hx hb dX6_takeInto_5 rfl (lv_at hl 1 rfl) ?_
    refine va_alen (v := 5) hx hb hK hP 3 0 rfl rfl rfl dX6_takeInto_6 ?_
    refine lv_icmp_lt (tgt := 16) hx hb dX6_takeInto_7 (by decide) (fun c9 => ?_) (fun c9 => ?_)
    · have dc9 : p1.toInt < 5 := lt_i (a := p1.toInt) (b := 5) rfl rfl c9
      have k10 : 0 ≤ p1.toInt ∧ p1.toInt ≤ 4 := ⟨k8.1, up_lt dc9 (Int.le_refl _) (by decide)⟩
      refine lv_aload_n hx hb dX6_takeInto_16 rfl (lv_at hl 0 rfl) ?_
      refine lv_iload_n hx hb dX6_takeInto_17 rfl (lv_at hl 3 rfl) ?_
      refine lv_iload hx hb dX6_takeInto_18 (lv_at hl 4 rfl) ?_
      refine call_Vi (wr := [(h_bytes, .inl (cB, 940, .inl f_bytes)), (h_wordNames, .inl (cJ, 23, .inr (.inl f_wordNames))), (p0, .inl (cI, 5, .inl f_p0))]) (As := [.int p2, .int p3]) (rest := []) hx hb hml hown hw (m_X6_isNumberWithin l D cI cJ cB cP cM cZ h0 Fh x_kind x_place x_value p2 p3 _ e_kind e_place e_value) wV_X6_83_X6_isNumberWithin dX6_takeInto_20 hK hP hD hS hA [0] [1, 2, 3] rfl rfl (by decide) (by decide) (by decide) 0 6 rfl rfl GG.fb hG.at hl.1 rfl (Nat.le_of_ble_eq_true rfl) ⟨(Nat.le_of_ble_eq_true rfl), (Nat.le_of_ble_eq_true rfl)⟩ ⟨(Nat.le_of_ble_eq_true rfl), (Nat.le_of_ble_eq_true rfl)⟩ (fun r11 u H locs hp hP hD hS => ?_)
      rcases hp with ⟨F12, y13, t14, t15, t16, t17, rfl, rfl⟩ | ⟨t18, t19, t20, rfl, rfl⟩
      · have hP : va_P D vwCl [(h_bytes, .inl (cB, 940, .inl f_bytes)), (h_wordNames, .inl (cJ, 23, .inr (.inl f_wordNames))), (p0, .inl (cI, 5, .inl f_p0)), (h0, .inr (6, vL 12 F12))] H := hP
        have hD : va_D A [(h_bytes, .inl (cB, 940, .inl f_bytes)), (h_wordNames, .inl (cJ, 23, .inr (.inl f_wordNames))), (p0, .inl (cI, 5, .inl f_p0)), (h0, .inr (6, vL 12 F12))] := hD
        refine W.widen (k := 0) (n := 0) (Nat.le_of_ble_eq_true rfl) (Nat.le_of_ble_eq_true rfl) ?_
        refine lv_if_ne (tgt := 28) hx hb dX6_takeInto_23 (by decide) (fun g => absurd (by decide) g) (fun _ => ?_)
        refine lv_iconst (v := 0) hx hb dX6_takeInto_26 (by decide) ?_
        exact ret_i (v := 0) hx hb hr hlocks hS (hP.sub (ws' := [(h0, .inr (6, vL 12 F12)), (h_bytes, .inl (cB, 940, .inl f_bytes)), (h_wordNames, .inl (cJ, 23, .inr (.inl f_wordNames))), (p0, .inl (cI, 5, .inl f_p0))]) [3, 0, 1, 2] rfl) (hD.sub (ws' := [(h0, .inr (6, vL 12 F12)), (h_bytes, .inl (cB, 940, .inl f_bytes)), (h_wordNames, .inl (cJ, 23, .inr (.inl f_wordNames))), (p0, .inl (cI, 5, .inl f_p0))]) [3, 0, 1, 2] (by decide) rfl) dX6_takeInto_27 rfl (Nat.le_of_ble_eq_true rfl) (Nat.le_of_ble_eq_true rfl) ⟨F12, x_kind, x_place, x_value, x_name, y13, x_place, x_at, f_p0, (SAME.tr SAME.rf t14 (by decide)), (SAME.at t14 (by decide) e_kind), (SAME.at t14 (by decide) e_place), (SAME.at t14 (by decide) e_value), (SAME.at t14 (by decide) e_name), t15, t17, (SAME.at t14 (by decide) e_at), i_x_at, ⟨by decide, by decide⟩, rfl⟩
      · have hP : va_P D vwCl [(h_bytes, .inl (cB, 940, .inl f_bytes)), (h_wordNames, .inl (cJ, 23, .inr (.inl f_wordNames))), (p0, .inl (cI, 5, .inl f_p0)), (h0, .inr (6, vL 12 Fh))] H := hP
        have hD : va_D A [(h_bytes, .inl (cB, 940, .inl f_bytes)), (h_wordNames, .inl (cJ, 23, .inr (.inl f_wordNames))), (p0, .inl (cI, 5, .inl f_p0)), (h0, .inr (6, vL 12 Fh))] := hD
        refine W.widen (k := 0) (n := 0) (Nat.le_of_ble_eq_true rfl) (Nat.le_of_ble_eq_true rfl) ?_
        have k21 : 3 ≤ x_kind.toInt ∧ x_kind.toInt ≤ 3 := ⟨Int.le_trans (Int.le_refl _) (Int.le_of_eq t18.symm), Int.le_trans (Int.le_of_eq t18) (Int.le_refl _)⟩
        refine lv_if_ne (tgt := 28) hx hb dX6_takeInto_23 (by decide) (fun _ => ?_) (fun g => absurd g (by decide))
        refine lv_aload_n hx hb dX6_takeInto_28 rfl (lv_at hl 1 rfl) ?_
        refine lv_iload_n hx hb dX6_takeInto_29 rfl (lv_at hl 2 rfl) ?_
        refine lv_aload_n hx hb dX6_takeInto_30 rfl (lv_at hl 0 rfl) ?_
        refine get_f (D := D) (ci := 6) (v := .int x_value) (C := RX6) (T := TX6) (N := 12) hx hb hw inAX6 hown hK hP 3 rfl rfl 4 (by decide) (hw _ q_97) (fun _ h9 => h9) e_value dX6_takeInto_31 ?_
        obtain ⟨g22, eg22⟩ : ∃ z : Nat → Int32, upd f_p0 p1.toNatClampNeg x_value = z := ⟨_, rfl⟩
        refine iast_g hx hb hK hP hD hS 2 0 rfl rfl (ix_k k10 (by decide) (by decide)) eg22 dX6_takeInto_34 (fun H locs hP hD hS => ?_)
        have hP : va_P D vwCl [(h_bytes, .inl (cB, 940, .inl f_bytes)), (h_wordNames, .inl (cJ, 23, .inr (.inl f_wordNames))), (p0, .inl (cI, 5, .inl g22)), (h0, .inr (6, vL 12 Fh))] H := hP
        have hD : va_D A [(h_bytes, .inl (cB, 940, .inl f_bytes)), (h_wordNames, .inl (cJ, 23, .inr (.inl f_wordNames))), (p0, .inl (cI, 5, .inl g22)), (h0, .inr (6, vL 12 Fh))] := hD
        refine lv_aload_n hx hb dX6_takeInto_35 rfl (lv_at hl 0 rfl) ?_
        refine call_Vv (wr := [(p0, .inl (cI, 5, .inl g22))]) (As := []) (rest := []) hx hb hml hown hw (m_X6_advance l D cI cJ cB cP cM cZ h0 h_bytes h_wordNames Fh x_length x_value x_name x_at x_mostBytes f_bytes f_wordNames _ e_bytes e_length i_x_length e_value e_name e_wordNames e_at i_x_at e_mostBytes) wV_X6_66_X6_advance dX6_takeInto_36 hK hP hD hS hA [3, 0, 1] [2] rfl rfl (by decide) (by decide) (by decide) 0 6 rfl rfl GG.fb hG.at hl.1 rfl (Nat.le_of_ble_eq_true rfl) ⟨(Nat.le_of_ble_eq_true rfl), (Nat.le_of_ble_eq_true rfl)⟩ ⟨(Nat.le_of_ble_eq_true rfl), (Nat.le_of_ble_eq_true rfl)⟩ (fun u H locs hp hP hD hS => ?_)
        obtain ⟨F24, y25, y26, y27, y28, y29, t30, t31, t32, t33, t34, t35, t36, t37, rfl⟩ := hp
        have hP : va_P D vwCl [(p0, .inl (cI, 5, .inl g22)), (h0, .inr (6, vL 12 F24)), (h_bytes, .inl (cB, 940, .inl f_bytes)), (h_wordNames, .inl (cJ, 23, .inr (.inl f_wordNames)))] H := hP
        have hD : va_D A [(p0, .inl (cI, 5, .inl g22)), (h0, .inr (6, vL 12 F24)), (h_bytes, .inl (cB, 940, .inl f_bytes)), (h_wordNames, .inl (cJ, 23, .inr (.inl f_wordNames)))] := hD
        refine W.widen (k := 0) (n := 0) (Nat.le_of_ble_eq_true rfl) (Nat.le_of_ble_eq_true rfl) ?_
        refine lv_iconst (v := 1) hx hb dX6_takeInto_39 (by decide) ?_
        exact ret_i (v := 1) hx hb hr hlocks hS (hP.sub (ws' := [(h0, .inr (6, vL 12 F24)), (h_bytes, .inl (cB, 940, .inl f_bytes)), (h_wordNames, .inl (cJ, 23, .inr (.inl f_wordNames))), (p0, .inl (cI, 5, .inl g22))]) [1, 2, 3, 0] rfl) (hD.sub (ws' := [(h0, .inr (6, vL 12 F24)), (h_bytes, .inl (cB, 940, .inl f_bytes)), (h_wordNames, .inl (cJ, 23, .inr (.inl f_wordNames))), (p0, .inl (cI, 5, .inl g22))]) [1, 2, 3, 0] (by decide) rfl) dX6_takeInto_40 rfl (Nat.le_of_ble_eq_true rfl) (Nat.le_of_ble_eq_true rfl) ⟨F24, y25, y26, y27, y28, x_faultKind, x_faultPlace, y29, g22, (SAME.tr SAME.rf t30 (by decide)), t31, t32, t34, t35, (SAME.at t30 (by decide) e_faultKind), (SAME.at t30 (by decide) e_faultPlace), t36, t37, ⟨by decide, by decide⟩, rfl⟩
    · have dc9 : 5 ≤ p1.toInt := nlt_i (a := p1.toInt) (b := 5) rfl rfl c9
      have k38 : 5 ≤ p1.toInt ∧ p1.toInt ≤ 2147483647 := ⟨Int.le_trans (Int.le_refl _) dc9, k8.2⟩
      refine lv_aload_n hx hb dX6_takeInto_10 rfl (lv_at hl 0 rfl) ?_
      refine lv_iconst (v := 4) hx hb dX6_takeInto_11 (by decide) ?_
      refine call_Vi (wr := [(h_bytes, .inl (cB, 940, .inl f_bytes)), (h_wordNames, .inl (cJ, 23, .inr (.inl f_wordNames))), (p0, .inl (cI, 5, .inl f_p0))]) (As := [.int 4]) (rest := []) hx hb hml hown hw (m_X6_fail l D cI cJ cB cP cM cZ h0 Fh x_place 4 _ e_place) wV_X6_80_X6_fail dX6_takeInto_12 hK hP hD hS hA [0] [1, 2, 3] rfl rfl (by decide) (by decide) (by decide) 0 6 rfl rfl GG.fb hG.at hl.1 rfl (Nat.le_of_ble_eq_true rfl) ⟨(Nat.le_of_ble_eq_true rfl), (Nat.le_of_ble_eq_true rfl)⟩ ⟨(Nat.le_of_ble_eq_true rfl), (Nat.le_of_ble_eq_true rfl)⟩ (fun r39 u H locs hp hP hD hS => ?_)
      obtain ⟨F40, t41, t42, t43, rfl, rfl⟩ := hp
      have hP : va_P D vwCl [(h_bytes, .inl (cB, 940, .inl f_bytes)), (h_wordNames, .inl (cJ, 23, .inr (.inl f_wordNames))), (p0, .inl (cI, 5, .inl f_p0)), (h0, .inr (6, vL 12 F40))] H := hP
      have hD : va_D A [(h_bytes, .inl (cB, 940, .inl f_bytes)), (h_wordNames, .inl (cJ, 23, .inr (.inl f_wordNames))), (p0, .inl (cI, 5, .inl f_p0)), (h0, .inr (6, vL 12 F40))] := hD
      refine W.widen (k := 0) (n := 0) (Nat.le_of_ble_eq_true rfl) (Nat.le_of_ble_eq_true rfl) ?_
      exact ret_i (v := 0) hx hb hr hlocks hS (hP.sub (ws' := [(h0, .inr (6, vL 12 F40)), (h_bytes, .inl (cB, 940, .inl f_bytes)), (h_wordNames, .inl (cJ, 23, .inr (.inl f_wordNames))), (p0, .inl (cI, 5, .inl f_p0))]) [3, 0, 1, 2] rfl) (hD.sub (ws' := [(h0, .inr (6, vL 12 F40)), (h_bytes, .inl (cB, 940, .inl f_bytes)), (h_wordNames, .inl (cJ, 23, .inr (.inl f_wordNames))), (p0, .inl (cI, 5, .inl f_p0))]) [3, 0, 1, 2] (by decide) rfl) dX6_takeInto_15 rfl (Nat.le_of_ble_eq_true rfl) (Nat.le_of_ble_eq_true rfl) ⟨F40, x_kind, x_place, x_value, x_name, 4, x_place, x_at, f_p0, (SAME.tr SAME.rf t41 (by decide)), (SAME.at t41 (by decide) e_kind), (SAME.at t41 (by decide) e_place), (SAME.at t41 (by decide) e_value), (SAME.at t41 (by decide) e_name), t42, t43, (SAME.at t41 (by decide) e_at), i_x_at, ⟨by decide, by decide⟩, rfl⟩
set_option maxHeartbeats 4000000 in
set_option maxRecDepth 100000 in
theorem m_X1_readSetting (l : Launch) (D : va_G) (cI cJ cB cP cM cZ : ClassId) (z0 tU tL tM : Nat) (h0 : Nat) (h_settings : Nat) (p0 : Nat) (h_p0_bytes : Nat) (h_p0_wordNames : Nat) (Fh : Nat → Value) (x_settingsTold : Int32) (f_settings : Nat → Int32) (F_p0_ : Nat → Value) (x_p0_length : Int32) (x_p0_kind : Int32) (x_p0_place : Int32) (x_p0_value : Int32) (x_p0_name : Int64) (x_p0_faultKind : Int32) (x_p0_faultPlace : Int32) (x_p0_at : Int32) (x_p0_mostBytes : Int32) (f_p0_bytes : Nat → Int32) (f_p0_wordNames : Nat → Int64) (p1 : Int32) (sz : Nat) (e_settings : Fh 1 = .ref h_settings) (e_settingsTold : Fh 17 = .int x_settingsTold) (e_p0_bytes : F_p0_ 0 = .ref h_p0_bytes) (e_p0_length : F_p0_ 1 = .int x_p0_length) (i_x_p0_length : IR 0 940 x_p0_length) (e_p0_kind : F_p0_ 2 = .int x_p0_kind) (e_p0_place : F_p0_ 3 = .int x_p0_place) (e_p0_value : F_p0_ 4 = .int x_p0_value) (e_p0_name : F_p0_ 5 = .long x_p0_name) (e_p0_faultKind : F_p0_ 7 = .int x_p0_faultKind) (e_p0_faultPlace : F_p0_ 8 = .int x_p0_faultPlace) (e_p0_wordNames : F_p0_ 9 = .ref h_p0_wordNames) (e_p0_at : F_p0_ 10 = .int x_p0_at) (i_x_p0_at : IR 0 940 x_p0_at) (e_p0_mostBytes : F_p0_ 11 = .int x_p0_mostBytes) (i_p1 : IR 0 4 p1) : CI l yX1_readSetting cX1_readSetting 3 (some .boolean) { frames := 3, cells := 0, slots := 0, locals := 67 } (GY D cI cJ cB cP cM cZ z0 tU tL tM [(h0, .inr (1, vL 18 Fh)), (h_settings, .inl (cI, 5, .inl f_settings)), (p0, .inr (6, vL 12 F_p0_)), (h_p0_bytes, .inl (cB, 940, .inl f_p0_bytes)), (h_p0_wordNames, .inl (cJ, 23, .inr (.inl f_p0_wordNames)))]) D [(h0, .inr (1, vL 18 Fh)), (h_settings, .inl (cI, 5, .inl f_settings)), (p0, .inr (6, vL 12 F_p0_)), (h_p0_bytes, .inl (cB, 940, .inl f_p0_bytes)), (h_p0_wordNames, .inl (cJ, 23, .inr (.inl f_p0_wordNames)))] sz [.ref h0, .ref p0, .int p1] (fun (r : Int32) (u : va_W) => ∃ (Gh : Nat → Value) (y_settingsTold : Int32) (G_p0_ : Nat → Value) (y_p0_kind : Int32) (y_p0_place : Int32) (y_p0_value : Int32) (y_p0_name : Int64) (y_p0_faultKind : Int32) (y_p0_faultPlace : Int32) (y_p0_at : Int32) (g_settings : Nat → Int32), SAME [17] Fh Gh ∧ Gh 17 = .int y_settingsTold ∧ SAME [2, 3, 4, 5, 7, 8, 10] F_p0_ G_p0_ ∧ G_p0_ 2 = .int y_p0_kind ∧ G_p0_ 3 = .int y_p0_place ∧ G_p0_ 4 = .int y_p0_value ∧ G_p0_ 5 = .long y_p0_name ∧ G_p0_ 7 = .int y_p0_faultKind ∧ G_p0_ 8 = .int y_p0_faultPlace ∧ G_p0_ 10 = .int y_p0_at ∧ IR 0 940 y_p0_at ∧ IR 0 1 r ∧ u = [(h0, .inr (1, vL 18 Gh)), (h_settings, .inl (cI, 5, .inl g_settings)), (p0, .inr (6, vL 12 G_p0_)), (h_p0_bytes, .inl (cB, 940, .inl f_p0_bytes)), (h_p0_wordNames, .inl (cJ, 23, .inr (.inl f_p0_wordNames)))]) := by
  refine CI_mk (by decide) (Nat.le_of_ble_eq_true rfl) ?_
  intro p e s m below meth c A ls E hAe hG hsz hP hD hA hS hl
  obtain ⟨hx, hb, hr, hw, hown, hlocks, hml, hnm⟩ := E
  have hK := hG.1.1
  have hAz := hG.hAz hAe hsz
  have hST := hG.st hAz
  have i_x_p0_length : 0 ≤ x_p0_length.toInt ∧ x_p0_length.toInt ≤ 940 := i_x_p0_length
  have i_x_p0_at : 0 ≤ x_p0_at.toInt ∧ x_p0_at.toInt ≤ 940 := i_x_p0_at
  have i_p1 : 0 ≤ p1.toInt ∧ p1.toInt ≤ 4 := i_p1
  have hl : lv_has ls 3 [(0, .ref h0), (1, .ref p0), (2, .int p1)] := hl
  refine lv_aload_n hx hb dX1_readSetting_0 rfl (lv_at hl 0 rfl) ?_
  refine get_f (D := D) (ci := 1) (v := .int x_settingsTold) (C := RX1) (T := TX1) (N := 18) hx hb hw inAX1 hown hK hP 0 rfl rfl 17 (by decide) (hw _ q_364) (fun _ h9 => h9) e_settingsTold dX1_readSetting_1 ?_
  refine lv_iload_n hx hb dX1_readSetting_4 rfl (lv_at hl 2 rfl) ?_
  refine lv_ishr hx hb dX1_readSetting_5 ?_
  refine lv_topi (fun v1 ev1 => ?_)
  refine lv_iconst (v := 1) hx hb dX1_readSetting_6 (by decide) ?_
  refine lv_iand hx hb dX1_readSetting_7 ?_
  refine lv_topi (fun v2 ev2 => ?_)
  have k3 : 0 ≤ v2.toInt ∧ v2.toInt ≤ 1 := by rw [ev2]; exact and_i v1 1 (by decide)
  refine lv_if_eq (tgt := 17) hx hb dX1_readSetting_8 (by decide) (fun c4 => ?_) (fun c4 => ?_)
  · have dc4 : v2.toInt = 0 := eq_i (a := v2.toInt) (b := 0) rfl rfl c4
    have k5 : 0 ≤ v2.toInt ∧ v2.toInt ≤ 0 := ⟨k3.1, Int.le_trans (Int.le_of_eq dc4) (Int.le_refl _)⟩
    refine lv_aload_n hx hb dX1_readSetting_17 rfl (lv_at hl 0 rfl) ?_
    refine lv_dup hx hb dX1_readSetting_18 rfl ?_
    refine get_f (D := D) (ci := 1) (v := .int x_settingsTold) (C := RX1) (T := TX1) (N := 18) hx hb hw inAX1 hown hK hP 0 rfl rfl 17 (by decide) (hw _ q_364) (fun _ h9 => h9) e_settingsTold dX1_readSetting_19 ?_
    refine lv_iconst (v := 1) hx hb dX1_readSetting_22 (by decide) ?_
    refine lv_iload_n hx hb dX1_readSetting_23 rfl (lv_at hl 2 rfl) ?_
    refine lv_ishl hx hb dX1_readSetting_24 ?_
    refine lv_topi (fun v6 ev6 => ?_)
    have k7 : 1 ≤ v6.toInt ∧ v6.toInt ≤ 64 := by rw [ev6]; exact shl6_i (Int.le_trans (by decide) i_p1.1) (Int.le_trans i_p1.2 (by decide))
    refine lv_ior hx hb dX1_readSetting_25 ?_
    refine lv_topi (fun v8 ev8 => ?_)
    refine put_f (D := D) (ci := 1) (v := .int v8) (ty := .int) (C := RX1) (T := TX1) (N := 18) hx hb hw inAX1 tyX1 tyX1_ok nmX1 hown hK hP hD hS 0 rfl rfl 17 (by decide) (hw _ q_364) (fun _ h9 => h9) rfl (by decide +kernel) rfl rfl dX1_readSetting_26 (fun H locs F9 eF9 hP hD hS => ?_)
    have hP : va_P D vwCl [(h0, .inr (1, vL 18 F9)), (h_settings, .inl (cI, 5, .inl f_settings)), (p0, .inr (6, vL 12 F_p0_)), (h_p0_bytes, .inl (cB, 940, .inl f_p0_bytes)), (h_p0_wordNames, .inl (cJ, 23, .inr (.inl f_p0_wordNames)))] H := hP
    have hD : va_D A [(h0, .inr (1, vL 18 F9)), (h_settings, .inl (cI, 5, .inl f_settings)), (p0, .inr (6, vL 12 F_p0_)), (h_p0_bytes, .inl (cB, 940, .inl f_p0_bytes)), (h_p0_wordNames, .inl (cJ, 23, .inr (.inl f_p0_wordNames)))] := hD
    refine lv_aload_n hx hb dX1_readSetting_29 rfl (lv_at hl 1 rfl) ?_
    refine call_Vv (wr := [(h0, .inr (1, vL 18 F9)), (h_settings, .inl (cI, 5, .inl f_settings))]) (As := []) (rest := []) hx hb hml hown hw (m_X6_advance l D cI cJ cB cP cM cZ p0 h_p0_bytes h_p0_wordNames F_p0_ x_p0_length x_p0_value x_p0_name x_p0_at x_p0_mostBytes f_p0_bytes f_p0_wordNames _ e_p0_bytes e_p0_length i_x_p0_length e_p0_value e_p0_name e_p0_wordNames e_p0_at i_x_p0_at e_p0_mostBytes) wV_X1_131_X6_advance dX1_readSetting_30 hK hP hD hS hA [2, 3, 4] [0, 1] rfl rfl (by decide) (by decide) (by decide) 0 6 rfl rfl GG.fb hG.1.at hl.1 rfl (Nat.le_of_ble_eq_true rfl) ⟨(Nat.le_of_ble_eq_true rfl), (Nat.le_of_ble_eq_true rfl)⟩ ⟨(Nat.le_of_ble_eq_true rfl), (Nat.le_of_ble_eq_true rfl)⟩ (fun u H locs hp hP hD hS => ?_)
    obtain ⟨F11, y12, y13, y14, y15, y16, t17, t18, t19, t20, t21, t22, t23, t24, rfl⟩ := hp
    have hP : va_P D vwCl [(h0, .inr (1, vL 18 F9)), (h_settings, .inl (cI, 5, .inl f_settings)), (p0, .inr (6, vL 12 F11)), (h_p0_bytes, .inl (cB, 940, .inl f_p0_bytes)), (h_p0_wordNames, .inl (cJ, 23, .inr (.inl f_p0_wordNames)))] H := hP
    have hD : va_D A [(h0, .inr (1, vL 18 F9)), (h_settings, .inl (cI, 5, .inl f_settings)), (p0, .inr (6, vL 12 F11)), (h_p0_bytes, .inl (cB, 940, .inl f_p0_bytes)), (h_p0_wordNames, .inl (cJ, 23, .inr (.inl f_p0_wordNames)))] := hD
    refine W.widen (k := 0) (n := 0) (Nat.le_of_ble_eq_true rfl) (Nat.le_of_ble_eq_true rfl) ?_
    refine lv_aload_n hx hb dX1_readSetting_33 rfl (lv_at hl 1 rfl) ?_
    refine lv_aload_n hx hb dX1_readSetting_34 rfl (lv_at hl 0 rfl) ?_
    have n25 : F9 1 = .ref h_settings := (get_ne eF9 (by decide) e_settings)
    refine get_f (D := D) (ci := 1) (v := .ref h_settings) (C := RX1) (T := TX1) (N := 18) hx hb hw inAX1 hown hK hP 0 rfl rfl 1 (by decide) (hw _ q_315) (fun _ h9 => h9) n25 dX1_readSetting_35 ?_
    refine lv_iload_n hx hb dX1_readSetting_38 rfl (lv_at hl 2 rfl) ?_
    refine va_getsN hx hb hST.2.2.1 hS hown (va_Nw.use rfl (hG.1.2.1 (.fieldLinkNest "FourSledge$Course" 134 "FourSledge" "SETTING_LEAST" "[I" "FourSledge") (by decide +kernel))) (fun _ h9 => h9) dX1_readSetting_39 ?_
    refine lv_iload_n hx hb dX1_readSetting_42 rfl (lv_at hl 2 rfl) ?_
    refine va_ti (v := .int (lF p1.toNatClampNeg)) hx hb hST.2.2.2.1 hS (ix_k i_p1 (by decide) (by decide)) rfl dX1_readSetting_43 ?_
    refine lv_topi (fun v26 ev26 => ?_)
    refine va_getsN hx hb hST.2.2.2.2.1 hS hown (va_Nw.use rfl (hG.1.2.1 (.fieldLinkNest "FourSledge$Course" 137 "FourSledge" "SETTING_MOST" "[I" "FourSledge") (by decide +kernel))) (fun _ h9 => h9) dX1_readSetting_44 ?_
    refine lv_iload_n hx hb dX1_readSetting_47 rfl (lv_at hl 2 rfl) ?_
    refine va_ti (v := .int (mF p1.toNatClampNeg)) hx hb hST.2.2.2.2.2 hS (ix_k i_p1 (by decide) (by decide)) rfl dX1_readSetting_48 ?_
    refine lv_topi (fun v27 ev27 => ?_)
    have n28 : F11 0 = .ref h_p0_bytes := (SAME.at t17 (by decide) e_p0_bytes)
    have n29 : F11 1 = .int x_p0_length := (SAME.at t17 (by decide) e_p0_length)
    have n30 : F11 7 = .int x_p0_faultKind := (SAME.at t17 (by decide) e_p0_faultKind)
    have n31 : F11 8 = .int x_p0_faultPlace := (SAME.at t17 (by decide) e_p0_faultPlace)
    have n32 : F11 9 = .ref h_p0_wordNames := (SAME.at t17 (by decide) e_p0_wordNames)
    have n33 : F11 11 = .int x_p0_mostBytes := (SAME.at t17 (by decide) e_p0_mostBytes)
    refine call_Vi (wr := [(h0, .inr (1, vL 18 F9))]) (As := [.ref h_settings, .int p1, .int v26, .int v27]) (rest := []) hx hb hml hown hw (m_X6_takeInto_5 l D cI cJ cB cP cM cZ p0 h_p0_bytes h_p0_wordNames h_settings F11 x_p0_length y12 y13 y14 y15 x_p0_faultKind x_p0_faultPlace y16 x_p0_mostBytes f_p0_bytes f_p0_wordNames f_settings p1 v26 v27 _ n28 n29 i_x_p0_length t18 t19 t21 t22 n30 n31 n32 t23 t24 n33) wV_X1_140_X6_takeInto dX1_readSetting_49 hK hP hD hS hA [2, 3, 4, 1] [0] rfl rfl (by decide) (by decide) (by decide) 0 6 rfl rfl GG.fb hG.1.at hl.1 rfl (Nat.le_of_ble_eq_true rfl) ⟨(Nat.le_of_ble_eq_true rfl), (Nat.le_of_ble_eq_true rfl)⟩ ⟨(Nat.le_of_ble_eq_true rfl), (Nat.le_of_ble_eq_true rfl)⟩ (fun r34 u H locs hp hP hD hS => ?_)
    obtain ⟨F35, y36, y37, y38, y39, y40, y41, y42, g43, t44, t45, t46, t47, t48, t49, t50, t51, t52, t53, rfl⟩ := hp
    have hP : va_P D vwCl [(h0, .inr (1, vL 18 F9)), (p0, .inr (6, vL 12 F35)), (h_p0_bytes, .inl (cB, 940, .inl f_p0_bytes)), (h_p0_wordNames, .inl (cJ, 23, .inr (.inl f_p0_wordNames))), (h_settings, .inl (cI, 5, .inl g43))] H := hP
    have hD : va_D A [(h0, .inr (1, vL 18 F9)), (p0, .inr (6, vL 12 F35)), (h_p0_bytes, .inl (cB, 940, .inl f_p0_bytes)), (h_p0_wordNames, .inl (cJ, 23, .inr (.inl f_p0_wordNames))), (h_settings, .inl (cI, 5, .inl g43))] := hD
    refine W.widen (k := 0) (n := 0) (Nat.le_of_ble_eq_true rfl) (Nat.le_of_ble_eq_true rfl) ?_
    exact ret_i (v := r34) hx hb hr hlocks hS (hP.sub (ws' := [(h0, .inr (1, vL 18 F9)), (h_settings, .inl (cI, 5, .inl g43)), (p0, .inr (6, vL 12 F35)), (h_p0_bytes, .inl (cB, 940, .inl f_p0_bytes)), (h_p0_wordNames, .inl (cJ, 23, .inr (.inl f_p0_wordNames)))]) [0, 4, 1, 2, 3] rfl) (hD.sub (ws' := [(h0, .inr (1, vL 18 F9)), (h_settings, .inl (cI, 5, .inl g43)), (p0, .inr (6, vL 12 F35)), (h_p0_bytes, .inl (cB, 940, .inl f_p0_bytes)), (h_p0_wordNames, .inl (cJ, 23, .inr (.inl f_p0_wordNames)))]) [0, 4, 1, 2, 3] (by decide) rfl) dX1_readSetting_52 (nz_i t53.1 t53.2) (Nat.le_of_ble_eq_true rfl) (Nat.le_of_ble_eq_true rfl) ⟨F9, v8, F35, y36, y37, y38, y39, y40, y41, y42, g43, (SAME.up eF9 SAME.rf (by decide)), (get_eq eF9), (SAME.tr (SAME.tr SAME.rf t17 (by decide)) t44 (by decide)), t45, t46, t47, t48, t49, t50, t51, t52, t53, rfl⟩
  · have dc4 : v2.toInt ≠ 0 := ne_i (a := v2.toInt) (b := 0) rfl rfl c4
    have k54 : 1 ≤ v2.toInt ∧ v2.toInt ≤ 1 := ⟨ne_lo dc4 k3.1 ⟨Int.le_refl _, Int.le_refl _⟩ (by decide), k3.2⟩
    refine lv_aload_n hx hb dX1_readSetting_11 rfl (lv_at hl 1 rfl) ?_
    refine lv_iconst (v := 3) hx hb dX1_readSetting_12 (by decide) ?_
    refine call_Vi (wr := [(h0, .inr (1, vL 18 Fh)), (h_settings, .inl (cI, 5, .inl f_settings)), (h_p0_bytes, .inl (cB, 940, .inl f_p0_bytes)), (h_p0_wordNames, .inl (cJ, 23, .inr (.inl f_p0_wordNames)))]) (As := [.int 3]) (rest := []) hx hb hml hown hw (m_X6_fail l D cI cJ cB cP cM cZ p0 F_p0_ x_p0_place 3 _ e_p0_place) wV_X1_128_X6_fail dX1_readSetting_13 hK hP hD hS hA [2] [0, 1, 3, 4] rfl rfl (by decide) (by decide) (by decide) 0 6 rfl rfl GG.fb hG.1.at hl.1 rfl (Nat.le_of_ble_eq_true rfl) ⟨(Nat.le_of_ble_eq_true rfl), (Nat.le_of_ble_eq_true rfl)⟩ ⟨(Nat.le_of_ble_eq_true rfl), (Nat.le_of_ble_eq_true rfl)⟩ (fun r55 u H locs hp hP hD hS => ?_)
    obtain ⟨F56, t57, t58, t59, rfl, rfl⟩ := hp
    have hP : va_P D vwCl [(h0, .inr (1, vL 18 Fh)), (h_settings, .inl (cI, 5, .inl f_settings)), (h_p0_bytes, .inl (cB, 940, .inl f_p0_bytes)), (h_p0_wordNames, .inl (cJ, 23, .inr (.inl f_p0_wordNames))), (p0, .inr (6, vL 12 F56))] H := hP
    have hD : va_D A [(h0, .inr (1, vL 18 Fh)), (h_settings, .inl (cI, 5, .inl f_settings)), (h_p0_bytes, .inl (cB, 940, .inl f_p0_bytes)), (h_p0_wordNames, .inl (cJ, 23, .inr (.inl f_p0_wordNames))), (p0, .inr (6, vL 12 F56))] := hD
    refine W.widen (k := 0) (n := 0) (Nat.le_of_ble_eq_true rfl) (Nat.le_of_ble_eq_true rfl) ?_
    exact ret_i (v := 0) hx hb hr hlocks hS (hP.sub (ws' := [(h0, .inr (1, vL 18 Fh)), (h_settings, .inl (cI, 5, .inl f_settings)), (p0, .inr (6, vL 12 F56)), (h_p0_bytes, .inl (cB, 940, .inl f_p0_bytes)), (h_p0_wordNames, .inl (cJ, 23, .inr (.inl f_p0_wordNames)))]) [0, 1, 4, 2, 3] rfl) (hD.sub (ws' := [(h0, .inr (1, vL 18 Fh)), (h_settings, .inl (cI, 5, .inl f_settings)), (p0, .inr (6, vL 12 F56)), (h_p0_bytes, .inl (cB, 940, .inl f_p0_bytes)), (h_p0_wordNames, .inl (cJ, 23, .inr (.inl f_p0_wordNames)))]) [0, 1, 4, 2, 3] (by decide) rfl) dX1_readSetting_16 rfl (Nat.le_of_ble_eq_true rfl) (Nat.le_of_ble_eq_true rfl) ⟨Fh, x_settingsTold, F56, x_p0_kind, x_p0_place, x_p0_value, x_p0_name, 3, x_p0_place, x_p0_at, f_settings, SAME.rf, e_settingsTold, (SAME.tr SAME.rf t57 (by decide)), (SAME.at t57 (by decide) e_p0_kind), (SAME.at t57 (by decide) e_p0_place), (SAME.at t57 (by decide) e_p0_value), (SAME.at t57 (by decide) e_p0_name), t58, t59, (SAME.at t57 (by decide) e_p0_at), i_x_p0_at, ⟨by decide, by decide⟩, rfl⟩
set_option maxHeartbeats 4000000 in
set_option maxRecDepth 100000 in
theorem m_X6_isName (l : Launch) (D : va_G) (cI cJ cB cP cM cZ : ClassId) (h0 : Nat) (Fh : Nat → Value) (x_kind : Int32) (x_value : Int32) (sz : Nat) (e_kind : Fh 2 = .int x_kind) (e_value : Fh 4 = .int x_value) : CI l yX6_isName cX6_isName 1 (some .boolean) { frames := 0, cells := 0, slots := 0, locals := 0 } (GG D cI cJ cB cP cM cZ) D [(h0, .inr (6, vL 12 Fh))] sz [.ref h0] (fun (r : Int32) (u : va_W) => IR 0 1 r ∧ u = [(h0, .inr (6, vL 12 Fh))]) := by
  refine CI_mk (by decide) (Nat.le_of_ble_eq_true rfl) ?_
  intro p e s m below meth c A ls E hAe hG hsz hP hD hA hS hl
  obtain ⟨hx, hb, hr, hw, hown, hlocks, hml, hnm⟩ := E
  have hK := hG.1
  have hl : lv_has ls 1 [(0, .ref h0)] := hl
  refine lv_aload_n hx hb dX6_isName_0 rfl (lv_at hl 0 rfl) ?_
  refine get_f (D := D) (ci := 6) (v := .int x_kind) (C := RX6) (T := TX6) (N := 12) hx hb hw inAX6 hown hK hP 0 rfl rfl 2 (by decide) (hw _ q_92) (fun _ h9 => h9) e_kind dX6_isName_1 ?_
  refine lv_iconst (v := 2) hx hb dX6_isName_4 (by decide) ?_
  refine lv_icmp_ne (tgt := 20) hx hb dX6_isName_5 (by decide) (fun c1 => ?_) (fun c1 => ?_)
  · have dc1 : x_kind.toInt ≠ 2 := ne_i (a := x_kind.toInt) (b := 2) rfl rfl c1
    refine lv_iconst (v := 0) hx hb dX6_isName_20 (by decide) ?_
    exact ret_i (v := 0) hx hb hr hlocks hS hP hD dX6_isName_21 rfl (Nat.le_of_ble_eq_true rfl) (Nat.le_of_ble_eq_true rfl) ⟨⟨by decide, by decide⟩, rfl⟩
  · have dc1 : x_kind.toInt = 2 := eq_i (a := x_kind.toInt) (b := 2) rfl rfl c1
    have k2 : 2 ≤ x_kind.toInt ∧ x_kind.toInt ≤ 2 := ⟨Int.le_trans (Int.le_refl _) (Int.le_of_eq dc1.symm), Int.le_trans (Int.le_of_eq dc1) (Int.le_refl _)⟩
    refine lv_aload_n hx hb dX6_isName_8 rfl (lv_at hl 0 rfl) ?_
    refine get_f (D := D) (ci := 6) (v := .int x_value) (C := RX6) (T := TX6) (N := 12) hx hb hw inAX6 hown hK hP 0 rfl rfl 4 (by decide) (hw _ q_97) (fun _ h9 => h9) e_value dX6_isName_9 ?_
    refine lv_iconst (v := (-1)) hx hb dX6_isName_12 (by decide) ?_
    refine lv_icmp_ne (tgt := 20) hx hb dX6_isName_13 (by decide) (fun c3 => ?_) (fun c3 => ?_)
    · have dc3 : x_value.toInt ≠ (-1) := ne_i (a := x_value.toInt) (b := (-1)) rfl rfl c3
      refine lv_iconst (v := 0) hx hb dX6_isName_20 (by decide) ?_
      exact ret_i (v := 0) hx hb hr hlocks hS hP hD dX6_isName_21 rfl (Nat.le_of_ble_eq_true rfl) (Nat.le_of_ble_eq_true rfl) ⟨⟨by decide, by decide⟩, rfl⟩
    · have dc3 : x_value.toInt = (-1) := eq_i (a := x_value.toInt) (b := (-1)) rfl rfl c3
      have k4 : (-1) ≤ x_value.toInt ∧ x_value.toInt ≤ (-1) := ⟨Int.le_trans (Int.le_refl _) (Int.le_of_eq dc3.symm), Int.le_trans (Int.le_of_eq dc3) (Int.le_refl _)⟩
      refine lv_iconst (v := 1) hx hb dX6_isName_16 (by decide) ?_
      refine lv_goto (tgt := 21) hx hb dX6_isName_17 (by decide) ?_
      exact ret_i (v := 1) hx hb hr hlocks hS hP hD dX6_isName_21 rfl (Nat.le_of_ble_eq_true rfl) (Nat.le_of_ble_eq_true rfl) ⟨⟨by decide, by decide⟩, rfl⟩
set_option maxHeartbeats 4000000 in
set_option maxRecDepth 100000 in
theorem m_X1_readName_manName (l : Launch) (D : va_G) (cI cJ cB cP cM cZ : ClassId) (h0 : Nat) (h_manName : Nat) (h_runnerName : Nat) (p0 : Nat) (h_p0_bytes : Nat) (h_p0_wordNames : Nat) (Fh : Nat → Value) (x_men : Int32) (x_runners : Int32) (f_manName : Nat → Int64) (f_runnerName : Nat → Int64) (F_p0_ : Nat → Value) (x_p0_length : Int32) (x_p0_kind : Int32) (x_p0_place : Int32) (x_p0_value : Int32) (x_p0_name : Int64) (x_p0_faultKind : Int32) (x_p0_faultPlace : Int32) (x_p0_at : Int32) (x_p0_mostBytes : Int32) (f_p0_bytes : Nat → Int32) (f_p0_wordNames : Nat → Int64) (p2 : Int32) (sz : Nat) (e_manName : Fh 2 = .ref h_manName) (e_runnerName : Fh 10 = .ref h_runnerName) (e_men : Fh 13 = .int x_men) (i_x_men : IR 0 12 x_men) (e_runners : Fh 15 = .int x_runners) (i_x_runners : IR 0 6 x_runners) (e_p0_bytes : F_p0_ 0 = .ref h_p0_bytes) (e_p0_length : F_p0_ 1 = .int x_p0_length) (i_x_p0_length : IR 0 940 x_p0_length) (e_p0_kind : F_p0_ 2 = .int x_p0_kind) (e_p0_place : F_p0_ 3 = .int x_p0_place) (e_p0_value : F_p0_ 4 = .int x_p0_value) (e_p0_name : F_p0_ 5 = .long x_p0_name) (e_p0_faultKind : F_p0_ 7 = .int x_p0_faultKind) (e_p0_faultPlace : F_p0_ 8 = .int x_p0_faultPlace) (e_p0_wordNames : F_p0_ 9 = .ref h_p0_wordNames) (e_p0_at : F_p0_ 10 = .int x_p0_at) (i_x_p0_at : IR 0 940 x_p0_at) (e_p0_mostBytes : F_p0_ 11 = .int x_p0_mostBytes) (i_p2 : IR 0 11 p2) : CI l yX1_readName cX1_readName 4 (some .boolean) { frames := 2, cells := 0, slots := 0, locals := 46 } (GG D cI cJ cB cP cM cZ) D [(h0, .inr (1, vL 18 Fh)), (h_manName, .inl (cJ, 12, .inr (.inl f_manName))), (h_runnerName, .inl (cJ, 6, .inr (.inl f_runnerName))), (p0, .inr (6, vL 12 F_p0_)), (h_p0_bytes, .inl (cB, 940, .inl f_p0_bytes)), (h_p0_wordNames, .inl (cJ, 23, .inr (.inl f_p0_wordNames)))] sz [.ref h0, .ref p0, .ref h_manName, .int p2] (fun (r : Int32) (u : va_W) => ∃ (G_p0_ : Nat → Value) (y_p0_kind : Int32) (y_p0_place : Int32) (y_p0_value : Int32) (y_p0_name : Int64) (y_p0_faultKind : Int32) (y_p0_faultPlace : Int32) (y_p0_at : Int32) (g_manName : Nat → Int64), SAME [2, 3, 4, 5, 7, 8, 10] F_p0_ G_p0_ ∧ G_p0_ 2 = .int y_p0_kind ∧ G_p0_ 3 = .int y_p0_place ∧ G_p0_ 4 = .int y_p0_value ∧ G_p0_ 5 = .long y_p0_name ∧ G_p0_ 7 = .int y_p0_faultKind ∧ G_p0_ 8 = .int y_p0_faultPlace ∧ G_p0_ 10 = .int y_p0_at ∧ IR 0 940 y_p0_at ∧ IR 0 1 r ∧ u = [(h0, .inr (1, vL 18 Fh)), (h_manName, .inl (cJ, 12, .inr (.inl g_manName))), (h_runnerName, .inl (cJ, 6, .inr (.inl f_runnerName))), (p0, .inr (6, vL 12 G_p0_)), (h_p0_bytes, .inl (cB, 940, .inl f_p0_bytes)), (h_p0_wordNames, .inl (cJ, 23, .inr (.inl f_p0_wordNames)))]) := by
  refine CI_mk (by decide) (Nat.le_of_ble_eq_true rfl) ?_
  intro p e s m below meth c A ls E hAe hG hsz hP hD hA hS hl
  obtain ⟨hx, hb, hr, hw, hown, hlocks, hml, hnm⟩ := E
  have hK := hG.1
  have i_x_men : 0 ≤ x_men.toInt ∧ x_men.toInt ≤ 12 := i_x_men
  have i_x_runners : 0 ≤ x_runners.toInt ∧ x_runners.toInt ≤ 6 := i_x_runners
  have i_x_p0_length : 0 ≤ x_p0_length.toInt ∧ x_p0_length.toInt ≤ 940 := i_x_p0_length
  have i_x_p0_at : 0 ≤ x_p0_at.toInt ∧ x_p0_at.toInt ≤ 940 := i_x_p0_at
  have i_p2 : 0 ≤ p2.toInt ∧ p2.toInt ≤ 11 := i_p2
  have hl : lv_has ls 4 [(0, .ref h0), (1, .ref p0), (2, .ref h_manName), (3, .int p2)] := hl
  refine lv_aload_n hx hb dX1_readName_0 rfl (lv_at hl 1 rfl) ?_
  refine call_Vi (wr := [(h0, .inr (1, vL 18 Fh)), (h_manName, .inl (cJ, 12, .inr (.inl f_manName))), (h_runnerName, .inl (cJ, 6, .inr (.inl f_runnerName))), (h_p0_bytes, .inl (cB, 940, .inl f_p0_bytes)), (h_p0_wordNames, .inl (cJ, 23, .inr (.inl f_p0_wordNames)))]) (As := []) (rest := []) hx hb hml hown hw (m_X6_isName l D cI cJ cB cP cM cZ p0 F_p0_ x_p0_kind x_p0_value _ e_p0_kind e_p0_value) wV_X1_148_X6_isName dX1_readName_1 hK hP hD hS hA [3] [0, 1, 2, 4, 5] rfl rfl (by decide) (by decide) (by decide) 0 6 rfl rfl GG.fb hG.at hl.1 rfl (Nat.le_of_ble_eq_true rfl) ⟨(Nat.le_of_ble_eq_true rfl), (Nat.le_of_ble_eq_true rfl)⟩ ⟨(Nat.le_of_ble_eq_true rfl), (Nat.le_of_ble_eq_true rfl)⟩ (fun r1 u H locs hp hP hD hS => ?_)
  obtain ⟨t2, rfl⟩ := hp
  have hP : va_P D vwCl [(h0, .inr (1, vL 18 Fh)), (h_manName, .inl (cJ, 12, .inr (.inl f_manName))), (h_runnerName, .inl (cJ, 6, .inr (.inl f_runnerName))), (h_p0_bytes, .inl (cB, 940, .inl f_p0_bytes)), (h_p0_wordNames, .inl (cJ, 23, .inr (.inl f_p0_wordNames))), (p0, .inr (6, vL 12 F_p0_))] H := hP
  have hD : va_D A [(h0, .inr (1, vL 18 Fh)), (h_manName, .inl (cJ, 12, .inr (.inl f_manName))), (h_runnerName, .inl (cJ, 6, .inr (.inl f_runnerName))), (h_p0_bytes, .inl (cB, 940, .inl f_p0_bytes)), (h_p0_wordNames, .inl (cJ, 23, .inr (.inl f_p0_wordNames))), (p0, .inr (6, vL 12 F_p0_))] := hD
  refine W.widen (k := 0) (n := 0) (Nat.le_of_ble_eq_true rfl) (Nat.le_of_ble_eq_true rfl) ?_
  refine lv_if_ne (tgt := 13) hx hb dX1_readName_4 (by decide) (fun c3 => ?_) (fun c3 => ?_)
  · have dc3 : r1.toInt ≠ 0 := ne_i (a := r1.toInt) (b := 0) rfl rfl c3
    have k4 : 1 ≤ r1.toInt ∧ r1.toInt ≤ 1 := ⟨ne_lo dc3 t2.1 ⟨Int.le_refl _, Int.le_refl _⟩ (by decide), t2.2⟩
    refine lv_aload_n hx hb dX1_readName_13 rfl (lv_at hl 0 rfl) ?_
    refine lv_aload_n hx hb dX1_readName_14 rfl (lv_at hl 1 rfl) ?_
    refine get_f (D := D) (ci := 6) (v := .long x_p0_name) (C := RX6) (T := TX6) (N := 12) hx hb hw inAX6 hown hK hP 5 rfl rfl 5 (by decide) (hw _ q_101) (fun _ h9 => h9) e_p0_name dX1_readName_15 ?_
    refine call_Vi (wr := [(h_runnerName, .inl (cJ, 6, .inr (.inl f_runnerName))), (h_p0_bytes, .inl (cB, 940, .inl f_p0_bytes)), (h_p0_wordNames, .inl (cJ, 23, .inr (.inl f_p0_wordNames))), (p0, .inr (6, vL 12 F_p0_))]) (As := [.long x_p0_name]) (rest := []) hx hb hml hown hw (m_X1_manNamed l D cI cJ cB cP cM cZ h0 h_manName Fh x_men f_manName x_p0_name _ e_manName e_men i_x_men) wV_X1_156_X1_manNamed dX1_readName_18 hK hP hD hS hA [0, 1] [2, 3, 4, 5] rfl rfl (by decide) (by decide) (by decide) 0 1 rfl rfl GG.fb hG.at hl.1 rfl (Nat.le_of_ble_eq_true rfl) ⟨(Nat.le_of_ble_eq_true rfl), (Nat.le_of_ble_eq_true rfl)⟩ ⟨(Nat.le_of_ble_eq_true rfl), (Nat.le_of_ble_eq_true rfl)⟩ (fun r5 u H locs hp hP hD hS => ?_)
    obtain ⟨t6, rfl⟩ := hp
    have hP : va_P D vwCl [(h_runnerName, .inl (cJ, 6, .inr (.inl f_runnerName))), (h_p0_bytes, .inl (cB, 940, .inl f_p0_bytes)), (h_p0_wordNames, .inl (cJ, 23, .inr (.inl f_p0_wordNames))), (p0, .inr (6, vL 12 F_p0_)), (h0, .inr (1, vL 18 Fh)), (h_manName, .inl (cJ, 12, .inr (.inl f_manName)))] H := hP
    have hD : va_D A [(h_runnerName, .inl (cJ, 6, .inr (.inl f_runnerName))), (h_p0_bytes, .inl (cB, 940, .inl f_p0_bytes)), (h_p0_wordNames, .inl (cJ, 23, .inr (.inl f_p0_wordNames))), (p0, .inr (6, vL 12 F_p0_)), (h0, .inr (1, vL 18 Fh)), (h_manName, .inl (cJ, 12, .inr (.inl f_manName)))] := hD
    refine W.widen (k := 0) (n := 0) (Nat.le_of_ble_eq_true rfl) (Nat.le_of_ble_eq_true rfl) ?_
    refine lv_iconst (v := (-1)) hx hb dX1_readName_21 (by decide) ?_
    refine lv_icmp_ne (tgt := 37) hx hb dX1_readName_22 (by decide) (fun c7 => ?_) (fun c7 => ?_)
    · have dc7 : r5.toInt ≠ (-1) := ne_i (a := r5.toInt) (b := (-1)) rfl rfl c7
      have k8 : 0 ≤ r5.toInt ∧ r5.toInt ≤ 11 := ⟨ne_lo dc7 t6.1 ⟨Int.le_refl _, Int.le_refl _⟩ (by decide), t6.2⟩
      refine lv_aload_n hx hb dX1_readName_37 rfl (lv_at hl 1 rfl) ?_
      refine lv_iconst (v := 3) hx hb dX1_readName_38 (by decide) ?_
      refine call_Vi (wr := [(h_runnerName, .inl (cJ, 6, .inr (.inl f_runnerName))), (h_p0_bytes, .inl (cB, 940, .inl f_p0_bytes)), (h_p0_wordNames, .inl (cJ, 23, .inr (.inl f_p0_wordNames))), (h0, .inr (1, vL 18 Fh)), (h_manName, .inl (cJ, 12, .inr (.inl f_manName)))]) (As := [.int 3]) (rest := []) hx hb hml hown hw (m_X6_fail l D cI cJ cB cP cM cZ p0 F_p0_ x_p0_place 3 _ e_p0_place) wV_X1_128_X6_fail dX1_readName_39 hK hP hD hS hA [3] [0, 1, 2, 4, 5] rfl rfl (by decide) (by decide) (by decide) 0 6 rfl rfl GG.fb hG.at hl.1 rfl (Nat.le_of_ble_eq_true rfl) ⟨(Nat.le_of_ble_eq_true rfl), (Nat.le_of_ble_eq_true rfl)⟩ ⟨(Nat.le_of_ble_eq_true rfl), (Nat.le_of_ble_eq_true rfl)⟩ (fun r9 u H locs hp hP hD hS => ?_)
      obtain ⟨F10, t11, t12, t13, rfl, rfl⟩ := hp
      have hP : va_P D vwCl [(h_runnerName, .inl (cJ, 6, .inr (.inl f_runnerName))), (h_p0_bytes, .inl (cB, 940, .inl f_p0_bytes)), (h_p0_wordNames, .inl (cJ, 23, .inr (.inl f_p0_wordNames))), (h0, .inr (1, vL 18 Fh)), (h_manName, .inl (cJ, 12, .inr (.inl f_manName))), (p0, .inr (6, vL 12 F10))] H := hP
      have hD : va_D A [(h_runnerName, .inl (cJ, 6, .inr (.inl f_runnerName))), (h_p0_bytes, .inl (cB, 940, .inl f_p0_bytes)), (h_p0_wordNames, .inl (cJ, 23, .inr (.inl f_p0_wordNames))), (h0, .inr (1, vL 18 Fh)), (h_manName, .inl (cJ, 12, .inr (.inl f_manName))), (p0, .inr (6, vL 12 F10))] := hD
      refine W.widen (k := 0) (n := 0) (Nat.le_of_ble_eq_true rfl) (Nat.le_of_ble_eq_true rfl) ?_
      exact ret_i (v := 0) hx hb hr hlocks hS (hP.sub (ws' := [(h0, .inr (1, vL 18 Fh)), (h_manName, .inl (cJ, 12, .inr (.inl f_manName))), (h_runnerName, .inl (cJ, 6, .inr (.inl f_runnerName))), (p0, .inr (6, vL 12 F10)), (h_p0_bytes, .inl (cB, 940, .inl f_p0_bytes)), (h_p0_wordNames, .inl (cJ, 23, .inr (.inl f_p0_wordNames)))]) [3, 4, 0, 5, 1, 2] rfl) (hD.sub (ws' := [(h0, .inr (1, vL 18 Fh)), (h_manName, .inl (cJ, 12, .inr (.inl f_manName))), (h_runnerName, .inl (cJ, 6, .inr (.inl f_runnerName))), (p0, .inr (6, vL 12 F10)), (h_p0_bytes, .inl (cB, 940, .inl f_p0_bytes)), (h_p0_wordNames, .inl (cJ, 23, .inr (.inl f_p0_wordNames)))]) [3, 4, 0, 5, 1, 2] (by decide) rfl) dX1_readName_42 rfl (Nat.le_of_ble_eq_true rfl) (Nat.le_of_ble_eq_true rfl) ⟨F10, x_p0_kind, x_p0_place, x_p0_value, x_p0_name, 3, x_p0_place, x_p0_at, f_manName, (SAME.tr SAME.rf t11 (by decide)), (SAME.at t11 (by decide) e_p0_kind), (SAME.at t11 (by decide) e_p0_place), (SAME.at t11 (by decide) e_p0_value), (SAME.at t11 (by decide) e_p0_name), t12, t13, (SAME.at t11 (by decide) e_p0_at), i_x_p0_at, ⟨by decide, by decide⟩, rfl⟩
    · have dc7 : r5.toInt = (-1) := eq_i (a := r5.toInt) (b := (-1)) rfl rfl c7
      have k14 : (-1) ≤ r5.toInt ∧ r5.toInt ≤ (-1) := ⟨t6.1, Int.le_trans (Int.le_of_eq dc7) (Int.le_refl _)⟩
      refine lv_aload_n hx hb dX1_readName_25 rfl (lv_at hl 0 rfl) ?_
      refine lv_aload_n hx hb dX1_readName_26 rfl (lv_at hl 1 rfl) ?_
      refine get_f (D := D) (ci := 6) (v := .long x_p0_name) (C := RX6) (T := TX6) (N := 12) hx hb hw inAX6 hown hK hP 3 rfl rfl 5 (by decide) (hw _ q_101) (fun _ h9 => h9) e_p0_name dX1_readName_27 ?_
      refine call_Vi (wr := [(h_p0_bytes, .inl (cB, 940, .inl f_p0_bytes)), (h_p0_wordNames, .inl (cJ, 23, .inr (.inl f_p0_wordNames))), (p0, .inr (6, vL 12 F_p0_)), (h_manName, .inl (cJ, 12, .inr (.inl f_manName)))]) (As := [.long x_p0_name]) (rest := []) hx hb hml hown hw (m_X1_runnerNamed l D cI cJ cB cP cM cZ h0 h_runnerName Fh x_runners f_runnerName x_p0_name _ e_runnerName e_runners i_x_runners) wV_X1_160_X1_runnerNamed dX1_readName_30 hK hP hD hS hA [4, 0] [1, 2, 3, 5] rfl rfl (by decide) (by decide) (by decide) 0 1 rfl rfl GG.fb hG.at hl.1 rfl (Nat.le_of_ble_eq_true rfl) ⟨(Nat.le_of_ble_eq_true rfl), (Nat.le_of_ble_eq_true rfl)⟩ ⟨(Nat.le_of_ble_eq_true rfl), (Nat.le_of_ble_eq_true rfl)⟩ (fun r15 u H locs hp hP hD hS => ?_)
      obtain ⟨t16, rfl⟩ := hp
      have hP : va_P D vwCl [(h_p0_bytes, .inl (cB, 940, .inl f_p0_bytes)), (h_p0_wordNames, .inl (cJ, 23, .inr (.inl f_p0_wordNames))), (p0, .inr (6, vL 12 F_p0_)), (h_manName, .inl (cJ, 12, .inr (.inl f_manName))), (h0, .inr (1, vL 18 Fh)), (h_runnerName, .inl (cJ, 6, .inr (.inl f_runnerName)))] H := hP
      have hD : va_D A [(h_p0_bytes, .inl (cB, 940, .inl f_p0_bytes)), (h_p0_wordNames, .inl (cJ, 23, .inr (.inl f_p0_wordNames))), (p0, .inr (6, vL 12 F_p0_)), (h_manName, .inl (cJ, 12, .inr (.inl f_manName))), (h0, .inr (1, vL 18 Fh)), (h_runnerName, .inl (cJ, 6, .inr (.inl f_runnerName)))] := hD
      refine W.widen (k := 0) (n := 0) (Nat.le_of_ble_eq_true rfl) (Nat.le_of_ble_eq_true rfl) ?_
      refine lv_iconst (v := (-1)) hx hb dX1_readName_33 (by decide) ?_
      refine lv_icmp_eq (tgt := 43) hx hb dX1_readName_34 (by decide) (fun c17 => ?_) (fun c17 => ?_)
      · have dc17 : r15.toInt = (-1) := eq_i (a := r15.toInt) (b := (-1)) rfl rfl c17
        have k18 : (-1) ≤ r15.toInt ∧ r15.toInt ≤ (-1) := ⟨t16.1, Int.le_trans (Int.le_of_eq dc17) (Int.le_refl _)⟩
        refine lv_aload_n hx hb dX1_readName_43 rfl (lv_at hl 2 rfl) ?_
        refine lv_iload_n hx hb dX1_readName_44 rfl (lv_at hl 3 rfl) ?_
        refine lv_aload_n hx hb dX1_readName_45 rfl (lv_at hl 1 rfl) ?_
        refine get_f (D := D) (ci := 6) (v := .long x_p0_name) (C := RX6) (T := TX6) (N := 12) hx hb hw inAX6 hown hK hP 2 rfl rfl 5 (by decide) (hw _ q_101) (fun _ h9 => h9) e_p0_name dX1_readName_46 ?_
        obtain ⟨g19, eg19⟩ : ∃ z : Nat → Int64, vp_updL f_manName p2.toNatClampNeg x_p0_name = z := ⟨_, rfl⟩
        refine last_g hx hb hK hP hD hS 3 1 rfl rfl (ix_k i_p2 (by decide) (by decide)) eg19 dX1_readName_49 (fun H locs hP hD hS => ?_)
        have hP : va_P D vwCl [(h_p0_bytes, .inl (cB, 940, .inl f_p0_bytes)), (h_p0_wordNames, .inl (cJ, 23, .inr (.inl f_p0_wordNames))), (p0, .inr (6, vL 12 F_p0_)), (h_manName, .inl (cJ, 12, .inr (.inl g19))), (h0, .inr (1, vL 18 Fh)), (h_runnerName, .inl (cJ, 6, .inr (.inl f_runnerName)))] H := hP
        have hD : va_D A [(h_p0_bytes, .inl (cB, 940, .inl f_p0_bytes)), (h_p0_wordNames, .inl (cJ, 23, .inr (.inl f_p0_wordNames))), (p0, .inr (6, vL 12 F_p0_)), (h_manName, .inl (cJ, 12, .inr (.inl g19))), (h0, .inr (1, vL 18 Fh)), (h_runnerName, .inl (cJ, 6, .inr (.inl f_runnerName)))] := hD
        refine lv_aload_n hx hb dX1_readName_50 rfl (lv_at hl 1 rfl) ?_
        refine call_Vv (wr := [(h_manName, .inl (cJ, 12, .inr (.inl g19))), (h0, .inr (1, vL 18 Fh)), (h_runnerName, .inl (cJ, 6, .inr (.inl f_runnerName)))]) (As := []) (rest := []) hx hb hml hown hw (m_X6_advance l D cI cJ cB cP cM cZ p0 h_p0_bytes h_p0_wordNames F_p0_ x_p0_length x_p0_value x_p0_name x_p0_at x_p0_mostBytes f_p0_bytes f_p0_wordNames _ e_p0_bytes e_p0_length i_x_p0_length e_p0_value e_p0_name e_p0_wordNames e_p0_at i_x_p0_at e_p0_mostBytes) wV_X1_131_X6_advance dX1_readName_51 hK hP hD hS hA [2, 0, 1] [3, 4, 5] rfl rfl (by decide) (by decide) (by decide) 0 6 rfl rfl GG.fb hG.at hl.1 rfl (Nat.le_of_ble_eq_true rfl) ⟨(Nat.le_of_ble_eq_true rfl), (Nat.le_of_ble_eq_true rfl)⟩ ⟨(Nat.le_of_ble_eq_true rfl), (Nat.le_of_ble_eq_true rfl)⟩ (fun u H locs hp hP hD hS => ?_)
        obtain ⟨F21, y22, y23, y24, y25, y26, t27, t28, t29, t30, t31, t32, t33, t34, rfl⟩ := hp
        have hP : va_P D vwCl [(h_manName, .inl (cJ, 12, .inr (.inl g19))), (h0, .inr (1, vL 18 Fh)), (h_runnerName, .inl (cJ, 6, .inr (.inl f_runnerName))), (p0, .inr (6, vL 12 F21)), (h_p0_bytes, .inl (cB, 940, .inl f_p0_bytes)), (h_p0_wordNames, .inl (cJ, 23, .inr (.inl f_p0_wordNames)))] H := hP
        have hD : va_D A [(h_manName, .inl (cJ, 12, .inr (.inl g19))), (h0, .inr (1, vL 18 Fh)), (h_runnerName, .inl (cJ, 6, .inr (.inl f_runnerName))), (p0, .inr (6, vL 12 F21)), (h_p0_bytes, .inl (cB, 940, .inl f_p0_bytes)), (h_p0_wordNames, .inl (cJ, 23, .inr (.inl f_p0_wordNames)))] := hD
        refine W.widen (k := 0) (n := 0) (Nat.le_of_ble_eq_true rfl) (Nat.le_of_ble_eq_true rfl) ?_
        refine lv_iconst (v := 1) hx hb dX1_readName_54 (by decide) ?_
        exact ret_i (v := 1) hx hb hr hlocks hS (hP.sub (ws' := [(h0, .inr (1, vL 18 Fh)), (h_manName, .inl (cJ, 12, .inr (.inl g19))), (h_runnerName, .inl (cJ, 6, .inr (.inl f_runnerName))), (p0, .inr (6, vL 12 F21)), (h_p0_bytes, .inl (cB, 940, .inl f_p0_bytes)), (h_p0_wordNames, .inl (cJ, 23, .inr (.inl f_p0_wordNames)))]) [1, 0, 2, 3, 4, 5] rfl) (hD.sub (ws' := [(h0, .inr (1, vL 18 Fh)), (h_manName, .inl (cJ, 12, .inr (.inl g19))), (h_runnerName, .inl (cJ, 6, .inr (.inl f_runnerName))), (p0, .inr (6, vL 12 F21)), (h_p0_bytes, .inl (cB, 940, .inl f_p0_bytes)), (h_p0_wordNames, .inl (cJ, 23, .inr (.inl f_p0_wordNames)))]) [1, 0, 2, 3, 4, 5] (by decide) rfl) dX1_readName_55 rfl (Nat.le_of_ble_eq_true rfl) (Nat.le_of_ble_eq_true rfl) ⟨F21, y22, y23, y24, y25, x_p0_faultKind, x_p0_faultPlace, y26, g19, (SAME.tr SAME.rf t27 (by decide)), t28, t29, t31, t32, (SAME.at t27 (by decide) e_p0_faultKind), (SAME.at t27 (by decide) e_p0_faultPlace), t33, t34, ⟨by decide, by decide⟩, rfl⟩
      · have dc17 : r15.toInt ≠ (-1) := ne_i (a := r15.toInt) (b := (-1)) rfl rfl c17
        have k35 : 0 ≤ r15.toInt ∧ r15.toInt ≤ 5 := ⟨ne_lo dc17 t16.1 ⟨Int.le_refl _, Int.le_refl _⟩ (by decide), t16.2⟩
        refine lv_aload_n hx hb dX1_readName_37 rfl (lv_at hl 1 rfl) ?_
        refine lv_iconst (v := 3) hx hb dX1_readName_38 (by decide) ?_
        refine call_Vi (wr := [(h_p0_bytes, .inl (cB, 940, .inl f_p0_bytes)), (h_p0_wordNames, .inl (cJ, 23, .inr (.inl f_p0_wordNames))), (h_manName, .inl (cJ, 12, .inr (.inl f_manName))), (h0, .inr (1, vL 18 Fh)), (h_runnerName, .inl (cJ, 6, .inr (.inl f_runnerName)))]) (As := [.int 3]) (rest := []) hx hb hml hown hw (m_X6_fail l D cI cJ cB cP cM cZ p0 F_p0_ x_p0_place 3 _ e_p0_place) wV_X1_128_X6_fail dX1_readName_39 hK hP hD hS hA [2] [0, 1, 3, 4, 5] rfl rfl (by decide) (by decide) (by decide) 0 6 rfl rfl GG.fb hG.at hl.1 rfl (Nat.le_of_ble_eq_true rfl) ⟨(Nat.le_of_ble_eq_true rfl), (Nat.le_of_ble_eq_true rfl)⟩ ⟨(Nat.le_of_ble_eq_true rfl), (Nat.le_of_ble_eq_true rfl)⟩ (fun r36 u H locs hp hP hD hS => ?_)
        obtain ⟨F37, t38, t39, t40, rfl, rfl⟩ := hp
        have hP : va_P D vwCl [(h_p0_bytes, .inl (cB, 940, .inl f_p0_bytes)), (h_p0_wordNames, .inl (cJ, 23, .inr (.inl f_p0_wordNames))), (h_manName, .inl (cJ, 12, .inr (.inl f_manName))), (h0, .inr (1, vL 18 Fh)), (h_runnerName, .inl (cJ, 6, .inr (.inl f_runnerName))), (p0, .inr (6, vL 12 F37))] H := hP
        have hD : va_D A [(h_p0_bytes, .inl (cB, 940, .inl f_p0_bytes)), (h_p0_wordNames, .inl (cJ, 23, .inr (.inl f_p0_wordNames))), (h_manName, .inl (cJ, 12, .inr (.inl f_manName))), (h0, .inr (1, vL 18 Fh)), (h_runnerName, .inl (cJ, 6, .inr (.inl f_runnerName))), (p0, .inr (6, vL 12 F37))] := hD
        refine W.widen (k := 0) (n := 0) (Nat.le_of_ble_eq_true rfl) (Nat.le_of_ble_eq_true rfl) ?_
        exact ret_i (v := 0) hx hb hr hlocks hS (hP.sub (ws' := [(h0, .inr (1, vL 18 Fh)), (h_manName, .inl (cJ, 12, .inr (.inl f_manName))), (h_runnerName, .inl (cJ, 6, .inr (.inl f_runnerName))), (p0, .inr (6, vL 12 F37)), (h_p0_bytes, .inl (cB, 940, .inl f_p0_bytes)), (h_p0_wordNames, .inl (cJ, 23, .inr (.inl f_p0_wordNames)))]) [3, 2, 4, 5, 0, 1] rfl) (hD.sub (ws' := [(h0, .inr (1, vL 18 Fh)), (h_manName, .inl (cJ, 12, .inr (.inl f_manName))), (h_runnerName, .inl (cJ, 6, .inr (.inl f_runnerName))), (p0, .inr (6, vL 12 F37)), (h_p0_bytes, .inl (cB, 940, .inl f_p0_bytes)), (h_p0_wordNames, .inl (cJ, 23, .inr (.inl f_p0_wordNames)))]) [3, 2, 4, 5, 0, 1] (by decide) rfl) dX1_readName_42 rfl (Nat.le_of_ble_eq_true rfl) (Nat.le_of_ble_eq_true rfl) ⟨F37, x_p0_kind, x_p0_place, x_p0_value, x_p0_name, 3, x_p0_place, x_p0_at, f_manName, (SAME.tr SAME.rf t38 (by decide)), (SAME.at t38 (by decide) e_p0_kind), (SAME.at t38 (by decide) e_p0_place), (SAME.at t38 (by decide) e_p0_value), (SAME.at t38 (by decide) e_p0_name), t39, t40, (SAME.at t38 (by decide) e_p0_at), i_x_p0_at, ⟨by decide, by decide⟩, rfl⟩
  · have dc3 : r1.toInt = 0 := eq_i (a := r1.toInt) (b := 0) rfl rfl c3
    have k41 : 0 ≤ r1.toInt ∧ r1.toInt ≤ 0 := ⟨t2.1, Int.le_trans (Int.le_of_eq dc3) (Int.le_refl _)⟩
    refine lv_aload_n hx hb dX1_readName_7 rfl (lv_at hl 1 rfl) ?_
    refine lv_iconst (v := 1) hx hb dX1_readName_8 (by decide) ?_
    refine call_Vi (wr := [(h0, .inr (1, vL 18 Fh)), (h_manName, .inl (cJ, 12, .inr (.inl f_manName))), (h_runnerName, .inl (cJ, 6, .inr (.inl f_runnerName))), (h_p0_bytes, .inl (cB, 940, .inl f_p0_bytes)), (h_p0_wordNames, .inl (cJ, 23, .inr (.inl f_p0_wordNames)))]) (As := [.int 1]) (rest := []) hx hb hml hown hw (m_X6_fail l D cI cJ cB cP cM cZ p0 F_p0_ x_p0_place 1 _ e_p0_place) wV_X1_128_X6_fail dX1_readName_9 hK hP hD hS hA [5] [0, 1, 2, 3, 4] rfl rfl (by decide) (by decide) (by decide) 0 6 rfl rfl GG.fb hG.at hl.1 rfl (Nat.le_of_ble_eq_true rfl) ⟨(Nat.le_of_ble_eq_true rfl), (Nat.le_of_ble_eq_true rfl)⟩ ⟨(Nat.le_of_ble_eq_true rfl), (Nat.le_of_ble_eq_true rfl)⟩ (fun r42 u H locs hp hP hD hS => ?_)
    obtain ⟨F43, t44, t45, t46, rfl, rfl⟩ := hp
    have hP : va_P D vwCl [(h0, .inr (1, vL 18 Fh)), (h_manName, .inl (cJ, 12, .inr (.inl f_manName))), (h_runnerName, .inl (cJ, 6, .inr (.inl f_runnerName))), (h_p0_bytes, .inl (cB, 940, .inl f_p0_bytes)), (h_p0_wordNames, .inl (cJ, 23, .inr (.inl f_p0_wordNames))), (p0, .inr (6, vL 12 F43))] H := hP
    have hD : va_D A [(h0, .inr (1, vL 18 Fh)), (h_manName, .inl (cJ, 12, .inr (.inl f_manName))), (h_runnerName, .inl (cJ, 6, .inr (.inl f_runnerName))), (h_p0_bytes, .inl (cB, 940, .inl f_p0_bytes)), (h_p0_wordNames, .inl (cJ, 23, .inr (.inl f_p0_wordNames))), (p0, .inr (6, vL 12 F43))] := hD
    refine W.widen (k := 0) (n := 0) (Nat.le_of_ble_eq_true rfl) (Nat.le_of_ble_eq_true rfl) ?_
    exact ret_i (v := 0) hx hb hr hlocks hS (hP.sub (ws' := [(h0, .inr (1, vL 18 Fh)), (h_manName, .inl (cJ, 12, .inr (.inl f_manName))), (h_runnerName, .inl (cJ, 6, .inr (.inl f_runnerName))), (p0, .inr (6, vL 12 F43)), (h_p0_bytes, .inl (cB, 940, .inl f_p0_bytes)), (h_p0_wordNames, .inl (cJ, 23, .inr (.inl f_p0_wordNames)))]) [0, 1, 2, 5, 3, 4] rfl) (hD.sub (ws' := [(h0, .inr (1, vL 18 Fh)), (h_manName, .inl (cJ, 12, .inr (.inl f_manName))), (h_runnerName, .inl (cJ, 6, .inr (.inl f_runnerName))), (p0, .inr (6, vL 12 F43)), (h_p0_bytes, .inl (cB, 940, .inl f_p0_bytes)), (h_p0_wordNames, .inl (cJ, 23, .inr (.inl f_p0_wordNames)))]) [0, 1, 2, 5, 3, 4] (by decide) rfl) dX1_readName_12 rfl (Nat.le_of_ble_eq_true rfl) (Nat.le_of_ble_eq_true rfl) ⟨F43, x_p0_kind, x_p0_place, x_p0_value, x_p0_name, 1, x_p0_place, x_p0_at, f_manName, (SAME.tr SAME.rf t44 (by decide)), (SAME.at t44 (by decide) e_p0_kind), (SAME.at t44 (by decide) e_p0_place), (SAME.at t44 (by decide) e_p0_value), (SAME.at t44 (by decide) e_p0_name), t45, t46, (SAME.at t44 (by decide) e_p0_at), i_x_p0_at, ⟨by decide, by decide⟩, rfl⟩
set_option maxHeartbeats 4000000 in
set_option maxRecDepth 100000 in
theorem m_X6_takeInto_12 (l : Launch) (D : va_G) (cI cJ cB cP cM cZ : ClassId) (h0 : Nat) (h_bytes : Nat) (h_wordNames : Nat) (p0 : Nat) (Fh : Nat → Value) (x_length : Int32) (x_kind : Int32) (x_place : Int32) (x_value : Int32) (x_name : Int64) (x_faultKind : Int32) (x_faultPlace : Int32) (x_at : Int32) (x_mostBytes : Int32) (f_bytes : Nat → Int32) (f_wordNames : Nat → Int64) (f_p0 : Nat → Int32) (p1 : Int32) (p2 : Int32) (p3 : Int32) (sz : Nat) (e_bytes : Fh 0 = .ref h_bytes) (e_length : Fh 1 = .int x_length) (i_x_length : IR 0 940 x_length) (e_kind : Fh 2 = .int x_kind) (e_place : Fh 3 = .int x_place) (e_value : Fh 4 = .int x_value) (e_name : Fh 5 = .long x_name) (e_faultKind : Fh 7 = .int x_faultKind) (e_faultPlace : Fh 8 = .int x_faultPlace) (e_wordNames : Fh 9 = .ref h_wordNames) (e_at : Fh 10 = .int x_at) (i_x_at : IR 0 940 x_at) (e_mostBytes : Fh 11 = .int x_mostBytes) : CI l yX6_takeInto cX6_takeInto 5 (some .boolean) { frames := 2, cells := 0, slots := 0, locals := 43 } (GG D cI cJ cB cP cM cZ) D [(h0, .inr (6, vL 12 Fh)), (h_bytes, .inl (cB, 940, .inl f_bytes)), (h_wordNames, .inl (cJ, 23, .inr (.inl f_wordNames))), (p0, .inl (cI, 12, .inl f_p0))] sz [.ref h0, .ref p0, .int p1, .int p2, .int p3] (fun (r : Int32) (u : va_W) => ∃ (Gh : Nat → Value) (y_kind : Int32) (y_place : Int32) (y_value : Int32) (y_name : Int64) (y_faultKind : Int32) (y_faultPlace : Int32) (y_at : Int32) (g_p0 : Nat → Int32), SAME [2, 3, 4, 5, 7, 8, 10] Fh Gh ∧ Gh 2 = .int y_kind ∧ Gh 3 = .int y_place ∧ Gh 4 = .int y_value ∧ Gh 5 = .long y_name ∧ Gh 7 = .int y_faultKind ∧ Gh 8 = .int y_faultPlace ∧ Gh 10 = .int y_at ∧ IR 0 940 y_at ∧ IR 0 1 r ∧ u = [(h0, .inr (6, vL 12 Gh)), (h_bytes, .inl (cB, 940, .inl f_bytes)), (h_wordNames, .inl (cJ, 23, .inr (.inl f_wordNames))), (p0, .inl (cI, 12, .inl g_p0))]) := by
  refine CI_mk (by decide) (Nat.le_of_ble_eq_true rfl) ?_
  intro p e s m below meth c A ls E hAe hG hsz hP hD hA hS hl
  obtain ⟨hx, hb, hr, hw, hown, hlocks, hml, hnm⟩ := E
  have hK := hG.1
  have i_x_length : 0 ≤ x_length.toInt ∧ x_length.toInt ≤ 940 := i_x_length
  have i_x_at : 0 ≤ x_at.toInt ∧ x_at.toInt ≤ 940 := i_x_at
  have hl : lv_has ls 5 [(0, .ref h0), (1, .ref p0), (2, .int p1), (3, .int p2), (4, .int p3)] := hl
  refine lv_iload_n hx hb dX6_takeInto_0 rfl (lv_at hl 2 rfl) ?_
  refine lv_if_lt (tgt := 10) hx hb dX6_takeInto_1 (by decide) (fun c1 => ?_) (fun c1 => ?_)
  · have dc1 : p1.toInt < 0 := lt_i (a := p1.toInt) (b := 0) rfl rfl c1
    have k2 : (-2147483648) ≤ p1.toInt ∧ p1.toInt ≤ (-1) := ⟨(ir_any _).1, up_lt dc1 (Int.le_refl _) (by decide)⟩
    refine lv_aload_n hx hb dX6_takeInto_10 rfl (lv_at hl 0 rfl) ?_
    refine lv_iconst (v := 4) hx hb dX6_takeInto_11 (by decide) ?_
    refine call_Vi (wr := [(h_bytes, .inl (cB, 940, .inl f_bytes)), (h_wordNames, .inl (cJ, 23, .inr (.inl f_wordNames))), (p0, .inl (cI, 12, .inl f_p0))]) (As := [.int 4]) (rest := []) hx hb hml hown hw (m_X6_fail l D cI cJ cB cP cM cZ h0 Fh x_place 4 _ e_place) wV_X6_80_X6_fail dX6_takeInto_12 hK hP hD hS hA [0] [1, 2, 3] rfl rfl (by decide) (by decide) (by decide) 0 6 rfl rfl GG.fb hG.at hl.1 rfl (Nat.le_of_ble_eq_true rfl) ⟨(Nat.le_of_ble_eq_true rfl), (Nat.le_of_ble_eq_true rfl)⟩ ⟨(Nat.le_of_ble_eq_true rfl), (Nat.le_of_ble_eq_true rfl)⟩ (fun r3 u H locs hp hP hD hS => ?_)
    obtain ⟨F4, t5, t6, t7, rfl, rfl⟩ := hp
    have hP : va_P D vwCl [(h_bytes, .inl (cB, 940, .inl f_bytes)), (h_wordNames, .inl (cJ, 23, .inr (.inl f_wordNames))), (p0, .inl (cI, 12, .inl f_p0)), (h0, .inr (6, vL 12 F4))] H := hP
    have hD : va_D A [(h_bytes, .inl (cB, 940, .inl f_bytes)), (h_wordNames, .inl (cJ, 23, .inr (.inl f_wordNames))), (p0, .inl (cI, 12, .inl f_p0)), (h0, .inr (6, vL 12 F4))] := hD
    refine W.widen (k := 0) (n := 0) (Nat.le_of_ble_eq_true rfl) (Nat.le_of_ble_eq_true rfl) ?_
    exact ret_i (v := 0) hx hb hr hlocks hS (hP.sub (ws' := [(h0, .inr (6, vL 12 F4)), (h_bytes, .inl (cB, 940, .inl f_bytes)), (h_wordNames, .inl (cJ, 23, .inr (.inl f_wordNames))), (p0, .inl (cI, 12, .inl f_p0))]) [3, 0, 1, 2] rfl) (hD.sub (ws' := [(h0, .inr (6, vL 12 F4)), (h_bytes, .inl (cB, 940, .inl f_bytes)), (h_wordNames, .inl (cJ, 23, .inr (.inl f_wordNames))), (p0, .inl (cI, 12, .inl f_p0))]) [3, 0, 1, 2] (by decide) rfl) dX6_takeInto_15 rfl (Nat.le_of_ble_eq_true rfl) (Nat.le_of_ble_eq_true rfl) ⟨F4, x_kind, x_place, x_value, x_name, 4, x_place, x_at, f_p0, (SAME.tr SAME.rf t5 (by decide)), (SAME.at t5 (by decide) e_kind), (SAME.at t5 (by decide) e_place), (SAME.at t5 (by decide) e_value), (SAME.at t5 (by decide) e_name), t6, t7, (SAME.at t5 (by decide) e_at), i_x_at, ⟨by decide, by decide⟩, rfl⟩
  · have dc1 : 0 ≤ p1.toInt := nlt_i (a := p1.toInt) (b := 0) rfl rfl c1
    have k8 : 0 ≤ p1.toInt ∧ p1.toInt ≤ 2147483647 := ⟨Int.le_trans (Int.le_refl _) dc1, (ir_any _).2⟩
    refine lv_iload_n hx hb dX6_takeInto_4 rfl (lv_at hl 2 rfl) ?_
    refine lv_aload_n hx hb dX6_takeInto_5 rfl (lv_at hl 1 rfl) ?_
    refine va_alen (v := 12) hx hb hK hP 3 0 rfl rfl rfl dX6_takeInto_6 ?_
    refine lv_icmp_lt (tgt := 16) hx hb dX6_takeInto_7 (by decide) (fun c9 => ?_) (fun c9 => ?_)
    · have dc9 : p1.toInt < 12 := lt_i (a := p1.toInt) (b := 12) rfl rfl c9
      have k10 : 0 ≤ p1.toInt ∧ p1.toInt ≤ 11 := ⟨k8.1, up_lt dc9 (Int.le_refl _) (by decide)⟩
      refine lv_aload_n hx hb dX6_takeInto_16 rfl (lv_at hl 0 rfl) ?_
      refine lv_iload_n hx hb dX6_takeInto_17 rfl (lv_at hl 3 rfl) ?_
      refine lv_iload hx hb dX6_takeInto_18 (lv_at hl 4 rfl) ?_
      refine call_Vi (wr := [(h_bytes, .inl (cB, 940, .inl f_bytes)), (h_wordNames, .inl (cJ, 23, .inr (.inl f_wordNames))), (p0, .inl (cI, 12, .inl f_p0))]) (As := [.int p2, .int p3]) (rest := []) hx hb hml hown hw (m_X6_isNumberWithin l D cI cJ cB cP cM cZ h0 Fh x_kind x_place x_value p2 p3 _ e_kind e_place e_value) wV_X6_83_X6_isNumberWithin dX6_takeInto_20 hK hP hD hS hA [0] [1, 2, 3] rfl rfl (by decide) (by decide) (by decide) 0 6 rfl rfl GG.fb hG.at hl.1 rfl (Nat.le_of_ble_eq_true rfl) ⟨(Nat.le_of_ble_eq_true rfl), (Nat.le_of_ble_eq_true rfl)⟩ ⟨(Nat.le_of_ble_eq_true rfl), (Nat.le_of_ble_eq_true rfl)⟩ (fun r11 u H locs hp hP hD hS => ?_)
      rcases hp with ⟨F12, y13, t14, t15, t16, t17, rfl, rfl⟩ | ⟨t18, t19, t20, rfl, rfl⟩
      · have hP : va_P D vwCl [(h_bytes, .inl (cB, 940, .inl f_bytes)), (h_wordNames, .inl (cJ, 23, .inr (.inl f_wordNames))), (p0, .inl (cI, 12, .inl f_p0)), (h0, .inr (6, vL 12 F12))] H := hP
        have hD : va_D A [(h_bytes, .inl (cB, 940, .inl f_bytes)), (h_wordNames, .inl (cJ, 23, .inr (.inl f_wordNames))), (p0, .inl (cI, 12, .inl f_p0)), (h0, .inr (6, vL 12 F12))] := hD
        refine W.widen (k := 0) (n := 0) (Nat.le_of_ble_eq_true rfl) (Nat.le_of_ble_eq_true rfl) ?_
        refine lv_if_ne (tgt := 28) hx hb dX6_takeInto_23 (by decide) (fun g => absurd (by decide) g) (fun _ => ?_)
        refine lv_iconst (v := 0) hx hb dX6_takeInto_26 (by decide) ?_
        exact ret_i (v := 0) hx hb hr hlocks hS (hP.sub (ws' := [(h0, .inr (6, vL 12 F12)), (h_bytes, .inl (cB, 940, .inl f_bytes)), (h_wordNames, .inl (cJ, 23, .inr (.inl f_wordNames))), (p0, .inl (cI, 12, .inl f_p0))]) [3, 0, 1, 2] rfl) (hD.sub (ws' := [(h0, .inr (6, vL 12 F12)), (h_bytes, .inl (cB, 940, .inl f_bytes)), (h_wordNames, .inl (cJ, 23, .inr (.inl f_wordNames))), (p0, .inl (cI, 12, .inl f_p0))]) [3, 0, 1, 2] (by decide) rfl) dX6_takeInto_27 rfl (Nat.le_of_ble_eq_true rfl) (Nat.le_of_ble_eq_true rfl) ⟨F12, x_kind, x_place, x_value, x_name, y13, x_place, x_at, f_p0, (SAME.tr SAME.rf t14 (by decide)), (SAME.at t14 (by decide) e_kind), (SAME.at t14 (by decide) e_place), (SAME.at t14 (by decide) e_value), (SAME.at t14 (by decide) e_name), t15, t17, (SAME.at t14 (by decide) e_at), i_x_at, ⟨by decide, by decide⟩, rfl⟩
      · have hP : va_P D vwCl [(h_bytes, .inl (cB, 940, .inl f_bytes)), (h_wordNames, .inl (cJ, 23, .inr (.inl f_wordNames))), (p0, .inl (cI, 12, .inl f_p0)), (h0, .inr (6, vL 12 Fh))] H := hP
        have hD : va_D A [(h_bytes, .inl (cB, 940, .inl f_bytes)), (h_wordNames, .inl (cJ, 23, .inr (.inl f_wordNames))), (p0, .inl (cI, 12, .inl f_p0)), (h0, .inr (6, vL 12 Fh))] := hD
        refine W.widen (k := 0) (n := 0) (Nat.le_of_ble_eq_true rfl) (Nat.le_of_ble_eq_true rfl) ?_
        have k21 : 3 ≤ x_kind.toInt ∧ x_kind.toInt ≤ 3 := ⟨Int.le_trans (Int.le_refl _) (Int.le_of_eq t18.symm), Int.le_trans (Int.le_of_eq t18) (Int.le_refl _)⟩
        refine lv_if_ne (tgt := 28) hx hb dX6_takeInto_23 (by decide) (fun _ => ?_) (fun g => absurd g (by decide))
        refine lv_aload_n hx hb dX6_takeInto_28 rfl (lv_at hl 1 rfl) ?_
        refine lv_iload_n hx hb dX6_takeInto_29 rfl (lv_at hl 2 rfl) ?_
        refine lv_aload_n hx hb dX6_takeInto_30 rfl (lv_at hl 0 rfl) ?_
        refine get_f (D := D) (ci := 6) (v := .int x_value) (C := RX6) (T := TX6) (N := 12) hx hb hw inAX6 hown hK hP 3 rfl rfl 4 (by decide) (hw _ q_97) (fun _ h9 => h9) e_value dX6_takeInto_31 ?_
        obtain ⟨g22, eg22⟩ : ∃ z : Nat → Int32, upd f_p0 p1.toNatClampNeg x_value = z := ⟨_, rfl⟩
        refine iast_g hx hb hK hP hD hS 2 0 rfl rfl (ix_k k10 (by decide) (by decide)) eg22 dX6_takeInto_34 (fun H locs hP hD hS => ?_)
        have hP : va_P D vwCl [(h_bytes, .inl (cB, 940, .inl f_bytes)), (h_wordNames, .inl (cJ, 23, .inr (.inl f_wordNames))), (p0, .inl (cI, 12, .inl g22)), (h0, .inr (6, vL 12 Fh))] H := hP
        have hD : va_D A [(h_bytes, .inl (cB, 940, .inl f_bytes)), (h_wordNames, .inl (cJ, 23, .inr (.inl f_wordNames))), (p0, .inl (cI, 12, .inl g22)), (h0, .inr (6, vL 12 Fh))] := hD
        refine lv_aload_n hx hb dX6_takeInto_35 rfl (lv_at hl 0 rfl) ?_
        refine call_Vv (wr := [(p0, .inl (cI, 12, .inl g22))]) (As := []) (rest := []) hx hb hml hown hw (m_X6_advance l D cI cJ cB cP cM cZ h0 h_bytes h_wordNames Fh x_length x_value x_name x_at x_mostBytes f_bytes f_wordNames _ e_bytes e_length i_x_length e_value e_name e_wordNames e_at i_x_at e_mostBytes) wV_X6_66_X6_advance dX6_takeInto_36 hK hP hD hS hA [3, 0, 1] [2] rfl rfl (by decide) (by decide) (by decide) 0 6 rfl rfl GG.fb hG.at hl.1 rfl (Nat.le_of_ble_eq_true rfl) ⟨(Nat.le_of_ble_eq_true rfl), (Nat.le_of_ble_eq_true rfl)⟩ ⟨(Nat.le_of_ble_eq_true rfl), (Nat.le_of_ble_eq_true rfl)⟩ (fun u H locs hp hP hD hS => ?_)
        obtain ⟨F24, y25, y26, y27, y28, y29, t30, t31, t32, t33, t34, t35, t36, t37, rfl⟩ := hp
        have hP : va_P D vwCl [(p0, .inl (cI, 12, .inl g22)), (h0, .inr (6, vL 12 F24)), (h_bytes, .inl (cB, 940, .inl f_bytes)), (h_wordNames, .inl (cJ, 23, .inr (.inl f_wordNames)))] H := hP
        have hD : va_D A [(p0, .inl (cI, 12, .inl g22)), (h0, .inr (6, vL 12 F24)), (h_bytes, .inl (cB, 940, .inl f_bytes)), (h_wordNames, .inl (cJ, 23, .inr (.inl f_wordNames)))] := hD
        refine W.widen (k := 0) (n := 0) (Nat.le_of_ble_eq_true rfl) (Nat.le_of_ble_eq_true rfl) ?_
        refine lv_iconst (v := 1) hx hb dX6_takeInto_39 (by decide) ?_
        exact ret_i (v := 1) hx hb hr hlocks hS (hP.sub (ws' := [(h0, .inr (6, vL 12 F24)), (h_bytes, .inl (cB, 940, .inl f_bytes)), (h_wordNames, .inl (cJ, 23, .inr (.inl f_wordNames))), (p0, .inl (cI, 12, .inl g22))]) [1, 2, 3, 0] rfl) (hD.sub (ws' := [(h0, .inr (6, vL 12 F24)), (h_bytes, .inl (cB, 940, .inl f_bytes)), (h_wordNames, .inl (cJ, 23, .inr (.inl f_wordNames))), (p0, .inl (cI, 12, .inl g22))]) [1, 2, 3, 0] (by decide) rfl) dX6_takeInto_40 rfl (Nat.le_of_ble_eq_true rfl) (Nat.le_of_ble_eq_true rfl) ⟨F24, y25, y26, y27, y28, x_faultKind, x_faultPlace, y29, g22, (SAME.tr SAME.rf t30 (by decide)), t31, t32, t34, t35, (SAME.at t30 (by decide) e_faultKind), (SAME.at t30 (by decide) e_faultPlace), t36, t37, ⟨by decide, by decide⟩, rfl⟩
    · have dc9 : 12 ≤ p1.toInt := nlt_i (a := p1.toInt) (b := 12) rfl rfl c9
      have k38 : 12 ≤ p1.toInt ∧ p1.toInt ≤ 2147483647 := ⟨Int.le_trans (Int.le_refl _) dc9, k8.2⟩
      refine lv_aload_n hx hb dX6_takeInto_10 rfl (lv_at hl 0 rfl) ?_
      refine lv_iconst (v := 4) hx hb dX6_takeInto_11 (by decide) ?_
      refine call_Vi (wr := [(h_bytes, .inl (cB, 940, .inl f_bytes)), (h_wordNames, .inl (cJ, 23, .inr (.inl f_wordNames))), (p0, .inl (cI, 12, .inl f_p0))]) (As := [.int 4]) (rest := []) hx hb hml hown hw (m_X6_fail l D cI cJ cB cP cM cZ h0 Fh x_place 4 _ e_place) wV_X6_80_X6_fail dX6_takeInto_12 hK hP hD hS hA [0] [1, 2, 3] rfl rfl (by decide) (by decide) (by decide) 0 6 rfl rfl GG.fb hG.at hl.1 rfl (Nat.le_of_ble_eq_true rfl) ⟨(Nat.le_of_ble_eq_true rfl), (Nat.le_of_ble_eq_true rfl)⟩ ⟨(Nat.le_of_ble_eq_true rfl), (Nat.le_of_ble_eq_true rfl)⟩ (fun r39 u H locs hp hP hD hS => ?_)
      obtain ⟨F40, t41, t42, t43, rfl, rfl⟩ := hp
      have hP : va_P D vwCl [(h_bytes, .inl (cB, 940, .inl f_bytes)), (h_wordNames, .inl (cJ, 23, .inr (.inl f_wordNames))), (p0, .inl (cI, 12, .inl f_p0)), (h0, .inr (6, vL 12 F40))] H := hP
      have hD : va_D A [(h_bytes, .inl (cB, 940, .inl f_bytes)), (h_wordNames, .inl (cJ, 23, .inr (.inl f_wordNames))), (p0, .inl (cI, 12, .inl f_p0)), (h0, .inr (6, vL 12 F40))] := hD
      refine W.widen (k := 0) (n := 0) (Nat.le_of_ble_eq_true rfl) (Nat.le_of_ble_eq_true rfl) ?_
      exact ret_i (v := 0) hx hb hr hlocks hS (hP.sub (ws' := [(h0, .inr (6, vL 12 F40)), (h_bytes, .inl (cB, 940, .inl f_bytes)), (h_wordNames, .inl (cJ, 23, .inr (.inl f_wordNames))), (p0, .inl (cI, 12, .inl f_p0))]) [3, 0, 1, 2] rfl) (hD.sub (ws' := [(h0, .inr (6, vL 12 F40)), (h_bytes, .inl (cB, 940, .inl f_bytes)), (h_wordNames, .inl (cJ, 23, .inr (.inl f_wordNames))), (p0, .inl (cI, 12, .inl f_p0))]) [3, 0, 1, 2] (by decide) rfl) dX6_takeInto_15 rfl (Nat.le_of_ble_eq_true rfl) (Nat.le_of_ble_eq_true rfl) ⟨F40, x_kind, x_place, x_value, x_name, 4, x_place, x_at, f_p0, (SAME.tr SAME.rf t41 (by decide)), (SAME.at t41 (by decide) e_kind), (SAME.at t41 (by decide) e_place), (SAME.at t41 (by decide) e_value), (SAME.at t41 (by decide) e_name), t42, t43, (SAME.at t41 (by decide) e_at), i_x_at, ⟨by decide, by decide⟩, rfl⟩
set_option maxHeartbeats 4000000 in
set_option maxRecDepth 100000 in
theorem m_X1_readMan (l : Launch) (D : va_G) (cI cJ cB cP cM cZ : ClassId) (h0 : Nat) (h_manName : Nat) (h_push : Nat) (h_feet : Nat) (h_weight : Nat) (h_runnerName : Nat) (p0 : Nat) (h_p0_bytes : Nat) (h_p0_wordNames : Nat) (Fh : Nat → Value) (x_men : Int32) (x_runners : Int32) (f_manName : Nat → Int64) (f_push : Nat → Int32) (f_feet : Nat → Int32) (f_weight : Nat → Int32) (f_runnerName : Nat → Int64) (F_p0_ : Nat → Value) (x_p0_length : Int32) (x_p0_kind : Int32) (x_p0_place : Int32) (x_p0_value : Int32) (x_p0_name : Int64) (x_p0_faultKind : Int32) (x_p0_faultPlace : Int32) (x_p0_at : Int32) (x_p0_mostBytes : Int32) (f_p0_bytes : Nat → Int32) (f_p0_wordNames : Nat → Int64) (sz : Nat) (e_manName : Fh 2 = .ref h_manName) (e_push : Fh 3 = .ref h_push) (e_feet : Fh 4 = .ref h_feet) (e_weight : Fh 5 = .ref h_weight) (e_runnerName : Fh 10 = .ref h_runnerName) (e_men : Fh 13 = .int x_men) (i_x_men : IR 0 12 x_men) (e_runners : Fh 15 = .int x_runners) (i_x_runners : IR 0 6 x_runners) (e_p0_bytes : F_p0_ 0 = .ref h_p0_bytes) (e_p0_length : F_p0_ 1 = .int x_p0_length) (i_x_p0_length : IR 0 940 x_p0_length) (e_p0_kind : F_p0_ 2 = .int x_p0_kind) (e_p0_place : F_p0_ 3 = .int x_p0_place) (e_p0_value : F_p0_ 4 = .int x_p0_value) (e_p0_name : F_p0_ 5 = .long x_p0_name) (e_p0_faultKind : F_p0_ 7 = .int x_p0_faultKind) (e_p0_faultPlace : F_p0_ 8 = .int x_p0_faultPlace) (e_p0_wordNames : F_p0_ 9 = .ref h_p0_wordNames) (e_p0_at : F_p0_ 10 = .int x_p0_at) (i_x_p0_at : IR 0 940 x_p0_at) (e_p0_mostBytes : F_p0_ 11 = .int x_p0_mostBytes) : CI l yX1_readMan cX1_readMan 3 (some .boolean) { frames := 3, cells := 0, slots := 0, locals := 69 } (GG D cI cJ cB cP cM cZ) D [(h0, .inr (1, vL 18 Fh)), (h_manName, .inl (cJ, 12, .inr (.inl f_manName))), (h_push, .inl (cI, 12, .inl f_push)), (h_feet, .inl (cI, 12, .inl f_feet)), (h_weight, .inl (cI, 12, .inl f_weight)), (h_runnerName, .inl (cJ, 6, .inr (.inl f_runnerName))), (p0, .inr (6, vL 12 F_p0_)), (h_p0_bytes, .inl (cB, 940, .inl f_p0_bytes)), (h_p0_wordNames, .inl (cJ, 23, .inr (.inl f_p0_wordNames)))] sz [.ref h0, .ref p0] (fun (r : Int32) (u : va_W) => ∃ (Gh : Nat → Value) (y_men : Int32) (G_p0_ : Nat → Value) (y_p0_kind : Int32) (y_p0_place : Int32) (y_p0_value : Int32) (y_p0_name : Int64) (y_p0_faultKind : Int32) (y_p0_faultPlace : Int32) (y_p0_at : Int32) (g_manName : Nat → Int64) (g_push : Nat → Int32) (g_feet : Nat → Int32) (g_weight : Nat → Int32), SAME [13] Fh Gh ∧ Gh 13 = .int y_men ∧ IR 0 12 y_men ∧ SAME [2, 3, 4, 5, 7, 8, 10] F_p0_ G_p0_ ∧ G_p0_ 2 = .int y_p0_kind ∧ G_p0_ 3 = .int y_p0_place ∧ G_p0_ 4 = .int y_p0_value ∧ G_p0_ 5 = .long y_p0_name ∧ G_p0_ 7 = .int y_p0_faultKind ∧ G_p0_ 8 = .int y_p0_faultPlace ∧ G_p0_ 10 = .int y_p0_at ∧ IR 0 940 y_p0_at ∧ IR 0 1 r ∧ u = [(h0, .inr (1, vL 18 Gh)), (h_manName, .inl (cJ, 12, .inr (.inl g_manName))), (h_push, .inl (cI, 12, .inl g_push)), (h_feet, .inl (cI, 12, .inl g_feet)), (h_weight, .inl (cI, 12, .inl g_weight)), (h_runnerName, .inl (cJ, 6, .inr (.inl f_runnerName))), (p0, .inr (6, vL 12 G_p0_)), (h_p0_bytes, .inl (cB, 940, .inl f_p0_bytes)), (h_p0_wordNames, .inl (cJ, 23, .inr (.inl f_p0_wordNames)))]) := by
  refine CI_mk (by decide) (Nat.le_of_ble_eq_true rfl) ?_
  intro p e s m below meth c A ls E hAe hG hsz hP hD hA hS hl
  obtain ⟨hx, hb, hr, hw, hown, hlocks, hml, hnm⟩ := E
  have hK := hG.1
  have i_x_men : 0 ≤ x_men.toInt ∧ x_men.toInt ≤ 12 := i_x_men
  have i_x_runners : 0 ≤ x_runners.toInt ∧ x_runners.toInt ≤ 6 := i_x_runners
  have i_x_p0_length : 0 ≤ x_p0_length.toInt ∧ x_p0_length.toInt ≤ 940 := i_x_p0_length
  have i_x_p0_at : 0 ≤ x_p0_at.toInt ∧ x_p0_at.toInt ≤ 940 := i_x_p0_at
  have hl : lv_has ls 3 [(0, .ref h0), (1, .ref p0)] := hl
  refine lv_aload_n hx hb dX1_readMan_0 rfl (lv_at hl 0 rfl) ?_
  refine get_f (D := D) (ci := 1) (v := .int x_men) (C := RX1) (T := TX1) (N := 18) hx hb hw inAX1 hown hK hP 0 rfl rfl 13 (by decide) (hw _ q_352) (fun _ h9 => h9) e_men dX1_readMan_1 ?_
  refine lv_bipush (v := 12) hx hb dX1_readMan_4 (by decide) ?_
  refine lv_icmp_lt (tgt := 15) hx hb dX1_readMan_6 (by decide) (fun c1 => ?_) (fun c1 => ?_)
  · have dc1 : x_men.toInt < 12 := lt_i (a := x_men.toInt) (b := 12) rfl rfl c1
    have k2 : 0 ≤ x_men.toInt ∧ x_men.toInt ≤ 11 := ⟨i_x_men.1, up_lt dc1 (Int.le_refl _) (by decide)⟩
    refine lv_aload_n hx hb dX1_readMan_15 rfl (lv_at hl 1 rfl) ?_
    refine call_Vv (wr := [(h0, .inr (1, vL 18 Fh)), (h_manName, .inl (cJ, 12, .inr (.inl f_manName))), (h_push, .inl (cI, 12, .inl f_push)), (h_feet, .inl (cI, 12, .inl f_feet)), (h_weight, .inl (cI, 12, .inl f_weight)), (h_runnerName, .inl (cJ, 6, .inr (.inl f_runnerName)))]) (As := []) (rest := []) hx hb hml hown hw (m_X6_advance l D cI cJ cB cP cM cZ p0 h_p0_bytes h_p0_wordNames F_p0_ x_p0_length x_p0_value x_p0_name x_p0_at x_p0_mostBytes f_p0_bytes f_p0_wordNames _ e_p0_bytes e_p0_length i_x_p0_length e_p0_value e_p0_name e_p0_wordNames e_p0_at i_x_p0_at e_p0_mostBytes) wV_X1_131_X6_advance dX1_readMan_16 hK hP hD hS hA [6, 7, 8] [0, 1, 2, 3, 4, 5] rfl rfl (by decide) (by decide) (by decide) 0 6 rfl rfl GG.fb hG.at hl.1 rfl (Nat.le_of_ble_eq_true rfl) ⟨(Nat.le_of_ble_eq_true rfl), (Nat.le_of_ble_eq_true rfl)⟩ ⟨(Nat.le_of_ble_eq_true rfl), (Nat.le_of_ble_eq_true rfl)⟩ (fun u H locs hp hP hD hS => ?_)
    obtain ⟨F4, y5, y6, y7, y8, y9, t10, t11, t12, t13, t14, t15, t16, t17, rfl⟩ := hp
    have hP : va_P D vwCl [(h0, .inr (1, vL 18 Fh)), (h_manName, .inl (cJ, 12, .inr (.inl f_manName))), (h_push, .inl (cI, 12, .inl f_push)), (h_feet, .inl (cI, 12, .inl f_feet)), (h_weight, .inl (cI, 12, .inl f_weight)), (h_runnerName, .inl (cJ, 6, .inr (.inl f_runnerName))), (p0, .inr (6, vL 12 F4)), (h_p0_bytes, .inl (cB, 940, .inl f_p0_bytes)), (h_p0_wordNames, .inl (cJ, 23, .inr (.inl f_p0_wordNames)))] H := hP
    have hD : va_D A [(h0, .inr (1, vL 18 Fh)), (h_manName, .inl (cJ, 12, .inr (.inl f_manName))), (h_push, .inl (cI, 12, .inl f_push)), (h_feet, .inl (cI, 12, .inl f_feet)), (h_weight, .inl (cI, 12, .inl f_weight)), (h_runnerName, .inl (cJ, 6, .inr (.inl f_runnerName))), (p0, .inr (6, vL 12 F4)), (h_p0_bytes, .inl (cB, 940, .inl f_p0_bytes)), (h_p0_wordNames, .inl (cJ, 23, .inr (.inl f_p0_wordNames)))] := hD
    refine W.widen (k := 0) (n := 0) (Nat.le_of_ble_eq_true rfl) (Nat.le_of_ble_eq_true rfl) ?_
    refine lv_aload_n hx hb dX1_readMan_19 rfl (lv_at hl 0 rfl) ?_
    refine lv_aload_n hx hb dX1_readMan_20 rfl (lv_at hl 1 rfl) ?_
    refine lv_aload_n hx hb dX1_readMan_21 rfl (lv_at hl 0 rfl) ?_
    refine get_f (D := D) (ci := 1) (v := .ref h_manName) (C := RX1) (T := TX1) (N := 18) hx hb hw inAX1 hown hK hP 0 rfl rfl 2 (by decide) (hw _ q_320) (fun _ h9 => h9) e_manName dX1_readMan_22 ?_
    refine lv_aload_n hx hb dX1_readMan_25 rfl (lv_at hl 0 rfl) ?_
    refine get_f (D := D) (ci := 1) (v := .int x_men) (C := RX1) (T := TX1) (N := 18) hx hb hw inAX1 hown hK hP 0 rfl rfl 13 (by decide) (hw _ q_352) (fun _ h9 => h9) e_men dX1_readMan_26 ?_
    have n18 : F4 0 = .ref h_p0_bytes := (SAME.at t10 (by decide) e_p0_bytes)
    have n19 : F4 1 = .int x_p0_length := (SAME.at t10 (by decide) e_p0_length)
    have n20 : F4 7 = .int x_p0_faultKind := (SAME.at t10 (by decide) e_p0_faultKind)
    have n21 : F4 8 = .int x_p0_faultPlace := (SAME.at t10 (by decide) e_p0_faultPlace)
    have n22 : F4 9 = .ref h_p0_wordNames := (SAME.at t10 (by decide) e_p0_wordNames)
    have n23 : F4 11 = .int x_p0_mostBytes := (SAME.at t10 (by decide) e_p0_mostBytes)
    refine call_Vi (wr := [(h_push, .inl (cI, 12, .inl f_push)), (h_feet, .inl (cI, 12, .inl f_feet)), (h_weight, .inl (cI, 12, .inl f_weight))]) (As := [.ref p0, .ref h_manName, .int x_men]) (rest := []) hx hb hml hown hw (m_X1_readName_manName l D cI cJ cB cP cM cZ h0 h_manName h_runnerName p0 h_p0_bytes h_p0_wordNames Fh x_men x_runners f_manName f_runnerName F4 x_p0_length y5 y6 y7 y8 x_p0_faultKind x_p0_faultPlace y9 x_p0_mostBytes f_p0_bytes f_p0_wordNames x_men _ e_manName e_runnerName e_men (ir_wk k2 (by decide) (by decide)) e_runners i_x_runners n18 n19 i_x_p0_length t11 t12 t14 t15 n20 n21 n22 t16 t17 n23 k2) wV_X1_144_X1_readName dX1_readMan_29 hK hP hD hS hA [0, 1, 5, 6, 7, 8] [2, 3, 4] rfl rfl (by decide) (by decide) (by decide) 0 1 rfl rfl GG.fb hG.at hl.1 rfl (Nat.le_of_ble_eq_true rfl) ⟨(Nat.le_of_ble_eq_true rfl), (Nat.le_of_ble_eq_true rfl)⟩ ⟨(Nat.le_of_ble_eq_true rfl), (Nat.le_of_ble_eq_true rfl)⟩ (fun r24 u H locs hp hP hD hS => ?_)
    obtain ⟨F25, y26, y27, y28, y29, y30, y31, y32, g33, t34, t35, t36, t37, t38, t39, t40, t41, t42, t43, rfl⟩ := hp
    have hP : va_P D vwCl [(h_push, .inl (cI, 12, .inl f_push)), (h_feet, .inl (cI, 12, .inl f_feet)), (h_weight, .inl (cI, 12, .inl f_weight)), (h0, .inr (1, vL 18 Fh)), (h_manName, .inl (cJ, 12, .inr (.inl g33))), (h_runnerName, .inl (cJ, 6, .inr (.inl f_runnerName))), (p0, .inr (6, vL 12 F25)), (h_p0_bytes, .inl (cB, 940, .inl f_p0_bytes)), (h_p0_wordNames, .inl (cJ, 23, .inr (.inl f_p0_wordNames)))] H := hP
    have hD : va_D A [(h_push, .inl (cI, 12, .inl f_push)), (h_feet, .inl (cI, 12, .inl f_feet)), (h_weight, .inl (cI, 12, .inl f_weight)), (h0, .inr (1, vL 18 Fh)), (h_manName, .inl (cJ, 12, .inr (.inl g33))), (h_runnerName, .inl (cJ, 6, .inr (.inl f_runnerName))), (p0, .inr (6, vL 12 F25)), (h_p0_bytes, .inl (cB, 940, .inl f_p0_bytes)), (h_p0_wordNames, .inl (cJ, 23, .inr (.inl f_p0_wordNames)))] := hD
    refine W.widen (k := 0) (n := 0) (Nat.le_of_ble_eq_true rfl) (Nat.le_of_ble_eq_true rfl) ?_
    refine lv_if_eq (tgt := 95) hx hb dX1_readMan_32 (by decide) (fun c44 => ?_) (fun c44 => ?_)
    · have dc44 : r24.toInt = 0 := eq_i (a := r24.toInt) (b := 0) rfl rfl c44
      have k45 : 0 ≤ r24.toInt ∧ r24.toInt ≤ 0 := ⟨t43.1, Int.le_trans (Int.le_of_eq dc44) (Int.le_refl _)⟩
      refine lv_iconst (v := 0) hx hb dX1_readMan_95 (by decide) ?_
      refine lv_istore_n (lv' := [(2, .int 0), (0, .ref h0), (1, .ref p0)]) hx hb dX1_readMan_96 rfl hl (by decide) rfl (fun ls hl => ?_)
      refine lv_aload_n hx hb dX1_readMan_97 rfl (lv_at hl 1 rfl) ?_
      refine lv_dup hx hb dX1_readMan_98 rfl ?_
      refine get_f (D := D) (ci := 1) (v := .int x_men) (C := RX1) (T := TX1) (N := 18) hx hb hw inAX1 hown hK hP 3 rfl rfl 13 (by decide) (hw _ q_352) (fun _ h9 => h9) e_men dX1_readMan_99 ?_
      refine lv_iload_n hx hb dX1_readMan_102 rfl (lv_at hl 0 rfl) ?_
      refine lv_if_eq (tgt := 110) hx hb dX1_readMan_103 (by decide) (fun _ => ?_) (fun g => absurd (by decide) g)
      refine lv_iconst (v := 0) hx hb dX1_readMan_110 (by decide) ?_
      refine lv_iadd hx hb dX1_readMan_111 ?_
      refine lv_topi (fun v46 ev46 => ?_)
      have bv46 : v46.toInt = x_men.toInt + 0 := by rw [ev46]; exact add_k rfl rfl k2 ⟨Int.le_refl _, Int.le_refl _⟩ (by decide)
      have k47 : 0 ≤ v46.toInt ∧ v46.toInt ≤ 11 := add_r bv46 k2 ⟨Int.le_refl _, Int.le_refl _⟩ (by decide)
      refine put_f (D := D) (ci := 1) (v := .int v46) (ty := .int) (C := RX1) (T := TX1) (N := 18) hx hb hw inAX1 tyX1 tyX1_ok nmX1 hown hK hP hD hS 3 rfl rfl 13 (by decide) (hw _ q_352) (fun _ h9 => h9) rfl (by decide +kernel) rfl rfl dX1_readMan_112 (fun H locs F48 eF48 hP hD hS => ?_)
      have hP : va_P D vwCl [(h_push, .inl (cI, 12, .inl f_push)), (h_feet, .inl (cI, 12, .inl f_feet)), (h_weight, .inl (cI, 12, .inl f_weight)), (h0, .inr (1, vL 18 F48)), (h_manName, .inl (cJ, 12, .inr (.inl g33))), (h_runnerName, .inl (cJ, 6, .inr (.inl f_runnerName))), (p0, .inr (6, vL 12 F25)), (h_p0_bytes, .inl (cB, 940, .inl f_p0_bytes)), (h_p0_wordNames, .inl (cJ, 23, .inr (.inl f_p0_wordNames)))] H := hP
      have hD : va_D A [(h_push, .inl (cI, 12, .inl f_push)), (h_feet, .inl (cI, 12, .inl f_feet)), (h_weight, .inl (cI, 12, .inl f_weight)), (h0, .inr (1, vL 18 F48)), (h_manName, .inl (cJ, 12, .inr (.inl g33))), (h_runnerName, .inl (cJ, 6, .inr (.inl f_runnerName))), (p0, .inr (6, vL 12 F25)), (h_p0_bytes, .inl (cB, 940, .inl f_p0_bytes)), (h_p0_wordNames, .inl (cJ, 23, .inr (.inl f_p0_wordNames)))] := hD
      refine lv_iload_n hx hb dX1_readMan_115 rfl (lv_at hl 0 rfl) ?_
      exact ret_i (v := 0) hx hb hr hlocks hS (hP.sub (ws' := [(h0, .inr (1, vL 18 F48)), (h_manName, .inl (cJ, 12, .inr (.inl g33))), (h_push, .inl (cI, 12, .inl f_push)), (h_feet, .inl (cI, 12, .inl f_feet)), (h_weight, .inl (cI, 12, .inl f_weight)), (h_runnerName, .inl (cJ, 6, .inr (.inl f_runnerName))), (p0, .inr (6, vL 12 F25)), (h_p0_bytes, .inl (cB, 940, .inl f_p0_bytes)), (h_p0_wordNames, .inl (cJ, 23, .inr (.inl f_p0_wordNames)))]) [3, 4, 0, 1, 2, 5, 6, 7, 8] rfl) (hD.sub (ws' := [(h0, .inr (1, vL 18 F48)), (h_manName, .inl (cJ, 12, .inr (.inl g33))), (h_push, .inl (cI, 12, .inl f_push)), (h_feet, .inl (cI, 12, .inl f_feet)), (h_weight, .inl (cI, 12, .inl f_weight)), (h_runnerName, .inl (cJ, 6, .inr (.inl f_runnerName))), (p0, .inr (6, vL 12 F25)), (h_p0_bytes, .inl (cB, 940, .inl f_p0_bytes)), (h_p0_wordNames, .inl (cJ, 23, .inr (.inl f_p0_wordNames)))]) [3, 4, 0, 1, 2, 5, 6, 7, 8] (by decide) rfl) dX1_readMan_116 rfl (Nat.le_of_ble_eq_true rfl) (Nat.le_of_ble_eq_true rfl) ⟨F48, v46, F25, y26, y27, y28, y29, y30, y31, y32, g33, f_push, f_feet, f_weight, (SAME.up eF48 SAME.rf (by decide)), (get_eq eF48), (ir_wk k47 (by decide) (by decide)), (SAME.tr (SAME.tr SAME.rf t10 (by decide)) t34 (by decide)), t35, t36, t37, t38, t39, t40, t41, t42, ⟨by decide, by decide⟩, rfl⟩
    · have dc44 : r24.toInt ≠ 0 := ne_i (a := r24.toInt) (b := 0) rfl rfl c44
      have k49 : 1 ≤ r24.toInt ∧ r24.toInt ≤ 1 := ⟨ne_lo dc44 t43.1 ⟨Int.le_refl _, Int.le_refl _⟩ (by decide), t43.2⟩
      refine lv_aload_n hx hb dX1_readMan_35 rfl (lv_at hl 1 rfl) ?_
      refine lv_aload_n hx hb dX1_readMan_36 rfl (lv_at hl 0 rfl) ?_
      refine get_f (D := D) (ci := 1) (v := .ref h_push) (C := RX1) (T := TX1) (N := 18) hx hb hw inAX1 hown hK hP 3 rfl rfl 3 (by decide) (hw _ q_321) (fun _ h9 => h9) e_push dX1_readMan_37 ?_
      refine lv_aload_n hx hb dX1_readMan_40 rfl (lv_at hl 0 rfl) ?_
      refine get_f (D := D) (ci := 1) (v := .int x_men) (C := RX1) (T := TX1) (N := 18) hx hb hw inAX1 hown hK hP 3 rfl rfl 13 (by decide) (hw _ q_352) (fun _ h9 => h9) e_men dX1_readMan_41 ?_
      refine lv_iconst (v := 1) hx hb dX1_readMan_44 (by decide) ?_
      refine lv_bipush (v := 9) hx hb dX1_readMan_45 (by decide) ?_
      have n50 : F25 0 = .ref h_p0_bytes := (SAME.at t34 (by decide) n18)
      have n51 : F25 1 = .int x_p0_length := (SAME.at t34 (by decide) n19)
      have n52 : F25 9 = .ref h_p0_wordNames := (SAME.at t34 (by decide) n22)
      have n53 : F25 11 = .int x_p0_mostBytes := (SAME.at t34 (by decide) n23)
      refine call_Vi (wr := [(h_feet, .inl (cI, 12, .inl f_feet)), (h_weight, .inl (cI, 12, .inl f_weight)), (h0, .inr (1, vL 18 Fh)), (h_manName, .inl (cJ, 12, .inr (.inl g33))), (h_runnerName, .inl (cJ, 6, .inr (.inl f_runnerName)))]) (As := [.ref h_push, .int x_men, .int 1, .int 9]) (rest := []) hx hb hml hown hw (m_X6_takeInto_12 l D cI cJ cB cP cM cZ p0 h_p0_bytes h_p0_wordNames h_push F25 x_p0_length y26 y27 y28 y29 y30 y31 y32 x_p0_mostBytes f_p0_bytes f_p0_wordNames f_push x_men 1 9 _ n50 n51 i_x_p0_length t35 t36 t37 t38 t39 t40 n52 t41 t42 n53) wV_X1_140_X6_takeInto dX1_readMan_47 hK hP hD hS hA [6, 7, 8, 0] [1, 2, 3, 4, 5] rfl rfl (by decide) (by decide) (by decide) 0 6 rfl rfl GG.fb hG.at hl.1 rfl (Nat.le_of_ble_eq_true rfl) ⟨(Nat.le_of_ble_eq_true rfl), (Nat.le_of_ble_eq_true rfl)⟩ ⟨(Nat.le_of_ble_eq_true rfl), (Nat.le_of_ble_eq_true rfl)⟩ (fun r54 u H locs hp hP hD hS => ?_)
      obtain ⟨F55, y56, y57, y58, y59, y60, y61, y62, g63, t64, t65, t66, t67, t68, t69, t70, t71, t72, t73, rfl⟩ := hp
      have hP : va_P D vwCl [(h_feet, .inl (cI, 12, .inl f_feet)), (h_weight, .inl (cI, 12, .inl f_weight)), (h0, .inr (1, vL 18 Fh)), (h_manName, .inl (cJ, 12, .inr (.inl g33))), (h_runnerName, .inl (cJ, 6, .inr (.inl f_runnerName))), (p0, .inr (6, vL 12 F55)), (h_p0_bytes, .inl (cB, 940, .inl f_p0_bytes)), (h_p0_wordNames, .inl (cJ, 23, .inr (.inl f_p0_wordNames))), (h_push, .inl (cI, 12, .inl g63))] H := hP
      have hD : va_D A [(h_feet, .inl (cI, 12, .inl f_feet)), (h_weight, .inl (cI, 12, .inl f_weight)), (h0, .inr (1, vL 18 Fh)), (h_manName, .inl (cJ, 12, .inr (.inl g33))), (h_runnerName, .inl (cJ, 6, .inr (.inl f_runnerName))), (p0, .inr (6, vL 12 F55)), (h_p0_bytes, .inl (cB, 940, .inl f_p0_bytes)), (h_p0_wordNames, .inl (cJ, 23, .inr (.inl f_p0_wordNames))), (h_push, .inl (cI, 12, .inl g63))] := hD
      refine W.widen (k := 0) (n := 0) (Nat.le_of_ble_eq_true rfl) (Nat.le_of_ble_eq_true rfl) ?_
      refine lv_if_eq (tgt := 95) hx hb dX1_readMan_50 (by decide) (fun c74 => ?_) (fun c74 => ?_)
      · have dc74 : r54.toInt = 0 := eq_i (a := r54.toInt) (b := 0) rfl rfl c74
        have k75 : 0 ≤ r54.toInt ∧ r54.toInt ≤ 0 := ⟨t73.1, Int.le_trans (Int.le_of_eq dc74) (Int.le_refl _)⟩
        refine lv_iconst (v := 0) hx hb dX1_readMan_95 (by decide) ?_
        refine lv_istore_n (lv' := [(2, .int 0), (0, .ref h0), (1, .ref p0)]) hx hb dX1_readMan_96 rfl hl (by decide) rfl (fun ls hl => ?_)
        refine lv_aload_n hx hb dX1_readMan_97 rfl (lv_at hl 1 rfl) ?_
        refine lv_dup hx hb dX1_readMan_98 rfl ?_
        refine get_f (D := D) (ci := 1) (v := .int x_men) (C := RX1) (T := TX1) (N := 18) hx hb hw inAX1 hown hK hP 2 rfl rfl 13 (by decide) (hw _ q_352) (fun _ h9 => h9) e_men dX1_readMan_99 ?_
        refine lv_iload_n hx hb dX1_readMan_102 rfl (lv_at hl 0 rfl) ?_
        refine lv_if_eq (tgt := 110) hx hb dX1_readMan_103 (by decide) (fun _ => ?_) (fun g => absurd (by decide) g)
        refine lv_iconst (v := 0) hx hb dX1_readMan_110 (by decide) ?_
        refine lv_iadd hx hb dX1_readMan_111 ?_
        refine lv_topi (fun v76 ev76 => ?_)
        have bv76 : v76.toInt = x_men.toInt + 0 := by rw [ev76]; exact add_k rfl rfl k2 ⟨Int.le_refl _, Int.le_refl _⟩ (by decide)
        have k77 : 0 ≤ v76.toInt ∧ v76.toInt ≤ 11 := add_r bv76 k2 ⟨Int.le_refl _, Int.le_refl _⟩ (by decide)
        refine put_f (D := D) (ci := 1) (v := .int v76) (ty := .int) (C := RX1) (T := TX1) (N := 18) hx hb hw inAX1 tyX1 tyX1_ok nmX1 hown hK hP hD hS 2 rfl rfl 13 (by decide) (hw _ q_352) (fun _ h9 => h9) rfl (by decide +kernel) rfl rfl dX1_readMan_112 (fun H locs F78 eF78 hP hD hS => ?_)
        have hP : va_P D vwCl [(h_feet, .inl (cI, 12, .inl f_feet)), (h_weight, .inl (cI, 12, .inl f_weight)), (h0, .inr (1, vL 18 F78)), (h_manName, .inl (cJ, 12, .inr (.inl g33))), (h_runnerName, .inl (cJ, 6, .inr (.inl f_runnerName))), (p0, .inr (6, vL 12 F55)), (h_p0_bytes, .inl (cB, 940, .inl f_p0_bytes)), (h_p0_wordNames, .inl (cJ, 23, .inr (.inl f_p0_wordNames))), (h_push, .inl (cI, 12, .inl g63))] H := hP
        have hD : va_D A [(h_feet, .inl (cI, 12, .inl f_feet)), (h_weight, .inl (cI, 12, .inl f_weight)), (h0, .inr (1, vL 18 F78)), (h_manName, .inl (cJ, 12, .inr (.inl g33))), (h_runnerName, .inl (cJ, 6, .inr (.inl f_runnerName))), (p0, .inr (6, vL 12 F55)), (h_p0_bytes, .inl (cB, 940, .inl f_p0_bytes)), (h_p0_wordNames, .inl (cJ, 23, .inr (.inl f_p0_wordNames))), (h_push, .inl (cI, 12, .inl g63))] := hD
        refine lv_iload_n hx hb dX1_readMan_115 rfl (lv_at hl 0 rfl) ?_
        exact ret_i (v := 0) hx hb hr hlocks hS (hP.sub (ws' := [(h0, .inr (1, vL 18 F78)), (h_manName, .inl (cJ, 12, .inr (.inl g33))), (h_push, .inl (cI, 12, .inl g63)), (h_feet, .inl (cI, 12, .inl f_feet)), (h_weight, .inl (cI, 12, .inl f_weight)), (h_runnerName, .inl (cJ, 6, .inr (.inl f_runnerName))), (p0, .inr (6, vL 12 F55)), (h_p0_bytes, .inl (cB, 940, .inl f_p0_bytes)), (h_p0_wordNames, .inl (cJ, 23, .inr (.inl f_p0_wordNames)))]) [2, 3, 8, 0, 1, 4, 5, 6, 7] rfl) (hD.sub (ws' := [(h0, .inr (1, vL 18 F78)), (h_manName, .inl (cJ, 12, .inr (.inl g33))), (h_push, .inl (cI, 12, .inl g63)), (h_feet, .inl (cI, 12, .inl f_feet)), (h_weight, .inl (cI, 12, .inl f_weight)), (h_runnerName, .inl (cJ, 6, .inr (.inl f_runnerName))), (p0, .inr (6, vL 12 F55)), (h_p0_bytes, .inl (cB, 940, .inl f_p0_bytes)), (h_p0_wordNames, .inl (cJ, 23, .inr (.inl f_p0_wordNames)))]) [2, 3, 8, 0, 1, 4, 5, 6, 7] (by decide) rfl) dX1_readMan_116 rfl (Nat.le_of_ble_eq_true rfl) (Nat.le_of_ble_eq_true rfl) ⟨F78, v76, F55, y56, y57, y58, y59, y60, y61, y62, g33, g63, f_feet, f_weight, (SAME.up eF78 SAME.rf (by decide)), (get_eq eF78), (ir_wk k77 (by decide) (by decide)), (SAME.tr (SAME.tr (SAME.tr SAME.rf t10 (by decide)) t34 (by decide)) t64 (by decide)), t65, t66, t67, t68, t69, t70, t71, t72, ⟨by decide, by decide⟩, rfl⟩
      · have dc74 : r54.toInt ≠ 0 := ne_i (a := r54.toInt) (b := 0) rfl rfl c74
        have k79 : 1 ≤ r54.toInt ∧ r54.toInt ≤ 1 := ⟨ne_lo dc74 t73.1 ⟨Int.le_refl _, Int.le_refl _⟩ (by decide), t73.2⟩
        refine lv_aload_n hx hb dX1_readMan_53 rfl (lv_at hl 1 rfl) ?_
        refine lv_aload_n hx hb dX1_readMan_54 rfl (lv_at hl 0 rfl) ?_
        refine get_f (D := D) (ci := 1) (v := .ref h_feet) (C := RX1) (T := TX1) (N := 18) hx hb hw inAX1 hown hK hP 2 rfl rfl 4 (by decide) (hw _ q_326) (fun _ h9 => h9) e_feet dX1_readMan_55 ?_
        refine lv_aload_n hx hb dX1_readMan_58 rfl (lv_at hl 0 rfl) ?_
        refine get_f (D := D) (ci := 1) (v := .int x_men) (C := RX1) (T := TX1) (N := 18) hx hb hw inAX1 hown hK hP 2 rfl rfl 13 (by decide) (hw _ q_352) (fun _ h9 => h9) e_men dX1_readMan_59 ?_
        refine lv_iconst (v := 1) hx hb dX1_readMan_62 (by decide) ?_
        refine lv_bipush (v := 9) hx hb dX1_readMan_63 (by decide) ?_
        have n80 : F55 0 = .ref h_p0_bytes := (SAME.at t64 (by decide) n50)
        have n81 : F55 1 = .int x_p0_length := (SAME.at t64 (by decide) n51)
        have n82 : F55 9 = .ref h_p0_wordNames := (SAME.at t64 (by decide) n52)
        have n83 : F55 11 = .int x_p0_mostBytes := (SAME.at t64 (by decide) n53)
        refine call_Vi (wr := [(h_weight, .inl (cI, 12, .inl f_weight)), (h0, .inr (1, vL 18 Fh)), (h_manName, .inl (cJ, 12, .inr (.inl g33))), (h_runnerName, .inl (cJ, 6, .inr (.inl f_runnerName))), (h_push, .inl (cI, 12, .inl g63))]) (As := [.ref h_feet, .int x_men, .int 1, .int 9]) (rest := []) hx hb hml hown hw (m_X6_takeInto_12 l D cI cJ cB cP cM cZ p0 h_p0_bytes h_p0_wordNames h_feet F55 x_p0_length y56 y57 y58 y59 y60 y61 y62 x_p0_mostBytes f_p0_bytes f_p0_wordNames f_feet x_men 1 9 _ n80 n81 i_x_p0_length t65 t66 t67 t68 t69 t70 n82 t71 t72 n83) wV_X1_140_X6_takeInto dX1_readMan_65 hK hP hD hS hA [5, 6, 7, 0] [1, 2, 3, 4, 8] rfl rfl (by decide) (by decide) (by decide) 0 6 rfl rfl GG.fb hG.at hl.1 rfl (Nat.le_of_ble_eq_true rfl) ⟨(Nat.le_of_ble_eq_true rfl), (Nat.le_of_ble_eq_true rfl)⟩ ⟨(Nat.le_of_ble_eq_true rfl), (Nat.le_of_ble_eq_true rfl)⟩ (fun r84 u H locs hp hP hD hS => ?_)
        obtain ⟨F85, y86, y87, y88, y89, y90, y91, y92, g93, t94, t95, t96, t97, t98, t99, t100, t101, t102, t103, rfl⟩ := hp
        have hP : va_P D vwCl [(h_weight, .inl (cI, 12, .inl f_weight)), (h0, .inr (1, vL 18 Fh)), (h_manName, .inl (cJ, 12, .inr (.inl g33))), (h_runnerName, .inl (cJ, 6, .inr (.inl f_runnerName))), (h_push, .inl (cI, 12, .inl g63)), (p0, .inr (6, vL 12 F85)), (h_p0_bytes, .inl (cB, 940, .inl f_p0_bytes)), (h_p0_wordNames, .inl (cJ, 23, .inr (.inl f_p0_wordNames))), (h_feet, .inl (cI, 12, .inl g93))] H := hP
        have hD : va_D A [(h_weight, .inl (cI, 12, .inl f_weight)), (h0, .inr (1, vL 18 Fh)), (h_manName, .inl (cJ, 12, .inr (.inl g33))), (h_runnerName, .inl (cJ, 6, .inr (.inl f_runnerName))), (h_push, .inl (cI, 12, .inl g63)), (p0, .inr (6, vL 12 F85)), (h_p0_bytes, .inl (cB, 940, .inl f_p0_bytes)), (h_p0_wordNames, .inl (cJ, 23, .inr (.inl f_p0_wordNames))), (h_feet, .inl (cI, 12, .inl g93))] := hD
        refine W.widen (k := 0) (n := 0) (Nat.le_of_ble_eq_true rfl) (Nat.le_of_ble_eq_true rfl) ?_
        refine lv_if_eq (tgt := 95) hx hb dX1_readMan_68 (by decide) (fun c104 => ?_) (fun c104 => ?_)
        · have dc104 : r84.toInt = 0 := eq_i (a := r84.toInt) (b := 0) rfl rfl c104
          have k105 : 0 ≤ r84.toInt ∧ r84.toInt ≤ 0 := ⟨t103.1, Int.le_trans (Int.le_of_eq dc104) (Int.le_refl _)⟩
          refine lv_iconst (v := 0) hx hb dX1_readMan_95 (by decide) ?_
          refine lv_istore_n (lv' := [(2, .int 0), (0, .ref h0), (1, .ref p0)]) hx hb dX1_readMan_96 rfl hl (by decide) rfl (fun ls hl => ?_)
          refine lv_aload_n hx hb dX1_readMan_97 rfl (lv_at hl 1 rfl) ?_
          refine lv_dup hx hb dX1_readMan_98 rfl ?_
          refine get_f (D := D) (ci := 1) (v := .int x_men) (C := RX1) (T := TX1) (N := 18) hx hb hw inAX1 hown hK hP 1 rfl rfl 13 (by decide) (hw _ q_352) (fun _ h9 => h9) e_men dX1_readMan_99 ?_
          refine lv_iload_n hx hb dX1_readMan_102 rfl (lv_at hl 0 rfl) ?_
          refine lv_if_eq (tgt := 110) hx hb dX1_readMan_103 (by decide) (fun _ => ?_) (fun g => absurd (by decide) g)
          refine lv_iconst (v := 0) hx hb dX1_readMan_110 (by decide) ?_
          refine lv_iadd hx hb dX1_readMan_111 ?_
          refine lv_topi (fun v106 ev106 => ?_)
          have bv106 : v106.toInt = x_men.toInt + 0 := by rw [ev106]; exact add_k rfl rfl k2 ⟨Int.le_refl _, Int.le_refl _⟩ (by decide)
          have k107 : 0 ≤ v106.toInt ∧ v106.toInt ≤ 11 := add_r bv106 k2 ⟨Int.le_refl _, Int.le_refl _⟩ (by decide)
          refine put_f (D := D) (ci := 1) (v := .int v106) (ty := .int) (C := RX1) (T := TX1) (N := 18) hx hb hw inAX1 tyX1 tyX1_ok nmX1 hown hK hP hD hS 1 rfl rfl 13 (by decide) (hw _ q_352) (fun _ h9 => h9) rfl (by decide +kernel) rfl rfl dX1_readMan_112 (fun H locs F108 eF108 hP hD hS => ?_)
          have hP : va_P D vwCl [(h_weight, .inl (cI, 12, .inl f_weight)), (h0, .inr (1, vL 18 F108)), (h_manName, .inl (cJ, 12, .inr (.inl g33))), (h_runnerName, .inl (cJ, 6, .inr (.inl f_runnerName))), (h_push, .inl (cI, 12, .inl g63)), (p0, .inr (6, vL 12 F85)), (h_p0_bytes, .inl (cB, 940, .inl f_p0_bytes)), (h_p0_wordNames, .inl (cJ, 23, .inr (.inl f_p0_wordNames))), (h_feet, .inl (cI, 12, .inl g93))] H := hP
          have hD : va_D A [(h_weight, .inl (cI, 12, .inl f_weight)), (h0, .inr (1, vL 18 F108)), (h_manName, .inl (cJ, 12, .inr (.inl g33))), (h_runnerName, .inl (cJ, 6, .inr (.inl f_runnerName))), (h_push, .inl (cI, 12, .inl g63)), (p0, .inr (6, vL 12 F85)), (h_p0_bytes, .inl (cB, 940, .inl f_p0_bytes)), (h_p0_wordNames, .inl (cJ, 23, .inr (.inl f_p0_wordNames))), (h_feet, .inl (cI, 12, .inl g93))] := hD
          refine lv_iload_n hx hb dX1_readMan_115 rfl (lv_at hl 0 rfl) ?_
          exact ret_i (v := 0) hx hb hr hlocks hS (hP.sub (ws' := [(h0, .inr (1, vL 18 F108)), (h_manName, .inl (cJ, 12, .inr (.inl g33))), (h_push, .inl (cI, 12, .inl g63)), (h_feet, .inl (cI, 12, .inl g93)), (h_weight, .inl (cI, 12, .inl f_weight)), (h_runnerName, .inl (cJ, 6, .inr (.inl f_runnerName))), (p0, .inr (6, vL 12 F85)), (h_p0_bytes, .inl (cB, 940, .inl f_p0_bytes)), (h_p0_wordNames, .inl (cJ, 23, .inr (.inl f_p0_wordNames)))]) [1, 2, 4, 8, 0, 3, 5, 6, 7] rfl) (hD.sub (ws' := [(h0, .inr (1, vL 18 F108)), (h_manName, .inl (cJ, 12, .inr (.inl g33))), (h_push, .inl (cI, 12, .inl g63)), (h_feet, .inl (cI, 12, .inl g93)), (h_weight, .inl (cI, 12, .inl f_weight)), (h_runnerName, .inl (cJ, 6, .inr (.inl f_runnerName))), (p0, .inr (6, vL 12 F85)), (h_p0_bytes, .inl (cB, 940, .inl f_p0_bytes)), (h_p0_wordNames, .inl (cJ, 23, .inr (.inl f_p0_wordNames)))]) [1, 2, 4, 8, 0, 3, 5, 6, 7] (by decide) rfl) dX1_readMan_116 rfl (Nat.le_of_ble_eq_true rfl) (Nat.le_of_ble_eq_true rfl) ⟨F108, v106, F85, y86, y87, y88, y89, y90, y91, y92, g33, g63, g93, f_weight, (SAME.up eF108 SAME.rf (by decide)), (get_eq eF108), (ir_wk k107 (by decide) (by decide)), (SAME.tr (SAME.tr (SAME.tr (SAME.tr SAME.rf t10 (by decide)) t34 (by decide)) t64 (by decide)) t94 (by decide)), t95, t96, t97, t98, t99, t100, t101, t102, ⟨by decide, by decide⟩, rfl⟩
        · have dc104 : r84.toInt ≠ 0 := ne_i (a := r84.toInt) (b := 0) rfl rfl c104
          have k109 : 1 ≤ r84.toInt ∧ r84.toInt ≤ 1 := ⟨ne_lo dc104 t103.1 ⟨Int.le_refl _, Int.le_refl _⟩ (by decide), t103.2⟩
          refine lv_aload_n hx hb dX1_readMan_71 rfl (lv_at hl 1 rfl) ?_
          refine lv_aload_n hx hb dX1_readMan_72 rfl (lv_at hl 0 rfl) ?_
          refine get_f (D := D) (ci := 1) (v := .ref h_weight) (C := RX1) (T := TX1) (N := 18) hx hb hw inAX1 hown hK hP 1 rfl rfl 5 (by decide) (hw _ q_331) (fun _ h9 => h9) e_weight dX1_readMan_73 ?_
          refine lv_aload_n hx hb dX1_readMan_76 rfl (lv_at hl 0 rfl) ?_
          refine get_f (D := D) (ci := 1) (v := .int x_men) (C := RX1) (T := TX1) (N := 18) hx hb hw inAX1 hown hK hP 1 rfl rfl 13 (by decide) (hw _ q_352) (fun _ h9 => h9) e_men dX1_readMan_77 ?_
          refine lv_bipush (v := 50) hx hb dX1_readMan_80 (by decide) ?_
          refine lv_sipush (v := 150) hx hb dX1_readMan_82 (by decide) ?_
          have n110 : F85 0 = .ref h_p0_bytes := (SAME.at t94 (by decide) n80)
          have n111 : F85 1 = .int x_p0_length := (SAME.at t94 (by decide) n81)
          have n112 : F85 9 = .ref h_p0_wordNames := (SAME.at t94 (by decide) n82)
          have n113 : F85 11 = .int x_p0_mostBytes := (SAME.at t94 (by decide) n83)
          refine call_Vi (wr := [(h0, .inr (1, vL 18 Fh)), (h_manName, .inl (cJ, 12, .inr (.inl g33))), (h_runnerName, .inl (cJ, 6, .inr (.inl f_runnerName))), (h_push, .inl (cI, 12, .inl g63)), (h_feet, .inl (cI, 12, .inl g93))]) (As := [.ref h_weight, .int x_men, .int 50, .int 150]) (rest := []) hx hb hml hown hw (m_X6_takeInto_12 l D cI cJ cB cP cM cZ p0 h_p0_bytes h_p0_wordNames h_weight F85 x_p0_length y86 y87 y88 y89 y90 y91 y92 x_p0_mostBytes f_p0_bytes f_p0_wordNames f_weight x_men 50 150 _ n110 n111 i_x_p0_length t95 t96 t97 t98 t99 t100 n112 t101 t102 n113) wV_X1_140_X6_takeInto dX1_readMan_85 hK hP hD hS hA [5, 6, 7, 0] [1, 2, 3, 4, 8] rfl rfl (by decide) (by decide) (by decide) 0 6 rfl rfl GG.fb hG.at hl.1 rfl (Nat.le_of_ble_eq_true rfl) ⟨(Nat.le_of_ble_eq_true rfl), (Nat.le_of_ble_eq_true rfl)⟩ ⟨(Nat.le_of_ble_eq_true rfl), (Nat.le_of_ble_eq_true rfl)⟩ (fun r114 u H locs hp hP hD hS => ?_)
          obtain ⟨F115, y116, y117, y118, y119, y120, y121, y122, g123, t124, t125, t126, t127, t128, t129, t130, t131, t132, t133, rfl⟩ := hp
          have hP : va_P D vwCl [(h0, .inr (1, vL 18 Fh)), (h_manName, .inl (cJ, 12, .inr (.inl g33))), (h_runnerName, .inl (cJ, 6, .inr (.inl f_runnerName))), (h_push, .inl (cI, 12, .inl g63)), (h_feet, .inl (cI, 12, .inl g93)), (p0, .inr (6, vL 12 F115)), (h_p0_bytes, .inl (cB, 940, .inl f_p0_bytes)), (h_p0_wordNames, .inl (cJ, 23, .inr (.inl f_p0_wordNames))), (h_weight, .inl (cI, 12, .inl g123))] H := hP
          have hD : va_D A [(h0, .inr (1, vL 18 Fh)), (h_manName, .inl (cJ, 12, .inr (.inl g33))), (h_runnerName, .inl (cJ, 6, .inr (.inl f_runnerName))), (h_push, .inl (cI, 12, .inl g63)), (h_feet, .inl (cI, 12, .inl g93)), (p0, .inr (6, vL 12 F115)), (h_p0_bytes, .inl (cB, 940, .inl f_p0_bytes)), (h_p0_wordNames, .inl (cJ, 23, .inr (.inl f_p0_wordNames))), (h_weight, .inl (cI, 12, .inl g123))] := hD
          refine W.widen (k := 0) (n := 0) (Nat.le_of_ble_eq_true rfl) (Nat.le_of_ble_eq_true rfl) ?_
          refine lv_if_eq (tgt := 95) hx hb dX1_readMan_88 (by decide) (fun c134 => ?_) (fun c134 => ?_)
          · have dc134 : r114.toInt = 0 := eq_i (a := r114.toInt) (b := 0) rfl rfl c134
            have k135 : 0 ≤ r114.toInt ∧ r114.toInt ≤ 0 := ⟨t133.1, Int.le_trans (Int.le_of_eq dc134) (Int.le_refl _)⟩
            refine lv_iconst (v := 0) hx hb dX1_readMan_95 (by decide) ?_
            refine lv_istore_n (lv' := [(2, .int 0), (0, .ref h0), (1, .ref p0)]) hx hb dX1_readMan_96 rfl hl (by decide) rfl (fun ls hl => ?_)
            refine lv_aload_n hx hb dX1_readMan_97 rfl (lv_at hl 1 rfl) ?_
            refine lv_dup hx hb dX1_readMan_98 rfl ?_
            refine get_f (D := D) (ci := 1) (v := .int x_men) (C := RX1) (T := TX1) (N := 18) hx hb hw inAX1 hown hK hP 0 rfl rfl 13 (by decide) (hw _ q_352) (fun _ h9 => h9) e_men dX1_readMan_99 ?_
            refine lv_iload_n hx hb dX1_readMan_102 rfl (lv_at hl 0 rfl) ?_
            refine lv_if_eq (tgt := 110) hx hb dX1_readMan_103 (by decide) (fun _ => ?_) (fun g => absurd (by decide) g)
            refine lv_iconst (v := 0) hx hb dX1_readMan_110 (by decide) ?_
            refine lv_iadd hx hb dX1_readMan_111 ?_
            refine lv_topi (fun v136 ev136 => ?_)
            have bv136 : v136.toInt = x_men.toInt + 0 := by rw [ev136]; exact add_k rfl rfl k2 ⟨Int.le_refl _, Int.le_refl _⟩ (by decide)
            have k137 : 0 ≤ v136.toInt ∧ v136.toInt ≤ 11 := add_r bv136 k2 ⟨Int.le_refl _, Int.le_refl _⟩ (by decide)
            refine put_f (D := D) (ci := 1) (v := .int v136) (ty := .int) (C := RX1) (T := TX1) (N := 18) hx hb hw inAX1 tyX1 tyX1_ok nmX1 hown hK hP hD hS 0 rfl rfl 13 (by decide) (hw _ q_352) (fun _ h9 => h9) rfl (by decide +kernel) rfl rfl dX1_readMan_112 (fun H locs F138 eF138 hP hD hS => ?_)
            have hP : va_P D vwCl [(h0, .inr (1, vL 18 F138)), (h_manName, .inl (cJ, 12, .inr (.inl g33))), (h_runnerName, .inl (cJ, 6, .inr (.inl f_runnerName))), (h_push, .inl (cI, 12, .inl g63)), (h_feet, .inl (cI, 12, .inl g93)), (p0, .inr (6, vL 12 F115)), (h_p0_bytes, .inl (cB, 940, .inl f_p0_bytes)), (h_p0_wordNames, .inl (cJ, 23, .inr (.inl f_p0_wordNames))), (h_weight, .inl (cI, 12, .inl g123))] H := hP
            have hD : va_D A [(h0, .inr (1, vL 18 F138)), (h_manName, .inl (cJ, 12, .inr (.inl g33))), (h_runnerName, .inl (cJ, 6, .inr (.inl f_runnerName))), (h_push, .inl (cI, 12, .inl g63)), (h_feet, .inl (cI, 12, .inl g93)), (p0, .inr (6, vL 12 F115)), (h_p0_bytes, .inl (cB, 940, .inl f_p0_bytes)), (h_p0_wordNames, .inl (cJ, 23, .inr (.inl f_p0_wordNames))), (h_weight, .inl (cI, 12, .inl g123))] := hD
            refine lv_iload_n hx hb dX1_readMan_115 rfl (lv_at hl 0 rfl) ?_
            exact ret_i (v := 0) hx hb hr hlocks hS (hP.sub (ws' := [(h0, .inr (1, vL 18 F138)), (h_manName, .inl (cJ, 12, .inr (.inl g33))), (h_push, .inl (cI, 12, .inl g63)), (h_feet, .inl (cI, 12, .inl g93)), (h_weight, .inl (cI, 12, .inl g123)), (h_runnerName, .inl (cJ, 6, .inr (.inl f_runnerName))), (p0, .inr (6, vL 12 F115)), (h_p0_bytes, .inl (cB, 940, .inl f_p0_bytes)), (h_p0_wordNames, .inl (cJ, 23, .inr (.inl f_p0_wordNames)))]) [0, 1, 3, 4, 8, 2, 5, 6, 7] rfl) (hD.sub (ws' := [(h0, .inr (1, vL 18 F138)), (h_manName, .inl (cJ, 12, .inr (.inl g33))), (h_push, .inl (cI, 12, .inl g63)), (h_feet, .inl (cI, 12, .inl g93)), (h_weight, .inl (cI, 12, .inl g123)), (h_runnerName, .inl (cJ, 6, .inr (.inl f_runnerName))), (p0, .inr (6, vL 12 F115)), (h_p0_bytes, .inl (cB, 940, .inl f_p0_bytes)), (h_p0_wordNames, .inl (cJ, 23, .inr (.inl f_p0_wordNames)))]) [0, 1, 3, 4, 8, 2, 5, 6, 7] (by decide) rfl) dX1_readMan_116 rfl (Nat.le_of_ble_eq_true rfl) (Nat.le_of_ble_eq_true rfl) ⟨F138, v136, F115, y116, y117, y118, y119, y120, y121, y122, g33, g63, g93, g123, (SAME.up eF138 SAME.rf (by decide)), (get_eq eF138), (ir_wk k137 (by decide) (by decide)), (SAME.tr (SAME.tr (SAME.tr (SAME.tr (SAME.tr SAME.rf t10 (by decide)) t34 (by decide)) t64 (by decide)) t94 (by decide)) t124 (by decide)), t125, t126, t127, t128, t129, t130, t131, t132, ⟨by decide, by decide⟩, rfl⟩
          · have dc134 : r114.toInt ≠ 0 := ne_i (a := r114.toInt) (b := 0) rfl rfl c134
            have k139 : 1 ≤ r114.toInt ∧ r114.toInt ≤ 1 := ⟨ne_lo dc134 t133.1 ⟨Int.le_refl _, Int.le_refl _⟩ (by decide), t133.2⟩
            refine lv_iconst (v := 1) hx hb dX1_readMan_91 (by decide) ?_
            refine lv_goto (tgt := 96) hx hb dX1_readMan_92 (by decide) ?_
            refine lv_istore_n (lv' := [(2, .int 1), (0, .ref h0), (1, .ref p0)]) hx hb dX1_readMan_96 rfl hl (by decide) rfl (fun ls hl => ?_)
            refine lv_aload_n hx hb dX1_readMan_97 rfl (lv_at hl 1 rfl) ?_
            refine lv_dup hx hb dX1_readMan_98 rfl ?_
            refine get_f (D := D) (ci := 1) (v := .int x_men) (C := RX1) (T := TX1) (N := 18) hx hb hw inAX1 hown hK hP 0 rfl rfl 13 (by decide) (hw _ q_352) (fun _ h9 => h9) e_men dX1_readMan_99 ?_
            refine lv_iload_n hx hb dX1_readMan_102 rfl (lv_at hl 0 rfl) ?_
            refine lv_if_eq (tgt := 110) hx hb dX1_readMan_103 (by decide) (fun g => absurd g (by decide)) (fun _ => ?_)
            refine lv_iconst (v := 1) hx hb dX1_readMan_106 (by decide) ?_
            refine lv_goto (tgt := 111) hx hb dX1_readMan_107 (by decide) ?_
            refine lv_iadd hx hb dX1_readMan_111 ?_
            refine lv_topi (fun v140 ev140 => ?_)
            have bv140 : v140.toInt = x_men.toInt + 1 := by rw [ev140]; exact add_k rfl rfl k2 ⟨Int.le_refl _, Int.le_refl _⟩ (by decide)
            have k141 : 1 ≤ v140.toInt ∧ v140.toInt ≤ 12 := add_r bv140 k2 ⟨Int.le_refl _, Int.le_refl _⟩ (by decide)
            refine put_f (D := D) (ci := 1) (v := .int v140) (ty := .int) (C := RX1) (T := TX1) (N := 18) hx hb hw inAX1 tyX1 tyX1_ok nmX1 hown hK hP hD hS 0 rfl rfl 13 (by decide) (hw _ q_352) (fun _ h9 => h9) rfl (by decide +kernel) rfl rfl dX1_readMan_112 (fun H locs F142 eF142 hP hD hS => ?_)
            have hP : va_P D vwCl [(h0, .inr (1, vL 18 F142)), (h_manName, .inl (cJ, 12, .inr (.inl g33))), (h_runnerName, .inl (cJ, 6, .inr (.inl f_runnerName))), (h_push, .inl (cI, 12, .inl g63)), (h_feet, .inl (cI, 12, .inl g93)), (p0, .inr (6, vL 12 F115)), (h_p0_bytes, .inl (cB, 940, .inl f_p0_bytes)), (h_p0_wordNames, .inl (cJ, 23, .inr (.inl f_p0_wordNames))), (h_weight, .inl (cI, 12, .inl g123))] H := hP
            have hD : va_D A [(h0, .inr (1, vL 18 F142)), (h_manName, .inl (cJ, 12, .inr (.inl g33))), (h_runnerName, .inl (cJ, 6, .inr (.inl f_runnerName))), (h_push, .inl (cI, 12, .inl g63)), (h_feet, .inl (cI, 12, .inl g93)), (p0, .inr (6, vL 12 F115)), (h_p0_bytes, .inl (cB, 940, .inl f_p0_bytes)), (h_p0_wordNames, .inl (cJ, 23, .inr (.inl f_p0_wordNames))), (h_weight, .inl (cI, 12, .inl g123))] := hD
            refine lv_iload_n hx hb dX1_readMan_115 rfl (lv_at hl 0 rfl) ?_
            exact ret_i (v := 1) hx hb hr hlocks hS (hP.sub (ws' := [(h0, .inr (1, vL 18 F142)), (h_manName, .inl (cJ, 12, .inr (.inl g33))), (h_push, .inl (cI, 12, .inl g63)), (h_feet, .inl (cI, 12, .inl g93)), (h_weight, .inl (cI, 12, .inl g123)), (h_runnerName, .inl (cJ, 6, .inr (.inl f_runnerName))), (p0, .inr (6, vL 12 F115)), (h_p0_bytes, .inl (cB, 940, .inl f_p0_bytes)), (h_p0_wordNames, .inl (cJ, 23, .inr (.inl f_p0_wordNames)))]) [0, 1, 3, 4, 8, 2, 5, 6, 7] rfl) (hD.sub (ws' := [(h0, .inr (1, vL 18 F142)), (h_manName, .inl (cJ, 12, .inr (.inl g33))), (h_push, .inl (cI, 12, .inl g63)), (h_feet, .inl (cI, 12, .inl g93)), (h_weight, .inl (cI, 12, .inl g123)), (h_runnerName, .inl (cJ, 6, .inr (.inl f_runnerName))), (p0, .inr (6, vL 12 F115)), (h_p0_bytes, .inl (cB, 940, .inl f_p0_bytes)), (h_p0_wordNames, .inl (cJ, 23, .inr (.inl f_p0_wordNames)))]) [0, 1, 3, 4, 8, 2, 5, 6, 7] (by decide) rfl) dX1_readMan_116 rfl (Nat.le_of_ble_eq_true rfl) (Nat.le_of_ble_eq_true rfl) ⟨F142, v140, F115, y116, y117, y118, y119, y120, y121, y122, g33, g63, g93, g123, (SAME.up eF142 SAME.rf (by decide)), (get_eq eF142), (ir_wk k141 (by decide) (by decide)), (SAME.tr (SAME.tr (SAME.tr (SAME.tr (SAME.tr SAME.rf t10 (by decide)) t34 (by decide)) t64 (by decide)) t94 (by decide)) t124 (by decide)), t125, t126, t127, t128, t129, t130, t131, t132, ⟨by decide, by decide⟩, rfl⟩
  · have dc1 : 12 ≤ x_men.toInt := nlt_i (a := x_men.toInt) (b := 12) rfl rfl c1
    have k143 : 12 ≤ x_men.toInt ∧ x_men.toInt ≤ 12 := ⟨Int.le_trans (Int.le_refl _) dc1, i_x_men.2⟩
    refine lv_aload_n hx hb dX1_readMan_9 rfl (lv_at hl 1 rfl) ?_
    refine lv_iconst (v := 4) hx hb dX1_readMan_10 (by decide) ?_
    refine call_Vi (wr := [(h0, .inr (1, vL 18 Fh)), (h_manName, .inl (cJ, 12, .inr (.inl f_manName))), (h_push, .inl (cI, 12, .inl f_push)), (h_feet, .inl (cI, 12, .inl f_feet)), (h_weight, .inl (cI, 12, .inl f_weight)), (h_runnerName, .inl (cJ, 6, .inr (.inl f_runnerName))), (h_p0_bytes, .inl (cB, 940, .inl f_p0_bytes)), (h_p0_wordNames, .inl (cJ, 23, .inr (.inl f_p0_wordNames)))]) (As := [.int 4]) (rest := []) hx hb hml hown hw (m_X6_fail l D cI cJ cB cP cM cZ p0 F_p0_ x_p0_place 4 _ e_p0_place) wV_X1_128_X6_fail dX1_readMan_11 hK hP hD hS hA [6] [0, 1, 2, 3, 4, 5, 7, 8] rfl rfl (by decide) (by decide) (by decide) 0 6 rfl rfl GG.fb hG.at hl.1 rfl (Nat.le_of_ble_eq_true rfl) ⟨(Nat.le_of_ble_eq_true rfl), (Nat.le_of_ble_eq_true rfl)⟩ ⟨(Nat.le_of_ble_eq_true rfl), (Nat.le_of_ble_eq_true rfl)⟩ (fun r144 u H locs hp hP hD hS => ?_)
    obtain ⟨F145, t146, t147, t148, rfl, rfl⟩ := hp
    have hP : va_P D vwCl [(h0, .inr (1, vL 18 Fh)), (h_manName, .inl (cJ, 12, .inr (.inl f_manName))), (h_push, .inl (cI, 12, .inl f_push)), (h_feet, .inl (cI, 12, .inl f_feet)), (h_weight, .inl (cI, 12, .inl f_weight)), (h_runnerName, .inl (cJ, 6, .inr (.inl f_runnerName))), (h_p0_bytes, .inl (cB, 940, .inl f_p0_bytes)), (h_p0_wordNames, .inl (cJ, 23, .inr (.inl f_p0_wordNames))), (p0, .inr (6, vL 12 F145))] H := hP
    have hD : va_D A [(h0, .inr (1, vL 18 Fh)), (h_manName, .inl (cJ, 12, .inr (.inl f_manName))), (h_push, .inl (cI, 12, .inl f_push)), (h_feet, .inl (cI, 12, .inl f_feet)), (h_weight, .inl (cI, 12, .inl f_weight)), (h_runnerName, .inl (cJ, 6, .inr (.inl f_runnerName))), (h_p0_bytes, .inl (cB, 940, .inl f_p0_bytes)), (h_p0_wordNames, .inl (cJ, 23, .inr (.inl f_p0_wordNames))), (p0, .inr (6, vL 12 F145))] := hD
    refine W.widen (k := 0) (n := 0) (Nat.le_of_ble_eq_true rfl) (Nat.le_of_ble_eq_true rfl) ?_
    exact ret_i (v := 0) hx hb hr hlocks hS (hP.sub (ws' := [(h0, .inr (1, vL 18 Fh)), (h_manName, .inl (cJ, 12, .inr (.inl f_manName))), (h_push, .inl (cI, 12, .inl f_push)), (h_feet, .inl (cI, 12, .inl f_feet)), (h_weight, .inl (cI, 12, .inl f_weight)), (h_runnerName, .inl (cJ, 6, .inr (.inl f_runnerName))), (p0, .inr (6, vL 12 F145)), (h_p0_bytes, .inl (cB, 940, .inl f_p0_bytes)), (h_p0_wordNames, .inl (cJ, 23, .inr (.inl f_p0_wordNames)))]) [0, 1, 2, 3, 4, 5, 8, 6, 7] rfl) (hD.sub (ws' := [(h0, .inr (1, vL 18 Fh)), (h_manName, .inl (cJ, 12, .inr (.inl f_manName))), (h_push, .inl (cI, 12, .inl f_push)), (h_feet, .inl (cI, 12, .inl f_feet)), (h_weight, .inl (cI, 12, .inl f_weight)), (h_runnerName, .inl (cJ, 6, .inr (.inl f_runnerName))), (p0, .inr (6, vL 12 F145)), (h_p0_bytes, .inl (cB, 940, .inl f_p0_bytes)), (h_p0_wordNames, .inl (cJ, 23, .inr (.inl f_p0_wordNames)))]) [0, 1, 2, 3, 4, 5, 8, 6, 7] (by decide) rfl) dX1_readMan_14 rfl (Nat.le_of_ble_eq_true rfl) (Nat.le_of_ble_eq_true rfl) ⟨Fh, x_men, F145, x_p0_kind, x_p0_place, x_p0_value, x_p0_name, 4, x_p0_place, x_p0_at, f_manName, f_push, f_feet, f_weight, SAME.rf, e_men, (ir_wk k143 (by decide) (by decide)), (SAME.tr SAME.rf t146 (by decide)), (SAME.at t146 (by decide) e_p0_kind), (SAME.at t146 (by decide) e_p0_place), (SAME.at t146 (by decide) e_p0_value), (SAME.at t146 (by decide) e_p0_name), t147, t148, (SAME.at t146 (by decide) e_p0_at), i_x_p0_at, ⟨by decide, by decide⟩, rfl⟩
set_option maxHeartbeats 4000000 in
set_option maxRecDepth 100000 in
theorem m_X1_readBend (l : Launch) (D : va_G) (cI cJ cB cP cM cZ : ClassId) (h0 : Nat) (h_length : Nat) (h_drop : Nat) (h_ideal : Nat) (h_over : Nat) (p0 : Nat) (h_p0_bytes : Nat) (h_p0_wordNames : Nat) (Fh : Nat → Value) (x_bends : Int32) (f_length : Nat → Int32) (f_drop : Nat → Int32) (f_ideal : Nat → Int32) (f_over : Nat → Int32) (F_p0_ : Nat → Value) (x_p0_length : Int32) (x_p0_kind : Int32) (x_p0_place : Int32) (x_p0_value : Int32) (x_p0_name : Int64) (x_p0_faultKind : Int32) (x_p0_faultPlace : Int32) (x_p0_at : Int32) (x_p0_mostBytes : Int32) (f_p0_bytes : Nat → Int32) (f_p0_wordNames : Nat → Int64) (sz : Nat) (e_length : Fh 6 = .ref h_length) (e_drop : Fh 7 = .ref h_drop) (e_ideal : Fh 8 = .ref h_ideal) (e_over : Fh 9 = .ref h_over) (e_bends : Fh 14 = .int x_bends) (i_x_bends : IR 0 12 x_bends) (e_p0_bytes : F_p0_ 0 = .ref h_p0_bytes) (e_p0_length : F_p0_ 1 = .int x_p0_length) (i_x_p0_length : IR 0 940 x_p0_length) (e_p0_kind : F_p0_ 2 = .int x_p0_kind) (e_p0_place : F_p0_ 3 = .int x_p0_place) (e_p0_value : F_p0_ 4 = .int x_p0_value) (e_p0_name : F_p0_ 5 = .long x_p0_name) (e_p0_faultKind : F_p0_ 7 = .int x_p0_faultKind) (e_p0_faultPlace : F_p0_ 8 = .int x_p0_faultPlace) (e_p0_wordNames : F_p0_ 9 = .ref h_p0_wordNames) (e_p0_at : F_p0_ 10 = .int x_p0_at) (i_x_p0_at : IR 0 940 x_p0_at) (e_p0_mostBytes : F_p0_ 11 = .int x_p0_mostBytes) : CI l yX1_readBend cX1_readBend 3 (some .boolean) { frames := 3, cells := 0, slots := 0, locals := 67 } (GG D cI cJ cB cP cM cZ) D [(h0, .inr (1, vL 18 Fh)), (h_length, .inl (cI, 12, .inl f_length)), (h_drop, .inl (cI, 12, .inl f_drop)), (h_ideal, .inl (cI, 12, .inl f_ideal)), (h_over, .inl (cI, 12, .inl f_over)), (p0, .inr (6, vL 12 F_p0_)), (h_p0_bytes, .inl (cB, 940, .inl f_p0_bytes)), (h_p0_wordNames, .inl (cJ, 23, .inr (.inl f_p0_wordNames)))] sz [.ref h0, .ref p0] (fun (r : Int32) (u : va_W) => ∃ (Gh : Nat → Value) (y_bends : Int32) (G_p0_ : Nat → Value) (y_p0_kind : Int32) (y_p0_place : Int32) (y_p0_value : Int32) (y_p0_name : Int64) (y_p0_faultKind : Int32) (y_p0_faultPlace : Int32) (y_p0_at : Int32) (g_length : Nat → Int32) (g_drop : Nat → Int32) (g_ideal : Nat → Int32) (g_over : Nat → Int32), SAME [14] Fh Gh ∧ Gh 14 = .int y_bends ∧ IR 0 12 y_bends ∧ SAME [2, 3, 4, 5, 7, 8, 10] F_p0_ G_p0_ ∧ G_p0_ 2 = .int y_p0_kind ∧ G_p0_ 3 = .int y_p0_place ∧ G_p0_ 4 = .int y_p0_value ∧ G_p0_ 5 = .long y_p0_name ∧ G_p0_ 7 = .int y_p0_faultKind ∧ G_p0_ 8 = .int y_p0_faultPlace ∧ G_p0_ 10 = .int y_p0_at ∧ IR 0 940 y_p0_at ∧ IR 0 1 r ∧ u = [(h0, .inr (1, vL 18 Gh)), (h_length, .inl (cI, 12, .inl g_length)), (h_drop, .inl (cI, 12, .inl g_drop)), (h_ideal, .inl (cI, 12, .inl g_ideal)), (h_over, .inl (cI, 12, .inl g_over)), (p0, .inr (6, vL 12 G_p0_)), (h_p0_bytes, .inl (cB, 940, .inl f_p0_bytes)), (h_p0_wordNames, .inl (cJ, 23, .inr (.inl f_p0_wordNames)))]) := by
  refine CI_mk (by decide) (Nat.le_of_ble_eq_true rfl) ?_
  intro p e s m below meth c A ls E hAe hG hsz hP hD hA hS hl
  obtain ⟨hx, hb, hr, hw, hown, hlocks, hml, hnm⟩ := E
  have hK := hG.1
  have i_x_bends : 0 ≤ x_bends.toInt ∧ x_bends.toInt ≤ 12 := i_x_bends
  have i_x_p0_length : 0 ≤ x_p0_length.toInt ∧ x_p0_length.toInt ≤ 940 := i_x_p0_length
  have i_x_p0_at : 0 ≤ x_p0_at.toInt ∧ x_p0_at.toInt ≤ 940 := i_x_p0_at
  have hl : lv_has ls 3 [(0, .ref h0), (1, .ref p0)] := hl
  refine lv_aload_n hx hb dX1_readBend_0 rfl (lv_at hl 0 rfl) ?_
  refine get_f (D := D) (ci := 1) (v := .int x_bends) (C := RX1) (T := TX1) (N := 18) hx hb hw inAX1 hown hK hP 0 rfl rfl 14 (by decide) (hw _ q_354) (fun _ h9 => h9) e_bends dX1_readBend_1 ?_
  refine lv_bipush (v := 12) hx hb dX1_readBend_4 (by decide) ?_
  refine lv_icmp_lt (tgt := 15) hx hb dX1_readBend_6 (by decide) (fun c1 => ?_) (fun c1 => ?_)
  · have dc1 : x_bends.toInt < 12 := lt_i (a := x_bends.toInt) (b := 12) rfl rfl c1
    have k2 : 0 ≤ x_bends.toInt ∧ x_bends.toInt ≤ 11 := ⟨i_x_bends.1, up_lt dc1 (Int.le_refl _) (by decide)⟩
    refine lv_aload_n hx hb dX1_readBend_15 rfl (lv_at hl 1 rfl) ?_
    refine call_Vv (wr := [(h0, .inr (1, vL 18 Fh)), (h_length, .inl (cI, 12, .inl f_length)), (h_drop, .inl (cI, 12, .inl f_drop)), (h_ideal, .inl (cI, 12, .inl f_ideal)), (h_over, .inl (cI, 12, .inl f_over))]) (As := []) (rest := []) hx hb hml hown hw (m_X6_advance l D cI cJ cB cP cM cZ p0 h_p0_bytes h_p0_wordNames F_p0_ x_p0_length x_p0_value x_p0_name x_p0_at x_p0_mostBytes f_p0_bytes f_p0_wordNames _ e_p0_bytes e_p0_length i_x_p0_length e_p0_value e_p0_name e_p0_wordNames e_p0_at i_x_p0_at e_p0_mostBytes) wV_X1_131_X6_advance dX1_readBend_16 hK hP hD hS hA [5, 6, 7] [0, 1, 2, 3, 4] rfl rfl (by decide) (by decide) (by decide) 0 6 rfl rfl GG.fb hG.at hl.1 rfl (Nat.le_of_ble_eq_true rfl) ⟨(Nat.le_of_ble_eq_true rfl), (Nat.le_of_ble_eq_true rfl)⟩ ⟨(Nat.le_of_ble_eq_true rfl), (Nat.le_of_ble_eq_true rfl)⟩ (fun u H locs hp hP hD hS => ?_)
    obtain ⟨F4, y5, y6, y7, y8, y9, t10, t11, t12, t13, t14, t15, t16, t17, rfl⟩ := hp
    have hP : va_P D vwCl [(h0, .inr (1, vL 18 Fh)), (h_length, .inl (cI, 12, .inl f_length)), (h_drop, .inl (cI, 12, .inl f_drop)), (h_ideal, .inl (cI, 12, .inl f_ideal)), (h_over, .inl (cI, 12, .inl f_over)), (p0, .inr (6, vL 12 F4)), (h_p0_bytes, .inl (cB, 940, .inl f_p0_bytes)), (h_p0_wordNames, .inl (cJ, 23, .inr (.inl f_p0_wordNames)))] H := hP
    have hD : va_D A [(h0, .inr (1, vL 18 Fh)), (h_length, .inl (cI, 12, .inl f_length)), (h_drop, .inl (cI, 12, .inl f_drop)), (h_ideal, .inl (cI, 12, .inl f_ideal)), (h_over, .inl (cI, 12, .inl f_over)), (p0, .inr (6, vL 12 F4)), (h_p0_bytes, .inl (cB, 940, .inl f_p0_bytes)), (h_p0_wordNames, .inl (cJ, 23, .inr (.inl f_p0_wordNames)))] := hD
    refine W.widen (k := 0) (n := 0) (Nat.le_of_ble_eq_true rfl) (Nat.le_of_ble_eq_true rfl) ?_
    refine lv_aload_n hx hb dX1_readBend_19 rfl (lv_at hl 1 rfl) ?_
    refine lv_aload_n hx hb dX1_readBend_20 rfl (lv_at hl 0 rfl) ?_
    refine get_f (D := D) (ci := 1) (v := .ref h_length) (C := RX1) (T := TX1) (N := 18) hx hb hw inAX1 hown hK hP 0 rfl rfl 6 (by decide) (hw _ q_336) (fun _ h9 => h9) e_length dX1_readBend_21 ?_
    refine lv_aload_n hx hb dX1_readBend_24 rfl (lv_at hl 0 rfl) ?_
    refine get_f (D := D) (ci := 1) (v := .int x_bends) (C := RX1) (T := TX1) (N := 18) hx hb hw inAX1 hown hK hP 0 rfl rfl 14 (by decide) (hw _ q_354) (fun _ h9 => h9) e_bends dX1_readBend_25 ?_
    refine lv_iconst (v := 1) hx hb dX1_readBend_28 (by decide) ?_
    refine lv_bipush (v := 9) hx hb dX1_readBend_29 (by decide) ?_
    have n18 : F4 0 = .ref h_p0_bytes := (SAME.at t10 (by decide) e_p0_bytes)
    have n19 : F4 1 = .int x_p0_length := (SAME.at t10 (by decide) e_p0_length)
    have n20 : F4 7 = .int x_p0_faultKind := (SAME.at t10 (by decide) e_p0_faultKind)
    have n21 : F4 8 = .int x_p0_faultPlace := (SAME.at t10 (by decide) e_p0_faultPlace)
    have n22 : F4 9 = .ref h_p0_wordNames := (SAME.at t10 (by decide) e_p0_wordNames)
    have n23 : F4 11 = .int x_p0_mostBytes := (SAME.at t10 (by decide) e_p0_mostBytes)
    refine call_Vi (wr := [(h0, .inr (1, vL 18 Fh)), (h_drop, .inl (cI, 12, .inl f_drop)), (h_ideal, .inl (cI, 12, .inl f_ideal)), (h_over, .inl (cI, 12, .inl f_over))]) (As := [.ref h_length, .int x_bends, .int 1, .int 9]) (rest := []) hx hb hml hown hw (m_X6_takeInto_12 l D cI cJ cB cP cM cZ p0 h_p0_bytes h_p0_wordNames h_length F4 x_p0_length y5 y6 y7 y8 x_p0_faultKind x_p0_faultPlace y9 x_p0_mostBytes f_p0_bytes f_p0_wordNames f_length x_bends 1 9 _ n18 n19 i_x_p0_length t11 t12 t14 t15 n20 n21 n22 t16 t17 n23) wV_X1_140_X6_takeInto dX1_readBend_31 hK hP hD hS hA [5, 6, 7, 1] [0, 2, 3, 4] rfl rfl (by decide) (by decide) (by decide) 0 6 rfl rfl GG.fb hG.at hl.1 rfl (Nat.le_of_ble_eq_true rfl) ⟨(Nat.le_of_ble_eq_true rfl), (Nat.le_of_ble_eq_true rfl)⟩ ⟨(Nat.le_of_ble_eq_true rfl), (Nat.le_of_ble_eq_true rfl)⟩ (fun r24 u H locs hp hP hD hS => ?_)
    obtain ⟨F25, y26, y27, y28, y29, y30, y31, y32, g33, t34, t35, t36, t37, t38, t39, t40, t41, t42, t43, rfl⟩ := hp
    have hP : va_P D vwCl [(h0, .inr (1, vL 18 Fh)), (h_drop, .inl (cI, 12, .inl f_drop)), (h_ideal, .inl (cI, 12, .inl f_ideal)), (h_over, .inl (cI, 12, .inl f_over)), (p0, .inr (6, vL 12 F25)), (h_p0_bytes, .inl (cB, 940, .inl f_p0_bytes)), (h_p0_wordNames, .inl (cJ, 23, .inr (.inl f_p0_wordNames))), (h_length, .inl (cI, 12, .inl g33))] H := hP
    have hD : va_D A [(h0, .inr (1, vL 18 Fh)), (h_drop, .inl (cI, 12, .inl f_drop)), (h_ideal, .inl (cI, 12, .inl f_ideal)), (h_over, .inl (cI, 12, .inl f_over)), (p0, .inr (6, vL 12 F25)), (h_p0_bytes, .inl (cB, 940, .inl f_p0_bytes)), (h_p0_wordNames, .inl (cJ, 23, .inr (.inl f_p0_wordNames))), (h_length, .inl (cI, 12, .inl g33))] := hD
    refine W.widen (k := 0) (n := 0) (Nat.le_of_ble_eq_true rfl) (Nat.le_of_ble_eq_true rfl) ?_
    refine lv_if_eq (tgt := 95) hx hb dX1_readBend_34 (by decide) (fun c44 => ?_) (fun c44 => ?_)
    · have dc44 : r24.toInt = 0 := eq_i (a := r24.toInt) (b := 0) rfl rfl c44
      have k45 : 0 ≤ r24.toInt ∧ r24.toInt ≤ 0 := ⟨t43.1, Int.le_trans (Int.le_of_eq dc44) (Int.le_refl _)⟩
      refine lv_iconst (v := 0) hx hb dX1_readBend_95 (by decide) ?_
      refine lv_istore_n (lv' := [(2, .int 0), (0, .ref h0), (1, .ref p0)]) hx hb dX1_readBend_96 rfl hl (by decide) rfl (fun ls hl => ?_)
      refine lv_aload_n hx hb dX1_readBend_97 rfl (lv_at hl 1 rfl) ?_
      refine lv_dup hx hb dX1_readBend_98 rfl ?_
      refine get_f (D := D) (ci := 1) (v := .int x_bends) (C := RX1) (T := TX1) (N := 18) hx hb hw inAX1 hown hK hP 0 rfl rfl 14 (by decide) (hw _ q_354) (fun _ h9 => h9) e_bends dX1_readBend_99 ?_
      refine lv_iload_n hx hb dX1_readBend_102 rfl (lv_at hl 0 rfl) ?_
      refine lv_if_eq (tgt := 110) hx hb dX1_readBend_103 (by decide) (fun _ => ?_) (fun g => absurd (by decide) g)
      refine lv_iconst (v := 0) hx hb dX1_readBend_110 (by decide) ?_
      refine lv_iadd hx hb dX1_readBend_111 ?_
      refine lv_topi (fun v46 ev46 => ?_)
      have bv46 : v46.toInt = x_bends.toInt + 0 := by rw [ev46]; exact add_k rfl rfl k2 ⟨Int.le_refl _, Int.le_refl _⟩ (by decide)
      have k47 : 0 ≤ v46.toInt ∧ v46.toInt ≤ 11 := add_r bv46 k2 ⟨Int.le_refl _, Int.le_refl _⟩ (by decide)
      refine put_f (D := D) (ci := 1) (v := .int v46) (ty := .int) (C := RX1) (T := TX1) (N := 18) hx hb hw inAX1 tyX1 tyX1_ok nmX1 hown hK hP hD hS 0 rfl rfl 14 (by decide) (hw _ q_354) (fun _ h9 => h9) rfl (by decide +kernel) rfl rfl dX1_readBend_112 (fun H locs F48 eF48 hP hD hS => ?_)
      have hP : va_P D vwCl [(h0, .inr (1, vL 18 F48)), (h_drop, .inl (cI, 12, .inl f_drop)), (h_ideal, .inl (cI, 12, .inl f_ideal)), (h_over, .inl (cI, 12, .inl f_over)), (p0, .inr (6, vL 12 F25)), (h_p0_bytes, .inl (cB, 940, .inl f_p0_bytes)), (h_p0_wordNames, .inl (cJ, 23, .inr (.inl f_p0_wordNames))), (h_length, .inl (cI, 12, .inl g33))] H := hP
      have hD : va_D A [(h0, .inr (1, vL 18 F48)), (h_drop, .inl (cI, 12, .inl f_drop)), (h_ideal, .inl (cI, 12, .inl f_ideal)), (h_over, .inl (cI, 12, .inl f_over)), (p0, .inr (6, vL 12 F25)), (h_p0_bytes, .inl (cB, 940, .inl f_p0_bytes)), (h_p0_wordNames, .inl (cJ, 23, .inr (.inl f_p0_wordNames))), (h_length, .inl (cI, 12, .inl g33))] := hD
      refine lv_iload_n hx hb dX1_readBend_115 rfl (lv_at hl 0 rfl) ?_
      exact ret_i (v := 0) hx hb hr hlocks hS (hP.sub (ws' := [(h0, .inr (1, vL 18 F48)), (h_length, .inl (cI, 12, .inl g33)), (h_drop, .inl (cI, 12, .inl f_drop)), (h_ideal, .inl (cI, 12, .inl f_ideal)), (h_over, .inl (cI, 12, .inl f_over)), (p0, .inr (6, vL 12 F25)), (h_p0_bytes, .inl (cB, 940, .inl f_p0_bytes)), (h_p0_wordNames, .inl (cJ, 23, .inr (.inl f_p0_wordNames)))]) [0, 7, 1, 2, 3, 4, 5, 6] rfl) (hD.sub (ws' := [(h0, .inr (1, vL 18 F48)), (h_length, .inl (cI, 12, .inl g33)), (h_drop, .inl (cI, 12, .inl f_drop)), (h_ideal, .inl (cI, 12, .inl f_ideal)), (h_over, .inl (cI, 12, .inl f_over)), (p0, .inr (6, vL 12 F25)), (h_p0_bytes, .inl (cB, 940, .inl f_p0_bytes)), (h_p0_wordNames, .inl (cJ, 23, .inr (.inl f_p0_wordNames)))]) [0, 7, 1, 2, 3, 4, 5, 6] (by decide) rfl) dX1_readBend_116 rfl (Nat.le_of_ble_eq_true rfl) (Nat.le_of_ble_eq_true rfl) ⟨F48, v46, F25, y26, y27, y28, y29, y30, y31, y32, g33, f_drop, f_ideal, f_over, (SAME.up eF48 SAME.rf (by decide)), (get_eq eF48), (ir_wk k47 (by decide) (by decide)), (SAME.tr (SAME.tr SAME.rf t10 (by decide)) t34 (by decide)), t35, t36, t37, t38, t39, t40, t41, t42, ⟨by decide, by decide⟩, rfl⟩
    · have dc44 : r24.toInt ≠ 0 := ne_i (a := r24.toInt) (b := 0) rfl rfl c44
      have k49 : 1 ≤ r24.toInt ∧ r24.toInt ≤ 1 := ⟨ne_lo dc44 t43.1 ⟨Int.le_refl _, Int.le_refl _⟩ (by decide), t43.2⟩
      refine lv_aload_n hx hb dX1_readBend_37 rfl (lv_at hl 1 rfl) ?_
      refine lv_aload_n hx hb dX1_readBend_38 rfl (lv_at hl 0 rfl) ?_
      refine get_f (D := D) (ci := 1) (v := .ref h_drop) (C := RX1) (T := TX1) (N := 18) hx hb hw inAX1 hown hK hP 0 rfl rfl 7 (by decide) (hw _ q_340) (fun _ h9 => h9) e_drop dX1_readBend_39 ?_
      refine lv_aload_n hx hb dX1_readBend_42 rfl (lv_at hl 0 rfl) ?_
      refine get_f (D := D) (ci := 1) (v := .int x_bends) (C := RX1) (T := TX1) (N := 18) hx hb hw inAX1 hown hK hP 0 rfl rfl 14 (by decide) (hw _ q_354) (fun _ h9 => h9) e_bends dX1_readBend_43 ?_
      refine lv_iconst (v := 0) hx hb dX1_readBend_46 (by decide) ?_
      refine lv_bipush (v := 9) hx hb dX1_readBend_47 (by decide) ?_
      have n50 : F25 0 = .ref h_p0_bytes := (SAME.at t34 (by decide) n18)
      have n51 : F25 1 = .int x_p0_length := (SAME.at t34 (by decide) n19)
      have n52 : F25 9 = .ref h_p0_wordNames := (SAME.at t34 (by decide) n22)
      have n53 : F25 11 = .int x_p0_mostBytes := (SAME.at t34 (by decide) n23)
      refine call_Vi (wr := [(h0, .inr (1, vL 18 Fh)), (h_ideal, .inl (cI, 12, .inl f_ideal)), (h_over, .inl (cI, 12, .inl f_over)), (h_length, .inl (cI, 12, .inl g33))]) (As := [.ref h_drop, .int x_bends, .int 0, .int 9]) (rest := []) hx hb hml hown hw (m_X6_takeInto_12 l D cI cJ cB cP cM cZ p0 h_p0_bytes h_p0_wordNames h_drop F25 x_p0_length y26 y27 y28 y29 y30 y31 y32 x_p0_mostBytes f_p0_bytes f_p0_wordNames f_drop x_bends 0 9 _ n50 n51 i_x_p0_length t35 t36 t37 t38 t39 t40 n52 t41 t42 n53) wV_X1_140_X6_takeInto dX1_readBend_49 hK hP hD hS hA [4, 5, 6, 1] [0, 2, 3, 7] rfl rfl (by decide) (by decide) (by decide) 0 6 rfl rfl GG.fb hG.at hl.1 rfl (Nat.le_of_ble_eq_true rfl) ⟨(Nat.le_of_ble_eq_true rfl), (Nat.le_of_ble_eq_true rfl)⟩ ⟨(Nat.le_of_ble_eq_true rfl), (Nat.le_of_ble_eq_true rfl)⟩ (fun r54 u H locs hp hP hD hS => ?_)
      obtain ⟨F55, y56, y57, y58, y59, y60, y61, y62, g63, t64, t65, t66, t67, t68, t69, t70, t71, t72, t73, rfl⟩ := hp
      have hP : va_P D vwCl [(h0, .inr (1, vL 18 Fh)), (h_ideal, .inl (cI, 12, .inl f_ideal)), (h_over, .inl (cI, 12, .inl f_over)), (h_length, .inl (cI, 12, .inl g33)), (p0, .inr (6, vL 12 F55)), (h_p0_bytes, .inl (cB, 940, .inl f_p0_bytes)), (h_p0_wordNames, .inl (cJ, 23, .inr (.inl f_p0_wordNames))), (h_drop, .inl (cI, 12, .inl g63))] H := hP
      have hD : va_D A [(h0, .inr (1, vL 18 Fh)), (h_ideal, .inl (cI, 12, .inl f_ideal)), (h_over, .inl (cI, 12, .inl f_over)), (h_length, .inl (cI, 12, .inl g33)), (p0, .inr (6, vL 12 F55)), (h_p0_bytes, .inl (cB, 940, .inl f_p0_bytes)), (h_p0_wordNames, .inl (cJ, 23, .inr (.inl f_p0_wordNames))), (h_drop, .inl (cI, 12, .inl g63))] := hD
      refine W.widen (k := 0) (n := 0) (Nat.le_of_ble_eq_true rfl) (Nat.le_of_ble_eq_true rfl) ?_
      refine lv_if_eq (tgt := 95) hx hb dX1_readBend_52 (by decide) (fun c74 => ?_) (fun c74 => ?_)
      · have dc74 : r54.toInt = 0 := eq_i (a := r54.toInt) (b := 0) rfl rfl c74
        have k75 : 0 ≤ r54.toInt ∧ r54.toInt ≤ 0 := ⟨t73.1, Int.le_trans (Int.le_of_eq dc74) (Int.le_refl _)⟩
        refine lv_iconst (v := 0) hx hb dX1_readBend_95 (by decide) ?_
        refine lv_istore_n (lv' := [(2, .int 0), (0, .ref h0), (1, .ref p0)]) hx hb dX1_readBend_96 rfl hl (by decide) rfl (fun ls hl => ?_)
        refine lv_aload_n hx hb dX1_readBend_97 rfl (lv_at hl 1 rfl) ?_
        refine lv_dup hx hb dX1_readBend_98 rfl ?_
        refine get_f (D := D) (ci := 1) (v := .int x_bends) (C := RX1) (T := TX1) (N := 18) hx hb hw inAX1 hown hK hP 0 rfl rfl 14 (by decide) (hw _ q_354) (fun _ h9 => h9) e_bends dX1_readBend_99 ?_
        refine lv_iload_n hx hb dX1_readBend_102 rfl (lv_at hl 0 rfl) ?_
        refine lv_if_eq (tgt := 110) hx hb dX1_readBend_103 (by decide) (fun _ => ?_) (fun g => absurd (by decide) g)
        refine lv_iconst (v := 0) hx hb dX1_readBend_110 (by decide) ?_
        refine lv_iadd hx hb dX1_readBend_111 ?_
        refine lv_topi (fun v76 ev76 => ?_)
        have bv76 : v76.toInt = x_bends.toInt + 0 := by rw [ev76]; exact add_k rfl rfl k2 ⟨Int.le_refl _, Int.le_refl _⟩ (by decide)
        have k77 : 0 ≤ v76.toInt ∧ v76.toInt ≤ 11 := add_r bv76 k2 ⟨Int.le_refl _, Int.le_refl _⟩ (by decide)
        refine put_f (D := D) (ci := 1) (v := .int v76) (ty := .int) (C := RX1) (T := TX1) (N := 18) hx hb hw inAX1 tyX1 tyX1_ok nmX1 hown hK hP hD hS 0 rfl rfl 14 (by decide) (hw _ q_354) (fun _ h9 => h9) rfl (by decide +kernel) rfl rfl dX1_readBend_112 (fun H locs F78 eF78 hP hD hS => ?_)
        have hP : va_P D vwCl [(h0, .inr (1, vL 18 F78)), (h_ideal, .inl (cI, 12, .inl f_ideal)), (h_over, .inl (cI, 12, .inl f_over)), (h_length, .inl (cI, 12, .inl g33)), (p0, .inr (6, vL 12 F55)), (h_p0_bytes, .inl (cB, 940, .inl f_p0_bytes)), (h_p0_wordNames, .inl (cJ, 23, .inr (.inl f_p0_wordNames))), (h_drop, .inl (cI, 12, .inl g63))] H := hP
        have hD : va_D A [(h0, .inr (1, vL 18 F78)), (h_ideal, .inl (cI, 12, .inl f_ideal)), (h_over, .inl (cI, 12, .inl f_over)), (h_length, .inl (cI, 12, .inl g33)), (p0, .inr (6, vL 12 F55)), (h_p0_bytes, .inl (cB, 940, .inl f_p0_bytes)), (h_p0_wordNames, .inl (cJ, 23, .inr (.inl f_p0_wordNames))), (h_drop, .inl (cI, 12, .inl g63))] := hD
        refine lv_iload_n hx hb dX1_readBend_115 rfl (lv_at hl 0 rfl) ?_
        exact ret_i (v := 0) hx hb hr hlocks hS (hP.sub (ws' := [(h0, .inr (1, vL 18 F78)), (h_length, .inl (cI, 12, .inl g33)), (h_drop, .inl (cI, 12, .inl g63)), (h_ideal, .inl (cI, 12, .inl f_ideal)), (h_over, .inl (cI, 12, .inl f_over)), (p0, .inr (6, vL 12 F55)), (h_p0_bytes, .inl (cB, 940, .inl f_p0_bytes)), (h_p0_wordNames, .inl (cJ, 23, .inr (.inl f_p0_wordNames)))]) [0, 3, 7, 1, 2, 4, 5, 6] rfl) (hD.sub (ws' := [(h0, .inr (1, vL 18 F78)), (h_length, .inl (cI, 12, .inl g33)), (h_drop, .inl (cI, 12, .inl g63)), (h_ideal, .inl (cI, 12, .inl f_ideal)), (h_over, .inl (cI, 12, .inl f_over)), (p0, .inr (6, vL 12 F55)), (h_p0_bytes, .inl (cB, 940, .inl f_p0_bytes)), (h_p0_wordNames, .inl (cJ, 23, .inr (.inl f_p0_wordNames)))]) [0, 3, 7, 1, 2, 4, 5, 6] (by decide) rfl) dX1_readBend_116 rfl (Nat.le_of_ble_eq_true rfl) (Nat.le_of_ble_eq_true rfl) ⟨F78, v76, F55, y56, y57, y58, y59, y60, y61, y62, g33, g63, f_ideal, f_over, (SAME.up eF78 SAME.rf (by decide)), (get_eq eF78), (ir_wk k77 (by decide) (by decide)), (SAME.tr (SAME.tr (SAME.tr SAME.rf t10 (by decide)) t34 (by decide)) t64 (by decide)), t65, t66, t67, t68, t69, t70, t71, t72, ⟨by decide, by decide⟩, rfl⟩
      · have dc74 : r54.toInt ≠ 0 := ne_i (a := r54.toInt) (b := 0) rfl rfl c74
        have k79 : 1 ≤ r54.toInt ∧ r54.toInt ≤ 1 := ⟨ne_lo dc74 t73.1 ⟨Int.le_refl _, Int.le_refl _⟩ (by decide), t73.2⟩
        refine lv_aload_n hx hb dX1_readBend_55 rfl (lv_at hl 1 rfl) ?_
        refine lv_aload_n hx hb dX1_readBend_56 rfl (lv_at hl 0 rfl) ?_
        refine get_f (D := D) (ci := 1) (v := .ref h_ideal) (C := RX1) (T := TX1) (N := 18) hx hb hw inAX1 hown hK hP 0 rfl rfl 8 (by decide) (hw _ q_342) (fun _ h9 => h9) e_ideal dX1_readBend_57 ?_
        refine lv_aload_n hx hb dX1_readBend_60 rfl (lv_at hl 0 rfl) ?_
        refine get_f (D := D) (ci := 1) (v := .int x_bends) (C := RX1) (T := TX1) (N := 18) hx hb hw inAX1 hown hK hP 0 rfl rfl 14 (by decide) (hw _ q_354) (fun _ h9 => h9) e_bends dX1_readBend_61 ?_
        refine lv_iconst (v := 0) hx hb dX1_readBend_64 (by decide) ?_
        refine lv_bipush (v := 9) hx hb dX1_readBend_65 (by decide) ?_
        have n80 : F55 0 = .ref h_p0_bytes := (SAME.at t64 (by decide) n50)
        have n81 : F55 1 = .int x_p0_length := (SAME.at t64 (by decide) n51)
        have n82 : F55 9 = .ref h_p0_wordNames := (SAME.at t64 (by decide) n52)
        have n83 : F55 11 = .int x_p0_mostBytes := (SAME.at t64 (by decide) n53)
        refine call_Vi (wr := [(h0, .inr (1, vL 18 Fh)), (h_over, .inl (cI, 12, .inl f_over)), (h_length, .inl (cI, 12, .inl g33)), (h_drop, .inl (cI, 12, .inl g63))]) (As := [.ref h_ideal, .int x_bends, .int 0, .int 9]) (rest := []) hx hb hml hown hw (m_X6_takeInto_12 l D cI cJ cB cP cM cZ p0 h_p0_bytes h_p0_wordNames h_ideal F55 x_p0_length y56 y57 y58 y59 y60 y61 y62 x_p0_mostBytes f_p0_bytes f_p0_wordNames f_ideal x_bends 0 9 _ n80 n81 i_x_p0_length t65 t66 t67 t68 t69 t70 n82 t71 t72 n83) wV_X1_140_X6_takeInto dX1_readBend_67 hK hP hD hS hA [4, 5, 6, 1] [0, 2, 3, 7] rfl rfl (by decide) (by decide) (by decide) 0 6 rfl rfl GG.fb hG.at hl.1 rfl (Nat.le_of_ble_eq_true rfl) ⟨(Nat.le_of_ble_eq_true rfl), (Nat.le_of_ble_eq_true rfl)⟩ ⟨(Nat.le_of_ble_eq_true rfl), (Nat.le_of_ble_eq_true rfl)⟩ (fun r84 u H locs hp hP hD hS => ?_)
        obtain ⟨F85, y86, y87, y88, y89, y90, y91, y92, g93, t94, t95, t96, t97, t98, t99, t100, t101, t102, t103, rfl⟩ := hp
        have hP : va_P D vwCl [(h0, .inr (1, vL 18 Fh)), (h_over, .inl (cI, 12, .inl f_over)), (h_length, .inl (cI, 12, .inl g33)), (h_drop, .inl (cI, 12, .inl g63)), (p0, .inr (6, vL 12 F85)), (h_p0_bytes, .inl (cB, 940, .inl f_p0_bytes)), (h_p0_wordNames, .inl (cJ, 23, .inr (.inl f_p0_wordNames))), (h_ideal, .inl (cI, 12, .inl g93))] H := hP
        have hD : va_D A [(h0, .inr (1, vL 18 Fh)), (h_over, .inl (cI, 12, .inl f_over)), (h_length, .inl (cI, 12, .inl g33)), (h_drop, .inl (cI, 12, .inl g63)), (p0, .inr (6, vL 12 F85)), (h_p0_bytes, .inl (cB, 940, .inl f_p0_bytes)), (h_p0_wordNames, .inl (cJ, 23, .inr (.inl f_p0_wordNames))), (h_ideal, .inl (cI, 12, .inl g93))] := hD
        refine W.widen (k := 0) (n := 0) (Nat.le_of_ble_eq_true rfl) (Nat.le_of_ble_eq_true rfl) ?_
        refine lv_if_eq (tgt := 95) hx hb dX1_readBend_70 (by decide) (fun c104 => ?_) (fun c104 => ?_)
        · have dc104 : r84.toInt = 0 := eq_i (a := r84.toInt) (b := 0) rfl rfl c104
          have k105 : 0 ≤ r84.toInt ∧ r84.toInt ≤ 0 := ⟨t103.1, Int.le_trans (Int.le_of_eq dc104) (Int.le_refl _)⟩
          refine lv_iconst (v := 0) hx hb dX1_readBend_95 (by decide) ?_
          refine lv_istore_n (lv' := [(2, .int 0), (0, .ref h0), (1, .ref p0)]) hx hb dX1_readBend_96 rfl hl (by decide) rfl (fun ls hl => ?_)
          refine lv_aload_n hx hb dX1_readBend_97 rfl (lv_at hl 1 rfl) ?_
          refine lv_dup hx hb dX1_readBend_98 rfl ?_
          refine get_f (D := D) (ci := 1) (v := .int x_bends) (C := RX1) (T := TX1) (N := 18) hx hb hw inAX1 hown hK hP 0 rfl rfl 14 (by decide) (hw _ q_354) (fun _ h9 => h9) e_bends dX1_readBend_99 ?_
          refine lv_iload_n hx hb dX1_readBend_102 rfl (lv_at hl 0 rfl) ?_
          refine lv_if_eq (tgt := 110) hx hb dX1_readBend_103 (by decide) (fun _ => ?_) (fun g => absurd (by decide) g)
          refine lv_iconst (v := 0) hx hb dX1_readBend_110 (by decide) ?_
          refine lv_iadd hx hb dX1_readBend_111 ?_
          refine lv_topi (fun v106 ev106 => ?_)
          have bv106 : v106.toInt = x_bends.toInt + 0 := by rw [ev106]; exact add_k rfl rfl k2 ⟨Int.le_refl _, Int.le_refl _⟩ (by decide)
          have k107 : 0 ≤ v106.toInt ∧ v106.toInt ≤ 11 := add_r bv106 k2 ⟨Int.le_refl _, Int.le_refl _⟩ (by decide)
          refine put_f (D := D) (ci := 1) (v := .int v106) (ty := .int) (C := RX1) (T := TX1) (N := 18) hx hb hw inAX1 tyX1 tyX1_ok nmX1 hown hK hP hD hS 0 rfl rfl 14 (by decide) (hw _ q_354) (fun _ h9 => h9) rfl (by decide +kernel) rfl rfl dX1_readBend_112 (fun H locs F108 eF108 hP hD hS => ?_)
          have hP : va_P D vwCl [(h0, .inr (1, vL 18 F108)), (h_over, .inl (cI, 12, .inl f_over)), (h_length, .inl (cI, 12, .inl g33)), (h_drop, .inl (cI, 12, .inl g63)), (p0, .inr (6, vL 12 F85)), (h_p0_bytes, .inl (cB, 940, .inl f_p0_bytes)), (h_p0_wordNames, .inl (cJ, 23, .inr (.inl f_p0_wordNames))), (h_ideal, .inl (cI, 12, .inl g93))] H := hP
          have hD : va_D A [(h0, .inr (1, vL 18 F108)), (h_over, .inl (cI, 12, .inl f_over)), (h_length, .inl (cI, 12, .inl g33)), (h_drop, .inl (cI, 12, .inl g63)), (p0, .inr (6, vL 12 F85)), (h_p0_bytes, .inl (cB, 940, .inl f_p0_bytes)), (h_p0_wordNames, .inl (cJ, 23, .inr (.inl f_p0_wordNames))), (h_ideal, .inl (cI, 12, .inl g93))] := hD
          refine lv_iload_n hx hb dX1_readBend_115 rfl (lv_at hl 0 rfl) ?_
          exact ret_i (v := 0) hx hb hr hlocks hS (hP.sub (ws' := [(h0, .inr (1, vL 18 F108)), (h_length, .inl (cI, 12, .inl g33)), (h_drop, .inl (cI, 12, .inl g63)), (h_ideal, .inl (cI, 12, .inl g93)), (h_over, .inl (cI, 12, .inl f_over)), (p0, .inr (6, vL 12 F85)), (h_p0_bytes, .inl (cB, 940, .inl f_p0_bytes)), (h_p0_wordNames, .inl (cJ, 23, .inr (.inl f_p0_wordNames)))]) [0, 2, 3, 7, 1, 4, 5, 6] rfl) (hD.sub (ws' := [(h0, .inr (1, vL 18 F108)), (h_length, .inl (cI, 12, .inl g33)), (h_drop, .inl (cI, 12, .inl g63)), (h_ideal, .inl (cI, 12, .inl g93)), (h_over, .inl (cI, 12, .inl f_over)), (p0, .inr (6, vL 12 F85)), (h_p0_bytes, .inl (cB, 940, .inl f_p0_bytes)), (h_p0_wordNames, .inl (cJ, 23, .inr (.inl f_p0_wordNames)))]) [0, 2, 3, 7, 1, 4, 5, 6] (by decide) rfl) dX1_readBend_116 rfl (Nat.le_of_ble_eq_true rfl) (Nat.le_of_ble_eq_true rfl) ⟨F108, v106, F85, y86, y87, y88, y89, y90, y91, y92, g33, g63, g93, f_over, (SAME.up eF108 SAME.rf (by decide)), (get_eq eF108), (ir_wk k107 (by decide) (by decide)), (SAME.tr (SAME.tr (SAME.tr (SAME.tr SAME.rf t10 (by decide)) t34 (by decide)) t64 (by decide)) t94 (by decide)), t95, t96, t97, t98, t99, t100, t101, t102, ⟨by decide, by decide⟩, rfl⟩
        · have dc104 : r84.toInt ≠ 0 := ne_i (a := r84.toInt) (b := 0) rfl rfl c104
          have k109 : 1 ≤ r84.toInt ∧ r84.toInt ≤ 1 := ⟨ne_lo dc104 t103.1 ⟨Int.le_refl _, Int.le_refl _⟩ (by decide), t103.2⟩
          refine lv_aload_n hx hb dX1_readBend_73 rfl (lv_at hl 1 rfl) ?_
          refine lv_aload_n hx hb dX1_readBend_74 rfl (lv_at hl 0 rfl) ?_
          refine get_f (D := D) (ci := 1) (v := .ref h_over) (C := RX1) (T := TX1) (N := 18) hx hb hw inAX1 hown hK hP 0 rfl rfl 9 (by decide) (hw _ q_345) (fun _ h9 => h9) e_over dX1_readBend_75 ?_
          refine lv_aload_n hx hb dX1_readBend_78 rfl (lv_at hl 0 rfl) ?_
          refine get_f (D := D) (ci := 1) (v := .int x_bends) (C := RX1) (T := TX1) (N := 18) hx hb hw inAX1 hown hK hP 0 rfl rfl 14 (by decide) (hw _ q_354) (fun _ h9 => h9) e_bends dX1_readBend_79 ?_
          refine lv_iconst (v := 1) hx hb dX1_readBend_82 (by decide) ?_
          refine lv_bipush (v := 99) hx hb dX1_readBend_83 (by decide) ?_
          have n110 : F85 0 = .ref h_p0_bytes := (SAME.at t94 (by decide) n80)
          have n111 : F85 1 = .int x_p0_length := (SAME.at t94 (by decide) n81)
          have n112 : F85 9 = .ref h_p0_wordNames := (SAME.at t94 (by decide) n82)
          have n113 : F85 11 = .int x_p0_mostBytes := (SAME.at t94 (by decide) n83)
          refine call_Vi (wr := [(h0, .inr (1, vL 18 Fh)), (h_length, .inl (cI, 12, .inl g33)), (h_drop, .inl (cI, 12, .inl g63)), (h_ideal, .inl (cI, 12, .inl g93))]) (As := [.ref h_over, .int x_bends, .int 1, .int 99]) (rest := []) hx hb hml hown hw (m_X6_takeInto_12 l D cI cJ cB cP cM cZ p0 h_p0_bytes h_p0_wordNames h_over F85 x_p0_length y86 y87 y88 y89 y90 y91 y92 x_p0_mostBytes f_p0_bytes f_p0_wordNames f_over x_bends 1 99 _ n110 n111 i_x_p0_length t95 t96 t97 t98 t99 t100 n112 t101 t102 n113) wV_X1_140_X6_takeInto dX1_readBend_85 hK hP hD hS hA [4, 5, 6, 1] [0, 2, 3, 7] rfl rfl (by decide) (by decide) (by decide) 0 6 rfl rfl GG.fb hG.at hl.1 rfl (Nat.le_of_ble_eq_true rfl) ⟨(Nat.le_of_ble_eq_true rfl), (Nat.le_of_ble_eq_true rfl)⟩ ⟨(Nat.le_of_ble_eq_true rfl), (Nat.le_of_ble_eq_true rfl)⟩ (fun r114 u H locs hp hP hD hS => ?_)
          obtain ⟨F115, y116, y117, y118, y119, y120, y121, y122, g123, t124, t125, t126, t127, t128, t129, t130, t131, t132, t133, rfl⟩ := hp
          have hP : va_P D vwCl [(h0, .inr (1, vL 18 Fh)), (h_length, .inl (cI, 12, .inl g33)), (h_drop, .inl (cI, 12, .inl g63)), (h_ideal, .inl (cI, 12, .inl g93)), (p0, .inr (6, vL 12 F115)), (h_p0_bytes, .inl (cB, 940, .inl f_p0_bytes)), (h_p0_wordNames, .inl (cJ, 23, .inr (.inl f_p0_wordNames))), (h_over, .inl (cI, 12, .inl g123))] H := hP
          have hD : va_D A [(h0, .inr (1, vL 18 Fh)), (h_length, .inl (cI, 12, .inl g33)), (h_drop, .inl (cI, 12, .inl g63)), (h_ideal, .inl (cI, 12, .inl g93)), (p0, .inr (6, vL 12 F115)), (h_p0_bytes, .inl (cB, 940, .inl f_p0_bytes)), (h_p0_wordNames, .inl (cJ, 23, .inr (.inl f_p0_wordNames))), (h_over, .inl (cI, 12, .inl g123))] := hD
          refine W.widen (k := 0) (n := 0) (Nat.le_of_ble_eq_true rfl) (Nat.le_of_ble_eq_true rfl) ?_
          refine lv_if_eq (tgt := 95) hx hb dX1_readBend_88 (by decide) (fun c134 => ?_) (fun c134 => ?_)
          · have dc134 : r114.toInt = 0 := eq_i (a := r114.toInt) (b := 0) rfl rfl c134
            have k135 : 0 ≤ r114.toInt ∧ r114.toInt ≤ 0 := ⟨t133.1, Int.le_trans (Int.le_of_eq dc134) (Int.le_refl _)⟩
            refine lv_iconst (v := 0) hx hb dX1_readBend_95 (by decide) ?_
            refine lv_istore_n (lv' := [(2, .int 0), (0, .ref h0), (1, .ref p0)]) hx hb dX1_readBend_96 rfl hl (by decide) rfl (fun ls hl => ?_)
            refine lv_aload_n hx hb dX1_readBend_97 rfl (lv_at hl 1 rfl) ?_
            refine lv_dup hx hb dX1_readBend_98 rfl ?_
            refine get_f (D := D) (ci := 1) (v := .int x_bends) (C := RX1) (T := TX1) (N := 18) hx hb hw inAX1 hown hK hP 0 rfl rfl 14 (by decide) (hw _ q_354) (fun _ h9 => h9) e_bends dX1_readBend_99 ?_
            refine lv_iload_n hx hb dX1_readBend_102 rfl (lv_at hl 0 rfl) ?_
            refine lv_if_eq (tgt := 110) hx hb dX1_readBend_103 (by decide) (fun _ => ?_) (fun g => absurd (by decide) g)
            refine lv_iconst (v := 0) hx hb dX1_readBend_110 (by decide) ?_
            refine lv_iadd hx hb dX1_readBend_111 ?_
            refine lv_topi (fun v136 ev136 => ?_)
            have bv136 : v136.toInt = x_bends.toInt + 0 := by rw [ev136]; exact add_k rfl rfl k2 ⟨Int.le_refl _, Int.le_refl _⟩ (by decide)
            have k137 : 0 ≤ v136.toInt ∧ v136.toInt ≤ 11 := add_r bv136 k2 ⟨Int.le_refl _, Int.le_refl _⟩ (by decide)
            refine put_f (D := D) (ci := 1) (v := .int v136) (ty := .int) (C := RX1) (T := TX1) (N := 18) hx hb hw inAX1 tyX1 tyX1_ok nmX1 hown hK hP hD hS 0 rfl rfl 14 (by decide) (hw _ q_354) (fun _ h9 => h9) rfl (by decide +kernel) rfl rfl dX1_readBend_112 (fun H locs F138 eF138 hP hD hS => ?_)
            have hP : va_P D vwCl [(h0, .inr (1, vL 18 F138)), (h_length, .inl (cI, 12, .inl g33)), (h_drop, .inl (cI, 12, .inl g63)), (h_ideal, .inl (cI, 12, .inl g93)), (p0, .inr (6, vL 12 F115)), (h_p0_bytes, .inl (cB, 940, .inl f_p0_bytes)), (h_p0_wordNames, .inl (cJ, 23, .inr (.inl f_p0_wordNames))), (h_over, .inl (cI, 12, .inl g123))] H := hP
            have hD : va_D A [(h0, .inr (1, vL 18 F138)), (h_length, .inl (cI, 12, .inl g33)), (h_drop, .inl (cI, 12, .inl g63)), (h_ideal, .inl (cI, 12, .inl g93)), (p0, .inr (6, vL 12 F115)), (h_p0_bytes, .inl (cB, 940, .inl f_p0_bytes)), (h_p0_wordNames, .inl (cJ, 23, .inr (.inl f_p0_wordNames))), (h_over, .inl (cI, 12, .inl g123))] := hD
            refine lv_iload_n hx hb dX1_readBend_115 rfl (lv_at hl 0 rfl) ?_
            exact ret_i (v := 0) hx hb hr hlocks hS (hP.sub (ws' := [(h0, .inr (1, vL 18 F138)), (h_length, .inl (cI, 12, .inl g33)), (h_drop, .inl (cI, 12, .inl g63)), (h_ideal, .inl (cI, 12, .inl g93)), (h_over, .inl (cI, 12, .inl g123)), (p0, .inr (6, vL 12 F115)), (h_p0_bytes, .inl (cB, 940, .inl f_p0_bytes)), (h_p0_wordNames, .inl (cJ, 23, .inr (.inl f_p0_wordNames)))]) [0, 1, 2, 3, 7, 4, 5, 6] rfl) (hD.sub (ws' := [(h0, .inr (1, vL 18 F138)), (h_length, .inl (cI, 12, .inl g33)), (h_drop, .inl (cI, 12, .inl g63)), (h_ideal, .inl (cI, 12, .inl g93)), (h_over, .inl (cI, 12, .inl g123)), (p0, .inr (6, vL 12 F115)), (h_p0_bytes, .inl (cB, 940, .inl f_p0_bytes)), (h_p0_wordNames, .inl (cJ, 23, .inr (.inl f_p0_wordNames)))]) [0, 1, 2, 3, 7, 4, 5, 6] (by decide) rfl) dX1_readBend_116 rfl (Nat.le_of_ble_eq_true rfl) (Nat.le_of_ble_eq_true rfl) ⟨F138, v136, F115, y116, y117, y118, y119, y120, y121, y122, g33, g63, g93, g123, (SAME.up eF138 SAME.rf (by decide)), (get_eq eF138), (ir_wk k137 (by decide) (by decide)), (SAME.tr (SAME.tr (SAME.tr (SAME.tr (SAME.tr SAME.rf t10 (by decide)) t34 (by decide)) t64 (by decide)) t94 (by decide)) t124 (by decide)), t125, t126, t127, t128, t129, t130, t131, t132, ⟨by decide, by decide⟩, rfl⟩
          · have dc134 : r114.toInt ≠ 0 := ne_i (a := r114.toInt) (b := 0) rfl rfl c134
            have k139 : 1 ≤ r114.toInt ∧ r114.toInt ≤ 1 := ⟨ne_lo dc134 t133.1 ⟨Int.le_refl _, Int.le_refl _⟩ (by decide), t133.2⟩
            refine lv_iconst (v := 1) hx hb dX1_readBend_91 (by decide) ?_
            refine lv_goto (tgt := 96) hx hb dX1_readBend_92 (by decide) ?_
            refine lv_istore_n (lv' := [(2, .int 1), (0, .ref h0), (1, .ref p0)]) hx hb dX1_readBend_96 rfl hl (by decide) rfl (fun ls hl => ?_)
            refine lv_aload_n hx hb dX1_readBend_97 rfl (lv_at hl 1 rfl) ?_
            refine lv_dup hx hb dX1_readBend_98 rfl ?_
            refine get_f (D := D) (ci := 1) (v := .int x_bends) (C := RX1) (T := TX1) (N := 18) hx hb hw inAX1 hown hK hP 0 rfl rfl 14 (by decide) (hw _ q_354) (fun _ h9 => h9) e_bends dX1_readBend_99 ?_
            refine lv_iload_n hx hb dX1_readBend_102 rfl (lv_at hl 0 rfl) ?_
            refine lv_if_eq (tgt := 110) hx hb dX1_readBend_103 (by decide) (fun g => absurd g (by decide)) (fun _ => ?_)
            refine lv_iconst (v := 1) hx hb dX1_readBend_106 (by decide) ?_
            refine lv_goto (tgt := 111) hx hb dX1_readBend_107 (by decide) ?_
            refine lv_iadd hx hb dX1_readBend_111 ?_
            refine lv_topi (fun v140 ev140 => ?_)
            have bv140 : v140.toInt = x_bends.toInt + 1 := by rw [ev140]; exact add_k rfl rfl k2 ⟨Int.le_refl _, Int.le_refl _⟩ (by decide)
            have k141 : 1 ≤ v140.toInt ∧ v140.toInt ≤ 12 := add_r bv140 k2 ⟨Int.le_refl _, Int.le_refl _⟩ (by decide)
            refine put_f (D := D) (ci := 1) (v := .int v140) (ty := .int) (C := RX1) (T := TX1) (N := 18) hx hb hw inAX1 tyX1 tyX1_ok nmX1 hown hK hP hD hS 0 rfl rfl 14 (by decide) (hw _ q_354) (fun _ h9 => h9) rfl (by decide +kernel) rfl rfl dX1_readBend_112 (fun H locs F142 eF142 hP hD hS => ?_)
            have hP : va_P D vwCl [(h0, .inr (1, vL 18 F142)), (h_length, .inl (cI, 12, .inl g33)), (h_drop, .inl (cI, 12, .inl g63)), (h_ideal, .inl (cI, 12, .inl g93)), (p0, .inr (6, vL 12 F115)), (h_p0_bytes, .inl (cB, 940, .inl f_p0_bytes)), (h_p0_wordNames, .inl (cJ, 23, .inr (.inl f_p0_wordNames))), (h_over, .inl (cI, 12, .inl g123))] H := hP
            have hD : va_D A [(h0, .inr (1, vL 18 F142)), (h_length, .inl (cI, 12, .inl g33)), (h_drop, .inl (cI, 12, .inl g63)), (h_ideal, .inl (cI, 12, .inl g93)), (p0, .inr (6, vL 12 F115)), (h_p0_bytes, .inl (cB, 940, .inl f_p0_bytes)), (h_p0_wordNames, .inl (cJ, 23, .inr (.inl f_p0_wordNames))), (h_over, .inl (cI, 12, .inl g123))] := hD
            refine lv_iload_n hx hb dX1_readBend_115 rfl (lv_at hl 0 rfl) ?_
            exact ret_i (v := 1) hx hb hr hlocks hS (hP.sub (ws' := [(h0, .inr (1, vL 18 F142)), (h_length, .inl (cI, 12, .inl g33)), (h_drop, .inl (cI, 12, .inl g63)), (h_ideal, .inl (cI, 12, .inl g93)), (h_over, .inl (cI, 12, .inl g123)), (p0, .inr (6, vL 12 F115)), (h_p0_bytes, .inl (cB, 940, .inl f_p0_bytes)), (h_p0_wordNames, .inl (cJ, 23, .inr (.inl f_p0_wordNames)))]) [0, 1, 2, 3, 7, 4, 5, 6] rfl) (hD.sub (ws' := [(h0, .inr (1, vL 18 F142)), (h_length, .inl (cI, 12, .inl g33)), (h_drop, .inl (cI, 12, .inl g63)), (h_ideal, .inl (cI, 12, .inl g93)), (h_over, .inl (cI, 12, .inl g123)), (p0, .inr (6, vL 12 F115)), (h_p0_bytes, .inl (cB, 940, .inl f_p0_bytes)), (h_p0_wordNames, .inl (cJ, 23, .inr (.inl f_p0_wordNames)))]) [0, 1, 2, 3, 7, 4, 5, 6] (by decide) rfl) dX1_readBend_116 rfl (Nat.le_of_ble_eq_true rfl) (Nat.le_of_ble_eq_true rfl) ⟨F142, v140, F115, y116, y117, y118, y119, y120, y121, y122, g33, g63, g93, g123, (SAME.up eF142 SAME.rf (by decide)), (get_eq eF142), (ir_wk k141 (by decide) (by decide)), (SAME.tr (SAME.tr (SAME.tr (SAME.tr (SAME.tr SAME.rf t10 (by decide)) t34 (by decide)) t64 (by decide)) t94 (by decide)) t124 (by decide)), t125, t126, t127, t128, t129, t130, t131, t132, ⟨by decide, by decide⟩, rfl⟩
  · have dc1 : 12 ≤ x_bends.toInt := nlt_i (a := x_bends.toInt) (b := 12) rfl rfl c1
    have k143 : 12 ≤ x_bends.toInt ∧ x_bends.toInt ≤ 12 := ⟨Int.le_trans (Int.le_refl _) dc1, i_x_bends.2⟩
    refine lv_aload_n hx hb dX1_readBend_9 rfl (lv_at hl 1 rfl) ?_
    refine lv_iconst (v := 4) hx hb dX1_readBend_10 (by decide) ?_
    refine call_Vi (wr := [(h0, .inr (1, vL 18 Fh)), (h_length, .inl (cI, 12, .inl f_length)), (h_drop, .inl (cI, 12, .inl f_drop)), (h_ideal, .inl (cI, 12, .inl f_ideal)), (h_over, .inl (cI, 12, .inl f_over)), (h_p0_bytes, .inl (cB, 940, .inl f_p0_bytes)), (h_p0_wordNames, .inl (cJ, 23, .inr (.inl f_p0_wordNames)))]) (As := [.int 4]) (rest := []) hx hb hml hown hw (m_X6_fail l D cI cJ cB cP cM cZ p0 F_p0_ x_p0_place 4 _ e_p0_place) wV_X1_128_X6_fail dX1_readBend_11 hK hP hD hS hA [5] [0, 1, 2, 3, 4, 6, 7] rfl rfl (by decide) (by decide) (by decide) 0 6 rfl rfl GG.fb hG.at hl.1 rfl (Nat.le_of_ble_eq_true rfl) ⟨(Nat.le_of_ble_eq_true rfl), (Nat.le_of_ble_eq_true rfl)⟩ ⟨(Nat.le_of_ble_eq_true rfl), (Nat.le_of_ble_eq_true rfl)⟩ (fun r144 u H locs hp hP hD hS => ?_)
    obtain ⟨F145, t146, t147, t148, rfl, rfl⟩ := hp
    have hP : va_P D vwCl [(h0, .inr (1, vL 18 Fh)), (h_length, .inl (cI, 12, .inl f_length)), (h_drop, .inl (cI, 12, .inl f_drop)), (h_ideal, .inl (cI, 12, .inl f_ideal)), (h_over, .inl (cI, 12, .inl f_over)), (h_p0_bytes, .inl (cB, 940, .inl f_p0_bytes)), (h_p0_wordNames, .inl (cJ, 23, .inr (.inl f_p0_wordNames))), (p0, .inr (6, vL 12 F145))] H := hP
    have hD : va_D A [(h0, .inr (1, vL 18 Fh)), (h_length, .inl (cI, 12, .inl f_length)), (h_drop, .inl (cI, 12, .inl f_drop)), (h_ideal, .inl (cI, 12, .inl f_ideal)), (h_over, .inl (cI, 12, .inl f_over)), (h_p0_bytes, .inl (cB, 940, .inl f_p0_bytes)), (h_p0_wordNames, .inl (cJ, 23, .inr (.inl f_p0_wordNames))), (p0, .inr (6, vL 12 F145))] := hD
    refine W.widen (k := 0) (n := 0) (Nat.le_of_ble_eq_true rfl) (Nat.le_of_ble_eq_true rfl) ?_
    exact ret_i (v := 0) hx hb hr hlocks hS (hP.sub (ws' := [(h0, .inr (1, vL 18 Fh)), (h_length, .inl (cI, 12, .inl f_length)), (h_drop, .inl (cI, 12, .inl f_drop)), (h_ideal, .inl (cI, 12, .inl f_ideal)), (h_over, .inl (cI, 12, .inl f_over)), (p0, .inr (6, vL 12 F145)), (h_p0_bytes, .inl (cB, 940, .inl f_p0_bytes)), (h_p0_wordNames, .inl (cJ, 23, .inr (.inl f_p0_wordNames)))]) [0, 1, 2, 3, 4, 7, 5, 6] rfl) (hD.sub (ws' := [(h0, .inr (1, vL 18 Fh)), (h_length, .inl (cI, 12, .inl f_length)), (h_drop, .inl (cI, 12, .inl f_drop)), (h_ideal, .inl (cI, 12, .inl f_ideal)), (h_over, .inl (cI, 12, .inl f_over)), (p0, .inr (6, vL 12 F145)), (h_p0_bytes, .inl (cB, 940, .inl f_p0_bytes)), (h_p0_wordNames, .inl (cJ, 23, .inr (.inl f_p0_wordNames)))]) [0, 1, 2, 3, 4, 7, 5, 6] (by decide) rfl) dX1_readBend_14 rfl (Nat.le_of_ble_eq_true rfl) (Nat.le_of_ble_eq_true rfl) ⟨Fh, x_bends, F145, x_p0_kind, x_p0_place, x_p0_value, x_p0_name, 4, x_p0_place, x_p0_at, f_length, f_drop, f_ideal, f_over, SAME.rf, e_bends, (ir_wk k143 (by decide) (by decide)), (SAME.tr SAME.rf t146 (by decide)), (SAME.at t146 (by decide) e_p0_kind), (SAME.at t146 (by decide) e_p0_place), (SAME.at t146 (by decide) e_p0_value), (SAME.at t146 (by decide) e_p0_name), t147, t148, (SAME.at t146 (by decide) e_p0_at), i_x_p0_at, ⟨by decide, by decide⟩, rfl⟩
set_option maxHeartbeats 4000000 in
set_option maxRecDepth 100000 in
theorem m_X1_readName_runnerName (l : Launch) (D : va_G) (cI cJ cB cP cM cZ : ClassId) (h0 : Nat) (h_manName : Nat) (h_runnerName : Nat) (p0 : Nat) (h_p0_bytes : Nat) (h_p0_wordNames : Nat) (Fh : Nat → Value) (x_men : Int32) (x_runners : Int32) (f_manName : Nat → Int64) (f_runnerName : Nat → Int64) (F_p0_ : Nat → Value) (x_p0_length : Int32) (x_p0_kind : Int32) (x_p0_place : Int32) (x_p0_value : Int32) (x_p0_name : Int64) (x_p0_faultKind : Int32) (x_p0_faultPlace : Int32) (x_p0_at : Int32) (x_p0_mostBytes : Int32) (f_p0_bytes : Nat → Int32) (f_p0_wordNames : Nat → Int64) (p2 : Int32) (sz : Nat) (e_manName : Fh 2 = .ref h_manName) (e_runnerName : Fh 10 = .ref h_runnerName) (e_men : Fh 13 = .int x_men) (i_x_men : IR 0 12 x_men) (e_runners : Fh 15 = .int x_runners) (i_x_runners : IR 0 6 x_runners) (e_p0_bytes : F_p0_ 0 = .ref h_p0_bytes) (e_p0_length : F_p0_ 1 = .int x_p0_length) (i_x_p0_length : IR 0 940 x_p0_length) (e_p0_kind : F_p0_ 2 = .int x_p0_kind) (e_p0_place : F_p0_ 3 = .int x_p0_place) (e_p0_value : F_p0_ 4 = .int x_p0_value) (e_p0_name : F_p0_ 5 = .long x_p0_name) (e_p0_faultKind : F_p0_ 7 = .int x_p0_faultKind) (e_p0_faultPlace : F_p0_ 8 = .int x_p0_faultPlace) (e_p0_wordNames : F_p0_ 9 = .ref h_p0_wordNames) (e_p0_at : F_p0_ 10 = .int x_p0_at) (i_x_p0_at : IR 0 940 x_p0_at) (e_p0_mostBytes : F_p0_ 11 = .int x_p0_mostBytes) (i_p2 : IR 0 5 p2) : CI l yX1_readName cX1_readName 4 (some .boolean) { frames := 2, cells := 0, slots := 0, locals := 46 } (GG D cI cJ cB cP cM cZ) D [(h0, .inr (1, vL 18 Fh)), (h_manName, .inl (cJ, 12, .inr (.inl f_manName))), (h_runnerName, .inl (cJ, 6, .inr (.inl f_runnerName))), (p0, .inr (6, vL 12 F_p0_)), (h_p0_bytes, .inl (cB, 940, .inl f_p0_bytes)), (h_p0_wordNames, .inl (cJ, 23, .inr (.inl f_p0_wordNames)))] sz [.ref h0, .ref p0, .ref h_runnerName, .int p2] (fun (r : Int32) (u : va_W) => ∃ (G_p0_ : Nat → Value) (y_p0_kind : Int32) (y_p0_place : Int32) (y_p0_value : Int32) (y_p0_name : Int64) (y_p0_faultKind : Int32) (y_p0_faultPlace : Int32) (y_p0_at : Int32) (g_runnerName : Nat → Int64), SAME [2, 3, 4, 5, 7, 8, 10] F_p0_ G_p0_ ∧ G_p0_ 2 = .int y_p0_kind ∧ G_p0_ 3 = .int y_p0_place ∧ G_p0_ 4 = .int y_p0_value ∧ G_p0_ 5 = .long y_p0_name ∧ G_p0_ 7 = .int y_p0_faultKind ∧ G_p0_ 8 = .int y_p0_faultPlace ∧ G_p0_ 10 = .int y_p0_at ∧ IR 0 940 y_p0_at ∧ IR 0 1 r ∧ u = [(h0, .inr (1, vL 18 Fh)), (h_manName, .inl (cJ, 12, .inr (.inl f_manName))), (h_runnerName, .inl (cJ, 6, .inr (.inl g_runnerName))), (p0, .inr (6, vL 12 G_p0_)), (h_p0_bytes, .inl (cB, 940, .inl f_p0_bytes)), (h_p0_wordNames, .inl (cJ, 23, .inr (.inl f_p0_wordNames)))]) := by
  refine CI_mk (by decide) (Nat.le_of_ble_eq_true rfl) ?_
  intro p e s m below meth c A ls E hAe hG hsz hP hD hA hS hl
  obtain ⟨hx, hb, hr, hw, hown, hlocks, hml, hnm⟩ := E
  have hK := hG.1
  have i_x_men : 0 ≤ x_men.toInt ∧ x_men.toInt ≤ 12 := i_x_men
  have i_x_runners : 0 ≤ x_runners.toInt ∧ x_runners.toInt ≤ 6 := i_x_runners
  have i_x_p0_length : 0 ≤ x_p0_length.toInt ∧ x_p0_length.toInt ≤ 940 := i_x_p0_length
  have i_x_p0_at : 0 ≤ x_p0_at.toInt ∧ x_p0_at.toInt ≤ 940 := i_x_p0_at
  have i_p2 : 0 ≤ p2.toInt ∧ p2.toInt ≤ 5 := i_p2
  have hl : lv_has ls 4 [(0, .ref h0), (1, .ref p0), (2, .ref h_runnerName), (3, .int p2)] := hl
  refine lv_aload_n hx hb dX1_readName_0 rfl (lv_at hl 1 rfl) ?_
  refine call_Vi (wr := [(h0, .inr (1, vL 18 Fh)), (h_manName, .inl (cJ, 12, .inr (.inl f_manName))), (h_runnerName, .inl (cJ, 6, .inr (.inl f_runnerName))), (h_p0_bytes, .inl (cB, 940, .inl f_p0_bytes)), (h_p0_wordNames, .inl (cJ, 23, .inr (.inl f_p0_wordNames)))]) (As := []) (rest := []) hx hb hml hown hw (m_X6_isName l D cI cJ cB cP cM cZ p0 F_p0_ x_p0_kind x_p0_value _ e_p0_kind e_p0_value) wV_X1_148_X6_isName dX1_readName_1 hK hP hD hS hA [3] [0, 1, 2, 4, 5] rfl rfl (by decide) (by decide) (by decide) 0 6 rfl rfl GG.fb hG.at hl.1 rfl (Nat.le_of_ble_eq_true rfl) ⟨(Nat.le_of_ble_eq_true rfl), (Nat.le_of_ble_eq_true rfl)⟩ ⟨(Nat.le_of_ble_eq_true rfl), (Nat.le_of_ble_eq_true rfl)⟩ (fun r1 u H locs hp hP hD hS => ?_)
  obtain ⟨t2, rfl⟩ := hp
  have hP : va_P D vwCl [(h0, .inr (1, vL 18 Fh)), (h_manName, .inl (cJ, 12, .inr (.inl f_manName))), (h_runnerName, .inl (cJ, 6, .inr (.inl f_runnerName))), (h_p0_bytes, .inl (cB, 940, .inl f_p0_bytes)), (h_p0_wordNames, .inl (cJ, 23, .inr (.inl f_p0_wordNames))), (p0, .inr (6, vL 12 F_p0_))] H := hP
  have hD : va_D A [(h0, .inr (1, vL 18 Fh)), (h_manName, .inl (cJ, 12, .inr (.inl f_manName))), (h_runnerName, .inl (cJ, 6, .inr (.inl f_runnerName))), (h_p0_bytes, .inl (cB, 940, .inl f_p0_bytes)), (h_p0_wordNames, .inl (cJ, 23, .inr (.inl f_p0_wordNames))), (p0, .inr (6, vL 12 F_p0_))] := hD
  refine W.widen (k := 0) (n := 0) (Nat.le_of_ble_eq_true rfl) (Nat.le_of_ble_eq_true rfl) ?_
  refine lv_if_ne (tgt := 13) hx hb dX1_readName_4 (by decide) (fun c3 => ?_) (fun c3 => ?_)
  · have dc3 : r1.toInt ≠ 0 := ne_i (a := r1.toInt) (b := 0) rfl rfl c3
    have k4 : 1 ≤ r1.toInt ∧ r1.toInt ≤ 1 := ⟨ne_lo dc3 t2.1 ⟨Int.le_refl _, Int.le_refl _⟩ (by decide), t2.2⟩
    refine lv_aload_n hx hb dX1_readName_13 rfl (lv_at hl 0 rfl) ?_
    refine lv_aload_n hx hb dX1_readName_14 rfl (lv_at hl 1 rfl) ?_
    refine get_f (D := D) (ci := 6) (v := .long x_p0_name) (C := RX6) (T := TX6) (N := 12) hx hb hw inAX6 hown hK hP 5 rfl rfl 5 (by decide) (hw _ q_101) (fun _ h9 => h9) e_p0_name dX1_readName_15 ?_
    refine call_Vi (wr := [(h_runnerName, .inl (cJ, 6, .inr (.inl f_runnerName))), (h_p0_bytes, .inl (cB, 940, .inl f_p0_bytes)), (h_p0_wordNames, .inl (cJ, 23, .inr (.inl f_p0_wordNames))), (p0, .inr (6, vL 12 F_p0_))]) (As := [.long x_p0_name]) (rest := []) hx hb hml hown hw (m_X1_manNamed l D cI cJ cB cP cM cZ h0 h_manName Fh x_men f_manName x_p0_name _ e_manName e_men i_x_men) wV_X1_156_X1_manNamed dX1_readName_18 hK hP hD hS hA [0, 1] [2, 3, 4, 5] rfl rfl (by decide) (by decide) (by decide) 0 1 rfl rfl GG.fb hG.at hl.1 rfl (Nat.le_of_ble_eq_true rfl) ⟨(Nat.le_of_ble_eq_true rfl), (Nat.le_of_ble_eq_true rfl)⟩ ⟨(Nat.le_of_ble_eq_true rfl), (Nat.le_of_ble_eq_true rfl)⟩ (fun r5 u H locs hp hP hD hS => ?_)
    obtain ⟨t6, rfl⟩ := hp
    have hP : va_P D vwCl [(h_runnerName, .inl (cJ, 6, .inr (.inl f_runnerName))), (h_p0_bytes, .inl (cB, 940, .inl f_p0_bytes)), (h_p0_wordNames, .inl (cJ, 23, .inr (.inl f_p0_wordNames))), (p0, .inr (6, vL 12 F_p0_)), (h0, .inr (1, vL 18 Fh)), (h_manName, .inl (cJ, 12, .inr (.inl f_manName)))] H := hP
    have hD : va_D A [(h_runnerName, .inl (cJ, 6, .inr (.inl f_runnerName))), (h_p0_bytes, .inl (cB, 940, .inl f_p0_bytes)), (h_p0_wordNames, .inl (cJ, 23, .inr (.inl f_p0_wordNames))), (p0, .inr (6, vL 12 F_p0_)), (h0, .inr (1, vL 18 Fh)), (h_manName, .inl (cJ, 12, .inr (.inl f_manName)))] := hD
    refine W.widen (k := 0) (n := 0) (Nat.le_of_ble_eq_true rfl) (Nat.le_of_ble_eq_true rfl) ?_
    refine lv_iconst (v := (-1)) hx hb dX1_readName_21 (by decide) ?_
    refine lv_icmp_ne (tgt := 37) hx hb dX1_readName_22 (by decide) (fun c7 => ?_) (fun c7 => ?_)
    · have dc7 : r5.toInt ≠ (-1) := ne_i (a := r5.toInt) (b := (-1)) rfl rfl c7
      have k8 : 0 ≤ r5.toInt ∧ r5.toInt ≤ 11 := ⟨ne_lo dc7 t6.1 ⟨Int.le_refl _, Int.le_refl _⟩ (by decide), t6.2⟩
      refine lv_aload_n hx hb dX1_readName_37 rfl (lv_at hl 1 rfl) ?_
      refine lv_iconst (v := 3) hx hb dX1_readName_38 (by decide) ?_
      refine call_Vi (wr := [(h_runnerName, .inl (cJ, 6, .inr (.inl f_runnerName))), (h_p0_bytes, .inl (cB, 940, .inl f_p0_bytes)), (h_p0_wordNames, .inl (cJ, 23, .inr (.inl f_p0_wordNames))), (h0, .inr (1, vL 18 Fh)), (h_manName, .inl (cJ, 12, .inr (.inl f_manName)))]) (As := [.int 3]) (rest := []) hx hb hml hown hw (m_X6_fail l D cI cJ cB cP cM cZ p0 F_p0_ x_p0_place 3 _ e_p0_place) wV_X1_128_X6_fail dX1_readName_39 hK hP hD hS hA [3] [0, 1, 2, 4, 5] rfl rfl (by decide) (by decide) (by decide) 0 6 rfl rfl GG.fb hG.at hl.1 rfl (Nat.le_of_ble_eq_true rfl) ⟨(Nat.le_of_ble_eq_true rfl), (Nat.le_of_ble_eq_true rfl)⟩ ⟨(Nat.le_of_ble_eq_true rfl), (Nat.le_of_ble_eq_true rfl)⟩ (fun r9 u H locs hp hP hD hS => ?_)
      obtain ⟨F10, t11, t12, t13, rfl, rfl⟩ := hp
      have hP : va_P D vwCl [(h_runnerName, .inl (cJ, 6, .inr (.inl f_runnerName))), (h_p0_bytes, .inl (cB, 940, .inl f_p0_bytes)), (h_p0_wordNames, .inl (cJ, 23, .inr (.inl f_p0_wordNames))), (h0, .inr (1, vL 18 Fh)), (h_manName, .inl (cJ, 12, .inr (.inl f_manName))), (p0, .inr (6, vL 12 F10))] H := hP
      have hD : va_D A [(h_runnerName, .inl (cJ, 6, .inr (.inl f_runnerName))), (h_p0_bytes, .inl (cB, 940, .inl f_p0_bytes)), (h_p0_wordNames, .inl (cJ, 23, .inr (.inl f_p0_wordNames))), (h0, .inr (1, vL 18 Fh)), (h_manName, .inl (cJ, 12, .inr (.inl f_manName))), (p0, .inr (6, vL 12 F10))] := hD
      refine W.widen (k := 0) (n := 0) (Nat.le_of_ble_eq_true rfl) (Nat.le_of_ble_eq_true rfl) ?_
      exact ret_i (v := 0) hx hb hr hlocks hS (hP.sub (ws' := [(h0, .inr (1, vL 18 Fh)), (h_manName, .inl (cJ, 12, .inr (.inl f_manName))), (h_runnerName, .inl (cJ, 6, .inr (.inl f_runnerName))), (p0, .inr (6, vL 12 F10)), (h_p0_bytes, .inl (cB, 940, .inl f_p0_bytes)), (h_p0_wordNames, .inl (cJ, 23, .inr (.inl f_p0_wordNames)))]) [3, 4, 0, 5, 1, 2] rfl) (hD.sub (ws' := [(h0, .inr (1, vL 18 Fh)), (h_manName, .inl (cJ, 12, .inr (.inl f_manName))), (h_runnerName, .inl (cJ, 6, .inr (.inl f_runnerName))), (p0, .inr (6, vL 12 F10)), (h_p0_bytes, .inl (cB, 940, .inl f_p0_bytes)), (h_p0_wordNames, .inl (cJ, 23, .inr (.inl f_p0_wordNames)))]) [3, 4, 0, 5, 1, 2] (by decide) rfl) dX1_readName_42 rfl (Nat.le_of_ble_eq_true rfl) (Nat.le_of_ble_eq_true rfl) ⟨F10, x_p0_kind, x_p0_place, x_p0_value, x_p0_name, 3, x_p0_place, x_p0_at, f_runnerName, (SAME.tr SAME.rf t11 (by decide)), (SAME.at t11 (by decide) e_p0_kind), (SAME.at t11 (by decide) e_p0_place), (SAME.at t11 (by decide) e_p0_value), (SAME.at t11 (by decide) e_p0_name), t12, t13, (SAME.at t11 (by decide) e_p0_at), i_x_p0_at, ⟨by decide, by decide⟩, rfl⟩
    · have dc7 : r5.toInt = (-1) := eq_i (a := r5.toInt) (b := (-1)) rfl rfl c7
      have k14 : (-1) ≤ r5.toInt ∧ r5.toInt ≤ (-1) := ⟨t6.1, Int.le_trans (Int.le_of_eq dc7) (Int.le_refl _)⟩
      refine lv_aload_n hx hb dX1_readName_25 rfl (lv_at hl 0 rfl) ?_
      refine lv_aload_n hx hb dX1_readName_26 rfl (lv_at hl 1 rfl) ?_
      refine get_f (D := D) (ci := 6) (v := .long x_p0_name) (C := RX6) (T := TX6) (N := 12) hx hb hw inAX6 hown hK hP 3 rfl rfl 5 (by decide) (hw _ q_101) (fun _ h9 => h9) e_p0_name dX1_readName_27 ?_
      refine call_Vi (wr := [(h_p0_bytes, .inl (cB, 940, .inl f_p0_bytes)), (h_p0_wordNames, .inl (cJ, 23, .inr (.inl f_p0_wordNames))), (p0, .inr (6, vL 12 F_p0_)), (h_manName, .inl (cJ, 12, .inr (.inl f_manName)))]) (As := [.long x_p0_name]) (rest := []) hx hb hml hown hw (m_X1_runnerNamed l D cI cJ cB cP cM cZ h0 h_runnerName Fh x_runners f_runnerName x_p0_name _ e_runnerName e_runners i_x_runners) wV_X1_160_X1_runnerNamed dX1_readName_30 hK hP hD hS hA [4, 0] [1, 2, 3, 5] rfl rfl (by decide) (by decide) (by decide) 0 1 rfl rfl GG.fb hG.at hl.1 rfl (Nat.le_of_ble_eq_true rfl) ⟨(Nat.le_of_ble_eq_true rfl), (Nat.le_of_ble_eq_true rfl)⟩ ⟨(Nat.le_of_ble_eq_true rfl), (Nat.le_of_ble_eq_true rfl)⟩ (fun r15 u H locs hp hP hD hS => ?_)
      obtain ⟨t16, rfl⟩ := hp
      have hP : va_P D vwCl [(h_p0_bytes, .inl (cB, 940, .inl f_p0_bytes)), (h_p0_wordNames, .inl (cJ, 23, .inr (.inl f_p0_wordNames))), (p0, .inr (6, vL 12 F_p0_)), (h_manName, .inl (cJ, 12, .inr (.inl f_manName))), (h0, .inr (1, vL 18 Fh)), (h_runnerName, .inl (cJ, 6, .inr (.inl f_runnerName)))] H := hP
      have hD : va_D A [(h_p0_bytes, .inl (cB, 940, .inl f_p0_bytes)), (h_p0_wordNames, .inl (cJ, 23, .inr (.inl f_p0_wordNames))), (p0, .inr (6, vL 12 F_p0_)), (h_manName, .inl (cJ, 12, .inr (.inl f_manName))), (h0, .inr (1, vL 18 Fh)), (h_runnerName, .inl (cJ, 6, .inr (.inl f_runnerName)))] := hD
      refine W.widen (k := 0) (n := 0) (Nat.le_of_ble_eq_true rfl) (Nat.le_of_ble_eq_true rfl) ?_
      refine lv_iconst (v := (-1)) hx hb dX1_readName_33 (by decide) ?_
      refine lv_icmp_eq (tgt := 43) hx hb dX1_readName_34 (by decide) (fun c17 => ?_) (fun c17 => ?_)
      · have dc17 : r15.toInt = (-1) := eq_i (a := r15.toInt) (b := (-1)) rfl rfl c17
        have k18 : (-1) ≤ r15.toInt ∧ r15.toInt ≤ (-1) := ⟨t16.1, Int.le_trans (Int.le_of_eq dc17) (Int.le_refl _)⟩
        refine lv_aload_n hx hb dX1_readName_43 rfl (lv_at hl 2 rfl) ?_
        refine lv_iload_n hx hb dX1_readName_44 rfl (lv_at hl 3 rfl) ?_
        refine lv_aload_n hx hb dX1_readName_45 rfl (lv_at hl 1 rfl) ?_
        refine get_f (D := D) (ci := 6) (v := .long x_p0_name) (C := RX6) (T := TX6) (N := 12) hx hb hw inAX6 hown hK hP 2 rfl rfl 5 (by decide) (hw _ q_101) (fun _ h9 => h9) e_p0_name dX1_readName_46 ?_
        obtain ⟨g19, eg19⟩ : ∃ z : Nat → Int64, vp_updL f_runnerName p2.toNatClampNeg x_p0_name = z := ⟨_, rfl⟩
        refine last_g hx hb hK hP hD hS 5 1 rfl rfl (ix_k i_p2 (by decide) (by decide)) eg19 dX1_readName_49 (fun H locs hP hD hS => ?_)
        have hP : va_P D vwCl [(h_p0_bytes, .inl (cB, 940, .inl f_p0_bytes)), (h_p0_wordNames, .inl (cJ, 23, .inr (.inl f_p0_wordNames))), (p0, .inr (6, vL 12 F_p0_)), (h_manName, .inl (cJ, 12, .inr (.inl f_manName))), (h0, .inr (1, vL 18 Fh)), (h_runnerName, .inl (cJ, 6, .inr (.inl g19)))] H := hP
        have hD : va_D A [(h_p0_bytes, .inl (cB, 940, .inl f_p0_bytes)), (h_p0_wordNames, .inl (cJ, 23, .inr (.inl f_p0_wordNames))), (p0, .inr (6, vL 12 F_p0_)), (h_manName, .inl (cJ, 12, .inr (.inl f_manName))), (h0, .inr (1, vL 18 Fh)), (h_runnerName, .inl (cJ, 6, .inr (.inl g19)))] := hD
        refine lv_aload_n hx hb dX1_readName_50 rfl (lv_at hl 1 rfl) ?_
        refine call_Vv (wr := [(h_manName, .inl (cJ, 12, .inr (.inl f_manName))), (h0, .inr (1, vL 18 Fh)), (h_runnerName, .inl (cJ, 6, .inr (.inl g19)))]) (As := []) (rest := []) hx hb hml hown hw (m_X6_advance l D cI cJ cB cP cM cZ p0 h_p0_bytes h_p0_wordNames F_p0_ x_p0_length x_p0_value x_p0_name x_p0_at x_p0_mostBytes f_p0_bytes f_p0_wordNames _ e_p0_bytes e_p0_length i_x_p0_length e_p0_value e_p0_name e_p0_wordNames e_p0_at i_x_p0_at e_p0_mostBytes) wV_X1_131_X6_advance dX1_readName_51 hK hP hD hS hA [2, 0, 1] [3, 4, 5] rfl rfl (by decide) (by decide) (by decide) 0 6 rfl rfl GG.fb hG.at hl.1 rfl (Nat.le_of_ble_eq_true rfl) ⟨(Nat.le_of_ble_eq_true rfl), (Nat.le_of_ble_eq_true rfl)⟩ ⟨(Nat.le_of_ble_eq_true rfl), (Nat.le_of_ble_eq_true rfl)⟩ (fun u H locs hp hP hD hS => ?_)
        obtain ⟨F21, y22, y23, y24, y25, y26, t27, t28, t29, t30, t31, t32, t33, t34, rfl⟩ := hp
        have hP : va_P D vwCl [(h_manName, .inl (cJ, 12, .inr (.inl f_manName))), (h0, .inr (1, vL 18 Fh)), (h_runnerName, .inl (cJ, 6, .inr (.inl g19))), (p0, .inr (6, vL 12 F21)), (h_p0_bytes, .inl (cB, 940, .inl f_p0_bytes)), (h_p0_wordNames, .inl (cJ, 23, .inr (.inl f_p0_wordNames)))] H := hP
        have hD : va_D A [(h_manName, .inl (cJ, 12, .inr (.inl f_manName))), (h0, .inr (1, vL 18 Fh)), (h_runnerName, .inl (cJ, 6, .inr (.inl g19))), (p0, .inr (6, vL 12 F21)), (h_p0_bytes, .inl (cB, 940, .inl f_p0_bytes)), (h_p0_wordNames, .inl (cJ, 23, .inr (.inl f_p0_wordNames)))] := hD
        refine W.widen (k := 0) (n := 0) (Nat.le_of_ble_eq_true rfl) (Nat.le_of_ble_eq_true rfl) ?_
        refine lv_iconst (v := 1) hx hb dX1_readName_54 (by decide) ?_
        exact ret_i (v := 1) hx hb hr hlocks hS (hP.sub (ws' := [(h0, .inr (1, vL 18 Fh)), (h_manName, .inl (cJ, 12, .inr (.inl f_manName))), (h_runnerName, .inl (cJ, 6, .inr (.inl g19))), (p0, .inr (6, vL 12 F21)), (h_p0_bytes, .inl (cB, 940, .inl f_p0_bytes)), (h_p0_wordNames, .inl (cJ, 23, .inr (.inl f_p0_wordNames)))]) [1, 0, 2, 3, 4, 5] rfl) (hD.sub (ws' := [(h0, .inr (1, vL 18 Fh)), (h_manName, .inl (cJ, 12, .inr (.inl f_manName))), (h_runnerName, .inl (cJ, 6, .inr (.inl g19))), (p0, .inr (6, vL 12 F21)), (h_p0_bytes, .inl (cB, 940, .inl f_p0_bytes)), (h_p0_wordNames, .inl (cJ, 23, .inr (.inl f_p0_wordNames)))]) [1, 0, 2, 3, 4, 5] (by decide) rfl) dX1_readName_55 rfl (Nat.le_of_ble_eq_true rfl) (Nat.le_of_ble_eq_true rfl) ⟨F21, y22, y23, y24, y25, x_p0_faultKind, x_p0_faultPlace, y26, g19, (SAME.tr SAME.rf t27 (by decide)), t28, t29, t31, t32, (SAME.at t27 (by decide) e_p0_faultKind), (SAME.at t27 (by decide) e_p0_faultPlace), t33, t34, ⟨by decide, by decide⟩, rfl⟩
      · have dc17 : r15.toInt ≠ (-1) := ne_i (a := r15.toInt) (b := (-1)) rfl rfl c17
        have k35 : 0 ≤ r15.toInt ∧ r15.toInt ≤ 5 := ⟨ne_lo dc17 t16.1 ⟨Int.le_refl _, Int.le_refl _⟩ (by decide), t16.2⟩
        refine lv_aload_n hx hb dX1_readName_37 rfl (lv_at hl 1 rfl) ?_
        refine lv_iconst (v := 3) hx hb dX1_readName_38 (by decide) ?_
        refine call_Vi (wr := [(h_p0_bytes, .inl (cB, 940, .inl f_p0_bytes)), (h_p0_wordNames, .inl (cJ, 23, .inr (.inl f_p0_wordNames))), (h_manName, .inl (cJ, 12, .inr (.inl f_manName))), (h0, .inr (1, vL 18 Fh)), (h_runnerName, .inl (cJ, 6, .inr (.inl f_runnerName)))]) (As := [.int 3]) (rest := []) hx hb hml hown hw (m_X6_fail l D cI cJ cB cP cM cZ p0 F_p0_ x_p0_place 3 _ e_p0_place) wV_X1_128_X6_fail dX1_readName_39 hK hP hD hS hA [2] [0, 1, 3, 4, 5] rfl rfl (by decide) (by decide) (by decide) 0 6 rfl rfl GG.fb hG.at hl.1 rfl (Nat.le_of_ble_eq_true rfl) ⟨(Nat.le_of_ble_eq_true rfl), (Nat.le_of_ble_eq_true rfl)⟩ ⟨(Nat.le_of_ble_eq_true rfl), (Nat.le_of_ble_eq_true rfl)⟩ (fun r36 u H locs hp hP hD hS => ?_)
        obtain ⟨F37, t38, t39, t40, rfl, rfl⟩ := hp
        have hP : va_P D vwCl [(h_p0_bytes, .inl (cB, 940, .inl f_p0_bytes)), (h_p0_wordNames, .inl (cJ, 23, .inr (.inl f_p0_wordNames))), (h_manName, .inl (cJ, 12, .inr (.inl f_manName))), (h0, .inr (1, vL 18 Fh)), (h_runnerName, .inl (cJ, 6, .inr (.inl f_runnerName))), (p0, .inr (6, vL 12 F37))] H := hP
        have hD : va_D A [(h_p0_bytes, .inl (cB, 940, .inl f_p0_bytes)), (h_p0_wordNames, .inl (cJ, 23, .inr (.inl f_p0_wordNames))), (h_manName, .inl (cJ, 12, .inr (.inl f_manName))), (h0, .inr (1, vL 18 Fh)), (h_runnerName, .inl (cJ, 6, .inr (.inl f_runnerName))), (p0, .inr (6, vL 12 F37))] := hD
        refine W.widen (k := 0) (n := 0) (Nat.le_of_ble_eq_true rfl) (Nat.le_of_ble_eq_true rfl) ?_
        exact ret_i (v := 0) hx hb hr hlocks hS (hP.sub (ws' := [(h0, .inr (1, vL 18 Fh)), (h_manName, .inl (cJ, 12, .inr (.inl f_manName))), (h_runnerName, .inl (cJ, 6, .inr (.inl f_runnerName))), (p0, .inr (6, vL 12 F37)), (h_p0_bytes, .inl (cB, 940, .inl f_p0_bytes)), (h_p0_wordNames, .inl (cJ, 23, .inr (.inl f_p0_wordNames)))]) [3, 2, 4, 5, 0, 1] rfl) (hD.sub (ws' := [(h0, .inr (1, vL 18 Fh)), (h_manName, .inl (cJ, 12, .inr (.inl f_manName))), (h_runnerName, .inl (cJ, 6, .inr (.inl f_runnerName))), (p0, .inr (6, vL 12 F37)), (h_p0_bytes, .inl (cB, 940, .inl f_p0_bytes)), (h_p0_wordNames, .inl (cJ, 23, .inr (.inl f_p0_wordNames)))]) [3, 2, 4, 5, 0, 1] (by decide) rfl) dX1_readName_42 rfl (Nat.le_of_ble_eq_true rfl) (Nat.le_of_ble_eq_true rfl) ⟨F37, x_p0_kind, x_p0_place, x_p0_value, x_p0_name, 3, x_p0_place, x_p0_at, f_runnerName, (SAME.tr SAME.rf t38 (by decide)), (SAME.at t38 (by decide) e_p0_kind), (SAME.at t38 (by decide) e_p0_place), (SAME.at t38 (by decide) e_p0_value), (SAME.at t38 (by decide) e_p0_name), t39, t40, (SAME.at t38 (by decide) e_p0_at), i_x_p0_at, ⟨by decide, by decide⟩, rfl⟩
  · have dc3 : r1.toInt = 0 := eq_i (a := r1.toInt) (b := 0) rfl rfl c3
    have k41 : 0 ≤ r1.toInt ∧ r1.toInt ≤ 0 := ⟨t2.1, Int.le_trans (Int.le_of_eq dc3) (Int.le_refl _)⟩
    refine lv_aload_n hx hb dX1_readName_7 rfl (lv_at hl 1 rfl) ?_
    refine lv_iconst (v := 1) hx hb dX1_readName_8 (by decide) ?_
    refine call_Vi (wr := [(h0, .inr (1, vL 18 Fh)), (h_manName, .inl (cJ, 12, .inr (.inl f_manName))), (h_runnerName, .inl (cJ, 6, .inr (.inl f_runnerName))), (h_p0_bytes, .inl (cB, 940, .inl f_p0_bytes)), (h_p0_wordNames, .inl (cJ, 23, .inr (.inl f_p0_wordNames)))]) (As := [.int 1]) (rest := []) hx hb hml hown hw (m_X6_fail l D cI cJ cB cP cM cZ p0 F_p0_ x_p0_place 1 _ e_p0_place) wV_X1_128_X6_fail dX1_readName_9 hK hP hD hS hA [5] [0, 1, 2, 3, 4] rfl rfl (by decide) (by decide) (by decide) 0 6 rfl rfl GG.fb hG.at hl.1 rfl (Nat.le_of_ble_eq_true rfl) ⟨(Nat.le_of_ble_eq_true rfl), (Nat.le_of_ble_eq_true rfl)⟩ ⟨(Nat.le_of_ble_eq_true rfl), (Nat.le_of_ble_eq_true rfl)⟩ (fun r42 u H locs hp hP hD hS => ?_)
    obtain ⟨F43, t44, t45, t46, rfl, rfl⟩ := hp
    have hP : va_P D vwCl [(h0, .inr (1, vL 18 Fh)), (h_manName, .inl (cJ, 12, .inr (.inl f_manName))), (h_runnerName, .inl (cJ, 6, .inr (.inl f_runnerName))), (h_p0_bytes, .inl (cB, 940, .inl f_p0_bytes)), (h_p0_wordNames, .inl (cJ, 23, .inr (.inl f_p0_wordNames))), (p0, .inr (6, vL 12 F43))] H := hP
    have hD : va_D A [(h0, .inr (1, vL 18 Fh)), (h_manName, .inl (cJ, 12, .inr (.inl f_manName))), (h_runnerName, .inl (cJ, 6, .inr (.inl f_runnerName))), (h_p0_bytes, .inl (cB, 940, .inl f_p0_bytes)), (h_p0_wordNames, .inl (cJ, 23, .inr (.inl f_p0_wordNames))), (p0, .inr (6, vL 12 F43))] := hD
    refine W.widen (k := 0) (n := 0) (Nat.le_of_ble_eq_true rfl) (Nat.le_of_ble_eq_true rfl) ?_
    exact ret_i (v := 0) hx hb hr hlocks hS (hP.sub (ws' := [(h0, .inr (1, vL 18 Fh)), (h_manName, .inl (cJ, 12, .inr (.inl f_manName))), (h_runnerName, .inl (cJ, 6, .inr (.inl f_runnerName))), (p0, .inr (6, vL 12 F43)), (h_p0_bytes, .inl (cB, 940, .inl f_p0_bytes)), (h_p0_wordNames, .inl (cJ, 23, .inr (.inl f_p0_wordNames)))]) [0, 1, 2, 5, 3, 4] rfl) (hD.sub (ws' := [(h0, .inr (1, vL 18 Fh)), (h_manName, .inl (cJ, 12, .inr (.inl f_manName))), (h_runnerName, .inl (cJ, 6, .inr (.inl f_runnerName))), (p0, .inr (6, vL 12 F43)), (h_p0_bytes, .inl (cB, 940, .inl f_p0_bytes)), (h_p0_wordNames, .inl (cJ, 23, .inr (.inl f_p0_wordNames)))]) [0, 1, 2, 5, 3, 4] (by decide) rfl) dX1_readName_12 rfl (Nat.le_of_ble_eq_true rfl) (Nat.le_of_ble_eq_true rfl) ⟨F43, x_p0_kind, x_p0_place, x_p0_value, x_p0_name, 1, x_p0_place, x_p0_at, f_runnerName, (SAME.tr SAME.rf t44 (by decide)), (SAME.at t44 (by decide) e_p0_kind), (SAME.at t44 (by decide) e_p0_place), (SAME.at t44 (by decide) e_p0_value), (SAME.at t44 (by decide) e_p0_name), t45, t46, (SAME.at t44 (by decide) e_p0_at), i_x_p0_at, ⟨by decide, by decide⟩, rfl⟩
set_option maxHeartbeats 4000000 in
set_option maxRecDepth 100000 in
theorem m_X6_takeInto_6 (l : Launch) (D : va_G) (cI cJ cB cP cM cZ : ClassId) (h0 : Nat) (h_bytes : Nat) (h_wordNames : Nat) (p0 : Nat) (Fh : Nat → Value) (x_length : Int32) (x_kind : Int32) (x_place : Int32) (x_value : Int32) (x_name : Int64) (x_faultKind : Int32) (x_faultPlace : Int32) (x_at : Int32) (x_mostBytes : Int32) (f_bytes : Nat → Int32) (f_wordNames : Nat → Int64) (f_p0 : Nat → Int32) (p1 : Int32) (p2 : Int32) (p3 : Int32) (sz : Nat) (e_bytes : Fh 0 = .ref h_bytes) (e_length : Fh 1 = .int x_length) (i_x_length : IR 0 940 x_length) (e_kind : Fh 2 = .int x_kind) (e_place : Fh 3 = .int x_place) (e_value : Fh 4 = .int x_value) (e_name : Fh 5 = .long x_name) (e_faultKind : Fh 7 = .int x_faultKind) (e_faultPlace : Fh 8 = .int x_faultPlace) (e_wordNames : Fh 9 = .ref h_wordNames) (e_at : Fh 10 = .int x_at) (i_x_at : IR 0 940 x_at) (e_mostBytes : Fh 11 = .int x_mostBytes) : CI l yX6_takeInto cX6_takeInto 5 (some .boolean) { frames := 2, cells := 0, slots := 0, locals := 43 } (GG D cI cJ cB cP cM cZ) D [(h0, .inr (6, vL 12 Fh)), (h_bytes, .inl (cB, 940, .inl f_bytes)), (h_wordNames, .inl (cJ, 23, .inr (.inl f_wordNames))), (p0, .inl (cI, 6, .inl f_p0))] sz [.ref h0, .ref p0, .int p1, .int p2, .int p3] (fun (r : Int32) (u : va_W) => ∃ (Gh : Nat → Value) (y_kind : Int32) (y_place : Int32) (y_value : Int32) (y_name : Int64) (y_faultKind : Int32) (y_faultPlace : Int32) (y_at : Int32) (g_p0 : Nat → Int32), SAME [2, 3, 4, 5, 7, 8, 10] Fh Gh ∧ Gh 2 = .int y_kind ∧ Gh 3 = .int y_place ∧ Gh 4 = .int y_value ∧ Gh 5 = .long y_name ∧ Gh 7 = .int y_faultKind ∧ Gh 8 = .int y_faultPlace ∧ Gh 10 = .int y_at ∧ IR 0 940 y_at ∧ IR 0 1 r ∧ u = [(h0, .inr (6, vL 12 Gh)), (h_bytes, .inl (cB, 940, .inl f_bytes)), (h_wordNames, .inl (cJ, 23, .inr (.inl f_wordNames))), (p0, .inl (cI, 6, .inl g_p0))]) := by
  refine CI_mk (by decide) (Nat.le_of_ble_eq_true rfl) ?_
  intro p e s m below meth c A ls E hAe hG hsz hP hD hA hS hl
  obtain ⟨hx, hb, hr, hw, hown, hlocks, hml, hnm⟩ := E
  have hK := hG.1
  have i_x_length : 0 ≤ x_length.toInt ∧ x_length.toInt ≤ 940 := i_x_length
  have i_x_at : 0 ≤ x_at.toInt ∧ x_at.toInt ≤ 940 := i_x_at
  have hl : lv_has ls 5 [(0, .ref h0), (1, .ref p0), (2, .int p1), (3, .int p2), (4, .int p3)] := hl
  refine lv_iload_n hx hb dX6_takeInto_0 rfl (lv_at hl 2 rfl) ?_
  refine lv_if_lt (tgt := 10) hx hb dX6_takeInto_1 (by decide) (fun c1 => ?_) (fun c1 => ?_)
  · have dc1 : p1.toInt < 0 := lt_i (a := p1.toInt) (b := 0) rfl rfl c1
    have k2 : (-2147483648) ≤ p1.toInt ∧ p1.toInt ≤ (-1) := ⟨(ir_any _).1, up_lt dc1 (Int.le_refl _) (by decide)⟩
    refine lv_aload_n hx hb dX6_takeInto_10 rfl (lv_at hl 0 rfl) ?_
    refine lv_iconst (v := 4) hx hb dX6_takeInto_11 (by decide) ?_
    refine call_Vi (wr := [(h_bytes, .inl (cB, 940, .inl f_bytes)), (h_wordNames, .inl (cJ, 23, .inr (.inl f_wordNames))), (p0, .inl (cI, 6, .inl f_p0))]) (As := [.int 4]) (rest := []) hx hb hml hown hw (m_X6_fail l D cI cJ cB cP cM cZ h0 Fh x_place 4 _ e_place) wV_X6_80_X6_fail dX6_takeInto_12 hK hP hD hS hA [0] [1, 2, 3] rfl rfl (by decide) (by decide) (by decide) 0 6 rfl rfl GG.fb hG.at hl.1 rfl (Nat.le_of_ble_eq_true rfl) ⟨(Nat.le_of_ble_eq_true rfl), (Nat.le_of_ble_eq_true rfl)⟩ ⟨(Nat.le_of_ble_eq_true rfl), (Nat.le_of_ble_eq_true rfl)⟩ (fun r3 u H locs hp hP hD hS => ?_)
    obtain ⟨F4, t5, t6, t7, rfl, rfl⟩ := hp
    have hP : va_P D vwCl [(h_bytes, .inl (cB, 940, .inl f_bytes)), (h_wordNames, .inl (cJ, 23, .inr (.inl f_wordNames))), (p0, .inl (cI, 6, .inl f_p0)), (h0, .inr (6, vL 12 F4))] H := hP
    have hD : va_D A [(h_bytes, .inl (cB, 940, .inl f_bytes)), (h_wordNames, .inl (cJ, 23, .inr (.inl f_wordNames))), (p0, .inl (cI, 6, .inl f_p0)), (h0, .inr (6, vL 12 F4))] := hD
    refine W.widen (k := 0) (n := 0) (Nat.le_of_ble_eq_true rfl) (Nat.le_of_ble_eq_true rfl) ?_
    exact ret_i (v := 0) hx hb hr hlocks hS (hP.sub (ws' := [(h0, .inr (6, vL 12 F4)), (h_bytes, .inl (cB, 940, .inl f_bytes)), (h_wordNames, .inl (cJ, 23, .inr (.inl f_wordNames))), (p0, .inl (cI, 6, .inl f_p0))]) [3, 0, 1, 2] rfl) (hD.sub (ws' := [(h0, .inr (6, vL 12 F4)), (h_bytes, .inl (cB, 940, .inl f_bytes)), (h_wordNames, .inl (cJ, 23, .inr (.inl f_wordNames))), (p0, .inl (cI, 6, .inl f_p0))]) [3, 0, 1, 2] (by decide) rfl) dX6_takeInto_15 rfl (Nat.le_of_ble_eq_true rfl) (Nat.le_of_ble_eq_true rfl) ⟨F4, x_kind, x_place, x_value, x_name, 4, x_place, x_at, f_p0, (SAME.tr SAME.rf t5 (by decide)), (SAME.at t5 (by decide) e_kind), (SAME.at t5 (by decide) e_place), (SAME.at t5 (by decide) e_value), (SAME.at t5 (by decide) e_name), t6, t7, (SAME.at t5 (by decide) e_at), i_x_at, ⟨by decide, by decide⟩, rfl⟩
  · have dc1 : 0 ≤ p1.toInt := nlt_i (a := p1.toInt) (b := 0) rfl rfl c1
    have k8 : 0 ≤ p1.toInt ∧ p1.toInt ≤ 2147483647 := ⟨Int.le_trans (Int.le_refl _) dc1, (ir_any _).2⟩
    refine lv_iload_n hx hb dX6_takeInto_4 rfl (lv_at hl 2 rfl) ?_
    refine lv_aload_n hx hb dX6_takeInto_5 rfl (lv_at hl 1 rfl) ?_
    refine va_alen (v := 6) hx hb hK hP 3 0 rfl rfl rfl dX6_takeInto_6 ?_
    refine lv_icmp_lt (tgt := 16) hx hb dX6_takeInto_7 (by decide) (fun c9 => ?_) (fun c9 => ?_)
    · have dc9 : p1.toInt < 6 := lt_i (a := p1.toInt) (b := 6) rfl rfl c9
      have k10 : 0 ≤ p1.toInt ∧ p1.toInt ≤ 5 := ⟨k8.1, up_lt dc9 (Int.le_refl _) (by decide)⟩
      refine lv_aload_n hx hb dX6_takeInto_16 rfl (lv_at hl 0 rfl) ?_
      refine lv_iload_n hx hb dX6_takeInto_17 rfl (lv_at hl 3 rfl) ?_
      refine lv_iload hx hb dX6_takeInto_18 (lv_at hl 4 rfl) ?_
      refine call_Vi (wr := [(h_bytes, .inl (cB, 940, .inl f_bytes)), (h_wordNames, .inl (cJ, 23, .inr (.inl f_wordNames))), (p0, .inl (cI, 6, .inl f_p0))]) (As := [.int p2, .int p3]) (rest := []) hx hb hml hown hw (m_X6_isNumberWithin l D cI cJ cB cP cM cZ h0 Fh x_kind x_place x_value p2 p3 _ e_kind e_place e_value) wV_X6_83_X6_isNumberWithin dX6_takeInto_20 hK hP hD hS hA [0] [1, 2, 3] rfl rfl (by decide) (by decide) (by decide) 0 6 rfl rfl GG.fb hG.at hl.1 rfl (Nat.le_of_ble_eq_true rfl) ⟨(Nat.le_of_ble_eq_true rfl), (Nat.le_of_ble_eq_true rfl)⟩ ⟨(Nat.le_of_ble_eq_true rfl), (Nat.le_of_ble_eq_true rfl)⟩ (fun r11 u H locs hp hP hD hS => ?_)
      rcases hp with ⟨F12, y13, t14, t15, t16, t17, rfl, rfl⟩ | ⟨t18, t19, t20, rfl, rfl⟩
      · have hP : va_P D vwCl [(h_bytes, .inl (cB, 940, .inl f_bytes)), (h_wordNames, .inl (cJ, 23, .inr (.inl f_wordNames))), (p0, .inl (cI, 6, .inl f_p0)), (h0, .inr (6, vL 12 F12))] H := hP
        have hD : va_D A [(h_bytes, .inl (cB, 940, .inl f_bytes)), (h_wordNames, .inl (cJ, 23, .inr (.inl f_wordNames))), (p0, .inl (cI, 6, .inl f_p0)), (h0, .inr (6, vL 12 F12))] := hD
        refine W.widen (k := 0) (n := 0) (Nat.le_of_ble_eq_true rfl) (Nat.le_of_ble_eq_true rfl) ?_
        refine lv_if_ne (tgt := 28) hx hb dX6_takeInto_23 (by decide) (fun g => absurd (by decide) g) (fun _ => ?_)
        refine lv_iconst (v := 0) hx hb dX6_takeInto_26 (by decide) ?_
        exact ret_i (v := 0) hx hb hr hlocks hS (hP.sub (ws' := [(h0, .inr (6, vL 12 F12)), (h_bytes, .inl (cB, 940, .inl f_bytes)), (h_wordNames, .inl (cJ, 23, .inr (.inl f_wordNames))), (p0, .inl (cI, 6, .inl f_p0))]) [3, 0, 1, 2] rfl) (hD.sub (ws' := [(h0, .inr (6, vL 12 F12)), (h_bytes, .inl (cB, 940, .inl f_bytes)), (h_wordNames, .inl (cJ, 23, .inr (.inl f_wordNames))), (p0, .inl (cI, 6, .inl f_p0))]) [3, 0, 1, 2] (by decide) rfl) dX6_takeInto_27 rfl (Nat.le_of_ble_eq_true rfl) (Nat.le_of_ble_eq_true rfl) ⟨F12, x_kind, x_place, x_value, x_name, y13, x_place, x_at, f_p0, (SAME.tr SAME.rf t14 (by decide)), (SAME.at t14 (by decide) e_kind), (SAME.at t14 (by decide) e_place), (SAME.at t14 (by decide) e_value), (SAME.at t14 (by decide) e_name), t15, t17, (SAME.at t14 (by decide) e_at), i_x_at, ⟨by decide, by decide⟩, rfl⟩
      · have hP : va_P D vwCl [(h_bytes, .inl (cB, 940, .inl f_bytes)), (h_wordNames, .inl (cJ, 23, .inr (.inl f_wordNames))), (p0, .inl (cI, 6, .inl f_p0)), (h0, .inr (6, vL 12 Fh))] H := hP
        have hD : va_D A [(h_bytes, .inl (cB, 940, .inl f_bytes)), (h_wordNames, .inl (cJ, 23, .inr (.inl f_wordNames))), (p0, .inl (cI, 6, .inl f_p0)), (h0, .inr (6, vL 12 Fh))] := hD
        refine W.widen (k := 0) (n := 0) (Nat.le_of_ble_eq_true rfl) (Nat.le_of_ble_eq_true rfl) ?_
        have k21 : 3 ≤ x_kind.toInt ∧ x_kind.toInt ≤ 3 := ⟨Int.le_trans (Int.le_refl _) (Int.le_of_eq t18.symm), Int.le_trans (Int.le_of_eq t18) (Int.le_refl _)⟩
        refine lv_if_ne (tgt := 28) hx hb dX6_takeInto_23 (by decide) (fun _ => ?_) (fun g => absurd g (by decide))
        refine lv_aload_n hx hb dX6_takeInto_28 rfl (lv_at hl 1 rfl) ?_
        refine lv_iload_n hx hb dX6_takeInto_29 rfl (lv_at hl 2 rfl) ?_
        refine lv_aload_n hx hb dX6_takeInto_30 rfl (lv_at hl 0 rfl) ?_
        refine get_f (D := D) (ci := 6) (v := .int x_value) (C := RX6) (T := TX6) (N := 12) hx hb hw inAX6 hown hK hP 3 rfl rfl 4 (by decide) (hw _ q_97) (fun _ h9 => h9) e_value dX6_takeInto_31 ?_
        obtain ⟨g22, eg22⟩ : ∃ z : Nat → Int32, upd f_p0 p1.toNatClampNeg x_value = z := ⟨_, rfl⟩
        refine iast_g hx hb hK hP hD hS 2 0 rfl rfl (ix_k k10 (by decide) (by decide)) eg22 dX6_takeInto_34 (fun H locs hP hD hS => ?_)
        have hP : va_P D vwCl [(h_bytes, .inl (cB, 940, .inl f_bytes)), (h_wordNames, .inl (cJ, 23, .inr (.inl f_wordNames))), (p0, .inl (cI, 6, .inl g22)), (h0, .inr (6, vL 12 Fh))] H := hP
        have hD : va_D A [(h_bytes, .inl (cB, 940, .inl f_bytes)), (h_wordNames, .inl (cJ, 23, .inr (.inl f_wordNames))), (p0, .inl (cI, 6, .inl g22)), (h0, .inr (6, vL 12 Fh))] := hD
        refine lv_aload_n hx hb dX6_takeInto_35 rfl (lv_at hl 0 rfl) ?_
        refine call_Vv (wr := [(p0, .inl (cI, 6, .inl g22))]) (As := []) (rest := []) hx hb hml hown hw (m_X6_advance l D cI cJ cB cP cM cZ h0 h_bytes h_wordNames Fh x_length x_value x_name x_at x_mostBytes f_bytes f_wordNames _ e_bytes e_length i_x_length e_value e_name e_wordNames e_at i_x_at e_mostBytes) wV_X6_66_X6_advance dX6_takeInto_36 hK hP hD hS hA [3, 0, 1] [2] rfl rfl (by decide) (by decide) (by decide) 0 6 rfl rfl GG.fb hG.at hl.1 rfl (Nat.le_of_ble_eq_true rfl) ⟨(Nat.le_of_ble_eq_true rfl), (Nat.le_of_ble_eq_true rfl)⟩ ⟨(Nat.le_of_ble_eq_true rfl), (Nat.le_of_ble_eq_true rfl)⟩ (fun u H locs hp hP hD hS => ?_)
        obtain ⟨F24, y25, y26, y27, y28, y29, t30, t31, t32, t33, t34, t35, t36, t37, rfl⟩ := hp
        have hP : va_P D vwCl [(p0, .inl (cI, 6, .inl g22)), (h0, .inr (6, vL 12 F24)), (h_bytes, .inl (cB, 940, .inl f_bytes)), (h_wordNames, .inl (cJ, 23, .inr (.inl f_wordNames)))] H := hP
        have hD : va_D A [(p0, .inl (cI, 6, .inl g22)), (h0, .inr (6, vL 12 F24)), (h_bytes, .inl (cB, 940, .inl f_bytes)), (h_wordNames, .inl (cJ, 23, .inr (.inl f_wordNames)))] := hD
        refine W.widen (k := 0) (n := 0) (Nat.le_of_ble_eq_true rfl) (Nat.le_of_ble_eq_true rfl) ?_
        refine lv_iconst (v := 1) hx hb dX6_takeInto_39 (by decide) ?_
        exact ret_i (v := 1) hx hb hr hlocks hS (hP.sub (ws' := [(h0, .inr (6, vL 12 F24)), (h_bytes, .inl (cB, 940, .inl f_bytes)), (h_wordNames, .inl (cJ, 23, .inr (.inl f_wordNames))), (p0, .inl (cI, 6, .inl g22))]) [1, 2, 3, 0] rfl) (hD.sub (ws' := [(h0, .inr (6, vL 12 F24)), (h_bytes, .inl (cB, 940, .inl f_bytes)), (h_wordNames, .inl (cJ, 23, .inr (.inl f_wordNames))), (p0, .inl (cI, 6, .inl g22))]) [1, 2, 3, 0] (by decide) rfl) dX6_takeInto_40 rfl (Nat.le_of_ble_eq_true rfl) (Nat.le_of_ble_eq_true rfl) ⟨F24, y25, y26, y27, y28, x_faultKind, x_faultPlace, y29, g22, (SAME.tr SAME.rf t30 (by decide)), t31, t32, t34, t35, (SAME.at t30 (by decide) e_faultKind), (SAME.at t30 (by decide) e_faultPlace), t36, t37, ⟨by decide, by decide⟩, rfl⟩
    · have dc9 : 6 ≤ p1.toInt := nlt_i (a := p1.toInt) (b := 6) rfl rfl c9
      have k38 : 6 ≤ p1.toInt ∧ p1.toInt ≤ 2147483647 := ⟨Int.le_trans (Int.le_refl _) dc9, k8.2⟩
      refine lv_aload_n hx hb dX6_takeInto_10 rfl (lv_at hl 0 rfl) ?_
      refine lv_iconst (v := 4) hx hb dX6_takeInto_11 (by decide) ?_
      refine call_Vi (wr := [(h_bytes, .inl (cB, 940, .inl f_bytes)), (h_wordNames, .inl (cJ, 23, .inr (.inl f_wordNames))), (p0, .inl (cI, 6, .inl f_p0))]) (As := [.int 4]) (rest := []) hx hb hml hown hw (m_X6_fail l D cI cJ cB cP cM cZ h0 Fh x_place 4 _ e_place) wV_X6_80_X6_fail dX6_takeInto_12 hK hP hD hS hA [0] [1, 2, 3] rfl rfl (by decide) (by decide) (by decide) 0 6 rfl rfl GG.fb hG.at hl.1 rfl (Nat.le_of_ble_eq_true rfl) ⟨(Nat.le_of_ble_eq_true rfl), (Nat.le_of_ble_eq_true rfl)⟩ ⟨(Nat.le_of_ble_eq_true rfl), (Nat.le_of_ble_eq_true rfl)⟩ (fun r39 u H locs hp hP hD hS => ?_)
      obtain ⟨F40, t41, t42, t43, rfl, rfl⟩ := hp
      have hP : va_P D vwCl [(h_bytes, .inl (cB, 940, .inl f_bytes)), (h_wordNames, .inl (cJ, 23, .inr (.inl f_wordNames))), (p0, .inl (cI, 6, .inl f_p0)), (h0, .inr (6, vL 12 F40))] H := hP
      have hD : va_D A [(h_bytes, .inl (cB, 940, .inl f_bytes)), (h_wordNames, .inl (cJ, 23, .inr (.inl f_wordNames))), (p0, .inl (cI, 6, .inl f_p0)), (h0, .inr (6, vL 12 F40))] := hD
      refine W.widen (k := 0) (n := 0) (Nat.le_of_ble_eq_true rfl) (Nat.le_of_ble_eq_true rfl) ?_
      exact ret_i (v := 0) hx hb hr hlocks hS (hP.sub (ws' := [(h0, .inr (6, vL 12 F40)), (h_bytes, .inl (cB, 940, .inl f_bytes)), (h_wordNames, .inl (cJ, 23, .inr (.inl f_wordNames))), (p0, .inl (cI, 6, .inl f_p0))]) [3, 0, 1, 2] rfl) (hD.sub (ws' := [(h0, .inr (6, vL 12 F40)), (h_bytes, .inl (cB, 940, .inl f_bytes)), (h_wordNames, .inl (cJ, 23, .inr (.inl f_wordNames))), (p0, .inl (cI, 6, .inl f_p0))]) [3, 0, 1, 2] (by decide) rfl) dX6_takeInto_15 rfl (Nat.le_of_ble_eq_true rfl) (Nat.le_of_ble_eq_true rfl) ⟨F40, x_kind, x_place, x_value, x_name, 4, x_place, x_at, f_p0, (SAME.tr SAME.rf t41 (by decide)), (SAME.at t41 (by decide) e_kind), (SAME.at t41 (by decide) e_place), (SAME.at t41 (by decide) e_value), (SAME.at t41 (by decide) e_name), t42, t43, (SAME.at t41 (by decide) e_at), i_x_at, ⟨by decide, by decide⟩, rfl⟩
set_option maxHeartbeats 4000000 in
set_option maxRecDepth 100000 in
theorem m_X1_readRunner (l : Launch) (D : va_G) (cI cJ cB cP cM cZ : ClassId) (h0 : Nat) (h_manName : Nat) (h_runnerName : Nat) (h_bestAt : Nat) (h_bad : Nat) (p0 : Nat) (h_p0_bytes : Nat) (h_p0_wordNames : Nat) (Fh : Nat → Value) (x_men : Int32) (x_runners : Int32) (f_manName : Nat → Int64) (f_runnerName : Nat → Int64) (f_bestAt : Nat → Int32) (f_bad : Nat → Int32) (F_p0_ : Nat → Value) (x_p0_length : Int32) (x_p0_kind : Int32) (x_p0_place : Int32) (x_p0_value : Int32) (x_p0_name : Int64) (x_p0_faultKind : Int32) (x_p0_faultPlace : Int32) (x_p0_at : Int32) (x_p0_mostBytes : Int32) (f_p0_bytes : Nat → Int32) (f_p0_wordNames : Nat → Int64) (sz : Nat) (e_manName : Fh 2 = .ref h_manName) (e_runnerName : Fh 10 = .ref h_runnerName) (e_bestAt : Fh 11 = .ref h_bestAt) (e_bad : Fh 12 = .ref h_bad) (e_men : Fh 13 = .int x_men) (i_x_men : IR 0 12 x_men) (e_runners : Fh 15 = .int x_runners) (i_x_runners : IR 0 6 x_runners) (e_p0_bytes : F_p0_ 0 = .ref h_p0_bytes) (e_p0_length : F_p0_ 1 = .int x_p0_length) (i_x_p0_length : IR 0 940 x_p0_length) (e_p0_kind : F_p0_ 2 = .int x_p0_kind) (e_p0_place : F_p0_ 3 = .int x_p0_place) (e_p0_value : F_p0_ 4 = .int x_p0_value) (e_p0_name : F_p0_ 5 = .long x_p0_name) (e_p0_faultKind : F_p0_ 7 = .int x_p0_faultKind) (e_p0_faultPlace : F_p0_ 8 = .int x_p0_faultPlace) (e_p0_wordNames : F_p0_ 9 = .ref h_p0_wordNames) (e_p0_at : F_p0_ 10 = .int x_p0_at) (i_x_p0_at : IR 0 940 x_p0_at) (e_p0_mostBytes : F_p0_ 11 = .int x_p0_mostBytes) : CI l yX1_readRunner cX1_readRunner 3 (some .boolean) { frames := 3, cells := 0, slots := 0, locals := 69 } (GG D cI cJ cB cP cM cZ) D [(h0, .inr (1, vL 18 Fh)), (h_manName, .inl (cJ, 12, .inr (.inl f_manName))), (h_runnerName, .inl (cJ, 6, .inr (.inl f_runnerName))), (h_bestAt, .inl (cI, 6, .inl f_bestAt)), (h_bad, .inl (cI, 6, .inl f_bad)), (p0, .inr (6, vL 12 F_p0_)), (h_p0_bytes, .inl (cB, 940, .inl f_p0_bytes)), (h_p0_wordNames, .inl (cJ, 23, .inr (.inl f_p0_wordNames)))] sz [.ref h0, .ref p0] (fun (r : Int32) (u : va_W) => ∃ (Gh : Nat → Value) (y_runners : Int32) (G_p0_ : Nat → Value) (y_p0_kind : Int32) (y_p0_place : Int32) (y_p0_value : Int32) (y_p0_name : Int64) (y_p0_faultKind : Int32) (y_p0_faultPlace : Int32) (y_p0_at : Int32) (g_runnerName : Nat → Int64) (g_bestAt : Nat → Int32) (g_bad : Nat → Int32), SAME [15] Fh Gh ∧ Gh 15 = .int y_runners ∧ IR 0 6 y_runners ∧ SAME [2, 3, 4, 5, 7, 8, 10] F_p0_ G_p0_ ∧ G_p0_ 2 = .int y_p0_kind ∧ G_p0_ 3 = .int y_p0_place ∧ G_p0_ 4 = .int y_p0_value ∧ G_p0_ 5 = .long y_p0_name ∧ G_p0_ 7 = .int y_p0_faultKind ∧ G_p0_ 8 = .int y_p0_faultPlace ∧ G_p0_ 10 = .int y_p0_at ∧ IR 0 940 y_p0_at ∧ IR 0 1 r ∧ u = [(h0, .inr (1, vL 18 Gh)), (h_manName, .inl (cJ, 12, .inr (.inl f_manName))), (h_runnerName, .inl (cJ, 6, .inr (.inl g_runnerName))), (h_bestAt, .inl (cI, 6, .inl g_bestAt)), (h_bad, .inl (cI, 6, .inl g_bad)), (p0, .inr (6, vL 12 G_p0_)), (h_p0_bytes, .inl (cB, 940, .inl f_p0_bytes)), (h_p0_wordNames, .inl (cJ, 23, .inr (.inl f_p0_wordNames)))]) := by
  refine CI_mk (by decide) (Nat.le_of_ble_eq_true rfl) ?_
  intro p e s m below meth c A ls E hAe hG hsz hP hD hA hS hl
  obtain ⟨hx, hb, hr, hw, hown, hlocks, hml, hnm⟩ := E
  have hK := hG.1
  have i_x_men : 0 ≤ x_men.toInt ∧ x_men.toInt ≤ 12 := i_x_men
  have i_x_runners : 0 ≤ x_runners.toInt ∧ x_runners.toInt ≤ 6 := i_x_runners
  have i_x_p0_length : 0 ≤ x_p0_length.toInt ∧ x_p0_length.toInt ≤ 940 := i_x_p0_length
  have i_x_p0_at : 0 ≤ x_p0_at.toInt ∧ x_p0_at.toInt ≤ 940 := i_x_p0_at
  have hl : lv_has ls 3 [(0, .ref h0), (1, .ref p0)] := hl
  refine lv_aload_n hx hb dX1_readRunner_0 rfl (lv_at hl 0 rfl) ?_
  refine get_f (D := D) (ci := 1) (v := .int x_runners) (C := RX1) (T := TX1) (N := 18) hx hb hw inAX1 hown hK hP 0 rfl rfl 15 (by decide) (hw _ q_359) (fun _ h9 => h9) e_runners dX1_readRunner_1 ?_
  refine lv_bipush (v := 6) hx hb dX1_readRunner_4 (by decide) ?_
  refine lv_icmp_lt (tgt := 15) hx hb dX1_readRunner_6 (by decide) (fun c1 => ?_) (fun c1 => ?_)
  · have dc1 : x_runners.toInt < 6 := lt_i (a := x_runners.toInt) (b := 6) rfl rfl c1
    have k2 : 0 ≤ x_runners.toInt ∧ x_runners.toInt ≤ 5 := ⟨i_x_runners.1, up_lt dc1 (Int.le_refl _) (by decide)⟩
    refine lv_aload_n hx hb dX1_readRunner_15 rfl (lv_at hl 1 rfl) ?_
    refine call_Vv (wr := [(h0, .inr (1, vL 18 Fh)), (h_manName, .inl (cJ, 12, .inr (.inl f_manName))), (h_runnerName, .inl (cJ, 6, .inr (.inl f_runnerName))), (h_bestAt, .inl (cI, 6, .inl f_bestAt)), (h_bad, .inl (cI, 6, .inl f_bad))]) (As := []) (rest := []) hx hb hml hown hw (m_X6_advance l D cI cJ cB cP cM cZ p0 h_p0_bytes h_p0_wordNames F_p0_ x_p0_length x_p0_value x_p0_name x_p0_at x_p0_mostBytes f_p0_bytes f_p0_wordNames _ e_p0_bytes e_p0_length i_x_p0_length e_p0_value e_p0_name e_p0_wordNames e_p0_at i_x_p0_at e_p0_mostBytes) wV_X1_131_X6_advance dX1_readRunner_16 hK hP hD hS hA [5, 6, 7] [0, 1, 2, 3, 4] rfl rfl (by decide) (by decide) (by decide) 0 6 rfl rfl GG.fb hG.at hl.1 rfl (Nat.le_of_ble_eq_true rfl) ⟨(Nat.le_of_ble_eq_true rfl), (Nat.le_of_ble_eq_true rfl)⟩ ⟨(Nat.le_of_ble_eq_true rfl), (Nat.le_of_ble_eq_true rfl)⟩ (fun u H locs hp hP hD hS => ?_)
    obtain ⟨F4, y5, y6, y7, y8, y9, t10, t11, t12, t13, t14, t15, t16, t17, rfl⟩ := hp
    have hP : va_P D vwCl [(h0, .inr (1, vL 18 Fh)), (h_manName, .inl (cJ, 12, .inr (.inl f_manName))), (h_runnerName, .inl (cJ, 6, .inr (.inl f_runnerName))), (h_bestAt, .inl (cI, 6, .inl f_bestAt)), (h_bad, .inl (cI, 6, .inl f_bad)), (p0, .inr (6, vL 12 F4)), (h_p0_bytes, .inl (cB, 940, .inl f_p0_bytes)), (h_p0_wordNames, .inl (cJ, 23, .inr (.inl f_p0_wordNames)))] H := hP
    have hD : va_D A [(h0, .inr (1, vL 18 Fh)), (h_manName, .inl (cJ, 12, .inr (.inl f_manName))), (h_runnerName, .inl (cJ, 6, .inr (.inl f_runnerName))), (h_bestAt, .inl (cI, 6, .inl f_bestAt)), (h_bad, .inl (cI, 6, .inl f_bad)), (p0, .inr (6, vL 12 F4)), (h_p0_bytes, .inl (cB, 940, .inl f_p0_bytes)), (h_p0_wordNames, .inl (cJ, 23, .inr (.inl f_p0_wordNames)))] := hD
    refine W.widen (k := 0) (n := 0) (Nat.le_of_ble_eq_true rfl) (Nat.le_of_ble_eq_true rfl) ?_
    refine lv_aload_n hx hb dX1_readRunner_19 rfl (lv_at hl 0 rfl) ?_
    refine lv_aload_n hx hb dX1_readRunner_20 rfl (lv_at hl 1 rfl) ?_
    refine lv_aload_n hx hb dX1_readRunner_21 rfl (lv_at hl 0 rfl) ?_
    refine get_f (D := D) (ci := 1) (v := .ref h_runnerName) (C := RX1) (T := TX1) (N := 18) hx hb hw inAX1 hown hK hP 0 rfl rfl 10 (by decide) (hw _ q_347) (fun _ h9 => h9) e_runnerName dX1_readRunner_22 ?_
    refine lv_aload_n hx hb dX1_readRunner_25 rfl (lv_at hl 0 rfl) ?_
    refine get_f (D := D) (ci := 1) (v := .int x_runners) (C := RX1) (T := TX1) (N := 18) hx hb hw inAX1 hown hK hP 0 rfl rfl 15 (by decide) (hw _ q_359) (fun _ h9 => h9) e_runners dX1_readRunner_26 ?_
    have n18 : F4 0 = .ref h_p0_bytes := (SAME.at t10 (by decide) e_p0_bytes)
    have n19 : F4 1 = .int x_p0_length := (SAME.at t10 (by decide) e_p0_length)
    have n20 : F4 7 = .int x_p0_faultKind := (SAME.at t10 (by decide) e_p0_faultKind)
    have n21 : F4 8 = .int x_p0_faultPlace := (SAME.at t10 (by decide) e_p0_faultPlace)
    have n22 : F4 9 = .ref h_p0_wordNames := (SAME.at t10 (by decide) e_p0_wordNames)
    have n23 : F4 11 = .int x_p0_mostBytes := (SAME.at t10 (by decide) e_p0_mostBytes)
    refine call_Vi (wr := [(h_bestAt, .inl (cI, 6, .inl f_bestAt)), (h_bad, .inl (cI, 6, .inl f_bad))]) (As := [.ref p0, .ref h_runnerName, .int x_runners]) (rest := []) hx hb hml hown hw (m_X1_readName_runnerName l D cI cJ cB cP cM cZ h0 h_manName h_runnerName p0 h_p0_bytes h_p0_wordNames Fh x_men x_runners f_manName f_runnerName F4 x_p0_length y5 y6 y7 y8 x_p0_faultKind x_p0_faultPlace y9 x_p0_mostBytes f_p0_bytes f_p0_wordNames x_runners _ e_manName e_runnerName e_men i_x_men e_runners (ir_wk k2 (by decide) (by decide)) n18 n19 i_x_p0_length t11 t12 t14 t15 n20 n21 n22 t16 t17 n23 k2) wV_X1_144_X1_readName dX1_readRunner_29 hK hP hD hS hA [0, 1, 2, 5, 6, 7] [3, 4] rfl rfl (by decide) (by decide) (by decide) 0 1 rfl rfl GG.fb hG.at hl.1 rfl (Nat.le_of_ble_eq_true rfl) ⟨(Nat.le_of_ble_eq_true rfl), (Nat.le_of_ble_eq_true rfl)⟩ ⟨(Nat.le_of_ble_eq_true rfl), (Nat.le_of_ble_eq_true rfl)⟩ (fun r24 u H locs hp hP hD hS => ?_)
    obtain ⟨F25, y26, y27, y28, y29, y30, y31, y32, g33, t34, t35, t36, t37, t38, t39, t40, t41, t42, t43, rfl⟩ := hp
    have hP : va_P D vwCl [(h_bestAt, .inl (cI, 6, .inl f_bestAt)), (h_bad, .inl (cI, 6, .inl f_bad)), (h0, .inr (1, vL 18 Fh)), (h_manName, .inl (cJ, 12, .inr (.inl f_manName))), (h_runnerName, .inl (cJ, 6, .inr (.inl g33))), (p0, .inr (6, vL 12 F25)), (h_p0_bytes, .inl (cB, 940, .inl f_p0_bytes)), (h_p0_wordNames, .inl (cJ, 23, .inr (.inl f_p0_wordNames)))] H := hP
    have hD : va_D A [(h_bestAt, .inl (cI, 6, .inl f_bestAt)), (h_bad, .inl (cI, 6, .inl f_bad)), (h0, .inr (1, vL 18 Fh)), (h_manName, .inl (cJ, 12, .inr (.inl f_manName))), (h_runnerName, .inl (cJ, 6, .inr (.inl g33))), (p0, .inr (6, vL 12 F25)), (h_p0_bytes, .inl (cB, 940, .inl f_p0_bytes)), (h_p0_wordNames, .inl (cJ, 23, .inr (.inl f_p0_wordNames)))] := hD
    refine W.widen (k := 0) (n := 0) (Nat.le_of_ble_eq_true rfl) (Nat.le_of_ble_eq_true rfl) ?_
    refine lv_if_eq (tgt := 75) hx hb dX1_readRunner_32 (by decide) (fun c44 => ?_) (fun c44 => ?_)
    · have dc44 : r24.toInt = 0 := eq_i (a := r24.toInt) (b := 0) rfl rfl c44
      have k45 : 0 ≤ r24.toInt ∧ r24.toInt ≤ 0 := ⟨t43.1, Int.le_trans (Int.le_of_eq dc44) (Int.le_refl _)⟩
      refine lv_iconst (v := 0) hx hb dX1_readRunner_75 (by decide) ?_
      refine lv_istore_n (lv' := [(2, .int 0), (0, .ref h0), (1, .ref p0)]) hx hb dX1_readRunner_76 rfl hl (by decide) rfl (fun ls hl => ?_)
      refine lv_aload_n hx hb dX1_readRunner_77 rfl (lv_at hl 1 rfl) ?_
      refine lv_dup hx hb dX1_readRunner_78 rfl ?_
      refine get_f (D := D) (ci := 1) (v := .int x_runners) (C := RX1) (T := TX1) (N := 18) hx hb hw inAX1 hown hK hP 2 rfl rfl 15 (by decide) (hw _ q_359) (fun _ h9 => h9) e_runners dX1_readRunner_79 ?_
      refine lv_iload_n hx hb dX1_readRunner_82 rfl (lv_at hl 0 rfl) ?_
      refine lv_if_eq (tgt := 90) hx hb dX1_readRunner_83 (by decide) (fun _ => ?_) (fun g => absurd (by decide) g)
      refine lv_iconst (v := 0) hx hb dX1_readRunner_90 (by decide) ?_
      refine lv_iadd hx hb dX1_readRunner_91 ?_
      refine lv_topi (fun v46 ev46 => ?_)
      have bv46 : v46.toInt = x_runners.toInt + 0 := by rw [ev46]; exact add_k rfl rfl k2 ⟨Int.le_refl _, Int.le_refl _⟩ (by decide)
      have k47 : 0 ≤ v46.toInt ∧ v46.toInt ≤ 5 := add_r bv46 k2 ⟨Int.le_refl _, Int.le_refl _⟩ (by decide)
      refine put_f (D := D) (ci := 1) (v := .int v46) (ty := .int) (C := RX1) (T := TX1) (N := 18) hx hb hw inAX1 tyX1 tyX1_ok nmX1 hown hK hP hD hS 2 rfl rfl 15 (by decide) (hw _ q_359) (fun _ h9 => h9) rfl (by decide +kernel) rfl rfl dX1_readRunner_92 (fun H locs F48 eF48 hP hD hS => ?_)
      have hP : va_P D vwCl [(h_bestAt, .inl (cI, 6, .inl f_bestAt)), (h_bad, .inl (cI, 6, .inl f_bad)), (h0, .inr (1, vL 18 F48)), (h_manName, .inl (cJ, 12, .inr (.inl f_manName))), (h_runnerName, .inl (cJ, 6, .inr (.inl g33))), (p0, .inr (6, vL 12 F25)), (h_p0_bytes, .inl (cB, 940, .inl f_p0_bytes)), (h_p0_wordNames, .inl (cJ, 23, .inr (.inl f_p0_wordNames)))] H := hP
      have hD : va_D A [(h_bestAt, .inl (cI, 6, .inl f_bestAt)), (h_bad, .inl (cI, 6, .inl f_bad)), (h0, .inr (1, vL 18 F48)), (h_manName, .inl (cJ, 12, .inr (.inl f_manName))), (h_runnerName, .inl (cJ, 6, .inr (.inl g33))), (p0, .inr (6, vL 12 F25)), (h_p0_bytes, .inl (cB, 940, .inl f_p0_bytes)), (h_p0_wordNames, .inl (cJ, 23, .inr (.inl f_p0_wordNames)))] := hD
      refine lv_iload_n hx hb dX1_readRunner_95 rfl (lv_at hl 0 rfl) ?_
      exact ret_i (v := 0) hx hb hr hlocks hS (hP.sub (ws' := [(h0, .inr (1, vL 18 F48)), (h_manName, .inl (cJ, 12, .inr (.inl f_manName))), (h_runnerName, .inl (cJ, 6, .inr (.inl g33))), (h_bestAt, .inl (cI, 6, .inl f_bestAt)), (h_bad, .inl (cI, 6, .inl f_bad)), (p0, .inr (6, vL 12 F25)), (h_p0_bytes, .inl (cB, 940, .inl f_p0_bytes)), (h_p0_wordNames, .inl (cJ, 23, .inr (.inl f_p0_wordNames)))]) [2, 3, 4, 0, 1, 5, 6, 7] rfl) (hD.sub (ws' := [(h0, .inr (1, vL 18 F48)), (h_manName, .inl (cJ, 12, .inr (.inl f_manName))), (h_runnerName, .inl (cJ, 6, .inr (.inl g33))), (h_bestAt, .inl (cI, 6, .inl f_bestAt)), (h_bad, .inl (cI, 6, .inl f_bad)), (p0, .inr (6, vL 12 F25)), (h_p0_bytes, .inl (cB, 940, .inl f_p0_bytes)), (h_p0_wordNames, .inl (cJ, 23, .inr (.inl f_p0_wordNames)))]) [2, 3, 4, 0, 1, 5, 6, 7] (by decide) rfl) dX1_readRunner_96 rfl (Nat.le_of_ble_eq_true rfl) (Nat.le_of_ble_eq_true rfl) ⟨F48, v46, F25, y26, y27, y28, y29, y30, y31, y32, g33, f_bestAt, f_bad, (SAME.up eF48 SAME.rf (by decide)), (get_eq eF48), (ir_wk k47 (by decide) (by decide)), (SAME.tr (SAME.tr SAME.rf t10 (by decide)) t34 (by decide)), t35, t36, t37, t38, t39, t40, t41, t42, ⟨by decide, by decide⟩, rfl⟩
    · have dc44 : r24.toInt ≠ 0 := ne_i (a := r24.toInt) (b := 0) rfl rfl c44
      have k49 : 1 ≤ r24.toInt ∧ r24.toInt ≤ 1 := ⟨ne_lo dc44 t43.1 ⟨Int.le_refl _, Int.le_refl _⟩ (by decide), t43.2⟩
      refine lv_aload_n hx hb dX1_readRunner_35 rfl (lv_at hl 1 rfl) ?_
      refine lv_aload_n hx hb dX1_readRunner_36 rfl (lv_at hl 0 rfl) ?_
      refine get_f (D := D) (ci := 1) (v := .ref h_bestAt) (C := RX1) (T := TX1) (N := 18) hx hb hw inAX1 hown hK hP 2 rfl rfl 11 (by decide) (hw _ q_348) (fun _ h9 => h9) e_bestAt dX1_readRunner_37 ?_
      refine lv_aload_n hx hb dX1_readRunner_40 rfl (lv_at hl 0 rfl) ?_
      refine get_f (D := D) (ci := 1) (v := .int x_runners) (C := RX1) (T := TX1) (N := 18) hx hb hw inAX1 hown hK hP 2 rfl rfl 15 (by decide) (hw _ q_359) (fun _ h9 => h9) e_runners dX1_readRunner_41 ?_
      refine lv_iconst (v := 0) hx hb dX1_readRunner_44 (by decide) ?_
      refine lv_bipush (v := 20) hx hb dX1_readRunner_45 (by decide) ?_
      have n50 : F25 0 = .ref h_p0_bytes := (SAME.at t34 (by decide) n18)
      have n51 : F25 1 = .int x_p0_length := (SAME.at t34 (by decide) n19)
      have n52 : F25 9 = .ref h_p0_wordNames := (SAME.at t34 (by decide) n22)
      have n53 : F25 11 = .int x_p0_mostBytes := (SAME.at t34 (by decide) n23)
      refine call_Vi (wr := [(h_bad, .inl (cI, 6, .inl f_bad)), (h0, .inr (1, vL 18 Fh)), (h_manName, .inl (cJ, 12, .inr (.inl f_manName))), (h_runnerName, .inl (cJ, 6, .inr (.inl g33)))]) (As := [.ref h_bestAt, .int x_runners, .int 0, .int 20]) (rest := []) hx hb hml hown hw (m_X6_takeInto_6 l D cI cJ cB cP cM cZ p0 h_p0_bytes h_p0_wordNames h_bestAt F25 x_p0_length y26 y27 y28 y29 y30 y31 y32 x_p0_mostBytes f_p0_bytes f_p0_wordNames f_bestAt x_runners 0 20 _ n50 n51 i_x_p0_length t35 t36 t37 t38 t39 t40 n52 t41 t42 n53) wV_X1_140_X6_takeInto dX1_readRunner_47 hK hP hD hS hA [5, 6, 7, 0] [1, 2, 3, 4] rfl rfl (by decide) (by decide) (by decide) 0 6 rfl rfl GG.fb hG.at hl.1 rfl (Nat.le_of_ble_eq_true rfl) ⟨(Nat.le_of_ble_eq_true rfl), (Nat.le_of_ble_eq_true rfl)⟩ ⟨(Nat.le_of_ble_eq_true rfl), (Nat.le_of_ble_eq_true rfl)⟩ (fun r54 u H locs hp hP hD hS => ?_)
      obtain ⟨F55, y56, y57, y58, y59, y60, y61, y62, g63, t64, t65, t66, t67, t68, t69, t70, t71, t72, t73, rfl⟩ := hp
      have hP : va_P D vwCl [(h_bad, .inl (cI, 6, .inl f_bad)), (h0, .inr (1, vL 18 Fh)), (h_manName, .inl (cJ, 12, .inr (.inl f_manName))), (h_runnerName, .inl (cJ, 6, .inr (.inl g33))), (p0, .inr (6, vL 12 F55)), (h_p0_bytes, .inl (cB, 940, .inl f_p0_bytes)), (h_p0_wordNames, .inl (cJ, 23, .inr (.inl f_p0_wordNames))), (h_bestAt, .inl (cI, 6, .inl g63))] H := hP
      have hD : va_D A [(h_bad, .inl (cI, 6, .inl f_bad)), (h0, .inr (1, vL 18 Fh)), (h_manName, .inl (cJ, 12, .inr (.inl f_manName))), (h_runnerName, .inl (cJ, 6, .inr (.inl g33))), (p0, .inr (6, vL 12 F55)), (h_p0_bytes, .inl (cB, 940, .inl f_p0_bytes)), (h_p0_wordNames, .inl (cJ, 23, .inr (.inl f_p0_wordNames))), (h_bestAt, .inl (cI, 6, .inl g63))] := hD
      refine W.widen (k := 0) (n := 0) (Nat.le_of_ble_eq_true rfl) (Nat.le_of_ble_eq_true rfl) ?_
      refine lv_if_eq (tgt := 75) hx hb dX1_readRunner_50 (by decide) (fun c74 => ?_) (fun c74 => ?_)
      · have dc74 : r54.toInt = 0 := eq_i (a := r54.toInt) (b := 0) rfl rfl c74
        have k75 : 0 ≤ r54.toInt ∧ r54.toInt ≤ 0 := ⟨t73.1, Int.le_trans (Int.le_of_eq dc74) (Int.le_refl _)⟩
        refine lv_iconst (v := 0) hx hb dX1_readRunner_75 (by decide) ?_
        refine lv_istore_n (lv' := [(2, .int 0), (0, .ref h0), (1, .ref p0)]) hx hb dX1_readRunner_76 rfl hl (by decide) rfl (fun ls hl => ?_)
        refine lv_aload_n hx hb dX1_readRunner_77 rfl (lv_at hl 1 rfl) ?_
        refine lv_dup hx hb dX1_readRunner_78 rfl ?_
        refine get_f (D := D) (ci := 1) (v := .int x_runners) (C := RX1) (T := TX1) (N := 18) hx hb hw inAX1 hown hK hP 1 rfl rfl 15 (by decide) (hw _ q_359) (fun _ h9 => h9) e_runners dX1_readRunner_79 ?_
        refine lv_iload_n hx hb dX1_readRunner_82 rfl (lv_at hl 0 rfl) ?_
        refine lv_if_eq (tgt := 90) hx hb dX1_readRunner_83 (by decide) (fun _ => ?_) (fun g => absurd (by decide) g)
        refine lv_iconst (v := 0) hx hb dX1_readRunner_90 (by decide) ?_
        refine lv_iadd hx hb dX1_readRunner_91 ?_
        refine lv_topi (fun v76 ev76 => ?_)
        have bv76 : v76.toInt = x_runners.toInt + 0 := by rw [ev76]; exact add_k rfl rfl k2 ⟨Int.le_refl _, Int.le_refl _⟩ (by decide)
        have k77 : 0 ≤ v76.toInt ∧ v76.toInt ≤ 5 := add_r bv76 k2 ⟨Int.le_refl _, Int.le_refl _⟩ (by decide)
        refine put_f (D := D) (ci := 1) (v := .int v76) (ty := .int) (C := RX1) (T := TX1) (N := 18) hx hb hw inAX1 tyX1 tyX1_ok nmX1 hown hK hP hD hS 1 rfl rfl 15 (by decide) (hw _ q_359) (fun _ h9 => h9) rfl (by decide +kernel) rfl rfl dX1_readRunner_92 (fun H locs F78 eF78 hP hD hS => ?_)
        have hP : va_P D vwCl [(h_bad, .inl (cI, 6, .inl f_bad)), (h0, .inr (1, vL 18 F78)), (h_manName, .inl (cJ, 12, .inr (.inl f_manName))), (h_runnerName, .inl (cJ, 6, .inr (.inl g33))), (p0, .inr (6, vL 12 F55)), (h_p0_bytes, .inl (cB, 940, .inl f_p0_bytes)), (h_p0_wordNames, .inl (cJ, 23, .inr (.inl f_p0_wordNames))), (h_bestAt, .inl (cI, 6, .inl g63))] H := hP
        have hD : va_D A [(h_bad, .inl (cI, 6, .inl f_bad)), (h0, .inr (1, vL 18 F78)), (h_manName, .inl (cJ, 12, .inr (.inl f_manName))), (h_runnerName, .inl (cJ, 6, .inr (.inl g33))), (p0, .inr (6, vL 12 F55)), (h_p0_bytes, .inl (cB, 940, .inl f_p0_bytes)), (h_p0_wordNames, .inl (cJ, 23, .inr (.inl f_p0_wordNames))), (h_bestAt, .inl (cI, 6, .inl g63))] := hD
        refine lv_iload_n hx hb dX1_readRunner_95 rfl (lv_at hl 0 rfl) ?_
        exact ret_i (v := 0) hx hb hr hlocks hS (hP.sub (ws' := [(h0, .inr (1, vL 18 F78)), (h_manName, .inl (cJ, 12, .inr (.inl f_manName))), (h_runnerName, .inl (cJ, 6, .inr (.inl g33))), (h_bestAt, .inl (cI, 6, .inl g63)), (h_bad, .inl (cI, 6, .inl f_bad)), (p0, .inr (6, vL 12 F55)), (h_p0_bytes, .inl (cB, 940, .inl f_p0_bytes)), (h_p0_wordNames, .inl (cJ, 23, .inr (.inl f_p0_wordNames)))]) [1, 2, 3, 7, 0, 4, 5, 6] rfl) (hD.sub (ws' := [(h0, .inr (1, vL 18 F78)), (h_manName, .inl (cJ, 12, .inr (.inl f_manName))), (h_runnerName, .inl (cJ, 6, .inr (.inl g33))), (h_bestAt, .inl (cI, 6, .inl g63)), (h_bad, .inl (cI, 6, .inl f_bad)), (p0, .inr (6, vL 12 F55)), (h_p0_bytes, .inl (cB, 940, .inl f_p0_bytes)), (h_p0_wordNames, .inl (cJ, 23, .inr (.inl f_p0_wordNames)))]) [1, 2, 3, 7, 0, 4, 5, 6] (by decide) rfl) dX1_readRunner_96 rfl (Nat.le_of_ble_eq_true rfl) (Nat.le_of_ble_eq_true rfl) ⟨F78, v76, F55, y56, y57, y58, y59, y60, y61, y62, g33, g63, f_bad, (SAME.up eF78 SAME.rf (by decide)), (get_eq eF78), (ir_wk k77 (by decide) (by decide)), (SAME.tr (SAME.tr (SAME.tr SAME.rf t10 (by decide)) t34 (by decide)) t64 (by decide)), t65, t66, t67, t68, t69, t70, t71, t72, ⟨by decide, by decide⟩, rfl⟩
      · have dc74 : r54.toInt ≠ 0 := ne_i (a := r54.toInt) (b := 0) rfl rfl c74
        have k79 : 1 ≤ r54.toInt ∧ r54.toInt ≤ 1 := ⟨ne_lo dc74 t73.1 ⟨Int.le_refl _, Int.le_refl _⟩ (by decide), t73.2⟩
        refine lv_aload_n hx hb dX1_readRunner_53 rfl (lv_at hl 1 rfl) ?_
        refine lv_aload_n hx hb dX1_readRunner_54 rfl (lv_at hl 0 rfl) ?_
        refine get_f (D := D) (ci := 1) (v := .ref h_bad) (C := RX1) (T := TX1) (N := 18) hx hb hw inAX1 hown hK hP 1 rfl rfl 12 (by decide) (hw _ q_350) (fun _ h9 => h9) e_bad dX1_readRunner_55 ?_
        refine lv_aload_n hx hb dX1_readRunner_58 rfl (lv_at hl 0 rfl) ?_
        refine get_f (D := D) (ci := 1) (v := .int x_runners) (C := RX1) (T := TX1) (N := 18) hx hb hw inAX1 hown hK hP 1 rfl rfl 15 (by decide) (hw _ q_359) (fun _ h9 => h9) e_runners dX1_readRunner_59 ?_
        refine lv_iconst (v := 0) hx hb dX1_readRunner_62 (by decide) ?_
        refine lv_bipush (v := 9) hx hb dX1_readRunner_63 (by decide) ?_
        have n80 : F55 0 = .ref h_p0_bytes := (SAME.at t64 (by decide) n50)
        have n81 : F55 1 = .int x_p0_length := (SAME.at t64 (by decide) n51)
        have n82 : F55 9 = .ref h_p0_wordNames := (SAME.at t64 (by decide) n52)
        have n83 : F55 11 = .int x_p0_mostBytes := (SAME.at t64 (by decide) n53)
        refine call_Vi (wr := [(h0, .inr (1, vL 18 Fh)), (h_manName, .inl (cJ, 12, .inr (.inl f_manName))), (h_runnerName, .inl (cJ, 6, .inr (.inl g33))), (h_bestAt, .inl (cI, 6, .inl g63))]) (As := [.ref h_bad, .int x_runners, .int 0, .int 9]) (rest := []) hx hb hml hown hw (m_X6_takeInto_6 l D cI cJ cB cP cM cZ p0 h_p0_bytes h_p0_wordNames h_bad F55 x_p0_length y56 y57 y58 y59 y60 y61 y62 x_p0_mostBytes f_p0_bytes f_p0_wordNames f_bad x_runners 0 9 _ n80 n81 i_x_p0_length t65 t66 t67 t68 t69 t70 n82 t71 t72 n83) wV_X1_140_X6_takeInto dX1_readRunner_65 hK hP hD hS hA [4, 5, 6, 0] [1, 2, 3, 7] rfl rfl (by decide) (by decide) (by decide) 0 6 rfl rfl GG.fb hG.at hl.1 rfl (Nat.le_of_ble_eq_true rfl) ⟨(Nat.le_of_ble_eq_true rfl), (Nat.le_of_ble_eq_true rfl)⟩ ⟨(Nat.le_of_ble_eq_true rfl), (Nat.le_of_ble_eq_true rfl)⟩ (fun r84 u H locs hp hP hD hS => ?_)
        obtain ⟨F85, y86, y87, y88, y89, y90, y91, y92, g93, t94, t95, t96, t97, t98, t99, t100, t101, t102, t103, rfl⟩ := hp
        have hP : va_P D vwCl [(h0, .inr (1, vL 18 Fh)), (h_manName, .inl (cJ, 12, .inr (.inl f_manName))), (h_runnerName, .inl (cJ, 6, .inr (.inl g33))), (h_bestAt, .inl (cI, 6, .inl g63)), (p0, .inr (6, vL 12 F85)), (h_p0_bytes, .inl (cB, 940, .inl f_p0_bytes)), (h_p0_wordNames, .inl (cJ, 23, .inr (.inl f_p0_wordNames))), (h_bad, .inl (cI, 6, .inl g93))] H := hP
        have hD : va_D A [(h0, .inr (1, vL 18 Fh)), (h_manName, .inl (cJ, 12, .inr (.inl f_manName))), (h_runnerName, .inl (cJ, 6, .inr (.inl g33))), (h_bestAt, .inl (cI, 6, .inl g63)), (p0, .inr (6, vL 12 F85)), (h_p0_bytes, .inl (cB, 940, .inl f_p0_bytes)), (h_p0_wordNames, .inl (cJ, 23, .inr (.inl f_p0_wordNames))), (h_bad, .inl (cI, 6, .inl g93))] := hD
        refine W.widen (k := 0) (n := 0) (Nat.le_of_ble_eq_true rfl) (Nat.le_of_ble_eq_true rfl) ?_
        refine lv_if_eq (tgt := 75) hx hb dX1_readRunner_68 (by decide) (fun c104 => ?_) (fun c104 => ?_)
        · have dc104 : r84.toInt = 0 := eq_i (a := r84.toInt) (b := 0) rfl rfl c104
          have k105 : 0 ≤ r84.toInt ∧ r84.toInt ≤ 0 := ⟨t103.1, Int.le_trans (Int.le_of_eq dc104) (Int.le_refl _)⟩
          refine lv_iconst (v := 0) hx hb dX1_readRunner_75 (by decide) ?_
          refine lv_istore_n (lv' := [(2, .int 0), (0, .ref h0), (1, .ref p0)]) hx hb dX1_readRunner_76 rfl hl (by decide) rfl (fun ls hl => ?_)
          refine lv_aload_n hx hb dX1_readRunner_77 rfl (lv_at hl 1 rfl) ?_
          refine lv_dup hx hb dX1_readRunner_78 rfl ?_
          refine get_f (D := D) (ci := 1) (v := .int x_runners) (C := RX1) (T := TX1) (N := 18) hx hb hw inAX1 hown hK hP 0 rfl rfl 15 (by decide) (hw _ q_359) (fun _ h9 => h9) e_runners dX1_readRunner_79 ?_
          refine lv_iload_n hx hb dX1_readRunner_82 rfl (lv_at hl 0 rfl) ?_
          refine lv_if_eq (tgt := 90) hx hb dX1_readRunner_83 (by decide) (fun _ => ?_) (fun g => absurd (by decide) g)
          refine lv_iconst (v := 0) hx hb dX1_readRunner_90 (by decide) ?_
          refine lv_iadd hx hb dX1_readRunner_91 ?_
          refine lv_topi (fun v106 ev106 => ?_)
          have bv106 : v106.toInt = x_runners.toInt + 0 := by rw [ev106]; exact add_k rfl rfl k2 ⟨Int.le_refl _, Int.le_refl _⟩ (by decide)
          have k107 : 0 ≤ v106.toInt ∧ v106.toInt ≤ 5 := add_r bv106 k2 ⟨Int.le_refl _, Int.le_refl _⟩ (by decide)
          refine put_f (D := D) (ci := 1) (v := .int v106) (ty := .int) (C := RX1) (T := TX1) (N := 18) hx hb hw inAX1 tyX1 tyX1_ok nmX1 hown hK hP hD hS 0 rfl rfl 15 (by decide) (hw _ q_359) (fun _ h9 => h9) rfl (by decide +kernel) rfl rfl dX1_readRunner_92 (fun H locs F108 eF108 hP hD hS => ?_)
          have hP : va_P D vwCl [(h0, .inr (1, vL 18 F108)), (h_manName, .inl (cJ, 12, .inr (.inl f_manName))), (h_runnerName, .inl (cJ, 6, .inr (.inl g33))), (h_bestAt, .inl (cI, 6, .inl g63)), (p0, .inr (6, vL 12 F85)), (h_p0_bytes, .inl (cB, 940, .inl f_p0_bytes)), (h_p0_wordNames, .inl (cJ, 23, .inr (.inl f_p0_wordNames))), (h_bad, .inl (cI, 6, .inl g93))] H := hP
          have hD : va_D A [(h0, .inr (1, vL 18 F108)), (h_manName, .inl (cJ, 12, .inr (.inl f_manName))), (h_runnerName, .inl (cJ, 6, .inr (.inl g33))), (h_bestAt, .inl (cI, 6, .inl g63)), (p0, .inr (6, vL 12 F85)), (h_p0_bytes, .inl (cB, 940, .inl f_p0_bytes)), (h_p0_wordNames, .inl (cJ, 23, .inr (.inl f_p0_wordNames))), (h_bad, .inl (cI, 6, .inl g93))] := hD
          refine lv_iload_n hx hb dX1_readRunner_95 rfl (lv_at hl 0 rfl) ?_
          exact ret_i (v := 0) hx hb hr hlocks hS (hP.sub (ws' := [(h0, .inr (1, vL 18 F108)), (h_manName, .inl (cJ, 12, .inr (.inl f_manName))), (h_runnerName, .inl (cJ, 6, .inr (.inl g33))), (h_bestAt, .inl (cI, 6, .inl g63)), (h_bad, .inl (cI, 6, .inl g93)), (p0, .inr (6, vL 12 F85)), (h_p0_bytes, .inl (cB, 940, .inl f_p0_bytes)), (h_p0_wordNames, .inl (cJ, 23, .inr (.inl f_p0_wordNames)))]) [0, 1, 2, 3, 7, 4, 5, 6] rfl) (hD.sub (ws' := [(h0, .inr (1, vL 18 F108)), (h_manName, .inl (cJ, 12, .inr (.inl f_manName))), (h_runnerName, .inl (cJ, 6, .inr (.inl g33))), (h_bestAt, .inl (cI, 6, .inl g63)), (h_bad, .inl (cI, 6, .inl g93)), (p0, .inr (6, vL 12 F85)), (h_p0_bytes, .inl (cB, 940, .inl f_p0_bytes)), (h_p0_wordNames, .inl (cJ, 23, .inr (.inl f_p0_wordNames)))]) [0, 1, 2, 3, 7, 4, 5, 6] (by decide) rfl) dX1_readRunner_96 rfl (Nat.le_of_ble_eq_true rfl) (Nat.le_of_ble_eq_true rfl) ⟨F108, v106, F85, y86, y87, y88, y89, y90, y91, y92, g33, g63, g93, (SAME.up eF108 SAME.rf (by decide)), (get_eq eF108), (ir_wk k107 (by decide) (by decide)), (SAME.tr (SAME.tr (SAME.tr (SAME.tr SAME.rf t10 (by decide)) t34 (by decide)) t64 (by decide)) t94 (by decide)), t95, t96, t97, t98, t99, t100, t101, t102, ⟨by decide, by decide⟩, rfl⟩
        · have dc104 : r84.toInt ≠ 0 := ne_i (a := r84.toInt) (b := 0) rfl rfl c104
          have k109 : 1 ≤ r84.toInt ∧ r84.toInt ≤ 1 := ⟨ne_lo dc104 t103.1 ⟨Int.le_refl _, Int.le_refl _⟩ (by decide), t103.2⟩
          refine lv_iconst (v := 1) hx hb dX1_readRunner_71 (by decide) ?_
          refine lv_goto (tgt := 76) hx hb dX1_readRunner_72 (by decide) ?_
          refine lv_istore_n (lv' := [(2, .int 1), (0, .ref h0), (1, .ref p0)]) hx hb dX1_readRunner_76 rfl hl (by decide) rfl (fun ls hl => ?_)
          refine lv_aload_n hx hb dX1_readRunner_77 rfl (lv_at hl 1 rfl) ?_
          refine lv_dup hx hb dX1_readRunner_78 rfl ?_
          refine get_f (D := D) (ci := 1) (v := .int x_runners) (C := RX1) (T := TX1) (N := 18) hx hb hw inAX1 hown hK hP 0 rfl rfl 15 (by decide) (hw _ q_359) (fun _ h9 => h9) e_runners dX1_readRunner_79 ?_
          refine lv_iload_n hx hb dX1_readRunner_82 rfl (lv_at hl 0 rfl) ?_
          refine lv_if_eq (tgt := 90) hx hb dX1_readRunner_83 (by decide) (fun g => absurd g (by decide)) (fun _ => ?_)
          refine lv_iconst (v := 1) hx hb dX1_readRunner_86 (by decide) ?_
          refine lv_goto (tgt := 91) hx hb dX1_readRunner_87 (by decide) ?_
          refine lv_iadd hx hb dX1_readRunner_91 ?_
          refine lv_topi (fun v110 ev110 => ?_)
          have bv110 : v110.toInt = x_runners.toInt + 1 := by rw [ev110]; exact add_k rfl rfl k2 ⟨Int.le_refl _, Int.le_refl _⟩ (by decide)
          have k111 : 1 ≤ v110.toInt ∧ v110.toInt ≤ 6 := add_r bv110 k2 ⟨Int.le_refl _, Int.le_refl _⟩ (by decide)
          refine put_f (D := D) (ci := 1) (v := .int v110) (ty := .int) (C := RX1) (T := TX1) (N := 18) hx hb hw inAX1 tyX1 tyX1_ok nmX1 hown hK hP hD hS 0 rfl rfl 15 (by decide) (hw _ q_359) (fun _ h9 => h9) rfl (by decide +kernel) rfl rfl dX1_readRunner_92 (fun H locs F112 eF112 hP hD hS => ?_)
          have hP : va_P D vwCl [(h0, .inr (1, vL 18 F112)), (h_manName, .inl (cJ, 12, .inr (.inl f_manName))), (h_runnerName, .inl (cJ, 6, .inr (.inl g33))), (h_bestAt, .inl (cI, 6, .inl g63)), (p0, .inr (6, vL 12 F85)), (h_p0_bytes, .inl (cB, 940, .inl f_p0_bytes)), (h_p0_wordNames, .inl (cJ, 23, .inr (.inl f_p0_wordNames))), (h_bad, .inl (cI, 6, .inl g93))] H := hP
          have hD : va_D A [(h0, .inr (1, vL 18 F112)), (h_manName, .inl (cJ, 12, .inr (.inl f_manName))), (h_runnerName, .inl (cJ, 6, .inr (.inl g33))), (h_bestAt, .inl (cI, 6, .inl g63)), (p0, .inr (6, vL 12 F85)), (h_p0_bytes, .inl (cB, 940, .inl f_p0_bytes)), (h_p0_wordNames, .inl (cJ, 23, .inr (.inl f_p0_wordNames))), (h_bad, .inl (cI, 6, .inl g93))] := hD
          refine lv_iload_n hx hb dX1_readRunner_95 rfl (lv_at hl 0 rfl) ?_
          exact ret_i (v := 1) hx hb hr hlocks hS (hP.sub (ws' := [(h0, .inr (1, vL 18 F112)), (h_manName, .inl (cJ, 12, .inr (.inl f_manName))), (h_runnerName, .inl (cJ, 6, .inr (.inl g33))), (h_bestAt, .inl (cI, 6, .inl g63)), (h_bad, .inl (cI, 6, .inl g93)), (p0, .inr (6, vL 12 F85)), (h_p0_bytes, .inl (cB, 940, .inl f_p0_bytes)), (h_p0_wordNames, .inl (cJ, 23, .inr (.inl f_p0_wordNames)))]) [0, 1, 2, 3, 7, 4, 5, 6] rfl) (hD.sub (ws' := [(h0, .inr (1, vL 18 F112)), (h_manName, .inl (cJ, 12, .inr (.inl f_manName))), (h_runnerName, .inl (cJ, 6, .inr (.inl g33))), (h_bestAt, .inl (cI, 6, .inl g63)), (h_bad, .inl (cI, 6, .inl g93)), (p0, .inr (6, vL 12 F85)), (h_p0_bytes, .inl (cB, 940, .inl f_p0_bytes)), (h_p0_wordNames, .inl (cJ, 23, .inr (.inl f_p0_wordNames)))]) [0, 1, 2, 3, 7, 4, 5, 6] (by decide) rfl) dX1_readRunner_96 rfl (Nat.le_of_ble_eq_true rfl) (Nat.le_of_ble_eq_true rfl) ⟨F112, v110, F85, y86, y87, y88, y89, y90, y91, y92, g33, g63, g93, (SAME.up eF112 SAME.rf (by decide)), (get_eq eF112), (ir_wk k111 (by decide) (by decide)), (SAME.tr (SAME.tr (SAME.tr (SAME.tr SAME.rf t10 (by decide)) t34 (by decide)) t64 (by decide)) t94 (by decide)), t95, t96, t97, t98, t99, t100, t101, t102, ⟨by decide, by decide⟩, rfl⟩
  · have dc1 : 6 ≤ x_runners.toInt := nlt_i (a := x_runners.toInt) (b := 6) rfl rfl c1
    have k113 : 6 ≤ x_runners.toInt ∧ x_runners.toInt ≤ 6 := ⟨Int.le_trans (Int.le_refl _) dc1, i_x_runners.2⟩
    refine lv_aload_n hx hb dX1_readRunner_9 rfl (lv_at hl 1 rfl) ?_
    refine lv_iconst (v := 4) hx hb dX1_readRunner_10 (by decide) ?_
    refine call_Vi (wr := [(h0, .inr (1, vL 18 Fh)), (h_manName, .inl (cJ, 12, .inr (.inl f_manName))), (h_runnerName, .inl (cJ, 6, .inr (.inl f_runnerName))), (h_bestAt, .inl (cI, 6, .inl f_bestAt)), (h_bad, .inl (cI, 6, .inl f_bad)), (h_p0_bytes, .inl (cB, 940, .inl f_p0_bytes)), (h_p0_wordNames, .inl (cJ, 23, .inr (.inl f_p0_wordNames)))]) (As := [.int 4]) (rest := []) hx hb hml hown hw (m_X6_fail l D cI cJ cB cP cM cZ p0 F_p0_ x_p0_place 4 _ e_p0_place) wV_X1_128_X6_fail dX1_readRunner_11 hK hP hD hS hA [5] [0, 1, 2, 3, 4, 6, 7] rfl rfl (by decide) (by decide) (by decide) 0 6 rfl rfl GG.fb hG.at hl.1 rfl (Nat.le_of_ble_eq_true rfl) ⟨(Nat.le_of_ble_eq_true rfl), (Nat.le_of_ble_eq_true rfl)⟩ ⟨(Nat.le_of_ble_eq_true rfl), (Nat.le_of_ble_eq_true rfl)⟩ (fun r114 u H locs hp hP hD hS => ?_)
    obtain ⟨F115, t116, t117, t118, rfl, rfl⟩ := hp
    have hP : va_P D vwCl [(h0, .inr (1, vL 18 Fh)), (h_manName, .inl (cJ, 12, .inr (.inl f_manName))), (h_runnerName, .inl (cJ, 6, .inr (.inl f_runnerName))), (h_bestAt, .inl (cI, 6, .inl f_bestAt)), (h_bad, .inl (cI, 6, .inl f_bad)), (h_p0_bytes, .inl (cB, 940, .inl f_p0_bytes)), (h_p0_wordNames, .inl (cJ, 23, .inr (.inl f_p0_wordNames))), (p0, .inr (6, vL 12 F115))] H := hP
    have hD : va_D A [(h0, .inr (1, vL 18 Fh)), (h_manName, .inl (cJ, 12, .inr (.inl f_manName))), (h_runnerName, .inl (cJ, 6, .inr (.inl f_runnerName))), (h_bestAt, .inl (cI, 6, .inl f_bestAt)), (h_bad, .inl (cI, 6, .inl f_bad)), (h_p0_bytes, .inl (cB, 940, .inl f_p0_bytes)), (h_p0_wordNames, .inl (cJ, 23, .inr (.inl f_p0_wordNames))), (p0, .inr (6, vL 12 F115))] := hD
    refine W.widen (k := 0) (n := 0) (Nat.le_of_ble_eq_true rfl) (Nat.le_of_ble_eq_true rfl) ?_
    exact ret_i (v := 0) hx hb hr hlocks hS (hP.sub (ws' := [(h0, .inr (1, vL 18 Fh)), (h_manName, .inl (cJ, 12, .inr (.inl f_manName))), (h_runnerName, .inl (cJ, 6, .inr (.inl f_runnerName))), (h_bestAt, .inl (cI, 6, .inl f_bestAt)), (h_bad, .inl (cI, 6, .inl f_bad)), (p0, .inr (6, vL 12 F115)), (h_p0_bytes, .inl (cB, 940, .inl f_p0_bytes)), (h_p0_wordNames, .inl (cJ, 23, .inr (.inl f_p0_wordNames)))]) [0, 1, 2, 3, 4, 7, 5, 6] rfl) (hD.sub (ws' := [(h0, .inr (1, vL 18 Fh)), (h_manName, .inl (cJ, 12, .inr (.inl f_manName))), (h_runnerName, .inl (cJ, 6, .inr (.inl f_runnerName))), (h_bestAt, .inl (cI, 6, .inl f_bestAt)), (h_bad, .inl (cI, 6, .inl f_bad)), (p0, .inr (6, vL 12 F115)), (h_p0_bytes, .inl (cB, 940, .inl f_p0_bytes)), (h_p0_wordNames, .inl (cJ, 23, .inr (.inl f_p0_wordNames)))]) [0, 1, 2, 3, 4, 7, 5, 6] (by decide) rfl) dX1_readRunner_14 rfl (Nat.le_of_ble_eq_true rfl) (Nat.le_of_ble_eq_true rfl) ⟨Fh, x_runners, F115, x_p0_kind, x_p0_place, x_p0_value, x_p0_name, 4, x_p0_place, x_p0_at, f_runnerName, f_bestAt, f_bad, SAME.rf, e_runners, (ir_wk k113 (by decide) (by decide)), (SAME.tr SAME.rf t116 (by decide)), (SAME.at t116 (by decide) e_p0_kind), (SAME.at t116 (by decide) e_p0_place), (SAME.at t116 (by decide) e_p0_value), (SAME.at t116 (by decide) e_p0_name), t117, t118, (SAME.at t116 (by decide) e_p0_at), i_x_p0_at, ⟨by decide, by decide⟩, rfl⟩
set_option maxHeartbeats 4000000 in
set_option maxRecDepth 100000 in
theorem m_X1_readLine (l : Launch) (D : va_G) (cI cJ cB cP cM cZ : ClassId) (z0 tU tL tM : Nat) (h0 : Nat) (h_settings : Nat) (h_manName : Nat) (h_push : Nat) (h_feet : Nat) (h_weight : Nat) (h_length : Nat) (h_drop : Nat) (h_ideal : Nat) (h_over : Nat) (h_runnerName : Nat) (h_bestAt : Nat) (h_bad : Nat) (p0 : Nat) (h_p0_bytes : Nat) (h_p0_wordNames : Nat) (Fh : Nat → Value) (x_men : Int32) (x_bends : Int32) (x_runners : Int32) (x_settingsTold : Int32) (f_settings : Nat → Int32) (f_manName : Nat → Int64) (f_push : Nat → Int32) (f_feet : Nat → Int32) (f_weight : Nat → Int32) (f_length : Nat → Int32) (f_drop : Nat → Int32) (f_ideal : Nat → Int32) (f_over : Nat → Int32) (f_runnerName : Nat → Int64) (f_bestAt : Nat → Int32) (f_bad : Nat → Int32) (F_p0_ : Nat → Value) (x_p0_length : Int32) (x_p0_kind : Int32) (x_p0_place : Int32) (x_p0_value : Int32) (x_p0_name : Int64) (x_p0_faultKind : Int32) (x_p0_faultPlace : Int32) (x_p0_at : Int32) (x_p0_mostBytes : Int32) (f_p0_bytes : Nat → Int32) (f_p0_wordNames : Nat → Int64) (sz : Nat) (e_settings : Fh 1 = .ref h_settings) (e_manName : Fh 2 = .ref h_manName) (e_push : Fh 3 = .ref h_push) (e_feet : Fh 4 = .ref h_feet) (e_weight : Fh 5 = .ref h_weight) (e_length : Fh 6 = .ref h_length) (e_drop : Fh 7 = .ref h_drop) (e_ideal : Fh 8 = .ref h_ideal) (e_over : Fh 9 = .ref h_over) (e_runnerName : Fh 10 = .ref h_runnerName) (e_bestAt : Fh 11 = .ref h_bestAt) (e_bad : Fh 12 = .ref h_bad) (e_men : Fh 13 = .int x_men) (i_x_men : IR 0 12 x_men) (e_bends : Fh 14 = .int x_bends) (i_x_bends : IR 0 12 x_bends) (e_runners : Fh 15 = .int x_runners) (i_x_runners : IR 0 6 x_runners) (e_settingsTold : Fh 17 = .int x_settingsTold) (e_p0_bytes : F_p0_ 0 = .ref h_p0_bytes) (e_p0_length : F_p0_ 1 = .int x_p0_length) (i_x_p0_length : IR 0 940 x_p0_length) (e_p0_kind : F_p0_ 2 = .int x_p0_kind) (e_p0_place : F_p0_ 3 = .int x_p0_place) (e_p0_value : F_p0_ 4 = .int x_p0_value) (e_p0_name : F_p0_ 5 = .long x_p0_name) (e_p0_faultKind : F_p0_ 7 = .int x_p0_faultKind) (e_p0_faultPlace : F_p0_ 8 = .int x_p0_faultPlace) (e_p0_wordNames : F_p0_ 9 = .ref h_p0_wordNames) (e_p0_at : F_p0_ 10 = .int x_p0_at) (i_x_p0_at : IR 0 940 x_p0_at) (e_p0_mostBytes : F_p0_ 11 = .int x_p0_mostBytes) : CI l yX1_readLine cX1_readLine 2 (some .boolean) { frames := 4, cells := 0, slots := 0, locals := 91 } (GY D cI cJ cB cP cM cZ z0 tU tL tM [(h0, .inr (1, vL 18 Fh)), (h_settings, .inl (cI, 5, .inl f_settings)), (h_manName, .inl (cJ, 12, .inr (.inl f_manName))), (h_push, .inl (cI, 12, .inl f_push)), (h_feet, .inl (cI, 12, .inl f_feet)), (h_weight, .inl (cI, 12, .inl f_weight)), (h_length, .inl (cI, 12, .inl f_length)), (h_drop, .inl (cI, 12, .inl f_drop)), (h_ideal, .inl (cI, 12, .inl f_ideal)), (h_over, .inl (cI, 12, .inl f_over)), (h_runnerName, .inl (cJ, 6, .inr (.inl f_runnerName))), (h_bestAt, .inl (cI, 6, .inl f_bestAt)), (h_bad, .inl (cI, 6, .inl f_bad)), (p0, .inr (6, vL 12 F_p0_)), (h_p0_bytes, .inl (cB, 940, .inl f_p0_bytes)), (h_p0_wordNames, .inl (cJ, 23, .inr (.inl f_p0_wordNames)))]) D [(h0, .inr (1, vL 18 Fh)), (h_settings, .inl (cI, 5, .inl f_settings)), (h_manName, .inl (cJ, 12, .inr (.inl f_manName))), (h_push, .inl (cI, 12, .inl f_push)), (h_feet, .inl (cI, 12, .inl f_feet)), (h_weight, .inl (cI, 12, .inl f_weight)), (h_length, .inl (cI, 12, .inl f_length)), (h_drop, .inl (cI, 12, .inl f_drop)), (h_ideal, .inl (cI, 12, .inl f_ideal)), (h_over, .inl (cI, 12, .inl f_over)), (h_runnerName, .inl (cJ, 6, .inr (.inl f_runnerName))), (h_bestAt, .inl (cI, 6, .inl f_bestAt)), (h_bad, .inl (cI, 6, .inl f_bad)), (p0, .inr (6, vL 12 F_p0_)), (h_p0_bytes, .inl (cB, 940, .inl f_p0_bytes)), (h_p0_wordNames, .inl (cJ, 23, .inr (.inl f_p0_wordNames)))] sz [.ref h0, .ref p0] (fun (r : Int32) (u : va_W) => ∃ (Gh : Nat → Value) (y_men : Int32) (y_bends : Int32) (y_runners : Int32) (y_settingsTold : Int32) (G_p0_ : Nat → Value) (y_p0_kind : Int32) (y_p0_place : Int32) (y_p0_value : Int32) (y_p0_name : Int64) (y_p0_faultKind : Int32) (y_p0_faultPlace : Int32) (y_p0_at : Int32) (g_settings : Nat → Int32) (g_manName : Nat → Int64) (g_push : Nat → Int32) (g_feet : Nat → Int32) (g_weight : Nat → Int32) (g_length : Nat → Int32) (g_drop : Nat → Int32) (g_ideal : Nat → Int32) (g_over : Nat → Int32) (g_runnerName : Nat → Int64) (g_bestAt : Nat → Int32) (g_bad : Nat → Int32), SAME [13, 14, 15, 17] Fh Gh ∧ Gh 13 = .int y_men ∧ IR 0 12 y_men ∧ Gh 14 = .int y_bends ∧ IR 0 12 y_bends ∧ Gh 15 = .int y_runners ∧ IR 0 6 y_runners ∧ Gh 17 = .int y_settingsTold ∧ SAME [2, 3, 4, 5, 7, 8, 10] F_p0_ G_p0_ ∧ G_p0_ 2 = .int y_p0_kind ∧ G_p0_ 3 = .int y_p0_place ∧ G_p0_ 4 = .int y_p0_value ∧ G_p0_ 5 = .long y_p0_name ∧ G_p0_ 7 = .int y_p0_faultKind ∧ G_p0_ 8 = .int y_p0_faultPlace ∧ G_p0_ 10 = .int y_p0_at ∧ IR 0 940 y_p0_at ∧ IR 0 1 r ∧ u = [(h0, .inr (1, vL 18 Gh)), (h_settings, .inl (cI, 5, .inl g_settings)), (h_manName, .inl (cJ, 12, .inr (.inl g_manName))), (h_push, .inl (cI, 12, .inl g_push)), (h_feet, .inl (cI, 12, .inl g_feet)), (h_weight, .inl (cI, 12, .inl g_weight)), (h_length, .inl (cI, 12, .inl g_length)), (h_drop, .inl (cI, 12, .inl g_drop)), (h_ideal, .inl (cI, 12, .inl g_ideal)), (h_over, .inl (cI, 12, .inl g_over)), (h_runnerName, .inl (cJ, 6, .inr (.inl g_runnerName))), (h_bestAt, .inl (cI, 6, .inl g_bestAt)), (h_bad, .inl (cI, 6, .inl g_bad)), (p0, .inr (6, vL 12 G_p0_)), (h_p0_bytes, .inl (cB, 940, .inl f_p0_bytes)), (h_p0_wordNames, .inl (cJ, 23, .inr (.inl f_p0_wordNames)))]) := by
  refine CI_mk (by decide) (Nat.le_of_ble_eq_true rfl) ?_
  intro p e s m below meth c A ls E hAe hG hsz hP hD hA hS hl
  obtain ⟨hx, hb, hr, hw, hown, hlocks, hml, hnm⟩ := E
  have hK := hG.1.1
  have hAz := hG.hAz hAe hsz
  have hST := hG.st hAz
  have i_x_men : 0 ≤ x_men.toInt ∧ x_men.toInt ≤ 12 := i_x_men
  have i_x_bends : 0 ≤ x_bends.toInt ∧ x_bends.toInt ≤ 12 := i_x_bends
  have i_x_runners : 0 ≤ x_runners.toInt ∧ x_runners.toInt ≤ 6 := i_x_runners
  have i_x_p0_length : 0 ≤ x_p0_length.toInt ∧ x_p0_length.toInt ≤ 940 := i_x_p0_length
  have i_x_p0_at : 0 ≤ x_p0_at.toInt ∧ x_p0_at.toInt ≤ 940 := i_x_p0_at
  have hl : lv_has ls 2 [(0, .ref h0), (1, .ref p0)] := hl
  refine lv_aload_n hx hb dX1_readLine_0 rfl (lv_at hl 1 rfl) ?_
  refine call_Vi (wr := [(h0, .inr (1, vL 18 Fh)), (h_settings, .inl (cI, 5, .inl f_settings)), (h_manName, .inl (cJ, 12, .inr (.inl f_manName))), (h_push, .inl (cI, 12, .inl f_push)), (h_feet, .inl (cI, 12, .inl f_feet)), (h_weight, .inl (cI, 12, .inl f_weight)), (h_length, .inl (cI, 12, .inl f_length)), (h_drop, .inl (cI, 12, .inl f_drop)), (h_ideal, .inl (cI, 12, .inl f_ideal)), (h_over, .inl (cI, 12, .inl f_over)), (h_runnerName, .inl (cJ, 6, .inr (.inl f_runnerName))), (h_bestAt, .inl (cI, 6, .inl f_bestAt)), (h_bad, .inl (cI, 6, .inl f_bad)), (h_p0_bytes, .inl (cB, 940, .inl f_p0_bytes)), (h_p0_wordNames, .inl (cJ, 23, .inr (.inl f_p0_wordNames)))]) (As := []) (rest := []) hx hb hml hown hw (m_X6_wordHere l D cI cJ cB cP cM cZ p0 F_p0_ x_p0_kind x_p0_value _ e_p0_kind e_p0_value) wV_X1_111_X6_wordHere dX1_readLine_1 hK hP hD hS hA [13] [0, 1, 2, 3, 4, 5, 6, 7, 8, 9, 10, 11, 12, 14, 15] rfl rfl (by decide) (by decide) (by decide) 0 6 rfl rfl GG.fb hG.1.at hl.1 rfl (Nat.le_of_ble_eq_true rfl) ⟨(Nat.le_of_ble_eq_true rfl), (Nat.le_of_ble_eq_true rfl)⟩ ⟨(Nat.le_of_ble_eq_true rfl), (Nat.le_of_ble_eq_true rfl)⟩ (fun r1 u H locs hp hP hD hS => ?_)
  rcases hp with ⟨t2, rfl, rfl⟩ | ⟨t3, rfl, rfl⟩
  · have hP : va_P D vwCl [(h0, .inr (1, vL 18 Fh)), (h_settings, .inl (cI, 5, .inl f_settings)), (h_manName, .inl (cJ, 12, .inr (.inl f_manName))), (h_push, .inl (cI, 12, .inl f_push)), (h_feet, .inl (cI, 12, .inl f_feet)), (h_weight, .inl (cI, 12, .inl f_weight)), (h_length, .inl (cI, 12, .inl f_length)), (h_drop, .inl (cI, 12, .inl f_drop)), (h_ideal, .inl (cI, 12, .inl f_ideal)), (h_over, .inl (cI, 12, .inl f_over)), (h_runnerName, .inl (cJ, 6, .inr (.inl f_runnerName))), (h_bestAt, .inl (cI, 6, .inl f_bestAt)), (h_bad, .inl (cI, 6, .inl f_bad)), (h_p0_bytes, .inl (cB, 940, .inl f_p0_bytes)), (h_p0_wordNames, .inl (cJ, 23, .inr (.inl f_p0_wordNames))), (p0, .inr (6, vL 12 F_p0_))] H := hP
    have hD : va_D A [(h0, .inr (1, vL 18 Fh)), (h_settings, .inl (cI, 5, .inl f_settings)), (h_manName, .inl (cJ, 12, .inr (.inl f_manName))), (h_push, .inl (cI, 12, .inl f_push)), (h_feet, .inl (cI, 12, .inl f_feet)), (h_weight, .inl (cI, 12, .inl f_weight)), (h_length, .inl (cI, 12, .inl f_length)), (h_drop, .inl (cI, 12, .inl f_drop)), (h_ideal, .inl (cI, 12, .inl f_ideal)), (h_over, .inl (cI, 12, .inl f_over)), (h_runnerName, .inl (cJ, 6, .inr (.inl f_runnerName))), (h_bestAt, .inl (cI, 6, .inl f_bestAt)), (h_bad, .inl (cI, 6, .inl f_bad)), (h_p0_bytes, .inl (cB, 940, .inl f_p0_bytes)), (h_p0_wordNames, .inl (cJ, 23, .inr (.inl f_p0_wordNames))), (p0, .inr (6, vL 12 F_p0_))] := hD
    refine W.widen (k := 0) (n := 0) (Nat.le_of_ble_eq_true rfl) (Nat.le_of_ble_eq_true rfl) ?_
    refine lv_tableOut (tgt := 80) hx hb dX1_readLine_4 (by decide) (by decide) ?_
    refine lv_aload_n hx hb dX1_readLine_80 rfl (lv_at hl 1 rfl) ?_
    refine lv_iconst (v := 1) hx hb dX1_readLine_81 (by decide) ?_
    refine call_Vi (wr := [(h0, .inr (1, vL 18 Fh)), (h_settings, .inl (cI, 5, .inl f_settings)), (h_manName, .inl (cJ, 12, .inr (.inl f_manName))), (h_push, .inl (cI, 12, .inl f_push)), (h_feet, .inl (cI, 12, .inl f_feet)), (h_weight, .inl (cI, 12, .inl f_weight)), (h_length, .inl (cI, 12, .inl f_length)), (h_drop, .inl (cI, 12, .inl f_drop)), (h_ideal, .inl (cI, 12, .inl f_ideal)), (h_over, .inl (cI, 12, .inl f_over)), (h_runnerName, .inl (cJ, 6, .inr (.inl f_runnerName))), (h_bestAt, .inl (cI, 6, .inl f_bestAt)), (h_bad, .inl (cI, 6, .inl f_bad)), (h_p0_bytes, .inl (cB, 940, .inl f_p0_bytes)), (h_p0_wordNames, .inl (cJ, 23, .inr (.inl f_p0_wordNames)))]) (As := [.int 1]) (rest := []) hx hb hml hown hw (m_X6_fail l D cI cJ cB cP cM cZ p0 F_p0_ x_p0_place 1 _ e_p0_place) wV_X1_128_X6_fail dX1_readLine_82 hK hP hD hS hA [15] [0, 1, 2, 3, 4, 5, 6, 7, 8, 9, 10, 11, 12, 13, 14] rfl rfl (by decide) (by decide) (by decide) 0 6 rfl rfl GG.fb hG.1.at hl.1 rfl (Nat.le_of_ble_eq_true rfl) ⟨(Nat.le_of_ble_eq_true rfl), (Nat.le_of_ble_eq_true rfl)⟩ ⟨(Nat.le_of_ble_eq_true rfl), (Nat.le_of_ble_eq_true rfl)⟩ (fun r4 u H locs hp hP hD hS => ?_)
    obtain ⟨F5, t6, t7, t8, rfl, rfl⟩ := hp
    have hP : va_P D vwCl [(h0, .inr (1, vL 18 Fh)), (h_settings, .inl (cI, 5, .inl f_settings)), (h_manName, .inl (cJ, 12, .inr (.inl f_manName))), (h_push, .inl (cI, 12, .inl f_push)), (h_feet, .inl (cI, 12, .inl f_feet)), (h_weight, .inl (cI, 12, .inl f_weight)), (h_length, .inl (cI, 12, .inl f_length)), (h_drop, .inl (cI, 12, .inl f_drop)), (h_ideal, .inl (cI, 12, .inl f_ideal)), (h_over, .inl (cI, 12, .inl f_over)), (h_runnerName, .inl (cJ, 6, .inr (.inl f_runnerName))), (h_bestAt, .inl (cI, 6, .inl f_bestAt)), (h_bad, .inl (cI, 6, .inl f_bad)), (h_p0_bytes, .inl (cB, 940, .inl f_p0_bytes)), (h_p0_wordNames, .inl (cJ, 23, .inr (.inl f_p0_wordNames))), (p0, .inr (6, vL 12 F5))] H := hP
    have hD : va_D A [(h0, .inr (1, vL 18 Fh)), (h_settings, .inl (cI, 5, .inl f_settings)), (h_manName, .inl (cJ, 12, .inr (.inl f_manName))), (h_push, .inl (cI, 12, .inl f_push)), (h_feet, .inl (cI, 12, .inl f_feet)), (h_weight, .inl (cI, 12, .inl f_weight)), (h_length, .inl (cI, 12, .inl f_length)), (h_drop, .inl (cI, 12, .inl f_drop)), (h_ideal, .inl (cI, 12, .inl f_ideal)), (h_over, .inl (cI, 12, .inl f_over)), (h_runnerName, .inl (cJ, 6, .inr (.inl f_runnerName))), (h_bestAt, .inl (cI, 6, .inl f_bestAt)), (h_bad, .inl (cI, 6, .inl f_bad)), (h_p0_bytes, .inl (cB, 940, .inl f_p0_bytes)), (h_p0_wordNames, .inl (cJ, 23, .inr (.inl f_p0_wordNames))), (p0, .inr (6, vL 12 F5))] := hD
    refine W.widen (k := 0) (n := 0) (Nat.le_of_ble_eq_true rfl) (Nat.le_of_ble_eq_true rfl) ?_
    exact ret_i (v := 0) hx hb hr hlocks hS (hP.sub (ws' := [(h0, .inr (1, vL 18 Fh)), (h_settings, .inl (cI, 5, .inl f_settings)), (h_manName, .inl (cJ, 12, .inr (.inl f_manName))), (h_push, .inl (cI, 12, .inl f_push)), (h_feet, .inl (cI, 12, .inl f_feet)), (h_weight, .inl (cI, 12, .inl f_weight)), (h_length, .inl (cI, 12, .inl f_length)), (h_drop, .inl (cI, 12, .inl f_drop)), (h_ideal, .inl (cI, 12, .inl f_ideal)), (h_over, .inl (cI, 12, .inl f_over)), (h_runnerName, .inl (cJ, 6, .inr (.inl f_runnerName))), (h_bestAt, .inl (cI, 6, .inl f_bestAt)), (h_bad, .inl (cI, 6, .inl f_bad)), (p0, .inr (6, vL 12 F5)), (h_p0_bytes, .inl (cB, 940, .inl f_p0_bytes)), (h_p0_wordNames, .inl (cJ, 23, .inr (.inl f_p0_wordNames)))]) [0, 1, 2, 3, 4, 5, 6, 7, 8, 9, 10, 11, 12, 15, 13, 14] rfl) (hD.sub (ws' := [(h0, .inr (1, vL 18 Fh)), (h_settings, .inl (cI, 5, .inl f_settings)), (h_manName, .inl (cJ, 12, .inr (.inl f_manName))), (h_push, .inl (cI, 12, .inl f_push)), (h_feet, .inl (cI, 12, .inl f_feet)), (h_weight, .inl (cI, 12, .inl f_weight)), (h_length, .inl (cI, 12, .inl f_length)), (h_drop, .inl (cI, 12, .inl f_drop)), (h_ideal, .inl (cI, 12, .inl f_ideal)), (h_over, .inl (cI, 12, .inl f_over)), (h_runnerName, .inl (cJ, 6, .inr (.inl f_runnerName))), (h_bestAt, .inl (cI, 6, .inl f_bestAt)), (h_bad, .inl (cI, 6, .inl f_bad)), (p0, .inr (6, vL 12 F5)), (h_p0_bytes, .inl (cB, 940, .inl f_p0_bytes)), (h_p0_wordNames, .inl (cJ, 23, .inr (.inl f_p0_wordNames)))]) [0, 1, 2, 3, 4, 5, 6, 7, 8, 9, 10, 11, 12, 15, 13, 14] (by decide) rfl) dX1_readLine_85 rfl (Nat.le_of_ble_eq_true rfl) (Nat.le_of_ble_eq_true rfl) ⟨Fh, x_men, x_bends, x_runners, x_settingsTold, F5, x_p0_kind, x_p0_place, x_p0_value, x_p0_name, 1, x_p0_place, x_p0_at, f_settings, f_manName, f_push, f_feet, f_weight, f_length, f_drop, f_ideal, f_over, f_runnerName, f_bestAt, f_bad, SAME.rf, e_men, i_x_men, e_bends, i_x_bends, e_runners, i_x_runners, e_settingsTold, (SAME.tr SAME.rf t6 (by decide)), (SAME.at t6 (by decide) e_p0_kind), (SAME.at t6 (by decide) e_p0_place), (SAME.at t6 (by decide) e_p0_value), (SAME.at t6 (by decide) e_p0_name), t7, t8, (SAME.at t6 (by decide) e_p0_at), i_x_p0_at, ⟨by decide, by decide⟩, rfl⟩
  · have hP : va_P D vwCl [(h0, .inr (1, vL 18 Fh)), (h_settings, .inl (cI, 5, .inl f_settings)), (h_manName, .inl (cJ, 12, .inr (.inl f_manName))), (h_push, .inl (cI, 12, .inl f_push)), (h_feet, .inl (cI, 12, .inl f_feet)), (h_weight, .inl (cI, 12, .inl f_weight)), (h_length, .inl (cI, 12, .inl f_length)), (h_drop, .inl (cI, 12, .inl f_drop)), (h_ideal, .inl (cI, 12, .inl f_ideal)), (h_over, .inl (cI, 12, .inl f_over)), (h_runnerName, .inl (cJ, 6, .inr (.inl f_runnerName))), (h_bestAt, .inl (cI, 6, .inl f_bestAt)), (h_bad, .inl (cI, 6, .inl f_bad)), (h_p0_bytes, .inl (cB, 940, .inl f_p0_bytes)), (h_p0_wordNames, .inl (cJ, 23, .inr (.inl f_p0_wordNames))), (p0, .inr (6, vL 12 F_p0_))] H := hP
    have hD : va_D A [(h0, .inr (1, vL 18 Fh)), (h_settings, .inl (cI, 5, .inl f_settings)), (h_manName, .inl (cJ, 12, .inr (.inl f_manName))), (h_push, .inl (cI, 12, .inl f_push)), (h_feet, .inl (cI, 12, .inl f_feet)), (h_weight, .inl (cI, 12, .inl f_weight)), (h_length, .inl (cI, 12, .inl f_length)), (h_drop, .inl (cI, 12, .inl f_drop)), (h_ideal, .inl (cI, 12, .inl f_ideal)), (h_over, .inl (cI, 12, .inl f_over)), (h_runnerName, .inl (cJ, 6, .inr (.inl f_runnerName))), (h_bestAt, .inl (cI, 6, .inl f_bestAt)), (h_bad, .inl (cI, 6, .inl f_bad)), (h_p0_bytes, .inl (cB, 940, .inl f_p0_bytes)), (h_p0_wordNames, .inl (cJ, 23, .inr (.inl f_p0_wordNames))), (p0, .inr (6, vL 12 F_p0_))] := hD
    refine W.widen (k := 0) (n := 0) (Nat.le_of_ble_eq_true rfl) (Nat.le_of_ble_eq_true rfl) ?_
    have k9 : 2 ≤ x_p0_kind.toInt ∧ x_p0_kind.toInt ≤ 2 := ⟨Int.le_trans (Int.le_refl _) (Int.le_of_eq t3.symm), Int.le_trans (Int.le_of_eq t3) (Int.le_refl _)⟩
    by_cases k10 : x_p0_value = 0
    · have dk10 : x_p0_value.toInt = 0 := eq_i rfl rfl k10
      have k11 : 0 ≤ x_p0_value.toInt ∧ x_p0_value.toInt ≤ 0 := ⟨Int.le_trans (Int.le_refl _) (Int.le_of_eq dk10.symm), Int.le_trans (Int.le_of_eq dk10) (Int.le_refl _)⟩
      refine lv_ci (y := 0) k10 ?_
      refine lv_tableIn (tgt := 52) (off := 48) hx hb dX1_readLine_4 (by decide) (by decide) (by decide) (by decide) ?_
      refine lv_aload_n hx hb dX1_readLine_52 rfl (lv_at hl 0 rfl) ?_
      refine lv_aload_n hx hb dX1_readLine_53 rfl (lv_at hl 1 rfl) ?_
      refine lv_aload_n hx hb dX1_readLine_54 rfl (lv_at hl 1 rfl) ?_
      refine call_Vi (wr := [(h0, .inr (1, vL 18 Fh)), (h_settings, .inl (cI, 5, .inl f_settings)), (h_manName, .inl (cJ, 12, .inr (.inl f_manName))), (h_push, .inl (cI, 12, .inl f_push)), (h_feet, .inl (cI, 12, .inl f_feet)), (h_weight, .inl (cI, 12, .inl f_weight)), (h_length, .inl (cI, 12, .inl f_length)), (h_drop, .inl (cI, 12, .inl f_drop)), (h_ideal, .inl (cI, 12, .inl f_ideal)), (h_over, .inl (cI, 12, .inl f_over)), (h_runnerName, .inl (cJ, 6, .inr (.inl f_runnerName))), (h_bestAt, .inl (cI, 6, .inl f_bestAt)), (h_bad, .inl (cI, 6, .inl f_bad)), (h_p0_bytes, .inl (cB, 940, .inl f_p0_bytes)), (h_p0_wordNames, .inl (cJ, 23, .inr (.inl f_p0_wordNames)))]) (As := []) (rest := [.ref p0, .ref h0]) hx hb hml hown hw (m_X6_wordHere l D cI cJ cB cP cM cZ p0 F_p0_ x_p0_kind x_p0_value _ e_p0_kind e_p0_value) wV_X1_111_X6_wordHere dX1_readLine_55 hK hP hD hS hA [15] [0, 1, 2, 3, 4, 5, 6, 7, 8, 9, 10, 11, 12, 13, 14] rfl rfl (by decide) (by decide) (by decide) 0 6 rfl rfl GG.fb hG.1.at hl.1 rfl (Nat.le_of_ble_eq_true rfl) ⟨(Nat.le_of_ble_eq_true rfl), (Nat.le_of_ble_eq_true rfl)⟩ ⟨(Nat.le_of_ble_eq_true rfl), (Nat.le_of_ble_eq_true rfl)⟩ (fun r12 u H locs hp hP hD hS => ?_)
      rcases hp with ⟨t13, rfl, rfl⟩ | ⟨t14, rfl, rfl⟩
      · have hP : va_P D vwCl [(h0, .inr (1, vL 18 Fh)), (h_settings, .inl (cI, 5, .inl f_settings)), (h_manName, .inl (cJ, 12, .inr (.inl f_manName))), (h_push, .inl (cI, 12, .inl f_push)), (h_feet, .inl (cI, 12, .inl f_feet)), (h_weight, .inl (cI, 12, .inl f_weight)), (h_length, .inl (cI, 12, .inl f_length)), (h_drop, .inl (cI, 12, .inl f_drop)), (h_ideal, .inl (cI, 12, .inl f_ideal)), (h_over, .inl (cI, 12, .inl f_over)), (h_runnerName, .inl (cJ, 6, .inr (.inl f_runnerName))), (h_bestAt, .inl (cI, 6, .inl f_bestAt)), (h_bad, .inl (cI, 6, .inl f_bad)), (h_p0_bytes, .inl (cB, 940, .inl f_p0_bytes)), (h_p0_wordNames, .inl (cJ, 23, .inr (.inl f_p0_wordNames))), (p0, .inr (6, vL 12 F_p0_))] H := hP
        have hD : va_D A [(h0, .inr (1, vL 18 Fh)), (h_settings, .inl (cI, 5, .inl f_settings)), (h_manName, .inl (cJ, 12, .inr (.inl f_manName))), (h_push, .inl (cI, 12, .inl f_push)), (h_feet, .inl (cI, 12, .inl f_feet)), (h_weight, .inl (cI, 12, .inl f_weight)), (h_length, .inl (cI, 12, .inl f_length)), (h_drop, .inl (cI, 12, .inl f_drop)), (h_ideal, .inl (cI, 12, .inl f_ideal)), (h_over, .inl (cI, 12, .inl f_over)), (h_runnerName, .inl (cJ, 6, .inr (.inl f_runnerName))), (h_bestAt, .inl (cI, 6, .inl f_bestAt)), (h_bad, .inl (cI, 6, .inl f_bad)), (h_p0_bytes, .inl (cB, 940, .inl f_p0_bytes)), (h_p0_wordNames, .inl (cJ, 23, .inr (.inl f_p0_wordNames))), (p0, .inr (6, vL 12 F_p0_))] := hD
        refine W.widen (k := 0) (n := 0) (Nat.le_of_ble_eq_true rfl) (Nat.le_of_ble_eq_true rfl) ?_
        exact False.elim (bad_ne t13 k9 ⟨Int.le_refl _, Int.le_refl _⟩ (by decide))
      · have hP : va_P D vwCl [(h0, .inr (1, vL 18 Fh)), (h_settings, .inl (cI, 5, .inl f_settings)), (h_manName, .inl (cJ, 12, .inr (.inl f_manName))), (h_push, .inl (cI, 12, .inl f_push)), (h_feet, .inl (cI, 12, .inl f_feet)), (h_weight, .inl (cI, 12, .inl f_weight)), (h_length, .inl (cI, 12, .inl f_length)), (h_drop, .inl (cI, 12, .inl f_drop)), (h_ideal, .inl (cI, 12, .inl f_ideal)), (h_over, .inl (cI, 12, .inl f_over)), (h_runnerName, .inl (cJ, 6, .inr (.inl f_runnerName))), (h_bestAt, .inl (cI, 6, .inl f_bestAt)), (h_bad, .inl (cI, 6, .inl f_bad)), (h_p0_bytes, .inl (cB, 940, .inl f_p0_bytes)), (h_p0_wordNames, .inl (cJ, 23, .inr (.inl f_p0_wordNames))), (p0, .inr (6, vL 12 F_p0_))] H := hP
        have hD : va_D A [(h0, .inr (1, vL 18 Fh)), (h_settings, .inl (cI, 5, .inl f_settings)), (h_manName, .inl (cJ, 12, .inr (.inl f_manName))), (h_push, .inl (cI, 12, .inl f_push)), (h_feet, .inl (cI, 12, .inl f_feet)), (h_weight, .inl (cI, 12, .inl f_weight)), (h_length, .inl (cI, 12, .inl f_length)), (h_drop, .inl (cI, 12, .inl f_drop)), (h_ideal, .inl (cI, 12, .inl f_ideal)), (h_over, .inl (cI, 12, .inl f_over)), (h_runnerName, .inl (cJ, 6, .inr (.inl f_runnerName))), (h_bestAt, .inl (cI, 6, .inl f_bestAt)), (h_bad, .inl (cI, 6, .inl f_bad)), (h_p0_bytes, .inl (cB, 940, .inl f_p0_bytes)), (h_p0_wordNames, .inl (cJ, 23, .inr (.inl f_p0_wordNames))), (p0, .inr (6, vL 12 F_p0_))] := hD
        refine W.widen (k := 0) (n := 0) (Nat.le_of_ble_eq_true rfl) (Nat.le_of_ble_eq_true rfl) ?_
        refine call_Vi (wr := [(h_manName, .inl (cJ, 12, .inr (.inl f_manName))), (h_push, .inl (cI, 12, .inl f_push)), (h_feet, .inl (cI, 12, .inl f_feet)), (h_weight, .inl (cI, 12, .inl f_weight)), (h_length, .inl (cI, 12, .inl f_length)), (h_drop, .inl (cI, 12, .inl f_drop)), (h_ideal, .inl (cI, 12, .inl f_ideal)), (h_over, .inl (cI, 12, .inl f_over)), (h_runnerName, .inl (cJ, 6, .inr (.inl f_runnerName))), (h_bestAt, .inl (cI, 6, .inl f_bestAt)), (h_bad, .inl (cI, 6, .inl f_bad))]) (As := [.ref p0, .int x_p0_value]) (rest := []) hx hb hml hown hw (m_X1_readSetting l D cI cJ cB cP cM cZ z0 tU tL tM h0 h_settings p0 h_p0_bytes h_p0_wordNames Fh x_settingsTold f_settings F_p0_ x_p0_length x_p0_kind x_p0_place x_p0_value x_p0_name x_p0_faultKind x_p0_faultPlace x_p0_at x_p0_mostBytes f_p0_bytes f_p0_wordNames x_p0_value _ e_settings e_settingsTold e_p0_bytes e_p0_length i_x_p0_length e_p0_kind e_p0_place e_p0_value e_p0_name e_p0_faultKind e_p0_faultPlace e_p0_wordNames e_p0_at i_x_p0_at e_p0_mostBytes (ir_wk k11 (by decide) (by decide))) wV_X1_115_X1_readSetting dX1_readLine_58 hK hP hD hS hA [0, 1, 15, 13, 14] [2, 3, 4, 5, 6, 7, 8, 9, 10, 11, 12] rfl rfl (by decide) (by decide) (by decide) 0 1 rfl rfl GY.fb (hG.at hAz hS (hD.sub [0, 1, 15, 13, 14] (by decide) rfl)) hl.1 rfl (Nat.le_of_ble_eq_true rfl) ⟨(Nat.le_of_ble_eq_true rfl), (Nat.le_of_ble_eq_true rfl)⟩ ⟨(Nat.le_of_ble_eq_true rfl), (Nat.le_of_ble_eq_true rfl)⟩ (fun r15 u H locs hp hP hD hS => ?_)
        obtain ⟨F16, y17, F18, y19, y20, y21, y22, y23, y24, y25, g26, t27, t28, t29, t30, t31, t32, t33, t34, t35, t36, t37, t38, rfl⟩ := hp
        have hP : va_P D vwCl [(h_manName, .inl (cJ, 12, .inr (.inl f_manName))), (h_push, .inl (cI, 12, .inl f_push)), (h_feet, .inl (cI, 12, .inl f_feet)), (h_weight, .inl (cI, 12, .inl f_weight)), (h_length, .inl (cI, 12, .inl f_length)), (h_drop, .inl (cI, 12, .inl f_drop)), (h_ideal, .inl (cI, 12, .inl f_ideal)), (h_over, .inl (cI, 12, .inl f_over)), (h_runnerName, .inl (cJ, 6, .inr (.inl f_runnerName))), (h_bestAt, .inl (cI, 6, .inl f_bestAt)), (h_bad, .inl (cI, 6, .inl f_bad)), (h0, .inr (1, vL 18 F16)), (h_settings, .inl (cI, 5, .inl g26)), (p0, .inr (6, vL 12 F18)), (h_p0_bytes, .inl (cB, 940, .inl f_p0_bytes)), (h_p0_wordNames, .inl (cJ, 23, .inr (.inl f_p0_wordNames)))] H := hP
        have hD : va_D A [(h_manName, .inl (cJ, 12, .inr (.inl f_manName))), (h_push, .inl (cI, 12, .inl f_push)), (h_feet, .inl (cI, 12, .inl f_feet)), (h_weight, .inl (cI, 12, .inl f_weight)), (h_length, .inl (cI, 12, .inl f_length)), (h_drop, .inl (cI, 12, .inl f_drop)), (h_ideal, .inl (cI, 12, .inl f_ideal)), (h_over, .inl (cI, 12, .inl f_over)), (h_runnerName, .inl (cJ, 6, .inr (.inl f_runnerName))), (h_bestAt, .inl (cI, 6, .inl f_bestAt)), (h_bad, .inl (cI, 6, .inl f_bad)), (h0, .inr (1, vL 18 F16)), (h_settings, .inl (cI, 5, .inl g26)), (p0, .inr (6, vL 12 F18)), (h_p0_bytes, .inl (cB, 940, .inl f_p0_bytes)), (h_p0_wordNames, .inl (cJ, 23, .inr (.inl f_p0_wordNames)))] := hD
        refine W.widen (k := 0) (n := 0) (Nat.le_of_ble_eq_true rfl) (Nat.le_of_ble_eq_true rfl) ?_
        exact ret_i (v := r15) hx hb hr hlocks hS (hP.sub (ws' := [(h0, .inr (1, vL 18 F16)), (h_settings, .inl (cI, 5, .inl g26)), (h_manName, .inl (cJ, 12, .inr (.inl f_manName))), (h_push, .inl (cI, 12, .inl f_push)), (h_feet, .inl (cI, 12, .inl f_feet)), (h_weight, .inl (cI, 12, .inl f_weight)), (h_length, .inl (cI, 12, .inl f_length)), (h_drop, .inl (cI, 12, .inl f_drop)), (h_ideal, .inl (cI, 12, .inl f_ideal)), (h_over, .inl (cI, 12, .inl f_over)), (h_runnerName, .inl (cJ, 6, .inr (.inl f_runnerName))), (h_bestAt, .inl (cI, 6, .inl f_bestAt)), (h_bad, .inl (cI, 6, .inl f_bad)), (p0, .inr (6, vL 12 F18)), (h_p0_bytes, .inl (cB, 940, .inl f_p0_bytes)), (h_p0_wordNames, .inl (cJ, 23, .inr (.inl f_p0_wordNames)))]) [11, 12, 0, 1, 2, 3, 4, 5, 6, 7, 8, 9, 10, 13, 14, 15] rfl) (hD.sub (ws' := [(h0, .inr (1, vL 18 F16)), (h_settings, .inl (cI, 5, .inl g26)), (h_manName, .inl (cJ, 12, .inr (.inl f_manName))), (h_push, .inl (cI, 12, .inl f_push)), (h_feet, .inl (cI, 12, .inl f_feet)), (h_weight, .inl (cI, 12, .inl f_weight)), (h_length, .inl (cI, 12, .inl f_length)), (h_drop, .inl (cI, 12, .inl f_drop)), (h_ideal, .inl (cI, 12, .inl f_ideal)), (h_over, .inl (cI, 12, .inl f_over)), (h_runnerName, .inl (cJ, 6, .inr (.inl f_runnerName))), (h_bestAt, .inl (cI, 6, .inl f_bestAt)), (h_bad, .inl (cI, 6, .inl f_bad)), (p0, .inr (6, vL 12 F18)), (h_p0_bytes, .inl (cB, 940, .inl f_p0_bytes)), (h_p0_wordNames, .inl (cJ, 23, .inr (.inl f_p0_wordNames)))]) [11, 12, 0, 1, 2, 3, 4, 5, 6, 7, 8, 9, 10, 13, 14, 15] (by decide) rfl) dX1_readLine_61 (nz_i t38.1 t38.2) (Nat.le_of_ble_eq_true rfl) (Nat.le_of_ble_eq_true rfl) ⟨F16, x_men, x_bends, x_runners, y17, F18, y19, y20, y21, y22, y23, y24, y25, g26, f_manName, f_push, f_feet, f_weight, f_length, f_drop, f_ideal, f_over, f_runnerName, f_bestAt, f_bad, (SAME.tr SAME.rf t27 (by decide)), (SAME.at t27 (by decide) e_men), i_x_men, (SAME.at t27 (by decide) e_bends), i_x_bends, (SAME.at t27 (by decide) e_runners), i_x_runners, t28, (SAME.tr SAME.rf t29 (by decide)), t30, t31, t32, t33, t34, t35, t36, t37, t38, rfl⟩
    by_cases k39 : x_p0_value = 1
    · have dk39 : x_p0_value.toInt = 1 := eq_i rfl rfl k39
      have k40 : 1 ≤ x_p0_value.toInt ∧ x_p0_value.toInt ≤ 1 := ⟨Int.le_trans (Int.le_refl _) (Int.le_of_eq dk39.symm), Int.le_trans (Int.le_of_eq dk39) (Int.le_refl _)⟩
      refine lv_ci (y := 1) k39 ?_
      refine lv_tableIn (tgt := 52) (off := 48) hx hb dX1_readLine_4 (by decide) (by decide) (by decide) (by decide) ?_
      refine lv_aload_n hx hb dX1_readLine_52 rfl (lv_at hl 0 rfl) ?_
      refine lv_aload_n hx hb dX1_readLine_53 rfl (lv_at hl 1 rfl) ?_
      refine lv_aload_n hx hb dX1_readLine_54 rfl (lv_at hl 1 rfl) ?_
      refine call_Vi (wr := [(h0, .inr (1, vL 18 Fh)), (h_settings, .inl (cI, 5, .inl f_settings)), (h_manName, .inl (cJ, 12, .inr (.inl f_manName))), (h_push, .inl (cI, 12, .inl f_push)), (h_feet, .inl (cI, 12, .inl f_feet)), (h_weight, .inl (cI, 12, .inl f_weight)), (h_length, .inl (cI, 12, .inl f_length)), (h_drop, .inl (cI, 12, .inl f_drop)), (h_ideal, .inl (cI, 12, .inl f_ideal)), (h_over, .inl (cI, 12, .inl f_over)), (h_runnerName, .inl (cJ, 6, .inr (.inl f_runnerName))), (h_bestAt, .inl (cI, 6, .inl f_bestAt)), (h_bad, .inl (cI, 6, .inl f_bad)), (h_p0_bytes, .inl (cB, 940, .inl f_p0_bytes)), (h_p0_wordNames, .inl (cJ, 23, .inr (.inl f_p0_wordNames)))]) (As := []) (rest := [.ref p0, .ref h0]) hx hb hml hown hw (m_X6_wordHere l D cI cJ cB cP cM cZ p0 F_p0_ x_p0_kind x_p0_value _ e_p0_kind e_p0_value) wV_X1_111_X6_wordHere dX1_readLine_55 hK hP hD hS hA [15] [0, 1, 2, 3, 4, 5, 6, 7, 8, 9, 10, 11, 12, 13, 14] rfl rfl (by decide) (by decide) (by decide) 0 6 rfl rfl GG.fb hG.1.at hl.1 rfl (Nat.le_of_ble_eq_true rfl) ⟨(Nat.le_of_ble_eq_true rfl), (Nat.le_of_ble_eq_true rfl)⟩ ⟨(Nat.le_of_ble_eq_true rfl), (Nat.le_of_ble_eq_true rfl)⟩ (fun r41 u H locs hp hP hD hS => ?_)
      rcases hp with ⟨t42, rfl, rfl⟩ | ⟨t43, rfl, rfl⟩
      · have hP : va_P D vwCl [(h0, .inr (1, vL 18 Fh)), (h_settings, .inl (cI, 5, .inl f_settings)), (h_manName, .inl (cJ, 12, .inr (.inl f_manName))), (h_push, .inl (cI, 12, .inl f_push)), (h_feet, .inl (cI, 12, .inl f_feet)), (h_weight, .inl (cI, 12, .inl f_weight)), (h_length, .inl (cI, 12, .inl f_length)), (h_drop, .inl (cI, 12, .inl f_drop)), (h_ideal, .inl (cI, 12, .inl f_ideal)), (h_over, .inl (cI, 12, .inl f_over)), (h_runnerName, .inl (cJ, 6, .inr (.inl f_runnerName))), (h_bestAt, .inl (cI, 6, .inl f_bestAt)), (h_bad, .inl (cI, 6, .inl f_bad)), (h_p0_bytes, .inl (cB, 940, .inl f_p0_bytes)), (h_p0_wordNames, .inl (cJ, 23, .inr (.inl f_p0_wordNames))), (p0, .inr (6, vL 12 F_p0_))] H := hP
        have hD : va_D A [(h0, .inr (1, vL 18 Fh)), (h_settings, .inl (cI, 5, .inl f_settings)), (h_manName, .inl (cJ, 12, .inr (.inl f_manName))), (h_push, .inl (cI, 12, .inl f_push)), (h_feet, .inl (cI, 12, .inl f_feet)), (h_weight, .inl (cI, 12, .inl f_weight)), (h_length, .inl (cI, 12, .inl f_length)), (h_drop, .inl (cI, 12, .inl f_drop)), (h_ideal, .inl (cI, 12, .inl f_ideal)), (h_over, .inl (cI, 12, .inl f_over)), (h_runnerName, .inl (cJ, 6, .inr (.inl f_runnerName))), (h_bestAt, .inl (cI, 6, .inl f_bestAt)), (h_bad, .inl (cI, 6, .inl f_bad)), (h_p0_bytes, .inl (cB, 940, .inl f_p0_bytes)), (h_p0_wordNames, .inl (cJ, 23, .inr (.inl f_p0_wordNames))), (p0, .inr (6, vL 12 F_p0_))] := hD
        refine W.widen (k := 0) (n := 0) (Nat.le_of_ble_eq_true rfl) (Nat.le_of_ble_eq_true rfl) ?_
        exact False.elim (bad_ne t42 k9 ⟨Int.le_refl _, Int.le_refl _⟩ (by decide))
      · have hP : va_P D vwCl [(h0, .inr (1, vL 18 Fh)), (h_settings, .inl (cI, 5, .inl f_settings)), (h_manName, .inl (cJ, 12, .inr (.inl f_manName))), (h_push, .inl (cI, 12, .inl f_push)), (h_feet, .inl (cI, 12, .inl f_feet)), (h_weight, .inl (cI, 12, .inl f_weight)), (h_length, .inl (cI, 12, .inl f_length)), (h_drop, .inl (cI, 12, .inl f_drop)), (h_ideal, .inl (cI, 12, .inl f_ideal)), (h_over, .inl (cI, 12, .inl f_over)), (h_runnerName, .inl (cJ, 6, .inr (.inl f_runnerName))), (h_bestAt, .inl (cI, 6, .inl f_bestAt)), (h_bad, .inl (cI, 6, .inl f_bad)), (h_p0_bytes, .inl (cB, 940, .inl f_p0_bytes)), (h_p0_wordNames, .inl (cJ, 23, .inr (.inl f_p0_wordNames))), (p0, .inr (6, vL 12 F_p0_))] H := hP
        have hD : va_D A [(h0, .inr (1, vL 18 Fh)), (h_settings, .inl (cI, 5, .inl f_settings)), (h_manName, .inl (cJ, 12, .inr (.inl f_manName))), (h_push, .inl (cI, 12, .inl f_push)), (h_feet, .inl (cI, 12, .inl f_feet)), (h_weight, .inl (cI, 12, .inl f_weight)), (h_length, .inl (cI, 12, .inl f_length)), (h_drop, .inl (cI, 12, .inl f_drop)), (h_ideal, .inl (cI, 12, .inl f_ideal)), (h_over, .inl (cI, 12, .inl f_over)), (h_runnerName, .inl (cJ, 6, .inr (.inl f_runnerName))), (h_bestAt, .inl (cI, 6, .inl f_bestAt)), (h_bad, .inl (cI, 6, .inl f_bad)), (h_p0_bytes, .inl (cB, 940, .inl f_p0_bytes)), (h_p0_wordNames, .inl (cJ, 23, .inr (.inl f_p0_wordNames))), (p0, .inr (6, vL 12 F_p0_))] := hD
        refine W.widen (k := 0) (n := 0) (Nat.le_of_ble_eq_true rfl) (Nat.le_of_ble_eq_true rfl) ?_
        refine call_Vi (wr := [(h_manName, .inl (cJ, 12, .inr (.inl f_manName))), (h_push, .inl (cI, 12, .inl f_push)), (h_feet, .inl (cI, 12, .inl f_feet)), (h_weight, .inl (cI, 12, .inl f_weight)), (h_length, .inl (cI, 12, .inl f_length)), (h_drop, .inl (cI, 12, .inl f_drop)), (h_ideal, .inl (cI, 12, .inl f_ideal)), (h_over, .inl (cI, 12, .inl f_over)), (h_runnerName, .inl (cJ, 6, .inr (.inl f_runnerName))), (h_bestAt, .inl (cI, 6, .inl f_bestAt)), (h_bad, .inl (cI, 6, .inl f_bad))]) (As := [.ref p0, .int x_p0_value]) (rest := []) hx hb hml hown hw (m_X1_readSetting l D cI cJ cB cP cM cZ z0 tU tL tM h0 h_settings p0 h_p0_bytes h_p0_wordNames Fh x_settingsTold f_settings F_p0_ x_p0_length x_p0_kind x_p0_place x_p0_value x_p0_name x_p0_faultKind x_p0_faultPlace x_p0_at x_p0_mostBytes f_p0_bytes f_p0_wordNames x_p0_value _ e_settings e_settingsTold e_p0_bytes e_p0_length i_x_p0_length e_p0_kind e_p0_place e_p0_value e_p0_name e_p0_faultKind e_p0_faultPlace e_p0_wordNames e_p0_at i_x_p0_at e_p0_mostBytes (ir_wk k40 (by decide) (by decide))) wV_X1_115_X1_readSetting dX1_readLine_58 hK hP hD hS hA [0, 1, 15, 13, 14] [2, 3, 4, 5, 6, 7, 8, 9, 10, 11, 12] rfl rfl (by decide) (by decide) (by decide) 0 1 rfl rfl GY.fb (hG.at hAz hS (hD.sub [0, 1, 15, 13, 14] (by decide) rfl)) hl.1 rfl (Nat.le_of_ble_eq_true rfl) ⟨(Nat.le_of_ble_eq_true rfl), (Nat.le_of_ble_eq_true rfl)⟩ ⟨(Nat.le_of_ble_eq_true rfl), (Nat.le_of_ble_eq_true rfl)⟩ (fun r44 u H locs hp hP hD hS => ?_)
        obtain ⟨F45, y46, F47, y48, y49, y50, y51, y52, y53, y54, g55, t56, t57, t58, t59, t60, t61, t62, t63, t64, t65, t66, t67, rfl⟩ := hp
        have hP : va_P D vwCl [(h_manName, .inl (cJ, 12, .inr (.inl f_manName))), (h_push, .inl (cI, 12, .inl f_push)), (h_feet, .inl (cI, 12, .inl f_feet)), (h_weight, .inl (cI, 12, .inl f_weight)), (h_length, .inl (cI, 12, .inl f_length)), (h_drop, .inl (cI, 12, .inl f_drop)), (h_ideal, .inl (cI, 12, .inl f_ideal)), (h_over, .inl (cI, 12, .inl f_over)), (h_runnerName, .inl (cJ, 6, .inr (.inl f_runnerName))), (h_bestAt, .inl (cI, 6, .inl f_bestAt)), (h_bad, .inl (cI, 6, .inl f_bad)), (h0, .inr (1, vL 18 F45)), (h_settings, .inl (cI, 5, .inl g55)), (p0, .inr (6, vL 12 F47)), (h_p0_bytes, .inl (cB, 940, .inl f_p0_bytes)), (h_p0_wordNames, .inl (cJ, 23, .inr (.inl f_p0_wordNames)))] H := hP
        have hD : va_D A [(h_manName, .inl (cJ, 12, .inr (.inl f_manName))), (h_push, .inl (cI, 12, .inl f_push)), (h_feet, .inl (cI, 12, .inl f_feet)), (h_weight, .inl (cI, 12, .inl f_weight)), (h_length, .inl (cI, 12, .inl f_length)), (h_drop, .inl (cI, 12, .inl f_drop)), (h_ideal, .inl (cI, 12, .inl f_ideal)), (h_over, .inl (cI, 12, .inl f_over)), (h_runnerName, .inl (cJ, 6, .inr (.inl f_runnerName))), (h_bestAt, .inl (cI, 6, .inl f_bestAt)), (h_bad, .inl (cI, 6, .inl f_bad)), (h0, .inr (1, vL 18 F45)), (h_settings, .inl (cI, 5, .inl g55)), (p0, .inr (6, vL 12 F47)), (h_p0_bytes, .inl (cB, 940, .inl f_p0_bytes)), (h_p0_wordNames, .inl (cJ, 23, .inr (.inl f_p0_wordNames)))] := hD
        refine W.widen (k := 0) (n := 0) (Nat.le_of_ble_eq_true rfl) (Nat.le_of_ble_eq_true rfl) ?_
        exact ret_i (v := r44) hx hb hr hlocks hS (hP.sub (ws' := [(h0, .inr (1, vL 18 F45)), (h_settings, .inl (cI, 5, .inl g55)), (h_manName, .inl (cJ, 12, .inr (.inl f_manName))), (h_push, .inl (cI, 12, .inl f_push)), (h_feet, .inl (cI, 12, .inl f_feet)), (h_weight, .inl (cI, 12, .inl f_weight)), (h_length, .inl (cI, 12, .inl f_length)), (h_drop, .inl (cI, 12, .inl f_drop)), (h_ideal, .inl (cI, 12, .inl f_ideal)), (h_over, .inl (cI, 12, .inl f_over)), (h_runnerName, .inl (cJ, 6, .inr (.inl f_runnerName))), (h_bestAt, .inl (cI, 6, .inl f_bestAt)), (h_bad, .inl (cI, 6, .inl f_bad)), (p0, .inr (6, vL 12 F47)), (h_p0_bytes, .inl (cB, 940, .inl f_p0_bytes)), (h_p0_wordNames, .inl (cJ, 23, .inr (.inl f_p0_wordNames)))]) [11, 12, 0, 1, 2, 3, 4, 5, 6, 7, 8, 9, 10, 13, 14, 15] rfl) (hD.sub (ws' := [(h0, .inr (1, vL 18 F45)), (h_settings, .inl (cI, 5, .inl g55)), (h_manName, .inl (cJ, 12, .inr (.inl f_manName))), (h_push, .inl (cI, 12, .inl f_push)), (h_feet, .inl (cI, 12, .inl f_feet)), (h_weight, .inl (cI, 12, .inl f_weight)), (h_length, .inl (cI, 12, .inl f_length)), (h_drop, .inl (cI, 12, .inl f_drop)), (h_ideal, .inl (cI, 12, .inl f_ideal)), (h_over, .inl (cI, 12, .inl f_over)), (h_runnerName, .inl (cJ, 6, .inr (.inl f_runnerName))), (h_bestAt, .inl (cI, 6, .inl f_bestAt)), (h_bad, .inl (cI, 6, .inl f_bad)), (p0, .inr (6, vL 12 F47)), (h_p0_bytes, .inl (cB, 940, .inl f_p0_bytes)), (h_p0_wordNames, .inl (cJ, 23, .inr (.inl f_p0_wordNames)))]) [11, 12, 0, 1, 2, 3, 4, 5, 6, 7, 8, 9, 10, 13, 14, 15] (by decide) rfl) dX1_readLine_61 (nz_i t67.1 t67.2) (Nat.le_of_ble_eq_true rfl) (Nat.le_of_ble_eq_true rfl) ⟨F45, x_men, x_bends, x_runners, y46, F47, y48, y49, y50, y51, y52, y53, y54, g55, f_manName, f_push, f_feet, f_weight, f_length, f_drop, f_ideal, f_over, f_runnerName, f_bestAt, f_bad, (SAME.tr SAME.rf t56 (by decide)), (SAME.at t56 (by decide) e_men), i_x_men, (SAME.at t56 (by decide) e_bends), i_x_bends, (SAME.at t56 (by decide) e_runners), i_x_runners, t57, (SAME.tr SAME.rf t58 (by decide)), t59, t60, t61, t62, t63, t64, t65, t66, t67, rfl⟩
    by_cases k68 : x_p0_value = 2
    · have dk68 : x_p0_value.toInt = 2 := eq_i rfl rfl k68
      have k69 : 2 ≤ x_p0_value.toInt ∧ x_p0_value.toInt ≤ 2 := ⟨Int.le_trans (Int.le_refl _) (Int.le_of_eq dk68.symm), Int.le_trans (Int.le_of_eq dk68) (Int.le_refl _)⟩
      refine lv_ci (y := 2) k68 ?_
      refine lv_tableIn (tgt := 52) (off := 48) hx hb dX1_readLine_4 (by decide) (by decide) (by decide) (by decide) ?_
      refine lv_aload_n hx hb dX1_readLine_52 rfl (lv_at hl 0 rfl) ?_
      refine lv_aload_n hx hb dX1_readLine_53 rfl (lv_at hl 1 rfl) ?_
      refine lv_aload_n hx hb dX1_readLine_54 rfl (lv_at hl 1 rfl) ?_
      refine call_Vi (wr := [(h0, .inr (1, vL 18 Fh)), (h_settings, .inl (cI, 5, .inl f_settings)), (h_manName, .inl (cJ, 12, .inr (.inl f_manName))), (h_push, .inl (cI, 12, .inl f_push)), (h_feet, .inl (cI, 12, .inl f_feet)), (h_weight, .inl (cI, 12, .inl f_weight)), (h_length, .inl (cI, 12, .inl f_length)), (h_drop, .inl (cI, 12, .inl f_drop)), (h_ideal, .inl (cI, 12, .inl f_ideal)), (h_over, .inl (cI, 12, .inl f_over)), (h_runnerName, .inl (cJ, 6, .inr (.inl f_runnerName))), (h_bestAt, .inl (cI, 6, .inl f_bestAt)), (h_bad, .inl (cI, 6, .inl f_bad)), (h_p0_bytes, .inl (cB, 940, .inl f_p0_bytes)), (h_p0_wordNames, .inl (cJ, 23, .inr (.inl f_p0_wordNames)))]) (As := []) (rest := [.ref p0, .ref h0]) hx hb hml hown hw (m_X6_wordHere l D cI cJ cB cP cM cZ p0 F_p0_ x_p0_kind x_p0_value _ e_p0_kind e_p0_value) wV_X1_111_X6_wordHere dX1_readLine_55 hK hP hD hS hA [15] [0, 1, 2, 3, 4, 5, 6, 7, 8, 9, 10, 11, 12, 13, 14] rfl rfl (by decide) (by decide) (by decide) 0 6 rfl rfl GG.fb hG.1.at hl.1 rfl (Nat.le_of_ble_eq_true rfl) ⟨(Nat.le_of_ble_eq_true rfl), (Nat.le_of_ble_eq_true rfl)⟩ ⟨(Nat.le_of_ble_eq_true rfl), (Nat.le_of_ble_eq_true rfl)⟩ (fun r70 u H locs hp hP hD hS => ?_)
      rcases hp with ⟨t71, rfl, rfl⟩ | ⟨t72, rfl, rfl⟩
      · have hP : va_P D vwCl [(h0, .inr (1, vL 18 Fh)), (h_settings, .inl (cI, 5, .inl f_settings)), (h_manName, .inl (cJ, 12, .inr (.inl f_manName))), (h_push, .inl (cI, 12, .inl f_push)), (h_feet, .inl (cI, 12, .inl f_feet)), (h_weight, .inl (cI, 12, .inl f_weight)), (h_length, .inl (cI, 12, .inl f_length)), (h_drop, .inl (cI, 12, .inl f_drop)), (h_ideal, .inl (cI, 12, .inl f_ideal)), (h_over, .inl (cI, 12, .inl f_over)), (h_runnerName, .inl (cJ, 6, .inr (.inl f_runnerName))), (h_bestAt, .inl (cI, 6, .inl f_bestAt)), (h_bad, .inl (cI, 6, .inl f_bad)), (h_p0_bytes, .inl (cB, 940, .inl f_p0_bytes)), (h_p0_wordNames, .inl (cJ, 23, .inr (.inl f_p0_wordNames))), (p0, .inr (6, vL 12 F_p0_))] H := hP
        have hD : va_D A [(h0, .inr (1, vL 18 Fh)), (h_settings, .inl (cI, 5, .inl f_settings)), (h_manName, .inl (cJ, 12, .inr (.inl f_manName))), (h_push, .inl (cI, 12, .inl f_push)), (h_feet, .inl (cI, 12, .inl f_feet)), (h_weight, .inl (cI, 12, .inl f_weight)), (h_length, .inl (cI, 12, .inl f_length)), (h_drop, .inl (cI, 12, .inl f_drop)), (h_ideal, .inl (cI, 12, .inl f_ideal)), (h_over, .inl (cI, 12, .inl f_over)), (h_runnerName, .inl (cJ, 6, .inr (.inl f_runnerName))), (h_bestAt, .inl (cI, 6, .inl f_bestAt)), (h_bad, .inl (cI, 6, .inl f_bad)), (h_p0_bytes, .inl (cB, 940, .inl f_p0_bytes)), (h_p0_wordNames, .inl (cJ, 23, .inr (.inl f_p0_wordNames))), (p0, .inr (6, vL 12 F_p0_))] := hD
        refine W.widen (k := 0) (n := 0) (Nat.le_of_ble_eq_true rfl) (Nat.le_of_ble_eq_true rfl) ?_
        exact False.elim (bad_ne t71 k9 ⟨Int.le_refl _, Int.le_refl _⟩ (by decide))
      · have hP : va_P D vwCl [(h0, .inr (1, vL 18 Fh)), (h_settings, .inl (cI, 5, .inl f_settings)), (h_manName, .inl (cJ, 12, .inr (.inl f_manName))), (h_push, .inl (cI, 12, .inl f_push)), (h_feet, .inl (cI, 12, .inl f_feet)), (h_weight, .inl (cI, 12, .inl f_weight)), (h_length, .inl (cI, 12, .inl f_length)), (h_drop, .inl (cI, 12, .inl f_drop)), (h_ideal, .inl (cI, 12, .inl f_ideal)), (h_over, .inl (cI, 12, .inl f_over)), (h_runnerName, .inl (cJ, 6, .inr (.inl f_runnerName))), (h_bestAt, .inl (cI, 6, .inl f_bestAt)), (h_bad, .inl (cI, 6, .inl f_bad)), (h_p0_bytes, .inl (cB, 940, .inl f_p0_bytes)), (h_p0_wordNames, .inl (cJ, 23, .inr (.inl f_p0_wordNames))), (p0, .inr (6, vL 12 F_p0_))] H := hP
        have hD : va_D A [(h0, .inr (1, vL 18 Fh)), (h_settings, .inl (cI, 5, .inl f_settings)), (h_manName, .inl (cJ, 12, .inr (.inl f_manName))), (h_push, .inl (cI, 12, .inl f_push)), (h_feet, .inl (cI, 12, .inl f_feet)), (h_weight, .inl (cI, 12, .inl f_weight)), (h_length, .inl (cI, 12, .inl f_length)), (h_drop, .inl (cI, 12, .inl f_drop)), (h_ideal, .inl (cI, 12, .inl f_ideal)), (h_over, .inl (cI, 12, .inl f_over)), (h_runnerName, .inl (cJ, 6, .inr (.inl f_runnerName))), (h_bestAt, .inl (cI, 6, .inl f_bestAt)), (h_bad, .inl (cI, 6, .inl f_bad)), (h_p0_bytes, .inl (cB, 940, .inl f_p0_bytes)), (h_p0_wordNames, .inl (cJ, 23, .inr (.inl f_p0_wordNames))), (p0, .inr (6, vL 12 F_p0_))] := hD
        refine W.widen (k := 0) (n := 0) (Nat.le_of_ble_eq_true rfl) (Nat.le_of_ble_eq_true rfl) ?_
        refine call_Vi (wr := [(h_manName, .inl (cJ, 12, .inr (.inl f_manName))), (h_push, .inl (cI, 12, .inl f_push)), (h_feet, .inl (cI, 12, .inl f_feet)), (h_weight, .inl (cI, 12, .inl f_weight)), (h_length, .inl (cI, 12, .inl f_length)), (h_drop, .inl (cI, 12, .inl f_drop)), (h_ideal, .inl (cI, 12, .inl f_ideal)), (h_over, .inl (cI, 12, .inl f_over)), (h_runnerName, .inl (cJ, 6, .inr (.inl f_runnerName))), (h_bestAt, .inl (cI, 6, .inl f_bestAt)), (h_bad, .inl (cI, 6, .inl f_bad))]) (As := [.ref p0, .int x_p0_value]) (rest := []) hx hb hml hown hw (m_X1_readSetting l D cI cJ cB cP cM cZ z0 tU tL tM h0 h_settings p0 h_p0_bytes h_p0_wordNames Fh x_settingsTold f_settings F_p0_ x_p0_length x_p0_kind x_p0_place x_p0_value x_p0_name x_p0_faultKind x_p0_faultPlace x_p0_at x_p0_mostBytes f_p0_bytes f_p0_wordNames x_p0_value _ e_settings e_settingsTold e_p0_bytes e_p0_length i_x_p0_length e_p0_kind e_p0_place e_p0_value e_p0_name e_p0_faultKind e_p0_faultPlace e_p0_wordNames e_p0_at i_x_p0_at e_p0_mostBytes (ir_wk k69 (by decide) (by decide))) wV_X1_115_X1_readSetting dX1_readLine_58 hK hP hD hS hA [0, 1, 15, 13, 14] [2, 3, 4, 5, 6, 7, 8, 9, 10, 11, 12] rfl rfl (by decide) (by decide) (by decide) 0 1 rfl rfl GY.fb (hG.at hAz hS (hD.sub [0, 1, 15, 13, 14] (by decide) rfl)) hl.1 rfl (Nat.le_of_ble_eq_true rfl) ⟨(Nat.le_of_ble_eq_true rfl), (Nat.le_of_ble_eq_true rfl)⟩ ⟨(Nat.le_of_ble_eq_true rfl), (Nat.le_of_ble_eq_true rfl)⟩ (fun r73 u H locs hp hP hD hS => ?_)
        obtain ⟨F74, y75, F76, y77, y78, y79, y80, y81, y82, y83, g84, t85, t86, t87, t88, t89, t90, t91, t92, t93, t94, t95, t96, rfl⟩ := hp
        have hP : va_P D vwCl [(h_manName, .inl (cJ, 12, .inr (.inl f_manName))), (h_push, .inl (cI, 12, .inl f_push)), (h_feet, .inl (cI, 12, .inl f_feet)), (h_weight, .inl (cI, 12, .inl f_weight)), (h_length, .inl (cI, 12, .inl f_length)), (h_drop, .inl (cI, 12, .inl f_drop)), (h_ideal, .inl (cI, 12, .inl f_ideal)), (h_over, .inl (cI, 12, .inl f_over)), (h_runnerName, .inl (cJ, 6, .inr (.inl f_runnerName))), (h_bestAt, .inl (cI, 6, .inl f_bestAt)), (h_bad, .inl (cI, 6, .inl f_bad)), (h0, .inr (1, vL 18 F74)), (h_settings, .inl (cI, 5, .inl g84)), (p0, .inr (6, vL 12 F76)), (h_p0_bytes, .inl (cB, 940, .inl f_p0_bytes)), (h_p0_wordNames, .inl (cJ, 23, .inr (.inl f_p0_wordNames)))] H := hP
        have hD : va_D A [(h_manName, .inl (cJ, 12, .inr (.inl f_manName))), (h_push, .inl (cI, 12, .inl f_push)), (h_feet, .inl (cI, 12, .inl f_feet)), (h_weight, .inl (cI, 12, .inl f_weight)), (h_length, .inl (cI, 12, .inl f_length)), (h_drop, .inl (cI, 12, .inl f_drop)), (h_ideal, .inl (cI, 12, .inl f_ideal)), (h_over, .inl (cI, 12, .inl f_over)), (h_runnerName, .inl (cJ, 6, .inr (.inl f_runnerName))), (h_bestAt, .inl (cI, 6, .inl f_bestAt)), (h_bad, .inl (cI, 6, .inl f_bad)), (h0, .inr (1, vL 18 F74)), (h_settings, .inl (cI, 5, .inl g84)), (p0, .inr (6, vL 12 F76)), (h_p0_bytes, .inl (cB, 940, .inl f_p0_bytes)), (h_p0_wordNames, .inl (cJ, 23, .inr (.inl f_p0_wordNames)))] := hD
        refine W.widen (k := 0) (n := 0) (Nat.le_of_ble_eq_true rfl) (Nat.le_of_ble_eq_true rfl) ?_
        exact ret_i (v := r73) hx hb hr hlocks hS (hP.sub (ws' := [(h0, .inr (1, vL 18 F74)), (h_settings, .inl (cI, 5, .inl g84)), (h_manName, .inl (cJ, 12, .inr (.inl f_manName))), (h_push, .inl (cI, 12, .inl f_push)), (h_feet, .inl (cI, 12, .inl f_feet)), (h_weight, .inl (cI, 12, .inl f_weight)), (h_length, .inl (cI, 12, .inl f_length)), (h_drop, .inl (cI, 12, .inl f_drop)), (h_ideal, .inl (cI, 12, .inl f_ideal)), (h_over, .inl (cI, 12, .inl f_over)), (h_runnerName, .inl (cJ, 6, .inr (.inl f_runnerName))), (h_bestAt, .inl (cI, 6, .inl f_bestAt)), (h_bad, .inl (cI, 6, .inl f_bad)), (p0, .inr (6, vL 12 F76)), (h_p0_bytes, .inl (cB, 940, .inl f_p0_bytes)), (h_p0_wordNames, .inl (cJ, 23, .inr (.inl f_p0_wordNames)))]) [11, 12, 0, 1, 2, 3, 4, 5, 6, 7, 8, 9, 10, 13, 14, 15] rfl) (hD.sub (ws' := [(h0, .inr (1, vL 18 F74)), (h_settings, .inl (cI, 5, .inl g84)), (h_manName, .inl (cJ, 12, .inr (.inl f_manName))), (h_push, .inl (cI, 12, .inl f_push)), (h_feet, .inl (cI, 12, .inl f_feet)), (h_weight, .inl (cI, 12, .inl f_weight)), (h_length, .inl (cI, 12, .inl f_length)), (h_drop, .inl (cI, 12, .inl f_drop)), (h_ideal, .inl (cI, 12, .inl f_ideal)), (h_over, .inl (cI, 12, .inl f_over)), (h_runnerName, .inl (cJ, 6, .inr (.inl f_runnerName))), (h_bestAt, .inl (cI, 6, .inl f_bestAt)), (h_bad, .inl (cI, 6, .inl f_bad)), (p0, .inr (6, vL 12 F76)), (h_p0_bytes, .inl (cB, 940, .inl f_p0_bytes)), (h_p0_wordNames, .inl (cJ, 23, .inr (.inl f_p0_wordNames)))]) [11, 12, 0, 1, 2, 3, 4, 5, 6, 7, 8, 9, 10, 13, 14, 15] (by decide) rfl) dX1_readLine_61 (nz_i t96.1 t96.2) (Nat.le_of_ble_eq_true rfl) (Nat.le_of_ble_eq_true rfl) ⟨F74, x_men, x_bends, x_runners, y75, F76, y77, y78, y79, y80, y81, y82, y83, g84, f_manName, f_push, f_feet, f_weight, f_length, f_drop, f_ideal, f_over, f_runnerName, f_bestAt, f_bad, (SAME.tr SAME.rf t85 (by decide)), (SAME.at t85 (by decide) e_men), i_x_men, (SAME.at t85 (by decide) e_bends), i_x_bends, (SAME.at t85 (by decide) e_runners), i_x_runners, t86, (SAME.tr SAME.rf t87 (by decide)), t88, t89, t90, t91, t92, t93, t94, t95, t96, rfl⟩
    by_cases k97 : x_p0_value = 3
    · have dk97 : x_p0_value.toInt = 3 := eq_i rfl rfl k97
      have k98 : 3 ≤ x_p0_value.toInt ∧ x_p0_value.toInt ≤ 3 := ⟨Int.le_trans (Int.le_refl _) (Int.le_of_eq dk97.symm), Int.le_trans (Int.le_of_eq dk97) (Int.le_refl _)⟩
      refine lv_ci (y := 3) k97 ?_
      refine lv_tableIn (tgt := 52) (off := 48) hx hb dX1_readLine_4 (by decide) (by decide) (by decide) (by decide) ?_
      refine lv_aload_n hx hb dX1_readLine_52 rfl (lv_at hl 0 rfl) ?_
      refine lv_aload_n hx hb dX1_readLine_53 rfl (lv_at hl 1 rfl) ?_
      refine lv_aload_n hx hb dX1_readLine_54 rfl (lv_at hl 1 rfl) ?_
      refine call_Vi (wr := [(h0, .inr (1, vL 18 Fh)), (h_settings, .inl (cI, 5, .inl f_settings)), (h_manName, .inl (cJ, 12, .inr (.inl f_manName))), (h_push, .inl (cI, 12, .inl f_push)), (h_feet, .inl (cI, 12, .inl f_feet)), (h_weight, .inl (cI, 12, .inl f_weight)), (h_length, .inl (cI, 12, .inl f_length)), (h_drop, .inl (cI, 12, .inl f_drop)), (h_ideal, .inl (cI, 12, .inl f_ideal)), (h_over, .inl (cI, 12, .inl f_over)), (h_runnerName, .inl (cJ, 6, .inr (.inl f_runnerName))), (h_bestAt, .inl (cI, 6, .inl f_bestAt)), (h_bad, .inl (cI, 6, .inl f_bad)), (h_p0_bytes, .inl (cB, 940, .inl f_p0_bytes)), (h_p0_wordNames, .inl (cJ, 23, .inr (.inl f_p0_wordNames)))]) (As := []) (rest := [.ref p0, .ref h0]) hx hb hml hown hw (m_X6_wordHere l D cI cJ cB cP cM cZ p0 F_p0_ x_p0_kind x_p0_value _ e_p0_kind e_p0_value) wV_X1_111_X6_wordHere dX1_readLine_55 hK hP hD hS hA [15] [0, 1, 2, 3, 4, 5, 6, 7, 8, 9, 10, 11, 12, 13, 14] rfl rfl (by decide) (by decide) (by decide) 0 6 rfl rfl GG.fb hG.1.at hl.1 rfl (Nat.le_of_ble_eq_true rfl) ⟨(Nat.le_of_ble_eq_true rfl), (Nat.le_of_ble_eq_true rfl)⟩ ⟨(Nat.le_of_ble_eq_true rfl), (Nat.le_of_ble_eq_true rfl)⟩ (fun r99 u H locs hp hP hD hS => ?_)
      rcases hp with ⟨t100, rfl, rfl⟩ | ⟨t101, rfl, rfl⟩
      · have hP : va_P D vwCl [(h0, .inr (1, vL 18 Fh)), (h_settings, .inl (cI, 5, .inl f_settings)), (h_manName, .inl (cJ, 12, .inr (.inl f_manName))), (h_push, .inl (cI, 12, .inl f_push)), (h_feet, .inl (cI, 12, .inl f_feet)), (h_weight, .inl (cI, 12, .inl f_weight)), (h_length, .inl (cI, 12, .inl f_length)), (h_drop, .inl (cI, 12, .inl f_drop)), (h_ideal, .inl (cI, 12, .inl f_ideal)), (h_over, .inl (cI, 12, .inl f_over)), (h_runnerName, .inl (cJ, 6, .inr (.inl f_runnerName))), (h_bestAt, .inl (cI, 6, .inl f_bestAt)), (h_bad, .inl (cI, 6, .inl f_bad)), (h_p0_bytes, .inl (cB, 940, .inl f_p0_bytes)), (h_p0_wordNames, .inl (cJ, 23, .inr (.inl f_p0_wordNames))), (p0, .inr (6, vL 12 F_p0_))] H := hP
        have hD : va_D A [(h0, .inr (1, vL 18 Fh)), (h_settings, .inl (cI, 5, .inl f_settings)), (h_manName, .inl (cJ, 12, .inr (.inl f_manName))), (h_push, .inl (cI, 12, .inl f_push)), (h_feet, .inl (cI, 12, .inl f_feet)), (h_weight, .inl (cI, 12, .inl f_weight)), (h_length, .inl (cI, 12, .inl f_length)), (h_drop, .inl (cI, 12, .inl f_drop)), (h_ideal, .inl (cI, 12, .inl f_ideal)), (h_over, .inl (cI, 12, .inl f_over)), (h_runnerName, .inl (cJ, 6, .inr (.inl f_runnerName))), (h_bestAt, .inl (cI, 6, .inl f_bestAt)), (h_bad, .inl (cI, 6, .inl f_bad)), (h_p0_bytes, .inl (cB, 940, .inl f_p0_bytes)), (h_p0_wordNames, .inl (cJ, 23, .inr (.inl f_p0_wordNames))), (p0, .inr (6, vL 12 F_p0_))] := hD
        refine W.widen (k := 0) (n := 0) (Nat.le_of_ble_eq_true rfl) (Nat.le_of_ble_eq_true rfl) ?_
        exact False.elim (bad_ne t100 k9 ⟨Int.le_refl _, Int.le_refl _⟩ (by decide))
      · have hP : va_P D vwCl [(h0, .inr (1, vL 18 Fh)), (h_settings, .inl (cI, 5, .inl f_settings)), (h_manName, .inl (cJ, 12, .inr (.inl f_manName))), (h_push, .inl (cI, 12, .inl f_push)), (h_feet, .inl (cI, 12, .inl f_feet)), (h_weight, .inl (cI, 12, .inl f_weight)), (h_length, .inl (cI, 12, .inl f_length)), (h_drop, .inl (cI, 12, .inl f_drop)), (h_ideal, .inl (cI, 12, .inl f_ideal)), (h_over, .inl (cI, 12, .inl f_over)), (h_runnerName, .inl (cJ, 6, .inr (.inl f_runnerName))), (h_bestAt, .inl (cI, 6, .inl f_bestAt)), (h_bad, .inl (cI, 6, .inl f_bad)), (h_p0_bytes, .inl (cB, 940, .inl f_p0_bytes)), (h_p0_wordNames, .inl (cJ, 23, .inr (.inl f_p0_wordNames))), (p0, .inr (6, vL 12 F_p0_))] H := hP
        have hD : va_D A [(h0, .inr (1, vL 18 Fh)), (h_settings, .inl (cI, 5, .inl f_settings)), (h_manName, .inl (cJ, 12, .inr (.inl f_manName))), (h_push, .inl (cI, 12, .inl f_push)), (h_feet, .inl (cI, 12, .inl f_feet)), (h_weight, .inl (cI, 12, .inl f_weight)), (h_length, .inl (cI, 12, .inl f_length)), (h_drop, .inl (cI, 12, .inl f_drop)), (h_ideal, .inl (cI, 12, .inl f_ideal)), (h_over, .inl (cI, 12, .inl f_over)), (h_runnerName, .inl (cJ, 6, .inr (.inl f_runnerName))), (h_bestAt, .inl (cI, 6, .inl f_bestAt)), (h_bad, .inl (cI, 6, .inl f_bad)), (h_p0_bytes, .inl (cB, 940, .inl f_p0_bytes)), (h_p0_wordNames, .inl (cJ, 23, .inr (.inl f_p0_wordNames))), (p0, .inr (6, vL 12 F_p0_))] := hD
        refine W.widen (k := 0) (n := 0) (Nat.le_of_ble_eq_true rfl) (Nat.le_of_ble_eq_true rfl) ?_
        refine call_Vi (wr := [(h_manName, .inl (cJ, 12, .inr (.inl f_manName))), (h_push, .inl (cI, 12, .inl f_push)), (h_feet, .inl (cI, 12, .inl f_feet)), (h_weight, .inl (cI, 12, .inl f_weight)), (h_length, .inl (cI, 12, .inl f_length)), (h_drop, .inl (cI, 12, .inl f_drop)), (h_ideal, .inl (cI, 12, .inl f_ideal)), (h_over, .inl (cI, 12, .inl f_over)), (h_runnerName, .inl (cJ, 6, .inr (.inl f_runnerName))), (h_bestAt, .inl (cI, 6, .inl f_bestAt)), (h_bad, .inl (cI, 6, .inl f_bad))]) (As := [.ref p0, .int x_p0_value]) (rest := []) hx hb hml hown hw (m_X1_readSetting l D cI cJ cB cP cM cZ z0 tU tL tM h0 h_settings p0 h_p0_bytes h_p0_wordNames Fh x_settingsTold f_settings F_p0_ x_p0_length x_p0_kind x_p0_place x_p0_value x_p0_name x_p0_faultKind x_p0_faultPlace x_p0_at x_p0_mostBytes f_p0_bytes f_p0_wordNames x_p0_value _ e_settings e_settingsTold e_p0_bytes e_p0_length i_x_p0_length e_p0_kind e_p0_place e_p0_value e_p0_name e_p0_faultKind e_p0_faultPlace e_p0_wordNames e_p0_at i_x_p0_at e_p0_mostBytes (ir_wk k98 (by decide) (by decide))) wV_X1_115_X1_readSetting dX1_readLine_58 hK hP hD hS hA [0, 1, 15, 13, 14] [2, 3, 4, 5, 6, 7, 8, 9, 10, 11, 12] rfl rfl (by decide) (by decide) (by decide) 0 1 rfl rfl GY.fb (hG.at hAz hS (hD.sub [0, 1, 15, 13, 14] (by decide) rfl)) hl.1 rfl (Nat.le_of_ble_eq_true rfl) ⟨(Nat.le_of_ble_eq_true rfl), (Nat.le_of_ble_eq_true rfl)⟩ ⟨(Nat.le_of_ble_eq_true rfl), (Nat.le_of_ble_eq_true rfl)⟩ (fun r102 u H locs hp hP hD hS => ?_)
        obtain ⟨F103, y104, F105, y106, y107, y108, y109, y110, y111, y112, g113, t114, t115, t116, t117, t118, t119, t120, t121, t122, t123, t124, t125, rfl⟩ := hp
        have hP : va_P D vwCl [(h_manName, .inl (cJ, 12, .inr (.inl f_manName))), (h_push, .inl (cI, 12, .inl f_push)), (h_feet, .inl (cI, 12, .inl f_feet)), (h_weight, .inl (cI, 12, .inl f_weight)), (h_length, .inl (cI, 12, .inl f_length)), (h_drop, .inl (cI, 12, .inl f_drop)), (h_ideal, .inl (cI, 12, .inl f_ideal)), (h_over, .inl (cI, 12, .inl f_over)), (h_runnerName, .inl (cJ, 6, .inr (.inl f_runnerName))), (h_bestAt, .inl (cI, 6, .inl f_bestAt)), (h_bad, .inl (cI, 6, .inl f_bad)), (h0, .inr (1, vL 18 F103)), (h_settings, .inl (cI, 5, .inl g113)), (p0, .inr (6, vL 12 F105)), (h_p0_bytes, .inl (cB, 940, .inl f_p0_bytes)), (h_p0_wordNames, .inl (cJ, 23, .inr (.inl f_p0_wordNames)))] H := hP
        have hD : va_D A [(h_manName, .inl (cJ, 12, .inr (.inl f_manName))), (h_push, .inl (cI, 12, .inl f_push)), (h_feet, .inl (cI, 12, .inl f_feet)), (h_weight, .inl (cI, 12, .inl f_weight)), (h_length, .inl (cI, 12, .inl f_length)), (h_drop, .inl (cI, 12, .inl f_drop)), (h_ideal, .inl (cI, 12, .inl f_ideal)), (h_over, .inl (cI, 12, .inl f_over)), (h_runnerName, .inl (cJ, 6, .inr (.inl f_runnerName))), (h_bestAt, .inl (cI, 6, .inl f_bestAt)), (h_bad, .inl (cI, 6, .inl f_bad)), (h0, .inr (1, vL 18 F103)), (h_settings, .inl (cI, 5, .inl g113)), (p0, .inr (6, vL 12 F105)), (h_p0_bytes, .inl (cB, 940, .inl f_p0_bytes)), (h_p0_wordNames, .inl (cJ, 23, .inr (.inl f_p0_wordNames)))] := hD
        refine W.widen (k := 0) (n := 0) (Nat.le_of_ble_eq_true rfl) (Nat.le_of_ble_eq_true rfl) ?_
        exact ret_i (v := r102) hx hb hr hlocks hS (hP.sub (ws' := [(h0, .inr (1, vL 18 F103)), (h_settings, .inl (cI, 5, .inl g113)), (h_manName, .inl (cJ, 12, .inr (.inl f_manName))), (h_push, .inl (cI, 12, .inl f_push)), (h_feet, .inl (cI, 12, .inl f_feet)), (h_weight, .inl (cI, 12, .inl f_weight)), (h_length, .inl (cI, 12, .inl f_length)), (h_drop, .inl (cI, 12, .inl f_drop)), (h_ideal, .inl (cI, 12, .inl f_ideal)), (h_over, .inl (cI, 12, .inl f_over)), (h_runnerName, .inl (cJ, 6, .inr (.inl f_runnerName))), (h_bestAt, .inl (cI, 6, .inl f_bestAt)), (h_bad, .inl (cI, 6, .inl f_bad)), (p0, .inr (6, vL 12 F105)), (h_p0_bytes, .inl (cB, 940, .inl f_p0_bytes)), (h_p0_wordNames, .inl (cJ, 23, .inr (.inl f_p0_wordNames)))]) [11, 12, 0, 1, 2, 3, 4, 5, 6, 7, 8, 9, 10, 13, 14, 15] rfl) (hD.sub (ws' := [(h0, .inr (1, vL 18 F103)), (h_settings, .inl (cI, 5, .inl g113)), (h_manName, .inl (cJ, 12, .inr (.inl f_manName))), (h_push, .inl (cI, 12, .inl f_push)), (h_feet, .inl (cI, 12, .inl f_feet)), (h_weight, .inl (cI, 12, .inl f_weight)), (h_length, .inl (cI, 12, .inl f_length)), (h_drop, .inl (cI, 12, .inl f_drop)), (h_ideal, .inl (cI, 12, .inl f_ideal)), (h_over, .inl (cI, 12, .inl f_over)), (h_runnerName, .inl (cJ, 6, .inr (.inl f_runnerName))), (h_bestAt, .inl (cI, 6, .inl f_bestAt)), (h_bad, .inl (cI, 6, .inl f_bad)), (p0, .inr (6, vL 12 F105)), (h_p0_bytes, .inl (cB, 940, .inl f_p0_bytes)), (h_p0_wordNames, .inl (cJ, 23, .inr (.inl f_p0_wordNames)))]) [11, 12, 0, 1, 2, 3, 4, 5, 6, 7, 8, 9, 10, 13, 14, 15] (by decide) rfl) dX1_readLine_61 (nz_i t125.1 t125.2) (Nat.le_of_ble_eq_true rfl) (Nat.le_of_ble_eq_true rfl) ⟨F103, x_men, x_bends, x_runners, y104, F105, y106, y107, y108, y109, y110, y111, y112, g113, f_manName, f_push, f_feet, f_weight, f_length, f_drop, f_ideal, f_over, f_runnerName, f_bestAt, f_bad, (SAME.tr SAME.rf t114 (by decide)), (SAME.at t114 (by decide) e_men), i_x_men, (SAME.at t114 (by decide) e_bends), i_x_bends, (SAME.at t114 (by decide) e_runners), i_x_runners, t115, (SAME.tr SAME.rf t116 (by decide)), t117, t118, t119, t120, t121, t122, t123, t124, t125, rfl⟩
    by_cases k126 : x_p0_value = 4
    · have dk126 : x_p0_value.toInt = 4 := eq_i rfl rfl k126
      have k127 : 4 ≤ x_p0_value.toInt ∧ x_p0_value.toInt ≤ 4 := ⟨Int.le_trans (Int.le_refl _) (Int.le_of_eq dk126.symm), Int.le_trans (Int.le_of_eq dk126) (Int.le_refl _)⟩
      refine lv_ci (y := 4) k126 ?_
      refine lv_tableIn (tgt := 52) (off := 48) hx hb dX1_readLine_4 (by decide) (by decide) (by decide) (by decide) ?_
      refine lv_aload_n hx hb dX1_readLine_52 rfl (lv_at hl 0 rfl) ?_
      refine lv_aload_n hx hb dX1_readLine_53 rfl (lv_at hl 1 rfl) ?_
      refine lv_aload_n hx hb dX1_readLine_54 rfl (lv_at hl 1 rfl) ?_
      refine call_Vi (wr := [(h0, .inr (1, vL 18 Fh)), (h_settings, .inl (cI, 5, .inl f_settings)), (h_manName, .inl (cJ, 12, .inr (.inl f_manName))), (h_push, .inl (cI, 12, .inl f_push)), (h_feet, .inl (cI, 12, .inl f_feet)), (h_weight, .inl (cI, 12, .inl f_weight)), (h_length, .inl (cI, 12, .inl f_length)), (h_drop, .inl (cI, 12, .inl f_drop)), (h_ideal, .inl (cI, 12, .inl f_ideal)), (h_over, .inl (cI, 12, .inl f_over)), (h_runnerName, .inl (cJ, 6, .inr (.inl f_runnerName))), (h_bestAt, .inl (cI, 6, .inl f_bestAt)), (h_bad, .inl (cI, 6, .inl f_bad)), (h_p0_bytes, .inl (cB, 940, .inl f_p0_bytes)), (h_p0_wordNames, .inl (cJ, 23, .inr (.inl f_p0_wordNames)))]) (As := []) (rest := [.ref p0, .ref h0]) hx hb hml hown hw (m_X6_wordHere l D cI cJ cB cP cM cZ p0 F_p0_ x_p0_kind x_p0_value _ e_p0_kind e_p0_value) wV_X1_111_X6_wordHere dX1_readLine_55 hK hP hD hS hA [15] [0, 1, 2, 3, 4, 5, 6, 7, 8, 9, 10, 11, 12, 13, 14] rfl rfl (by decide) (by decide) (by decide) 0 6 rfl rfl GG.fb hG.1.at hl.1 rfl (Nat.le_of_ble_eq_true rfl) ⟨(Nat.le_of_ble_eq_true rfl), (Nat.le_of_ble_eq_true rfl)⟩ ⟨(Nat.le_of_ble_eq_true rfl), (Nat.le_of_ble_eq_true rfl)⟩ (fun r128 u H locs hp hP hD hS => ?_)
      rcases hp with ⟨t129, rfl, rfl⟩ | ⟨t130, rfl, rfl⟩
      · have hP : va_P D vwCl [(h0, .inr (1, vL 18 Fh)), (h_settings, .inl (cI, 5, .inl f_settings)), (h_manName, .inl (cJ, 12, .inr (.inl f_manName))), (h_push, .inl (cI, 12, .inl f_push)), (h_feet, .inl (cI, 12, .inl f_feet)), (h_weight, .inl (cI, 12, .inl f_weight)), (h_length, .inl (cI, 12, .inl f_length)), (h_drop, .inl (cI, 12, .inl f_drop)), (h_ideal, .inl (cI, 12, .inl f_ideal)), (h_over, .inl (cI, 12, .inl f_over)), (h_runnerName, .inl (cJ, 6, .inr (.inl f_runnerName))), (h_bestAt, .inl (cI, 6, .inl f_bestAt)), (h_bad, .inl (cI, 6, .inl f_bad)), (h_p0_bytes, .inl (cB, 940, .inl f_p0_bytes)), (h_p0_wordNames, .inl (cJ, 23, .inr (.inl f_p0_wordNames))), (p0, .inr (6, vL 12 F_p0_))] H := hP
        have hD : va_D A [(h0, .inr (1, vL 18 Fh)), (h_settings, .inl (cI, 5, .inl f_settings)), (h_manName, .inl (cJ, 12, .inr (.inl f_manName))), (h_push, .inl (cI, 12, .inl f_push)), (h_feet, .inl (cI, 12, .inl f_feet)), (h_weight, .inl (cI, 12, .inl f_weight)), (h_length, .inl (cI, 12, .inl f_length)), (h_drop, .inl (cI, 12, .inl f_drop)), (h_ideal, .inl (cI, 12, .inl f_ideal)), (h_over, .inl (cI, 12, .inl f_over)), (h_runnerName, .inl (cJ, 6, .inr (.inl f_runnerName))), (h_bestAt, .inl (cI, 6, .inl f_bestAt)), (h_bad, .inl (cI, 6, .inl f_bad)), (h_p0_bytes, .inl (cB, 940, .inl f_p0_bytes)), (h_p0_wordNames, .inl (cJ, 23, .inr (.inl f_p0_wordNames))), (p0, .inr (6, vL 12 F_p0_))] := hD
        refine W.widen (k := 0) (n := 0) (Nat.le_of_ble_eq_true rfl) (Nat.le_of_ble_eq_true rfl) ?_
        exact False.elim (bad_ne t129 k9 ⟨Int.le_refl _, Int.le_refl _⟩ (by decide))
      · have hP : va_P D vwCl [(h0, .inr (1, vL 18 Fh)), (h_settings, .inl (cI, 5, .inl f_settings)), (h_manName, .inl (cJ, 12, .inr (.inl f_manName))), (h_push, .inl (cI, 12, .inl f_push)), (h_feet, .inl (cI, 12, .inl f_feet)), (h_weight, .inl (cI, 12, .inl f_weight)), (h_length, .inl (cI, 12, .inl f_length)), (h_drop, .inl (cI, 12, .inl f_drop)), (h_ideal, .inl (cI, 12, .inl f_ideal)), (h_over, .inl (cI, 12, .inl f_over)), (h_runnerName, .inl (cJ, 6, .inr (.inl f_runnerName))), (h_bestAt, .inl (cI, 6, .inl f_bestAt)), (h_bad, .inl (cI, 6, .inl f_bad)), (h_p0_bytes, .inl (cB, 940, .inl f_p0_bytes)), (h_p0_wordNames, .inl (cJ, 23, .inr (.inl f_p0_wordNames))), (p0, .inr (6, vL 12 F_p0_))] H := hP
        have hD : va_D A [(h0, .inr (1, vL 18 Fh)), (h_settings, .inl (cI, 5, .inl f_settings)), (h_manName, .inl (cJ, 12, .inr (.inl f_manName))), (h_push, .inl (cI, 12, .inl f_push)), (h_feet, .inl (cI, 12, .inl f_feet)), (h_weight, .inl (cI, 12, .inl f_weight)), (h_length, .inl (cI, 12, .inl f_length)), (h_drop, .inl (cI, 12, .inl f_drop)), (h_ideal, .inl (cI, 12, .inl f_ideal)), (h_over, .inl (cI, 12, .inl f_over)), (h_runnerName, .inl (cJ, 6, .inr (.inl f_runnerName))), (h_bestAt, .inl (cI, 6, .inl f_bestAt)), (h_bad, .inl (cI, 6, .inl f_bad)), (h_p0_bytes, .inl (cB, 940, .inl f_p0_bytes)), (h_p0_wordNames, .inl (cJ, 23, .inr (.inl f_p0_wordNames))), (p0, .inr (6, vL 12 F_p0_))] := hD
        refine W.widen (k := 0) (n := 0) (Nat.le_of_ble_eq_true rfl) (Nat.le_of_ble_eq_true rfl) ?_
        refine call_Vi (wr := [(h_manName, .inl (cJ, 12, .inr (.inl f_manName))), (h_push, .inl (cI, 12, .inl f_push)), (h_feet, .inl (cI, 12, .inl f_feet)), (h_weight, .inl (cI, 12, .inl f_weight)), (h_length, .inl (cI, 12, .inl f_length)), (h_drop, .inl (cI, 12, .inl f_drop)), (h_ideal, .inl (cI, 12, .inl f_ideal)), (h_over, .inl (cI, 12, .inl f_over)), (h_runnerName, .inl (cJ, 6, .inr (.inl f_runnerName))), (h_bestAt, .inl (cI, 6, .inl f_bestAt)), (h_bad, .inl (cI, 6, .inl f_bad))]) (As := [.ref p0, .int x_p0_value]) (rest := []) hx hb hml hown hw (m_X1_readSetting l D cI cJ cB cP cM cZ z0 tU tL tM h0 h_settings p0 h_p0_bytes h_p0_wordNames Fh x_settingsTold f_settings F_p0_ x_p0_length x_p0_kind x_p0_place x_p0_value x_p0_name x_p0_faultKind x_p0_faultPlace x_p0_at x_p0_mostBytes f_p0_bytes f_p0_wordNames x_p0_value _ e_settings e_settingsTold e_p0_bytes e_p0_length i_x_p0_length e_p0_kind e_p0_place e_p0_value e_p0_name e_p0_faultKind e_p0_faultPlace e_p0_wordNames e_p0_at i_x_p0_at e_p0_mostBytes (ir_wk k127 (by decide) (by decide))) wV_X1_115_X1_readSetting dX1_readLine_58 hK hP hD hS hA [0, 1, 15, 13, 14] [2, 3, 4, 5, 6, 7, 8, 9, 10, 11, 12] rfl rfl (by decide) (by decide) (by decide) 0 1 rfl rfl GY.fb (hG.at hAz hS (hD.sub [0, 1, 15, 13, 14] (by decide) rfl)) hl.1 rfl (Nat.le_of_ble_eq_true rfl) ⟨(Nat.le_of_ble_eq_true rfl), (Nat.le_of_ble_eq_true rfl)⟩ ⟨(Nat.le_of_ble_eq_true rfl), (Nat.le_of_ble_eq_true rfl)⟩ (fun r131 u H locs hp hP hD hS => ?_)
        obtain ⟨F132, y133, F134, y135, y136, y137, y138, y139, y140, y141, g142, t143, t144, t145, t146, t147, t148, t149, t150, t151, t152, t153, t154, rfl⟩ := hp
        have hP : va_P D vwCl [(h_manName, .inl (cJ, 12, .inr (.inl f_manName))), (h_push, .inl (cI, 12, .inl f_push)), (h_feet, .inl (cI, 12, .inl f_feet)), (h_weight, .inl (cI, 12, .inl f_weight)), (h_length, .inl (cI, 12, .inl f_length)), (h_drop, .inl (cI, 12, .inl f_drop)), (h_ideal, .inl (cI, 12, .inl f_ideal)), (h_over, .inl (cI, 12, .inl f_over)), (h_runnerName, .inl (cJ, 6, .inr (.inl f_runnerName))), (h_bestAt, .inl (cI, 6, .inl f_bestAt)), (h_bad, .inl (cI, 6, .inl f_bad)), (h0, .inr (1, vL 18 F132)), (h_settings, .inl (cI, 5, .inl g142)), (p0, .inr (6, vL 12 F134)), (h_p0_bytes, .inl (cB, 940, .inl f_p0_bytes)), (h_p0_wordNames, .inl (cJ, 23, .inr (.inl f_p0_wordNames)))] H := hP
        have hD : va_D A [(h_manName, .inl (cJ, 12, .inr (.inl f_manName))), (h_push, .inl (cI, 12, .inl f_push)), (h_feet, .inl (cI, 12, .inl f_feet)), (h_weight, .inl (cI, 12, .inl f_weight)), (h_length, .inl (cI, 12, .inl f_length)), (h_drop, .inl (cI, 12, .inl f_drop)), (h_ideal, .inl (cI, 12, .inl f_ideal)), (h_over, .inl (cI, 12, .inl f_over)), (h_runnerName, .inl (cJ, 6, .inr (.inl f_runnerName))), (h_bestAt, .inl (cI, 6, .inl f_bestAt)), (h_bad, .inl (cI, 6, .inl f_bad)), (h0, .inr (1, vL 18 F132)), (h_settings, .inl (cI, 5, .inl g142)), (p0, .inr (6, vL 12 F134)), (h_p0_bytes, .inl (cB, 940, .inl f_p0_bytes)), (h_p0_wordNames, .inl (cJ, 23, .inr (.inl f_p0_wordNames)))] := hD
        refine W.widen (k := 0) (n := 0) (Nat.le_of_ble_eq_true rfl) (Nat.le_of_ble_eq_true rfl) ?_
        exact ret_i (v := r131) hx hb hr hlocks hS (hP.sub (ws' := [(h0, .inr (1, vL 18 F132)), (h_settings, .inl (cI, 5, .inl g142)), (h_manName, .inl (cJ, 12, .inr (.inl f_manName))), (h_push, .inl (cI, 12, .inl f_push)), (h_feet, .inl (cI, 12, .inl f_feet)), (h_weight, .inl (cI, 12, .inl f_weight)), (h_length, .inl (cI, 12, .inl f_length)), (h_drop, .inl (cI, 12, .inl f_drop)), (h_ideal, .inl (cI, 12, .inl f_ideal)), (h_over, .inl (cI, 12, .inl f_over)), (h_runnerName, .inl (cJ, 6, .inr (.inl f_runnerName))), (h_bestAt, .inl (cI, 6, .inl f_bestAt)), (h_bad, .inl (cI, 6, .inl f_bad)), (p0, .inr (6, vL 12 F134)), (h_p0_bytes, .inl (cB, 940, .inl f_p0_bytes)), (h_p0_wordNames, .inl (cJ, 23, .inr (.inl f_p0_wordNames)))]) [11, 12, 0, 1, 2, 3, 4, 5, 6, 7, 8, 9, 10, 13, 14, 15] rfl) (hD.sub (ws' := [(h0, .inr (1, vL 18 F132)), (h_settings, .inl (cI, 5, .inl g142)), (h_manName, .inl (cJ, 12, .inr (.inl f_manName))), (h_push, .inl (cI, 12, .inl f_push)), (h_feet, .inl (cI, 12, .inl f_feet)), (h_weight, .inl (cI, 12, .inl f_weight)), (h_length, .inl (cI, 12, .inl f_length)), (h_drop, .inl (cI, 12, .inl f_drop)), (h_ideal, .inl (cI, 12, .inl f_ideal)), (h_over, .inl (cI, 12, .inl f_over)), (h_runnerName, .inl (cJ, 6, .inr (.inl f_runnerName))), (h_bestAt, .inl (cI, 6, .inl f_bestAt)), (h_bad, .inl (cI, 6, .inl f_bad)), (p0, .inr (6, vL 12 F134)), (h_p0_bytes, .inl (cB, 940, .inl f_p0_bytes)), (h_p0_wordNames, .inl (cJ, 23, .inr (.inl f_p0_wordNames)))]) [11, 12, 0, 1, 2, 3, 4, 5, 6, 7, 8, 9, 10, 13, 14, 15] (by decide) rfl) dX1_readLine_61 (nz_i t154.1 t154.2) (Nat.le_of_ble_eq_true rfl) (Nat.le_of_ble_eq_true rfl) ⟨F132, x_men, x_bends, x_runners, y133, F134, y135, y136, y137, y138, y139, y140, y141, g142, f_manName, f_push, f_feet, f_weight, f_length, f_drop, f_ideal, f_over, f_runnerName, f_bestAt, f_bad, (SAME.tr SAME.rf t143 (by decide)), (SAME.at t143 (by decide) e_men), i_x_men, (SAME.at t143 (by decide) e_bends), i_x_bends, (SAME.at t143 (by decide) e_runners), i_x_runners, t144, (SAME.tr SAME.rf t145 (by decide)), t146, t147, t148, t149, t150, t151, t152, t153, t154, rfl⟩
    by_cases k155 : x_p0_value = 5
    · have dk155 : x_p0_value.toInt = 5 := eq_i rfl rfl k155
      have k156 : 5 ≤ x_p0_value.toInt ∧ x_p0_value.toInt ≤ 5 := ⟨Int.le_trans (Int.le_refl _) (Int.le_of_eq dk155.symm), Int.le_trans (Int.le_of_eq dk155) (Int.le_refl _)⟩
      refine lv_ci (y := 5) k155 ?_
      refine lv_tableIn (tgt := 62) (off := 58) hx hb dX1_readLine_4 (by decide) (by decide) (by decide) (by decide) ?_
      refine lv_aload_n hx hb dX1_readLine_62 rfl (lv_at hl 0 rfl) ?_
      refine lv_aload_n hx hb dX1_readLine_63 rfl (lv_at hl 1 rfl) ?_
      refine call_Vi (wr := [(h_settings, .inl (cI, 5, .inl f_settings)), (h_length, .inl (cI, 12, .inl f_length)), (h_drop, .inl (cI, 12, .inl f_drop)), (h_ideal, .inl (cI, 12, .inl f_ideal)), (h_over, .inl (cI, 12, .inl f_over)), (h_bestAt, .inl (cI, 6, .inl f_bestAt)), (h_bad, .inl (cI, 6, .inl f_bad))]) (As := [.ref p0]) (rest := []) hx hb hml hown hw (m_X1_readMan l D cI cJ cB cP cM cZ h0 h_manName h_push h_feet h_weight h_runnerName p0 h_p0_bytes h_p0_wordNames Fh x_men x_runners f_manName f_push f_feet f_weight f_runnerName F_p0_ x_p0_length x_p0_kind x_p0_place x_p0_value x_p0_name x_p0_faultKind x_p0_faultPlace x_p0_at x_p0_mostBytes f_p0_bytes f_p0_wordNames _ e_manName e_push e_feet e_weight e_runnerName e_men i_x_men e_runners i_x_runners e_p0_bytes e_p0_length i_x_p0_length e_p0_kind e_p0_place e_p0_value e_p0_name e_p0_faultKind e_p0_faultPlace e_p0_wordNames e_p0_at i_x_p0_at e_p0_mostBytes) wV_X1_119_X1_readMan dX1_readLine_64 hK hP hD hS hA [0, 2, 3, 4, 5, 10, 15, 13, 14] [1, 6, 7, 8, 9, 11, 12] rfl rfl (by decide) (by decide) (by decide) 0 1 rfl rfl GG.fb hG.1.at hl.1 rfl (Nat.le_of_ble_eq_true rfl) ⟨(Nat.le_of_ble_eq_true rfl), (Nat.le_of_ble_eq_true rfl)⟩ ⟨(Nat.le_of_ble_eq_true rfl), (Nat.le_of_ble_eq_true rfl)⟩ (fun r157 u H locs hp hP hD hS => ?_)
      obtain ⟨F158, y159, F160, y161, y162, y163, y164, y165, y166, y167, g168, g169, g170, g171, t172, t173, t174, t175, t176, t177, t178, t179, t180, t181, t182, t183, t184, rfl⟩ := hp
      have hP : va_P D vwCl [(h_settings, .inl (cI, 5, .inl f_settings)), (h_length, .inl (cI, 12, .inl f_length)), (h_drop, .inl (cI, 12, .inl f_drop)), (h_ideal, .inl (cI, 12, .inl f_ideal)), (h_over, .inl (cI, 12, .inl f_over)), (h_bestAt, .inl (cI, 6, .inl f_bestAt)), (h_bad, .inl (cI, 6, .inl f_bad)), (h0, .inr (1, vL 18 F158)), (h_manName, .inl (cJ, 12, .inr (.inl g168))), (h_push, .inl (cI, 12, .inl g169)), (h_feet, .inl (cI, 12, .inl g170)), (h_weight, .inl (cI, 12, .inl g171)), (h_runnerName, .inl (cJ, 6, .inr (.inl f_runnerName))), (p0, .inr (6, vL 12 F160)), (h_p0_bytes, .inl (cB, 940, .inl f_p0_bytes)), (h_p0_wordNames, .inl (cJ, 23, .inr (.inl f_p0_wordNames)))] H := hP
      have hD : va_D A [(h_settings, .inl (cI, 5, .inl f_settings)), (h_length, .inl (cI, 12, .inl f_length)), (h_drop, .inl (cI, 12, .inl f_drop)), (h_ideal, .inl (cI, 12, .inl f_ideal)), (h_over, .inl (cI, 12, .inl f_over)), (h_bestAt, .inl (cI, 6, .inl f_bestAt)), (h_bad, .inl (cI, 6, .inl f_bad)), (h0, .inr (1, vL 18 F158)), (h_manName, .inl (cJ, 12, .inr (.inl g168))), (h_push, .inl (cI, 12, .inl g169)), (h_feet, .inl (cI, 12, .inl g170)), (h_weight, .inl (cI, 12, .inl g171)), (h_runnerName, .inl (cJ, 6, .inr (.inl f_runnerName))), (p0, .inr (6, vL 12 F160)), (h_p0_bytes, .inl (cB, 940, .inl f_p0_bytes)), (h_p0_wordNames, .inl (cJ, 23, .inr (.inl f_p0_wordNames)))] := hD
      refine W.widen (k := 0) (n := 0) (Nat.le_of_ble_eq_true rfl) (Nat.le_of_ble_eq_true rfl) ?_
      exact ret_i (v := r157) hx hb hr hlocks hS (hP.sub (ws' := [(h0, .inr (1, vL 18 F158)), (h_settings, .inl (cI, 5, .inl f_settings)), (h_manName, .inl (cJ, 12, .inr (.inl g168))), (h_push, .inl (cI, 12, .inl g169)), (h_feet, .inl (cI, 12, .inl g170)), (h_weight, .inl (cI, 12, .inl g171)), (h_length, .inl (cI, 12, .inl f_length)), (h_drop, .inl (cI, 12, .inl f_drop)), (h_ideal, .inl (cI, 12, .inl f_ideal)), (h_over, .inl (cI, 12, .inl f_over)), (h_runnerName, .inl (cJ, 6, .inr (.inl f_runnerName))), (h_bestAt, .inl (cI, 6, .inl f_bestAt)), (h_bad, .inl (cI, 6, .inl f_bad)), (p0, .inr (6, vL 12 F160)), (h_p0_bytes, .inl (cB, 940, .inl f_p0_bytes)), (h_p0_wordNames, .inl (cJ, 23, .inr (.inl f_p0_wordNames)))]) [7, 0, 8, 9, 10, 11, 1, 2, 3, 4, 12, 5, 6, 13, 14, 15] rfl) (hD.sub (ws' := [(h0, .inr (1, vL 18 F158)), (h_settings, .inl (cI, 5, .inl f_settings)), (h_manName, .inl (cJ, 12, .inr (.inl g168))), (h_push, .inl (cI, 12, .inl g169)), (h_feet, .inl (cI, 12, .inl g170)), (h_weight, .inl (cI, 12, .inl g171)), (h_length, .inl (cI, 12, .inl f_length)), (h_drop, .inl (cI, 12, .inl f_drop)), (h_ideal, .inl (cI, 12, .inl f_ideal)), (h_over, .inl (cI, 12, .inl f_over)), (h_runnerName, .inl (cJ, 6, .inr (.inl f_runnerName))), (h_bestAt, .inl (cI, 6, .inl f_bestAt)), (h_bad, .inl (cI, 6, .inl f_bad)), (p0, .inr (6, vL 12 F160)), (h_p0_bytes, .inl (cB, 940, .inl f_p0_bytes)), (h_p0_wordNames, .inl (cJ, 23, .inr (.inl f_p0_wordNames)))]) [7, 0, 8, 9, 10, 11, 1, 2, 3, 4, 12, 5, 6, 13, 14, 15] (by decide) rfl) dX1_readLine_67 (nz_i t184.1 t184.2) (Nat.le_of_ble_eq_true rfl) (Nat.le_of_ble_eq_true rfl) ⟨F158, y159, x_bends, x_runners, x_settingsTold, F160, y161, y162, y163, y164, y165, y166, y167, f_settings, g168, g169, g170, g171, f_length, f_drop, f_ideal, f_over, f_runnerName, f_bestAt, f_bad, (SAME.tr SAME.rf t172 (by decide)), t173, t174, (SAME.at t172 (by decide) e_bends), i_x_bends, (SAME.at t172 (by decide) e_runners), i_x_runners, (SAME.at t172 (by decide) e_settingsTold), (SAME.tr SAME.rf t175 (by decide)), t176, t177, t178, t179, t180, t181, t182, t183, t184, rfl⟩
    by_cases k185 : x_p0_value = 6
    · have dk185 : x_p0_value.toInt = 6 := eq_i rfl rfl k185
      have k186 : 6 ≤ x_p0_value.toInt ∧ x_p0_value.toInt ≤ 6 := ⟨Int.le_trans (Int.le_refl _) (Int.le_of_eq dk185.symm), Int.le_trans (Int.le_of_eq dk185) (Int.le_refl _)⟩
      refine lv_ci (y := 6) k185 ?_
      refine lv_tableIn (tgt := 68) (off := 64) hx hb dX1_readLine_4 (by decide) (by decide) (by decide) (by decide) ?_
      refine lv_aload_n hx hb dX1_readLine_68 rfl (lv_at hl 0 rfl) ?_
      refine lv_aload_n hx hb dX1_readLine_69 rfl (lv_at hl 1 rfl) ?_
      refine call_Vi (wr := [(h_settings, .inl (cI, 5, .inl f_settings)), (h_manName, .inl (cJ, 12, .inr (.inl f_manName))), (h_push, .inl (cI, 12, .inl f_push)), (h_feet, .inl (cI, 12, .inl f_feet)), (h_weight, .inl (cI, 12, .inl f_weight)), (h_runnerName, .inl (cJ, 6, .inr (.inl f_runnerName))), (h_bestAt, .inl (cI, 6, .inl f_bestAt)), (h_bad, .inl (cI, 6, .inl f_bad))]) (As := [.ref p0]) (rest := []) hx hb hml hown hw (m_X1_readBend l D cI cJ cB cP cM cZ h0 h_length h_drop h_ideal h_over p0 h_p0_bytes h_p0_wordNames Fh x_bends f_length f_drop f_ideal f_over F_p0_ x_p0_length x_p0_kind x_p0_place x_p0_value x_p0_name x_p0_faultKind x_p0_faultPlace x_p0_at x_p0_mostBytes f_p0_bytes f_p0_wordNames _ e_length e_drop e_ideal e_over e_bends i_x_bends e_p0_bytes e_p0_length i_x_p0_length e_p0_kind e_p0_place e_p0_value e_p0_name e_p0_faultKind e_p0_faultPlace e_p0_wordNames e_p0_at i_x_p0_at e_p0_mostBytes) wV_X1_122_X1_readBend dX1_readLine_70 hK hP hD hS hA [0, 6, 7, 8, 9, 15, 13, 14] [1, 2, 3, 4, 5, 10, 11, 12] rfl rfl (by decide) (by decide) (by decide) 0 1 rfl rfl GG.fb hG.1.at hl.1 rfl (Nat.le_of_ble_eq_true rfl) ⟨(Nat.le_of_ble_eq_true rfl), (Nat.le_of_ble_eq_true rfl)⟩ ⟨(Nat.le_of_ble_eq_true rfl), (Nat.le_of_ble_eq_true rfl)⟩ (fun r187 u H locs hp hP hD hS => ?_)
      obtain ⟨F188, y189, F190, y191, y192, y193, y194, y195, y196, y197, g198, g199, g200, g201, t202, t203, t204, t205, t206, t207, t208, t209, t210, t211, t212, t213, t214, rfl⟩ := hp
      have hP : va_P D vwCl [(h_settings, .inl (cI, 5, .inl f_settings)), (h_manName, .inl (cJ, 12, .inr (.inl f_manName))), (h_push, .inl (cI, 12, .inl f_push)), (h_feet, .inl (cI, 12, .inl f_feet)), (h_weight, .inl (cI, 12, .inl f_weight)), (h_runnerName, .inl (cJ, 6, .inr (.inl f_runnerName))), (h_bestAt, .inl (cI, 6, .inl f_bestAt)), (h_bad, .inl (cI, 6, .inl f_bad)), (h0, .inr (1, vL 18 F188)), (h_length, .inl (cI, 12, .inl g198)), (h_drop, .inl (cI, 12, .inl g199)), (h_ideal, .inl (cI, 12, .inl g200)), (h_over, .inl (cI, 12, .inl g201)), (p0, .inr (6, vL 12 F190)), (h_p0_bytes, .inl (cB, 940, .inl f_p0_bytes)), (h_p0_wordNames, .inl (cJ, 23, .inr (.inl f_p0_wordNames)))] H := hP
      have hD : va_D A [(h_settings, .inl (cI, 5, .inl f_settings)), (h_manName, .inl (cJ, 12, .inr (.inl f_manName))), (h_push, .inl (cI, 12, .inl f_push)), (h_feet, .inl (cI, 12, .inl f_feet)), (h_weight, .inl (cI, 12, .inl f_weight)), (h_runnerName, .inl (cJ, 6, .inr (.inl f_runnerName))), (h_bestAt, .inl (cI, 6, .inl f_bestAt)), (h_bad, .inl (cI, 6, .inl f_bad)), (h0, .inr (1, vL 18 F188)), (h_length, .inl (cI, 12, .inl g198)), (h_drop, .inl (cI, 12, .inl g199)), (h_ideal, .inl (cI, 12, .inl g200)), (h_over, .inl (cI, 12, .inl g201)), (p0, .inr (6, vL 12 F190)), (h_p0_bytes, .inl (cB, 940, .inl f_p0_bytes)), (h_p0_wordNames, .inl (cJ, 23, .inr (.inl f_p0_wordNames)))] := hD
      refine W.widen (k := 0) (n := 0) (Nat.le_of_ble_eq_true rfl) (Nat.le_of_ble_eq_true rfl) ?_
      exact ret_i (v := r187) hx hb hr hlocks hS (hP.sub (ws' := [(h0, .inr (1, vL 18 F188)), (h_settings, .inl (cI, 5, .inl f_settings)), (h_manName, .inl (cJ, 12, .inr (.inl f_manName))), (h_push, .inl (cI, 12, .inl f_push)), (h_feet, .inl (cI, 12, .inl f_feet)), (h_weight, .inl (cI, 12, .inl f_weight)), (h_length, .inl (cI, 12, .inl g198)), (h_drop, .inl (cI, 12, .inl g199)), (h_ideal, .inl (cI, 12, .inl g200)), (h_over, .inl (cI, 12, .inl g201)), (h_runnerName, .inl (cJ, 6, .inr (.inl f_runnerName))), (h_bestAt, .inl (cI, 6, .inl f_bestAt)), (h_bad, .inl (cI, 6, .inl f_bad)), (p0, .inr (6, vL 12 F190)), (h_p0_bytes, .inl (cB, 940, .inl f_p0_bytes)), (h_p0_wordNames, .inl (cJ, 23, .inr (.inl f_p0_wordNames)))]) [8, 0, 1, 2, 3, 4, 9, 10, 11, 12, 5, 6, 7, 13, 14, 15] rfl) (hD.sub (ws' := [(h0, .inr (1, vL 18 F188)), (h_settings, .inl (cI, 5, .inl f_settings)), (h_manName, .inl (cJ, 12, .inr (.inl f_manName))), (h_push, .inl (cI, 12, .inl f_push)), (h_feet, .inl (cI, 12, .inl f_feet)), (h_weight, .inl (cI, 12, .inl f_weight)), (h_length, .inl (cI, 12, .inl g198)), (h_drop, .inl (cI, 12, .inl g199)), (h_ideal, .inl (cI, 12, .inl g200)), (h_over, .inl (cI, 12, .inl g201)), (h_runnerName, .inl (cJ, 6, .inr (.inl f_runnerName))), (h_bestAt, .inl (cI, 6, .inl f_bestAt)), (h_bad, .inl (cI, 6, .inl f_bad)), (p0, .inr (6, vL 12 F190)), (h_p0_bytes, .inl (cB, 940, .inl f_p0_bytes)), (h_p0_wordNames, .inl (cJ, 23, .inr (.inl f_p0_wordNames)))]) [8, 0, 1, 2, 3, 4, 9, 10, 11, 12, 5, 6, 7, 13, 14, 15] (by decide) rfl) dX1_readLine_73 (nz_i t214.1 t214.2) (Nat.le_of_ble_eq_true rfl) (Nat.le_of_ble_eq_true rfl) ⟨F188, x_men, y189, x_runners, x_settingsTold, F190, y191, y192, y193, y194, y195, y196, y197, f_settings, f_manName, f_push, f_feet, f_weight, g198, g199, g200, g201, f_runnerName, f_bestAt, f_bad, (SAME.tr SAME.rf t202 (by decide)), (SAME.at t202 (by decide) e_men), i_x_men, t203, t204, (SAME.at t202 (by decide) e_runners), i_x_runners, (SAME.at t202 (by decide) e_settingsTold), (SAME.tr SAME.rf t205 (by decide)), t206, t207, t208, t209, t210, t211, t212, t213, t214, rfl⟩
    by_cases k215 : x_p0_value = 7
    · have dk215 : x_p0_value.toInt = 7 := eq_i rfl rfl k215
      have k216 : 7 ≤ x_p0_value.toInt ∧ x_p0_value.toInt ≤ 7 := ⟨Int.le_trans (Int.le_refl _) (Int.le_of_eq dk215.symm), Int.le_trans (Int.le_of_eq dk215) (Int.le_refl _)⟩
      refine lv_ci (y := 7) k215 ?_
      refine lv_tableIn (tgt := 74) (off := 70) hx hb dX1_readLine_4 (by decide) (by decide) (by decide) (by decide) ?_
      refine lv_aload_n hx hb dX1_readLine_74 rfl (lv_at hl 0 rfl) ?_
      refine lv_aload_n hx hb dX1_readLine_75 rfl (lv_at hl 1 rfl) ?_
      refine call_Vi (wr := [(h_settings, .inl (cI, 5, .inl f_settings)), (h_push, .inl (cI, 12, .inl f_push)), (h_feet, .inl (cI, 12, .inl f_feet)), (h_weight, .inl (cI, 12, .inl f_weight)), (h_length, .inl (cI, 12, .inl f_length)), (h_drop, .inl (cI, 12, .inl f_drop)), (h_ideal, .inl (cI, 12, .inl f_ideal)), (h_over, .inl (cI, 12, .inl f_over))]) (As := [.ref p0]) (rest := []) hx hb hml hown hw (m_X1_readRunner l D cI cJ cB cP cM cZ h0 h_manName h_runnerName h_bestAt h_bad p0 h_p0_bytes h_p0_wordNames Fh x_men x_runners f_manName f_runnerName f_bestAt f_bad F_p0_ x_p0_length x_p0_kind x_p0_place x_p0_value x_p0_name x_p0_faultKind x_p0_faultPlace x_p0_at x_p0_mostBytes f_p0_bytes f_p0_wordNames _ e_manName e_runnerName e_bestAt e_bad e_men i_x_men e_runners i_x_runners e_p0_bytes e_p0_length i_x_p0_length e_p0_kind e_p0_place e_p0_value e_p0_name e_p0_faultKind e_p0_faultPlace e_p0_wordNames e_p0_at i_x_p0_at e_p0_mostBytes) wV_X1_125_X1_readRunner dX1_readLine_76 hK hP hD hS hA [0, 2, 10, 11, 12, 15, 13, 14] [1, 3, 4, 5, 6, 7, 8, 9] rfl rfl (by decide) (by decide) (by decide) 0 1 rfl rfl GG.fb hG.1.at hl.1 rfl (Nat.le_of_ble_eq_true rfl) ⟨(Nat.le_of_ble_eq_true rfl), (Nat.le_of_ble_eq_true rfl)⟩ ⟨(Nat.le_of_ble_eq_true rfl), (Nat.le_of_ble_eq_true rfl)⟩ (fun r217 u H locs hp hP hD hS => ?_)
      obtain ⟨F218, y219, F220, y221, y222, y223, y224, y225, y226, y227, g228, g229, g230, t231, t232, t233, t234, t235, t236, t237, t238, t239, t240, t241, t242, t243, rfl⟩ := hp
      have hP : va_P D vwCl [(h_settings, .inl (cI, 5, .inl f_settings)), (h_push, .inl (cI, 12, .inl f_push)), (h_feet, .inl (cI, 12, .inl f_feet)), (h_weight, .inl (cI, 12, .inl f_weight)), (h_length, .inl (cI, 12, .inl f_length)), (h_drop, .inl (cI, 12, .inl f_drop)), (h_ideal, .inl (cI, 12, .inl f_ideal)), (h_over, .inl (cI, 12, .inl f_over)), (h0, .inr (1, vL 18 F218)), (h_manName, .inl (cJ, 12, .inr (.inl f_manName))), (h_runnerName, .inl (cJ, 6, .inr (.inl g228))), (h_bestAt, .inl (cI, 6, .inl g229)), (h_bad, .inl (cI, 6, .inl g230)), (p0, .inr (6, vL 12 F220)), (h_p0_bytes, .inl (cB, 940, .inl f_p0_bytes)), (h_p0_wordNames, .inl (cJ, 23, .inr (.inl f_p0_wordNames)))] H := hP
      have hD : va_D A [(h_settings, .inl (cI, 5, .inl f_settings)), (h_push, .inl (cI, 12, .inl f_push)), (h_feet, .inl (cI, 12, .inl f_feet)), (h_weight, .inl (cI, 12, .inl f_weight)), (h_length, .inl (cI, 12, .inl f_length)), (h_drop, .inl (cI, 12, .inl f_drop)), (h_ideal, .inl (cI, 12, .inl f_ideal)), (h_over, .inl (cI, 12, .inl f_over)), (h0, .inr (1, vL 18 F218)), (h_manName, .inl (cJ, 12, .inr (.inl f_manName))), (h_runnerName, .inl (cJ, 6, .inr (.inl g228))), (h_bestAt, .inl (cI, 6, .inl g229)), (h_bad, .inl (cI, 6, .inl g230)), (p0, .inr (6, vL 12 F220)), (h_p0_bytes, .inl (cB, 940, .inl f_p0_bytes)), (h_p0_wordNames, .inl (cJ, 23, .inr (.inl f_p0_wordNames)))] := hD
      refine W.widen (k := 0) (n := 0) (Nat.le_of_ble_eq_true rfl) (Nat.le_of_ble_eq_true rfl) ?_
      exact ret_i (v := r217) hx hb hr hlocks hS (hP.sub (ws' := [(h0, .inr (1, vL 18 F218)), (h_settings, .inl (cI, 5, .inl f_settings)), (h_manName, .inl (cJ, 12, .inr (.inl f_manName))), (h_push, .inl (cI, 12, .inl f_push)), (h_feet, .inl (cI, 12, .inl f_feet)), (h_weight, .inl (cI, 12, .inl f_weight)), (h_length, .inl (cI, 12, .inl f_length)), (h_drop, .inl (cI, 12, .inl f_drop)), (h_ideal, .inl (cI, 12, .inl f_ideal)), (h_over, .inl (cI, 12, .inl f_over)), (h_runnerName, .inl (cJ, 6, .inr (.inl g228))), (h_bestAt, .inl (cI, 6, .inl g229)), (h_bad, .inl (cI, 6, .inl g230)), (p0, .inr (6, vL 12 F220)), (h_p0_bytes, .inl (cB, 940, .inl f_p0_bytes)), (h_p0_wordNames, .inl (cJ, 23, .inr (.inl f_p0_wordNames)))]) [8, 0, 9, 1, 2, 3, 4, 5, 6, 7, 10, 11, 12, 13, 14, 15] rfl) (hD.sub (ws' := [(h0, .inr (1, vL 18 F218)), (h_settings, .inl (cI, 5, .inl f_settings)), (h_manName, .inl (cJ, 12, .inr (.inl f_manName))), (h_push, .inl (cI, 12, .inl f_push)), (h_feet, .inl (cI, 12, .inl f_feet)), (h_weight, .inl (cI, 12, .inl f_weight)), (h_length, .inl (cI, 12, .inl f_length)), (h_drop, .inl (cI, 12, .inl f_drop)), (h_ideal, .inl (cI, 12, .inl f_ideal)), (h_over, .inl (cI, 12, .inl f_over)), (h_runnerName, .inl (cJ, 6, .inr (.inl g228))), (h_bestAt, .inl (cI, 6, .inl g229)), (h_bad, .inl (cI, 6, .inl g230)), (p0, .inr (6, vL 12 F220)), (h_p0_bytes, .inl (cB, 940, .inl f_p0_bytes)), (h_p0_wordNames, .inl (cJ, 23, .inr (.inl f_p0_wordNames)))]) [8, 0, 9, 1, 2, 3, 4, 5, 6, 7, 10, 11, 12, 13, 14, 15] (by decide) rfl) dX1_readLine_79 (nz_i t243.1 t243.2) (Nat.le_of_ble_eq_true rfl) (Nat.le_of_ble_eq_true rfl) ⟨F218, x_men, x_bends, y219, x_settingsTold, F220, y221, y222, y223, y224, y225, y226, y227, f_settings, f_manName, f_push, f_feet, f_weight, f_length, f_drop, f_ideal, f_over, g228, g229, g230, (SAME.tr SAME.rf t231 (by decide)), (SAME.at t231 (by decide) e_men), i_x_men, (SAME.at t231 (by decide) e_bends), i_x_bends, t232, t233, (SAME.at t231 (by decide) e_settingsTold), (SAME.tr SAME.rf t234 (by decide)), t235, t236, t237, t238, t239, t240, t241, t242, t243, rfl⟩
    have dk10 : x_p0_value.toInt ≠ 0 := ne_i rfl rfl k10
    have dk39 : x_p0_value.toInt ≠ 1 := ne_i rfl rfl k39
    have dk68 : x_p0_value.toInt ≠ 2 := ne_i rfl rfl k68
    have dk97 : x_p0_value.toInt ≠ 3 := ne_i rfl rfl k97
    have dk126 : x_p0_value.toInt ≠ 4 := ne_i rfl rfl k126
    have dk155 : x_p0_value.toInt ≠ 5 := ne_i rfl rfl k155
    have dk185 : x_p0_value.toInt ≠ 6 := ne_i rfl rfl k185
    have dk215 : x_p0_value.toInt ≠ 7 := ne_i rfl rfl k215
    refine lv_tableOut (tgt := 80) hx hb dX1_readLine_4 (by omega) (by decide) ?_
    refine lv_aload_n hx hb dX1_readLine_80 rfl (lv_at hl 1 rfl) ?_
    refine lv_iconst (v := 1) hx hb dX1_readLine_81 (by decide) ?_
    refine call_Vi (wr := [(h0, .inr (1, vL 18 Fh)), (h_settings, .inl (cI, 5, .inl f_settings)), (h_manName, .inl (cJ, 12, .inr (.inl f_manName))), (h_push, .inl (cI, 12, .inl f_push)), (h_feet, .inl (cI, 12, .inl f_feet)), (h_weight, .inl (cI, 12, .inl f_weight)), (h_length, .inl (cI, 12, .inl f_length)), (h_drop, .inl (cI, 12, .inl f_drop)), (h_ideal, .inl (cI, 12, .inl f_ideal)), (h_over, .inl (cI, 12, .inl f_over)), (h_runnerName, .inl (cJ, 6, .inr (.inl f_runnerName))), (h_bestAt, .inl (cI, 6, .inl f_bestAt)), (h_bad, .inl (cI, 6, .inl f_bad)), (h_p0_bytes, .inl (cB, 940, .inl f_p0_bytes)), (h_p0_wordNames, .inl (cJ, 23, .inr (.inl f_p0_wordNames)))]) (As := [.int 1]) (rest := []) hx hb hml hown hw (m_X6_fail l D cI cJ cB cP cM cZ p0 F_p0_ x_p0_place 1 _ e_p0_place) wV_X1_128_X6_fail dX1_readLine_82 hK hP hD hS hA [15] [0, 1, 2, 3, 4, 5, 6, 7, 8, 9, 10, 11, 12, 13, 14] rfl rfl (by decide) (by decide) (by decide) 0 6 rfl rfl GG.fb hG.1.at hl.1 rfl (Nat.le_of_ble_eq_true rfl) ⟨(Nat.le_of_ble_eq_true rfl), (Nat.le_of_ble_eq_true rfl)⟩ ⟨(Nat.le_of_ble_eq_true rfl), (Nat.le_of_ble_eq_true rfl)⟩ (fun r244 u H locs hp hP hD hS => ?_)
    obtain ⟨F245, t246, t247, t248, rfl, rfl⟩ := hp
    have hP : va_P D vwCl [(h0, .inr (1, vL 18 Fh)), (h_settings, .inl (cI, 5, .inl f_settings)), (h_manName, .inl (cJ, 12, .inr (.inl f_manName))), (h_push, .inl (cI, 12, .inl f_push)), (h_feet, .inl (cI, 12, .inl f_feet)), (h_weight, .inl (cI, 12, .inl f_weight)), (h_length, .inl (cI, 12, .inl f_length)), (h_drop, .inl (cI, 12, .inl f_drop)), (h_ideal, .inl (cI, 12, .inl f_ideal)), (h_over, .inl (cI, 12, .inl f_over)), (h_runnerName, .inl (cJ, 6, .inr (.inl f_runnerName))), (h_bestAt, .inl (cI, 6, .inl f_bestAt)), (h_bad, .inl (cI, 6, .inl f_bad)), (h_p0_bytes, .inl (cB, 940, .inl f_p0_bytes)), (h_p0_wordNames, .inl (cJ, 23, .inr (.inl f_p0_wordNames))), (p0, .inr (6, vL 12 F245))] H := hP
    have hD : va_D A [(h0, .inr (1, vL 18 Fh)), (h_settings, .inl (cI, 5, .inl f_settings)), (h_manName, .inl (cJ, 12, .inr (.inl f_manName))), (h_push, .inl (cI, 12, .inl f_push)), (h_feet, .inl (cI, 12, .inl f_feet)), (h_weight, .inl (cI, 12, .inl f_weight)), (h_length, .inl (cI, 12, .inl f_length)), (h_drop, .inl (cI, 12, .inl f_drop)), (h_ideal, .inl (cI, 12, .inl f_ideal)), (h_over, .inl (cI, 12, .inl f_over)), (h_runnerName, .inl (cJ, 6, .inr (.inl f_runnerName))), (h_bestAt, .inl (cI, 6, .inl f_bestAt)), (h_bad, .inl (cI, 6, .inl f_bad)), (h_p0_bytes, .inl (cB, 940, .inl f_p0_bytes)), (h_p0_wordNames, .inl (cJ, 23, .inr (.inl f_p0_wordNames))), (p0, .inr (6, vL 12 F245))] := hD
    refine W.widen (k := 0) (n := 0) (Nat.le_of_ble_eq_true rfl) (Nat.le_of_ble_eq_true rfl) ?_
    exact ret_i (v := 0) hx hb hr hlocks hS (hP.sub (ws' := [(h0, .inr (1, vL 18 Fh)), (h_settings, .inl (cI, 5, .inl f_settings)), (h_manName, .inl (cJ, 12, .inr (.inl f_manName))), (h_push, .inl (cI, 12, .inl f_push)), (h_feet, .inl (cI, 12, .inl f_feet)), (h_weight, .inl (cI, 12, .inl f_weight)), (h_length, .inl (cI, 12, .inl f_length)), (h_drop, .inl (cI, 12, .inl f_drop)), (h_ideal, .inl (cI, 12, .inl f_ideal)), (h_over, .inl (cI, 12, .inl f_over)), (h_runnerName, .inl (cJ, 6, .inr (.inl f_runnerName))), (h_bestAt, .inl (cI, 6, .inl f_bestAt)), (h_bad, .inl (cI, 6, .inl f_bad)), (p0, .inr (6, vL 12 F245)), (h_p0_bytes, .inl (cB, 940, .inl f_p0_bytes)), (h_p0_wordNames, .inl (cJ, 23, .inr (.inl f_p0_wordNames)))]) [0, 1, 2, 3, 4, 5, 6, 7, 8, 9, 10, 11, 12, 15, 13, 14] rfl) (hD.sub (ws' := [(h0, .inr (1, vL 18 Fh)), (h_settings, .inl (cI, 5, .inl f_settings)), (h_manName, .inl (cJ, 12, .inr (.inl f_manName))), (h_push, .inl (cI, 12, .inl f_push)), (h_feet, .inl (cI, 12, .inl f_feet)), (h_weight, .inl (cI, 12, .inl f_weight)), (h_length, .inl (cI, 12, .inl f_length)), (h_drop, .inl (cI, 12, .inl f_drop)), (h_ideal, .inl (cI, 12, .inl f_ideal)), (h_over, .inl (cI, 12, .inl f_over)), (h_runnerName, .inl (cJ, 6, .inr (.inl f_runnerName))), (h_bestAt, .inl (cI, 6, .inl f_bestAt)), (h_bad, .inl (cI, 6, .inl f_bad)), (p0, .inr (6, vL 12 F245)), (h_p0_bytes, .inl (cB, 940, .inl f_p0_bytes)), (h_p0_wordNames, .inl (cJ, 23, .inr (.inl f_p0_wordNames)))]) [0, 1, 2, 3, 4, 5, 6, 7, 8, 9, 10, 11, 12, 15, 13, 14] (by decide) rfl) dX1_readLine_85 rfl (Nat.le_of_ble_eq_true rfl) (Nat.le_of_ble_eq_true rfl) ⟨Fh, x_men, x_bends, x_runners, x_settingsTold, F245, x_p0_kind, x_p0_place, x_p0_value, x_p0_name, 1, x_p0_place, x_p0_at, f_settings, f_manName, f_push, f_feet, f_weight, f_length, f_drop, f_ideal, f_over, f_runnerName, f_bestAt, f_bad, SAME.rf, e_men, i_x_men, e_bends, i_x_bends, e_runners, i_x_runners, e_settingsTold, (SAME.tr SAME.rf t246 (by decide)), (SAME.at t246 (by decide) e_p0_kind), (SAME.at t246 (by decide) e_p0_place), (SAME.at t246 (by decide) e_p0_value), (SAME.at t246 (by decide) e_p0_name), t247, t248, (SAME.at t246 (by decide) e_p0_at), i_x_p0_at, ⟨by decide, by decide⟩, rfl⟩
