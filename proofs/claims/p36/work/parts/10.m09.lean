set_option maxHeartbeats 4000000 in
set_option maxRecDepth 100000 in
theorem m_X10_slot (l : Launch) (D : va_G) (cI cJ cB cP cM cZ : ClassId) (p0 : Int32) (p1 : Int32) (p2 : Int32) (p3 : Int32) (sz : Nat) (i_p0 : IR 0 40 p0) (i_p1 : IR 0 15 p1) (i_p2 : IR 0 1 p2) (i_p3 : IR 10 250 p3) : CI l yX10_slot cX10_slot 4 (some .int) { frames := 0, cells := 0, slots := 0, locals := 0 } (GG D cI cJ cB cP cM cZ) D [] sz [.int p0, .int p1, .int p2, .int p3] (fun (r : Int32) (u : va_W) => IR 0 316191 r ∧ (r.toInt = ((p0.toInt * 16 + p1.toInt) * 2 + p2.toInt) * 241 + p3.toInt - 10) ∧ u = []) := by
  refine CI_mk (by decide) (Nat.le_of_ble_eq_true rfl) ?_
  intro p e s m below meth c A ls E hAe hG hsz hP hD hA hS hl
  obtain ⟨hx, hb, hr, hw, hown, hlocks, hml, hnm⟩ := E
  have hK := hG.1
  have i_p0 : 0 ≤ p0.toInt ∧ p0.toInt ≤ 40 := i_p0
  have i_p1 : 0 ≤ p1.toInt ∧ p1.toInt ≤ 15 := i_p1
  have i_p2 : 0 ≤ p2.toInt ∧ p2.toInt ≤ 1 := i_p2
  have i_p3 : 10 ≤ p3.toInt ∧ p3.toInt ≤ 250 := i_p3
  have hl : lv_has ls 4 [(0, .int p0), (1, .int p1), (2, .int p2), (3, .int p3)] := hl
  refine lv_iload_n hx hb dX10_slot_0 rfl (lv_at hl 0 rfl) ?_
  refine lv_bipush (v := 16) hx hb dX10_slot_1 (by decide) ?_
  refine lv_imul hx hb dX10_slot_3 ?_
  refine lv_topi (fun v1 ev1 => ?_)
  have bv1 : v1.toInt = p0.toInt * 16 := by rw [ev1]; exact mulk_k rfl rfl (by decide) i_p0 (by decide)
  have k2 : 0 ≤ v1.toInt ∧ v1.toInt ≤ 640 := mulk_r bv1 (by decide) i_p0 (by decide)
  refine lv_iload_n hx hb dX10_slot_4 rfl (lv_at hl 1 rfl) ?_
  refine lv_iadd hx hb dX10_slot_5 ?_
  refine lv_topi (fun v3 ev3 => ?_)
  have bv3 : v3.toInt = v1.toInt + p1.toInt := by rw [ev3]; exact add_k rfl rfl k2 i_p1 (by decide)
  have k4 : 0 ≤ v3.toInt ∧ v3.toInt ≤ 655 := add_r bv3 k2 i_p1 (by decide)
  refine lv_iconst (v := 2) hx hb dX10_slot_6 (by decide) ?_
  refine lv_imul hx hb dX10_slot_7 ?_
  refine lv_topi (fun v5 ev5 => ?_)
  have bv5 : v5.toInt = v3.toInt * 2 := by rw [ev5]; exact mulk_k rfl rfl (by decide) k4 (by decide)
  have k6 : 0 ≤ v5.toInt ∧ v5.toInt ≤ 1310 := mulk_r bv5 (by decide) k4 (by decide)
  refine lv_iload_n hx hb dX10_slot_8 rfl (lv_at hl 2 rfl) ?_
  refine lv_iadd hx hb dX10_slot_9 ?_
  refine lv_topi (fun v7 ev7 => ?_)
  have bv7 : v7.toInt = v5.toInt + p2.toInt := by rw [ev7]; exact add_k rfl rfl k6 i_p2 (by decide)
  have k8 : 0 ≤ v7.toInt ∧ v7.toInt ≤ 1311 := add_r bv7 k6 i_p2 (by decide)
  refine lv_sipush (v := 241) hx hb dX10_slot_10 (by decide) ?_
  refine lv_imul hx hb dX10_slot_13 ?_
  refine lv_topi (fun v9 ev9 => ?_)
  have bv9 : v9.toInt = v7.toInt * 241 := by rw [ev9]; exact mulk_k rfl rfl (by decide) k8 (by decide)
  have k10 : 0 ≤ v9.toInt ∧ v9.toInt ≤ 315951 := mulk_r bv9 (by decide) k8 (by decide)
  refine lv_iload_n hx hb dX10_slot_14 rfl (lv_at hl 3 rfl) ?_
  refine lv_iadd hx hb dX10_slot_15 ?_
  refine lv_topi (fun v11 ev11 => ?_)
  have bv11 : v11.toInt = v9.toInt + p3.toInt := by rw [ev11]; exact add_k rfl rfl k10 i_p3 (by decide)
  have k12 : 10 ≤ v11.toInt ∧ v11.toInt ≤ 316201 := add_r bv11 k10 i_p3 (by decide)
  refine lv_bipush (v := 10) hx hb dX10_slot_16 (by decide) ?_
  refine lv_isub hx hb dX10_slot_18 ?_
  refine lv_topi (fun v13 ev13 => ?_)
  have bv13 : v13.toInt = v11.toInt - 10 := by rw [ev13]; exact sub_k rfl rfl k12 ⟨Int.le_refl _, Int.le_refl _⟩ (by decide)
  have k14 : 0 ≤ v13.toInt ∧ v13.toInt ≤ 316191 := sub_r bv13 k12 ⟨Int.le_refl _, Int.le_refl _⟩ (by decide)
  exact ret_i (v := v13) hx hb hr hlocks hS hP hD dX10_slot_19 rfl (Nat.le_of_ble_eq_true rfl) (Nat.le_of_ble_eq_true rfl) ⟨k14, (by omega), rfl⟩
set_option maxHeartbeats 4000000 in
set_option maxRecDepth 100000 in
theorem m_X10_chooses (l : Launch) (D : va_G) (cI cJ cB cP cM cZ : ClassId) (h0 : Nat) (h_s : Nat) (Fh : Nat → Value) (f_s : Nat → Int32) (p0 : Int32) (p1 : Int32) (p2 : Int32) (p3 : Int32) (bs : Nat → Int32) (sz : Nat) (e_s : Fh 6 = .ref h_s) (s_s_K0 : KW 0 f_s) (s_s_US : US bs f_s) (s_s_0 : SG 0 0 0 40 f_s) (s_s_105 : SG 105 108 0 11 f_s) (s_s_114 : SG 114 114 0 5 f_s) (s_s_130 : SG 130 133 0 11 f_s) (s_s_139 : SG 139 139 0 5 f_s) (s_s_153 : SG 153 153 0 44 f_s) (s_s_44 : SG 44 55 0 9 f_s) (s_s_5 : SG 5 5 0 12 f_s) (s_s_6 : SG 6 6 0 12 f_s) (s_s_7 : SG 7 7 0 6 f_s) (i_p0 : IR 0 15 p0) (i_p1 : IR 0 1 p1) (i_p2 : IR 10 250 p2) (i_p3 : IR 0 4 p3) : CI l yX10_chooses cX10_chooses 5 (some .boolean) { frames := 3, cells := 0, slots := 0, locals := 69 } (GG D cI cJ cB cP cM cZ) D [(h0, .inr (10, vL 67 Fh)), (h_s, .inl (cI, 335, .inl f_s))] sz [.ref h0, .int p0, .int p1, .int p2, .int p3] (fun (r : Int32) (u : va_W) => ∃ (Gh : Nat → Value) (y_choicePace : Int32) (y_choiceSet : Int32) (y_choiceAhead : Int32), SAME [46, 47, 48] Fh Gh ∧ Gh 46 = .int y_choicePace ∧ IR 10 250 y_choicePace ∧ Gh 47 = .int y_choiceSet ∧ IR 0 15 y_choiceSet ∧ Gh 48 = .int y_choiceAhead ∧ IR 0 1 y_choiceAhead ∧ IR 0 1 r ∧ u = [(h0, .inr (10, vL 67 Gh)), (h_s, .inl (cI, 335, .inl f_s))]) := by
  refine CI_mk (by decide) (Nat.le_of_ble_eq_true rfl) ?_
  intro p e s m below meth c A ls E hAe hG hsz hP hD hA hS hl
  obtain ⟨hx, hb, hr, hw, hown, hlocks, hml, hnm⟩ := E
  have hK := hG.1
  have i_p0 : 0 ≤ p0.toInt ∧ p0.toInt ≤ 15 := i_p0
  have i_p1 : 0 ≤ p1.toInt ∧ p1.toInt ≤ 1 := i_p1
  have i_p2 : 10 ≤ p2.toInt ∧ p2.toInt ≤ 250 := i_p2
  have i_p3 : 0 ≤ p3.toInt ∧ p3.toInt ≤ 4 := i_p3
  have hl : lv_has ls 5 [(0, .ref h0), (1, .int p0), (2, .int p1), (3, .int p2), (4, .int p3)] := hl
  refine lv_aload_n hx hb dX10_chooses_0 rfl (lv_at hl 0 rfl) ?_
  refine lv_aload_n hx hb dX10_chooses_1 rfl (lv_at hl 0 rfl) ?_
  refine lv_iload_n hx hb dX10_chooses_2 rfl (lv_at hl 3 rfl) ?_
  refine lv_iload_n hx hb dX10_chooses_3 rfl (lv_at hl 1 rfl) ?_
  refine lv_iload_n hx hb dX10_chooses_4 rfl (lv_at hl 1 rfl) ?_
  refine call_Vi (wr := []) (As := [.int p2, .int p0, .int p0]) (rest := [.ref h0]) hx hb hml hown hw (m_X10_pushed l D cI cJ cB cP cM cZ h0 h_s Fh f_s p2 p0 p0 bs _ e_s s_s_K0 s_s_US s_s_0 s_s_105 s_s_114 s_s_130 s_s_139 s_s_153 s_s_44 s_s_5 s_s_6 s_s_7) wV_X10_323_X10_pushed dX10_chooses_5 hK hP hD hS hA [0, 1] [] rfl rfl (by decide) (by decide) (by decide) 0 10 rfl rfl GG.fb hG.at hl.1 rfl (Nat.le_of_ble_eq_true rfl) ⟨(Nat.le_of_ble_eq_true rfl), (Nat.le_of_ble_eq_true rfl)⟩ ⟨(Nat.le_of_ble_eq_true rfl), (Nat.le_of_ble_eq_true rfl)⟩ (fun r1 u H locs hp hP hD hS => ?_)
  obtain ⟨t2, rfl⟩ := hp
  have hP : va_P D vwCl [(h0, .inr (10, vL 67 Fh)), (h_s, .inl (cI, 335, .inl f_s))] H := hP
  have hD : va_D A [(h0, .inr (10, vL 67 Fh)), (h_s, .inl (cI, 335, .inl f_s))] := hD
  refine W.widen (k := 0) (n := 0) (Nat.le_of_ble_eq_true rfl) (Nat.le_of_ble_eq_true rfl) ?_
  refine put_f (D := D) (ci := 10) (v := .int r1) (ty := .int) (C := RX10) (T := TX10) (N := 67) hx hb hw inAX10 tyX10 tyX10_ok nmX10 hown hK hP hD hS 0 rfl rfl 46 (by decide) (hw _ q_1307) (fun _ h9 => h9) rfl (by decide +kernel) rfl rfl dX10_chooses_8 (fun H locs F4 eF4 hP hD hS => ?_)
  have hP : va_P D vwCl [(h0, .inr (10, vL 67 F4)), (h_s, .inl (cI, 335, .inl f_s))] H := hP
  have hD : va_D A [(h0, .inr (10, vL 67 F4)), (h_s, .inl (cI, 335, .inl f_s))] := hD
  refine lv_aload_n hx hb dX10_chooses_11 rfl (lv_at hl 0 rfl) ?_
  refine lv_iload_n hx hb dX10_chooses_12 rfl (lv_at hl 1 rfl) ?_
  refine put_f (D := D) (ci := 10) (v := .int p0) (ty := .int) (C := RX10) (T := TX10) (N := 67) hx hb hw inAX10 tyX10 tyX10_ok nmX10 hown hK hP hD hS 0 rfl rfl 47 (by decide) (hw _ q_1308) (fun _ h9 => h9) rfl (by decide +kernel) rfl rfl dX10_chooses_13 (fun H locs F5 eF5 hP hD hS => ?_)
  have hP : va_P D vwCl [(h0, .inr (10, vL 67 F5)), (h_s, .inl (cI, 335, .inl f_s))] H := hP
  have hD : va_D A [(h0, .inr (10, vL 67 F5)), (h_s, .inl (cI, 335, .inl f_s))] := hD
  refine lv_aload_n hx hb dX10_chooses_16 rfl (lv_at hl 0 rfl) ?_
  refine lv_iconst (v := 0) hx hb dX10_chooses_17 (by decide) ?_
  refine put_f (D := D) (ci := 10) (v := .int 0) (ty := .int) (C := RX10) (T := TX10) (N := 67) hx hb hw inAX10 tyX10 tyX10_ok nmX10 hown hK hP hD hS 0 rfl rfl 48 (by decide) (hw _ q_1309) (fun _ h9 => h9) rfl (by decide +kernel) rfl rfl dX10_chooses_18 (fun H locs F6 eF6 hP hD hS => ?_)
  have hP : va_P D vwCl [(h0, .inr (10, vL 67 F6)), (h_s, .inl (cI, 335, .inl f_s))] H := hP
  have hD : va_D A [(h0, .inr (10, vL 67 F6)), (h_s, .inl (cI, 335, .inl f_s))] := hD
  refine lv_iload hx hb dX10_chooses_21 (lv_at hl 4 rfl) ?_
  refine lv_if_ne (tgt := 28) hx hb dX10_chooses_23 (by decide) (fun c7 => ?_) (fun c7 => ?_)
  · have dc7 : p3.toInt ≠ 0 := ne_i (a := p3.toInt) (b := 0) rfl rfl c7
    have k8 : 1 ≤ p3.toInt ∧ p3.toInt ≤ 4 := ⟨ne_lo dc7 i_p3.1 ⟨Int.le_refl _, Int.le_refl _⟩ (by decide), i_p3.2⟩
    refine lv_iload_n hx hb dX10_chooses_28 rfl (lv_at hl 1 rfl) ?_
    refine lv_iload hx hb dX10_chooses_29 (lv_at hl 4 rfl) ?_
    refine lv_iconst (v := 1) hx hb dX10_chooses_31 (by decide) ?_
    refine lv_isub hx hb dX10_chooses_32 ?_
    refine lv_topi (fun v9 ev9 => ?_)
    have bv9 : v9.toInt = p3.toInt - 1 := by rw [ev9]; exact sub_k rfl rfl k8 ⟨Int.le_refl _, Int.le_refl _⟩ (by decide)
    have k10 : 0 ≤ v9.toInt ∧ v9.toInt ≤ 3 := sub_r bv9 k8 ⟨Int.le_refl _, Int.le_refl _⟩ (by decide)
    refine call_Si (wr := [(h0, .inr (10, vL 67 F6)), (h_s, .inl (cI, 335, .inl f_s))]) (As := [.int p0, .int v9]) (rest := []) hx hb hml hown hw (m_X10_bitOf l D cI cJ cB cP cM cZ p0 v9 _ ) wS_X10_232_X10_bitOf dX10_chooses_33 hP hD hS hA [] [0, 1] rfl rfl (by decide) (by decide) (by decide) GG.fb hG.at hl.1 rfl (Nat.le_of_ble_eq_true rfl) ⟨(Nat.le_of_ble_eq_true rfl), (Nat.le_of_ble_eq_true rfl)⟩ ⟨(Nat.le_of_ble_eq_true rfl), (Nat.le_of_ble_eq_true rfl)⟩ (fun r11 u H locs hp hP hD hS => ?_)
    rcases hp with ⟨t12, rfl, rfl⟩ | ⟨t13, rfl, rfl⟩
    · have hP : va_P D vwCl [(h0, .inr (10, vL 67 F6)), (h_s, .inl (cI, 335, .inl f_s))] H := hP
      have hD : va_D A [(h0, .inr (10, vL 67 F6)), (h_s, .inl (cI, 335, .inl f_s))] := hD
      refine W.widen (k := 0) (n := 0) (Nat.le_of_ble_eq_true rfl) (Nat.le_of_ble_eq_true rfl) ?_
      refine lv_if_ne (tgt := 54) hx hb dX10_chooses_36 (by decide) (fun g => absurd (by decide) g) (fun _ => ?_)
      refine lv_aload_n hx hb dX10_chooses_39 rfl (lv_at hl 0 rfl) ?_
      refine lv_aload_n hx hb dX10_chooses_40 rfl (lv_at hl 0 rfl) ?_
      have n15 : F5 46 = .int r1 := (get_ne eF5 (by decide) (get_eq eF4))
      have n16 : F6 46 = .int r1 := (get_ne eF6 (by decide) n15)
      refine get_f (D := D) (ci := 10) (v := .int r1) (C := RX10) (T := TX10) (N := 67) hx hb hw inAX10 hown hK hP 0 rfl rfl 46 (by decide) (hw _ q_1307) (fun _ h9 => h9) n16 dX10_chooses_41 ?_
      refine lv_iload hx hb dX10_chooses_44 (lv_at hl 4 rfl) ?_
      refine lv_iconst (v := 1) hx hb dX10_chooses_46 (by decide) ?_
      refine lv_isub hx hb dX10_chooses_47 ?_
      refine lv_ci (y := v9) ev9.symm ?_
      have n17 : F4 6 = .ref h_s := (get_ne eF4 (by decide) e_s)
      have n18 : F5 6 = .ref h_s := (get_ne eF5 (by decide) n17)
      have n19 : F6 6 = .ref h_s := (get_ne eF6 (by decide) n18)
      refine call_Vi (wr := []) (As := [.int r1, .int v9]) (rest := []) hx hb hml hown hw (m_X10_isLate l D cI cJ cB cP cM cZ h0 h_s F6 f_s r1 v9 bs _ n19 s_s_K0 s_s_US s_s_0 s_s_105 s_s_114 s_s_130 s_s_139 s_s_153 s_s_44 s_s_5 s_s_6 s_s_7 k10) wV_X10_327_X10_isLate dX10_chooses_48 hK hP hD hS hA [0, 1] [] rfl rfl (by decide) (by decide) (by decide) 0 10 rfl rfl GG.fb hG.at hl.1 rfl (Nat.le_of_ble_eq_true rfl) ⟨(Nat.le_of_ble_eq_true rfl), (Nat.le_of_ble_eq_true rfl)⟩ ⟨(Nat.le_of_ble_eq_true rfl), (Nat.le_of_ble_eq_true rfl)⟩ (fun r20 u H locs hp hP hD hS => ?_)
      obtain ⟨t21, rfl⟩ := hp
      have hP : va_P D vwCl [(h0, .inr (10, vL 67 F6)), (h_s, .inl (cI, 335, .inl f_s))] H := hP
      have hD : va_D A [(h0, .inr (10, vL 67 F6)), (h_s, .inl (cI, 335, .inl f_s))] := hD
      refine W.widen (k := 0) (n := 0) (Nat.le_of_ble_eq_true rfl) (Nat.le_of_ble_eq_true rfl) ?_
      refine lv_if_eq (tgt := 56) hx hb dX10_chooses_51 (by decide) (fun c23 => ?_) (fun c23 => ?_)
      · have dc23 : r20.toInt = 0 := eq_i (a := r20.toInt) (b := 0) rfl rfl c23
        have k24 : 0 ≤ r20.toInt ∧ r20.toInt ≤ 0 := ⟨t21.1, Int.le_trans (Int.le_of_eq dc23) (Int.le_refl _)⟩
        refine lv_aload_n hx hb dX10_chooses_56 rfl (lv_at hl 0 rfl) ?_
        refine lv_aload_n hx hb dX10_chooses_57 rfl (lv_at hl 0 rfl) ?_
        refine get_f (D := D) (ci := 10) (v := .int r1) (C := RX10) (T := TX10) (N := 67) hx hb hw inAX10 hown hK hP 0 rfl rfl 46 (by decide) (hw _ q_1307) (fun _ h9 => h9) n16 dX10_chooses_58 ?_
        refine lv_iload_n hx hb dX10_chooses_61 rfl (lv_at hl 2 rfl) ?_
        refine lv_iconst (v := 1) hx hb dX10_chooses_62 (by decide) ?_
        refine lv_icmp_ne (tgt := 71) hx hb dX10_chooses_63 (by decide) (fun c25 => ?_) (fun c25 => ?_)
        · have dc25 : p1.toInt ≠ 1 := ne_i (a := p1.toInt) (b := 1) rfl rfl c25
          have k26 : 0 ≤ p1.toInt ∧ p1.toInt ≤ 0 := ⟨i_p1.1, ne_hi dc25 i_p1.2 ⟨Int.le_refl _, Int.le_refl _⟩ (by decide)⟩
          refine lv_iconst (v := 2) hx hb dX10_chooses_71 (by decide) ?_
          refine lv_isub hx hb dX10_chooses_72 ?_
          refine lv_topi (fun v27 ev27 => ?_)
          have bv27 : v27.toInt = r1.toInt - 2 := by rw [ev27]; exact sub_k rfl rfl t2 ⟨Int.le_refl _, Int.le_refl _⟩ (by decide)
          have k28 : 8 ≤ v27.toInt ∧ v27.toInt ≤ 248 := sub_r bv27 t2 ⟨Int.le_refl _, Int.le_refl _⟩ (by decide)
          refine call_Si (wr := [(h0, .inr (10, vL 67 F6)), (h_s, .inl (cI, 335, .inl f_s))]) (As := [.int v27]) (rest := [.ref h0]) hx hb hml hown hw (m_X10_bounded l D cI cJ cB cP cM cZ v27 _ ) wS_X10_311_X10_bounded dX10_chooses_73 hP hD hS hA [] [0, 1] rfl rfl (by decide) (by decide) (by decide) GG.fb hG.at hl.1 rfl (Nat.le_of_ble_eq_true rfl) ⟨(Nat.le_of_ble_eq_true rfl), (Nat.le_of_ble_eq_true rfl)⟩ ⟨(Nat.le_of_ble_eq_true rfl), (Nat.le_of_ble_eq_true rfl)⟩ (fun r29 u H locs hp hP hD hS => ?_)
          obtain ⟨t30, t31, rfl⟩ := hp
          have hP : va_P D vwCl [(h0, .inr (10, vL 67 F6)), (h_s, .inl (cI, 335, .inl f_s))] H := hP
          have hD : va_D A [(h0, .inr (10, vL 67 F6)), (h_s, .inl (cI, 335, .inl f_s))] := hD
          refine W.widen (k := 0) (n := 0) (Nat.le_of_ble_eq_true rfl) (Nat.le_of_ble_eq_true rfl) ?_
          refine put_f (D := D) (ci := 10) (v := .int r29) (ty := .int) (C := RX10) (T := TX10) (N := 67) hx hb hw inAX10 tyX10 tyX10_ok nmX10 hown hK hP hD hS 0 rfl rfl 46 (by decide) (hw _ q_1307) (fun _ h9 => h9) rfl (by decide +kernel) rfl rfl dX10_chooses_76 (fun H locs F33 eF33 hP hD hS => ?_)
          have hP : va_P D vwCl [(h0, .inr (10, vL 67 F33)), (h_s, .inl (cI, 335, .inl f_s))] H := hP
          have hD : va_D A [(h0, .inr (10, vL 67 F33)), (h_s, .inl (cI, 335, .inl f_s))] := hD
          refine lv_aload_n hx hb dX10_chooses_79 rfl (lv_at hl 0 rfl) ?_
          refine lv_iload_n hx hb dX10_chooses_80 rfl (lv_at hl 1 rfl) ?_
          refine lv_iconst (v := 1) hx hb dX10_chooses_81 (by decide) ?_
          refine lv_iload hx hb dX10_chooses_82 (lv_at hl 4 rfl) ?_
          refine lv_iconst (v := 1) hx hb dX10_chooses_84 (by decide) ?_
          refine lv_isub hx hb dX10_chooses_85 ?_
          refine lv_ci (y := v9) ev9.symm ?_
          refine lv_ishl hx hb dX10_chooses_86 ?_
          refine lv_topi (fun v34 ev34 => ?_)
          have k35 : 1 ≤ v34.toInt ∧ v34.toInt ≤ 8 := by rw [ev34]; exact shl1_i (Int.le_trans (by decide) k10.1) (Int.le_trans k10.2 (by decide))
          refine lv_ior hx hb dX10_chooses_87 ?_
          refine lv_topi (fun v36 ev36 => ?_)
          have k37 : 0 ≤ v36.toInt ∧ v36.toInt ≤ 15 := by rw [ev36]; exact or_ik (ir_wk i_p0 (by decide) (by decide)) (ir_wk k35 (by decide) (by decide))
          refine put_f (D := D) (ci := 10) (v := .int v36) (ty := .int) (C := RX10) (T := TX10) (N := 67) hx hb hw inAX10 tyX10 tyX10_ok nmX10 hown hK hP hD hS 0 rfl rfl 47 (by decide) (hw _ q_1308) (fun _ h9 => h9) rfl (by decide +kernel) rfl rfl dX10_chooses_88 (fun H locs F38 eF38 hP hD hS => ?_)
          have hP : va_P D vwCl [(h0, .inr (10, vL 67 F38)), (h_s, .inl (cI, 335, .inl f_s))] H := hP
          have hD : va_D A [(h0, .inr (10, vL 67 F38)), (h_s, .inl (cI, 335, .inl f_s))] := hD
          refine lv_aload_n hx hb dX10_chooses_91 rfl (lv_at hl 0 rfl) ?_
          refine lv_iconst (v := 1) hx hb dX10_chooses_92 (by decide) ?_
          refine put_f (D := D) (ci := 10) (v := .int 1) (ty := .int) (C := RX10) (T := TX10) (N := 67) hx hb hw inAX10 tyX10 tyX10_ok nmX10 hown hK hP hD hS 0 rfl rfl 48 (by decide) (hw _ q_1309) (fun _ h9 => h9) rfl (by decide +kernel) rfl rfl dX10_chooses_93 (fun H locs F39 eF39 hP hD hS => ?_)
          have hP : va_P D vwCl [(h0, .inr (10, vL 67 F39)), (h_s, .inl (cI, 335, .inl f_s))] H := hP
          have hD : va_D A [(h0, .inr (10, vL 67 F39)), (h_s, .inl (cI, 335, .inl f_s))] := hD
          refine lv_iconst (v := 1) hx hb dX10_chooses_96 (by decide) ?_
          exact ret_i (v := 1) hx hb hr hlocks hS hP hD dX10_chooses_97 rfl (Nat.le_of_ble_eq_true rfl) (Nat.le_of_ble_eq_true rfl) ⟨F39, r29, v36, 1, (SAME.up eF39 (SAME.up eF38 (SAME.up eF33 (SAME.up eF6 (SAME.up eF5 (SAME.up eF4 SAME.rf (by decide)) (by decide)) (by decide)) (by decide)) (by decide)) (by decide)), (get_ne eF39 (by decide) (get_ne eF38 (by decide) (get_eq eF33))), t30, (get_ne eF39 (by decide) (get_eq eF38)), k37, (get_eq eF39), (show 0 ≤ (1 : Int32).toInt ∧ (1 : Int32).toInt ≤ 1 by decide), (show 0 ≤ (1 : Int32).toInt ∧ (1 : Int32).toInt ≤ 1 by decide), rfl⟩
        · have dc25 : p1.toInt = 1 := eq_i (a := p1.toInt) (b := 1) rfl rfl c25
          have k40 : 1 ≤ p1.toInt ∧ p1.toInt ≤ 1 := ⟨Int.le_trans (Int.le_refl _) (Int.le_of_eq dc25.symm), i_p1.2⟩
          refine lv_bipush (v := 6) hx hb dX10_chooses_66 (by decide) ?_
          refine lv_goto (tgt := 72) hx hb dX10_chooses_68 (by decide) ?_
          refine lv_isub hx hb dX10_chooses_72 ?_
          refine lv_topi (fun v41 ev41 => ?_)
          have bv41 : v41.toInt = r1.toInt - 6 := by rw [ev41]; exact sub_k rfl rfl t2 ⟨Int.le_refl _, Int.le_refl _⟩ (by decide)
          have k42 : 4 ≤ v41.toInt ∧ v41.toInt ≤ 244 := sub_r bv41 t2 ⟨Int.le_refl _, Int.le_refl _⟩ (by decide)
          refine call_Si (wr := [(h0, .inr (10, vL 67 F6)), (h_s, .inl (cI, 335, .inl f_s))]) (As := [.int v41]) (rest := [.ref h0]) hx hb hml hown hw (m_X10_bounded l D cI cJ cB cP cM cZ v41 _ ) wS_X10_311_X10_bounded dX10_chooses_73 hP hD hS hA [] [0, 1] rfl rfl (by decide) (by decide) (by decide) GG.fb hG.at hl.1 rfl (Nat.le_of_ble_eq_true rfl) ⟨(Nat.le_of_ble_eq_true rfl), (Nat.le_of_ble_eq_true rfl)⟩ ⟨(Nat.le_of_ble_eq_true rfl), (Nat.le_of_ble_eq_true rfl)⟩ (fun r43 u H locs hp hP hD hS => ?_)
          obtain ⟨t44, t45, rfl⟩ := hp
          have hP : va_P D vwCl [(h0, .inr (10, vL 67 F6)), (h_s, .inl (cI, 335, .inl f_s))] H := hP
          have hD : va_D A [(h0, .inr (10, vL 67 F6)), (h_s, .inl (cI, 335, .inl f_s))] := hD
          refine W.widen (k := 0) (n := 0) (Nat.le_of_ble_eq_true rfl) (Nat.le_of_ble_eq_true rfl) ?_
          refine put_f (D := D) (ci := 10) (v := .int r43) (ty := .int) (C := RX10) (T := TX10) (N := 67) hx hb hw inAX10 tyX10 tyX10_ok nmX10 hown hK hP hD hS 0 rfl rfl 46 (by decide) (hw _ q_1307) (fun _ h9 => h9) rfl (by decide +kernel) rfl rfl dX10_chooses_76 (fun H locs F47 eF47 hP hD hS => ?_)
          have hP : va_P D vwCl [(h0, .inr (10, vL 67 F47)), (h_s, .inl (cI, 335, .inl f_s))] H := hP
          have hD : va_D A [(h0, .inr (10, vL 67 F47)), (h_s, .inl (cI, 335, .inl f_s))] := hD
          refine lv_aload_n hx hb dX10_chooses_79 rfl (lv_at hl 0 rfl) ?_
          refine lv_iload_n hx hb dX10_chooses_80 rfl (lv_at hl 1 rfl) ?_
          refine lv_iconst (v := 1) hx hb dX10_chooses_81 (by decide) ?_
          refine lv_iload hx hb dX10_chooses_82 (lv_at hl 4 rfl) ?_
          refine lv_iconst (v := 1) hx hb dX10_chooses_84 (by decide) ?_
          refine lv_isub hx hb dX10_chooses_85 ?_
          refine lv_ci (y := v9) ev9.symm ?_
          refine lv_ishl hx hb dX10_chooses_86 ?_
          refine lv_topi (fun v48 ev48 => ?_)
          have k49 : 1 ≤ v48.toInt ∧ v48.toInt ≤ 8 := by rw [ev48]; exact shl1_i (Int.le_trans (by decide) k10.1) (Int.le_trans k10.2 (by decide))
          refine lv_ior hx hb dX10_chooses_87 ?_
          refine lv_topi (fun v50 ev50 => ?_)
          have k51 : 0 ≤ v50.toInt ∧ v50.toInt ≤ 15 := by rw [ev50]; exact or_ik (ir_wk i_p0 (by decide) (by decide)) (ir_wk k49 (by decide) (by decide))
          refine put_f (D := D) (ci := 10) (v := .int v50) (ty := .int) (C := RX10) (T := TX10) (N := 67) hx hb hw inAX10 tyX10 tyX10_ok nmX10 hown hK hP hD hS 0 rfl rfl 47 (by decide) (hw _ q_1308) (fun _ h9 => h9) rfl (by decide +kernel) rfl rfl dX10_chooses_88 (fun H locs F52 eF52 hP hD hS => ?_)
          have hP : va_P D vwCl [(h0, .inr (10, vL 67 F52)), (h_s, .inl (cI, 335, .inl f_s))] H := hP
          have hD : va_D A [(h0, .inr (10, vL 67 F52)), (h_s, .inl (cI, 335, .inl f_s))] := hD
          refine lv_aload_n hx hb dX10_chooses_91 rfl (lv_at hl 0 rfl) ?_
          refine lv_iconst (v := 1) hx hb dX10_chooses_92 (by decide) ?_
          refine put_f (D := D) (ci := 10) (v := .int 1) (ty := .int) (C := RX10) (T := TX10) (N := 67) hx hb hw inAX10 tyX10 tyX10_ok nmX10 hown hK hP hD hS 0 rfl rfl 48 (by decide) (hw _ q_1309) (fun _ h9 => h9) rfl (by decide +kernel) rfl rfl dX10_chooses_93 (fun H locs F53 eF53 hP hD hS => ?_)
          have hP : va_P D vwCl [(h0, .inr (10, vL 67 F53)), (h_s, .inl (cI, 335, .inl f_s))] H := hP
          have hD : va_D A [(h0, .inr (10, vL 67 F53)), (h_s, .inl (cI, 335, .inl f_s))] := hD
          refine lv_iconst (v := 1) hx hb dX10_chooses_96 (by decide) ?_
          exact ret_i (v := 1) hx hb hr hlocks hS hP hD dX10_chooses_97 rfl (Nat.le_of_ble_eq_true rfl) (Nat.le_of_ble_eq_true rfl) ⟨F53, r43, v50, 1, (SAME.up eF53 (SAME.up eF52 (SAME.up eF47 (SAME.up eF6 (SAME.up eF5 (SAME.up eF4 SAME.rf (by decide)) (by decide)) (by decide)) (by decide)) (by decide)) (by decide)), (get_ne eF53 (by decide) (get_ne eF52 (by decide) (get_eq eF47))), t44, (get_ne eF53 (by decide) (get_eq eF52)), k51, (get_eq eF53), (show 0 ≤ (1 : Int32).toInt ∧ (1 : Int32).toInt ≤ 1 by decide), (show 0 ≤ (1 : Int32).toInt ∧ (1 : Int32).toInt ≤ 1 by decide), rfl⟩
      · have dc23 : r20.toInt ≠ 0 := ne_i (a := r20.toInt) (b := 0) rfl rfl c23
        have k54 : 1 ≤ r20.toInt ∧ r20.toInt ≤ 1 := ⟨ne_lo dc23 t21.1 ⟨Int.le_refl _, Int.le_refl _⟩ (by decide), t21.2⟩
        refine lv_iconst (v := 0) hx hb dX10_chooses_54 (by decide) ?_
        exact ret_i (v := 0) hx hb hr hlocks hS hP hD dX10_chooses_55 rfl (Nat.le_of_ble_eq_true rfl) (Nat.le_of_ble_eq_true rfl) ⟨F6, r1, p0, 0, (SAME.up eF6 (SAME.up eF5 (SAME.up eF4 SAME.rf (by decide)) (by decide)) (by decide)), n16, t2, (get_ne eF6 (by decide) (get_eq eF5)), i_p0, (get_eq eF6), (show 0 ≤ (0 : Int32).toInt ∧ (0 : Int32).toInt ≤ 1 by decide), (show 0 ≤ (0 : Int32).toInt ∧ (0 : Int32).toInt ≤ 1 by decide), rfl⟩
    · have hP : va_P D vwCl [(h0, .inr (10, vL 67 F6)), (h_s, .inl (cI, 335, .inl f_s))] H := hP
      have hD : va_D A [(h0, .inr (10, vL 67 F6)), (h_s, .inl (cI, 335, .inl f_s))] := hD
      refine W.widen (k := 0) (n := 0) (Nat.le_of_ble_eq_true rfl) (Nat.le_of_ble_eq_true rfl) ?_
      refine lv_if_ne (tgt := 54) hx hb dX10_chooses_36 (by decide) (fun _ => ?_) (fun g => absurd g (by decide))
      refine lv_iconst (v := 0) hx hb dX10_chooses_54 (by decide) ?_
      exact ret_i (v := 0) hx hb hr hlocks hS hP hD dX10_chooses_55 rfl (Nat.le_of_ble_eq_true rfl) (Nat.le_of_ble_eq_true rfl) ⟨F6, r1, p0, 0, (SAME.up eF6 (SAME.up eF5 (SAME.up eF4 SAME.rf (by decide)) (by decide)) (by decide)), (get_ne eF6 (by decide) (get_ne eF5 (by decide) (get_eq eF4))), t2, (get_ne eF6 (by decide) (get_eq eF5)), i_p0, (get_eq eF6), (show 0 ≤ (0 : Int32).toInt ∧ (0 : Int32).toInt ≤ 1 by decide), (show 0 ≤ (0 : Int32).toInt ∧ (0 : Int32).toInt ≤ 1 by decide), rfl⟩
  · have dc7 : p3.toInt = 0 := eq_i (a := p3.toInt) (b := 0) rfl rfl c7
    have k55 : 0 ≤ p3.toInt ∧ p3.toInt ≤ 0 := ⟨i_p3.1, Int.le_trans (Int.le_of_eq dc7) (Int.le_refl _)⟩
    refine lv_iconst (v := 1) hx hb dX10_chooses_26 (by decide) ?_
    exact ret_i (v := 1) hx hb hr hlocks hS hP hD dX10_chooses_27 rfl (Nat.le_of_ble_eq_true rfl) (Nat.le_of_ble_eq_true rfl) ⟨F6, r1, p0, 0, (SAME.up eF6 (SAME.up eF5 (SAME.up eF4 SAME.rf (by decide)) (by decide)) (by decide)), (get_ne eF6 (by decide) (get_ne eF5 (by decide) (get_eq eF4))), t2, (get_ne eF6 (by decide) (get_eq eF5)), i_p0, (get_eq eF6), (show 0 ≤ (0 : Int32).toInt ∧ (0 : Int32).toInt ≤ 1 by decide), (show 0 ≤ (1 : Int32).toInt ∧ (1 : Int32).toInt ≤ 1 by decide), rfl⟩
set_option maxHeartbeats 4000000 in
set_option maxRecDepth 100000 in
theorem m_X10_choices (l : Launch) (D : va_G) (cI cJ cB cP cM cZ : ClassId) (h0 : Nat) (h_s : Nat) (h_stateBy : Nat) (h_timeOf : Nat) (Fh : Nat → Value) (x_choicePace : Int32) (x_choiceSet : Int32) (x_choiceAhead : Int32) (f_s : Nat → Int32) (f_stateBy : Nat → Int32) (f_timeOf : Nat → Int32) (bs : Nat → Int32) (sz : Nat) (e_s : Fh 6 = .ref h_s) (e_choicePace : Fh 46 = .int x_choicePace) (e_choiceSet : Fh 47 = .int x_choiceSet) (e_choiceAhead : Fh 48 = .int x_choiceAhead) (e_stateBy : Fh 49 = .ref h_stateBy) (e_timeOf : Fh 50 = .ref h_timeOf) (s_s_K0 : KW 0 f_s) (s_s_US : US bs f_s) (s_s_0 : SG 0 0 0 40 f_s) (s_s_105 : SG 105 108 0 11 f_s) (s_s_114 : SG 114 114 0 5 f_s) (s_s_130 : SG 130 133 0 11 f_s) (s_s_139 : SG 139 139 0 5 f_s) (s_s_153 : SG 153 153 0 44 f_s) (s_s_44 : SG 44 55 0 9 f_s) (s_s_5 : SG 5 5 0 12 f_s) (s_s_6 : SG 6 6 0 12 f_s) (s_s_7 : SG 7 7 0 6 f_s) (s_stateBy_0 : SG 0 38559 (-1) 7711 f_stateBy) (s_timeOf_0 : SG 0 38559 0 300 f_timeOf) : CV l yX10_choices cX10_choices 4 none { frames := 4, cells := 0, slots := 0, locals := 93 } (GG D cI cJ cB cP cM cZ) D [(h0, .inr (10, vL 67 Fh)), (h_s, .inl (cI, 335, .inl f_s)), (h_stateBy, .inl (cI, 38560, .inl f_stateBy)), (h_timeOf, .inl (cI, 38560, .inl f_timeOf))] sz [.ref h0] (fun (u : va_W) => ∃ (Gh : Nat → Value) (y_choicePace : Int32) (y_choiceSet : Int32) (y_choiceAhead : Int32) (g_stateBy : Nat → Int32) (g_timeOf : Nat → Int32), SAME [46, 47, 48] Fh Gh ∧ Gh 46 = .int y_choicePace ∧ Gh 47 = .int y_choiceSet ∧ Gh 48 = .int y_choiceAhead ∧ SG 0 38559 (-1) 7711 g_stateBy ∧ SG 0 38559 0 300 g_timeOf ∧ u = [(h0, .inr (10, vL 67 Gh)), (h_s, .inl (cI, 335, .inl f_s)), (h_stateBy, .inl (cI, 38560, .inl g_stateBy)), (h_timeOf, .inl (cI, 38560, .inl g_timeOf))]) := by
  refine CV_mk (by decide) (Nat.le_of_ble_eq_true rfl) ?_
  intro p e s m below meth c A ls E hAe hG hsz hP hD hA hS hl
  obtain ⟨hx, hb, hr, hw, hown, hlocks, hml, hnm⟩ := E
  have hK := hG.1
  have hl : lv_has ls 4 [(0, .ref h0)] := hl
  refine lv_iconst (v := 0) hx hb dX10_choices_0 (by decide) ?_
  refine lv_istore_n (lv' := [(1, .int 0), (0, .ref h0)]) hx hb dX10_choices_1 rfl hl (by decide) rfl (fun ls hl => ?_)
  refine mloop (α := (Int32) × (Nat → Value) × (Int32) × (Int32) × (Int32) × (Nat → Int32) × (Nat → Int32)) (nL := 4) (D := D) (A := A) (H0 := s.heap) (fun a => (7712 - a.1.toInt).toNat) (fun a => IR 0 7712 a.1 ∧ SAME [46, 47, 48] Fh a.2.1 ∧ a.2.1 46 = .int a.2.2.1 ∧ a.2.1 47 = .int a.2.2.2.1 ∧ a.2.1 48 = .int a.2.2.2.2.1 ∧ SG 0 38559 (-1) 7711 a.2.2.2.2.2.1 ∧ SG 0 38559 0 300 a.2.2.2.2.2.2) (fun a => [(h0, .inr (10, vL 67 a.2.1)), (h_s, .inl (cI, 335, .inl f_s)), (h_stateBy, .inl (cI, 38560, .inl a.2.2.2.2.2.1)), (h_timeOf, .inl (cI, 38560, .inl a.2.2.2.2.2.2))]) (fun a => [(1, .int a.1), (0, .ref h0)]) (fun H locs ls => W p l e ({ frames := 4, cells := 0, slots := 0, locals := 93 } : Room) s m [.ref h0].toArray below meth c H locs 0 0 (MQ below (va_Qv (fun (u : va_W) => ∃ (Gh : Nat → Value) (y_choicePace : Int32) (y_choiceSet : Int32) (y_choiceAhead : Int32) (g_stateBy : Nat → Int32) (g_timeOf : Nat → Int32), SAME [46, 47, 48] Fh Gh ∧ Gh 46 = .int y_choicePace ∧ Gh 47 = .int y_choiceSet ∧ Gh 48 = .int y_choiceAhead ∧ SG 0 38559 (-1) 7711 g_stateBy ∧ SG 0 38559 0 300 g_timeOf ∧ u = [(h0, .inr (10, vL 67 Gh)), (h_s, .inl (cI, 335, .inl f_s)), (h_stateBy, .inl (cI, 38560, .inl g_stateBy)), (h_timeOf, .inl (cI, 38560, .inl g_timeOf))]) (PO D A) A) [.ref h0].toArray s 0 0 A) (F0 m 2 ls [])) ?_ (0, Fh, x_choicePace, x_choiceSet, x_choiceAhead, f_stateBy, f_timeOf) ⟨(show 0 ≤ (0 : Int32).toInt ∧ (0 : Int32).toInt ≤ 7712 by decide), SAME.rf, e_choicePace, e_choiceSet, e_choiceAhead, s_stateBy_0, s_timeOf_0⟩ _ _ _ hP hD hS hl
  rintro ⟨u1, G2, u3, u4, u5, w6, w7⟩ ⟨i8, i9, i10, i11, i12, i13, i14⟩ ih H locs ls hP hD hS hl
  have i8 : 0 ≤ u1.toInt ∧ u1.toInt ≤ 7712 := i8
  have hP : va_P D vwCl [(h0, .inr (10, vL 67 G2)), (h_s, .inl (cI, 335, .inl f_s)), (h_stateBy, .inl (cI, 38560, .inl w6)), (h_timeOf, .inl (cI, 38560, .inl w7))] H := hP
  have hD : va_D A [(h0, .inr (10, vL 67 G2)), (h_s, .inl (cI, 335, .inl f_s)), (h_stateBy, .inl (cI, 38560, .inl w6)), (h_timeOf, .inl (cI, 38560, .inl w7))] := hD
  have hl : lv_has ls 4 [(1, .int u1), (0, .ref h0)] := hl
  refine lv_iload_n hx hb dX10_choices_2 rfl (lv_at hl 0 rfl) ?_
  refine lv_sipush (v := 7712) hx hb dX10_choices_3 (by decide) ?_
  refine lv_icmp_ge (tgt := 108) hx hb dX10_choices_6 (by decide) (fun c15 => ?_) (fun c15 => ?_)
  · have dc15 : 7712 ≤ u1.toInt := le_i (a := 7712) (b := u1.toInt) rfl rfl c15
    have k16 : 7712 ≤ u1.toInt ∧ u1.toInt ≤ 7712 := ⟨Int.le_trans (Int.le_refl _) dc15, i8.2⟩
    exact ret_v hx hb hr hlocks hS hP hD dX10_choices_108 (Nat.le_of_ble_eq_true rfl) (Nat.le_of_ble_eq_true rfl) ⟨G2, u3, u4, u5, w6, w7, (SAME.tr SAME.rf i9 (by decide)), i10, i11, i12, i13, i14, rfl⟩
  · have dc15 : u1.toInt < 7712 := nle_i (a := 7712) (b := u1.toInt) rfl rfl c15
    have k17 : 0 ≤ u1.toInt ∧ u1.toInt ≤ 7711 := ⟨i8.1, up_lt dc15 (Int.le_refl _) (by decide)⟩
    refine lv_iconst (v := 0) hx hb dX10_choices_9 (by decide) ?_
    refine lv_istore_n (lv' := [(2, .int 0), (1, .int u1), (0, .ref h0)]) hx hb dX10_choices_10 rfl hl (by decide) rfl (fun ls hl => ?_)
    refine mloop (α := (Int32) × (Nat → Value) × (Int32) × (Int32) × (Int32) × (Nat → Int32) × (Nat → Int32)) (nL := 4) (D := D) (A := A) (H0 := s.heap) (fun a => (5 - a.1.toInt).toNat) (fun a => IR 0 5 a.1 ∧ SAME [46, 47, 48] G2 a.2.1 ∧ a.2.1 46 = .int a.2.2.1 ∧ a.2.1 47 = .int a.2.2.2.1 ∧ a.2.1 48 = .int a.2.2.2.2.1 ∧ SG 0 38559 (-1) 7711 a.2.2.2.2.2.1 ∧ SG 0 38559 0 300 a.2.2.2.2.2.2) (fun a => [(h0, .inr (10, vL 67 a.2.1)), (h_s, .inl (cI, 335, .inl f_s)), (h_stateBy, .inl (cI, 38560, .inl a.2.2.2.2.2.1)), (h_timeOf, .inl (cI, 38560, .inl a.2.2.2.2.2.2))]) (fun a => [(2, .int a.1), (1, .int u1), (0, .ref h0)]) (fun H locs ls => W p l e ({ frames := 4, cells := 0, slots := 0, locals := 93 } : Room) s m [.ref h0].toArray below meth c H locs 0 0 (MQ below (va_Qv (fun (u : va_W) => ∃ (Gh : Nat → Value) (y_choicePace : Int32) (y_choiceSet : Int32) (y_choiceAhead : Int32) (g_stateBy : Nat → Int32) (g_timeOf : Nat → Int32), SAME [46, 47, 48] Fh Gh ∧ Gh 46 = .int y_choicePace ∧ Gh 47 = .int y_choiceSet ∧ Gh 48 = .int y_choiceAhead ∧ SG 0 38559 (-1) 7711 g_stateBy ∧ SG 0 38559 0 300 g_timeOf ∧ u = [(h0, .inr (10, vL 67 Gh)), (h_s, .inl (cI, 335, .inl f_s)), (h_stateBy, .inl (cI, 38560, .inl g_stateBy)), (h_timeOf, .inl (cI, 38560, .inl g_timeOf))]) (PO D A) A) [.ref h0].toArray s 0 0 A) (F0 m 11 ls [])) ?_ (0, G2, u3, u4, u5, w6, w7) ⟨(show 0 ≤ (0 : Int32).toInt ∧ (0 : Int32).toInt ≤ 5 by decide), SAME.rf, i10, i11, i12, i13, i14⟩ _ _ _ hP hD hS hl
    rintro ⟨u18, G19, u20, u21, u22, w23, w24⟩ ⟨i25, i26, i27, i28, i29, i30, i31⟩ ih_11 H locs ls hP hD hS hl
    have i25 : 0 ≤ u18.toInt ∧ u18.toInt ≤ 5 := i25
    have hP : va_P D vwCl [(h0, .inr (10, vL 67 G19)), (h_s, .inl (cI, 335, .inl f_s)), (h_stateBy, .inl (cI, 38560, .inl w23)), (h_timeOf, .inl (cI, 38560, .inl w24))] H := hP
    have hD : va_D A [(h0, .inr (10, vL 67 G19)), (h_s, .inl (cI, 335, .inl f_s)), (h_stateBy, .inl (cI, 38560, .inl w23)), (h_timeOf, .inl (cI, 38560, .inl w24))] := hD
    have hl : lv_has ls 4 [(2, .int u18), (1, .int u1), (0, .ref h0)] := hl
    refine lv_iload_n hx hb dX10_choices_11 rfl (lv_at hl 0 rfl) ?_
    refine lv_iconst (v := 5) hx hb dX10_choices_12 (by decide) ?_
    refine lv_icmp_ge (tgt := 102) hx hb dX10_choices_13 (by decide) (fun c32 => ?_) (fun c32 => ?_)
    · have dc32 : 5 ≤ u18.toInt := le_i (a := 5) (b := u18.toInt) rfl rfl c32
      have k33 : 5 ≤ u18.toInt ∧ u18.toInt ≤ 5 := ⟨Int.le_trans (Int.le_refl _) dc32, i25.2⟩
      obtain ⟨v34, ev34⟩ : ∃ z : Int32, z = u1 + 1 := ⟨_, rfl⟩
      have bv34 : v34.toInt = u1.toInt + 1 := by rw [ev34]; exact add_k rfl rfl k17 ⟨Int.le_refl _, Int.le_refl _⟩ (by decide)
      have k35 : 1 ≤ v34.toInt ∧ v34.toInt ≤ 7712 := add_r bv34 k17 ⟨Int.le_refl _, Int.le_refl _⟩ (by decide)
      refine lv_iinc (v := v34) (lv' := [(1, .int v34), (2, .int u18), (0, .ref h0)]) hx hb dX10_choices_102 hl (k := 1) rfl (by rw [ev34]; rfl) (by decide) rfl (fun ls hl => ?_)
      refine lv_goto (tgt := 2) hx hb dX10_choices_105 (by decide) ?_
      exact ih (v34, G19, u20, u21, u22, w23, w24) ⟨(ir_wk k35 (by decide) (by decide)), (SAME.tr (SAME.tr SAME.rf i9 (by decide)) i26 (by decide)), i27, i28, i29, i30, i31⟩ (by show (7712 - v34.toInt).toNat < (7712 - u1.toInt).toNat; omega) _ _ _ hP hD hS (lv_sub hl [0, 2] rfl)
    · have dc32 : u18.toInt < 5 := nle_i (a := 5) (b := u18.toInt) rfl rfl c32
      have k36 : 0 ≤ u18.toInt ∧ u18.toInt ≤ 4 := ⟨i25.1, up_lt dc32 (Int.le_refl _) (by decide)⟩
      refine lv_aload_n hx hb dX10_choices_16 rfl (lv_at hl 2 rfl) ?_
      refine lv_iload_n hx hb dX10_choices_17 rfl (lv_at hl 1 rfl) ?_
      refine lv_sipush (v := 241) hx hb dX10_choices_18 (by decide) ?_
      refine lv_idiv hx hb dX10_choices_21 (by decide) ?_
      refine lv_topi (fun v37 ev37 => ?_)
      have bv37 : v37.toInt = u1.toInt / 241 := by rw [ev37]; exact div_i rfl rfl (Int.le_trans (by decide) k17.1) (by decide)
      have k38 : 0 ≤ v37.toInt ∧ v37.toInt ≤ 31 := div_r bv37 k17 (by decide)
      refine lv_iconst (v := 2) hx hb dX10_choices_22 (by decide) ?_
      refine lv_idiv hx hb dX10_choices_23 (by decide) ?_
      refine lv_topi (fun v39 ev39 => ?_)
      have bv39 : v39.toInt = v37.toInt / 2 := by rw [ev39]; exact div_i rfl rfl (Int.le_trans (by decide) k38.1) (by decide)
      have k40 : 0 ≤ v39.toInt ∧ v39.toInt ≤ 15 := div_r bv39 k38 (by decide)
      refine lv_iload_n hx hb dX10_choices_24 rfl (lv_at hl 1 rfl) ?_
      refine lv_sipush (v := 241) hx hb dX10_choices_25 (by decide) ?_
      refine lv_idiv hx hb dX10_choices_28 (by decide) ?_
      refine lv_ci (y := v37) ev37.symm ?_
      refine lv_iconst (v := 2) hx hb dX10_choices_29 (by decide) ?_
      refine lv_irem hx hb dX10_choices_30 (by decide) ?_
      refine lv_topi (fun v41 ev41 => ?_)
      have bv41 : v41.toInt = v37.toInt % 2 := by rw [ev41]; exact rem_i rfl rfl (Int.le_trans (by decide) k38.1) (by decide)
      have k42 : 0 ≤ v41.toInt ∧ v41.toInt ≤ 1 := rem_r bv41 (by decide)
      refine lv_bipush (v := 10) hx hb dX10_choices_31 (by decide) ?_
      refine lv_iload_n hx hb dX10_choices_33 rfl (lv_at hl 1 rfl) ?_
      refine lv_sipush (v := 241) hx hb dX10_choices_34 (by decide) ?_
      refine lv_irem hx hb dX10_choices_37 (by decide) ?_
      refine lv_topi (fun v43 ev43 => ?_)
      have bv43 : v43.toInt = u1.toInt % 241 := by rw [ev43]; exact rem_i rfl rfl (Int.le_trans (by decide) k17.1) (by decide)
      have k44 : 0 ≤ v43.toInt ∧ v43.toInt ≤ 240 := rem_r bv43 (by decide)
      refine lv_iadd hx hb dX10_choices_38 ?_
      refine lv_topi (fun v45 ev45 => ?_)
      have bv45 : v45.toInt = 10 + v43.toInt := by rw [ev45]; exact add_k rfl rfl ⟨Int.le_refl _, Int.le_refl _⟩ k44 (by decide)
      have k46 : 10 ≤ v45.toInt ∧ v45.toInt ≤ 250 := add_r bv45 ⟨Int.le_refl _, Int.le_refl _⟩ k44 (by decide)
      refine lv_iload_n hx hb dX10_choices_39 rfl (lv_at hl 0 rfl) ?_
      have n47 : G2 6 = .ref h_s := (SAME.at i9 (by decide) e_s)
      have n48 : G19 6 = .ref h_s := (SAME.at i26 (by decide) n47)
      refine call_Vi (wr := [(h_stateBy, .inl (cI, 38560, .inl w23)), (h_timeOf, .inl (cI, 38560, .inl w24))]) (As := [.int v39, .int v41, .int v45, .int u18]) (rest := []) hx hb hml hown hw (m_X10_chooses l D cI cJ cB cP cM cZ h0 h_s G19 f_s v39 v41 v45 u18 bs _ n48 s_s_K0 s_s_US s_s_0 s_s_105 s_s_114 s_s_130 s_s_139 s_s_153 s_s_44 s_s_5 s_s_6 s_s_7 k40 k42 k46 k36) wV_X10_386_X10_chooses dX10_choices_40 hK hP hD hS hA [0, 1] [2, 3] rfl rfl (by decide) (by decide) (by decide) 0 10 rfl rfl GG.fb hG.at hl.1 rfl (Nat.le_of_ble_eq_true rfl) ⟨(Nat.le_of_ble_eq_true rfl), (Nat.le_of_ble_eq_true rfl)⟩ ⟨(Nat.le_of_ble_eq_true rfl), (Nat.le_of_ble_eq_true rfl)⟩ (fun r49 u H locs hp hP hD hS => ?_)
      obtain ⟨F50, y51, y52, y53, t54, t55, t56, t57, t58, t59, t60, t61, rfl⟩ := hp
      have hP : va_P D vwCl [(h_stateBy, .inl (cI, 38560, .inl w23)), (h_timeOf, .inl (cI, 38560, .inl w24)), (h0, .inr (10, vL 67 F50)), (h_s, .inl (cI, 335, .inl f_s))] H := hP
      have hD : va_D A [(h_stateBy, .inl (cI, 38560, .inl w23)), (h_timeOf, .inl (cI, 38560, .inl w24)), (h0, .inr (10, vL 67 F50)), (h_s, .inl (cI, 335, .inl f_s))] := hD
      refine W.widen (k := 0) (n := 0) (Nat.le_of_ble_eq_true rfl) (Nat.le_of_ble_eq_true rfl) ?_
      refine lv_istore_n (lv' := [(3, .int r49), (2, .int u18), (1, .int u1), (0, .ref h0)]) hx hb dX10_choices_43 rfl hl (by decide) rfl (fun ls hl => ?_)
      refine lv_aload_n hx hb dX10_choices_44 rfl (lv_at hl 3 rfl) ?_
      have n63 : G2 49 = .ref h_stateBy := (SAME.at i9 (by decide) e_stateBy)
      have n64 : G19 49 = .ref h_stateBy := (SAME.at i26 (by decide) n63)
      have n65 : F50 49 = .ref h_stateBy := (SAME.at t54 (by decide) n64)
      refine get_f (D := D) (ci := 10) (v := .ref h_stateBy) (C := RX10) (T := TX10) (N := 67) hx hb hw inAX10 hown hK hP 2 rfl rfl 49 (by decide) (hw _ q_1310) (fun _ h9 => h9) n65 dX10_choices_45 ?_
      refine lv_iconst (v := 5) hx hb dX10_choices_48 (by decide) ?_
      refine lv_iload_n hx hb dX10_choices_49 rfl (lv_at hl 2 rfl) ?_
      refine lv_imul hx hb dX10_choices_50 ?_
      refine lv_topi (fun v66 ev66 => ?_)
      have bv66 : v66.toInt = 5 * u1.toInt := by rw [ev66]; exact kmul_k rfl rfl (by decide) k17 (by decide)
      have k67 : 0 ≤ v66.toInt ∧ v66.toInt ≤ 38555 := kmul_r bv66 (by decide) k17 (by decide)
      refine lv_iload_n hx hb dX10_choices_51 rfl (lv_at hl 1 rfl) ?_
      refine lv_iadd hx hb dX10_choices_52 ?_
      refine lv_topi (fun v68 ev68 => ?_)
      have bv68 : v68.toInt = v66.toInt + u18.toInt := by rw [ev68]; exact add_k rfl rfl k67 k36 (by decide)
      have k69 : 0 ≤ v68.toInt ∧ v68.toInt ≤ 38559 := add_r bv68 k67 k36 (by decide)
      refine lv_iload_n hx hb dX10_choices_53 rfl (lv_at hl 0 rfl) ?_
      refine lv_if_eq (tgt := 76) hx hb dX10_choices_54 (by decide) (fun c70 => ?_) (fun c70 => ?_)
      · have dc70 : r49.toInt = 0 := eq_i (a := r49.toInt) (b := 0) rfl rfl c70
        have k71 : 0 ≤ r49.toInt ∧ r49.toInt ≤ 0 := ⟨t61.1, Int.le_trans (Int.le_of_eq dc70) (Int.le_refl _)⟩
        refine lv_iconst (v := (-1)) hx hb dX10_choices_76 (by decide) ?_
        obtain ⟨g72, eg72⟩ : ∃ z : Nat → Int32, upd w23 v68.toNatClampNeg (-1) = z := ⟨_, rfl⟩
        have r73 : SG 0 38559 (-1) 7711 g72 := by rw [← eg72]; exact i30.up (Int.le_trans (by decide) k69.1) (Or.inr (Or.inr ⟨by decide, by decide⟩))
        refine iast_g hx hb hK hP hD hS 0 0 rfl rfl (ix_k k69 (by decide) (by decide)) eg72 dX10_choices_77 (fun H locs hP hD hS => ?_)
        have hP : va_P D vwCl [(h_stateBy, .inl (cI, 38560, .inl g72)), (h_timeOf, .inl (cI, 38560, .inl w24)), (h0, .inr (10, vL 67 F50)), (h_s, .inl (cI, 335, .inl f_s))] H := hP
        have hD : va_D A [(h_stateBy, .inl (cI, 38560, .inl g72)), (h_timeOf, .inl (cI, 38560, .inl w24)), (h0, .inr (10, vL 67 F50)), (h_s, .inl (cI, 335, .inl f_s))] := hD
        refine lv_aload_n hx hb dX10_choices_78 rfl (lv_at hl 3 rfl) ?_
        have n74 : G2 50 = .ref h_timeOf := (SAME.at i9 (by decide) e_timeOf)
        have n75 : G19 50 = .ref h_timeOf := (SAME.at i26 (by decide) n74)
        have n76 : F50 50 = .ref h_timeOf := (SAME.at t54 (by decide) n75)
        refine get_f (D := D) (ci := 10) (v := .ref h_timeOf) (C := RX10) (T := TX10) (N := 67) hx hb hw inAX10 hown hK hP 2 rfl rfl 50 (by decide) (hw _ q_1311) (fun _ h9 => h9) n76 dX10_choices_79 ?_
        refine lv_iconst (v := 5) hx hb dX10_choices_82 (by decide) ?_
        refine lv_iload_n hx hb dX10_choices_83 rfl (lv_at hl 2 rfl) ?_
        refine lv_imul hx hb dX10_choices_84 ?_
        refine lv_ci (y := v66) ev66.symm ?_
        refine lv_iload_n hx hb dX10_choices_85 rfl (lv_at hl 1 rfl) ?_
        refine lv_iadd hx hb dX10_choices_86 ?_
        refine lv_ci (y := v68) ev68.symm ?_
        refine lv_sipush (v := 3000) hx hb dX10_choices_87 (by decide) ?_
        refine lv_aload_n hx hb dX10_choices_90 rfl (lv_at hl 3 rfl) ?_
        refine get_f (D := D) (ci := 10) (v := .int y51) (C := RX10) (T := TX10) (N := 67) hx hb hw inAX10 hown hK hP 2 rfl rfl 46 (by decide) (hw _ q_1307) (fun _ h9 => h9) t55 dX10_choices_91 ?_
        refine lv_idiv hx hb dX10_choices_94 (nz_k t56 (by decide)) ?_
        refine lv_topi (fun v77 ev77 => ?_)
        have k78 : 0 ≤ v77.toInt ∧ v77.toInt ≤ 300 := by rw [ev77]; exact divv_k (Int.le_trans (by decide) (Int.le_refl _)) (Int.le_refl _) t56.1 (by decide)
        obtain ⟨g79, eg79⟩ : ∃ z : Nat → Int32, upd w24 v68.toNatClampNeg v77 = z := ⟨_, rfl⟩
        have r80 : SG 0 38559 0 300 g79 := by rw [← eg79]; exact i31.up (Int.le_trans (by decide) k69.1) (Or.inr (Or.inr (ir_wk k78 (by decide) (by decide))))
        refine iast_g hx hb hK hP hD hS 1 0 rfl rfl (ix_k k69 (by decide) (by decide)) eg79 dX10_choices_95 (fun H locs hP hD hS => ?_)
        have hP : va_P D vwCl [(h_stateBy, .inl (cI, 38560, .inl g72)), (h_timeOf, .inl (cI, 38560, .inl g79)), (h0, .inr (10, vL 67 F50)), (h_s, .inl (cI, 335, .inl f_s))] H := hP
        have hD : va_D A [(h_stateBy, .inl (cI, 38560, .inl g72)), (h_timeOf, .inl (cI, 38560, .inl g79)), (h0, .inr (10, vL 67 F50)), (h_s, .inl (cI, 335, .inl f_s))] := hD
        obtain ⟨v81, ev81⟩ : ∃ z : Int32, z = u18 + 1 := ⟨_, rfl⟩
        have bv81 : v81.toInt = u18.toInt + 1 := by rw [ev81]; exact add_k rfl rfl k36 ⟨Int.le_refl _, Int.le_refl _⟩ (by decide)
        have k82 : 1 ≤ v81.toInt ∧ v81.toInt ≤ 5 := add_r bv81 k36 ⟨Int.le_refl _, Int.le_refl _⟩ (by decide)
        refine lv_iinc (v := v81) (lv' := [(2, .int v81), (3, .int r49), (1, .int u1), (0, .ref h0)]) hx hb dX10_choices_96 hl (k := 1) rfl (by rw [ev81]; rfl) (by decide) rfl (fun ls hl => ?_)
        refine lv_goto (tgt := 11) hx hb dX10_choices_99 (by decide) ?_
        exact ih_11 (v81, F50, y51, y52, y53, g72, g79) ⟨(ir_wk k82 (by decide) (by decide)), (SAME.tr (SAME.tr SAME.rf i26 (by decide)) t54 (by decide)), t55, t57, t59, r73, r80⟩ (by show (5 - v81.toInt).toNat < (5 - u18.toInt).toNat; omega) _ _ _ (hP.sub [2, 3, 0, 1] rfl) (hD.sub [2, 3, 0, 1] (by decide) rfl) hS (lv_sub hl [0, 2, 3] rfl)
      · have dc70 : r49.toInt ≠ 0 := ne_i (a := r49.toInt) (b := 0) rfl rfl c70
        have k83 : 1 ≤ r49.toInt ∧ r49.toInt ≤ 1 := ⟨ne_lo dc70 t61.1 ⟨Int.le_refl _, Int.le_refl _⟩ (by decide), t61.2⟩
        refine lv_iconst (v := 0) hx hb dX10_choices_57 (by decide) ?_
        refine lv_aload_n hx hb dX10_choices_58 rfl (lv_at hl 3 rfl) ?_
        refine get_f (D := D) (ci := 10) (v := .int y52) (C := RX10) (T := TX10) (N := 67) hx hb hw inAX10 hown hK hP 2 rfl rfl 47 (by decide) (hw _ q_1308) (fun _ h9 => h9) t57 dX10_choices_59 ?_
        refine lv_aload_n hx hb dX10_choices_62 rfl (lv_at hl 3 rfl) ?_
        refine get_f (D := D) (ci := 10) (v := .int y53) (C := RX10) (T := TX10) (N := 67) hx hb hw inAX10 hown hK hP 2 rfl rfl 48 (by decide) (hw _ q_1309) (fun _ h9 => h9) t59 dX10_choices_63 ?_
        refine lv_aload_n hx hb dX10_choices_66 rfl (lv_at hl 3 rfl) ?_
        refine get_f (D := D) (ci := 10) (v := .int y51) (C := RX10) (T := TX10) (N := 67) hx hb hw inAX10 hown hK hP 2 rfl rfl 46 (by decide) (hw _ q_1307) (fun _ h9 => h9) t55 dX10_choices_67 ?_
        refine call_Si (wr := [(h_stateBy, .inl (cI, 38560, .inl w23)), (h_timeOf, .inl (cI, 38560, .inl w24)), (h0, .inr (10, vL 67 F50)), (h_s, .inl (cI, 335, .inl f_s))]) (As := [.int 0, .int y52, .int y53, .int y51]) (rest := [.int v68, .ref h_stateBy]) hx hb hml hown hw (m_X10_slot l D cI cJ cB cP cM cZ 0 y52 y53 y51 _ (show 0 ≤ (0 : Int32).toInt ∧ (0 : Int32).toInt ≤ 40 by decide) t58 t60 t56) wS_X10_390_X10_slot dX10_choices_70 hP hD hS hA [] [0, 1, 2, 3] rfl rfl (by decide) (by decide) (by decide) GG.fb hG.at hl.1 rfl (Nat.le_of_ble_eq_true rfl) ⟨(Nat.le_of_ble_eq_true rfl), (Nat.le_of_ble_eq_true rfl)⟩ ⟨(Nat.le_of_ble_eq_true rfl), (Nat.le_of_ble_eq_true rfl)⟩ (fun r84 u H locs hp hP hD hS => ?_)
        have zl0 : (0 : Int32).toInt = 0 := by decide
        obtain ⟨t85, t86, rfl⟩ := hp
        have hP : va_P D vwCl [(h_stateBy, .inl (cI, 38560, .inl w23)), (h_timeOf, .inl (cI, 38560, .inl w24)), (h0, .inr (10, vL 67 F50)), (h_s, .inl (cI, 335, .inl f_s))] H := hP
        have hD : va_D A [(h_stateBy, .inl (cI, 38560, .inl w23)), (h_timeOf, .inl (cI, 38560, .inl w24)), (h0, .inr (10, vL 67 F50)), (h_s, .inl (cI, 335, .inl f_s))] := hD
        refine W.widen (k := 0) (n := 0) (Nat.le_of_ble_eq_true rfl) (Nat.le_of_ble_eq_true rfl) ?_
        have k88 : 0 ≤ r84.toInt ∧ r84.toInt ≤ 7711 := ⟨by omega, by omega⟩
        refine lv_goto (tgt := 77) hx hb dX10_choices_73 (by decide) ?_
        obtain ⟨g89, eg89⟩ : ∃ z : Nat → Int32, upd w23 v68.toNatClampNeg r84 = z := ⟨_, rfl⟩
        have r90 : SG 0 38559 (-1) 7711 g89 := by rw [← eg89]; exact i30.up (Int.le_trans (by decide) k69.1) (Or.inr (Or.inr (ir_wk k88 (by decide) (by decide))))
        refine iast_g hx hb hK hP hD hS 0 0 rfl rfl (ix_k k69 (by decide) (by decide)) eg89 dX10_choices_77 (fun H locs hP hD hS => ?_)
        have hP : va_P D vwCl [(h_stateBy, .inl (cI, 38560, .inl g89)), (h_timeOf, .inl (cI, 38560, .inl w24)), (h0, .inr (10, vL 67 F50)), (h_s, .inl (cI, 335, .inl f_s))] H := hP
        have hD : va_D A [(h_stateBy, .inl (cI, 38560, .inl g89)), (h_timeOf, .inl (cI, 38560, .inl w24)), (h0, .inr (10, vL 67 F50)), (h_s, .inl (cI, 335, .inl f_s))] := hD
        refine lv_aload_n hx hb dX10_choices_78 rfl (lv_at hl 3 rfl) ?_
        have n91 : G2 50 = .ref h_timeOf := (SAME.at i9 (by decide) e_timeOf)
        have n92 : G19 50 = .ref h_timeOf := (SAME.at i26 (by decide) n91)
        have n93 : F50 50 = .ref h_timeOf := (SAME.at t54 (by decide) n92)
        refine get_f (D := D) (ci := 10) (v := .ref h_timeOf) (C := RX10) (T := TX10) (N := 67) hx hb hw inAX10 hown hK hP 2 rfl rfl 50 (by decide) (hw _ q_1311) (fun _ h9 => h9) n93 dX10_choices_79 ?_
        refine lv_iconst (v := 5) hx hb dX10_choices_82 (by decide) ?_
        refine lv_iload_n hx hb dX10_choices_83 rfl (lv_at hl 2 rfl) ?_
        refine lv_imul hx hb dX10_choices_84 ?_
        refine lv_ci (y := v66) ev66.symm ?_
        refine lv_iload_n hx hb dX10_choices_85 rfl (lv_at hl 1 rfl) ?_
        refine lv_iadd hx hb dX10_choices_86 ?_
        refine lv_ci (y := v68) ev68.symm ?_
        refine lv_sipush (v := 3000) hx hb dX10_choices_87 (by decide) ?_
        refine lv_aload_n hx hb dX10_choices_90 rfl (lv_at hl 3 rfl) ?_
        refine get_f (D := D) (ci := 10) (v := .int y51) (C := RX10) (T := TX10) (N := 67) hx hb hw inAX10 hown hK hP 2 rfl rfl 46 (by decide) (hw _ q_1307) (fun _ h9 => h9) t55 dX10_choices_91 ?_
        refine lv_idiv hx hb dX10_choices_94 (nz_k t56 (by decide)) ?_
        refine lv_topi (fun v94 ev94 => ?_)
        have k95 : 0 ≤ v94.toInt ∧ v94.toInt ≤ 300 := by rw [ev94]; exact divv_k (Int.le_trans (by decide) (Int.le_refl _)) (Int.le_refl _) t56.1 (by decide)
        obtain ⟨g96, eg96⟩ : ∃ z : Nat → Int32, upd w24 v68.toNatClampNeg v94 = z := ⟨_, rfl⟩
        have r97 : SG 0 38559 0 300 g96 := by rw [← eg96]; exact i31.up (Int.le_trans (by decide) k69.1) (Or.inr (Or.inr (ir_wk k95 (by decide) (by decide))))
        refine iast_g hx hb hK hP hD hS 1 0 rfl rfl (ix_k k69 (by decide) (by decide)) eg96 dX10_choices_95 (fun H locs hP hD hS => ?_)
        have hP : va_P D vwCl [(h_stateBy, .inl (cI, 38560, .inl g89)), (h_timeOf, .inl (cI, 38560, .inl g96)), (h0, .inr (10, vL 67 F50)), (h_s, .inl (cI, 335, .inl f_s))] H := hP
        have hD : va_D A [(h_stateBy, .inl (cI, 38560, .inl g89)), (h_timeOf, .inl (cI, 38560, .inl g96)), (h0, .inr (10, vL 67 F50)), (h_s, .inl (cI, 335, .inl f_s))] := hD
        obtain ⟨v98, ev98⟩ : ∃ z : Int32, z = u18 + 1 := ⟨_, rfl⟩
        have bv98 : v98.toInt = u18.toInt + 1 := by rw [ev98]; exact add_k rfl rfl k36 ⟨Int.le_refl _, Int.le_refl _⟩ (by decide)
        have k99 : 1 ≤ v98.toInt ∧ v98.toInt ≤ 5 := add_r bv98 k36 ⟨Int.le_refl _, Int.le_refl _⟩ (by decide)
        refine lv_iinc (v := v98) (lv' := [(2, .int v98), (3, .int r49), (1, .int u1), (0, .ref h0)]) hx hb dX10_choices_96 hl (k := 1) rfl (by rw [ev98]; rfl) (by decide) rfl (fun ls hl => ?_)
        refine lv_goto (tgt := 11) hx hb dX10_choices_99 (by decide) ?_
        exact ih_11 (v98, F50, y51, y52, y53, g89, g96) ⟨(ir_wk k99 (by decide) (by decide)), (SAME.tr (SAME.tr SAME.rf i26 (by decide)) t54 (by decide)), t55, t57, t59, r90, r97⟩ (by show (5 - v98.toInt).toNat < (5 - u18.toInt).toNat; omega) _ _ _ (hP.sub [2, 3, 0, 1] rfl) (hD.sub [2, 3, 0, 1] (by decide) rfl) hS (lv_sub hl [0, 2, 3] rfl)
def fn_X10_timeBy (f_times : Nat → Int32) (f_stateBy : Nat → Int32) (f_timeOf : Nat → Int32) (p0 : Int32) (p1 : Int32) (p2 : Int32) : Int32 := (if (0 : Int32) ≤ (f_stateBy (((5 : Int32) * p1) + p2).toNatClampNeg) then ((f_timeOf (((5 : Int32) * p1) + p2).toNatClampNeg) + (f_times (((7712 : Int32) * (p0 + (1 : Int32))) + (f_stateBy (((5 : Int32) * p1) + p2).toNatClampNeg)).toNatClampNeg)) else (100000000 : Int32))
set_option maxHeartbeats 4000000 in
set_option maxRecDepth 100000 in
theorem m_X10_timeBy (l : Launch) (D : va_G) (cI cJ cB cP cM cZ : ClassId) (h0 : Nat) (h_times : Nat) (h_stateBy : Nat) (h_timeOf : Nat) (Fh : Nat → Value) (f_times : Nat → Int32) (f_stateBy : Nat → Int32) (f_timeOf : Nat → Int32) (p0 : Int32) (p1 : Int32) (p2 : Int32) (sz : Nat) (e_times : Fh 42 = .ref h_times) (e_stateBy : Fh 49 = .ref h_stateBy) (e_timeOf : Fh 50 = .ref h_timeOf) (s_times_0 : SG 0 316191 0 100000000 f_times) (s_stateBy_0 : SG 0 38559 (-1) 7711 f_stateBy) (s_timeOf_0 : SG 0 38559 0 300 f_timeOf) (i_p0 : IR 0 39 p0) (i_p1 : IR 0 7711 p1) (i_p2 : IR 0 4 p2) : CI l yX10_timeBy cX10_timeBy 5 (some .int) { frames := 0, cells := 0, slots := 0, locals := 0 } (GG D cI cJ cB cP cM cZ) D [(h0, .inr (10, vL 67 Fh)), (h_times, .inl (cI, 316192, .inl f_times)), (h_stateBy, .inl (cI, 38560, .inl f_stateBy)), (h_timeOf, .inl (cI, 38560, .inl f_timeOf))] sz [.ref h0, .int p0, .int p1, .int p2] (fun (r : Int32) (u : va_W) => IR 0 100000300 r ∧ r = fn_X10_timeBy f_times f_stateBy f_timeOf p0 p1 p2 ∧ u = [(h0, .inr (10, vL 67 Fh)), (h_times, .inl (cI, 316192, .inl f_times)), (h_stateBy, .inl (cI, 38560, .inl f_stateBy)), (h_timeOf, .inl (cI, 38560, .inl f_timeOf))]) := by
  refine CI_mk (by decide) (Nat.le_of_ble_eq_true rfl) ?_
  intro p e s m below meth c A ls E hAe hG hsz hP hD hA hS hl
  obtain ⟨hx, hb, hr, hw, hown, hlocks, hml, hnm⟩ := E
  have hK := hG.1
  have i_p0 : 0 ≤ p0.toInt ∧ p0.toInt ≤ 39 := i_p0
  have i_p1 : 0 ≤ p1.toInt ∧ p1.toInt ≤ 7711 := i_p1
  have i_p2 : 0 ≤ p2.toInt ∧ p2.toInt ≤ 4 := i_p2
  have hl : lv_has ls 5 [(0, .ref h0), (1, .int p0), (2, .int p1), (3, .int p2)] := hl
  refine lv_aload_n hx hb dX10_timeBy_0 rfl (lv_at hl 0 rfl) ?_
  refine get_f (D := D) (ci := 10) (v := .ref h_stateBy) (C := RX10) (T := TX10) (N := 67) hx hb hw inAX10 hown hK hP 0 rfl rfl 49 (by decide) (hw _ q_1310) (fun _ h9 => h9) e_stateBy dX10_timeBy_1 ?_
  refine lv_iconst (v := 5) hx hb dX10_timeBy_4 (by decide) ?_
  refine lv_iload_n hx hb dX10_timeBy_5 rfl (lv_at hl 2 rfl) ?_
  refine lv_imul hx hb dX10_timeBy_6 ?_
  refine lv_topi (fun v1 ev1 => ?_)
  have bv1 : v1.toInt = 5 * p1.toInt := by rw [ev1]; exact kmul_k rfl rfl (by decide) i_p1 (by decide)
  have k2 : 0 ≤ v1.toInt ∧ v1.toInt ≤ 38555 := kmul_r bv1 (by decide) i_p1 (by decide)
  refine lv_iload_n hx hb dX10_timeBy_7 rfl (lv_at hl 3 rfl) ?_
  refine lv_iadd hx hb dX10_timeBy_8 ?_
  refine lv_topi (fun v3 ev3 => ?_)
  have bv3 : v3.toInt = v1.toInt + p2.toInt := by rw [ev3]; exact add_k rfl rfl k2 i_p2 (by decide)
  have k4 : 0 ≤ v3.toInt ∧ v3.toInt ≤ 38559 := add_r bv3 k2 i_p2 (by decide)
  refine va_iald hx hb hK hP 2 0 rfl rfl (ix_k k4 (by decide) (by decide)) dX10_timeBy_9 ?_
  refine lv_topi (fun v5 ev5 => ?_)
  have k6 : (-1) ≤ v5.toInt ∧ v5.toInt ≤ 7711 := by rw [ev5]; exact s_stateBy_0.at _ (Int.le_trans (by decide) k4.1) (Int.le_trans k4.2 (by decide))
  refine lv_istore (lv' := [(4, .int v5), (0, .ref h0), (1, .int p0), (2, .int p1), (3, .int p2)]) hx hb dX10_timeBy_10 hl (by decide) rfl (fun ls hl => ?_)
  refine lv_iload hx hb dX10_timeBy_12 (lv_at hl 0 rfl) ?_
  refine lv_if_ge (tgt := 23) hx hb dX10_timeBy_14 (by decide) (fun c7 => ?_) (fun c7 => ?_)
  · have dc7 : 0 ≤ v5.toInt := le_i (a := 0) (b := v5.toInt) rfl rfl c7
    have k8 : 0 ≤ v5.toInt ∧ v5.toInt ≤ 7711 := ⟨Int.le_trans (Int.le_refl _) dc7, k6.2⟩
    refine lv_aload_n hx hb dX10_timeBy_23 rfl (lv_at hl 1 rfl) ?_
    refine get_f (D := D) (ci := 10) (v := .ref h_timeOf) (C := RX10) (T := TX10) (N := 67) hx hb hw inAX10 hown hK hP 0 rfl rfl 50 (by decide) (hw _ q_1311) (fun _ h9 => h9) e_timeOf dX10_timeBy_24 ?_
    refine lv_iconst (v := 5) hx hb dX10_timeBy_27 (by decide) ?_
    refine lv_iload_n hx hb dX10_timeBy_28 rfl (lv_at hl 3 rfl) ?_
    refine lv_imul hx hb dX10_timeBy_29 ?_
    refine lv_ci (y := v1) ev1.symm ?_
    refine lv_iload_n hx hb dX10_timeBy_30 rfl (lv_at hl 4 rfl) ?_
    refine lv_iadd hx hb dX10_timeBy_31 ?_
    refine lv_ci (y := v3) ev3.symm ?_
    refine va_iald hx hb hK hP 3 0 rfl rfl (ix_k k4 (by decide) (by decide)) dX10_timeBy_32 ?_
    refine lv_topi (fun v9 ev9 => ?_)
    have k10 : 0 ≤ v9.toInt ∧ v9.toInt ≤ 300 := by rw [ev9]; exact s_timeOf_0.at _ (Int.le_trans (by decide) k4.1) (Int.le_trans k4.2 (by decide))
    refine lv_aload_n hx hb dX10_timeBy_33 rfl (lv_at hl 1 rfl) ?_
    refine get_f (D := D) (ci := 10) (v := .ref h_times) (C := RX10) (T := TX10) (N := 67) hx hb hw inAX10 hown hK hP 0 rfl rfl 42 (by decide) (hw _ q_1303) (fun _ h9 => h9) e_times dX10_timeBy_34 ?_
    refine lv_sipush (v := 7712) hx hb dX10_timeBy_37 (by decide) ?_
    refine lv_iload_n hx hb dX10_timeBy_40 rfl (lv_at hl 2 rfl) ?_
    refine lv_iconst (v := 1) hx hb dX10_timeBy_41 (by decide) ?_
    refine lv_iadd hx hb dX10_timeBy_42 ?_
    refine lv_topi (fun v11 ev11 => ?_)
    have bv11 : v11.toInt = p0.toInt + 1 := by rw [ev11]; exact add_k rfl rfl i_p0 ⟨Int.le_refl _, Int.le_refl _⟩ (by decide)
    have k12 : 1 ≤ v11.toInt ∧ v11.toInt ≤ 40 := add_r bv11 i_p0 ⟨Int.le_refl _, Int.le_refl _⟩ (by decide)
    refine lv_imul hx hb dX10_timeBy_43 ?_
    refine lv_topi (fun v13 ev13 => ?_)
    have bv13 : v13.toInt = 7712 * v11.toInt := by rw [ev13]; exact kmul_k rfl rfl (by decide) k12 (by decide)
    have k14 : 7712 ≤ v13.toInt ∧ v13.toInt ≤ 308480 := kmul_r bv13 (by decide) k12 (by decide)
    refine lv_iload hx hb dX10_timeBy_44 (lv_at hl 0 rfl) ?_
    refine lv_iadd hx hb dX10_timeBy_46 ?_
    refine lv_topi (fun v15 ev15 => ?_)
    have bv15 : v15.toInt = v13.toInt + v5.toInt := by rw [ev15]; exact add_k rfl rfl k14 k8 (by decide)
    have k16 : 7712 ≤ v15.toInt ∧ v15.toInt ≤ 316191 := add_r bv15 k14 k8 (by decide)
    refine va_iald hx hb hK hP 1 0 rfl rfl (ix_k k16 (by decide) (by decide)) dX10_timeBy_47 ?_
    refine lv_topi (fun v17 ev17 => ?_)
    have k18 : 0 ≤ v17.toInt ∧ v17.toInt ≤ 100000000 := by rw [ev17]; exact s_times_0.at _ (Int.le_trans (by decide) k16.1) (Int.le_trans k16.2 (by decide))
    refine lv_iadd hx hb dX10_timeBy_48 ?_
    refine lv_topi (fun v19 ev19 => ?_)
    have bv19 : v19.toInt = v9.toInt + v17.toInt := by rw [ev19]; exact add_k rfl rfl k10 k18 (by decide)
    have k20 : 0 ≤ v19.toInt ∧ v19.toInt ≤ 100000300 := add_r bv19 k10 k18 (by decide)
    exact ret_i (v := v19) hx hb hr hlocks hS hP hD dX10_timeBy_49 rfl (Nat.le_of_ble_eq_true rfl) (Nat.le_of_ble_eq_true rfl) ⟨k20, (by subst_vars; unfold fn_X10_timeBy; rw [if_pos c7]), rfl⟩
  · have dc7 : v5.toInt < 0 := nle_i (a := 0) (b := v5.toInt) rfl rfl c7
    have k21 : (-1) ≤ v5.toInt ∧ v5.toInt ≤ (-1) := ⟨k6.1, up_lt dc7 (Int.le_refl _) (by decide)⟩
    refine lv_ldcw hx hb hown (hw _ q_1701) dX10_timeBy_17 ?_
    refine lv_goto (tgt := 49) hx hb dX10_timeBy_20 (by decide) ?_
    exact ret_i (v := 100000000) hx hb hr hlocks hS hP hD dX10_timeBy_49 rfl (Nat.le_of_ble_eq_true rfl) (Nat.le_of_ble_eq_true rfl) ⟨(show 0 ≤ (100000000 : Int32).toInt ∧ (100000000 : Int32).toInt ≤ 100000300 by decide), (by subst_vars; unfold fn_X10_timeBy; rw [if_neg c7]), rfl⟩
/-! the table of best() -/
theorem i5_i {st c : Int32} (h1 : 0 ≤ st.toInt ∧ st.toInt ≤ 7711) (h2 : 0 ≤ c.toInt ∧ c.toInt ≤ 4) : ((5 : Int32) * st + c).toInt = 5 * st.toInt + c.toInt :=
  add_i (mul_i (a := 5) rfl rfl (by omega) (by omega)) rfl (by omega) (by omega)
theorem i77_i {y x : Int32} (h1 : 0 ≤ y.toInt ∧ y.toInt ≤ 39) (h2 : 0 ≤ x.toInt ∧ x.toInt ≤ 7711) : ((7712 : Int32) * (y + 1) + x).toInt = 7712 * (y.toInt + 1) + x.toInt :=
  add_i (mul_i (a := 7712) rfl (add_i rfl (b := 1) rfl (by omega) (by omega)) (by omega) (by omega)) rfl (by omega) (by omega)
theorem tb_upd {ti sb to : Nat → Int32} {y st c v : Int32} {k : Nat} (hy : 0 ≤ y.toInt ∧ y.toInt ≤ 39) (hst : 0 ≤ st.toInt ∧ st.toInt ≤ 7711) (hc : 0 ≤ c.toInt ∧ c.toInt ≤ 4) (hs : SG 0 38559 (-1) 7711 sb) (hk : (k : Int) < 7712 * (y.toInt + 1)) : fn_X10_timeBy (upd ti k v) sb to y st c = fn_X10_timeBy ti sb to y st c := by
  unfold fn_X10_timeBy
  have e5 := i5_i hst hc
  by_cases h : (0 : Int32) ≤ sb ((5 : Int32) * st + c).toNatClampNeg
  · rw [if_pos h, if_pos h]
    have h1 := le_i (a := 0) rfl rfl h
    have h2 := hs.at ((5 : Int32) * st + c) (by omega) (by omega)
    have e7 := i77_i (x := sb ((5 : Int32) * st + c).toNatClampNeg) hy ⟨h1, h2.2⟩
    rw [cl_nat (i := (7712 : Int32) * (y + 1) + _), pk_un (by omega)]
  · rw [if_neg h, if_neg h]
def TQ (ti sb to : Nat → Int32) (y st : Int32) : Prop := (ti (7712 * y.toInt + st.toInt).toNat).toInt = 100000000 ∨ ∃ c : Int32, (0 ≤ c.toInt ∧ c.toInt ≤ 4) ∧ ti (7712 * y.toInt + st.toInt).toNat = fn_X10_timeBy ti sb to y st c
def TBL (ti sb to : Nat → Int32) (Y y0 s0 : Int) : Prop := ∀ y st : Int32, 0 ≤ y.toInt → y.toInt < Y → 0 ≤ st.toInt → st.toInt ≤ 7711 → (y0 < y.toInt ∨ (y.toInt = y0 ∧ st.toInt < s0)) → TQ ti sb to y st
theorem TBL.zero {ti sb to : Nat → Int32} {Y y0 : Int} (h : Y ≤ y0 + 1) : TBL ti sb to Y y0 0 := fun y st h1 h2 h3 h4 h5 => by omega
theorem TBL.next {ti sb to : Nat → Int32} {Y y0 s0 y1 : Int} (h : TBL ti sb to Y y0 s0) (hs : 7712 ≤ s0) (ey : y1 = y0 - 1) : TBL ti sb to Y y1 0 := fun y st h1 h2 h3 h4 h5 => h y st h1 h2 h3 h4 (by omega)
theorem TBL.fin {ti sb to : Nat → Int32} {Y y0 Y' : Int} (h : TBL ti sb to Y y0 0) (hy : y0 < 0) (e : Y' = Y) : TBL ti sb to Y' (-1) 0 := fun y st h1 h2 h3 h4 h5 => h y st h1 (by omega) h3 h4 (by omega)
def VQ (ti sb to : Nat → Int32) (y st v : Int32) (c : Int) : Prop := v.toInt = 100000000 ∨ ∃ d : Int32, (0 ≤ d.toInt ∧ d.toInt < c) ∧ v = fn_X10_timeBy ti sb to y st d
theorem VQ.step {ti sb to : Nat → Int32} {y st v t r cv : Int32} {c c' : Int} (h : VQ ti sb to y st v c) (et : t = fn_X10_timeBy ti sb to y st cv) (hl : r.toInt ≤ v.toInt ∧ r.toInt ≤ t.toInt ∧ (r.toInt = v.toInt ∨ r.toInt = t.toInt)) (ecv : cv.toInt = c) (h0 : 0 ≤ c) (ec : c' = c + 1) : VQ ti sb to y st r c' := by
  rcases hl.2.2 with q | q
  · have e : r = v := Int32.toInt_inj.mp q
    subst e
    rcases h with h | ⟨d, hd, e⟩
    · exact Or.inl h
    · exact Or.inr ⟨d, ⟨hd.1, by omega⟩, e⟩
  · have e : r = t := Int32.toInt_inj.mp q
    subst e
    exact Or.inr ⟨cv, ⟨by omega, by omega⟩, et⟩
theorem TBL.step {ti ti' sb to : Nat → Int32} {Y y0 s0 s1 c : Int} {yv sv ix v : Int32} (h : TBL ti sb to Y y0 s0) (e : upd ti ix.toNatClampNeg v = ti') (ey : yv.toInt = y0) (es : sv.toInt = s0) (hix : ix.toInt = 7712 * y0 + s0) (hy : 0 ≤ y0 ∧ y0 ≤ 39) (hY : Y ≤ 40) (hs0 : 0 ≤ s0 ∧ s0 ≤ 7711) (hsb : SG 0 38559 (-1) 7711 sb) (hv : VQ ti sb to yv sv v c) (hc : c ≤ 5) (e1 : s1 = s0 + 1) : TBL ti' sb to Y y0 s1 := by
  subst e
  rw [cl_nat]
  intro y st h1 h2 h3 h4 h5
  by_cases hq : y.toInt = y0 ∧ st.toInt = s0
  · have e1 : y = yv := Int32.toInt_inj.mp (by omega)
    have e2 : st = sv := Int32.toInt_inj.mp (by omega)
    subst e1; subst e2
    have ei : (7712 * y.toInt + st.toInt).toNat = ix.toInt.toNat := by omega
    unfold TQ
    rw [ei, pk_us]
    rcases hv with hv | ⟨d, hd, hv⟩
    · exact Or.inl hv
    · refine Or.inr ⟨d, ⟨hd.1, by omega⟩, ?_⟩
      rw [tb_upd ⟨h1, by omega⟩ ⟨h3, h4⟩ ⟨hd.1, by omega⟩ hsb (by omega)]
      exact hv
  · have hne : (7712 * y.toInt + st.toInt).toNat ≠ ix.toInt.toNat := by omega
    have hh := h y st h1 h2 h3 h4 (by omega)
    unfold TQ at hh ⊢
    rw [pk_un hne]
    rcases hh with hh | ⟨d, hd, hh⟩
    · exact Or.inl hh
    · refine Or.inr ⟨d, hd, ?_⟩
      rw [tb_upd ⟨h1, by omega⟩ ⟨h3, h4⟩ hd hsb (by omega)]
      exact hh
/-- one of the choices from c on is the least -/
def EXC (ti sb to : Nat → Int32) (y st : Int32) (c : Int) : Prop := ∃ d : Int32, (c ≤ d.toInt ∧ 0 ≤ d.toInt ∧ d.toInt ≤ 4) ∧ ti (7712 * y.toInt + st.toInt).toNat = fn_X10_timeBy ti sb to y st d
theorem EXC.of {ti sb to : Nat → Int32} {Y : Int} {y st : Int32} (h : TBL ti sb to Y (-1) 0) (hy : 0 ≤ y.toInt ∧ y.toInt < Y) (hst : 0 ≤ st.toInt ∧ st.toInt ≤ 7711) (hlt : (ti (7712 * y.toInt + st.toInt).toNat).toInt < 100000000) : EXC ti sb to y st 0 := by
  rcases h y st hy.1 hy.2 hst.1 hst.2 (by omega) with q | ⟨d, hd, q⟩
  · omega
  · exact ⟨d, ⟨hd.1, hd.1, hd.2⟩, q⟩
theorem EXC.step {ti sb to : Nat → Int32} {y st t cv x ix : Int32} {c c' : Int} (h : EXC ti sb to y st c) (et : t = fn_X10_timeBy ti sb to y st cv) (ecv : cv.toInt = c) (ex : x = ti ix.toNatClampNeg) (hix : ix.toInt = 7712 * y.toInt + st.toInt) (hne : t.toInt ≠ x.toInt) (ec : c' = c + 1) : EXC ti sb to y st c' := by
  obtain ⟨d, hd, q⟩ := h
  refine ⟨d, ⟨?_, hd.2⟩, q⟩
  by_cases hq : d.toInt = c
  · have e : d = cv := Int32.toInt_inj.mp (by omega)
    subst e
    rw [cl_nat, hix] at ex
    exact absurd (by rw [et, ex, q]) hne
  · omega
theorem EXC.le {ti sb to : Nat → Int32} {y st : Int32} {c : Int} (h : EXC ti sb to y st c) : c ≤ 4 := by
  obtain ⟨d, hd, q⟩ := h
  omega
theorem best_nx {ti sb to : Nat → Int32} {y st t cv x ix v i5 : Int32} (hy : 0 ≤ y.toInt ∧ y.toInt ≤ 39) (hst : 0 ≤ st.toInt ∧ st.toInt ≤ 7711) (hc : 0 ≤ cv.toInt ∧ cv.toInt ≤ 4) (hs : SG 0 38559 (-1) 7711 sb) (ho : SG 0 38559 0 300 to) (hti : SG 0 316191 0 100000000 ti) (et : t = fn_X10_timeBy ti sb to y st cv) (ex : x = ti ix.toNatClampNeg) (hix : ix.toInt = 7712 * y.toInt + st.toInt) (heq : t.toInt = x.toInt) (hlt : (ti (7712 * y.toInt + st.toInt).toNat).toInt < 100000000) (ev : v = sb i5.toNatClampNeg) (hi5 : i5.toInt = 5 * st.toInt + cv.toInt) : 0 ≤ v.toInt ∧ (ti (7712 * (y.toInt + 1) + v.toInt).toNat).toInt < 100000000 := by
  rw [cl_nat, hix] at ex
  have e5 := i5_i hst hc
  have ei : i5 = (5 : Int32) * st + cv := Int32.toInt_inj.mp (by omega)
  subst ei
  rw [← ex, ← heq] at hlt
  unfold fn_X10_timeBy at et
  rw [← ev] at et
  by_cases h : (0 : Int32) ≤ v
  · rw [if_pos h] at et
    have h1 := le_i (a := 0) rfl rfl h
    have h2 := hs.at ((5 : Int32) * st + cv) (by omega) (by omega)
    rw [← ev] at h2
    have h3 := ho.at ((5 : Int32) * st + cv) (by omega) (by omega)
    have e7 := i77_i (x := v) hy ⟨h1, h2.2⟩
    have h4 := hti.at ((7712 : Int32) * (y + 1) + v) (by omega) (by omega)
    have e8 : t.toInt = (to ((5 : Int32) * st + cv).toNatClampNeg).toInt + (ti ((7712 : Int32) * (y + 1) + v).toNatClampNeg).toInt := by
      rw [et]
      exact add_i rfl rfl (by omega) (by omega)
    rw [cl_nat (i := (7712 : Int32) * (y + 1) + v), e7] at e8 h4
    exact ⟨h1, by omega⟩
  · rw [if_neg h] at et
    subst et
    have : (100000000 : Int32).toInt = 100000000 := rfl
    omega
set_option maxHeartbeats 4000000 in
set_option maxRecDepth 100000 in
theorem m_X10_bestOf (l : Launch) (D : va_G) (cI cJ cB cP cM cZ : ClassId) (h0 : Nat) (h_s : Nat) (h_behindAt : Nat) (h_times : Nat) (h_stateBy : Nat) (h_timeOf : Nat) (Fh : Nat → Value) (x_bendsGone : Int32) (x_overAt : Int32) (x_endPace : Int32) (x_touchBend : Int32) (x_touchBy : Int32) (x_choicePace : Int32) (x_choiceSet : Int32) (x_choiceAhead : Int32) (f_s : Nat → Int32) (f_behindAt : Nat → Int32) (f_times : Nat → Int32) (f_stateBy : Nat → Int32) (f_timeOf : Nat → Int32) (bs : Nat → Int32) (sz : Nat) (e_s : Fh 6 = .ref h_s) (e_behindAt : Fh 33 = .ref h_behindAt) (e_bendsGone : Fh 34 = .int x_bendsGone) (i_x_bendsGone : IR 0 12 x_bendsGone) (e_overAt : Fh 35 = .int x_overAt) (e_endPace : Fh 36 = .int x_endPace) (e_touchBend : Fh 37 = .int x_touchBend) (e_touchBy : Fh 38 = .int x_touchBy) (i_x_touchBy : IR 0 99 x_touchBy) (e_times : Fh 42 = .ref h_times) (e_choicePace : Fh 46 = .int x_choicePace) (e_choiceSet : Fh 47 = .int x_choiceSet) (e_choiceAhead : Fh 48 = .int x_choiceAhead) (e_stateBy : Fh 49 = .ref h_stateBy) (e_timeOf : Fh 50 = .ref h_timeOf) (s_s_K0 : KW 0 f_s) (s_s_US : US bs f_s) (s_s_0 : SG 0 0 0 40 f_s) (s_s_105 : SG 105 108 0 11 f_s) (s_s_114 : SG 114 114 0 5 f_s) (s_s_130 : SG 130 133 0 11 f_s) (s_s_139 : SG 139 139 0 5 f_s) (s_s_153 : SG 153 153 0 44 f_s) (s_s_44 : SG 44 55 0 9 f_s) (s_s_5 : SG 5 5 0 12 f_s) (s_s_6 : SG 6 6 0 12 f_s) (s_s_7 : SG 7 7 0 6 f_s) (s_times_0 : SG 0 316191 0 100000000 f_times) (s_stateBy_0 : SG 0 38559 (-1) 7711 f_stateBy) (s_timeOf_0 : SG 0 38559 0 300 f_timeOf) : CI l yX10_bestOf cX10_bestOf 6 (some .int) { frames := 5, cells := 0, slots := 0, locals := 116 } (GG D cI cJ cB cP cM cZ) D [(h0, .inr (10, vL 67 Fh)), (h_s, .inl (cI, 335, .inl f_s)), (h_behindAt, .inl (cI, 12, .inl f_behindAt)), (h_times, .inl (cI, 316192, .inl f_times)), (h_stateBy, .inl (cI, 38560, .inl f_stateBy)), (h_timeOf, .inl (cI, 38560, .inl f_timeOf))] sz [.ref h0] (fun (r : Int32) (u : va_W) => ∃ (Gh : Nat → Value) (y_bendsGone : Int32) (y_overAt : Int32) (y_endPace : Int32) (y_choicePace : Int32) (y_choiceSet : Int32) (y_choiceAhead : Int32) (g_behindAt : Nat → Int32) (g_times : Nat → Int32) (g_stateBy : Nat → Int32) (g_timeOf : Nat → Int32), SAME [34, 35, 36, 46, 47, 48] Fh Gh ∧ Gh 34 = .int y_bendsGone ∧ IR 0 12 y_bendsGone ∧ Gh 35 = .int y_overAt ∧ Gh 36 = .int y_endPace ∧ Gh 46 = .int y_choicePace ∧ Gh 47 = .int y_choiceSet ∧ Gh 48 = .int y_choiceAhead ∧ SG 0 316191 0 100000000 g_times ∧ SG 0 38559 (-1) 7711 g_stateBy ∧ SG 0 38559 0 300 g_timeOf ∧ IR 0 100000000 r ∧ (TBL g_times g_stateBy g_timeOf (f_s 0).toInt (-1) 0) ∧ (r = g_times 20) ∧ u = [(h0, .inr (10, vL 67 Gh)), (h_s, .inl (cI, 335, .inl f_s)), (h_behindAt, .inl (cI, 12, .inl g_behindAt)), (h_times, .inl (cI, 316192, .inl g_times)), (h_stateBy, .inl (cI, 38560, .inl g_stateBy)), (h_timeOf, .inl (cI, 38560, .inl g_timeOf))]) := by
  refine CI_mk (by decide) (Nat.le_of_ble_eq_true rfl) ?_
  intro p e s m below meth c A ls E hAe hG hsz hP hD hA hS hl
  obtain ⟨hx, hb, hr, hw, hown, hlocks, hml, hnm⟩ := E
  have hK := hG.1
  have i_x_bendsGone : 0 ≤ x_bendsGone.toInt ∧ x_bendsGone.toInt ≤ 12 := i_x_bendsGone
  have i_x_touchBy : 0 ≤ x_touchBy.toInt ∧ x_touchBy.toInt ≤ 99 := i_x_touchBy
  have hl : lv_has ls 6 [(0, .ref h0)] := hl
  refine lv_aload_n hx hb dX10_bestOf_0 rfl (lv_at hl 0 rfl) ?_
  refine get_f (D := D) (ci := 10) (v := .ref h_s) (C := RX10) (T := TX10) (N := 67) hx hb hw inAX10 hown hK hP 0 rfl rfl 6 (by decide) (hw _ q_1267) (fun _ h9 => h9) e_s dX10_bestOf_1 ?_
  refine lv_iconst (v := 1) hx hb dX10_bestOf_4 (by decide) ?_
  refine iald_n hx hb hK hP 1 0 rfl rfl 1 rfl (Nat.le_of_ble_eq_true rfl) (Nat.le_of_ble_eq_true rfl) rfl dX10_bestOf_5 ?_
  refine lv_topi (fun v1 ev1 => ?_)
  refine lv_aload_n hx hb dX10_bestOf_6 rfl (lv_at hl 0 rfl) ?_
  refine get_f (D := D) (ci := 10) (v := .ref h_s) (C := RX10) (T := TX10) (N := 67) hx hb hw inAX10 hown hK hP 0 rfl rfl 6 (by decide) (hw _ q_1267) (fun _ h9 => h9) e_s dX10_bestOf_7 ?_
  refine lv_bipush (v := 113) hx hb dX10_bestOf_10 (by decide) ?_
  refine iald_n hx hb hK hP 1 0 rfl rfl 113 rfl (Nat.le_of_ble_eq_true rfl) (Nat.le_of_ble_eq_true rfl) rfl dX10_bestOf_12 ?_
  refine lv_topi (fun v2 ev2 => ?_)
  refine lv_iadd hx hb dX10_bestOf_13 ?_
  refine lv_topi (fun v3 ev3 => ?_)
  refine lv_aload_n hx hb dX10_bestOf_14 rfl (lv_at hl 0 rfl) ?_
  refine lv_bipush (v := 15) hx hb dX10_bestOf_15 (by decide) ?_
  refine call_Vi (wr := [(h_behindAt, .inl (cI, 12, .inl f_behindAt)), (h_times, .inl (cI, 316192, .inl f_times)), (h_stateBy, .inl (cI, 38560, .inl f_stateBy)), (h_timeOf, .inl (cI, 38560, .inl f_timeOf))]) (As := [.int 15]) (rest := [.int v3]) hx hb hml hown hw (m_X10_weightOf l D cI cJ cB cP cM cZ h0 h_s Fh f_s 15 bs _ e_s s_s_K0 s_s_US s_s_0 s_s_105 s_s_114 s_s_130 s_s_139 s_s_153 s_s_44 s_s_5 s_s_6 s_s_7) wV_X10_308_X10_weightOf dX10_bestOf_17 hK hP hD hS hA [0, 1] [2, 3, 4, 5] rfl rfl (by decide) (by decide) (by decide) 0 10 rfl rfl GG.fb hG.at hl.1 rfl (Nat.le_of_ble_eq_true rfl) ⟨(Nat.le_of_ble_eq_true rfl), (Nat.le_of_ble_eq_true rfl)⟩ ⟨(Nat.le_of_ble_eq_true rfl), (Nat.le_of_ble_eq_true rfl)⟩ (fun r4 u H locs hp hP hD hS => ?_)
  have zl15 : (15 : Int32).toInt = 15 := by decide
  obtain rfl := hp
  have hP : va_P D vwCl [(h_behindAt, .inl (cI, 12, .inl f_behindAt)), (h_times, .inl (cI, 316192, .inl f_times)), (h_stateBy, .inl (cI, 38560, .inl f_stateBy)), (h_timeOf, .inl (cI, 38560, .inl f_timeOf)), (h0, .inr (10, vL 67 Fh)), (h_s, .inl (cI, 335, .inl f_s))] H := hP
  have hD : va_D A [(h_behindAt, .inl (cI, 12, .inl f_behindAt)), (h_times, .inl (cI, 316192, .inl f_times)), (h_stateBy, .inl (cI, 38560, .inl f_stateBy)), (h_timeOf, .inl (cI, 38560, .inl f_timeOf)), (h0, .inr (10, vL 67 Fh)), (h_s, .inl (cI, 335, .inl f_s))] := hD
  refine W.widen (k := 0) (n := 0) (Nat.le_of_ble_eq_true rfl) (Nat.le_of_ble_eq_true rfl) ?_
  refine lv_iadd hx hb dX10_bestOf_20 ?_
  refine lv_topi (fun v6 ev6 => ?_)
  refine lv_istore_n (lv' := [(1, .int v6), (0, .ref h0)]) hx hb dX10_bestOf_21 rfl hl (by decide) rfl (fun ls hl => ?_)
  refine lv_iconst (v := 0) hx hb dX10_bestOf_22 (by decide) ?_
  refine lv_istore_n (lv' := [(2, .int 0), (1, .int v6), (0, .ref h0)]) hx hb dX10_bestOf_23 rfl hl (by decide) rfl (fun ls hl => ?_)
  refine mloop (α := (Int32) × (Nat → Int32) × (Nat → Int32) × (Nat → Value) × (Int32) × (Int32) × (Int32)) (nL := 6) (D := D) (A := A) (H0 := s.heap) (fun a => (16 - a.1.toInt).toNat) (fun a => IR 0 16 a.1 ∧ SG 0 316191 0 100000000 a.2.2.1 ∧ SAME [34, 35, 36] Fh a.2.2.2.1 ∧ a.2.2.2.1 34 = .int a.2.2.2.2.1 ∧ a.2.2.2.1 35 = .int a.2.2.2.2.2.1 ∧ a.2.2.2.1 36 = .int a.2.2.2.2.2.2 ∧ IR 0 12 a.2.2.2.2.1) (fun a => [(h_behindAt, .inl (cI, 12, .inl a.2.1)), (h_times, .inl (cI, 316192, .inl a.2.2.1)), (h_stateBy, .inl (cI, 38560, .inl f_stateBy)), (h_timeOf, .inl (cI, 38560, .inl f_timeOf)), (h0, .inr (10, vL 67 a.2.2.2.1)), (h_s, .inl (cI, 335, .inl f_s))]) (fun a => [(2, .int a.1), (1, .int v6), (0, .ref h0)]) (fun H locs ls => W p l e ({ frames := 5, cells := 0, slots := 0, locals := 116 } : Room) s m [.ref h0].toArray below meth c H locs 0 0 (MQ below (va_Qi (fun (r : Int32) (u : va_W) => ∃ (Gh : Nat → Value) (y_bendsGone : Int32) (y_overAt : Int32) (y_endPace : Int32) (y_choicePace : Int32) (y_choiceSet : Int32) (y_choiceAhead : Int32) (g_behindAt : Nat → Int32) (g_times : Nat → Int32) (g_stateBy : Nat → Int32) (g_timeOf : Nat → Int32), SAME [34, 35, 36, 46, 47, 48] Fh Gh ∧ Gh 34 = .int y_bendsGone ∧ IR 0 12 y_bendsGone ∧ Gh 35 = .int y_overAt ∧ Gh 36 = .int y_endPace ∧ Gh 46 = .int y_choicePace ∧ Gh 47 = .int y_choiceSet ∧ Gh 48 = .int y_choiceAhead ∧ SG 0 316191 0 100000000 g_times ∧ SG 0 38559 (-1) 7711 g_stateBy ∧ SG 0 38559 0 300 g_timeOf ∧ IR 0 100000000 r ∧ (TBL g_times g_stateBy g_timeOf (f_s 0).toInt (-1) 0) ∧ (r = g_times 20) ∧ u = [(h0, .inr (10, vL 67 Gh)), (h_s, .inl (cI, 335, .inl f_s)), (h_behindAt, .inl (cI, 12, .inl g_behindAt)), (h_times, .inl (cI, 316192, .inl g_times)), (h_stateBy, .inl (cI, 38560, .inl g_stateBy)), (h_timeOf, .inl (cI, 38560, .inl g_timeOf))]) (PO D A) A) [.ref h0].toArray s 0 0 A) (F0 m 24 ls [])) ?_ (0, f_behindAt, f_times, Fh, x_bendsGone, x_overAt, x_endPace) ⟨(show 0 ≤ (0 : Int32).toInt ∧ (0 : Int32).toInt ≤ 16 by decide), s_times_0, SAME.rf, e_bendsGone, e_overAt, e_endPace, i_x_bendsGone⟩ _ _ _ hP hD hS hl
  rintro ⟨u7, w8, w9, G10, u11, u12, u13⟩ ⟨i14, i15, i16, i17, i18, i19, i20⟩ ih H locs ls hP hD hS hl
  have i14 : 0 ≤ u7.toInt ∧ u7.toInt ≤ 16 := i14
  have i20 : 0 ≤ u11.toInt ∧ u11.toInt ≤ 12 := i20
  have hP : va_P D vwCl [(h_behindAt, .inl (cI, 12, .inl w8)), (h_times, .inl (cI, 316192, .inl w9)), (h_stateBy, .inl (cI, 38560, .inl f_stateBy)), (h_timeOf, .inl (cI, 38560, .inl f_timeOf)), (h0, .inr (10, vL 67 G10)), (h_s, .inl (cI, 335, .inl f_s))] H := hP
  have hD : va_D A [(h_behindAt, .inl (cI, 12, .inl w8)), (h_times, .inl (cI, 316192, .inl w9)), (h_stateBy, .inl (cI, 38560, .inl f_stateBy)), (h_timeOf, .inl (cI, 38560, .inl f_timeOf)), (h0, .inr (10, vL 67 G10)), (h_s, .inl (cI, 335, .inl f_s))] := hD
  have hl : lv_has ls 6 [(2, .int u7), (1, .int v6), (0, .ref h0)] := hl
  refine lv_iload_n hx hb dX10_bestOf_24 rfl (lv_at hl 0 rfl) ?_
  refine lv_bipush (v := 16) hx hb dX10_bestOf_25 (by decide) ?_
  refine lv_icmp_ge (tgt := 117) hx hb dX10_bestOf_27 (by decide) (fun c21 => ?_) (fun c21 => ?_)
  · have dc21 : 16 ≤ u7.toInt := le_i (a := 16) (b := u7.toInt) rfl rfl c21
    have k22 : 16 ≤ u7.toInt ∧ u7.toInt ≤ 16 := ⟨Int.le_trans (Int.le_refl _) dc21, i14.2⟩
    refine lv_aload_n hx hb dX10_bestOf_117 rfl (lv_at hl 2 rfl) ?_
    have n23 : G10 6 = .ref h_s := (SAME.at i16 (by decide) e_s)
    have n24 : G10 46 = .int x_choicePace := (SAME.at i16 (by decide) e_choicePace)
    have n25 : G10 47 = .int x_choiceSet := (SAME.at i16 (by decide) e_choiceSet)
    have n26 : G10 48 = .int x_choiceAhead := (SAME.at i16 (by decide) e_choiceAhead)
    have n27 : G10 49 = .ref h_stateBy := (SAME.at i16 (by decide) e_stateBy)
    have n28 : G10 50 = .ref h_timeOf := (SAME.at i16 (by decide) e_timeOf)
    refine call_Vv (wr := [(h_behindAt, .inl (cI, 12, .inl w8)), (h_times, .inl (cI, 316192, .inl w9))]) (As := []) (rest := []) hx hb hml hown hw (m_X10_choices l D cI cJ cB cP cM cZ h0 h_s h_stateBy h_timeOf G10 x_choicePace x_choiceSet x_choiceAhead f_s f_stateBy f_timeOf bs _ n23 n24 n25 n26 n27 n28 s_s_K0 s_s_US s_s_0 s_s_105 s_s_114 s_s_130 s_s_139 s_s_153 s_s_44 s_s_5 s_s_6 s_s_7 s_stateBy_0 s_timeOf_0) wV_X10_395_X10_choices dX10_bestOf_118 hK hP hD hS hA [4, 5, 2, 3] [0, 1] rfl rfl (by decide) (by decide) (by decide) 0 10 rfl rfl GG.fb hG.at hl.1 rfl (Nat.le_of_ble_eq_true rfl) ⟨(Nat.le_of_ble_eq_true rfl), (Nat.le_of_ble_eq_true rfl)⟩ ⟨(Nat.le_of_ble_eq_true rfl), (Nat.le_of_ble_eq_true rfl)⟩ (fun u H locs hp hP hD hS => ?_)
    obtain ⟨F30, y31, y32, y33, g34, g35, t36, t37, t38, t39, t40, t41, rfl⟩ := hp
    have hP : va_P D vwCl [(h_behindAt, .inl (cI, 12, .inl w8)), (h_times, .inl (cI, 316192, .inl w9)), (h0, .inr (10, vL 67 F30)), (h_s, .inl (cI, 335, .inl f_s)), (h_stateBy, .inl (cI, 38560, .inl g34)), (h_timeOf, .inl (cI, 38560, .inl g35))] H := hP
    have hD : va_D A [(h_behindAt, .inl (cI, 12, .inl w8)), (h_times, .inl (cI, 316192, .inl w9)), (h0, .inr (10, vL 67 F30)), (h_s, .inl (cI, 335, .inl f_s)), (h_stateBy, .inl (cI, 38560, .inl g34)), (h_timeOf, .inl (cI, 38560, .inl g35))] := hD
    refine W.widen (k := 0) (n := 0) (Nat.le_of_ble_eq_true rfl) (Nat.le_of_ble_eq_true rfl) ?_
    refine lv_aload_n hx hb dX10_bestOf_121 rfl (lv_at hl 2 rfl) ?_
    have n43 : F30 6 = .ref h_s := (SAME.at t36 (by decide) n23)
    refine get_f (D := D) (ci := 10) (v := .ref h_s) (C := RX10) (T := TX10) (N := 67) hx hb hw inAX10 hown hK hP 2 rfl rfl 6 (by decide) (hw _ q_1267) (fun _ h9 => h9) n43 dX10_bestOf_122 ?_
    refine lv_iconst (v := 0) hx hb dX10_bestOf_125 (by decide) ?_
    refine iald_n hx hb hK hP 3 0 rfl rfl 0 rfl (Nat.le_of_ble_eq_true rfl) (Nat.le_of_ble_eq_true rfl) rfl dX10_bestOf_126 ?_
    refine lv_topi (fun v44 ev44 => ?_)
    have k45 : 0 ≤ v44.toInt ∧ v44.toInt ≤ 40 := by rw [ev44]; exact s_s_0.atN 0 (by decide) (by decide)
    refine lv_iconst (v := 1) hx hb dX10_bestOf_127 (by decide) ?_
    refine lv_isub hx hb dX10_bestOf_128 ?_
    refine lv_topi (fun v46 ev46 => ?_)
    have bv46 : v46.toInt = v44.toInt - 1 := by rw [ev46]; exact sub_k rfl rfl k45 ⟨Int.le_refl _, Int.le_refl _⟩ (by decide)
    have k47 : (-1) ≤ v46.toInt ∧ v46.toInt ≤ 39 := sub_r bv46 k45 ⟨Int.le_refl _, Int.le_refl _⟩ (by decide)
    refine lv_istore_n (lv' := [(2, .int v46), (1, .int v6), (0, .ref h0)]) hx hb dX10_bestOf_129 rfl hl (by decide) rfl (fun ls hl => ?_)
    refine mloop (α := (Int32) × (Nat → Int32)) (nL := 6) (D := D) (A := A) (H0 := s.heap) (fun a => (a.1.toInt + 1).toNat) (fun a => IR (-1) 39 a.1 ∧ SG 0 316191 0 100000000 a.2 ∧ (TBL a.2 g34 g35 v44.toInt (a.1.toInt) 0)) (fun a => [(h_behindAt, .inl (cI, 12, .inl w8)), (h_times, .inl (cI, 316192, .inl a.2)), (h0, .inr (10, vL 67 F30)), (h_s, .inl (cI, 335, .inl f_s)), (h_stateBy, .inl (cI, 38560, .inl g34)), (h_timeOf, .inl (cI, 38560, .inl g35))]) (fun a => [(2, .int a.1), (1, .int v6), (0, .ref h0)]) (fun H locs ls => W p l e ({ frames := 5, cells := 0, slots := 0, locals := 116 } : Room) s m [.ref h0].toArray below meth c H locs 0 0 (MQ below (va_Qi (fun (r : Int32) (u : va_W) => ∃ (Gh : Nat → Value) (y_bendsGone : Int32) (y_overAt : Int32) (y_endPace : Int32) (y_choicePace : Int32) (y_choiceSet : Int32) (y_choiceAhead : Int32) (g_behindAt : Nat → Int32) (g_times : Nat → Int32) (g_stateBy : Nat → Int32) (g_timeOf : Nat → Int32), SAME [34, 35, 36, 46, 47, 48] Fh Gh ∧ Gh 34 = .int y_bendsGone ∧ IR 0 12 y_bendsGone ∧ Gh 35 = .int y_overAt ∧ Gh 36 = .int y_endPace ∧ Gh 46 = .int y_choicePace ∧ Gh 47 = .int y_choiceSet ∧ Gh 48 = .int y_choiceAhead ∧ SG 0 316191 0 100000000 g_times ∧ SG 0 38559 (-1) 7711 g_stateBy ∧ SG 0 38559 0 300 g_timeOf ∧ IR 0 100000000 r ∧ (TBL g_times g_stateBy g_timeOf (f_s 0).toInt (-1) 0) ∧ (r = g_times 20) ∧ u = [(h0, .inr (10, vL 67 Gh)), (h_s, .inl (cI, 335, .inl f_s)), (h_behindAt, .inl (cI, 12, .inl g_behindAt)), (h_times, .inl (cI, 316192, .inl g_times)), (h_stateBy, .inl (cI, 38560, .inl g_stateBy)), (h_timeOf, .inl (cI, 38560, .inl g_timeOf))]) (PO D A) A) [.ref h0].toArray s 0 0 A) (F0 m 130 ls [])) ?_ (v46, w9) ⟨k47, i15, (show TBL w9 g34 g35 v44.toInt (v46.toInt) 0 from (TBL.zero (by omega)))⟩ _ _ _ hP hD hS hl
    rintro ⟨u48, w49⟩ ⟨i50, i51, i52⟩ ih_130 H locs ls hP hD hS hl
    have i50 : (-1) ≤ u48.toInt ∧ u48.toInt ≤ 39 := i50
    have i52 : TBL w49 g34 g35 v44.toInt (u48.toInt) 0 := i52
    have hP : va_P D vwCl [(h_behindAt, .inl (cI, 12, .inl w8)), (h_times, .inl (cI, 316192, .inl w49)), (h0, .inr (10, vL 67 F30)), (h_s, .inl (cI, 335, .inl f_s)), (h_stateBy, .inl (cI, 38560, .inl g34)), (h_timeOf, .inl (cI, 38560, .inl g35))] H := hP
    have hD : va_D A [(h_behindAt, .inl (cI, 12, .inl w8)), (h_times, .inl (cI, 316192, .inl w49)), (h0, .inr (10, vL 67 F30)), (h_s, .inl (cI, 335, .inl f_s)), (h_stateBy, .inl (cI, 38560, .inl g34)), (h_timeOf, .inl (cI, 38560, .inl g35))] := hD
    have hl : lv_has ls 6 [(2, .int u48), (1, .int v6), (0, .ref h0)] := hl
    refine lv_iload_n hx hb dX10_bestOf_130 rfl (lv_at hl 0 rfl) ?_
    refine lv_if_lt (tgt := 204) hx hb dX10_bestOf_131 (by decide) (fun c53 => ?_) (fun c53 => ?_)
    · have dc53 : u48.toInt < 0 := lt_i (a := u48.toInt) (b := 0) rfl rfl c53
      have k54 : (-1) ≤ u48.toInt ∧ u48.toInt ≤ (-1) := ⟨i50.1, up_lt dc53 (Int.le_refl _) (by decide)⟩
      refine lv_aload_n hx hb dX10_bestOf_204 rfl (lv_at hl 2 rfl) ?_
      have n55 : G10 42 = .ref h_times := (SAME.at i16 (by decide) e_times)
      have n56 : F30 42 = .ref h_times := (SAME.at t36 (by decide) n55)
      refine get_f (D := D) (ci := 10) (v := .ref h_times) (C := RX10) (T := TX10) (N := 67) hx hb hw inAX10 hown hK hP 2 rfl rfl 42 (by decide) (hw _ q_1303) (fun _ h9 => h9) n56 dX10_bestOf_205 ?_
      refine lv_iconst (v := 0) hx hb dX10_bestOf_208 (by decide) ?_
      refine lv_iconst (v := 0) hx hb dX10_bestOf_209 (by decide) ?_
      refine lv_iconst (v := 0) hx hb dX10_bestOf_210 (by decide) ?_
      refine lv_bipush (v := 30) hx hb dX10_bestOf_211 (by decide) ?_
      refine call_Si (wr := [(h_behindAt, .inl (cI, 12, .inl w8)), (h_times, .inl (cI, 316192, .inl w49)), (h0, .inr (10, vL 67 F30)), (h_s, .inl (cI, 335, .inl f_s)), (h_stateBy, .inl (cI, 38560, .inl g34)), (h_timeOf, .inl (cI, 38560, .inl g35))]) (As := [.int 0, .int 0, .int 0, .int 30]) (rest := [.ref h_times]) hx hb hml hown hw (m_X10_slot l D cI cJ cB cP cM cZ 0 0 0 30 _ (show 0 ≤ (0 : Int32).toInt ∧ (0 : Int32).toInt ≤ 40 by decide) (show 0 ≤ (0 : Int32).toInt ∧ (0 : Int32).toInt ≤ 15 by decide) (show 0 ≤ (0 : Int32).toInt ∧ (0 : Int32).toInt ≤ 1 by decide) (show 10 ≤ (30 : Int32).toInt ∧ (30 : Int32).toInt ≤ 250 by decide)) wS_X10_390_X10_slot dX10_bestOf_213 hP hD hS hA [] [0, 1, 2, 3, 4, 5] rfl rfl (by decide) (by decide) (by decide) GG.fb hG.at hl.1 rfl (Nat.le_of_ble_eq_true rfl) ⟨(Nat.le_of_ble_eq_true rfl), (Nat.le_of_ble_eq_true rfl)⟩ ⟨(Nat.le_of_ble_eq_true rfl), (Nat.le_of_ble_eq_true rfl)⟩ (fun r57 u H locs hp hP hD hS => ?_)
      have zl0 : (0 : Int32).toInt = 0 := by decide
      have zl30 : (30 : Int32).toInt = 30 := by decide
      obtain ⟨t58, t59, rfl⟩ := hp
      have hP : va_P D vwCl [(h_behindAt, .inl (cI, 12, .inl w8)), (h_times, .inl (cI, 316192, .inl w49)), (h0, .inr (10, vL 67 F30)), (h_s, .inl (cI, 335, .inl f_s)), (h_stateBy, .inl (cI, 38560, .inl g34)), (h_timeOf, .inl (cI, 38560, .inl g35))] H := hP
      have hD : va_D A [(h_behindAt, .inl (cI, 12, .inl w8)), (h_times, .inl (cI, 316192, .inl w49)), (h0, .inr (10, vL 67 F30)), (h_s, .inl (cI, 335, .inl f_s)), (h_stateBy, .inl (cI, 38560, .inl g34)), (h_timeOf, .inl (cI, 38560, .inl g35))] := hD
      refine W.widen (k := 0) (n := 0) (Nat.le_of_ble_eq_true rfl) (Nat.le_of_ble_eq_true rfl) ?_
      have k61 : 20 ≤ r57.toInt ∧ r57.toInt ≤ 20 := ⟨by omega, by omega⟩
      refine va_iald hx hb hK hP 1 0 rfl rfl (ix_k k61 (by decide) (by decide)) dX10_bestOf_216 ?_
      refine lv_topi (fun v62 ev62 => ?_)
      have k63 : 0 ≤ v62.toInt ∧ v62.toInt ≤ 100000000 := by rw [ev62]; exact i51.at _ (Int.le_trans (by decide) k61.1) (Int.le_trans k61.2 (by decide))
      exact ret_i (v := v62) hx hb hr hlocks hS (hP.sub (ws' := [(h0, .inr (10, vL 67 F30)), (h_s, .inl (cI, 335, .inl f_s)), (h_behindAt, .inl (cI, 12, .inl w8)), (h_times, .inl (cI, 316192, .inl w49)), (h_stateBy, .inl (cI, 38560, .inl g34)), (h_timeOf, .inl (cI, 38560, .inl g35))]) [2, 3, 0, 1, 4, 5] rfl) (hD.sub (ws' := [(h0, .inr (10, vL 67 F30)), (h_s, .inl (cI, 335, .inl f_s)), (h_behindAt, .inl (cI, 12, .inl w8)), (h_times, .inl (cI, 316192, .inl w49)), (h_stateBy, .inl (cI, 38560, .inl g34)), (h_timeOf, .inl (cI, 38560, .inl g35))]) [2, 3, 0, 1, 4, 5] (by decide) rfl) dX10_bestOf_217 rfl (Nat.le_of_ble_eq_true rfl) (Nat.le_of_ble_eq_true rfl) ⟨F30, u11, u12, u13, y31, y32, y33, w8, w49, g34, g35, (SAME.tr (SAME.tr SAME.rf i16 (by decide)) t36 (by decide)), (SAME.at t36 (by decide) i17), i20, (SAME.at t36 (by decide) i18), (SAME.at t36 (by decide) i19), t37, t38, t39, i51, t40, t41, k63, (TBL.fin i52 (by omega) (congrArg Int32.toInt ev44.symm)), (by rw [ev62, cl_nat]; exact congrArg _ (by omega)), rfl⟩
    · have dc53 : 0 ≤ u48.toInt := nlt_i (a := u48.toInt) (b := 0) rfl rfl c53
      have k64 : 0 ≤ u48.toInt ∧ u48.toInt ≤ 39 := ⟨Int.le_trans (Int.le_refl _) dc53, i50.2⟩
      refine lv_iconst (v := 0) hx hb dX10_bestOf_134 (by decide) ?_
      refine lv_istore_n (lv' := [(3, .int 0), (2, .int u48), (1, .int v6), (0, .ref h0)]) hx hb dX10_bestOf_135 rfl hl (by decide) rfl (fun ls hl => ?_)
      refine mloop (α := (Int32) × (Nat → Int32)) (nL := 6) (D := D) (A := A) (H0 := s.heap) (fun a => (7712 - a.1.toInt).toNat) (fun a => IR 0 7712 a.1 ∧ SG 0 316191 0 100000000 a.2 ∧ (TBL a.2 g34 g35 v44.toInt (u48.toInt) (a.1.toInt))) (fun a => [(h_behindAt, .inl (cI, 12, .inl w8)), (h_times, .inl (cI, 316192, .inl a.2)), (h0, .inr (10, vL 67 F30)), (h_s, .inl (cI, 335, .inl f_s)), (h_stateBy, .inl (cI, 38560, .inl g34)), (h_timeOf, .inl (cI, 38560, .inl g35))]) (fun a => [(3, .int a.1), (2, .int u48), (1, .int v6), (0, .ref h0)]) (fun H locs ls => W p l e ({ frames := 5, cells := 0, slots := 0, locals := 116 } : Room) s m [.ref h0].toArray below meth c H locs 0 0 (MQ below (va_Qi (fun (r : Int32) (u : va_W) => ∃ (Gh : Nat → Value) (y_bendsGone : Int32) (y_overAt : Int32) (y_endPace : Int32) (y_choicePace : Int32) (y_choiceSet : Int32) (y_choiceAhead : Int32) (g_behindAt : Nat → Int32) (g_times : Nat → Int32) (g_stateBy : Nat → Int32) (g_timeOf : Nat → Int32), SAME [34, 35, 36, 46, 47, 48] Fh Gh ∧ Gh 34 = .int y_bendsGone ∧ IR 0 12 y_bendsGone ∧ Gh 35 = .int y_overAt ∧ Gh 36 = .int y_endPace ∧ Gh 46 = .int y_choicePace ∧ Gh 47 = .int y_choiceSet ∧ Gh 48 = .int y_choiceAhead ∧ SG 0 316191 0 100000000 g_times ∧ SG 0 38559 (-1) 7711 g_stateBy ∧ SG 0 38559 0 300 g_timeOf ∧ IR 0 100000000 r ∧ (TBL g_times g_stateBy g_timeOf (f_s 0).toInt (-1) 0) ∧ (r = g_times 20) ∧ u = [(h0, .inr (10, vL 67 Gh)), (h_s, .inl (cI, 335, .inl f_s)), (h_behindAt, .inl (cI, 12, .inl g_behindAt)), (h_times, .inl (cI, 316192, .inl g_times)), (h_stateBy, .inl (cI, 38560, .inl g_stateBy)), (h_timeOf, .inl (cI, 38560, .inl g_timeOf))]) (PO D A) A) [.ref h0].toArray s 0 0 A) (F0 m 136 ls [])) ?_ (0, w49) ⟨(show 0 ≤ (0 : Int32).toInt ∧ (0 : Int32).toInt ≤ 7712 by decide), i51, (show TBL w49 g34 g35 v44.toInt (u48.toInt) (0) from i52)⟩ _ _ _ hP hD hS hl
      rintro ⟨u65, w66⟩ ⟨i67, i68, i69⟩ ih_136 H locs ls hP hD hS hl
      have i67 : 0 ≤ u65.toInt ∧ u65.toInt ≤ 7712 := i67
      have i69 : TBL w66 g34 g35 v44.toInt (u48.toInt) (u65.toInt) := i69
      have hP : va_P D vwCl [(h_behindAt, .inl (cI, 12, .inl w8)), (h_times, .inl (cI, 316192, .inl w66)), (h0, .inr (10, vL 67 F30)), (h_s, .inl (cI, 335, .inl f_s)), (h_stateBy, .inl (cI, 38560, .inl g34)), (h_timeOf, .inl (cI, 38560, .inl g35))] H := hP
      have hD : va_D A [(h_behindAt, .inl (cI, 12, .inl w8)), (h_times, .inl (cI, 316192, .inl w66)), (h0, .inr (10, vL 67 F30)), (h_s, .inl (cI, 335, .inl f_s)), (h_stateBy, .inl (cI, 38560, .inl g34)), (h_timeOf, .inl (cI, 38560, .inl g35))] := hD
      have hl : lv_has ls 6 [(3, .int u65), (2, .int u48), (1, .int v6), (0, .ref h0)] := hl
      refine lv_iload_n hx hb dX10_bestOf_136 rfl (lv_at hl 0 rfl) ?_
      refine lv_sipush (v := 7712) hx hb dX10_bestOf_137 (by decide) ?_
      refine lv_icmp_ge (tgt := 198) hx hb dX10_bestOf_140 (by decide) (fun c70 => ?_) (fun c70 => ?_)
      · have dc70 : 7712 ≤ u65.toInt := le_i (a := 7712) (b := u65.toInt) rfl rfl c70
        have k71 : 7712 ≤ u65.toInt ∧ u65.toInt ≤ 7712 := ⟨Int.le_trans (Int.le_refl _) dc70, i67.2⟩
        obtain ⟨v72, ev72⟩ : ∃ z : Int32, z = u48 + (-1) := ⟨_, rfl⟩
        have bv72 : v72.toInt = u48.toInt + (-1) := by rw [ev72]; exact add_k rfl rfl k64 ⟨Int.le_refl _, Int.le_refl _⟩ (by decide)
        have k73 : (-1) ≤ v72.toInt ∧ v72.toInt ≤ 38 := add_r bv72 k64 ⟨Int.le_refl _, Int.le_refl _⟩ (by decide)
        refine lv_iinc (v := v72) (lv' := [(2, .int v72), (3, .int u65), (1, .int v6), (0, .ref h0)]) hx hb dX10_bestOf_198 hl (k := 1) rfl (by rw [ev72]; rfl) (by decide) rfl (fun ls hl => ?_)
        refine lv_goto (tgt := 130) hx hb dX10_bestOf_201 (by decide) ?_
        exact ih_130 (v72, w66) ⟨(ir_wk k73 (by decide) (by decide)), i68, (show TBL w66 g34 g35 v44.toInt (v72.toInt) 0 from (TBL.next i69 (by omega) (by omega)))⟩ (by show (v72.toInt + 1).toNat < (u48.toInt + 1).toNat; omega) _ _ _ hP hD hS (lv_sub hl [0, 2, 3] rfl)
      · have dc70 : u65.toInt < 7712 := nle_i (a := 7712) (b := u65.toInt) rfl rfl c70
        have k74 : 0 ≤ u65.toInt ∧ u65.toInt ≤ 7711 := ⟨i67.1, up_lt dc70 (Int.le_refl _) (by decide)⟩
        refine lv_ldcw hx hb hown (hw _ q_1701) dX10_bestOf_143 ?_
        refine lv_istore (lv' := [(4, .int 100000000), (3, .int u65), (2, .int u48), (1, .int v6), (0, .ref h0)]) hx hb dX10_bestOf_146 hl (by decide) rfl (fun ls hl => ?_)
        refine lv_iconst (v := 0) hx hb dX10_bestOf_148 (by decide) ?_
        refine lv_istore (lv' := [(5, .int 0), (4, .int 100000000), (3, .int u65), (2, .int u48), (1, .int v6), (0, .ref h0)]) hx hb dX10_bestOf_149 hl (by decide) rfl (fun ls hl => ?_)
        refine mloop (α := (Int32) × (Int32)) (nL := 6) (D := D) (A := A) (H0 := s.heap) (fun a => (5 - a.1.toInt).toNat) (fun a => IR 0 5 a.1 ∧ IR 0 100000000 a.2 ∧ (VQ w66 g34 g35 u48 u65 a.2 (a.1.toInt))) (fun a => [(h_behindAt, .inl (cI, 12, .inl w8)), (h_times, .inl (cI, 316192, .inl w66)), (h0, .inr (10, vL 67 F30)), (h_s, .inl (cI, 335, .inl f_s)), (h_stateBy, .inl (cI, 38560, .inl g34)), (h_timeOf, .inl (cI, 38560, .inl g35))]) (fun a => [(5, .int a.1), (4, .int a.2), (3, .int u65), (2, .int u48), (1, .int v6), (0, .ref h0)]) (fun H locs ls => W p l e ({ frames := 5, cells := 0, slots := 0, locals := 116 } : Room) s m [.ref h0].toArray below meth c H locs 0 0 (MQ below (va_Qi (fun (r : Int32) (u : va_W) => ∃ (Gh : Nat → Value) (y_bendsGone : Int32) (y_overAt : Int32) (y_endPace : Int32) (y_choicePace : Int32) (y_choiceSet : Int32) (y_choiceAhead : Int32) (g_behindAt : Nat → Int32) (g_times : Nat → Int32) (g_stateBy : Nat → Int32) (g_timeOf : Nat → Int32), SAME [34, 35, 36, 46, 47, 48] Fh Gh ∧ Gh 34 = .int y_bendsGone ∧ IR 0 12 y_bendsGone ∧ Gh 35 = .int y_overAt ∧ Gh 36 = .int y_endPace ∧ Gh 46 = .int y_choicePace ∧ Gh 47 = .int y_choiceSet ∧ Gh 48 = .int y_choiceAhead ∧ SG 0 316191 0 100000000 g_times ∧ SG 0 38559 (-1) 7711 g_stateBy ∧ SG 0 38559 0 300 g_timeOf ∧ IR 0 100000000 r ∧ (TBL g_times g_stateBy g_timeOf (f_s 0).toInt (-1) 0) ∧ (r = g_times 20) ∧ u = [(h0, .inr (10, vL 67 Gh)), (h_s, .inl (cI, 335, .inl f_s)), (h_behindAt, .inl (cI, 12, .inl g_behindAt)), (h_times, .inl (cI, 316192, .inl g_times)), (h_stateBy, .inl (cI, 38560, .inl g_stateBy)), (h_timeOf, .inl (cI, 38560, .inl g_timeOf))]) (PO D A) A) [.ref h0].toArray s 0 0 A) (F0 m 151 ls [])) ?_ (0, 100000000) ⟨(show 0 ≤ (0 : Int32).toInt ∧ (0 : Int32).toInt ≤ 5 by decide), (show 0 ≤ (100000000 : Int32).toInt ∧ (100000000 : Int32).toInt ≤ 100000000 by decide), (show VQ w66 g34 g35 u48 u65 (100000000 : Int32) (0) from (Or.inl (by decide)))⟩ _ _ _ hP hD hS hl
        rintro ⟨u75, u76⟩ ⟨i77, i78, i79⟩ ih_151 H locs ls hP hD hS hl
        have i77 : 0 ≤ u75.toInt ∧ u75.toInt ≤ 5 := i77
        have i78 : 0 ≤ u76.toInt ∧ u76.toInt ≤ 100000000 := i78
        have i79 : VQ w66 g34 g35 u48 u65 u76 (u75.toInt) := i79
        have hP : va_P D vwCl [(h_behindAt, .inl (cI, 12, .inl w8)), (h_times, .inl (cI, 316192, .inl w66)), (h0, .inr (10, vL 67 F30)), (h_s, .inl (cI, 335, .inl f_s)), (h_stateBy, .inl (cI, 38560, .inl g34)), (h_timeOf, .inl (cI, 38560, .inl g35))] H := hP
        have hD : va_D A [(h_behindAt, .inl (cI, 12, .inl w8)), (h_times, .inl (cI, 316192, .inl w66)), (h0, .inr (10, vL 67 F30)), (h_s, .inl (cI, 335, .inl f_s)), (h_stateBy, .inl (cI, 38560, .inl g34)), (h_timeOf, .inl (cI, 38560, .inl g35))] := hD
        have hl : lv_has ls 6 [(5, .int u75), (4, .int u76), (3, .int u65), (2, .int u48), (1, .int v6), (0, .ref h0)] := hl
        refine lv_iload hx hb dX10_bestOf_151 (lv_at hl 0 rfl) ?_
        refine lv_iconst (v := 5) hx hb dX10_bestOf_153 (by decide) ?_
        refine lv_icmp_ge (tgt := 178) hx hb dX10_bestOf_154 (by decide) (fun c80 => ?_) (fun c80 => ?_)
        · have dc80 : 5 ≤ u75.toInt := le_i (a := 5) (b := u75.toInt) rfl rfl c80
          have k81 : 5 ≤ u75.toInt ∧ u75.toInt ≤ 5 := ⟨Int.le_trans (Int.le_refl _) dc80, i77.2⟩
          refine lv_aload_n hx hb dX10_bestOf_178 rfl (lv_at hl 5 rfl) ?_
          have n82 : G10 42 = .ref h_times := (SAME.at i16 (by decide) e_times)
          have n83 : F30 42 = .ref h_times := (SAME.at t36 (by decide) n82)
          refine get_f (D := D) (ci := 10) (v := .ref h_times) (C := RX10) (T := TX10) (N := 67) hx hb hw inAX10 hown hK hP 2 rfl rfl 42 (by decide) (hw _ q_1303) (fun _ h9 => h9) n83 dX10_bestOf_179 ?_
          refine lv_sipush (v := 7712) hx hb dX10_bestOf_182 (by decide) ?_
          refine lv_iload_n hx hb dX10_bestOf_185 rfl (lv_at hl 3 rfl) ?_
          refine lv_imul hx hb dX10_bestOf_186 ?_
          refine lv_topi (fun v84 ev84 => ?_)
          have bv84 : v84.toInt = 7712 * u48.toInt := by rw [ev84]; exact kmul_k rfl rfl (by decide) k64 (by decide)
          have k85 : 0 ≤ v84.toInt ∧ v84.toInt ≤ 300768 := kmul_r bv84 (by decide) k64 (by decide)
          refine lv_iload_n hx hb dX10_bestOf_187 rfl (lv_at hl 2 rfl) ?_
          refine lv_iadd hx hb dX10_bestOf_188 ?_
          refine lv_topi (fun v86 ev86 => ?_)
          have bv86 : v86.toInt = v84.toInt + u65.toInt := by rw [ev86]; exact add_k rfl rfl k85 k74 (by decide)
          have k87 : 0 ≤ v86.toInt ∧ v86.toInt ≤ 308479 := add_r bv86 k85 k74 (by decide)
          refine lv_iload hx hb dX10_bestOf_189 (lv_at hl 1 rfl) ?_
          obtain ⟨g88, eg88⟩ : ∃ z : Nat → Int32, upd w66 v86.toNatClampNeg u76 = z := ⟨_, rfl⟩
          have r89 : SG 0 316191 0 100000000 g88 := by rw [← eg88]; exact i68.up (Int.le_trans (by decide) k87.1) (Or.inr (Or.inr (ir_wk i78 (by decide) (by decide))))
          refine iast_g hx hb hK hP hD hS 1 0 rfl rfl (ix_k k87 (by decide) (by decide)) eg88 dX10_bestOf_191 (fun H locs hP hD hS => ?_)
          have hP : va_P D vwCl [(h_behindAt, .inl (cI, 12, .inl w8)), (h_times, .inl (cI, 316192, .inl g88)), (h0, .inr (10, vL 67 F30)), (h_s, .inl (cI, 335, .inl f_s)), (h_stateBy, .inl (cI, 38560, .inl g34)), (h_timeOf, .inl (cI, 38560, .inl g35))] H := hP
          have hD : va_D A [(h_behindAt, .inl (cI, 12, .inl w8)), (h_times, .inl (cI, 316192, .inl g88)), (h0, .inr (10, vL 67 F30)), (h_s, .inl (cI, 335, .inl f_s)), (h_stateBy, .inl (cI, 38560, .inl g34)), (h_timeOf, .inl (cI, 38560, .inl g35))] := hD
          obtain ⟨v90, ev90⟩ : ∃ z : Int32, z = u65 + 1 := ⟨_, rfl⟩
          have bv90 : v90.toInt = u65.toInt + 1 := by rw [ev90]; exact add_k rfl rfl k74 ⟨Int.le_refl _, Int.le_refl _⟩ (by decide)
          have k91 : 1 ≤ v90.toInt ∧ v90.toInt ≤ 7712 := add_r bv90 k74 ⟨Int.le_refl _, Int.le_refl _⟩ (by decide)
          refine lv_iinc (v := v90) (lv' := [(3, .int v90), (5, .int u75), (4, .int u76), (2, .int u48), (1, .int v6), (0, .ref h0)]) hx hb dX10_bestOf_192 hl (k := 2) rfl (by rw [ev90]; rfl) (by decide) rfl (fun ls hl => ?_)
          refine lv_goto (tgt := 136) hx hb dX10_bestOf_195 (by decide) ?_
          exact ih_136 (v90, g88) ⟨(ir_wk k91 (by decide) (by decide)), r89, (show TBL g88 g34 g35 v44.toInt (u48.toInt) (v90.toInt) from (TBL.step i69 eg88 (yv := u48) (sv := u65) rfl rfl (by omega) ⟨by omega, by omega⟩ (by omega) ⟨by omega, by omega⟩ t40 i79 (by omega) (by omega)))⟩ (by show (7712 - v90.toInt).toNat < (7712 - u65.toInt).toNat; omega) _ _ _ hP hD hS (lv_sub hl [0, 3, 4, 5] rfl)
        · have dc80 : u75.toInt < 5 := nle_i (a := 5) (b := u75.toInt) rfl rfl c80
          have k92 : 0 ≤ u75.toInt ∧ u75.toInt ≤ 4 := ⟨i77.1, up_lt dc80 (Int.le_refl _) (by decide)⟩
          refine lv_iload hx hb dX10_bestOf_157 (lv_at hl 1 rfl) ?_
          refine lv_aload_n hx hb dX10_bestOf_159 rfl (lv_at hl 5 rfl) ?_
          refine lv_iload_n hx hb dX10_bestOf_160 rfl (lv_at hl 3 rfl) ?_
          refine lv_iload_n hx hb dX10_bestOf_161 rfl (lv_at hl 2 rfl) ?_
          refine lv_iload hx hb dX10_bestOf_162 (lv_at hl 0 rfl) ?_
          have n93 : G10 42 = .ref h_times := (SAME.at i16 (by decide) e_times)
          have n94 : F30 42 = .ref h_times := (SAME.at t36 (by decide) n93)
          have n95 : F30 49 = .ref h_stateBy := (SAME.at t36 (by decide) n27)
          have n96 : F30 50 = .ref h_timeOf := (SAME.at t36 (by decide) n28)
          refine call_Vi (wr := [(h_behindAt, .inl (cI, 12, .inl w8)), (h_s, .inl (cI, 335, .inl f_s))]) (As := [.int u48, .int u65, .int u75]) (rest := [.int u76]) hx hb hml hown hw (m_X10_timeBy l D cI cJ cB cP cM cZ h0 h_times h_stateBy h_timeOf F30 w66 g34 g35 u48 u65 u75 _ n94 n95 n96 i68 t40 t41 k64 k74 k92) wV_X10_398_X10_timeBy dX10_bestOf_164 hK hP hD hS hA [2, 1, 4, 5] [0, 3] rfl rfl (by decide) (by decide) (by decide) 0 10 rfl rfl GG.fb hG.at hl.1 rfl (Nat.le_of_ble_eq_true rfl) ⟨(Nat.le_of_ble_eq_true rfl), (Nat.le_of_ble_eq_true rfl)⟩ ⟨(Nat.le_of_ble_eq_true rfl), (Nat.le_of_ble_eq_true rfl)⟩ (fun r97 u H locs hp hP hD hS => ?_)
          obtain ⟨t98, t99, rfl⟩ := hp
          have hP : va_P D vwCl [(h_behindAt, .inl (cI, 12, .inl w8)), (h_s, .inl (cI, 335, .inl f_s)), (h0, .inr (10, vL 67 F30)), (h_times, .inl (cI, 316192, .inl w66)), (h_stateBy, .inl (cI, 38560, .inl g34)), (h_timeOf, .inl (cI, 38560, .inl g35))] H := hP
          have hD : va_D A [(h_behindAt, .inl (cI, 12, .inl w8)), (h_s, .inl (cI, 335, .inl f_s)), (h0, .inr (10, vL 67 F30)), (h_times, .inl (cI, 316192, .inl w66)), (h_stateBy, .inl (cI, 38560, .inl g34)), (h_timeOf, .inl (cI, 38560, .inl g35))] := hD
          refine W.widen (k := 0) (n := 0) (Nat.le_of_ble_eq_true rfl) (Nat.le_of_ble_eq_true rfl) ?_
          refine call_Si (wr := [(h_behindAt, .inl (cI, 12, .inl w8)), (h_s, .inl (cI, 335, .inl f_s)), (h0, .inr (10, vL 67 F30)), (h_times, .inl (cI, 316192, .inl w66)), (h_stateBy, .inl (cI, 38560, .inl g34)), (h_timeOf, .inl (cI, 38560, .inl g35))]) (As := [.int u76, .int r97]) (rest := []) hx hb hml hown hw (m_X10_lesser l D cI cJ cB cP cM cZ u76 r97 _ ) wS_X10_27_X10_lesser dX10_bestOf_167 hP hD hS hA [] [0, 1, 2, 3, 4, 5] rfl rfl (by decide) (by decide) (by decide) GG.fb hG.at hl.1 rfl (Nat.le_of_ble_eq_true rfl) ⟨(Nat.le_of_ble_eq_true rfl), (Nat.le_of_ble_eq_true rfl)⟩ ⟨(Nat.le_of_ble_eq_true rfl), (Nat.le_of_ble_eq_true rfl)⟩ (fun r101 u H locs hp hP hD hS => ?_)
          obtain ⟨t102, t103, rfl⟩ := hp
          have hP : va_P D vwCl [(h_behindAt, .inl (cI, 12, .inl w8)), (h_s, .inl (cI, 335, .inl f_s)), (h0, .inr (10, vL 67 F30)), (h_times, .inl (cI, 316192, .inl w66)), (h_stateBy, .inl (cI, 38560, .inl g34)), (h_timeOf, .inl (cI, 38560, .inl g35))] H := hP
          have hD : va_D A [(h_behindAt, .inl (cI, 12, .inl w8)), (h_s, .inl (cI, 335, .inl f_s)), (h0, .inr (10, vL 67 F30)), (h_times, .inl (cI, 316192, .inl w66)), (h_stateBy, .inl (cI, 38560, .inl g34)), (h_timeOf, .inl (cI, 38560, .inl g35))] := hD
          refine W.widen (k := 0) (n := 0) (Nat.le_of_ble_eq_true rfl) (Nat.le_of_ble_eq_true rfl) ?_
          have k105 : 0 ≤ r101.toInt ∧ r101.toInt ≤ 100000000 := ⟨by omega, by omega⟩
          refine lv_istore (lv' := [(4, .int r101), (5, .int u75), (3, .int u65), (2, .int u48), (1, .int v6), (0, .ref h0)]) hx hb dX10_bestOf_170 hl (by decide) rfl (fun ls hl => ?_)
          obtain ⟨v106, ev106⟩ : ∃ z : Int32, z = u75 + 1 := ⟨_, rfl⟩
          have bv106 : v106.toInt = u75.toInt + 1 := by rw [ev106]; exact add_k rfl rfl k92 ⟨Int.le_refl _, Int.le_refl _⟩ (by decide)
          have k107 : 1 ≤ v106.toInt ∧ v106.toInt ≤ 5 := add_r bv106 k92 ⟨Int.le_refl _, Int.le_refl _⟩ (by decide)
          refine lv_iinc (v := v106) (lv' := [(5, .int v106), (4, .int r101), (3, .int u65), (2, .int u48), (1, .int v6), (0, .ref h0)]) hx hb dX10_bestOf_172 hl (k := 1) rfl (by rw [ev106]; rfl) (by decide) rfl (fun ls hl => ?_)
          refine lv_goto (tgt := 151) hx hb dX10_bestOf_175 (by decide) ?_
          exact ih_151 (v106, r101) ⟨(ir_wk k107 (by decide) (by decide)), k105, (show VQ w66 g34 g35 u48 u65 r101 (v106.toInt) from (VQ.step i79 t99 t103 (by omega) (by omega) (by omega)))⟩ (by show (5 - v106.toInt).toNat < (5 - u75.toInt).toNat; omega) _ _ _ (hP.sub [0, 3, 2, 1, 4, 5] rfl) (hD.sub [0, 3, 2, 1, 4, 5] (by decide) rfl) hS (lv_sub hl [0, 1, 2, 3, 4, 5] rfl)
  · have dc21 : u7.toInt < 16 := nle_i (a := 16) (b := u7.toInt) rfl rfl c21
    have k108 : 0 ≤ u7.toInt ∧ u7.toInt ≤ 15 := ⟨i14.1, up_lt dc21 (Int.le_refl _) (by decide)⟩
    refine lv_iconst (v := 0) hx hb dX10_bestOf_30 (by decide) ?_
    refine lv_istore_n (lv' := [(3, .int 0), (2, .int u7), (1, .int v6), (0, .ref h0)]) hx hb dX10_bestOf_31 rfl hl (by decide) rfl (fun ls hl => ?_)
    refine mloop (α := (Int32) × (Nat → Int32) × (Nat → Int32) × (Nat → Value) × (Int32) × (Int32) × (Int32)) (nL := 6) (D := D) (A := A) (H0 := s.heap) (fun a => (2 - a.1.toInt).toNat) (fun a => IR 0 2 a.1 ∧ SG 0 316191 0 100000000 a.2.2.1 ∧ SAME [34, 35, 36] G10 a.2.2.2.1 ∧ a.2.2.2.1 34 = .int a.2.2.2.2.1 ∧ a.2.2.2.1 35 = .int a.2.2.2.2.2.1 ∧ a.2.2.2.1 36 = .int a.2.2.2.2.2.2 ∧ IR 0 12 a.2.2.2.2.1) (fun a => [(h_behindAt, .inl (cI, 12, .inl a.2.1)), (h_times, .inl (cI, 316192, .inl a.2.2.1)), (h_stateBy, .inl (cI, 38560, .inl f_stateBy)), (h_timeOf, .inl (cI, 38560, .inl f_timeOf)), (h0, .inr (10, vL 67 a.2.2.2.1)), (h_s, .inl (cI, 335, .inl f_s))]) (fun a => [(3, .int a.1), (2, .int u7), (1, .int v6), (0, .ref h0)]) (fun H locs ls => W p l e ({ frames := 5, cells := 0, slots := 0, locals := 116 } : Room) s m [.ref h0].toArray below meth c H locs 0 0 (MQ below (va_Qi (fun (r : Int32) (u : va_W) => ∃ (Gh : Nat → Value) (y_bendsGone : Int32) (y_overAt : Int32) (y_endPace : Int32) (y_choicePace : Int32) (y_choiceSet : Int32) (y_choiceAhead : Int32) (g_behindAt : Nat → Int32) (g_times : Nat → Int32) (g_stateBy : Nat → Int32) (g_timeOf : Nat → Int32), SAME [34, 35, 36, 46, 47, 48] Fh Gh ∧ Gh 34 = .int y_bendsGone ∧ IR 0 12 y_bendsGone ∧ Gh 35 = .int y_overAt ∧ Gh 36 = .int y_endPace ∧ Gh 46 = .int y_choicePace ∧ Gh 47 = .int y_choiceSet ∧ Gh 48 = .int y_choiceAhead ∧ SG 0 316191 0 100000000 g_times ∧ SG 0 38559 (-1) 7711 g_stateBy ∧ SG 0 38559 0 300 g_timeOf ∧ IR 0 100000000 r ∧ (TBL g_times g_stateBy g_timeOf (f_s 0).toInt (-1) 0) ∧ (r = g_times 20) ∧ u = [(h0, .inr (10, vL 67 Gh)), (h_s, .inl (cI, 335, .inl f_s)), (h_behindAt, .inl (cI, 12, .inl g_behindAt)), (h_times, .inl (cI, 316192, .inl g_times)), (h_stateBy, .inl (cI, 38560, .inl g_stateBy)), (h_timeOf, .inl (cI, 38560, .inl g_timeOf))]) (PO D A) A) [.ref h0].toArray s 0 0 A) (F0 m 32 ls [])) ?_ (0, w8, w9, G10, u11, u12, u13) ⟨(show 0 ≤ (0 : Int32).toInt ∧ (0 : Int32).toInt ≤ 2 by decide), i15, SAME.rf, i17, i18, i19, i20⟩ _ _ _ hP hD hS hl
    rintro ⟨u109, w110, w111, G112, u113, u114, u115⟩ ⟨i116, i117, i118, i119, i120, i121, i122⟩ ih_32 H locs ls hP hD hS hl
    have i116 : 0 ≤ u109.toInt ∧ u109.toInt ≤ 2 := i116
    have i122 : 0 ≤ u113.toInt ∧ u113.toInt ≤ 12 := i122
    have hP : va_P D vwCl [(h_behindAt, .inl (cI, 12, .inl w110)), (h_times, .inl (cI, 316192, .inl w111)), (h_stateBy, .inl (cI, 38560, .inl f_stateBy)), (h_timeOf, .inl (cI, 38560, .inl f_timeOf)), (h0, .inr (10, vL 67 G112)), (h_s, .inl (cI, 335, .inl f_s))] H := hP
    have hD : va_D A [(h_behindAt, .inl (cI, 12, .inl w110)), (h_times, .inl (cI, 316192, .inl w111)), (h_stateBy, .inl (cI, 38560, .inl f_stateBy)), (h_timeOf, .inl (cI, 38560, .inl f_timeOf)), (h0, .inr (10, vL 67 G112)), (h_s, .inl (cI, 335, .inl f_s))] := hD
    have hl : lv_has ls 6 [(3, .int u109), (2, .int u7), (1, .int v6), (0, .ref h0)] := hl
    refine lv_iload_n hx hb dX10_bestOf_32 rfl (lv_at hl 0 rfl) ?_
    refine lv_iconst (v := 2) hx hb dX10_bestOf_33 (by decide) ?_
    refine lv_icmp_ge (tgt := 111) hx hb dX10_bestOf_34 (by decide) (fun c123 => ?_) (fun c123 => ?_)
    · have dc123 : 2 ≤ u109.toInt := le_i (a := 2) (b := u109.toInt) rfl rfl c123
      have k124 : 2 ≤ u109.toInt ∧ u109.toInt ≤ 2 := ⟨Int.le_trans (Int.le_refl _) dc123, i116.2⟩
      obtain ⟨v125, ev125⟩ : ∃ z : Int32, z = u7 + 1 := ⟨_, rfl⟩
      have bv125 : v125.toInt = u7.toInt + 1 := by rw [ev125]; exact add_k rfl rfl k108 ⟨Int.le_refl _, Int.le_refl _⟩ (by decide)
      have k126 : 1 ≤ v125.toInt ∧ v125.toInt ≤ 16 := add_r bv125 k108 ⟨Int.le_refl _, Int.le_refl _⟩ (by decide)
      refine lv_iinc (v := v125) (lv' := [(2, .int v125), (3, .int u109), (1, .int v6), (0, .ref h0)]) hx hb dX10_bestOf_111 hl (k := 1) rfl (by rw [ev125]; rfl) (by decide) rfl (fun ls hl => ?_)
      refine lv_goto (tgt := 24) hx hb dX10_bestOf_114 (by decide) ?_
      exact ih (v125, w110, w111, G112, u113, u114, u115) ⟨(ir_wk k126 (by decide) (by decide)), i117, (SAME.tr (SAME.tr SAME.rf i16 (by decide)) i118 (by decide)), i119, i120, i121, i122⟩ (by show (16 - v125.toInt).toNat < (16 - u7.toInt).toNat; omega) _ _ _ hP hD hS (lv_sub hl [0, 2, 3] rfl)
    · have dc123 : u109.toInt < 2 := nle_i (a := 2) (b := u109.toInt) rfl rfl c123
      have k127 : 0 ≤ u109.toInt ∧ u109.toInt ≤ 1 := ⟨i116.1, up_lt dc123 (Int.le_refl _) (by decide)⟩
      refine lv_bipush (v := 10) hx hb dX10_bestOf_37 (by decide) ?_
      refine lv_istore (lv' := [(4, .int 10), (3, .int u109), (2, .int u7), (1, .int v6), (0, .ref h0)]) hx hb dX10_bestOf_39 hl (by decide) rfl (fun ls hl => ?_)
      refine mloop (α := (Int32) × (Nat → Int32) × (Nat → Int32) × (Nat → Value) × (Int32) × (Int32) × (Int32)) (nL := 6) (D := D) (A := A) (H0 := s.heap) (fun a => (251 - a.1.toInt).toNat) (fun a => IR 10 251 a.1 ∧ SG 0 316191 0 100000000 a.2.2.1 ∧ SAME [34, 35, 36] G112 a.2.2.2.1 ∧ a.2.2.2.1 34 = .int a.2.2.2.2.1 ∧ a.2.2.2.1 35 = .int a.2.2.2.2.2.1 ∧ a.2.2.2.1 36 = .int a.2.2.2.2.2.2 ∧ IR 0 12 a.2.2.2.2.1) (fun a => [(h_behindAt, .inl (cI, 12, .inl a.2.1)), (h_times, .inl (cI, 316192, .inl a.2.2.1)), (h_stateBy, .inl (cI, 38560, .inl f_stateBy)), (h_timeOf, .inl (cI, 38560, .inl f_timeOf)), (h0, .inr (10, vL 67 a.2.2.2.1)), (h_s, .inl (cI, 335, .inl f_s))]) (fun a => [(4, .int a.1), (3, .int u109), (2, .int u7), (1, .int v6), (0, .ref h0)]) (fun H locs ls => W p l e ({ frames := 5, cells := 0, slots := 0, locals := 116 } : Room) s m [.ref h0].toArray below meth c H locs 0 0 (MQ below (va_Qi (fun (r : Int32) (u : va_W) => ∃ (Gh : Nat → Value) (y_bendsGone : Int32) (y_overAt : Int32) (y_endPace : Int32) (y_choicePace : Int32) (y_choiceSet : Int32) (y_choiceAhead : Int32) (g_behindAt : Nat → Int32) (g_times : Nat → Int32) (g_stateBy : Nat → Int32) (g_timeOf : Nat → Int32), SAME [34, 35, 36, 46, 47, 48] Fh Gh ∧ Gh 34 = .int y_bendsGone ∧ IR 0 12 y_bendsGone ∧ Gh 35 = .int y_overAt ∧ Gh 36 = .int y_endPace ∧ Gh 46 = .int y_choicePace ∧ Gh 47 = .int y_choiceSet ∧ Gh 48 = .int y_choiceAhead ∧ SG 0 316191 0 100000000 g_times ∧ SG 0 38559 (-1) 7711 g_stateBy ∧ SG 0 38559 0 300 g_timeOf ∧ IR 0 100000000 r ∧ (TBL g_times g_stateBy g_timeOf (f_s 0).toInt (-1) 0) ∧ (r = g_times 20) ∧ u = [(h0, .inr (10, vL 67 Gh)), (h_s, .inl (cI, 335, .inl f_s)), (h_behindAt, .inl (cI, 12, .inl g_behindAt)), (h_times, .inl (cI, 316192, .inl g_times)), (h_stateBy, .inl (cI, 38560, .inl g_stateBy)), (h_timeOf, .inl (cI, 38560, .inl g_timeOf))]) (PO D A) A) [.ref h0].toArray s 0 0 A) (F0 m 41 ls [])) ?_ (10, w110, w111, G112, u113, u114, u115) ⟨(show 10 ≤ (10 : Int32).toInt ∧ (10 : Int32).toInt ≤ 251 by decide), i117, SAME.rf, i119, i120, i121, i122⟩ _ _ _ hP hD hS hl
      rintro ⟨u128, w129, w130, G131, u132, u133, u134⟩ ⟨i135, i136, i137, i138, i139, i140, i141⟩ ih_41 H locs ls hP hD hS hl
      have i135 : 10 ≤ u128.toInt ∧ u128.toInt ≤ 251 := i135
      have i141 : 0 ≤ u132.toInt ∧ u132.toInt ≤ 12 := i141
      have hP : va_P D vwCl [(h_behindAt, .inl (cI, 12, .inl w129)), (h_times, .inl (cI, 316192, .inl w130)), (h_stateBy, .inl (cI, 38560, .inl f_stateBy)), (h_timeOf, .inl (cI, 38560, .inl f_timeOf)), (h0, .inr (10, vL 67 G131)), (h_s, .inl (cI, 335, .inl f_s))] H := hP
      have hD : va_D A [(h_behindAt, .inl (cI, 12, .inl w129)), (h_times, .inl (cI, 316192, .inl w130)), (h_stateBy, .inl (cI, 38560, .inl f_stateBy)), (h_timeOf, .inl (cI, 38560, .inl f_timeOf)), (h0, .inr (10, vL 67 G131)), (h_s, .inl (cI, 335, .inl f_s))] := hD
      have hl : lv_has ls 6 [(4, .int u128), (3, .int u109), (2, .int u7), (1, .int v6), (0, .ref h0)] := hl
      refine lv_iload hx hb dX10_bestOf_41 (lv_at hl 0 rfl) ?_
      refine lv_sipush (v := 250) hx hb dX10_bestOf_43 (by decide) ?_
      refine lv_icmp_gt (tgt := 105) hx hb dX10_bestOf_46 (by decide) (fun c142 => ?_) (fun c142 => ?_)
      · have dc142 : 250 < u128.toInt := lt_i (a := 250) (b := u128.toInt) rfl rfl c142
        have k143 : 251 ≤ u128.toInt ∧ u128.toInt ≤ 251 := ⟨lo_lt dc142 (Int.le_refl _) (by decide), i135.2⟩
        obtain ⟨v144, ev144⟩ : ∃ z : Int32, z = u109 + 1 := ⟨_, rfl⟩
        have bv144 : v144.toInt = u109.toInt + 1 := by rw [ev144]; exact add_k rfl rfl k127 ⟨Int.le_refl _, Int.le_refl _⟩ (by decide)
        have k145 : 1 ≤ v144.toInt ∧ v144.toInt ≤ 2 := add_r bv144 k127 ⟨Int.le_refl _, Int.le_refl _⟩ (by decide)
        refine lv_iinc (v := v144) (lv' := [(3, .int v144), (4, .int u128), (2, .int u7), (1, .int v6), (0, .ref h0)]) hx hb dX10_bestOf_105 hl (k := 1) rfl (by rw [ev144]; rfl) (by decide) rfl (fun ls hl => ?_)
        refine lv_goto (tgt := 32) hx hb dX10_bestOf_108 (by decide) ?_
        exact ih_32 (v144, w129, w130, G131, u132, u133, u134) ⟨(ir_wk k145 (by decide) (by decide)), i136, (SAME.tr (SAME.tr SAME.rf i118 (by decide)) i137 (by decide)), i138, i139, i140, i141⟩ (by show (2 - v144.toInt).toNat < (2 - u109.toInt).toNat; omega) _ _ _ hP hD hS (lv_sub hl [0, 2, 3, 4] rfl)
      · have dc142 : u128.toInt ≤ 250 := nlt_i (a := 250) (b := u128.toInt) rfl rfl c142
        have k146 : 10 ≤ u128.toInt ∧ u128.toInt ≤ 250 := ⟨i135.1, Int.le_trans dc142 (Int.le_refl _)⟩
        refine lv_iload_n hx hb dX10_bestOf_49 rfl (lv_at hl 2 rfl) ?_
        refine lv_bipush (v := 15) hx hb dX10_bestOf_50 (by decide) ?_
        refine lv_icmp_ne (tgt := 65) hx hb dX10_bestOf_52 (by decide) (fun c147 => ?_) (fun c147 => ?_)
        · have dc147 : u7.toInt ≠ 15 := ne_i (a := u7.toInt) (b := 15) rfl rfl c147
          have k148 : 0 ≤ u7.toInt ∧ u7.toInt ≤ 14 := ⟨k108.1, ne_hi dc147 k108.2 ⟨Int.le_refl _, Int.le_refl _⟩ (by decide)⟩
          refine lv_iconst (v := (-1)) hx hb dX10_bestOf_65 (by decide) ?_
          refine lv_istore (lv' := [(5, .int (-1)), (4, .int u128), (3, .int u109), (2, .int u7), (1, .int v6), (0, .ref h0)]) hx hb dX10_bestOf_66 hl (by decide) rfl (fun ls hl => ?_)
          refine lv_aload_n hx hb dX10_bestOf_68 rfl (lv_at hl 5 rfl) ?_
          have n149 : G10 42 = .ref h_times := (SAME.at i16 (by decide) e_times)
          have n150 : G112 42 = .ref h_times := (SAME.at i118 (by decide) n149)
          have n151 : G131 42 = .ref h_times := (SAME.at i137 (by decide) n150)
          refine get_f (D := D) (ci := 10) (v := .ref h_times) (C := RX10) (T := TX10) (N := 67) hx hb hw inAX10 hown hK hP 4 rfl rfl 42 (by decide) (hw _ q_1303) (fun _ h9 => h9) n151 dX10_bestOf_69 ?_
          refine lv_aload_n hx hb dX10_bestOf_72 rfl (lv_at hl 5 rfl) ?_
          have n152 : G10 6 = .ref h_s := (SAME.at i16 (by decide) e_s)
          have n153 : G112 6 = .ref h_s := (SAME.at i118 (by decide) n152)
          have n154 : G131 6 = .ref h_s := (SAME.at i137 (by decide) n153)
          refine get_f (D := D) (ci := 10) (v := .ref h_s) (C := RX10) (T := TX10) (N := 67) hx hb hw inAX10 hown hK hP 4 rfl rfl 6 (by decide) (hw _ q_1267) (fun _ h9 => h9) n154 dX10_bestOf_73 ?_
          refine lv_iconst (v := 0) hx hb dX10_bestOf_76 (by decide) ?_
          refine iald_n hx hb hK hP 5 0 rfl rfl 0 rfl (Nat.le_of_ble_eq_true rfl) (Nat.le_of_ble_eq_true rfl) rfl dX10_bestOf_77 ?_
          refine lv_topi (fun v155 ev155 => ?_)
          have k156 : 0 ≤ v155.toInt ∧ v155.toInt ≤ 40 := by rw [ev155]; exact s_s_0.atN 0 (by decide) (by decide)
          refine lv_iload_n hx hb dX10_bestOf_78 rfl (lv_at hl 3 rfl) ?_
          refine lv_iload_n hx hb dX10_bestOf_79 rfl (lv_at hl 2 rfl) ?_
          refine lv_iload hx hb dX10_bestOf_80 (lv_at hl 1 rfl) ?_
          refine call_Si (wr := [(h_behindAt, .inl (cI, 12, .inl w129)), (h_times, .inl (cI, 316192, .inl w130)), (h_stateBy, .inl (cI, 38560, .inl f_stateBy)), (h_timeOf, .inl (cI, 38560, .inl f_timeOf)), (h0, .inr (10, vL 67 G131)), (h_s, .inl (cI, 335, .inl f_s))]) (As := [.int v155, .int u7, .int u109, .int u128]) (rest := [.ref h_times]) hx hb hml hown hw (m_X10_slot l D cI cJ cB cP cM cZ v155 u7 u109 u128 _ k156 (ir_wk k148 (by decide) (by decide)) k127 k146) wS_X10_390_X10_slot dX10_bestOf_82 hP hD hS hA [] [0, 1, 2, 3, 4, 5] rfl rfl (by decide) (by decide) (by decide) GG.fb hG.at hl.1 rfl (Nat.le_of_ble_eq_true rfl) ⟨(Nat.le_of_ble_eq_true rfl), (Nat.le_of_ble_eq_true rfl)⟩ ⟨(Nat.le_of_ble_eq_true rfl), (Nat.le_of_ble_eq_true rfl)⟩ (fun r157 u H locs hp hP hD hS => ?_)
          obtain ⟨t158, t159, rfl⟩ := hp
          have hP : va_P D vwCl [(h_behindAt, .inl (cI, 12, .inl w129)), (h_times, .inl (cI, 316192, .inl w130)), (h_stateBy, .inl (cI, 38560, .inl f_stateBy)), (h_timeOf, .inl (cI, 38560, .inl f_timeOf)), (h0, .inr (10, vL 67 G131)), (h_s, .inl (cI, 335, .inl f_s))] H := hP
          have hD : va_D A [(h_behindAt, .inl (cI, 12, .inl w129)), (h_times, .inl (cI, 316192, .inl w130)), (h_stateBy, .inl (cI, 38560, .inl f_stateBy)), (h_timeOf, .inl (cI, 38560, .inl f_timeOf)), (h0, .inr (10, vL 67 G131)), (h_s, .inl (cI, 335, .inl f_s))] := hD
          refine W.widen (k := 0) (n := 0) (Nat.le_of_ble_eq_true rfl) (Nat.le_of_ble_eq_true rfl) ?_
          have k161 : 0 ≤ r157.toInt ∧ r157.toInt ≤ 315709 := ⟨by omega, by omega⟩
          refine lv_iload hx hb dX10_bestOf_85 (lv_at hl 0 rfl) ?_
          refine lv_if_ge (tgt := 96) hx hb dX10_bestOf_87 (by decide) (fun g => absurd g (by decide)) (fun _ => ?_)
          refine lv_ldcw hx hb hown (hw _ q_1701) dX10_bestOf_90 ?_
          refine lv_goto (tgt := 98) hx hb dX10_bestOf_93 (by decide) ?_
          obtain ⟨g162, eg162⟩ : ∃ z : Nat → Int32, upd w130 r157.toNatClampNeg 100000000 = z := ⟨_, rfl⟩
          have r163 : SG 0 316191 0 100000000 g162 := by rw [← eg162]; exact i136.up (Int.le_trans (by decide) k161.1) (Or.inr (Or.inr ⟨by decide, by decide⟩))
          refine iast_g hx hb hK hP hD hS 1 0 rfl rfl (ix_k k161 (by decide) (by decide)) eg162 dX10_bestOf_98 (fun H locs hP hD hS => ?_)
          have hP : va_P D vwCl [(h_behindAt, .inl (cI, 12, .inl w129)), (h_times, .inl (cI, 316192, .inl g162)), (h_stateBy, .inl (cI, 38560, .inl f_stateBy)), (h_timeOf, .inl (cI, 38560, .inl f_timeOf)), (h0, .inr (10, vL 67 G131)), (h_s, .inl (cI, 335, .inl f_s))] H := hP
          have hD : va_D A [(h_behindAt, .inl (cI, 12, .inl w129)), (h_times, .inl (cI, 316192, .inl g162)), (h_stateBy, .inl (cI, 38560, .inl f_stateBy)), (h_timeOf, .inl (cI, 38560, .inl f_timeOf)), (h0, .inr (10, vL 67 G131)), (h_s, .inl (cI, 335, .inl f_s))] := hD
          obtain ⟨v164, ev164⟩ : ∃ z : Int32, z = u128 + 1 := ⟨_, rfl⟩
          have bv164 : v164.toInt = u128.toInt + 1 := by rw [ev164]; exact add_k rfl rfl k146 ⟨Int.le_refl _, Int.le_refl _⟩ (by decide)
          have k165 : 11 ≤ v164.toInt ∧ v164.toInt ≤ 251 := add_r bv164 k146 ⟨Int.le_refl _, Int.le_refl _⟩ (by decide)
          refine lv_iinc (v := v164) (lv' := [(4, .int v164), (5, .int (-1)), (3, .int u109), (2, .int u7), (1, .int v6), (0, .ref h0)]) hx hb dX10_bestOf_99 hl (k := 1) rfl (by rw [ev164]; rfl) (by decide) rfl (fun ls hl => ?_)
          refine lv_goto (tgt := 41) hx hb dX10_bestOf_102 (by decide) ?_
          exact ih_41 (v164, w129, g162, G131, u132, u133, u134) ⟨(ir_wk k165 (by decide) (by decide)), r163, (SAME.tr SAME.rf i137 (by decide)), i138, i139, i140, i141⟩ (by show (251 - v164.toInt).toNat < (251 - u128.toInt).toNat; omega) _ _ _ hP hD hS (lv_sub hl [0, 2, 3, 4, 5] rfl)
        · have dc147 : u7.toInt = 15 := eq_i (a := u7.toInt) (b := 15) rfl rfl c147
          have k166 : 15 ≤ u7.toInt ∧ u7.toInt ≤ 15 := ⟨Int.le_trans (Int.le_refl _) (Int.le_of_eq dc147.symm), k108.2⟩
          refine lv_aload_n hx hb dX10_bestOf_55 rfl (lv_at hl 4 rfl) ?_
          refine lv_iload hx hb dX10_bestOf_56 (lv_at hl 0 rfl) ?_
          refine lv_iload_n hx hb dX10_bestOf_58 rfl (lv_at hl 3 rfl) ?_
          have n167 : G10 6 = .ref h_s := (SAME.at i16 (by decide) e_s)
          have n168 : G112 6 = .ref h_s := (SAME.at i118 (by decide) n167)
          have n169 : G131 6 = .ref h_s := (SAME.at i137 (by decide) n168)
          have n170 : G10 33 = .ref h_behindAt := (SAME.at i16 (by decide) e_behindAt)
          have n171 : G112 33 = .ref h_behindAt := (SAME.at i118 (by decide) n170)
          have n172 : G131 33 = .ref h_behindAt := (SAME.at i137 (by decide) n171)
          have n173 : G10 37 = .int x_touchBend := (SAME.at i16 (by decide) e_touchBend)
          have n174 : G112 37 = .int x_touchBend := (SAME.at i118 (by decide) n173)
          have n175 : G131 37 = .int x_touchBend := (SAME.at i137 (by decide) n174)
          have n176 : G10 38 = .int x_touchBy := (SAME.at i16 (by decide) e_touchBy)
          have n177 : G112 38 = .int x_touchBy := (SAME.at i118 (by decide) n176)
          have n178 : G131 38 = .int x_touchBy := (SAME.at i137 (by decide) n177)
          refine call_Vi (wr := [(h_times, .inl (cI, 316192, .inl w130)), (h_stateBy, .inl (cI, 38560, .inl f_stateBy)), (h_timeOf, .inl (cI, 38560, .inl f_timeOf))]) (As := [.int u128, .int v6]) (rest := []) hx hb hml hown hw (m_X10_down l D cI cJ cB cP cM cZ h0 h_s h_behindAt G131 x_touchBend x_touchBy f_s w129 u128 v6 bs _ n169 n172 n175 n178 i_x_touchBy s_s_K0 s_s_US s_s_0 s_s_105 s_s_114 s_s_130 s_s_139 s_s_153 s_s_44 s_s_5 s_s_6 s_s_7) wV_X10_365_X10_down dX10_bestOf_59 hK hP hD hS hA [4, 5, 0] [1, 2, 3] rfl rfl (by decide) (by decide) (by decide) 0 10 rfl rfl GG.fb hG.at hl.1 rfl (Nat.le_of_ble_eq_true rfl) ⟨(Nat.le_of_ble_eq_true rfl), (Nat.le_of_ble_eq_true rfl)⟩ ⟨(Nat.le_of_ble_eq_true rfl), (Nat.le_of_ble_eq_true rfl)⟩ (fun r179 u H locs hp hP hD hS => ?_)
          obtain ⟨F180, y181, y182, y183, g184, t185, t186, t187, t188, t189, t190, t191, rfl⟩ := hp
          have hP : va_P D vwCl [(h_times, .inl (cI, 316192, .inl w130)), (h_stateBy, .inl (cI, 38560, .inl f_stateBy)), (h_timeOf, .inl (cI, 38560, .inl f_timeOf)), (h0, .inr (10, vL 67 F180)), (h_s, .inl (cI, 335, .inl f_s)), (h_behindAt, .inl (cI, 12, .inl g184))] H := hP
          have hD : va_D A [(h_times, .inl (cI, 316192, .inl w130)), (h_stateBy, .inl (cI, 38560, .inl f_stateBy)), (h_timeOf, .inl (cI, 38560, .inl f_timeOf)), (h0, .inr (10, vL 67 F180)), (h_s, .inl (cI, 335, .inl f_s)), (h_behindAt, .inl (cI, 12, .inl g184))] := hD
          refine W.widen (k := 0) (n := 0) (Nat.le_of_ble_eq_true rfl) (Nat.le_of_ble_eq_true rfl) ?_
          refine lv_goto (tgt := 66) hx hb dX10_bestOf_62 (by decide) ?_
          refine lv_istore (lv' := [(5, .int r179), (4, .int u128), (3, .int u109), (2, .int u7), (1, .int v6), (0, .ref h0)]) hx hb dX10_bestOf_66 hl (by decide) rfl (fun ls hl => ?_)
          refine lv_aload_n hx hb dX10_bestOf_68 rfl (lv_at hl 5 rfl) ?_
          have n193 : G10 42 = .ref h_times := (SAME.at i16 (by decide) e_times)
          have n194 : G112 42 = .ref h_times := (SAME.at i118 (by decide) n193)
          have n195 : G131 42 = .ref h_times := (SAME.at i137 (by decide) n194)
          have n196 : F180 42 = .ref h_times := (SAME.at t185 (by decide) n195)
          refine get_f (D := D) (ci := 10) (v := .ref h_times) (C := RX10) (T := TX10) (N := 67) hx hb hw inAX10 hown hK hP 3 rfl rfl 42 (by decide) (hw _ q_1303) (fun _ h9 => h9) n196 dX10_bestOf_69 ?_
          refine lv_aload_n hx hb dX10_bestOf_72 rfl (lv_at hl 5 rfl) ?_
          have n197 : F180 6 = .ref h_s := (SAME.at t185 (by decide) n169)
          refine get_f (D := D) (ci := 10) (v := .ref h_s) (C := RX10) (T := TX10) (N := 67) hx hb hw inAX10 hown hK hP 3 rfl rfl 6 (by decide) (hw _ q_1267) (fun _ h9 => h9) n197 dX10_bestOf_73 ?_
          refine lv_iconst (v := 0) hx hb dX10_bestOf_76 (by decide) ?_
          refine iald_n hx hb hK hP 4 0 rfl rfl 0 rfl (Nat.le_of_ble_eq_true rfl) (Nat.le_of_ble_eq_true rfl) rfl dX10_bestOf_77 ?_
          refine lv_topi (fun v198 ev198 => ?_)
          have k199 : 0 ≤ v198.toInt ∧ v198.toInt ≤ 40 := by rw [ev198]; exact s_s_0.atN 0 (by decide) (by decide)
          refine lv_iload_n hx hb dX10_bestOf_78 rfl (lv_at hl 3 rfl) ?_
          refine lv_iload_n hx hb dX10_bestOf_79 rfl (lv_at hl 2 rfl) ?_
          refine lv_iload hx hb dX10_bestOf_80 (lv_at hl 1 rfl) ?_
          refine call_Si (wr := [(h_times, .inl (cI, 316192, .inl w130)), (h_stateBy, .inl (cI, 38560, .inl f_stateBy)), (h_timeOf, .inl (cI, 38560, .inl f_timeOf)), (h0, .inr (10, vL 67 F180)), (h_s, .inl (cI, 335, .inl f_s)), (h_behindAt, .inl (cI, 12, .inl g184))]) (As := [.int v198, .int u7, .int u109, .int u128]) (rest := [.ref h_times]) hx hb hml hown hw (m_X10_slot l D cI cJ cB cP cM cZ v198 u7 u109 u128 _ k199 (ir_wk k166 (by decide) (by decide)) k127 k146) wS_X10_390_X10_slot dX10_bestOf_82 hP hD hS hA [] [0, 1, 2, 3, 4, 5] rfl rfl (by decide) (by decide) (by decide) GG.fb hG.at hl.1 rfl (Nat.le_of_ble_eq_true rfl) ⟨(Nat.le_of_ble_eq_true rfl), (Nat.le_of_ble_eq_true rfl)⟩ ⟨(Nat.le_of_ble_eq_true rfl), (Nat.le_of_ble_eq_true rfl)⟩ (fun r200 u H locs hp hP hD hS => ?_)
          obtain ⟨t201, t202, rfl⟩ := hp
          have hP : va_P D vwCl [(h_times, .inl (cI, 316192, .inl w130)), (h_stateBy, .inl (cI, 38560, .inl f_stateBy)), (h_timeOf, .inl (cI, 38560, .inl f_timeOf)), (h0, .inr (10, vL 67 F180)), (h_s, .inl (cI, 335, .inl f_s)), (h_behindAt, .inl (cI, 12, .inl g184))] H := hP
          have hD : va_D A [(h_times, .inl (cI, 316192, .inl w130)), (h_stateBy, .inl (cI, 38560, .inl f_stateBy)), (h_timeOf, .inl (cI, 38560, .inl f_timeOf)), (h0, .inr (10, vL 67 F180)), (h_s, .inl (cI, 335, .inl f_s)), (h_behindAt, .inl (cI, 12, .inl g184))] := hD
          refine W.widen (k := 0) (n := 0) (Nat.le_of_ble_eq_true rfl) (Nat.le_of_ble_eq_true rfl) ?_
          have k204 : 7230 ≤ r200.toInt ∧ r200.toInt ≤ 316191 := ⟨by omega, by omega⟩
          refine lv_iload hx hb dX10_bestOf_85 (lv_at hl 0 rfl) ?_
          refine lv_if_ge (tgt := 96) hx hb dX10_bestOf_87 (by decide) (fun c205 => ?_) (fun c205 => ?_)
          · have dc205 : 0 ≤ r179.toInt := le_i (a := 0) (b := r179.toInt) rfl rfl c205
            have k206 : 0 ≤ r179.toInt ∧ r179.toInt ≤ 32400 := ⟨Int.le_trans (Int.le_refl _) dc205, t191.2⟩
            refine lv_iload hx hb dX10_bestOf_96 (lv_at hl 0 rfl) ?_
            obtain ⟨g207, eg207⟩ : ∃ z : Nat → Int32, upd w130 r200.toNatClampNeg r179 = z := ⟨_, rfl⟩
            have r208 : SG 0 316191 0 100000000 g207 := by rw [← eg207]; exact i136.up (Int.le_trans (by decide) k204.1) (Or.inr (Or.inr (ir_wk k206 (by decide) (by decide))))
            refine iast_g hx hb hK hP hD hS 0 0 rfl rfl (ix_k k204 (by decide) (by decide)) eg207 dX10_bestOf_98 (fun H locs hP hD hS => ?_)
            have hP : va_P D vwCl [(h_times, .inl (cI, 316192, .inl g207)), (h_stateBy, .inl (cI, 38560, .inl f_stateBy)), (h_timeOf, .inl (cI, 38560, .inl f_timeOf)), (h0, .inr (10, vL 67 F180)), (h_s, .inl (cI, 335, .inl f_s)), (h_behindAt, .inl (cI, 12, .inl g184))] H := hP
            have hD : va_D A [(h_times, .inl (cI, 316192, .inl g207)), (h_stateBy, .inl (cI, 38560, .inl f_stateBy)), (h_timeOf, .inl (cI, 38560, .inl f_timeOf)), (h0, .inr (10, vL 67 F180)), (h_s, .inl (cI, 335, .inl f_s)), (h_behindAt, .inl (cI, 12, .inl g184))] := hD
            obtain ⟨v209, ev209⟩ : ∃ z : Int32, z = u128 + 1 := ⟨_, rfl⟩
            have bv209 : v209.toInt = u128.toInt + 1 := by rw [ev209]; exact add_k rfl rfl k146 ⟨Int.le_refl _, Int.le_refl _⟩ (by decide)
            have k210 : 11 ≤ v209.toInt ∧ v209.toInt ≤ 251 := add_r bv209 k146 ⟨Int.le_refl _, Int.le_refl _⟩ (by decide)
            refine lv_iinc (v := v209) (lv' := [(4, .int v209), (5, .int r179), (3, .int u109), (2, .int u7), (1, .int v6), (0, .ref h0)]) hx hb dX10_bestOf_99 hl (k := 1) rfl (by rw [ev209]; rfl) (by decide) rfl (fun ls hl => ?_)
            refine lv_goto (tgt := 41) hx hb dX10_bestOf_102 (by decide) ?_
            exact ih_41 (v209, g184, g207, F180, y181, y182, y183) ⟨(ir_wk k210 (by decide) (by decide)), r208, (SAME.tr (SAME.tr SAME.rf i137 (by decide)) t185 (by decide)), t186, t188, t190, t187⟩ (by show (251 - v209.toInt).toNat < (251 - u128.toInt).toNat; omega) _ _ _ (hP.sub [5, 0, 1, 2, 3, 4] rfl) (hD.sub [5, 0, 1, 2, 3, 4] (by decide) rfl) hS (lv_sub hl [0, 2, 3, 4, 5] rfl)
          · have dc205 : r179.toInt < 0 := nle_i (a := 0) (b := r179.toInt) rfl rfl c205
            have k211 : (-1) ≤ r179.toInt ∧ r179.toInt ≤ (-1) := ⟨t191.1, up_lt dc205 (Int.le_refl _) (by decide)⟩
            refine lv_ldcw hx hb hown (hw _ q_1701) dX10_bestOf_90 ?_
            refine lv_goto (tgt := 98) hx hb dX10_bestOf_93 (by decide) ?_
            obtain ⟨g212, eg212⟩ : ∃ z : Nat → Int32, upd w130 r200.toNatClampNeg 100000000 = z := ⟨_, rfl⟩
            have r213 : SG 0 316191 0 100000000 g212 := by rw [← eg212]; exact i136.up (Int.le_trans (by decide) k204.1) (Or.inr (Or.inr ⟨by decide, by decide⟩))
            refine iast_g hx hb hK hP hD hS 0 0 rfl rfl (ix_k k204 (by decide) (by decide)) eg212 dX10_bestOf_98 (fun H locs hP hD hS => ?_)
            have hP : va_P D vwCl [(h_times, .inl (cI, 316192, .inl g212)), (h_stateBy, .inl (cI, 38560, .inl f_stateBy)), (h_timeOf, .inl (cI, 38560, .inl f_timeOf)), (h0, .inr (10, vL 67 F180)), (h_s, .inl (cI, 335, .inl f_s)), (h_behindAt, .inl (cI, 12, .inl g184))] H := hP
            have hD : va_D A [(h_times, .inl (cI, 316192, .inl g212)), (h_stateBy, .inl (cI, 38560, .inl f_stateBy)), (h_timeOf, .inl (cI, 38560, .inl f_timeOf)), (h0, .inr (10, vL 67 F180)), (h_s, .inl (cI, 335, .inl f_s)), (h_behindAt, .inl (cI, 12, .inl g184))] := hD
            obtain ⟨v214, ev214⟩ : ∃ z : Int32, z = u128 + 1 := ⟨_, rfl⟩
            have bv214 : v214.toInt = u128.toInt + 1 := by rw [ev214]; exact add_k rfl rfl k146 ⟨Int.le_refl _, Int.le_refl _⟩ (by decide)
            have k215 : 11 ≤ v214.toInt ∧ v214.toInt ≤ 251 := add_r bv214 k146 ⟨Int.le_refl _, Int.le_refl _⟩ (by decide)
            refine lv_iinc (v := v214) (lv' := [(4, .int v214), (5, .int r179), (3, .int u109), (2, .int u7), (1, .int v6), (0, .ref h0)]) hx hb dX10_bestOf_99 hl (k := 1) rfl (by rw [ev214]; rfl) (by decide) rfl (fun ls hl => ?_)
            refine lv_goto (tgt := 41) hx hb dX10_bestOf_102 (by decide) ?_
            exact ih_41 (v214, g184, g212, F180, y181, y182, y183) ⟨(ir_wk k215 (by decide) (by decide)), r213, (SAME.tr (SAME.tr SAME.rf i137 (by decide)) t185 (by decide)), t186, t188, t190, t187⟩ (by show (251 - v214.toInt).toNat < (251 - u128.toInt).toNat; omega) _ _ _ (hP.sub [5, 0, 1, 2, 3, 4] rfl) (hD.sub [5, 0, 1, 2, 3, 4] (by decide) rfl) hS (lv_sub hl [0, 2, 3, 4, 5] rfl)
set_option maxHeartbeats 4000000 in
set_option maxRecDepth 100000 in
theorem m_X10_best (l : Launch) (D : va_G) (cI cJ cB cP cM cZ : ClassId) (h0 : Nat) (h_s : Nat) (h_behindAt : Nat) (h_times : Nat) (h_bestYard : Nat) (h_bestCrew : Nat) (h_stateBy : Nat) (h_timeOf : Nat) (Fh : Nat → Value) (x_bendsGone : Int32) (x_overAt : Int32) (x_endPace : Int32) (x_touchBend : Int32) (x_touchBy : Int32) (x_bestId : Int32) (x_choicePace : Int32) (x_choiceSet : Int32) (x_choiceAhead : Int32) (x_hasBest : Int32) (f_s : Nat → Int32) (f_behindAt : Nat → Int32) (f_times : Nat → Int32) (f_bestYard : Nat → Int32) (f_bestCrew : Nat → Int32) (f_stateBy : Nat → Int32) (f_timeOf : Nat → Int32) (bs : Nat → Int32) (sz : Nat) (e_s : Fh 6 = .ref h_s) (e_behindAt : Fh 33 = .ref h_behindAt) (e_bendsGone : Fh 34 = .int x_bendsGone) (i_x_bendsGone : IR 0 12 x_bendsGone) (e_overAt : Fh 35 = .int x_overAt) (e_endPace : Fh 36 = .int x_endPace) (e_touchBend : Fh 37 = .int x_touchBend) (e_touchBy : Fh 38 = .int x_touchBy) (i_x_touchBy : IR 0 99 x_touchBy) (e_times : Fh 42 = .ref h_times) (e_bestYard : Fh 43 = .ref h_bestYard) (e_bestCrew : Fh 44 = .ref h_bestCrew) (e_bestId : Fh 45 = .int x_bestId) (e_choicePace : Fh 46 = .int x_choicePace) (e_choiceSet : Fh 47 = .int x_choiceSet) (e_choiceAhead : Fh 48 = .int x_choiceAhead) (e_stateBy : Fh 49 = .ref h_stateBy) (e_timeOf : Fh 50 = .ref h_timeOf) (e_hasBest : Fh 51 = .int x_hasBest) (i_x_hasBest : IR 0 1 x_hasBest) (s_s_K0 : KW 0 f_s) (s_s_US : US bs f_s) (s_s_0 : SG 0 0 0 40 f_s) (s_s_105 : SG 105 108 0 11 f_s) (s_s_114 : SG 114 114 0 5 f_s) (s_s_130 : SG 130 133 0 11 f_s) (s_s_139 : SG 139 139 0 5 f_s) (s_s_153 : SG 153 153 0 44 f_s) (s_s_44 : SG 44 55 0 9 f_s) (s_s_5 : SG 5 5 0 12 f_s) (s_s_6 : SG 6 6 0 12 f_s) (s_s_7 : SG 7 7 0 6 f_s) (s_times_0 : SG 0 316191 0 100000000 f_times) (s_stateBy_0 : SG 0 38559 (-1) 7711 f_stateBy) (s_timeOf_0 : SG 0 38559 0 300 f_timeOf) : CI l yX10_best cX10_best 5 (some .int) { frames := 6, cells := 0, slots := 0, locals := 141 } (GG D cI cJ cB cP cM cZ) D [(h0, .inr (10, vL 67 Fh)), (h_s, .inl (cI, 335, .inl f_s)), (h_behindAt, .inl (cI, 12, .inl f_behindAt)), (h_times, .inl (cI, 316192, .inl f_times)), (h_bestYard, .inl (cI, 4, .inl f_bestYard)), (h_bestCrew, .inl (cI, 4, .inl f_bestCrew)), (h_stateBy, .inl (cI, 38560, .inl f_stateBy)), (h_timeOf, .inl (cI, 38560, .inl f_timeOf))] sz [.ref h0] (fun (r : Int32) (u : va_W) => ∃ (Gh : Nat → Value) (y_bendsGone : Int32) (y_overAt : Int32) (y_endPace : Int32) (y_bestId : Int32) (y_choicePace : Int32) (y_choiceSet : Int32) (y_choiceAhead : Int32) (y_hasBest : Int32) (g_behindAt : Nat → Int32) (g_times : Nat → Int32) (g_bestYard : Nat → Int32) (g_bestCrew : Nat → Int32) (g_stateBy : Nat → Int32) (g_timeOf : Nat → Int32), SAME [0, 34, 35, 36, 45, 46, 47, 48, 51] Fh Gh ∧ Gh 0 = .int 0 ∧ Gh 34 = .int y_bendsGone ∧ IR 0 12 y_bendsGone ∧ Gh 35 = .int y_overAt ∧ Gh 36 = .int y_endPace ∧ Gh 45 = .int y_bestId ∧ Gh 46 = .int y_choicePace ∧ Gh 47 = .int y_choiceSet ∧ Gh 48 = .int y_choiceAhead ∧ Gh 51 = .int y_hasBest ∧ IR 0 1 y_hasBest ∧ SG 0 316191 0 100000000 g_times ∧ SG 0 38559 (-1) 7711 g_stateBy ∧ SG 0 38559 0 300 g_timeOf ∧ IR (-1) 99999999 r ∧ u = [(h0, .inr (10, vL 67 Gh)), (h_s, .inl (cI, 335, .inl f_s)), (h_behindAt, .inl (cI, 12, .inl g_behindAt)), (h_times, .inl (cI, 316192, .inl g_times)), (h_bestYard, .inl (cI, 4, .inl g_bestYard)), (h_bestCrew, .inl (cI, 4, .inl g_bestCrew)), (h_stateBy, .inl (cI, 38560, .inl g_stateBy)), (h_timeOf, .inl (cI, 38560, .inl g_timeOf))]) := by
  refine CI_mk (by decide) (Nat.le_of_ble_eq_true rfl) ?_
  intro p e s m below meth c A ls E hAe hG hsz hP hD hA hS hl
  obtain ⟨hx, hb, hr, hw, hown, hlocks, hml, hnm⟩ := E
  have hK := hG.1
  have i_x_bendsGone : 0 ≤ x_bendsGone.toInt ∧ x_bendsGone.toInt ≤ 12 := i_x_bendsGone
  have i_x_touchBy : 0 ≤ x_touchBy.toInt ∧ x_touchBy.toInt ≤ 99 := i_x_touchBy
  have i_x_hasBest : 0 ≤ x_hasBest.toInt ∧ x_hasBest.toInt ≤ 1 := i_x_hasBest
  have hl : lv_has ls 5 [(0, .ref h0)] := hl
  refine lv_aload_n hx hb dX10_best_0 rfl (lv_at hl 0 rfl) ?_
  refine lv_iconst (v := 0) hx hb dX10_best_1 (by decide) ?_
  refine put_f (D := D) (ci := 10) (v := .int 0) (ty := .int) (C := RX10) (T := TX10) (N := 67) hx hb hw inAX10 tyX10 tyX10_ok nmX10 hown hK hP hD hS 0 rfl rfl 0 (by decide) (hw _ q_1261) (fun _ h9 => h9) rfl (by decide +kernel) rfl rfl dX10_best_2 (fun H locs F1 eF1 hP hD hS => ?_)
  have hP : va_P D vwCl [(h0, .inr (10, vL 67 F1)), (h_s, .inl (cI, 335, .inl f_s)), (h_behindAt, .inl (cI, 12, .inl f_behindAt)), (h_times, .inl (cI, 316192, .inl f_times)), (h_bestYard, .inl (cI, 4, .inl f_bestYard)), (h_bestCrew, .inl (cI, 4, .inl f_bestCrew)), (h_stateBy, .inl (cI, 38560, .inl f_stateBy)), (h_timeOf, .inl (cI, 38560, .inl f_timeOf))] H := hP
  have hD : va_D A [(h0, .inr (10, vL 67 F1)), (h_s, .inl (cI, 335, .inl f_s)), (h_behindAt, .inl (cI, 12, .inl f_behindAt)), (h_times, .inl (cI, 316192, .inl f_times)), (h_bestYard, .inl (cI, 4, .inl f_bestYard)), (h_bestCrew, .inl (cI, 4, .inl f_bestCrew)), (h_stateBy, .inl (cI, 38560, .inl f_stateBy)), (h_timeOf, .inl (cI, 38560, .inl f_timeOf))] := hD
  refine lv_aload_n hx hb dX10_best_5 rfl (lv_at hl 0 rfl) ?_
  have n2 : F1 6 = .ref h_s := (get_ne eF1 (by decide) e_s)
  refine call_Vi (wr := [(h_behindAt, .inl (cI, 12, .inl f_behindAt)), (h_times, .inl (cI, 316192, .inl f_times)), (h_bestYard, .inl (cI, 4, .inl f_bestYard)), (h_bestCrew, .inl (cI, 4, .inl f_bestCrew)), (h_stateBy, .inl (cI, 38560, .inl f_stateBy)), (h_timeOf, .inl (cI, 38560, .inl f_timeOf))]) (As := []) (rest := []) hx hb hml hown hw (m_X10_hasCrew l D cI cJ cB cP cM cZ h0 h_s F1 f_s bs _ n2 s_s_K0 s_s_US s_s_0 s_s_105 s_s_114 s_s_130 s_s_139 s_s_153 s_s_44 s_s_5 s_s_6 s_s_7) wV_X10_281_X10_hasCrew dX10_best_6 hK hP hD hS hA [0, 1] [2, 3, 4, 5, 6, 7] rfl rfl (by decide) (by decide) (by decide) 0 10 rfl rfl GG.fb hG.at hl.1 rfl (Nat.le_of_ble_eq_true rfl) ⟨(Nat.le_of_ble_eq_true rfl), (Nat.le_of_ble_eq_true rfl)⟩ ⟨(Nat.le_of_ble_eq_true rfl), (Nat.le_of_ble_eq_true rfl)⟩ (fun r3 u H locs hp hP hD hS => ?_)
  rcases hp with ⟨rfl, rfl⟩ | ⟨rfl, rfl⟩
  · have hP : va_P D vwCl [(h_behindAt, .inl (cI, 12, .inl f_behindAt)), (h_times, .inl (cI, 316192, .inl f_times)), (h_bestYard, .inl (cI, 4, .inl f_bestYard)), (h_bestCrew, .inl (cI, 4, .inl f_bestCrew)), (h_stateBy, .inl (cI, 38560, .inl f_stateBy)), (h_timeOf, .inl (cI, 38560, .inl f_timeOf)), (h0, .inr (10, vL 67 F1)), (h_s, .inl (cI, 335, .inl f_s))] H := hP
    have hD : va_D A [(h_behindAt, .inl (cI, 12, .inl f_behindAt)), (h_times, .inl (cI, 316192, .inl f_times)), (h_bestYard, .inl (cI, 4, .inl f_bestYard)), (h_bestCrew, .inl (cI, 4, .inl f_bestCrew)), (h_stateBy, .inl (cI, 38560, .inl f_stateBy)), (h_timeOf, .inl (cI, 38560, .inl f_timeOf)), (h0, .inr (10, vL 67 F1)), (h_s, .inl (cI, 335, .inl f_s))] := hD
    refine W.widen (k := 0) (n := 0) (Nat.le_of_ble_eq_true rfl) (Nat.le_of_ble_eq_true rfl) ?_
    refine lv_if_ne (tgt := 14) hx hb dX10_best_9 (by decide) (fun g => absurd (by decide) g) (fun _ => ?_)
    refine lv_iconst (v := (-1)) hx hb dX10_best_12 (by decide) ?_
    exact ret_i (v := (-1)) hx hb hr hlocks hS (hP.sub (ws' := [(h0, .inr (10, vL 67 F1)), (h_s, .inl (cI, 335, .inl f_s)), (h_behindAt, .inl (cI, 12, .inl f_behindAt)), (h_times, .inl (cI, 316192, .inl f_times)), (h_bestYard, .inl (cI, 4, .inl f_bestYard)), (h_bestCrew, .inl (cI, 4, .inl f_bestCrew)), (h_stateBy, .inl (cI, 38560, .inl f_stateBy)), (h_timeOf, .inl (cI, 38560, .inl f_timeOf))]) [6, 7, 0, 1, 2, 3, 4, 5] rfl) (hD.sub (ws' := [(h0, .inr (10, vL 67 F1)), (h_s, .inl (cI, 335, .inl f_s)), (h_behindAt, .inl (cI, 12, .inl f_behindAt)), (h_times, .inl (cI, 316192, .inl f_times)), (h_bestYard, .inl (cI, 4, .inl f_bestYard)), (h_bestCrew, .inl (cI, 4, .inl f_bestCrew)), (h_stateBy, .inl (cI, 38560, .inl f_stateBy)), (h_timeOf, .inl (cI, 38560, .inl f_timeOf))]) [6, 7, 0, 1, 2, 3, 4, 5] (by decide) rfl) dX10_best_13 rfl (Nat.le_of_ble_eq_true rfl) (Nat.le_of_ble_eq_true rfl) ⟨F1, x_bendsGone, x_overAt, x_endPace, x_bestId, x_choicePace, x_choiceSet, x_choiceAhead, x_hasBest, f_behindAt, f_times, f_bestYard, f_bestCrew, f_stateBy, f_timeOf, (SAME.up eF1 SAME.rf (by decide)), (get_eq eF1), (get_ne eF1 (by decide) e_bendsGone), i_x_bendsGone, (get_ne eF1 (by decide) e_overAt), (get_ne eF1 (by decide) e_endPace), (get_ne eF1 (by decide) e_bestId), (get_ne eF1 (by decide) e_choicePace), (get_ne eF1 (by decide) e_choiceSet), (get_ne eF1 (by decide) e_choiceAhead), (get_ne eF1 (by decide) e_hasBest), i_x_hasBest, s_times_0, s_stateBy_0, s_timeOf_0, (show (-1) ≤ ((-1) : Int32).toInt ∧ ((-1) : Int32).toInt ≤ 99999999 by decide), rfl⟩
  · have hP : va_P D vwCl [(h_behindAt, .inl (cI, 12, .inl f_behindAt)), (h_times, .inl (cI, 316192, .inl f_times)), (h_bestYard, .inl (cI, 4, .inl f_bestYard)), (h_bestCrew, .inl (cI, 4, .inl f_bestCrew)), (h_stateBy, .inl (cI, 38560, .inl f_stateBy)), (h_timeOf, .inl (cI, 38560, .inl f_timeOf)), (h0, .inr (10, vL 67 F1)), (h_s, .inl (cI, 335, .inl f_s))] H := hP
    have hD : va_D A [(h_behindAt, .inl (cI, 12, .inl f_behindAt)), (h_times, .inl (cI, 316192, .inl f_times)), (h_bestYard, .inl (cI, 4, .inl f_bestYard)), (h_bestCrew, .inl (cI, 4, .inl f_bestCrew)), (h_stateBy, .inl (cI, 38560, .inl f_stateBy)), (h_timeOf, .inl (cI, 38560, .inl f_timeOf)), (h0, .inr (10, vL 67 F1)), (h_s, .inl (cI, 335, .inl f_s))] := hD
    refine W.widen (k := 0) (n := 0) (Nat.le_of_ble_eq_true rfl) (Nat.le_of_ble_eq_true rfl) ?_
    refine lv_if_ne (tgt := 14) hx hb dX10_best_9 (by decide) (fun _ => ?_) (fun g => absurd g (by decide))
    refine lv_aload_n hx hb dX10_best_14 rfl (lv_at hl 0 rfl) ?_
    have n5 : F1 33 = .ref h_behindAt := (get_ne eF1 (by decide) e_behindAt)
    have n6 : F1 34 = .int x_bendsGone := (get_ne eF1 (by decide) e_bendsGone)
    have n7 : F1 35 = .int x_overAt := (get_ne eF1 (by decide) e_overAt)
    have n8 : F1 36 = .int x_endPace := (get_ne eF1 (by decide) e_endPace)
    have n9 : F1 37 = .int x_touchBend := (get_ne eF1 (by decide) e_touchBend)
    have n10 : F1 38 = .int x_touchBy := (get_ne eF1 (by decide) e_touchBy)
    have n11 : F1 42 = .ref h_times := (get_ne eF1 (by decide) e_times)
    have n12 : F1 46 = .int x_choicePace := (get_ne eF1 (by decide) e_choicePace)
    have n13 : F1 47 = .int x_choiceSet := (get_ne eF1 (by decide) e_choiceSet)
    have n14 : F1 48 = .int x_choiceAhead := (get_ne eF1 (by decide) e_choiceAhead)
    have n15 : F1 49 = .ref h_stateBy := (get_ne eF1 (by decide) e_stateBy)
    have n16 : F1 50 = .ref h_timeOf := (get_ne eF1 (by decide) e_timeOf)
    refine call_Vi (wr := [(h_bestYard, .inl (cI, 4, .inl f_bestYard)), (h_bestCrew, .inl (cI, 4, .inl f_bestCrew))]) (As := []) (rest := []) hx hb hml hown hw (m_X10_bestOf l D cI cJ cB cP cM cZ h0 h_s h_behindAt h_times h_stateBy h_timeOf F1 x_bendsGone x_overAt x_endPace x_touchBend x_touchBy x_choicePace x_choiceSet x_choiceAhead f_s f_behindAt f_times f_stateBy f_timeOf bs _ n2 n5 n6 i_x_bendsGone n7 n8 n9 n10 i_x_touchBy n11 n12 n13 n14 n15 n16 s_s_K0 s_s_US s_s_0 s_s_105 s_s_114 s_s_130 s_s_139 s_s_153 s_s_44 s_s_5 s_s_6 s_s_7 s_times_0 s_stateBy_0 s_timeOf_0) wV_X10_401_X10_bestOf dX10_best_15 hK hP hD hS hA [6, 7, 0, 1, 4, 5] [2, 3] rfl rfl (by decide) (by decide) (by decide) 0 10 rfl rfl GG.fb hG.at hl.1 rfl (Nat.le_of_ble_eq_true rfl) ⟨(Nat.le_of_ble_eq_true rfl), (Nat.le_of_ble_eq_true rfl)⟩ ⟨(Nat.le_of_ble_eq_true rfl), (Nat.le_of_ble_eq_true rfl)⟩ (fun r17 u H locs hp hP hD hS => ?_)
    refine hp.elim (fun F18 h9z0 => h9z0.elim (fun y19 h9z1 => h9z1.elim (fun y20 h9z2 => h9z2.elim (fun y21 h9z3 => h9z3.elim (fun y22 h9z4 => h9z4.elim (fun y23 h9z5 => h9z5.elim (fun y24 h9z6 => h9z6.elim (fun g25 h9z7 => h9z7.elim (fun g26 h9z8 => h9z8.elim (fun g27 h9z9 => h9z9.elim (fun g28 h9z10 => h9z10.elim (fun t29 h9z11 => h9z11.elim (fun t30 h9z12 => h9z12.elim (fun t31 h9z13 => h9z13.elim (fun t32 h9z14 => h9z14.elim (fun t33 h9z15 => h9z15.elim (fun t34 h9z16 => h9z16.elim (fun t35 h9z17 => h9z17.elim (fun t36 h9z18 => h9z18.elim (fun t37 h9z19 => h9z19.elim (fun t38 h9z20 => h9z20.elim (fun t39 h9z21 => h9z21.elim (fun t40 h9z22 => h9z22.elim (fun t41 h9z23 => h9z23.elim (fun t42 h9z24 => ?_)))))))))))))))))))))))))
    clear h9z0 h9z1 h9z2 h9z3 h9z4 h9z5 h9z6 h9z7 h9z8 h9z9 h9z10 h9z11 h9z12 h9z13 h9z14 h9z15 h9z16 h9z17 h9z18 h9z19 h9z20 h9z21 h9z22 h9z23
    subst h9z24
    have hP : va_P D vwCl [(h_bestYard, .inl (cI, 4, .inl f_bestYard)), (h_bestCrew, .inl (cI, 4, .inl f_bestCrew)), (h0, .inr (10, vL 67 F18)), (h_s, .inl (cI, 335, .inl f_s)), (h_behindAt, .inl (cI, 12, .inl g25)), (h_times, .inl (cI, 316192, .inl g26)), (h_stateBy, .inl (cI, 38560, .inl g27)), (h_timeOf, .inl (cI, 38560, .inl g28))] H := hP
    have hD : va_D A [(h_bestYard, .inl (cI, 4, .inl f_bestYard)), (h_bestCrew, .inl (cI, 4, .inl f_bestCrew)), (h0, .inr (10, vL 67 F18)), (h_s, .inl (cI, 335, .inl f_s)), (h_behindAt, .inl (cI, 12, .inl g25)), (h_times, .inl (cI, 316192, .inl g26)), (h_stateBy, .inl (cI, 38560, .inl g27)), (h_timeOf, .inl (cI, 38560, .inl g28))] := hD
    refine W.widen (k := 0) (n := 0) (Nat.le_of_ble_eq_true rfl) (Nat.le_of_ble_eq_true rfl) ?_
    refine lv_istore_n (lv' := [(1, .int r17), (0, .ref h0)]) hx hb dX10_best_18 rfl hl (by decide) rfl (fun ls hl => ?_)
    refine lv_iload_n hx hb dX10_best_19 rfl (lv_at hl 0 rfl) ?_
    refine lv_ldcw hx hb hown (hw _ q_1701) dX10_best_20 ?_
    refine lv_icmp_lt (tgt := 28) hx hb dX10_best_23 (by decide) (fun c44 => ?_) (fun c44 => ?_)
    · have dc44 : r17.toInt < 100000000 := lt_i (a := r17.toInt) (b := 100000000) rfl rfl c44
      have k45 : 0 ≤ r17.toInt ∧ r17.toInt ≤ 99999999 := ⟨t40.1, up_lt dc44 (Int.le_refl _) (by decide)⟩
      refine lv_iconst (v := 0) hx hb dX10_best_28 (by decide) ?_
      refine lv_iconst (v := 0) hx hb dX10_best_29 (by decide) ?_
      refine lv_iconst (v := 0) hx hb dX10_best_30 (by decide) ?_
      refine lv_bipush (v := 30) hx hb dX10_best_31 (by decide) ?_
      refine call_Si (wr := [(h_bestYard, .inl (cI, 4, .inl f_bestYard)), (h_bestCrew, .inl (cI, 4, .inl f_bestCrew)), (h0, .inr (10, vL 67 F18)), (h_s, .inl (cI, 335, .inl f_s)), (h_behindAt, .inl (cI, 12, .inl g25)), (h_times, .inl (cI, 316192, .inl g26)), (h_stateBy, .inl (cI, 38560, .inl g27)), (h_timeOf, .inl (cI, 38560, .inl g28))]) (As := [.int 0, .int 0, .int 0, .int 30]) (rest := []) hx hb hml hown hw (m_X10_slot l D cI cJ cB cP cM cZ 0 0 0 30 _ (show 0 ≤ (0 : Int32).toInt ∧ (0 : Int32).toInt ≤ 40 by decide) (show 0 ≤ (0 : Int32).toInt ∧ (0 : Int32).toInt ≤ 15 by decide) (show 0 ≤ (0 : Int32).toInt ∧ (0 : Int32).toInt ≤ 1 by decide) (show 10 ≤ (30 : Int32).toInt ∧ (30 : Int32).toInt ≤ 250 by decide)) wS_X10_390_X10_slot dX10_best_33 hP hD hS hA [] [0, 1, 2, 3, 4, 5, 6, 7] rfl rfl (by decide) (by decide) (by decide) GG.fb hG.at hl.1 rfl (Nat.le_of_ble_eq_true rfl) ⟨(Nat.le_of_ble_eq_true rfl), (Nat.le_of_ble_eq_true rfl)⟩ ⟨(Nat.le_of_ble_eq_true rfl), (Nat.le_of_ble_eq_true rfl)⟩ (fun r46 u H locs hp hP hD hS => ?_)
      have zl0 : (0 : Int32).toInt = 0 := by decide
      have zl30 : (30 : Int32).toInt = 30 := by decide
      obtain ⟨t47, t48, rfl⟩ := hp
      have hP : va_P D vwCl [(h_bestYard, .inl (cI, 4, .inl f_bestYard)), (h_bestCrew, .inl (cI, 4, .inl f_bestCrew)), (h0, .inr (10, vL 67 F18)), (h_s, .inl (cI, 335, .inl f_s)), (h_behindAt, .inl (cI, 12, .inl g25)), (h_times, .inl (cI, 316192, .inl g26)), (h_stateBy, .inl (cI, 38560, .inl g27)), (h_timeOf, .inl (cI, 38560, .inl g28))] H := hP
      have hD : va_D A [(h_bestYard, .inl (cI, 4, .inl f_bestYard)), (h_bestCrew, .inl (cI, 4, .inl f_bestCrew)), (h0, .inr (10, vL 67 F18)), (h_s, .inl (cI, 335, .inl f_s)), (h_behindAt, .inl (cI, 12, .inl g25)), (h_times, .inl (cI, 316192, .inl g26)), (h_stateBy, .inl (cI, 38560, .inl g27)), (h_timeOf, .inl (cI, 38560, .inl g28))] := hD
      refine W.widen (k := 0) (n := 0) (Nat.le_of_ble_eq_true rfl) (Nat.le_of_ble_eq_true rfl) ?_
      have k50 : 20 ≤ r46.toInt ∧ r46.toInt ≤ 20 := ⟨by omega, by omega⟩
      refine lv_istore_n (lv' := [(2, .int r46), (1, .int r17), (0, .ref h0)]) hx hb dX10_best_36 rfl hl (by decide) rfl (fun ls hl => ?_)
      refine lv_iconst (v := 0) hx hb dX10_best_37 (by decide) ?_
      refine lv_istore_n (lv' := [(3, .int 0), (2, .int r46), (1, .int r17), (0, .ref h0)]) hx hb dX10_best_38 rfl hl (by decide) rfl (fun ls hl => ?_)
      refine mloop (α := (Int32) × (Int32) × (Nat → Int32)) (nL := 5) (D := D) (A := A) (H0 := s.heap) (fun a => (40 - a.1.toInt).toNat) (fun a => IR 0 40 a.1 ∧ IR 0 7711 a.2.1 ∧ ((g26 (7712 * a.1.toInt + a.2.1.toInt).toNat).toInt < 100000000)) (fun a => [(h_bestYard, .inl (cI, 4, .inl a.2.2)), (h_bestCrew, .inl (cI, 4, .inl f_bestCrew)), (h0, .inr (10, vL 67 F18)), (h_s, .inl (cI, 335, .inl f_s)), (h_behindAt, .inl (cI, 12, .inl g25)), (h_times, .inl (cI, 316192, .inl g26)), (h_stateBy, .inl (cI, 38560, .inl g27)), (h_timeOf, .inl (cI, 38560, .inl g28))]) (fun a => [(3, .int a.1), (2, .int a.2.1), (1, .int r17), (0, .ref h0)]) (fun H locs ls => W p l e ({ frames := 6, cells := 0, slots := 0, locals := 141 } : Room) s m [.ref h0].toArray below meth c H locs 0 0 (MQ below (va_Qi (fun (r : Int32) (u : va_W) => ∃ (Gh : Nat → Value) (y_bendsGone : Int32) (y_overAt : Int32) (y_endPace : Int32) (y_bestId : Int32) (y_choicePace : Int32) (y_choiceSet : Int32) (y_choiceAhead : Int32) (y_hasBest : Int32) (g_behindAt : Nat → Int32) (g_times : Nat → Int32) (g_bestYard : Nat → Int32) (g_bestCrew : Nat → Int32) (g_stateBy : Nat → Int32) (g_timeOf : Nat → Int32), SAME [0, 34, 35, 36, 45, 46, 47, 48, 51] Fh Gh ∧ Gh 0 = .int 0 ∧ Gh 34 = .int y_bendsGone ∧ IR 0 12 y_bendsGone ∧ Gh 35 = .int y_overAt ∧ Gh 36 = .int y_endPace ∧ Gh 45 = .int y_bestId ∧ Gh 46 = .int y_choicePace ∧ Gh 47 = .int y_choiceSet ∧ Gh 48 = .int y_choiceAhead ∧ Gh 51 = .int y_hasBest ∧ IR 0 1 y_hasBest ∧ SG 0 316191 0 100000000 g_times ∧ SG 0 38559 (-1) 7711 g_stateBy ∧ SG 0 38559 0 300 g_timeOf ∧ IR (-1) 99999999 r ∧ u = [(h0, .inr (10, vL 67 Gh)), (h_s, .inl (cI, 335, .inl f_s)), (h_behindAt, .inl (cI, 12, .inl g_behindAt)), (h_times, .inl (cI, 316192, .inl g_times)), (h_bestYard, .inl (cI, 4, .inl g_bestYard)), (h_bestCrew, .inl (cI, 4, .inl g_bestCrew)), (h_stateBy, .inl (cI, 38560, .inl g_stateBy)), (h_timeOf, .inl (cI, 38560, .inl g_timeOf))]) (PO D A) A) [.ref h0].toArray s 0 0 A) (F0 m 39 ls [])) ?_ (0, r46, f_bestYard) ⟨(show 0 ≤ (0 : Int32).toInt ∧ (0 : Int32).toInt ≤ 40 by decide), (ir_wk k50 (by decide) (by decide)), (show (g26 (7712 * 0 + r46.toInt).toNat).toInt < 100000000 from (by rw [show (7712 * 0 + r46.toInt).toNat = 20 by omega, ← t42]; omega))⟩ _ _ _ hP hD hS hl
      rintro ⟨u51, u52, w53⟩ ⟨i54, i55, i56⟩ ih H locs ls hP hD hS hl
      have i54 : 0 ≤ u51.toInt ∧ u51.toInt ≤ 40 := i54
      have i55 : 0 ≤ u52.toInt ∧ u52.toInt ≤ 7711 := i55
      have i56 : (g26 (7712 * u51.toInt + u52.toInt).toNat).toInt < 100000000 := i56
      have hP : va_P D vwCl [(h_bestYard, .inl (cI, 4, .inl w53)), (h_bestCrew, .inl (cI, 4, .inl f_bestCrew)), (h0, .inr (10, vL 67 F18)), (h_s, .inl (cI, 335, .inl f_s)), (h_behindAt, .inl (cI, 12, .inl g25)), (h_times, .inl (cI, 316192, .inl g26)), (h_stateBy, .inl (cI, 38560, .inl g27)), (h_timeOf, .inl (cI, 38560, .inl g28))] H := hP
      have hD : va_D A [(h_bestYard, .inl (cI, 4, .inl w53)), (h_bestCrew, .inl (cI, 4, .inl f_bestCrew)), (h0, .inr (10, vL 67 F18)), (h_s, .inl (cI, 335, .inl f_s)), (h_behindAt, .inl (cI, 12, .inl g25)), (h_times, .inl (cI, 316192, .inl g26)), (h_stateBy, .inl (cI, 38560, .inl g27)), (h_timeOf, .inl (cI, 38560, .inl g28))] := hD
      have hl : lv_has ls 5 [(3, .int u51), (2, .int u52), (1, .int r17), (0, .ref h0)] := hl
      refine lv_iload_n hx hb dX10_best_39 rfl (lv_at hl 0 rfl) ?_
      refine lv_aload_n hx hb dX10_best_40 rfl (lv_at hl 3 rfl) ?_
      have n57 : F18 6 = .ref h_s := (SAME.at t29 (by decide) n2)
      refine get_f (D := D) (ci := 10) (v := .ref h_s) (C := RX10) (T := TX10) (N := 67) hx hb hw inAX10 hown hK hP 2 rfl rfl 6 (by decide) (hw _ q_1267) (fun _ h9 => h9) n57 dX10_best_41 ?_
      refine lv_iconst (v := 0) hx hb dX10_best_44 (by decide) ?_
      refine iald_n hx hb hK hP 3 0 rfl rfl 0 rfl (Nat.le_of_ble_eq_true rfl) (Nat.le_of_ble_eq_true rfl) rfl dX10_best_45 ?_
      refine lv_topi (fun v58 ev58 => ?_)
      have k59 : 0 ≤ v58.toInt ∧ v58.toInt ≤ 40 := by rw [ev58]; exact s_s_0.atN 0 (by decide) (by decide)
      refine lv_icmp_ge (tgt := 114) hx hb dX10_best_46 (by decide) (fun c60 => ?_) (fun c60 => ?_)
      · have dc60 : v58.toInt ≤ u51.toInt := le_i (a := v58.toInt) (b := u51.toInt) rfl rfl c60
        refine lv_iconst (v := 0) hx hb dX10_best_114 (by decide) ?_
        refine lv_istore_n (lv' := [(3, .int 0), (2, .int u52), (1, .int r17), (0, .ref h0)]) hx hb dX10_best_115 rfl hl (by decide) rfl (fun ls hl => ?_)
        refine mloop (α := (Int32) × (Nat → Int32)) (nL := 5) (D := D) (A := A) (H0 := s.heap) (fun a => (4 - a.1.toInt).toNat) (fun a => IR 0 4 a.1) (fun a => [(h_bestYard, .inl (cI, 4, .inl w53)), (h_bestCrew, .inl (cI, 4, .inl a.2)), (h0, .inr (10, vL 67 F18)), (h_s, .inl (cI, 335, .inl f_s)), (h_behindAt, .inl (cI, 12, .inl g25)), (h_times, .inl (cI, 316192, .inl g26)), (h_stateBy, .inl (cI, 38560, .inl g27)), (h_timeOf, .inl (cI, 38560, .inl g28))]) (fun a => [(3, .int a.1), (2, .int u52), (1, .int r17), (0, .ref h0)]) (fun H locs ls => W p l e ({ frames := 6, cells := 0, slots := 0, locals := 141 } : Room) s m [.ref h0].toArray below meth c H locs 0 0 (MQ below (va_Qi (fun (r : Int32) (u : va_W) => ∃ (Gh : Nat → Value) (y_bendsGone : Int32) (y_overAt : Int32) (y_endPace : Int32) (y_bestId : Int32) (y_choicePace : Int32) (y_choiceSet : Int32) (y_choiceAhead : Int32) (y_hasBest : Int32) (g_behindAt : Nat → Int32) (g_times : Nat → Int32) (g_bestYard : Nat → Int32) (g_bestCrew : Nat → Int32) (g_stateBy : Nat → Int32) (g_timeOf : Nat → Int32), SAME [0, 34, 35, 36, 45, 46, 47, 48, 51] Fh Gh ∧ Gh 0 = .int 0 ∧ Gh 34 = .int y_bendsGone ∧ IR 0 12 y_bendsGone ∧ Gh 35 = .int y_overAt ∧ Gh 36 = .int y_endPace ∧ Gh 45 = .int y_bestId ∧ Gh 46 = .int y_choicePace ∧ Gh 47 = .int y_choiceSet ∧ Gh 48 = .int y_choiceAhead ∧ Gh 51 = .int y_hasBest ∧ IR 0 1 y_hasBest ∧ SG 0 316191 0 100000000 g_times ∧ SG 0 38559 (-1) 7711 g_stateBy ∧ SG 0 38559 0 300 g_timeOf ∧ IR (-1) 99999999 r ∧ u = [(h0, .inr (10, vL 67 Gh)), (h_s, .inl (cI, 335, .inl f_s)), (h_behindAt, .inl (cI, 12, .inl g_behindAt)), (h_times, .inl (cI, 316192, .inl g_times)), (h_bestYard, .inl (cI, 4, .inl g_bestYard)), (h_bestCrew, .inl (cI, 4, .inl g_bestCrew)), (h_stateBy, .inl (cI, 38560, .inl g_stateBy)), (h_timeOf, .inl (cI, 38560, .inl g_timeOf))]) (PO D A) A) [.ref h0].toArray s 0 0 A) (F0 m 116 ls [])) ?_ (0, f_bestCrew) (show 0 ≤ (0 : Int32).toInt ∧ (0 : Int32).toInt ≤ 4 by decide) _ _ _ hP hD hS hl
        rintro ⟨u61, w62⟩ i63 ih_116 H locs ls hP hD hS hl
        have i63 : 0 ≤ u61.toInt ∧ u61.toInt ≤ 4 := i63
        have hP : va_P D vwCl [(h_bestYard, .inl (cI, 4, .inl w53)), (h_bestCrew, .inl (cI, 4, .inl w62)), (h0, .inr (10, vL 67 F18)), (h_s, .inl (cI, 335, .inl f_s)), (h_behindAt, .inl (cI, 12, .inl g25)), (h_times, .inl (cI, 316192, .inl g26)), (h_stateBy, .inl (cI, 38560, .inl g27)), (h_timeOf, .inl (cI, 38560, .inl g28))] H := hP
        have hD : va_D A [(h_bestYard, .inl (cI, 4, .inl w53)), (h_bestCrew, .inl (cI, 4, .inl w62)), (h0, .inr (10, vL 67 F18)), (h_s, .inl (cI, 335, .inl f_s)), (h_behindAt, .inl (cI, 12, .inl g25)), (h_times, .inl (cI, 316192, .inl g26)), (h_stateBy, .inl (cI, 38560, .inl g27)), (h_timeOf, .inl (cI, 38560, .inl g28))] := hD
        have hl : lv_has ls 5 [(3, .int u61), (2, .int u52), (1, .int r17), (0, .ref h0)] := hl
        refine lv_iload_n hx hb dX10_best_116 rfl (lv_at hl 0 rfl) ?_
        refine lv_iconst (v := 4) hx hb dX10_best_117 (by decide) ?_
        refine lv_icmp_ge (tgt := 142) hx hb dX10_best_118 (by decide) (fun c64 => ?_) (fun c64 => ?_)
        · have dc64 : 4 ≤ u61.toInt := le_i (a := 4) (b := u61.toInt) rfl rfl c64
          have k65 : 4 ≤ u61.toInt ∧ u61.toInt ≤ 4 := ⟨Int.le_trans (Int.le_refl _) dc64, i63.2⟩
          refine lv_aload_n hx hb dX10_best_142 rfl (lv_at hl 3 rfl) ?_
          refine lv_aload_n hx hb dX10_best_143 rfl (lv_at hl 3 rfl) ?_
          refine get_f (D := D) (ci := 10) (v := .ref h_s) (C := RX10) (T := TX10) (N := 67) hx hb hw inAX10 hown hK hP 2 rfl rfl 6 (by decide) (hw _ q_1267) (fun _ h9 => h9) n57 dX10_best_144 ?_
          refine lv_sipush (v := 334) hx hb dX10_best_147 (by decide) ?_
          refine iald_n hx hb hK hP 3 0 rfl rfl 334 rfl (Nat.le_of_ble_eq_true rfl) (Nat.le_of_ble_eq_true rfl) rfl dX10_best_150 ?_
          refine lv_topi (fun v66 ev66 => ?_)
          refine put_f (D := D) (ci := 10) (v := .int v66) (ty := .int) (C := RX10) (T := TX10) (N := 67) hx hb hw inAX10 tyX10 tyX10_ok nmX10 hown hK hP hD hS 2 rfl rfl 45 (by decide) (hw _ q_1306) (fun _ h9 => h9) rfl (by decide +kernel) rfl rfl dX10_best_151 (fun H locs F67 eF67 hP hD hS => ?_)
          have hP : va_P D vwCl [(h_bestYard, .inl (cI, 4, .inl w53)), (h_bestCrew, .inl (cI, 4, .inl w62)), (h0, .inr (10, vL 67 F67)), (h_s, .inl (cI, 335, .inl f_s)), (h_behindAt, .inl (cI, 12, .inl g25)), (h_times, .inl (cI, 316192, .inl g26)), (h_stateBy, .inl (cI, 38560, .inl g27)), (h_timeOf, .inl (cI, 38560, .inl g28))] H := hP
          have hD : va_D A [(h_bestYard, .inl (cI, 4, .inl w53)), (h_bestCrew, .inl (cI, 4, .inl w62)), (h0, .inr (10, vL 67 F67)), (h_s, .inl (cI, 335, .inl f_s)), (h_behindAt, .inl (cI, 12, .inl g25)), (h_times, .inl (cI, 316192, .inl g26)), (h_stateBy, .inl (cI, 38560, .inl g27)), (h_timeOf, .inl (cI, 38560, .inl g28))] := hD
          refine lv_aload_n hx hb dX10_best_154 rfl (lv_at hl 3 rfl) ?_
          refine lv_iconst (v := 1) hx hb dX10_best_155 (by decide) ?_
          refine put_f (D := D) (ci := 10) (v := .int 1) (ty := .boolean) (C := RX10) (T := TX10) (N := 67) hx hb hw inAX10 tyX10 tyX10_ok nmX10 hown hK hP hD hS 2 rfl rfl 51 (by decide) (hw _ q_1312) (fun _ h9 => h9) rfl (by decide +kernel) rfl rfl dX10_best_156 (fun H locs F68 eF68 hP hD hS => ?_)
          have hP : va_P D vwCl [(h_bestYard, .inl (cI, 4, .inl w53)), (h_bestCrew, .inl (cI, 4, .inl w62)), (h0, .inr (10, vL 67 F68)), (h_s, .inl (cI, 335, .inl f_s)), (h_behindAt, .inl (cI, 12, .inl g25)), (h_times, .inl (cI, 316192, .inl g26)), (h_stateBy, .inl (cI, 38560, .inl g27)), (h_timeOf, .inl (cI, 38560, .inl g28))] H := hP
          have hD : va_D A [(h_bestYard, .inl (cI, 4, .inl w53)), (h_bestCrew, .inl (cI, 4, .inl w62)), (h0, .inr (10, vL 67 F68)), (h_s, .inl (cI, 335, .inl f_s)), (h_behindAt, .inl (cI, 12, .inl g25)), (h_times, .inl (cI, 316192, .inl g26)), (h_stateBy, .inl (cI, 38560, .inl g27)), (h_timeOf, .inl (cI, 38560, .inl g28))] := hD
          refine lv_iload_n hx hb dX10_best_159 rfl (lv_at hl 2 rfl) ?_
          exact ret_i (v := r17) hx hb hr hlocks hS (hP.sub (ws' := [(h0, .inr (10, vL 67 F68)), (h_s, .inl (cI, 335, .inl f_s)), (h_behindAt, .inl (cI, 12, .inl g25)), (h_times, .inl (cI, 316192, .inl g26)), (h_bestYard, .inl (cI, 4, .inl w53)), (h_bestCrew, .inl (cI, 4, .inl w62)), (h_stateBy, .inl (cI, 38560, .inl g27)), (h_timeOf, .inl (cI, 38560, .inl g28))]) [2, 3, 4, 5, 0, 1, 6, 7] rfl) (hD.sub (ws' := [(h0, .inr (10, vL 67 F68)), (h_s, .inl (cI, 335, .inl f_s)), (h_behindAt, .inl (cI, 12, .inl g25)), (h_times, .inl (cI, 316192, .inl g26)), (h_bestYard, .inl (cI, 4, .inl w53)), (h_bestCrew, .inl (cI, 4, .inl w62)), (h_stateBy, .inl (cI, 38560, .inl g27)), (h_timeOf, .inl (cI, 38560, .inl g28))]) [2, 3, 4, 5, 0, 1, 6, 7] (by decide) rfl) dX10_best_160 rfl (Nat.le_of_ble_eq_true rfl) (Nat.le_of_ble_eq_true rfl) ⟨F68, y19, y20, y21, v66, y22, y23, y24, 1, g25, g26, w53, w62, g27, g28, (SAME.up eF68 (SAME.up eF67 (SAME.tr (SAME.up eF1 SAME.rf (by decide)) t29 (by decide)) (by decide)) (by decide)), (get_ne eF68 (by decide) (get_ne eF67 (by decide) (SAME.at t29 (by decide) (get_eq eF1)))), (get_ne eF68 (by decide) (get_ne eF67 (by decide) t30)), t31, (get_ne eF68 (by decide) (get_ne eF67 (by decide) t32)), (get_ne eF68 (by decide) (get_ne eF67 (by decide) t33)), (get_ne eF68 (by decide) (get_eq eF67)), (get_ne eF68 (by decide) (get_ne eF67 (by decide) t34)), (get_ne eF68 (by decide) (get_ne eF67 (by decide) t35)), (get_ne eF68 (by decide) (get_ne eF67 (by decide) t36)), (get_eq eF68), (show 0 ≤ (1 : Int32).toInt ∧ (1 : Int32).toInt ≤ 1 by decide), t37, t38, t39, (ir_wk k45 (by decide) (by decide)), rfl⟩
        · have dc64 : u61.toInt < 4 := nle_i (a := 4) (b := u61.toInt) rfl rfl c64
          have k69 : 0 ≤ u61.toInt ∧ u61.toInt ≤ 3 := ⟨i63.1, up_lt dc64 (Int.le_refl _) (by decide)⟩
          refine lv_aload_n hx hb dX10_best_121 rfl (lv_at hl 3 rfl) ?_
          have n70 : F1 44 = .ref h_bestCrew := (get_ne eF1 (by decide) e_bestCrew)
          have n71 : F18 44 = .ref h_bestCrew := (SAME.at t29 (by decide) n70)
          refine get_f (D := D) (ci := 10) (v := .ref h_bestCrew) (C := RX10) (T := TX10) (N := 67) hx hb hw inAX10 hown hK hP 2 rfl rfl 44 (by decide) (hw _ q_1305) (fun _ h9 => h9) n71 dX10_best_122 ?_
          refine lv_iload_n hx hb dX10_best_125 rfl (lv_at hl 0 rfl) ?_
          refine lv_aload_n hx hb dX10_best_126 rfl (lv_at hl 3 rfl) ?_
          refine get_f (D := D) (ci := 10) (v := .ref h_s) (C := RX10) (T := TX10) (N := 67) hx hb hw inAX10 hown hK hP 2 rfl rfl 6 (by decide) (hw _ q_1267) (fun _ h9 => h9) n57 dX10_best_127 ?_
          refine lv_bipush (v := 105) hx hb dX10_best_130 (by decide) ?_
          refine lv_iload_n hx hb dX10_best_132 rfl (lv_at hl 0 rfl) ?_
          refine lv_iadd hx hb dX10_best_133 ?_
          refine lv_topi (fun v72 ev72 => ?_)
          have bv72 : v72.toInt = 105 + u61.toInt := by rw [ev72]; exact add_k rfl rfl ⟨Int.le_refl _, Int.le_refl _⟩ k69 (by decide)
          have k73 : 105 ≤ v72.toInt ∧ v72.toInt ≤ 108 := add_r bv72 ⟨Int.le_refl _, Int.le_refl _⟩ k69 (by decide)
          refine va_iald hx hb hK hP 3 0 rfl rfl (ix_k k73 (by decide) (by decide)) dX10_best_134 ?_
          refine lv_topi (fun v74 ev74 => ?_)
          have k75 : 0 ≤ v74.toInt ∧ v74.toInt ≤ 11 := by rw [ev74]; exact s_s_105.at _ (Int.le_trans (by decide) k73.1) (Int.le_trans k73.2 (by decide))
          obtain ⟨g76, eg76⟩ : ∃ z : Nat → Int32, upd w62 u61.toNatClampNeg v74 = z := ⟨_, rfl⟩
          refine iast_g hx hb hK hP hD hS 1 0 rfl rfl (ix_k k69 (by decide) (by decide)) eg76 dX10_best_135 (fun H locs hP hD hS => ?_)
          have hP : va_P D vwCl [(h_bestYard, .inl (cI, 4, .inl w53)), (h_bestCrew, .inl (cI, 4, .inl g76)), (h0, .inr (10, vL 67 F18)), (h_s, .inl (cI, 335, .inl f_s)), (h_behindAt, .inl (cI, 12, .inl g25)), (h_times, .inl (cI, 316192, .inl g26)), (h_stateBy, .inl (cI, 38560, .inl g27)), (h_timeOf, .inl (cI, 38560, .inl g28))] H := hP
          have hD : va_D A [(h_bestYard, .inl (cI, 4, .inl w53)), (h_bestCrew, .inl (cI, 4, .inl g76)), (h0, .inr (10, vL 67 F18)), (h_s, .inl (cI, 335, .inl f_s)), (h_behindAt, .inl (cI, 12, .inl g25)), (h_times, .inl (cI, 316192, .inl g26)), (h_stateBy, .inl (cI, 38560, .inl g27)), (h_timeOf, .inl (cI, 38560, .inl g28))] := hD
          obtain ⟨v77, ev77⟩ : ∃ z : Int32, z = u61 + 1 := ⟨_, rfl⟩
          have bv77 : v77.toInt = u61.toInt + 1 := by rw [ev77]; exact add_k rfl rfl k69 ⟨Int.le_refl _, Int.le_refl _⟩ (by decide)
          have k78 : 1 ≤ v77.toInt ∧ v77.toInt ≤ 4 := add_r bv77 k69 ⟨Int.le_refl _, Int.le_refl _⟩ (by decide)
          refine lv_iinc (v := v77) (lv' := [(3, .int v77), (2, .int u52), (1, .int r17), (0, .ref h0)]) hx hb dX10_best_136 hl (k := 0) rfl (by rw [ev77]; rfl) (by decide) rfl (fun ls hl => ?_)
          refine lv_goto (tgt := 116) hx hb dX10_best_139 (by decide) ?_
          exact ih_116 (v77, g76) (ir_wk k78 (by decide) (by decide)) (by show (4 - v77.toInt).toNat < (4 - u61.toInt).toNat; omega) _ _ _ hP hD hS (lv_sub hl [0, 1, 2, 3] rfl)
      · have dc60 : u51.toInt < v58.toInt := nle_i (a := v58.toInt) (b := u51.toInt) rfl rfl c60
        have k79 : 0 ≤ u51.toInt ∧ u51.toInt ≤ 39 := ⟨i54.1, up_lt dc60 k59.2 (by decide)⟩
        have k80 : 1 ≤ v58.toInt ∧ v58.toInt ≤ 40 := ⟨lo_lt dc60 i54.1 (by decide), k59.2⟩
        refine lv_iconst (v := 0) hx hb dX10_best_49 (by decide) ?_
        refine lv_istore (lv' := [(4, .int 0), (3, .int u51), (2, .int u52), (1, .int r17), (0, .ref h0)]) hx hb dX10_best_50 hl (by decide) rfl (fun ls hl => ?_)
        refine mloop (α := (Int32)) (nL := 5) (D := D) (A := A) (H0 := s.heap) (fun a => (4 - a.toInt).toNat) (fun a => IR 0 4 a ∧ (EXC g26 g27 g28 u51 u52 (a.toInt))) (fun a => [(h_bestYard, .inl (cI, 4, .inl w53)), (h_bestCrew, .inl (cI, 4, .inl f_bestCrew)), (h0, .inr (10, vL 67 F18)), (h_s, .inl (cI, 335, .inl f_s)), (h_behindAt, .inl (cI, 12, .inl g25)), (h_times, .inl (cI, 316192, .inl g26)), (h_stateBy, .inl (cI, 38560, .inl g27)), (h_timeOf, .inl (cI, 38560, .inl g28))]) (fun a => [(4, .int a), (3, .int u51), (2, .int u52), (1, .int r17), (0, .ref h0)]) (fun H locs ls => W p l e ({ frames := 6, cells := 0, slots := 0, locals := 141 } : Room) s m [.ref h0].toArray below meth c H locs 0 0 (MQ below (va_Qi (fun (r : Int32) (u : va_W) => ∃ (Gh : Nat → Value) (y_bendsGone : Int32) (y_overAt : Int32) (y_endPace : Int32) (y_bestId : Int32) (y_choicePace : Int32) (y_choiceSet : Int32) (y_choiceAhead : Int32) (y_hasBest : Int32) (g_behindAt : Nat → Int32) (g_times : Nat → Int32) (g_bestYard : Nat → Int32) (g_bestCrew : Nat → Int32) (g_stateBy : Nat → Int32) (g_timeOf : Nat → Int32), SAME [0, 34, 35, 36, 45, 46, 47, 48, 51] Fh Gh ∧ Gh 0 = .int 0 ∧ Gh 34 = .int y_bendsGone ∧ IR 0 12 y_bendsGone ∧ Gh 35 = .int y_overAt ∧ Gh 36 = .int y_endPace ∧ Gh 45 = .int y_bestId ∧ Gh 46 = .int y_choicePace ∧ Gh 47 = .int y_choiceSet ∧ Gh 48 = .int y_choiceAhead ∧ Gh 51 = .int y_hasBest ∧ IR 0 1 y_hasBest ∧ SG 0 316191 0 100000000 g_times ∧ SG 0 38559 (-1) 7711 g_stateBy ∧ SG 0 38559 0 300 g_timeOf ∧ IR (-1) 99999999 r ∧ u = [(h0, .inr (10, vL 67 Gh)), (h_s, .inl (cI, 335, .inl f_s)), (h_behindAt, .inl (cI, 12, .inl g_behindAt)), (h_times, .inl (cI, 316192, .inl g_times)), (h_bestYard, .inl (cI, 4, .inl g_bestYard)), (h_bestCrew, .inl (cI, 4, .inl g_bestCrew)), (h_stateBy, .inl (cI, 38560, .inl g_stateBy)), (h_timeOf, .inl (cI, 38560, .inl g_timeOf))]) (PO D A) A) [.ref h0].toArray s 0 0 A) (F0 m 52 ls [])) ?_ (0) ⟨(show 0 ≤ (0 : Int32).toInt ∧ (0 : Int32).toInt ≤ 4 by decide), (show EXC g26 g27 g28 u51 u52 (0) from (EXC.of t41 ⟨by omega, by rw [← ev58]; omega⟩ ⟨by omega, by omega⟩ i56))⟩ _ _ _ hP hD hS hl
        rintro u81 ⟨i82, i83⟩ ih_52 H locs ls hP hD hS hl
        have i82 : 0 ≤ u81.toInt ∧ u81.toInt ≤ 4 := i82
        have i83 : EXC g26 g27 g28 u51 u52 (u81.toInt) := i83
        have hP : va_P D vwCl [(h_bestYard, .inl (cI, 4, .inl w53)), (h_bestCrew, .inl (cI, 4, .inl f_bestCrew)), (h0, .inr (10, vL 67 F18)), (h_s, .inl (cI, 335, .inl f_s)), (h_behindAt, .inl (cI, 12, .inl g25)), (h_times, .inl (cI, 316192, .inl g26)), (h_stateBy, .inl (cI, 38560, .inl g27)), (h_timeOf, .inl (cI, 38560, .inl g28))] H := hP
        have hD : va_D A [(h_bestYard, .inl (cI, 4, .inl w53)), (h_bestCrew, .inl (cI, 4, .inl f_bestCrew)), (h0, .inr (10, vL 67 F18)), (h_s, .inl (cI, 335, .inl f_s)), (h_behindAt, .inl (cI, 12, .inl g25)), (h_times, .inl (cI, 316192, .inl g26)), (h_stateBy, .inl (cI, 38560, .inl g27)), (h_timeOf, .inl (cI, 38560, .inl g28))] := hD
        have hl : lv_has ls 5 [(4, .int u81), (3, .int u51), (2, .int u52), (1, .int r17), (0, .ref h0)] := hl
        refine lv_aload_n hx hb dX10_best_52 rfl (lv_at hl 4 rfl) ?_
        refine lv_iload_n hx hb dX10_best_53 rfl (lv_at hl 1 rfl) ?_
        refine lv_iload_n hx hb dX10_best_54 rfl (lv_at hl 2 rfl) ?_
        refine lv_iload hx hb dX10_best_55 (lv_at hl 0 rfl) ?_
        have n84 : F18 42 = .ref h_times := (SAME.at t29 (by decide) n11)
        have n85 : F18 49 = .ref h_stateBy := (SAME.at t29 (by decide) n15)
        have n86 : F18 50 = .ref h_timeOf := (SAME.at t29 (by decide) n16)
        refine call_Vi (wr := [(h_bestYard, .inl (cI, 4, .inl w53)), (h_bestCrew, .inl (cI, 4, .inl f_bestCrew)), (h_s, .inl (cI, 335, .inl f_s)), (h_behindAt, .inl (cI, 12, .inl g25))]) (As := [.int u51, .int u52, .int u81]) (rest := []) hx hb hml hown hw (m_X10_timeBy l D cI cJ cB cP cM cZ h0 h_times h_stateBy h_timeOf F18 g26 g27 g28 u51 u52 u81 _ n84 n85 n86 t37 t38 t39 k79 i55 i82) wV_X10_398_X10_timeBy dX10_best_57 hK hP hD hS hA [2, 5, 6, 7] [0, 1, 3, 4] rfl rfl (by decide) (by decide) (by decide) 0 10 rfl rfl GG.fb hG.at hl.1 rfl (Nat.le_of_ble_eq_true rfl) ⟨(Nat.le_of_ble_eq_true rfl), (Nat.le_of_ble_eq_true rfl)⟩ ⟨(Nat.le_of_ble_eq_true rfl), (Nat.le_of_ble_eq_true rfl)⟩ (fun r87 u H locs hp hP hD hS => ?_)
        obtain ⟨t88, t89, rfl⟩ := hp
        have hP : va_P D vwCl [(h_bestYard, .inl (cI, 4, .inl w53)), (h_bestCrew, .inl (cI, 4, .inl f_bestCrew)), (h_s, .inl (cI, 335, .inl f_s)), (h_behindAt, .inl (cI, 12, .inl g25)), (h0, .inr (10, vL 67 F18)), (h_times, .inl (cI, 316192, .inl g26)), (h_stateBy, .inl (cI, 38560, .inl g27)), (h_timeOf, .inl (cI, 38560, .inl g28))] H := hP
        have hD : va_D A [(h_bestYard, .inl (cI, 4, .inl w53)), (h_bestCrew, .inl (cI, 4, .inl f_bestCrew)), (h_s, .inl (cI, 335, .inl f_s)), (h_behindAt, .inl (cI, 12, .inl g25)), (h0, .inr (10, vL 67 F18)), (h_times, .inl (cI, 316192, .inl g26)), (h_stateBy, .inl (cI, 38560, .inl g27)), (h_timeOf, .inl (cI, 38560, .inl g28))] := hD
        refine W.widen (k := 0) (n := 0) (Nat.le_of_ble_eq_true rfl) (Nat.le_of_ble_eq_true rfl) ?_
        refine lv_aload_n hx hb dX10_best_60 rfl (lv_at hl 4 rfl) ?_
        refine get_f (D := D) (ci := 10) (v := .ref h_times) (C := RX10) (T := TX10) (N := 67) hx hb hw inAX10 hown hK hP 4 rfl rfl 42 (by decide) (hw _ q_1303) (fun _ h9 => h9) n84 dX10_best_61 ?_
        refine lv_sipush (v := 7712) hx hb dX10_best_64 (by decide) ?_
        refine lv_iload_n hx hb dX10_best_67 rfl (lv_at hl 1 rfl) ?_
        refine lv_imul hx hb dX10_best_68 ?_
        refine lv_topi (fun v91 ev91 => ?_)
        have bv91 : v91.toInt = 7712 * u51.toInt := by rw [ev91]; exact kmul_k rfl rfl (by decide) k79 (by decide)
        have k92 : 0 ≤ v91.toInt ∧ v91.toInt ≤ 300768 := kmul_r bv91 (by decide) k79 (by decide)
        refine lv_iload_n hx hb dX10_best_69 rfl (lv_at hl 2 rfl) ?_
        refine lv_iadd hx hb dX10_best_70 ?_
        refine lv_topi (fun v93 ev93 => ?_)
        have bv93 : v93.toInt = v91.toInt + u52.toInt := by rw [ev93]; exact add_k rfl rfl k92 i55 (by decide)
        have k94 : 0 ≤ v93.toInt ∧ v93.toInt ≤ 308479 := add_r bv93 k92 i55 (by decide)
        refine va_iald hx hb hK hP 5 0 rfl rfl (ix_k k94 (by decide) (by decide)) dX10_best_71 ?_
        refine lv_topi (fun v95 ev95 => ?_)
        have k96 : 0 ≤ v95.toInt ∧ v95.toInt ≤ 100000000 := by rw [ev95]; exact t37.at _ (Int.le_trans (by decide) k94.1) (Int.le_trans k94.2 (by decide))
        refine lv_icmp_eq (tgt := 81) hx hb dX10_best_72 (by decide) (fun c97 => ?_) (fun c97 => ?_)
        · have dc97 : r87.toInt = v95.toInt := eq_i (a := r87.toInt) (b := v95.toInt) rfl rfl c97
          have k98 : 0 ≤ r87.toInt ∧ r87.toInt ≤ 100000000 := ⟨t88.1, Int.le_trans (Int.le_of_eq dc97) k96.2⟩
          refine lv_iload hx hb dX10_best_81 (lv_at hl 0 rfl) ?_
          refine lv_if_le (tgt := 96) hx hb dX10_best_83 (by decide) (fun c99 => ?_) (fun c99 => ?_)
          · have dc99 : u81.toInt ≤ 0 := le_i (a := u81.toInt) (b := 0) rfl rfl c99
            have k100 : 0 ≤ u81.toInt ∧ u81.toInt ≤ 0 := ⟨i82.1, Int.le_trans dc99 (Int.le_refl _)⟩
            refine lv_aload_n hx hb dX10_best_96 rfl (lv_at hl 4 rfl) ?_
            refine get_f (D := D) (ci := 10) (v := .ref h_stateBy) (C := RX10) (T := TX10) (N := 67) hx hb hw inAX10 hown hK hP 4 rfl rfl 49 (by decide) (hw _ q_1310) (fun _ h9 => h9) n85 dX10_best_97 ?_
            refine lv_iconst (v := 5) hx hb dX10_best_100 (by decide) ?_
            refine lv_iload_n hx hb dX10_best_101 rfl (lv_at hl 2 rfl) ?_
            refine lv_imul hx hb dX10_best_102 ?_
            refine lv_topi (fun v101 ev101 => ?_)
            have bv101 : v101.toInt = 5 * u52.toInt := by rw [ev101]; exact kmul_k rfl rfl (by decide) i55 (by decide)
            have k102 : 0 ≤ v101.toInt ∧ v101.toInt ≤ 38555 := kmul_r bv101 (by decide) i55 (by decide)
            refine lv_iload hx hb dX10_best_103 (lv_at hl 0 rfl) ?_
            refine lv_iadd hx hb dX10_best_105 ?_
            refine lv_topi (fun v103 ev103 => ?_)
            have bv103 : v103.toInt = v101.toInt + u81.toInt := by rw [ev103]; exact add_k rfl rfl k102 k100 (by decide)
            have k104 : 0 ≤ v103.toInt ∧ v103.toInt ≤ 38555 := add_r bv103 k102 k100 (by decide)
            refine va_iald hx hb hK hP 6 0 rfl rfl (ix_k k104 (by decide) (by decide)) dX10_best_106 ?_
            refine lv_topi (fun v105 ev105 => ?_)
            have k106 : (-1) ≤ v105.toInt ∧ v105.toInt ≤ 7711 := by rw [ev105]; exact t38.at _ (Int.le_trans (by decide) k104.1) (Int.le_trans k104.2 (by decide))
            have h107 := best_nx (cv := u81) ⟨by omega, by omega⟩ ⟨by omega, by omega⟩ ⟨by omega, by omega⟩ t38 t39 t37 t89 ev95 (by omega) (by omega) i56 ev105 (by omega)
            have k108 : 0 ≤ v105.toInt ∧ v105.toInt ≤ 7711 := ⟨h107.1, k106.2⟩
            refine lv_istore_n (lv' := [(2, .int v105), (4, .int u81), (3, .int u51), (1, .int r17), (0, .ref h0)]) hx hb dX10_best_107 rfl hl (by decide) rfl (fun ls hl => ?_)
            obtain ⟨v109, ev109⟩ : ∃ z : Int32, z = u51 + 1 := ⟨_, rfl⟩
            have bv109 : v109.toInt = u51.toInt + 1 := by rw [ev109]; exact add_k rfl rfl k79 ⟨Int.le_refl _, Int.le_refl _⟩ (by decide)
            have k110 : 1 ≤ v109.toInt ∧ v109.toInt ≤ 40 := add_r bv109 k79 ⟨Int.le_refl _, Int.le_refl _⟩ (by decide)
            refine lv_iinc (v := v109) (lv' := [(3, .int v109), (2, .int v105), (4, .int u81), (1, .int r17), (0, .ref h0)]) hx hb dX10_best_108 hl (k := 2) rfl (by rw [ev109]; rfl) (by decide) rfl (fun ls hl => ?_)
            refine lv_goto (tgt := 39) hx hb dX10_best_111 (by decide) ?_
            exact ih (v109, v105, w53) ⟨(ir_wk k110 (by decide) (by decide)), k108, (show (g26 (7712 * v109.toInt + v105.toInt).toNat).toInt < 100000000 from (by rw [show (7712 * v109.toInt + v105.toInt).toNat = (7712 * (u51.toInt + 1) + v105.toInt).toNat by omega]; exact h107.2))⟩ (by show (40 - v109.toInt).toNat < (40 - u51.toInt).toNat; omega) _ _ _ (hP.sub [0, 1, 4, 2, 3, 5, 6, 7] rfl) (hD.sub [0, 1, 4, 2, 3, 5, 6, 7] (by decide) rfl) hS (lv_sub hl [0, 1, 3, 4] rfl)
          · have dc99 : 0 < u81.toInt := nle_i (a := u81.toInt) (b := 0) rfl rfl c99
            have k111 : 1 ≤ u81.toInt ∧ u81.toInt ≤ 4 := ⟨lo_lt dc99 (Int.le_refl _) (by decide), i82.2⟩
            refine lv_aload_n hx hb dX10_best_86 rfl (lv_at hl 4 rfl) ?_
            have n112 : F1 43 = .ref h_bestYard := (get_ne eF1 (by decide) e_bestYard)
            have n113 : F18 43 = .ref h_bestYard := (SAME.at t29 (by decide) n112)
            refine get_f (D := D) (ci := 10) (v := .ref h_bestYard) (C := RX10) (T := TX10) (N := 67) hx hb hw inAX10 hown hK hP 4 rfl rfl 43 (by decide) (hw _ q_1304) (fun _ h9 => h9) n113 dX10_best_87 ?_
            refine lv_iload hx hb dX10_best_90 (lv_at hl 0 rfl) ?_
            refine lv_iconst (v := 1) hx hb dX10_best_92 (by decide) ?_
            refine lv_isub hx hb dX10_best_93 ?_
            refine lv_topi (fun v114 ev114 => ?_)
            have bv114 : v114.toInt = u81.toInt - 1 := by rw [ev114]; exact sub_k rfl rfl k111 ⟨Int.le_refl _, Int.le_refl _⟩ (by decide)
            have k115 : 0 ≤ v114.toInt ∧ v114.toInt ≤ 3 := sub_r bv114 k111 ⟨Int.le_refl _, Int.le_refl _⟩ (by decide)
            refine lv_iload_n hx hb dX10_best_94 rfl (lv_at hl 1 rfl) ?_
            obtain ⟨g116, eg116⟩ : ∃ z : Nat → Int32, upd w53 v114.toNatClampNeg u51 = z := ⟨_, rfl⟩
            refine iast_g hx hb hK hP hD hS 0 0 rfl rfl (ix_k k115 (by decide) (by decide)) eg116 dX10_best_95 (fun H locs hP hD hS => ?_)
            have hP : va_P D vwCl [(h_bestYard, .inl (cI, 4, .inl g116)), (h_bestCrew, .inl (cI, 4, .inl f_bestCrew)), (h_s, .inl (cI, 335, .inl f_s)), (h_behindAt, .inl (cI, 12, .inl g25)), (h0, .inr (10, vL 67 F18)), (h_times, .inl (cI, 316192, .inl g26)), (h_stateBy, .inl (cI, 38560, .inl g27)), (h_timeOf, .inl (cI, 38560, .inl g28))] H := hP
            have hD : va_D A [(h_bestYard, .inl (cI, 4, .inl g116)), (h_bestCrew, .inl (cI, 4, .inl f_bestCrew)), (h_s, .inl (cI, 335, .inl f_s)), (h_behindAt, .inl (cI, 12, .inl g25)), (h0, .inr (10, vL 67 F18)), (h_times, .inl (cI, 316192, .inl g26)), (h_stateBy, .inl (cI, 38560, .inl g27)), (h_timeOf, .inl (cI, 38560, .inl g28))] := hD
            refine lv_aload_n hx hb dX10_best_96 rfl (lv_at hl 4 rfl) ?_
            refine get_f (D := D) (ci := 10) (v := .ref h_stateBy) (C := RX10) (T := TX10) (N := 67) hx hb hw inAX10 hown hK hP 4 rfl rfl 49 (by decide) (hw _ q_1310) (fun _ h9 => h9) n85 dX10_best_97 ?_
            refine lv_iconst (v := 5) hx hb dX10_best_100 (by decide) ?_
            refine lv_iload_n hx hb dX10_best_101 rfl (lv_at hl 2 rfl) ?_
            refine lv_imul hx hb dX10_best_102 ?_
            refine lv_topi (fun v117 ev117 => ?_)
            have bv117 : v117.toInt = 5 * u52.toInt := by rw [ev117]; exact kmul_k rfl rfl (by decide) i55 (by decide)
            have k118 : 0 ≤ v117.toInt ∧ v117.toInt ≤ 38555 := kmul_r bv117 (by decide) i55 (by decide)
            refine lv_iload hx hb dX10_best_103 (lv_at hl 0 rfl) ?_
            refine lv_iadd hx hb dX10_best_105 ?_
            refine lv_topi (fun v119 ev119 => ?_)
            have bv119 : v119.toInt = v117.toInt + u81.toInt := by rw [ev119]; exact add_k rfl rfl k118 k111 (by decide)
            have k120 : 1 ≤ v119.toInt ∧ v119.toInt ≤ 38559 := add_r bv119 k118 k111 (by decide)
            refine va_iald hx hb hK hP 6 0 rfl rfl (ix_k k120 (by decide) (by decide)) dX10_best_106 ?_
            refine lv_topi (fun v121 ev121 => ?_)
            have k122 : (-1) ≤ v121.toInt ∧ v121.toInt ≤ 7711 := by rw [ev121]; exact t38.at _ (Int.le_trans (by decide) k120.1) (Int.le_trans k120.2 (by decide))
            have h123 := best_nx (cv := u81) ⟨by omega, by omega⟩ ⟨by omega, by omega⟩ ⟨by omega, by omega⟩ t38 t39 t37 t89 ev95 (by omega) (by omega) i56 ev121 (by omega)
            have k124 : 0 ≤ v121.toInt ∧ v121.toInt ≤ 7711 := ⟨h123.1, k122.2⟩
            refine lv_istore_n (lv' := [(2, .int v121), (4, .int u81), (3, .int u51), (1, .int r17), (0, .ref h0)]) hx hb dX10_best_107 rfl hl (by decide) rfl (fun ls hl => ?_)
            obtain ⟨v125, ev125⟩ : ∃ z : Int32, z = u51 + 1 := ⟨_, rfl⟩
            have bv125 : v125.toInt = u51.toInt + 1 := by rw [ev125]; exact add_k rfl rfl k79 ⟨Int.le_refl _, Int.le_refl _⟩ (by decide)
            have k126 : 1 ≤ v125.toInt ∧ v125.toInt ≤ 40 := add_r bv125 k79 ⟨Int.le_refl _, Int.le_refl _⟩ (by decide)
            refine lv_iinc (v := v125) (lv' := [(3, .int v125), (2, .int v121), (4, .int u81), (1, .int r17), (0, .ref h0)]) hx hb dX10_best_108 hl (k := 2) rfl (by rw [ev125]; rfl) (by decide) rfl (fun ls hl => ?_)
            refine lv_goto (tgt := 39) hx hb dX10_best_111 (by decide) ?_
            exact ih (v125, v121, g116) ⟨(ir_wk k126 (by decide) (by decide)), k124, (show (g26 (7712 * v125.toInt + v121.toInt).toNat).toInt < 100000000 from (by rw [show (7712 * v125.toInt + v121.toInt).toNat = (7712 * (u51.toInt + 1) + v121.toInt).toNat by omega]; exact h123.2))⟩ (by show (40 - v125.toInt).toNat < (40 - u51.toInt).toNat; omega) _ _ _ (hP.sub [0, 1, 4, 2, 3, 5, 6, 7] rfl) (hD.sub [0, 1, 4, 2, 3, 5, 6, 7] (by decide) rfl) hS (lv_sub hl [0, 1, 3, 4] rfl)
        · have dc97 : r87.toInt ≠ v95.toInt := ne_i (a := r87.toInt) (b := v95.toInt) rfl rfl c97
          have h127 := EXC.step i83 t89 rfl ev95 (by omega) (by omega) (rfl : u81.toInt + 1 = u81.toInt + 1)
          have dh127 := EXC.le h127
          obtain ⟨v128, ev128⟩ : ∃ z : Int32, z = u81 + 1 := ⟨_, rfl⟩
          have bv128 : v128.toInt = u81.toInt + 1 := by rw [ev128]; exact add_k rfl rfl i82 ⟨Int.le_refl _, Int.le_refl _⟩ (by decide)
          have k129 : 1 ≤ v128.toInt ∧ v128.toInt ≤ 5 := add_r bv128 i82 ⟨Int.le_refl _, Int.le_refl _⟩ (by decide)
          refine lv_iinc (v := v128) (lv' := [(4, .int v128), (3, .int u51), (2, .int u52), (1, .int r17), (0, .ref h0)]) hx hb dX10_best_75 hl (k := 0) rfl (by rw [ev128]; rfl) (by decide) rfl (fun ls hl => ?_)
          refine lv_goto (tgt := 52) hx hb dX10_best_78 (by decide) ?_
          exact ih_52 (v128) ⟨(show 0 ≤ v128.toInt ∧ v128.toInt ≤ 4 from ⟨by omega, by omega⟩), (show EXC g26 g27 g28 u51 u52 (v128.toInt) from (by rw [show v128.toInt = u81.toInt + 1 by omega]; exact h127))⟩ (by show (4 - v128.toInt).toNat < (4 - u81.toInt).toNat; omega) _ _ _ (hP.sub [0, 1, 4, 2, 3, 5, 6, 7] rfl) (hD.sub [0, 1, 4, 2, 3, 5, 6, 7] (by decide) rfl) hS (lv_sub hl [0, 1, 2, 3, 4] rfl)
    · have dc44 : 100000000 ≤ r17.toInt := nlt_i (a := r17.toInt) (b := 100000000) rfl rfl c44
      have k130 : 100000000 ≤ r17.toInt ∧ r17.toInt ≤ 100000000 := ⟨Int.le_trans (Int.le_refl _) dc44, t40.2⟩
      refine lv_iconst (v := (-1)) hx hb dX10_best_26 (by decide) ?_
      exact ret_i (v := (-1)) hx hb hr hlocks hS (hP.sub (ws' := [(h0, .inr (10, vL 67 F18)), (h_s, .inl (cI, 335, .inl f_s)), (h_behindAt, .inl (cI, 12, .inl g25)), (h_times, .inl (cI, 316192, .inl g26)), (h_bestYard, .inl (cI, 4, .inl f_bestYard)), (h_bestCrew, .inl (cI, 4, .inl f_bestCrew)), (h_stateBy, .inl (cI, 38560, .inl g27)), (h_timeOf, .inl (cI, 38560, .inl g28))]) [2, 3, 4, 5, 0, 1, 6, 7] rfl) (hD.sub (ws' := [(h0, .inr (10, vL 67 F18)), (h_s, .inl (cI, 335, .inl f_s)), (h_behindAt, .inl (cI, 12, .inl g25)), (h_times, .inl (cI, 316192, .inl g26)), (h_bestYard, .inl (cI, 4, .inl f_bestYard)), (h_bestCrew, .inl (cI, 4, .inl f_bestCrew)), (h_stateBy, .inl (cI, 38560, .inl g27)), (h_timeOf, .inl (cI, 38560, .inl g28))]) [2, 3, 4, 5, 0, 1, 6, 7] (by decide) rfl) dX10_best_27 rfl (Nat.le_of_ble_eq_true rfl) (Nat.le_of_ble_eq_true rfl) ⟨F18, y19, y20, y21, x_bestId, y22, y23, y24, x_hasBest, g25, g26, f_bestYard, f_bestCrew, g27, g28, (SAME.tr (SAME.up eF1 SAME.rf (by decide)) t29 (by decide)), (SAME.at t29 (by decide) (get_eq eF1)), t30, t31, t32, t33, (SAME.at t29 (by decide) (get_ne eF1 (by decide) e_bestId)), t34, t35, t36, (SAME.at t29 (by decide) (get_ne eF1 (by decide) e_hasBest)), i_x_hasBest, t37, t38, t39, (show (-1) ≤ ((-1) : Int32).toInt ∧ ((-1) : Int32).toInt ≤ 99999999 by decide), rfl⟩
set_option maxHeartbeats 4000000 in
set_option maxRecDepth 100000 in
theorem m_X10_when (l : Launch) (D : va_G) (cI cJ cB cP cM cZ : ClassId) (h0 : Nat) (h_bestYard : Nat) (Fh : Nat → Value) (x_hasBest : Int32) (f_bestYard : Nat → Int32) (p0 : Int32) (sz : Nat) (e_bestYard : Fh 43 = .ref h_bestYard) (e_hasBest : Fh 51 = .int x_hasBest) (i_x_hasBest : IR 0 1 x_hasBest) : CI l yX10_when cX10_when 2 (some .int) { frames := 1, cells := 0, slots := 0, locals := 22 } (GG D cI cJ cB cP cM cZ) D [(h0, .inr (10, vL 67 Fh)), (h_bestYard, .inl (cI, 4, .inl f_bestYard))] sz [.ref h0, .int p0] (fun (r : Int32) (u : va_W) => ∃ (Gh : Nat → Value), SAME [0] Fh Gh ∧ Gh 0 = .int 0 ∧ u = [(h0, .inr (10, vL 67 Gh)), (h_bestYard, .inl (cI, 4, .inl f_bestYard))]) := by
  refine CI_mk (by decide) (Nat.le_of_ble_eq_true rfl) ?_
  intro p e s m below meth c A ls E hAe hG hsz hP hD hA hS hl
  obtain ⟨hx, hb, hr, hw, hown, hlocks, hml, hnm⟩ := E
  have hK := hG.1
  have i_x_hasBest : 0 ≤ x_hasBest.toInt ∧ x_hasBest.toInt ≤ 1 := i_x_hasBest
  have hl : lv_has ls 2 [(0, .ref h0), (1, .int p0)] := hl
  refine lv_aload_n hx hb dX10_when_0 rfl (lv_at hl 0 rfl) ?_
  refine lv_iconst (v := 0) hx hb dX10_when_1 (by decide) ?_
  refine put_f (D := D) (ci := 10) (v := .int 0) (ty := .int) (C := RX10) (T := TX10) (N := 67) hx hb hw inAX10 tyX10 tyX10_ok nmX10 hown hK hP hD hS 0 rfl rfl 0 (by decide) (hw _ q_1261) (fun _ h9 => h9) rfl (by decide +kernel) rfl rfl dX10_when_2 (fun H locs F1 eF1 hP hD hS => ?_)
  have hP : va_P D vwCl [(h0, .inr (10, vL 67 F1)), (h_bestYard, .inl (cI, 4, .inl f_bestYard))] H := hP
  have hD : va_D A [(h0, .inr (10, vL 67 F1)), (h_bestYard, .inl (cI, 4, .inl f_bestYard))] := hD
  refine lv_aload_n hx hb dX10_when_5 rfl (lv_at hl 0 rfl) ?_
  have n2 : F1 51 = .int x_hasBest := (get_ne eF1 (by decide) e_hasBest)
  refine get_f (D := D) (ci := 10) (v := .int x_hasBest) (C := RX10) (T := TX10) (N := 67) hx hb hw inAX10 hown hK hP 0 rfl rfl 51 (by decide) (hw _ q_1312) (fun _ h9 => h9) n2 dX10_when_6 ?_
  refine lv_if_eq (tgt := 30) hx hb dX10_when_9 (by decide) (fun c3 => ?_) (fun c3 => ?_)
  · have dc3 : x_hasBest.toInt = 0 := eq_i (a := x_hasBest.toInt) (b := 0) rfl rfl c3
    have k4 : 0 ≤ x_hasBest.toInt ∧ x_hasBest.toInt ≤ 0 := ⟨i_x_hasBest.1, Int.le_trans (Int.le_of_eq dc3) (Int.le_refl _)⟩
    refine lv_iconst (v := (-1)) hx hb dX10_when_30 (by decide) ?_
    exact ret_i (v := (-1)) hx hb hr hlocks hS hP hD dX10_when_31 rfl (Nat.le_of_ble_eq_true rfl) (Nat.le_of_ble_eq_true rfl) ⟨F1, (SAME.up eF1 SAME.rf (by decide)), (get_eq eF1), rfl⟩
  · have dc3 : x_hasBest.toInt ≠ 0 := ne_i (a := x_hasBest.toInt) (b := 0) rfl rfl c3
    have k5 : 1 ≤ x_hasBest.toInt ∧ x_hasBest.toInt ≤ 1 := ⟨ne_lo dc3 i_x_hasBest.1 ⟨Int.le_refl _, Int.le_refl _⟩ (by decide), i_x_hasBest.2⟩
    refine lv_iload_n hx hb dX10_when_12 rfl (lv_at hl 1 rfl) ?_
    refine lv_iconst (v := 0) hx hb dX10_when_13 (by decide) ?_
    refine lv_iconst (v := 3) hx hb dX10_when_14 (by decide) ?_
    refine call_Si (wr := [(h0, .inr (10, vL 67 F1)), (h_bestYard, .inl (cI, 4, .inl f_bestYard))]) (As := [.int p0, .int 0, .int 3]) (rest := []) hx hb hml hown hw (m_X10_isIn l D cI cJ cB cP cM cZ p0 0 3 _ ) wS_X10_211_X10_isIn dX10_when_15 hP hD hS hA [] [0, 1] rfl rfl (by decide) (by decide) (by decide) GG.fb hG.at hl.1 rfl (Nat.le_of_ble_eq_true rfl) ⟨(Nat.le_of_ble_eq_true rfl), (Nat.le_of_ble_eq_true rfl)⟩ ⟨(Nat.le_of_ble_eq_true rfl), (Nat.le_of_ble_eq_true rfl)⟩ (fun r6 u H locs hp hP hD hS => ?_)
    have zl0 : (0 : Int32).toInt = 0 := by decide
    have zl3 : (3 : Int32).toInt = 3 := by decide
    rcases hp with ⟨t7, rfl, rfl⟩ | ⟨t8, t9, rfl, rfl⟩ | ⟨t10, t11, rfl, rfl⟩
    · have hP : va_P D vwCl [(h0, .inr (10, vL 67 F1)), (h_bestYard, .inl (cI, 4, .inl f_bestYard))] H := hP
      have hD : va_D A [(h0, .inr (10, vL 67 F1)), (h_bestYard, .inl (cI, 4, .inl f_bestYard))] := hD
      refine W.widen (k := 0) (n := 0) (Nat.le_of_ble_eq_true rfl) (Nat.le_of_ble_eq_true rfl) ?_
      have k13 : (-2147483648) ≤ p0.toInt ∧ p0.toInt ≤ (-1) := ⟨(ir_any _).1, up_lt t7 (Int.le_refl _) (by decide)⟩
      refine lv_if_eq (tgt := 30) hx hb dX10_when_18 (by decide) (fun _ => ?_) (fun g => absurd (by decide) g)
      refine lv_iconst (v := (-1)) hx hb dX10_when_30 (by decide) ?_
      exact ret_i (v := (-1)) hx hb hr hlocks hS hP hD dX10_when_31 rfl (Nat.le_of_ble_eq_true rfl) (Nat.le_of_ble_eq_true rfl) ⟨F1, (SAME.up eF1 SAME.rf (by decide)), (get_eq eF1), rfl⟩
    · have hP : va_P D vwCl [(h0, .inr (10, vL 67 F1)), (h_bestYard, .inl (cI, 4, .inl f_bestYard))] H := hP
      have hD : va_D A [(h0, .inr (10, vL 67 F1)), (h_bestYard, .inl (cI, 4, .inl f_bestYard))] := hD
      refine W.widen (k := 0) (n := 0) (Nat.le_of_ble_eq_true rfl) (Nat.le_of_ble_eq_true rfl) ?_
      have k14 : 0 ≤ p0.toInt ∧ p0.toInt ≤ 2147483647 := ⟨Int.le_trans (Int.le_refl _) t8, (ir_any _).2⟩
      have k15 : 4 ≤ p0.toInt ∧ p0.toInt ≤ 2147483647 := ⟨lo_lt t9 (Int.le_refl _) (by decide), k14.2⟩
      refine lv_if_eq (tgt := 30) hx hb dX10_when_18 (by decide) (fun _ => ?_) (fun g => absurd (by decide) g)
      refine lv_iconst (v := (-1)) hx hb dX10_when_30 (by decide) ?_
      exact ret_i (v := (-1)) hx hb hr hlocks hS hP hD dX10_when_31 rfl (Nat.le_of_ble_eq_true rfl) (Nat.le_of_ble_eq_true rfl) ⟨F1, (SAME.up eF1 SAME.rf (by decide)), (get_eq eF1), rfl⟩
    · have hP : va_P D vwCl [(h0, .inr (10, vL 67 F1)), (h_bestYard, .inl (cI, 4, .inl f_bestYard))] H := hP
      have hD : va_D A [(h0, .inr (10, vL 67 F1)), (h_bestYard, .inl (cI, 4, .inl f_bestYard))] := hD
      refine W.widen (k := 0) (n := 0) (Nat.le_of_ble_eq_true rfl) (Nat.le_of_ble_eq_true rfl) ?_
      have k16 : 0 ≤ p0.toInt ∧ p0.toInt ≤ 2147483647 := ⟨Int.le_trans (Int.le_refl _) t10, (ir_any _).2⟩
      have k17 : 0 ≤ p0.toInt ∧ p0.toInt ≤ 3 := ⟨k16.1, Int.le_trans t11 (Int.le_refl _)⟩
      refine lv_if_eq (tgt := 30) hx hb dX10_when_18 (by decide) (fun g => absurd g (by decide)) (fun _ => ?_)
      refine lv_aload_n hx hb dX10_when_21 rfl (lv_at hl 0 rfl) ?_
      have n18 : F1 43 = .ref h_bestYard := (get_ne eF1 (by decide) e_bestYard)
      refine get_f (D := D) (ci := 10) (v := .ref h_bestYard) (C := RX10) (T := TX10) (N := 67) hx hb hw inAX10 hown hK hP 0 rfl rfl 43 (by decide) (hw _ q_1304) (fun _ h9 => h9) n18 dX10_when_22 ?_
      refine lv_iload_n hx hb dX10_when_25 rfl (lv_at hl 1 rfl) ?_
      refine va_iald hx hb hK hP 1 0 rfl rfl (ix_k k17 (by decide) (by decide)) dX10_when_26 ?_
      refine lv_topi (fun v19 ev19 => ?_)
      refine lv_goto (tgt := 31) hx hb dX10_when_27 (by decide) ?_
      exact ret_i (v := v19) hx hb hr hlocks hS hP hD dX10_when_31 rfl (Nat.le_of_ble_eq_true rfl) (Nat.le_of_ble_eq_true rfl) ⟨F1, (SAME.up eF1 SAME.rf (by decide)), (get_eq eF1), rfl⟩
def fn_X10_place (p0 : Int32) (p1 : Int32) (p2 : Int32) : Int32 := (((((p0 * (10 : Int32)) + p1) * (241 : Int32)) + p2) - (10 : Int32))
set_option maxHeartbeats 4000000 in
set_option maxRecDepth 100000 in
theorem m_X10_place (l : Launch) (D : va_G) (cI cJ cB cP cM cZ : ClassId) (p0 : Int32) (p1 : Int32) (p2 : Int32) (sz : Nat) (i_p0 : IR 0 12 p0) (i_p1 : IR 0 9 p1) (i_p2 : IR 10 250 p2) : CI l yX10_place cX10_place 3 (some .int) { frames := 0, cells := 0, slots := 0, locals := 0 } (GG D cI cJ cB cP cM cZ) D [] sz [.int p0, .int p1, .int p2] (fun (r : Int32) (u : va_W) => IR 0 31329 r ∧ r = fn_X10_place p0 p1 p2 ∧ (r.toInt = (p0.toInt * 10 + p1.toInt) * 241 + p2.toInt - 10) ∧ u = []) := by
  refine CI_mk (by decide) (Nat.le_of_ble_eq_true rfl) ?_
  intro p e s m below meth c A ls E hAe hG hsz hP hD hA hS hl
  obtain ⟨hx, hb, hr, hw, hown, hlocks, hml, hnm⟩ := E
  have hK := hG.1
  have i_p0 : 0 ≤ p0.toInt ∧ p0.toInt ≤ 12 := i_p0
  have i_p1 : 0 ≤ p1.toInt ∧ p1.toInt ≤ 9 := i_p1
  have i_p2 : 10 ≤ p2.toInt ∧ p2.toInt ≤ 250 := i_p2
  have hl : lv_has ls 3 [(0, .int p0), (1, .int p1), (2, .int p2)] := hl
  refine lv_iload_n hx hb dX10_place_0 rfl (lv_at hl 0 rfl) ?_
  refine lv_bipush (v := 10) hx hb dX10_place_1 (by decide) ?_
  refine lv_imul hx hb dX10_place_3 ?_
  refine lv_topi (fun v1 ev1 => ?_)
  have bv1 : v1.toInt = p0.toInt * 10 := by rw [ev1]; exact mulk_k rfl rfl (by decide) i_p0 (by decide)
  have k2 : 0 ≤ v1.toInt ∧ v1.toInt ≤ 120 := mulk_r bv1 (by decide) i_p0 (by decide)
  refine lv_iload_n hx hb dX10_place_4 rfl (lv_at hl 1 rfl) ?_
  refine lv_iadd hx hb dX10_place_5 ?_
  refine lv_topi (fun v3 ev3 => ?_)
  have bv3 : v3.toInt = v1.toInt + p1.toInt := by rw [ev3]; exact add_k rfl rfl k2 i_p1 (by decide)
  have k4 : 0 ≤ v3.toInt ∧ v3.toInt ≤ 129 := add_r bv3 k2 i_p1 (by decide)
  refine lv_sipush (v := 241) hx hb dX10_place_6 (by decide) ?_
  refine lv_imul hx hb dX10_place_9 ?_
  refine lv_topi (fun v5 ev5 => ?_)
  have bv5 : v5.toInt = v3.toInt * 241 := by rw [ev5]; exact mulk_k rfl rfl (by decide) k4 (by decide)
  have k6 : 0 ≤ v5.toInt ∧ v5.toInt ≤ 31089 := mulk_r bv5 (by decide) k4 (by decide)
  refine lv_iload_n hx hb dX10_place_10 rfl (lv_at hl 2 rfl) ?_
  refine lv_iadd hx hb dX10_place_11 ?_
  refine lv_topi (fun v7 ev7 => ?_)
  have bv7 : v7.toInt = v5.toInt + p2.toInt := by rw [ev7]; exact add_k rfl rfl k6 i_p2 (by decide)
  have k8 : 10 ≤ v7.toInt ∧ v7.toInt ≤ 31339 := add_r bv7 k6 i_p2 (by decide)
  refine lv_bipush (v := 10) hx hb dX10_place_12 (by decide) ?_
  refine lv_isub hx hb dX10_place_14 ?_
  refine lv_topi (fun v9 ev9 => ?_)
  have bv9 : v9.toInt = v7.toInt - 10 := by rw [ev9]; exact sub_k rfl rfl k8 ⟨Int.le_refl _, Int.le_refl _⟩ (by decide)
  have k10 : 0 ≤ v9.toInt ∧ v9.toInt ≤ 31329 := sub_r bv9 k8 ⟨Int.le_refl _, Int.le_refl _⟩ (by decide)
  exact ret_i (v := v9) hx hb hr hlocks hS hP hD dX10_place_15 rfl (Nat.le_of_ble_eq_true rfl) (Nat.le_of_ble_eq_true rfl) ⟨k10, (by subst_vars; unfold fn_X10_place; rfl), (by omega), rfl⟩
def fn_X10_downBy (f_s : Nat → Int32) (f_downs : Nat → Int32) (p0 : Int32) (p1 : Int32) (p2 : Int32) (p3 : Int32) (p4 : Int32) : Int32 := (if (fn_X10_isOver f_s p0 (fn_X10_inBend f_s p0 p2 p3 p1 p4) p4) = (0 : Int32) then ((((f_s ((44 : Int32) + p0).toNatClampNeg) * (3000 : Int32)) / (fn_X10_inBend f_s p0 p2 p3 p1 p4)) + (f_downs (fn_X10_place (p0 + (1 : Int32)) p4 (fn_X10_inBend f_s p0 p2 p3 p1 p4)).toNatClampNeg)) else (100000000 : Int32))
set_option maxHeartbeats 4000000 in
set_option maxRecDepth 100000 in
theorem m_X10_downBy (l : Launch) (D : va_G) (cI cJ cB cP cM cZ : ClassId) (h0 : Nat) (h_s : Nat) (h_downs : Nat) (Fh : Nat → Value) (f_s : Nat → Int32) (f_downs : Nat → Int32) (p0 : Int32) (p1 : Int32) (p2 : Int32) (p3 : Int32) (p4 : Int32) (bs : Nat → Int32) (sz : Nat) (e_s : Fh 6 = .ref h_s) (e_downs : Fh 53 = .ref h_downs) (s_s_K0 : KW 0 f_s) (s_s_US : US bs f_s) (s_s_0 : SG 0 0 0 40 f_s) (s_s_105 : SG 105 108 0 11 f_s) (s_s_114 : SG 114 114 0 5 f_s) (s_s_130 : SG 130 133 0 11 f_s) (s_s_139 : SG 139 139 0 5 f_s) (s_s_153 : SG 153 153 0 44 f_s) (s_s_44 : SG 44 55 0 9 f_s) (s_s_5 : SG 5 5 0 12 f_s) (s_s_6 : SG 6 6 0 12 f_s) (s_s_7 : SG 7 7 0 6 f_s) (s_downs_0 : SG 0 31329 0 100000000 f_downs) (i_p0 : IR 0 11 p0) (i_p1 : IR 0 9 p1) (i_p2 : IR 10 250 p2) (i_p4 : IR 0 9 p4) : CI l yX10_downBy cX10_downBy 7 (some .int) { frames := 3, cells := 0, slots := 0, locals := 68 } (GG D cI cJ cB cP cM cZ) D [(h0, .inr (10, vL 67 Fh)), (h_s, .inl (cI, 335, .inl f_s)), (h_downs, .inl (cI, 31330, .inl f_downs))] sz [.ref h0, .int p0, .int p1, .int p2, .int p3, .int p4] (fun (r : Int32) (u : va_W) => IR 0 100002700 r ∧ r = fn_X10_downBy f_s f_downs p0 p1 p2 p3 p4 ∧ u = [(h0, .inr (10, vL 67 Fh)), (h_s, .inl (cI, 335, .inl f_s)), (h_downs, .inl (cI, 31330, .inl f_downs))]) := by
  refine CI_mk (by decide) (Nat.le_of_ble_eq_true rfl) ?_
  intro p e s m below meth c A ls E hAe hG hsz hP hD hA hS hl
  obtain ⟨hx, hb, hr, hw, hown, hlocks, hml, hnm⟩ := E
  have hK := hG.1
  have i_p0 : 0 ≤ p0.toInt ∧ p0.toInt ≤ 11 := i_p0
  have i_p1 : 0 ≤ p1.toInt ∧ p1.toInt ≤ 9 := i_p1
  have i_p2 : 10 ≤ p2.toInt ∧ p2.toInt ≤ 250 := i_p2
  have i_p4 : 0 ≤ p4.toInt ∧ p4.toInt ≤ 9 := i_p4
  have hl : lv_has ls 7 [(0, .ref h0), (1, .int p0), (2, .int p1), (3, .int p2), (4, .int p3), (5, .int p4)] := hl
  refine lv_aload_n hx hb dX10_downBy_0 rfl (lv_at hl 0 rfl) ?_
  refine lv_iload_n hx hb dX10_downBy_1 rfl (lv_at hl 1 rfl) ?_
  refine lv_iload_n hx hb dX10_downBy_2 rfl (lv_at hl 3 rfl) ?_
  refine lv_iload hx hb dX10_downBy_3 (lv_at hl 4 rfl) ?_
  refine lv_iload_n hx hb dX10_downBy_5 rfl (lv_at hl 2 rfl) ?_
  refine lv_iload hx hb dX10_downBy_6 (lv_at hl 5 rfl) ?_
  refine call_Vi (wr := [(h_downs, .inl (cI, 31330, .inl f_downs))]) (As := [.int p0, .int p2, .int p3, .int p1, .int p4]) (rest := []) hx hb hml hown hw (m_X10_inBend l D cI cJ cB cP cM cZ h0 h_s Fh f_s p0 p2 p3 p1 p4 bs _ e_s s_s_K0 s_s_US s_s_0 s_s_105 s_s_114 s_s_130 s_s_139 s_s_153 s_s_44 s_s_5 s_s_6 s_s_7 i_p0) wV_X10_355_X10_inBend dX10_downBy_8 hK hP hD hS hA [0, 1] [2] rfl rfl (by decide) (by decide) (by decide) 0 10 rfl rfl GG.fb hG.at hl.1 rfl (Nat.le_of_ble_eq_true rfl) ⟨(Nat.le_of_ble_eq_true rfl), (Nat.le_of_ble_eq_true rfl)⟩ ⟨(Nat.le_of_ble_eq_true rfl), (Nat.le_of_ble_eq_true rfl)⟩ (fun r1 u H locs hp hP hD hS => ?_)
  obtain ⟨t2, t3, rfl⟩ := hp
  have hP : va_P D vwCl [(h_downs, .inl (cI, 31330, .inl f_downs)), (h0, .inr (10, vL 67 Fh)), (h_s, .inl (cI, 335, .inl f_s))] H := hP
  have hD : va_D A [(h_downs, .inl (cI, 31330, .inl f_downs)), (h0, .inr (10, vL 67 Fh)), (h_s, .inl (cI, 335, .inl f_s))] := hD
  refine W.widen (k := 0) (n := 0) (Nat.le_of_ble_eq_true rfl) (Nat.le_of_ble_eq_true rfl) ?_
  refine lv_istore (lv' := [(6, .int r1), (0, .ref h0), (1, .int p0), (2, .int p1), (3, .int p2), (4, .int p3), (5, .int p4)]) hx hb dX10_downBy_11 hl (by decide) rfl (fun ls hl => ?_)
  refine lv_aload_n hx hb dX10_downBy_13 rfl (lv_at hl 1 rfl) ?_
  refine lv_iload_n hx hb dX10_downBy_14 rfl (lv_at hl 2 rfl) ?_
  refine lv_iload hx hb dX10_downBy_15 (lv_at hl 0 rfl) ?_
  refine lv_iload hx hb dX10_downBy_17 (lv_at hl 6 rfl) ?_
  refine call_Vi (wr := [(h_downs, .inl (cI, 31330, .inl f_downs))]) (As := [.int p0, .int r1, .int p4]) (rest := []) hx hb hml hown hw (m_X10_isOver l D cI cJ cB cP cM cZ h0 h_s Fh f_s p0 r1 p4 bs _ e_s s_s_K0 s_s_US s_s_0 s_s_105 s_s_114 s_s_130 s_s_139 s_s_153 s_s_44 s_s_5 s_s_6 s_s_7 i_p0) wV_X10_359_X10_isOver dX10_downBy_19 hK hP hD hS hA [1, 2] [0] rfl rfl (by decide) (by decide) (by decide) 0 10 rfl rfl GG.fb hG.at hl.1 rfl (Nat.le_of_ble_eq_true rfl) ⟨(Nat.le_of_ble_eq_true rfl), (Nat.le_of_ble_eq_true rfl)⟩ ⟨(Nat.le_of_ble_eq_true rfl), (Nat.le_of_ble_eq_true rfl)⟩ (fun r5 u H locs hp hP hD hS => ?_)
  obtain ⟨t6, t7, rfl⟩ := hp
  have hP : va_P D vwCl [(h_downs, .inl (cI, 31330, .inl f_downs)), (h0, .inr (10, vL 67 Fh)), (h_s, .inl (cI, 335, .inl f_s))] H := hP
  have hD : va_D A [(h_downs, .inl (cI, 31330, .inl f_downs)), (h0, .inr (10, vL 67 Fh)), (h_s, .inl (cI, 335, .inl f_s))] := hD
  refine W.widen (k := 0) (n := 0) (Nat.le_of_ble_eq_true rfl) (Nat.le_of_ble_eq_true rfl) ?_
  refine lv_if_eq (tgt := 31) hx hb dX10_downBy_22 (by decide) (fun c9 => ?_) (fun c9 => ?_)
  · have dc9 : r5.toInt = 0 := eq_i (a := r5.toInt) (b := 0) rfl rfl c9
    have k10 : 0 ≤ r5.toInt ∧ r5.toInt ≤ 0 := ⟨t6.1, Int.le_trans (Int.le_of_eq dc9) (Int.le_refl _)⟩
    refine lv_aload_n hx hb dX10_downBy_31 rfl (lv_at hl 1 rfl) ?_
    refine get_f (D := D) (ci := 10) (v := .ref h_s) (C := RX10) (T := TX10) (N := 67) hx hb hw inAX10 hown hK hP 1 rfl rfl 6 (by decide) (hw _ q_1267) (fun _ h9 => h9) e_s dX10_downBy_32 ?_
    refine lv_bipush (v := 44) hx hb dX10_downBy_35 (by decide) ?_
    refine lv_iload_n hx hb dX10_downBy_37 rfl (lv_at hl 2 rfl) ?_
    refine lv_iadd hx hb dX10_downBy_38 ?_
    refine lv_topi (fun v11 ev11 => ?_)
    have bv11 : v11.toInt = 44 + p0.toInt := by rw [ev11]; exact add_k rfl rfl ⟨Int.le_refl _, Int.le_refl _⟩ i_p0 (by decide)
    have k12 : 44 ≤ v11.toInt ∧ v11.toInt ≤ 55 := add_r bv11 ⟨Int.le_refl _, Int.le_refl _⟩ i_p0 (by decide)
    refine va_iald hx hb hK hP 2 0 rfl rfl (ix_k k12 (by decide) (by decide)) dX10_downBy_39 ?_
    refine lv_topi (fun v13 ev13 => ?_)
    have k14 : 0 ≤ v13.toInt ∧ v13.toInt ≤ 9 := by rw [ev13]; exact s_s_44.at _ (Int.le_trans (by decide) k12.1) (Int.le_trans k12.2 (by decide))
    refine lv_sipush (v := 3000) hx hb dX10_downBy_40 (by decide) ?_
    refine lv_imul hx hb dX10_downBy_43 ?_
    refine lv_topi (fun v15 ev15 => ?_)
    have bv15 : v15.toInt = v13.toInt * 3000 := by rw [ev15]; exact mulk_k rfl rfl (by decide) k14 (by decide)
    have k16 : 0 ≤ v15.toInt ∧ v15.toInt ≤ 27000 := mulk_r bv15 (by decide) k14 (by decide)
    refine lv_iload hx hb dX10_downBy_44 (lv_at hl 0 rfl) ?_
    refine lv_idiv hx hb dX10_downBy_46 (nz_k t2 (by decide)) ?_
    refine lv_topi (fun v17 ev17 => ?_)
    have k18 : 0 ≤ v17.toInt ∧ v17.toInt ≤ 2700 := by rw [ev17]; exact divv_k (Int.le_trans (by decide) k16.1) k16.2 t2.1 (by decide)
    refine lv_aload_n hx hb dX10_downBy_47 rfl (lv_at hl 1 rfl) ?_
    refine get_f (D := D) (ci := 10) (v := .ref h_downs) (C := RX10) (T := TX10) (N := 67) hx hb hw inAX10 hown hK hP 1 rfl rfl 53 (by decide) (hw _ q_1314) (fun _ h9 => h9) e_downs dX10_downBy_48 ?_
    refine lv_iload_n hx hb dX10_downBy_51 rfl (lv_at hl 2 rfl) ?_
    refine lv_iconst (v := 1) hx hb dX10_downBy_52 (by decide) ?_
    refine lv_iadd hx hb dX10_downBy_53 ?_
    refine lv_topi (fun v19 ev19 => ?_)
    have bv19 : v19.toInt = p0.toInt + 1 := by rw [ev19]; exact add_k rfl rfl i_p0 ⟨Int.le_refl _, Int.le_refl _⟩ (by decide)
    have k20 : 1 ≤ v19.toInt ∧ v19.toInt ≤ 12 := add_r bv19 i_p0 ⟨Int.le_refl _, Int.le_refl _⟩ (by decide)
    refine lv_iload hx hb dX10_downBy_54 (lv_at hl 6 rfl) ?_
    refine lv_iload hx hb dX10_downBy_56 (lv_at hl 0 rfl) ?_
    refine call_Si (wr := [(h_downs, .inl (cI, 31330, .inl f_downs)), (h0, .inr (10, vL 67 Fh)), (h_s, .inl (cI, 335, .inl f_s))]) (As := [.int v19, .int p4, .int r1]) (rest := [.ref h_downs, .int v17]) hx hb hml hown hw (m_X10_place l D cI cJ cB cP cM cZ v19 p4 r1 _ (ir_wk k20 (by decide) (by decide)) i_p4 t2) wS_X10_407_X10_place dX10_downBy_58 hP hD hS hA [] [0, 1, 2] rfl rfl (by decide) (by decide) (by decide) GG.fb hG.at hl.1 rfl (Nat.le_of_ble_eq_true rfl) ⟨(Nat.le_of_ble_eq_true rfl), (Nat.le_of_ble_eq_true rfl)⟩ ⟨(Nat.le_of_ble_eq_true rfl), (Nat.le_of_ble_eq_true rfl)⟩ (fun r21 u H locs hp hP hD hS => ?_)
    obtain ⟨t22, t23, t24, rfl⟩ := hp
    have hP : va_P D vwCl [(h_downs, .inl (cI, 31330, .inl f_downs)), (h0, .inr (10, vL 67 Fh)), (h_s, .inl (cI, 335, .inl f_s))] H := hP
    have hD : va_D A [(h_downs, .inl (cI, 31330, .inl f_downs)), (h0, .inr (10, vL 67 Fh)), (h_s, .inl (cI, 335, .inl f_s))] := hD
    refine W.widen (k := 0) (n := 0) (Nat.le_of_ble_eq_true rfl) (Nat.le_of_ble_eq_true rfl) ?_
    have k26 : 2410 ≤ r21.toInt ∧ r21.toInt ≤ 31329 := ⟨by omega, by omega⟩
    refine va_iald hx hb hK hP 0 0 rfl rfl (ix_k k26 (by decide) (by decide)) dX10_downBy_61 ?_
    refine lv_topi (fun v27 ev27 => ?_)
    have k28 : 0 ≤ v27.toInt ∧ v27.toInt ≤ 100000000 := by rw [ev27]; exact s_downs_0.at _ (Int.le_trans (by decide) k26.1) (Int.le_trans k26.2 (by decide))
    refine lv_iadd hx hb dX10_downBy_62 ?_
    refine lv_topi (fun v29 ev29 => ?_)
    have bv29 : v29.toInt = v17.toInt + v27.toInt := by rw [ev29]; exact add_k rfl rfl k18 k28 (by decide)
    have k30 : 0 ≤ v29.toInt ∧ v29.toInt ≤ 100002700 := add_r bv29 k18 k28 (by decide)
    exact ret_i (v := v29) hx hb hr hlocks hS (hP.sub (ws' := [(h0, .inr (10, vL 67 Fh)), (h_s, .inl (cI, 335, .inl f_s)), (h_downs, .inl (cI, 31330, .inl f_downs))]) [1, 2, 0] rfl) (hD.sub (ws' := [(h0, .inr (10, vL 67 Fh)), (h_s, .inl (cI, 335, .inl f_s)), (h_downs, .inl (cI, 31330, .inl f_downs))]) [1, 2, 0] (by decide) rfl) dX10_downBy_63 rfl (Nat.le_of_ble_eq_true rfl) (Nat.le_of_ble_eq_true rfl) ⟨k30, (by have qc9 := And.intro c9 True.intro; clear c9; subst_vars; unfold fn_X10_downBy; rw [if_pos qc9.1]), rfl⟩
  · have dc9 : r5.toInt ≠ 0 := ne_i (a := r5.toInt) (b := 0) rfl rfl c9
    have k31 : 1 ≤ r5.toInt ∧ r5.toInt ≤ 1 := ⟨ne_lo dc9 t6.1 ⟨Int.le_refl _, Int.le_refl _⟩ (by decide), t6.2⟩
    refine lv_ldcw hx hb hown (hw _ q_1701) dX10_downBy_25 ?_
    refine lv_goto (tgt := 63) hx hb dX10_downBy_28 (by decide) ?_
    exact ret_i (v := 100000000) hx hb hr hlocks hS (hP.sub (ws' := [(h0, .inr (10, vL 67 Fh)), (h_s, .inl (cI, 335, .inl f_s)), (h_downs, .inl (cI, 31330, .inl f_downs))]) [1, 2, 0] rfl) (hD.sub (ws' := [(h0, .inr (10, vL 67 Fh)), (h_s, .inl (cI, 335, .inl f_s)), (h_downs, .inl (cI, 31330, .inl f_downs))]) [1, 2, 0] (by decide) rfl) dX10_downBy_63 rfl (Nat.le_of_ble_eq_true rfl) (Nat.le_of_ble_eq_true rfl) ⟨(show 0 ≤ (100000000 : Int32).toInt ∧ (100000000 : Int32).toInt ≤ 100002700 by decide), (by subst_vars; unfold fn_X10_downBy; rw [if_neg c9]), rfl⟩
